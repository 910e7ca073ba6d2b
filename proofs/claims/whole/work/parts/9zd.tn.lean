/-! ===== the constructors ===== -/
def dl (v : Int) : Int → Int := fun i => if i = 0 then v else 0
theorem zK_fr {t : List (Nat × Int × Nat)} {d d' : List Nat} {G G' : Nat → Int → Option Nat} (h : zK t d G) (hd : ∀ x, x ∈ d → x ∈ d') (hG : ∀ x, x ∈ t → G' x.1 = G x.1) : zK t d' G' := fun x hx => by
  obtain ⟨a, b, c⟩ := h x hx
  exact ⟨by rw [hG x hx]; exact a, hd _ b, hd _ c⟩
theorem zK_ap {t u : List (Nat × Int × Nat)} {d : List Nat} {G : Nat → Int → Option Nat} (h : zK t d G) (h' : zK u d G) : zK (t ++ u) d G := fun x hx => by
  rcases List.mem_append.mp hx with q | q
  · exact h x q
  · exact h' x q
theorem zK_put {t : List (Nat × Int × Nat)} {d : List Nat} {G : Nat → Int → Option Nat} {i : Int} {a : Nat} (h : zK t d G) (hn : ∀ x, x ∈ t → ¬ (x.1 = 0 ∧ x.2.1 = i)) (h0 : 0 ∈ d) (ha : a ∈ d) : zK ((0, i, a) :: t) d (zuG G 0 i (some a)) := fun x hx => by
  rcases List.mem_cons.mp hx with q | q
  · rw [q]; exact ⟨zuG_same, h0, ha⟩
  · obtain ⟨a', b, c⟩ := h x q
    exact ⟨by rw [show zuG G 0 i (some a) x.1 x.2.1 = G x.1 x.2.1 from if_neg (hn x q)]; exact a', b, c⟩
section TN
variable {d : List Nat} {G : Nat → Int → Option Nat} {E : Nat → Int → Int}
theorem sgI : ∃ (G' : Nat → Int → Option Nat) (E' : Nat → Int → Int), zM zm_X8_init [zR 1] ((List.range 2), G, E) none ((List.range 5), G', E') ∧ zK [(1, 0, 2), (1, 1, 3), (1, 2, 4)] (List.range 5) G' ∧ (∀ y : Nat, y ∉ [1, 2, 3, 4] → G' y = G y) ∧ (∀ y : Nat, y ∉ [1, 2, 3, 4] → E' y = E y) ∧ E' 1 3 = 1 ∧ E' 2 = dl 1 ∧ E' 3 = dl 2 ∧ E' 4 = dl 1 := by
  refine ⟨(zuG (zclG (zuG (zclG (zuG (zclG G 2) 1 0 (some 2)) 3) 1 1 (some 3)) 4) 1 2 (some 4)), (zuE (zuE (zuE (zuE (zclE (zclE (zclE E 2) 3) 4) 1 3 1) 2 0 1) 3 0 2) 4 0 1), zM_of rfl (Nat.le_of_ble_eq_true rfl) ⟨Nat.le_of_ble_eq_true rfl, by show zsl (List.range 2) ≤ zsl (List.range 5); decide +kernel⟩ ?_, ?_, fun y hy => ?_, fun y hy => ?_, ?_, ?_, ?_, ?_⟩
  · refine X8_init_0 (by decide) ?_
    refine ⟨2, rfl, by decide, by decide, by decide, by unfold zst3; decide, Nat.le_of_ble_eq_true rfl, by show zsl _ + _ ≤ zsl (List.range 5); decide +kernel, fun _ _ _ e1 e2 e3 => ?_⟩
    subst e1; subst e2; subst e3
    intro _ e; subst e
    refine ⟨3, rfl, by decide, by decide, by decide, by unfold zst3; decide, Nat.le_of_ble_eq_true rfl, by show zsl _ + _ ≤ zsl (List.range 5); decide +kernel, fun _ _ _ e1 e2 e3 => ?_⟩
    subst e1; subst e2; subst e3
    intro _ e; subst e
    refine ⟨4, rfl, by decide, by decide, by decide, by unfold zst3; decide, Nat.le_of_ble_eq_true rfl, by show zsl _ + _ ≤ zsl (List.range 5); decide +kernel, fun _ _ _ e1 e2 e3 => ?_⟩
    subst e1; subst e2; subst e3
    intro _ e; subst e
    intro _ e; subst e
    refine ⟨2, 16, by simp [zuG, zclG], rfl, by decide, by decide, fun _ e => ?_⟩
    subst e
    refine ⟨3, 16, by simp [zuG, zclG], rfl, by decide, by decide, fun _ e => ?_⟩
    subst e
    refine ⟨4, 16, by simp [zuG, zclG], rfl, by decide, by decide, fun _ e => ?_⟩
    subst e
    exact ⟨rfl, rfl⟩
  · intro x hx
    simp only [List.mem_cons, List.not_mem_nil, or_false] at hx
    rcases hx with e | e | e <;> subst e <;> exact ⟨by simp [zuG, zclG], by decide, by decide⟩
  · simp only [List.mem_cons, List.not_mem_nil, or_false, not_or] at hy
    funext k
    simp [zuG, zclG, hy]
  · simp only [List.mem_cons, List.not_mem_nil, or_false, not_or] at hy
    funext k
    simp [zuE, zclE, hy]
  · simp [zuE, zclE]
  · funext k
    by_cases q : k = 0
    · subst q; simp [zuE, zclE, dl]
    · simp [zuE, zclE, dl, q]
  · funext k
    by_cases q : k = 0
    · subst q; simp [zuE, zclE, dl]
    · simp [zuE, zclE, dl, q]
  · funext k
    by_cases q : k = 0
    · subst q; simp [zuE, zclE, dl]
    · simp [zuE, zclE, dl, q]
theorem shI : ∃ (G' : Nat → Int → Option Nat) (E' : Nat → Int → Int), zM zm_X7_init [zR 5] ((List.range 6), G, E) none ((List.range 9), G', E') ∧ zK [(5, 0, 6), (5, 1, 7), (5, 2, 8)] (List.range 9) G' ∧ (∀ y : Nat, y ∉ [5, 6, 7, 8] → G' y = G y) ∧ (∀ y : Nat, y ∉ [5, 6, 7, 8] → E' y = E y) ∧ E' 5 4 = 0 ∧ G' 6 = fun _ => none := by
  refine ⟨(zuG (zclG (zuG (zclG (zuG (zclG G 6) 5 0 (some 6)) 7) 5 1 (some 7)) 8) 5 2 (some 8)), (zuE (zuE (zclE (zclE (zclE E 6) 7) 8) 5 3 0) 5 4 0), zM_of rfl (Nat.le_of_ble_eq_true rfl) ⟨Nat.le_of_ble_eq_true rfl, by show zsl (List.range 6) ≤ zsl (List.range 9); decide +kernel⟩ ?_, ?_, fun y hy => ?_, fun y hy => ?_, ?_, ?_⟩
  · refine X7_init_0 (by decide) ?_
    refine ⟨6, rfl, by decide, by decide, by decide, by unfold zst3; decide, Nat.le_of_ble_eq_true rfl, by show zsl _ + _ ≤ zsl (List.range 9); decide +kernel, fun _ _ _ e1 e2 e3 => ?_⟩
    subst e1; subst e2; subst e3
    intro _ e; subst e
    refine ⟨7, rfl, by decide, by decide, by decide, by unfold zst3; decide, Nat.le_of_ble_eq_true rfl, by show zsl _ + _ ≤ zsl (List.range 9); decide +kernel, fun _ _ _ e1 e2 e3 => ?_⟩
    subst e1; subst e2; subst e3
    intro _ e; subst e
    refine ⟨8, rfl, by decide, by decide, by decide, by unfold zst3; decide, Nat.le_of_ble_eq_true rfl, by show zsl _ + _ ≤ zsl (List.range 9); decide +kernel, fun _ _ _ e1 e2 e3 => ?_⟩
    subst e1; subst e2; subst e3
    intro _ e; subst e
    intro _ e; subst e
    intro _ e; subst e
    exact ⟨rfl, rfl⟩
  · intro x hx
    simp only [List.mem_cons, List.not_mem_nil, or_false] at hx
    rcases hx with e | e | e <;> subst e <;> exact ⟨by simp [zuG, zclG], by decide, by decide⟩
  · simp only [List.mem_cons, List.not_mem_nil, or_false, not_or] at hy
    funext k
    simp [zuG, zclG, hy]
  · simp only [List.mem_cons, List.not_mem_nil, or_false, not_or] at hy
    funext k
    simp [zuE, zclE, hy]
  · simp [zuE, zclE]
  · funext k
    simp [zuG, zclG]
theorem rw10I : ∃ (G' : Nat → Int → Option Nat) (E' : Nat → Int → Int), zM zm_X5_init [zR 10] ((List.range 11), G, E) none ((List.range 14), G', E') ∧ zK [(10, 0, 11), (10, 1, 12), (10, 2, 13)] (List.range 14) G' ∧ (∀ y : Nat, y ∉ [10, 11, 12, 13] → G' y = G y) ∧ (∀ y : Nat, y ∉ [10, 11, 12, 13] → E' y = E y) := by
  refine ⟨(zuG (zclG (zuG (zclG (zuG (zclG G 11) 10 0 (some 11)) 12) 10 1 (some 12)) 13) 10 2 (some 13)), (zuE (zuE (zclE (zclE (zclE E 11) 12) 13) 10 3 0) 10 4 0), zM_of rfl (Nat.le_of_ble_eq_true rfl) ⟨Nat.le_of_ble_eq_true rfl, by show zsl (List.range 11) ≤ zsl (List.range 14); decide +kernel⟩ ?_, ?_, fun y hy => ?_, fun y hy => ?_⟩
  · refine X5_init_0 rfl (by decide) ?_
    refine ⟨11, rfl, by decide, by decide, by decide, by unfold zst3; decide, Nat.le_of_ble_eq_true rfl, by show zsl _ + _ ≤ zsl (List.range 14); decide +kernel, fun _ _ _ e1 e2 e3 => ?_⟩
    subst e1; subst e2; subst e3
    intro _ e; subst e
    refine ⟨12, rfl, by decide, by decide, by decide, by unfold zst3; decide, Nat.le_of_ble_eq_true rfl, by show zsl _ + _ ≤ zsl (List.range 14); decide +kernel, fun _ _ _ e1 e2 e3 => ?_⟩
    subst e1; subst e2; subst e3
    intro _ e; subst e
    refine ⟨13, rfl, by decide, by decide, by decide, by unfold zst3; decide, Nat.le_of_ble_eq_true rfl, by show zsl _ + _ ≤ zsl (List.range 14); decide +kernel, fun _ _ _ e1 e2 e3 => ?_⟩
    subst e1; subst e2; subst e3
    intro _ e; subst e
    intro _ e; subst e
    intro _ e; subst e
    exact ⟨rfl, rfl⟩
  · intro x hx
    simp only [List.mem_cons, List.not_mem_nil, or_false] at hx
    rcases hx with e | e | e <;> subst e <;> exact ⟨by simp [zuG, zclG], by decide, by decide⟩
  · simp only [List.mem_cons, List.not_mem_nil, or_false, not_or] at hy
    funext k
    simp [zuG, zclG, hy]
  · simp only [List.mem_cons, List.not_mem_nil, or_false, not_or] at hy
    funext k
    simp [zuE, zclE, hy]
theorem rw14I : ∃ (G' : Nat → Int → Option Nat) (E' : Nat → Int → Int), zM zm_X5_init [zR 14] ((List.range 15), G, E) none ((List.range 18), G', E') ∧ zK [(14, 0, 15), (14, 1, 16), (14, 2, 17)] (List.range 18) G' ∧ (∀ y : Nat, y ∉ [14, 15, 16, 17] → G' y = G y) ∧ (∀ y : Nat, y ∉ [14, 15, 16, 17] → E' y = E y) := by
  refine ⟨(zuG (zclG (zuG (zclG (zuG (zclG G 15) 14 0 (some 15)) 16) 14 1 (some 16)) 17) 14 2 (some 17)), (zuE (zuE (zclE (zclE (zclE E 15) 16) 17) 14 3 0) 14 4 0), zM_of rfl (Nat.le_of_ble_eq_true rfl) ⟨Nat.le_of_ble_eq_true rfl, by show zsl (List.range 15) ≤ zsl (List.range 18); decide +kernel⟩ ?_, ?_, fun y hy => ?_, fun y hy => ?_⟩
  · refine X5_init_0 rfl (by decide) ?_
    refine ⟨15, rfl, by decide, by decide, by decide, by unfold zst3; decide, Nat.le_of_ble_eq_true rfl, by show zsl _ + _ ≤ zsl (List.range 18); decide +kernel, fun _ _ _ e1 e2 e3 => ?_⟩
    subst e1; subst e2; subst e3
    intro _ e; subst e
    refine ⟨16, rfl, by decide, by decide, by decide, by unfold zst3; decide, Nat.le_of_ble_eq_true rfl, by show zsl _ + _ ≤ zsl (List.range 18); decide +kernel, fun _ _ _ e1 e2 e3 => ?_⟩
    subst e1; subst e2; subst e3
    intro _ e; subst e
    refine ⟨17, rfl, by decide, by decide, by decide, by unfold zst3; decide, Nat.le_of_ble_eq_true rfl, by show zsl _ + _ ≤ zsl (List.range 18); decide +kernel, fun _ _ _ e1 e2 e3 => ?_⟩
    subst e1; subst e2; subst e3
    intro _ e; subst e
    intro _ e; subst e
    intro _ e; subst e
    exact ⟨rfl, rfl⟩
  · intro x hx
    simp only [List.mem_cons, List.not_mem_nil, or_false] at hx
    rcases hx with e | e | e <;> subst e <;> exact ⟨by simp [zuG, zclG], by decide, by decide⟩
  · simp only [List.mem_cons, List.not_mem_nil, or_false, not_or] at hy
    funext k
    simp [zuG, zclG, hy]
  · simp only [List.mem_cons, List.not_mem_nil, or_false, not_or] at hy
    funext k
    simp [zuE, zclE, hy]
theorem scI : ∃ (G' : Nat → Int → Option Nat) (E' : Nat → Int → Int), zM zm_X6_init [zR 18, zR 1] ((List.range 19), G, E) none ((List.range 20), G', E') ∧ zK [(18, 1, 19), (18, 0, 1)] (List.range 20) G' ∧ (∀ y : Nat, y ∉ [18, 19] → G' y = G y) ∧ (∀ y : Nat, y ∉ [18, 19] → E' y = E y) ∧ E' 19 = fun _ => 0 := by
  refine ⟨(zuG (zuG (zclG G 19) 18 1 (some 19)) 18 0 (some 1)), (zuE (zuE (zuE (zclE E 19) 18 2 0) 18 3 1) 18 4 1), zM_of rfl (Nat.le_of_ble_eq_true rfl) ⟨Nat.le_of_ble_eq_true rfl, by show zsl (List.range 19) ≤ zsl (List.range 20); decide +kernel⟩ ?_, ?_, fun y hy => ?_, fun y hy => ?_, ?_⟩
  · refine X6_init_0 (by decide) (by decide) ?_
    refine ⟨19, rfl, by decide, by decide, by decide, by unfold zst3; decide, Nat.le_of_ble_eq_true rfl, by show zsl _ + _ ≤ zsl (List.range 20); decide +kernel, fun _ _ _ e1 e2 e3 => ?_⟩
    subst e1; subst e2; subst e3
    intro _ e; subst e
    intro _ e; subst e
    intro _ e; subst e
    intro _ e; subst e
    intro _ e; subst e
    exact ⟨rfl, rfl⟩
  · intro x hx
    simp only [List.mem_cons, List.not_mem_nil, or_false] at hx
    rcases hx with e | e <;> subst e <;> exact ⟨by simp [zuG, zclG], by decide, by decide⟩
  · simp only [List.mem_cons, List.not_mem_nil, or_false, not_or] at hy
    funext k
    simp [zuG, zclG, hy]
  · simp only [List.mem_cons, List.not_mem_nil, or_false, not_or] at hy
    funext k
    simp [zuE, zclE, hy]
  · funext k
    simp [zuE, zclE]
theorem stnI : ∃ (G' : Nat → Int → Option Nat) (E' : Nat → Int → Int), zM zm_X9_init [zR 20, zR 1] ((List.range 21), G, E) none ((List.range 30), G', E') ∧ zK [(20, 1, 21), (20, 2, 22), (20, 3, 23), (20, 5, 24), (20, 6, 25), (20, 7, 26), (20, 8, 27), (20, 9, 28), (20, 13, 29), (20, 0, 1)] (List.range 30) G' ∧ (∀ y : Nat, y ∉ [20, 21, 22, 23, 24, 25, 26, 27, 28, 29] → G' y = G y) ∧ (∀ y : Nat, y ∉ [20, 21, 22, 23, 24, 25, 26, 27, 28, 29] → E' y = E y) ∧ E' 20 4 = 0 ∧ ∀ j : Int, 0 ≤ j → j < 40 → E' 22 j = -1 := by
  obtain ⟨F, mF, fF, vF⟩ := fill_ok (d := (List.range 30)) (G := (zuG (zuG (zclG (zuG (zclG (zuG (zclG (zuG (zclG (zuG (zclG (zuG (zclG (zuG (zclG (zuG (zclG (zuG (zclG G 21) 20 1 (some 21)) 22) 20 2 (some 22)) 23) 20 3 (some 23)) 24) 20 5 (some 24)) 25) 20 6 (some 25)) 26) 20 7 (some 26)) 27) 20 8 (some 27)) 28) 20 9 (some 28)) 29) 20 13 (some 29)) 20 0 (some 1))) (E := (zuE (zclE (zuE (zuE (zuE (zclE (zclE (zclE (zclE (zclE (zuE (zclE (zclE (zclE E 21) 22) 23) 20 4 0) 24) 25) 26) 27) 28) 20 10 0) 20 11 0) 20 12 0) 29) 20 14 0)) (a := 22) (n := 40) (v := -1) (by decide) rfl (by decide)
  have own : ∀ y : Nat, y ∉ [20, 21, 22, 23, 24, 25, 26, 27, 28, 29] → F y = E y := fun y hy => by
    have hy' := hy
    simp only [List.mem_cons, List.not_mem_nil, or_false, not_or] at hy
    rw [fF y (by simp; omega)]
    funext k
    simp [zuE, zclE, hy]
  have e4 : F 20 4 = 0 := by
    rw [fF 20 (by simp)]
    simp [zuE, zclE]
  refine ⟨(zuG (zuG (zclG (zuG (zclG (zuG (zclG (zuG (zclG (zuG (zclG (zuG (zclG (zuG (zclG (zuG (zclG (zuG (zclG G 21) 20 1 (some 21)) 22) 20 2 (some 22)) 23) 20 3 (some 23)) 24) 20 5 (some 24)) 25) 20 6 (some 25)) 26) 20 7 (some 26)) 27) 20 8 (some 27)) 28) 20 9 (some 28)) 29) 20 13 (some 29)) 20 0 (some 1)), F, zM_of rfl (Nat.le_of_ble_eq_true rfl) ⟨Nat.le_of_ble_eq_true rfl, by show zsl (List.range 21) ≤ zsl (List.range 30); decide +kernel⟩ ?_, ?_, fun y hy => ?_, own, e4, fun j j0 j1 => vF j j0 j1⟩
  · refine X9_init_0 (by decide) (by decide) ?_
    refine ⟨21, rfl, by decide, by decide, by decide, by unfold zst3; decide, Nat.le_of_ble_eq_true rfl, by show zsl _ + _ ≤ zsl (List.range 30); decide +kernel, fun _ _ _ e1 e2 e3 => ?_⟩
    subst e1; subst e2; subst e3
    intro _ e; subst e
    refine ⟨22, rfl, by decide, by decide, by decide, by unfold zst3; decide, Nat.le_of_ble_eq_true rfl, by show zsl _ + _ ≤ zsl (List.range 30); decide +kernel, fun _ _ _ e1 e2 e3 => ?_⟩
    subst e1; subst e2; subst e3
    intro _ e; subst e
    refine ⟨23, rfl, by decide, by decide, by decide, by unfold zst3; decide, Nat.le_of_ble_eq_true rfl, by show zsl _ + _ ≤ zsl (List.range 30); decide +kernel, fun _ _ _ e1 e2 e3 => ?_⟩
    subst e1; subst e2; subst e3
    intro _ e; subst e
    intro _ e; subst e
    refine ⟨24, rfl, by decide, by decide, by decide, by unfold zst3; decide, Nat.le_of_ble_eq_true rfl, by show zsl _ + _ ≤ zsl (List.range 30); decide +kernel, fun _ _ _ e1 e2 e3 => ?_⟩
    subst e1; subst e2; subst e3
    intro _ e; subst e
    refine ⟨25, rfl, by decide, by decide, by decide, by unfold zst3; decide, Nat.le_of_ble_eq_true rfl, by show zsl _ + _ ≤ zsl (List.range 30); decide +kernel, fun _ _ _ e1 e2 e3 => ?_⟩
    subst e1; subst e2; subst e3
    intro _ e; subst e
    refine ⟨26, rfl, by decide, by decide, by decide, by unfold zst3; decide, Nat.le_of_ble_eq_true rfl, by show zsl _ + _ ≤ zsl (List.range 30); decide +kernel, fun _ _ _ e1 e2 e3 => ?_⟩
    subst e1; subst e2; subst e3
    intro _ e; subst e
    refine ⟨27, rfl, by decide, by decide, by decide, by unfold zst3; decide, Nat.le_of_ble_eq_true rfl, by show zsl _ + _ ≤ zsl (List.range 30); decide +kernel, fun _ _ _ e1 e2 e3 => ?_⟩
    subst e1; subst e2; subst e3
    intro _ e; subst e
    refine ⟨28, rfl, by decide, by decide, by decide, by unfold zst3; decide, Nat.le_of_ble_eq_true rfl, by show zsl _ + _ ≤ zsl (List.range 30); decide +kernel, fun _ _ _ e1 e2 e3 => ?_⟩
    subst e1; subst e2; subst e3
    intro _ e; subst e
    intro _ e; subst e
    intro _ e; subst e
    intro _ e; subst e
    refine ⟨29, rfl, by decide, by decide, by decide, by unfold zst3; decide, Nat.le_of_ble_eq_true rfl, by show zsl _ + _ ≤ zsl (List.range 30); decide +kernel, fun _ _ _ e1 e2 e3 => ?_⟩
    subst e1; subst e2; subst e3
    intro _ e; subst e
    intro _ e; subst e
    intro _ e; subst e
    refine ⟨F, ?_, rfl, rfl⟩
    have eg : (zuG (zuG (zclG (zuG (zclG (zuG (zclG (zuG (zclG (zuG (zclG (zuG (zclG (zuG (zclG (zuG (zclG (zuG (zclG G 21) 20 1 (some 21)) 22) 20 2 (some 22)) 23) 20 3 (some 23)) 24) 20 5 (some 24)) 25) 20 6 (some 25)) 26) 20 7 (some 26)) 27) 20 8 (some 27)) 28) 20 9 (some 28)) 29) 20 13 (some 29)) 20 0 (some 1)) 20 2 = some 22 := by simp [zuG, zclG]
    rw [eg]
    exact mF
  · intro x hx
    simp only [List.mem_cons, List.not_mem_nil, or_false] at hx
    rcases hx with e | e | e | e | e | e | e | e | e | e <;> subst e <;> exact ⟨by simp [zuG, zclG], by decide, by decide⟩
  · simp only [List.mem_cons, List.not_mem_nil, or_false, not_or] at hy
    funext k
    simp [zuG, zclG, hy]
theorem clI : ∃ (G' : Nat → Int → Option Nat) (E' : Nat → Int → Int), zM zm_X2_init [zR 30, zR 1, zR 18] ((List.range 31), G, E) none ((List.range 33), G', E') ∧ zK [(30, 2, 31), (30, 3, 32), (30, 0, 1), (30, 1, 18)] (List.range 33) G' ∧ (∀ y : Nat, y ∉ [30, 31, 32] → G' y = G y) ∧ (∀ y : Nat, y ∉ [30, 31, 32] → E' y = E y) := by
  refine ⟨(zuG (zuG (zuG (zclG (zuG (zclG G 31) 30 2 (some 31)) 32) 30 3 (some 32)) 30 0 (some 1)) 30 1 (some 18)), (zuE (zclE (zclE E 31) 32) 30 4 0), zM_of rfl (Nat.le_of_ble_eq_true rfl) ⟨Nat.le_of_ble_eq_true rfl, by show zsl (List.range 31) ≤ zsl (List.range 33); decide +kernel⟩ ?_, ?_, fun y hy => ?_, fun y hy => ?_⟩
  · refine X2_init_0 (by decide) (by decide) (by decide) ?_
    refine ⟨31, rfl, by decide, by decide, by decide, by unfold zst3; decide, Nat.le_of_ble_eq_true rfl, by show zsl _ + _ ≤ zsl (List.range 33); decide +kernel, fun _ _ _ e1 e2 e3 => ?_⟩
    subst e1; subst e2; subst e3
    intro _ e; subst e
    refine ⟨32, rfl, by decide, by decide, by decide, by unfold zst3; decide, Nat.le_of_ble_eq_true rfl, by show zsl _ + _ ≤ zsl (List.range 33); decide +kernel, fun _ _ _ e1 e2 e3 => ?_⟩
    subst e1; subst e2; subst e3
    intro _ e; subst e
    intro _ e; subst e
    intro _ e; subst e
    intro _ e; subst e
    exact ⟨rfl, rfl⟩
  · intro x hx
    simp only [List.mem_cons, List.not_mem_nil, or_false] at hx
    rcases hx with e | e | e | e <;> subst e <;> exact ⟨by simp [zuG, zclG], by decide, by decide⟩
  · simp only [List.mem_cons, List.not_mem_nil, or_false, not_or] at hy
    funext k
    simp [zuG, zclG, hy]
  · simp only [List.mem_cons, List.not_mem_nil, or_false, not_or] at hy
    funext k
    simp [zuE, zclE, hy]
theorem tkI : ∃ (G' : Nat → Int → Option Nat) (E' : Nat → Int → Int), zM zm_X10_init [zR 33, zR 20, zR 5] ((List.range 34), G, E) none ((List.range 36), G', E') ∧ zK [(33, 2, 34), (33, 3, 35), (33, 0, 20), (33, 1, 5)] (List.range 36) G' ∧ (∀ y : Nat, y ∉ [33, 34, 35] → G' y = G y) ∧ (∀ y : Nat, y ∉ [33, 34, 35] → E' y = E y) := by
  refine ⟨(zuG (zuG (zuG (zclG (zuG (zclG G 34) 33 2 (some 34)) 35) 33 3 (some 35)) 33 0 (some 20)) 33 1 (some 5)), (zclE (zclE E 34) 35), zM_of rfl (Nat.le_of_ble_eq_true rfl) ⟨Nat.le_of_ble_eq_true rfl, by show zsl (List.range 34) ≤ zsl (List.range 36); decide +kernel⟩ ?_, ?_, fun y hy => ?_, fun y hy => ?_⟩
  · refine X10_init_0 (by decide) (by decide) (by decide) ?_
    refine ⟨34, rfl, by decide, by decide, by decide, by unfold zst3; decide, Nat.le_of_ble_eq_true rfl, by show zsl _ + _ ≤ zsl (List.range 36); decide +kernel, fun _ _ _ e1 e2 e3 => ?_⟩
    subst e1; subst e2; subst e3
    intro _ e; subst e
    refine ⟨35, rfl, by decide, by decide, by decide, by unfold zst3; decide, Nat.le_of_ble_eq_true rfl, by show zsl _ + _ ≤ zsl (List.range 36); decide +kernel, fun _ _ _ e1 e2 e3 => ?_⟩
    subst e1; subst e2; subst e3
    intro _ e; subst e
    intro _ e; subst e
    intro _ e; subst e
    exact ⟨rfl, rfl⟩
  · intro x hx
    simp only [List.mem_cons, List.not_mem_nil, or_false] at hx
    rcases hx with e | e | e | e <;> subst e <;> exact ⟨by simp [zuG, zclG], by decide, by decide⟩
  · simp only [List.mem_cons, List.not_mem_nil, or_false, not_or] at hy
    funext k
    simp [zuG, zclG, hy]
  · simp only [List.mem_cons, List.not_mem_nil, or_false, not_or] at hy
    funext k
    simp [zuE, zclE, hy]
theorem rwI : ∃ (G' : Nat → Int → Option Nat) (E' : Nat → Int → Int), zM zm_X4_init [zR 36, zR 1, zR 18, zR 20, zR 5] ((List.range 37), G, E) none ((List.range 41), G', E') ∧ zK [(36, 4, 37), (36, 5, 38), (36, 6, 39), (36, 10, 40), (36, 0, 1), (36, 1, 18), (36, 2, 20), (36, 3, 5)] (List.range 41) G' ∧ (∀ y : Nat, y ∉ [36, 37, 38, 39, 40] → G' y = G y) ∧ (∀ y : Nat, y ∉ [36, 37, 38, 39, 40] → E' y = E y) := by
  refine ⟨(zuG (zuG (zuG (zuG (zuG (zclG (zuG (zclG (zuG (zclG (zuG (zclG G 37) 36 4 (some 37)) 38) 36 5 (some 38)) 39) 36 6 (some 39)) 40) 36 10 (some 40)) 36 0 (some 1)) 36 1 (some 18)) 36 2 (some 20)) 36 3 (some 5)), (zuE (zclE (zuE (zuE (zuE (zclE (zclE (zclE E 37) 38) 39) 36 7 0) 36 8 0) 36 9 0) 40) 36 11 0), zM_of rfl (Nat.le_of_ble_eq_true rfl) ⟨Nat.le_of_ble_eq_true rfl, by show zsl (List.range 37) ≤ zsl (List.range 41); decide +kernel⟩ ?_, ?_, fun y hy => ?_, fun y hy => ?_⟩
  · refine X4_init_0 (by decide) (by decide) (by decide) (by decide) (by decide) ?_
    refine ⟨37, rfl, by decide, by decide, by decide, by unfold zst3; decide, Nat.le_of_ble_eq_true rfl, by show zsl _ + _ ≤ zsl (List.range 41); decide +kernel, fun _ _ _ e1 e2 e3 => ?_⟩
    subst e1; subst e2; subst e3
    intro _ e; subst e
    refine ⟨38, rfl, by decide, by decide, by decide, by unfold zst3; decide, Nat.le_of_ble_eq_true rfl, by show zsl _ + _ ≤ zsl (List.range 41); decide +kernel, fun _ _ _ e1 e2 e3 => ?_⟩
    subst e1; subst e2; subst e3
    intro _ e; subst e
    refine ⟨39, rfl, by decide, by decide, by decide, by unfold zst3; decide, Nat.le_of_ble_eq_true rfl, by show zsl _ + _ ≤ zsl (List.range 41); decide +kernel, fun _ _ _ e1 e2 e3 => ?_⟩
    subst e1; subst e2; subst e3
    intro _ e; subst e
    intro _ e; subst e
    intro _ e; subst e
    intro _ e; subst e
    refine ⟨40, rfl, by decide, by decide, by decide, by unfold zst3; decide, Nat.le_of_ble_eq_true rfl, by show zsl _ + _ ≤ zsl (List.range 41); decide +kernel, fun _ _ _ e1 e2 e3 => ?_⟩
    subst e1; subst e2; subst e3
    intro _ e; subst e
    intro _ e; subst e
    intro _ e; subst e
    intro _ e; subst e
    intro _ e; subst e
    intro _ e; subst e
    exact ⟨rfl, rfl⟩
  · intro x hx
    simp only [List.mem_cons, List.not_mem_nil, or_false] at hx
    rcases hx with e | e | e | e | e | e | e | e <;> subst e <;> exact ⟨by simp [zuG, zclG], by decide, by decide⟩
  · simp only [List.mem_cons, List.not_mem_nil, or_false, not_or] at hy
    funext k
    simp [zuG, zclG, hy]
  · simp only [List.mem_cons, List.not_mem_nil, or_false, not_or] at hy
    funext k
    simp [zuE, zclE, hy]
theorem agI : ∃ (G' : Nat → Int → Option Nat) (E' : Nat → Int → Int), zM zm_X0_init [zR 42, zR 1, zR 5] ((List.range 43), G, E) none ((List.range 44), G', E') ∧ zK [(42, 2, 43), (42, 0, 1), (42, 1, 5)] (List.range 44) G' ∧ (∀ y : Nat, y ∉ [42, 43] → G' y = G y) ∧ (∀ y : Nat, y ∉ [42, 43] → E' y = E y) := by
  refine ⟨(zuG (zuG (zuG (zuG (zuG (zuG (zclG G 43) 42 2 (some 43)) 42 3 none) 42 6 none) 42 7 none) 42 0 (some 1)) 42 1 (some 5)), (zuE (zuE (zuE (zuE (zuE (zuE (zclE E 43) 42 4 0) 42 5 6) 42 8 0) 42 9 0) 42 10 0) 42 11 0), zM_of rfl (Nat.le_of_ble_eq_true rfl) ⟨Nat.le_of_ble_eq_true rfl, by show zsl (List.range 43) ≤ zsl (List.range 44); decide +kernel⟩ ?_, ?_, fun y hy => ?_, fun y hy => ?_⟩
  · refine X0_init_0 (by decide) (by decide) (by decide) ?_
    refine ⟨43, rfl, by decide, by decide, by decide, by unfold zst3; decide, Nat.le_of_ble_eq_true rfl, by show zsl _ + _ ≤ zsl (List.range 44); decide +kernel, fun _ _ _ e1 e2 e3 => ?_⟩
    subst e1; subst e2; subst e3
    intro _ e; subst e
    intro _ e; subst e
    intro _ e; subst e
    intro _ e; subst e
    intro _ e; subst e
    intro _ e; subst e
    intro _ e; subst e
    intro _ e; subst e
    intro _ e; subst e
    intro _ e; subst e
    intro _ e; subst e
    intro _ e; subst e
    exact ⟨rfl, rfl⟩
  · intro x hx
    simp only [List.mem_cons, List.not_mem_nil, or_false] at hx
    rcases hx with e | e | e <;> subst e <;> exact ⟨by simp [zuG, zclG], by decide, by decide⟩
  · simp only [List.mem_cons, List.not_mem_nil, or_false, not_or] at hy
    funext k
    simp [zuG, zclG, hy]
  · simp only [List.mem_cons, List.not_mem_nil, or_false, not_or] at hy
    funext k
    simp [zuE, zclE, hy]
theorem mkrI : ∃ G' : Nat → Int → Option Nat, zM zm_X3_init [zR 41, zR 1, zR 18, zR 20, zR 5] ((List.range 42), G, E) none ((List.range 42), G', E) ∧ zK [(41, 0, 1), (41, 1, 18), (41, 2, 20), (41, 3, 5)] (List.range 42) G' ∧ (∀ y : Nat, y ∉ [41] → G' y = G y) := by
  refine ⟨(zuG (zuG (zuG (zuG G 41 0 (some 1)) 41 1 (some 18)) 41 2 (some 20)) 41 3 (some 5)), zM_of rfl (Nat.le_of_ble_eq_true rfl) ⟨Nat.le_refl _, Nat.le_refl _⟩ ?_, ?_, fun y hy => ?_⟩
  · refine X3_init_0 (by decide) (by decide) (by decide) (by decide) (by decide) ?_
    intro _ e; subst e
    intro _ e; subst e
    intro _ e; subst e
    intro _ e; subst e
    exact ⟨rfl, rfl⟩
  · intro x hx
    simp only [List.mem_cons, List.not_mem_nil, or_false] at hx
    rcases hx with e | e | e | e <;> subst e <;> exact ⟨by simp [zuG], by decide, by decide⟩
  · simp only [List.mem_cons, List.not_mem_nil, or_false, not_or] at hy
    funext k
    simp [zuG, hy]
theorem hallI : ∃ (G' : Nat → Int → Option Nat) (E' : Nat → Int → Int), zM zm_X11_init [zR 0] ((List.range 1), G, E) none ((List.range 44), G', E') ∧ zK zXt (List.range 44) G' ∧ (∀ y : Nat, 44 ≤ y → G' y = G y) ∧ (∀ y : Nat, 44 ≤ y → E' y = E y) ∧ (E' 1 3 = 1 ∧ E' 2 = dl 1 ∧ E' 3 = dl 2 ∧ E' 4 = dl 1) ∧ E' 5 4 = 0 ∧ G' 6 = (fun _ => none) ∧ E' 19 = (fun _ => 0) ∧ E' 20 4 = 0 ∧ (∀ j : Int, 0 ≤ j → j < 40 → E' 22 j = -1) ∧ E' 0 12 = 0 ∧ E' 0 13 = 4 ∧ E' 0 14 = 2000 ∧ E' 0 15 = 0 ∧ E' 0 16 = 0 ∧ E' 0 17 = 0 ∧ E' 0 18 = 0 ∧ E' 0 19 = 0 ∧ E' 0 20 = 0 := by
  have K0 : zK [] (List.range 1) G := fun x hx => absurd hx List.not_mem_nil
  let P1 := zclG (G) 1
  let F1 := zclE (E) 1
  have N1 : zK [] (List.range 2) P1 := zK_fr K0 (by decide) (fun x hx => zclG_nf (by revert x; decide))
  obtain ⟨G1, E1, m1, k1, fg1, fe1, a3, a2f, a3f, a4f⟩ := sgI (G := P1) (E := F1)
  have K1a : zK ([(1, 0, 2), (1, 1, 3), (1, 2, 4)] ++ []) (List.range 5) G1 := zK_ap k1 (zK_fr N1 (by decide) (fun x hx => fg1 _ (by revert x; decide)))
  let Q1 := zuG G1 0 0 (some 1)
  have K1 : zK [(0, 0, 1), (1, 0, 2), (1, 1, 3), (1, 2, 4)] (List.range 5) Q1 := zK_put K1a (by decide) (by decide) (by decide)
  let P2 := zclG (Q1) 5
  let F2 := zclE (E1) 5
  have N2 : zK [(0, 0, 1), (1, 0, 2), (1, 1, 3), (1, 2, 4)] (List.range 6) P2 := zK_fr K1 (by decide) (fun x hx => zclG_nf (by revert x; decide))
  obtain ⟨G2, E2, m2, k2, fg2, fe2, s54, s6⟩ := shI (G := P2) (E := F2)
  have K2a : zK ([(5, 0, 6), (5, 1, 7), (5, 2, 8)] ++ [(0, 0, 1), (1, 0, 2), (1, 1, 3), (1, 2, 4)]) (List.range 9) G2 := zK_ap k2 (zK_fr N2 (by decide) (fun x hx => fg2 _ (by revert x; decide)))
  let Q2 := zuG G2 0 1 (some 5)
  have K2 : zK [(0, 1, 5), (5, 0, 6), (5, 1, 7), (5, 2, 8), (0, 0, 1), (1, 0, 2), (1, 1, 3), (1, 2, 4)] (List.range 9) Q2 := zK_put K2a (by decide) (by decide) (by decide)
  let P3 := zclG (Q2) 9
  let F3 := zclE (E2) 9
  have N3 : zK [(0, 1, 5), (5, 0, 6), (5, 1, 7), (5, 2, 8), (0, 0, 1), (1, 0, 2), (1, 1, 3), (1, 2, 4)] (List.range 10) P3 := zK_fr K2 (by decide) (fun x hx => zclG_nf (by revert x; decide))
  have K3a := N3
  let Q3 := zuG P3 0 2 (some 9)
  have K3 : zK [(0, 2, 9), (0, 1, 5), (5, 0, 6), (5, 1, 7), (5, 2, 8), (0, 0, 1), (1, 0, 2), (1, 1, 3), (1, 2, 4)] (List.range 10) Q3 := zK_put K3a (by decide) (by decide) (by decide)
  let P4 := zclG (Q3) 10
  let F4 := zclE (F3) 10
  have N4 : zK [(0, 2, 9), (0, 1, 5), (5, 0, 6), (5, 1, 7), (5, 2, 8), (0, 0, 1), (1, 0, 2), (1, 1, 3), (1, 2, 4)] (List.range 11) P4 := zK_fr K3 (by decide) (fun x hx => zclG_nf (by revert x; decide))
  obtain ⟨G4, E4, m4, k4, fg4, fe4⟩ := rw10I (G := P4) (E := F4)
  have K4a : zK ([(10, 0, 11), (10, 1, 12), (10, 2, 13)] ++ [(0, 2, 9), (0, 1, 5), (5, 0, 6), (5, 1, 7), (5, 2, 8), (0, 0, 1), (1, 0, 2), (1, 1, 3), (1, 2, 4)]) (List.range 14) G4 := zK_ap k4 (zK_fr N4 (by decide) (fun x hx => fg4 _ (by revert x; decide)))
  let Q4 := zuG G4 0 3 (some 10)
  have K4 : zK [(0, 3, 10), (10, 0, 11), (10, 1, 12), (10, 2, 13), (0, 2, 9), (0, 1, 5), (5, 0, 6), (5, 1, 7), (5, 2, 8), (0, 0, 1), (1, 0, 2), (1, 1, 3), (1, 2, 4)] (List.range 14) Q4 := zK_put K4a (by decide) (by decide) (by decide)
  let P5 := zclG (Q4) 14
  let F5 := zclE (E4) 14
  have N5 : zK [(0, 3, 10), (10, 0, 11), (10, 1, 12), (10, 2, 13), (0, 2, 9), (0, 1, 5), (5, 0, 6), (5, 1, 7), (5, 2, 8), (0, 0, 1), (1, 0, 2), (1, 1, 3), (1, 2, 4)] (List.range 15) P5 := zK_fr K4 (by decide) (fun x hx => zclG_nf (by revert x; decide))
  obtain ⟨G5, E5, m5, k5, fg5, fe5⟩ := rw14I (G := P5) (E := F5)
  have K5a : zK ([(14, 0, 15), (14, 1, 16), (14, 2, 17)] ++ [(0, 3, 10), (10, 0, 11), (10, 1, 12), (10, 2, 13), (0, 2, 9), (0, 1, 5), (5, 0, 6), (5, 1, 7), (5, 2, 8), (0, 0, 1), (1, 0, 2), (1, 1, 3), (1, 2, 4)]) (List.range 18) G5 := zK_ap k5 (zK_fr N5 (by decide) (fun x hx => fg5 _ (by revert x; decide)))
  let Q5 := zuG G5 0 4 (some 14)
  have K5 : zK [(0, 4, 14), (14, 0, 15), (14, 1, 16), (14, 2, 17), (0, 3, 10), (10, 0, 11), (10, 1, 12), (10, 2, 13), (0, 2, 9), (0, 1, 5), (5, 0, 6), (5, 1, 7), (5, 2, 8), (0, 0, 1), (1, 0, 2), (1, 1, 3), (1, 2, 4)] (List.range 18) Q5 := zK_put K5a (by decide) (by decide) (by decide)
  let P6 := zclG (Q5) 18
  let F6 := zclE (E5) 18
  have N6 : zK [(0, 4, 14), (14, 0, 15), (14, 1, 16), (14, 2, 17), (0, 3, 10), (10, 0, 11), (10, 1, 12), (10, 2, 13), (0, 2, 9), (0, 1, 5), (5, 0, 6), (5, 1, 7), (5, 2, 8), (0, 0, 1), (1, 0, 2), (1, 1, 3), (1, 2, 4)] (List.range 19) P6 := zK_fr K5 (by decide) (fun x hx => zclG_nf (by revert x; decide))
  have g6_0 : P6 0 0 = some 1 := (N6 (0, 0, 1) (by decide)).1
  obtain ⟨G6, E6, m6, k6, fg6, fe6, c19⟩ := scI (G := P6) (E := F6)
  have K6a : zK ([(18, 1, 19), (18, 0, 1)] ++ [(0, 4, 14), (14, 0, 15), (14, 1, 16), (14, 2, 17), (0, 3, 10), (10, 0, 11), (10, 1, 12), (10, 2, 13), (0, 2, 9), (0, 1, 5), (5, 0, 6), (5, 1, 7), (5, 2, 8), (0, 0, 1), (1, 0, 2), (1, 1, 3), (1, 2, 4)]) (List.range 20) G6 := zK_ap k6 (zK_fr N6 (by decide) (fun x hx => fg6 _ (by revert x; decide)))
  let Q6 := zuG G6 0 5 (some 18)
  have K6 : zK [(0, 5, 18), (18, 1, 19), (18, 0, 1), (0, 4, 14), (14, 0, 15), (14, 1, 16), (14, 2, 17), (0, 3, 10), (10, 0, 11), (10, 1, 12), (10, 2, 13), (0, 2, 9), (0, 1, 5), (5, 0, 6), (5, 1, 7), (5, 2, 8), (0, 0, 1), (1, 0, 2), (1, 1, 3), (1, 2, 4)] (List.range 20) Q6 := zK_put K6a (by decide) (by decide) (by decide)
  let P7 := zclG (Q6) 20
  let F7 := zclE (E6) 20
  have N7 : zK [(0, 5, 18), (18, 1, 19), (18, 0, 1), (0, 4, 14), (14, 0, 15), (14, 1, 16), (14, 2, 17), (0, 3, 10), (10, 0, 11), (10, 1, 12), (10, 2, 13), (0, 2, 9), (0, 1, 5), (5, 0, 6), (5, 1, 7), (5, 2, 8), (0, 0, 1), (1, 0, 2), (1, 1, 3), (1, 2, 4)] (List.range 21) P7 := zK_fr K6 (by decide) (fun x hx => zclG_nf (by revert x; decide))
  have g7_0 : P7 0 0 = some 1 := (N7 (0, 0, 1) (by decide)).1
  obtain ⟨G7, E7, m7, k7, fg7, fe7, t204, t22⟩ := stnI (G := P7) (E := F7)
  have K7a : zK ([(20, 1, 21), (20, 2, 22), (20, 3, 23), (20, 5, 24), (20, 6, 25), (20, 7, 26), (20, 8, 27), (20, 9, 28), (20, 13, 29), (20, 0, 1)] ++ [(0, 5, 18), (18, 1, 19), (18, 0, 1), (0, 4, 14), (14, 0, 15), (14, 1, 16), (14, 2, 17), (0, 3, 10), (10, 0, 11), (10, 1, 12), (10, 2, 13), (0, 2, 9), (0, 1, 5), (5, 0, 6), (5, 1, 7), (5, 2, 8), (0, 0, 1), (1, 0, 2), (1, 1, 3), (1, 2, 4)]) (List.range 30) G7 := zK_ap k7 (zK_fr N7 (by decide) (fun x hx => fg7 _ (by revert x; decide)))
  let Q7 := zuG G7 0 6 (some 20)
  have K7 : zK [(0, 6, 20), (20, 1, 21), (20, 2, 22), (20, 3, 23), (20, 5, 24), (20, 6, 25), (20, 7, 26), (20, 8, 27), (20, 9, 28), (20, 13, 29), (20, 0, 1), (0, 5, 18), (18, 1, 19), (18, 0, 1), (0, 4, 14), (14, 0, 15), (14, 1, 16), (14, 2, 17), (0, 3, 10), (10, 0, 11), (10, 1, 12), (10, 2, 13), (0, 2, 9), (0, 1, 5), (5, 0, 6), (5, 1, 7), (5, 2, 8), (0, 0, 1), (1, 0, 2), (1, 1, 3), (1, 2, 4)] (List.range 30) Q7 := zK_put K7a (by decide) (by decide) (by decide)
  let P8 := zclG (Q7) 30
  let F8 := zclE (E7) 30
  have N8 : zK [(0, 6, 20), (20, 1, 21), (20, 2, 22), (20, 3, 23), (20, 5, 24), (20, 6, 25), (20, 7, 26), (20, 8, 27), (20, 9, 28), (20, 13, 29), (20, 0, 1), (0, 5, 18), (18, 1, 19), (18, 0, 1), (0, 4, 14), (14, 0, 15), (14, 1, 16), (14, 2, 17), (0, 3, 10), (10, 0, 11), (10, 1, 12), (10, 2, 13), (0, 2, 9), (0, 1, 5), (5, 0, 6), (5, 1, 7), (5, 2, 8), (0, 0, 1), (1, 0, 2), (1, 1, 3), (1, 2, 4)] (List.range 31) P8 := zK_fr K7 (by decide) (fun x hx => zclG_nf (by revert x; decide))
  have g8_0 : P8 0 0 = some 1 := (N8 (0, 0, 1) (by decide)).1
  have g8_5 : P8 0 5 = some 18 := (N8 (0, 5, 18) (by decide)).1
  obtain ⟨G8, E8, m8, k8, fg8, fe8⟩ := clI (G := P8) (E := F8)
  have K8a : zK ([(30, 2, 31), (30, 3, 32), (30, 0, 1), (30, 1, 18)] ++ [(0, 6, 20), (20, 1, 21), (20, 2, 22), (20, 3, 23), (20, 5, 24), (20, 6, 25), (20, 7, 26), (20, 8, 27), (20, 9, 28), (20, 13, 29), (20, 0, 1), (0, 5, 18), (18, 1, 19), (18, 0, 1), (0, 4, 14), (14, 0, 15), (14, 1, 16), (14, 2, 17), (0, 3, 10), (10, 0, 11), (10, 1, 12), (10, 2, 13), (0, 2, 9), (0, 1, 5), (5, 0, 6), (5, 1, 7), (5, 2, 8), (0, 0, 1), (1, 0, 2), (1, 1, 3), (1, 2, 4)]) (List.range 33) G8 := zK_ap k8 (zK_fr N8 (by decide) (fun x hx => fg8 _ (by revert x; decide)))
  let Q8 := zuG G8 0 7 (some 30)
  have K8 : zK [(0, 7, 30), (30, 2, 31), (30, 3, 32), (30, 0, 1), (30, 1, 18), (0, 6, 20), (20, 1, 21), (20, 2, 22), (20, 3, 23), (20, 5, 24), (20, 6, 25), (20, 7, 26), (20, 8, 27), (20, 9, 28), (20, 13, 29), (20, 0, 1), (0, 5, 18), (18, 1, 19), (18, 0, 1), (0, 4, 14), (14, 0, 15), (14, 1, 16), (14, 2, 17), (0, 3, 10), (10, 0, 11), (10, 1, 12), (10, 2, 13), (0, 2, 9), (0, 1, 5), (5, 0, 6), (5, 1, 7), (5, 2, 8), (0, 0, 1), (1, 0, 2), (1, 1, 3), (1, 2, 4)] (List.range 33) Q8 := zK_put K8a (by decide) (by decide) (by decide)
  let P9 := zclG (Q8) 33
  let F9 := zclE (E8) 33
  have N9 : zK [(0, 7, 30), (30, 2, 31), (30, 3, 32), (30, 0, 1), (30, 1, 18), (0, 6, 20), (20, 1, 21), (20, 2, 22), (20, 3, 23), (20, 5, 24), (20, 6, 25), (20, 7, 26), (20, 8, 27), (20, 9, 28), (20, 13, 29), (20, 0, 1), (0, 5, 18), (18, 1, 19), (18, 0, 1), (0, 4, 14), (14, 0, 15), (14, 1, 16), (14, 2, 17), (0, 3, 10), (10, 0, 11), (10, 1, 12), (10, 2, 13), (0, 2, 9), (0, 1, 5), (5, 0, 6), (5, 1, 7), (5, 2, 8), (0, 0, 1), (1, 0, 2), (1, 1, 3), (1, 2, 4)] (List.range 34) P9 := zK_fr K8 (by decide) (fun x hx => zclG_nf (by revert x; decide))
  have g9_6 : P9 0 6 = some 20 := (N9 (0, 6, 20) (by decide)).1
  have g9_1 : P9 0 1 = some 5 := (N9 (0, 1, 5) (by decide)).1
  obtain ⟨G9, E9, m9, k9, fg9, fe9⟩ := tkI (G := P9) (E := F9)
  have K9a : zK ([(33, 2, 34), (33, 3, 35), (33, 0, 20), (33, 1, 5)] ++ [(0, 7, 30), (30, 2, 31), (30, 3, 32), (30, 0, 1), (30, 1, 18), (0, 6, 20), (20, 1, 21), (20, 2, 22), (20, 3, 23), (20, 5, 24), (20, 6, 25), (20, 7, 26), (20, 8, 27), (20, 9, 28), (20, 13, 29), (20, 0, 1), (0, 5, 18), (18, 1, 19), (18, 0, 1), (0, 4, 14), (14, 0, 15), (14, 1, 16), (14, 2, 17), (0, 3, 10), (10, 0, 11), (10, 1, 12), (10, 2, 13), (0, 2, 9), (0, 1, 5), (5, 0, 6), (5, 1, 7), (5, 2, 8), (0, 0, 1), (1, 0, 2), (1, 1, 3), (1, 2, 4)]) (List.range 36) G9 := zK_ap k9 (zK_fr N9 (by decide) (fun x hx => fg9 _ (by revert x; decide)))
  let Q9 := zuG G9 0 8 (some 33)
  have K9 : zK [(0, 8, 33), (33, 2, 34), (33, 3, 35), (33, 0, 20), (33, 1, 5), (0, 7, 30), (30, 2, 31), (30, 3, 32), (30, 0, 1), (30, 1, 18), (0, 6, 20), (20, 1, 21), (20, 2, 22), (20, 3, 23), (20, 5, 24), (20, 6, 25), (20, 7, 26), (20, 8, 27), (20, 9, 28), (20, 13, 29), (20, 0, 1), (0, 5, 18), (18, 1, 19), (18, 0, 1), (0, 4, 14), (14, 0, 15), (14, 1, 16), (14, 2, 17), (0, 3, 10), (10, 0, 11), (10, 1, 12), (10, 2, 13), (0, 2, 9), (0, 1, 5), (5, 0, 6), (5, 1, 7), (5, 2, 8), (0, 0, 1), (1, 0, 2), (1, 1, 3), (1, 2, 4)] (List.range 36) Q9 := zK_put K9a (by decide) (by decide) (by decide)
  let P10 := zclG (Q9) 36
  let F10 := zclE (E9) 36
  have N10 : zK [(0, 8, 33), (33, 2, 34), (33, 3, 35), (33, 0, 20), (33, 1, 5), (0, 7, 30), (30, 2, 31), (30, 3, 32), (30, 0, 1), (30, 1, 18), (0, 6, 20), (20, 1, 21), (20, 2, 22), (20, 3, 23), (20, 5, 24), (20, 6, 25), (20, 7, 26), (20, 8, 27), (20, 9, 28), (20, 13, 29), (20, 0, 1), (0, 5, 18), (18, 1, 19), (18, 0, 1), (0, 4, 14), (14, 0, 15), (14, 1, 16), (14, 2, 17), (0, 3, 10), (10, 0, 11), (10, 1, 12), (10, 2, 13), (0, 2, 9), (0, 1, 5), (5, 0, 6), (5, 1, 7), (5, 2, 8), (0, 0, 1), (1, 0, 2), (1, 1, 3), (1, 2, 4)] (List.range 37) P10 := zK_fr K9 (by decide) (fun x hx => zclG_nf (by revert x; decide))
  have g10_0 : P10 0 0 = some 1 := (N10 (0, 0, 1) (by decide)).1
  have g10_5 : P10 0 5 = some 18 := (N10 (0, 5, 18) (by decide)).1
  have g10_6 : P10 0 6 = some 20 := (N10 (0, 6, 20) (by decide)).1
  have g10_1 : P10 0 1 = some 5 := (N10 (0, 1, 5) (by decide)).1
  obtain ⟨G10, E10, m10, k10, fg10, fe10⟩ := rwI (G := P10) (E := F10)
  have K10a : zK ([(36, 4, 37), (36, 5, 38), (36, 6, 39), (36, 10, 40), (36, 0, 1), (36, 1, 18), (36, 2, 20), (36, 3, 5)] ++ [(0, 8, 33), (33, 2, 34), (33, 3, 35), (33, 0, 20), (33, 1, 5), (0, 7, 30), (30, 2, 31), (30, 3, 32), (30, 0, 1), (30, 1, 18), (0, 6, 20), (20, 1, 21), (20, 2, 22), (20, 3, 23), (20, 5, 24), (20, 6, 25), (20, 7, 26), (20, 8, 27), (20, 9, 28), (20, 13, 29), (20, 0, 1), (0, 5, 18), (18, 1, 19), (18, 0, 1), (0, 4, 14), (14, 0, 15), (14, 1, 16), (14, 2, 17), (0, 3, 10), (10, 0, 11), (10, 1, 12), (10, 2, 13), (0, 2, 9), (0, 1, 5), (5, 0, 6), (5, 1, 7), (5, 2, 8), (0, 0, 1), (1, 0, 2), (1, 1, 3), (1, 2, 4)]) (List.range 41) G10 := zK_ap k10 (zK_fr N10 (by decide) (fun x hx => fg10 _ (by revert x; decide)))
  let Q10 := zuG G10 0 9 (some 36)
  have K10 : zK [(0, 9, 36), (36, 4, 37), (36, 5, 38), (36, 6, 39), (36, 10, 40), (36, 0, 1), (36, 1, 18), (36, 2, 20), (36, 3, 5), (0, 8, 33), (33, 2, 34), (33, 3, 35), (33, 0, 20), (33, 1, 5), (0, 7, 30), (30, 2, 31), (30, 3, 32), (30, 0, 1), (30, 1, 18), (0, 6, 20), (20, 1, 21), (20, 2, 22), (20, 3, 23), (20, 5, 24), (20, 6, 25), (20, 7, 26), (20, 8, 27), (20, 9, 28), (20, 13, 29), (20, 0, 1), (0, 5, 18), (18, 1, 19), (18, 0, 1), (0, 4, 14), (14, 0, 15), (14, 1, 16), (14, 2, 17), (0, 3, 10), (10, 0, 11), (10, 1, 12), (10, 2, 13), (0, 2, 9), (0, 1, 5), (5, 0, 6), (5, 1, 7), (5, 2, 8), (0, 0, 1), (1, 0, 2), (1, 1, 3), (1, 2, 4)] (List.range 41) Q10 := zK_put K10a (by decide) (by decide) (by decide)
  let P11 := zclG (Q10) 41
  let F11 := zclE (E10) 41
  have N11 : zK [(0, 9, 36), (36, 4, 37), (36, 5, 38), (36, 6, 39), (36, 10, 40), (36, 0, 1), (36, 1, 18), (36, 2, 20), (36, 3, 5), (0, 8, 33), (33, 2, 34), (33, 3, 35), (33, 0, 20), (33, 1, 5), (0, 7, 30), (30, 2, 31), (30, 3, 32), (30, 0, 1), (30, 1, 18), (0, 6, 20), (20, 1, 21), (20, 2, 22), (20, 3, 23), (20, 5, 24), (20, 6, 25), (20, 7, 26), (20, 8, 27), (20, 9, 28), (20, 13, 29), (20, 0, 1), (0, 5, 18), (18, 1, 19), (18, 0, 1), (0, 4, 14), (14, 0, 15), (14, 1, 16), (14, 2, 17), (0, 3, 10), (10, 0, 11), (10, 1, 12), (10, 2, 13), (0, 2, 9), (0, 1, 5), (5, 0, 6), (5, 1, 7), (5, 2, 8), (0, 0, 1), (1, 0, 2), (1, 1, 3), (1, 2, 4)] (List.range 42) P11 := zK_fr K10 (by decide) (fun x hx => zclG_nf (by revert x; decide))
  have g11_0 : P11 0 0 = some 1 := (N11 (0, 0, 1) (by decide)).1
  have g11_5 : P11 0 5 = some 18 := (N11 (0, 5, 18) (by decide)).1
  have g11_6 : P11 0 6 = some 20 := (N11 (0, 6, 20) (by decide)).1
  have g11_1 : P11 0 1 = some 5 := (N11 (0, 1, 5) (by decide)).1
  obtain ⟨G11, m11, k11, fg11⟩ := mkrI (G := P11) (E := F11)
  have K11a : zK ([(41, 0, 1), (41, 1, 18), (41, 2, 20), (41, 3, 5)] ++ [(0, 9, 36), (36, 4, 37), (36, 5, 38), (36, 6, 39), (36, 10, 40), (36, 0, 1), (36, 1, 18), (36, 2, 20), (36, 3, 5), (0, 8, 33), (33, 2, 34), (33, 3, 35), (33, 0, 20), (33, 1, 5), (0, 7, 30), (30, 2, 31), (30, 3, 32), (30, 0, 1), (30, 1, 18), (0, 6, 20), (20, 1, 21), (20, 2, 22), (20, 3, 23), (20, 5, 24), (20, 6, 25), (20, 7, 26), (20, 8, 27), (20, 9, 28), (20, 13, 29), (20, 0, 1), (0, 5, 18), (18, 1, 19), (18, 0, 1), (0, 4, 14), (14, 0, 15), (14, 1, 16), (14, 2, 17), (0, 3, 10), (10, 0, 11), (10, 1, 12), (10, 2, 13), (0, 2, 9), (0, 1, 5), (5, 0, 6), (5, 1, 7), (5, 2, 8), (0, 0, 1), (1, 0, 2), (1, 1, 3), (1, 2, 4)]) (List.range 42) G11 := zK_ap k11 (zK_fr N11 (by decide) (fun x hx => fg11 _ (by revert x; decide)))
  let Q11 := zuG G11 0 10 (some 41)
  have K11 : zK [(0, 10, 41), (41, 0, 1), (41, 1, 18), (41, 2, 20), (41, 3, 5), (0, 9, 36), (36, 4, 37), (36, 5, 38), (36, 6, 39), (36, 10, 40), (36, 0, 1), (36, 1, 18), (36, 2, 20), (36, 3, 5), (0, 8, 33), (33, 2, 34), (33, 3, 35), (33, 0, 20), (33, 1, 5), (0, 7, 30), (30, 2, 31), (30, 3, 32), (30, 0, 1), (30, 1, 18), (0, 6, 20), (20, 1, 21), (20, 2, 22), (20, 3, 23), (20, 5, 24), (20, 6, 25), (20, 7, 26), (20, 8, 27), (20, 9, 28), (20, 13, 29), (20, 0, 1), (0, 5, 18), (18, 1, 19), (18, 0, 1), (0, 4, 14), (14, 0, 15), (14, 1, 16), (14, 2, 17), (0, 3, 10), (10, 0, 11), (10, 1, 12), (10, 2, 13), (0, 2, 9), (0, 1, 5), (5, 0, 6), (5, 1, 7), (5, 2, 8), (0, 0, 1), (1, 0, 2), (1, 1, 3), (1, 2, 4)] (List.range 42) Q11 := zK_put K11a (by decide) (by decide) (by decide)
  let P12 := zclG (Q11) 42
  let F12 := zclE (F11) 42
  have N12 : zK [(0, 10, 41), (41, 0, 1), (41, 1, 18), (41, 2, 20), (41, 3, 5), (0, 9, 36), (36, 4, 37), (36, 5, 38), (36, 6, 39), (36, 10, 40), (36, 0, 1), (36, 1, 18), (36, 2, 20), (36, 3, 5), (0, 8, 33), (33, 2, 34), (33, 3, 35), (33, 0, 20), (33, 1, 5), (0, 7, 30), (30, 2, 31), (30, 3, 32), (30, 0, 1), (30, 1, 18), (0, 6, 20), (20, 1, 21), (20, 2, 22), (20, 3, 23), (20, 5, 24), (20, 6, 25), (20, 7, 26), (20, 8, 27), (20, 9, 28), (20, 13, 29), (20, 0, 1), (0, 5, 18), (18, 1, 19), (18, 0, 1), (0, 4, 14), (14, 0, 15), (14, 1, 16), (14, 2, 17), (0, 3, 10), (10, 0, 11), (10, 1, 12), (10, 2, 13), (0, 2, 9), (0, 1, 5), (5, 0, 6), (5, 1, 7), (5, 2, 8), (0, 0, 1), (1, 0, 2), (1, 1, 3), (1, 2, 4)] (List.range 43) P12 := zK_fr K11 (by decide) (fun x hx => zclG_nf (by revert x; decide))
  have g12_0 : P12 0 0 = some 1 := (N12 (0, 0, 1) (by decide)).1
  have g12_1 : P12 0 1 = some 5 := (N12 (0, 1, 5) (by decide)).1
  obtain ⟨G12, E12, m12, k12, fg12, fe12⟩ := agI (G := P12) (E := F12)
  have K12a : zK ([(42, 2, 43), (42, 0, 1), (42, 1, 5)] ++ [(0, 10, 41), (41, 0, 1), (41, 1, 18), (41, 2, 20), (41, 3, 5), (0, 9, 36), (36, 4, 37), (36, 5, 38), (36, 6, 39), (36, 10, 40), (36, 0, 1), (36, 1, 18), (36, 2, 20), (36, 3, 5), (0, 8, 33), (33, 2, 34), (33, 3, 35), (33, 0, 20), (33, 1, 5), (0, 7, 30), (30, 2, 31), (30, 3, 32), (30, 0, 1), (30, 1, 18), (0, 6, 20), (20, 1, 21), (20, 2, 22), (20, 3, 23), (20, 5, 24), (20, 6, 25), (20, 7, 26), (20, 8, 27), (20, 9, 28), (20, 13, 29), (20, 0, 1), (0, 5, 18), (18, 1, 19), (18, 0, 1), (0, 4, 14), (14, 0, 15), (14, 1, 16), (14, 2, 17), (0, 3, 10), (10, 0, 11), (10, 1, 12), (10, 2, 13), (0, 2, 9), (0, 1, 5), (5, 0, 6), (5, 1, 7), (5, 2, 8), (0, 0, 1), (1, 0, 2), (1, 1, 3), (1, 2, 4)]) (List.range 44) G12 := zK_ap k12 (zK_fr N12 (by decide) (fun x hx => fg12 _ (by revert x; decide)))
  let Q12 := zuG G12 0 11 (some 42)
  have K12 : zK [(0, 11, 42), (42, 2, 43), (42, 0, 1), (42, 1, 5), (0, 10, 41), (41, 0, 1), (41, 1, 18), (41, 2, 20), (41, 3, 5), (0, 9, 36), (36, 4, 37), (36, 5, 38), (36, 6, 39), (36, 10, 40), (36, 0, 1), (36, 1, 18), (36, 2, 20), (36, 3, 5), (0, 8, 33), (33, 2, 34), (33, 3, 35), (33, 0, 20), (33, 1, 5), (0, 7, 30), (30, 2, 31), (30, 3, 32), (30, 0, 1), (30, 1, 18), (0, 6, 20), (20, 1, 21), (20, 2, 22), (20, 3, 23), (20, 5, 24), (20, 6, 25), (20, 7, 26), (20, 8, 27), (20, 9, 28), (20, 13, 29), (20, 0, 1), (0, 5, 18), (18, 1, 19), (18, 0, 1), (0, 4, 14), (14, 0, 15), (14, 1, 16), (14, 2, 17), (0, 3, 10), (10, 0, 11), (10, 1, 12), (10, 2, 13), (0, 2, 9), (0, 1, 5), (5, 0, 6), (5, 1, 7), (5, 2, 8), (0, 0, 1), (1, 0, 2), (1, 1, 3), (1, 2, 4)] (List.range 44) Q12 := zK_put K12a (by decide) (by decide) (by decide)
  let EF := (zuE (zuE (zuE (zuE (zuE (zuE (zuE (zuE (zuE E12 0 12 0) 0 13 4) 0 14 2000) 0 15 0) 0 16 0) 0 17 0) 0 18 0) 0 19 0) 0 20 0)
  have e0 : ∀ y : Nat, y ≠ 0 → EF y = E12 y := fun y hy => (zuE_nf hy).trans ((zuE_nf hy).trans ((zuE_nf hy).trans ((zuE_nf hy).trans ((zuE_nf hy).trans ((zuE_nf hy).trans ((zuE_nf hy).trans ((zuE_nf hy).trans ((zuE_nf hy)))))))))
  refine ⟨Q12, EF, zM_of rfl (Nat.le_of_ble_eq_true rfl) ⟨Nat.le_of_ble_eq_true rfl, by show zsl (List.range 1) ≤ zsl (List.range 44); decide +kernel⟩ ?_, fun x hx => K12 x (by revert x; decide), fun y hy => (zuG_nf (by omega)).trans ((fg12 y (by simp only [List.mem_cons, List.not_mem_nil, or_false, not_or]; omega)).trans ((zclG_nf (by omega)).trans ((zuG_nf (by omega)).trans ((fg11 y (by simp only [List.mem_cons, List.not_mem_nil, or_false, not_or]; omega)).trans ((zclG_nf (by omega)).trans ((zuG_nf (by omega)).trans ((fg10 y (by simp only [List.mem_cons, List.not_mem_nil, or_false, not_or]; omega)).trans ((zclG_nf (by omega)).trans ((zuG_nf (by omega)).trans ((fg9 y (by simp only [List.mem_cons, List.not_mem_nil, or_false, not_or]; omega)).trans ((zclG_nf (by omega)).trans ((zuG_nf (by omega)).trans ((fg8 y (by simp only [List.mem_cons, List.not_mem_nil, or_false, not_or]; omega)).trans ((zclG_nf (by omega)).trans ((zuG_nf (by omega)).trans ((fg7 y (by simp only [List.mem_cons, List.not_mem_nil, or_false, not_or]; omega)).trans ((zclG_nf (by omega)).trans ((zuG_nf (by omega)).trans ((fg6 y (by simp only [List.mem_cons, List.not_mem_nil, or_false, not_or]; omega)).trans ((zclG_nf (by omega)).trans ((zuG_nf (by omega)).trans ((fg5 y (by simp only [List.mem_cons, List.not_mem_nil, or_false, not_or]; omega)).trans ((zclG_nf (by omega)).trans ((zuG_nf (by omega)).trans ((fg4 y (by simp only [List.mem_cons, List.not_mem_nil, or_false, not_or]; omega)).trans ((zclG_nf (by omega)).trans ((zuG_nf (by omega)).trans ((zclG_nf (by omega)).trans ((zuG_nf (by omega)).trans ((fg2 y (by simp only [List.mem_cons, List.not_mem_nil, or_false, not_or]; omega)).trans ((zclG_nf (by omega)).trans ((zuG_nf (by omega)).trans ((fg1 y (by simp only [List.mem_cons, List.not_mem_nil, or_false, not_or]; omega)).trans (zclG_nf (by omega))))))))))))))))))))))))))))))))))), fun y hy => (e0 y (by omega)).trans ((fe12 y (by simp only [List.mem_cons, List.not_mem_nil, or_false, not_or]; omega)).trans ((zclE_nf (by omega)).trans ((zclE_nf (by omega)).trans ((fe10 y (by simp only [List.mem_cons, List.not_mem_nil, or_false, not_or]; omega)).trans ((zclE_nf (by omega)).trans ((fe9 y (by simp only [List.mem_cons, List.not_mem_nil, or_false, not_or]; omega)).trans ((zclE_nf (by omega)).trans ((fe8 y (by simp only [List.mem_cons, List.not_mem_nil, or_false, not_or]; omega)).trans ((zclE_nf (by omega)).trans ((fe7 y (by simp only [List.mem_cons, List.not_mem_nil, or_false, not_or]; omega)).trans ((zclE_nf (by omega)).trans ((fe6 y (by simp only [List.mem_cons, List.not_mem_nil, or_false, not_or]; omega)).trans ((zclE_nf (by omega)).trans ((fe5 y (by simp only [List.mem_cons, List.not_mem_nil, or_false, not_or]; omega)).trans ((zclE_nf (by omega)).trans ((fe4 y (by simp only [List.mem_cons, List.not_mem_nil, or_false, not_or]; omega)).trans ((zclE_nf (by omega)).trans ((zclE_nf (by omega)).trans ((fe2 y (by simp only [List.mem_cons, List.not_mem_nil, or_false, not_or]; omega)).trans ((zclE_nf (by omega)).trans ((fe1 y (by simp only [List.mem_cons, List.not_mem_nil, or_false, not_or]; omega)).trans (zclE_nf (by omega))))))))))))))))))))))), ⟨by rw [show EF 1 = E1 1 from (e0 1 (by decide)).trans ((fe12 1 (by decide)).trans ((zclE_nf (by decide)).trans ((zclE_nf (by decide)).trans ((fe10 1 (by decide)).trans ((zclE_nf (by decide)).trans ((fe9 1 (by decide)).trans ((zclE_nf (by decide)).trans ((fe8 1 (by decide)).trans ((zclE_nf (by decide)).trans ((fe7 1 (by decide)).trans ((zclE_nf (by decide)).trans ((fe6 1 (by decide)).trans ((zclE_nf (by decide)).trans ((fe5 1 (by decide)).trans ((zclE_nf (by decide)).trans ((fe4 1 (by decide)).trans ((zclE_nf (by decide)).trans ((zclE_nf (by decide)).trans ((fe2 1 (by decide)).trans (zclE_nf (by decide)))))))))))))))))))))]; exact a3, ((e0 2 (by decide)).trans ((fe12 2 (by decide)).trans ((zclE_nf (by decide)).trans ((zclE_nf (by decide)).trans ((fe10 2 (by decide)).trans ((zclE_nf (by decide)).trans ((fe9 2 (by decide)).trans ((zclE_nf (by decide)).trans ((fe8 2 (by decide)).trans ((zclE_nf (by decide)).trans ((fe7 2 (by decide)).trans ((zclE_nf (by decide)).trans ((fe6 2 (by decide)).trans ((zclE_nf (by decide)).trans ((fe5 2 (by decide)).trans ((zclE_nf (by decide)).trans ((fe4 2 (by decide)).trans ((zclE_nf (by decide)).trans ((zclE_nf (by decide)).trans ((fe2 2 (by decide)).trans (zclE_nf (by decide)))))))))))))))))))))).trans a2f, ((e0 3 (by decide)).trans ((fe12 3 (by decide)).trans ((zclE_nf (by decide)).trans ((zclE_nf (by decide)).trans ((fe10 3 (by decide)).trans ((zclE_nf (by decide)).trans ((fe9 3 (by decide)).trans ((zclE_nf (by decide)).trans ((fe8 3 (by decide)).trans ((zclE_nf (by decide)).trans ((fe7 3 (by decide)).trans ((zclE_nf (by decide)).trans ((fe6 3 (by decide)).trans ((zclE_nf (by decide)).trans ((fe5 3 (by decide)).trans ((zclE_nf (by decide)).trans ((fe4 3 (by decide)).trans ((zclE_nf (by decide)).trans ((zclE_nf (by decide)).trans ((fe2 3 (by decide)).trans (zclE_nf (by decide)))))))))))))))))))))).trans a3f, ((e0 4 (by decide)).trans ((fe12 4 (by decide)).trans ((zclE_nf (by decide)).trans ((zclE_nf (by decide)).trans ((fe10 4 (by decide)).trans ((zclE_nf (by decide)).trans ((fe9 4 (by decide)).trans ((zclE_nf (by decide)).trans ((fe8 4 (by decide)).trans ((zclE_nf (by decide)).trans ((fe7 4 (by decide)).trans ((zclE_nf (by decide)).trans ((fe6 4 (by decide)).trans ((zclE_nf (by decide)).trans ((fe5 4 (by decide)).trans ((zclE_nf (by decide)).trans ((fe4 4 (by decide)).trans ((zclE_nf (by decide)).trans ((zclE_nf (by decide)).trans ((fe2 4 (by decide)).trans (zclE_nf (by decide)))))))))))))))))))))).trans a4f⟩, by rw [show EF 5 = E2 5 from (e0 5 (by decide)).trans ((fe12 5 (by decide)).trans ((zclE_nf (by decide)).trans ((zclE_nf (by decide)).trans ((fe10 5 (by decide)).trans ((zclE_nf (by decide)).trans ((fe9 5 (by decide)).trans ((zclE_nf (by decide)).trans ((fe8 5 (by decide)).trans ((zclE_nf (by decide)).trans ((fe7 5 (by decide)).trans ((zclE_nf (by decide)).trans ((fe6 5 (by decide)).trans ((zclE_nf (by decide)).trans ((fe5 5 (by decide)).trans ((zclE_nf (by decide)).trans ((fe4 5 (by decide)).trans ((zclE_nf (by decide)).trans (zclE_nf (by decide)))))))))))))))))))]; exact s54, (zuG_nf (by decide)).trans ((fg12 6 (by decide)).trans ((zclG_nf (by decide)).trans ((zuG_nf (by decide)).trans ((fg11 6 (by decide)).trans ((zclG_nf (by decide)).trans ((zuG_nf (by decide)).trans ((fg10 6 (by decide)).trans ((zclG_nf (by decide)).trans ((zuG_nf (by decide)).trans ((fg9 6 (by decide)).trans ((zclG_nf (by decide)).trans ((zuG_nf (by decide)).trans ((fg8 6 (by decide)).trans ((zclG_nf (by decide)).trans ((zuG_nf (by decide)).trans ((fg7 6 (by decide)).trans ((zclG_nf (by decide)).trans ((zuG_nf (by decide)).trans ((fg6 6 (by decide)).trans ((zclG_nf (by decide)).trans ((zuG_nf (by decide)).trans ((fg5 6 (by decide)).trans ((zclG_nf (by decide)).trans ((zuG_nf (by decide)).trans ((fg4 6 (by decide)).trans ((zclG_nf (by decide)).trans ((zuG_nf (by decide)).trans ((zclG_nf (by decide)).trans ((zuG_nf (by decide)).trans (s6)))))))))))))))))))))))))))))), ((e0 19 (by decide)).trans ((fe12 19 (by decide)).trans ((zclE_nf (by decide)).trans ((zclE_nf (by decide)).trans ((fe10 19 (by decide)).trans ((zclE_nf (by decide)).trans ((fe9 19 (by decide)).trans ((zclE_nf (by decide)).trans ((fe8 19 (by decide)).trans ((zclE_nf (by decide)).trans ((fe7 19 (by decide)).trans (zclE_nf (by decide))))))))))))).trans c19, by rw [show EF 20 = E7 20 from (e0 20 (by decide)).trans ((fe12 20 (by decide)).trans ((zclE_nf (by decide)).trans ((zclE_nf (by decide)).trans ((fe10 20 (by decide)).trans ((zclE_nf (by decide)).trans ((fe9 20 (by decide)).trans ((zclE_nf (by decide)).trans ((fe8 20 (by decide)).trans (zclE_nf (by decide))))))))))]; exact t204, fun j j0 j1 => by rw [show EF 22 = E7 22 from (e0 22 (by decide)).trans ((fe12 22 (by decide)).trans ((zclE_nf (by decide)).trans ((zclE_nf (by decide)).trans ((fe10 22 (by decide)).trans ((zclE_nf (by decide)).trans ((fe9 22 (by decide)).trans ((zclE_nf (by decide)).trans ((fe8 22 (by decide)).trans (zclE_nf (by decide))))))))))]; exact t22 j j0 j1, by simp [EF, zuE], by simp [EF, zuE], by simp [EF, zuE], by simp [EF, zuE], by simp [EF, zuE], by simp [EF, zuE], by simp [EF, zuE], by simp [EF, zuE], by simp [EF, zuE]⟩
  · refine X11_init_0 (by decide) ?_
    refine ⟨1, rfl, by decide, by unfold zst3; decide, Nat.le_of_ble_eq_true rfl, by show zsl _ + _ ≤ zsl (List.range 44); decide +kernel, fun d_ _ _ h1 h2 h3 => ?_⟩
    have hd : d_ = List.range 2 := h1
    subst h2; subst h3; subst hd
    refine ⟨List.range 5, G1, E1, m1, Or.inr ⟨Nat.le_of_ble_eq_true rfl, by show zsl _ ≤ zsl (List.range 44); decide +kernel⟩, by decide, by decide, fun _ h => ?_⟩
    subst h
    refine ⟨5, rfl, by decide, by unfold zst3; decide, Nat.le_of_ble_eq_true rfl, by show zsl _ + _ ≤ zsl (List.range 44); decide +kernel, fun d_ _ _ h1 h2 h3 => ?_⟩
    have hd : d_ = List.range 6 := h1
    subst h2; subst h3; subst hd
    refine ⟨List.range 9, G2, E2, m2, Or.inr ⟨Nat.le_of_ble_eq_true rfl, by show zsl _ ≤ zsl (List.range 44); decide +kernel⟩, by decide, by decide, fun _ h => ?_⟩
    subst h
    refine ⟨9, rfl, by decide, by decide, by decide, by unfold zst3; decide, Nat.le_of_ble_eq_true rfl, by show zsl _ + _ ≤ zsl (List.range 44); decide +kernel, fun d_ _ _ h1 h2 h3 => ?_⟩
    have hd : d_ = List.range 10 := h1
    subst h2; subst h3; subst hd
    intro _ h; subst h
    refine ⟨10, rfl, by decide, by unfold zst3; decide, Nat.le_of_ble_eq_true rfl, by show zsl _ + _ ≤ zsl (List.range 44); decide +kernel, fun d_ _ _ h1 h2 h3 => ?_⟩
    have hd : d_ = List.range 11 := h1
    subst h2; subst h3; subst hd
    refine ⟨List.range 14, G4, E4, m4, Or.inr ⟨Nat.le_of_ble_eq_true rfl, by show zsl _ ≤ zsl (List.range 44); decide +kernel⟩, by decide, by decide, fun _ h => ?_⟩
    subst h
    refine ⟨14, rfl, by decide, by unfold zst3; decide, Nat.le_of_ble_eq_true rfl, by show zsl _ + _ ≤ zsl (List.range 44); decide +kernel, fun d_ _ _ h1 h2 h3 => ?_⟩
    have hd : d_ = List.range 15 := h1
    subst h2; subst h3; subst hd
    refine ⟨List.range 18, G5, E5, m5, Or.inr ⟨Nat.le_of_ble_eq_true rfl, by show zsl _ ≤ zsl (List.range 44); decide +kernel⟩, by decide, by decide, fun _ h => ?_⟩
    subst h
    refine ⟨18, rfl, by decide, by unfold zst3; decide, Nat.le_of_ble_eq_true rfl, by show zsl _ + _ ≤ zsl (List.range 44); decide +kernel, fun d_ _ _ h1 h2 h3 => ?_⟩
    have hd : d_ = List.range 19 := h1
    subst h2; subst h3; subst hd
    refine ⟨List.range 20, G6, E6, by show zM _ [zR 18, zO (P6 0 0)] (_, P6, F6) _ _; rw [g6_0]; exact m6, Or.inr ⟨Nat.le_of_ble_eq_true rfl, by show zsl _ ≤ zsl (List.range 44); decide +kernel⟩, by decide, by decide, fun _ h => ?_⟩
    subst h
    refine ⟨20, rfl, by decide, by unfold zst3; decide, Nat.le_of_ble_eq_true rfl, by show zsl _ + _ ≤ zsl (List.range 44); decide +kernel, fun d_ _ _ h1 h2 h3 => ?_⟩
    have hd : d_ = List.range 21 := h1
    subst h2; subst h3; subst hd
    refine ⟨List.range 30, G7, E7, by show zM _ [zR 20, zO (P7 0 0)] (_, P7, F7) _ _; rw [g7_0]; exact m7, Or.inr ⟨Nat.le_of_ble_eq_true rfl, by show zsl _ ≤ zsl (List.range 44); decide +kernel⟩, by decide, by decide, fun _ h => ?_⟩
    subst h
    refine ⟨30, rfl, by decide, by unfold zst3; decide, Nat.le_of_ble_eq_true rfl, by show zsl _ + _ ≤ zsl (List.range 44); decide +kernel, fun d_ _ _ h1 h2 h3 => ?_⟩
    have hd : d_ = List.range 31 := h1
    subst h2; subst h3; subst hd
    refine ⟨List.range 33, G8, E8, by show zM _ [zR 30, zO (P8 0 0), zO (P8 0 5)] (_, P8, F8) _ _; rw [g8_0, g8_5]; exact m8, Or.inr ⟨Nat.le_of_ble_eq_true rfl, by show zsl _ ≤ zsl (List.range 44); decide +kernel⟩, by decide, by decide, fun _ h => ?_⟩
    subst h
    refine ⟨33, rfl, by decide, by unfold zst3; decide, Nat.le_of_ble_eq_true rfl, by show zsl _ + _ ≤ zsl (List.range 44); decide +kernel, fun d_ _ _ h1 h2 h3 => ?_⟩
    have hd : d_ = List.range 34 := h1
    subst h2; subst h3; subst hd
    refine ⟨List.range 36, G9, E9, by show zM _ [zR 33, zO (P9 0 6), zO (P9 0 1)] (_, P9, F9) _ _; rw [g9_6, g9_1]; exact m9, Or.inr ⟨Nat.le_of_ble_eq_true rfl, by show zsl _ ≤ zsl (List.range 44); decide +kernel⟩, by decide, by decide, fun _ h => ?_⟩
    subst h
    refine ⟨36, rfl, by decide, by unfold zst3; decide, Nat.le_of_ble_eq_true rfl, by show zsl _ + _ ≤ zsl (List.range 44); decide +kernel, fun d_ _ _ h1 h2 h3 => ?_⟩
    have hd : d_ = List.range 37 := h1
    subst h2; subst h3; subst hd
    refine ⟨List.range 41, G10, E10, by show zM _ [zR 36, zO (P10 0 0), zO (P10 0 5), zO (P10 0 6), zO (P10 0 1)] (_, P10, F10) _ _; rw [g10_0, g10_5, g10_6, g10_1]; exact m10, Or.inr ⟨Nat.le_of_ble_eq_true rfl, by show zsl _ ≤ zsl (List.range 44); decide +kernel⟩, by decide, by decide, fun _ h => ?_⟩
    subst h
    refine ⟨41, rfl, by decide, by unfold zst3; decide, Nat.le_of_ble_eq_true rfl, by show zsl _ + _ ≤ zsl (List.range 44); decide +kernel, fun d_ _ _ h1 h2 h3 => ?_⟩
    have hd : d_ = List.range 42 := h1
    subst h2; subst h3; subst hd
    refine ⟨G11, by show zM _ [zR 41, zO (P11 0 0), zO (P11 0 5), zO (P11 0 6), zO (P11 0 1)] (_, P11, F11) _ _; rw [g11_0, g11_5, g11_6, g11_1]; exact m11, by decide, by decide, fun _ h => ?_⟩
    subst h
    refine ⟨42, rfl, by decide, by unfold zst3; decide, Nat.le_of_ble_eq_true rfl, by show zsl _ + _ ≤ zsl (List.range 44); decide +kernel, fun d_ _ _ h1 h2 h3 => ?_⟩
    have hd : d_ = List.range 43 := h1
    subst h2; subst h3; subst hd
    refine ⟨List.range 44, G12, E12, by show zM _ [zR 42, zO (P12 0 0), zO (P12 0 1)] (_, P12, F12) _ _; rw [g12_0, g12_1]; exact m12, Or.inr ⟨Nat.le_of_ble_eq_true rfl, by show zsl _ ≤ zsl (List.range 44); decide +kernel⟩, by decide, by decide, fun _ h => ?_⟩
    subst h
    intro _ h; subst h
    intro _ h; subst h
    intro _ h; subst h
    intro _ h; subst h
    intro _ h; subst h
    intro _ h; subst h
    intro _ h; subst h
    intro _ h; subst h
    intro _ h; subst h
    exact ⟨rfl, rfl⟩
def dM0 : List Nat := List.range 44 ++ [50]
def dM1 : List Nat := dM0 ++ [52, 53, 54, 56, 58, 59, 60, 61, 62, 63, 64, 65, 66, 67, 68, 69, 70, 71, 72, 73, 74, 76, 77, 78, 80, 81, 82, 83, 84, 85, 92, 97, 98, 99, 100, 101, 102, 104, 110]
end TN
