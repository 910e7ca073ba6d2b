/-! ===== the sides of an EQUAL changed over; what goes ===== -/
def swp (w : List Int) (t : Nat) : List Int := w.take 1 ++ (w.drop (1 + t) ++ (w.drop 1).take t)
theorem swp_len {w : List Int} {t : Nat} (h : 1 + t ≤ w.length) : (swp w t).length = w.length := by
  unfold swp
  rw [List.length_append, List.length_append, List.length_take, List.length_drop, List.length_take, List.length_drop]
  omega
theorem swp_0 {w : List Int} {t : Nat} (h : 1 + t ≤ w.length) : (swp w t).getD 0 0 = w.getD 0 0 := by
  unfold swp
  rw [List.getD_eq_getElem?_getD, List.getD_eq_getElem?_getD, List.getElem?_append_left (by rw [List.length_take]; omega), List.getElem?_take_of_lt (by omega)]
theorem swp_l {w : List Int} {t k : Nat} (h : 1 + t + k < w.length) : (swp w t).getD (1 + k) 0 = w.getD (1 + t + k) 0 := by
  unfold swp
  rw [List.getD_eq_getElem?_getD, List.getD_eq_getElem?_getD, List.getElem?_append_right (by rw [List.length_take]; omega), List.length_take, List.getElem?_append_left (by rw [List.length_drop]; omega), List.getElem?_drop]
  congr 2
  omega
theorem swp_r {w : List Int} {t u k : Nat} (h : 1 + t + u = w.length) (hk : k < t) : (swp w t).getD (1 + u + k) 0 = w.getD (1 + k) 0 := by
  unfold swp
  rw [List.getD_eq_getElem?_getD, List.getD_eq_getElem?_getD, List.getElem?_append_right (by rw [List.length_take]; omega), List.length_take, List.getElem?_append_right (by rw [List.length_drop]; omega), List.length_drop, List.getElem?_take_of_lt (by omega), List.getElem?_drop]
  congr 2
  omega
/-- an EQUAL with its sides in order -/
noncomputable def sw (P W : Int → Int) (w : List Int) : List Int := @ite _ (fw w 0 = 0 ∧ kg P W (fw w) (fw w) 1000 (1 + tl P (fw w) 1) 1) (Classical.propDecidable _) (swp w (tl P (fw w) 1)) w
theorem fw_c {w : List Int} {i : Int} {n : Nat} (h : i = n) : fw w i = w.getD n 0 := by rw [h, fw_nat]
theorem swp_wok {P : Int → Int} {w : List Int} {t u : Nat} (hP : pok P) (h2 : P 0 = 2) (hw : wok1 P w) (h0 : fw w 0 = 0) (ht : tm P (fw w) 1 t) (hu : tm P (fw w) (1 + t) u) (htu : 1 + t + u = w.length) : wok1 P (swp w t) := by
  have z0 : fw (swp w t) 0 = 0 := by
    have := swp_0 (w := w) (t := t) (by omega)
    have e : fw (swp w t) 0 = (swp w t).getD 0 0 := rfl
    rw [e, this]; exact h0
  have a1 : tm P (fw (swp w t)) (0 + 1) u := tm_congr hu (fun k hk => by
    rw [fw_c (n := 1 + t + k) (by omega), fw_c (n := 1 + k) (by omega), swp_l (by omega)])
  have a2 : tm P (fw (swp w t)) (0 + 1 + u) t := tm_congr ht (fun k hk => by
    rw [fw_c (n := 1 + k) (by omega), fw_c (n := 1 + u + k) (by omega), swp_r htu hk])
  have a3 := ts_cons a1 (ts_1.2 a2)
  refine ⟨?_, by omega, fun k hk => ?_⟩
  · rw [swp_len (by omega)]
    have := tm_cons (P := P) (f := fw (swp w t)) (i := 0) (n := u + t) (by omega) (by omega) hP (by rw [z0, h2]; exact a3)
    have e : 1 + (u + t) = w.length := by omega
    rw [e] at this
    exact this
  · rw [swp_len (by omega)] at hk
    rw [fw_nat]
    rcases (by omega : k = 0 ∨ 1 ≤ k ∧ k < 1 + u ∨ 1 + u ≤ k) with c | c | c
    · subst c
      rw [swp_0 (by omega), ← fw_nat]; exact hw.2.2 0 (by omega)
    · have e : k = 1 + (k - 1) := by omega
      rw [e, swp_l (by omega), ← fw_nat]; exact hw.2.2 _ (by omega)
    · have e : k = 1 + u + (k - 1 - u) := by omega
      rw [e, swp_r htu (by omega), ← fw_nat]; exact hw.2.2 _ (by omega)
theorem sw_wok {P W : Int → Int} {w : List Int} (hP : pok P) (h2 : P 0 = 2) (hw : wok1 P w) : wok1 P (sw P W w) := by
  unfold sw
  split
  · rename_i c
    obtain ⟨t, u, ht, hu, htu, htl⟩ := wok1_eq hP h2 hw c.1
    rw [htl]
    exact swp_wok hP h2 hw c.1 ht hu htu
  · exact hw
theorem sw_len {P W : Int → Int} {w : List Int} (hP : pok P) (h2 : P 0 = 2) (hw : wok1 P w) : (sw P W w).length = w.length := by
  unfold sw
  split
  · rename_i c
    obtain ⟨t, u, ht, hu, htu, htl⟩ := wok1_eq hP h2 hw c.1
    rw [htl]
    exact swp_len (by omega)
  · rfl
theorem sw_no {P W : Int → Int} {w : List Int} (h : fw w 0 ≠ 0) : sw P W w = w := if_neg (fun q => h q.1)
/-- a row with another word of the same length in it -/
theorem rowC_word {E E' : Nat → Int → Int} {r : Nat} {A B : List zLt} {dn : Int} {w v : List Int} (hA : rowC E r (A ++ (dn, w) :: B)) (hv : v.length = w.length) (h0 : E' r = E r) (h2 : E' (r + 2) = E (r + 2)) (h3 : E' (r + 3) = E (r + 3)) (ho : ∀ k : Int, k < offs A A.length ∨ (offs A A.length : Int) + w.length ≤ k → E' (r + 1) k = E (r + 1) k) (hi : ∀ k : Nat, k < v.length → E' (r + 1) ((offs A A.length : Int) + k) = v.getD k 0) : rowC E' r (A ++ (dn, v) :: B) := by
  have lens : (A ++ (dn, v) :: B).length = (A ++ (dn, w) :: B).length := by rw [len_m, len_m]
  have lits : ∀ l, (lit (A ++ (dn, v) :: B) l).2.length = (lit (A ++ (dn, w) :: B) l).2.length ∧ (lit (A ++ (dn, v) :: B) l).1 = (lit (A ++ (dn, w) :: B) l).1 ∧ (l ≠ A.length → lit (A ++ (dn, v) :: B) l = lit (A ++ (dn, w) :: B) l) := fun l => by
    rcases (by omega : l < A.length ∨ l = A.length ∨ A.length < l) with c | c | c
    · rw [lit_l c, lit_l c]; exact ⟨rfl, rfl, fun _ => rfl⟩
    · subst c; rw [lit_m, lit_m]; exact ⟨hv, rfl, fun q => absurd rfl q⟩
    · have e : l = A.length + 1 + (l - A.length - 1) := by omega
      rw [e, lit_m2, lit_m2]; exact ⟨rfl, rfl, fun _ => rfl⟩
  have os : ∀ l, offs (A ++ (dn, v) :: B) l = offs (A ++ (dn, w) :: B) l := fun l => offs_eq (fun k _ => (lits k).1)
  obtain ⟨a1, a2, a3, a4⟩ := hA
  rw [lens.symm] at a1 a2
  refine ⟨by rw [h0]; exact a1, a2, fun l hl => by rw [h2, os]; exact a3 l (by omega), fun l hl => ?_⟩
  obtain ⟨b1, b2, b3, b4⟩ := a4 l (by omega)
  rw [h3, (lits l).2.1, (lits l).1, os]
  refine ⟨b1, b2, b3, fun k hk => ?_⟩
  rcases (by omega : l < A.length ∨ l = A.length ∨ A.length < l) with c | c | c
  · rw [(lits l).2.2 (by omega), ← b4 k hk]
    apply ho
    have : offs (A ++ (dn, w) :: B) (l + 1) ≤ offs (A ++ (dn, w) :: B) A.length := offs_mono (by omega)
    simp only [offs] at this
    rw [offs_m] at this
    omega
  · subst c
    rw [lit_m] at hk ⊢
    rw [offs_m]
    exact hi k (by rw [hv]; exact hk)
  · rw [(lits l).2.2 (by omega), ← b4 k hk]
    apply ho
    have : offs (A ++ (dn, w) :: B) (A.length + 1) ≤ offs (A ++ (dn, w) :: B) l := offs_mono (by omega)
    simp only [offs] at this
    rw [offs_m, lit_m] at this
    dsimp only at this
    omega
section PR
variable {d : List Nat} {G : Nat → Int → Option Nat} {E : Nat → Int → Int}
theorem sortSides_ok {r : Nat} {A B : List zLt} {dn : Int} {w : List Int} (hX : zK zXt d G) (hr : zRk d G r) (hr1 : r + 3 < 18 ∨ 40 < r) (hA : rowC E r (A ++ (dn, w) :: B)) (hP : pok (E 3)) (hW : wok (E 4)) (h2 : E 3 0 = 2) (h19 : ∀ L : Int, 0 ≤ L → L < 40 → E 19 L = 0) (hw : wok1 (E 3) w) (h0 : fw w 0 = 0) :
    ∃ E' : Nat → Int → Int, zM zm_X2_sortSides [zR 30, zR r, zI (A.length : Int)] (d, G, E) none (d, G, E') ∧ rowC E' r (A ++ (dn, sw (E 3) (E 4) w) :: B) ∧ fz [18, 19, 31, r + 1] E E' ∧ ∀ L : Int, 0 ≤ L → L < 40 → E' 19 L = 0 := by
  have h6 := hA.2.1
  have hlen := len_m (A := A) (B := B) (y := (dn, w))
  have w30 : w.length ≤ 30 := by
    have := (hA.2.2.2 A.length (by omega)).2.2.1
    rw [lit_m] at this; exact this
  have hl := rowC_lk hA (l := A.length) (by omega)
  rw [lit_m, offs_m] at hl
  dsimp only at hl
  have o1 := hA.2.2.1 A.length (by omega)
  rw [offs_m] at o1
  have o2 := hA.2.2.1 (A.length + 1) (by omega)
  have e2 : offs (A ++ (dn, w) :: B) (A.length + 1) = offs A A.length + w.length := by
    simp only [offs]; rw [offs_m, lit_m]
  rw [e2] at o2
  have e3 : ((A.length + 1 : Nat) : Int) = (A.length : Int) + 1 := by omega
  rw [e3] at o2
  have bnd := rowC_le hA (l := A.length + 1) (by omega)
  rw [e2] at bnd
  obtain ⟨t, u, ht, hu, ht', hu', htu, htl, _⟩ := sides_at hP h2 hw h0 hl
  have m1 := after_ok (E := E) (a := r + 1) hX hr.2.2.2.2.2.1 hr.2.1 hP ht' (by omega) (by omega) (by omega)
  have lo : ∀ k : Nat, k < w.length → -40 ≤ E (r + 1) ((offs A A.length : Int) + k) := fun k hk => by
    rw [hl k hk, fw_0, ← fw_nat]; exact hw.2.2 k hk
  obtain ⟨x, E1, m2, f1, s1, hx⟩ := compare_gr (E := E) (a := r + 1) (b := r + 1) (N := 1000) hX hr.2.2.2.2.2.1 hr.2.1 hr.2.2.2.2.2.1 hr.2.1 hP hW (by omega) (by omega) (by omega) (by omega) (by omega) (by omega) (by omega) (by omega) h19 hu' ht' (by omega) (by omega) (by omega) (by omega)
    (fun k hk => by have := lo (1 + t + k) (by omega); have e : (offs A A.length : Int) + ((1 + t + k : Nat) : Int) = offs A A.length + 1 + t + k := by omega
                    rw [e] at this; exact this)
    (fun k hk => by have := lo (1 + k) (by omega); have e : (offs A A.length : Int) + ((1 + k : Nat) : Int) = offs A A.length + 1 + k := by omega
                    rw [e] at this; exact this)
  have c1 : ∀ k : Nat, k < t → E (r + 1) ((offs A A.length : Int) + 1 + k) = fw w (1 + k) := fun k hk => by
    have := hl (1 + k) (by omega)
    have e4 : (0 : Int) + ((1 + k : Nat) : Int) = 1 + k := by omega
    have e5 : (offs A A.length : Int) + ((1 + k : Nat) : Int) = offs A A.length + 1 + k := by omega
    rw [e4, e5] at this
    exact this
  have c2 : ∀ k : Nat, k < u → E (r + 1) ((offs A A.length : Int) + 1 + t + k) = fw w (1 + t + k) := fun k hk => by
    have := hl (1 + t + k) (by omega)
    have e4 : (0 : Int) + ((1 + t + k : Nat) : Int) = 1 + t + k := by omega
    have e5 : (offs A A.length : Int) + ((1 + t + k : Nat) : Int) = offs A A.length + 1 + t + k := by omega
    rw [e4, e5] at this
    exact this
  rw [kg_iff hP hu' ht' c2 c1] at hx
  have g2 : E1 (r + 2) = E (r + 2) := f1 _ (by simp; omega)
  have g0 : E1 r = E r := f1 _ (by simp; omega)
  have g1 : E1 (r + 1) = E (r + 1) := f1 _ (by simp; omega)
  have g3 : E1 (r + 3) = E (r + 3) := f1 _ (by simp; omega)
  by_cases hg : kg (E 3) (E 4) (fw w) (fw w) 1000 (1 + (t : Int)) 1
  · have x1 : x = 1 := hx.2 hg
    have esw : sw (E 3) (E 4) w = swp w t := by
      unfold sw; rw [htl]; exact if_pos ⟨h0, hg⟩
    let E2 := zcpE E1 (r + 1) ((offs A A.length : Int) + 1) 31 0 t
    let E3 := zcpE E2 (r + 1) ((offs A A.length : Int) + 1 + t) (r + 1) ((offs A A.length : Int) + 1) u
    let E4 := zcpE E3 31 0 (r + 1) ((offs A A.length : Int) + 1 + u) t
    have n4 : ∀ y : Nat, y ≠ 31 → y ≠ r + 1 → E4 y = E1 y := fun y y1 y2 => (zcpE_nf y2).trans ((zcpE_nf y2).trans (zcpE_nf y1))
    have v31 : ∀ k : Nat, k < t → E3 31 k = E (r + 1) ((offs A A.length : Int) + 1 + k) := fun k hk => by
      have a : E3 31 = E2 31 := zcpE_nf (by omega)
      rw [a]
      refine (zcpE_in (by omega) (by omega)).trans ?_
      rw [g1]; congr 1; try omega
    have b1 : E2 (r + 1) = E (r + 1) := (zcpE_nf (by omega)).trans g1
    refine ⟨E4, zM_e rfl (Nat.le_of_ble_eq_true rfl) (fun kz Q hQ => X2_sortSides_0 hX hr ⟨⟨by omega, by omega⟩, by rw [o1]; exact zin_of (by omega) (by omega), _, by rw [o1]; exact m1, x, E1, by rw [o1]; exact m2, fun _ => ?_, fun c => absurd x1 c⟩), ?_, ?_, ?_⟩
    · rw [o1, g2, o2]
      have q1 : (offs A A.length : Int) + 1 + t - (offs A A.length + 1) = t := by omega
      have q2 : ((offs A A.length + w.length : Nat) : Int) - (offs A A.length + 1 + t) = u := by omega
      rw [q1, q2]
      refine ⟨zin_of (by omega) (by omega), zin_of (by omega) (by omega), ⟨by omega, by omega⟩, zin_of (by omega) (by omega), ⟨by omega, by omega, by omega, by omega, by omega⟩, fun F1 h1 => ⟨⟨by omega, by omega, by omega, by omega, by omega⟩, fun F2 h2 => ⟨zin_of (by omega) (by omega), ⟨by omega, by omega, by omega, by omega, by omega⟩, fun F3 h3 => ?_⟩⟩⟩
      rw [h3, h2, h1]; exact hQ
    · rw [esw]
      refine rowC_word hA (swp_len (by omega)) ?_ ?_ ?_ (fun k hk => ?_) (fun k hk => ?_)
      · rw [n4 _ (by omega) (by omega), g0]
      · rw [n4 _ (by omega) (by omega), g2]
      · rw [n4 _ (by omega) (by omega), g3]
      · refine (zcpE_out (by omega)).trans ((zcpE_out (by omega)).trans ?_)
        rw [b1]
      · rw [swp_len (by omega)] at hk
        rcases (by omega : k = 0 ∨ 1 ≤ k ∧ k < 1 + u ∨ 1 + u ≤ k) with c | c | c
        · subst c
          refine (zcpE_out (by omega)).trans ((zcpE_out (by omega)).trans ?_)
          rw [b1, swp_0 (by omega), hl 0 (by omega), fw_0]
        · refine (zcpE_out (by omega)).trans ((zcpE_in (by omega) (by omega)).trans ?_)
          rw [b1]
          have e : (offs A A.length : Int) + 1 + t + ((offs A A.length : Int) + k - (offs A A.length + 1)) = offs A A.length + 1 + t + ((k - 1 : Nat) : Int) := by omega
          rw [e, c2 (k - 1) (by omega), fw_c (n := 1 + t + (k - 1)) (by omega)]
          have e' : k = 1 + (k - 1) := by omega
          rw [e', swp_l (by omega)]
          congr 1
          try omega
        · refine (zcpE_in (by omega) (by omega)).trans ?_
          have e : (0 : Int) + ((offs A A.length : Int) + k - (offs A A.length + 1 + u)) = ((k - 1 - u : Nat) : Int) := by omega
          rw [e, v31 _ (by omega), c1 _ (by omega), fw_c (n := 1 + (k - 1 - u)) (by omega)]
          have e' : k = 1 + u + (k - 1 - u) := by omega
          rw [e', swp_r htu (by omega)]
          congr 2
          omega
    · intro y hy
      simp at hy
      rw [n4 y (by omega) (by omega)]
      exact f1 y (by simp; omega)
    · intro L l1 l2
      rw [n4 19 (by omega) (by omega)]
      exact s1 L l1 l2
  · have x1 : x ≠ 1 := fun c => hg (hx.1 c)
    have esw : sw (E 3) (E 4) w = w := by
      unfold sw; rw [htl]; exact if_neg (fun q => hg q.2)
    refine ⟨E1, zM_e rfl (Nat.le_of_ble_eq_true rfl) (fun kz Q hQ => X2_sortSides_0 hX hr ⟨⟨by omega, by omega⟩, by rw [o1]; exact zin_of (by omega) (by omega), _, by rw [o1]; exact m1, x, E1, by rw [o1]; exact m2, fun c => absurd c x1, fun _ => hQ⟩), ?_, ?_, s1⟩
    · rw [esw]
      exact rowC_fz hA f1 (by simp; omega) (by simp; omega) (by simp; omega) (by simp; omega)
    · exact fz_mono f1 (fun y hy => by simp at hy ⊢; omega)
/-- what goes from a row in cleaning: behind those that stay -/
def goesP (P : Int → Int) (A : List zLt) (y : zLt) : Prop := (y.1 = 1 ∧ fw y.2 0 = 0 ∧ lks P y.2) ∨ ∃ k, k < A.length ∧ lit A k = y
theorem goes_ok {r : Nat} {A B : List zLt} {y : zLt} (hX : zK zXt d G) (hr : zRk d G r) (hA : rowC E r (A ++ y :: B)) (hP : pok (E 3)) (h2 : E 3 0 = 2) (hw : ∀ l : Nat, l < (A ++ y :: B).length → wok1 (E 3) (lit (A ++ y :: B) l).2) :
    ∃ x : Int, zM zm_X2_goes [zR 30, zR r, zI (A.length : Int)] (d, G, E) (some (zI x)) (d, G, E) ∧ (x = 1 ∧ goesP (E 3) A y ∨ x = 0 ∧ ¬ goesP (E 3) A y) := by
  have h6 := hA.2.1
  have hlen := len_m (A := A) (B := B) (y := y)
  obtain ⟨dy, dy2, y30, _⟩ := hA.2.2.2 A.length (by omega)
  rw [lit_m] at dy dy2 y30
  have loop : ∀ m j : Nat, j + m = A.length → ∃ x : Int, zgo zm_X2_goes 33 [(1, zR r), (2, zI (A.length : Int)), (3, zI (j : Int))] [] (d, G, E) (some (zI x)) (d, G, E) ∧ (x = 1 ∧ (∃ k, k < A.length ∧ lit A k = y) ∨ x = 0 ∧ ∀ k, j ≤ k → k < A.length → lit A k ≠ y) := by
    intro m
    induction m with
    | zero => exact fun j hj => ⟨0, fun kz Q hQ => X2_goes_33 hX hr ⟨fun _ => hQ, fun c => absurd (by omega) c⟩, Or.inr ⟨rfl, fun k k1 k2 => by omega⟩⟩
    | succ m ih =>
      intro j hj
      obtain ⟨x, go, hx⟩ := ih (j + 1) (by omega)
      have ej : ((j + 1 : Nat) : Int) = (j : Int) + 1 := by omega
      rw [ej] at go
      have dj := (hA.2.2.2 j (by omega)).1
      rw [lit_l (by omega)] at dj
      have en : lit A j ≠ y → (x = 1 ∧ (∃ k, k < A.length ∧ lit A k = y) ∨ x = 0 ∧ ∀ k, j ≤ k → k < A.length → lit A k ≠ y) := fun ne => by
        rcases hx with h | ⟨a, b⟩
        · exact Or.inl h
        · refine Or.inr ⟨a, fun k k1 k2 => ?_⟩
          rcases (by omega : k = j ∨ j + 1 ≤ k) with e | e
          · subst e; exact ne
          · exact b k e k2
      by_cases hd : (lit A j).1 = y.1
      · obtain ⟨z, mz, hz⟩ := saysAlike_ok (E := E) hX hr hA (i := j) (j := A.length) (by omega) (by omega)
        rw [lit_m, lit_l (by omega)] at hz
        rcases hz with ⟨z1, z2⟩ | ⟨z1, z2⟩
        · subst z1
          exact ⟨1, fun kz Q hQ => X2_goes_33 hX hr ⟨fun c => absurd c (by omega), fun _ => ⟨⟨by omega, by omega⟩, ⟨by omega, by omega⟩, fun c => absurd (by rw [dj, dy]; exact hd) c, fun _ => ⟨_, mz, fun c => absurd c (by omega), fun _ => hQ⟩⟩⟩, Or.inl ⟨rfl, j, by omega, Prod.ext hd z2⟩⟩
        · subst z1
          exact ⟨x, fun kz Q hQ => X2_goes_33 hX hr ⟨fun c => absurd c (by omega), fun _ => ⟨⟨by omega, by omega⟩, ⟨by omega, by omega⟩, fun c => absurd (by rw [dj, dy]; exact hd) c, fun _ => ⟨_, mz, fun _ => ⟨zin_of (by omega) (by omega), go kz Q hQ⟩, fun c => absurd rfl c⟩⟩⟩, en (fun e => z2 (by rw [e]))⟩
      · exact ⟨x, fun kz Q hQ => X2_goes_33 hX hr ⟨fun c => absurd c (by omega), fun _ => ⟨⟨by omega, by omega⟩, ⟨by omega, by omega⟩, fun _ => ⟨zin_of (by omega) (by omega), go kz Q hQ⟩, fun c => absurd (by rw [dj, dy]; exact hd) c⟩⟩, en (fun e => hd (by rw [e]))⟩
  obtain ⟨x, go, hx⟩ := loop A.length 0 (by omega)
  have en : ¬ (y.1 = 1 ∧ fw y.2 0 = 0 ∧ lks (E 3) y.2) → (x = 1 ∧ goesP (E 3) A y ∨ x = 0 ∧ ¬ goesP (E 3) A y) := fun nn => by
    rcases hx with ⟨a, b⟩ | ⟨a, b⟩
    · exact Or.inl ⟨a, Or.inr b⟩
    · refine Or.inr ⟨a, ?_⟩
      rintro (c | ⟨k, k1, k2⟩)
      · exact nn c
      · exact b k (Nat.zero_le _) k1 k2
  rcases dy2 with d0 | d1
  · exact ⟨x, zM_go rfl (Nat.le_of_ble_eq_true rfl) (fun kz Q hQ => X2_goes_0 hX hr ⟨⟨by omega, by omega⟩, fun _ => go kz Q hQ, fun c => absurd (by omega) c⟩), en (fun q => by omega)⟩
  · obtain ⟨q, mq, hq⟩ := isEqual_ok (E := E) hX hr hA (fun l hl => wok1_pos (hw l hl)) (A.length : Int)
    have et : ((A.length : Int)).toNat = A.length := by omega
    rw [et, lit_m] at hq
    rcases hq with ⟨q1, q2⟩ | ⟨q1, q2⟩
    · subst q1
      have f0 : fw y.2 0 = 0 := q2.2.2
      have hwy := hw A.length (by omega)
      have hq3 := hasLikeSides_ok (E := E) (i := A.length) hX hr hA (by omega) hP h2 hwy (by rw [lit_m]; exact f0)
      rw [lit_m] at hq3
      obtain ⟨z, mz, hz⟩ := hq3
      rcases hz with ⟨z1, z2⟩ | ⟨z1, z2⟩
      · subst z1
        exact ⟨1, zM_go rfl (Nat.le_of_ble_eq_true rfl) (fun kz Q hQ => X2_goes_0 hX hr ⟨⟨by omega, by omega⟩, fun c => absurd c (by omega), fun _ => ⟨_, mq, fun c => absurd c (by omega), fun _ => ⟨_, mz, fun c => absurd c (by omega), fun _ => hQ⟩⟩⟩), Or.inl ⟨rfl, Or.inl ⟨d1, f0, z2⟩⟩⟩
      · subst z1
        exact ⟨x, zM_go rfl (Nat.le_of_ble_eq_true rfl) (fun kz Q hQ => X2_goes_0 hX hr ⟨⟨by omega, by omega⟩, fun c => absurd c (by omega), fun _ => ⟨_, mq, fun c => absurd c (by omega), fun _ => ⟨_, mz, fun _ => go kz Q hQ, fun c => absurd rfl c⟩⟩⟩), en (fun q => z2 q.2.2)⟩
    · subst q1
      exact ⟨x, zM_go rfl (Nat.le_of_ble_eq_true rfl) (fun kz Q hQ => X2_goes_0 hX hr ⟨⟨by omega, by omega⟩, fun c => absurd c (by omega), fun _ => ⟨_, mq, fun _ => go kz Q hQ, fun c => absurd rfl c⟩⟩), en (fun q => q2 ⟨by omega, by omega, q.2.1⟩)⟩
end PR
