/-! ===== the bound: nothing that unification binds is too long ===== -/
theorem sb_id {T : Int → List Int} : ∀ {w : List Int}, (∀ v, v ∈ w → v < 0 → T (-1 - v) = [v]) → sb T w = w
  | [], _ => rfl
  | v :: w, h => by
    have ih := sb_id (w := w) (fun x hx => h x (List.mem_cons_of_mem _ hx))
    by_cases c : 0 ≤ v
    · rw [sb_s c, ih]
    · rw [sb_l c, ih, h v List.mem_cons_self (by omega)]
      rfl
theorem th_nil {M : Int} (h : 0 ≤ M) : th [] M = [-1 - M] := th_n rfl
theorem sb_nil {w : List Int} : sb (th []) w = w := sb_id (fun v _ v0 => by
  rw [th_nil (by omega)]
  congr 1
  omega)
/-- one letter alone bound -/
theorem sb_th1 {M : Int} {q : List Int} (h : (-1 - M) ∉ q) : sb (th [(M, q)]) q = q := sb_id (fun v hv v0 => by
  rw [th_n (by
    simp only [lkp]
    rw [if_neg (fun e => h (by rw [e, show -1 - (-1 - v) = v by omega]; exact hv))])]
  congr 1
  omega)
theorem lkp_1 {M L : Int} {q r : List Int} (h : lkp [(M, q)] L = some r) : q = r := by
  simp only [lkp] at h
  by_cases c : M = L
  · rw [if_pos c] at h
    simpa using h
  · rw [if_neg c] at h
    simp at h
section UI
variable {P : Int → Int}
/-- a root is a letter -/
theorem ub_x (hP : pok P) {x : Int} {v : List Int} {b : zBd} (hx : x < 0) (hv : tw P v) (h : UN P [] [x] v (some b)) {L : Int} {q : List Int} (hq : lkp b L = some q) : (sb (th b) q).length ≤ v.length := by
  obtain ⟨k, hk⟩ := h
  obtain ⟨y, p, rfl⟩ := List.exists_cons_of_ne_nil (tw_ne hv)
  have et := tl_app (p := []) hP hv
  rw [List.append_nil] at et
  have n1 : ∀ z : Int, ¬ (z < 0 ∧ lkp [] (-1 - z) ≠ none) := fun z c => c.2 rfl
  cases k with
  | zero => simp [un] at hk
  | succ k =>
    simp only [un] at hk
    rw [if_neg (n1 x), if_neg (n1 y)] at hk
    have fin : ∀ (b : zBd) (z : List Int) (b' : zBd), un P k b [] z = some (some b') → b' = b := fun b z b' hz => by
      cases k with
      | zero => simp [un] at hz
      | succ k =>
        cases z with
        | nil =>
          simp only [un, Option.some.injEq] at hz
          exact hz.symm
        | cons a z => simp [un] at hz
    by_cases c : x = y
    · rw [if_pos c] at hk
      rw [fin _ _ _ hk] at hq
      simp [lkp] at hq
    · rw [if_neg c, if_pos hx, et, List.take_length] at hk
      by_cases c5 : x ∈ sb (th []) (y :: p)
      · rw [if_pos c5] at hk
        simp at hk
      · rw [if_neg c5] at hk
        have e := fin _ _ _ hk
        rw [e, List.nil_append] at hq
        have e2 := lkp_1 hq
        rw [sb_nil] at c5
        rw [e, ← e2, List.nil_append, sb_th1 (by rw [show -1 - (-1 - x) = x by omega]; exact c5)]
        exact Nat.le_refl _
theorem ub_y (hP : pok P) {y : Int} {u : List Int} {b : zBd} (hy : y < 0) (hu : tw P u) (hu0 : 0 ≤ fw u 0) (h : UN P [] u [y] (some b)) {L : Int} {q : List Int} (hq : lkp b L = some q) : (sb (th b) q).length ≤ u.length := by
  obtain ⟨k, hk⟩ := h
  obtain ⟨x, p, rfl⟩ := List.exists_cons_of_ne_nil (tw_ne hu)
  rw [fw_c0] at hu0
  have et := tl_app (p := []) hP hu
  rw [List.append_nil] at et
  have n1 : ∀ z : Int, ¬ (z < 0 ∧ lkp [] (-1 - z) ≠ none) := fun z c => c.2 rfl
  cases k with
  | zero => simp [un] at hk
  | succ k =>
    simp only [un] at hk
    rw [if_neg (n1 x), if_neg (n1 y), if_neg (by omega), if_neg (by omega), if_pos hy, et, List.take_length, List.drop_length] at hk
    by_cases c5 : y ∈ sb (th []) (x :: p)
    · rw [if_pos c5] at hk
      simp at hk
    · rw [if_neg c5] at hk
      have e : b = [] ++ [(-1 - y, x :: p)] := by
        cases k with
        | zero => simp [un] at hk
        | succ k =>
          simp only [un, Option.some.injEq] at hk
          exact hk.symm
      rw [e, List.nil_append] at hq
      have e2 := lkp_1 hq
      rw [sb_nil] at c5
      rw [e, ← e2, List.nil_append, sb_th1 (by rw [show -1 - (-1 - y) = y by omega]; exact c5)]
      exact Nat.le_refl _
theorem uR_of (hP : pok P) {u v : List Int} (hu : tw P u) (hv : tw P v) : uRW P (u ++ v) u.length := by
  have l1 := nd_ge hu
  have l2 := nd_ge hv
  refine ⟨hP, l1, by rw [List.length_append]; omega, tm_congr hu (fun k hk => ?_), ?_⟩
  · rw [Int.zero_add, fw_al rfl hk]
  · rw [List.length_append, Nat.add_sub_cancel_left]
    exact tm_congr hv (fun k hk => by rw [Int.zero_add, fw_ar rfl])
theorem useg_u (hP : pok P) {u v : List Int} (hu : tw P u) (hv : tw P v) : useg P (u ++ v) 0 = u ∧ useg P (u ++ v) u.length = v := by
  have r := uR_of hP hu hv
  have e1 : usz P (u ++ v) 0 = u.length := usz_eq r.2.2.2.1
  have e2 : usz P (u ++ v) u.length = (u ++ v).length - u.length := usz_eq r.2.2.2.2
  unfold useg usg
  rw [e1, e2, List.drop_zero, Nat.zero_add, Nat.sub_zero, List.drop_left]
  refine ⟨List.take_left, ?_⟩
  rw [List.length_append, show u.length + (u.length + v.length - u.length) - u.length = v.length by omega, List.take_length]
/-- NOTHING THAT UNIFICATION BINDS IS TOO LONG -/
theorem UB_all (P : Int → Int) (hP : pok P) : UB P := fun u v hu hv lu lv nu nv b hb L q hq => by
  by_cases c1 : fw u 0 < 0
  · rcases tw_cases hP hu with ⟨x, x0, rfl⟩ | ⟨x, as, x0, _, rfl, _⟩
    · exact Nat.le_trans (ub_x hP x0 hv hb hq) (by omega)
    · rw [fw_c0] at c1
      omega
  by_cases c2 : fw v 0 < 0
  · rcases tw_cases hP hv with ⟨x, x0, rfl⟩ | ⟨x, as, x0, _, rfl, _⟩
    · exact Nat.le_trans (ub_y hP x0 hu (by omega) hb hq) (by omega)
    · rw [fw_c0] at c2
      omega
  have r := uR_of hP hu hv
  obtain ⟨s1, s2⟩ := useg_u hP hu hv
  have lo : lo40 (u ++ v) := lo40_app.mpr ⟨lu, lv⟩
  have hN : (u ++ v).length ≤ 60 := by rw [List.length_append]; omega
  obtain ⟨k, hk⟩ := hb
  obtain ⟨hi, rk, hbw⟩ := un_run r lo k [] [(0, u.length)] b (by
    simp only [List.map_cons, List.map_nil, List.flatten_cons, List.flatten_nil, List.append_nil]
    rw [s1, s2]
    exact hk) (fun p hp => by
    rw [List.mem_singleton.mp hp]
    exact ⟨Nat.lt_trans r.2.1 r.2.2.1, r.2.2.1, usim_0⟩) (fun M q h => by simp [lkp] at h) ⟨fun _ => 0, bw_nil⟩
  have h0 : uWW P (u ++ v) b 0 = uWW P (u ++ v) b u.length := by
    unfold uWW
    rw [s1, s2]
    exact (UN_sol ⟨k, hk⟩).2 _ (sol_th hbw)
  have T := uR_T r
  have S := uR_SS r hbw hi h0
  obtain ⟨x, y, x1, y1, x2, y2, xy⟩ := hi L q hq
  have l0 := (hbw.2 L q hq).1
  have x0 : uar P (u ++ v) x = 0 := uar_l (by omega)
  have N0 : 0 < (u ++ v).length := Nat.lt_trans r.2.1 r.2.2.1
  show (sb (th b) q).length ≤ 999999
  rw [← y2]
  show (uWW P (u ++ v) b y).length ≤ 999999
  -- nothing is longer than the roots
  have top : ∀ z, z < (u ++ v).length → (uWW P (u ++ v) b z).length ≤ (uWW P (u ++ v) b 0).length := fun z hz => by
    have T' := T
    obtain ⟨_, _, r1, r2, r3, r4⟩ := T'
    rcases Nat.lt_or_ge z u.length with c | c
    · by_cases z0 : z = 0
      · rw [z0]; exact Nat.le_refl _
      · exact Nat.le_of_lt (uL_sub T S _ 0 z (Nat.le_refl _) N0 (by omega) (by omega))
    · rw [h0]
      by_cases z0 : z = u.length
      · rw [z0]; exact Nat.le_refl _
      · exact Nat.le_of_lt (uL_sub T S _ u.length z (Nat.le_refl _) r2 (by omega) (by omega))
  by_cases a0 : 0 < uar P (u ++ v) 0
  · by_cases a1 : 0 < uar P (u ++ v) u.length
    · by_cases cz : ∃ z, usim P (u ++ v) u.length y z ∧ 0 < uar P (u ++ v) z
      · obtain ⟨z, z1, z2⟩ := cz
        have zN := S.lt z1 y1
        have e := S.ln z1 y1
        have nr : ¬ usim P (u ++ v) u.length 0 z := fun c => by
          have cx : usim P (u ++ v) u.length 0 x := usim_t c (usim_s (usim_t xy z1))
          refine u_nr T S x1 (fun q => ?_) (fun q => ?_) cx
          · rw [q] at x0; omega
          · rw [q] at x0; omega
        have := uReg T S hN a0 a1 ⟨zN, z2, nr, x, usim_s (usim_t xy z1), x0⟩
        have e' : (uWW P (u ++ v) b y).length = (uWW P (u ++ v) b z).length := e
        have t' : (uWW P (u ++ v) b z).length ≤ 999999 := this
        omega
      · have := S.lf y1 (fun z hz => Nat.eq_zero_of_not_pos (fun p => cz ⟨z, hz, p⟩))
        have t' : (uWW P (u ++ v) b y).length = 1 := this
        omega
    · have := top y y1
      have e : (uWW P (u ++ v) b u.length).length = 1 := by
        rw [uW_s r r.2.2.1 (by rw [fw_ar (k := 0) (by omega)]; exact Int.not_lt.mp c2), show uar P (u ++ v) u.length = 0 by omega]
        rfl
      rw [h0, e] at this
      omega
  · have := top y y1
    have e : (uWW P (u ++ v) b 0).length = 1 := by
      rw [uW_s r N0 (by rw [fw_al (k := 0) rfl (nd_ge hu)]; exact Int.not_lt.mp c1), show uar P (u ++ v) 0 = 0 by omega]
      rfl
    rw [e] at this
    omega
end UI
