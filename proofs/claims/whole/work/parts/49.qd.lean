/-! ===== rewriting: what it is ===== -/
/-- what stands for a letter, by its word -/
def TB (b : zBd) (L : Int) : List Int := (lkp b L).getD [-1 - L]
def told (b : zBd) (o : List Int) : Prop := ∀ v, v ∈ o → v < 0 → lkp b (-1 - v) ≠ none
/-- the term at a place of a word -/
noncomputable def tat (P : Int → Int) (v : List Int) (p : Nat) : List Int := (v.drop p).take (tl P (fw v) p)
/-- what stands for the term w, by the sides p and o -/
noncomputable def rwz (P W : Int → Int) (p o w : List Int) : Option (List Int) :=
  match mt P p [] w with
  | none => none
  | some b => @ite _ (told b o ∧ kg P W (fw w) (fw (sb (TB b) o)) 1000 0 0) (Classical.propDecidable _) (some (sb (TB b) o)) none
theorem rwz_0 {P W : Int → Int} {p o w : List Int} (h : mt P p [] w = none) : rwz P W p o w = none := by unfold rwz; rw [h]
theorem rwz_1 {P W : Int → Int} {p o w : List Int} {b : zBd} (h : mt P p [] w = some b) (h1 : told b o) (h2 : kg P W (fw w) (fw (sb (TB b) o)) 1000 0 0) : rwz P W p o w = some (sb (TB b) o) := by
  unfold rwz; rw [h]; exact if_pos ⟨h1, h2⟩
theorem rwz_2 {P W : Int → Int} {p o w : List Int} {b : zBd} (h : mt P p [] w = some b) (h1 : ¬ (told b o ∧ kg P W (fw w) (fw (sb (TB b) o)) 1000 0 0)) : rwz P W p o w = none := by
  unfold rwz; rw [h]; exact if_neg h1
theorem TB_some {b : zBd} {L : Int} {u : List Int} (h : lkp b L = some u) : TB b L = u := by unfold TB; rw [h]; rfl
theorem TB_none {b : zBd} {L : Int} (h : lkp b L = none) : TB b L = [-1 - L] := by unfold TB; rw [h]; rfl
theorem sb_congr {T T' : Int → List Int} : ∀ {w : List Int}, (∀ v, v ∈ w → v < 0 → T (-1 - v) = T' (-1 - v)) → sb T w = sb T' w
  | [], _ => rfl
  | v :: w, h => by
    by_cases c : 0 ≤ v
    · rw [sb_s c, sb_s c, sb_congr (fun x hx => h x (List.mem_cons_of_mem _ hx))]
    · rw [sb_l c, sb_l c, h v List.mem_cons_self (by omega), sb_congr (fun x hx => h x (List.mem_cons_of_mem _ hx))]
/-- what matching binds -/
theorem mt_spec {P : Int → Int} (hP : pok P) : ∀ (p : List Int) (b : zBd) (w : List Int) (q : Nat) (b' : zBd), ts P (fw p) 0 q p.length → ts P (fw w) 0 q w.length → mt P p b w = some b' → (∃ c, b' = b ++ c) ∧ (∀ v, v ∈ p → v < 0 → lkp b' (-1 - v) ≠ none) ∧ w = sb (TB b') p ∧ ∀ x, x ∈ b' → x ∈ b ∨ (tw P x.2 ∧ (∀ y, y ∈ x.2 → y ∈ w) ∧ x.2.length ≤ w.length)
  | [], b, w, q, b', hp, hw, h => by
    have q0 : q = 0 := (ts_pos hp).2 rfl
    subst q0
    have e : w = [] := List.length_eq_zero_iff.1 ((ts_pos hw).1 rfl)
    simp only [mt, Option.some.injEq] at h
    subst h
    subst e
    exact ⟨⟨[], by simp⟩, fun v hv => absurd hv (by simp), rfl, fun x hx => Or.inl hx⟩
  | v :: p, b, w, q, b', hp, hw, h => by
    have q1 : q ≠ 0 := fun e => by have := (ts_pos hp).1 e; simp at this
    obtain ⟨q', rfl⟩ : ∃ q', q = q' + 1 := ⟨q - 1, by omega⟩
    have w0 : w ≠ [] := fun e => by subst e; have := (ts_pos hw).2 rfl; omega
    simp only [mt] at h
    by_cases hv : 0 ≤ v
    · rw [if_pos hv] at h
      by_cases he : fw w 0 = v
      · rw [if_pos he] at h
        obtain ⟨c0, w', rfl⟩ := List.exists_cons_of_ne_nil w0
        rw [fw_c0] at he
        subst he
        obtain ⟨a1, a2, a3, a4⟩ := mt_spec hP p b w' _ b' (tsw_sgn hP hp hv) (tsw_sgn hP hw hv) h
        refine ⟨a1, fun x hx x0 => ?_, by rw [sb_s hv, ← a3], fun x hx => ?_⟩
        · rcases List.mem_cons.1 hx with e | e
          · omega
          · exact a2 x e x0
        · rcases a4 x hx with z | ⟨z1, z2, z3⟩
          · exact Or.inl z
          · exact Or.inr ⟨z1, fun y hy => List.mem_cons_of_mem _ (z2 y hy), by rw [List.length_cons]; omega⟩
      · rw [if_neg he] at h; exact absurd h (by simp)
    · rw [if_neg hv] at h
      obtain ⟨n, n0, nl, ntl, ntm, hw'⟩ := tsw_trm hP hw
      rw [ntl] at h
      have hp' := tsw_let hp (by omega)
      have ltk : (w.take n).length = n := by rw [List.length_take]; omega
      have tk0 : tw P (w.take n) := by
        unfold tw
        rw [ltk]
        exact tm_congr ntm (fun k hk => by rw [fw_0, ← fw_nat, fw_tk (k := k) (by omega) hk])
      have dl : (w.drop n).length ≤ w.length := by rw [List.length_drop]; omega
      cases hL : lkp b (-1 - v) with
      | none =>
        rw [hL] at h
        obtain ⟨⟨c, a1⟩, a2, a3, a4⟩ := mt_spec hP p _ _ _ b' hp' hw' h
        have e1 : lkp (b ++ [(-1 - v, w.take n)]) (-1 - v) = some (w.take n) := by rw [lkp_r hL]; simp [lkp]
        have e2 : lkp b' (-1 - v) = some (w.take n) := by rw [a1]; exact lkp_l e1
        refine ⟨⟨(-1 - v, w.take n) :: c, by rw [a1]; simp⟩, fun x hx x0 => ?_, ?_, fun x hx => ?_⟩
        · rcases List.mem_cons.1 hx with e | e
          · subst e; rw [e2]; simp
          · exact a2 x e x0
        · rw [sb_l hv, TB_some e2, ← a3, List.take_append_drop]
        · rcases a4 x hx with z | ⟨z1, z2, z3⟩
          · rcases List.mem_append.1 z with z | z
            · exact Or.inl z
            · have : x = (-1 - v, w.take n) := by simpa using z
              rw [this]
              exact Or.inr ⟨tk0, fun y hy => List.mem_of_mem_take hy, by rw [ltk]; omega⟩
          · exact Or.inr ⟨z1, fun y hy => List.mem_of_mem_drop (z2 y hy), by omega⟩
      | some u =>
        rw [hL] at h
        dsimp only at h
        by_cases he : u = w.take n
        · rw [if_pos he] at h
          obtain ⟨⟨c, a1⟩, a2, a3, a4⟩ := mt_spec hP p _ _ _ b' hp' hw' h
          have e2 : lkp b' (-1 - v) = some u := by rw [a1]; exact lkp_l hL
          refine ⟨⟨c, a1⟩, fun x hx x0 => ?_, ?_, fun x hx => ?_⟩
          · rcases List.mem_cons.1 hx with e | e
            · subst e; rw [e2]; simp
            · exact a2 x e x0
          · rw [sb_l hv, TB_some e2, ← a3, he, List.take_append_drop]
          · rcases a4 x hx with z | ⟨z1, z2, z3⟩
            · exact Or.inl z
            · exact Or.inr ⟨z1, fun y hy => List.mem_of_mem_drop (z2 y hy), by omega⟩
        · rw [if_neg he] at h; exact absurd h (by simp)
/-- at each place of a term a term stands -/
theorem tm_sub {P f : Int → Int} (hP : pok P) {i : Int} {n k : Nat} (h : tm P f i n) (hk : k < n) : ∃ m : Nat, tm P f (i + k) m ∧ k + m ≤ n := by
  have hp := (h.2 k hk).1
  have hts : ts P f (i + k) (nd P f i k).toNat (n - k) := by
    have ec : ((nd P f i k).toNat : Int) = nd P f i k := by omega
    refine ⟨?_, fun j hj => ?_⟩
    · have := nd_shift (P := P) (f := f) (i := i) (m := k) (n - k)
      have e : k + (n - k) = n := by omega
      rw [e, h.1] at this
      omega
    · have := nd_shift (P := P) (f := f) (i := i) (m := k) j
      have q := h.2 (k + j) (by omega)
      have e : i + ((k + j : Nat) : Int) = i + k + j := by omega
      rw [e] at q
      exact ⟨by omega, q.2⟩
  obtain ⟨q, hq⟩ : ∃ q, (nd P f i k).toNat = q + 1 := ⟨(nd P f i k).toNat - 1, by omega⟩
  rw [hq] at hts
  obtain ⟨m, m1, m2, m3, m4⟩ := ts_succ hP hts
  exact ⟨m, m3, by omega⟩
theorem tat_ok {P : Int → Int} (hP : pok P) {v : List Int} {p : Nat} (h : tw P v) (hp : p < v.length) : ∃ m : Nat, 0 < m ∧ tl P (fw v) p = m ∧ p + m ≤ v.length ∧ tm P (fw v) p m ∧ (tat P v p).length = m ∧ tw P (tat P v p) ∧ lk (fw v) p (fw (tat P v p)) 0 m := by
  obtain ⟨m, m1, m2⟩ := tm_sub hP h hp
  rw [Int.zero_add] at m1
  have e := tl_eq m1
  have ll : (tat P v p).length = m := by unfold tat; rw [e, List.length_take, List.length_drop]; omega
  have lk' : lk (fw v) p (fw (tat P v p)) 0 m := fun k hk => by
    unfold tat
    rw [e, fw_tk (k := k) (by omega) hk, fw_dr (k := k) rfl]
  refine ⟨m, nd_ge m1, e, m2, m1, ll, ?_, lk'⟩
  unfold tw
  rw [ll]
  exact tm_congr m1 lk'
theorem tat_mem {P : Int → Int} {v : List Int} {p : Nat} {x : Int} (h : x ∈ tat P v p) : x ∈ v := List.mem_of_mem_drop (List.mem_of_mem_take h)
theorem xcat_id {g : Int → List Int} : ∀ {w : List Int} {i : Int}, (∀ k : Nat, k < w.length → g (i + k) = [fw w k]) → xcat g i w.length = w
  | [], _, _ => rfl
  | v :: w, i, h => by
    simp only [List.length_cons, xcat]
    have e0 := h 0 (by simp)
    rw [Int.natCast_zero, Int.add_zero, fw_c0] at e0
    rw [e0, xcat_id (w := w) (i := i + 1) (fun k hk => by
      have := h (k + 1) (by simp; omega)
      have e : i + ((k + 1 : Nat) : Int) = i + 1 + k := by omega
      rw [e, fw_cs (k := k) (by omega)] at this
      exact this)]
    rfl
theorem xcat_sb {g : Int → List Int} {T : Int → List Int} : ∀ {w : List Int} {i : Int}, (∀ k : Nat, k < w.length → g (i + k) = if 0 ≤ fw w k then [fw w k] else T (-1 - fw w k)) → xcat g i w.length = sb T w
  | [], _, _ => rfl
  | v :: w, i, h => by
    simp only [List.length_cons, xcat]
    have e0 := h 0 (by simp)
    rw [Int.natCast_zero, Int.add_zero, fw_c0] at e0
    rw [e0, xcat_sb (T := T) (w := w) (i := i + 1) (fun k hk => by
      have := h (k + 1) (by simp; omega)
      have e : i + ((k + 1 : Nat) : Int) = i + 1 + k := by omega
      rw [e, fw_cs (k := k) (by omega)] at this
      exact this)]
    by_cases c : 0 ≤ v
    · rw [if_pos c, sb_s c]; rfl
    · rw [if_neg c, sb_l c]
theorem cn_0 {M : Int} : ∀ w : List Int, 0 ≤ cn M w
  | [] => by simp [cn, sm]
  | v :: w => by
    have := cn_0 (M := M) w
    unfold cn at *
    simp only [sm]
    split
    · split <;> omega
    · omega
theorem wl_pos {W : Int → Int} : ∀ {w : List Int}, w ≠ [] → (∀ v, v ∈ w → 0 ≤ v → 1 ≤ W v) → 1 ≤ wl1 W w ∧ 0 ≤ wl1 W w
  | [], h, _ => absurd rfl h
  | v :: w, _, h => by
    have h1 : 1 ≤ wt1 W v := by
      unfold wt1
      split
      · omega
      · exact h v List.mem_cons_self (by omega)
    by_cases c : w = []
    · subst c; simp only [wl1]; omega
    · have := wl_pos (W := W) c (fun x hx => h x (List.mem_cons_of_mem _ hx))
      simp only [wl1]; omega
theorem sb_len {T : Int → List Int} {m : Nat} (hm : 1 ≤ m) : ∀ {w : List Int}, (∀ v, v ∈ w → v < 0 → (T (-1 - v)).length ≤ m) → (sb T w).length ≤ m * w.length
  | [], _ => by simp [sb]
  | v :: w, h => by
    have ih := sb_len (T := T) hm (w := w) (fun x hx => h x (List.mem_cons_of_mem _ hx))
    rw [List.length_cons, Nat.mul_succ]
    by_cases c : 0 ≤ v
    · rw [sb_s c, List.length_cons]; omega
    · rw [sb_l c, List.length_append]
      have := h v List.mem_cons_self (by omega)
      omega
theorem sb_mem {T : Int → List Int} : ∀ {w : List Int} {x : Int}, x ∈ sb T w → (x ∈ w ∧ 0 ≤ x) ∨ ∃ v, v ∈ w ∧ v < 0 ∧ x ∈ T (-1 - v)
  | [], x, h => absurd h (by simp [sb])
  | v :: w, x, h => by
    by_cases c : 0 ≤ v
    · rw [sb_s c] at h
      rcases List.mem_cons.1 h with e | e
      · subst e; exact Or.inl ⟨List.mem_cons_self, c⟩
      · rcases sb_mem e with ⟨z1, z2⟩ | ⟨u, z1, z2, z3⟩
        · exact Or.inl ⟨List.mem_cons_of_mem _ z1, z2⟩
        · exact Or.inr ⟨u, List.mem_cons_of_mem _ z1, z2, z3⟩
    · rw [sb_l c] at h
      rcases List.mem_append.1 h with e | e
      · exact Or.inr ⟨v, List.mem_cons_self, by omega, e⟩
      · rcases sb_mem e with ⟨z1, z2⟩ | ⟨u, z1, z2, z3⟩
        · exact Or.inl ⟨List.mem_cons_of_mem _ z1, z2⟩
        · exact Or.inr ⟨u, List.mem_cons_of_mem _ z1, z2, z3⟩
/-- what a rewriting gives -/
theorem rwz_spec {P W : Int → Int} (hP : pok P) {p o w z : List Int} (hp : tw P p) (ho : tw P o) (hw : tw P w) (h : rwz P W p o w = some z) : tw P z ∧ z.length ≤ w.length * o.length ∧ ∀ x, x ∈ z → (x ∈ o ∧ 0 ≤ x) ∨ x ∈ w := by
  unfold rwz at h
  cases hm : mt P p [] w with
  | none => rw [hm] at h; exact absurd h (by simp)
  | some b =>
    rw [hm] at h
    dsimp only at h
    split at h
    · rename_i c
      have e : sb (TB b) o = z := by simpa using h
      subst e
      obtain ⟨_, _, _, a4⟩ := mt_spec hP p [] w 1 b (ts_1.2 hp) (ts_1.2 hw) hm
      have key : ∀ v, v ∈ o → v < 0 → ∃ u, lkp b (-1 - v) = some u ∧ tw P u ∧ (∀ y, y ∈ u → y ∈ w) ∧ u.length ≤ w.length := fun v hv v0 => by
        cases hL : lkp b (-1 - v) with
        | none => exact absurd hL (c.1 v hv v0)
        | some u =>
          rcases a4 _ (lkp_mem hL) with z | z
          · exact absurd z (by simp)
          · exact ⟨u, rfl, z⟩
      refine ⟨tw_sb hP o.length o (Nat.le_refl _) ho (fun v hv v0 => ?_), sb_len (nd_ge hw) (fun v hv v0 => ?_), fun x hx => ?_⟩
      · obtain ⟨u, u1, u2, _⟩ := key v hv v0
        rw [TB_some u1]; exact u2
      · obtain ⟨u, u1, _, _, u4⟩ := key v hv v0
        rw [TB_some u1]; exact u4
      · rcases sb_mem hx with q | ⟨v, v1, v2, v3⟩
        · exact Or.inl q
        · obtain ⟨u, u1, _, u3, _⟩ := key v v1 v2
          rw [TB_some u1] at v3
          exact Or.inr (u3 x v3)
    · exact absurd h (by simp)
