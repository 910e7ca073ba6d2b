/-! ===== unification, on words: what stands for letters, expanded ===== -/
theorem sb_sb {T S : Int → List Int} : ∀ {w : List Int}, sb T (sb S w) = sb (fun M => sb T (S M)) w
  | [] => rfl
  | v :: w => by
    by_cases c : 0 ≤ v
    · rw [sb_s c, sb_s c, sb_s c, sb_sb (w := w)]
    · rw [sb_l c, sb_l c, sb_app, sb_sb (w := w)]
theorem sb_one {T : Int → List Int} {v : Int} (h : v < 0) : sb T [v] = T (-1 - v) := by
  rw [sb_l (by omega)]; simp [sb]
theorem mem_sb {T : Int → List Int} {v x : Int} : ∀ {w : List Int}, v ∈ w → v < 0 → x ∈ T (-1 - v) → x ∈ sb T w
  | [], h, _, _ => absurd h (by simp)
  | y :: w, h, h0, hx => by
    rcases List.mem_cons.1 h with e | e
    · subst e
      rw [sb_l (by omega)]
      exact List.mem_append_left _ hx
    · by_cases c : 0 ≤ y
      · rw [sb_s c]; exact List.mem_cons_of_mem _ (mem_sb e h0 hx)
      · rw [sb_l c]; exact List.mem_append_right _ (mem_sb e h0 hx)
theorem mem_sb_s {T : Int → List Int} {v : Int} : ∀ {w : List Int}, v ∈ w → 0 ≤ v → v ∈ sb T w
  | [], h, _ => absurd h (by simp)
  | y :: w, h, h0 => by
    rcases List.mem_cons.1 h with e | e
    · subst e
      rw [sb_s h0]
      exact List.mem_cons_self
    · by_cases c : 0 ≤ y
      · rw [sb_s c]; exact List.mem_cons_of_mem _ (mem_sb_s e h0)
      · rw [sb_l c]; exact List.mem_append_right _ (mem_sb_s e h0)
/-- what stands for letter L in the end: k steps -/
def xw (b : zBd) : Nat → Int → List Int
  | 0, L => [-1 - L]
  | k + 1, L => match lkp b L with
    | none => [-1 - L]
    | some u => sb (xw b k) u
def th (b : zBd) : Int → List Int := xw b 40
/-- bindings in order: letters below 40, terms for them, none stands in what stands for it -/
def bw (P : Int → Int) (b : zBd) (rk : Int → Nat) : Prop := (b.map (·.1)).Nodup ∧ ∀ (L : Int) (u : List Int), lkp b L = some u → 0 ≤ L ∧ L < 40 ∧ tw P u ∧ rk L < 40 ∧ ∀ v, v ∈ u → -40 ≤ v ∧ (v < 0 → lkp b (-1 - v) ≠ none → rk (-1 - v) < rk L)
section RA
variable {P : Int → Int} {b : zBd} {rk : Int → Nat}
theorem xw_n {k : Nat} {L : Int} (h : lkp b L = none) : xw b k L = [-1 - L] := by
  cases k with
  | zero => rfl
  | succ k => simp only [xw, h]
theorem xw_s {k : Nat} {L : Int} {u : List Int} (h : lkp b L = some u) : xw b (k + 1) L = sb (xw b k) u := by
  simp only [xw, h]
theorem xw_st (hb : bw P b rk) : ∀ (k m : Nat) (L : Int), (lkp b L ≠ none → rk L < k) → k ≤ m → xw b m L = xw b k L
  | 0, m, L, h, _ => by
    have e : lkp b L = none := Classical.byContradiction fun c => by have := h c; omega
    rw [xw_n e, xw_n e]
  | k + 1, m, L, h, hm => by
    cases e : lkp b L with
    | none => rw [xw_n e, xw_n e]
    | some u =>
      obtain ⟨m', rfl⟩ : ∃ m', m = m' + 1 := ⟨m - 1, by omega⟩
      rw [xw_s e, xw_s e]
      have hr := h (by rw [e]; simp)
      refine sb_congr (fun v hv v0 => xw_st hb k m' _ (fun q => ?_) (by omega))
      have := ((hb.2 L u e).2.2.2.2 v hv).2 v0 q
      omega
theorem th_n {L : Int} (h : lkp b L = none) : th b L = [-1 - L] := xw_n h
theorem th_s (hb : bw P b rk) {L : Int} {u : List Int} (h : lkp b L = some u) : th b L = sb (th b) u := by
  unfold th
  rw [← xw_st hb 40 41 L (fun _ => (hb.2 L u h).2.2.2.1) (by omega), xw_s h]
/-- T solves the bindings -/
def sol (b : zBd) (T : Int → List Int) : Prop := ∀ (L : Int) (u : List Int), lkp b L = some u → T L = sb T u
theorem sol_th (hb : bw P b rk) : sol b (th b) := fun L u h => th_s hb h
theorem sol_xw {T : Int → List Int} (h : sol b T) : ∀ (k : Nat) (L : Int), 0 ≤ L → sb T (xw b k L) = T L
  | 0, L, l0 => by
    show sb T [-1 - L] = T L
    rw [sb_one (by omega)]
    congr 1; omega
  | k + 1, L, l0 => by
    cases e : lkp b L with
    | none =>
      rw [xw_n e, sb_one (by omega)]
      congr 1; omega
    | some u =>
      rw [xw_s e, sb_sb, h L u e]
      exact sb_congr (fun v hv v0 => sol_xw h k (-1 - v) (by omega))
theorem sol_sb {T : Int → List Int} (h : sol b T) (w : List Int) : sb T (sb (th b) w) = sb T w := by
  rw [sb_sb]
  exact sb_congr (fun v hv v0 => sol_xw h 40 (-1 - v) (by omega))
theorem tw_1 {v : Int} (h : v < 0) : tw P [v] := by
  have := tm_l1 (P := P) (f := fw [v]) (i := 0) (by rw [fw_c0]; exact h)
  exact this
theorem xw_tw (hP : pok P) (hb : bw P b rk) : ∀ (k : Nat) (L : Int), 0 ≤ L → tw P (xw b k L)
  | 0, L, l0 => tw_1 (by omega)
  | k + 1, L, l0 => by
    cases e : lkp b L with
    | none => rw [xw_n e]; exact tw_1 (by omega)
    | some u =>
      rw [xw_s e]
      exact tw_sb hP _ u (Nat.le_refl _) (hb.2 L u e).2.2.1 (fun v hv v0 => xw_tw hP hb k (-1 - v) (by omega))
theorem th_tw (hP : pok P) (hb : bw P b rk) {L : Int} (h : 0 ≤ L) : tw P (th b L) := xw_tw hP hb 40 L h
theorem xw_lo (hb : bw P b rk) : ∀ (k : Nat) (L : Int), L < 40 → ∀ v, v ∈ xw b k L → -40 ≤ v
  | 0, L, l0, v, hv => by
    have : v = -1 - L := by simpa [xw] using hv
    omega
  | k + 1, L, l0, v, hv => by
    cases e : lkp b L with
    | none =>
      rw [xw_n e] at hv
      have : v = -1 - L := by simpa using hv
      omega
    | some u =>
      rw [xw_s e] at hv
      rcases sb_mem hv with ⟨z, z0⟩ | ⟨x, x1, x2, x3⟩
      · omega
      · have := ((hb.2 L u e).2.2.2.2 x x1).1
        exact xw_lo hb k (-1 - x) (by omega) v x3
theorem th_lo (hb : bw P b rk) {L : Int} (h : L < 40) : ∀ v, v ∈ th b L → -40 ≤ v := xw_lo hb 40 L h
theorem th_ne (hP : pok P) (hb : bw P b rk) {L : Int} (h : 0 ≤ L) : th b L ≠ [] := fun e => by
  have := nd_ge (th_tw hP hb h)
  rw [e] at this; simp at this
theorem bw_nil : bw P [] rk := ⟨by simp, fun L u h => by simp [lkp] at h⟩
theorem lkp_app1 {L M : Int} {w : List Int} : lkp (b ++ [(L, w)]) M = if lkp b M = none then (if L = M then some w else none) else lkp b M := by
  cases e : lkp b M with
  | none =>
    rw [lkp_r e, if_pos rfl]
    simp only [lkp]
  | some u => rw [lkp_l e, if_neg (by simp)]
/-- how many letters come before, by a rank -/
def bfr (r : Int → Nat) (x : Nat) : Nat → Nat
  | 0 => 0
  | m + 1 => bfr r x m + (if r (m : Int) < x then 1 else 0)
theorem bfr_le {r : Int → Nat} {x : Nat} : ∀ m : Nat, bfr r x m ≤ m
  | 0 => Nat.le_refl _
  | m + 1 => by
    have := bfr_le (r := r) (x := x) m
    simp only [bfr]; split <;> omega
theorem bfr_mono {r : Int → Nat} {x y : Nat} (h : x ≤ y) : ∀ m : Nat, bfr r x m ≤ bfr r y m
  | 0 => Nat.le_refl _
  | m + 1 => by
    have := bfr_mono (r := r) h m
    simp only [bfr]; split <;> split <;> omega
theorem bfr_lt {r : Int → Nat} {y : Nat} {N : Int} : ∀ m : Nat, 0 ≤ N → N < m → r N < y → bfr r (r N) m < bfr r y m
  | 0, h0, h1, _ => by omega
  | m + 1, h0, h1, h => by
    simp only [bfr]
    by_cases c : N = m
    · subst c
      have := bfr_mono (r := r) (x := r (m : Int)) (y := y) (by omega) m
      rw [if_neg (by omega), if_pos h]; omega
    · have := bfr_lt (r := r) (y := y) m h0 (by omega) h
      split <;> split <;> omega
theorem bfr_lt40 {r : Int → Nat} {N : Int} : ∀ m : Nat, 0 ≤ N → N < m → bfr r (r N) m < m
  | 0, h0, h1 => by omega
  | m + 1, h0, h1 => by
    simp only [bfr]
    by_cases c : N = m
    · subst c
      have := bfr_le (r := r) (x := r (m : Int)) m
      rw [if_neg (by omega)]; omega
    · have := bfr_lt40 (r := r) m h0 (by omega)
      split <;> omega
/-- any rank will do -/
theorem bw_any {r : Int → Nat} (hn : (b.map (·.1)).Nodup) (h : ∀ (L : Int) (u : List Int), lkp b L = some u → 0 ≤ L ∧ L < 40 ∧ tw P u ∧ ∀ v, v ∈ u → -40 ≤ v ∧ (v < 0 → lkp b (-1 - v) ≠ none → r (-1 - v) < r L)) : bw P b (fun L => bfr r (r L) 40) :=
  ⟨hn, fun L u e => by
    obtain ⟨h1, h2, h3, h4⟩ := h L u e
    refine ⟨h1, h2, h3, bfr_lt40 40 h1 (by omega), fun v hv => ⟨(h4 v hv).1, fun v0 q => ?_⟩⟩
    have lo := (h4 v hv).1
    exact bfr_lt 40 (by omega) (by omega) ((h4 v hv).2 v0 q)⟩
/-- one letter more -/
theorem bw_add (hb : bw P b rk) {L : Int} {w : List Int} (l0 : 0 ≤ L) (l1 : L < 40) (hL : lkp b L = none) (hw : tw P w) (hlo : ∀ v, v ∈ w → -40 ≤ v) (ho : (-1 - L) ∉ sb (th b) w) : ∃ rk', bw P (b ++ [(L, w)]) rk' := by
  let r : Int → Nat := fun M => @ite _ (M = L) (Classical.propDecidable _) 50 (@ite _ ((-1 - L) ∈ th b M) (Classical.propDecidable _) (rk M + 100) (rk M))
  have r1 : r L = 50 := if_pos rfl
  have r2 : ∀ M, M ≠ L → (-1 - L) ∈ th b M → r M = rk M + 100 := fun M h h' => (if_neg h).trans (if_pos h')
  have r3 : ∀ M, M ≠ L → (-1 - L) ∉ th b M → r M = rk M := fun M h h' => (if_neg h).trans (if_neg h')
  refine ⟨_, bw_any (r := r) ?_ (fun M u e => ?_)⟩
  · rw [List.map_append, List.nodup_append]
    refine ⟨hb.1, by simp, fun x hx y hy => ?_⟩
    have : y = L := by simpa using hy
    subst this
    obtain ⟨q, q1, q2⟩ := List.mem_map.1 hx
    exact fun z => lkp_none.1 hL q q1 (q2.trans z)
  · rw [lkp_app1] at e
    have hTL : th b L = [-1 - L] := th_n hL
    by_cases c : lkp b M = none
    · rw [if_pos c] at e
      by_cases cl : L = M
      · rw [if_pos cl] at e
        subst cl
        have e' : w = u := by simpa using e
        subst e'
        refine ⟨l0, l1, hw, fun v hv => ⟨hlo v hv, fun v0 q => ?_⟩⟩
        have vL : -1 - v ≠ L := fun z => ho (by
          have e : v = -1 - L := by omega
          rw [e] at hv
          refine mem_sb hv (by omega) ?_
          have : -1 - (-1 - L) = L := by omega
          rw [this, hTL]; simp)
        have nb : lkp b (-1 - v) ≠ none := fun z => q (by rw [lkp_app1, if_pos z, if_neg (Ne.symm vL)])
        have nh : (-1 - L) ∉ th b (-1 - v) := fun z => ho (mem_sb hv v0 z)
        obtain ⟨u', hu'⟩ := Option.ne_none_iff_exists'.1 nb
        have := (hb.2 _ u' hu').2.2.2.1
        rw [r1, r3 _ vL nh]; omega
      · rw [if_neg cl] at e; simp at e
    · rw [if_neg c] at e
      obtain ⟨h1, h2, h3, h4, h5⟩ := hb.2 M u e
      refine ⟨h1, h2, h3, fun v hv => ⟨(h5 v hv).1, fun v0 q => ?_⟩⟩
      have ML : M ≠ L := fun z => c (by rw [z]; exact hL)
      have sub : ∀ x, x ∈ th b (-1 - v) → x ∈ th b M := fun x hx => by rw [th_s hb e]; exact mem_sb hv v0 hx
      by_cases vL : -1 - v = L
      · have : (-1 - L) ∈ th b M := sub _ (by rw [vL, hTL]; simp)
        rw [vL, r1, r2 M ML this]; omega
      · have nb : lkp b (-1 - v) ≠ none := fun z => q (by rw [lkp_app1, if_pos z, if_neg (Ne.symm vL)])
        have lt := (h5 v hv).2 v0 nb
        by_cases hh : (-1 - L) ∈ th b (-1 - v)
        · rw [r2 _ vL hh, r2 _ ML (sub _ hh)]; omega
        · rw [r3 _ vL hh]
          by_cases hm : (-1 - L) ∈ th b M
          · rw [r2 _ ML hm]; omega
          · rw [r3 _ ML hm]; omega
/-- terms one behind the other, as words -/
def tws (P : Int → Int) (q : Nat) (w : List Int) : Prop := ts P (fw w) 0 q w.length
theorem tws_app (hP : pok P) {q r : Nat} {v w : List Int} (h1 : tws P q v) (h2 : tws P r w) : tws P (q + r) (v ++ w) := by
  obtain ⟨as, e1, e2, e3⟩ := ts_split hP q v h1
  obtain ⟨bs, f1, f2, f3⟩ := ts_split hP r w h2
  have := ts_flat (P := P) (as ++ bs) (fun a ha => by
    rcases List.mem_append.1 ha with z | z
    · exact e3 a z
    · exact f3 a z)
  rw [List.flatten_append, ← e1, ← f1, List.length_append, e2, f2] at this
  exact this
theorem tws_1 {w : List Int} : tws P 1 w ↔ tw P w := ts_1
theorem tws_nil : tws P 0 [] := ts_nil
theorem tws_0 {w : List Int} (h : tws P 0 w) : w = [] := List.length_eq_zero_iff.1 ((ts_pos h).1 rfl)
theorem tws_ne {q : Nat} {w : List Int} (h : tws P (q + 1) w) : w ≠ [] := fun e => by
  subst e
  have := (ts_pos h).2 rfl
  omega
/-- the first term and the rest -/
theorem tws_fst (hP : pok P) {q : Nat} {w : List Int} (h : tws P (q + 1) w) : ∃ n : Nat, 0 < n ∧ n ≤ w.length ∧ tl P (fw w) 0 = n ∧ tw P (w.take n) ∧ (w.take n).length = n ∧ tws P q (w.drop n) := by
  obtain ⟨n, n0, nl, ntl, ntm, hw'⟩ := tsw_trm hP h
  have lt : (w.take n).length = n := by rw [List.length_take]; omega
  refine ⟨n, n0, nl, ntl, ?_, lt, hw'⟩
  unfold tw
  rw [lt]
  exact tm_congr ntm (fun k hk => by rw [fw_0, ← fw_nat, fw_tk (k := k) (by omega) hk])
/-- the first term of a word that begins with one -/
theorem tl_app (hP : pok P) {u p : List Int} (h : tw P u) : tl P (fw (u ++ p)) 0 = u.length :=
  tl_eq (tm_congr h (fun k hk => by rw [fw_0, ← fw_nat, fw_al (i := 0 + (k : Int)) (k := k) (by omega) hk]))
end RA
