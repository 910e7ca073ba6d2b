/-! ===== unification: what it gives; on a board ===== -/
section RC
variable {P : Int → Int} {b : zBd} {rk : Int → Nat} {r : Option zBd}
theorem sol_l {c : zBd} {T : Int → List Int} (h : sol (b ++ c) T) : sol b T := fun L u e => h L u (lkp_l e)
theorem un_sol : ∀ (k : Nat) (b : zBd) (v w : List Int) (b' : zBd), un P k b v w = some (some b') → (∃ c, b' = b ++ c) ∧ ∀ T, sol b' T → sb T v = sb T w
  | 0, b, v, w, b', h => by simp [un] at h
  | k + 1, b, [], [], b', h => by
    simp only [un, Option.some.injEq] at h
    subst h
    exact ⟨⟨[], by simp⟩, fun _ _ => rfl⟩
  | k + 1, b, [], _ :: _, b', h => by simp [un] at h
  | k + 1, b, _ :: _, [], b', h => by simp [un] at h
  | k + 1, b, x :: p, y :: q, b', h => by
    simp only [un] at h
    by_cases c1 : x < 0 ∧ lkp b (-1 - x) ≠ none
    · rw [if_pos c1] at h
      obtain ⟨u, hu⟩ := Option.ne_none_iff_exists'.1 c1.2
      rw [TB_some hu] at h
      obtain ⟨⟨c, e⟩, f⟩ := un_sol k b _ _ b' h
      refine ⟨⟨c, e⟩, fun T hT => ?_⟩
      have := f T hT
      rw [sb_app] at this
      subst e
      rw [← this, sb_l (by omega), hT _ u (lkp_l hu)]
    rw [if_neg c1] at h
    by_cases c2 : y < 0 ∧ lkp b (-1 - y) ≠ none
    · rw [if_pos c2] at h
      obtain ⟨u, hu⟩ := Option.ne_none_iff_exists'.1 c2.2
      rw [TB_some hu] at h
      obtain ⟨⟨c, e⟩, f⟩ := un_sol k b _ _ b' h
      refine ⟨⟨c, e⟩, fun T hT => ?_⟩
      have := f T hT
      rw [sb_app] at this
      subst e
      rw [this, sb_l (v := y) (by omega), hT _ u (lkp_l hu)]
    rw [if_neg c2] at h
    by_cases c3 : x = y
    · rw [if_pos c3] at h
      obtain ⟨e, f⟩ := un_sol k b _ _ b' h
      refine ⟨e, fun T hT => ?_⟩
      subst c3
      have := f T hT
      by_cases x0 : 0 ≤ x
      · rw [sb_s x0, sb_s x0, this]
      · rw [sb_l x0, sb_l x0, this]
    rw [if_neg c3] at h
    by_cases c4 : x < 0
    · rw [if_pos c4] at h
      by_cases c5 : x ∈ sb (th b) ((y :: q).take (tl P (fw (y :: q)) 0))
      · rw [if_pos c5] at h; simp at h
      · rw [if_neg c5] at h
        obtain ⟨⟨c, e⟩, f⟩ := un_sol k _ _ _ b' h
        refine ⟨⟨[_] ++ c, by rw [e, List.append_assoc]⟩, fun T hT => ?_⟩
        have := f T hT
        have hl : lkp b (-1 - x) = none := Classical.byContradiction fun z => c1 ⟨c4, z⟩
        have ex := hT (-1 - x) _ (by rw [e]; exact lkp_l (by rw [lkp_app1, if_pos hl, if_pos rfl]))
        rw [sb_l (v := x) (by omega), ex, this, ← sb_app, List.take_append_drop]
    rw [if_neg c4] at h
    by_cases c6 : y < 0
    · rw [if_pos c6] at h
      by_cases c5 : y ∈ sb (th b) ((x :: p).take (tl P (fw (x :: p)) 0))
      · rw [if_pos c5] at h; simp at h
      · rw [if_neg c5] at h
        obtain ⟨⟨c, e⟩, f⟩ := un_sol k _ _ _ b' h
        refine ⟨⟨[_] ++ c, by rw [e, List.append_assoc]⟩, fun T hT => ?_⟩
        have := f T hT
        have hl : lkp b (-1 - y) = none := Classical.byContradiction fun z => c2 ⟨c6, z⟩
        have ex := hT (-1 - y) _ (by rw [e]; exact lkp_l (by rw [lkp_app1, if_pos hl, if_pos rfl]))
        rw [sb_l (v := y) (by omega), ex, ← this, ← sb_app, List.take_append_drop]
    rw [if_neg c6] at h; simp at h
theorem UN_sol {v w : List Int} {b' : zBd} (h : UN P b v w (some b')) : (∃ c, b' = b ++ c) ∧ ∀ T, sol b' T → sb T v = sb T w := by
  obtain ⟨k, hk⟩ := h
  exact un_sol k b v w b' hk
/-- the bindings, as they lie on a board -/
def bdW (f s : Int → Int) (N : Int) (b : zBd) : Prop := (∀ L : Int, 0 ≤ L → L < 40 → lkp b L = none → s L = -1) ∧ ∀ (L : Int) (u : List Int), lkp b L = some u → 0 ≤ s L ∧ s L + u.length ≤ N ∧ lk f (s L) (fw u) 0 u.length
variable {f s : Int → Int} {N : Int}
theorem bdW_at (hw : bdW f s N b) {L : Int} (l0 : 0 ≤ L) (l1 : L < 40) (h : s L ≠ -1) : ∃ u, lkp b L = some u :=
  Option.ne_none_iff_exists'.1 (fun e => h (hw.1 L l0 l1 e))
theorem lk_mem {i : Int} {u : List Int} (h : lk f i (fw u) 0 u.length) {k : Nat} (hk : k < u.length) : f (i + k) ∈ u := by
  rw [h k hk, fw_0, ← fw_nat]
  exact fw_mem hk
theorem bw_bok (hb : bw P b rk) (hw : bdW f s N b) : bok P f s N rk := fun L l0 l1 hs => by
  obtain ⟨u, hu⟩ := bdW_at hw l0 l1 hs
  obtain ⟨w1, w2, w3⟩ := hw.2 L u hu
  obtain ⟨_, _, b3, b4, b5⟩ := hb.2 L u hu
  refine ⟨b4, w1, u.length, tm_congr b3 (fun k hk => (w3 k hk).symm), w2, fun k hk => ?_⟩
  have hm := lk_mem w3 hk
  have := b5 _ hm
  refine ⟨this.1, fun z => this.2 z.1 (fun e => z.2 (hw.1 _ (by have := z.1; omega) (by omega) e))⟩
/-- a place bound on the board is a bound letter -/
theorem bnd_iff (hw : bdW f s N b) {i : Int} (hl : -40 ≤ f i) : bnd f s i ↔ f i < 0 ∧ lkp b (-1 - f i) ≠ none := by
  constructor
  · intro h
    have := h.1
    exact ⟨h.1, fun e => h.2 (hw.1 _ (by omega) (by omega) e)⟩
  · intro h
    obtain ⟨u, hu⟩ := Option.ne_none_iff_exists'.1 h.2
    have := (hw.2 _ u hu).1
    exact ⟨h.1, by omega⟩
theorem xp_xw (hP : pok P) (hb : bw P b rk) (hw : bdW f s N b) : ∀ (k : Nat) (i : Int), -40 ≤ f i → xp P f s k i = sb (xw b k) [f i]
  | 0, i, hl => by
    show [f i] = _
    by_cases c : 0 ≤ f i
    · rw [sb_s c]; rfl
    · rw [sb_one (by omega)]
      show _ = [-1 - (-1 - f i)]
      congr 1; omega
  | k + 1, i, hl => by
    by_cases c : bnd f s i
    · have c' := (bnd_iff hw hl).1 c
      obtain ⟨u, hu⟩ := Option.ne_none_iff_exists'.1 c'.2
      obtain ⟨w1, w2, w3⟩ := hw.2 _ u hu
      obtain ⟨_, _, b3, b4, b5⟩ := hb.2 _ u hu
      have ht : tm P f (s (-1 - f i)) u.length := tm_congr b3 (fun k hk => (w3 k hk).symm)
      rw [xp_b c, tl_eq ht, sb_one c'.1, xw_s hu]
      refine xcat_sb (fun j hj => ?_)
      have hm := lk_mem w3 hj
      have e : f (s (-1 - f i) + j) = fw u j := by rw [w3 j hj, fw_0, fw_nat]
      rw [xp_xw hP hb hw k _ (b5 _ hm).1, e]
      by_cases q : 0 ≤ fw u j
      · rw [if_pos q, sb_s q]; rfl
      · rw [if_neg q, sb_one (by omega)]
    · rw [xp_n c]
      by_cases q : 0 ≤ f i
      · rw [sb_s q]; rfl
      · rw [sb_one (by omega), xw_n (Classical.byContradiction fun z => c ((bnd_iff hw hl).2 ⟨by omega, z⟩))]
        congr 1; omega
/-- a stretch of the board under its standing -/
theorem xf_sb (hP : pok P) (hb : bw P b rk) (hw : bdW f s N b) {a : Int} {w : List Int} (hl : lk f a (fw w) 0 w.length) (lo : lo40 w) : xcat (xf P f s) a w.length = sb (th b) w := by
  refine xcat_sb (fun j hj => ?_)
  have hm := lk_mem hl hj
  have e : f (a + j) = fw w j := by rw [hl j hj, fw_0, fw_nat]
  unfold xf
  rw [xp_xw hP hb hw 40 _ (lo _ hm), e]
  by_cases q : 0 ≤ fw w j
  · rw [if_pos q, sb_s q]; rfl
  · rw [if_neg q, sb_one (by omega)]; rfl
/-- where a place rests, and what is there -/
theorem rs_word (hP : pok P) (hb : bw P b rk) (hw : bdW f s N b) : ∀ (k : Nat) (i : Int), -40 ≤ f i → (bnd f s i → rk (-1 - f i) < k) → bnd f s i → ∃ (L : Int) (u : List Int), lkp b L = some u ∧ rs f s k i = s L ∧ ¬ (fw u 0 < 0 ∧ lkp b (-1 - fw u 0) ≠ none) ∧ sb (th b) u = th b (-1 - f i) ∧ (∀ p w r, w ≠ [] → UN P b (u ++ p) w r → UN P b (f i :: p) w r) ∧ (∀ x p q r, ¬ (x < 0 ∧ lkp b (-1 - x) ≠ none) → UN P b (x :: p) (u ++ q) r → UN P b (x :: p) (f i :: q) r)
  | 0, i, hl, h, c => by have := h c; omega
  | k + 1, i, hl, h, c => by
    have c' := (bnd_iff hw hl).1 c
    have hr := h c
    obtain ⟨u, hu⟩ := Option.ne_none_iff_exists'.1 c'.2
    obtain ⟨w1, w2, w3⟩ := hw.2 _ u hu
    obtain ⟨_, _, b3, b4, b5⟩ := hb.2 _ u hu
    have u0 := tw_ne b3
    have ul : 0 < u.length := List.length_pos_iff.2 u0
    have e0 : f (s (-1 - f i)) = fw u 0 := by
      have := w3 0 ul
      rw [fw_0, ← fw_nat] at this
      simpa using this
    have hm : fw u 0 ∈ u := fw_mem (k := 0) ul
    have l0 := (b5 _ hm).1
    rw [rs_b c]
    by_cases q : bnd f s (s (-1 - f i))
    · have q' := (bnd_iff hw (by rw [e0]; exact l0)).1 q
      have hr2 := (b5 _ hm).2 (by rw [← e0]; exact q'.1) (by rw [← e0]; exact q'.2)
      obtain ⟨L, u', a1, a2, a3, a4, a5, a6⟩ := rs_word hP hb hw k (s (-1 - f i)) (by rw [e0]; exact l0) (fun _ => by rw [e0]; omega) q
      have u1 : u = [f (s (-1 - f i))] := by
        have q1 := q'.1
        have := tm_letter b3 (by rw [← e0]; exact q1)
        obtain ⟨y, u', rfl⟩ := List.exists_cons_of_ne_nil u0
        have : u' = [] := List.length_eq_zero_iff.1 (by simpa using this)
        subst this
        rw [e0, fw_c0]
      refine ⟨L, u', a1, a2, a3, ?_, fun p w r hw0 hz => ?_, fun x p q r hx hz => ?_⟩
      · rw [a4, th_s hb hu, u1, sb_one q'.1]
      · refine UN_a c'.1 hu hw0 ?_
        rw [u1]; exact a5 p w r hw0 hz
      · refine UN_b hx c'.1 hu ?_
        rw [u1]; exact a6 x p q r hx hz
    · rw [rs_n q]
      refine ⟨_, u, hu, rfl, fun z => q ((bnd_iff hw (by rw [e0]; exact l0)).2 (by rw [e0]; exact z)), (th_s hb hu).symm, fun p w r hw0 hz => UN_a c'.1 hu hw0 hz, fun x p q r hx hz => UN_b hx c'.1 hu hz⟩
theorem bdW_nil (h : ∀ L : Int, 0 ≤ L → L < 40 → s L = -1) : bdW f s N [] := ⟨fun L l0 l1 _ => h L l0 l1, fun L u e => by simp [lkp] at e⟩
/-- one letter more, on the board -/
theorem bdW_add {s' : Int → Int} {L at' : Int} {u : List Int} (hw : bdW f s N b) (hL : lkp b L = none) (hs : s' L = at') (ho : ∀ M : Int, M ≠ L → s' M = s M) (a0 : 0 ≤ at') (a1 : at' + u.length ≤ N) (hk : lk f at' (fw u) 0 u.length) : bdW f s' N (b ++ [(L, u)]) :=
  ⟨fun M m0 m1 e => by
    rw [lkp_app1] at e
    by_cases c : lkp b M = none
    · rw [if_pos c] at e
      by_cases cl : L = M
      · rw [if_pos cl] at e; simp at e
      · rw [ho M (Ne.symm cl)]; exact hw.1 M m0 m1 c
    · rw [if_neg c] at e; exact absurd e c,
  fun M w e => by
    rw [lkp_app1] at e
    by_cases c : lkp b M = none
    · rw [if_pos c] at e
      by_cases cl : L = M
      · rw [if_pos cl] at e
        have : u = w := by simpa using e
        subst this
        subst cl
        rw [hs]; exact ⟨a0, a1, hk⟩
      · rw [if_neg cl] at e; simp at e
    · rw [if_neg c] at e
      have ML : M ≠ L := fun z => c (by rw [z]; exact hL)
      rw [ho M ML]; exact hw.2 M w e⟩
end RC
