/-! ===== the bound: two words as trees of places ===== -/
theorem tm_at {P f : Int → Int} (hP : pok P) {i : Int} {n k : Nat} (h : tm P f i n) (hk : k < n) : ∃ m : Nat, tm P f (i + k) m ∧ k + m ≤ n := by
  have a := (h.2 k hk).1
  have t : ts P f (i + k) ((nd P f i k).toNat - 1 + 1) (n - k) := by
    have e : (((nd P f i k).toNat - 1 + 1 : Nat) : Int) = nd P f i k := by omega
    refine ⟨?_, fun j hj => ?_⟩
    · rw [e, nd_shift, show k + (n - k) = n by omega, h.1]; omega
    · rw [e, nd_shift]
      have := h.2 (k + j) (by omega)
      have e2 : i + (k : Int) + (j : Int) = i + ((k + j : Nat) : Int) := by omega
      rw [e2]
      exact ⟨by have := this.1; omega, this.2⟩
  obtain ⟨m, m1, m2, m3, _⟩ := ts_succ hP t
  exact ⟨m, m3, by omega⟩
/-- how long the term at a place is, how many parts it has -/
noncomputable def usz (P : Int → Int) (w : List Int) (x : Nat) : Nat := max 1 (tl P (fw w) (x : Int))
def uar (P : Int → Int) (w : List Int) (x : Nat) : Nat := if 0 ≤ fw w x then (P (fw w x)).toNat else 0
/-- places i to j of a word; the term at a place -/
def usg (w : List Int) (i j : Nat) : List Int := (w.drop i).take (j - i)
noncomputable def useg (P : Int → Int) (w : List Int) (x : Nat) : List Int := usg w x (x + usz P w x)
/-- two terms one behind the other -/
def uRW (P : Int → Int) (w : List Int) (n1 : Nat) : Prop := pok P ∧ 0 < n1 ∧ n1 < w.length ∧ tm P (fw w) 0 n1 ∧ tm P (fw w) n1 (w.length - n1)
section UH
variable {P : Int → Int} {w : List Int} {n1 : Nat}
theorem usz_eq {x n : Nat} (h : tm P (fw w) x n) : usz P w x = n := by
  unfold usz
  rw [tl_eq h]
  have := nd_ge h
  omega
theorem uR_sz (h : uRW P w n1) {x : Nat} (hx : x < w.length) : tm P (fw w) x (usz P w x) ∧ x + usz P w x ≤ w.length := by
  obtain ⟨hP, h1, h2, h3, h4⟩ := h
  rcases Nat.lt_or_ge x n1 with c | c
  · obtain ⟨m, m1, m2⟩ := tm_at hP h3 c
    rw [Int.zero_add] at m1
    rw [usz_eq m1]
    exact ⟨m1, by omega⟩
  · obtain ⟨m, m1, m2⟩ := tm_at hP h4 (show x - n1 < w.length - n1 by omega)
    rw [show (n1 : Int) + ((x - n1 : Nat) : Int) = (x : Int) by omega] at m1
    rw [usz_eq m1]
    exact ⟨m1, by omega⟩
theorem uR_walk (hP : pok P) {x : Nat} : ∀ (p k m : Nat), ts P (fw w) ((uch (usz P w) x k : Nat) : Int) p m → uch (usz P w) x (k + p) = uch (usz P w) x k + m
  | 0, k, m, h => by
    rw [ts_0 h]
    rfl
  | p + 1, k, m, h => by
    obtain ⟨m1, a1, a2, a3, a4⟩ := ts_succ hP h
    have e : uch (usz P w) x (k + 1) = uch (usz P w) x k + m1 := by
      show uch (usz P w) x k + usz P w (uch (usz P w) x k) = _
      rw [usz_eq a3]
    have := uR_walk hP p (k + 1) (m - m1) (by rw [e, Int.natCast_add]; exact a4)
    rw [show k + (p + 1) = k + 1 + p by omega, this, e]
    omega
theorem uar_l {x : Nat} (h : fw w x < 0) : uar P w x = 0 := if_neg (by omega)
theorem uar_s {x : Nat} (h : 0 ≤ fw w x) : uar P w x = (P (fw w x)).toNat := if_pos h
theorem uar_p {x : Nat} (h : 0 < uar P w x) : 0 ≤ fw w x := Classical.byContradiction fun c => by
  rw [uar_l (by omega)] at h
  omega
theorem uR_end (h : uRW P w n1) {x : Nat} (hx : x < w.length) : uch (usz P w) x (uar P w x) = x + usz P w x ∧ uar P w x ≤ 3 := by
  have t := (uR_sz h hx).1
  by_cases c : 0 ≤ fw w x
  · have s := tm_parts h.1 t c
    have l := (t.2 0 (nd_ge t)).2
    rw [show (x : Int) + ((0 : Nat) : Int) = x by omega] at l
    have := h.1 _ c l
    have wk := uR_walk (x := x) h.1 _ 0 _ (by rw [show ((uch (usz P w) x 0 : Nat) : Int) = (x : Int) + 1 from rfl]; exact s)
    rw [Nat.zero_add] at wk
    rw [uar_s c, wk]
    have g := nd_ge t
    refine ⟨?_, by omega⟩
    show x + 1 + _ = _
    omega
  · rw [uar_l (by omega), usz_eq (tm_l1 (by omega))]
    exact ⟨rfl, by omega⟩
theorem uR_T (h : uRW P w n1) : uT w.length n1 (uar P w) (usz P w) := by
  refine ⟨fun x => by unfold usz; omega, fun x hx => ⟨(uR_sz h hx).2, uR_end h hx⟩, h.2.1, h.2.2.1, usz_eq (by exact h.2.2.2.1), ?_⟩
  have := usz_eq h.2.2.2.2
  have := h.2.2.1
  omega
theorem usg_app {i j k : Nat} (h1 : i ≤ j) (h2 : j ≤ k) : usg w i j ++ usg w j k = usg w i k := by
  unfold usg
  rw [show k - i = (j - i) + (k - j) by omega, List.take_add, List.drop_drop, show i + (j - i) = j by omega]
theorem usg_0 {i : Nat} : usg w i i = [] := by
  unfold usg
  rw [Nat.sub_self, List.take_zero]
theorem usg_one {x : Nat} (h : x < w.length) : usg w x (x + 1) = [fw w x] := by
  unfold usg
  rw [List.drop_eq_getElem_cons h, show x + 1 - x = 1 by omega, fw_nat, List.getD_eq_getElem?_getD, List.getElem?_eq_getElem h]
  rfl
theorem usg_len {i j : Nat} (h : j ≤ w.length) : (usg w i j).length = j - i := by
  unfold usg
  rw [List.length_take, List.length_drop]
  omega
theorem usg_mem {i j : Nat} {v : Int} (h : v ∈ usg w i j) : v ∈ w := List.mem_of_mem_drop (List.mem_of_mem_take h)
theorem useg_tw (h : uRW P w n1) {x : Nat} (hx : x < w.length) : tw P (useg P w x) := by
  obtain ⟨t1, t2⟩ := uR_sz h hx
  unfold tw useg
  rw [usg_len t2, show x + usz P w x - x = usz P w x by omega]
  refine tm_congr t1 (fun k hk => ?_)
  unfold usg
  rw [Int.zero_add, fw_tk (k := k) rfl (by omega), fw_dr rfl]
/-- a term: its first place, then its parts -/
theorem useg_s (h : uRW P w n1) {x : Nat} (hx : x < w.length) : useg P w x = fw w x :: ((List.range (uar P w x)).map (fun k => useg P w (uch (usz P w) x k))).flatten := by
  have T := uR_T h
  have key : ∀ k, k ≤ uar P w x → usg w (x + 1) (uch (usz P w) x k) = ((List.range k).map (fun k => useg P w (uch (usz P w) x k))).flatten := by
    intro k
    induction k with
    | zero =>
      intro _
      exact usg_0
    | succ k ih =>
      intro hk
      have g := uch_gt (sz := usz P w) (x := x) (k := k)
      rw [List.range_succ, List.map_append, List.flatten_append, ← ih (by omega)]
      show usg w (x + 1) (uch (usz P w) x k + usz P w (uch (usz P w) x k)) = _
      rw [List.map_singleton, List.flatten_singleton, useg, usg_app (by omega) (by omega)]
  rw [← key _ (Nat.le_refl _), (uR_end h hx).1]
  have z : 1 ≤ usz P w x := by unfold usz; omega
  rw [useg, ← usg_app (j := x + 1) (by omega) (by omega), usg_one hx]
  rfl
theorem useg_l (h : uRW P w n1) {x : Nat} (hx : x < w.length) (h0 : uar P w x = 0) : useg P w x = [fw w x] := by
  rw [useg_s h hx, h0]
  rfl
theorem useg_c (h : uRW P w n1) {x : Nat} (hx : x < w.length) : ∃ p, useg P w x = fw w x :: p := ⟨_, useg_s h hx⟩
/-- the least equivalence: the roots, equal letters, parts -/
def uEQ (P : Int → Int) (w : List Int) (n1 : Nat) (E : Nat → Nat → Prop) : Prop :=
  (∀ x, E x x) ∧ (∀ x y, E x y → E y x) ∧ (∀ x y z, E x y → E y z → E x z) ∧ E 0 n1 ∧
  (∀ x y : Nat, x < w.length → y < w.length → fw w x < 0 → fw w x = fw w y → E x y) ∧
  (∀ x y k, E x y → x < w.length → y < w.length → 0 < uar P w x → 0 < uar P w y → k < uar P w x → k < uar P w y → E (uch (usz P w) x k) (uch (usz P w) y k))
def usim (P : Int → Int) (w : List Int) (n1 : Nat) (x y : Nat) : Prop := ∀ E, uEQ P w n1 E → E x y
theorem usim_r {x : Nat} : usim P w n1 x x := fun E h => h.1 x
theorem usim_s {x y : Nat} (a : usim P w n1 x y) : usim P w n1 y x := fun E h => h.2.1 x y (a E h)
theorem usim_t {x y z : Nat} (a : usim P w n1 x y) (b : usim P w n1 y z) : usim P w n1 x z := fun E h => h.2.2.1 x y z (a E h) (b E h)
theorem usim_0 : usim P w n1 0 n1 := fun E h => h.2.2.2.1
theorem usim_l {x y : Nat} (hx : x < w.length) (hy : y < w.length) (h0 : fw w x < 0) (e : fw w x = fw w y) : usim P w n1 x y := fun E h => h.2.2.2.2.1 x y hx hy h0 e
theorem usim_d {x y k : Nat} (a : usim P w n1 x y) (hx : x < w.length) (hy : y < w.length) (h1 : 0 < uar P w x) (h2 : 0 < uar P w y) (h3 : k < uar P w x) (h4 : k < uar P w y) : usim P w n1 (uch (usz P w) x k) (uch (usz P w) y k) := fun E h => h.2.2.2.2.2 x y k (a E h) hx hy h1 h2 h3 h4
/-- bindings with their places -/
def uBI (P : Int → Int) (w : List Int) (n1 : Nat) (b : zBd) : Prop := ∀ (M : Int) (q : List Int), lkp b M = some q → ∃ x y : Nat, x < w.length ∧ y < w.length ∧ fw w x = -1 - M ∧ useg P w y = q ∧ usim P w n1 x y
theorem uBI_add {b : zBd} (h : uBI P w n1 b) {x y : Nat} (hx : x < w.length) (hy : y < w.length) (e : usim P w n1 x y) : uBI P w n1 (b ++ [(-1 - fw w x, useg P w y)]) := fun M q hq => by
  rw [lkp_app1] at hq
  by_cases c : lkp b M = none
  · rw [if_pos c] at hq
    by_cases c2 : -1 - fw w x = M
    · rw [if_pos c2] at hq
      exact ⟨x, y, hx, hy, by omega, by simpa using hq, e⟩
    · rw [if_neg c2] at hq
      simp at hq
  · rw [if_neg c] at hq
    exact h M q hq
/-- what unification binds are places -/
theorem un_run (h : uRW P w n1) (lo : lo40 w) : ∀ (k : Nat) (b : zBd) (xs : List (Nat × Nat)) (b' : zBd), un P k b (xs.map (fun p => useg P w p.1)).flatten (xs.map (fun p => useg P w p.2)).flatten = some (some b') → (∀ p, p ∈ xs → p.1 < w.length ∧ p.2 < w.length ∧ usim P w n1 p.1 p.2) → uBI P w n1 b → (∃ rk, bw P b rk) → uBI P w n1 b' ∧ ∃ rk, bw P b' rk
  | 0, b, xs, b', hu, _, _, _ => by simp [un] at hu
  | k + 1, b, [], b', hu, _, hi, hb => by
    simp only [List.map_nil, List.flatten_nil, un, Option.some.injEq] at hu
    rw [← hu]
    exact ⟨hi, hb⟩
  | k + 1, b, (a, c) :: xs, b', hu, hx, hi, hb => by
    obtain ⟨ha, hc, hac⟩ := hx (a, c) List.mem_cons_self
    simp only at ha hc hac
    have hxs : ∀ p, p ∈ xs → p.1 < w.length ∧ p.2 < w.length ∧ usim P w n1 p.1 p.2 := fun p hp => hx p (List.mem_cons_of_mem _ hp)
    have cons : ∀ a c : Nat, a < w.length → c < w.length → usim P w n1 a c → ∀ p, p ∈ (a, c) :: xs → p.1 < w.length ∧ p.2 < w.length ∧ usim P w n1 p.1 p.2 := fun a c h1 h2 h3 p hp => by
      rcases List.mem_cons.mp hp with q | q
      · rw [q]; exact ⟨h1, h2, h3⟩
      · exact hxs p q
    rw [List.map_cons, List.map_cons, List.flatten_cons, List.flatten_cons] at hu
    simp only at hu
    have loA : -40 ≤ fw w a := lo _ (fw_mem ha)
    have loC : -40 ≤ fw w c := lo _ (fw_mem hc)
    have bind : ∀ x y : Nat, x < w.length → y < w.length → usim P w n1 x y → fw w x < 0 → lkp b (-1 - fw w x) = none → fw w x ∉ sb (th b) (useg P w y) → un P k (b ++ [(-1 - fw w x, useg P w y)]) (xs.map (fun p => useg P w p.1)).flatten (xs.map (fun p => useg P w p.2)).flatten = some (some b') → uBI P w n1 b' ∧ ∃ rk, bw P b' rk := fun x y x1 y1 e x0 hl ho hu => by
      obtain ⟨rk, hb⟩ := hb
      have lx : -40 ≤ fw w x := lo _ (fw_mem x1)
      exact un_run h lo k _ xs b' hu hxs (uBI_add hi x1 y1 e) (bw_add hb (by omega) (by omega) hl (useg_tw h y1) (fun v hv => lo v (usg_mem hv)) (by rw [show -1 - (-1 - fw w x) = fw w x by omega]; exact ho))
    by_cases c1 : fw w a < 0 ∧ lkp b (-1 - fw w a) ≠ none
    · obtain ⟨pc, ec⟩ := useg_c h hc
      obtain ⟨q, hq⟩ := Option.ne_none_iff_exists'.1 c1.2
      obtain ⟨x, y, x1, y1, x2, y2, xy⟩ := hi _ q hq
      rw [useg_l h ha (uar_l c1.1), ec, List.cons_append, List.cons_append, List.nil_append] at hu
      simp only [un] at hu
      rw [if_pos c1, TB_some hq] at hu
      refine un_run h lo k b ((y, c) :: xs) b' ?_ (cons y c y1 hc (usim_t (usim_s xy) (usim_t (usim_s (usim_l ha x1 c1.1 (by omega))) hac))) hi hb
      rw [List.map_cons, List.map_cons, List.flatten_cons, List.flatten_cons]
      simp only
      rw [y2, ec]
      exact hu
    by_cases c2 : fw w c < 0 ∧ lkp b (-1 - fw w c) ≠ none
    · obtain ⟨pa, ea⟩ := useg_c h ha
      obtain ⟨q, hq⟩ := Option.ne_none_iff_exists'.1 c2.2
      obtain ⟨x, y, x1, y1, x2, y2, xy⟩ := hi _ q hq
      rw [useg_l h hc (uar_l c2.1), ea, List.cons_append, List.cons_append, List.nil_append] at hu
      simp only [un] at hu
      rw [if_neg c1, if_pos c2, TB_some hq] at hu
      refine un_run h lo k b ((a, y) :: xs) b' ?_ (cons a y ha y1 (usim_t hac (usim_t (usim_l hc x1 c2.1 (by omega)) xy))) hi hb
      rw [List.map_cons, List.map_cons, List.flatten_cons, List.flatten_cons]
      simp only
      rw [y2, ea]
      exact hu
    by_cases c3 : fw w a = fw w c
    · have er : uar P w c = uar P w a := by unfold uar; rw [c3]
      rw [useg_s h ha, useg_s h hc, List.cons_append, List.cons_append] at hu
      simp only [un] at hu
      rw [if_neg c1, if_neg c2, if_pos c3] at hu
      refine un_run h lo k b ((List.range (uar P w a)).map (fun j => (uch (usz P w) a j, uch (usz P w) c j)) ++ xs) b' ?_ (fun p hp => ?_) hi hb
      · rw [List.map_append, List.map_append, List.flatten_append, List.flatten_append, List.map_map, List.map_map]
        rw [er] at hu
        exact hu
      · rcases List.mem_append.mp hp with q | q
        · obtain ⟨j, j1, j2⟩ := List.mem_map.mp q
          have j3 := List.mem_range.mp j1
          rw [← j2]
          exact ⟨(uch_in (uR_T h) ha j3).2.1, (uch_in (uR_T h) hc (by omega)).2.1, usim_d hac ha hc (by omega) (by omega) j3 (by omega)⟩
        · exact hxs p q
    by_cases c4 : fw w a < 0
    · obtain ⟨pc, ec⟩ := useg_c h hc
      have et := tl_app (p := (xs.map (fun p => useg P w p.2)).flatten) h.1 (useg_tw h hc)
      have t1 : (useg P w c ++ (xs.map (fun p => useg P w p.2)).flatten).take (useg P w c).length = useg P w c := List.take_left
      have d1 : (useg P w c ++ (xs.map (fun p => useg P w p.2)).flatten).drop (useg P w c).length = (xs.map (fun p => useg P w p.2)).flatten := List.drop_left
      rw [← et] at t1 d1
      rw [useg_l h ha (uar_l c4), List.cons_append, List.nil_append, ec, List.cons_append] at hu
      rw [ec, List.cons_append] at t1 d1
      simp only [un] at hu
      rw [if_neg c1, if_neg c2, if_neg c3, if_pos c4, t1, d1, ← ec] at hu
      by_cases c5 : fw w a ∈ sb (th b) (useg P w c)
      · rw [if_pos c5] at hu
        simp at hu
      · rw [if_neg c5] at hu
        exact bind a c ha hc hac c4 (Classical.byContradiction fun z => c1 ⟨c4, z⟩) c5 hu
    by_cases c6 : fw w c < 0
    · obtain ⟨pa, ea⟩ := useg_c h ha
      have et := tl_app (p := (xs.map (fun p => useg P w p.1)).flatten) h.1 (useg_tw h ha)
      have t1 : (useg P w a ++ (xs.map (fun p => useg P w p.1)).flatten).take (useg P w a).length = useg P w a := List.take_left
      have d1 : (useg P w a ++ (xs.map (fun p => useg P w p.1)).flatten).drop (useg P w a).length = (xs.map (fun p => useg P w p.1)).flatten := List.drop_left
      rw [← et] at t1 d1
      rw [useg_l h hc (uar_l c6), List.cons_append, List.nil_append, ea, List.cons_append] at hu
      rw [ea, List.cons_append] at t1 d1
      simp only [un] at hu
      rw [if_neg c1, if_neg c2, if_neg c3, if_neg c4, if_pos c6, t1, d1, ← ea] at hu
      by_cases c5 : fw w c ∈ sb (th b) (useg P w a)
      · rw [if_pos c5] at hu
        simp at hu
      · rw [if_neg c5] at hu
        exact bind c a hc ha (usim_s hac) c6 (Classical.byContradiction fun z => c2 ⟨c6, z⟩) c5 hu
    · obtain ⟨pa, ea⟩ := useg_c h ha
      obtain ⟨pc, ec⟩ := useg_c h hc
      rw [ea, ec, List.cons_append, List.cons_append] at hu
      simp only [un] at hu
      rw [if_neg c1, if_neg c2, if_neg c3, if_neg c4, if_neg c6] at hu
      simp at hu
/-- what stands at a place in the end -/
noncomputable def uWW (P : Int → Int) (w : List Int) (b : zBd) (x : Nat) : List Int := sb (th b) (useg P w x)
theorem flat_inj : ∀ {as bs : List (List Int)}, (∀ a, a ∈ as → tw P a) → (∀ b, b ∈ bs → tw P b) → as.length = bs.length → as.flatten = bs.flatten → as = bs
  | [], [], _, _, _, _ => rfl
  | [], _ :: _, _, _, hl, _ => by simp at hl
  | _ :: _, [], _, _, hl, _ => by simp at hl
  | a :: as, b :: bs, h1, h2, hl, e => by
    rw [List.flatten_cons, List.flatten_cons] at e
    obtain ⟨e1, e2⟩ := tw_pre (h1 a List.mem_cons_self) (h2 b List.mem_cons_self) e
    rw [e1, flat_inj (fun x hx => h1 x (List.mem_cons_of_mem _ hx)) (fun x hx => h2 x (List.mem_cons_of_mem _ hx)) (by simpa using hl) e2]
theorem uW_tw (h : uRW P w n1) {b : zBd} {rk : Int → Nat} (hb : bw P b rk) {x : Nat} (hx : x < w.length) : tw P (uWW P w b x) := tw_sb h.1 _ _ (Nat.le_refl _) (useg_tw h hx) (fun v _ v0 => th_tw h.1 hb (by omega))
theorem uW_s (h : uRW P w n1) {b : zBd} {x : Nat} (hx : x < w.length) (h0 : 0 ≤ fw w x) : uWW P w b x = fw w x :: ((List.range (uar P w x)).map (fun k => uWW P w b (uch (usz P w) x k))).flatten := by
  unfold uWW
  rw [useg_s h hx, sb_s h0, sb_flat, List.map_map]
  rfl
theorem uW_l (h : uRW P w n1) {b : zBd} {x : Nat} (hx : x < w.length) (h0 : fw w x < 0) : uWW P w b x = th b (-1 - fw w x) := by
  unfold uWW
  rw [useg_l h hx (uar_l h0), sb_one h0]
/-- like places come to the same -/
theorem uW_eq (h : uRW P w n1) {b : zBd} {rk : Int → Nat} (hb : bw P b rk) (h0 : uWW P w b 0 = uWW P w b n1) {x y : Nat} (e : usim P w n1 x y) (hx : x < w.length) : y < w.length ∧ uWW P w b x = uWW P w b y := by
  have key := e (fun x y => (x < w.length ↔ y < w.length) ∧ (x < w.length → uWW P w b x = uWW P w b y)) ⟨fun x => ⟨Iff.rfl, fun _ => rfl⟩, fun x y q => ⟨q.1.symm, fun hy => (q.2 (q.1.mpr hy)).symm⟩, fun x y z q1 q2 => ⟨q1.1.trans q2.1, fun hx => (q1.2 hx).trans (q2.2 (q1.1.mp hx))⟩, ⟨⟨fun _ => h.2.2.1, fun q => by omega⟩, fun _ => h0⟩, fun x y hx hy x0 exy => ⟨⟨fun _ => hy, fun _ => hx⟩, fun _ => by
      rw [uW_l h hx x0, uW_l h hy (by omega), exy]⟩, fun x y k q hx hy x0 y0 kx ky => by
      refine ⟨⟨fun _ => (uch_in (uR_T h) hy ky).2.1, fun _ => (uch_in (uR_T h) hx kx).2.1⟩, fun _ => ?_⟩
      have e2 := q.2 hx
      rw [uW_s h hx (uar_p x0), uW_s h hy (uar_p y0)] at e2
      obtain ⟨e3, e4⟩ := List.cons.inj e2
      have er : uar P w y = uar P w x := by unfold uar; rw [e3]
      rw [er] at e4
      have tws : ∀ (z : Nat), z < w.length → uar P w z = uar P w x → ∀ a, a ∈ (List.range (uar P w x)).map (fun k => uWW P w b (uch (usz P w) z k)) → tw P a := fun z hz ez a ha => by
        obtain ⟨j, j1, j2⟩ := List.mem_map.mp ha
        rw [← j2]
        exact uW_tw h hb (uch_in (uR_T h) hz (by rw [ez]; exact List.mem_range.mp j1)).2.1
      have e5 := flat_inj (tws x hx rfl) (tws y hy er) (by simp) e4
      exact List.map_inj_left.mp e5 k (List.mem_range.mpr kx)⟩
  exact ⟨key.1.mp hx, key.2 hx⟩
theorem len_flat {F : Nat → List Int} : ∀ {n : Nat}, ((List.range n).map F).flatten.length = usum (fun k => (F k).length) n
  | 0 => rfl
  | n + 1 => by
    rw [List.range_succ, List.map_append, List.flatten_append, List.length_append, len_flat, List.map_singleton, List.flatten_singleton]
    rfl
/-- a class of leaves alone -/
theorem uW_lf (h : uRW P w n1) {b : zBd} {rk : Int → Nat} (hb : bw P b rk) (hi : uBI P w n1 b) (h0 : uWW P w b 0 = uWW P w b n1) : ∀ (n x : Nat), x < w.length → (fw w x < 0 → lkp b (-1 - fw w x) ≠ none → rk (-1 - fw w x) < n) → (∀ y, usim P w n1 x y → uar P w y = 0) → (uWW P w b x).length = 1 := by
  intro n
  induction n with
  | zero =>
    intro x hx hr ha
    by_cases c : 0 ≤ fw w x
    · rw [uW_s h hx c, ha x usim_r]
      rfl
    · have e : lkp b (-1 - fw w x) = none := Classical.byContradiction fun q => absurd (hr (by omega) q) (Nat.not_lt_zero _)
      rw [uW_l h hx (by omega), th_n e]
      rfl
  | succ n ih =>
    intro x hx hr ha
    by_cases c : 0 ≤ fw w x
    · rw [uW_s h hx c, ha x usim_r]
      rfl
    · cases e : lkp b (-1 - fw w x) with
      | none =>
        rw [uW_l h hx (by omega), th_n e]
        rfl
      | some q =>
        obtain ⟨x', y, x1, y1, x2, y2, xy⟩ := hi _ q e
        have xx : usim P w n1 x x' := usim_l hx x1 (by omega) (by omega)
        have xy' := usim_t xx xy
        have y0 := ha y xy'
        rw [(uW_eq h hb h0 xy' hx).2]
        refine ih y y1 (fun f0 f1 => ?_) (fun z hz => ha z (usim_t xy' hz))
        have r1 := hr (by omega) (by rw [e]; simp)
        have r2 := ((hb.2 _ q e).2.2.2.2 (fw w y) (by rw [← y2, useg_l h y1 y0]; exact List.mem_cons_self)).2 f0 f1
        omega
/-- unification makes such classes -/
theorem uR_SS (h : uRW P w n1) {b : zBd} {rk : Int → Nat} (hb : bw P b rk) (hi : uBI P w n1 b) (h0 : uWW P w b 0 = uWW P w b n1) : uSS w.length n1 (uar P w) (usz P w) (fun x => (uWW P w b x).length) (usim P w n1) := by
  refine ⟨fun _ => usim_r, fun _ _ => usim_s, fun _ _ _ => usim_t, usim_0, fun x y e hx => ?_, fun x y e hx a1 a2 => ?_, fun K k0 k1 k2 k3 x y e => ?_, fun x hx => nd_ge (uW_tw h hb hx), fun x hx a1 => ?_, fun x hx ha => uW_lf h hb hi h0 40 x hx (fun _ f1 => ?_) ha⟩
  · obtain ⟨e1, e2⟩ := uW_eq h hb h0 e hx
    exact ⟨e1, congrArg List.length e2⟩
  · obtain ⟨hy, e2⟩ := uW_eq h hb h0 e hx
    rw [uW_s h hx (uar_p a1), uW_s h hy (uar_p a2)] at e2
    have er : uar P w y = uar P w x := by unfold uar; rw [(List.cons.inj e2).1]
    exact ⟨er.symm, fun k hk => usim_d e hx hy a1 a2 hk (by omega)⟩
  · exact (e (fun x y => usim P w n1 x y ∧ (K x ↔ K y)) ⟨fun x => ⟨usim_r, Iff.rfl⟩, fun x y q => ⟨usim_s q.1, q.2.symm⟩, fun x y z q1 q2 => ⟨usim_t q1.1 q2.1, q1.2.trans q2.2⟩, ⟨usim_0, ⟨fun q => absurd q k0, fun q => absurd q k1⟩⟩, fun x y hx hy x0 exy => ⟨usim_l hx hy x0 exy, ⟨fun q => absurd q (k2 x hx (uar_l x0)), fun q => absurd q (k2 y hy (uar_l (by omega)))⟩⟩, fun x y k q hx hy x0 y0 kx ky => ⟨usim_d q.1 hx hy x0 y0 kx ky, k3 x y k q.1 hx x0 y0 kx⟩⟩).2
  · show (uWW P w b x).length = _
    rw [uW_s h hx (uar_p a1), List.length_cons, len_flat, Nat.add_comm]
  · obtain ⟨q, hq⟩ := Option.ne_none_iff_exists'.1 f1
    exact (hb.2 _ q hq).2.2.2.1
end UH
