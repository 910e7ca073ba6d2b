/-! ===== unification, on words ===== -/
/-- from pairs of terms, one row against the other, with bindings so far; the outer none: not enough steps -/
noncomputable def un (P : Int → Int) : Nat → zBd → List Int → List Int → Option (Option zBd)
  | 0, _, _, _ => none
  | _ + 1, b, [], [] => some (some b)
  | _ + 1, _, [], _ :: _ => some none
  | _ + 1, _, _ :: _, [] => some none
  | k + 1, b, x :: p, y :: q =>
    if x < 0 ∧ lkp b (-1 - x) ≠ none then un P k b (TB b (-1 - x) ++ p) (y :: q)
    else if y < 0 ∧ lkp b (-1 - y) ≠ none then un P k b (x :: p) (TB b (-1 - y) ++ q)
    else if x = y then un P k b p q
    else if x < 0 then (if x ∈ sb (th b) ((y :: q).take (tl P (fw (y :: q)) 0)) then some none else un P k (b ++ [(-1 - x, (y :: q).take (tl P (fw (y :: q)) 0))]) p ((y :: q).drop (tl P (fw (y :: q)) 0)))
    else if y < 0 then (if y ∈ sb (th b) ((x :: p).take (tl P (fw (x :: p)) 0)) then some none else un P k (b ++ [(-1 - y, (x :: p).take (tl P (fw (x :: p)) 0))]) ((x :: p).drop (tl P (fw (x :: p)) 0)) q)
    else some none
theorem un_mono {P : Int → Int} : ∀ (k m : Nat) (b : zBd) (v w : List Int) (r : Option zBd), un P k b v w = some r → k ≤ m → un P m b v w = some r
  | 0, m, b, v, w, r, h, _ => by simp [un] at h
  | k + 1, m, b, v, w, r, h, hm => by
    obtain ⟨m', rfl⟩ : ∃ m', m = m' + 1 := ⟨m - 1, by omega⟩
    have hk : k ≤ m' := by omega
    cases v with
    | nil => cases w <;> (simp only [un] at h ⊢; exact h)
    | cons x p => cases w with
      | nil => simp only [un] at h ⊢; exact h
      | cons y q =>
        simp only [un] at h ⊢
        by_cases c1 : x < 0 ∧ lkp b (-1 - x) ≠ none
        · rw [if_pos c1] at h ⊢; exact un_mono k m' _ _ _ r h hk
        rw [if_neg c1] at h ⊢
        by_cases c2 : y < 0 ∧ lkp b (-1 - y) ≠ none
        · rw [if_pos c2] at h ⊢; exact un_mono k m' _ _ _ r h hk
        rw [if_neg c2] at h ⊢
        by_cases c3 : x = y
        · rw [if_pos c3] at h ⊢; exact un_mono k m' _ _ _ r h hk
        rw [if_neg c3] at h ⊢
        by_cases c4 : x < 0
        · rw [if_pos c4] at h ⊢
          by_cases c5 : x ∈ sb (th b) ((y :: q).take (tl P (fw (y :: q)) 0))
          · rw [if_pos c5] at h ⊢; exact h
          · rw [if_neg c5] at h ⊢; exact un_mono k m' _ _ _ r h hk
        rw [if_neg c4] at h ⊢
        by_cases c6 : y < 0
        · rw [if_pos c6] at h ⊢
          by_cases c5 : y ∈ sb (th b) ((x :: p).take (tl P (fw (x :: p)) 0))
          · rw [if_pos c5] at h ⊢; exact h
          · rw [if_neg c5] at h ⊢; exact un_mono k m' _ _ _ r h hk
        rw [if_neg c6] at h ⊢; exact h
/-- it comes to this -/
def UN (P : Int → Int) (b : zBd) (v w : List Int) (r : Option zBd) : Prop := ∃ k, un P k b v w = some r
section RB
variable {P : Int → Int} {b : zBd} {rk : Int → Nat} {r : Option zBd}
theorem UN_det {v w : List Int} {r' : Option zBd} (h : UN P b v w r) (h' : UN P b v w r') : r = r' := by
  obtain ⟨k, hk⟩ := h
  obtain ⟨m, hm⟩ := h'
  have a := un_mono k (k + m) b v w r hk (by omega)
  have c := un_mono m (k + m) b v w r' hm (by omega)
  rw [a] at c; simpa using c
theorem UN_nil : UN P b [] [] (some b) := ⟨1, rfl⟩
theorem UN_a {x : Int} {p w u : List Int} (h0 : x < 0) (hl : lkp b (-1 - x) = some u) (hw : w ≠ []) (h : UN P b (u ++ p) w r) : UN P b (x :: p) w r := by
  obtain ⟨k, hk⟩ := h
  obtain ⟨y, q, rfl⟩ := List.exists_cons_of_ne_nil hw
  refine ⟨k + 1, ?_⟩
  simp only [un]
  rw [if_pos ⟨h0, by rw [hl]; simp⟩, TB_some hl]; exact hk
theorem UN_b {x y : Int} {p q u : List Int} (hx : ¬ (x < 0 ∧ lkp b (-1 - x) ≠ none)) (h0 : y < 0) (hl : lkp b (-1 - y) = some u) (h : UN P b (x :: p) (u ++ q) r) : UN P b (x :: p) (y :: q) r := by
  obtain ⟨k, hk⟩ := h
  refine ⟨k + 1, ?_⟩
  simp only [un]
  rw [if_neg hx, if_pos ⟨h0, by rw [hl]; simp⟩, TB_some hl]; exact hk
theorem UN_eq {x : Int} {p q : List Int} (hx : ¬ (x < 0 ∧ lkp b (-1 - x) ≠ none)) (h : UN P b p q r) : UN P b (x :: p) (x :: q) r := by
  obtain ⟨k, hk⟩ := h
  refine ⟨k + 1, ?_⟩
  simp only [un]
  rw [if_neg hx, if_neg hx, if_pos trivial]; exact hk
theorem UN_ne {x y : Int} {p q : List Int} (hx : 0 ≤ x) (hy : 0 ≤ y) (h : x ≠ y) : UN P b (x :: p) (y :: q) none := by
  refine ⟨1, ?_⟩
  simp only [un]
  rw [if_neg (by omega), if_neg (by omega), if_neg h, if_neg (by omega), if_neg (by omega)]
/-- the letter of the first -/
theorem UN_x (hP : pok P) {x : Int} {p u q : List Int} (h0 : x < 0) (hl : lkp b (-1 - x) = none) (hu : tw P u) (hy : ¬ (fw u 0 < 0 ∧ lkp b (-1 - fw u 0) ≠ none)) (hne : x ≠ fw u 0) :
    (x ∈ sb (th b) u → UN P b (x :: p) (u ++ q) none) ∧ (x ∉ sb (th b) u → UN P (b ++ [(-1 - x, u)]) p q r → UN P b (x :: p) (u ++ q) r) := by
  have u0 : u ≠ [] := fun e => by have := nd_ge hu; rw [e] at this; simp at this
  have et := tl_app (p := q) hP hu
  obtain ⟨y, u', rfl⟩ := List.exists_cons_of_ne_nil u0
  rw [fw_c0] at hy hne
  rw [List.cons_append] at et ⊢
  have t1 : (y :: (u' ++ q)).take (y :: u').length = y :: u' := by rw [← List.cons_append]; exact List.take_left
  have d1 : (y :: (u' ++ q)).drop (y :: u').length = q := by rw [← List.cons_append]; exact List.drop_left
  constructor
  · intro ho
    refine ⟨1, ?_⟩
    simp only [un]
    rw [if_neg (fun z => z.2 hl), if_neg hy, if_neg hne, if_pos h0, et, t1, if_pos ho]
  · intro ho ⟨k, hk⟩
    refine ⟨k + 1, ?_⟩
    simp only [un]
    rw [if_neg (fun z => z.2 hl), if_neg hy, if_neg hne, if_pos h0, et, t1, d1, if_neg ho]; exact hk
/-- the letter of the second -/
theorem UN_y (hP : pok P) {y : Int} {p u q : List Int} (h0 : y < 0) (hl : lkp b (-1 - y) = none) (hu : tw P u) (hx : 0 ≤ fw u 0) :
    (y ∈ sb (th b) u → UN P b (u ++ p) (y :: q) none) ∧ (y ∉ sb (th b) u → UN P (b ++ [(-1 - y, u)]) p q r → UN P b (u ++ p) (y :: q) r) := by
  have u0 : u ≠ [] := fun e => by have := nd_ge hu; rw [e] at this; simp at this
  have et := tl_app (p := p) hP hu
  obtain ⟨x, u', rfl⟩ := List.exists_cons_of_ne_nil u0
  rw [fw_c0] at hx
  rw [List.cons_append] at et ⊢
  have t1 : (x :: (u' ++ p)).take (x :: u').length = x :: u' := by rw [← List.cons_append]; exact List.take_left
  have d1 : (x :: (u' ++ p)).drop (x :: u').length = p := by rw [← List.cons_append]; exact List.drop_left
  constructor
  · intro ho
    refine ⟨1, ?_⟩
    simp only [un]
    rw [if_neg (by omega), if_neg (fun z => z.2 hl), if_neg (by omega), if_neg (by omega), if_pos h0, et, t1, if_pos ho]
  · intro ho ⟨k, hk⟩
    refine ⟨k + 1, ?_⟩
    simp only [un]
    rw [if_neg (by omega), if_neg (fun z => z.2 hl), if_neg (by omega), if_neg (by omega), if_pos h0, et, t1, d1, if_neg ho]; exact hk
/-- letters of a word, as they may be -/
def lo40 (w : List Int) : Prop := ∀ v, v ∈ w → -40 ≤ v
theorem lo40_app {v w : List Int} : lo40 (v ++ w) ↔ lo40 v ∧ lo40 w :=
  ⟨fun h => ⟨fun x hx => h x (List.mem_append_left _ hx), fun x hx => h x (List.mem_append_right _ hx)⟩, fun h x hx => by
    rcases List.mem_append.1 hx with z | z
    · exact h.1 x z
    · exact h.2 x z⟩
theorem lo40_cons {v : Int} {w : List Int} : lo40 (v :: w) ↔ -40 ≤ v ∧ lo40 w :=
  ⟨fun h => ⟨h v List.mem_cons_self, fun x hx => h x (List.mem_cons_of_mem _ hx)⟩, fun h x hx => by
    rcases List.mem_cons.1 hx with z | z
    · rw [z]; exact h.1
    · exact h.2 x z⟩
/-- the rank of a word's first place -/
noncomputable def hr (b : zBd) (rk : Int → Nat) (w : List Int) : Nat := @ite _ (w ≠ [] ∧ fw w 0 < 0 ∧ lkp b (-1 - fw w 0) ≠ none) (Classical.propDecidable _) (rk (-1 - fw w 0) + 1) 0
theorem hr_n {w : List Int} (h : ¬ (w ≠ [] ∧ fw w 0 < 0 ∧ lkp b (-1 - fw w 0) ≠ none)) : hr b rk w = 0 := if_neg h
theorem hr_s {w : List Int} (h : w ≠ [] ∧ fw w 0 < 0 ∧ lkp b (-1 - fw w 0) ≠ none) : hr b rk w = rk (-1 - fw w 0) + 1 := if_pos h
theorem tw_ne {u : List Int} (hu : tw P u) : u ≠ [] := fun e => by have := nd_ge hu; rw [e] at this; simp at this
theorem fw_app0 {u p : List Int} (h : u ≠ []) : fw (u ++ p) 0 = fw u 0 := by
  obtain ⟨y, u', rfl⟩ := List.exists_cons_of_ne_nil h
  rw [List.cons_append, fw_c0, fw_c0]
/-- one step down a bound letter -/
theorem hr_lt (hb : bw P b rk) {x : Int} {p u : List Int} (h0 : x < 0) (hl : lkp b (-1 - x) = some u) : hr b rk (u ++ p) < hr b rk (x :: p) := by
  have hu := (hb.2 _ u hl).2.2.1
  have u0 := tw_ne hu
  rw [hr_s (w := x :: p) ⟨by simp, by rw [fw_c0]; exact h0, by rw [fw_c0, hl]; simp⟩, fw_c0]
  by_cases c : u ++ p ≠ [] ∧ fw (u ++ p) 0 < 0 ∧ lkp b (-1 - fw (u ++ p) 0) ≠ none
  · rw [hr_s c]
    rw [fw_app0 u0] at c ⊢
    have hm : fw u 0 ∈ u := fw_mem (k := 0) (List.length_pos_iff.2 u0)
    have := ((hb.2 _ u hl).2.2.2.2 _ hm).2 c.2.1 c.2.2
    omega
  · rw [hr_n c]; omega
theorem sb_pos (hP : pok P) (hb : bw P b rk) {x : Int} {p : List Int} : (sb (th b) p).length < (sb (th b) (x :: p)).length := by
  by_cases c : 0 ≤ x
  · rw [sb_s c]; simp
  · rw [sb_l c, List.length_append]
    have := nd_ge (th_tw hP hb (L := -1 - x) (by omega))
    omega
theorem sb_der (hb : bw P b rk) {x : Int} {p u : List Int} (h0 : x < 0) (hl : lkp b (-1 - x) = some u) : sb (th b) (u ++ p) = sb (th b) (x :: p) := by
  rw [sb_app, sb_l (by omega), th_s hb hl]
theorem bw_len (hb : bw P b rk) : b.length ≤ 40 := by
  have h := hb.2
  have hn := hb.1
  have hm : ∀ x, x ∈ b.map (fun q : Int × List Int => q.1) → x ∈ (List.range 40).map (fun n : Nat => (n : Int)) := fun x hx => by
    obtain ⟨q, q1, q2⟩ := List.mem_map.1 hx
    have : lkp b q.1 ≠ none := fun z => lkp_none.1 z q q1 rfl
    obtain ⟨u, hu⟩ := Option.ne_none_iff_exists'.1 this
    have := h q.1 u hu
    exact List.mem_map.2 ⟨x.toNat, List.mem_range.2 (by omega), by omega⟩
  have := List.Nodup.length_le_of_subset hn hm
  simpa using this
/-- it comes to an end -/
theorem UN_tot (hP : pok P) : ∀ (c : Nat) (b : zBd) (rk : Int → Nat) (m N : Nat) (v w : List Int) (q : Nat), bw P b rk → 40 - b.length ≤ c → (sb (th b) v).length ≤ m → hr b rk v + hr b rk w ≤ N → tws P q v → tws P q w → lo40 v → lo40 w → ∃ r, UN P b v w r := by
  intro c
  induction c using Nat.strongRecOn with
  | _ c ihc =>
  intro b rk m
  induction m using Nat.strongRecOn with
  | _ m ihm =>
  intro N
  induction N using Nat.strongRecOn with
  | _ N ihN =>
  intro v w q hb hc hm hN hv hw lv lw
  cases q with
  | zero => rw [tws_0 hv, tws_0 hw]; exact ⟨_, UN_nil⟩
  | succ q =>
    obtain ⟨x, p, rfl⟩ := List.exists_cons_of_ne_nil (tws_ne hv)
    obtain ⟨y, q', rfl⟩ := List.exists_cons_of_ne_nil (tws_ne hw)
    have bind : ∀ (L : Int) (u : List Int), lkp b L = none → 0 ≤ L → L < 40 → tw P u → lo40 u → (-1 - L) ∉ sb (th b) u → ∀ (p q2 : List Int), tws P q p → tws P q q2 → lo40 p → lo40 q2 → ∃ r, UN P (b ++ [(L, u)]) p q2 r := fun L u hL l0 l1 hu lu ho p q2 hp hq2 lp lq => by
      obtain ⟨rk', hb'⟩ := bw_add hb l0 l1 hL hu lu ho
      have l1 := bw_len hb'
      rw [List.length_append, List.length_singleton] at l1
      exact ihc (39 - b.length) (by omega) _ rk' _ _ p q2 q hb' (by rw [List.length_append, List.length_singleton]; omega) (Nat.le_refl _) (Nat.le_refl _) hp hq2 lp lq
    by_cases c1 : x < 0 ∧ lkp b (-1 - x) ≠ none
    · obtain ⟨u, hu⟩ := Option.ne_none_iff_exists'.1 c1.2
      have := hr_lt (p := p) hb c1.1 hu
      have hbu := hb.2 _ u hu
      obtain ⟨r, h⟩ := ihN (hr b rk (u ++ p) + hr b rk (y :: q')) (by omega) (u ++ p) (y :: q') (1 + q) hb hc (by rw [sb_der hb c1.1 hu]; exact hm) (Nat.le_refl _) (tws_app hP (tws_1.2 hbu.2.2.1) (tsw_let hv c1.1)) (by rw [Nat.add_comm]; exact hw) (lo40_app.2 ⟨fun z hz => (hbu.2.2.2.2 z hz).1, (lo40_cons.1 lv).2⟩) lw
      exact ⟨r, UN_a c1.1 hu (by simp) h⟩
    by_cases c2 : y < 0 ∧ lkp b (-1 - y) ≠ none
    · obtain ⟨u, hu⟩ := Option.ne_none_iff_exists'.1 c2.2
      have := hr_lt (p := q') hb c2.1 hu
      have hbu := hb.2 _ u hu
      obtain ⟨r, h⟩ := ihN (hr b rk (x :: p) + hr b rk (u ++ q')) (by omega) (x :: p) (u ++ q') (1 + q) hb hc hm (Nat.le_refl _) (by rw [Nat.add_comm]; exact hv) (tws_app hP (tws_1.2 hbu.2.2.1) (tsw_let hw c2.1)) lv (lo40_app.2 ⟨fun z hz => (hbu.2.2.2.2 z hz).1, (lo40_cons.1 lw).2⟩)
      exact ⟨r, UN_b c1 c2.1 hu h⟩
    have lx := (lo40_cons.1 lv).1
    have ly := (lo40_cons.1 lw).1
    by_cases c3 : x = y
    · subst c3
      have lt := sb_pos (x := x) (p := p) hP hb
      by_cases x0 : x < 0
      · obtain ⟨r, h⟩ := ihm (sb (th b) p).length (by omega) _ p q' q hb hc (Nat.le_refl _) (Nat.le_refl _) (tsw_let hv x0) (tsw_let hw x0) (lo40_cons.1 lv).2 (lo40_cons.1 lw).2
        exact ⟨r, UN_eq c1 h⟩
      · obtain ⟨r, h⟩ := ihm (sb (th b) p).length (by omega) _ p q' _ hb hc (Nat.le_refl _) (Nat.le_refl _) (tsw_sgn hP hv (by omega)) (tsw_sgn hP hw (by omega)) (lo40_cons.1 lv).2 (lo40_cons.1 lw).2
        exact ⟨r, UN_eq c1 h⟩
    by_cases c4 : x < 0
    · have hl : lkp b (-1 - x) = none := Classical.byContradiction fun z => c1 ⟨c4, z⟩
      obtain ⟨n, n0, nl, ntl, n1, n2, n3⟩ := tws_fst hP hw
      have e := List.take_append_drop n (y :: q')
      have f0 : fw ((y :: q').take n) 0 = y := by rw [← fw_app0 (p := (y :: q').drop n) (tw_ne n1), e, fw_c0]
      have ux := fun r => UN_x (r := r) (p := p) (q := (y :: q').drop n) hP c4 hl n1 (by rw [f0]; exact c2) (by rw [f0]; exact c3)
      rw [e] at ux
      have lwt := lo40_app.1 (by rw [e]; exact lw : lo40 ((y :: q').take n ++ (y :: q').drop n))
      by_cases ho : x ∈ sb (th b) ((y :: q').take n)
      · exact ⟨_, (ux none).1 ho⟩
      · have ex : -1 - (-1 - x) = x := by omega
        obtain ⟨r, h⟩ := bind (-1 - x) _ hl (by omega) (by omega) n1 lwt.1 (by rw [ex]; exact ho) p _ (tsw_let hv c4) n3 (lo40_cons.1 lv).2 lwt.2
        exact ⟨r, (ux r).2 ho h⟩
    by_cases c6 : y < 0
    · have hl : lkp b (-1 - y) = none := Classical.byContradiction fun z => c2 ⟨c6, z⟩
      obtain ⟨n, n0, nl, ntl, n1, n2, n3⟩ := tws_fst hP hv
      have e := List.take_append_drop n (x :: p)
      have f0 : fw ((x :: p).take n) 0 = x := by rw [← fw_app0 (p := (x :: p).drop n) (tw_ne n1), e, fw_c0]
      have ux := fun r => UN_y (r := r) (p := (x :: p).drop n) (q := q') hP c6 hl n1 (by rw [f0]; omega)
      rw [e] at ux
      have lwt := lo40_app.1 (by rw [e]; exact lv : lo40 ((x :: p).take n ++ (x :: p).drop n))
      by_cases ho : y ∈ sb (th b) ((x :: p).take n)
      · exact ⟨_, (ux none).1 ho⟩
      · have ex : -1 - (-1 - y) = y := by omega
        obtain ⟨r, h⟩ := bind (-1 - y) _ hl (by omega) (by omega) n1 lwt.1 (by rw [ex]; exact ho) _ q' n3 (tsw_let hw c6) lwt.2 (lo40_cons.1 lw).2
        exact ⟨r, (ux r).2 ho h⟩
    exact ⟨_, UN_ne (by omega) (by omega) c3⟩
/-- what is alike on both sides changes nothing -/
theorem UN_skip (hP : pok P) (hb : bw P b rk) : ∀ (m N : Nat) (u : List Int) (k : Nat), (sb (th b) u).length ≤ m → hr b rk u ≤ N → tws P k u → lo40 u → ∀ p q, UN P b p q r → UN P b (u ++ p) (u ++ q) r := by
  intro m
  induction m using Nat.strongRecOn with
  | _ m ihm =>
  intro N
  induction N using Nat.strongRecOn with
  | _ N ihN =>
  intro u k hm hN hu lu p q h
  cases k with
  | zero => rw [tws_0 hu]; exact h
  | succ k =>
    obtain ⟨x, u', rfl⟩ := List.exists_cons_of_ne_nil (tws_ne hu)
    by_cases c1 : x < 0 ∧ lkp b (-1 - x) ≠ none
    · obtain ⟨w, hw⟩ := Option.ne_none_iff_exists'.1 c1.2
      have := hr_lt (p := u') hb c1.1 hw
      have hbu := hb.2 _ w hw
      have ih := ihN (hr b rk (w ++ u')) (by omega) (w ++ u') (1 + k) (by rw [sb_der hb c1.1 hw]; exact hm) (Nat.le_refl _) (tws_app hP (tws_1.2 hbu.2.2.1) (tsw_let hu c1.1)) (lo40_app.2 ⟨fun z hz => (hbu.2.2.2.2 z hz).1, (lo40_cons.1 lu).2⟩) p q h
      rw [List.append_assoc, List.append_assoc] at ih
      rw [List.cons_append, List.cons_append]
      refine UN_a c1.1 hw (by simp) ?_
      -- the second side, down the same letter, behind the first one's rest
      have key : ∀ (n : Nat) (v z : List Int), hr b rk v ≤ n → v ≠ [] → UN P b v (w ++ z) r → UN P b v (x :: z) r := by
        intro n
        induction n using Nat.strongRecOn with
        | _ n ihn =>
        intro v z hn v0 hz
        obtain ⟨a, v', rfl⟩ := List.exists_cons_of_ne_nil v0
        by_cases ca : a < 0 ∧ lkp b (-1 - a) ≠ none
        · obtain ⟨s, hs⟩ := Option.ne_none_iff_exists'.1 ca.2
          have lt := hr_lt (p := v') hb ca.1 hs
          have hbs := hb.2 _ s hs
          have hz' : UN P b (s ++ v') (w ++ z) r := by
            obtain ⟨kk, hk⟩ := hz
            have w0 := tw_ne hbu.2.2.1
            obtain ⟨y, w', rfl⟩ := List.exists_cons_of_ne_nil w0
            cases kk with
            | zero => simp [un] at hk
            | succ kk =>
              rw [List.cons_append] at hk ⊢
              simp only [un] at hk
              rw [if_pos ca, TB_some hs] at hk
              exact ⟨kk, hk⟩
          exact UN_a ca.1 hs (by simp) (ihn (hr b rk (s ++ v')) (by omega) (s ++ v') z (Nat.le_refl _) (by simp [tw_ne hbs.2.2.1]) hz')
        · exact UN_b ca c1.1 hw hz
      exact key _ _ _ (Nat.le_refl _) (by simp [tw_ne hbu.2.2.1]) ih
    · have lt := sb_pos (x := x) (p := u') hP hb
      rw [List.cons_append, List.cons_append]
      by_cases x0 : x < 0
      · exact UN_eq c1 (ihm (sb (th b) u').length (by omega) _ u' k (Nat.le_refl _) (Nat.le_refl _) (tsw_let hu x0) (lo40_cons.1 lu).2 p q h)
      · exact UN_eq c1 (ihm (sb (th b) u').length (by omega) _ u' _ (Nat.le_refl _) (Nat.le_refl _) (tsw_sgn hP hu (by omega)) (lo40_cons.1 lu).2 p q h)
end RB
