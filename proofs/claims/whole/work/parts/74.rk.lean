/-! ===== unification: the reference's board and stacks ===== -/
/-- a word on the reference's board -/
def onM (E : Nat → Int → Int) (i : Int) (w : List Int) : Prop := 0 ≤ i ∧ i + w.length ≤ 360 ∧ lk (E 97) i (fw w) 0 w.length ∧ lo40 w
theorem onM_97 {E E' : Nat → Int → Int} {i : Int} {w : List Int} (h : onM E i w) (e : E' 97 = E 97) : onM E' i w := by
  unfold onM
  rw [e]; exact h
theorem onM_l {E : Nat → Int → Int} {i : Int} {v w : List Int} (h : onM E i (v ++ w)) : onM E i v := by
  obtain ⟨h0, h1, h2, h3⟩ := h
  rw [List.length_append] at h1 h2
  refine ⟨h0, by omega, fun k hk => ?_, (lo40_app.1 h3).1⟩
  rw [h2 k (by omega), fw_al (k := k) (by omega) hk, fw_0, fw_nat]
theorem onM_r {E : Nat → Int → Int} {i j : Int} {v w : List Int} (h : onM E i (v ++ w)) (hj : j = i + v.length) : onM E j w := by
  obtain ⟨h0, h1, h2, h3⟩ := h
  subst hj
  rw [List.length_append] at h1 h2
  refine ⟨by omega, by omega, fun k hk => ?_, (lo40_app.1 h3).2⟩
  have e : i + (v.length : Int) + (k : Int) = i + ((v.length + k : Nat) : Int) := by omega
  rw [e, h2 (v.length + k) (by omega), fw_ar (k := k) (by omega), fw_0, fw_nat]
theorem onM_hd {E : Nat → Int → Int} {i : Int} {w : List Int} (h : onM E i w) (h0 : w ≠ []) : E 97 i = fw w 0 ∧ -40 ≤ fw w 0 ∧ 0 ≤ i ∧ i < 360 := by
  have l : 0 < w.length := List.length_pos_iff.2 h0
  have := h.2.2.1 0 l
  rw [fw_0, ← fw_nat] at this
  refine ⟨by simpa using this, h.2.2.2 _ (fw_mem (k := 0) l), h.1, by have := h.2.1; omega⟩
theorem onM_u {E : Nat → Int → Int} {P : Int → Int} {i : Int} {w v : List Int} (h1 : onM E i w) (t1 : tw P w) (h2 : onM E i v) (t2 : tw P v) : w = v := by
  have e1 : tm P (E 97) i w.length := tm_congr t1 (fun k hk => (h1.2.2.1 k hk).symm)
  have e2 : tm P (E 97) i v.length := tm_congr t2 (fun k hk => (h2.2.2.1 k hk).symm)
  exact (lk_word (tm_uniq e1 e2) h1.2.2.1 h2.2.2.1).1 (fun k hk => rfl)
theorem rowM_fst {F : Nat → Int → Int} {P : Int → Int} (hP : pok P) {n : Nat} {i : Int} {w : List Int} (h : tws P (n + 1) w) (hi : onM F i w) : ∃ x y : List Int, w = x ++ y ∧ tw P x ∧ tws P n y ∧ onM F i x ∧ onM F (i + x.length) y := by
  obtain ⟨k, k0, kl, _, k1, k2, k3⟩ := tws_fst hP h
  have e := List.take_append_drop k w
  rw [← e] at hi
  exact ⟨_, _, e.symm, k1, k3, onM_l hi, onM_r hi (by rw [k2])⟩
theorem rowM_parts {F : Nat → Int → Int} {P : Int → Int} (hP : pok P) {i : Int} {w : List Int} (h : tw P w) (hi : onM F i w) (h0 : 0 ≤ fw w 0) : ∃ (x : Int) (y : List Int), w = x :: y ∧ x = fw w 0 ∧ 0 ≤ x ∧ x < 16 ∧ tws P (P x).toNat y ∧ onM F (i + 1) y ∧ 0 ≤ P x ∧ P x ≤ 3 := by
  obtain ⟨x, y, rfl⟩ := List.exists_cons_of_ne_nil (tw_ne h)
  rw [fw_c0] at h0
  have h16 : x < 16 := tsw_lt (tws_1.2 h)
  have hp := hP x h0 h16
  have h2 := tsw_sgn (q := 0) hP (tws_1.2 h) h0
  rw [Nat.zero_add] at h2
  have e : x :: y = [x] ++ y := rfl
  rw [e] at hi
  exact ⟨x, y, rfl, by rw [fw_c0], h0, h16, h2, onM_r hi (by simp), hp.1, hp.2⟩
/-- where a place rests -/
theorem restM_at {F : Nat → Int → Int} {P : Int → Int} {b : zBd} {rk : Int → Nat} {i : Int} {w : List Int} (hP : pok P) (hb : bw P b rk) (hU : bdW (F 97) (F 98) 360 b) (hi : onM F i w) (hw : tw P w) :
    ∃ (iu : Int) (wu : List Int), rs (F 97) (F 98) 40 i = iu ∧ onM F iu wu ∧ tw P wu ∧ ¬ (fw wu 0 < 0 ∧ lkp b (-1 - fw wu 0) ≠ none) ∧ sb (th b) wu = sb (th b) w ∧ (∀ p v r, v ≠ [] → UN P b (wu ++ p) v r → UN P b (w ++ p) v r) ∧ (∀ x p q r, ¬ (x < 0 ∧ lkp b (-1 - x) ≠ none) → UN P b (x :: p) (wu ++ q) r → UN P b (x :: p) (w ++ q) r) := by
  obtain ⟨h1, h2, h3, h4⟩ := onM_hd hi (tw_ne hw)
  by_cases c : bnd (F 97) (F 98) i
  · have c' := (bnd_iff hU (by rw [h1]; exact h2)).1 c
    have hbk := bw_bok hb hU
    obtain ⟨L, u, a1, a2, a3, a4, a5, a6⟩ := rs_word hP hb hU 40 i (by rw [h1]; exact h2) (fun z => by
      have z1 := z.1
      rw [h1] at z1
      exact (hbk _ (by rw [h1]; omega) (by rw [h1]; omega) z.2).1) c
    obtain ⟨w1, w2, w3⟩ := hU.2 L u a1
    obtain ⟨b1, b2, b3, b4, b5⟩ := hb.2 L u a1
    have e1 : w = [F 97 i] := by
      have := tm_letter hw (by rw [← h1]; exact c'.1)
      obtain ⟨y, w', rfl⟩ := List.exists_cons_of_ne_nil (tw_ne hw)
      have : w' = [] := List.length_eq_zero_iff.1 (by simpa using this)
      subst this
      rw [h1, fw_c0]
    refine ⟨_, u, rfl, by rw [a2]; exact ⟨w1, w2, w3, fun v hv => (b5 v hv).1⟩, b3, a3, ?_, ?_, ?_⟩
    · rw [a4, e1, sb_one c'.1]
    · rw [e1]; exact a5
    · rw [e1]; exact a6
  · refine ⟨i, w, rs_n c, hi, hw, fun z => c ((bnd_iff hU (by rw [h1]; exact h2)).2 (by rw [h1]; exact z)), rfl, fun _ _ _ _ z => z, fun _ _ _ _ _ z => z⟩
/-- one place's word is a proper part of another's, under b -/
def prp (E : Nat → Int → Int) (P : Int → Int) (b : zBd) (x y : Int) : Prop := ∃ (wx wy pre post : List Int), onM E x wx ∧ tw P wx ∧ onM E y wy ∧ tw P wy ∧ sb (th b) wy = pre ++ (sb (th b) wx ++ post) ∧ pre ≠ []
def chn (E : Nat → Int → Int) (P : Int → Int) (b : zBd) : List Int → Prop
  | [] => True
  | [_] => True
  | x :: y :: g => prp E P b x y ∧ chn E P b (y :: g)
theorem prp_97 {E E' : Nat → Int → Int} {P : Int → Int} {b : zBd} {x y : Int} (h : prp E P b x y) (e : E' 97 = E 97) : prp E' P b x y := by
  obtain ⟨wx, wy, pre, post, h1, h2, h3, h4, h5, h6⟩ := h
  exact ⟨wx, wy, pre, post, onM_97 h1 e, h2, onM_97 h3 e, h4, h5, h6⟩
theorem chn_97 {E E' : Nat → Int → Int} {P : Int → Int} {b : zBd} (e : E' 97 = E 97) : ∀ {g : List Int}, chn E P b g → chn E' P b g
  | [], _ => trivial
  | [_], _ => trivial
  | _ :: _ :: _, h => ⟨prp_97 h.1 e, chn_97 e h.2⟩
/-- more bindings change nothing of that -/
theorem prp_b {E : Nat → Int → Int} {P : Int → Int} {b b' : zBd} {rk : Int → Nat} (hP : pok P) (hb' : bw P b' rk) (hs : sol b (th b')) {x y : Int} (h : prp E P b x y) : prp E P b' x y := by
  obtain ⟨wx, wy, pre, post, h1, h2, h3, h4, h5, h6⟩ := h
  refine ⟨wx, wy, sb (th b') pre, sb (th b') post, h1, h2, h3, h4, ?_, fun e => h6 ?_⟩
  · rw [← sol_sb hs wy, h5, sb_app, sb_app, sol_sb hs wx]
  · have := sb_len_ge (fun L l0 => th_ne hP hb' l0) pre
    rw [e] at this
    exact List.length_eq_zero_iff.1 (by simpa using this)
theorem chn_b {E : Nat → Int → Int} {P : Int → Int} {b b' : zBd} {rk : Int → Nat} (hP : pok P) (hb' : bw P b' rk) (hs : sol b (th b')) : ∀ {g : List Int}, chn E P b g → chn E P b' g
  | [], _ => trivial
  | [_], _ => trivial
  | _ :: _ :: _, h => ⟨prp_b hP hb' hs h.1, chn_b hP hb' hs h.2⟩
theorem prp_lt {E : Nat → Int → Int} {P : Int → Int} {b : zBd} {x y : Int} (h : prp E P b x y) : tlT P (E 97) (th b) x < tlT P (E 97) (th b) y ∧ (0 ≤ x ∧ x < 360) ∧ 0 ≤ y ∧ y < 360 := by
  obtain ⟨wx, wy, pre, post, h1, h2, h3, h4, h5, h6⟩ := h
  have e1 := tlT_eq (T := th b) h2 h1.2.2.1
  have e2 := tlT_eq (T := th b) h4 h3.2.2.1
  have e3 := congrArg List.length h5
  rw [List.length_append, List.length_append] at e3
  have := List.length_pos_iff.2 h6
  have a := onM_hd h1 (tw_ne h2)
  have c := onM_hd h3 (tw_ne h4)
  exact ⟨by omega, ⟨a.2.2.1, a.2.2.2⟩, c.2.2.1, c.2.2.2⟩
theorem chn_all {E : Nat → Int → Int} {P : Int → Int} {b : zBd} : ∀ {g : List Int} {x : Int}, chn E P b (x :: g) → ∀ y, y ∈ g → tlT P (E 97) (th b) x < tlT P (E 97) (th b) y ∧ 0 ≤ y ∧ y < 360
  | [], _, _, y, hy => absurd hy (by simp)
  | z :: g, x, h, y, hy => by
    have l := prp_lt h.1
    rcases List.mem_cons.1 hy with e | e
    · subst e; exact ⟨l.1, l.2.2⟩
    · have := chn_all h.2 y e
      exact ⟨by omega, this.2⟩
theorem chn_nodup {E : Nat → Int → Int} {P : Int → Int} {b : zBd} : ∀ {g : List Int}, chn E P b g → g.Nodup
  | [], _ => by simp
  | [_], _ => by simp
  | x :: y :: g, h => by
    rw [List.nodup_cons]
    exact ⟨fun m => by have := (chn_all h x m).1; omega, chn_nodup h.2⟩
theorem chn_len {E : Nat → Int → Int} {P : Int → Int} {b : zBd} {g : List Int} (h : chn E P b g) : g.length ≤ 361 := by
  cases g with
  | nil => simp
  | cons x g =>
    have hn := chn_nodup h
    rw [List.nodup_cons] at hn
    have hm : g ⊆ (List.range 360).map (fun n : Nat => (n : Int)) := fun y hy => by
      have := (chn_all h y hy).2
      exact List.mem_map.2 ⟨y.toNat, List.mem_range.2 (by omega), by omega⟩
    have := List.Nodup.length_le_of_subset hn.2 hm
    simp at this ⊢
    omega
/-- a stack of rows, from the base on; behind each but the first the place whose parts they are -/
def stO (F : Nat → Int → Int) (P : Int → Int) (b : zBd) (base : Int) : Nat → List Int → List Int → Prop
  | 0, g, D => g = [] ∧ D = []
  | k + 1, g, D => ∃ (n : Nat) (va D' : List Int), onM F (F 99 (base + k)) va ∧ F 101 (base + k) = n ∧ tws P n va ∧ D = va ++ D' ∧ ((k = 0 ∧ g = [] ∧ D' = []) ∨ ∃ (x : Int) (g' w : List Int) (c : Int) (dn : List Int), g = x :: g' ∧ onM F x w ∧ tw P w ∧ w = c :: (dn ++ va) ∧ 0 ≤ c ∧ chn F P b g ∧ stO F P b base k g' D')
theorem stO_len {F : Nat → Int → Int} {P : Int → Int} {b : zBd} {base : Int} : ∀ {k : Nat} {g D : List Int}, stO F P b base k g D → k ≤ g.length + 1 ∧ (1 ≤ k → chn F P b g)
  | 0, g, D, h => ⟨by omega, fun z => by omega⟩
  | k + 1, g, D, ⟨n, va, D', h1, h2, h3, h4, h5⟩ => by
    rcases h5 with ⟨e1, e2, _⟩ | ⟨x, g', w, c, dn, e1, e2, e3, e4, e5, e6, e7⟩
    · subst e1; subst e2; exact ⟨by simp, fun _ => trivial⟩
    · have := stO_len e7
      subst e1
      exact ⟨by rw [List.length_cons]; omega, fun _ => e6⟩
theorem stO_k {F : Nat → Int → Int} {P : Int → Int} {b : zBd} {base : Int} {k : Nat} {g D : List Int} (h : stO F P b base k g D) : k ≤ 362 := by
  cases k with
  | zero => omega
  | succ k =>
    have := stO_len h
    have := chn_len (this.2 (by omega))
    omega
theorem stO_congr {F F' : Nat → Int → Int} {P : Int → Int} {b : zBd} {base : Int} (e : F' 97 = F 97) : ∀ {k : Nat} {g D : List Int}, stO F P b base k g D → (∀ j : Int, base ≤ j → j < base + k → F' 99 j = F 99 j ∧ F' 101 j = F 101 j) → stO F' P b base k g D
  | 0, g, D, h, _ => h
  | k + 1, g, D, ⟨n, va, D', h1, h2, h3, h4, h5⟩, hj => by
    obtain ⟨j1, j2⟩ := hj (base + k) (by omega) (by omega)
    refine ⟨n, va, D', by rw [j1]; exact onM_97 h1 e, by rw [j2]; exact h2, h3, h4, ?_⟩
    rcases h5 with z | ⟨x, g', w, c, dn, e1, e2, e3, e4, e5, e6, e7⟩
    · exact Or.inl z
    · exact Or.inr ⟨x, g', w, c, dn, e1, onM_97 e2 e, e3, e4, e5, chn_97 e e6, stO_congr e e7 (fun j a1 a2 => hj j a1 (by omega))⟩
theorem stO_b {F : Nat → Int → Int} {P : Int → Int} {b b' : zBd} {rk : Int → Nat} {base : Int} (hP : pok P) (hb' : bw P b' rk) (hs : sol b (th b')) : ∀ {k : Nat} {g D : List Int}, stO F P b base k g D → stO F P b' base k g D
  | 0, g, D, h => h
  | k + 1, g, D, ⟨n, va, D', h1, h2, h3, h4, h5⟩ => by
    refine ⟨n, va, D', h1, h2, h3, h4, ?_⟩
    rcases h5 with z | ⟨x, g', w, c, dn, e1, e2, e3, e4, e5, e6, e7⟩
    · exact Or.inl z
    · exact Or.inr ⟨x, g', w, c, dn, e1, e2, e3, e4, e5, chn_b hP hb' hs e6, stO_b hP hb' hs e7⟩
/-- the row is done -/
theorem stO_pop {F : Nat → Int → Int} {P : Int → Int} {b : zBd} {base : Int} {k : Nat} {g D : List Int} (h : stO F P b base (k + 1) g D) (h0 : F 101 (base + k) = 0) : ∃ g', stO F P b base k g' D := by
  obtain ⟨n, va, D', h1, h2, h3, h4, h5⟩ := h
  have n0 : n = 0 := by omega
  subst n0
  have := tws_0 h3
  subst this
  rw [List.nil_append] at h4
  subst h4
  rcases h5 with ⟨e1, e2, e3⟩ | ⟨x, g', w, c, dn, e1, e2, e3, e4, e5, e6, e7⟩
  · subst e1; subst e2; subst e3; exact ⟨[], rfl, rfl⟩
  · exact ⟨g', e7⟩
/-- the next term of the row -/
theorem stO_next {F : Nat → Int → Int} {P : Int → Int} {b : zBd} {base : Int} {k : Nat} {g D : List Int} (hP : pok P) (h : stO F P b base (k + 1) g D) (h0 : F 101 (base + k) ≠ 0) :
    ∃ (w D1 : List Int) (n : Nat), D = w ++ D1 ∧ tw P w ∧ onM F (F 99 (base + k)) w ∧ F 101 (base + k) = (n : Int) + 1 ∧ n ≤ 360 ∧
      (∀ F' : Nat → Int → Int, F' 97 = F 97 → F' 99 (base + k) = F 99 (base + k) + w.length → F' 101 (base + k) = n → (∀ j : Int, base ≤ j → j < base + k → F' 99 j = F 99 j ∧ F' 101 j = F 101 j) →
        stO F' P b base (k + 1) g D1 ∧
        ∀ (iu : Int) (wu : List Int) (c : Int) (y : List Int) (m : Nat), onM F iu wu → tw P wu → sb (th b) wu = sb (th b) w → wu = c :: y → 0 ≤ c → tws P m y → F' 99 (base + (k + 1 : Nat)) = iu + 1 → F' 101 (base + (k + 1 : Nat)) = m → stO F' P b base (k + 1 + 1) (iu :: g) (y ++ D1)) := by
  obtain ⟨n, va, D', h1, h2, h3, h4, h5⟩ := h
  obtain ⟨n, rfl⟩ : ∃ n', n = n' + 1 := ⟨n - 1, by omega⟩
  obtain ⟨w, va', rfl, tw1, ta', hi1, hi2⟩ := rowM_fst hP h3 h1
  have nl : n ≤ 360 := by
    have := tws_le hP ta'
    have := hi2.2.1; have := hi2.1
    omega
  refine ⟨w, va' ++ D', n, by rw [h4, List.append_assoc], tw1, hi1, by rw [h2]; omega, nl, fun F' e97 e99 e101 elo => ?_⟩
  have base1 : stO F' P b base (k + 1) g (va' ++ D') := by
    refine ⟨n, va', D', by rw [e99]; exact onM_97 hi2 e97, e101, ta', rfl, ?_⟩
    rcases h5 with z | ⟨x, g', w', c, dn, e1, e2, e3, e4, e5, e6, e7⟩
    · exact Or.inl z
    · refine Or.inr ⟨x, g', w', c, dn ++ w, e1, onM_97 e2 e97, e3, by rw [e4, List.append_assoc], e5, chn_97 e97 e6, stO_congr e97 e7 elo⟩
  refine ⟨base1, fun iu wu c y m a1 a2 a3 a4 a5 a6 a7 a8 => ?_⟩
  have oy : onM F (iu + 1) y := by
    have e : wu = [c] ++ y := a4
    rw [e] at a1
    exact onM_r a1 (by simp)
  refine ⟨m, y, va' ++ D', by rw [a7]; exact onM_97 oy e97, a8, a6, rfl, Or.inr ⟨iu, g, wu, c, [], rfl, onM_97 a1 e97, a2, by rw [a4]; rfl, a5, ?_, base1⟩⟩
  -- the chain
  rcases h5 with ⟨z1, z2, z3⟩ | ⟨x, g', w', c', dn, e1, e2, e3, e4, e5, e6, e7⟩
  · subst z2; trivial
  · subst e1
    refine ⟨⟨wu, w', c' :: sb (th b) dn, sb (th b) va', onM_97 a1 e97, a2, onM_97 e2 e97, e3, ?_, by simp⟩, chn_97 e97 e6⟩
    rw [e4, sb_s e5, sb_app, sb_app, a3]
    rfl
