/-! ===== unification: the class, where there is none ===== -/
section RF
variable {d : List Nat} {G : Nat → Int → Option Nat} {E : Nat → Int → Int}
theorem rest_at {F : Nat → Int → Int} {P : Int → Int} {b : zBd} {rk : Int → Nat} {i : Int} {w : List Int} (hP : pok P) (hb : bw P b rk) (hU : bdW (F 21) (F 22) 360 b) (hi : onB F i w) (hw : tw P w) :
    ∃ (iu : Int) (wu : List Int), rs (F 21) (F 22) 40 i = iu ∧ onB F iu wu ∧ tw P wu ∧ ¬ (fw wu 0 < 0 ∧ lkp b (-1 - fw wu 0) ≠ none) ∧ sb (th b) wu = sb (th b) w ∧ (∀ p v r, v ≠ [] → UN P b (wu ++ p) v r → UN P b (w ++ p) v r) ∧ (∀ x p q r, ¬ (x < 0 ∧ lkp b (-1 - x) ≠ none) → UN P b (x :: p) (wu ++ q) r → UN P b (x :: p) (w ++ q) r) ∧ (iu = i ∧ wu = w ∨ iu ≠ i ∧ (fw w 0 < 0 ∧ lkp b (-1 - fw w 0) ≠ none) ∧ ∃ L : Int, lkp b L = some wu ∧ F 22 L = iu ∧ 0 ≤ L ∧ L < 40) := by
  obtain ⟨h1, h2, h3, h4⟩ := onB_hd hi (tw_ne hw)
  by_cases c : bnd (F 21) (F 22) i
  · have c' := (bnd_iff hU (by rw [h1]; exact h2)).1 c
    have hbk := bw_bok hb hU
    obtain ⟨L, u, a1, a2, a3, a4, a5, a6⟩ := rs_word hP hb hU 40 i (by rw [h1]; exact h2) (fun z => by
      have z1 := z.1
      rw [h1] at z1
      exact (hbk _ (by rw [h1]; omega) (by rw [h1]; omega) z.2).1) c
    obtain ⟨w1, w2, w3⟩ := hU.2 L u a1
    obtain ⟨b1, b2, b3, b4, b5⟩ := hb.2 L u a1
    have e1 : w = [F 21 i] := by
      have := tm_letter hw (by rw [← h1]; exact c'.1)
      obtain ⟨y, w', rfl⟩ := List.exists_cons_of_ne_nil (tw_ne hw)
      have : w' = [] := List.length_eq_zero_iff.1 (by simpa using this)
      subst this
      rw [h1, fw_c0]
    refine ⟨_, u, rfl, by rw [a2]; exact ⟨w1, w2, w3, fun v hv => (b5 v hv).1⟩, b3, a3, ?_, ?_, ?_, Or.inr ⟨fun e => ?_, by rw [← h1]; exact c', L, a1, a2.symm, b1, b2⟩⟩
    · rw [a4, e1, sb_one c'.1]
    · rw [e1]; exact a5
    · rw [e1]; exact a6
    · have := (rs_spec hbk 40 i (by rw [h1]; exact h2) (fun z => by
        have z1 := z.1
        rw [h1] at z1
        exact (hbk _ (by rw [h1]; omega) (by rw [h1]; omega) z.2).1)).1
      rw [e] at this
      exact this c
  · refine ⟨i, w, rs_n c, hi, hw, fun z => c ((bnd_iff hU (by rw [h1]; exact h2)).2 (by rw [h1]; exact z)), rfl, fun _ _ _ _ z => z, fun _ _ _ _ _ z => z, Or.inl ⟨rfl, rfl⟩⟩
/-- the rows that wait -/
def stk (F : Nat → Int → Int) (P : Int → Int) : Nat → List Int → List Int → Prop
  | 0, p, q => p = [] ∧ q = []
  | k + 1, p, q => ∃ (n : Nat) (va vb p' q' : List Int), onB F (F 24 k) va ∧ onB F (F 25 k) vb ∧ F 26 k = n ∧ tws P n va ∧ tws P n vb ∧ p = va ++ p' ∧ q = vb ++ q' ∧ stk F P k p' q'
theorem stk_congr {F F' : Nat → Int → Int} {P : Int → Int} (h21 : F' 21 = F 21) : ∀ {k : Nat} {p q : List Int}, stk F P k p q → (∀ j : Int, j < k → F' 24 j = F 24 j ∧ F' 25 j = F 25 j ∧ F' 26 j = F 26 j) → stk F' P k p q
  | 0, p, q, h, _ => h
  | k + 1, p, q, ⟨n, va, vb, p', q', h1, h2, h3, h4, h5, h6, h7, h8⟩, e => by
    obtain ⟨e1, e2, e3⟩ := e k (by omega)
    refine ⟨n, va, vb, p', q', ?_, ?_, by rw [e3]; exact h3, h4, h5, h6, h7, stk_congr h21 h8 (fun j hj => e j (by omega))⟩
    · rw [e1]; unfold onB; rw [h21]; exact h1
    · rw [e2]; unfold onB; rw [h21]; exact h2
theorem stk_tws {F : Nat → Int → Int} {P : Int → Int} (hP : pok P) : ∀ {k : Nat} {p q : List Int}, stk F P k p q → ∃ n, tws P n p ∧ tws P n q ∧ lo40 p ∧ lo40 q
  | 0, p, q, ⟨h1, h2⟩ => by
    subst h1; subst h2
    exact ⟨0, tws_nil, tws_nil, fun v hv => absurd hv (by simp), fun v hv => absurd hv (by simp)⟩
  | k + 1, p, q, ⟨n, va, vb, p', q', h1, h2, h3, h4, h5, h6, h7, h8⟩ => by
    obtain ⟨m, a1, a2, a3, a4⟩ := stk_tws hP h8
    subst h6; subst h7
    exact ⟨n + m, tws_app hP h4 a1, tws_app hP h5 a2, lo40_app.2 ⟨h1.2.2.2, a3⟩, lo40_app.2 ⟨h2.2.2.2, a4⟩⟩
/-- forward, where the way back is known -/
theorem UN_fwd {P : Int → Int} {b b' : zBd} {rk : Int → Nat} {v w v' w' : List Int} {r : Option zBd} {n : Nat} (hP : pok P) (hb : bw P b' rk) (h : UN P b v w r) (hv : tws P n v') (hw : tws P n w') (lv : lo40 v') (lw : lo40 w') (hback : ∀ r, UN P b' v' w' r → UN P b v w r) : UN P b' v' w' r := by
  obtain ⟨r', h'⟩ := UN_tot hP 40 b' rk _ _ v' w' n hb (by omega) (Nat.le_refl _) (Nat.le_refl _) hv hw lv lw
  have := UN_det h (hback r' h')
  rw [this]; exact h'
theorem tws_le {P : Int → Int} (hP : pok P) {n : Nat} {w : List Int} (h : tws P n w) : n ≤ w.length := ts_le hP h
/-- the first term of a row on the board -/
theorem row_fst {F : Nat → Int → Int} {P : Int → Int} (hP : pok P) {n : Nat} {i : Int} {w : List Int} (h : tws P (n + 1) w) (hi : onB F i w) : ∃ x y : List Int, w = x ++ y ∧ tw P x ∧ tws P n y ∧ onB F i x ∧ onB F (i + x.length) y := by
  obtain ⟨k, k0, kl, _, k1, k2, k3⟩ := tws_fst hP h
  have e := List.take_append_drop k w
  rw [← e] at hi
  exact ⟨_, _, e.symm, k1, k3, onB_l hi, onB_r hi (by rw [k2])⟩
/-- behind a sign its parts -/
theorem row_parts {F : Nat → Int → Int} {P : Int → Int} (hP : pok P) {i : Int} {w : List Int} (h : tw P w) (hi : onB F i w) (h0 : 0 ≤ fw w 0) : ∃ (x : Int) (y : List Int), w = x :: y ∧ x = fw w 0 ∧ 0 ≤ x ∧ x < 16 ∧ tws P (P x).toNat y ∧ onB F (i + 1) y ∧ 0 ≤ P x ∧ P x ≤ 3 := by
  obtain ⟨x, y, rfl⟩ := List.exists_cons_of_ne_nil (tw_ne h)
  rw [fw_c0] at h0
  have h16 : x < 16 := tsw_lt (tws_1.2 h)
  have hp := hP x h0 h16
  have h2 := tsw_sgn (q := 0) hP (tws_1.2 h) h0
  rw [Nat.zero_add] at h2
  have e : x :: y = [x] ++ y := rfl
  rw [e] at hi
  exact ⟨x, y, rfl, by rw [fw_c0], h0, h16, h2, onB_r hi (by simp), hp.1, hp.2⟩
theorem afterB {F : Nat → Int → Int} {i : Int} {w : List Int} (hX : zK zXt d G) (hP : pok (F 3)) (hi : onB F i w) (hw : tw (F 3) w) : zM zm_X8_after [zR 1, zR 21, zI i] (d, G, F) (some (zI (i + w.length))) (d, G, F) :=
  after_ok (E := F) (a := 21) (n := 360) hX (zX_20_1 hX).2.2 rfl hP (tm_congr hw (fun k hk => (hi.2.2.1 k hk).symm)) hi.1 hi.2.1 (by omega)
/-- what unification changes -/
def uS : List Nat := [20, 22, 23, 24, 25, 26, 27, 28]
def u20 (E F : Nat → Int → Int) : Prop := ∀ j : Int, j ≠ 4 → j ≠ 10 → j ≠ 11 → j ≠ 12 → F 20 j = E 20 j
/-- a round that meets -/
theorem meet_round {b : zBd} {rk : Int → Nat} {iu ju : Int} {wu wv : List Int} (hX : zK zXt d G) (hP : pok (E 3)) (hb : bw (E 3) b rk) (hU : bdU E b) (r3 : tw (E 3) wu) (r2 : onB E iu wu) (s3 : tw (E 3) wv) (s2 : onB E ju wv) (r4 : ¬ (fw wu 0 < 0 ∧ lkp b (-1 - fw wu 0) ≠ none)) (s4 : ¬ (fw wv 0 < 0 ∧ lkp b (-1 - fw wv 0) ≠ none)) (hl : fw wu 0 < 0 ∨ fw wv 0 < 0 ∨ iu = ju) :
    ∃ (x : Int) (F : Nat → Int → Int), zM zm_X9_meet [zR 20, zI iu, zI ju] (d, G, E) (some (zI x)) (d, G, F) ∧ fz [20, 22, 23, 27, 28] E F ∧ u20 E F ∧
      ((x = 1 ∧ ∃ (b2 : zBd) (rk2 : Int → Nat), bw (E 3) b2 rk2 ∧ bdU F b2 ∧ (∀ p q r, UN (E 3) b2 p q r → UN (E 3) b (wu ++ p) (wv ++ q) r) ∧ ∀ L u, lkp b2 L = some u → (lkp b L = some u ∧ F 22 L = E 22 L) ∨ (u = wu ∧ F 22 L = iu) ∨ (u = wv ∧ F 22 L = ju)) ∨
       (x = 0 ∧ bdU F b ∧ ((∀ p q, UN (E 3) b (wu ++ p) (wv ++ q) none) ∨ ∃ (L : Int) (ww : List Int) (rk2 : Int → Nat), lkp b L = none ∧ bw (E 3) (b ++ [(L, ww)]) rk2 ∧ 999999 < (sb (th b) ww).length ∧ ∀ p q r, UN (E 3) (b ++ [(L, ww)]) p q r → UN (E 3) b (wu ++ p) (wv ++ q) r))) := by
  have hl2 : fw wu 0 = fw wv 0 ∨ fw wu 0 < 0 ∨ fw wv 0 < 0 := by
    rcases hl with z | z | z
    · exact Or.inr (Or.inl z)
    · exact Or.inr (Or.inr z)
    · left
      rw [← (onB_hd r2 (tw_ne r3)).1, ← (onB_hd s2 (tw_ne s3)).1, z]
  obtain ⟨x, F1, m1, g1, g2, g3⟩ := meet_ok (E := E) hX hP hb hU r3 r2 s3 s2 r4 s4 hl2
  have u2 := r2.2.2.2
  have v2 := s2.2.2.2
  refine ⟨x, F1, m1, g1, g2, ?_⟩
  rcases g3 with ⟨e1, e2, e3, e4⟩ | ⟨e1, L, ww, at', e2, e3, e4, e5, e6⟩
  · left
    refine ⟨e2, b, rk, hb, e3, fun p q r z => ?_, fun L u hu => Or.inl ⟨hu, by rw [e4]⟩⟩
    by_cases c : 0 ≤ fw wu 0
    · have same : iu = ju := by
        rcases hl with z | z | z
        · omega
        · omega
        · exact z
      have eww : wu = wv := by
        subst same
        have t1 : tm (E 3) (E 21) iu wu.length := tm_congr r3 (fun k hk => (r2.2.2.1 k hk).symm)
        have t2 : tm (E 3) (E 21) iu wv.length := tm_congr s3 (fun k hk => (s2.2.2.1 k hk).symm)
        have el := tm_uniq t1 t2
        exact (lk_word el r2.2.2.1 s2.2.2.1).1 (fun k hk => rfl)
      subst eww
      exact UN_skip hP hb _ _ wu 1 (Nat.le_refl _) (Nat.le_refl _) (tws_1.2 r3) r2.2.2.2 _ _ z
    · have l1 := tm_letter r3 (by omega : fw wu 0 < 0)
      have l2 := tm_letter s3 (by omega : fw wv 0 < 0)
      obtain ⟨y, wu', rfl⟩ := List.exists_cons_of_ne_nil (tw_ne r3)
      obtain ⟨y', wv', rfl⟩ := List.exists_cons_of_ne_nil (tw_ne s3)
      have w1 : wu' = [] := List.length_eq_zero_iff.1 (by simpa using l1)
      have w2 : wv' = [] := List.length_eq_zero_iff.1 (by simpa using l2)
      subst w1; subst w2
      rw [fw_c0] at e1 r4
      rw [fw_c0] at e1
      subst e1
      exact UN_eq r4 z
  · have back : ∀ p q r, ((-1 - L) ∉ sb (th b) ww → UN (E 3) (b ++ [(L, ww)]) p q r → UN (E 3) b (wu ++ p) (wv ++ q) r) ∧ ((-1 - L) ∈ sb (th b) ww → UN (E 3) b (wu ++ p) (wv ++ q) none) := fun p q r => by
      rcases e2 with ⟨y1, y2, y3, _⟩ | ⟨y0, y1, y2, y3, _⟩
      · subst y2; subst y3
        have l1 := tm_letter r3 y1
        obtain ⟨y, wu', rfl⟩ := List.exists_cons_of_ne_nil (tw_ne r3)
        have w1 : wu' = [] := List.length_eq_zero_iff.1 (by simpa using l1)
        subst w1
        rw [fw_c0] at e1 e5 y1
        rw [fw_c0]
        have ey : -1 - (-1 - y) = y := by omega
        rw [ey]
        have := UN_x (r := r) (p := p) (q := q) hP y1 e5 s3 s4 e1
        exact ⟨fun h z => this.2 h z, fun h => this.1 h⟩
      · subst y2; subst y3
        have l1 := tm_letter s3 y1
        obtain ⟨y, wv', rfl⟩ := List.exists_cons_of_ne_nil (tw_ne s3)
        have w1 : wv' = [] := List.length_eq_zero_iff.1 (by simpa using l1)
        subst w1
        rw [fw_c0] at e1 e5 y1
        rw [fw_c0]
        have ey : -1 - (-1 - y) = y := by omega
        rw [ey]
        have := UN_y (r := r) (p := p) (q := q) hP y1 e5 r3 y0
        exact ⟨fun h z => this.2 h z, fun h => this.1 h⟩
    rcases e6 with ⟨q1, q2, ⟨rk2, q3⟩, q4, q5, q6⟩ | ⟨q1, q2, q3⟩
    · left
      refine ⟨q1, _, rk2, q3, q4, fun p q r z => (back p q r).1 q2 z, fun M u hu => ?_⟩
      rw [lkp_app1] at hu
      by_cases c : lkp b M = none
      · rw [if_pos c] at hu
        by_cases cl : L = M
        · rw [if_pos cl] at hu
          have : ww = u := by simpa using hu
          subst this
          subst cl
          right
          rcases e2 with ⟨_, _, y3, y4⟩ | ⟨_, _, _, y3, y4⟩
          · exact Or.inr ⟨y3, by rw [q5, y4]⟩
          · exact Or.inl ⟨y3, by rw [q5, y4]⟩
        · rw [if_neg cl] at hu; simp at hu
      · rw [if_neg c] at hu
        exact Or.inl ⟨hu, q6 M (fun z => c (by rw [z]; exact e5))⟩
    · right
      refine ⟨q1, q3, ?_⟩
      by_cases ho : (-1 - L) ∈ sb (th b) ww
      · exact Or.inl (fun p q => (back p q none).2 ho)
      · right
        have hww : tw (E 3) ww ∧ lo40 ww := by
          rcases e2 with ⟨_, _, y3, _⟩ | ⟨_, _, _, y3, _⟩
          · rw [y3]; exact ⟨s3, v2⟩
          · rw [y3]; exact ⟨r3, u2⟩
        obtain ⟨rk2, hb2⟩ := bw_add hb e3 e4 e5 hww.1 hww.2 ho
        rcases q2 with z | z
        · exact absurd z ho
        · exact ⟨L, ww, rk2, e5, hb2, z, fun p q r h => (back p q r).1 ho h⟩
/-- a round at a pair of terms, up to where it parts -/
theorem round_pre {b : zBd} {rk : Int → Nat} {i j v5 v6 v7 : Int} {w w' : List Int} (hX : zK zXt d G) (hP : pok (E 3)) (hb : bw (E 3) b rk) (hU : bdU E b) (hi : onB E i w) (hw : tw (E 3) w) (hj : onB E j w') (hw' : tw (E 3) w') (h5 : v5 ≠ 0) (h7 : ¬ 1000000 ≤ v7) (z5 : 0 ≤ v5 ∧ v5 ≤ 1000) (z7 : 0 ≤ v7) (hd : 0 ≤ v6) :
    ∃ (iu ju : Int) (wu wv : List Int), onB E iu wu ∧ tw (E 3) wu ∧ onB E ju wv ∧ tw (E 3) wv ∧ ¬ (fw wu 0 < 0 ∧ lkp b (-1 - fw wu 0) ≠ none) ∧ ¬ (fw wv 0 < 0 ∧ lkp b (-1 - fw wv 0) ≠ none) ∧ sb (th b) wu = sb (th b) w ∧ sb (th b) wv = sb (th b) w' ∧
      (∀ p q r, UN (E 3) b (wu ++ p) (wv ++ q) r → UN (E 3) b (w ++ p) (w' ++ q) r) ∧
      (iu = i ∧ wu = w ∨ iu ≠ i ∧ (fw w 0 < 0 ∧ lkp b (-1 - fw w 0) ≠ none) ∧ ∃ L : Int, lkp b L = some wu ∧ E 22 L = iu) ∧ (ju = j ∧ wv = w' ∨ ju ≠ j ∧ (fw w' 0 < 0 ∧ lkp b (-1 - fw w' 0) ≠ none) ∧ ∃ L : Int, lkp b L = some wv ∧ E 22 L = ju) ∧
      ∀ kz (Q : Option zV → zH → Prop),
        -- walk
        (0 ≤ fw wu 0 → fw wu 0 = fw wv 0 → iu = i → ju = j → Z zm_X9_widen kz Q 19 [(0, zR 20), (3, zI (i + 1)), (4, zI (j + 1)), (5, zI (v5 + (E 3 (fw wu 0) - 1))), (6, zI v6), (7, zI (v7 + 1))] [] (d, G, E)) →
        -- unlike signs
        (0 ≤ fw wu 0 → 0 ≤ fw wv 0 → fw wu 0 ≠ fw wv 0 → Q (some (zI 0)) (d, G, E)) →
        -- down
        (0 ≤ fw wu 0 → fw wu 0 = fw wv 0 → iu ≠ ju → ¬ (iu = i ∧ ju = j) → (v6 < 128 → Z zm_X9_widen kz Q 19 [(0, zR 20), (3, zI iu), (4, zI ju), (5, zI 1), (6, zI (v6 + 1)), (7, zI (v7 + 1))] [] (d, G, zuE (zuE (zuE E 24 v6 (i + w.length)) 25 v6 (j + w'.length)) 26 v6 (v5 - 1))) ∧ (¬ v6 < 128 → Q (some (zI 0)) (d, G, E))) →
        -- meet
        ((fw wu 0 < 0 ∨ fw wv 0 < 0 ∨ iu = ju) → ¬ (0 ≤ fw wu 0 ∧ fw wu 0 = fw wv 0 ∧ iu = i ∧ ju = j) → ∃ (x : Int) (F : Nat → Int → Int), zM zm_X9_meet [zR 20, zI iu, zI ju] (d, G, E) (some (zI x)) (d, G, F) ∧ fz [20, 22, 23, 27, 28] E F ∧ (x ≠ 0 → Z zm_X9_widen kz Q 19 [(0, zR 20), (3, zI (i + w.length)), (4, zI (j + w'.length)), (5, zI (v5 - 1)), (6, zI v6), (7, zI (v7 + 1))] [] (d, G, F)) ∧ (¬ x ≠ 0 → Q (some (zI 0)) (d, G, F))) →
        Z zm_X9_widen kz Q 19 [(0, zR 20), (3, zI i), (4, zI j), (5, zI v5), (6, zI v6), (7, zI v7)] [] (d, G, E) := by
  obtain ⟨iu, wu, r1, r2, r3, r4, r5, r6, r7, r8⟩ := rest_at (F := E) hP hb hU.2.2 hi hw
  obtain ⟨ju, wv, s1, s2, s3, s4, s5, s6, s7, s8⟩ := rest_at (F := E) hP hb hU.2.2 hj hw'
  obtain ⟨i1, i2, i3, i4⟩ := onB_hd hi (tw_ne hw)
  obtain ⟨j1, j2, j3, j4⟩ := onB_hd hj (tw_ne hw')
  obtain ⟨u1, u2, u3, u4⟩ := onB_hd r2 (tw_ne r3)
  obtain ⟨x1, x2, x3, x4⟩ := onB_hd s2 (tw_ne s3)
  have hbk : stB E rk := bw_bok hb hU.2.2
  have mi := resting_ok (E := E) (i := i) hX hbk i3 i4 (by rw [i1]; exact i2)
  have mj := resting_ok (E := E) (i := j) hX hbk j3 j4 (by rw [j1]; exact j2)
  rw [r1] at mi
  rw [s1] at mj
  refine ⟨iu, ju, wu, wv, r2, r3, s2, s3, r4, s4, r5, s5, fun p q r z => ?_, ?_, ?_, fun kz Q kw kn kd km => ?_⟩
  · refine r6 _ _ r (by simp [tw_ne hw']) ?_
    obtain ⟨y, wu', rfl⟩ := List.exists_cons_of_ne_nil (tw_ne r3)
    rw [fw_c0] at r4
    rw [List.cons_append] at z ⊢
    exact s7 _ _ _ r r4 z
  · rcases r8 with z | ⟨z, zz, L, z1, z2, _⟩
    · exact Or.inl z
    · exact Or.inr ⟨z, zz, L, z1, z2⟩
  · rcases s8 with z | ⟨z, zz, L, z1, z2, _⟩
    · exact Or.inl z
    · exact Or.inr ⟨z, zz, L, z1, z2⟩
  -- the meeting's tail
  have tail : (fw wu 0 < 0 ∨ fw wv 0 < 0 ∨ iu = ju) → ¬ (0 ≤ fw wu 0 ∧ fw wu 0 = fw wv 0 ∧ iu = i ∧ ju = j) → ∃ x_2 E_3, zM zm_X9_meet [zR 20, zI iu, zI ju] (d, G, E) (some (zI x_2)) (d, G, E_3) ∧ (x_2 ≠ 0 → ∃ x_7, zM zm_X8_after [zR 1, zR 21, zI i] (d, G, E_3) (some (zI x_7)) (d, G, E_3) ∧ ∃ x_10, zM zm_X8_after [zR 1, zR 21, zI j] (d, G, E_3) (some (zI x_10)) (d, G, E_3) ∧ zin (v5 + (-1)) ∧ zin (v7 + 1) ∧ Z zm_X9_widen kz Q 19 [(0, zR 20), (3, zI x_7), (4, zI x_10), (5, zI ((v5 + (-1)))), (6, zI v6), (7, zI ((v7 + 1)))] [] (d, G, E_3)) ∧ (¬ (x_2 ≠ 0) → Q (some (zI 0)) (d, G, E_3)) := fun c1 c2 => by
    obtain ⟨x, F, m1, g1, g2, g3⟩ := km c1 c2
    have e3 := g1 3 (by simp)
    refine ⟨x, F, m1, fun hx => ⟨i + w.length, afterB hX (by rw [e3]; exact hP) (onB_fz hi g1 (by simp)) (by rw [e3]; exact hw), j + w'.length, afterB hX (by rw [e3]; exact hP) (onB_fz hj g1 (by simp)) (by rw [e3]; exact hw'), zin_of (by omega) (by omega), zin_of (by omega) (by omega), g2 hx⟩, g3⟩
  have p149 : ¬ (0 ≤ fw wu 0 ∧ fw wu 0 = fw wv 0 ∧ iu = i ∧ ju = j) → Z zm_X9_widen kz Q 149 [(0, zR 20), (3, zI i), (4, zI j), (5, zI v5), (6, zI v6), (7, zI v7), (8, zI iu), (9, zI ju), (10, zI ((E 21 iu)))] [] (d, G, E) := fun cc => by
    rw [u1]
    refine X9_widen_149 hX ⟨fun c => tail (Or.inl c) cc, fun c => ⟨⟨x3, x4⟩, fun c2 => tail (Or.inr (Or.inl (by rw [← x1]; exact c2))) cc, fun c2 => ⟨fun c3 => tail (Or.inr (Or.inr c3)) cc, fun c3 => ⟨⟨x3, x4⟩, fun c4 => kn (by omega) (by rw [← x1]; omega) (by rw [← x1]; exact c4), fun c4 => ?_⟩⟩⟩⟩
    have c4' : fw wu 0 = fw wv 0 := by rw [← x1]; exact Classical.byContradiction fun z => c4 z
    have kd' := kd (by omega) c4' c3 (fun z => cc ⟨by omega, c4', z.1, z.2⟩)
    refine ⟨fun c5 => ⟨i + w.length, afterB hX hP hi hw, ⟨by omega, by omega⟩, fun H1 e1 => ?_⟩, fun c5 => kd'.2 c5⟩
    have e3 : H1 3 = E 3 := by rw [e1]; exact zuE_nf (by decide)
    have f1 : fz [24] E H1 := by rw [e1]; exact fz_put fz_rfl (by simp)
    refine ⟨j + w'.length, afterB hX (by rw [e3]; exact hP) (onB_fz hj f1 (by simp)) (by rw [e3]; exact hw'), ⟨by omega, by omega⟩, fun H2 e2 => ⟨zin_of (by omega) (by omega), ⟨by omega, by omega⟩, fun H3 e3 => ⟨zin_of (by omega) (by omega), zin_of (by omega) (by omega), ?_⟩⟩⟩
    rw [e3, e2, e1]
    exact kd'.1 c5
  refine X9_widen_19 hX ⟨fun z => absurd z h7, fun _ => ⟨fun _ => ⟨iu, mi, ju, mj, ⟨u3, u4⟩, fun c => p149 (fun z => by rw [u1] at c; omega), fun c => ⟨fun c2 => p149 (fun z => c2 z.2.2.1), fun c2 => ⟨fun c3 => p149 (fun z => c3 z.2.2.2), fun c3 => ⟨⟨x3, x4⟩, fun c4 => p149 (fun z => c4 (by rw [u1, x1]; exact z.2.1)), fun c4 => ?_⟩⟩⟩⟩, fun z => absurd h5 z⟩⟩
  have c4' : fw wu 0 = fw wv 0 := by rw [← u1, ← x1]; exact Classical.byContradiction fun z => c4 z
  have h16 : fw wu 0 < 16 := by
    obtain ⟨y, wu', rfl⟩ := List.exists_cons_of_ne_nil (tw_ne r3)
    rw [fw_c0]
    exact tsw_lt (tws_1.2 r3)
  rw [u1] at c ⊢
  have hp := hP (fw wu 0) (by omega) h16
  have mp := partsOf_ok (E := E) hX (fw wu 0) h16
  rw [if_neg (by omega)] at mp
  exact ⟨_, mp, zin_of (by omega) (by omega), zin_of (by omega) (by omega), zin_of (by omega) (by omega), zin_of (by omega) (by omega), zin_of (by omega) (by omega), kw (by omega) c4' (Classical.byContradiction fun z => c2 z) (Classical.byContradiction fun z => c3 z)⟩
end RF
