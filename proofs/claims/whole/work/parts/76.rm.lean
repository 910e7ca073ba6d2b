/-! ===== unification: the reference, whole ===== -/
/-- the second side of the stack -/
def stB2 (F : Nat → Int → Int) (P : Int → Int) : Nat → List Int → Prop
  | 0, q => q = []
  | k + 1, q => ∃ (n : Nat) (vb q' : List Int), onM F (F 100 (0 + (k : Int))) vb ∧ F 101 (0 + (k : Int)) = n ∧ tws P n vb ∧ q = vb ++ q' ∧ stB2 F P k q'
theorem stB2_congr {F F' : Nat → Int → Int} {P : Int → Int} (e : F' 97 = F 97) : ∀ {k : Nat} {q : List Int}, stB2 F P k q → (∀ j : Int, 0 ≤ j → j < k → F' 100 j = F 100 j ∧ F' 101 j = F 101 j) → stB2 F' P k q
  | 0, q, h, _ => h
  | k + 1, q, ⟨n, vb, q', h1, h2, h3, h4, h5⟩, hj => by
    obtain ⟨j1, j2⟩ := hj (0 + (k : Int)) (by omega) (by omega)
    exact ⟨n, vb, q', by rw [j1]; exact onM_97 h1 e, by rw [j2]; exact h2, h3, h4, stB2_congr e h5 (fun j a1 a2 => hj j a1 (by omega))⟩
theorem stB2_pop {F : Nat → Int → Int} {P : Int → Int} {k : Nat} {q : List Int} (h : stB2 F P (k + 1) q) (h0 : F 101 (0 + (k : Int)) = 0) : stB2 F P k q := by
  obtain ⟨n, vb, q', h1, h2, h3, h4, h5⟩ := h
  have n0 : n = 0 := by omega
  subst n0
  have := tws_0 h3
  subst this
  rw [List.nil_append] at h4
  subst h4
  exact h5
theorem stB2_next {F : Nat → Int → Int} {P : Int → Int} {k n : Nat} {q : List Int} (hP : pok P) (h : stB2 F P (k + 1) q) (h0 : F 101 (0 + (k : Int)) = (n : Int) + 1) :
    ∃ (w q1 : List Int), q = w ++ q1 ∧ tw P w ∧ onM F (F 100 (0 + (k : Int))) w ∧
      (∀ F' : Nat → Int → Int, F' 97 = F 97 → F' 100 (0 + (k : Int)) = F 100 (0 + (k : Int)) + w.length → F' 101 (0 + (k : Int)) = n → (∀ j : Int, 0 ≤ j → j < k → F' 100 j = F 100 j ∧ F' 101 j = F 101 j) →
        stB2 F' P (k + 1) q1 ∧
        ∀ (iu : Int) (y : List Int) (m : Nat), onM F iu y → tws P m y → F' 100 (0 + ((k + 1 : Nat) : Int)) = iu → F' 101 (0 + ((k + 1 : Nat) : Int)) = m → stB2 F' P (k + 1 + 1) (y ++ q1)) := by
  obtain ⟨m, vb, q', h1, h2, h3, h4, h5⟩ := h
  have em : m = n + 1 := by omega
  subst em
  obtain ⟨w, vb', rfl, tw1, ta', hi1, hi2⟩ := rowM_fst hP h3 h1
  refine ⟨w, vb' ++ q', by rw [h4, List.append_assoc], tw1, hi1, fun F' e97 e100 e101 elo => ?_⟩
  have base1 : stB2 F' P (k + 1) (vb' ++ q') := ⟨n, vb', q', by rw [e100]; exact onM_97 hi2 e97, e101, ta', rfl, stB2_congr e97 h5 elo⟩
  exact ⟨base1, fun iu y m a1 a2 a3 a4 => ⟨m, y, vb' ++ q', by rw [a3]; exact onM_97 a1 e97, a4, a2, rfl, base1⟩⟩
theorem stB2_tws {F : Nat → Int → Int} {P : Int → Int} {b : zBd} (hP : pok P) : ∀ {k : Nat} {g D q : List Int}, stO F P b 0 k g D → stB2 F P k q → ∃ n, tws P n D ∧ tws P n q ∧ lo40 D ∧ lo40 q
  | 0, g, D, q, h, h' => by
    obtain ⟨_, e⟩ := h
    have e' : q = [] := h'
    subst e; subst e'
    exact ⟨0, tws_nil, tws_nil, fun v hv => absurd hv (by simp), fun v hv => absurd hv (by simp)⟩
  | k + 1, g, D, q, ⟨n, va, D', h1, h2, h3, h4, h5⟩, ⟨m, vb, q', g1, g2, g3, g4, g5⟩ => by
    have em : m = n := by omega
    subst em
    have : ∃ n, tws P n D' ∧ tws P n q' ∧ lo40 D' ∧ lo40 q' := by
      rcases h5 with ⟨e1, e2, e3⟩ | ⟨x, g', w, c, dn, e1, e2, e3, e4, e5, e6, e7⟩
      · subst e1
        exact stB2_tws hP (k := 0) (F := F) (b := b) (g := []) ⟨rfl, e3⟩ g5
      · exact stB2_tws hP e7 g5
    obtain ⟨l, a1, a2, a3, a4⟩ := this
    subst h4; subst g4
    exact ⟨m + l, tws_app hP h3 a1, tws_app hP g3 a2, lo40_app.2 ⟨h1.2.2.2, a3⟩, lo40_app.2 ⟨g1.2.2.2, a4⟩⟩
section RM
variable {d : List Nat} {G : Nat → Int → Option Nat} {E : Nat → Int → Int}
theorem binds_ok {b : zBd} {rk : Int → Nat} {iu ju : Int} {wu wv : List Int} (hM : zK zMt d G) (hP : pok (E 53)) (hb : bw (E 53) b rk) (hU : bdW (E 97) (E 98) 360 b) (r3 : tw (E 53) wu) (r2 : onM E iu wu) (s3 : tw (E 53) wv) (s2 : onM E ju wv) (r4 : ¬ (fw wu 0 < 0 ∧ lkp b (-1 - fw wu 0) ≠ none)) (s4 : ¬ (fw wv 0 < 0 ∧ lkp b (-1 - fw wv 0) ≠ none)) (hl : fw wu 0 < 0 ∨ fw wv 0 < 0) (hne : fw wu 0 ≠ fw wv 0) :
    ∃ (x : Int) (F : Nat → Int → Int), zM zm_X12_binds [zR 50, zI iu, zI ju] (d, G, E) (some (zI x)) (d, G, F) ∧ fz [98, 99, 101] E F ∧ lowS E F ∧
      ((x = 1 ∧ ∃ (b2 : zBd) (rk2 : Int → Nat), bw (E 53) b2 rk2 ∧ bdW (F 97) (F 98) 360 b2 ∧ b2.length = b.length + 1 ∧ sol b (th b2) ∧ ∀ p q r, UN (E 53) b2 p q r → UN (E 53) b (wu ++ p) (wv ++ q) r) ∨ (x = 0 ∧ ∀ p q, UN (E 53) b (wu ++ p) (wv ++ q) none)) := by
  obtain ⟨u1, u2, u3, u4⟩ := onM_hd r2 (tw_ne r3)
  obtain ⟨v1, v2, v3, v4⟩ := onM_hd s2 (tw_ne s3)
  have core : ∀ (a at' : Int) (w : List Int), a < 0 → -40 ≤ a → lkp b (-1 - a) = none → tw (E 53) w → onM E at' w → (∀ p q r, (a ∉ sb (th b) w → UN (E 53) (b ++ [(-1 - a, w)]) p q r → UN (E 53) b (wu ++ p) (wv ++ q) r) ∧ (a ∈ sb (th b) w → UN (E 53) b (wu ++ p) (wv ++ q) none)) → (∀ kz (Q : Option zV → zH → Prop), (∃ x_6 E_7, zM zm_X12_occurs [zR 50, zI a, zI at'] (d, G, E) (some (zI x_6)) (d, G, E_7) ∧ (x_6 = 0 → Q (some (zI 1)) (d, G, zuE E_7 98 (-1 - a) at')) ∧ (¬ x_6 = 0 → Q (some (zI 0)) (d, G, E_7)) ∧ E_7 97 = E 97) → Z zm_X12_binds kz Q 0 [(0, zR 50), (1, zI iu), (2, zI ju)] [] (d, G, E)) →
      ∃ (x : Int) (F : Nat → Int → Int), zM zm_X12_binds [zR 50, zI iu, zI ju] (d, G, E) (some (zI x)) (d, G, F) ∧ fz [98, 99, 101] E F ∧ lowS E F ∧
      ((x = 1 ∧ ∃ (b2 : zBd) (rk2 : Int → Nat), bw (E 53) b2 rk2 ∧ bdW (F 97) (F 98) 360 b2 ∧ b2.length = b.length + 1 ∧ sol b (th b2) ∧ ∀ p q r, UN (E 53) b2 p q r → UN (E 53) b (wu ++ p) (wv ++ q) r) ∨ (x = 0 ∧ ∀ p q, UN (E 53) b (wu ++ p) (wv ++ q) none)) := by
    intro a at' w a0 a40 hL hw hat hback pre
    obtain ⟨x, F, m1, f1, l1, hx⟩ := occurs_ok (E := E) hM hP hb hU hw hat a0
    have e97 := f1 97 (by simp)
    rcases hx with ⟨x1, ho⟩ | ⟨x0, ho⟩
    · exact ⟨0, F, zM_e rfl (Nat.le_of_ble_eq_true rfl) (fun kz Q hQ => pre kz Q ⟨x, F, m1, fun z => by omega, fun _ => hQ, e97⟩), fz_mono f1 (by simp), l1, Or.inr ⟨rfl, fun p q => (hback p q none).2 ho⟩⟩
    · have ea : -1 - (-1 - a) = a := by omega
      obtain ⟨rk2, hb2⟩ := bw_add hb (L := -1 - a) (by omega) (by omega) hL hw hat.2.2.2 (by rw [ea]; exact ho)
      let F2 := zuE F 98 (-1 - a) at'
      have hU2 : bdW (F2 97) (F2 98) 360 (b ++ [(-1 - a, w)]) := by
        have n97 : F2 97 = E 97 := (zuE_nf (by decide)).trans e97
        rw [n97]
        have e98 := f1 98 (by simp)
        exact bdW_add hU hL zuE_same (fun M hM' => (zuE_ix hM').trans (by rw [e98])) hat.1 hat.2.1 hat.2.2.1
      refine ⟨1, F2, zM_e rfl (Nat.le_of_ble_eq_true rfl) (fun kz Q hQ => pre kz Q ⟨x, F, m1, fun _ => hQ, fun z => absurd x0 z, e97⟩), fz_put (fz_mono f1 (by simp)) (by simp), fun j hj => ⟨(zuE_ne (by decide) _).trans (l1 j hj).1, (zuE_ne (by decide) _).trans (l1 j hj).2⟩, Or.inl ⟨rfl, _, rk2, hb2, hU2, by simp, sol_l (sol_th hb2), fun p q r z => (hback p q r).1 ho z⟩⟩
  by_cases cu : fw wu 0 < 0
  · have hL : lkp b (-1 - fw wu 0) = none := Classical.byContradiction fun z => r4 ⟨cu, z⟩
    refine core (fw wu 0) ju wv cu u2 hL s3 s2 (fun p q r => ?_) (fun kz Q ⟨x, F, m, k1, k2, k3⟩ => ?_)
    · have l1 := tm_letter r3 cu
      obtain ⟨y, wu', rfl⟩ := List.exists_cons_of_ne_nil (tw_ne r3)
      have w1 : wu' = [] := List.length_eq_zero_iff.1 (by simpa using l1)
      subst w1
      rw [fw_c0] at hne hL cu
      rw [fw_c0]
      have := UN_x (r := r) (p := p) (q := q) hP cu hL s3 s4 hne
      exact ⟨fun h z => this.2 h z, fun h => this.1 h⟩
    · refine X12_binds_0 hM ⟨⟨u3, u4⟩, fun z => absurd z (by rw [u1]; omega), fun _ => ⟨⟨u3, u4⟩, fun z => absurd z (by rw [u1]; omega), fun _ => ⟨⟨u3, u4⟩, ?_⟩⟩⟩
      rw [u1]
      refine ⟨x, F, m, fun z => ⟨⟨u3, u4⟩, ?_⟩, k2⟩
      rw [k3, u1]
      exact ⟨zin_of (by omega) (by omega), ⟨by omega, by omega⟩, fun H e => by rw [e]; exact k1 z⟩
  · have cv : fw wv 0 < 0 := by omega
    have hL : lkp b (-1 - fw wv 0) = none := Classical.byContradiction fun z => s4 ⟨cv, z⟩
    refine core (fw wv 0) iu wu cv v2 hL r3 r2 (fun p q r => ?_) (fun kz Q ⟨x, F, m, k1, k2, k3⟩ => ?_)
    · have l1 := tm_letter s3 cv
      obtain ⟨y, wv', rfl⟩ := List.exists_cons_of_ne_nil (tw_ne s3)
      have w1 : wv' = [] := List.length_eq_zero_iff.1 (by simpa using l1)
      subst w1
      rw [fw_c0] at hne hL cv
      rw [fw_c0]
      have := UN_y (r := r) (p := p) (q := q) hP cv hL r3 (by omega)
      exact ⟨fun h z => this.2 h z, fun h => this.1 h⟩
    · refine X12_binds_0 hM ⟨⟨u3, u4⟩, fun _ => ⟨⟨u3, u4⟩, fun _ => ⟨⟨v3, v4⟩, ?_⟩, fun z => absurd (by rw [u1]; omega) z⟩, fun z => absurd (by rw [u1]; omega) z⟩
      rw [v1]
      refine ⟨x, F, m, fun z => ⟨⟨v3, v4⟩, ?_⟩, k2⟩
      rw [k3, v1]
      exact ⟨zin_of (by omega) (by omega), ⟨by omega, by omega⟩, fun H e => by rw [e]; exact k1 z⟩
end RM
