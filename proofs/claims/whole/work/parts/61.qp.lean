/-! ===== a step's end: the class ===== -/
/-- what comes of a row: 1 and the row behind cleaning and rewriting, or 0 -/
noncomputable def fns (P W : Int → Int) (R : Nat → List zLt) (st : Nat → Int) (K : Nat) (A : List zLt) : Int × List zLt × List Int := if cll P W A ≤ 20 then rwl P W R st K 8 (cln P W A) [] else (0, A, [])
section QP
variable {d : List Nat} {G : Nat → Int → Option Nat} {E : Nat → Int → Int}
/-- heaps that differ in the tools only -/
def tls : List Nat := [10, 11, 12, 13, 18, 19, 20, 21, 22, 23, 27, 28, 29, 30, 31, 32, 34, 35, 36, 37, 38, 39, 40]
theorem settleL_ok (hX : zK zXt d G) (h18 : -1000000 ≤ E 0 18 ∧ E 0 18 ≤ 1000000) : zM zm_X11_settle [zR 0, zI 1, zR 43] (d, G, E) (some (zI (-99))) (d, G, zuE E 0 18 (E 0 18 + 1)) :=
  zM_e rfl (Nat.le_of_ble_eq_true rfl) (fun kz Q hQ => X11_settle_0 hX (zX_42_2 hX).2.2 rfl ⟨fun _ => X11_settle_23 hX (zX_42_2 hX).2.2 rfl ⟨zin_of (by omega) (by omega), fun H h => by rw [h]; exact hQ⟩, fun z => absurd rfl z⟩)
theorem settle_ok {M K k : Nat} {R : Nat → List zLt} {st ab : Nat → Int} {nm tt : Nat → List Int} {sr : Nat → List zLt} {A S : List zLt} {nw : List Int} (hX : zK zXt d G) (hM : zK zMt d G) (hC : CI d G E (E 3) (E 4) M K R st ab nm tt sr) (hK : K < 150) (hP : pok (E 3)) (hW : wok (E 4)) (h2 : E 3 0 = 2) (h19 : ∀ L : Int, 0 ≤ L → L < 40 → E 19 L = 0) (hI : stI E) (hA : rowC E 10 A) (gA : gok (E 3) (E 4) A) (hnw : nw.length = 7) (hnw2 : ∀ i : Nat, i < 7 → E 43 i = nw.getD i 0) (hk : E 43 0 = k) (hk4 : k ≤ 4) (hS : k = 0 → rowC E 14 S ∧ gok (E 3) (E 4) S) (h17 : -1000000 ≤ E 0 17 ∧ E 0 17 ≤ 1000000) (h18 : -1000000 ≤ E 0 18 ∧ E 0 18 ≤ 1000000) (h20 : -1000000 ≤ E 0 20 ∧ E 0 20 ≤ 1000000) :
    ∃ (r x : Int) (B : List zLt) (t : List Int) (n : Nat) (d' : List Nat) (G' : Nat → Int → Option Nat) (E' : Nat → Int → Int) (M' : Nat), zM zm_X11_settle [zR 0, zI 2, zR 43] (d, G, E) (some (zI r)) (d', G', E') ∧ fns (E 3) (E 4) R st K A = (x, B, t) ∧ t.length = 4 * n ∧ n ≤ 8 ∧ d.length ≤ d'.length ∧ zsl d ≤ zsl d' ∧ sbs d d' ∧ zK zXt d' G' ∧ zK zMt d' G' ∧ stI E' ∧ (∀ L : Int, 0 ≤ L → L < 40 → E' 19 L = 0) ∧ (∀ y : Nat, y < 200 → y ≠ 0 → y ≠ 5 → y ∉ tls → E' y = E y) ∧ (∀ i : Int, i ≠ 15 → i ≠ 17 → i ≠ 18 → i ≠ 20 → E' 0 i = E 0 i) ∧ E' 0 20 = E 0 20 + n ∧ (∀ y : Nat, y < 200 → y ≠ 6 → G' y = G y) ∧
      ((x = 0 ∧ r = -99 ∧ E' 0 18 = E 0 18 + 1 ∧ E' 0 17 = E 0 17 ∧ E' 0 15 = E 0 15 ∧ CI d' G' E' (E 3) (E 4) M' K R st ab nm tt sr) ∨
       (x ≠ 0 ∧ (triv (E 3) B ∨ tkn (E 3) R st K B) ∧ r = -1 ∧ E' 0 18 = E 0 18 ∧ E' 0 17 = E 0 17 + 1 ∧ E' 0 15 = E 0 15 ∧ CI d' G' E' (E 3) (E 4) M' K R st ab nm tt sr) ∨
       (x ≠ 0 ∧ ¬ (triv (E 3) B ∨ tkn (E 3) R st K B) ∧ r = K ∧ E' 0 18 = E 0 18 ∧ E' 0 17 = E 0 17 ∧ E' 0 15 = (if B.length = 0 then 1 else if K + 1 = 150 then 3 else E 0 15) ∧ rok (E 3) (E 4) B ∧ CI d' G' E' (E 3) (E 4) M' (K + 1) (zup R K B) (zup (pst (E 3) R st B) K 0) (zup (pby (E 3) R st ab B K) K (-1)) (zup nm K nw) (zup tt K t) (zup sr K S))) := by
  have hr10 := zXr10 hX
  have d43 := (zX_42_2 hX).2.2
  obtain ⟨v, E1, m1, f1, z1, r1, l1, hv⟩ := clean_ok (E := E) (r := 10) (A := A) hX hr10 (Or.inl (by omega)) (by omega) hP hW h2 h19 hA gA.1
  have I1 : stI E1 := by
    unfold stI at *
    rw [f1 20 (by simp), f1 22 (by simp), f1 23 (by simp)]; exact hI
  have C1 : CI d G E1 (E 3) (E 4) M K R st ab nm tt sr := CI_fz hC f1 (by simp) (by rw [f1 5 (by simp)])
  have e13 : E1 3 = E 3 := f1 3 (by simp)
  have e14 : E1 4 = E 4 := f1 4 (by simp)
  have e10 : E1 0 = E 0 := f1 0 (by simp)
  rcases hv with ⟨v1, v2⟩ | ⟨v1, v2⟩
  · subst v1
    have efn : fns (E 3) (E 4) R st K A = rwl (E 3) (E 4) R st K 8 (cln (E 3) (E 4) A) [] := by unfold fns; rw [if_pos v2]
    have rc := cln_rok hP h2 gA.1 gA.2 v2
    have rw' := rewrite_ok (E := E1) (K := K) (R := R) (st := st) (B := cln (E 3) (E 4) A) hX (by rw [e13, e14]; exact CI_st C1) (fun c hc => (C1.2.2.2 c hc).2.2.1) (by rw [e13]; exact hP) (by rw [e14]; exact hW) (by rw [e13]; exact h2) I1 z1 r1 (by rw [e13, e14]; exact rc) (by rw [l1]; exact isNl_ren)
    rw [e13, e14] at rw'
    obtain ⟨x, E2, B, t, n, m2, q2, f2, I2, z2, n2, n8, t4, t40, rB2, rkB, nl2, x01⟩ := rw'
    have f12 : fz [10, 11, 12, 13, 18, 19, 20, 21, 22, 23, 27, 28, 29, 30, 31, 32, 36, 37, 38, 39, 40] E E2 := fz_trans (fz_mono f1 (by simp)) f2
    have C2 : CI d G E2 (E 3) (E 4) M K R st ab nm tt sr := CI_fz hC f12 (by simp) (by rw [f12 5 (by simp)])
    have e20 : E2 0 = E 0 := f12 0 (by simp)
    let E3 := zuE E2 0 20 (E 0 20 + n)
    have n3 : ∀ y : Nat, y ≠ 0 → E3 y = E2 y := fun y hy => zuE_nf hy
    have C3 : CI d G E3 (E 3) (E 4) M K R st ab nm tt sr := CI_fz C2 (S := [0]) (fun y hy => n3 y (by simpa using hy)) (by simp) (by rw [n3 5 (by omega)])
    have I3 : stI E3 := by
      unfold stI at *
      rw [n3 20 (by omega), n3 22 (by omega), n3 23 (by omega)]; exact I2
    have o3 : ∀ i : Int, i ≠ 20 → E3 0 i = E 0 i := fun i hi => by
      refine (zuE_ix hi).trans ?_
      rw [e20]
    have pre : ∀ kz Q, ((x ≠ 0 → ∃ E_15, zM zm_X5_mark [zR 10] (d, G, E3) none (d, G, E_15) ∧ ∃ x_18, zM zm_X5_isTrivial [zR 10, zR 1] (d, G, E_15) (some (zI x_18)) (d, G, E_15) ∧ (x_18 ≠ 0 → zin ((E_15 0 17) + 1) ∧ ∀ E_23, E_23 = zuE E_15 0 17 (((E_15 0 17) + 1)) → Q (some (zI ((-1)))) (d, G, E_23)) ∧ (¬ (x_18 ≠ 0) → ∃ x_24 E_25, zM zm_X10_isTakenIn [zR 33, zR 10] (d, G, E_15) (some (zI x_24)) (d, G, E_25) ∧ (x_24 = 0 → ∃ x_29 d_30 G_31 E_32, zM zm_X11_keep [zR 0, zR 43] (d, G, E_25) (some (zI x_29)) (d_30, G_31, E_32) ∧ (d_30 = d ∨ d_30.length ≤ kz.1 ∧ zsl d_30 ≤ kz.2) ∧ 43 ∈ d_30 ∧ zK zXt d_30 G_31 ∧ Q (some (zI x_29)) (d_30, G_31, E_32)) ∧ (¬ (x_24 = 0) → zin ((E_25 0 17) + 1) ∧ ∀ E_38, E_38 = zuE E_25 0 17 (((E_25 0 17) + 1)) → Q (some (zI ((-1)))) (d, G, E_38)))) ∧ (¬ (x ≠ 0) → zin ((E3 0 18) + 1) ∧ ∀ E_40, E_40 = zuE E3 0 18 (((E3 0 18) + 1)) → Q (some (zI ((-99)))) (d, G, E_40))) → Z zm_X11_settle kz Q 0 [(0, zR 0), (1, zI 2), (2, zR 43)] [] (d, G, E) := fun kz Q K' => by
      refine X11_settle_0 hX d43 rfl ⟨fun z => absurd z (by omega), fun _ => ⟨1, E1, m1, fun z => absurd z (by omega), fun _ => ⟨x, E2, m2, ?_, fun H h => ?_⟩⟩⟩
      · rw [e20, n2]; exact zin_of (by omega) (by omega)
      · have eH : H = E3 := by rw [h, e20, n2]
        rw [eH]; exact K'
    -- what stays
    have fr3 : ∀ (E' : Nat → Int → Int), (∀ y : Nat, y ≠ 0 → y ∉ [20, 22, 23, 34, 35] → y ≠ 10 → E' y = E3 y) → ∀ y : Nat, y < 200 → y ≠ 0 → y ≠ 5 → y ∉ tls → E' y = E y := fun E' hE y y1 y0 y5 yt => by
      unfold tls at yt
      simp at yt
      rw [hE y y0 (by simp; omega) (by omega), n3 y y0]
      exact f12 y (by simp; omega)
    rcases x01 with x0 | x1
    · subst x0
      let E4 := zuE E3 0 18 (E 0 18 + 1)
      have n4 : ∀ y : Nat, y ≠ 0 → E4 y = E3 y := fun y hy => zuE_nf hy
      have o18 : E3 0 18 = E 0 18 := o3 18 (by decide)
      refine ⟨-99, 0, B, t, n, d, G, E4, M, zM_e rfl (Nat.le_of_ble_eq_true rfl) (fun kz Q hQ => pre kz Q ⟨fun z => absurd rfl z, fun _ => ?_⟩), by rw [efn]; exact q2, t4, n8, Nat.le_refl _, Nat.le_refl _, sbs_r, hX, hM, ?_, fun L a b => ?_, fr3 E4 (fun y y0 _ _ => n4 y y0), fun i i1 i2 i3 i4 => (zuE_ix i3).trans (o3 i i4), (zuE_ix (by decide)).trans zuE_same, fun _ _ _ => rfl, Or.inl ⟨rfl, rfl, zuE_same, (zuE_ix (by decide)).trans (o3 17 (by decide)), (zuE_ix (by decide)).trans (o3 15 (by decide)), CI_fz C3 (S := [0]) (fun y hy => n4 y (by simpa using hy)) (by simp) (by rw [n4 5 (by omega)])⟩⟩
      · rw [o18]
        exact ⟨zin_of (by omega) (by omega), fun H h => by rw [h]; exact hQ⟩
      · unfold stI at *
        rw [n4 20 (by omega), n4 22 (by omega), n4 23 (by omega)]; exact I3
      · rw [n4 19 (by omega), n3 19 (by omega)]; exact z2 L a b
    · subst x1
      have hB3 : rowC E3 10 B := rowC_fz rB2 (S := [0]) (fun y hy => n3 y (by simpa using hy)) (by simp) (by simp) (by simp) (by simp)
      have e33 : E3 3 = E 3 := by rw [n3 3 (by omega)]; exact f12 3 (by simp)
      have e34 : E3 4 = E 4 := by rw [n3 4 (by omega)]; exact f12 4 (by simp)
      obtain ⟨E4, m4, f4, r4, k4⟩ := mark_ok (E := E3) (r := 10) (A := B) hX hr10 hB3 (by rw [e33]; exact rkB.1)
      have e43 : E4 3 = E 3 := by rw [f4 3 (by simp)]; exact e33
      have e44 : E4 4 = E 4 := by rw [f4 4 (by simp)]; exact e34
      have o4 : E4 0 = E3 0 := f4 0 (by simp)
      have C4 : CI d G E4 (E 3) (E 4) M K R st ab nm tt sr := CI_fz C3 f4 (by simp) (by rw [f4 5 (by simp)])
      have I4 : stI E4 := by
        unfold stI at *
        rw [f4 20 (by simp), f4 22 (by simp), f4 23 (by simp)]; exact I3
      have tr := isTrivial_ok (E := E4) (r := 10) (A := B) hX hr10 r4 (by rw [e43]; exact hP) (by rw [e43]; exact h2) (by rw [e43]; exact rkB.1)
      rw [e43] at tr
      obtain ⟨y, my, hy⟩ := tr
      have z4 : ∀ L : Int, 0 ≤ L → L < 40 → E4 19 L = 0 := fun L a b => by rw [f4 19 (by simp), n3 19 (by omega)]; exact z2 L a b
      rcases hy with ⟨y1, y2⟩ | ⟨y1, y2⟩
      · subst y1
        let E5 := zuE E4 0 17 (E 0 17 + 1)
        have n5 : ∀ w : Nat, w ≠ 0 → E5 w = E4 w := fun w hw => zuE_nf hw
        have o17 : E4 0 17 = E 0 17 := by rw [o4]; exact o3 17 (by decide)
        refine ⟨-1, 1, B, t, n, d, G, E5, M, zM_e rfl (Nat.le_of_ble_eq_true rfl) (fun kz Q hQ => pre kz Q ⟨fun _ => ⟨E4, m4, 1, my, fun _ => ?_, fun z => absurd (by decide) z⟩, fun z => absurd (by decide) z⟩), by rw [efn]; exact q2, t4, n8, Nat.le_refl _, Nat.le_refl _, sbs_r, hX, hM, ?_, fun L a b => by rw [n5 19 (by omega)]; exact z4 L a b, fr3 E5 (fun w w0 _ w10 => by rw [n5 w w0, f4 w (by simpa using w10)]), fun i i1 i2 i3 i4 => ?_, ?_, fun _ _ _ => rfl, Or.inr (Or.inl ⟨by decide, Or.inl y2, rfl, ?_, zuE_same, ?_, CI_fz C4 (S := [0]) (fun w hw => n5 w (by simpa using hw)) (by simp) (by rw [n5 5 (by omega)])⟩)⟩
        · rw [o17]
          exact ⟨zin_of (by omega) (by omega), fun H h => by rw [h]; exact hQ⟩
        · unfold stI at *
          rw [n5 20 (by omega), n5 22 (by omega), n5 23 (by omega)]; exact I4
        · refine (zuE_ix i2).trans ?_
          rw [o4]; exact o3 i i4
        · refine (zuE_ix (by decide)).trans ?_
          rw [o4]; exact zuE_same
        · refine (zuE_ix (by decide)).trans ?_
          rw [o4]; exact o3 18 (by decide)
        · refine (zuE_ix (by decide)).trans ?_
          rw [o4]; exact o3 15 (by decide)
      · subst y1
        have tk' := isTakenIn_ok (E := E4) (K := K) (R := R) (st := st) (B := B) hX (by rw [e43, e44]; exact CI_st C4) (fun c hc => (C4.2.2.2 c hc).2.2.1) (by rw [e43]; exact hP) r4 (by rw [e43]; exact rkB.1) k4 I4
        rw [e43] at tk'
        obtain ⟨w, E5, m5, f5, I5, hw⟩ := tk'
        have o5 : E5 0 = E3 0 := by rw [f5 0 (by simp)]; exact o4
        have C5 : CI d G E5 (E 3) (E 4) M K R st ab nm tt sr := CI_fz C4 f5 (by simp) (by rw [f5 5 (by simp)])
        have z5 : ∀ L : Int, 0 ≤ L → L < 40 → E5 19 L = 0 := fun L a b => by rw [f5 19 (by simp)]; exact z4 L a b
        have g5 : ∀ q : Nat, q ∉ [20, 22, 23, 34, 35] → q ≠ 10 → E5 q = E3 q := fun q h1 h2 => by rw [f5 q h1, f4 q (by simpa using h2)]
        rcases hw with ⟨w1, w2⟩ | ⟨w1, w2⟩
        · subst w1
          let E6 := zuE E5 0 17 (E 0 17 + 1)
          have n6 : ∀ w : Nat, w ≠ 0 → E6 w = E5 w := fun w hw => zuE_nf hw
          have o17 : E5 0 17 = E 0 17 := by rw [o5]; exact o3 17 (by decide)
          refine ⟨-1, 1, B, t, n, d, G, E6, M, zM_e rfl (Nat.le_of_ble_eq_true rfl) (fun kz Q hQ => pre kz Q ⟨fun _ => ⟨E4, m4, 0, my, fun z => absurd rfl z, fun _ => ⟨1, E5, m5, fun z => absurd z (by omega), fun _ => ?_⟩⟩, fun z => absurd (by decide) z⟩), by rw [efn]; exact q2, t4, n8, Nat.le_refl _, Nat.le_refl _, sbs_r, hX, hM, ?_, fun L a b => by rw [n6 19 (by omega)]; exact z5 L a b, fr3 E6 (fun q q0 q1 q2 => by rw [n6 q q0]; exact g5 q q1 q2), fun i i1 i2 i3 i4 => ?_, ?_, fun _ _ _ => rfl, Or.inr (Or.inl ⟨by decide, Or.inr w2, rfl, ?_, zuE_same, ?_, CI_fz C5 (S := [0]) (fun w hw => n6 w (by simpa using hw)) (by simp) (by rw [n6 5 (by omega)])⟩)⟩
          · rw [o17]
            exact ⟨zin_of (by omega) (by omega), fun H h => by rw [h]; exact hQ⟩
          · unfold stI at *
            rw [n6 20 (by omega), n6 22 (by omega), n6 23 (by omega)]; exact I5
          · refine (zuE_ix i2).trans ?_
            rw [o5]; exact o3 i i4
          · refine (zuE_ix (by decide)).trans ?_
            rw [o5]; exact zuE_same
          · refine (zuE_ix (by decide)).trans ?_
            rw [o5]; exact o3 18 (by decide)
          · refine (zuE_ix (by decide)).trans ?_
            rw [o5]; exact o3 15 (by decide)
        · subst w1
          have e53 : E5 3 = E 3 := by rw [f5 3 (by simp)]; exact e43
          have e54 : E5 4 = E 4 := by rw [f5 4 (by simp)]; exact e44
          have b5 : ∀ q : Nat, q ∉ [10, 11, 12, 13, 18, 19, 20, 21, 22, 23, 27, 28, 29, 30, 31, 32, 34, 35, 36, 37, 38, 39, 40] → q ≠ 0 → E5 q = E q := fun q h1 h2 => by
            simp at h1
            rw [g5 q (by simp; omega) (by omega), n3 q h2]
            exact f12 q (by simp; omega)
          have kk := keep_ok (E := E5) (M := M) (K := K) (n := n) (k := k) (B := B) (S := S) (nw := nw) (t := t) hX hM (by rw [e53, e54]; exact C5) hK (by rw [e53]; exact hP) (by rw [e54]; exact hW) (by rw [e53]; exact h2) z5 I5 (rowC_fz r4 f5 (by simp) (by simp) (by simp) (by simp)) (by rw [e53, e54]; exact rkB) (by rw [f5 10 (by simp)]; exact k4) (by rw [g5 30 (by simp) (by omega), n3 30 (by omega)]; exact nl2) (by rw [g5 36 (by simp) (by omega), n3 36 (by omega)]; exact n2) n8 t4 (fun i hi => by rw [g5 40 (by simp) (by omega), n3 40 (by omega)]; exact t40 i hi) hnw (fun i hi => by rw [b5 43 (by simp) (by omega)]; exact hnw2 i hi) (by rw [b5 43 (by simp) (by omega)]; exact hk) hk4 (fun z => by
            obtain ⟨u1, u2⟩ := hS z
            refine ⟨?_, by rw [e53, e54]; exact u2⟩
            unfold rowC at *
            rw [b5 14 (by simp) (by omega), b5 (14 + 1) (by simp) (by omega), b5 (14 + 2) (by simp) (by omega), b5 (14 + 3) (by simp) (by omega)]; exact u1)
          rw [e53, e54] at kk
          obtain ⟨d6, G6, E6, M6, m6, l6, s6, sub6, X6, Mm6, C6, I6, z6, f6, o6, p6, gg6⟩ := kk
          refine ⟨K, 1, B, t, n, d6, G6, E6, M6, zM_of rfl (Nat.le_of_ble_eq_true rfl) ⟨l6, s6⟩ (pre _ _ ⟨fun _ => ⟨E4, m4, 0, my, fun z => absurd rfl z, fun _ => ⟨0, E5, m5, fun _ => ⟨K, d6, G6, E6, m6, Or.inr ⟨Nat.le_refl _, Nat.le_refl _⟩, sub6.1 _ d43, X6, rfl, rfl⟩, fun z => absurd rfl z⟩⟩, fun z => absurd (by decide) z⟩), by rw [efn]; exact q2, t4, n8, l6, s6, sub6, X6, Mm6, I6, z6, fun q q1 q0 q5 qt => ?_, fun i i1 i2 i3 i4 => ?_, ?_, gg6, Or.inr (Or.inr ⟨by decide, fun z => ?_, rfl, ?_, ?_, ?_, rkB, C6⟩)⟩
          · unfold tls at qt
            simp at qt
            rw [f6 q q1 (by simp; omega)]
            exact b5 q (by simp; omega) q0
          · rw [o6 i i1, o5]; exact o3 i i4
          · rw [o6 20 (by decide), o5]; exact zuE_same
          · rcases z with z | z
            · exact y2 z
            · exact w2 z
          · rw [o6 18 (by decide), o5]; exact o3 18 (by decide)
          · rw [o6 17 (by decide), o5]; exact o3 17 (by decide)
          · rw [p6, o5, o3 15 (by decide)]
  · subst v1
    have efn : fns (E 3) (E 4) R st K A = (0, A, []) := by unfold fns; rw [if_neg (by omega)]
    let E2 := zuE E1 0 18 (E 0 18 + 1)
    have n2 : ∀ y : Nat, y ≠ 0 → E2 y = E1 y := fun y hy => zuE_nf hy
    refine ⟨-99, 0, A, [], 0, d, G, E2, M, zM_e rfl (Nat.le_of_ble_eq_true rfl) (fun kz Q hQ => X11_settle_0 hX d43 rfl ⟨fun z => absurd z (by omega), fun _ => ⟨0, E1, m1, fun _ => X11_settle_23 hX d43 rfl ?_, fun z => absurd rfl z⟩⟩), efn, rfl, by omega, Nat.le_refl _, Nat.le_refl _, sbs_r, hX, hM, ?_, fun L a b => by rw [n2 19 (by omega)]; exact z1 L a b, fun y y1 y0 y5 yt => ?_, fun i i1 i2 i3 i4 => ?_, ?_, fun _ _ _ => rfl, Or.inl ⟨rfl, rfl, zuE_same, ?_, ?_, CI_fz C1 (S := [0]) (fun y hy => n2 y (by simpa using hy)) (by simp) (by rw [n2 5 (by omega)])⟩⟩
    · rw [e10]
      exact ⟨zin_of (by omega) (by omega), fun H h => by rw [h]; exact hQ⟩
    · unfold stI at *
      rw [n2 20 (by omega), n2 22 (by omega), n2 23 (by omega)]; exact I1
    · unfold tls at yt
      simp at yt
      rw [n2 y y0]
      exact f1 y (by simp; omega)
    · refine (zuE_ix i3).trans ?_
      rw [e10]
    · refine (zuE_ix (by decide)).trans ?_
      rw [e10]; omega
    · refine (zuE_ix (by decide)).trans ?_
      rw [e10]
    · refine (zuE_ix (by decide)).trans ?_
      rw [e10]
end QP
