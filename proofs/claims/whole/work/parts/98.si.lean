/-! ===== picks: the class holds the state; a try that was told ===== -/
/-- the class holds this state -/
def CIv (d : List Nat) (G : Nat → Int → Option Nat) (E : Nat → Int → Int) (s : zS) : Prop := (∃ M : Nat, CI d G E (E 3) (E 4) M (sK s) (sR s) (sT s) (sB s) (sN s) (sW s) (sS s)) ∧ E 0 17 = sAo s ∧ E 0 18 = sLo s ∧ E 0 19 = sMa s ∧ E 0 20 = sRw s ∧ E 0 15 = sEn s ∧ stI E ∧ (∀ L : Int, 0 ≤ L → L < 40 → E 19 L = 0) ∧ zK zXt d G ∧ zK zMt d G
def sgC (E : Nat → Int → Int) (fu : Int) : Prop := pok (E 3) ∧ wok (E 4) ∧ E 3 0 = 2 ∧ E 0 14 = fu ∧ fu ≤ 4000 ∧ UB (E 3)
/-- what running changes in the class -/
def cS : List Nat := [0, 5, 10, 11, 12, 13, 18, 19, 20, 21, 22, 23, 24, 25, 26, 27, 28, 29, 30, 31, 32, 34, 35, 36, 37, 38, 39, 40, 42, 43]
def kpC (d : List Nat) (G : Nat → Int → Option Nat) (E : Nat → Int → Int) (d' : List Nat) (G' : Nat → Int → Option Nat) (E' : Nat → Int → Int) : Prop := sbs d d' ∧ d.length ≤ d'.length ∧ zsl d ≤ zsl d' ∧ (∀ y : Nat, y < 200 → y ≠ 6 → y ≠ 42 → G' y = G y) ∧ (∀ i : Int, i ≠ 3 → i ≠ 6 → i ≠ 7 → G' 42 i = G 42 i) ∧ (∀ y : Nat, y < 200 → y ∉ cS → E' y = E y) ∧ ∀ i : Int, i < 15 → E' 0 i = E 0 i
theorem kpC_r {d : List Nat} {G : Nat → Int → Option Nat} {E : Nat → Int → Int} : kpC d G E d G E := ⟨sbs_r, Nat.le_refl _, Nat.le_refl _, fun _ _ _ _ => rfl, fun _ _ _ _ => rfl, fun _ _ _ => rfl, fun _ _ => rfl⟩
theorem kpC_t {d d1 d2 : List Nat} {G G1 G2 : Nat → Int → Option Nat} {E E1 E2 : Nat → Int → Int} (h : kpC d G E d1 G1 E1) (h' : kpC d1 G1 E1 d2 G2 E2) : kpC d G E d2 G2 E2 := by
  obtain ⟨a1, a2, a3, a4, a5, a6, a7⟩ := h
  obtain ⟨b1, b2, b3, b4, b5, b6, b7⟩ := h'
  exact ⟨sbs_t a1 b1, Nat.le_trans a2 b2, Nat.le_trans a3 b3, fun y y1 y2 y3 => (b4 y y1 y2 y3).trans (a4 y y1 y2 y3), fun i i1 i2 i3 => (b5 i i1 i2 i3).trans (a5 i i1 i2 i3), fun y y1 y2 => (b6 y y1 y2).trans (a6 y y1 y2), fun i hi => (b7 i hi).trans (a7 i hi)⟩
theorem kpC_E {d : List Nat} {G : Nat → Int → Option Nat} {E E' : Nat → Int → Int} (h : ∀ y : Nat, y < 200 → y ∉ cS → E' y = E y) (h' : ∀ i : Int, i < 15 → E' 0 i = E 0 i) : kpC d G E d G E' := ⟨sbs_r, Nat.le_refl _, Nat.le_refl _, fun _ _ _ _ => rfl, fun _ _ _ _ => rfl, h, h'⟩
theorem kpC_34 {d d' : List Nat} {G G' : Nat → Int → Option Nat} {E E' : Nat → Int → Int} (h : kpC d G E d' G' E') : E' 3 = E 3 ∧ E' 4 = E 4 := ⟨h.2.2.2.2.2.1 3 (by omega) (by simp [cS]), h.2.2.2.2.2.1 4 (by omega) (by simp [cS])⟩
theorem sgC_k {d d' : List Nat} {G G' : Nat → Int → Option Nat} {E E' : Nat → Int → Int} {fu : Int} (h : sgC E fu) (k : kpC d G E d' G' E') : sgC E' fu := by
  unfold sgC
  rw [(kpC_34 k).1, (kpC_34 k).2, k.2.2.2.2.2.2 14 (by decide)]; exact h
section SI
variable {d : List Nat} {G : Nat → Int → Option Nat} {E : Nat → Int → Int}
/-- outside of the claims, and not where the state lies -/
theorem CIv_fz {s : zS} {E' : Nat → Int → Int} {S : List Nat} (h : CIv d G E s) (hf : fz S E E') (hS : ∀ x, x ∈ S → x < 200 ∧ x ≠ 0 ∧ x ≠ 3 ∧ x ≠ 4 ∧ x ≠ 5) (hI : stI E') (h19 : ∀ L : Int, 0 ≤ L → L < 40 → E' 19 L = 0) : CIv d G E' s := by
  obtain ⟨⟨M, hC⟩, e17, e18, e19, e20, e15, _, _, hX, hM⟩ := h
  have a0 : E' 0 = E 0 := hf 0 (fun q => (hS 0 q).2.1 rfl)
  have a3 : E' 3 = E 3 := hf 3 (fun q => (hS 3 q).2.2.1 rfl)
  have a4 : E' 4 = E 4 := hf 4 (fun q => (hS 4 q).2.2.2.1 rfl)
  refine ⟨⟨M, ?_⟩, by rw [a0]; exact e17, by rw [a0]; exact e18, by rw [a0]; exact e19, by rw [a0]; exact e20, by rw [a0]; exact e15, hI, h19, hX, hM⟩
  rw [a3, a4]
  exact CI_fz hC hf (fun x hx => (hS x hx).1) (by rw [hf 5 (fun q => (hS 5 q).2.2.2.2 rfl)])
theorem told_ok {fu : Int} {g : Nat} {s : zS} {nm : List Int} (hg : sgC E fu) (hs : CIv d G E s) (ho : okS g s) (hg6 : g ≤ 600) (h0 : sEn s = 0) (hl : nm.length = 7) (hnm : ∀ i : Nat, i < 7 → E 43 i = nm.getD i 0) (hk : 1 ≤ nm.getD 0 0 ∧ nm.getD 0 0 ≤ 4) :
    ∃ (d' : List Nat) (G' : Nat → Int → Option Nat) (E' : Nat → Int → Int) (s' : zS), CIv d' G' E' s' ∧ kpC d G E d' G' E' ∧ E' 42 = E 42 ∧ G' 42 = G 42 ∧ E' 0 16 = E 0 16 ∧ TR (E 3) (E 4) fu s nm s' ∧ ∀ (kz : Nat × Nat) (Q : Option zV → zH → Prop) (v1 v2 v3 : Int), d'.length ≤ kz.1 → zsl d' ≤ kz.2 → 0 ≤ v3 → v3 ≤ 1000000 → Z zm_X11_run kz Q 42 [(0, zR 0), (1, zI v1), (2, zI v2), (3, zI (v3 + 1))] [] (d', G', E') →
      ∃ x_13 E_14, zM zm_X3_make [zR 41, zR 43, zI ((E 5 4)), zR 10] (d, G, E) (some (zI x_13)) (d, G, E_14) ∧ (x_13 = 0 → zin (v3 + 1) ∧ Z zm_X11_run kz Q 42 [(0, zR 0), (1, zI v1), (2, zI v2), (3, zI ((v3 + 1)))] [] (d, G, E_14)) ∧ (¬ (x_13 = 0) → ∃ x_19 E_20, zM zm_X11_hasFuel [zR 0] (d, G, E_14) (some (zI x_19)) (d, G, E_20) ∧ (x_19 = 0 → zin (v3 + 1) ∧ Z zm_X11_run kz Q 42 [(0, zR 0), (1, zI v1), (2, zI v2), (3, zI ((v3 + 1)))] [] (d, G, E_20)) ∧ (¬ (x_19 = 0) → zin ((E_20 0 19) + 1) ∧ ∀ E_26, E_26 = zuE E_20 0 19 (((E_20 0 19) + 1)) → ∃ x_27 d_28 G_29 E_30, zM zm_X11_settle [zR 0, zI x_13, zR 43] (d, G, E_26) (some (zI x_27)) (d_28, G_29, E_30) ∧ (d_28 = d ∨ d_28.length ≤ kz.1 ∧ zsl d_28 ≤ kz.2) ∧ zK zXt d_28 G_29 ∧ zin (v3 + 1) ∧ Z zm_X11_run kz Q 42 [(0, zR 0), (1, zI v1), (2, zI v2), (3, zI ((v3 + 1)))] [] (d_28, G_29, E_30))) := by
  obtain ⟨hP, hW, h2, hfu, hfu4, hub⟩ := hg
  have hs' := hs
  obtain ⟨⟨M, hC⟩, e17, e18, e19, e20, e15, hI, h19, hX, hM⟩ := hs
  obtain ⟨o1, o2, o3, o4, o5, o6, o7, o8⟩ := ho
  have k150 := o2 h0
  have e54 : E 5 4 = sK s := hC.2.2.1
  have d43 := (zX_42_2 hX).2.2
  obtain ⟨x, E1, r, m1, f1, z1, I1, hr, hx⟩ := make_ok (E := E) (K := sK s) (a1 := 43) (B := (sK s : Int)) (R := sR s) (nm := nm) hX hP hW h2 h19 (CI_st hC) (fun c hc => (hC.2.2.2 c hc).2.2.2.2.2.1) hI (zXr10 hX) hub d43 rfl (by simp [kS]) hnm (Int.le_refl _)
  have v1 : CIv d G E1 s := CIv_fz hs' f1 (by simp [kS]) I1 z1
  have n1 : ∀ y : Nat, y ∉ cS → E1 y = E y := fun y hy => f1 y (by simp only [cS, kS, List.mem_cons, List.not_mem_nil, or_false, not_or] at *; omega)
  have a0 : E1 0 = E 0 := f1 0 (by simp [kS])
  have a42 : E1 42 = E 42 := f1 42 (by simp [kS])
  have a43 : E1 43 = E 43 := f1 43 (by simp [kS])
  have a3 : E1 3 = E 3 := f1 3 (by simp [kS])
  have a4 : E1 4 = E 4 := f1 4 (by simp [kS])
  have k1 : kpC d G E d G E1 := kpC_E (fun y _ h => n1 y h) (fun i _ => by rw [a0])
  rcases hx with ⟨r0, x0⟩ | hx
  · refine ⟨d, G, E1, s, v1, k1, a42, rfl, by rw [a0], ⟨r, hr, Or.inl ⟨r0, rfl⟩⟩, fun kz Q v1 v2 v3 _ _ p1 p2 hz => ?_⟩
    rw [e54]
    exact ⟨x, E1, m1, fun _ => ⟨zin_of (by omega) (by omega), hz⟩, fun z => absurd x0 z⟩
  have xn : ¬ x = 0 ∧ r ≠ none := by
    rcases hx with ⟨r0, x0⟩ | ⟨A', r0, x0, _⟩
    · exact ⟨by omega, by rw [r0]; simp⟩
    · exact ⟨by omega, by rw [r0]; simp⟩
  have b19 : E1 0 19 = sMa s := by rw [a0]; exact e19
  have b20 : E1 0 20 = sRw s := by rw [a0]; exact e20
  have b14 : E1 0 14 = fu := by rw [a0]; exact hfu
  by_cases cf : sMa s + sRw s < fu
  case neg =>
    let E2 := zuE E1 0 15 3
    have n2 : ∀ y : Nat, y ≠ 0 → E2 y = E1 y := fun y hy => zuE_nf hy
    have p2 : ∀ i : Int, i ≠ 15 → E2 0 i = E1 0 i := fun i hi => zuE_ix hi
    have mf : zM zm_X11_hasFuel [zR 0] (d, G, E1) (some (zI 0)) (d, G, E2) := zM_e rfl (Nat.le_of_ble_eq_true rfl) (fun kz Q hQ => X11_hasFuel_0 hX ⟨zin_of (by omega) (by omega), fun _ H e => by rw [e]; exact hQ, fun z => absurd (by omega) z⟩)
    refine ⟨d, G, E2, (sK s, sR s, sT s, sB s, sN s, sW s, sS s, sAo s, sLo s, sMa s, sRw s, 3), ⟨⟨M, ?_⟩, ?_, ?_, ?_, ?_, zuE_same, ?_, ?_, hX, hM⟩, kpC_t k1 (kpC_E (fun y _ hy => n2 y (fun q => by subst q; exact hy (by simp [cS]))) (fun i hi => p2 i (by omega))), (n2 42 (by decide)).trans a42, rfl, (p2 16 (by decide)).trans (by rw [a0]), ⟨r, hr, Or.inr (Or.inl ⟨xn.2, cf, rfl⟩)⟩, fun kz Q v1 v2 v3 _ _ q1 q2 hz => ?_⟩
    · rw [n2 3 (by decide), n2 4 (by decide), a3, a4]
      exact CI_fz (CI_fz hC f1 (by simp [kS]) (by rw [f1 5 (by simp [kS])])) (S := [0]) (fun y hy => n2 y (by simpa using hy)) (by simp) (by rw [n2 5 (by decide)])
    · rw [p2 17 (by decide), a0]; exact e17
    · rw [p2 18 (by decide), a0]; exact e18
    · rw [p2 19 (by decide), a0]; exact e19
    · rw [p2 20 (by decide), a0]; exact e20
    · unfold stI at *
      rw [n2 20 (by decide), n2 22 (by decide), n2 23 (by decide)]; exact I1
    · rw [n2 19 (by decide)]; exact z1
    · rw [e54]
      exact ⟨x, E1, m1, fun z => absurd z xn.1, fun _ => ⟨0, E2, mf, fun _ => ⟨zin_of (by omega) (by omega), hz⟩, fun z => absurd rfl z⟩⟩
  have mf : zM zm_X11_hasFuel [zR 0] (d, G, E1) (some (zI 1)) (d, G, E1) := zM_e rfl (Nat.le_of_ble_eq_true rfl) (fun kz Q hQ => X11_hasFuel_0 hX ⟨zin_of (by omega) (by omega), fun z => absurd z (by omega), fun _ => hQ⟩)
  let E2 := zuE E1 0 19 (sMa s + 1)
  have n2 : ∀ y : Nat, y ≠ 0 → E2 y = E1 y := fun y hy => zuE_nf hy
  have p2 : ∀ i : Int, i ≠ 19 → E2 0 i = E1 0 i := fun i hi => zuE_ix hi
  have c3 : E2 3 = E 3 := (n2 3 (by decide)).trans a3
  have c4 : E2 4 = E 4 := (n2 4 (by decide)).trans a4
  have C2 : CI d G E2 (E 3) (E 4) M (sK s) (sR s) (sT s) (sB s) (sN s) (sW s) (sS s) := CI_fz (CI_fz hC f1 (by simp [kS]) (by rw [f1 5 (by simp [kS])])) (S := [0]) (fun y hy => n2 y (by simpa using hy)) (by simp) (by rw [n2 5 (by decide)])
  have I2 : stI E2 := by
    unfold stI at *
    rw [n2 20 (by decide), n2 22 (by decide), n2 23 (by decide)]; exact I1
  have z2 : ∀ L : Int, 0 ≤ L → L < 40 → E2 19 L = 0 := by rw [n2 19 (by decide)]; exact z1
  have q17 : E2 0 17 = sAo s := by rw [p2 17 (by decide), a0]; exact e17
  have q18 : E2 0 18 = sLo s := by rw [p2 18 (by decide), a0]; exact e18
  have q19 : E2 0 19 = sMa s + 1 := zuE_same
  have q20 : E2 0 20 = sRw s := by rw [p2 20 (by decide), a0]; exact e20
  have q15 : E2 0 15 = sEn s := by rw [p2 15 (by decide), a0]; exact e15
  have q16 : E2 0 16 = E 0 16 := by rw [p2 16 (by decide), a0]
  have k2 : kpC d G E d G E2 := kpC_t k1 (kpC_E (fun y _ hy => n2 y (fun q => by subst q; exact hy (by simp [cS]))) (fun i hi => p2 i (by omega)))
  have b42 : E2 42 = E 42 := (n2 42 (by decide)).trans a42
  have b43 : E2 43 = E 43 := (n2 43 (by decide)).trans a43
  rcases hx with ⟨r0, x0⟩ | ⟨A', r0, x0, hA⟩
  · let E3 := zuE E2 0 18 (sLo s + 1)
    have n3 : ∀ y : Nat, y ≠ 0 → E3 y = E2 y := fun y hy => zuE_nf hy
    have p3 : ∀ i : Int, i ≠ 18 → E3 0 i = E2 0 i := fun i hi => zuE_ix hi
    have ms := settleL_ok (E := E2) hX (by rw [q18]; omega)
    rw [q18] at ms
    refine ⟨d, G, E3, (sK s, sR s, sT s, sB s, sN s, sW s, sS s, sAo s, sLo s + 1, sMa s + 1, sRw s, sEn s), ⟨⟨M, ?_⟩, (p3 17 (by decide)).trans q17, zuE_same, (p3 19 (by decide)).trans q19, (p3 20 (by decide)).trans q20, (p3 15 (by decide)).trans q15, ?_, ?_, hX, hM⟩, kpC_t k2 (kpC_E (fun y _ hy => n3 y (fun q => by subst q; exact hy (by simp [cS]))) (fun i hi => p3 i (by omega))), (n3 42 (by decide)).trans b42, rfl, (p3 16 (by decide)).trans q16, ⟨r, hr, Or.inr (Or.inr (Or.inl ⟨r0, cf, rfl⟩))⟩, fun kz Q v1 v2 v3 _ _ w1 w2 hz => ?_⟩
    · rw [n3 3 (by decide), n3 4 (by decide), c3, c4]
      exact CI_fz C2 (S := [0]) (fun y hy => n3 y (by simpa using hy)) (by simp) (by rw [n3 5 (by decide)])
    · unfold stI at *
      rw [n3 20 (by decide), n3 22 (by decide), n3 23 (by decide)]; exact I2
    · rw [n3 19 (by decide)]; exact z2
    · rw [e54]
      refine ⟨x, E1, m1, fun z => absurd z xn.1, fun _ => ⟨1, E1, mf, fun z => absurd z (by decide), fun _ => ⟨by rw [b19]; exact zin_of (by omega) (by omega), fun H e => ?_⟩⟩⟩
      rw [b19] at e
      have eH : H = E2 := e
      rw [eH, x0]
      exact ⟨-99, d, G, E3, ms, Or.inl rfl, hX, zin_of (by omega) (by omega), hz⟩
  · have gA : gok (E 3) (E 4) A' := stR_gok (R := sR s) (B := (sK s : Int)) hP hW h2 (fun c hc => (hC.2.2.2 c (by omega)).2.1) (by rw [← r0]; exact hr)
    obtain ⟨kk, hkk⟩ : ∃ k : Nat, nm.getD 0 0 = k := ⟨(nm.getD 0 0).toNat, by omega⟩
    have hA2 : rowC E2 10 A' := rowC_fz hA (S := [0]) (fun y hy => n2 y (by simpa using hy)) (by simp) (by simp) (by simp) (by simp)
    have st := settle_ok (E := E2) (M := M) (K := sK s) (k := kk) (A := A') (S := []) (nw := nm) hX hM (by rw [c3, c4]; exact C2) k150 (by rw [c3]; exact hP) (by rw [c4]; exact hW) (by rw [c3]; exact h2) z2 I2 hA2 (by rw [c3, c4]; exact gA) hl (fun i hi => by rw [b43]; exact hnm i hi) (by rw [b43]; exact (hnm 0 (by omega)).trans hkk) (by omega) (fun z => by omega) (by rw [q17]; omega) (by rw [q18]; omega) (by rw [q20]; omega)
    rw [c3, c4, q17, q18, q20, q15] at st
    obtain ⟨rr, xx, B, t, n, d', G', E', M', ms, u1, u2, u3, ll, sl, sub, X', Mm', I', z', fr', o', u20, gg, hcase⟩ := st
    have w3 : E' 3 = E 3 := (fr' 3 (by decide) (by decide) (by decide) (by simp [tls])).trans c3
    have w4 : E' 4 = E 4 := (fr' 4 (by decide) (by decide) (by decide) (by simp [tls])).trans c4
    have w42 : E' 42 = E 42 := (fr' 42 (by decide) (by decide) (by decide) (by simp [tls])).trans b42
    have w16 : E' 0 16 = E 0 16 := (o' 16 (by decide) (by decide) (by decide) (by decide)).trans q16
    have w19 : E' 0 19 = sMa s + 1 := (o' 19 (by decide) (by decide) (by decide) (by decide)).trans q19
    have kp : kpC d G E d' G' E' := kpC_t k2 ⟨sub, ll, sl, fun y y1 y2 _ => gg y y1 y2, fun i _ _ _ => by rw [gg 42 (by decide) (by decide)], fun y y1 hy => fr' y y1 (fun q => by subst q; exact hy (by simp [cS])) (fun q => by subst q; exact hy (by simp [cS])) (fun q => hy (by simp only [tls, cS, List.mem_cons, List.not_mem_nil, or_false] at *; omega)), fun i hi => o' i (by omega) (by omega) (by omega) (by omega)⟩
    have key : ∃ s' : zS, CIv d' G' E' s' ∧ TR (E 3) (E 4) fu s nm s' := by
      rcases hcase with ⟨g1, g2, g3, g4, g5, g6⟩ | ⟨g1, g2, g3, g4, g5, g6, g7⟩ | ⟨g1, g2, g3, g4, g5, g6, g7, g8⟩
      · exact ⟨(sK s, sR s, sT s, sB s, sN s, sW s, sS s, sAo s, sLo s + 1, sMa s + 1, sRw s + n, sEn s), ⟨⟨M', by rw [w3, w4]; exact g6⟩, g4, g3, w19, u20, g5, I', z', X', Mm'⟩, ⟨r, hr, Or.inr (Or.inr (Or.inr ⟨A', rr, r0, cf, xx, B, t, n, u1, u2, u3, Or.inl ⟨g1, g2, rfl⟩⟩))⟩⟩
      · exact ⟨(sK s, sR s, sT s, sB s, sN s, sW s, sS s, sAo s + 1, sLo s, sMa s + 1, sRw s + n, sEn s), ⟨⟨M', by rw [w3, w4]; exact g7⟩, g5, g4, w19, u20, g6, I', z', X', Mm'⟩, ⟨r, hr, Or.inr (Or.inr (Or.inr ⟨A', rr, r0, cf, xx, B, t, n, u1, u2, u3, Or.inr (Or.inl ⟨g1, g2, g3, rfl⟩)⟩))⟩⟩
      · exact ⟨(sK s + 1, zup (sR s) (sK s) B, zup (pst (E 3) (sR s) (sT s) B) (sK s) 0, zup (pby (E 3) (sR s) (sT s) (sB s) B (sK s)) (sK s) (-1), zup (sN s) (sK s) nm, zup (sW s) (sK s) t, zup (sS s) (sK s) [], sAo s, sLo s, sMa s + 1, sRw s + n, if B.length = 0 then 1 else if sK s + 1 = 150 then 3 else sEn s), ⟨⟨M', by rw [w3, w4]; exact g8⟩, g5, g4, w19, u20, g6, I', z', X', Mm'⟩, ⟨r, hr, Or.inr (Or.inr (Or.inr ⟨A', rr, r0, cf, xx, B, t, n, u1, u2, u3, Or.inr (Or.inr ⟨g1, g2, g3, rfl⟩)⟩))⟩⟩
    obtain ⟨s', vs, ts⟩ := key
    refine ⟨d', G', E', s', vs, kp, w42, gg 42 (by decide) (by decide), w16, ts, fun kz Q v1 v2 v3 y1 y2 y3 y4 hz => ?_⟩
    rw [e54]
    refine ⟨x, E1, m1, fun z => absurd z xn.1, fun _ => ⟨1, E1, mf, fun z => absurd z (by decide), fun _ => ⟨by rw [b19]; exact zin_of (by omega) (by omega), fun H e => ?_⟩⟩⟩
    rw [b19] at e
    have eH : H = E2 := e
    rw [eH, x0]
    exact ⟨rr, d', G', E', ms, Or.inr ⟨y1, y2⟩, X', zin_of (by omega) (by omega), hz⟩
end SI
