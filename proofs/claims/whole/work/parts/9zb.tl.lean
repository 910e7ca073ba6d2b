/-! ===== judge: the class's side, whole; the reference's pieces ===== -/
section TL
variable {d : List Nat} {G : Nat → Int → Option Nat} {E : Nat → Int → Int}
theorem judgeC_ok {s : zS} {c : Nat} (hs : CIv d G E s) (hP : pok (E 3)) (hW : wok (E 4)) (h2 : E 3 0 = 2) (hub : UB (E 3)) (hc : c < sK s) : ∃ (x : Int) (E' : Nat → Int → Int), zM zm_X11_judge [zR 0, zI (c : Int)] (d, G, E) (some (zI x)) (d, G, E') ∧ fz jS E E' ∧ stI E' ∧ (∀ L : Int, 0 ≤ L → L < 40 → E' 19 L = 0) ∧ JD (E 3) (E 4) s c x := by
  obtain ⟨⟨M, hC⟩, e17, e18, e19, e20, e15, hI, h19, hX, hM⟩ := hs
  have sC := CI_st hC
  have cl := hC.2.2.2 c hc
  obtain ⟨cR, rB, cD⟩ := cl
  obtain ⟨_, _, _, c9, _, n7, nE, nk0, nk4, ⟨n, tl, n8, en⟩, tE, src⟩ := cD
  have zc := (sC.2.2 c hc).2.1
  have aC := at_ok (E := E) hX sC hc
  have hr10 := zXr10 hX
  have q2 : 200 ≤ qn c := by unfold qn; omega
  have n4 : (sW s c).length / 4 = n := by omega
  obtain ⟨kk, hkk⟩ : ∃ k : Nat, (sN s c).getD 0 0 = k := ⟨((sN s c).getD 0 0).toNat, by omega⟩
  have hkd : zM zm_X1_kind [zR (qn c)] (d, G, E) (some (zI (kk : Int))) (d, G, E) := kind_ok hX zc (by have := nE 0 (by decide); rw [← hkk]; exact this) (by omega)
  -- from the bench on
  have fin : ∀ (F : Nat → Int → Int) (A : List zLt), fz jS E F → stI F → (∀ L : Int, 0 ≤ L → L < 40 → F 19 L = 0) → rowC F 10 A → gok (E 3) (E 4) A → ∃ (x : Int) (E' : Nat → Int → Int), fz jS E E' ∧ stI E' ∧ (∀ L : Int, 0 ≤ L → L < 40 → E' 19 L = 0) ∧ ((20 < cll (E 3) (E 4) A ∧ x = 0) ∨ (cll (E 3) (E 4) A ≤ 20 ∧ JR (E 3) (E 4) (sR s) c (sW s c) ((sW s c).length / 4) 0 (cln (E 3) (E 4) A) x)) ∧ ∀ (kz : Nat × Nat) (Q : Option zV → zH → Prop), Q (some (zI x)) (d, G, E') → ∃ x_17 E_18, zM zm_X2_clean [zR 30, zR 10] (d, G, F) (some (zI x_17)) (d, G, E_18) ∧ (x_17 ≠ 0 → Z zm_X11_judge kz Q 84 [(0, zR 0), (1, zI (c : Int)), (2, zR (qn c)), (3, zI 0)] [] (d, G, E_18)) ∧ (¬ (x_17 ≠ 0) → Q (some (zI 0)) (d, G, E_18)) := by
    intro F A hf hI h19 hA gA
    have b3 : F 3 = E 3 := hf 3 (by simp [jS])
    have b4 : F 4 = E 4 := hf 4 (by simp [jS])
    have CC := clean_ok (E := F) (d := d) (G := G) (r := 10) (A := A) hX hr10 (Or.inl (by decide)) (by decide) (by rw [b3]; exact hP) (by rw [b4]; exact hW) (by rw [b3]; exact h2) h19 hA (by rw [b3]; exact gA.1)
    rw [b3, b4] at CC
    obtain ⟨y, F2, m2, f2, z2, r2, _, hy⟩ := CC
    have ff2 : fz jS E F2 := fz_trans hf (fz_mono f2 (by simp [jS]))
    have I2 : stI F2 := by
      unfold stI at *
      rw [f2 20 (by simp), f2 22 (by simp), f2 23 (by simp)]; exact hI
    rcases hy with ⟨y1, yl⟩ | ⟨y0, yl⟩
    · obtain ⟨x, F', z, zf, zI', z19, zj⟩ := judge_go (E := E) hX sC hc hP hW h2 tl n8 en tE n 0 F2 (cln (E 3) (E 4) A) (by omega) ff2 I2 z2 r2 (cln_rok hP h2 gA.1 gA.2 yl)
      refine ⟨x, F', zf, zI', z19, Or.inr ⟨yl, by rw [n4]; exact zj⟩, fun kz Q hQ => ⟨y, F2, m2, fun _ => z kz Q hQ, fun q => absurd (by omega) q⟩⟩
    · exact ⟨0, F2, ff2, I2, z2, Or.inl ⟨yl, rfl⟩, fun kz Q hQ => ⟨y, F2, m2, fun q => absurd y0 q, fun _ => hQ⟩⟩
  by_cases k0 : (sN s c).getD 0 0 = 0
  · obtain ⟨sd, sr, gS⟩ := src k0
    have kk0 : (kk : Int) = 0 := by omega
    have hG : G (qn c) 1 = some (qn c + 7) ∧ zRk d G (qn c + 7) := by
      rcases (hC.1.2.1 c (by have := hC.2.1; omega)).2.2 with q | ⟨_, q⟩
      · exact q
      · exact absurd sd (q 7 (by decide) (by decide))
    obtain ⟨F, m1, r1, f1, _⟩ := copy_ok (E := E) (d := d) (G := G) (r := 10) (s := qn c + 7) (A := sS s c) hX hr10 hG.2 (Or.inl (by omega)) sr
    have ff : fz jS E F := fz_mono f1 (by simp [jS])
    obtain ⟨x, E', g1, g2, g3, g4, g5⟩ := fin F (sS s c) ff (by
      unfold stI at *
      rw [f1 20 (by simp), f1 22 (by simp), f1 23 (by simp)]; exact hI) (by rw [f1 19 (by simp)]; exact h19) r1 gS
    refine ⟨x, E', zM_e rfl (Nat.le_of_ble_eq_true rfl) (fun kz Q hQ => X11_judge_0 hX ⟨_, aC, fun _ => ⟨_, rfl, zc, _, hkd, fun y => absurd kk0 y, fun _ => ⟨fun y => absurd y (by rw [hG.1]; simp), fun _ => ⟨F, by rw [hG.1]; exact m1, g5 kz Q hQ⟩⟩⟩, fun y => absurd (by simp) y⟩), g1, g2, g3, _, Or.inl ⟨k0, rfl⟩, Or.inl ⟨_, rfl, g4⟩⟩
  · have kk1 : ¬ (kk : Int) = 0 := by omega
    obtain ⟨x, F, r, m1, f1, z1, I1, hr, hx⟩ := make_ok (E := E) (d := d) (G := G) (K := sK s) (a1 := qn c + 5) (B := (c : Int)) (R := sR s) (nm := sN s c) hX hP hW h2 h19 sC (fun c hc => (hC.2.2.2 c hc).2.2.2.2.2.1) hI hr10 hub zc.2.2.2.2.2.1 zc.2.2.2.2.1 (by simp [kS]; omega) nE (by omega)
    have ff : fz jS E F := fz_mono f1 (by simp [kS, jS])
    rcases hx with ⟨r0, x0⟩ | ⟨r0, x0⟩ | ⟨A', r0, x0, hA⟩
    · refine ⟨0, F, zM_e rfl (Nat.le_of_ble_eq_true rfl) (fun kz Q hQ => X11_judge_0 hX ⟨_, aC, fun _ => ⟨_, rfl, zc, _, hkd, fun _ => ⟨x, F, m1, fun y => absurd y (by omega), fun _ => hQ⟩, fun y => absurd kk1 y⟩, fun y => absurd (by simp) y⟩), ff, I1, z1, r, Or.inr ⟨k0, hr⟩, Or.inr ⟨fun A' => by rw [r0]; simp, rfl⟩⟩
    · refine ⟨0, F, zM_e rfl (Nat.le_of_ble_eq_true rfl) (fun kz Q hQ => X11_judge_0 hX ⟨_, aC, fun _ => ⟨_, rfl, zc, _, hkd, fun _ => ⟨x, F, m1, fun y => absurd y (by omega), fun _ => hQ⟩, fun y => absurd kk1 y⟩, fun y => absurd (by simp) y⟩), ff, I1, z1, r, Or.inr ⟨k0, hr⟩, Or.inr ⟨fun A' => by rw [r0]; simp, rfl⟩⟩
    · have gA : gok (E 3) (E 4) A' := stR_gok (R := sR s) (B := (c : Int)) hP hW h2 (fun b hb => (hC.2.2.2 b (by omega)).2.1) (by rw [← r0]; exact hr)
      obtain ⟨y, E', g1, g2, g3, g4, g5⟩ := fin F A' ff I1 z1 hA gA
      refine ⟨y, E', zM_e rfl (Nat.le_of_ble_eq_true rfl) (fun kz Q hQ => X11_judge_0 hX ⟨_, aC, fun _ => ⟨_, rfl, zc, _, hkd, fun _ => ⟨x, F, m1, fun _ => g5 kz Q hQ, fun y => absurd x0 y⟩, fun y => absurd kk1 y⟩, fun y => absurd (by simp) y⟩), g1, g2, g3, r, Or.inr ⟨k0, hr⟩, Or.inl ⟨A', r0, g4⟩⟩
/-! the reference -/
theorem isWork_ok {c : Nat} {A B : List zLt} (hM : zK zMt d G) (hc : c < 150) (hA : rwM E c A) (hB : rowW E B) : ∃ x : Int, zM zm_X12_isWork [zR 50, zI (c : Int)] (d, G, E) (some (zI x)) (d, G, E) ∧ (x = 1 ∧ B = A ∨ x = 0 ∧ B ≠ A) := by
  have b24 := hB.1
  have B6 := hB.2.1
  have a61 := hA.1
  have A6 := hA.2.1
  have d72 := (zM_21 hM).2.2
  have d58 := (zM_7 hM).2.2
  have out : ∀ l : Nat, B ≠ A → l ≤ B.length → ∃ x : Int, zgo zm_X12_isWork 21 [(0, zR 50), (1, zI (c : Int)), (2, zI 0), (3, zI (l : Int))] [] (d, G, E) (some (zI x)) (d, G, E) ∧ (x = 1 ∧ B = A ∨ x = 0 ∧ B ≠ A) := fun l hne _ => ⟨0, fun kz Q hQ => X12_isWork_21 hM ⟨fun _ => ⟨Or.inl rfl, hQ⟩, fun _ => ⟨fun _ => ⟨Or.inl rfl, hQ⟩, fun y => absurd rfl y⟩⟩, Or.inr ⟨rfl, hne⟩⟩
  by_cases hl : B.length = A.length
  case neg =>
    obtain ⟨x, z, hx⟩ := out 0 (fun q => hl (by rw [q])) (by omega)
    exact ⟨x, zM_go rfl (Nat.le_of_ble_eq_true rfl) (fun kz Q hQ => X12_isWork_0 hM ⟨⟨by omega, by omega⟩, fun _ => z kz Q hQ, fun y => absurd (by omega) y⟩), hx⟩
  have go : ∀ (m l : Nat), l + m = B.length → (∀ k : Nat, k < l → lit B k = lit A k) → ∃ x : Int, zgo zm_X12_isWork 21 [(0, zR 50), (1, zI (c : Int)), (2, zI 1), (3, zI (l : Int))] [] (d, G, E) (some (zI x)) (d, G, E) ∧ (x = 1 ∧ B = A ∨ x = 0 ∧ B ≠ A) := by
    intro m
    induction m with
    | zero =>
      intro l hl' hq
      exact ⟨1, fun kz Q hQ => X12_isWork_21 hM ⟨fun _ => ⟨Or.inr rfl, hQ⟩, fun y => absurd (by omega) y⟩, Or.inl ⟨rfl, lit_ext hl (fun k hk => hq k (by omega))⟩⟩
    | succ m ih =>
      intro l hl' hq
      have hlB : l < B.length := by omega
      obtain ⟨w1, w2, w3, w4, w5⟩ := hB.2.2 l hlB
      obtain ⟨v1, v2, v3, v4, v5⟩ := hA.2.2 l (by omega)
      have en : ((l + 1 : Nat) : Int) = (l : Int) + 1 := by omega
      by_cases q1 : (lit B l).1 = (lit A l).1
      case neg =>
        obtain ⟨x, z, hx⟩ := out (l + 1) (fun q => q1 (by rw [q])) (by omega)
        rw [en] at z
        exact ⟨x, fun kz Q hQ => X12_isWork_21 hM ⟨fun y => absurd y (by omega), fun _ => ⟨fun y => absurd y (by decide), fun _ => ⟨zin_of (by omega) (by omega), zin_of (by omega) (by omega), ⟨by omega, by omega⟩, ⟨by omega, by omega⟩, fun _ => ⟨zin_of (by omega) (by omega), z kz Q hQ⟩, fun y => absurd (by rw [w2, v2]; exact q1) y⟩⟩⟩, hx⟩
      by_cases q2 : (lit B l).2.length = (lit A l).2.length
      case neg =>
        obtain ⟨x, z, hx⟩ := out (l + 1) (fun q => q2 (by rw [q])) (by omega)
        rw [en] at z
        exact ⟨x, fun kz Q hQ => X12_isWork_21 hM ⟨fun y => absurd y (by omega), fun _ => ⟨fun y => absurd y (by decide), fun _ => ⟨zin_of (by omega) (by omega), zin_of (by omega) (by omega), ⟨by omega, by omega⟩, ⟨by omega, by omega⟩, fun y => absurd (by rw [w2, v2]; exact q1) y, fun _ => ⟨⟨by omega, by omega⟩, ⟨by omega, by omega⟩, fun _ => ⟨zin_of (by omega) (by omega), z kz Q hQ⟩, fun y => absurd (by rw [w1, v1]; omega) y⟩⟩⟩⟩, hx⟩
      obtain ⟨x1, m1, hx1⟩ := isLike_ok (E := E) (d := d) (G := G) (a := 72) (b := 58) (n := 180) (m := 27000) (i := 30 * (l : Int)) (j := 30 * (6 * (c : Int) + l)) (t := (lit B l).2.length) hM d72 rfl d58 rfl (by omega) (by omega) (by decide) (by omega) (by omega) (by decide)
      have lw := lk_word (v := (lit B l).2) (w := (lit A l).2) q2 w5 v5
      rw [lw] at hx1
      have pre : ∀ (kz : Nat × Nat) (Q : Option zV → zH → Prop), (x1 = 0 → Z zm_X12_isWork kz Q 21 [(0, zR 50), (1, zI (c : Int)), (2, zI 0), (3, zI (((l : Int) + 1)))] [] (d, G, E)) ∧ (¬ (x1 = 0) → Z zm_X12_isWork kz Q 21 [(0, zR 50), (1, zI (c : Int)), (2, zI 1), (3, zI (((l : Int) + 1)))] [] (d, G, E)) → Z zm_X12_isWork kz Q 21 [(0, zR 50), (1, zI (c : Int)), (2, zI 1), (3, zI (l : Int))] [] (d, G, E) := fun kz Q hz => X12_isWork_21 hM ⟨fun y => absurd y (by omega), fun _ => ⟨fun y => absurd y (by decide), fun _ => ⟨zin_of (by omega) (by omega), zin_of (by omega) (by omega), ⟨by omega, by omega⟩, ⟨by omega, by omega⟩, fun y => absurd (by rw [w2, v2]; exact q1) y, fun _ => ⟨⟨by omega, by omega⟩, ⟨by omega, by omega⟩, fun y => absurd (by rw [w1, v1]; omega) y, fun _ => ⟨zin_of (by omega) (by omega), zin_of (by omega) (by omega), ⟨by omega, by omega⟩, x1, by rw [v1, ← q2]; exact m1, fun q => ⟨zin_of (by omega) (by omega), hz.1 q⟩, fun q => ⟨zin_of (by omega) (by omega), hz.2 q⟩⟩⟩⟩⟩⟩
      rcases hx1 with ⟨x11, e⟩ | ⟨x10, e⟩
      · obtain ⟨x, z, hx⟩ := ih (l + 1) (by omega) (fun k hk => by
          by_cases ek : k = l
          · rw [ek]; exact Prod.ext q1 e
          · exact hq k (by omega))
        rw [en] at z
        exact ⟨x, fun kz Q hQ => pre kz Q ⟨fun q => absurd q (by omega), fun _ => z kz Q hQ⟩, hx⟩
      · obtain ⟨x, z, hx⟩ := out (l + 1) (fun q => e (by rw [q])) (by omega)
        rw [en] at z
        exact ⟨x, fun kz Q hQ => pre kz Q ⟨fun _ => z kz Q hQ, fun q => absurd x10 q⟩, hx⟩
  obtain ⟨x, z, hx⟩ := go B.length 0 (by omega) (fun k hk => by omega)
  exact ⟨x, zM_go rfl (Nat.le_of_ble_eq_true rfl) (fun kz Q hQ => X12_isWork_0 hM ⟨⟨by omega, by omega⟩, fun y => absurd (by omega) y, fun _ => z kz Q hQ⟩), hx⟩
/-- what was given is laid on the work again -/
theorem layBack_ok {c : Nat} {B : List zLt} (hM : zK zMt d G) (hK : c < 150) (h24 : E 50 24 = B.length) (hB : rowF E 65 66 67 (6 * (c : Int)) B) (h64 : E 64 c = 1) : ∃ E' : Nat → Int → Int, zgo zm_X12_makesAgain 26 [(0, zR 50), (1, zI (c : Int)), (3, zI 0)] [] (d, G, E) (some (zI 1)) (d, G, E') ∧ fz [72, 73, 74] E E' ∧ rowW E' B := by
  have b6 := hB.1
  let inv : (Nat → Int → Int) → Nat → Nat → Prop := fun F l k => fz [72, 73, 74] E F ∧ (∀ l' : Nat, l' < l → l' < B.length → F 73 l' = (lit B l').2.length ∧ F 74 l' = (lit B l').1 ∧ ∀ k' : Nat, k' < (lit B l').2.length → F 72 (30 * (l' : Int) + k') = (lit B l').2.getD k' 0) ∧ (0 < k → F 73 l = (lit B l).2.length ∧ F 74 l = (lit B l).1) ∧ (∀ k' : Nat, k' + 1 < k → F 72 (30 * (l : Int) + k') = (lit B l).2.getD k' 0)
  have outer : ∀ (m l : Nat) (F : Nat → Int → Int), l + m = B.length → inv F l 0 → ∃ E' : Nat → Int → Int, zgo zm_X12_makesAgain 26 [(0, zR 50), (1, zI (c : Int)), (3, zI (l : Int))] [] (d, G, F) (some (zI 1)) (d, G, E') ∧ inv E' B.length 0 := by
    intro m
    induction m with
    | zero =>
      intro l F hl hi
      have e : l = B.length := by omega
      subst e
      have f24 : F 50 24 = B.length := by rw [hi.1 50 (by simp)]; exact h24
      have f64 : F 64 c = 1 := by rw [hi.1 64 (by simp)]; exact h64
      refine ⟨F, fun kz Q hQ => X12_makesAgain_26 hM ⟨fun _ => ⟨⟨by omega, by omega⟩, Or.inr f64, by rw [f64]; exact hQ⟩, fun z => absurd (by omega) z⟩, hi⟩
    | succ m ih =>
      intro l F hl hi
      have hlB : l < B.length := by omega
      obtain ⟨w1, w2, w3, w4, w5⟩ := hB.2 l hlB
      have el : ((l + 1 : Nat) : Int) = (l : Int) + 1 := by omega
      have inner : ∀ (p k : Nat) (F : Nat → Int → Int), k + p = (lit B l).2.length → inv F l (k + 1) → ∃ E' : Nat → Int → Int, zgo zm_X12_makesAgain 71 [(0, zR 50), (1, zI (c : Int)), (3, zI (l : Int)), (4, zI (k : Int))] [] (d, G, F) (some (zI 1)) (d, G, E') ∧ inv E' B.length 0 := by
        intro p
        induction p with
        | zero =>
          intro k F hk hi
          obtain ⟨g0, g5, g6, g7⟩ := hi
          have f73 : F 73 l = (lit B l).2.length := (g6 (by omega)).1
          obtain ⟨E', z, zr⟩ := ih (l + 1) F (by omega) ⟨g0, fun l' h1 h2 => by
            rcases (by omega : l' < l ∨ l' = l) with e | e
            · exact g5 l' e h2
            · subst e
              exact ⟨(g6 (by omega)).1, (g6 (by omega)).2, fun k' hk' => g7 k' (by omega)⟩, fun z => absurd z (by omega), fun k' hk' => by omega⟩
          rw [el] at z
          exact ⟨E', fun kz Q hQ => X12_makesAgain_71 hM ⟨⟨by omega, by omega⟩, fun _ => ⟨zin_of (by omega) (by omega), z kz Q hQ⟩, fun y => absurd (by omega) y⟩, zr⟩
        | succ p ih2 =>
          intro k F hk hi
          obtain ⟨g0, g5, g6, g7⟩ := hi
          have f73 : F 73 l = (lit B l).2.length := (g6 (by omega)).1
          have f65 : F 65 (30 * (6 * (c : Int) + l) + k) = (lit B l).2.getD k 0 := by rw [g0 65 (by simp), w5 k (by omega), fw_0]
          obtain ⟨E', z, zr⟩ := ih2 (k + 1) (zuE F 72 (30 * (l : Int) + k) ((lit B l).2.getD k 0)) (by omega) ⟨fz_put g0 (by simp), fun l' h1 h2 => by
            obtain ⟨x1, x2, x3⟩ := g5 l' h1 h2
            have x30 := (hB.2 l' h2).2.2.2.1
            exact ⟨by rw [zuE_ne (by decide)]; exact x1, by rw [zuE_ne (by decide)]; exact x2, fun k' hk' => by rw [zuE_ix (by omega)]; exact x3 k' hk'⟩, fun _ => by rw [zuE_ne (by decide), zuE_ne (by decide)]; exact g6 (by omega), fun k' hk' => by
            rcases (by omega : k' = k ∨ k' + 1 < k + 1) with e | e
            · subst e; exact zuE_same
            · rw [zuE_ix (by omega)]; exact g7 k' e⟩
          have ek : ((k + 1 : Nat) : Int) = (k : Int) + 1 := by omega
          rw [ek] at z
          exact ⟨E', fun kz Q hQ => X12_makesAgain_71 hM ⟨⟨by omega, by omega⟩, fun y => absurd y (by omega), fun _ => ⟨zin_of (by omega) (by omega), zin_of (by omega) (by omega), zin_of (by omega) (by omega), zin_of (by omega) (by omega), zin_of (by omega) (by omega), zin_of (by omega) (by omega), ⟨by omega, by omega⟩, ⟨by omega, by omega⟩, fun H h => ⟨zin_of (by omega) (by omega), by rw [h, f65]; exact z kz Q hQ⟩⟩⟩, zr⟩
      obtain ⟨g0, g5, g6, g7⟩ := hi
      have f24 : F 50 24 = B.length := by rw [g0 50 (by simp)]; exact h24
      have f66 : F 66 (6 * (c : Int) + l) = (lit B l).2.length := by rw [g0 66 (by simp)]; exact w1
      have f67 : F 67 (6 * (c : Int) + l) = (lit B l).1 := by rw [g0 67 (by simp)]; exact w2
      obtain ⟨E', z, zr⟩ := inner (lit B l).2.length 0 (zuE (zuE F 73 l ((lit B l).2.length)) 74 l ((lit B l).1)) (by omega) ⟨fz_put (fz_put g0 (by simp)) (by simp), fun l' h1 h2 => by
        obtain ⟨x1, x2, x3⟩ := g5 l' h1 h2
        exact ⟨(zuE_ne (by decide) _).trans ((zuE_ix (by omega)).trans x1), (zuE_ix (by omega)).trans ((zuE_ne (by decide) _).trans x2), fun k' hk' => by rw [zuE_ne (by decide), zuE_ne (by decide)]; exact x3 k' hk'⟩, fun _ => ⟨(zuE_ne (by decide) _).trans zuE_same, zuE_same⟩, fun k' hk' => by omega⟩
      refine ⟨E', fun kz Q hQ => X12_makesAgain_26 hM ⟨fun y => absurd y (by omega), fun _ => ⟨zin_of (by omega) (by omega), zin_of (by omega) (by omega), ⟨by omega, by omega⟩, ⟨by omega, by omega⟩, fun H h => ?_⟩⟩, zr⟩
      have h67 : H 67 (6 * (c : Int) + l) = (lit B l).1 := by rw [h]; exact (zuE_ne (by decide) _).trans f67
      rw [h67]
      refine ⟨zin_of (by omega) (by omega), zin_of (by omega) (by omega), ⟨by omega, by omega⟩, ⟨by omega, by omega⟩, w3, fun H2 h2 => ?_⟩
      rw [h2, h, f66]
      exact z kz Q hQ
  obtain ⟨E', z, g0, g5, _, _⟩ := outer B.length 0 E (by omega) ⟨fz_rfl, fun l' h1 => by omega, fun z => absurd z (by omega), fun k' hk' => by omega⟩
  refine ⟨E', z, g0, by rw [g0 50 (by simp)]; exact h24, b6, fun l hl => ?_⟩
  obtain ⟨x1, x2, x3⟩ := g5 l hl hl
  obtain ⟨w1, w2, w3, w4, w5⟩ := hB.2 l hl
  exact ⟨x1, x2, w3, w4, fun k hk => by rw [x3 k hk, fw_0]⟩
end TL
