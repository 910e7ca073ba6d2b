/-! ===== given: the reference's side ===== -/
theorem wdD_congr {f f' : Int → Int} {i : Int} {n : Nat} (h0 : f' i = f i) (h : ∀ k : Nat, k < n → f' (i + 1 + (k : Int)) = f (i + 1 + (k : Int))) : wdD f' i n = wdD f i n := by
  unfold wdD
  rw [h0]
  congr 1
  exact List.map_congr_left (fun k hk => h k (List.mem_range.mp hk))
theorem eD_congr {P S f f' : Int → Int} {N D i : Int} (h0 : 0 ≤ i) (hi : i < D) (h : ∀ j : Int, 0 ≤ j → j < D → f' j = f j) : eD P S f' N D i = eD P S f N D i := by
  unfold eD
  rw [h i h0 hi]
  exact eP_congr _ _ _ (fun j j1 j2 => h j (by omega) (by omega))
theorem rD_congr {P S f f' : Int → Int} {N D : Int} (h : ∀ j : Int, 0 ≤ j → j < D → f' j = f j) : ∀ (m : Nat) (A : List zLt) (i : Int), 0 ≤ i → rD P S f' N D m A i = rD P S f N D m A i
  | 0, A, i, _ => rfl
  | m + 1, A, i, h0 => by
    unfold rD
    by_cases c1 : D ≤ i
    · rw [if_pos c1, if_pos c1]
    rw [if_neg c1, if_neg c1, h i h0 (by omega), eD_congr h0 (by omega) h]
    by_cases c2 : A.length = 6 ∨ ¬ isS S N (hsy (f i))
    · rw [if_pos c2, if_pos c2]
    rw [if_neg c2, if_neg c2]
    by_cases c3 : eD P S f N D i < 0
    · rw [if_pos c3, if_pos c3]
    rw [if_neg c3, if_neg c3]
    obtain ⟨r1, r2, _⟩ := (eD_rng (P := P) (S := S) (f := f) (N := N) h0 (by omega : i < D)).1 (by omega)
    rw [wdD_congr (h i h0 (by omega)) (fun k hk => h _ (by omega) (by omega))]
    exact rD_congr h m _ _ (by omega)
section TB
variable {d : List Nat} {G : Nat → Int → Option Nat} {E : Nat → Int → Int}
/-- what was read is laid by -/
theorem layGiven_ok {K : Nat} {B : List zLt} (hM : zK zMt d G) (hK : K < 150) (h6 : E 50 6 = K) (hB : rowW E B) : ∃ E' : Nat → Int → Int, fz [65, 66, 67] E E' ∧ rowF E' 65 66 67 (6 * (K : Int)) B ∧ (∀ c : Nat, c ≠ K → agr E E' c) ∧ ∀ (kz : Nat × Nat) (Q : Option zV → zH → Prop), (∃ x_2 E_3, zM zm_X12_ends [zR 50, zI 0, zI 0, zI 0, zI 0, zI 0, zI 0, zI 0] (d, G, E') (some (zI x_2)) (d, G, E_3) ∧ Q (some (zI x_2)) (d, G, E_3)) → Z zm_X12_given kz Q 60 [(0, zR 50), (2, zI 0)] [] (d, G, E) := by
  have b6 := hB.2.1
  let inv : (Nat → Int → Int) → Nat → Nat → Prop := fun F l k => fz [65, 66, 67] E F ∧ (∀ i : Int, i < 6 * (K : Int) ∨ 6 * (K : Int) + 6 ≤ i → F 66 i = E 66 i ∧ F 67 i = E 67 i) ∧ (∀ i : Int, i < 180 * (K : Int) ∨ 180 * (K : Int) + 180 ≤ i → F 65 i = E 65 i) ∧ (∀ l' : Nat, l' < l → l' < B.length → F 66 (6 * (K : Int) + l') = (lit B l').2.length ∧ F 67 (6 * (K : Int) + l') = (lit B l').1 ∧ ∀ k' : Nat, k' < (lit B l').2.length → F 65 (30 * (6 * (K : Int) + l') + k') = (lit B l').2.getD k' 0) ∧ (0 < k → F 66 (6 * (K : Int) + l) = (lit B l).2.length ∧ F 67 (6 * (K : Int) + l) = (lit B l).1) ∧ (∀ k' : Nat, k' + 1 < k → F 65 (30 * (6 * (K : Int) + l) + k') = (lit B l).2.getD k' 0)
  let C : (Nat → Int → Int) → (Nat × Nat) → (Option zV → zH → Prop) → Prop := fun E' kz Q => ∃ x_2 E_3, zM zm_X12_ends [zR 50, zI 0, zI 0, zI 0, zI 0, zI 0, zI 0, zI 0] (d, G, E') (some (zI x_2)) (d, G, E_3) ∧ Q (some (zI x_2)) (d, G, E_3)
  have outer : ∀ (m l : Nat) (F : Nat → Int → Int), l + m = B.length → inv F l 0 → ∃ E' : Nat → Int → Int, (∀ kz Q, C E' kz Q → Z zm_X12_given kz Q 60 [(0, zR 50), (2, zI (l : Int))] [] (d, G, F)) ∧ inv E' B.length 0 := by
    intro m
    induction m with
    | zero =>
      intro l F hl hi
      have e : l = B.length := by omega
      subst e
      have f24 : F 50 24 = B.length := by rw [hi.1 50 (by simp)]; exact hB.1
      exact ⟨F, fun kz Q hQ => X12_given_60 hM ⟨fun _ => hQ, fun z => absurd (by omega) z⟩, hi⟩
    | succ m ih =>
      intro l F hl hi
      have hlB : l < B.length := by omega
      obtain ⟨w1, w2, w3, w4, w5⟩ := hB.2.2 l hlB
      have el : ((l + 1 : Nat) : Int) = (l : Int) + 1 := by omega
      have inner : ∀ (p k : Nat) (F : Nat → Int → Int), k + p = (lit B l).2.length → inv F l (k + 1) → ∃ E' : Nat → Int → Int, (∀ kz Q, C E' kz Q → Z zm_X12_given kz Q 110 [(0, zR 50), (2, zI (l : Int)), (3, zI (k : Int))] [] (d, G, F)) ∧ inv E' B.length 0 := by
        intro p
        induction p with
        | zero =>
          intro k F hk hi
          obtain ⟨g0, g3, g4, g5, g6, g7⟩ := hi
          have f73 : F 73 l = (lit B l).2.length := by rw [g0 73 (by simp)]; exact w1
          obtain ⟨E', z, zr⟩ := ih (l + 1) F (by omega) ⟨g0, g3, g4, fun l' h1 h2 => by
            rcases (by omega : l' < l ∨ l' = l) with e | e
            · exact g5 l' e h2
            · subst e
              exact ⟨(g6 (by omega)).1, (g6 (by omega)).2, fun k' hk' => g7 k' (by omega)⟩, fun z => absurd z (by omega), fun k' hk' => by omega⟩
          rw [el] at z
          exact ⟨E', fun kz Q hQ => X12_given_110 hM ⟨⟨by omega, by omega⟩, fun _ => ⟨zin_of (by omega) (by omega), z kz Q hQ⟩, fun y => absurd (by omega) y⟩, zr⟩
        | succ p ih2 =>
          intro k F hk hi
          obtain ⟨g0, g3, g4, g5, g6, g7⟩ := hi
          have f73 : F 73 l = (lit B l).2.length := by rw [g0 73 (by simp)]; exact w1
          have f6 : F 50 6 = K := by rw [g0 50 (by simp)]; exact h6
          have f72 : F 72 (30 * (l : Int) + k) = (lit B l).2.getD k 0 := by rw [g0 72 (by simp), w5 k (by omega), fw_0]
          obtain ⟨E', z, zr⟩ := ih2 (k + 1) (zuE F 65 (30 * (6 * (K : Int) + l) + k) ((lit B l).2.getD k 0)) (by omega) ⟨fz_put g0 (by simp), fun i hi => by rw [zuE_ne (by decide), zuE_ne (by decide)]; exact g3 i hi, fun i hi => by rw [zuE_ix (by omega)]; exact g4 i hi, fun l' h1 h2 => by
            obtain ⟨x1, x2, x3⟩ := g5 l' h1 h2
            have x30 := (hB.2.2 l' h2).2.2.2.1
            exact ⟨by rw [zuE_ne (by decide)]; exact x1, by rw [zuE_ne (by decide)]; exact x2, fun k' hk' => by rw [zuE_ix (by omega)]; exact x3 k' hk'⟩, fun _ => by rw [zuE_ne (by decide), zuE_ne (by decide)]; exact g6 (by omega), fun k' hk' => by
            rcases (by omega : k' = k ∨ k' + 1 < k + 1) with e | e
            · subst e; exact zuE_same
            · rw [zuE_ix (by omega)]; exact g7 k' e⟩
          have ek : ((k + 1 : Nat) : Int) = (k : Int) + 1 := by omega
          rw [ek] at z
          refine ⟨E', fun kz Q hQ => X12_given_110 hM ⟨⟨by omega, by omega⟩, fun y => absurd y (by omega), fun _ => ?_⟩, zr⟩
          rw [f6]
          exact ⟨zin_of (by omega) (by omega), zin_of (by omega) (by omega), zin_of (by omega) (by omega), zin_of (by omega) (by omega), zin_of (by omega) (by omega), zin_of (by omega) (by omega), ⟨by omega, by omega⟩, ⟨by omega, by omega⟩, fun H h => ⟨zin_of (by omega) (by omega), by rw [h, f72]; exact z kz Q hQ⟩⟩
      obtain ⟨g0, g3, g4, g5, g6, g7⟩ := hi
      have f24 : F 50 24 = B.length := by rw [g0 50 (by simp)]; exact hB.1
      have f6 : F 50 6 = K := by rw [g0 50 (by simp)]; exact h6
      have f73 : F 73 l = (lit B l).2.length := by rw [g0 73 (by simp)]; exact w1
      have f74 : F 74 l = (lit B l).1 := by rw [g0 74 (by simp)]; exact w2
      obtain ⟨E', z, zr⟩ := inner (lit B l).2.length 0 (zuE (zuE F 66 (6 * (K : Int) + l) ((lit B l).2.length)) 67 (6 * (K : Int) + l) ((lit B l).1)) (by omega) ⟨fz_put (fz_put g0 (by simp)) (by simp), fun i hi => ⟨(zuE_ne (by decide) _).trans ((zuE_ix (by omega)).trans (g3 i hi).1), (zuE_ix (by omega)).trans ((zuE_ne (by decide) _).trans (g3 i hi).2)⟩, fun i hi => by rw [zuE_ne (by decide), zuE_ne (by decide)]; exact g4 i hi, fun l' h1 h2 => by
        obtain ⟨x1, x2, x3⟩ := g5 l' h1 h2
        exact ⟨(zuE_ne (by decide) _).trans ((zuE_ix (by omega)).trans x1), (zuE_ix (by omega)).trans ((zuE_ne (by decide) _).trans x2), fun k' hk' => by rw [zuE_ne (by decide), zuE_ne (by decide)]; exact x3 k' hk'⟩, fun _ => ⟨(zuE_ne (by decide) _).trans zuE_same, zuE_same⟩, fun k' hk' => by omega⟩
      refine ⟨E', fun kz Q hQ => X12_given_60 hM ⟨fun y => absurd y (by omega), fun _ => ?_⟩, zr⟩
      rw [f6, f73]
      refine ⟨zin_of (by omega) (by omega), zin_of (by omega) (by omega), ⟨by omega, by omega⟩, ⟨by omega, by omega⟩, fun H h => ?_⟩
      have h74 : H 74 l = (lit B l).1 := by rw [h]; exact (zuE_ne (by decide) _).trans f74
      have h6' : H 50 6 = K := by rw [h]; exact (zuE_ne (by decide) _).trans f6
      rw [h74, h6']
      refine ⟨zin_of (by omega) (by omega), zin_of (by omega) (by omega), ⟨by omega, by omega⟩, ⟨by omega, by omega⟩, w3, fun H2 h2 => ?_⟩
      rw [h2, h]
      exact z kz Q hQ
  obtain ⟨E', z, g0, g3, g4, g5, _, _⟩ := outer B.length 0 E (by omega) ⟨fz_rfl, fun i _ => ⟨rfl, rfl⟩, fun i _ => rfl, fun l' h1 => by omega, fun z => absurd z (by omega), fun k' hk' => by omega⟩
  refine ⟨E', g0, ⟨b6, fun l hl => ?_⟩, fun c hc => ?_, z⟩
  · obtain ⟨x1, x2, x3⟩ := g5 l hl hl
    obtain ⟨w1, w2, w3, w4, w5⟩ := hB.2.2 l hl
    exact ⟨x1, x2, w3, w4, fun k hk => by rw [x3 k hk, fw_0]⟩
  · have e58 : E' 58 = E 58 := g0 58 (by simp)
    have e59 : E' 59 = E 59 := g0 59 (by simp)
    have e60 : E' 60 = E 60 := g0 60 (by simp)
    refine ⟨fun i i1 i2 => ⟨by rw [e58], g4 i (by omega)⟩, fun i i1 i2 => ?_, fun i _ _ => by rw [g0 69 (by simp)], fun i _ _ => by rw [g0 71 (by simp)], by rw [g0 61 (by simp)], by rw [g0 64 (by simp)], by rw [g0 68 (by simp)], by rw [g0 70 (by simp)]⟩
    obtain ⟨y1, y2⟩ := g3 i (by omega)
    exact ⟨by rw [e59], by rw [e60], y1, y2⟩
abbrev z7 : List Int := [0, 0, 0, 0, 0, 0, 0]
/-- what the reference's given may change -/
def gS : List Nat := [50, 58, 59, 60, 61, 62, 63, 64, 65, 66, 67, 68, 69, 70, 71, 72, 73, 74, 76, 77, 78, 80, 81, 82, 83, 84, 85, 92]
theorem givenM_ok {s : zS} {g : Nat} {A : List zLt} (hM : zK zMt d G) (hs : MIv E s) (ho : okS g s) (hg6 : g ≤ 600) (h0 : sEn s = 0) (hP : pok (E 53)) (hW : wok (E 54)) (h2 : E 53 0 = 2) (hN : E 50 0 ≤ 16 ∧ 1 ≤ E 50 0) (hS0 : E 52 0 ≠ 0) (hD : 0 ≤ E 50 4 ∧ E 50 4 ≤ 200) (hl : ∀ j : Int, 0 ≤ j → j < E 50 4 → -20 ≤ E 56 j ∧ E 56 j ≤ 3000) (hr : rD (E 53) (E 52) (E 56) (E 50 0) (E 50 4) 7 [] 0 = (-1, A)) (gA : gok (E 53) (E 54) A) :
    ∃ (r : Int) (E' : Nat → Int → Int) (s' : zS), zM zm_X12_given [zR 50] (d, G, E) (some (zI r)) (d, G, E') ∧ fz gS E E' ∧ E' 50 0 = E 50 0 ∧ E' 50 4 = 0 ∧ E' 50 55 = E 50 55 ∧ E' 50 57 = E 50 57 ∧ E' 50 58 = E 50 58 ∧ MIv E' s' ∧ ED (E 53) (E 54) s z7 A A s' r := by
  obtain ⟨hC, e44, e43, e45, e42, e54, hlo⟩ := hs
  obtain ⟨o1, o2, o3, o4, o5, o6, o7, o8⟩ := ho
  have k150 := o2 h0
  obtain ⟨F, m1, f1, j1, j56, rw1⟩ := reads_ok (E := E) (d := d) (G := G) hM hP hN hS0 hD.2 hl
  rw [hr] at m1 j56 rw1
  rw [if_pos (by rfl)] at m1
  have rA : rowW F A := rw1 rfl
  let F1 := zuE F 50 4 0
  let F2 := zuE F1 68 (sK s) (A.length)
  have q6 : F 50 6 = sK s := (j1 6 (by decide) (by decide)).trans hC.1
  have a6 : F1 50 6 = sK s := (zuE_ix (by decide)).trans q6
  have a24 : F1 50 24 = A.length := (zuE_ix (by decide)).trans rA.1
  have b6 : F2 50 6 = sK s := (zuE_ne (by decide) _).trans a6
  have f12 : fz [50, 68] F F2 := fz_put (fz_put fz_rfl (by simp)) (by simp)
  have p12 : ∀ i : Int, i ≠ 4 → F2 50 i = F 50 i := fun i hi => (zuE_ne (by decide) _).trans (zuE_ix hi)
  have z4 : F2 50 4 = 0 := (zuE_ne (by decide) _).trans zuE_same
  have rA2 : rowW F2 A := rowW_fz rA f12 (by simp) (by simp) (by simp) (p12 24 (by decide))
  obtain ⟨F3, g1, rF, ga, gz⟩ := layGiven_ok (E := F2) (d := d) (G := G) (K := sK s) (B := A) hM k150 b6 rA2
  have t53 : F3 53 = E 53 := (g1 53 (by simp)).trans ((f12 53 (by simp)).trans (f1 53 (by simp)))
  have t54 : F3 54 = E 54 := (g1 54 (by simp)).trans ((f12 54 (by simp)).trans (f1 54 (by simp)))
  have t50 : F3 50 = F2 50 := g1 50 (by simp)
  have p3 : ∀ i : Int, i ≠ 4 → i ≠ 24 → i ≠ 56 → F3 50 i = E 50 i := fun i i1 i2 i3 => by rw [t50, p12 i i1]; exact j1 i i2 i3
  have rA3 : rowW F3 A := rowW_fz rA2 g1 (by simp) (by simp) (by simp) (by rw [t50])
  have C3 : MI F3 (E 53) (E 54) (sK s) (sR s) (sT s) (sB s) (sN s) (sW s) (sS s) := by
    have C1 : MI F (E 53) (E 54) (sK s) (sR s) (sT s) (sB s) (sN s) (sW s) (sS s) := MI_fz hC f1 (by simp) (j1 6 (by decide) (by decide))
    refine ⟨by rw [t50]; exact b6, hC.2.1, fun c hc => ?_⟩
    have ag : agr F F3 c := by
      obtain ⟨x1, x2, x3, x4, x5, x6, x7, x8⟩ := ga c (by omega)
      have n : ∀ y : Nat, y ≠ 50 → y ≠ 68 → F2 y = F y := fun y y1 y2 => f12 y (by simp only [List.mem_cons, List.not_mem_nil, or_false]; omega)
      rw [n 58 (by decide) (by decide), n 65 (by decide) (by decide)] at x1
      rw [n 59 (by decide) (by decide), n 60 (by decide) (by decide), n 66 (by decide) (by decide), n 67 (by decide) (by decide)] at x2
      rw [n 69 (by decide) (by decide)] at x3
      rw [n 71 (by decide) (by decide)] at x4
      rw [n 61 (by decide) (by decide)] at x5
      rw [n 64 (by decide) (by decide)] at x6
      rw [n 70 (by decide) (by decide)] at x8
      have e68 : F2 68 (c : Int) = F 68 c := (zuE_ix (by omega)).trans (zuE_ne (by decide) _)
      exact ⟨x1, x2, x3, x4, x5, x6, x7.trans e68, x8⟩
    have md := C1.2.2 c hc
    exact MD_agr md ag (by rw [g1 62 (by simp), f12 62 (by simp)]; exact md.2.2.1) (by rw [g1 63 (by simp), f12 63 (by simp)]; exact md.2.2.2.1)
  have s68 : F3 68 (sK s) = A.length := by rw [g1 68 (by simp)]; exact zuE_same
  obtain ⟨v, y, B, t, n, E3, m3, u1, u2, u3, u4, u5, u6, u7, u8⟩ := ends_ok (E := F3) (d := d) (G := G) (K := sK s) (k := 0) (A := A) (S := A) (v1 := 0) (v2 := 0) (v3 := 0) (v4 := 0) (v5 := 0) (v6 := 0) (v7 := 0) hM (by rw [t53, t54]; exact C3) k150 (by rw [t53]; exact hP) (by rw [t54]; exact hW) (by rw [t53]; exact h2) rA3 (by rw [t53, t54]; exact gA) rfl (by omega) (fun _ => ⟨s68, rF, by rw [t53, t54]; exact gA⟩) (by rw [p3 42 (by decide) (by decide) (by decide), e42]; omega) (by rw [p3 43 (by decide) (by decide) (by decide), e43]; omega) (by rw [p3 44 (by decide) (by decide) (by decide), e44]; omega)
  rw [t53, t54] at u1 u8
  have w5 : ∀ i : Int, fsf i → i ≠ 6 → i ≠ 43 → i ≠ 44 → i ≠ 54 → E3 50 i = F3 50 i := u5
  have v53 : E3 53 = E 53 := (u4 53 (by simp)).trans t53
  have v54 : E3 54 = E 54 := (u4 54 (by simp)).trans t54
  have kf : fz gS E E3 := fz_trans (fz_mono f1 (by simp [gS])) (fz_trans (fz_mono f12 (by simp [gS])) (fz_trans (fz_mono g1 (by simp [gS])) (fz_mono u4 (by simp [gS]))))
  have lo3 : ∀ i : Int, -1000 ≤ E3 58 i := fun i => by
    rcases u7 i with z | z
    · rw [z, g1 58 (by simp), f12 58 (by simp), f1 58 (by simp)]; exact hlo i
    · omega
  have z45 : E3 50 45 = sMa s := (w5 45 (by unfold fsf; omega) (by decide) (by decide) (by decide) (by decide)).trans ((p3 45 (by decide) (by decide) (by decide)).trans e45)
  have z42 : E3 50 42 = sRw s + n := by rw [u6, p3 42 (by decide) (by decide) (by decide), e42]
  have run : zM zm_X12_given [zR 50] (d, G, E) (some (zI v)) (d, G, E3) := by
    refine zM_e rfl (Nat.le_of_ble_eq_true rfl) (fun kz Q hQ => X12_given_0 hM ⟨fun _ => ⟨fun _ => ⟨1, F, m1, fun H h => ⟨fun _ => ?_, fun y => absurd (by decide) y⟩⟩, fun y => absurd (by rw [hC.1]; omega) y⟩, fun y => absurd (by rw [e54]; exact h0) y⟩)
    have eH : H = F1 := h
    rw [eH, a6, a24]
    refine ⟨⟨by omega, by omega⟩, fun H2 h2 => ?_⟩
    have eH2 : H2 = F2 := h2
    rw [eH2]
    exact gz kz Q ⟨v, E3, m3, hQ⟩
  have q54 : F3 50 54 = sEn s := (p3 54 (by decide) (by decide) (by decide)).trans e54
  have q43 : F3 50 43 = sLo s := (p3 43 (by decide) (by decide) (by decide)).trans e43
  have q44 : F3 50 44 = sAo s := (p3 44 (by decide) (by decide) (by decide)).trans e44
  have key : ∃ s' : zS, MIv E3 s' ∧ ED (E 53) (E 54) s z7 A A s' v := by
    rcases u8 with ⟨y0, hv, t43, t44, t54', C4⟩ | ⟨y0, tr, hv, t43, t44, t54', C4⟩ | ⟨y0, tr, hv, t43, t44, t54', rB, C4⟩
    · exact ⟨(sK s, sR s, sT s, sB s, sN s, sW s, sS s, sAo s, sLo s + 1, sMa s, sRw s + n, sEn s), ⟨by rw [v53, v54]; exact C4, by rw [t44, q44], by rw [t43, q43], z45, z42, by rw [t54', q54], lo3⟩, y, B, t, n, u1, u2, u3, Or.inl ⟨y0, hv, rfl⟩⟩
    · exact ⟨(sK s, sR s, sT s, sB s, sN s, sW s, sS s, sAo s + 1, sLo s, sMa s, sRw s + n, sEn s), ⟨by rw [v53, v54]; exact C4, by rw [t44, q44], by rw [t43, q43], z45, z42, by rw [t54', q54], lo3⟩, y, B, t, n, u1, u2, u3, Or.inr (Or.inl ⟨y0, tr, hv, rfl⟩)⟩
    · exact ⟨(sK s + 1, zup (sR s) (sK s) B, zup (pst (E 53) (sR s) (sT s) B) (sK s) 0, zup (pby (E 53) (sR s) (sT s) (sB s) B (sK s)) (sK s) (-1), zup (sN s) (sK s) z7, zup (sW s) (sK s) t, zup (sS s) (sK s) A, sAo s, sLo s, sMa s, sRw s + n, if B.length = 0 then 1 else if sK s + 1 = 150 then 3 else sEn s), ⟨by rw [v53, v54]; exact C4, by rw [t44, q44], by rw [t43, q43], z45, z42, by rw [t54', q54], lo3⟩, y, B, t, n, u1, u2, u3, Or.inr (Or.inr ⟨y0, tr, hv, rfl⟩)⟩
  obtain ⟨s', k1, k2⟩ := key
  refine ⟨v, E3, s', run, kf, ?_, ?_, ?_, ?_, ?_, k1, k2⟩
  · rw [w5 0 (by unfold fsf; omega) (by decide) (by decide) (by decide) (by decide)]; exact p3 0 (by decide) (by decide) (by decide)
  · rw [w5 4 (by unfold fsf; omega) (by decide) (by decide) (by decide) (by decide), t50]; exact z4
  · rw [w5 55 (by unfold fsf; omega) (by decide) (by decide) (by decide) (by decide)]; exact p3 55 (by decide) (by decide) (by decide)
  · rw [w5 57 (by unfold fsf; omega) (by decide) (by decide) (by decide) (by decide)]; exact p3 57 (by decide) (by decide) (by decide)
  · rw [w5 58 (by unfold fsf; omega) (by decide) (by decide) (by decide) (by decide)]; exact p3 58 (by decide) (by decide) (by decide)
end TB
