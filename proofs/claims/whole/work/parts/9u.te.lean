/-! ===== both sides: step, forge ===== -/
/-- a claim's numbers as both sides have them -/
theorem two_n {n m : Nat} {l : Nat} (h1 : l = 4 * n) (h2 : l = 4 * m) : n = m := by omega
section TE
variable {d : List Nat} {G : Nat → Int → Option Nat} {E : Nat → Int → Int}
theorem hasRw_y {q : Nat} {n : Nat} {v : Int} (hX : zK zXt d G) (hc : zCk d G q) (hn : E q 4 = n) (hn8 : n ≤ 8) (hv : 11 ≤ v ∧ v ≤ 10 + 4 * (n : Int)) : zM zm_X1_hasRewritingNumber [zR q, zI v] (d, G, E) (some (zI 1)) (d, G, E) := by
  refine zM_e rfl (Nat.le_of_ble_eq_true rfl) (fun kz Q hQ => X1_hasRewritingNumber_0 hX hc ⟨fun y => absurd y (by omega), fun _ => ?_⟩)
  rw [hn]
  exact ⟨zin_of (by omega) (by omega), zin_of (by omega) (by omega), fun y => absurd y (by omega), fun _ => hQ⟩
theorem hasRw_n {q : Nat} {n : Nat} {v : Int} (hX : zK zXt d G) (hc : zCk d G q) (hn : E q 4 = n) (hn8 : n ≤ 8) (hv : ¬ (11 ≤ v ∧ v ≤ 10 + 4 * (n : Int))) : zM zm_X1_hasRewritingNumber [zR q, zI v] (d, G, E) (some (zI 0)) (d, G, E) := by
  refine zM_e rfl (Nat.le_of_ble_eq_true rfl) (fun kz Q hQ => X1_hasRewritingNumber_0 hX hc ⟨fun _ => hQ, fun y => ?_⟩)
  rw [hn]
  exact ⟨zin_of (by omega) (by omega), zin_of (by omega) (by omega), fun _ => hQ, fun y => absurd (by omega) hv⟩
theorem step_2 {s : zS} {g : Nat} (h : JJ d G E s g) (v w : Int) : ∃ r : Int, zM zm_X11_step [zR 0, zI v, zI w] (d, G, E) (some (zI r)) (d, G, E) ∧ zM zm_X12_step [zR 50, zI v, zI w] (d, G, E) (some (zI r)) (d, G, E) ∧ ∀ c : Nat, v = c → c < sK s → w = 10 → r = E 70 c ∧ 0 ≤ r ∧ r ≤ 8 := by
  obtain ⟨⟨hc, hm, ho, ⟨q52, q53, q54⟩, q0, _, _, _, _, sg⟩, hn⟩ := h
  obtain ⟨⟨M, hC⟩, e17, e18, e19, e20, e15, hI, h19, hX, hM⟩ := hc
  obtain ⟨hD, e44, e43, e45, e42, e54, hlo⟩ := hm
  have sC := CI_st hC
  have sM := MI_st hD
  by_cases hv : 0 ≤ v ∧ v < sK s
  case neg =>
    exact ⟨-2147483648, zM_e rfl (Nat.le_of_ble_eq_true rfl) (fun kz Q hQ => X11_step_0 hX ⟨none, at_no hX sC hv, fun _ => hQ, fun y => absurd rfl y⟩), zM_e rfl (Nat.le_of_ble_eq_true rfl) (fun kz Q hQ => X12_step_0 hM ⟨0, isClaim_n hM sM hv, fun y => absurd rfl y, fun _ => hQ⟩), fun c h1 h2 _ => absurd ⟨by omega, by omega⟩ hv⟩
  obtain ⟨c, rfl⟩ : ∃ c : Nat, v = c := ⟨v.toNat, by omega⟩
  have hcK : c < sK s := by omega
  have hK2 := hD.2.1
  obtain ⟨cR, rB, cD⟩ := hC.2.2.2 c hcK
  obtain ⟨_, _, _, _, _, n7, nE, nk0, nk4, ⟨n, tl, n8, en⟩, tE, _⟩ := cD
  obtain ⟨_, _, _, _, _, mE, _, _, ⟨n', tl', _, en'⟩, tM, _, _⟩ := hD.2.2 c hcK
  have en2 : n = n' := two_n tl tl'
  subst en2
  have zc := (sC.2.2 c hcK).2.1
  have aC := at_ok (E := E) hX sC hcK
  have iM := isClaim_y (E := E) hM sM hcK
  have k0 : E 69 (7 * (c : Int)) = (sN s c).getD 0 0 := by
    have := mE 0 (by decide)
    rw [show 7 * (c : Int) + ((0 : Nat) : Int) = 7 * (c : Int) by omega] at this
    exact this
  by_cases w0 : w = 0
  · subst w0
    refine ⟨(sN s c).getD 0 0, zM_e rfl (Nat.le_of_ble_eq_true rfl) (fun kz Q hQ => X11_step_0 hX ⟨_, aC, fun y => absurd y (by simp), fun _ => ⟨fun _ => ⟨fun y => absurd y (by decide), fun _ => ⟨_, rfl, zc, ⟨by omega, by omega⟩, ?_⟩⟩, fun y => absurd (by decide) y⟩⟩), zM_e rfl (Nat.le_of_ble_eq_true rfl) (fun kz Q hQ => X12_step_0 hM ⟨1, iM, fun _ => ⟨fun y => absurd rfl y, fun _ => ⟨zin_of (by omega) (by omega), ⟨by omega, by omega⟩, ?_⟩⟩, fun y => absurd (by decide) y⟩), fun _ _ _ q => absurd q (by decide)⟩
    · have := nE 0 (by decide)
      rw [show ((0 : Nat) : Int) = 0 from rfl] at this
      rw [this]; exact hQ
    · rw [k0]; exact hQ
  by_cases w6 : 1 ≤ w ∧ w ≤ 6
  · obtain ⟨k, rfl⟩ : ∃ k : Nat, w = k := ⟨w.toNat, by omega⟩
    have hk7 : k < 7 := by omega
    have hN := hasNumber_ok (E := E) (d := d) (G := G) (k := (sN s c).getD 0 0) (v := (k : Int)) hM ⟨nk0, nk4⟩
    refine ⟨(sN s c).getD k 0, zM_e rfl (Nat.le_of_ble_eq_true rfl) (fun kz Q hQ => X11_step_0 hX ⟨_, aC, fun y => absurd y (by simp), fun _ => ⟨fun _ => ⟨fun y => absurd y (by omega), fun _ => ⟨_, rfl, zc, ⟨by omega, by omega⟩, ?_⟩⟩, fun y => absurd (by omega) y⟩⟩), zM_e rfl (Nat.le_of_ble_eq_true rfl) (fun kz Q hQ => X12_step_0 hM ⟨1, iM, fun _ => ⟨fun _ => ⟨1, inY hM w6, fun y => absurd y (by decide), fun _ => ⟨zin_of (by omega) (by omega), ⟨by omega, by omega⟩, _, by rw [k0]; exact hN, fun y => ?_, fun y => ⟨zin_of (by omega) (by omega), zin_of (by omega) (by omega), ⟨by omega, by omega⟩, ?_⟩⟩⟩, fun y => absurd w0 y⟩, fun y => absurd (by decide) y⟩), fun _ _ _ q => absurd q (by omega)⟩
    · rw [nE k hk7]; exact hQ
    · have hlt : nbr ((sN s c).getD 0 0) < (k : Int) := by
        by_cases q : 1 ≤ (k : Int) ∧ (k : Int) ≤ nbr ((sN s c).getD 0 0)
        · rw [if_pos q] at y; omega
        · omega
      rw [hn c hcK k hk7 hlt] at hQ
      exact hQ
    · rw [mE k hk7]; exact hQ
  by_cases w10 : w = 10
  · subst w10
    refine ⟨(n : Int), zM_e rfl (Nat.le_of_ble_eq_true rfl) (fun kz Q hQ => X11_step_0 hX ⟨_, aC, fun y => absurd y (by simp), fun _ => ⟨fun _ => ⟨fun _ => ⟨fun y => absurd rfl y, fun _ => ⟨_, rfl, zc, by rw [en]; exact hQ⟩⟩, fun y => absurd (by decide) y⟩, fun y => absurd (by decide) y⟩⟩), zM_e rfl (Nat.le_of_ble_eq_true rfl) (fun kz Q hQ => X12_step_0 hM ⟨1, iM, fun _ => ⟨fun _ => ⟨0, inN hM w6, fun _ => ⟨fun y => absurd rfl y, fun _ => ⟨⟨by omega, by omega⟩, by rw [en']; exact hQ⟩⟩, fun y => absurd rfl y⟩, fun y => absurd w0 y⟩, fun y => absurd (by decide) y⟩), fun c' h1 _ _ => ⟨?_, by omega, by omega⟩⟩
    rw [← en', show c = c' by omega]
  by_cases wr : 11 ≤ w ∧ w ≤ 10 + 4 * (n : Int)
  · obtain ⟨k, hk⟩ : ∃ k : Nat, w = 11 + (k : Int) := ⟨(w - 11).toNat, by omega⟩
    have hkl : k < (sW s c).length := by omega
    refine ⟨(sW s c).getD k 0, zM_e rfl (Nat.le_of_ble_eq_true rfl) (fun kz Q hQ => X11_step_0 hX ⟨_, aC, fun y => absurd y (by simp), fun _ => ⟨fun _ => ⟨fun _ => ⟨fun _ => ⟨_, rfl, zc, 1, hasRw_y hX zc en n8 wr, fun y => absurd y (by decide), fun _ => ⟨zin_of (by omega) (by omega), ⟨by omega, by omega⟩, ?_⟩⟩, fun y => absurd w10 y⟩, fun y => absurd (by omega) y⟩, fun y => absurd (by omega) y⟩⟩), zM_e rfl (Nat.le_of_ble_eq_true rfl) (fun kz Q hQ => X12_step_0 hM ⟨1, iM, fun _ => ⟨fun _ => ⟨0, inN hM w6, fun _ => ⟨fun _ => ⟨⟨by omega, by omega⟩, ?_, ?_, 1, ?_, fun y => absurd y (by decide), fun _ => ⟨zin_of (by omega) (by omega), zin_of (by omega) (by omega), zin_of (by omega) (by omega), ⟨by omega, by omega⟩, ?_⟩⟩, fun y => absurd w10 y⟩, fun y => absurd rfl y⟩, fun y => absurd w0 y⟩, fun y => absurd (by decide) y⟩), fun _ _ _ q => absurd q w10⟩
    · rw [show w - 11 = (k : Int) by omega, tE k hkl]; exact hQ
    · rw [en']; exact zin_of (by omega) (by omega)
    · rw [en']; exact zin_of (by omega) (by omega)
    · rw [en']; exact inY hM wr
    · rw [show 32 * (c : Int) + w - 11 = 32 * (c : Int) + (k : Int) by omega, tM k hkl]; exact hQ
  · refine ⟨-2147483648, zM_e rfl (Nat.le_of_ble_eq_true rfl) (fun kz Q hQ => X11_step_0 hX ⟨_, aC, fun y => absurd y (by simp), fun _ => ⟨fun y0 => ⟨fun _ => ⟨fun _ => ⟨_, rfl, zc, 0, hasRw_n hX zc en n8 wr, fun _ => hQ, fun y => absurd rfl y⟩, fun y => absurd w10 y⟩, fun y => absurd (by omega) w6⟩, fun _ => hQ⟩⟩), zM_e rfl (Nat.le_of_ble_eq_true rfl) (fun kz Q hQ => X12_step_0 hM ⟨1, iM, fun _ => ⟨fun _ => ⟨0, inN hM w6, fun _ => ⟨fun _ => ⟨⟨by omega, by omega⟩, ?_, ?_, 0, ?_, fun _ => hQ, fun y => absurd rfl y⟩, fun y => absurd w10 y⟩, fun y => absurd rfl y⟩, fun y => absurd w0 y⟩, fun y => absurd (by decide) y⟩), fun _ _ _ q => absurd q w10⟩
    · rw [en']; exact zin_of (by omega) (by omega)
    · rw [en']; exact zin_of (by omega) (by omega)
    · rw [en']; exact inN hM wr
/-- a number of a claim's step, and one of its rewritings, as forged -/
def sFn (s : zS) (c : Nat) (k : Nat) (v : Int) : zS := (sK s, sR s, sT s, sB s, zup (sN s) c ((sN s c).set k v), sW s, sS s, sAo s, sLo s, sMa s, sRw s, sEn s)
def sFw (s : zS) (c : Nat) (k : Nat) (v : Int) : zS := (sK s, sR s, sT s, sB s, sN s, zup (sW s) c ((sW s c).set k v), sS s, sAo s, sLo s, sMa s, sRw s, sEn s)
theorem getD_set {l : List Int} {k i : Nat} {v : Int} (hk : k < l.length) : (l.set k v).getD i 0 = if i = k then v else l.getD i 0 := by
  rw [List.getD_eq_getElem?_getD, List.getElem?_set]
  by_cases e : i = k
  · rw [if_pos e, e, if_pos rfl, if_pos hk]; rfl
  · rw [if_neg e, if_neg (fun q => e q.symm), List.getD_eq_getElem?_getD]
theorem clA_56 {E' : Nat → Int → Int} {P W : Int → Int} {c : Nat} {B : List zLt} {s a : Int} {nm tt nm' tt' : List Int} {S : List zLt} (h : clA d E P W c B s a nm tt S) (h0 : ∀ y : Nat, 200 ≤ y → y ≠ qn c + 5 → y ≠ qn c + 6 → E' y = E y) (l7 : nm'.length = 7) (k0 : nm'.getD 0 0 = nm.getD 0 0) (hn : ∀ i : Nat, i < 7 → E' (qn c + 5) i = nm'.getD i 0) (tl : tt'.length = tt.length) (ht : ∀ i : Nat, i < tt'.length → E' (qn c + 6) i = tt'.getD i 0) : clA d E' P W c B s a nm' tt' S := by
  obtain ⟨⟨b1, b2, b3, b4, b5, b6⟩, rk, d1, d2, d3, d4, d5, d6, d7, d8, d9, d10, d11, d12⟩ := h
  have q2 : 200 ≤ qn c := by unfold qn; omega
  have e0 : E' (qn c) = E (qn c) := h0 _ (by omega) (by omega) (by omega)
  have e1 : E' (qn c + 1) = E (qn c + 1) := h0 _ (by omega) (by omega) (by omega)
  have rc : ∀ (r : Nat) (A : List zLt), r = qn c + 1 ∨ r = qn c + 7 → rowC E r A → rowC E' r A := fun r A hr hA => by
    unfold rowC at *
    rw [h0 r (by omega) (by omega) (by omega), h0 (r + 1) (by omega) (by omega) (by omega), h0 (r + 2) (by omega) (by omega) (by omega), h0 (r + 3) (by omega) (by omega) (by omega)]; exact hA
  refine ⟨⟨rc _ _ (Or.inl rfl) b1, by rw [e1]; exact b2, by rw [e0]; exact b3, by rw [e0]; exact b4, by rw [e0]; exact b5, by rw [e0]; exact b6⟩, rk, by rw [e0]; exact d1, by rw [e0]; exact d2, by rw [e0]; exact d3, by rw [e0]; exact d4, by rw [e0]; exact d5, l7, hn, by rw [k0]; exact d8, by rw [k0]; exact d9, by rw [e0, tl]; exact d10, ht, fun z => ?_⟩
  rw [k0] at z
  obtain ⟨w1, w2, w3⟩ := d12 z
  exact ⟨w1, rc _ _ (Or.inr rfl) w2, w3⟩
theorem MD_56 {E' : Nat → Int → Int} {P W : Int → Int} {c : Nat} {B : List zLt} {s a : Int} {nm tt nm' tt' : List Int} {S : List zLt} (h : MD E P W c B s a nm tt S) (h0 : ∀ y : Nat, y ≠ 69 → y ≠ 71 → E' y = E y) (l7 : nm'.length = 7) (k0 : nm'.getD 0 0 = nm.getD 0 0) (hn : ∀ i : Nat, i < 7 → E' 69 (7 * (c : Int) + i) = nm'.getD i 0) (tl : tt'.length = tt.length) (ht : ∀ i : Nat, i < tt'.length → E' 71 (32 * (c : Int) + i) = tt'.getD i 0) : MD E' P W c B s a nm' tt' S := by
  obtain ⟨⟨w1, w2⟩, rk, u1, u2, n1, n2, n3, n4, n5, n6, n7, n8⟩ := h
  have f : fz [69, 71] E E' := fun y hy => h0 y (fun q => hy (by simp [q])) (fun q => hy (by simp [q]))
  refine ⟨⟨by rw [f 61 (by simp)]; exact w1, rowF_fz w2 f (by simp) (by simp) (by simp)⟩, rk, by rw [f 62 (by simp)]; exact u1, by rw [f 63 (by simp)]; exact u2, l7, hn, by rw [k0]; exact n3, by rw [k0]; exact n4, by rw [f 70 (by simp), tl]; exact n5, ht, by rw [f 64 (by simp), k0]; exact n7, fun z => ?_⟩
  rw [k0] at z
  obtain ⟨v1, v2, v3⟩ := n8 z
  exact ⟨by rw [f 68 (by simp)]; exact v1, rowF_fz v2 f (by simp) (by simp) (by simp), v3⟩
/-- only a claim's numbers have changed -/
theorem JI_56 {s s' : zS} {g c : Nat} {E2 : Nat → Int → Int} (h : JI d G E s g) (hcK : c < sK s) (hk : sK s' = sK s ∧ sR s' = sR s ∧ sT s' = sT s ∧ sB s' = sB s ∧ sS s' = sS s ∧ sAo s' = sAo s ∧ sLo s' = sLo s ∧ sMa s' = sMa s ∧ sRw s' = sRw s ∧ sEn s' = sEn s) (ho : ∀ c' : Nat, c' ≠ c → sN s' c' = sN s c' ∧ sW s' c' = sW s c') (h0 : ∀ y : Nat, y ≠ 69 → y ≠ 71 → y ≠ qn c + 5 → y ≠ qn c + 6 → E2 y = E y) (l7 : (sN s' c).length = (sN s c).length) (k0 : (sN s' c).getD 0 0 = (sN s c).getD 0 0) (hn : ∀ i : Nat, i < 7 → E2 (qn c + 5) i = (sN s' c).getD i 0 ∧ E2 69 (7 * (c : Int) + i) = (sN s' c).getD i 0) (tl : (sW s' c).length = (sW s c).length) (ht : ∀ i : Nat, i < (sW s' c).length → E2 (qn c + 6) i = (sW s' c).getD i 0 ∧ E2 71 (32 * (c : Int) + i) = (sW s' c).getD i 0) (h69 : ∀ i : Int, i < 7 * (c : Int) ∨ 7 * (c : Int) + 7 ≤ i → E2 69 i = E 69 i) (h71 : ∀ i : Int, i < 32 * (c : Int) ∨ 32 * (c : Int) + 32 ≤ i → E2 71 i = E 71 i) : JI d G E2 s' (g + 1) := by
  obtain ⟨hc, hm, hok, ⟨q52, q53, q54⟩, q0, hdr, htu, hfu, hpk, sg⟩ := JI_up h
  obtain ⟨⟨M, hC⟩, e17, e18, e19, e20, e15, hI, h19, hX, hM⟩ := hc
  obtain ⟨hD, e44, e43, e45, e42, e54, hlo⟩ := hm
  obtain ⟨K, R, T, B, N, W, S, Ao, Lo, Ma, Rw, En⟩ := s
  obtain ⟨K', R', T', B', N', W', S', Ao', Lo', Ma', Rw', En'⟩ := s'
  obtain ⟨z1, z2, z3, z4, z5, z6, z7, z8, z9, z10⟩ := hk
  have z1' : K' = K := z1
  have z2' : R' = R := z2
  have z3' : T' = T := z3
  have z4' : B' = B := z4
  have z5' : S' = S := z5
  have z6' : Ao' = Ao := z6
  have z7' : Lo' = Lo := z7
  have z8' : Ma' = Ma := z8
  have z9' : Rw' = Rw := z9
  have z10' : En' = En := z10
  subst z1'; subst z2'; subst z3'; subst z4'; subst z5'; subst z6'; subst z7'; subst z8'; subst z9'; subst z10'
  have n : ∀ y : Nat, y < 200 → y ≠ 69 → y ≠ 71 → E2 y = E y := fun y y0 y1 y2 => h0 y y1 y2 (by unfold qn; omega) (by unfold qn; omega)
  have cv : CIv d G E2 (K', R', T', B', N', W', S', Ao', Lo', Ma', Rw', En') := by
    refine ⟨⟨M, hC.1, hC.2.1, by rw [n 5 (by decide) (by decide) (by decide)]; exact hC.2.2.1, fun c' hc' => ?_⟩, by rw [n 0 (by decide) (by decide) (by decide)]; exact e17, by rw [n 0 (by decide) (by decide) (by decide)]; exact e18, by rw [n 0 (by decide) (by decide) (by decide)]; exact e19, by rw [n 0 (by decide) (by decide) (by decide)]; exact e20, by rw [n 0 (by decide) (by decide) (by decide)]; exact e15, ?_, by rw [n 19 (by decide) (by decide) (by decide)]; exact h19, hX, hM⟩
    · rw [n 3 (by decide) (by decide) (by decide), n 4 (by decide) (by decide) (by decide)]
      have cl := hC.2.2.2 c' hc'
      by_cases e : c' = c
      · subst e
        exact clA_56 cl (fun y y0 y1 y2 => h0 y (by omega) (by omega) y1 y2) (l7.trans cl.2.2.2.2.2.2.2.1) k0 (fun i hi => (hn i hi).1) tl (fun i hi => (ht i hi).1)
      · show clA d E2 (E 3) (E 4) c' (R' c') (T' c') (B' c') (N' c') (W' c') (S' c')
        rw [show N' c' = N c' from (ho c' e).1, show W' c' = W c' from (ho c' e).2]
        exact clA_up cl (fun x hx => hx) (fun j hj => h0 _ (by unfold qn; omega) (by unfold qn; omega) (by unfold qn; omega) (by unfold qn; omega))
    · unfold stI at *
      rw [n 20 (by decide) (by decide) (by decide), n 22 (by decide) (by decide) (by decide), n 23 (by decide) (by decide) (by decide)]; exact hI
  have mv : MIv E2 (K', R', T', B', N', W', S', Ao', Lo', Ma', Rw', En') := by
    refine ⟨⟨by rw [n 50 (by decide) (by decide) (by decide)]; exact hD.1, hD.2.1, fun c' hc' => ?_⟩, by rw [n 50 (by decide) (by decide) (by decide)]; exact e44, by rw [n 50 (by decide) (by decide) (by decide)]; exact e43, by rw [n 50 (by decide) (by decide) (by decide)]; exact e45, by rw [n 50 (by decide) (by decide) (by decide)]; exact e42, by rw [n 50 (by decide) (by decide) (by decide)]; exact e54, by rw [n 58 (by decide) (by decide) (by decide)]; exact hlo⟩
    rw [n 53 (by decide) (by decide) (by decide), n 54 (by decide) (by decide) (by decide)]
    have md := hD.2.2 c' hc'
    by_cases e : c' = c
    · subst e
      refine MD_agr (MD_56 (E' := fun y => if y = 69 then E2 69 else if y = 71 then E2 71 else E y) md (fun y y1 y2 => by simp [y1, y2]) (l7.trans md.2.2.2.2.1) k0 (fun i hi => (hn i hi).2) tl (fun i hi => (ht i hi).2)) ⟨?_, ?_, ?_, ?_, ?_, ?_, ?_, ?_⟩ ?_ ?_
      · intro i _ _; rw [n 58 (by decide) (by decide) (by decide), n 65 (by decide) (by decide) (by decide)]; exact ⟨rfl, rfl⟩
      · intro i _ _; rw [n 59 (by decide) (by decide) (by decide), n 60 (by decide) (by decide) (by decide), n 66 (by decide) (by decide) (by decide), n 67 (by decide) (by decide) (by decide)]; exact ⟨rfl, rfl, rfl, rfl⟩
      · intro i _ _; rfl
      · intro i _ _; rfl
      · rw [n 61 (by decide) (by decide) (by decide)]; rfl
      · rw [n 64 (by decide) (by decide) (by decide)]; rfl
      · rw [n 68 (by decide) (by decide) (by decide)]; rfl
      · rw [n 70 (by decide) (by decide) (by decide)]; rfl
      · rw [n 62 (by decide) (by decide) (by decide)]; exact md.2.2.1
      · rw [n 63 (by decide) (by decide) (by decide)]; exact md.2.2.2.1
    · show MD E2 (E 53) (E 54) c' (R' c') (T' c') (B' c') (N' c') (W' c') (S' c')
      rw [show N' c' = N c' from (ho c' e).1, show W' c' = W c' from (ho c' e).2]
      refine MD_agr md ⟨?_, ?_, ?_, ?_, ?_, ?_, ?_, ?_⟩ ?_ ?_
      · intro i _ _; rw [n 58 (by decide) (by decide) (by decide), n 65 (by decide) (by decide) (by decide)]; exact ⟨rfl, rfl⟩
      · intro i _ _; rw [n 59 (by decide) (by decide) (by decide), n 60 (by decide) (by decide) (by decide), n 66 (by decide) (by decide) (by decide), n 67 (by decide) (by decide) (by decide)]; exact ⟨rfl, rfl, rfl, rfl⟩
      · intro i _ _; exact h69 i (by omega)
      · intro i _ _; exact h71 i (by omega)
      · rw [n 61 (by decide) (by decide) (by decide)]
      · rw [n 64 (by decide) (by decide) (by decide)]
      · rw [n 68 (by decide) (by decide) (by decide)]
      · rw [n 70 (by decide) (by decide) (by decide)]
      · rw [n 62 (by decide) (by decide) (by decide)]; exact md.2.2.1
      · rw [n 63 (by decide) (by decide) (by decide)]; exact md.2.2.2.1
  have g : ∀ y : Nat, y = 0 ∨ y = 1 ∨ y = 2 ∨ y = 3 ∨ y = 4 ∨ y = 9 ∨ y = 50 ∨ y = 52 ∨ y = 53 ∨ y = 54 ∨ y = 56 → E2 y = E y := fun y hy => n y (by omega) (by omega) (by omega)
  refine ⟨cv, mv, hok, ⟨?_, ?_, ?_⟩, ?_, ?_, ?_, ?_, ?_, ?_⟩
  · rw [g 52 (by simp), g 2 (by simp)]; exact q52
  · rw [g 53 (by simp), g 3 (by simp)]; exact q53
  · rw [g 54 (by simp), g 4 (by simp)]; exact q54
  · rw [g 50 (by simp), g 1 (by simp)]; exact q0
  · rw [g 50 (by simp), g 0 (by simp), g 56 (by simp), g 9 (by simp)]; exact hdr
  · rw [g 50 (by simp), g 0 (by simp)]; exact htu
  · rw [g 50 (by simp), g 0 (by simp)]; exact hfu
  · rw [g 50 (by simp), g 0 (by simp)]; exact hpk
  · unfold sgs at *
    rw [g 1 (by simp), g 2 (by simp), g 3 (by simp), g 4 (by simp)]; exact sg
end TE
