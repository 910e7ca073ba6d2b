/-! ===== both sides: takesIn, order ===== -/
/-- only tools were used -/
theorem JI_sc {d : List Nat} {G : Nat → Int → Option Nat} {E E1 E2 : Nat → Int → Int} {s : zS} {g : Nat} {S1 S2 : List Nat} (h : JI d G E s g) (f1 : fz S1 E E1) (hS1 : ∀ x, x ∈ S1 → x = 5 ∨ x = 7 ∨ x = 8 ∨ (10 ≤ x ∧ x < 50)) (h54 : E1 5 4 = E 5 4) (hI : stI E1) (h19 : ∀ L : Int, 0 ≤ L → L < 40 → E1 19 L = 0) (f2 : fz S2 E1 E2) (hS2 : ∀ x, x ∈ S2 → x = 50 ∨ (72 ≤ x ∧ x < 200)) (h50 : ∀ j : Int, (j = 0 ∨ j = 4 ∨ j = 6 ∨ j = 42 ∨ j = 43 ∨ j = 44 ∨ j = 45 ∨ j = 54 ∨ j = 55 ∨ j = 57 ∨ j = 58) → E2 50 j = E1 50 j) : JI d G E2 s (g + 1) := by
  obtain ⟨hc, hm, hok, ⟨q52, q53, q54⟩, q0, hdr, htu, hfu, hpk, sg⟩ := JI_up h
  obtain ⟨⟨M, hC⟩, e17, e18, e19, e20, e15, _, _, hX, hM⟩ := hc
  obtain ⟨hD, e44, e43, e45, e42, e54, hlo⟩ := hm
  have n1 : ∀ y : Nat, y < 5 ∨ y = 9 ∨ 50 ≤ y → E1 y = E y := fun y hy => f1 y (fun q => by have := hS1 y q; omega)
  have n2 : ∀ y : Nat, y < 50 ∨ (50 < y ∧ y < 72) → E2 y = E1 y := fun y hy => f2 y (fun q => by have := hS2 y q; omega)
  have k50 : ∀ j : Int, (j = 0 ∨ j = 4 ∨ j = 6 ∨ j = 42 ∨ j = 43 ∨ j = 44 ∨ j = 45 ∨ j = 54 ∨ j = 55 ∨ j = 57 ∨ j = 58) → E2 50 j = E 50 j := fun j hj => (h50 j hj).trans (by rw [n1 50 (by omega)])
  have g2 : ∀ y : Nat, y = 0 ∨ y = 1 ∨ y = 2 ∨ y = 3 ∨ y = 4 ∨ y = 9 ∨ y = 52 ∨ y = 53 ∨ y = 54 ∨ y = 56 ∨ y = 58 → E2 y = E y := fun y hy => (n2 y (by omega)).trans (n1 y (by omega))
  have cv : CIv d G E2 s := by
    refine CIv_m (S := S2.filter (fun x => decide (50 ≤ x ∧ x < 200))) (E := E1) ?_ (fun y hy => f2 y (fun q => hy (by rw [List.mem_filter]; exact ⟨q, by have := hS2 y q; simp; omega⟩))) (fun x hx => by rw [List.mem_filter] at hx; have := hx.2; simp at this; omega)
    refine ⟨⟨M, ?_⟩, by rw [n1 0 (by omega)]; exact e17, by rw [n1 0 (by omega)]; exact e18, by rw [n1 0 (by omega)]; exact e19, by rw [n1 0 (by omega)]; exact e20, by rw [n1 0 (by omega)]; exact e15, hI, h19, hX, hM⟩
    rw [n1 3 (by omega), n1 4 (by omega)]
    exact CI_fz hC f1 (fun x hx => by have := hS1 x hx; omega) h54
  have mv : MIv E2 s := by
    refine ⟨?_, by rw [k50 44 (by simp)]; exact e44, by rw [k50 43 (by simp)]; exact e43, by rw [k50 45 (by simp)]; exact e45, by rw [k50 42 (by simp)]; exact e42, by rw [k50 54 (by simp)]; exact e54, by rw [g2 58 (by simp)]; exact hlo⟩
    rw [g2 53 (by simp), g2 54 (by simp)]
    refine MI_fz (S := S1 ++ S2) hD (fun y hy => ?_) (fun x hx => ?_) (k50 6 (by simp))
    · rw [List.mem_append, not_or] at hy
      exact (f2 y hy.2).trans (f1 y hy.1)
    · rcases List.mem_append.mp hx with q | q
      · have := hS1 x q; omega
      · have := hS2 x q; omega
  refine ⟨cv, mv, hok, ⟨?_, ?_, ?_⟩, ?_, ?_, ?_, ?_, ?_, ?_⟩
  · rw [g2 52 (by simp), g2 2 (by simp)]; exact q52
  · rw [g2 53 (by simp), g2 3 (by simp)]; exact q53
  · rw [g2 54 (by simp), g2 4 (by simp)]; exact q54
  · rw [k50 0 (by simp), g2 1 (by simp)]; exact q0
  · rw [k50 4 (by simp), g2 0 (by simp), g2 56 (by simp), g2 9 (by simp)]; exact hdr
  · rw [k50 57 (by simp), g2 0 (by simp)]; exact htu
  · rw [k50 58 (by simp), g2 0 (by simp)]; exact hfu
  · rw [k50 55 (by simp), g2 0 (by simp)]; exact hpk
  · unfold sgs at *
    rw [g2 1 (by simp), g2 2 (by simp), g2 3 (by simp), g2 4 (by simp)]; exact sg
/-- the first term of a literal -/
theorem wok1_first {P : Int → Int} {w : List Int} (hP : pok P) (h : wok1 P w) (h0 : P (fw w 0) ≠ 0) : ∃ t : Nat, tm P (fw w) 1 t ∧ 1 + t ≤ w.length := by
  have hn := nd_ge h.1
  have h16 : fw w 0 < 16 := by
    have := (h.1.2 0 hn).2
    simpa using this
  have tp := tm_parts hP h.1 h.2.1
  have p0 := hP (fw w 0) h.2.1 h16
  have l1 : 1 < w.length := by
    rcases Nat.lt_or_ge 1 w.length with q | q
    · exact q
    · have e : w.length - 1 = 0 := by omega
      rw [e] at tp
      have := (ts_pos tp).mpr rfl
      omega
  obtain ⟨m, m1, m2⟩ := tm_sub hP h.1 l1
  rw [show (0 : Int) + ((1 : Nat) : Int) = 1 by omega] at m1
  exact ⟨m, m1, m2⟩
section TG
variable {d : List Nat} {G : Nat → Int → Option Nat} {E : Nat → Int → Int}
theorem JI_takesIn {s : zS} {g : Nat} {v w : Int} (h : JI d G E s g) : ∃ (r : Int) (E1 E2 : Nat → Int → Int), zM zm_X11_takesIn [zR 0, zI v, zI w] (d, G, E) (some (zI r)) (d, G, E1) ∧ zM zm_X12_takesIn [zR 50, zI v, zI w] (d, G, E1) (some (zI r)) (d, G, E2) ∧ sc E E1 ∧ sc E E2 ∧ JI d G E2 s (g + 1) := by
  have hJ := h
  have up := JI_up h
  obtain ⟨hc, hm, ho, ⟨q52, q53, q54⟩, q0, _, _, _, _, sg⟩ := h
  obtain ⟨⟨M, hC⟩, e17, e18, e19, e20, e15, hI, h19, hX, hM⟩ := hc
  obtain ⟨hD, e44, e43, e45, e42, e54, hlo⟩ := hm
  have sC := CI_st hC
  have sM := MI_st hD
  have atO : ∀ u : Int, ∃ o : Option Nat, zM zm_X7_at [zR 5, zI u] (d, G, E) (some (zO o)) (d, G, E) := fun u => by
    by_cases hu : 0 ≤ u ∧ u < sK s
    · obtain ⟨c, rfl⟩ : ∃ c : Nat, u = c := ⟨u.toNat, by omega⟩
      exact ⟨_, at_ok hX sC (by omega)⟩
    · exact ⟨_, at_no hX sC hu⟩
  by_cases hv : 0 ≤ v ∧ v < sK s
  case neg =>
    obtain ⟨o, ho⟩ := atO w
    exact ⟨-2, E, E, zM_e rfl (Nat.le_of_ble_eq_true rfl) (fun kz Q hQ => X11_takesIn_0 hX ⟨none, at_no hX sC hv, o, ho, fun _ => hQ, fun y => absurd rfl y⟩), zM_e rfl (Nat.le_of_ble_eq_true rfl) (fun kz Q hQ => X12_takesIn_0 hM ⟨0, isClaim_n hM sM hv, fun _ => hQ, fun y => absurd rfl y⟩), sc_r, sc_r, up⟩
  obtain ⟨a, rfl⟩ : ∃ c : Nat, v = c := ⟨v.toNat, by omega⟩
  have ha : a < sK s := by omega
  by_cases hw : 0 ≤ w ∧ w < sK s
  case neg =>
    exact ⟨-2, E, E, zM_e rfl (Nat.le_of_ble_eq_true rfl) (fun kz Q hQ => X11_takesIn_0 hX ⟨_, at_ok hX sC ha, none, at_no hX sC hw, fun y => absurd y (by simp), fun _ => ⟨fun y => absurd rfl y, fun _ => hQ⟩⟩), zM_e rfl (Nat.le_of_ble_eq_true rfl) (fun kz Q hQ => X12_takesIn_0 hM ⟨1, isClaim_y hM sM ha, fun y => absurd y (by decide), fun _ => ⟨0, isClaim_n hM sM hw, fun _ => hQ, fun y => absurd rfl y⟩⟩), sc_r, sc_r, up⟩
  obtain ⟨b, rfl⟩ : ∃ c : Nat, w = c := ⟨w.toNat, by omega⟩
  have hb : b < sK s := by omega
  obtain ⟨aR, aB, _⟩ := hC.2.2.2 a ha
  obtain ⟨bR, bB, _⟩ := hC.2.2.2 b hb
  have za := (sC.2.2 a ha).2.1
  have zb := (sC.2.2 b hb).2.1
  obtain ⟨hP, hW, h2, hub, hn, hs0, hsw⟩ := sg
  have qa : 200 ≤ qn a := by unfold qn; omega
  have qb : 200 ≤ qn b := by unfold qn; omega
  obtain ⟨x, E1, m1, f1, I1, hx⟩ := takes_ok (E := E) hX za.2.2.1 zb.2.2.1 (Or.inr (by omega)) (Or.inr (by omega)) hP aR.1 bR.1 aB.1 bB.1 aB.2.1 aR.2.1 bR.2.1 hI
  have k50 : ∀ y : Nat, 50 ≤ y → y < 200 → E1 y = E y := fun y y1 y2 => f1 y (by simp only [List.mem_cons, List.not_mem_nil, or_false]; omega)
  have m0 := MIv_k (E := E) (E' := E1) ⟨hD, e44, e43, e45, e42, e54, hlo⟩ k50
  have a53 : E1 53 = E 3 := (k50 53 (by decide) (by decide)).trans q53
  have sM1 := MI_st m0.1
  obtain ⟨x', E2, m2, f2, hx'⟩ := claimTakes_ok (E := E1) hM sM1 ha hb (by rw [a53]; exact hP)
  rw [a53] at hx'
  have ex : x' = x := by
    rcases hx with ⟨p1, p2⟩ | ⟨p1, p2⟩ <;> rcases hx' with ⟨r1, r2⟩ | ⟨r1, r2⟩
    · omega
    · exact absurd p2 r2
    · exact absurd r2 p2
    · omega
  subst ex
  have x01 : x' = 0 ∨ x' = 1 := by
    rcases hx with ⟨p1, p2⟩ | ⟨p1, p2⟩
    · exact Or.inr p1
    · exact Or.inl p1
  refine ⟨x', E1, E2, zM_e rfl (Nat.le_of_ble_eq_true rfl) (fun kz Q hQ => X11_takesIn_0 hX ⟨_, at_ok hX sC ha, _, at_ok hX sC hb, fun y => absurd y (by simp), fun _ => ⟨fun _ => ⟨_, rfl, za, _, rfl, zb, x', E1, m1, fun y => ?_, fun y => ?_⟩, fun y => absurd (by simp) y⟩⟩), zM_e rfl (Nat.le_of_ble_eq_true rfl) (fun kz Q hQ => X12_takesIn_0 hM ⟨1, isClaim_y hM sM1 ha, fun y => absurd y (by decide), fun _ => ⟨1, isClaim_y hM sM1 hb, fun y => absurd y (by decide), fun _ => ⟨x', E2, m2, fun y => ?_, fun y => ?_⟩⟩⟩), sc_f f1 (by simp) (by simp), sc_t (F := E1) (sc_f f1 (by simp) (by simp)) (sc_f f2 (by simp) (by simp)), ?_⟩
  · rw [y] at hQ; exact hQ
  · rw [show x' = 1 by omega] at hQ; exact hQ
  · rw [y] at hQ; exact hQ
  · rw [show x' = 1 by omega] at hQ; exact hQ
  · exact JI_sc hJ f1 (by simp) (by rw [f1 5 (by simp)]) I1 (by rw [f1 19 (by simp)]; exact h19) f2 (by simp) (fun j _ => by rw [f2 50 (by simp)])
theorem JI_order {s : zS} {g : Nat} {v i w j : Int} (h : JI d G E s g) : ∃ (r : Int) (E1 E2 : Nat → Int → Int), zM zm_X11_order [zR 0, zI v, zI i, zI w, zI j] (d, G, E) (some (zI r)) (d, G, E1) ∧ zM zm_X12_order [zR 50, zI v, zI i, zI w, zI j] (d, G, E1) (some (zI r)) (d, G, E2) ∧ sc E E1 ∧ sc E E2 ∧ JI d G E2 s (g + 1) := by
  have hJ := h
  have up := JI_up h
  obtain ⟨hc, hm, ho, ⟨q52, q53, q54⟩, q0, _, _, _, _, sg⟩ := h
  obtain ⟨⟨M, hC⟩, e17, e18, e19, e20, e15, hI, h19, hX, hM⟩ := hc
  obtain ⟨hD, e44, e43, e45, e42, e54, hlo⟩ := hm
  have sC := CI_st hC
  have sM := MI_st hD
  have atO : ∀ u : Int, ∃ o : Option Nat, zM zm_X7_at [zR 5, zI u] (d, G, E) (some (zO o)) (d, G, E) := fun u => by
    by_cases hu : 0 ≤ u ∧ u < sK s
    · obtain ⟨c, rfl⟩ : ∃ c : Nat, u = c := ⟨u.toNat, by omega⟩
      exact ⟨_, at_ok hX sC (by omega)⟩
    · exact ⟨_, at_no hX sC hu⟩
  by_cases hv : 0 ≤ v ∧ v < sK s
  case neg =>
    obtain ⟨o, ho⟩ := atO w
    exact ⟨-2, E, E, zM_e rfl (Nat.le_of_ble_eq_true rfl) (fun kz Q hQ => X11_order_0 hX ⟨none, at_no hX sC hv, o, ho, fun _ => hQ, fun y => absurd rfl y⟩), zM_e rfl (Nat.le_of_ble_eq_true rfl) (fun kz Q hQ => X12_order_0 hM ⟨0, isClaim_n hM sM hv, fun _ => hQ, fun y => absurd rfl y⟩), sc_r, sc_r, up⟩
  obtain ⟨a, rfl⟩ : ∃ c : Nat, v = c := ⟨v.toNat, by omega⟩
  have ha : a < sK s := by omega
  by_cases hw : 0 ≤ w ∧ w < sK s
  case neg =>
    exact ⟨-2, E, E, zM_e rfl (Nat.le_of_ble_eq_true rfl) (fun kz Q hQ => X11_order_0 hX ⟨_, at_ok hX sC ha, none, at_no hX sC hw, fun y => absurd y (by simp), fun _ => ⟨fun _ => hQ, fun y => absurd rfl y⟩⟩), zM_e rfl (Nat.le_of_ble_eq_true rfl) (fun kz Q hQ => X12_order_0 hM ⟨1, isClaim_y hM sM ha, fun y => absurd y (by decide), fun _ => ⟨0, isClaim_n hM sM hw, fun _ => hQ, fun y => absurd rfl y⟩⟩), sc_r, sc_r, up⟩
  obtain ⟨b, rfl⟩ : ∃ c : Nat, w = c := ⟨w.toNat, by omega⟩
  have hb : b < sK s := by omega
  have hK2 := hD.2.1
  obtain ⟨aR, aB, _⟩ := hC.2.2.2 a ha
  obtain ⟨bR, bB, _⟩ := hC.2.2.2 b hb
  have mA := hD.2.2 a ha
  have mB := hD.2.2 b hb
  have za := (sC.2.2 a ha).2.1
  have zb := (sC.2.2 b hb).2.1
  obtain ⟨hP, hW, h2, hub, hn, hs0, hsw⟩ := sg
  have qa : 200 ≤ qn a := by unfold qn; omega
  have qb : 200 ≤ qn b := by unfold qn; omega
  have A6 := aR.1.2.1
  have B6 := bR.1.2.1
  have hhA := has_ok (E := E) hX za.2.2.1 aR.1 i
  have hhB := has_ok (E := E) hX zb.2.2.1 bR.1 j
  have ilA := isLiteral_ok (E := E) (v := i) hM sM ha
  have ilB := isLiteral_ok (E := E) (v := j) hM sM hb
  have ica := isClaim_y (E := E) hM sM ha
  have icb := isClaim_y (E := E) hM sM hb
  by_cases hi : 0 ≤ i ∧ i < ((sR s a).length : Int)
  case neg =>
    rw [if_neg hi] at hhA
    rw [if_neg (by omega)] at ilA
    exact ⟨-2, E, E, zM_e rfl (Nat.le_of_ble_eq_true rfl) (fun kz Q hQ => X11_order_0 hX ⟨_, at_ok hX sC ha, _, at_ok hX sC hb, fun y => absurd y (by simp), fun _ => ⟨fun y => absurd y (by simp), fun _ => ⟨_, rfl, za, 0, hhA, fun _ => hQ, fun y => absurd rfl y⟩⟩⟩), zM_e rfl (Nat.le_of_ble_eq_true rfl) (fun kz Q hQ => X12_order_0 hM ⟨1, ica, fun y => absurd y (by decide), fun _ => ⟨1, icb, fun y => absurd y (by decide), fun _ => ⟨0, ilA, fun _ => hQ, fun y => absurd rfl y⟩⟩⟩), sc_r, sc_r, up⟩
  rw [if_pos hi] at hhA
  rw [if_pos (by omega)] at ilA
  by_cases hj : 0 ≤ j ∧ j < ((sR s b).length : Int)
  case neg =>
    rw [if_neg hj] at hhB
    rw [if_neg (by omega)] at ilB
    exact ⟨-2, E, E, zM_e rfl (Nat.le_of_ble_eq_true rfl) (fun kz Q hQ => X11_order_0 hX ⟨_, at_ok hX sC ha, _, at_ok hX sC hb, fun y => absurd y (by simp), fun _ => ⟨fun y => absurd y (by simp), fun _ => ⟨_, rfl, za, 1, hhA, fun y => absurd y (by decide), fun _ => ⟨_, rfl, zb, 0, hhB, fun y => absurd rfl y, fun _ => hQ⟩⟩⟩⟩), zM_e rfl (Nat.le_of_ble_eq_true rfl) (fun kz Q hQ => X12_order_0 hM ⟨1, ica, fun y => absurd y (by decide), fun _ => ⟨1, icb, fun y => absurd y (by decide), fun _ => ⟨1, ilA, fun y => absurd y (by decide), fun _ => ⟨0, ilB, fun y => absurd rfl y, fun _ => hQ⟩⟩⟩⟩), sc_r, sc_r, up⟩
  rw [if_pos hj] at hhB
  rw [if_pos (by omega)] at ilB
  obtain ⟨l, rfl⟩ : ∃ c : Nat, i = c := ⟨i.toNat, by omega⟩
  obtain ⟨m, rfl⟩ : ∃ c : Nat, j = c := ⟨j.toNat, by omega⟩
  have hl : l < (sR s a).length := by omega
  have hmB : m < (sR s b).length := by omega
  have wA := aB.1 l hl
  have wB := bB.1 m hmB
  -- where they lie
  obtain ⟨_, _, lA, vA⟩ := aR.1.2.2.2 l hl
  obtain ⟨_, _, lB, vB⟩ := bR.1.2.2.2 m hmB
  obtain ⟨_, _, _, _, uA⟩ := mA.1.2.2 l hl
  obtain ⟨_, _, _, _, uB⟩ := mB.1.2.2 m hmB
  have stA := aR.1.2.2.1 l (by omega)
  have stB := bR.1.2.2.1 m (by omega)
  have soA := rowC_le aR.1 (l := l + 1) (by omega)
  have soB := rowC_le bR.1 (l := m + 1) (by omega)
  simp only [offs] at soA soB
  generalize eA : (lit (sR s a) l).2 = A at *
  generalize eB : (lit (sR s b) m).2 = B at *
  have nA := nd_ge wA.1
  have nB := nd_ge wB.1
  have cA : ∀ k : Nat, k < A.length → E (qn a + 1 + 1) ((offs (sR s a) l : Int) + k) = fw A k := fun k hk => by rw [fw_nat]; exact vA k hk
  have cB : ∀ k : Nat, k < B.length → E (qn b + 1 + 1) ((offs (sR s b) m : Int) + k) = fw B k := fun k hk => by rw [fw_nat]; exact vB k hk
  have dA : ∀ k : Nat, k < A.length → E 58 (30 * (6 * (a : Int) + l) + k) = fw A k := fun k hk => by
    have := uA k hk
    rw [show (0 : Int) + (k : Int) = (k : Int) by omega] at this
    exact this
  have dB : ∀ k : Nat, k < B.length → E 58 (30 * (6 * (b : Int) + m) + k) = fw B k := fun k hk => by
    have := uB k hk
    rw [show (0 : Int) + (k : Int) = (k : Int) by omega] at this
    exact this
  have hA16 : 0 ≤ fw A 0 ∧ fw A 0 < 16 := ⟨wA.2.1, by have := (wA.1.2 0 nA).2; simpa using this⟩
  have hB16 : 0 ≤ fw B 0 ∧ fw B 0 < 16 := ⟨wB.2.1, by have := (wB.1.2 0 nB).2; simpa using this⟩
  have cA0 : E (qn a + 1 + 1) (offs (sR s a) l : Int) = fw A 0 := by
    have := cA 0 nA
    simpa using this
  have cB0 : E (qn b + 1 + 1) (offs (sR s b) m : Int) = fw B 0 := by
    have := cB 0 nB
    simpa using this
  have dA0 : ∀ F : Nat → Int → Int, F 58 = E 58 → F 58 (30 * (6 * (a : Int) + l)) = fw A 0 := fun F hF => by
    have := dA 0 nA
    rw [hF]
    simpa using this
  have dB0 : ∀ F : Nat → Int → Int, F 58 = E 58 → F 58 (30 * (6 * (b : Int) + m)) = fw B 0 := fun F hF => by
    have := dB 0 nB
    rw [hF]
    simpa using this
  have pA := partsOf_ok (E := E) (d := d) (G := G) hX (fw A 0) hA16.2
  have pB := partsOf_ok (E := E) (d := d) (G := G) hX (fw B 0) hB16.2
  rw [if_neg (by omega)] at pA pB
  have toA : ∀ (kz : Nat × Nat) (Q : Option zV → zH → Prop), (E 3 (fw A 0) = 0 → Q (some (zI ((-2)))) (d, G, E)) ∧ (¬ (E 3 (fw A 0) = 0) → ((0 : Int) ≤ (E ((qn b + 1) + 2) m) ∧ (E ((qn b + 1) + 2) m) < (180 : Int)) ∧ ∃ x_31, zM zm_X8_partsOf [zR 1, zI ((E ((qn b + 1) + 1) (E ((qn b + 1) + 2) m)))] (d, G, E) (some (zI x_31)) (d, G, E) ∧ (x_31 ≠ 0 → zin ((E ((qn a + 1) + 2) l) + 1) ∧ zin ((E ((qn b + 1) + 2) m) + 1) ∧ ∃ x_37 E_38, zM zm_X6_compare [zR 18, zR ((qn a + 1) + 1), zI (((E ((qn a + 1) + 2) l) + 1)), zR ((qn b + 1) + 1), zI (((E ((qn b + 1) + 2) m) + 1))] (d, G, E) (some (zI x_37)) (d, G, E_38) ∧ Q (some (zI x_37)) (d, G, E_38)) ∧ (¬ (x_31 ≠ 0) → Q (some (zI ((-2)))) (d, G, E))) → Z zm_X11_order kz Q 0 (zent 0 [zR 0, zI (a : Int), zI (l : Int), zI (b : Int), zI (m : Int)]) [] (d, G, E) := fun kz Q hz => by
    refine X11_order_0 hX ⟨_, at_ok hX sC ha, _, at_ok hX sC hb, fun y => absurd y (by simp), fun _ => ⟨fun y => absurd y (by simp), fun _ => ⟨_, rfl, za, 1, hhA, fun y => absurd y (by decide), fun _ => ⟨_, rfl, zb, 1, hhB, fun _ => ⟨⟨by omega, by omega⟩, ⟨by omega, by omega⟩, ?_, E 3 (fw A 0), ?_, hz⟩, fun y => absurd (by decide) y⟩⟩⟩⟩
    · rw [stA]; exact ⟨by omega, by omega⟩
    · rw [stA, cA0]; exact pA
  have toB : ∀ (F : Nat → Int → Int) (kz : Nat × Nat) (Q : Option zV → zH → Prop), F 58 = E 58 → F 53 = E 3 → F 61 = E 61 → F 50 = E 50 → (E 3 (fw A 0) = 0 → Q (some (zI ((-2)))) (d, G, F)) ∧ (¬ (E 3 (fw A 0) = 0) → (E 3 (fw B 0) ≠ 0 → ∃ x_31, zM zm_X12_areLike [zR 50, zR 58, zI (((30 * ((6 * (a : Int)) + l)) + 1)), zR 58, zI (((30 * ((6 * (b : Int)) + m)) + 1))] (d, G, F) (some (zI x_31)) (d, G, F) ∧ (x_31 = 0 → ∃ x_37 E_38, zM zm_X12_isGreater [zR 50, zR 58, zI (((30 * ((6 * (a : Int)) + l)) + 1)), zR 58, zI (((30 * ((6 * (b : Int)) + m)) + 1))] (d, G, F) (some (zI x_37)) (d, G, E_38) ∧ (x_37 = 0 → ∃ x_44 E_45, zM zm_X12_isGreater [zR 50, zR 58, zI (((30 * ((6 * (b : Int)) + m)) + 1)), zR 58, zI (((30 * ((6 * (a : Int)) + l)) + 1))] (d, G, E_38) (some (zI x_44)) (d, G, E_45) ∧ (x_44 = 0 → Q (some (zI 0)) (d, G, E_45)) ∧ (¬ (x_44 = 0) → Q (some (zI ((-1)))) (d, G, E_45))) ∧ (¬ (x_37 = 0) → Q (some (zI 1)) (d, G, E_38))) ∧ (¬ (x_31 = 0) → Q (some (zI 2)) (d, G, F))) ∧ (¬ (E 3 (fw B 0) ≠ 0) → Q (some (zI ((-2)))) (d, G, F))) → Z zm_X12_order kz Q 0 (zent 0 [zR 50, zI (a : Int), zI (l : Int), zI (b : Int), zI (m : Int)]) [] (d, G, F) := fun F kz Q g58 g53 g61 g50 hz => by
    have i1 : ∀ c : Nat, c < sK s → zM zm_X12_isClaim [zR 50, zI (c : Int)] (d, G, F) (some (zI 1)) (d, G, F) := fun c hc => by
      have h1 : F 50 6 = sK s := by rw [g50]; exact hD.1
      exact zM_e rfl (Nat.le_of_ble_eq_true rfl) (fun kz Q hQ => X12_isClaim_0 hM ⟨zin_of (by omega) (by omega), 1, inY hM ⟨by omega, by omega⟩, Or.inr rfl, hQ⟩)
    have i2 : ∀ c k : Nat, c < sK s → k < (sR s c).length → zM zm_X12_isLiteral [zR 50, zI (c : Int), zI (k : Int)] (d, G, F) (some (zI 1)) (d, G, F) := fun c k hc hk => by
      have h1 : F 61 c = (sR s c).length := by rw [g61]; exact (hD.2.2 c hc).1.1
      have h6 := (hD.2.2 c hc).1.2.1
      exact zM_e rfl (Nat.le_of_ble_eq_true rfl) (fun kz Q hQ => X12_isLiteral_0 hM ⟨⟨by omega, by omega⟩, zin_of (by omega) (by omega), 1, inY hM ⟨by omega, by omega⟩, Or.inr rfl, hQ⟩)
    refine X12_order_0 hM ⟨1, i1 a ha, fun y => absurd y (by decide), fun _ => ⟨1, i1 b hb, fun y => absurd y (by decide), fun _ => ⟨1, i2 a l ha hl, fun y => absurd y (by decide), fun _ => ⟨1, i2 b m hb hmB, fun _ => ⟨zin_of (by omega) (by omega), zin_of (by omega) (by omega), zin_of (by omega) (by omega), zin_of (by omega) (by omega), zin_of (by omega) (by omega), zin_of (by omega) (by omega), ⟨by omega, by omega⟩, ?_, fun y => ?_, fun y => ⟨⟨by omega, by omega⟩, ?_, fun y2 => ⟨zin_of (by omega) (by omega), zin_of (by omega) (by omega), ?_⟩, fun y2 => ?_⟩⟩, fun y => absurd (by decide) y⟩⟩⟩⟩
    · rw [dA0 F g58]; exact hA16
    · rw [dA0 F g58, g53] at y; exact hz.1 y
    · rw [dB0 F g58]; exact hB16
    · rw [dA0 F g58, g53] at y
      rw [dB0 F g58, g53] at y2
      obtain ⟨x1, m1, z1, z2⟩ := (hz.2 y).1 y2
      refine ⟨x1, m1, fun q => ⟨zin_of (by omega) (by omega), zin_of (by omega) (by omega), ?_⟩, z2⟩
      obtain ⟨x2, F2, m2, z3, z4⟩ := z1 q
      exact ⟨x2, F2, m2, fun q2 => ⟨zin_of (by omega) (by omega), zin_of (by omega) (by omega), z3 q2⟩, z4⟩
    · rw [dA0 F g58, g53] at y
      rw [dB0 F g58, g53] at y2
      exact (hz.2 y).2 y2
  by_cases zA : E 3 (fw A 0) = 0
  · exact ⟨-2, E, E, zM_e rfl (Nat.le_of_ble_eq_true rfl) (fun kz Q hQ => toA kz Q ⟨fun _ => hQ, fun y => absurd zA y⟩), zM_e rfl (Nat.le_of_ble_eq_true rfl) (fun kz Q hQ => toB E kz Q rfl q53 rfl rfl ⟨fun _ => hQ, fun y => absurd zA y⟩), sc_r, sc_r, up⟩
  have hsB : (0 : Int) ≤ (E ((qn b + 1) + 2) m) ∧ (E ((qn b + 1) + 2) m) < (180 : Int) := by rw [stB]; exact ⟨by omega, by omega⟩
  have mpB : zM zm_X8_partsOf [zR 1, zI ((E ((qn b + 1) + 1) (E ((qn b + 1) + 2) m)))] (d, G, E) (some (zI (E 3 (fw B 0)))) (d, G, E) := by rw [stB, cB0]; exact pB
  by_cases zB : E 3 (fw B 0) = 0
  · exact ⟨-2, E, E, zM_e rfl (Nat.le_of_ble_eq_true rfl) (fun kz Q hQ => toA kz Q ⟨fun y => absurd y zA, fun _ => ⟨hsB, _, mpB, fun y => absurd zB y, fun _ => hQ⟩⟩), zM_e rfl (Nat.le_of_ble_eq_true rfl) (fun kz Q hQ => toB E kz Q rfl q53 rfl rfl ⟨fun y => absurd y zA, fun _ => ⟨fun y => absurd zB y, fun _ => hQ⟩⟩), sc_r, sc_r, up⟩
  obtain ⟨t, tA, tlA⟩ := wok1_first hP wA zA
  obtain ⟨u, tB, tlB⟩ := wok1_first hP wB zB
  -- the four places
  have lA1 : lk (fw A) 1 (E (qn a + 1 + 1)) ((offs (sR s a) l : Int) + 1) t := fun k hk => by
    have := cA (k + 1) (by omega)
    rw [show (offs (sR s a) l : Int) + 1 + (k : Int) = (offs (sR s a) l : Int) + ((k + 1 : Nat) : Int) by omega, this, show (1 : Int) + (k : Int) = ((k + 1 : Nat) : Int) by omega]
  have lB1 : lk (fw B) 1 (E (qn b + 1 + 1)) ((offs (sR s b) m : Int) + 1) u := fun k hk => by
    have := cB (k + 1) (by omega)
    rw [show (offs (sR s b) m : Int) + 1 + (k : Int) = (offs (sR s b) m : Int) + ((k + 1 : Nat) : Int) by omega, this, show (1 : Int) + (k : Int) = ((k + 1 : Nat) : Int) by omega]
  have lA2 : lk (fw A) 1 (E 58) (30 * (6 * (a : Int) + l) + 1) t := fun k hk => by
    have := dA (k + 1) (by omega)
    rw [show 30 * (6 * (a : Int) + l) + 1 + (k : Int) = 30 * (6 * (a : Int) + l) + ((k + 1 : Nat) : Int) by omega, this, show (1 : Int) + (k : Int) = ((k + 1 : Nat) : Int) by omega]
  have lB2 : lk (fw B) 1 (E 58) (30 * (6 * (b : Int) + m) + 1) u := fun k hk => by
    have := dB (k + 1) (by omega)
    rw [show 30 * (6 * (b : Int) + m) + 1 + (k : Int) = 30 * (6 * (b : Int) + m) + ((k + 1 : Nat) : Int) by omega, this, show (1 : Int) + (k : Int) = ((k + 1 : Nat) : Int) by omega]
  have tA1 : tm (E 3) (E (qn a + 1 + 1)) ((offs (sR s a) l : Int) + 1) t := tm_congr tA lA1
  have tB1 : tm (E 3) (E (qn b + 1 + 1)) ((offs (sR s b) m : Int) + 1) u := tm_congr tB lB1
  have tA2 : tm (E 3) (E 58) (30 * (6 * (a : Int) + l) + 1) t := tm_congr tA lA2
  have tB2 : tm (E 3) (E 58) (30 * (6 * (b : Int) + m) + 1) u := tm_congr tB lB2
  have loA : ∀ k : Nat, k < t → -40 ≤ fw A (1 + (k : Int)) := fun k hk => by
    have := wA.2.2 (k + 1) (by omega)
    rw [show (1 : Int) + (k : Int) = ((k + 1 : Nat) : Int) by omega]; exact this
  have loB : ∀ k : Nat, k < u → -40 ≤ fw B (1 + (k : Int)) := fun k hk => by
    have := wB.2.2 (k + 1) (by omega)
    rw [show (1 : Int) + (k : Int) = ((k + 1 : Nat) : Int) by omega]; exact this
  have zra := za.2.2.1
  have zrb := zb.2.2.1
  obtain ⟨r, E1, m1, f1, z1, r1, r2⟩ := compare_ok (E := E) (a := qn a + 1 + 1) (b := qn b + 1 + 1) (n := 180) (m := 180) (N := 1000) hX zra.2.2.2.2.2.1 zra.2.1 zrb.2.2.2.2.2.1 zrb.2.1 hP hW (by decide) (by decide) (by omega) (by omega) (by omega) (by omega) (by omega) (by decide) h19 tA1 tB1 (by omega) (by omega) (by omega) (by omega) (fun k hk => by rw [← lA1 k hk]; exact loA k hk) (fun k hk => by rw [← lB1 k hk]; exact loB k hk)
  have g1 : ∀ y : Nat, y ≠ 18 → y ≠ 19 → E1 y = E y := fun y y1 y2 => f1 y (by simp only [List.mem_cons, List.not_mem_nil, or_false]; omega)
  have b58 : E1 58 = E 58 := g1 58 (by decide) (by decide)
  have b53 : E1 53 = E 3 := (g1 53 (by decide) (by decide)).trans q53
  have b54 : E1 54 = E 4 := (g1 54 (by decide) (by decide)).trans q54
  have d58 := (zM_7 hM).2.2
  obtain ⟨y1, n1, k1⟩ := areLike_ok (E := E1) (d := d) (G := G) (a := 58) (b := 58) (n := 27000) (m := 27000) (i := 30 * (6 * (a : Int) + l) + 1) (j := 30 * (6 * (b : Int) + m) + 1) (t := t) (u := u) hM d58 rfl d58 rfl (by rw [b53]; exact hP) (by rw [b53, b58]; exact tA2) (by rw [b53, b58]; exact tB2) (by omega) (by omega) (by decide) (by omega) (by omega) (by decide)
  obtain ⟨y2, E2, n2, f2, k2⟩ := isGreater_ok (E := E1) (d := d) (G := G) (a := 58) (b := 58) (n := 27000) (m := 27000) (N := 1000) (i := 30 * (6 * (a : Int) + l) + 1) (j := 30 * (6 * (b : Int) + m) + 1) (t := t) (u := u) hM d58 rfl d58 rfl (by rw [b53]; exact hP) (by rw [b54]; exact hW) (by decide) (by decide) (by decide) (by decide) (by omega) (by rw [b53, b58]; exact tA2) (by rw [b53, b58]; exact tB2) (by omega) (by omega) (by omega) (by omega) (fun k hk => by rw [b58, ← lA2 k hk]; exact loA k hk) (fun k hk => by rw [b58, ← lB2 k hk]; exact loB k hk)
  have c58 : E2 58 = E 58 := (f2 58 (by simp)).trans b58
  have c53 : E2 53 = E 3 := (f2 53 (by simp)).trans b53
  have c54 : E2 54 = E 4 := (f2 54 (by simp)).trans b54
  obtain ⟨y3, E3, n3, f3, k3⟩ := isGreater_ok (E := E2) (d := d) (G := G) (a := 58) (b := 58) (n := 27000) (m := 27000) (N := 1000) (i := 30 * (6 * (b : Int) + m) + 1) (j := 30 * (6 * (a : Int) + l) + 1) (t := u) (u := t) hM d58 rfl d58 rfl (by rw [c53]; exact hP) (by rw [c54]; exact hW) (by decide) (by decide) (by decide) (by decide) (by omega) (by rw [c53, c58]; exact tB2) (by rw [c53, c58]; exact tA2) (by omega) (by omega) (by omega) (by omega) (fun k hk => by rw [c58, ← lB2 k hk]; exact loB k hk) (fun k hk => by rw [c58, ← lA2 k hk]; exact loA k hk)
  rw [b58] at k1
  rw [b53, b54, b58] at k2
  rw [c53, c54, c58] at k3
  have gA : kg (E 3) (E 4) (E (qn a + 1 + 1)) (E (qn b + 1 + 1)) 1000 ((offs (sR s a) l : Int) + 1) ((offs (sR s b) m : Int) + 1) ↔ kg (E 3) (E 4) (E 58) (E 58) 1000 (30 * (6 * (a : Int) + l) + 1) (30 * (6 * (b : Int) + m) + 1) :=
    (kg_iff hP tA tB lA1 lB1).symm.trans (kg_iff hP tA tB lA2 lB2)
  have gB : kg (E 3) (E 4) (E (qn b + 1 + 1)) (E (qn a + 1 + 1)) 1000 ((offs (sR s b) m : Int) + 1) ((offs (sR s a) l : Int) + 1) ↔ kg (E 3) (E 4) (E 58) (E 58) 1000 (30 * (6 * (b : Int) + m) + 1) (30 * (6 * (a : Int) + l) + 1) :=
    (kg_iff hP tB tA lB1 lA1).symm.trans (kg_iff hP tB tA lB2 lA2)
  have gL : lk (E (qn a + 1 + 1)) ((offs (sR s a) l : Int) + 1) (E (qn b + 1 + 1)) ((offs (sR s b) m : Int) + 1) t ↔ lk (E 58) (30 * (6 * (a : Int) + l) + 1) (E 58) (30 * (6 * (b : Int) + m) + 1) t := by
    have key : ∀ (f g f' g' : Int → Int) (x y x' y' : Int), lk (fw A) 1 f x t → lk (fw B) 1 g y u → lk (fw A) 1 f' x' t → lk (fw B) 1 g' y' u → tm (E 3) f x t → tm (E 3) g y u → lk f x g y t → lk f' x' g' y' t := fun f g f' g' x y x' y' p1 p2 p3 p4 tf tg hl => by
      have tt : t = u := tm_uniq (tm_congr tf hl) tg
      intro k hk
      rw [← p3 k hk, ← p4 k (by omega), p1 k hk, p2 k (by omega)]
      exact hl k hk
    exact ⟨key _ _ _ _ _ _ _ _ lA1 lB1 lA2 lB2 tA1 tB1, key _ _ _ _ _ _ _ _ lA2 lB2 lA1 lB1 tA2 tB2⟩
  have cls : zM zm_X11_order [zR 0, zI (a : Int), zI (l : Int), zI (b : Int), zI (m : Int)] (d, G, E) (some (zI r)) (d, G, E1) := zM_e rfl (Nat.le_of_ble_eq_true rfl) (fun kz Q hQ => toA kz Q ⟨fun y => absurd y zA, fun _ => ⟨hsB, _, mpB, fun _ => ⟨by rw [stA]; exact zin_of (by omega) (by omega), by rw [stB]; exact zin_of (by omega) (by omega), r, E1, by rw [stA, stB]; exact m1, hQ⟩, fun y => absurd zB y⟩⟩)
  have I1 : stI E1 := by
    unfold stI at *
    rw [g1 20 (by decide) (by decide), g1 22 (by decide) (by decide), g1 23 (by decide) (by decide)]; exact hI
  have fin : ∀ E2 : Nat → Int → Int, fz [76] E1 E2 → JI d G E2 s (g + 1) := fun E2 f2 => JI_sc hJ f1 (by simp) (by rw [f1 5 (by simp)]) I1 z1 f2 (by simp) (fun j _ => by rw [f2 50 (by simp)])
  have s1' : sc E E1 := sc_f f1 (by simp) (by simp)
  have sf : ∀ E2 : Nat → Int → Int, fz [76] E1 E2 → sc E E2 := fun E2 f2 => sc_t s1' (sc_f f2 (by simp) (by simp))
  have tb := fun kz Q hz => toB E1 kz Q b58 b53 (g1 61 (by decide) (by decide)) (g1 50 (by decide) (by decide)) ⟨fun y => absurd y zA, fun _ => ⟨fun _ => hz, fun y => absurd zB y⟩⟩
  rcases k1 with ⟨s1, s2⟩ | ⟨s1, s2⟩
  · refine ⟨r, E1, E1, cls, zM_e rfl (Nat.le_of_ble_eq_true rfl) (fun kz Q hQ => tb kz Q ⟨y1, n1, fun y => absurd y (by omega), fun _ => ?_⟩), s1', sf E1 fz_rfl, fin E1 fz_rfl⟩
    rw [r1 (gL.mpr s2)] at hQ; exact hQ
  obtain ⟨c1, c2, c3⟩ := r2 (fun q => s2 (gL.mp q))
  rcases k2 with ⟨s3, s4⟩ | ⟨s3, s4⟩
  · refine ⟨r, E1, E2, cls, zM_e rfl (Nat.le_of_ble_eq_true rfl) (fun kz Q hQ => tb kz Q ⟨y1, n1, fun _ => ⟨y2, E2, n2, fun y => absurd y (by omega), fun _ => ?_⟩, fun y => absurd s1 y⟩), s1', sf E2 f2, fin E2 f2⟩
    rw [c1.mpr ⟨trivial, gA.mpr s4⟩] at hQ; exact hQ
  have e1 : r ≠ 1 := fun q => s4 (gA.mp (c1.mp q).2)
  rcases k3 with ⟨s5, s6⟩ | ⟨s5, s6⟩
  · refine ⟨r, E1, E3, cls, zM_e rfl (Nat.le_of_ble_eq_true rfl) (fun kz Q hQ => tb kz Q ⟨y1, n1, fun _ => ⟨y2, E2, n2, fun _ => ⟨y3, E3, n3, fun y => absurd y (by omega), fun _ => ?_⟩, fun y => absurd s3 y⟩, fun y => absurd s1 y⟩), s1', sf E3 (fz_trans f2 f3), fin E3 (fz_trans f2 f3)⟩
    rw [c2.mpr ⟨trivial, gB.mpr s6⟩] at hQ; exact hQ
  · have e2 : r ≠ -1 := fun q => s6 (gB.mp (c2.mp q).2)
    refine ⟨r, E1, E3, cls, zM_e rfl (Nat.le_of_ble_eq_true rfl) (fun kz Q hQ => tb kz Q ⟨y1, n1, fun _ => ⟨y2, E2, n2, fun _ => ⟨y3, E3, n3, fun _ => ?_, fun y => absurd s5 y⟩, fun y => absurd s3 y⟩, fun y => absurd s1 y⟩), s1', sf E3 (fz_trans f2 f3), fin E3 (fz_trans f2 f3)⟩
    rw [show r = 0 by omega] at hQ; exact hQ
end TG
