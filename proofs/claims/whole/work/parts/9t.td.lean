/-! ===== both sides: asks that change nothing: claim, literal, step, count ===== -/
/-- what holds between calls -/
def JJ (d : List Nat) (G : Nat → Int → Option Nat) (E : Nat → Int → Int) (s : zS) (g : Nat) : Prop := JI d G E s g ∧ nmS s
def cnS (T : Nat → Int) (v : Int) : Nat → Int
  | 0 => 0
  | c + 1 => cnS T v c + (if T c = v then 1 else 0)
theorem cnS_le {T : Nat → Int} {v : Int} : ∀ c : Nat, 0 ≤ cnS T v c ∧ cnS T v c ≤ c
  | 0 => ⟨by simp [cnS], by simp [cnS]⟩
  | c + 1 => by
    have := cnS_le (T := T) (v := v) c
    simp only [cnS]
    split <;> omega
section TD
variable {d : List Nat} {G : Nat → Int → Option Nat} {E : Nat → Int → Int}
theorem isClaim_y {P W : Int → Int} {K c : Nat} {R : Nat → List zLt} (hM : zK zMt d G) (hs : stM E P W K R) (hc : c < K) : zM zm_X12_isClaim [zR 50, zI (c : Int)] (d, G, E) (some (zI 1)) (d, G, E) := by
  have h1 := hs.1
  have h2 := hs.2.1
  exact zM_e rfl (Nat.le_of_ble_eq_true rfl) (fun kz Q hQ => X12_isClaim_0 hM ⟨zin_of (by omega) (by omega), 1, inY hM ⟨by omega, by omega⟩, Or.inr rfl, hQ⟩)
theorem isClaim_n {P W : Int → Int} {K : Nat} {R : Nat → List zLt} {v : Int} (hM : zK zMt d G) (hs : stM E P W K R) (hv : ¬ (0 ≤ v ∧ v < K)) : zM zm_X12_isClaim [zR 50, zI v] (d, G, E) (some (zI 0)) (d, G, E) := by
  have h1 := hs.1
  have h2 := hs.2.1
  exact zM_e rfl (Nat.le_of_ble_eq_true rfl) (fun kz Q hQ => X12_isClaim_0 hM ⟨zin_of (by omega) (by omega), 0, inN hM (by omega), Or.inl rfl, hQ⟩)
theorem hasNumber_ok {k v : Int} (hM : zK zMt d G) (hk : 0 ≤ k ∧ k ≤ 4) : zM zm_X12_hasNumber [zI k, zI v] (d, G, E) (some (zI (if 1 ≤ v ∧ v ≤ nbr k then 1 else 0))) (d, G, E) := by
  have inn : ∀ a : Int, ∃ x : Int, zM zm_X12_in [zI v, zI 1, zI a] (d, G, E) (some (zI x)) (d, G, E) ∧ (x = 0 ∨ x = 1) ∧ x = if 1 ≤ v ∧ v ≤ a then 1 else 0 := fun a => by
    by_cases q : 1 ≤ v ∧ v ≤ a
    · exact ⟨1, inY hM q, Or.inr rfl, by rw [if_pos q]⟩
    · exact ⟨0, inN hM q, Or.inl rfl, by rw [if_neg q]⟩
  refine zM_e rfl (Nat.le_of_ble_eq_true rfl) (fun kz Q hQ => X12_hasNumber_0 hM ⟨fun y => ?_, fun y => ?_, fun y => ⟨fun z => ?_, fun z => ?_⟩, fun y => ?_, fun y => ?_⟩)
  · subst y
    obtain ⟨x, x1, x2, x3⟩ := inn 3
    refine ⟨x, x1, x2, ?_⟩
    rw [x3]; exact hQ
  · subst y
    obtain ⟨x, x1, x2, x3⟩ := inn 3
    refine ⟨x, x1, x2, ?_⟩
    rw [x3]; exact hQ
  · subst y
    rw [if_neg (fun q => by have := q.2; have e : nbr 3 = 1 := rfl; omega)] at hQ; exact hQ
  · subst y
    rw [if_pos ⟨by omega, by have e : nbr 3 = 1 := rfl; omega⟩] at hQ; exact hQ
  · subst y
    obtain ⟨x, x1, x2, x3⟩ := inn 6
    refine ⟨x, x1, x2, ?_⟩
    rw [x3]; exact hQ
  · have e : k = 0 := by omega
    subst e
    rw [if_neg (fun q => by have := q.2; have e : nbr 0 = 0 := rfl; omega)] at hQ; exact hQ
theorem inState_ok {P W : Int → Int} {K : Nat} {R : Nat → List zLt} {T : Nat → Int} {v : Int} (hX : zK zXt d G) (hs : stC d G E P W K R) (hT : ∀ c : Nat, c < K → E (qn c) 6 = T c) : zM zm_X7_inState [zR 5, zI v] (d, G, E) (some (zI (cnS T v K))) (d, G, E) := by
  have h1 := hs.1
  have h2 := hs.2.1
  have go : ∀ (m c : Nat), c + m = K → zgo zm_X7_inState 4 [(0, zR 5), (1, zI v), (2, zI (cnS T v c)), (3, zI (c : Int))] [] (d, G, E) (some (zI (cnS T v K))) (d, G, E) := by
    intro m
    induction m with
    | zero =>
      intro c hc kz Q hQ
      have e : c = K := by omega
      subst e
      exact X7_inState_4 hX ⟨fun _ => hQ, fun y => absurd (by omega) y⟩
    | succ m ih =>
      intro c hc kz Q hQ
      have hcK : c < K := by omega
      have z := ih (c + 1) (by omega) kz Q hQ
      have b := cnS_le (T := T) (v := v) c
      rw [show ((c + 1 : Nat) : Int) = (c : Int) + 1 by omega] at z
      simp only [cnS] at z
      refine X7_inState_4 hX ⟨fun y => absurd y (by omega), fun _ => ⟨some (qn c), at_ok hX hs hcK, fun y => absurd y (by simp), fun _ => ⟨qn c, rfl, (hs.2.2 c hcK).2.1, fun y => ?_, fun y => ?_⟩⟩⟩
      · rw [hT c hcK] at y
        rw [if_neg y, Int.add_zero] at z
        exact ⟨zin_of (by omega) (by omega), z⟩
      · rw [hT c hcK] at y
        rw [if_pos (by omega)] at z
        exact ⟨zin_of (by omega) (by omega), zin_of (by omega) (by omega), z⟩
  exact zM_go rfl (Nat.le_of_ble_eq_true rfl) (fun kz Q hQ => X7_inState_0 hX (go K 0 (by omega) kz Q hQ))
theorem inStatus_ok {K : Nat} {T : Nat → Int} {v : Int} (hM : zK zMt d G) (h1 : E 50 6 = K) (h2 : K ≤ 150) (hT : ∀ c : Nat, c < K → E 62 c = T c) : zM zm_X12_inStatus [zR 50, zI v] (d, G, E) (some (zI (cnS T v K))) (d, G, E) := by
  have go : ∀ (m c : Nat), c + m = K → zgo zm_X12_inStatus 4 [(0, zR 50), (1, zI v), (2, zI (cnS T v c)), (3, zI (c : Int))] [] (d, G, E) (some (zI (cnS T v K))) (d, G, E) := by
    intro m
    induction m with
    | zero =>
      intro c hc kz Q hQ
      have e : c = K := by omega
      subst e
      exact X12_inStatus_4 hM ⟨fun _ => hQ, fun y => absurd (by omega) y⟩
    | succ m ih =>
      intro c hc kz Q hQ
      have hcK : c < K := by omega
      have z := ih (c + 1) (by omega) kz Q hQ
      have b := cnS_le (T := T) (v := v) c
      rw [show ((c + 1 : Nat) : Int) = (c : Int) + 1 by omega] at z
      simp only [cnS] at z
      refine X12_inStatus_4 hM ⟨fun y => absurd y (by omega), fun _ => ⟨⟨by omega, by omega⟩, fun y => ?_, fun y => ?_⟩⟩
      · rw [hT c hcK] at y
        rw [if_neg y] at z
        exact ⟨zin_of (by omega) (by omega), zin_of (by omega) (by omega), z⟩
      · rw [hT c hcK] at y
        rw [if_pos (by omega)] at z
        exact ⟨zin_of (by omega) (by omega), zin_of (by omega) (by omega), z⟩
  exact zM_go rfl (Nat.le_of_ble_eq_true rfl) (fun kz Q hQ => X12_inStatus_0 hM (go K 0 (by omega) kz Q hQ))
theorem count_2 {s : zS} {g : Nat} (h : JI d G E s g) (v : Int) : ∃ r : Int, zM zm_X11_count [zR 0, zI v] (d, G, E) (some (zI r)) (d, G, E) ∧ zM zm_X12_count [zR 50, zI v] (d, G, E) (some (zI r)) (d, G, E) := by
  obtain ⟨hc, hm, ho, ⟨q52, q53, q54⟩, q0, ⟨q4, _⟩, ⟨q57, _⟩, ⟨q58, _⟩, ⟨q55, _⟩, sg⟩ := h
  obtain ⟨⟨M, hC⟩, e17, e18, e19, e20, e15, hI, h19, hX, hM⟩ := hc
  obtain ⟨hD, e44, e43, e45, e42, e54, hlo⟩ := hm
  have i1 := fun v => inState_ok (v := v) (T := sT s) hX (CI_st hC) (fun c hc => (hC.2.2.2 c hc).2.2.1)
  have i2 := fun v => inStatus_ok (v := v) (T := sT s) hM hD.1 hD.2.1 (fun c hc => (hD.2.2 c hc).2.2.1)
  have e5 := hC.2.2.1
  refine ⟨if v = 0 then E 1 3 else if v = 1 then sK s else if v = 2 then cnS (sT s) 0 (sK s) else if v = 3 then cnS (sT s) 1 (sK s) else if v = 4 then cnS (sT s) 2 (sK s) else if v = 5 then sAo s else if v = 6 then sLo s else if v = 7 then sMa s else if v = 8 then sRw s else if v = 9 then E 0 16 else if v = 10 then sEn s else if v = 11 then E 0 12 else -2, zM_e rfl (Nat.le_of_ble_eq_true rfl) (fun kz Q hQ => X11_count_0 hX ⟨fun y => ?_, fun y => ?_, fun y => ⟨_, i1 0, ?_⟩, fun y => ⟨_, i1 1, ?_⟩, fun y => ⟨_, i1 2, ?_⟩, fun y => ?_, fun y => ?_, fun y => ?_, fun y => ?_, fun y => ?_, fun y => ?_, fun y => ?_, fun y => ?_⟩), zM_e rfl (Nat.le_of_ble_eq_true rfl) (fun kz Q hQ => X12_count_0 hM ⟨fun y => ?_, fun y => ?_, fun y => ⟨_, i2 0, ?_⟩, fun y => ⟨_, i2 1, ?_⟩, fun y => ⟨_, i2 2, ?_⟩, fun y => ?_, fun y => ?_, fun y => ?_, fun y => ?_, fun y => ?_, fun y => ?_, fun y => ?_, fun y => ?_⟩)⟩
  · subst y; exact hQ
  · subst y; rw [e5]; exact hQ
  · subst y; exact hQ
  · subst y; exact hQ
  · subst y; exact hQ
  · subst y; rw [e17]; exact hQ
  · subst y; rw [e18]; exact hQ
  · subst y; rw [e19]; exact hQ
  · subst y; rw [e20]; exact hQ
  · subst y; exact hQ
  · subst y; rw [e15]; exact hQ
  · subst y; exact hQ
  · rw [if_neg (by omega), if_neg (by omega), if_neg (by omega), if_neg (by omega), if_neg (by omega), if_neg (by omega), if_neg (by omega), if_neg (by omega), if_neg (by omega), if_neg (by omega), if_neg (by omega), if_neg (by omega)] at hQ; exact hQ
  · subst y; rw [q0]; exact hQ
  · subst y; rw [hD.1]; exact hQ
  · subst y; exact hQ
  · subst y; exact hQ
  · subst y; exact hQ
  · subst y; rw [e44]; exact hQ
  · subst y; rw [e43]; exact hQ
  · subst y; rw [e45]; exact hQ
  · subst y; rw [e42]; exact hQ
  · subst y; rw [q55]; exact hQ
  · subst y; rw [e54]; exact hQ
  · subst y; rw [q4]; exact hQ
  · rw [if_neg (by omega), if_neg (by omega), if_neg (by omega), if_neg (by omega), if_neg (by omega), if_neg (by omega), if_neg (by omega), if_neg (by omega), if_neg (by omega), if_neg (by omega), if_neg (by omega), if_neg (by omega)] at hQ; exact hQ
theorem claim_2 {s : zS} {g : Nat} (h : JI d G E s g) (v w : Int) : ∃ r : Int, zM zm_X11_claim [zR 0, zI v, zI w] (d, G, E) (some (zI r)) (d, G, E) ∧ zM zm_X12_claim [zR 50, zI v, zI w] (d, G, E) (some (zI r)) (d, G, E) ∧ ∀ c : Nat, v = c → c < sK s → w = 0 → r = (sR s c).length := by
  obtain ⟨hc, hm, ho, ⟨q52, q53, q54⟩, q0, _, _, _, _, sg⟩ := h
  obtain ⟨⟨M, hC⟩, e17, e18, e19, e20, e15, hI, h19, hX, hM⟩ := hc
  obtain ⟨hD, e44, e43, e45, e42, e54, hlo⟩ := hm
  have sC := CI_st hC
  have sM := MI_st hD
  by_cases hv : 0 ≤ v ∧ v < sK s
  case neg =>
    exact ⟨-2, zM_e rfl (Nat.le_of_ble_eq_true rfl) (fun kz Q hQ => X11_claim_0 hX ⟨none, at_no hX sC hv, fun y => absurd rfl y, fun _ => hQ⟩), zM_e rfl (Nat.le_of_ble_eq_true rfl) (fun kz Q hQ => X12_claim_0 hM ⟨0, isClaim_n hM sM hv, fun y => absurd rfl y, fun _ => hQ⟩), fun c h1 h2 _ => absurd ⟨by omega, by omega⟩ hv⟩
  obtain ⟨c, rfl⟩ : ∃ c : Nat, v = c := ⟨v.toNat, by omega⟩
  have hcK : c < sK s := by omega
  have hK := hC.1.1
  have hK2 := hD.2.1
  obtain ⟨cR, rB, cD⟩ := hC.2.2.2 c hcK
  have mD := hD.2.2 c hcK
  have zc := (sC.2.2 c hcK).2.1
  have hW : wok (E 54) := by rw [q54]; exact sg.2.1
  have w1 := weightOfClaim_ok (E := E) hM sM hcK hW
  have w2 := chosenOf_ok (E := E) hM sM hcK hW
  have w3 := lettersOf_ok (E := E) hM sM hcK cD.2.2.2.2.1
  rw [q54] at w1 w2
  have l0 : E (qn c + 1) 3 = (sR s c).length := cR.1.1
  have l1 : E 61 c = (sR s c).length := mD.1.1
  refine ⟨if w = 0 then ((sR s c).length : Int) else if w = 1 then wtA (E 4) (sR s c) (sR s c).length else if w = 2 then sT s c else if w = 3 then sB s c else if w = 4 then chs (E 4) (sR s c) else if w = 5 then E (qn c) 10 else -2, zM_e rfl (Nat.le_of_ble_eq_true rfl) (fun kz Q hQ => X11_claim_0 hX ⟨some (qn c), at_ok hX sC hcK, fun _ => ⟨fun y => ⟨_, rfl, zc, ?_⟩, fun y => ⟨_, rfl, zc, ?_⟩, fun y => ⟨_, rfl, zc, ?_⟩, fun y => ⟨_, rfl, zc, ?_⟩, fun y => ⟨_, rfl, zc, ?_⟩, fun y => ⟨_, rfl, zc, ?_⟩, fun y => ?_⟩, fun y => absurd (by simp) y⟩), zM_e rfl (Nat.le_of_ble_eq_true rfl) (fun kz Q hQ => X12_claim_0 hM ⟨1, isClaim_y hM sM hcK, fun _ => ⟨fun y => ⟨⟨by omega, by omega⟩, ?_⟩, fun y => ⟨_, w1, ?_⟩, fun y => ⟨⟨by omega, by omega⟩, ?_⟩, fun y => ⟨⟨by omega, by omega⟩, ?_⟩, fun y => ⟨_, w2, ?_⟩, fun y => ⟨_, w3, ?_⟩, fun y => ?_⟩, fun y => absurd (by decide) y⟩), fun c' h1 _ h3 => ?_⟩
  · subst y; rw [l0]; exact hQ
  · subst y; rw [cD.2.2.1]; exact hQ
  · subst y; rw [cD.1]; exact hQ
  · subst y; rw [cD.2.1]; exact hQ
  · subst y; rw [cD.2.2.2.1]; exact hQ
  · subst y; exact hQ
  · rw [if_neg (by omega), if_neg (by omega), if_neg (by omega), if_neg (by omega), if_neg (by omega), if_neg (by omega)] at hQ; exact hQ
  · subst y; rw [l1]; exact hQ
  · subst y; exact hQ
  · subst y; rw [mD.2.2.1]; exact hQ
  · subst y; rw [mD.2.2.2.1]; exact hQ
  · subst y; exact hQ
  · subst y; exact hQ
  · rw [if_neg (by omega), if_neg (by omega), if_neg (by omega), if_neg (by omega), if_neg (by omega), if_neg (by omega)] at hQ; exact hQ
  · have e : c = c' := by omega
    rw [if_pos h3, e]
theorem literal_2 {s : zS} {g : Nat} (h : JI d G E s g) (v i w : Int) (hw : w ≤ 2147483647) : ∃ r : Int, zM zm_X11_literal [zR 0, zI v, zI i, zI w] (d, G, E) (some (zI r)) (d, G, E) ∧ zM zm_X12_literal [zR 50, zI v, zI i, zI w] (d, G, E) (some (zI r)) (d, G, E) ∧ ∀ c l : Nat, v = c → c < sK s → i = l → l < (sR s c).length → w = 1 → r = (lit (sR s c) l).2.length := by
  obtain ⟨hc, hm, ho, ⟨q52, q53, q54⟩, q0, _, _, _, _, sg⟩ := h
  obtain ⟨⟨M, hC⟩, e17, e18, e19, e20, e15, hI, h19, hX, hM⟩ := hc
  obtain ⟨hD, e44, e43, e45, e42, e54, hlo⟩ := hm
  have sC := CI_st hC
  have sM := MI_st hD
  by_cases hv : 0 ≤ v ∧ v < sK s
  case neg =>
    exact ⟨-2147483648, zM_e rfl (Nat.le_of_ble_eq_true rfl) (fun kz Q hQ => X11_literal_0 hX ⟨none, at_no hX sC hv, fun _ => hQ, fun y => absurd rfl y⟩), zM_e rfl (Nat.le_of_ble_eq_true rfl) (fun kz Q hQ => X12_literal_0 hM ⟨0, isClaim_n hM sM hv, fun _ => hQ, fun y => absurd rfl y⟩), fun c l h1 h2 _ _ _ => absurd ⟨by omega, by omega⟩ hv⟩
  obtain ⟨c, rfl⟩ : ∃ c : Nat, v = c := ⟨v.toNat, by omega⟩
  have hcK : c < sK s := by omega
  have hK2 := hD.2.1
  obtain ⟨cR, rB, cD⟩ := hC.2.2.2 c hcK
  have mD := hD.2.2 c hcK
  have zc := (sC.2.2 c hcK).2.1
  have hr := zc.2.2.1
  have A6 := cR.1.2.1
  have hh := has_ok (E := E) hX hr cR.1 i
  have il := isLiteral_ok (E := E) (v := i) hM sM hcK
  by_cases hi : 0 ≤ i ∧ i < ((sR s c).length : Int)
  case neg =>
    rw [if_neg hi] at hh
    rw [if_neg (by omega)] at il
    exact ⟨-2147483648, zM_e rfl (Nat.le_of_ble_eq_true rfl) (fun kz Q hQ => X11_literal_0 hX ⟨some (qn c), at_ok hX sC hcK, fun y => absurd y (by simp), fun _ => ⟨_, rfl, zc, 0, hh, fun _ => hQ, fun y => absurd rfl y⟩⟩), zM_e rfl (Nat.le_of_ble_eq_true rfl) (fun kz Q hQ => X12_literal_0 hM ⟨1, isClaim_y hM sM hcK, fun y => absurd y (by decide), fun _ => ⟨0, il, fun y => absurd rfl y, fun _ => hQ⟩⟩), fun c' l h1 _ h3 h4 _ => absurd ⟨by omega, by rw [show c = c' by omega]; omega⟩ hi⟩
  rw [if_pos hi] at hh
  rw [if_pos (by omega)] at il
  obtain ⟨l, rfl⟩ : ∃ l : Nat, i = l := ⟨i.toNat, by omega⟩
  have hlA : l < (sR s c).length := by omega
  have ln := length_ok (E := E) hX hr cR.1 hlA
  obtain ⟨y1, y2, y3, y4⟩ := cR.1.2.2.2 l hlA
  obtain ⟨z1, z2, _, z4, z5⟩ := mD.1.2.2 l hlA
  have st := cR.1.2.2.1 l (by omega)
  have so := rowC_le cR.1 (l := l + 1) (by omega)
  simp only [offs] at so
  by_cases w0 : w = 0
  · subst w0
    have e2 : (sR s c).getD l (0, []) = lit (sR s c) l := rfl
    refine ⟨(lit (sR s c) l).1, zM_e rfl (Nat.le_of_ble_eq_true rfl) (fun kz Q hQ => X11_literal_0 hX ⟨some (qn c), at_ok hX sC hcK, fun y => absurd y (by simp), fun _ => ⟨_, rfl, zc, 1, hh, fun y => absurd y (by decide), fun _ => ⟨fun _ => ⟨fun y => absurd rfl y, fun _ => ⟨⟨by omega, by omega⟩, fun y => ?_, fun y => ?_⟩⟩, fun y => absurd (by decide) y⟩⟩⟩), zM_e rfl (Nat.le_of_ble_eq_true rfl) (fun kz Q hQ => X12_literal_0 hM ⟨1, isClaim_y hM sM hcK, fun y => absurd y (by decide), fun _ => ⟨1, il, fun _ => ⟨zin_of (by omega) (by omega), zin_of (by omega) (by omega), fun y => absurd rfl y, fun _ => ⟨⟨by omega, by omega⟩, fun y => ?_, fun y => ?_⟩⟩, fun y => absurd (by decide) y⟩⟩), fun _ _ _ _ _ _ q => absurd q (by decide)⟩
    · rw [y1] at y; rw [y] at hQ; exact hQ
    · rw [y1] at y
      rcases y2 with a | a
      · exact absurd a y
      · rw [a] at hQ; exact hQ
    · rw [z2] at y; rw [y] at hQ; exact hQ
    · rw [z2] at y
      rcases y2 with a | a
      · exact absurd a y
      · rw [a] at hQ; exact hQ
  by_cases w1 : w = 1
  · subst w1
    refine ⟨((lit (sR s c) l).2.length : Int), zM_e rfl (Nat.le_of_ble_eq_true rfl) (fun kz Q hQ => X11_literal_0 hX ⟨some (qn c), at_ok hX sC hcK, fun y => absurd y (by simp), fun _ => ⟨_, rfl, zc, 1, hh, fun y => absurd y (by decide), fun _ => ⟨fun _ => ⟨fun _ => ⟨_, ln, fun y => absurd rfl y, fun _ => hQ⟩, fun y => absurd w0 y⟩, fun y => absurd (by decide) y⟩⟩⟩), zM_e rfl (Nat.le_of_ble_eq_true rfl) (fun kz Q hQ => X12_literal_0 hM ⟨1, isClaim_y hM sM hcK, fun y => absurd y (by decide), fun _ => ⟨1, il, fun _ => ⟨zin_of (by omega) (by omega), zin_of (by omega) (by omega), fun _ => ⟨fun y => absurd rfl y, fun _ => ⟨⟨by omega, by omega⟩, by rw [z1]; exact hQ⟩⟩, fun y => absurd w0 y⟩, fun y => absurd (by decide) y⟩⟩), fun c' l' h1 _ h3 _ _ => by rw [show c = c' by omega, show l = l' by omega]⟩
  by_cases wn : 2 ≤ w ∧ w ≤ 1 + ((lit (sR s c) l).2.length : Int)
  · obtain ⟨k, hk⟩ : ∃ k : Nat, w = 2 + (k : Int) := ⟨(w - 2).toNat, by omega⟩
    have k1 : k < (lit (sR s c) l).2.length := by omega
    have v1 := y4 k k1
    have v2 := z5 k k1
    rw [fw_0] at v2
    refine ⟨(lit (sR s c) l).2.getD k 0, zM_e rfl (Nat.le_of_ble_eq_true rfl) (fun kz Q hQ => X11_literal_0 hX ⟨some (qn c), at_ok hX sC hcK, fun y => absurd y (by simp), fun _ => ⟨_, rfl, zc, 1, hh, fun y => absurd y (by decide), fun _ => ⟨fun _ => ⟨fun _ => ⟨_, ln, fun _ => ⟨zin_of (by omega) (by omega), fun y => absurd y (by omega), fun _ => ⟨⟨by omega, by omega⟩, ?_, ?_, ?_, ?_⟩⟩, fun y => absurd w1 y⟩, fun y => absurd w0 y⟩, fun y => absurd (by omega) y⟩⟩⟩), zM_e rfl (Nat.le_of_ble_eq_true rfl) (fun kz Q hQ => X12_literal_0 hM ⟨1, isClaim_y hM sM hcK, fun y => absurd y (by decide), fun _ => ⟨1, il, fun _ => ⟨zin_of (by omega) (by omega), zin_of (by omega) (by omega), fun _ => ⟨fun _ => ⟨⟨by omega, by omega⟩, by rw [z1]; exact zin_of (by omega) (by omega), 1, by rw [z1]; exact inY hM wn, fun y => absurd y (by decide), fun _ => ⟨zin_of (by omega) (by omega), zin_of (by omega) (by omega), zin_of (by omega) (by omega), ⟨by omega, by omega⟩, ?_⟩⟩, fun y => absurd w1 y⟩, fun y => absurd w0 y⟩, fun y => absurd (by decide) y⟩⟩), fun _ _ _ _ _ _ q => absurd q w1⟩
    · rw [st]; exact zin_of (by omega) (by omega)
    · rw [st]; exact zin_of (by omega) (by omega)
    · rw [st]; exact ⟨by omega, by omega⟩
    · rw [st, show ((offs (sR s c) l : Nat) : Int) + w - 2 = (offs (sR s c) l : Int) + (k : Int) by omega]
      rw [v1]; exact hQ
    · rw [show 30 * (6 * (c : Int) + (l : Int)) + w - 2 = 30 * (6 * (c : Int) + (l : Int)) + (k : Int) by omega, v2]; exact hQ
  · refine ⟨-2147483648, zM_e rfl (Nat.le_of_ble_eq_true rfl) (fun kz Q hQ => X11_literal_0 hX ⟨some (qn c), at_ok hX sC hcK, fun y => absurd y (by simp), fun _ => ⟨_, rfl, zc, 1, hh, fun y => absurd y (by decide), fun _ => ⟨fun y0 => ⟨fun _ => ⟨_, ln, fun _ => ⟨zin_of (by omega) (by omega), fun _ => hQ, fun y => absurd (by omega) wn⟩, fun y => absurd w1 y⟩, fun y => absurd w0 y⟩, fun _ => hQ⟩⟩⟩), zM_e rfl (Nat.le_of_ble_eq_true rfl) (fun kz Q hQ => X12_literal_0 hM ⟨1, isClaim_y hM sM hcK, fun y => absurd y (by decide), fun _ => ⟨1, il, fun _ => ⟨zin_of (by omega) (by omega), zin_of (by omega) (by omega), fun _ => ⟨fun _ => ⟨⟨by omega, by omega⟩, by rw [z1]; exact zin_of (by omega) (by omega), 0, by rw [z1]; exact inN hM wn, fun _ => hQ, fun y => absurd rfl y⟩, fun y => absurd w1 y⟩, fun y => absurd w0 y⟩, fun y => absurd (by decide) y⟩⟩), fun _ _ _ _ _ _ q => absurd q w1⟩
end TD
