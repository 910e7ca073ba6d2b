/-! ===== the agenda: one step further, and telling it ===== -/
/-- what is left of a phase, as the agenda's place tells it -/
def rmP (W : Int → Int) (E : Nat → Int → Int) (R : Nat → List zLt) (p n : Nat) (ph : Int) (L : List (List Int)) : Prop :=
  ((ph = 0 ∨ ph = 1) ∧ ∃ i : Nat, E 42 8 = (i : Int) - 1 ∧ i ≤ 6 ∧ L = clL p n ((R p).length - i) i) ∨
  ((ph = 2 ∨ ph = 3) ∧ ∃ i sd j pl : Nat, at42 E i sd j pl ∧ sd ≤ 2 ∧ fst1 W (R n) ≤ j ∧ pl ≤ 100 ∧ L = L65 (R p) (R n) p n i sd j (pl + 1)) ∨
  (ph = 4 ∧ ∃ i j : Nat, E 42 8 = i ∧ E 42 10 = j ∧ i ≤ 6 ∧ j ≤ 6 ∧ L = faJ p i ((R p).length - (j + 1)) (j + 1) ++ faI p (R p).length ((R p).length - (i + 1)) (i + 1)) ∨
  (ph = 5 ∧ ∃ pl : Nat, E 42 11 = pl ∧ pl ≤ 100 ∧ L = if pl = 0 then [[3, (p : Int), 0, 0, 0, 0, 0]] else [])
/-- the try that the agenda's place tells -/
def cnd (E : Nat → Int → Int) (p n : Nat) (ph : Int) : List Int := if ph = 0 ∨ ph = 1 then [1, (p : Int), E 42 8, (n : Int), 0, 0, 0] else if ph = 2 ∨ ph = 3 then [4, (p : Int), E 42 8, E 42 9, (n : Int), E 42 10, E 42 11] else if ph = 4 then [2, (p : Int), E 42 8, E 42 10, 0, 0, 0] else [3, (p : Int), 0, 0, 0, 0, 0]
theorem cnd_ok {E : Nat → Int → Int} {p n : Nat} {ph : Int} : (cnd E p n ph).length = 7 ∧ 1 ≤ (cnd E p n ph).getD 0 0 ∧ (cnd E p n ph).getD 0 0 ≤ 4 := by
  unfold cnd
  split
  · exact ⟨rfl, by simp, by simp⟩
  · split
    · exact ⟨rfl, by simp, by simp⟩
    · split
      · exact ⟨rfl, by simp, by simp⟩
      · exact ⟨rfl, by simp, by simp⟩
section SL
variable {d : List Nat} {G : Nat → Int → Option Nat} {E : Nat → Int → Int}
variable {P W : Int → Int} {K : Nat} {R : Nat → List zLt} {p n : Nat}
theorem advanceFactor_ok {i j : Nat} (hc : agC d G E P W K R p n) (e8 : E 42 8 = i) (e10 : E 42 10 = j) (hi : i ≤ 6) (hj : j ≤ 6) :
    ∃ (x : Int) (E' : Nat → Int → Int), zM zm_X0_advanceFactor [zR 42] (d, G, E) (some (zI x)) (d, G, E') ∧ x42 E E' ∧ ((x = 0 ∧ faJ p i ((R p).length - (j + 1)) (j + 1) ++ faI p (R p).length ((R p).length - (i + 1)) (i + 1) = []) ∨ (x = 1 ∧ ∃ i' j' : Nat, E' 42 8 = i' ∧ E' 42 10 = j' ∧ i' ≤ 6 ∧ j' ≤ 6 ∧ faJ p i ((R p).length - (j + 1)) (j + 1) ++ faI p (R p).length ((R p).length - (i + 1)) (i + 1) = [2, (p : Int), (i' : Int), (j' : Int), 0, 0, 0] :: (faJ p i' ((R p).length - (j' + 1)) (j' + 1) ++ faI p (R p).length ((R p).length - (i' + 1)) (i' + 1)))) := by
  obtain ⟨hX, hst, h9, hp, hn, g6, g7, e3, hP, h2, hW⟩ := hc
  obtain ⟨gp, hcp, ⟨hRp, _⟩, rkp⟩ := hst.2.2 p hp
  have lp6 := hRp.2.1
  have l3 := hRp.1
  let E1 := zuE E 42 10 ((j : Int) + 1)
  have x1 : x42 E E1 := x42_put x42_r (by decide)
  have b10 : E1 42 10 = (j : Int) + 1 := zuE_same
  have b8 : E1 42 8 = i := (zuE_ix (by decide)).trans e8
  have l31 : E1 (qn p + 1) 3 = (R p).length := by rw [x1.1 (qn p + 1) (by simp [qn]; omega)]; exact l3
  by_cases c : j + 1 < (R p).length
  · refine ⟨1, E1, zM_e rfl (Nat.le_of_ble_eq_true rfl) (fun kz Q hQ => X0_advanceFactor_0 hX ?_), x1, Or.inr ⟨rfl, i, j + 1, b8, by rw [b10]; omega, hi, by omega, ?_⟩⟩
    · rw [e10]
      refine ⟨zin_of (by omega) (by omega), fun H e => ?_⟩
      have eH : H = E1 := e
      rw [eH]
      refine ⟨qn p, g6, hcp, fun _ => ⟨qn p, g6, hcp, fun y => absurd y (by rw [l31, b10]; omega), fun _ => hQ⟩, fun y => absurd (by rw [l31, b10]; omega) y⟩
    · have e : (R p).length - (j + 1) = ((R p).length - (j + 1 + 1)) + 1 := by omega
      rw [e]
      rfl
  · let E2 := zuE E1 42 8 ((i : Int) + 1)
    let E3 := zuE E2 42 10 ((i : Int) + 1 + 1)
    have x3 : x42 E E3 := x42_put (x42_put x1 (by decide)) (by decide)
    have c8 : E2 42 8 = (i : Int) + 1 := zuE_same
    have d10 : E3 42 10 = (i : Int) + 1 + 1 := zuE_same
    have d8 : E3 42 8 = (i : Int) + 1 := (zuE_ix (by decide)).trans c8
    have l33 : E3 (qn p + 1) 3 = (R p).length := by rw [x3.1 (qn p + 1) (by simp [qn]; omega)]; exact l3
    have pre : ∀ kz (Q : Option zV → zH → Prop), (((E3 (qn p + 1) 3) ≤ (E3 42 10) → Q (some (zI 0)) (d, G, E3)) ∧ (¬ ((E3 (qn p + 1) 3) ≤ (E3 42 10)) → Q (some (zI 1)) (d, G, E3))) → Z zm_X0_advanceFactor kz Q 0 [(0, zR 42)] [] (d, G, E) := fun kz Q h => by
      refine X0_advanceFactor_0 hX ?_
      rw [e10]
      refine ⟨zin_of (by omega) (by omega), fun H e => ?_⟩
      have eH : H = E1 := e
      rw [eH]
      refine ⟨qn p, g6, hcp, fun y => absurd y (by rw [l31, b10]; omega), fun _ => ?_⟩
      rw [b8]
      refine ⟨zin_of (by omega) (by omega), fun H2 e2 => ?_⟩
      have eH2 : H2 = E2 := e2
      rw [eH2, c8]
      refine ⟨zin_of (by omega) (by omega), fun H3 e3 => ?_⟩
      have eH3 : H3 = E3 := e3
      rw [eH3]
      exact ⟨qn p, g6, hcp, h⟩
    have ej : (R p).length - (j + 1) = 0 := by omega
    by_cases c2 : i + 2 < (R p).length
    · refine ⟨1, E3, zM_e rfl (Nat.le_of_ble_eq_true rfl) (fun kz Q hQ => pre kz Q ⟨fun y => absurd y (by rw [l33, d10]; omega), fun _ => hQ⟩), x3, Or.inr ⟨rfl, i + 1, i + 2, by rw [d8]; omega, by rw [d10]; omega, by omega, by omega, ?_⟩⟩
      have e1 : (R p).length - (i + 1) = ((R p).length - (i + 1 + 1)) + 1 := by omega
      have e2 : (R p).length - (i + 1 + 1) = ((R p).length - (i + 2 + 1)) + 1 := by omega
      rw [ej, e1]
      simp only [faI, faJ, List.nil_append]
      rw [e2]
      simp only [faJ]
      rw [← e2]
      rfl
    · refine ⟨0, E3, zM_e rfl (Nat.le_of_ble_eq_true rfl) (fun kz Q hQ => pre kz Q ⟨fun _ => hQ, fun y => absurd (by rw [l33, d10]; omega) y⟩), x3, Or.inl ⟨rfl, ?_⟩⟩
      rw [ej]
      rcases (by omega : (R p).length - (i + 1) = 0 ∨ (R p).length - (i + 1) = 1) with e | e
      · rw [e]; rfl
      · rw [e]
        have e2 : (R p).length - (i + 1 + 1) = 0 := by omega
        simp only [faI, faJ, List.nil_append]
        rw [e2]
        rfl
theorem advance_ok {ph : Int} {L : List (List Int)} (hc : agC d G E P W K R p n) (hr : rmP W E R p n ph L) (e5 : E 42 5 = ph) :
    ∃ (x : Int) (E' : Nat → Int → Int), zM zm_X0_advance [zR 42] (d, G, E) (some (zI x)) (d, G, E') ∧ x42 E E' ∧ ((x = 0 ∧ dead P W R K L) ∨ (x = 1 ∧ ∃ (D L' : List (List Int)), dead P W R K D ∧ L = D ++ (cnd E' p n ph :: L') ∧ rmP W E' R p n ph L')) := by
  have hc' := hc
  obtain ⟨hX, hst, h9, hp, hn, g6, g7, e3, hP, h2, hW⟩ := hc
  obtain ⟨gp, hcp, ⟨hRp, _⟩, rkp⟩ := hst.2.2 p hp
  obtain ⟨gn, hcn, ⟨hRn, _⟩, rkn⟩ := hst.2.2 n hn
  have lp6 := hRp.2.1
  have l3 := hRp.1
  have qp : qn p ≠ 42 := by unfold qn; omega
  have qn' : qn n ≠ 42 := by unfold qn; omega
  have pos : ∀ (F : Nat → Int → Int), x42 E F → zM zm_X1_isPositive [zR (qn p)] (d, G, F) (some (zI (if chs W (R p) = -1 then 1 else 0))) (d, G, F) ∧ zM zm_X1_isPositive [zR (qn n)] (d, G, F) (some (zI (if chs W (R n) = -1 then 1 else 0))) (d, G, F) := fun F hF => by
    have a := isPositiveC_ok (E := F) hX hcp
    have b := isPositiveC_ok (E := F) hX hcn
    rw [hF.1 (qn p) (by simpa using qp), h9 p hp] at a
    rw [hF.1 (qn n) (by simpa using qn'), h9 n hn] at b
    exact ⟨a, b⟩
  rcases hr with ⟨hph, i, e8, hi6, eL⟩ | ⟨hph, i, sd, j, pl, ha, hsd, hf, hpl, eL⟩ | ⟨hph, i, j, e8, e10, hi, hj, eL⟩ | ⟨hph, pl, e11, hpl, eL⟩
  · -- clashes
    let E1 := zuE E 42 8 ((i : Int) - 1 + 1)
    have x1 : x42 E E1 := x42_put x42_r (by decide)
    have b8 : E1 42 8 = i := (zuE_same : zuE E 42 8 ((i : Int) - 1 + 1) 42 8 = _).trans (by omega)
    have l31 : E1 (qn p + 1) 3 = (R p).length := by rw [x1.1 (qn p + 1) (by simp [qn]; omega)]; exact l3
    obtain ⟨pp, pn⟩ := pos E1 x1
    have n2 : ¬ ph = 2 := by omega
    have n3 : ¬ ph = 3 := by omega
    have n4 : ¬ ph = 4 := by omega
    have n5 : ¬ (ph < 0 ∨ 4 < ph) := by omega
    have n6 : zin ((i : Int) - 1 + 1) := zin_of (by omega) (by omega)
    have pre : ∀ kz (Q : Option zV → zH → Prop), (∃ b_4, (G 42 6) = some b_4 ∧ zCk d G b_4 ∧ ∃ x_7, zM zm_X1_isPositive [zR b_4] (d, G, E1) (some (zI x_7)) (d, G, E1) ∧ (x_7 = 0 → Q (some (zI 0)) (d, G, E1)) ∧ (¬ (x_7 = 0) → ∃ b_11, (G 42 7) = some b_11 ∧ zCk d G b_11 ∧ ∃ x_14, zM zm_X1_isPositive [zR b_11] (d, G, E1) (some (zI x_14)) (d, G, E1) ∧ (x_14 ≠ 0 → Q (some (zI 0)) (d, G, E1)) ∧ (¬ (x_14 ≠ 0) → ∃ b_18, (G 42 6) = some b_18 ∧ zCk d G b_18 ∧ ((E1 (b_18 + 1) 3) ≤ (E1 42 8) → Q (some (zI 0)) (d, G, E1)) ∧ (¬ ((E1 (b_18 + 1) 3) ≤ (E1 42 8)) → Q (some (zI 1)) (d, G, E1))))) → Z zm_X0_advance kz Q 0 [(0, zR 42)] [] (d, G, E) := fun kz Q h => by
      refine X0_advance_0 hX ?_
      rw [e5, e8]
      refine ⟨fun _ => ⟨n6, fun H e => ?_⟩, fun _ => ⟨n6, fun H e => ?_⟩, fun y => absurd y n2, fun y => absurd y n3, fun y => absurd y n4, fun y => absurd y n5⟩
      · subst e; exact h
      · subst e; exact h
    by_cases c : chs W (R p) = -1 ∧ chs W (R n) ≠ -1
    · rw [if_pos c.1] at pp
      rw [if_neg c.2] at pn
      by_cases c2 : i < (R p).length
      · refine ⟨1, E1, zM_e rfl (Nat.le_of_ble_eq_true rfl) (fun kz Q hQ => pre kz Q ⟨qn p, g6, hcp, 1, pp, fun y => absurd y (by decide), fun _ => ⟨qn n, g7, hcn, 0, pn, fun y => absurd rfl y, fun _ => ⟨qn p, g6, hcp, fun y => absurd y (by rw [l31, b8]; omega), fun _ => hQ⟩⟩⟩), x1, Or.inr ⟨rfl, [], clL p n ((R p).length - (i + 1)) (i + 1), dead_nil, ?_, Or.inl ⟨hph, i + 1, by rw [b8]; omega, by omega, rfl⟩⟩⟩
        unfold cnd
        rw [if_pos hph, b8, eL]
        have e : (R p).length - i = ((R p).length - (i + 1)) + 1 := by omega
        rw [e]
        rfl
      · refine ⟨0, E1, zM_e rfl (Nat.le_of_ble_eq_true rfl) (fun kz Q hQ => pre kz Q ⟨qn p, g6, hcp, 1, pp, fun y => absurd y (by decide), fun _ => ⟨qn n, g7, hcn, 0, pn, fun y => absurd rfl y, fun _ => ⟨qn p, g6, hcp, fun _ => hQ, fun y => absurd (by rw [l31, b8]; omega) y⟩⟩⟩), x1, Or.inl ⟨rfl, ?_⟩⟩
        have e : (R p).length - i = 0 := by omega
        rw [eL, e]
        exact dead_nil
    · refine ⟨0, E1, zM_e rfl (Nat.le_of_ble_eq_true rfl) (fun kz Q hQ => pre kz Q ⟨qn p, g6, hcp, _, pp, fun _ => hQ, fun y => ⟨qn n, g7, hcn, _, pn, fun _ => hQ, fun y2 => ?_⟩⟩), x1, Or.inl ⟨rfl, by rw [eL]; exact dead_cl hp hn c _ _⟩⟩
      refine absurd ⟨?_, ?_⟩ c
      · exact Classical.byContradiction fun z => y (by rw [if_neg z])
      · exact fun z => y2 (by rw [if_pos z]; decide)
  · -- turns
    obtain ⟨pp, _⟩ := pos E x42_r
    by_cases c : chs W (R p) = -1
    · rw [if_pos c] at pp
      obtain ⟨x, E', mt, o⟩ := advanceTurn_ok (E := E) hc' ha hsd hf hpl
      have res : ((x = 0 ∧ dead P W R K L) ∨ (x = 1 ∧ ∃ (D L' : List (List Int)), dead P W R K D ∧ L = D ++ (cnd E' p n ph :: L') ∧ rmP W E' R p n ph L')) := by
        rcases o.2 with ⟨x0, dd⟩ | ⟨xe, i', sd', j', pl', D, c1, c2, c3, c4⟩
        · exact Or.inl ⟨x0, by rw [eL]; exact dd⟩
        · refine Or.inr ⟨xe, D, tuM (R p) (R n) p n i' sd' j' (pl' + 1), c3, ?_, Or.inr (Or.inl ⟨hph, i', sd', j', pl', c1, by omega, c2.1, by omega, ?_⟩)⟩
          · unfold cnd
            rw [if_neg (by omega), if_pos hph, c1.1, c1.2.1, c1.2.2.1, c1.2.2.2, eL]
            exact c4
          · unfold L65 L82
            rw [if_pos c2.2.1, if_pos c2.2.2.1]
      have x01 : x = 0 ∨ x = 1 := by rcases res with q | q; exact Or.inl q.1; exact Or.inr q.1
      refine ⟨x, E', zM_e rfl (Nat.le_of_ble_eq_true rfl) (fun kz Q hQ => X0_advance_0 hX ?_), o.1, res⟩
      rw [e5]
      have n0 : ¬ ph = 0 := by omega
      have n1 : ¬ ph = 1 := by omega
      have n4 : ¬ ph = 4 := by omega
      have n5 : ¬ (ph < 0 ∨ 4 < ph) := by omega
      have tl : ∃ b_44, (G 42 6) = some b_44 ∧ zCk d G b_44 ∧ ∃ x_47, zM zm_X1_isPositive [zR b_44] (d, G, E) (some (zI x_47)) (d, G, E) ∧ (x_47 = 0 → Q (some (zI 0)) (d, G, E)) ∧ (¬ (x_47 = 0) → ∃ x_51 E_52, zM zm_X0_advanceTurn [zR 42] (d, G, E) (some (zI x_51)) (d, G, E_52) ∧ (x_51 = 0 → Q (some (zI 0)) (d, G, E_52)) ∧ (¬ (x_51 = 0) → Q (some (zI 1)) (d, G, E_52))) := by
        refine ⟨qn p, g6, hcp, 1, pp, fun y => absurd y (by decide), fun _ => ⟨x, E', mt, fun y => ?_, fun y => ?_⟩⟩
        · rw [y] at hQ; exact hQ
        · have : x = 1 := by omega
          rw [this] at hQ; exact hQ
      exact ⟨fun y => absurd y n0, fun y => absurd y n1, fun _ => tl, fun _ => tl, fun y => absurd y n4, fun y => absurd y n5⟩
    · rw [if_neg c] at pp
      refine ⟨0, E, zM_e rfl (Nat.le_of_ble_eq_true rfl) (fun kz Q hQ => X0_advance_0 hX ?_), x42_r, Or.inl ⟨rfl, ?_⟩⟩
      · rw [e5]
        exact ⟨fun y => absurd y (by omega), fun y => absurd y (by omega), fun _ => ⟨qn p, g6, hcp, 0, pp, fun _ => hQ, fun y => absurd rfl y⟩, fun _ => ⟨qn p, g6, hcp, 0, pp, fun _ => hQ, fun y => absurd rfl y⟩, fun y => absurd y (by omega), fun y => absurd y (by omega)⟩
      · have no : ∀ i s j : Nat, ∀ q : Int, ¬ tuC W (R p) i s (R n) j q := fun i s j q z => c z.1
        rw [eL]
        unfold L65 L82 tuM
        split
        · split
          · exact dead_app (dead_tP hp hn (no i sd j) _ _) (dead_app (dead_tJ hp hn _ _ (fun j' _ _ => no i sd j')) (dead_app (dead_tW hp hn (no i) _ _) (dead_tI hp hn no _ _)))
          · exact dead_tI hp hn no _ _
        · exact dead_nil
  · -- factors
    obtain ⟨pp, _⟩ := pos E x42_r
    by_cases c : chs W (R p) = -1
    · rw [if_pos c] at pp
      obtain ⟨x, E', mt, xx, o⟩ := advanceFactor_ok (E := E) hc' e8 e10 hi hj
      have x01 : x = 0 ∨ x = 1 := by rcases o with q | q; exact Or.inl q.1; exact Or.inr q.1
      refine ⟨x, E', zM_e rfl (Nat.le_of_ble_eq_true rfl) (fun kz Q hQ => X0_advance_0 hX ?_), xx, ?_⟩
      · rw [e5, hph]
        refine ⟨fun y => absurd y (by omega), fun y => absurd y (by omega), fun y => absurd y (by omega), fun y => absurd y (by omega), fun _ => ⟨qn p, g6, hcp, 1, pp, fun y => absurd y (by decide), fun _ => ⟨x, E', mt, fun y => ?_, fun y => ?_⟩⟩, fun y => absurd y (by omega)⟩
        · rw [y] at hQ; exact hQ
        · have : x = 1 := by omega
          rw [this] at hQ; exact hQ
      · rcases o with ⟨x0, q⟩ | ⟨xe, i', j', q1, q2, q3, q4, q5⟩
        · exact Or.inl ⟨x0, by rw [eL, q]; exact dead_nil⟩
        · refine Or.inr ⟨xe, [], _, dead_nil, ?_, Or.inr (Or.inr (Or.inl ⟨hph, i', j', q1, q2, q3, q4, rfl⟩))⟩
          unfold cnd
          rw [if_neg (by omega), if_neg (by omega), if_pos hph, q1, q2, eL, q5]
          rfl
    · rw [if_neg c] at pp
      refine ⟨0, E, zM_e rfl (Nat.le_of_ble_eq_true rfl) (fun kz Q hQ => X0_advance_0 hX ?_), x42_r, Or.inl ⟨rfl, by rw [eL]; exact dead_app (dead_faJ hp c _ _ _) (dead_fa hp c _ _)⟩⟩
      rw [e5, hph]
      exact ⟨fun y => absurd y (by omega), fun y => absurd y (by omega), fun y => absurd y (by omega), fun y => absurd y (by omega), fun _ => ⟨qn p, g6, hcp, 0, pp, fun _ => hQ, fun y => absurd rfl y⟩, fun y => absurd y (by omega)⟩
  · -- the drop
    let E1 := zuE E 42 11 ((pl : Int) + 1)
    have x1 : x42 E E1 := x42_put x42_r (by decide)
    have b11 : E1 42 11 = (pl : Int) + 1 := zuE_same
    obtain ⟨pp, _⟩ := pos E1 x1
    have pre : ∀ kz (Q : Option zV → zH → Prop), (((E1 42 11) ≠ 1 → Q (some (zI 0)) (d, G, E1)) ∧ (¬ ((E1 42 11) ≠ 1) → ∃ b_85, (G 42 6) = some b_85 ∧ zCk d G b_85 ∧ ∃ x_88, zM zm_X1_isPositive [zR b_85] (d, G, E1) (some (zI x_88)) (d, G, E1) ∧ (x_88 ≠ 0 → Q (some (zI 0)) (d, G, E1)) ∧ (¬ (x_88 ≠ 0) → Q (some (zI 1)) (d, G, E1)))) → Z zm_X0_advance kz Q 0 [(0, zR 42)] [] (d, G, E) := fun kz Q h => by
      refine X0_advance_0 hX ?_
      rw [e5, hph, e11]
      refine ⟨fun y => absurd y (by omega), fun y => absurd y (by omega), fun y => absurd y (by omega), fun y => absurd y (by omega), fun y => absurd y (by omega), fun _ => ⟨zin_of (by omega) (by omega), fun H e => ?_⟩⟩
      subst e; exact h
    by_cases c0 : pl = 0
    · rw [if_pos c0] at eL
      by_cases c : chs W (R p) = -1
      · rw [if_pos c] at pp
        exact ⟨0, E1, zM_e rfl (Nat.le_of_ble_eq_true rfl) (fun kz Q hQ => pre kz Q ⟨fun _ => hQ, fun _ => ⟨qn p, g6, hcp, 1, pp, fun _ => hQ, fun y => absurd (by decide) y⟩⟩), x1, Or.inl ⟨rfl, by rw [eL]; exact dead_dr hp c⟩⟩
      · rw [if_neg c] at pp
        refine ⟨1, E1, zM_e rfl (Nat.le_of_ble_eq_true rfl) (fun kz Q hQ => pre kz Q ⟨fun y => absurd (by rw [b11]; omega) y, fun _ => ⟨qn p, g6, hcp, 0, pp, fun y => absurd rfl y, fun _ => hQ⟩⟩), x1, Or.inr ⟨rfl, [], [], dead_nil, ?_, Or.inr (Or.inr (Or.inr ⟨hph, 1, by rw [b11]; omega, by omega, rfl⟩))⟩⟩
        unfold cnd
        rw [if_neg (by omega), if_neg (by omega), if_neg (by omega), eL]
        rfl
    · rw [if_neg c0] at eL
      exact ⟨0, E1, zM_e rfl (Nat.le_of_ble_eq_true rfl) (fun kz Q hQ => pre kz Q ⟨fun _ => hQ, fun y => absurd (by rw [b11]; omega) y⟩), x1, Or.inl ⟨rfl, by rw [eL]; exact dead_nil⟩⟩
theorem agTell_ok {ph : Int} (hc : agC d G E P W K R p n) (e5 : E 42 5 = ph) (h05 : 0 ≤ ph ∧ ph ≤ 5) : ∃ E' : Nat → Int → Int, zM zm_X0_tell [zR 42] (d, G, E) none (d, G, E') ∧ fz [43] E E' ∧ ∀ i : Nat, i < 7 → E' 43 i = (cnd E p n ph).getD i 0 := by
  obtain ⟨hX, hst, h9, hp, hn, g6, g7, e3, hP, h2, hW⟩ := hc
  obtain ⟨gp, hcp, ⟨_, _, n5p, _⟩, rkp⟩ := hst.2.2 p hp
  obtain ⟨gn, hcn, ⟨_, _, n5n, _⟩, rkn⟩ := hst.2.2 n hn
  have d43 := (zX_42_2 hX).2.2
  obtain ⟨E1, m1, f1, z1⟩ := fill_ok (E := E) (a := 43) (n := 7) (v := 0) d43 rfl (by omega)
  have qp : qn p ≠ 43 := by unfold qn; omega
  have qn' : qn n ≠ 43 := by unfold qn; omega
  have b5p : E1 (qn p) 5 = p := by rw [f1 (qn p) (by simpa using qp)]; exact n5p
  have b5n : E1 (qn n) 5 = n := by rw [f1 (qn n) (by simpa using qn')]; exact n5n
  have b42 : E1 42 = E 42 := f1 42 (by simp)
  have w0 := z1 0 (by omega) (by omega)
  have w2 := z1 2 (by omega) (by omega)
  have w3 := z1 3 (by omega) (by omega)
  have w4 := z1 4 (by omega) (by omega)
  have w5 := z1 5 (by omega) (by omega)
  have w6 := z1 6 (by omega) (by omega)
  -- four ways
  let F := zuE E1 43 1 (p : Int)
  let F1 := zuE (zuE (zuE F 43 0 1) 43 2 (E 42 8)) 43 3 (n : Int)
  let F4 := zuE (zuE (zuE (zuE (zuE (zuE F 43 0 4) 43 2 (E 42 8)) 43 3 (E 42 9)) 43 4 (n : Int)) 43 5 (E 42 10)) 43 6 (E 42 11)
  let F2 := zuE (zuE (zuE F 43 0 2) 43 2 (E 42 8)) 43 3 (E 42 10)
  let F3 := zuE F 43 0 3
  have fF : fz [43] E F := fz_put f1 (by simp)
  have u42 : ∀ {H : Nat → Int → Int} {k v : Int}, H 42 = E 42 → zuE H 43 k v 42 = E 42 := fun h => (zuE_nf (by decide)).trans h
  have un : ∀ {H : Nat → Int → Int} {k v : Int}, H (qn n) 5 = n → zuE H 43 k v (qn n) 5 = n := fun h => (zuE_ne qn' _).trans h
  have F42 : F 42 = E 42 := u42 b42
  have Fn : F (qn n) 5 = n := un b5n
  have pre : ∀ kz (Q : Option zV → zH → Prop), ((ph = 0 ∨ ph = 1) → Q none (d, G, F1)) → ((ph = 2 ∨ ph = 3) → Q none (d, G, F4)) → (ph = 4 → Q none (d, G, F2)) → (ph = 5 → Q none (d, G, F3)) → Z zm_X0_tell kz Q 0 [(0, zR 42)] [] (d, G, E) := fun kz Q q1 q4 q2 q3 => by
    refine X0_tell_0 hX ⟨E1, m1, qn p, g6, hcp, ⟨by omega, by omega⟩, fun H e => ?_⟩
    rw [b5p] at e
    have eH : H = F := e
    rw [eH, F42, e5]
    have c1 : ∀ (hh : ph = 0 ∨ ph = 1), ((0 : Int) ≤ 0 ∧ (0 : Int) < 7) ∧ ∀ E_11, E_11 = zuE F 43 0 1 → ((0 : Int) ≤ 2 ∧ (2 : Int) < 7) ∧ ∀ E_13, E_13 = zuE E_11 43 2 ((E_11 42 8)) → ∃ b_14, (G 42 7) = some b_14 ∧ zCk d G b_14 ∧ ((0 : Int) ≤ 3 ∧ (3 : Int) < 7) ∧ ∀ E_18, E_18 = zuE E_13 43 3 ((E_13 b_14 5)) → Q none (d, G, E_18) := fun hh => by
      refine ⟨⟨by omega, by omega⟩, fun H1 h1 => ⟨⟨by omega, by omega⟩, fun H2 h2 => ⟨qn n, g7, hcn, ⟨by omega, by omega⟩, fun H3 h3 => ?_⟩⟩⟩
      subst h1
      rw [u42 F42] at h2
      subst h2
      rw [un (un Fn)] at h3
      subst h3
      exact q1 hh
    have c4 : ∀ (hh : ph = 2 ∨ ph = 3), ((0 : Int) ≤ 0 ∧ (0 : Int) < 7) ∧ ∀ E_31, E_31 = zuE F 43 0 4 → ((0 : Int) ≤ 2 ∧ (2 : Int) < 7) ∧ ∀ E_33, E_33 = zuE E_31 43 2 ((E_31 42 8)) → ((0 : Int) ≤ 3 ∧ (3 : Int) < 7) ∧ ∀ E_35, E_35 = zuE E_33 43 3 ((E_33 42 9)) → ∃ b_36, (G 42 7) = some b_36 ∧ zCk d G b_36 ∧ ((0 : Int) ≤ 4 ∧ (4 : Int) < 7) ∧ ∀ E_40, E_40 = zuE E_35 43 4 ((E_35 b_36 5)) → ((0 : Int) ≤ 5 ∧ (5 : Int) < 7) ∧ ∀ E_42, E_42 = zuE E_40 43 5 ((E_40 42 10)) → ((0 : Int) ≤ 6 ∧ (6 : Int) < 7) ∧ ∀ E_44, E_44 = zuE E_42 43 6 ((E_42 42 11)) → Q none (d, G, E_44) := fun hh => by
      refine ⟨⟨by omega, by omega⟩, fun H1 h1 => ⟨⟨by omega, by omega⟩, fun H2 h2 => ⟨⟨by omega, by omega⟩, fun H3 h3 => ⟨qn n, g7, hcn, ⟨by omega, by omega⟩, fun H4 h4 => ⟨⟨by omega, by omega⟩, fun H5 h5 => ⟨⟨by omega, by omega⟩, fun H6 h6 => ?_⟩⟩⟩⟩⟩⟩
      subst h1
      rw [u42 F42] at h2
      subst h2
      rw [u42 (u42 F42)] at h3
      subst h3
      rw [un (un (un Fn))] at h4
      subst h4
      rw [u42 (u42 (u42 (u42 F42)))] at h5
      subst h5
      rw [u42 (u42 (u42 (u42 (u42 F42))))] at h6
      subst h6
      exact q4 hh
    refine ⟨fun y => c1 (Or.inl y), fun y => c1 (Or.inr y), fun y => c4 (Or.inl y), fun y => c4 (Or.inr y), fun y => ⟨⟨by omega, by omega⟩, fun H1 h1 => ⟨⟨by omega, by omega⟩, fun H2 h2 => ⟨⟨by omega, by omega⟩, fun H3 h3 => ?_⟩⟩⟩, fun y => ⟨⟨by omega, by omega⟩, fun H1 h1 => ?_⟩⟩
    · subst h1
      rw [u42 F42] at h2
      subst h2
      rw [u42 (u42 F42)] at h3
      subst h3
      exact q2 y
    · subst h1
      exact q3 (by omega)
  have ev : ∀ i : Nat, i < 7 → i = 0 ∨ i = 1 ∨ i = 2 ∨ i = 3 ∨ i = 4 ∨ i = 5 ∨ i = 6 := fun i hi => by omega
  rcases (by omega : (ph = 0 ∨ ph = 1) ∨ (ph = 2 ∨ ph = 3) ∨ ph = 4 ∨ ph = 5) with c | c | c | c
  · refine ⟨F1, zM_e rfl (Nat.le_of_ble_eq_true rfl) (fun kz Q hQ => pre kz Q (fun _ => hQ) (fun y => absurd y (by omega)) (fun y => absurd y (by omega)) (fun y => absurd y (by omega))), fz_put (fz_put (fz_put fF (by simp)) (by simp)) (by simp), fun i hi => ?_⟩
    unfold cnd
    rw [if_pos c]
    rcases ev i hi with e | e | e | e | e | e | e <;> subst e <;> simp [F1, F, zuE, w0, w2, w3, w4, w5, w6]
  · refine ⟨F4, zM_e rfl (Nat.le_of_ble_eq_true rfl) (fun kz Q hQ => pre kz Q (fun y => absurd y (by omega)) (fun _ => hQ) (fun y => absurd y (by omega)) (fun y => absurd y (by omega))), fz_put (fz_put (fz_put (fz_put (fz_put (fz_put fF (by simp)) (by simp)) (by simp)) (by simp)) (by simp)) (by simp), fun i hi => ?_⟩
    unfold cnd
    rw [if_neg (by omega), if_pos c]
    rcases ev i hi with e | e | e | e | e | e | e <;> subst e <;> simp [F4, F, zuE, w0, w2, w3, w4, w5, w6]
  · refine ⟨F2, zM_e rfl (Nat.le_of_ble_eq_true rfl) (fun kz Q hQ => pre kz Q (fun y => absurd y (by omega)) (fun y => absurd y (by omega)) (fun _ => hQ) (fun y => absurd y (by omega))), fz_put (fz_put (fz_put fF (by simp)) (by simp)) (by simp), fun i hi => ?_⟩
    unfold cnd
    rw [if_neg (by omega), if_neg (by omega), if_pos c]
    rcases ev i hi with e | e | e | e | e | e | e <;> subst e <;> simp [F2, F, zuE, w0, w2, w3, w4, w5, w6]
  · refine ⟨F3, zM_e rfl (Nat.le_of_ble_eq_true rfl) (fun kz Q hQ => pre kz Q (fun y => absurd y (by omega)) (fun y => absurd y (by omega)) (fun y => absurd y (by omega)) (fun _ => hQ)), fz_put fF (by simp), fun i hi => ?_⟩
    unfold cnd
    rw [if_neg (by omega), if_neg (by omega), if_neg (by omega)]
    rcases ev i hi with e | e | e | e | e | e | e <;> subst e <;> simp [F3, F, zuE, w0, w2, w3, w4, w5, w6]
end SL
