/-! ===== the agenda: next, whole ===== -/
/-- what next comes to -/
def nxO (P W : Int → Int) (fu : Int) (it : Nat) (s : zS) (G' : Nat → Int → Option Nat) (E' : Nat → Int → Int) (x ph pa : Int) (L : List (List Int)) : Prop :=
  (x = 0 ∧ RS P W fu it ph pa L s s) ∨
  (x = 1 ∧ ∃ (ph' pa' : Int) (L' : List (List Int)) (c : List Int), psn W (sR s) (sK s) it G' E' ph' pa' L' ∧ c.length = 7 ∧ (∀ i : Nat, i < 7 → E' 43 i = c.getD i 0) ∧ (1 ≤ c.getD 0 0 ∧ c.getD 0 0 ≤ 4) ∧ (∀ s1 s' : zS, TR P W fu s c s1 → RS P W fu it ph' pa' L' s1 s' → RS P W fu it ph pa L s s') ∧ muL ph' pa' L' < muL ph pa L)
theorem muL_lt {ph pa : Int} {D L L' : List (List Int)} {c : List Int} (h : L = D ++ (c :: L')) : muL ph pa L' < muL ph pa L := by
  have e : (L.length : Int) = D.length + (L'.length + 1) := by rw [h, List.length_append, List.length_cons]; omega
  unfold muL
  split
  · omega
  · split <;> omega
theorem ps3_43 {W : Int → Int} {R : Nat → List zLt} {K it : Nat} {G : Nat → Int → Option Nat} {E E' : Nat → Int → Int} {ph pa : Int} {L : List (List Int)} (h : psn W R K it G E ph pa L) (hf : E' 42 = E 42) : psn W R K it G E' ph pa L := by
  unfold psn ps3 rmP at42 at *
  rw [hf]; exact h
section SP
variable {d : List Nat} {G : Nat → Int → Option Nat} {E : Nat → Int → Int}
variable {P W : Int → Int} {fu : Int} {it : Nat} {s : zS}
theorem next_loop (h0 : sEn s = 0) (hT : sT s it = 1 ∨ sT s it = 2) (h150 : sK s ≤ 150) : ∀ (N : Nat) (ph pa : Int) (L : List (List Int)) (G : Nat → Int → Option Nat) (E : Nat → Int → Int) (v1 : Int), phs ph pa ≤ N → 0 ≤ v1 → v1 + N ≤ 2000 → agB d G E P W (sK s) (sR s) (sT s) it → psn W (sR s) (sK s) it G E ph pa L →
    ∃ (x : Int) (G' : Nat → Int → Option Nat) (E' : Nat → Int → Int), (∀ kz (Q : Option zV → zH → Prop), Q (some (zI x)) (d, G', E') → Z zm_X0_next kz Q 2 [(0, zR 42), (1, zI v1)] [] (d, G, E)) ∧ g42 G G' ∧ zK zXt d G' ∧ fz [42, 43] E E' ∧ nxO P W fu it s G' E' x ph pa L := by
  intro N
  induction N with
  | zero =>
    intro ph pa L G E v1 hN hv hv2 hA hp
    obtain ⟨p5, p4, pb, pab, plt, p3, ps⟩ := hp
    unfold phs at hN
    split at hN <;> omega
  | succ N ih =>
    intro ph pa L G E v1 hN hv hv2 hA hp
    have hp' := hp
    have hA' := hA
    obtain ⟨p5, p4, pb, pab, plt, p3, ps⟩ := hp
    obtain ⟨hX, hs, h9, h6, hi, g3, e3, hP, h2, hW⟩ := hA
    have hci := (hs.2.2 it hi).2.1
    have ti := isThere_ok (E := E) hX hci
    rw [h6 it hi] at ti
    -- away
    rcases hT with t1 | t2
    case inr =>
      rw [if_pos t2] at ti
      refine ⟨0, G, E, fun kz Q hQ => X0_next_2 hX ⟨fun y => absurd y (by omega), fun _ => ⟨fun y => absurd (g3.symm.trans y) (by simp), fun _ => ⟨qn it, g3, hci, 0, ti, fun _ => hQ, fun y => absurd rfl y⟩⟩⟩, g42_r, hX, fz_rfl, Or.inl ⟨rfl, RS_stop (fun g => g.2.1 t2) pb.2⟩⟩
    have n2 : ¬ sT s it = 2 := by omega
    have hgo : gon s it it := ⟨h0, n2, n2⟩
    rw [if_neg n2] at ti
    have ent : ∀ kz (Q : Option zV → zH → Prop), ((ph ≠ 6 → ((G 42 6) = none → ∃ G_12 E_13, zM zm_X0_nextPhase [zR 42] (d, G, E) none (d, G_12, E_13) ∧ zK zXt d G_12 ∧ zin (v1 + 1) ∧ Z zm_X0_next kz Q 2 [(0, zR 42), (1, zI ((v1 + 1)))] [] (d, G_12, E_13)) ∧ (¬ ((G 42 6) = none) → ((G 42 7) = none → ∃ G_19 E_20, zM zm_X0_nextPhase [zR 42] (d, G, E) none (d, G_19, E_20) ∧ zK zXt d G_19 ∧ zin (v1 + 1) ∧ Z zm_X0_next kz Q 2 [(0, zR 42), (1, zI ((v1 + 1)))] [] (d, G_19, E_20)) ∧ (¬ ((G 42 7) = none) → ∃ b_25, (G 42 6) = some b_25 ∧ zCk d G b_25 ∧ ∃ x_28, zM zm_X1_isThere [zR b_25] (d, G, E) (some (zI x_28)) (d, G, E) ∧ (x_28 = 0 → ∃ G_32 E_33, zM zm_X0_nextPhase [zR 42] (d, G, E) none (d, G_32, E_33) ∧ zK zXt d G_32 ∧ zin (v1 + 1) ∧ Z zm_X0_next kz Q 2 [(0, zR 42), (1, zI ((v1 + 1)))] [] (d, G_32, E_33)) ∧ (¬ (x_28 = 0) → ∃ b_38, (G 42 7) = some b_38 ∧ zCk d G b_38 ∧ ∃ x_41, zM zm_X1_isThere [zR b_38] (d, G, E) (some (zI x_41)) (d, G, E) ∧ (x_41 = 0 → ∃ G_45 E_46, zM zm_X0_nextPhase [zR 42] (d, G, E) none (d, G_45, E_46) ∧ zK zXt d G_45 ∧ zin (v1 + 1) ∧ Z zm_X0_next kz Q 2 [(0, zR 42), (1, zI ((v1 + 1)))] [] (d, G_45, E_46)) ∧ (¬ (x_41 = 0) → ∃ x_51 E_52, zM zm_X0_advance [zR 42] (d, G, E) (some (zI x_51)) (d, G, E_52) ∧ (x_51 = 0 → ∃ G_56 E_57, zM zm_X0_nextPhase [zR 42] (d, G, E_52) none (d, G_56, E_57) ∧ zK zXt d G_56 ∧ zin (v1 + 1) ∧ Z zm_X0_next kz Q 2 [(0, zR 42), (1, zI ((v1 + 1)))] [] (d, G_56, E_57)) ∧ (¬ (x_51 = 0) → ∃ E_62, zM zm_X0_tell [zR 42] (d, G, E_52) none (d, G, E_62) ∧ Q (some (zI 1)) (d, G, E_62))))))) ∧ (¬ (ph ≠ 6) → Q (some (zI 0)) (d, G, E))) → Z zm_X0_next kz Q 2 [(0, zR 42), (1, zI v1)] [] (d, G, E) := fun kz Q z => by
      have v9 : ¬ (1000000 : Int) ≤ v1 := by clear z; omega
      refine X0_next_2 hX ?_
      rw [p5]
      exact ⟨fun y => absurd y v9, fun _ => ⟨fun y => absurd (g3.symm.trans y) (by simp), fun _ => ⟨qn it, g3, hci, 1, ti, fun y => absurd y (by decide), fun _ => z⟩⟩⟩
    by_cases c6 : ph = 6
    · exact ⟨0, G, E, fun kz Q hQ => ent kz Q ⟨fun y => absurd c6 y, fun _ => hQ⟩, g42_r, hX, fz_rfl, Or.inl ⟨rfl, Or.inr (Or.inr (Or.inr ⟨by omega, rfl⟩))⟩⟩
    -- to the next phase
    have nx : ∀ E1 : Nat → Int → Int, fz [42] E E1 → E1 42 5 = ph → E1 42 4 = pa → (ph ≤ 3 → RT P W fu it pa.toNat L s s) → (ph = 4 ∨ ph = 5 → dead P W (sR s) (sK s) L) → ∃ (G1 : Nat → Int → Option Nat) (E2 : Nat → Int → Int), zM zm_X0_nextPhase [zR 42] (d, G, E1) none (d, G1, E2) ∧ zK zXt d G1 ∧ ∃ (x : Int) (G' : Nat → Int → Option Nat) (E' : Nat → Int → Int), (∀ kz (Q : Option zV → zH → Prop), Q (some (zI x)) (d, G', E') → Z zm_X0_next kz Q 2 [(0, zR 42), (1, zI (v1 + 1))] [] (d, G1, E2)) ∧ g42 G G' ∧ zK zXt d G' ∧ fz [42, 43] E E' ∧ nxO P W fu it s G' E' x ph pa L := fun E1 f1 q5 q4 hL hL4 => by
      obtain ⟨G1, E2, ph', pa', o, mn, gg, X1, f2, r5, r4, hx, ho, hw, bg⟩ := nextPhase_ok (E := E1) (agB_E hA' f1) q5 q4 ⟨pb.1, by omega⟩ pab plt
      have A2 : agB d G1 E2 P W (sK s) (sR s) (sT s) it := agB_E (agB_g (agB_E hA' f1) gg X1) f2
      have r6 : 0 ≤ ph' ∧ ph' ≤ 6 := by
        rcases hx with ⟨_, q, _⟩ | ⟨_, _, ⟨_, q⟩ | ⟨_, q⟩⟩ <;> omega
      obtain ⟨D, L', d1, d2, d3, d4⟩ := beg_ps A2 bg r6 ho hw t1
      have pp : psn W (sR s) (sK s) it G1 E2 ph' pa' L' := by
        refine ⟨r5, r4, r6, ?_, fun q => ?_, fun q => ?_, d3⟩
        · rcases hx with ⟨_, _, q⟩ | ⟨_, q, _⟩
          · omega
          · by_cases c : ph = 3
            · have := p3 c; omega
            · omega
        · omega
        · omega
      have fu' : phs ph' pa' ≤ N := by
        unfold phs at hN ⊢
        rcases hx with ⟨w1, w2, w3⟩ | ⟨w1, w2, ⟨w3, w4⟩ | ⟨w3, w4⟩⟩
        · by_cases c : ph ≤ 3
          · rw [if_pos c] at hN
            rw [if_pos (by omega)]; omega
          · rw [if_neg c] at hN
            rw [if_neg (by omega)]; omega
        · rw [if_pos (by omega)] at hN
          rw [if_pos (by omega)]; omega
        · have := p3 w1
          rw [if_pos (by omega)] at hN
          rw [if_neg (by omega)]; omega
      obtain ⟨x, G', E', z, g', X', f', o'⟩ := ih ph' pa' L' G1 E2 (v1 + 1) fu' (by omega) (by omega) A2 pp
      have step : ∀ s' : zS, RS P W fu it ph' pa' L' s s' → RS P W fu it ph pa L s s' := fun s' r => RS_next hi ho h150 hgo t1 pab.1 ⟨pb.1, by omega⟩ (fun q => (plt q).1) hL hL4 hx hw d1 d2 r
      refine ⟨G1, E2, mn, X1, x, G', E', z, g42_t gg g', X', fz_trans (fz_mono (fz_trans f1 f2) (by simp)) f', ?_⟩
      rcases o' with ⟨x0, r⟩ | ⟨x1, ph2, pa2, L2, c, c1, c2, c3, c4, c5, c6⟩
      · exact Or.inl ⟨x0, step s r⟩
      · exact Or.inr ⟨x1, ph2, pa2, L2, c, c1, c2, c3, c4, fun s1 s' a b => step s' (c5 s1 s' a b), Int.lt_of_lt_of_le c6 (mu_next hx p3 h150 ⟨pb.1, by omega⟩ d4)⟩
    have zv : zin (v1 + 1) := zin_of (by omega) (by omega)
    rcases ps with ⟨q1, q2, q3, q4⟩ | q | ⟨p, n, a, wh, hpK, hnK, haK, g6, g7, hr⟩
    · obtain ⟨G1, E2, mn, X1, x, G', E', z, rest⟩ := nx E fz_rfl p5 p4 (fun _ => by rw [q2]; rfl) (fun w => by omega)
      exact ⟨x, G', E', fun kz Q hQ => ent kz Q ⟨fun _ => ⟨fun _ => ⟨G1, E2, mn, X1, zv, z kz Q hQ⟩, fun y => absurd q3 y⟩, fun y => absurd c6 y⟩, rest⟩
    · exact absurd q c6
    · have hcp := (hs.2.2 p hpK).2.1
      have hcn := (hs.2.2 n hnK).2.1
      have tp := isThere_ok (E := E) hX hcp
      have tn := isThere_ok (E := E) hX hcn
      rw [h6 p hpK] at tp
      rw [h6 n hnK] at tn
      have g6n : ¬ G 42 6 = none := fun y => absurd (g6.symm.trans y) (by simp)
      have g7n : ¬ G 42 7 = none := fun y => absurd (g7.symm.trans y) (by simp)
      have awy : (sT s p = 2 ∨ sT s n = 2) → ∃ (G1 : Nat → Int → Option Nat) (E2 : Nat → Int → Int), zM zm_X0_nextPhase [zR 42] (d, G, E) none (d, G1, E2) ∧ zK zXt d G1 ∧ ∃ (x : Int) (G' : Nat → Int → Option Nat) (E' : Nat → Int → Int), (∀ kz (Q : Option zV → zH → Prop), Q (some (zI x)) (d, G', E') → Z zm_X0_next kz Q 2 [(0, zR 42), (1, zI (v1 + 1))] [] (d, G1, E2)) ∧ g42 G G' ∧ zK zXt d G' ∧ fz [42, 43] E E' ∧ nxO P W fu it s G' E' x ph pa L := fun w => by
        rcases wh with ⟨w1, w2, w3⟩ | ⟨w1, w2, w3, w4⟩
        · have ta : sT s a = 2 := by
            rcases w3 with ⟨u1, u2⟩ | ⟨u1, u2⟩
            · rw [u1, u2] at w
              rcases w with w | w
              · exact absurd w n2
              · exact w
            · rw [u1, u2] at w
              rcases w with w | w
              · exact w
              · exact absurd w n2
          have ea : pa.toNat = a := by omega
          exact nx E fz_rfl p5 p4 (fun _ => by rw [ea]; exact RT_stop (fun g => g.2.2 ta) _) (fun y => by omega)
        · rw [w3, w4] at w
          rcases w with w | w <;> exact absurd w n2
      by_cases cp : sT s p = 2
      · obtain ⟨G1, E2, mn, X1, x, G', E', z, rest⟩ := awy (Or.inl cp)
        rw [if_pos cp] at tp
        exact ⟨x, G', E', fun kz Q hQ => ent kz Q ⟨fun _ => ⟨fun y => absurd y g6n, fun _ => ⟨fun y => absurd y g7n, fun _ => ⟨qn p, g6, hcp, 0, tp, fun _ => ⟨G1, E2, mn, X1, zv, z kz Q hQ⟩, fun y => absurd rfl y⟩⟩⟩, fun y => absurd c6 y⟩, rest⟩
      rw [if_neg cp] at tp
      by_cases cn : sT s n = 2
      · obtain ⟨G1, E2, mn, X1, x, G', E', z, rest⟩ := awy (Or.inr cn)
        rw [if_pos cn] at tn
        exact ⟨x, G', E', fun kz Q hQ => ent kz Q ⟨fun _ => ⟨fun y => absurd y g6n, fun _ => ⟨fun y => absurd y g7n, fun _ => ⟨qn p, g6, hcp, 1, tp, fun y => absurd y (by decide), fun _ => ⟨qn n, g7, hcn, 0, tn, fun _ => ⟨G1, E2, mn, X1, zv, z kz Q hQ⟩, fun y => absurd rfl y⟩⟩⟩⟩, fun y => absurd c6 y⟩, rest⟩
      rw [if_neg cn] at tn
      have ta : gon s it a := by
        refine ⟨h0, n2, ?_⟩
        rcases wh with ⟨_, _, ⟨u1, u2⟩ | ⟨u1, u2⟩⟩ | ⟨_, u, _⟩
        · rw [← u2]; exact cn
        · rw [← u1]; exact cp
        · rw [u]; exact n2
      have hC := agB_C hA' hpK hnK g6 g7
      obtain ⟨x, E1, ma, xx, r⟩ := advance_ok (E := E) hC hr p5
      rcases r with ⟨x0, dd⟩ | ⟨x1, D, L', d1, d2, d3⟩
      · obtain ⟨G1, E2, mn, X1, y, G', E', z, rest⟩ := nx E1 xx.1 ((xx.2 5 (by decide)).trans p5) ((xx.2 4 (by decide)).trans p4) (fun _ => RT_idle dd) (fun _ => dd)
        exact ⟨y, G', E', fun kz Q hQ => ent kz Q ⟨fun _ => ⟨fun y => absurd y g6n, fun _ => ⟨fun y => absurd y g7n, fun _ => ⟨qn p, g6, hcp, 1, tp, fun y => absurd y (by decide), fun _ => ⟨qn n, g7, hcn, 1, tn, fun y => absurd y (by decide), fun _ => ⟨x, E1, ma, fun _ => ⟨G1, E2, mn, X1, zv, z kz Q hQ⟩, fun y => absurd x0 y⟩⟩⟩⟩⟩, fun y => absurd c6 y⟩, rest⟩
      · obtain ⟨E2, mt, ft, vt⟩ := agTell_ok (E := E1) (ph := ph) (agC_x hC xx) ((xx.2 5 (by decide)).trans p5) ⟨pb.1, by omega⟩
        have e42 : E2 42 = E1 42 := ft 42 (by simp)
        obtain ⟨cl, c1, c4⟩ := cnd_ok (E := E1) (p := p) (n := n) (ph := ph)
        refine ⟨1, G, E2, fun kz Q hQ => ent kz Q ⟨fun _ => ⟨fun y => absurd y g6n, fun _ => ⟨fun y => absurd y g7n, fun _ => ⟨qn p, g6, hcp, 1, tp, fun y => absurd y (by decide), fun _ => ⟨qn n, g7, hcn, 1, tn, fun y => absurd y (by decide), fun _ => ⟨x, E1, ma, fun y => absurd y (by omega), fun _ => ⟨E2, mt, hQ⟩⟩⟩⟩⟩⟩, fun y => absurd c6 y⟩, g42_r, hX, fz_trans (fz_mono xx.1 (by simp)) (fz_mono ft (by simp)), Or.inr ⟨rfl, ph, pa, L', cnd E1 p n ph, ?_, cl, vt, ⟨c1, c4⟩, fun s1 s' tr rs => ?_, muL_lt d2⟩⟩
        · refine ps3_43 (E := E1) ⟨(xx.2 5 (by decide)).trans p5, (xx.2 4 (by decide)).trans p4, pb, pab, plt, p3, Or.inr (Or.inr ⟨p, n, a, wh, hpK, hnK, haK, g6, g7, d3⟩)⟩ e42
        · exact RS_told (a := a) (by rcases wh with ⟨u1, u2, _⟩ | ⟨u1, u2, _⟩; exact Or.inl ⟨u1, u2⟩; exact Or.inr ⟨by omega, u2⟩) (by omega) d1 d2 ta tr rs
theorem next_ok {ph pa : Int} {L : List (List Int)} (h0 : sEn s = 0) (hT : sT s it = 1 ∨ sT s it = 2) (h150 : sK s ≤ 150) (hA : agB d G E P W (sK s) (sR s) (sT s) it) (hp : psn W (sR s) (sK s) it G E ph pa L) :
    ∃ (x : Int) (G' : Nat → Int → Option Nat) (E' : Nat → Int → Int), zM zm_X0_next [zR 42] (d, G, E) (some (zI x)) (d, G', E') ∧ g42 G G' ∧ zK zXt d G' ∧ fz [42, 43] E E' ∧ nxO P W fu it s G' E' x ph pa L := by
  have b : phs ph pa ≤ ((1000 : Nat) : Int) := by
    obtain ⟨_, _, pb, pab, _⟩ := hp
    unfold phs
    split <;> omega
  obtain ⟨x, G', E', z, r⟩ := next_loop (fu := fu) h0 hT h150 1000 ph pa L G E 0 b (by omega) (by omega) hA hp
  exact ⟨x, G', E', zM_of rfl (Nat.le_of_ble_eq_true rfl) ⟨Nat.le_refl _, Nat.le_refl _⟩ (X0_next_0 hA.1 (z _ _ ⟨rfl, rfl⟩)), r⟩
end SP
