/-! ===== picks: the class works one off ===== -/
theorem CIv_g {d : List Nat} {G G' : Nat → Int → Option Nat} {E : Nat → Int → Int} {s : zS} (h : CIv d G E s) (hg : ∀ y : Nat, y ≠ 42 → G' y = G y) (hX : zK zXt d G') : CIv d G' E s := by
  obtain ⟨⟨M, ⟨hM, ha, hb⟩, hK, h5, hcl⟩, e17, e18, e19, e20, e15, hI, h19, _, hMt⟩ := h
  have q6 : G' 6 = G 6 := hg 6 (by decide)
  have qq : ∀ c j : Nat, G' (qn c + j) = G (qn c + j) := fun c j => hg _ (by unfold qn; omega)
  refine ⟨⟨M, ⟨hM, fun c hc => ?_, fun c h1 h2 => ?_⟩, hK, h5, hcl⟩, e17, e18, e19, e20, e15, hI, h19, hX, fun x hx => ?_⟩
  · obtain ⟨a1, a2, a3⟩ := ha c hc
    refine ⟨by rw [q6]; exact a1, zCk_up a2 (fun _ q => q) (fun k _ => by rw [show G' (qn c) = G (qn c) from qq c 0]) (qq c 1), ?_⟩
    rcases a3 with ⟨b1, b2⟩ | ⟨b1, b2⟩
    · exact Or.inl ⟨by rw [show G' (qn c) = G (qn c) from qq c 0]; exact b1, zRk_up b2 (fun _ q => q) (qq c 7)⟩
    · exact Or.inr ⟨by rw [show G' (qn c) = G (qn c) from qq c 0]; exact b1, b2⟩
  · obtain ⟨a1, a2⟩ := hb c h1 h2
    exact ⟨by rw [q6]; exact a1, a2⟩
  · have t : ∀ x, x ∈ zMt → ¬ (x.1 = 42) := by decide +kernel
    have a := hMt x hx
    rw [hg x.1 (t x hx)]
    exact a
theorem CIv_B {d : List Nat} {G : Nat → Int → Option Nat} {E : Nat → Int → Int} {s : zS} {fu : Int} {it : Nat} (h : CIv d G E s) (hg : sgC E fu) (hi : it < sK s) (g3 : G 42 3 = some (qn it)) : agB d G E (E 3) (E 4) (sK s) (sR s) (sT s) it := by
  obtain ⟨⟨M, hC⟩, e17, e18, e19, e20, e15, hI, h19, hX, hMt⟩ := h
  obtain ⟨hP, hW, h2, hfu, hfu4, hub⟩ := hg
  exact ⟨hX, CI_st hC, fun c hc => (hC.2.2.2 c hc).2.2.2.2.2.1, fun c hc => (hC.2.2.2 c hc).2.2.1, hi, g3, rfl, hP, h2, hW⟩
theorem psn_mon {W : Int → Int} {s s1 : zS} {it : Nat} {G G' : Nat → Int → Option Nat} {E E' : Nat → Int → Int} {ph pa : Int} {L : List (List Int)} (h : psn W (sR s) (sK s) it G E ph pa L) (hm : mon s s1) (hG : G' 42 = G 42) (hE : E' 42 = E 42) : psn W (sR s1) (sK s1) it G' E' ph pa L := by
  obtain ⟨p5, p4, pb, pab, plt, p3, ps⟩ := h
  have mk := hm.1
  refine ⟨by rw [hE]; exact p5, by rw [hE]; exact p4, pb, pab, fun q => ?_, fun q => ?_, ?_⟩
  · have := plt q; omega
  · have := p3 q; omega
  · rcases ps with ⟨q1, q2, q3, q4⟩ | q | ⟨p, n, a, wh, hpK, hnK, haK, g6, g7, hr⟩
    · exact Or.inl ⟨q1, q2, by rw [hG]; exact q3, by rw [hG]; exact q4⟩
    · exact Or.inr (Or.inl q)
    · refine Or.inr (Or.inr ⟨p, n, a, wh, by omega, by omega, by omega, by rw [hG]; exact g6, by rw [hG]; exact g7, ?_⟩)
      unfold rmP at42 at *
      rw [hE, hm.2.1 p hpK, hm.2.1 n hnK]
      exact hr
theorem muL_nn {W : Int → Int} {R : Nat → List zLt} {K it : Nat} {G : Nat → Int → Option Nat} {E : Nat → Int → Int} {ph pa : Int} {L : List (List Int)} (h : psn W R K it G E ph pa L) (hK : K ≤ 150) : 0 ≤ muL ph pa L := by
  obtain ⟨p5, p4, pb, pab, plt, p3, ps⟩ := h
  unfold muL lat
  by_cases c : ph ≤ 3
  · rw [if_pos c]
    have : pa ≤ 149 := by
      by_cases c3 : ph = 3
      · have := p3 c3; omega
      · have := plt (by omega); omega
    split
    · omega
    · split
      · omega
      · split <;> omega
  · rw [if_neg c]
    split <;> omega
section SQ
variable {fu : Int} {it g : Nat}
theorem run42 (hg6 : g ≤ 600) : ∀ (N : Nat) (ph pa : Int) (L : List (List Int)) (d : List Nat) (G : Nat → Int → Option Nat) (E : Nat → Int → Int) (s : zS) (v3 : Int), muL ph pa L < N → 0 ≤ v3 → v3 + N ≤ 900000 → CIv d G E s → sgC E fu → okS g s → it < sK s → (sT s it = 1 ∨ sT s it = 2) → G 42 3 = some (qn it) → psn (E 4) (sR s) (sK s) it G E ph pa L →
    ∃ (d' : List Nat) (G' : Nat → Int → Option Nat) (E' : Nat → Int → Int) (s' : zS), (∀ (kz : Nat × Nat) (Q : Option zV → zH → Prop) (v1 v2 : Int), 0 ≤ v2 → v2 ≤ 1000 → d'.length ≤ kz.1 → zsl d' ≤ kz.2 → Z zm_X11_run kz Q 17 [(0, zR 0), (1, zI v1), (2, zI (v2 + 1))] [] (d', G', E') → Z zm_X11_run kz Q 42 [(0, zR 0), (1, zI v1), (2, zI v2), (3, zI v3)] [] (d, G, E)) ∧ CIv d' G' E' s' ∧ kpC d G E d' G' E' ∧ okS g s' ∧ E' 0 16 = E 0 16 ∧ RS (E 3) (E 4) fu it ph pa L s s' := by
  intro N
  induction N with
  | zero =>
    intro ph pa L d G E s v3 hN hv hv2 hs hg ho hi hT g3 hp
    have := muL_nn hp ho.1
    omega
  | succ N ih =>
    intro ph pa L d G E s v3 hN hv hv2 hs hg ho hi hT g3 hp
    have hX : zK zXt d G := hs.2.2.2.2.2.2.2.2.1
    have e15 : E 0 15 = sEn s := hs.2.2.2.2.2.1
    have v9 : ¬ (1000000 : Int) ≤ v3 := by omega
    by_cases c0 : sEn s = 0
    case neg =>
      refine ⟨d, G, E, s, fun kz Q v1 v2 w1 w2 _ _ z => X11_run_42 hX ⟨fun y => absurd y v9, fun _ => ⟨fun _ => ⟨zin_of (by omega) (by omega), z⟩, fun y => absurd (by rw [e15]; exact c0) y⟩⟩, hs, kpC_r, ho, rfl, RS_stop (fun q => c0 q.1) hp.2.2.1.2⟩
    obtain ⟨x, G1, E1, mx, gg, X1, f1, o⟩ := next_ok (fu := fu) c0 hT ho.1 (CIv_B hs hg hi g3) hp
    have a0 : E1 0 = E 0 := f1 0 (by simp)
    have a3 : E1 3 = E 3 := f1 3 (by simp)
    have a4 : E1 4 = E 4 := f1 4 (by simp)
    have s1 : CIv d G1 E1 s := by
      have w := CIv_g hs gg.1 X1
      refine CIv_fz w f1 (by simp) ?_ ?_
      · have hI := hs.2.2.2.2.2.2.1
        unfold stI at *
        rw [f1 20 (by simp), f1 22 (by simp), f1 23 (by simp)]; exact hI
      · rw [f1 19 (by simp)]; exact hs.2.2.2.2.2.2.2.1
    have k1 : kpC d G E d G1 E1 := ⟨sbs_r, Nat.le_refl _, Nat.le_refl _, fun y _ _ y3 => gg.1 y y3, fun i _ i2 i3 => gg.2 i i2 i3, fun y _ hy => f1 y (fun q => hy (by simp only [cS, List.mem_cons, List.not_mem_nil, or_false] at *; omega)), fun i _ => by rw [a0]⟩
    have e151 : ¬ E 0 15 ≠ 0 := fun q => q (e15.trans c0)
    rcases o with ⟨x0, r⟩ | ⟨x1, ph', pa', L', c, c1, c2, c3, c4, c5, c6⟩
    · exact ⟨d, G1, E1, s, fun kz Q v1 v2 w1 w2 _ _ z => X11_run_42 hX ⟨fun y => absurd y v9, fun _ => ⟨fun y => absurd y e151, fun _ => ⟨x, G1, E1, mx, X1, fun _ => ⟨zin_of (by omega) (by omega), z⟩, fun y => absurd x0 y⟩⟩⟩, s1, k1, ho, by rw [a0], r⟩
    · obtain ⟨d2, G2, E2, s2, t1, t2, t3, t4, t5, t6, t7⟩ := told_ok (E := E1) (G := G1) (s := s) (nm := c) (sgC_k hg k1) s1 ho hg6 c0 c2 c3 c4
      rw [a3, a4] at t6
      have k12 := kpC_t k1 t2
      have mn := TR_mon t6
      have p2 : psn (E2 4) (sR s2) (sK s2) it G2 E2 ph' pa' L' := by
        rw [(kpC_34 k12).2]
        exact psn_mon c1 mn t4 t3
      have g32 : G2 42 3 = some (qn it) := by
        rw [t4, gg.2 3 (by decide) (by decide)]; exact g3
      have mk := mn.1
      obtain ⟨d', G', E', s', z, q1, q2, q3, q4, q5⟩ := ih ph' pa' L' d2 G2 E2 s2 (v3 + 1) (by omega) (by omega) (by omega) t1 (sgC_k hg k12) (TR_ok ho c0 hg.2.2.2.2.1 t6) (by omega) (mon_12 mn hi hT) g32 p2
      rw [(kpC_34 k12).1, (kpC_34 k12).2] at q5
      refine ⟨d', G', E', s', fun kz Q v1 v2 w1 w2 w3 w4 zz => X11_run_42 hX ⟨fun y => absurd y v9, fun _ => ⟨fun y => absurd y e151, fun _ => ⟨x, G1, E1, mx, X1, fun y => absurd y (by omega), fun _ => ?_⟩⟩⟩, q1, kpC_t k12 q2, q3, ?_, c5 s2 s' t6 q5⟩
      · exact t7 kz Q v1 v2 v3 (Nat.le_trans q2.2.1 w3) (Nat.le_trans q2.2.2.1 w4) hv (by omega) (z kz Q v1 v2 w1 w2 w3 w4 zz)
      · rw [q4, t5, a0]
end SQ
