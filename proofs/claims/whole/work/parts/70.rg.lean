/-! ===== unification: the class, where there is none ===== -/
section RG
variable {d : List Nat} {G : Nat → Int → Option Nat} {E : Nat → Int → Int}
theorem u20_t {E F H : Nat → Int → Int} (h : u20 E F) (h' : u20 F H) : u20 E H := fun k k1 k2 k3 k4 => (h' k k1 k2 k3 k4).trans (h k k1 k2 k3 k4)
theorem widenF_go (hX : zK zXt d G) (hP : pok (E 3)) : ∀ (m : Nat) (F : Nat → Int → Int) (b : zBd) (rk : Int → Nat) (i j : Int) (op dp : Nat) (v7 : Int) (va vb p q : List Int), v7 + m = 1000000 → 0 ≤ v7 → fz uS E F → u20 E F → bw (E 3) b rk → bdU F b → onB F i va → onB F j vb → tws (E 3) op va → tws (E 3) op vb → stk F (E 3) dp p q → dp ≤ 128 → UN (E 3) b (va ++ p) (vb ++ q) none →
    ∃ E' : Nat → Int → Int, zgo zm_X9_widen 19 [(0, zR 20), (3, zI i), (4, zI j), (5, zI (op : Int)), (6, zI (dp : Int)), (7, zI v7)] [] (d, G, F) (some (zI 0)) (d, G, E') ∧ fz uS E E' ∧ u20 E E' ∧ stI E' := by
  intro m
  induction m with
  | zero =>
    intro F b rk i j op dp v7 va vb p q hm v0 hf h20 hb hU hi hj ta tb hs hd hN
    exact ⟨F, fun kz Q hQ => X9_widen_19 hX ⟨fun _ => hQ, fun z => absurd (by omega) z⟩, hf, h20, bdU_stI hb hU⟩
  | succ m ih =>
    intro F b rk i j op dp v7 va vb p q hm v0 hf h20 hb hU hi hj ta tb hs hd hN
    have hn : ¬ 1000000 ≤ v7 := by omega
    have f3 : F 3 = E 3 := hf 3 (by simp [uS])
    obtain ⟨np, np1, np2, np3, np4⟩ := stk_tws hP hs
    cases op with
    | zero =>
      have ea := tws_0 ta
      have eb := tws_0 tb
      subst ea; subst eb
      rw [List.nil_append, List.nil_append] at hN
      cases dp with
      | zero =>
        obtain ⟨p0, q0⟩ := hs
        subst p0; subst q0
        have := UN_det hN UN_nil
        simp at this
      | succ dp =>
        obtain ⟨n, va, vb, p', q', h1, h2, h3, h4, h5, h6, h7, h8⟩ := hs
        subst h6; subst h7
        obtain ⟨E', z, zr⟩ := ih F b rk _ _ n dp (v7 + 1) va vb p' q' (by omega) (by omega) hf h20 hb hU h1 h2 h4 h5 h8 (by omega) hN
        refine ⟨E', fun kz Q hQ => X9_widen_19 hX ⟨fun z => absurd z hn, fun _ => ⟨fun z => absurd rfl z, fun _ => ⟨fun _ => ?_, fun z => absurd (by omega) z⟩⟩⟩, zr⟩
        have e : (((dp + 1 : Nat) : Int) + (-1)) = dp := by omega
        rw [e, h3]
        exact ⟨zin_of (by omega) (by omega), ⟨by omega, by omega⟩, ⟨by omega, by omega⟩, ⟨by omega, by omega⟩, zin_of (by omega) (by omega), z kz Q hQ⟩
    | succ op =>
      obtain ⟨w, va', rfl, tw1, ta', hi1, hi2⟩ := row_fst hP ta hi
      obtain ⟨w', vb', rfl, tw2, tb', hj1, hj2⟩ := row_fst hP tb hj
      have opl : op ≤ 360 := by
        have := tws_le hP ta'
        have := hi2.2.1; have := hi2.1
        omega
      have lva := (lo40_app.1 hi.2.2.2).2
      have lvb := (lo40_app.1 hj.2.2.2).2
      rw [List.append_assoc, List.append_assoc] at hN
      obtain ⟨iu, ju, wu, wv, r2, r3, s2, s3, r4, s4, r5, s5, back, ri, rj, pre⟩ := round_pre (E := F) (v5 := ((op + 1 : Nat) : Int)) (v6 := (dp : Int)) (v7 := v7) hX (by rw [f3]; exact hP) (by rw [f3]; exact hb) hU hi1 (by rw [f3]; exact tw1) hj1 (by rw [f3]; exact tw2) (by omega) hn (by omega) v0 (by omega)
      rw [f3] at r3 s3 back pre
      have hN2 : UN (E 3) b (wu ++ (va' ++ p)) (wv ++ (vb' ++ q)) none :=
        UN_fwd (n := 1 + (op + np)) hP hb hN (tws_app hP (tws_1.2 r3) (tws_app hP ta' np1)) (tws_app hP (tws_1.2 s3) (tws_app hP tb' np2)) (lo40_app.2 ⟨r2.2.2.2, lo40_app.2 ⟨lva, np3⟩⟩) (lo40_app.2 ⟨s2.2.2.2, lo40_app.2 ⟨lvb, np4⟩⟩) (fun r z => back _ _ r z)
      have met : (fw wu 0 < 0 ∨ fw wv 0 < 0 ∨ iu = ju) → ¬ (0 ≤ fw wu 0 ∧ fw wu 0 = fw wv 0 ∧ iu = i ∧ ju = j) → ∃ E' : Nat → Int → Int, zgo zm_X9_widen 19 [(0, zR 20), (3, zI i), (4, zI j), (5, zI ((op + 1 : Nat) : Int)), (6, zI (dp : Int)), (7, zI v7)] [] (d, G, F) (some (zI 0)) (d, G, E') ∧ fz uS E E' ∧ u20 E E' ∧ stI E' := by
        intro c1 c2
        obtain ⟨x1, F1, m1, g1, g2, g3⟩ := meet_round (E := F) hX (by rw [f3]; exact hP) (by rw [f3]; exact hb) hU (by rw [f3]; exact r3) r2 (by rw [f3]; exact s3) s2 r4 s4 c1
        rw [f3] at g3
        have hf1 : fz uS E F1 := fz_trans hf (fz_mono g1 (by simp [uS]))
        have kn : ∀ (_ : Nat × Nat) (Q : Option zV → zH → Prop), (0 ≤ fw wu 0 → 0 ≤ fw wv 0 → fw wu 0 ≠ fw wv 0 → Q (some (zI 0)) (d, G, F)) := fun kz Q y1 y2 y3 => by
          rcases c1 with z | z | z
          · omega
          · omega
          · exact absurd (by rw [← (onB_hd r2 (tw_ne r3)).1, ← (onB_hd s2 (tw_ne s3)).1, z]) y3
        have e5 : ((op + 1 : Nat) : Int) - 1 = (op : Int) := by omega
        have kd : ∀ (kz : Nat × Nat) (Q : Option zV → zH → Prop), (0 ≤ fw wu 0 → fw wu 0 = fw wv 0 → iu ≠ ju → ¬ (iu = i ∧ ju = j) → ((dp : Int) < 128 → Z zm_X9_widen kz Q 19 [(0, zR 20), (3, zI iu), (4, zI ju), (5, zI 1), (6, zI ((dp : Int) + 1)), (7, zI (v7 + 1))] [] (d, G, zuE (zuE (zuE F 24 (dp : Int) (i + w.length)) 25 (dp : Int) (j + w'.length)) 26 (dp : Int) (((op + 1 : Nat) : Int) - 1))) ∧ (¬ (dp : Int) < 128 → Q (some (zI 0)) (d, G, F))) := fun kz Q y1 y2 y3 y4 => by
          rcases c1 with z | z | z
          · omega
          · omega
          · exact absurd z y3
        rcases g3 with ⟨x1e, b2, rk2, hb2, hU2, bk, _⟩ | ⟨x1e, hU2, _⟩
        · have hs1 : stk F1 (E 3) dp p q := stk_congr (g1 21 (by simp)) hs (fun k _ => by rw [g1 24 (by simp), g1 25 (by simp), g1 26 (by simp)]; exact ⟨rfl, rfl, rfl⟩)
          have hN3 : UN (E 3) b2 (va' ++ p) (vb' ++ q) none := UN_fwd (n := op + np) hP hb2 hN2 (tws_app hP ta' np1) (tws_app hP tb' np2) (lo40_app.2 ⟨lva, np3⟩) (lo40_app.2 ⟨lvb, np4⟩) (fun r z => bk _ _ r z)
          obtain ⟨E', z, zr⟩ := ih F1 b2 rk2 (i + w.length) (j + w'.length) op dp (v7 + 1) va' vb' p q (by omega) (by omega) hf1 (u20_t h20 g2) hb2 hU2 (onB_fz hi2 g1 (by simp)) (onB_fz hj2 g1 (by simp)) ta' tb' hs1 hd hN3
          exact ⟨E', fun kz Q hQ => pre kz Q (fun a1 a2 a3 a4 => absurd ⟨a1, a2, a3, a4⟩ c2) (kn kz Q) (kd kz Q) (fun _ _ => ⟨x1, F1, m1, g1, fun _ => by rw [e5]; exact z kz Q hQ, fun y => absurd (by omega) y⟩), zr⟩
        · exact ⟨F1, fun kz Q hQ => pre kz Q (fun a1 a2 a3 a4 => absurd ⟨a1, a2, a3, a4⟩ c2) (fun y1 y2 y3 => absurd (kn (0, 0) (fun _ _ => False) y1 y2 y3) (fun z => z)) (fun y1 y2 y3 y4 => absurd y3 (by
            rcases c1 with z | z | z
            · omega
            · omega
            · exact fun k => k z)) (fun _ _ => ⟨x1, F1, m1, g1, fun y => absurd x1e y, fun _ => hQ⟩), hf1, u20_t h20 g2, bdU_stI hb hU2⟩
      by_cases cA : 0 ≤ fw wu 0 ∧ fw wu 0 = fw wv 0
      · obtain ⟨cA0, cA1⟩ := cA
        obtain ⟨x, y, e1, e2, x0, x16, tx, ox, px0, px3⟩ := row_parts hP r3 r2 cA0
        obtain ⟨x', y', e1', e2', x0', x16', tx', ox', px0', px3'⟩ := row_parts hP s3 s2 (by omega)
        have exx : x = x' := by rw [e2, e2', cA1]
        subst exx
        have hN3 : UN (E 3) b (y ++ (va' ++ p)) (y' ++ (vb' ++ q)) none := by
          rw [e1, e1'] at hN2
          rw [List.cons_append, List.cons_append] at hN2
          refine UN_fwd (n := (E 3 x).toNat + (op + np)) hP hb hN2 (tws_app hP tx (tws_app hP ta' np1)) (tws_app hP tx' (tws_app hP tb' np2)) (lo40_app.2 ⟨ox.2.2.2, lo40_app.2 ⟨lva, np3⟩⟩) (lo40_app.2 ⟨ox'.2.2.2, lo40_app.2 ⟨lvb, np4⟩⟩) (fun r z => UN_eq (by omega) z)
        by_cases cB : iu = i ∧ ju = j
        · -- walk
          have ew : wu = w := by
            rcases ri with z | ⟨z, _⟩
            · exact z.2
            · exact absurd cB.1 z
          have ew' : wv = w' := by
            rcases rj with z | ⟨z, _⟩
            · exact z.2
            · exact absurd cB.2 z
          have e1w : w = x :: y := by rw [← ew]; exact e1
          have e1w' : w' = x :: y' := by rw [← ew']; exact e1'
          have oi : onB F (i + 1) (y ++ va') := by
            have := hi
            rw [e1w] at this
            have e : x :: y ++ va' = [x] ++ (y ++ va') := rfl
            rw [e] at this
            exact onB_r this (by simp)
          have oj : onB F (j + 1) (y' ++ vb') := by
            have := hj
            rw [e1w'] at this
            have e : x :: y' ++ vb' = [x] ++ (y' ++ vb') := rfl
            rw [e] at this
            exact onB_r this (by simp)
          obtain ⟨E', z, zr⟩ := ih F b rk (i + 1) (j + 1) ((E 3 x).toNat + op) dp (v7 + 1) (y ++ va') (y' ++ vb') p q (by omega) (by omega) hf h20 hb hU oi oj (tws_app hP tx ta') (tws_app hP tx' tb') hs hd (by rw [List.append_assoc, List.append_assoc]; exact hN3)
          refine ⟨E', fun kz Q hQ => pre kz Q (fun _ _ _ _ => ?_) (fun _ _ z => absurd cA1 z) (fun _ _ _ z => absurd cB z) (fun _ z => absurd ⟨cA0, cA1, cB.1, cB.2⟩ z), zr⟩
          have e5 : ((op + 1 : Nat) : Int) + (E 3 (fw wu 0) - 1) = (((E 3 x).toNat + op : Nat) : Int) := by rw [← e2]; omega
          rw [e5]; exact z kz Q hQ
        · by_cases cC : iu = ju
          · -- the same place
            exact met (Or.inr (Or.inr cC)) (fun z => cB z.2.2)
          · -- down
            by_cases cD : (dp : Int) < 128
            · let F1 := zuE F 24 (dp : Int) (i + w.length)
              let F2 := zuE F1 25 (dp : Int) (j + w'.length)
              let F3 := zuE F2 26 (dp : Int) (((op + 1 : Nat) : Int) - 1)
              have g1 : fz [24, 25, 26] F F3 := fz_put (fz_put (fz_put fz_rfl (by simp)) (by simp)) (by simp)
              have a24 : F3 24 dp = i + w.length := (zuE_ne (by decide) _).trans ((zuE_ne (by decide) _).trans zuE_same)
              have a25 : F3 25 dp = j + w'.length := (zuE_ne (by decide) _).trans zuE_same
              have a26 : F3 26 dp = op := by
                have : F3 26 dp = ((op + 1 : Nat) : Int) - 1 := zuE_same
                rw [this]; omega
              have hs1 : stk F3 (E 3) (dp + 1) (va' ++ p) (vb' ++ q) := by
                refine ⟨op, va', vb', p, q, by rw [a24]; exact onB_fz hi2 g1 (by simp), by rw [a25]; exact onB_fz hj2 g1 (by simp), a26, ta', tb', rfl, rfl, stk_congr (g1 21 (by simp)) hs (fun k hk => ⟨?_, ?_, ?_⟩)⟩
                · exact (zuE_ne (by decide) _).trans ((zuE_ne (by decide) _).trans (zuE_ix (by omega)))
                · exact (zuE_ne (by decide) _).trans ((zuE_ix (by omega)).trans (zuE_ne (by decide) _))
                · exact (zuE_ix (by omega)).trans ((zuE_ne (by decide) _).trans (zuE_ne (by decide) _))
              have hU3 : bdU F3 b := bdU_fz hU g1 (by rw [g1 20 (by simp)]) (by simp) (by simp) (by simp)
              have t1 : ((dp + 1 : Nat) : Int) = (dp : Int) + 1 := by omega
              obtain ⟨E', z, zr⟩ := ih F3 b rk iu ju 1 (dp + 1) (v7 + 1) wu wv (va' ++ p) (vb' ++ q) (by omega) (by omega) (fz_trans hf (fz_mono g1 (by simp [uS]))) (u20_t h20 (fun k _ _ _ _ => by rw [g1 20 (by simp)])) hb hU3 (onB_fz r2 g1 (by simp)) (onB_fz s2 g1 (by simp)) (tws_1.2 r3) (tws_1.2 s3) hs1 (by omega) hN2
              refine ⟨E', fun kz Q hQ => pre kz Q (fun _ _ a3 a4 => absurd ⟨a3, a4⟩ cB) (fun _ _ z => absurd cA1 z) (fun _ _ _ _ => ⟨fun _ => ?_, fun y => absurd cD y⟩) (fun y _ => ?_), zr⟩
              · have := z kz Q hQ
                rw [t1] at this
                exact this
              · exfalso
                rcases y with y | y | y
                · omega
                · omega
                · exact cC y
            · refine ⟨F, fun kz Q hQ => pre kz Q (fun _ _ a3 a4 => absurd ⟨a3, a4⟩ cB) (fun _ _ z => absurd cA1 z) (fun _ _ _ _ => ⟨fun y => absurd y cD, fun _ => hQ⟩) (fun y _ => ?_), hf, h20, bdU_stI hb hU⟩
              exfalso
              rcases y with y | y | y
              · omega
              · omega
              · exact cC y
      · by_cases cE : fw wu 0 < 0 ∨ fw wv 0 < 0
        · exact met (by omega) (fun z => cA ⟨z.1, z.2.1⟩)
        · have cF : fw wu 0 ≠ fw wv 0 := fun z => cA ⟨by omega, z⟩
          refine ⟨F, fun kz Q hQ => pre kz Q (fun _ a2 _ _ => absurd a2 cF) (fun _ _ _ => hQ) (fun _ a2 _ _ => absurd a2 cF) (fun y _ => ?_), hf, h20, bdU_stI hb hU⟩
          exfalso
          rcases y with y | y | y
          · omega
          · omega
          · exact cF (by rw [← (onB_hd r2 (tw_ne r3)).1, ← (onB_hd s2 (tw_ne s3)).1, y])
end RG
