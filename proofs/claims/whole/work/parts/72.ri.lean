/-! ===== unification: the class, where there is one: a pair of terms ===== -/
section RI
variable {d : List Nat} {G : Nat → Int → Option Nat} {E : Nat → Int → Int}
theorem wTerm {bF : zBd} {rkF : Int → Nat} {r1 r2 : Int} {t1 t2 : Nat} (hX : zK zXt d G) (hP : pok (E 3)) (hbF : bw (E 3) bF rkF) (hbd : ∀ L u, lkp bF L = some u → (sb (th bF) u).length ≤ 999999) :
    ∀ (M : Nat) (F : Nat → Int → Int) (b : zBd) (rk : Int → Nat) (i j : Int) (w w' p q : List Int) (op dp : Nat) (v7 : Int), wIn E F (E 3) bF b rk r1 r2 t1 t2 i j 1 w w' p q M → 0 ≤ v7 → v7 + (3 * HH (Bud (E 3) (E 21) (th bF) (regL r1 r2 t1 t2) M / 2) : Nat) ≤ 999999 → op + 3 * (Bud (E 3) (E 21) (th bF) (regL r1 r2 t1 t2) M / 2) ≤ 900 → dp + (Bud (E 3) (E 21) (th bF) (regL r1 r2 t1 t2) M / 2 + 1) ≤ 127 → wOut d G E F (E 3) bF r1 r2 t1 t2 i j (op + 1) dp v7 (i + w.length) (j + w'.length) op (3 * HH (Bud (E 3) (E 21) (th bF) (regL r1 r2 t1 t2) M / 2)) p q := by
  have hT : ∀ L : Int, 0 ≤ L → th bF L ≠ [] := fun L l0 => th_ne hP hbF l0
  intro M
  induction M using Nat.strongRecOn with
  | _ M ih =>
  intro F b rk i j w w' p q op dp v7 h v0 hv ho hd
  obtain ⟨h1, h2, h3, h4, h5, h6, h7, h8, h9, h10, h11, h12, h13, ⟨n, hn1, hn2⟩, h15, h16, h17⟩ := h
  have tw1 := tws_1.1 h7
  have tw2 := tws_1.1 h9
  have f3 : F 3 = E 3 := h1 3 (by simp [uS])
  have f21 : F 21 = E 21 := h1 21 (by simp [uS])
  let BM := Bud (E 3) (E 21) (th bF) (regL r1 r2 t1 t2)
  have hpos := HH_pos (BM M / 2)
  have hn : ¬ 1000000 ≤ v7 := by omega
  obtain ⟨iu, ju, wu, wv, q2, q3, s2, s3, q4, s4, q5, s5, back, ri, rj, pre⟩ := round_pre (E := F) (v5 := ((op + 1 : Nat) : Int)) (v6 := (dp : Int)) (v7 := v7) hX (by rw [f3]; exact hP) (by rw [f3]; exact h3) h4 h6 (by rw [f3]; exact tw1) h8 (by rw [f3]; exact tw2) (by omega) hn (by omega) v0 (by omega)
  rw [f3] at q3 s3 back pre
  have hN2 : UN (E 3) b (wu ++ p) (wv ++ q) (some bF) := UN_fwd (n := 1 + n) hP h3 h17 (tws_app hP (tws_1.2 q3) hn1) (tws_app hP (tws_1.2 s3) hn2) (lo40_app.2 ⟨q2.2.2.2, h15⟩) (lo40_app.2 ⟨s2.2.2.2, h16⟩) (fun r z => back _ _ r z)
  have solF := sol_th hbF
  obtain ⟨⟨cF, ecF⟩, solN⟩ := UN_sol hN2
  have solb : sol b (th bF) := by rw [ecF] at solF; rw [ecF]; exact sol_l solF
  -- lengths under the end's standing
  have lu : sb (th bF) wu = sb (th bF) w := by rw [← sol_sb solb wu, q5, sol_sb solb w]
  have eq : sb (th bF) wu = sb (th bF) wv := by
    have := solN _ solF
    rw [sb_app, sb_app] at this
    exact (tw_pre (tw_sb hP _ wu (Nat.le_refl _) q3 (fun v hv v0 => th_tw hP hbF (by omega))) (tw_sb hP _ wv (Nat.le_refl _) s3 (fun v hv v0 => th_tw hP hbF (by omega))) this).1
  -- regions
  have inu : inR r1 r2 t1 t2 iu wu.length := by
    rcases ri with ⟨z1, z2⟩ | ⟨_, _, L, z1, z2⟩
    · rw [z1, z2]; exact h10
    · rw [← z2]; exact h5 L wu z1
  have inv : inR r1 r2 t1 t2 ju wv.length := by
    rcases rj with ⟨z1, z2⟩ | ⟨_, _, L, z1, z2⟩
    · rw [z1, z2]; exact h11
    · rw [← z2]; exact h5 L wv z1
  have e5 : ((op + 1 : Nat) : Int) - 1 = (op : Int) := by omega
  have met : (fw wu 0 < 0 ∨ fw wv 0 < 0 ∨ iu = ju) → ¬ (0 ≤ fw wu 0 ∧ fw wu 0 = fw wv 0 ∧ iu = i ∧ ju = j) → wOut d G E F (E 3) bF r1 r2 t1 t2 i j (op + 1) dp v7 (i + w.length) (j + w'.length) op (3 * HH (BM M / 2)) p q := by
    intro c1 c2
    obtain ⟨x1, F1, m1, g1, g2, g3⟩ := meet_round (E := F) hX (by rw [f3]; exact hP) (by rw [f3]; exact h3) h4 (by rw [f3]; exact q3) q2 (by rw [f3]; exact s3) s2 q4 s4 c1
    rw [f3] at g3
    have hf1 : fz uS E F1 := fz_trans h1 (fz_mono g1 (by simp [uS]))
    rcases g3 with ⟨x1e, b2, rk2, hb2, hU2, bk, bi⟩ | ⟨x1e, hU2, g4⟩
    · have hN3 : UN (E 3) b2 p q (some bF) := UN_fwd (n := n) hP hb2 hN2 hn1 hn2 h15 h16 (fun r z => bk _ _ r z)
      refine ⟨F1, b2, rk2, v7 + 1, by omega, by omega, fun kz Q z => pre kz Q (fun a1 a2 a3 a4 => absurd ⟨a1, a2, a3, a4⟩ c2) (fun y1 y2 y3 => ?_) (fun y1 y2 y3 y4 => ?_) (fun _ _ => ⟨x1, F1, m1, g1, fun _ => by rw [e5]; exact z, fun y => absurd (by omega) y⟩), hf1, u20_t h2 g2, fun k _ => by rw [g1 24 (by simp), g1 25 (by simp), g1 26 (by simp)]; exact ⟨rfl, rfl, rfl⟩, hb2, hU2, fun L u hu => ?_, hN3⟩
      · rcases c1 with z | z | z
        · omega
        · omega
        · exact absurd (by rw [← (onB_hd q2 (tw_ne q3)).1, ← (onB_hd s2 (tw_ne s3)).1, z]) y3
      · rcases c1 with z | z | z
        · omega
        · omega
        · exact absurd z y3
      · rcases bi L u hu with ⟨z1, z2⟩ | ⟨z1, z2⟩ | ⟨z1, z2⟩
        · rw [z2]; exact h5 L u z1
        · rw [z1, z2]; exact inu
        · rw [z1, z2]; exact inv
    · exfalso
      rcases g4 with g4 | ⟨L, ww, rk2, hL, hb2, hlong, bk⟩
      · have := UN_det hN2 (g4 p q)
        simp at this
      · have hN3 : UN (E 3) (b ++ [(L, ww)]) p q (some bF) := UN_fwd (n := n) hP hb2 hN2 hn1 hn2 h15 h16 (fun r z => bk _ _ r z)
        obtain ⟨⟨c, ec⟩, _⟩ := UN_sol hN3
        have hl : lkp bF L = some ww := by rw [ec]; exact lkp_l (by rw [lkp_app1, if_pos hL, if_pos rfl])
        have := hbd L ww hl
        have l2 := sb_len_ge hT (sb (th b) ww)
        rw [sol_sb solb ww] at l2
        omega
  by_cases cA : 0 ≤ fw wu 0 ∧ fw wu 0 = fw wv 0
  · obtain ⟨cA0, cA1⟩ := cA
    obtain ⟨x, y, e1, e2, x0, x16, tx, ox, px0, px3⟩ := row_parts hP q3 q2 cA0
    obtain ⟨x', y', e1', e2', x0', x16', tx', ox', px0', px3'⟩ := row_parts hP s3 s2 (by omega)
    have exx : x = x' := by rw [e2, e2', cA1]
    subst exx
    have hN3 : UN (E 3) b (y ++ p) (y' ++ q) (some bF) := by
      rw [e1, e1'] at hN2
      rw [List.cons_append, List.cons_append] at hN2
      exact UN_fwd (n := (E 3 x).toNat + n) hP h3 hN2 (tws_app hP tx hn1) (tws_app hP tx' hn2) (lo40_app.2 ⟨ox.2.2.2, h15⟩) (lo40_app.2 ⟨ox'.2.2.2, h16⟩) (fun r z => UN_eq (by omega) z)
    have el : wu.length = 1 + y.length := by rw [e1]; simp; omega
    have el' : wv.length = 1 + y'.length := by rw [e1']; simp; omega
    have lM : (sb (th bF) wu).length = 1 + (sb (th bF) y).length := by rw [e1, sb_s x0]; simp; omega
    -- different places: disjoint, and cheaper below
    have below : iu ≠ ju → (iu + wu.length ≤ ju ∨ ju + wv.length ≤ iu) ∧ BM ((sb (th bF) y).length) / 2 + (E 3 x).toNat ≤ BM M / 2 := by
      intro hne
      constructor
      · rcases (by omega : iu < ju ∨ ju < iu) with z | z
        · by_cases z2 : ju < iu + wu.length
          · have := sub_lt hP hT q2 q3 s2 s3 z z2
            rw [eq] at this; omega
          · omega
        · by_cases z2 : iu < ju + wv.length
          · have := sub_lt hP hT s2 s3 q2 q3 z z2
            rw [eq] at this; omega
          · omega
      · have lx : tlT (E 3) (E 21) (th bF) iu = (sb (th bF) wu).length := tlT_eq q3 (by rw [← f21]; exact q2.2.2.1)
        have ly : tlT (E 3) (E 21) (th bF) ju = (sb (th bF) wu).length := by rw [eq]; exact tlT_eq s3 (by rw [← f21]; exact s2.2.2.1)
        have hx : E 21 iu = x := by rw [← f21, (onB_hd q2 (tw_ne q3)).1, ← e2]
        have hy : E 21 ju = x := by rw [← f21, (onB_hd s2 (tw_ne s3)).1, ← e2']
        have b2 := Bud_2 (P := E 3) (f := E 21) (T := th bF) (reg := regL r1 r2 t1 t2) (m := (sb (th bF) y).length) (M := (sb (th bF) wu).length) (inR_mem inu (by omega)) (inR_mem inv (by omega)) hne (by rw [hx]; exact x0) (by rw [hy]; exact x0) lx ly (by omega)
        have b3 := Bud_mono (P := E 3) (f := E 21) (T := th bF) (reg := regL r1 r2 t1 t2) (m := (sb (th bF) wu).length) (n := M) (by rw [lu]; exact h13)
        rw [hx, hy] at b2
        show Bud (E 3) (E 21) (th bF) (regL r1 r2 t1 t2) ((sb (th bF) y).length) / 2 + (E 3 x).toNat ≤ Bud (E 3) (E 21) (th bF) (regL r1 r2 t1 t2) M / 2
        omega
    have lyM : (sb (th bF) y).length < M := by rw [lu] at lM; omega
    have rows := wRow (d := d) (G := G) (E := E) (bF := bF) (r1 := r1) (r2 := r2) (t1 := t1) (t2 := t2) (M := (sb (th bF) y).length) (R := 3 * HH (BM ((sb (th bF) y).length) / 2)) (D := BM ((sb (th bF) y).length) / 2 + 1) (O := 3 * (BM ((sb (th bF) y).length) / 2)) hP (fun F b rk i j w w' p q op dp v7 a1 a2 a3 a4 a5 => ih _ lyM F b rk i j w w' p q op dp v7 a1 a2 a3 a4 a5)
    -- the parts, one below the other
    have parts : ∀ (F1 : Nat → Int → Int) (op1 dp1 : Nat) (v1 : Int), iu ≠ ju → fz uS E F1 → u20 E F1 → bdU F1 b → binR F1 b r1 r2 t1 t2 → 0 ≤ v1 → v1 + ((E 3 x).toNat * (3 * HH (BM ((sb (th bF) y).length) / 2)) : Nat) ≤ 999999 → op1 + 3 * (BM M / 2) ≤ 900 → dp1 + (BM ((sb (th bF) y).length) / 2 + 1) ≤ 127 ∨ (E 3 x).toNat = 0 → wOut d G E F1 (E 3) bF r1 r2 t1 t2 (iu + 1) (ju + 1) (op1 + (E 3 x).toNat) dp1 v1 (iu + wu.length) (ju + wv.length) op1 ((E 3 x).toNat * (3 * HH (BM ((sb (th bF) y).length) / 2))) p q := by
      intro F1 op1 dp1 v1 hne a1 a2 a3 a4 a5 a6 a7 a8
      have bl := below hne
      have g21 : F1 21 = F 21 := by rw [a1 21 (by simp [uS]), f21]
      have ew : iu + (wu.length : Int) = iu + 1 + y.length := by omega
      have ew' : ju + (wv.length : Int) = ju + 1 + y'.length := by omega
      rw [ew, ew']
      have win : wIn E F1 (E 3) bF b rk r1 r2 t1 t2 (iu + 1) (ju + 1) (E 3 x).toNat y y' p q (sb (th bF) y).length := ⟨a1, a2, h3, a3, a4, by unfold onB; rw [g21]; exact ox, tx, by unfold onB; rw [g21]; exact ox', tx', inR_sub inu (by omega) (by omega), inR_sub inv (by omega) (by omega), by omega, Nat.le_refl _, ⟨n, hn1, hn2⟩, h15, h16, hN3⟩
      by_cases z0 : (E 3 x).toNat = 0
      · rw [z0] at win tx tx' ⊢
        have ea := tws_0 tx
        have eb := tws_0 tx'
        subst ea; subst eb
        refine ⟨F1, b, rk, v1, by omega, by omega, fun kz Q z => ?_, a1, a2, fun _ _ => ⟨rfl, rfl, rfl⟩, h3, a3, a4, ?_⟩
        · simpa using z
        · simpa using hN3
      · exact rows (E 3 x).toNat F1 b rk (iu + 1) (ju + 1) y y' p q op1 dp1 v1 win a5 a6 (by omega) (by omega)
    by_cases cB : iu = i ∧ ju = j
    · -- walk
      have ew : wu = w := by
        rcases ri with z | ⟨z, _⟩
        · exact z.2
        · exact absurd cB.1 z
      have ew' : wv = w' := by
        rcases rj with z | ⟨z, _⟩
        · exact z.2
        · exact absurd cB.2 z
      obtain ⟨ci, cj⟩ := cB
      subst ci; subst cj
      have hne : iu ≠ ju := by rw [← ew, ← ew'] at h12; omega
      have bl := below hne
      have hh := HH_a (n := BM M / 2) (m := BM ((sb (th bF) y).length) / 2) (a := (E 3 x).toNat) (by omega) bl.2
      have mul : (E 3 x).toNat * (3 * HH (BM ((sb (th bF) y).length) / 2)) = 3 * ((E 3 x).toNat * HH (BM ((sb (th bF) y).length) / 2)) := Nat.mul_left_comm _ _ _
      obtain ⟨F', b2, rk2, v2, c1, c2, c3, c4⟩ := parts F op dp (v7 + 1) hne h1 h2 h4 h5 (by omega) (by rw [mul]; have : v7 + ((3 * HH (BM M / 2) : Nat) : Int) ≤ 999999 := hv; omega) ho (by left; have : dp + (BM M / 2 + 1) ≤ 127 := hd; omega)
      rw [mul] at c2
      refine ⟨F', b2, rk2, v2, by omega, by show v2 ≤ v7 + ((3 * HH (BM M / 2) : Nat) : Int); omega, fun kz Q z => pre kz Q (fun _ _ _ _ => ?_) (fun _ _ z => absurd cA1 z) (fun _ _ _ z => absurd ⟨rfl, rfl⟩ z) (fun _ z => absurd ⟨cA0, cA1, rfl, rfl⟩ z), c4⟩
      have e6 : ((op + 1 : Nat) : Int) + (E 3 (fw wu 0) - 1) = ((op + (E 3 x).toNat : Nat) : Int) := by rw [← e2]; omega
      rw [e6]
      refine c3 kz Q ?_
      rw [ew, ew']
      exact z
    · by_cases cC : iu = ju
      · exact met (Or.inr (Or.inr cC)) (fun z => cB z.2.2)
      · -- down
        have bl := below cC
        have hh := HH_a (n := BM M / 2) (m := BM ((sb (th bF) y).length) / 2) (a := (E 3 x).toNat) (by omega) bl.2
        have mul : (E 3 x).toNat * (3 * HH (BM ((sb (th bF) y).length) / 2)) = 3 * ((E 3 x).toNat * HH (BM ((sb (th bF) y).length) / 2)) := Nat.mul_left_comm _ _ _
        have hv' : v7 + ((3 * HH (BM M / 2) : Nat) : Int) ≤ 999999 := hv
        have hd' : dp + (BM M / 2 + 1) ≤ 127 := hd
        have ho' : op + 3 * (BM M / 2) ≤ 900 := ho
        let F1 := zuE F 24 (dp : Int) (i + w.length)
        let F2 := zuE F1 25 (dp : Int) (j + w'.length)
        let F3 := zuE F2 26 (dp : Int) (((op + 1 : Nat) : Int) - 1)
        have g1 : fz [24, 25, 26] F F3 := fz_put (fz_put (fz_put fz_rfl (by simp)) (by simp)) (by simp)
        have a24 : F3 24 dp = i + w.length := (zuE_ne (by decide) _).trans ((zuE_ne (by decide) _).trans zuE_same)
        have a25 : F3 25 dp = j + w'.length := (zuE_ne (by decide) _).trans zuE_same
        have a26 : F3 26 dp = op := by
          have : F3 26 dp = ((op + 1 : Nat) : Int) - 1 := zuE_same
          rw [this]; omega
        have hU3 : bdU F3 b := bdU_fz h4 g1 (by rw [g1 20 (by simp)]) (by simp) (by simp) (by simp)
        have hR3 : binR F3 b r1 r2 t1 t2 := fun L u hu => by rw [g1 22 (by simp)]; exact h5 L u hu
        have hf3 : fz uS E F3 := fz_trans h1 (fz_mono g1 (by simp [uS]))
        have h203 : u20 E F3 := u20_t h2 (fun k _ _ _ _ => by rw [g1 20 (by simp)])
        have e3 : F3 3 = E 3 := hf3 3 (by simp [uS])
        obtain ⟨iu2, ju2, wu2, wv2, _, _, _, _, _, _, _, _, _, ri2, rj2, pre2⟩ := round_pre (E := F3) (b := b) (rk := rk) (i := iu) (j := ju) (w := wu) (w' := wv) (v5 := 1) (v6 := (dp : Int) + 1) (v7 := v7 + 1) hX (by rw [e3]; exact hP) (by rw [e3]; exact h3) hU3 (onB_fz q2 g1 (by simp)) (by rw [e3]; exact q3) (onB_fz s2 g1 (by simp)) (by rw [e3]; exact s3) (by omega) (by omega) (by omega) (by omega) (by omega)
        have k1 : iu2 = iu ∧ wu2 = wu := by
          rcases ri2 with z | ⟨_, z, _⟩
          · exact z
          · exact absurd z q4
        have k2 : ju2 = ju ∧ wv2 = wv := by
          rcases rj2 with z | ⟨_, z, _⟩
          · exact z
          · exact absurd z s4
        rw [k1.1, k1.2, k2.1, k2.2, e3] at pre2
        obtain ⟨F', b2, rk2, v2, c1, c2, c3, c4, c5, c6, c7⟩ := parts F3 0 (dp + 1) (v7 + 1 + 1) cC hf3 h203 hU3 hR3 (by omega) (by rw [mul]; omega) (by omega) (by omega)
        rw [mul] at c2
        have b24 := c6 dp (by omega)
        refine ⟨F', b2, rk2, v2 + 1, by omega, by show v2 + 1 ≤ v7 + ((3 * HH (BM M / 2) : Nat) : Int); omega, fun kz Q z => pre kz Q (fun _ _ a3 a4 => absurd ⟨a3, a4⟩ cB) (fun _ _ z => absurd cA1 z) (fun _ _ _ _ => ⟨fun _ => ?_, fun y => absurd (by omega) y⟩) (fun y _ => ?_), c4, c5, fun k hk => ?_, c7⟩
        · refine pre2 kz Q (fun _ _ _ _ => ?_) (fun _ _ z => absurd cA1 z) (fun _ _ _ z => absurd ⟨rfl, rfl⟩ z) (fun _ z => absurd ⟨cA0, cA1, rfl, rfl⟩ z)
          have e6 : (1 : Int) + (E 3 (fw wu 0) - 1) = ((0 + (E 3 x).toNat : Nat) : Int) := by rw [← e2]; omega
          have e7 : (dp : Int) + 1 = ((dp + 1 : Nat) : Int) := by omega
          rw [e6, e7]
          refine c3 kz Q (X9_widen_19 hX ⟨fun y => absurd y (by omega), fun _ => ⟨fun y => absurd rfl y, fun _ => ⟨fun _ => ?_, fun y => absurd (by omega) y⟩⟩⟩)
          have e8 : (((dp + 1 : Nat) : Int) + (-1)) = dp := by omega
          rw [e8, b24.1, b24.2.1, b24.2.2, a24, a25, a26]
          exact ⟨zin_of (by omega) (by omega), ⟨by omega, by omega⟩, ⟨by omega, by omega⟩, ⟨by omega, by omega⟩, zin_of (by omega) (by omega), z⟩
        · exfalso
          rcases y with y | y | y
          · omega
          · omega
          · exact cC y
        · obtain ⟨y1, y2, y3⟩ := c6 k (by omega)
          refine ⟨y1.trans ?_, y2.trans ?_, y3.trans ?_⟩
          · exact (zuE_ne (by decide) _).trans ((zuE_ne (by decide) _).trans (zuE_ix (by omega)))
          · exact (zuE_ne (by decide) _).trans ((zuE_ix (by omega)).trans (zuE_ne (by decide) _))
          · exact (zuE_ix (by omega)).trans ((zuE_ne (by decide) _).trans (zuE_ne (by decide) _))
  · by_cases cE : fw wu 0 < 0 ∨ fw wv 0 < 0
    · exact met (by omega) (fun z => cA ⟨z.1, z.2.1⟩)
    · exfalso
      have cF : fw wu 0 ≠ fw wv 0 := fun z => cA ⟨by omega, z⟩
      obtain ⟨a, wu', rfl⟩ := List.exists_cons_of_ne_nil (tw_ne q3)
      obtain ⟨a', wv', rfl⟩ := List.exists_cons_of_ne_nil (tw_ne s3)
      rw [fw_c0] at cE cF
      rw [fw_c0] at cE cF
      have := UN_det hN2 (by rw [List.cons_append, List.cons_append]; exact UN_ne (by omega) (by omega) cF)
      simp at this
end RI
