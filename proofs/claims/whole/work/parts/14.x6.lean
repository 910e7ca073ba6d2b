set_option maxRecDepth 20000 in
theorem X6_weigh_0 {kz : Nat × Nat} {Q : Option zV → zH → Prop} {d : List Nat} {G : Nat → Int → Option Nat} {E : Nat → Int → Int} {a1 n1 : Nat} {v2 : Int} {v3 : Int} (hX : zK zXt d G) (ha1 : a1 ∈ d) (hk1 : zkd a1 = (0, n1)) (K : Z zm_X6_weigh kz Q 6 [(0, zR 18), (1, zR a1), (3, zI v3), (4, zI 0), (5, zI v2)] [] (d, G, E)) : Z zm_X6_weigh kz Q 0 [(0, zR 18), (1, zR a1), (2, zI v2), (3, zI v3)] [] (d, G, E) := by
  refine Z.iconst (n := 0) dX6_weigh_0 ⟨by decide, by decide⟩ ?_
  refine Z.istore (ls' := [(4, zI 0), (0, zR 18), (1, zR a1), (2, zI v2), (3, zI v3)]) dX6_weigh_1 (by decide) rfl ?_
  refine Z.iload_n (k := 3) dX6_weigh_3 rfl ?_
  refine Z.istore (ls' := [(5, zI v2), (4, zI 0), (0, zR 18), (1, zR a1), (2, zI v2), (3, zI v3)]) dX6_weigh_4 (by decide) rfl ?_
  refine Z.pick (ls' := [(0, zR 18), (1, zR a1), (3, zI v3), (4, zI 0), (5, zI v2)]) [2, 3, 5, 1, 0] rfl ?_
  exact K
set_option maxRecDepth 20000 in
theorem X6_weigh_6 {kz : Nat × Nat} {Q : Option zV → zH → Prop} {d : List Nat} {G : Nat → Int → Option Nat} {E : Nat → Int → Int} {a1 n1 : Nat} {v3 : Int} {v4 : Int} {v5 : Int} (hX : zK zXt d G) (ha1 : a1 ∈ d) (hk1 : zkd a1 = (0, n1)) (K : (v3 ≤ v5 → Q (some (zI v4)) (d, G, E)) ∧ (¬ (v3 ≤ v5) → ((0 : Int) ≤ v5 ∧ v5 < n1) ∧ ∃ x3, zM zm_X8_weightOf [zR 1, zI ((E a1 v5))] (d, G, E) (some (zI x3)) (d, G, E) ∧ zin (v4 + x3) ∧ zin (v5 + 1) ∧ Z zm_X6_weigh kz Q 6 [(0, zR 18), (1, zR a1), (3, zI v3), (4, zI ((v4 + x3))), (5, zI ((v5 + 1)))] [] (d, G, E))) : Z zm_X6_weigh kz Q 6 [(0, zR 18), (1, zR a1), (3, zI v3), (4, zI v4), (5, zI v5)] [] (d, G, E) := by
  refine Z.iload (k := 4) dX6_weigh_6 rfl ?_
  refine Z.iload_n (k := 2) dX6_weigh_8 rfl ?_
  refine Z.icmp_ge 34 dX6_weigh_9 rfl ⟨fun c1 => ?_, fun c1 => ?_⟩
  · replace K := K.1 c1
    refine Z.iload (k := 3) dX6_weigh_34 rfl ?_
    exact Z.iret (ty := .int) dX6_weigh_36 rfl rfl K
  · replace K := K.2 c1
    refine Z.iload (k := 3) dX6_weigh_12 rfl ?_
    refine Z.aload_n (k := 0) dX6_weigh_14 rfl ?_
    refine Y.getR (o := some 1) 0 dX6_weigh_15 zl_X6_26 (rfl) (by decide) rfl (zX_0_5 hX).2.2 (zX_18_0 hX).1 ?_
    refine Z.aload_n (k := 1) dX6_weigh_18 rfl ?_
    refine Z.iload (k := 4) dX6_weigh_19 rfl ?_
    obtain ⟨z2, K⟩ := K
    refine Y.iald dX6_weigh_21 (hk1) (ha1) z2 ?_
    obtain ⟨x3, m4, K⟩ := K
    refine Y.callV (g := zm_X8_weightOf) (vs := [zI ((E a1 v5))]) (st := [zI v4]) dX6_weigh_22 ⟨zg_X8_weightOf.1, zg_X8_weightOf.2.1, zg_X8_weightOf.2.2, by decide⟩ ⟨zk_X6_30, zv_X8_weightOf⟩ (ci := 8) (rfl) rfl ((zX_0_0 hX).2.2) rfl rfl (Nat.le_of_ble_eq_true rfl) m4 (Or.inl rfl) ?_
    show Z zm_X6_weigh kz Q 25 [(0, zR 18), (1, zR a1), (3, zI v3), (4, zI v4), (5, zI v5)] [zI x3, zI v4] (d, G, E)
    obtain ⟨z6, K⟩ := K
    refine Z.iadd dX6_weigh_25 z6 ?_
    refine Z.istore (ls' := [(4, zI ((v4 + x3))), (0, zR 18), (1, zR a1), (3, zI v3), (5, zI v5)]) dX6_weigh_26 (by decide) rfl ?_
    obtain ⟨z7, K⟩ := K
    refine Z.iinc (k := 4) (ls' := [(5, zI ((v5 + 1))), (4, zI ((v4 + x3))), (0, zR 18), (1, zR a1), (3, zI v3)]) dX6_weigh_28 rfl (by decide) z7 rfl ?_
    refine Z.goto 6 dX6_weigh_31 rfl ?_
    refine Z.pick (ls' := [(0, zR 18), (1, zR a1), (3, zI v3), (4, zI ((v4 + x3))), (5, zI ((v5 + 1)))]) [2, 3, 4, 1, 0] rfl ?_
    exact K
set_option maxRecDepth 20000 in
theorem X6_tally_0 {kz : Nat × Nat} {Q : Option zV → zH → Prop} {d : List Nat} {G : Nat → Int → Option Nat} {E : Nat → Int → Int} {a1 n1 : Nat} {v2 : Int} {v3 : Int} {v4 : Int} (hX : zK zXt d G) (ha1 : a1 ∈ d) (hk1 : zkd a1 = (0, n1)) (K : Z zm_X6_tally kz Q 3 [(0, zR 18), (1, zR a1), (3, zI v3), (4, zI v4), (5, zI v2)] [] (d, G, E)) : Z zm_X6_tally kz Q 0 [(0, zR 18), (1, zR a1), (2, zI v2), (3, zI v3), (4, zI v4)] [] (d, G, E) := by
  refine Z.iload_n (k := 2) dX6_tally_0 rfl ?_
  refine Z.istore (ls' := [(5, zI v2), (0, zR 18), (1, zR a1), (2, zI v2), (3, zI v3), (4, zI v4)]) dX6_tally_1 (by decide) rfl ?_
  refine Z.pick (ls' := [(0, zR 18), (1, zR a1), (3, zI v3), (4, zI v4), (5, zI v2)]) [1, 2, 4, 5, 0] rfl ?_
  exact K
set_option maxRecDepth 20000 in
theorem X6_tally_3 {kz : Nat × Nat} {Q : Option zV → zH → Prop} {d : List Nat} {G : Nat → Int → Option Nat} {E : Nat → Int → Int} {a1 n1 : Nat} {v3 : Int} {v4 : Int} {v5 : Int} (hX : zK zXt d G) (ha1 : a1 ∈ d) (hk1 : zkd a1 = (0, n1)) (K : (v3 ≤ v5 → Q none (d, G, E)) ∧ (¬ (v3 ≤ v5) → ((0 : Int) ≤ v5 ∧ v5 < n1) ∧ ∃ x3, zM zm_X8_weightOf [zR 1, zI ((E a1 v5))] (d, G, E) (some (zI x3)) (d, G, E) ∧ zin (v4 * x3) ∧ zin ((E 18 2) + (v4 * x3)) ∧ ∀ E8, E8 = zuE E 18 2 (((E 18 2) + (v4 * x3))) → (0 ≤ (E a1 v5) → zin (v5 + 1) ∧ Z zm_X6_tally kz Q 3 [(0, zR 18), (1, zR a1), (3, zI v3), (4, zI v4), (5, zI ((v5 + 1)))] [] (d, G, E8)) ∧ (¬ (0 ≤ (E a1 v5)) → zin ((-1) - (E a1 v5)) ∧ (40 ≤ ((-1) - (E a1 v5)) → zin (v5 + 1) ∧ Z zm_X6_tally kz Q 3 [(0, zR 18), (1, zR a1), (3, zI v3), (4, zI v4), (5, zI ((v5 + 1)))] [] (d, G, E8)) ∧ (¬ (40 ≤ ((-1) - (E a1 v5))) → zin ((-1) - (E a1 v5)) ∧ ((0 : Int) ≤ ((-1) - (E a1 v5)) ∧ ((-1) - (E a1 v5)) < 40) ∧ zin ((E8 19 ((-1) - (E a1 v5))) + v4) ∧ ((0 : Int) ≤ ((-1) - (E a1 v5)) ∧ ((-1) - (E a1 v5)) < 40) ∧ ∀ E18, E18 = zuE E8 19 (((-1) - (E a1 v5))) (((E8 19 ((-1) - (E a1 v5))) + v4)) → zin (v5 + 1) ∧ Z zm_X6_tally kz Q 3 [(0, zR 18), (1, zR a1), (3, zI v3), (4, zI v4), (5, zI ((v5 + 1)))] [] (d, G, E18))))) : Z zm_X6_tally kz Q 3 [(0, zR 18), (1, zR a1), (3, zI v3), (4, zI v4), (5, zI v5)] [] (d, G, E) := by
  refine Z.iload (k := 4) dX6_tally_3 rfl ?_
  refine Z.iload_n (k := 2) dX6_tally_5 rfl ?_
  refine Z.icmp_ge 73 dX6_tally_6 rfl ⟨fun c1 => ?_, fun c1 => ?_⟩
  · replace K := K.1 c1
    exact Z.vret dX6_tally_73 rfl K
  · replace K := K.2 c1
    refine Z.aload_n (k := 1) dX6_tally_9 rfl ?_
    refine Z.iload (k := 4) dX6_tally_10 rfl ?_
    obtain ⟨z2, K⟩ := K
    refine Y.iald dX6_tally_12 (hk1) (ha1) z2 ?_
    refine Z.istore (ls' := [(6, zI ((E a1 v5))), (0, zR 18), (1, zR a1), (3, zI v3), (4, zI v4), (5, zI v5)]) dX6_tally_13 (by decide) rfl ?_
    refine Z.aload_n (k := 1) dX6_tally_15 rfl ?_
    refine Z.dup_i dX6_tally_16 (fun _ => rfl) ?_
    refine Y.getI 2 dX6_tally_17 zl_X6_15 (rfl) (by decide) rfl (zX_0_5 hX).2.2 ?_
    refine Z.iload (k := 4) dX6_tally_20 rfl ?_
    refine Z.aload_n (k := 1) dX6_tally_22 rfl ?_
    refine Y.getR (o := some 1) 0 dX6_tally_23 zl_X6_26 (rfl) (by decide) rfl (zX_0_5 hX).2.2 (zX_18_0 hX).1 ?_
    refine Z.iload (k := 0) dX6_tally_26 rfl ?_
    obtain ⟨x3, m4, K⟩ := K
    refine Y.callV (g := zm_X8_weightOf) (vs := [zI ((E a1 v5))]) (st := [zI v4, zI ((E 18 2)), zR 18]) dX6_tally_28 ⟨zg_X8_weightOf.1, zg_X8_weightOf.2.1, zg_X8_weightOf.2.2, by decide⟩ ⟨zk_X6_30, zv_X8_weightOf⟩ (ci := 8) (rfl) rfl ((zX_0_0 hX).2.2) rfl rfl (Nat.le_of_ble_eq_true rfl) m4 (Or.inl rfl) ?_
    show Z zm_X6_tally kz Q 31 [(6, zI ((E a1 v5))), (0, zR 18), (1, zR a1), (3, zI v3), (4, zI v4), (5, zI v5)] [zI x3, zI v4, zI ((E 18 2)), zR 18] (d, G, E)
    obtain ⟨z6, K⟩ := K
    refine Z.imul dX6_tally_31 z6 ?_
    obtain ⟨z7, K⟩ := K
    refine Z.iadd dX6_tally_32 z7 ?_
    refine Y.putI 2 dX6_tally_33 zw_X6_15 (fun q => by cases q) (rfl) rfl (zX_0_5 hX).2.2 (Or.inl rfl) ?_
    generalize eE8 : zuE E 18 2 (((E 18 2) + (v4 * x3))) = E8
    replace K := K E8 eE8.symm
    refine Z.iload (k := 0) dX6_tally_36 rfl ?_
    refine Z.if_ge 67 dX6_tally_38 rfl ⟨fun c9 => ?_, fun c9 => ?_⟩
    · replace K := K.1 c9
      obtain ⟨z10, K⟩ := K
      refine Z.iinc (k := 5) (ls' := [(5, zI ((v5 + 1))), (6, zI ((E a1 v5))), (0, zR 18), (1, zR a1), (3, zI v3), (4, zI v4)]) dX6_tally_67 rfl (by decide) z10 rfl ?_
      refine Z.goto 3 dX6_tally_70 rfl ?_
      refine Z.pick (ls' := [(0, zR 18), (1, zR a1), (3, zI v3), (4, zI v4), (5, zI ((v5 + 1)))]) [2, 3, 4, 5, 0] rfl ?_
      exact K
    · replace K := K.2 c9
      refine Z.iconst (n := -1) dX6_tally_41 ⟨by decide, by decide⟩ ?_
      refine Z.iload (k := 0) dX6_tally_42 rfl ?_
      obtain ⟨z11, K⟩ := K
      refine Z.isub dX6_tally_44 z11 ?_
      refine Z.aload_n (k := 1) dX6_tally_45 rfl ?_
      refine Y.getR (o := some 19) 1 dX6_tally_46 zl_X6_9 (rfl) (by decide) rfl (zX_0_5 hX).2.2 (zX_18_1 hX).1 ?_
      refine Y.alen 40 40 dX6_tally_49 (rfl) ((zX_18_1 hX).2.2) rfl ⟨by decide, by decide⟩ ?_
      refine Z.icmp_ge 67 dX6_tally_50 rfl ⟨fun c12 => ?_, fun c12 => ?_⟩
      · replace K := K.1 c12
        obtain ⟨z13, K⟩ := K
        refine Z.iinc (k := 5) (ls' := [(5, zI ((v5 + 1))), (6, zI ((E a1 v5))), (0, zR 18), (1, zR a1), (3, zI v3), (4, zI v4)]) dX6_tally_67 rfl (by decide) z13 rfl ?_
        refine Z.goto 3 dX6_tally_70 rfl ?_
        refine Z.pick (ls' := [(0, zR 18), (1, zR a1), (3, zI v3), (4, zI v4), (5, zI ((v5 + 1)))]) [2, 3, 4, 5, 0] rfl ?_
        exact K
      · replace K := K.2 c12
        refine Z.aload_n (k := 1) dX6_tally_53 rfl ?_
        refine Y.getR (o := some 19) 1 dX6_tally_54 zl_X6_9 (rfl) (by decide) rfl (zX_0_5 hX).2.2 (zX_18_1 hX).1 ?_
        refine Z.iconst (n := -1) dX6_tally_57 ⟨by decide, by decide⟩ ?_
        refine Z.iload (k := 0) dX6_tally_58 rfl ?_
        obtain ⟨z14, K⟩ := K
        refine Z.isub dX6_tally_60 z14 ?_
        refine Z.dup2_i dX6_tally_61 (fun _ => rfl) (fun _ => rfl) ?_
        obtain ⟨z15, K⟩ := K
        refine Y.iald dX6_tally_62 (rfl) ((zX_18_1 hX).2.2) z15 ?_
        refine Z.iload (k := 4) dX6_tally_63 rfl ?_
        obtain ⟨z16, K⟩ := K
        refine Z.iadd dX6_tally_65 z16 ?_
        obtain ⟨z17, K⟩ := K
        refine Y.iast dX6_tally_66 (rfl) ((zX_18_1 hX).2.2) z17 ?_
        generalize eE18 : zuE E8 19 (((-1) - (E a1 v5))) (((E8 19 ((-1) - (E a1 v5))) + v4)) = E18
        replace K := K E18 eE18.symm
        obtain ⟨z19, K⟩ := K
        refine Z.iinc (k := 5) (ls' := [(5, zI ((v5 + 1))), (6, zI ((E a1 v5))), (0, zR 18), (1, zR a1), (3, zI v3), (4, zI v4)]) dX6_tally_67 rfl (by decide) z19 rfl ?_
        refine Z.goto 3 dX6_tally_70 rfl ?_
        refine Z.pick (ls' := [(0, zR 18), (1, zR a1), (3, zI v3), (4, zI v4), (5, zI ((v5 + 1)))]) [2, 3, 4, 5, 0] rfl ?_
        exact K
set_option maxRecDepth 20000 in
theorem X6_settleSurplus_0 {kz : Nat × Nat} {Q : Option zV → zH → Prop} {d : List Nat} {G : Nat → Int → Option Nat} {E : Nat → Int → Int} {a1 n1 : Nat} {v2 : Int} {v3 : Int} (hX : zK zXt d G) (ha1 : a1 ∈ d) (hk1 : zkd a1 = (0, n1)) (K : Z zm_X6_settleSurplus kz Q 3 [(0, zR 18), (1, zR a1), (3, zI v3), (4, zI v2)] [] (d, G, E)) : Z zm_X6_settleSurplus kz Q 0 [(0, zR 18), (1, zR a1), (2, zI v2), (3, zI v3)] [] (d, G, E) := by
  refine Z.iload_n (k := 2) dX6_settleSurplus_0 rfl ?_
  refine Z.istore (ls' := [(4, zI v2), (0, zR 18), (1, zR a1), (2, zI v2), (3, zI v3)]) dX6_settleSurplus_1 (by decide) rfl ?_
  refine Z.pick (ls' := [(0, zR 18), (1, zR a1), (3, zI v3), (4, zI v2)]) [1, 2, 4, 0] rfl ?_
  exact K
set_option maxRecDepth 20000 in
theorem X6_settleSurplus_3 {kz : Nat × Nat} {Q : Option zV → zH → Prop} {d : List Nat} {G : Nat → Int → Option Nat} {E : Nat → Int → Int} {a1 n1 : Nat} {v3 : Int} {v4 : Int} (hX : zK zXt d G) (ha1 : a1 ∈ d) (hk1 : zkd a1 = (0, n1)) (K : (v3 ≤ v4 → Q none (d, G, E)) ∧ (¬ (v3 ≤ v4) → ((0 : Int) ≤ v4 ∧ v4 < n1) ∧ zin ((-1) - (E a1 v4)) ∧ (((-1) - (E a1 v4)) < 0 → zin (v4 + 1) ∧ Z zm_X6_settleSurplus kz Q 3 [(0, zR 18), (1, zR a1), (3, zI v3), (4, zI ((v4 + 1)))] [] (d, G, E)) ∧ (¬ (((-1) - (E a1 v4)) < 0) → (40 ≤ ((-1) - (E a1 v4)) → zin (v4 + 1) ∧ Z zm_X6_settleSurplus kz Q 3 [(0, zR 18), (1, zR a1), (3, zI v3), (4, zI ((v4 + 1)))] [] (d, G, E)) ∧ (¬ (40 ≤ ((-1) - (E a1 v4))) → ((E 18 3) = 0 → Z zm_X6_settleSurplus kz Q 54 [(0, zR 18), (1, zR a1), (3, zI v3), (4, zI v4), (5, zI (((-1) - (E a1 v4))))] [zR 18] (d, G, E)) ∧ (¬ ((E 18 3) = 0) → ((0 : Int) ≤ ((-1) - (E a1 v4)) ∧ ((-1) - (E a1 v4)) < 40) ∧ ((E 19 ((-1) - (E a1 v4))) < 0 → Z zm_X6_settleSurplus kz Q 54 [(0, zR 18), (1, zR a1), (3, zI v3), (4, zI v4), (5, zI (((-1) - (E a1 v4))))] [zR 18] (d, G, E)) ∧ (¬ ((E 19 ((-1) - (E a1 v4))) < 0) → ∀ E11, E11 = zuE E 18 3 1 → ((E11 18 4) = 0 → ∀ E13, E13 = zuE E11 18 4 0 → ((0 : Int) ≤ ((-1) - (E a1 v4)) ∧ ((-1) - (E a1 v4)) < 40) ∧ ∀ E15, E15 = zuE E13 19 (((-1) - (E a1 v4))) 0 → zin (v4 + 1) ∧ Z zm_X6_settleSurplus kz Q 3 [(0, zR 18), (1, zR a1), (3, zI v3), (4, zI ((v4 + 1)))] [] (d, G, E15)) ∧ (¬ ((E11 18 4) = 0) → ((0 : Int) ≤ ((-1) - (E a1 v4)) ∧ ((-1) - (E a1 v4)) < 40) ∧ (0 < (E11 19 ((-1) - (E a1 v4))) → ∀ E19, E19 = zuE E11 18 4 0 → ((0 : Int) ≤ ((-1) - (E a1 v4)) ∧ ((-1) - (E a1 v4)) < 40) ∧ ∀ E21, E21 = zuE E19 19 (((-1) - (E a1 v4))) 0 → zin (v4 + 1) ∧ Z zm_X6_settleSurplus kz Q 3 [(0, zR 18), (1, zR a1), (3, zI v3), (4, zI ((v4 + 1)))] [] (d, G, E21)) ∧ (¬ (0 < (E11 19 ((-1) - (E a1 v4)))) → ∀ E23, E23 = zuE E11 18 4 1 → ((0 : Int) ≤ ((-1) - (E a1 v4)) ∧ ((-1) - (E a1 v4)) < 40) ∧ ∀ E25, E25 = zuE E23 19 (((-1) - (E a1 v4))) 0 → zin (v4 + 1) ∧ Z zm_X6_settleSurplus kz Q 3 [(0, zR 18), (1, zR a1), (3, zI v3), (4, zI ((v4 + 1)))] [] (d, G, E25))))))))) : Z zm_X6_settleSurplus kz Q 3 [(0, zR 18), (1, zR a1), (3, zI v3), (4, zI v4)] [] (d, G, E) := by
  refine Z.iload (k := 3) dX6_settleSurplus_3 rfl ?_
  refine Z.iload_n (k := 2) dX6_settleSurplus_5 rfl ?_
  refine Z.icmp_ge 98 dX6_settleSurplus_6 rfl ⟨fun c1 => ?_, fun c1 => ?_⟩
  · replace K := K.1 c1
    exact Z.vret dX6_settleSurplus_98 rfl K
  · replace K := K.2 c1
    refine Z.iconst (n := -1) dX6_settleSurplus_9 ⟨by decide, by decide⟩ ?_
    refine Z.aload_n (k := 1) dX6_settleSurplus_10 rfl ?_
    refine Z.iload (k := 3) dX6_settleSurplus_11 rfl ?_
    obtain ⟨z2, K⟩ := K
    refine Y.iald dX6_settleSurplus_13 (hk1) (ha1) z2 ?_
    obtain ⟨z3, K⟩ := K
    refine Z.isub dX6_settleSurplus_14 z3 ?_
    refine Z.istore (ls' := [(5, zI (((-1) - (E a1 v4)))), (0, zR 18), (1, zR a1), (3, zI v3), (4, zI v4)]) dX6_settleSurplus_15 (by decide) rfl ?_
    refine Z.iload (k := 0) dX6_settleSurplus_17 rfl ?_
    refine Z.if_lt 92 dX6_settleSurplus_19 rfl ⟨fun c4 => ?_, fun c4 => ?_⟩
    · replace K := K.1 c4
      obtain ⟨z5, K⟩ := K
      refine Z.iinc (k := 4) (ls' := [(4, zI ((v4 + 1))), (5, zI (((-1) - (E a1 v4)))), (0, zR 18), (1, zR a1), (3, zI v3)]) dX6_settleSurplus_92 rfl (by decide) z5 rfl ?_
      refine Z.goto 3 dX6_settleSurplus_95 rfl ?_
      refine Z.pick (ls' := [(0, zR 18), (1, zR a1), (3, zI v3), (4, zI ((v4 + 1)))]) [2, 3, 4, 0] rfl ?_
      exact K
    · replace K := K.2 c4
      refine Z.iload (k := 0) dX6_settleSurplus_22 rfl ?_
      refine Z.aload_n (k := 1) dX6_settleSurplus_24 rfl ?_
      refine Y.getR (o := some 19) 1 dX6_settleSurplus_25 zl_X6_9 (rfl) (by decide) rfl (zX_0_5 hX).2.2 (zX_18_1 hX).1 ?_
      refine Y.alen 40 40 dX6_settleSurplus_28 (rfl) ((zX_18_1 hX).2.2) rfl ⟨by decide, by decide⟩ ?_
      refine Z.icmp_ge 92 dX6_settleSurplus_29 rfl ⟨fun c6 => ?_, fun c6 => ?_⟩
      · replace K := K.1 c6
        obtain ⟨z7, K⟩ := K
        refine Z.iinc (k := 4) (ls' := [(4, zI ((v4 + 1))), (5, zI (((-1) - (E a1 v4)))), (0, zR 18), (1, zR a1), (3, zI v3)]) dX6_settleSurplus_92 rfl (by decide) z7 rfl ?_
        refine Z.goto 3 dX6_settleSurplus_95 rfl ?_
        refine Z.pick (ls' := [(0, zR 18), (1, zR a1), (3, zI v3), (4, zI ((v4 + 1)))]) [2, 3, 4, 0] rfl ?_
        exact K
      · replace K := K.2 c6
        refine Z.aload_n (k := 1) dX6_settleSurplus_32 rfl ?_
        refine Z.aload_n (k := 1) dX6_settleSurplus_33 rfl ?_
        refine Y.getI 3 dX6_settleSurplus_34 zl_X6_19 (rfl) (by decide) rfl (zX_0_5 hX).2.2 ?_
        refine Z.if_eq 54 dX6_settleSurplus_37 rfl ⟨fun c8 => ?_, fun c8 => ?_⟩
        · replace K := K.1 c8
          refine Z.pick (ls' := [(0, zR 18), (1, zR a1), (3, zI v3), (4, zI v4), (5, zI (((-1) - (E a1 v4))))]) [1, 2, 3, 4, 0] rfl ?_
          exact K
        · replace K := K.2 c8
          refine Z.aload_n (k := 1) dX6_settleSurplus_40 rfl ?_
          refine Y.getR (o := some 19) 1 dX6_settleSurplus_41 zl_X6_9 (rfl) (by decide) rfl (zX_0_5 hX).2.2 (zX_18_1 hX).1 ?_
          refine Z.iload (k := 0) dX6_settleSurplus_44 rfl ?_
          obtain ⟨z9, K⟩ := K
          refine Y.iald dX6_settleSurplus_46 (rfl) ((zX_18_1 hX).2.2) z9 ?_
          refine Z.if_lt 54 dX6_settleSurplus_47 rfl ⟨fun c10 => ?_, fun c10 => ?_⟩
          · replace K := K.1 c10
            refine Z.pick (ls' := [(0, zR 18), (1, zR a1), (3, zI v3), (4, zI v4), (5, zI (((-1) - (E a1 v4))))]) [1, 2, 3, 4, 0] rfl ?_
            exact K
          · replace K := K.2 c10
            refine Z.iconst (n := 1) dX6_settleSurplus_50 ⟨by decide, by decide⟩ ?_
            refine Z.goto 55 dX6_settleSurplus_51 rfl ?_
            refine Y.putI 3 dX6_settleSurplus_55 zw_X6_19 (fun q => by cases q) (rfl) rfl (zX_0_5 hX).2.2 (Or.inr ⟨rfl, by decide⟩) ?_
            generalize eE11 : zuE E 18 3 1 = E11
            replace K := K E11 eE11.symm
            refine Z.aload_n (k := 1) dX6_settleSurplus_58 rfl ?_
            refine Z.aload_n (k := 1) dX6_settleSurplus_59 rfl ?_
            refine Y.getI 4 dX6_settleSurplus_60 zl_X6_23 (rfl) (by decide) rfl (zX_0_5 hX).2.2 ?_
            refine Z.if_eq 80 dX6_settleSurplus_63 rfl ⟨fun c12 => ?_, fun c12 => ?_⟩
            · replace K := K.1 c12
              refine Z.iconst (n := 0) dX6_settleSurplus_80 ⟨by decide, by decide⟩ ?_
              refine Y.putI 4 dX6_settleSurplus_81 zw_X6_23 (fun q => by cases q) (rfl) rfl (zX_0_5 hX).2.2 (Or.inr ⟨rfl, by decide⟩) ?_
              generalize eE13 : zuE E11 18 4 0 = E13
              replace K := K E13 eE13.symm
              refine Z.aload_n (k := 1) dX6_settleSurplus_84 rfl ?_
              refine Y.getR (o := some 19) 1 dX6_settleSurplus_85 zl_X6_9 (rfl) (by decide) rfl (zX_0_5 hX).2.2 (zX_18_1 hX).1 ?_
              refine Z.iload (k := 0) dX6_settleSurplus_88 rfl ?_
              refine Z.iconst (n := 0) dX6_settleSurplus_90 ⟨by decide, by decide⟩ ?_
              obtain ⟨z14, K⟩ := K
              refine Y.iast dX6_settleSurplus_91 (rfl) ((zX_18_1 hX).2.2) z14 ?_
              generalize eE15 : zuE E13 19 (((-1) - (E a1 v4))) 0 = E15
              replace K := K E15 eE15.symm
              obtain ⟨z16, K⟩ := K
              refine Z.iinc (k := 4) (ls' := [(4, zI ((v4 + 1))), (5, zI (((-1) - (E a1 v4)))), (0, zR 18), (1, zR a1), (3, zI v3)]) dX6_settleSurplus_92 rfl (by decide) z16 rfl ?_
              refine Z.goto 3 dX6_settleSurplus_95 rfl ?_
              refine Z.pick (ls' := [(0, zR 18), (1, zR a1), (3, zI v3), (4, zI ((v4 + 1)))]) [2, 3, 4, 0] rfl ?_
              exact K
            · replace K := K.2 c12
              refine Z.aload_n (k := 1) dX6_settleSurplus_66 rfl ?_
              refine Y.getR (o := some 19) 1 dX6_settleSurplus_67 zl_X6_9 (rfl) (by decide) rfl (zX_0_5 hX).2.2 (zX_18_1 hX).1 ?_
              refine Z.iload (k := 0) dX6_settleSurplus_70 rfl ?_
              obtain ⟨z17, K⟩ := K
              refine Y.iald dX6_settleSurplus_72 (rfl) ((zX_18_1 hX).2.2) z17 ?_
              refine Z.if_gt 80 dX6_settleSurplus_73 rfl ⟨fun c18 => ?_, fun c18 => ?_⟩
              · replace K := K.1 c18
                refine Z.iconst (n := 0) dX6_settleSurplus_80 ⟨by decide, by decide⟩ ?_
                refine Y.putI 4 dX6_settleSurplus_81 zw_X6_23 (fun q => by cases q) (rfl) rfl (zX_0_5 hX).2.2 (Or.inr ⟨rfl, by decide⟩) ?_
                generalize eE19 : zuE E11 18 4 0 = E19
                replace K := K E19 eE19.symm
                refine Z.aload_n (k := 1) dX6_settleSurplus_84 rfl ?_
                refine Y.getR (o := some 19) 1 dX6_settleSurplus_85 zl_X6_9 (rfl) (by decide) rfl (zX_0_5 hX).2.2 (zX_18_1 hX).1 ?_
                refine Z.iload (k := 0) dX6_settleSurplus_88 rfl ?_
                refine Z.iconst (n := 0) dX6_settleSurplus_90 ⟨by decide, by decide⟩ ?_
                obtain ⟨z20, K⟩ := K
                refine Y.iast dX6_settleSurplus_91 (rfl) ((zX_18_1 hX).2.2) z20 ?_
                generalize eE21 : zuE E19 19 (((-1) - (E a1 v4))) 0 = E21
                replace K := K E21 eE21.symm
                obtain ⟨z22, K⟩ := K
                refine Z.iinc (k := 4) (ls' := [(4, zI ((v4 + 1))), (5, zI (((-1) - (E a1 v4)))), (0, zR 18), (1, zR a1), (3, zI v3)]) dX6_settleSurplus_92 rfl (by decide) z22 rfl ?_
                refine Z.goto 3 dX6_settleSurplus_95 rfl ?_
                refine Z.pick (ls' := [(0, zR 18), (1, zR a1), (3, zI v3), (4, zI ((v4 + 1)))]) [2, 3, 4, 0] rfl ?_
                exact K
              · replace K := K.2 c18
                refine Z.iconst (n := 1) dX6_settleSurplus_76 ⟨by decide, by decide⟩ ?_
                refine Z.goto 81 dX6_settleSurplus_77 rfl ?_
                refine Y.putI 4 dX6_settleSurplus_81 zw_X6_23 (fun q => by cases q) (rfl) rfl (zX_0_5 hX).2.2 (Or.inr ⟨rfl, by decide⟩) ?_
                generalize eE23 : zuE E11 18 4 1 = E23
                replace K := K E23 eE23.symm
                refine Z.aload_n (k := 1) dX6_settleSurplus_84 rfl ?_
                refine Y.getR (o := some 19) 1 dX6_settleSurplus_85 zl_X6_9 (rfl) (by decide) rfl (zX_0_5 hX).2.2 (zX_18_1 hX).1 ?_
                refine Z.iload (k := 0) dX6_settleSurplus_88 rfl ?_
                refine Z.iconst (n := 0) dX6_settleSurplus_90 ⟨by decide, by decide⟩ ?_
                obtain ⟨z24, K⟩ := K
                refine Y.iast dX6_settleSurplus_91 (rfl) ((zX_18_1 hX).2.2) z24 ?_
                generalize eE25 : zuE E23 19 (((-1) - (E a1 v4))) 0 = E25
                replace K := K E25 eE25.symm
                obtain ⟨z26, K⟩ := K
                refine Z.iinc (k := 4) (ls' := [(4, zI ((v4 + 1))), (5, zI (((-1) - (E a1 v4)))), (0, zR 18), (1, zR a1), (3, zI v3)]) dX6_settleSurplus_92 rfl (by decide) z26 rfl ?_
                refine Z.goto 3 dX6_settleSurplus_95 rfl ?_
                refine Z.pick (ls' := [(0, zR 18), (1, zR a1), (3, zI v3), (4, zI ((v4 + 1)))]) [2, 3, 4, 0] rfl ?_
                exact K
set_option maxRecDepth 20000 in
theorem X6_settleSurplus_54 {kz : Nat × Nat} {Q : Option zV → zH → Prop} {d : List Nat} {G : Nat → Int → Option Nat} {E : Nat → Int → Int} {a1 n1 : Nat} {v3 : Int} {v4 : Int} {v5 : Int} (hX : zK zXt d G) (ha1 : a1 ∈ d) (hk1 : zkd a1 = (0, n1)) (K : ∀ E1, E1 = zuE E 18 3 0 → ((E1 18 4) = 0 → ∀ E3, E3 = zuE E1 18 4 0 → ((0 : Int) ≤ v5 ∧ v5 < 40) ∧ ∀ E5, E5 = zuE E3 19 v5 0 → zin (v4 + 1) ∧ Z zm_X6_settleSurplus kz Q 3 [(0, zR 18), (1, zR a1), (3, zI v3), (4, zI ((v4 + 1)))] [] (d, G, E5)) ∧ (¬ ((E1 18 4) = 0) → ((0 : Int) ≤ v5 ∧ v5 < 40) ∧ (0 < (E1 19 v5) → ∀ E9, E9 = zuE E1 18 4 0 → ((0 : Int) ≤ v5 ∧ v5 < 40) ∧ ∀ E11, E11 = zuE E9 19 v5 0 → zin (v4 + 1) ∧ Z zm_X6_settleSurplus kz Q 3 [(0, zR 18), (1, zR a1), (3, zI v3), (4, zI ((v4 + 1)))] [] (d, G, E11)) ∧ (¬ (0 < (E1 19 v5)) → ∀ E13, E13 = zuE E1 18 4 1 → ((0 : Int) ≤ v5 ∧ v5 < 40) ∧ ∀ E15, E15 = zuE E13 19 v5 0 → zin (v4 + 1) ∧ Z zm_X6_settleSurplus kz Q 3 [(0, zR 18), (1, zR a1), (3, zI v3), (4, zI ((v4 + 1)))] [] (d, G, E15)))) : Z zm_X6_settleSurplus kz Q 54 [(0, zR 18), (1, zR a1), (3, zI v3), (4, zI v4), (5, zI v5)] [zR 18] (d, G, E) := by
  refine Z.iconst (n := 0) dX6_settleSurplus_54 ⟨by decide, by decide⟩ ?_
  refine Y.putI 3 dX6_settleSurplus_55 zw_X6_19 (fun q => by cases q) (rfl) rfl (zX_0_5 hX).2.2 (Or.inr ⟨rfl, by decide⟩) ?_
  generalize eE1 : zuE E 18 3 0 = E1
  replace K := K E1 eE1.symm
  refine Z.aload_n (k := 0) dX6_settleSurplus_58 rfl ?_
  refine Z.aload_n (k := 0) dX6_settleSurplus_59 rfl ?_
  refine Y.getI 4 dX6_settleSurplus_60 zl_X6_23 (rfl) (by decide) rfl (zX_0_5 hX).2.2 ?_
  refine Z.if_eq 80 dX6_settleSurplus_63 rfl ⟨fun c2 => ?_, fun c2 => ?_⟩
  · replace K := K.1 c2
    refine Z.iconst (n := 0) dX6_settleSurplus_80 ⟨by decide, by decide⟩ ?_
    refine Y.putI 4 dX6_settleSurplus_81 zw_X6_23 (fun q => by cases q) (rfl) rfl (zX_0_5 hX).2.2 (Or.inr ⟨rfl, by decide⟩) ?_
    generalize eE3 : zuE E1 18 4 0 = E3
    replace K := K E3 eE3.symm
    refine Z.aload_n (k := 0) dX6_settleSurplus_84 rfl ?_
    refine Y.getR (o := some 19) 1 dX6_settleSurplus_85 zl_X6_9 (rfl) (by decide) rfl (zX_0_5 hX).2.2 (zX_18_1 hX).1 ?_
    refine Z.iload (k := 4) dX6_settleSurplus_88 rfl ?_
    refine Z.iconst (n := 0) dX6_settleSurplus_90 ⟨by decide, by decide⟩ ?_
    obtain ⟨z4, K⟩ := K
    refine Y.iast dX6_settleSurplus_91 (rfl) ((zX_18_1 hX).2.2) z4 ?_
    generalize eE5 : zuE E3 19 v5 0 = E5
    replace K := K E5 eE5.symm
    obtain ⟨z6, K⟩ := K
    refine Z.iinc (k := 3) (ls' := [(4, zI ((v4 + 1))), (0, zR 18), (1, zR a1), (3, zI v3), (5, zI v5)]) dX6_settleSurplus_92 rfl (by decide) z6 rfl ?_
    refine Z.goto 3 dX6_settleSurplus_95 rfl ?_
    refine Z.pick (ls' := [(0, zR 18), (1, zR a1), (3, zI v3), (4, zI ((v4 + 1)))]) [1, 2, 3, 0] rfl ?_
    exact K
  · replace K := K.2 c2
    refine Z.aload_n (k := 0) dX6_settleSurplus_66 rfl ?_
    refine Y.getR (o := some 19) 1 dX6_settleSurplus_67 zl_X6_9 (rfl) (by decide) rfl (zX_0_5 hX).2.2 (zX_18_1 hX).1 ?_
    refine Z.iload (k := 4) dX6_settleSurplus_70 rfl ?_
    obtain ⟨z7, K⟩ := K
    refine Y.iald dX6_settleSurplus_72 (rfl) ((zX_18_1 hX).2.2) z7 ?_
    refine Z.if_gt 80 dX6_settleSurplus_73 rfl ⟨fun c8 => ?_, fun c8 => ?_⟩
    · replace K := K.1 c8
      refine Z.iconst (n := 0) dX6_settleSurplus_80 ⟨by decide, by decide⟩ ?_
      refine Y.putI 4 dX6_settleSurplus_81 zw_X6_23 (fun q => by cases q) (rfl) rfl (zX_0_5 hX).2.2 (Or.inr ⟨rfl, by decide⟩) ?_
      generalize eE9 : zuE E1 18 4 0 = E9
      replace K := K E9 eE9.symm
      refine Z.aload_n (k := 0) dX6_settleSurplus_84 rfl ?_
      refine Y.getR (o := some 19) 1 dX6_settleSurplus_85 zl_X6_9 (rfl) (by decide) rfl (zX_0_5 hX).2.2 (zX_18_1 hX).1 ?_
      refine Z.iload (k := 4) dX6_settleSurplus_88 rfl ?_
      refine Z.iconst (n := 0) dX6_settleSurplus_90 ⟨by decide, by decide⟩ ?_
      obtain ⟨z10, K⟩ := K
      refine Y.iast dX6_settleSurplus_91 (rfl) ((zX_18_1 hX).2.2) z10 ?_
      generalize eE11 : zuE E9 19 v5 0 = E11
      replace K := K E11 eE11.symm
      obtain ⟨z12, K⟩ := K
      refine Z.iinc (k := 3) (ls' := [(4, zI ((v4 + 1))), (0, zR 18), (1, zR a1), (3, zI v3), (5, zI v5)]) dX6_settleSurplus_92 rfl (by decide) z12 rfl ?_
      refine Z.goto 3 dX6_settleSurplus_95 rfl ?_
      refine Z.pick (ls' := [(0, zR 18), (1, zR a1), (3, zI v3), (4, zI ((v4 + 1)))]) [1, 2, 3, 0] rfl ?_
      exact K
    · replace K := K.2 c8
      refine Z.iconst (n := 1) dX6_settleSurplus_76 ⟨by decide, by decide⟩ ?_
      refine Z.goto 81 dX6_settleSurplus_77 rfl ?_
      refine Y.putI 4 dX6_settleSurplus_81 zw_X6_23 (fun q => by cases q) (rfl) rfl (zX_0_5 hX).2.2 (Or.inr ⟨rfl, by decide⟩) ?_
      generalize eE13 : zuE E1 18 4 1 = E13
      replace K := K E13 eE13.symm
      refine Z.aload_n (k := 0) dX6_settleSurplus_84 rfl ?_
      refine Y.getR (o := some 19) 1 dX6_settleSurplus_85 zl_X6_9 (rfl) (by decide) rfl (zX_0_5 hX).2.2 (zX_18_1 hX).1 ?_
      refine Z.iload (k := 4) dX6_settleSurplus_88 rfl ?_
      refine Z.iconst (n := 0) dX6_settleSurplus_90 ⟨by decide, by decide⟩ ?_
      obtain ⟨z14, K⟩ := K
      refine Y.iast dX6_settleSurplus_91 (rfl) ((zX_18_1 hX).2.2) z14 ?_
      generalize eE15 : zuE E13 19 v5 0 = E15
      replace K := K E15 eE15.symm
      obtain ⟨z16, K⟩ := K
      refine Z.iinc (k := 3) (ls' := [(4, zI ((v4 + 1))), (0, zR 18), (1, zR a1), (3, zI v3), (5, zI v5)]) dX6_settleSurplus_92 rfl (by decide) z16 rfl ?_
      refine Z.goto 3 dX6_settleSurplus_95 rfl ?_
      refine Z.pick (ls' := [(0, zR 18), (1, zR a1), (3, zI v3), (4, zI ((v4 + 1)))]) [1, 2, 3, 0] rfl ?_
      exact K
set_option maxRecDepth 20000 in
theorem X6_settled_0 {kz : Nat × Nat} {Q : Option zV → zH → Prop} {d : List Nat} {G : Nat → Int → Option Nat} {E : Nat → Int → Int} {v1 : Int} (hX : zK zXt d G) (K : (v1 = 0 → ((E 18 4) = 0 → Q (some (zI 0)) (d, G, E)) ∧ (¬ ((E 18 4) = 0) → Q (some (zI ((-1)))) (d, G, E))) ∧ (¬ (v1 = 0) → ((E 18 3) = 0 → Q (some (zI 0)) (d, G, E)) ∧ (¬ ((E 18 3) = 0) → Q (some (zI 1)) (d, G, E)))) : Z zm_X6_settled kz Q 0 [(0, zR 18), (1, zI v1)] [] (d, G, E) := by
  refine Z.iload_n (k := 1) dX6_settled_0 rfl ?_
  refine Z.if_eq 17 dX6_settled_1 rfl ⟨fun c1 => ?_, fun c1 => ?_⟩
  · replace K := K.1 c1
    refine Z.aload_n (k := 0) dX6_settled_17 rfl ?_
    refine Y.getI 4 dX6_settled_18 zl_X6_23 (rfl) (by decide) rfl (zX_0_5 hX).2.2 ?_
    refine Z.if_eq 28 dX6_settled_21 rfl ⟨fun c2 => ?_, fun c2 => ?_⟩
    · replace K := K.1 c2
      refine Z.iconst (n := 0) dX6_settled_28 ⟨by decide, by decide⟩ ?_
      exact Z.iret (ty := .int) dX6_settled_29 rfl rfl K
    · replace K := K.2 c2
      refine Z.iconst (n := -1) dX6_settled_24 ⟨by decide, by decide⟩ ?_
      refine Z.goto 29 dX6_settled_25 rfl ?_
      exact Z.iret (ty := .int) dX6_settled_29 rfl rfl K
  · replace K := K.2 c1
    refine Z.aload_n (k := 0) dX6_settled_4 rfl ?_
    refine Y.getI 3 dX6_settled_5 zl_X6_19 (rfl) (by decide) rfl (zX_0_5 hX).2.2 ?_
    refine Z.if_eq 15 dX6_settled_8 rfl ⟨fun c3 => ?_, fun c3 => ?_⟩
    · replace K := K.1 c3
      refine Z.iconst (n := 0) dX6_settled_15 ⟨by decide, by decide⟩ ?_
      exact Z.iret (ty := .int) dX6_settled_16 rfl rfl K
    · replace K := K.2 c3
      refine Z.iconst (n := 1) dX6_settled_11 ⟨by decide, by decide⟩ ?_
      refine Z.goto 16 dX6_settled_12 rfl ?_
      exact Z.iret (ty := .int) dX6_settled_16 rfl rfl K
set_option maxRecDepth 20000 in
theorem X6_likeParts_0 {kz : Nat × Nat} {Q : Option zV → zH → Prop} {d : List Nat} {G : Nat → Int → Option Nat} {E : Nat → Int → Int} {a1 n1 : Nat} {v2 : Int} {a3 n3 : Nat} {v4 : Int} (hX : zK zXt d G) (ha1 : a1 ∈ d) (hk1 : zkd a1 = (0, n1)) (ha3 : a3 ∈ d) (hk3 : zkd a3 = (0, n3)) (K : ((0 : Int) ≤ v2 ∧ v2 < n1) ∧ ∃ x2, zM zm_X8_partsOf [zR 1, zI ((E a1 v2))] (d, G, E) (some (zI x2)) (d, G, E) ∧ Z zm_X6_likeParts kz Q 18 [(0, zR 18), (1, zR a1), (2, zI v2), (3, zR a3), (4, zI v4), (5, zI x2), (6, zI 1), (7, zI 0)] [] (d, G, E)) : Z zm_X6_likeParts kz Q 0 [(0, zR 18), (1, zR a1), (2, zI v2), (3, zR a3), (4, zI v4)] [] (d, G, E) := by
  refine Z.aload_n (k := 0) dX6_likeParts_0 rfl ?_
  refine Y.getR (o := some 1) 0 dX6_likeParts_1 zl_X6_26 (rfl) (by decide) rfl (zX_0_5 hX).2.2 (zX_18_0 hX).1 ?_
  refine Z.aload_n (k := 1) dX6_likeParts_4 rfl ?_
  refine Z.iload_n (k := 2) dX6_likeParts_5 rfl ?_
  obtain ⟨z1, K⟩ := K
  refine Y.iald dX6_likeParts_6 (hk1) (ha1) z1 ?_
  obtain ⟨x2, m3, K⟩ := K
  refine Y.callV (g := zm_X8_partsOf) (vs := [zI ((E a1 v2))]) (st := []) dX6_likeParts_7 ⟨zg_X8_partsOf.1, zg_X8_partsOf.2.1, zg_X8_partsOf.2.2, by decide⟩ ⟨zk_X6_61, zv_X8_partsOf⟩ (ci := 8) (rfl) rfl ((zX_0_0 hX).2.2) rfl rfl (Nat.le_of_ble_eq_true rfl) m3 (Or.inl rfl) ?_
  show Z zm_X6_likeParts kz Q 10 [(0, zR 18), (1, zR a1), (2, zI v2), (3, zR a3), (4, zI v4)] [zI x2] (d, G, E)
  refine Z.istore (ls' := [(5, zI x2), (0, zR 18), (1, zR a1), (2, zI v2), (3, zR a3), (4, zI v4)]) dX6_likeParts_10 (by decide) rfl ?_
  refine Z.iconst (n := 1) dX6_likeParts_12 ⟨by decide, by decide⟩ ?_
  refine Z.istore (ls' := [(6, zI 1), (5, zI x2), (0, zR 18), (1, zR a1), (2, zI v2), (3, zR a3), (4, zI v4)]) dX6_likeParts_13 (by decide) rfl ?_
  refine Z.iconst (n := 0) dX6_likeParts_15 ⟨by decide, by decide⟩ ?_
  refine Z.istore (ls' := [(7, zI 0), (6, zI 1), (5, zI x2), (0, zR 18), (1, zR a1), (2, zI v2), (3, zR a3), (4, zI v4)]) dX6_likeParts_16 (by decide) rfl ?_
  refine Z.pick (ls' := [(0, zR 18), (1, zR a1), (2, zI v2), (3, zR a3), (4, zI v4), (5, zI x2), (6, zI 1), (7, zI 0)]) [3, 4, 5, 6, 7, 2, 1, 0] rfl ?_
  exact K
set_option maxRecDepth 20000 in
theorem X6_likeParts_18 {kz : Nat × Nat} {Q : Option zV → zH → Prop} {d : List Nat} {G : Nat → Int → Option Nat} {E : Nat → Int → Int} {a1 n1 : Nat} {v2 : Int} {a3 n3 : Nat} {v4 : Int} {v5 : Int} {v6 : Int} {v7 : Int} (hX : zK zXt d G) (ha1 : a1 ∈ d) (hk1 : zkd a1 = (0, n1)) (ha3 : a3 ∈ d) (hk3 : zkd a3 = (0, n3)) (K : (v5 ≤ v7 → Q (some (zI v6)) (d, G, E)) ∧ (¬ (v5 ≤ v7) → zin (v2 + v6) ∧ ∃ x3, zM zm_X8_after [zR 1, zR a1, zI ((v2 + v6))] (d, G, E) (some (zI x3)) (d, G, E) ∧ zin (v4 + v6) ∧ ∃ x7, zM zm_X8_after [zR 1, zR a3, zI ((v4 + v6))] (d, G, E) (some (zI x7)) (d, G, E) ∧ zin (x3 - v2) ∧ zin ((x3 - v2) - v6) ∧ zin (x7 - v4) ∧ zin ((x7 - v4) - v6) ∧ (((x3 - v2) - v6) ≠ ((x7 - v4) - v6) → Q (some (zI v6)) (d, G, E)) ∧ (¬ (((x3 - v2) - v6) ≠ ((x7 - v4) - v6)) → zin (v2 + v6) ∧ zin (v4 + v6) ∧ ∃ x17, zM zm_X11_alike [zR a1, zI ((v2 + v6)), zR a3, zI ((v4 + v6)), zI (((x3 - v2) - v6))] (d, G, E) (some (zI x17)) (d, G, E) ∧ (x17 ≠ 0 → zin (v6 + ((x3 - v2) - v6)) ∧ zin (v7 + 1) ∧ Z zm_X6_likeParts kz Q 18 [(0, zR 18), (1, zR a1), (2, zI v2), (3, zR a3), (4, zI v4), (5, zI v5), (6, zI ((v6 + ((x3 - v2) - v6)))), (7, zI ((v7 + 1)))] [] (d, G, E)) ∧ (¬ (x17 ≠ 0) → Q (some (zI v6)) (d, G, E))))) : Z zm_X6_likeParts kz Q 18 [(0, zR 18), (1, zR a1), (2, zI v2), (3, zR a3), (4, zI v4), (5, zI v5), (6, zI v6), (7, zI v7)] [] (d, G, E) := by
  refine Z.iload (k := 7) dX6_likeParts_18 rfl ?_
  refine Z.iload (k := 5) dX6_likeParts_20 rfl ?_
  refine Z.icmp_ge 111 dX6_likeParts_22 rfl ⟨fun c1 => ?_, fun c1 => ?_⟩
  · replace K := K.1 c1
    refine Z.iload (k := 6) dX6_likeParts_111 rfl ?_
    exact Z.iret (ty := .int) dX6_likeParts_113 rfl rfl K
  · replace K := K.2 c1
    refine Z.aload_n (k := 0) dX6_likeParts_25 rfl ?_
    refine Y.getR (o := some 1) 0 dX6_likeParts_26 zl_X6_26 (rfl) (by decide) rfl (zX_0_5 hX).2.2 (zX_18_0 hX).1 ?_
    refine Z.aload_n (k := 1) dX6_likeParts_29 rfl ?_
    refine Z.iload_n (k := 2) dX6_likeParts_30 rfl ?_
    refine Z.iload (k := 6) dX6_likeParts_31 rfl ?_
    obtain ⟨z2, K⟩ := K
    refine Z.iadd dX6_likeParts_33 z2 ?_
    obtain ⟨x3, m4, K⟩ := K
    refine Y.callV (g := zm_X8_after) (vs := [zR a1, zI ((v2 + v6))]) (st := []) dX6_likeParts_34 ⟨zg_X8_after.1, zg_X8_after.2.1, zg_X8_after.2.2, by decide⟩ ⟨zk_X6_37, zv_X8_after⟩ (ci := 8) (rfl) rfl ((zX_0_0 hX).2.2) rfl rfl (Nat.le_of_ble_eq_true rfl) m4 (Or.inl rfl) ?_
    show Z zm_X6_likeParts kz Q 37 [(0, zR 18), (1, zR a1), (2, zI v2), (3, zR a3), (4, zI v4), (5, zI v5), (6, zI v6), (7, zI v7)] [zI x3] (d, G, E)
    refine Z.istore (ls' := [(8, zI x3), (0, zR 18), (1, zR a1), (2, zI v2), (3, zR a3), (4, zI v4), (5, zI v5), (6, zI v6), (7, zI v7)]) dX6_likeParts_37 (by decide) rfl ?_
    refine Z.aload_n (k := 1) dX6_likeParts_39 rfl ?_
    refine Y.getR (o := some 1) 0 dX6_likeParts_40 zl_X6_26 (rfl) (by decide) rfl (zX_0_5 hX).2.2 (zX_18_0 hX).1 ?_
    refine Z.aload_n (k := 4) dX6_likeParts_43 rfl ?_
    refine Z.iload (k := 5) dX6_likeParts_44 rfl ?_
    refine Z.iload (k := 7) dX6_likeParts_46 rfl ?_
    obtain ⟨z6, K⟩ := K
    refine Z.iadd dX6_likeParts_48 z6 ?_
    obtain ⟨x7, m8, K⟩ := K
    refine Y.callV (g := zm_X8_after) (vs := [zR a3, zI ((v4 + v6))]) (st := []) dX6_likeParts_49 ⟨zg_X8_after.1, zg_X8_after.2.1, zg_X8_after.2.2, by decide⟩ ⟨zk_X6_37, zv_X8_after⟩ (ci := 8) (rfl) rfl ((zX_0_0 hX).2.2) rfl rfl (Nat.le_of_ble_eq_true rfl) m8 (Or.inl rfl) ?_
    show Z zm_X6_likeParts kz Q 52 [(8, zI x3), (0, zR 18), (1, zR a1), (2, zI v2), (3, zR a3), (4, zI v4), (5, zI v5), (6, zI v6), (7, zI v7)] [zI x7] (d, G, E)
    refine Z.istore (ls' := [(9, zI x7), (8, zI x3), (0, zR 18), (1, zR a1), (2, zI v2), (3, zR a3), (4, zI v4), (5, zI v5), (6, zI v6), (7, zI v7)]) dX6_likeParts_52 (by decide) rfl ?_
    refine Z.iload (k := 1) dX6_likeParts_54 rfl ?_
    refine Z.iload_n (k := 4) dX6_likeParts_56 rfl ?_
    obtain ⟨z10, K⟩ := K
    refine Z.isub dX6_likeParts_57 z10 ?_
    refine Z.iload (k := 8) dX6_likeParts_58 rfl ?_
    obtain ⟨z11, K⟩ := K
    refine Z.isub dX6_likeParts_60 z11 ?_
    refine Z.istore (ls' := [(10, zI (((x3 - v2) - v6))), (9, zI x7), (8, zI x3), (0, zR 18), (1, zR a1), (2, zI v2), (3, zR a3), (4, zI v4), (5, zI v5), (6, zI v6), (7, zI v7)]) dX6_likeParts_61 (by decide) rfl ?_
    refine Z.iload (k := 0) dX6_likeParts_63 rfl ?_
    refine Z.iload (k := 1) dX6_likeParts_65 rfl ?_
    refine Z.iload (k := 7) dX6_likeParts_67 rfl ?_
    obtain ⟨z12, K⟩ := K
    refine Z.isub dX6_likeParts_69 z12 ?_
    refine Z.iload (k := 9) dX6_likeParts_70 rfl ?_
    obtain ⟨z13, K⟩ := K
    refine Z.isub dX6_likeParts_72 z13 ?_
    refine Z.icmp_ne 95 dX6_likeParts_73 rfl ⟨fun c14 => ?_, fun c14 => ?_⟩
    · replace K := K.1 c14
      refine Z.iload (k := 9) dX6_likeParts_95 rfl ?_
      exact Z.iret (ty := .int) dX6_likeParts_97 rfl rfl K
    · replace K := K.2 c14
      refine Z.aload_n (k := 4) dX6_likeParts_76 rfl ?_
      refine Z.iload_n (k := 5) dX6_likeParts_77 rfl ?_
      refine Z.iload (k := 9) dX6_likeParts_78 rfl ?_
      obtain ⟨z15, K⟩ := K
      refine Z.iadd dX6_likeParts_80 z15 ?_
      refine Z.aload_n (k := 6) dX6_likeParts_81 rfl ?_
      refine Z.iload (k := 7) dX6_likeParts_82 rfl ?_
      refine Z.iload (k := 9) dX6_likeParts_84 rfl ?_
      obtain ⟨z16, K⟩ := K
      refine Z.iadd dX6_likeParts_86 z16 ?_
      refine Z.iload (k := 0) dX6_likeParts_87 rfl ?_
      obtain ⟨x17, m18, K⟩ := K
      refine Y.callS (g := zm_X11_alike) (vs := [zR a1, zI ((v2 + v6)), zR a3, zI ((v4 + v6)), zI (((x3 - v2) - v6))]) (st := []) dX6_likeParts_89 ⟨zg_X11_alike.1, zg_X11_alike.2.1, zg_X11_alike.2.2, by decide⟩ ⟨Or.inr zk_X6_41, zs_X11_alike⟩ rfl rfl (Nat.le_of_ble_eq_true rfl) m18 (Or.inl rfl) ?_
      show Z zm_X6_likeParts kz Q 92 [(10, zI (((x3 - v2) - v6))), (9, zI x7), (8, zI x3), (0, zR 18), (1, zR a1), (2, zI v2), (3, zR a3), (4, zI v4), (5, zI v5), (6, zI v6), (7, zI v7)] [zI x17] (d, G, E)
      refine Z.if_ne 98 dX6_likeParts_92 rfl ⟨fun c20 => ?_, fun c20 => ?_⟩
      · replace K := K.1 c20
        refine Z.iload (k := 9) dX6_likeParts_98 rfl ?_
        refine Z.iload (k := 0) dX6_likeParts_100 rfl ?_
        obtain ⟨z21, K⟩ := K
        refine Z.iadd dX6_likeParts_102 z21 ?_
        refine Z.istore (ls' := [(6, zI ((v6 + ((x3 - v2) - v6)))), (10, zI (((x3 - v2) - v6))), (9, zI x7), (8, zI x3), (0, zR 18), (1, zR a1), (2, zI v2), (3, zR a3), (4, zI v4), (5, zI v5), (7, zI v7)]) dX6_likeParts_103 (by decide) rfl ?_
        obtain ⟨z22, K⟩ := K
        refine Z.iinc (k := 10) (ls' := [(7, zI ((v7 + 1))), (6, zI ((v6 + ((x3 - v2) - v6)))), (10, zI (((x3 - v2) - v6))), (9, zI x7), (8, zI x3), (0, zR 18), (1, zR a1), (2, zI v2), (3, zR a3), (4, zI v4), (5, zI v5)]) dX6_likeParts_105 rfl (by decide) z22 rfl ?_
        refine Z.goto 18 dX6_likeParts_108 rfl ?_
        refine Z.pick (ls' := [(0, zR 18), (1, zR a1), (2, zI v2), (3, zR a3), (4, zI v4), (5, zI v5), (6, zI ((v6 + ((x3 - v2) - v6)))), (7, zI ((v7 + 1)))]) [5, 6, 7, 8, 9, 10, 1, 0] rfl ?_
        exact K
      · replace K := K.2 c20
        refine Z.iload (k := 9) dX6_likeParts_95 rfl ?_
        exact Z.iret (ty := .int) dX6_likeParts_97 rfl rfl K
set_option maxRecDepth 20000 in
theorem X6_compare_0 {kz : Nat × Nat} {Q : Option zV → zH → Prop} {d : List Nat} {G : Nat → Int → Option Nat} {E : Nat → Int → Int} {a1 n1 : Nat} {v2 : Int} {a3 n3 : Nat} {v4 : Int} (hX : zK zXt d G) (ha1 : a1 ∈ d) (hk1 : zkd a1 = (0, n1)) (ha3 : a3 ∈ d) (hk3 : zkd a3 = (0, n3)) (K : ∀ E1, E1 = zuE E 18 3 1 → ∀ E2, E2 = zuE E1 18 4 1 → Z zm_X6_compare kz Q 20 [(0, zR 18), (1, zR a1), (3, zR a3), (5, zI v2), (6, zI v4), (7, zI 0)] [] (d, G, E2)) : Z zm_X6_compare kz Q 0 [(0, zR 18), (1, zR a1), (2, zI v2), (3, zR a3), (4, zI v4)] [] (d, G, E) := by
  refine Z.iload_n (k := 2) dX6_compare_0 rfl ?_
  refine Z.istore (ls' := [(5, zI v2), (0, zR 18), (1, zR a1), (2, zI v2), (3, zR a3), (4, zI v4)]) dX6_compare_1 (by decide) rfl ?_
  refine Z.iload (k := 5) dX6_compare_3 rfl ?_
  refine Z.istore (ls' := [(6, zI v4), (5, zI v2), (0, zR 18), (1, zR a1), (2, zI v2), (3, zR a3), (4, zI v4)]) dX6_compare_5 (by decide) rfl ?_
  refine Z.aload_n (k := 2) dX6_compare_7 rfl ?_
  refine Z.iconst (n := 1) dX6_compare_8 ⟨by decide, by decide⟩ ?_
  refine Y.putI 3 dX6_compare_9 zw_X6_19 (fun q => by cases q) (rfl) rfl (zX_0_5 hX).2.2 (Or.inr ⟨rfl, by decide⟩) ?_
  generalize eE1 : zuE E 18 3 1 = E1
  replace K := K E1 eE1.symm
  refine Z.aload_n (k := 2) dX6_compare_12 rfl ?_
  refine Z.iconst (n := 1) dX6_compare_13 ⟨by decide, by decide⟩ ?_
  refine Y.putI 4 dX6_compare_14 zw_X6_23 (fun q => by cases q) (rfl) rfl (zX_0_5 hX).2.2 (Or.inr ⟨rfl, by decide⟩) ?_
  generalize eE2 : zuE E1 18 4 1 = E2
  replace K := K E2 eE2.symm
  refine Z.iconst (n := 0) dX6_compare_17 ⟨by decide, by decide⟩ ?_
  refine Z.istore (ls' := [(7, zI 0), (6, zI v4), (5, zI v2), (0, zR 18), (1, zR a1), (2, zI v2), (3, zR a3), (4, zI v4)]) dX6_compare_18 (by decide) rfl ?_
  refine Z.pick (ls' := [(0, zR 18), (1, zR a1), (3, zR a3), (5, zI v2), (6, zI v4), (7, zI 0)]) [3, 4, 6, 2, 1, 0] rfl ?_
  exact K
set_option maxRecDepth 20000 in
theorem X6_compare_20 {kz : Nat × Nat} {Q : Option zV → zH → Prop} {d : List Nat} {G : Nat → Int → Option Nat} {E : Nat → Int → Int} {a1 n1 : Nat} {a3 n3 : Nat} {v5 : Int} {v6 : Int} {v7 : Int} (hX : zK zXt d G) (ha1 : a1 ∈ d) (hk1 : zkd a1 = (0, n1)) (ha3 : a3 ∈ d) (hk3 : zkd a3 = (0, n3)) (K : ((1000000) ≤ v7 → Q (some (zI 0)) (d, G, E)) ∧ (¬ ((1000000) ≤ v7) → ∃ x2, zM zm_X8_after [zR 1, zR a1, zI v5] (d, G, E) (some (zI x2)) (d, G, E) ∧ ∃ x5, zM zm_X8_after [zR 1, zR a3, zI v6] (d, G, E) (some (zI x5)) (d, G, E) ∧ zin (x2 - v5) ∧ zin (x5 - v6) ∧ ((x2 - v5) ≠ (x5 - v6) → Z zm_X6_compare kz Q 83 [(0, zR 18), (1, zR a1), (3, zR a3), (5, zI v5), (6, zI v6), (7, zI v7), (8, zI x2), (9, zI x5)] [] (d, G, E)) ∧ (¬ ((x2 - v5) ≠ (x5 - v6)) → zin (x2 - v5) ∧ ∃ x12, zM zm_X11_alike [zR a1, zI v5, zR a3, zI v6, zI ((x2 - v5))] (d, G, E) (some (zI x12)) (d, G, E) ∧ (x12 = 0 → Z zm_X6_compare kz Q 83 [(0, zR 18), (1, zR a1), (3, zR a3), (5, zI v5), (6, zI v6), (7, zI v7), (8, zI x2), (9, zI x5)] [] (d, G, E)) ∧ (¬ (x12 = 0) → Q (some (zI 2)) (d, G, E))))) : Z zm_X6_compare kz Q 20 [(0, zR 18), (1, zR a1), (3, zR a3), (5, zI v5), (6, zI v6), (7, zI v7)] [] (d, G, E) := by
  refine Z.iload (k := 5) dX6_compare_20 rfl ?_
  refine Z.ldc (n := 1000000) dX6_compare_22 ⟨by decide, by decide⟩ zq_X6_36 ?_
  refine Z.icmp_ge 230 dX6_compare_24 rfl ⟨fun c1 => ?_, fun c1 => ?_⟩
  · replace K := K.1 c1
    refine Z.iconst (n := 0) dX6_compare_230 ⟨by decide, by decide⟩ ?_
    exact Z.iret (ty := .int) dX6_compare_231 rfl rfl K
  · replace K := K.2 c1
    refine Z.aload_n (k := 0) dX6_compare_27 rfl ?_
    refine Y.getR (o := some 1) 0 dX6_compare_28 zl_X6_26 (rfl) (by decide) rfl (zX_0_5 hX).2.2 (zX_18_0 hX).1 ?_
    refine Z.aload_n (k := 1) dX6_compare_31 rfl ?_
    refine Z.iload (k := 3) dX6_compare_32 rfl ?_
    obtain ⟨x2, m3, K⟩ := K
    refine Y.callV (g := zm_X8_after) (vs := [zR a1, zI v5]) (st := []) dX6_compare_34 ⟨zg_X8_after.1, zg_X8_after.2.1, zg_X8_after.2.2, by decide⟩ ⟨zk_X6_37, zv_X8_after⟩ (ci := 8) (rfl) rfl ((zX_0_0 hX).2.2) rfl rfl (Nat.le_of_ble_eq_true rfl) m3 (Or.inl rfl) ?_
    show Z zm_X6_compare kz Q 37 [(0, zR 18), (1, zR a1), (3, zR a3), (5, zI v5), (6, zI v6), (7, zI v7)] [zI x2] (d, G, E)
    refine Z.istore (ls' := [(8, zI x2), (0, zR 18), (1, zR a1), (3, zR a3), (5, zI v5), (6, zI v6), (7, zI v7)]) dX6_compare_37 (by decide) rfl ?_
    refine Z.aload_n (k := 1) dX6_compare_39 rfl ?_
    refine Y.getR (o := some 1) 0 dX6_compare_40 zl_X6_26 (rfl) (by decide) rfl (zX_0_5 hX).2.2 (zX_18_0 hX).1 ?_
    refine Z.aload_n (k := 3) dX6_compare_43 rfl ?_
    refine Z.iload (k := 5) dX6_compare_44 rfl ?_
    obtain ⟨x5, m6, K⟩ := K
    refine Y.callV (g := zm_X8_after) (vs := [zR a3, zI v6]) (st := []) dX6_compare_46 ⟨zg_X8_after.1, zg_X8_after.2.1, zg_X8_after.2.2, by decide⟩ ⟨zk_X6_37, zv_X8_after⟩ (ci := 8) (rfl) rfl ((zX_0_0 hX).2.2) rfl rfl (Nat.le_of_ble_eq_true rfl) m6 (Or.inl rfl) ?_
    show Z zm_X6_compare kz Q 49 [(8, zI x2), (0, zR 18), (1, zR a1), (3, zR a3), (5, zI v5), (6, zI v6), (7, zI v7)] [zI x5] (d, G, E)
    refine Z.istore (ls' := [(9, zI x5), (8, zI x2), (0, zR 18), (1, zR a1), (3, zR a3), (5, zI v5), (6, zI v6), (7, zI v7)]) dX6_compare_49 (by decide) rfl ?_
    refine Z.iload (k := 1) dX6_compare_51 rfl ?_
    refine Z.iload (k := 5) dX6_compare_53 rfl ?_
    obtain ⟨z8, K⟩ := K
    refine Z.isub dX6_compare_55 z8 ?_
    refine Z.iload (k := 0) dX6_compare_56 rfl ?_
    refine Z.iload (k := 6) dX6_compare_58 rfl ?_
    obtain ⟨z9, K⟩ := K
    refine Z.isub dX6_compare_60 z9 ?_
    refine Z.icmp_ne 83 dX6_compare_61 rfl ⟨fun c10 => ?_, fun c10 => ?_⟩
    · replace K := K.1 c10
      refine Z.pick (ls' := [(0, zR 18), (1, zR a1), (3, zR a3), (5, zI v5), (6, zI v6), (7, zI v7), (8, zI x2), (9, zI x5)]) [2, 3, 4, 5, 6, 7, 1, 0] rfl ?_
      exact K
    · replace K := K.2 c10
      refine Z.aload_n (k := 3) dX6_compare_64 rfl ?_
      refine Z.iload (k := 5) dX6_compare_65 rfl ?_
      refine Z.aload_n (k := 4) dX6_compare_67 rfl ?_
      refine Z.iload (k := 6) dX6_compare_68 rfl ?_
      refine Z.iload (k := 1) dX6_compare_70 rfl ?_
      refine Z.iload (k := 5) dX6_compare_72 rfl ?_
      obtain ⟨z11, K⟩ := K
      refine Z.isub dX6_compare_74 z11 ?_
      obtain ⟨x12, m13, K⟩ := K
      refine Y.callS (g := zm_X11_alike) (vs := [zR a1, zI v5, zR a3, zI v6, zI ((x2 - v5))]) (st := []) dX6_compare_75 ⟨zg_X11_alike.1, zg_X11_alike.2.1, zg_X11_alike.2.2, by decide⟩ ⟨Or.inr zk_X6_41, zs_X11_alike⟩ rfl rfl (Nat.le_of_ble_eq_true rfl) m13 (Or.inl rfl) ?_
      show Z zm_X6_compare kz Q 78 [(9, zI x5), (8, zI x2), (0, zR 18), (1, zR a1), (3, zR a3), (5, zI v5), (6, zI v6), (7, zI v7)] [zI x12] (d, G, E)
      refine Z.if_eq 83 dX6_compare_78 rfl ⟨fun c15 => ?_, fun c15 => ?_⟩
      · replace K := K.1 c15
        refine Z.pick (ls' := [(0, zR 18), (1, zR a1), (3, zR a3), (5, zI v5), (6, zI v6), (7, zI v7), (8, zI x2), (9, zI x5)]) [2, 3, 4, 5, 6, 7, 1, 0] rfl ?_
        exact K
      · replace K := K.2 c15
        refine Z.iconst (n := 2) dX6_compare_81 ⟨by decide, by decide⟩ ?_
        exact Z.iret (ty := .int) dX6_compare_82 rfl rfl K
set_option maxRecDepth 20000 in
theorem X6_compare_83 {kz : Nat × Nat} {Q : Option zV → zH → Prop} {d : List Nat} {G : Nat → Int → Option Nat} {E : Nat → Int → Int} {a1 n1 : Nat} {a3 n3 : Nat} {v5 : Int} {v6 : Int} {v7 : Int} {v8 : Int} {v9 : Int} (hX : zK zXt d G) (ha1 : a1 ∈ d) (hk1 : zkd a1 = (0, n1)) (ha3 : a3 ∈ d) (hk3 : zkd a3 = (0, n3)) (K : ∀ E1, E1 = zuE E 18 2 0 → ∃ E2, zM zm_X6_tally [zR 18, zR a1, zI v5, zI v8, zI 1] (d, G, E1) none (d, G, E2) ∧ ∃ E5, zM zm_X6_tally [zR 18, zR a3, zI v6, zI v9, zI ((-1))] (d, G, E2) none (d, G, E5) ∧ ∃ E8, zM zm_X6_settleSurplus [zR 18, zR a1, zI v5, zI v8] (d, G, E5) none (d, G, E8) ∧ ∃ E11, zM zm_X6_settleSurplus [zR 18, zR a3, zI v6, zI v9] (d, G, E8) none (d, G, E11) ∧ ((E11 18 2) = 0 → ((0 : Int) ≤ v5 ∧ v5 < n1) ∧ ((E11 a1 v5) < 0 → Q (some (zI 0)) (d, G, E11)) ∧ (¬ ((E11 a1 v5) < 0) → ((0 : Int) ≤ v6 ∧ v6 < n3) ∧ (0 ≤ (E11 a3 v6) → ((0 : Int) ≤ v5 ∧ v5 < n1) ∧ ((0 : Int) ≤ v6 ∧ v6 < n3) ∧ ((E11 a1 v5) = (E11 a3 v6) → ∃ x22, zM zm_X6_likeParts [zR 18, zR a1, zI v5, zR a3, zI v6] (d, G, E11) (some (zI x22)) (d, G, E11) ∧ zin (v5 + x22) ∧ zin (v6 + x22) ∧ zin (v7 + 1) ∧ Z zm_X6_compare kz Q 20 [(0, zR 18), (1, zR a1), (3, zR a3), (5, zI ((v5 + x22))), (6, zI ((v6 + x22))), (7, zI ((v7 + 1)))] [] (d, G, E11)) ∧ (¬ ((E11 a1 v5) = (E11 a3 v6)) → ((0 : Int) ≤ v5 ∧ v5 < n1) ∧ ((0 : Int) ≤ v6 ∧ v6 < n3) ∧ ((E11 a1 v5) ≤ (E11 a3 v6) → ∃ x31, zM zm_X6_settled [zR 18, zI 0] (d, G, E11) (some (zI x31)) (d, G, E11) ∧ Q (some (zI x31)) (d, G, E11)) ∧ (¬ ((E11 a1 v5) ≤ (E11 a3 v6)) → ∃ x34, zM zm_X6_settled [zR 18, zI 1] (d, G, E11) (some (zI x34)) (d, G, E11) ∧ Q (some (zI x34)) (d, G, E11)))) ∧ (¬ (0 ≤ (E11 a3 v6)) → Q (some (zI 0)) (d, G, E11)))) ∧ (¬ ((E11 18 2) = 0) → ((E11 18 2) ≤ 0 → ∃ x38, zM zm_X6_settled [zR 18, zI 0] (d, G, E11) (some (zI x38)) (d, G, E11) ∧ Q (some (zI x38)) (d, G, E11)) ∧ (¬ ((E11 18 2) ≤ 0) → ∃ x41, zM zm_X6_settled [zR 18, zI 1] (d, G, E11) (some (zI x41)) (d, G, E11) ∧ Q (some (zI x41)) (d, G, E11)))) : Z zm_X6_compare kz Q 83 [(0, zR 18), (1, zR a1), (3, zR a3), (5, zI v5), (6, zI v6), (7, zI v7), (8, zI v8), (9, zI v9)] [] (d, G, E) := by
  refine Z.aload_n (k := 0) dX6_compare_83 rfl ?_
  refine Z.iconst (n := 0) dX6_compare_84 ⟨by decide, by decide⟩ ?_
  refine Y.putI 2 dX6_compare_85 zw_X6_15 (fun q => by cases q) (rfl) rfl (zX_0_5 hX).2.2 (Or.inl rfl) ?_
  generalize eE1 : zuE E 18 2 0 = E1
  replace K := K E1 eE1.symm
  refine Z.aload_n (k := 0) dX6_compare_88 rfl ?_
  refine Z.aload_n (k := 1) dX6_compare_89 rfl ?_
  refine Z.iload (k := 3) dX6_compare_90 rfl ?_
  refine Z.iload (k := 6) dX6_compare_92 rfl ?_
  refine Z.iconst (n := 1) dX6_compare_94 ⟨by decide, by decide⟩ ?_
  obtain ⟨E2, m3, K⟩ := K
  refine Y.callV (g := zm_X6_tally) (vs := [zR a1, zI v5, zI v8, zI 1]) (st := []) dX6_compare_95 ⟨zg_X6_tally.1, zg_X6_tally.2.1, zg_X6_tally.2.2, by decide⟩ ⟨zk_X6_45, zv_X6_tally⟩ (ci := 6) (rfl) rfl ((zX_0_5 hX).2.2) rfl rfl (Nat.le_of_ble_eq_true rfl) m3 (Or.inl rfl) ?_
  show Z zm_X6_compare kz Q 98 [(0, zR 18), (1, zR a1), (3, zR a3), (5, zI v5), (6, zI v6), (7, zI v7), (8, zI v8), (9, zI v9)] [] (d, G, E2)
  refine Z.aload_n (k := 0) dX6_compare_98 rfl ?_
  refine Z.aload_n (k := 2) dX6_compare_99 rfl ?_
  refine Z.iload (k := 4) dX6_compare_100 rfl ?_
  refine Z.iload (k := 7) dX6_compare_102 rfl ?_
  refine Z.iconst (n := -1) dX6_compare_104 ⟨by decide, by decide⟩ ?_
  obtain ⟨E5, m6, K⟩ := K
  refine Y.callV (g := zm_X6_tally) (vs := [zR a3, zI v6, zI v9, zI ((-1))]) (st := []) dX6_compare_105 ⟨zg_X6_tally.1, zg_X6_tally.2.1, zg_X6_tally.2.2, by decide⟩ ⟨zk_X6_45, zv_X6_tally⟩ (ci := 6) (rfl) rfl ((zX_0_5 hX).2.2) rfl rfl (Nat.le_of_ble_eq_true rfl) m6 (Or.inl rfl) ?_
  show Z zm_X6_compare kz Q 108 [(0, zR 18), (1, zR a1), (3, zR a3), (5, zI v5), (6, zI v6), (7, zI v7), (8, zI v8), (9, zI v9)] [] (d, G, E5)
  refine Z.aload_n (k := 0) dX6_compare_108 rfl ?_
  refine Z.aload_n (k := 1) dX6_compare_109 rfl ?_
  refine Z.iload (k := 3) dX6_compare_110 rfl ?_
  refine Z.iload (k := 6) dX6_compare_112 rfl ?_
  obtain ⟨E8, m9, K⟩ := K
  refine Y.callV (g := zm_X6_settleSurplus) (vs := [zR a1, zI v5, zI v8]) (st := []) dX6_compare_114 ⟨zg_X6_settleSurplus.1, zg_X6_settleSurplus.2.1, zg_X6_settleSurplus.2.2, by decide⟩ ⟨zk_X6_49, zv_X6_settleSurplus⟩ (ci := 6) (rfl) rfl ((zX_0_5 hX).2.2) rfl rfl (Nat.le_of_ble_eq_true rfl) m9 (Or.inl rfl) ?_
  show Z zm_X6_compare kz Q 117 [(0, zR 18), (1, zR a1), (3, zR a3), (5, zI v5), (6, zI v6), (7, zI v7), (8, zI v8), (9, zI v9)] [] (d, G, E8)
  refine Z.aload_n (k := 0) dX6_compare_117 rfl ?_
  refine Z.aload_n (k := 2) dX6_compare_118 rfl ?_
  refine Z.iload (k := 4) dX6_compare_119 rfl ?_
  refine Z.iload (k := 7) dX6_compare_121 rfl ?_
  obtain ⟨E11, m12, K⟩ := K
  refine Y.callV (g := zm_X6_settleSurplus) (vs := [zR a3, zI v6, zI v9]) (st := []) dX6_compare_123 ⟨zg_X6_settleSurplus.1, zg_X6_settleSurplus.2.1, zg_X6_settleSurplus.2.2, by decide⟩ ⟨zk_X6_49, zv_X6_settleSurplus⟩ (ci := 6) (rfl) rfl ((zX_0_5 hX).2.2) rfl rfl (Nat.le_of_ble_eq_true rfl) m12 (Or.inl rfl) ?_
  show Z zm_X6_compare kz Q 126 [(0, zR 18), (1, zR a1), (3, zR a3), (5, zI v5), (6, zI v6), (7, zI v7), (8, zI v8), (9, zI v9)] [] (d, G, E11)
  refine Z.aload_n (k := 0) dX6_compare_126 rfl ?_
  refine Y.getI 2 dX6_compare_127 zl_X6_15 (rfl) (by decide) rfl (zX_0_5 hX).2.2 ?_
  refine Z.if_eq 150 dX6_compare_130 rfl ⟨fun c14 => ?_, fun c14 => ?_⟩
  · replace K := K.1 c14
    refine Z.aload_n (k := 1) dX6_compare_150 rfl ?_
    refine Z.iload (k := 3) dX6_compare_151 rfl ?_
    obtain ⟨z15, K⟩ := K
    refine Y.iald dX6_compare_153 (hk1) (ha1) z15 ?_
    refine Z.if_lt 164 dX6_compare_154 rfl ⟨fun c16 => ?_, fun c16 => ?_⟩
    · replace K := K.1 c16
      refine Z.iconst (n := 0) dX6_compare_164 ⟨by decide, by decide⟩ ?_
      exact Z.iret (ty := .int) dX6_compare_165 rfl rfl K
    · replace K := K.2 c16
      refine Z.aload_n (k := 2) dX6_compare_157 rfl ?_
      refine Z.iload (k := 4) dX6_compare_158 rfl ?_
      obtain ⟨z17, K⟩ := K
      refine Y.iald dX6_compare_160 (hk3) (ha3) z17 ?_
      refine Z.if_ge 166 dX6_compare_161 rfl ⟨fun c18 => ?_, fun c18 => ?_⟩
      · replace K := K.1 c18
        refine Z.aload_n (k := 1) dX6_compare_166 rfl ?_
        refine Z.iload (k := 3) dX6_compare_167 rfl ?_
        obtain ⟨z19, K⟩ := K
        refine Y.iald dX6_compare_169 (hk1) (ha1) z19 ?_
        refine Z.aload_n (k := 2) dX6_compare_170 rfl ?_
        refine Z.iload (k := 4) dX6_compare_171 rfl ?_
        obtain ⟨z20, K⟩ := K
        refine Y.iald dX6_compare_173 (hk3) (ha3) z20 ?_
        refine Z.icmp_eq 198 dX6_compare_174 rfl ⟨fun c21 => ?_, fun c21 => ?_⟩
        · replace K := K.1 c21
          refine Z.aload_n (k := 0) dX6_compare_198 rfl ?_
          refine Z.aload_n (k := 1) dX6_compare_199 rfl ?_
          refine Z.iload (k := 3) dX6_compare_200 rfl ?_
          refine Z.aload_n (k := 2) dX6_compare_202 rfl ?_
          refine Z.iload (k := 4) dX6_compare_203 rfl ?_
          obtain ⟨x22, m23, K⟩ := K
          refine Y.callV (g := zm_X6_likeParts) (vs := [zR a1, zI v5, zR a3, zI v6]) (st := []) dX6_compare_205 ⟨zg_X6_likeParts.1, zg_X6_likeParts.2.1, zg_X6_likeParts.2.2, by decide⟩ ⟨zk_X6_57, zv_X6_likeParts⟩ (ci := 6) (rfl) rfl ((zX_0_5 hX).2.2) rfl rfl (Nat.le_of_ble_eq_true rfl) m23 (Or.inl rfl) ?_
          show Z zm_X6_compare kz Q 208 [(0, zR 18), (1, zR a1), (3, zR a3), (5, zI v5), (6, zI v6), (7, zI v7), (8, zI v8), (9, zI v9)] [zI x22] (d, G, E11)
          refine Z.istore (ls' := [(10, zI x22), (0, zR 18), (1, zR a1), (3, zR a3), (5, zI v5), (6, zI v6), (7, zI v7), (8, zI v8), (9, zI v9)]) dX6_compare_208 (by decide) rfl ?_
          refine Z.iload (k := 4) dX6_compare_210 rfl ?_
          refine Z.iload (k := 0) dX6_compare_212 rfl ?_
          obtain ⟨z25, K⟩ := K
          refine Z.iadd dX6_compare_214 z25 ?_
          refine Z.istore (ls' := [(5, zI ((v5 + x22))), (10, zI x22), (0, zR 18), (1, zR a1), (3, zR a3), (6, zI v6), (7, zI v7), (8, zI v8), (9, zI v9)]) dX6_compare_215 (by decide) rfl ?_
          refine Z.iload (k := 5) dX6_compare_217 rfl ?_
          refine Z.iload (k := 1) dX6_compare_219 rfl ?_
          obtain ⟨z26, K⟩ := K
          refine Z.iadd dX6_compare_221 z26 ?_
          refine Z.istore (ls' := [(6, zI ((v6 + x22))), (5, zI ((v5 + x22))), (10, zI x22), (0, zR 18), (1, zR a1), (3, zR a3), (7, zI v7), (8, zI v8), (9, zI v9)]) dX6_compare_222 (by decide) rfl ?_
          obtain ⟨z27, K⟩ := K
          refine Z.iinc (k := 6) (ls' := [(7, zI ((v7 + 1))), (6, zI ((v6 + x22))), (5, zI ((v5 + x22))), (10, zI x22), (0, zR 18), (1, zR a1), (3, zR a3), (8, zI v8), (9, zI v9)]) dX6_compare_224 rfl (by decide) z27 rfl ?_
          refine Z.goto 20 dX6_compare_227 rfl ?_
          refine Z.pick (ls' := [(0, zR 18), (1, zR a1), (3, zR a3), (5, zI ((v5 + x22))), (6, zI ((v6 + x22))), (7, zI ((v7 + 1)))]) [4, 5, 6, 2, 1, 0] rfl ?_
          exact K
        · replace K := K.2 c21
          refine Z.aload_n (k := 0) dX6_compare_177 rfl ?_
          refine Z.aload_n (k := 1) dX6_compare_178 rfl ?_
          refine Z.iload (k := 3) dX6_compare_179 rfl ?_
          obtain ⟨z28, K⟩ := K
          refine Y.iald dX6_compare_181 (hk1) (ha1) z28 ?_
          refine Z.aload_n (k := 2) dX6_compare_182 rfl ?_
          refine Z.iload (k := 4) dX6_compare_183 rfl ?_
          obtain ⟨z29, K⟩ := K
          refine Y.iald dX6_compare_185 (hk3) (ha3) z29 ?_
          refine Z.icmp_le 193 dX6_compare_186 rfl ⟨fun c30 => ?_, fun c30 => ?_⟩
          · replace K := K.1 c30
            refine Z.iconst (n := 0) dX6_compare_193 ⟨by decide, by decide⟩ ?_
            obtain ⟨x31, m32, K⟩ := K
            refine Y.callV (g := zm_X6_settled) (vs := [zI 0]) (st := []) dX6_compare_194 ⟨zg_X6_settled.1, zg_X6_settled.2.1, zg_X6_settled.2.2, by decide⟩ ⟨zk_X6_53, zv_X6_settled⟩ (ci := 6) (rfl) rfl ((zX_0_5 hX).2.2) rfl rfl (Nat.le_of_ble_eq_true rfl) m32 (Or.inl rfl) ?_
            show Z zm_X6_compare kz Q 197 [(0, zR 18), (1, zR a1), (3, zR a3), (5, zI v5), (6, zI v6), (7, zI v7), (8, zI v8), (9, zI v9)] [zI x31] (d, G, E11)
            exact Z.iret (ty := .int) dX6_compare_197 rfl rfl K
          · replace K := K.2 c30
            refine Z.iconst (n := 1) dX6_compare_189 ⟨by decide, by decide⟩ ?_
            refine Z.goto 194 dX6_compare_190 rfl ?_
            obtain ⟨x34, m35, K⟩ := K
            refine Y.callV (g := zm_X6_settled) (vs := [zI 1]) (st := []) dX6_compare_194 ⟨zg_X6_settled.1, zg_X6_settled.2.1, zg_X6_settled.2.2, by decide⟩ ⟨zk_X6_53, zv_X6_settled⟩ (ci := 6) (rfl) rfl ((zX_0_5 hX).2.2) rfl rfl (Nat.le_of_ble_eq_true rfl) m35 (Or.inl rfl) ?_
            show Z zm_X6_compare kz Q 197 [(0, zR 18), (1, zR a1), (3, zR a3), (5, zI v5), (6, zI v6), (7, zI v7), (8, zI v8), (9, zI v9)] [zI x34] (d, G, E11)
            exact Z.iret (ty := .int) dX6_compare_197 rfl rfl K
      · replace K := K.2 c18
        refine Z.iconst (n := 0) dX6_compare_164 ⟨by decide, by decide⟩ ?_
        exact Z.iret (ty := .int) dX6_compare_165 rfl rfl K
  · replace K := K.2 c14
    refine Z.aload_n (k := 0) dX6_compare_133 rfl ?_
    refine Z.aload_n (k := 0) dX6_compare_134 rfl ?_
    refine Y.getI 2 dX6_compare_135 zl_X6_15 (rfl) (by decide) rfl (zX_0_5 hX).2.2 ?_
    refine Z.if_le 145 dX6_compare_138 rfl ⟨fun c37 => ?_, fun c37 => ?_⟩
    · replace K := K.1 c37
      refine Z.iconst (n := 0) dX6_compare_145 ⟨by decide, by decide⟩ ?_
      obtain ⟨x38, m39, K⟩ := K
      refine Y.callV (g := zm_X6_settled) (vs := [zI 0]) (st := []) dX6_compare_146 ⟨zg_X6_settled.1, zg_X6_settled.2.1, zg_X6_settled.2.2, by decide⟩ ⟨zk_X6_53, zv_X6_settled⟩ (ci := 6) (rfl) rfl ((zX_0_5 hX).2.2) rfl rfl (Nat.le_of_ble_eq_true rfl) m39 (Or.inl rfl) ?_
      show Z zm_X6_compare kz Q 149 [(0, zR 18), (1, zR a1), (3, zR a3), (5, zI v5), (6, zI v6), (7, zI v7), (8, zI v8), (9, zI v9)] [zI x38] (d, G, E11)
      exact Z.iret (ty := .int) dX6_compare_149 rfl rfl K
    · replace K := K.2 c37
      refine Z.iconst (n := 1) dX6_compare_141 ⟨by decide, by decide⟩ ?_
      refine Z.goto 146 dX6_compare_142 rfl ?_
      obtain ⟨x41, m42, K⟩ := K
      refine Y.callV (g := zm_X6_settled) (vs := [zI 1]) (st := []) dX6_compare_146 ⟨zg_X6_settled.1, zg_X6_settled.2.1, zg_X6_settled.2.2, by decide⟩ ⟨zk_X6_53, zv_X6_settled⟩ (ci := 6) (rfl) rfl ((zX_0_5 hX).2.2) rfl rfl (Nat.le_of_ble_eq_true rfl) m42 (Or.inl rfl) ?_
      show Z zm_X6_compare kz Q 149 [(0, zR 18), (1, zR a1), (3, zR a3), (5, zI v5), (6, zI v6), (7, zI v7), (8, zI v8), (9, zI v9)] [zI x41] (d, G, E11)
      exact Z.iret (ty := .int) dX6_compare_149 rfl rfl K
set_option maxRecDepth 20000 in
theorem X6_init_0 {kz : Nat × Nat} {Q : Option zV → zH → Prop} {d : List Nat} {G : Nat → Int → Option Nat} {E : Nat → Int → Int}  (hm18 : 18 ∈ d) (hm1 : 1 ∈ d) (K : ∃ a1, zkd a1 = (0, (40 : Int).toNat) ∧ (0 : Int) ≤ 40 ∧ 40 ≤ (100000 : Int) ∧ a1 ∉ d ∧ ¬ zst3 a1 ∧ d.length + 1 ≤ kz.1 ∧ zsl d + (zkd a1).2 ≤ kz.2 ∧ ∀ d9 G10 E11, d9 = d ++ [a1] → G10 = zclG G a1 → E11 = zclE E a1 → (∀ G12, G12 = zuG G10 18 1 (some a1) → ∀ E13, E13 = zuE E11 18 2 0 → ∀ E14, E14 = zuE E13 18 3 1 → ∀ E15, E15 = zuE E14 18 4 1 → ∀ G16, G16 = zuG G12 18 0 (some 1) → Q none (d9, G16, E15))) : Z zm_X6_init kz Q 0 [(0, zR 18), (1, zR 1)] [] (d, G, E) := by
  refine Z.aload_n (k := 0) dX6_init_0 rfl ?_
  refine Z.objInit (a := 18) dX6_init_1 zk_X6_3 ⟨by decide, by decide⟩ (Nat.le_of_ble_eq_true rfl) ?_
  refine Z.aload_n (k := 0) dX6_init_4 rfl ?_
  refine Z.bipush (n := 40) dX6_init_5 ⟨by decide, by decide⟩ (by decide) ?_
  obtain ⟨a1, z2, z3, z4, z5, z6, z7, z8, K⟩ := K
  refine Y.newI a1 dX6_init_7 z2 z3 z4 zai z5 z6 z7 z8 ?_
  generalize ed9 : d ++ [a1] = d9
  generalize eG10 : zclG G a1 = G10
  generalize eE11 : zclE E a1 = E11
  replace K := K d9 G10 E11 ed9.symm eG10.symm eE11.symm
  refine Y.putR 1 dX6_init_9 zw_X6_9 (fun _ => ⟨rfl, rfl⟩) (rfl) rfl (by rw [← ed9]; exact List.mem_append_left _ (hm18)) (fun b hb => by cases hb; exact (by rw [← ed9]; exact List.mem_append_right _ List.mem_cons_self)) ?_
  generalize eG12 : zuG G10 18 1 (some a1) = G12
  replace K := K G12 eG12.symm
  refine Z.aload_n (k := 0) dX6_init_12 rfl ?_
  refine Z.iconst (n := 0) dX6_init_13 ⟨by decide, by decide⟩ ?_
  refine Y.putI 2 dX6_init_14 zw_X6_15 (fun q => by cases q) (rfl) rfl (by rw [← ed9]; exact List.mem_append_left _ (hm18)) (Or.inl rfl) ?_
  generalize eE13 : zuE E11 18 2 0 = E13
  replace K := K E13 eE13.symm
  refine Z.aload_n (k := 0) dX6_init_17 rfl ?_
  refine Z.iconst (n := 1) dX6_init_18 ⟨by decide, by decide⟩ ?_
  refine Y.putI 3 dX6_init_19 zw_X6_19 (fun q => by cases q) (rfl) rfl (by rw [← ed9]; exact List.mem_append_left _ (hm18)) (Or.inr ⟨rfl, by decide⟩) ?_
  generalize eE14 : zuE E13 18 3 1 = E14
  replace K := K E14 eE14.symm
  refine Z.aload_n (k := 0) dX6_init_22 rfl ?_
  refine Z.iconst (n := 1) dX6_init_23 ⟨by decide, by decide⟩ ?_
  refine Y.putI 4 dX6_init_24 zw_X6_23 (fun q => by cases q) (rfl) rfl (by rw [← ed9]; exact List.mem_append_left _ (hm18)) (Or.inr ⟨rfl, by decide⟩) ?_
  generalize eE15 : zuE E14 18 4 1 = E15
  replace K := K E15 eE15.symm
  refine Z.aload_n (k := 0) dX6_init_27 rfl ?_
  refine Z.aload_n (k := 1) dX6_init_28 rfl ?_
  refine Y.putR 0 dX6_init_29 zw_X6_26 (fun _ => ⟨rfl, rfl⟩) (rfl) rfl (by rw [← ed9]; exact List.mem_append_left _ (hm18)) (fun b hb => by cases hb; exact (by rw [← ed9]; exact List.mem_append_left _ (hm1))) ?_
  generalize eG16 : zuG G12 18 0 (some 1) = G16
  replace K := K G16 eG16.symm
  exact Z.vret dX6_init_32 rfl K
