set_option maxRecDepth 20000 in
theorem X6_weigh_0 {kz : Nat × Nat} {Q : Option zV → zH → Prop} {d : List Nat} {G : Nat → Int → Option Nat} {E : Nat → Int → Int} {a1 n1 : Nat} {v2 : Int} {v3 : Int} (hX : zK zXt d G) (ha1 : a1 ∈ d) (hk1 : zkd a1 = (0, n1)) (K : Z zm_X6_weigh kz Q 6 [(0, zR 18), (1, zR a1), (3, zI v3), (4, zI 0), (5, zI v2)] [] (d, G, E)) : Z zm_X6_weigh kz Q 0 [(0, zR 18), (1, zR a1), (2, zI v2), (3, zI v3)] [] (d, G, E) := by
  refine Z.iconst (n := 0) dX6_weigh_0 ⟨by decide, by decide⟩ ?_
  refine Z.istore (ls' := [(4, zI 0), (0, zR 18), (1, zR a1), (2, zI v2), (3, zI v3)]) dX6_weigh_1 (by decide) rfl ?_
  refine Z.iload_n (k := 3) dX6_weigh_3 rfl ?_
  refine Z.istore (ls' := [(5, zI v2), (4, zI 0), (0, zR 18), (1, zR a1), (2, zI v2), (3, zI v3)]) dX6_weigh_4 (by decide) rfl ?_
  refine Z.pick (ls' := [(0, zR 18), (1, zR a1), (3, zI v3), (4, zI 0), (5, zI v2)]) [2, 3, 5, 1, 0] rfl ?_
  exact K
set_option maxRecDepth 20000 in
theorem X6_weigh_6 {kz : Nat × Nat} {Q : Option zV → zH → Prop} {d : List Nat} {G : Nat → Int → Option Nat} {E : Nat → Int → Int} {a1 n1 : Nat} {v3 : Int} {v4 : Int} {v5 : Int} (hX : zK zXt d G) (ha1 : a1 ∈ d) (hk1 : zkd a1 = (0, n1)) (K : (v3 ≤ v5 → Q (some (zI v4)) (d, G, E)) ∧ (¬ (v3 ≤ v5) → ((0 : Int) ≤ v5 ∧ v5 < (n1 : Int)) ∧ ∃ x_3, zM zm_X8_weightOf [zR 1, zI ((E a1 v5))] (d, G, E) (some (zI x_3)) (d, G, E) ∧ zin (v4 + x_3) ∧ zin (v5 + 1) ∧ Z zm_X6_weigh kz Q 6 [(0, zR 18), (1, zR a1), (3, zI v3), (4, zI ((v4 + x_3))), (5, zI ((v5 + 1)))] [] (d, G, E))) : Z zm_X6_weigh kz Q 6 [(0, zR 18), (1, zR a1), (3, zI v3), (4, zI v4), (5, zI v5)] [] (d, G, E) := by
  refine Z.iload (k := 4) dX6_weigh_6 rfl ?_
  refine Z.iload_n (k := 2) dX6_weigh_8 rfl ?_
  refine Z.icmp_ge 34 dX6_weigh_9 rfl ⟨fun c_1 => ?_, fun c_1 => ?_⟩
  · replace K := K.1 c_1
    refine Z.iload (k := 3) dX6_weigh_34 rfl ?_
    exact Z.iret (ty := .int) dX6_weigh_36 rfl rfl K
  · replace K := K.2 c_1
    refine Z.iload (k := 3) dX6_weigh_12 rfl ?_
    refine Z.aload_n (k := 0) dX6_weigh_14 rfl ?_
    refine Y.getR (o := some 1) 0 dX6_weigh_15 zl_X6_26 (rfl) (by decide) rfl (zX_0_5 hX).2.2 (zX_18_0 hX).1 ?_
    refine Z.aload_n (k := 1) dX6_weigh_18 rfl ?_
    refine Z.iload (k := 4) dX6_weigh_19 rfl ?_
    obtain ⟨z_2, K⟩ := K
    refine Y.iald dX6_weigh_21 (hk1) (ha1) z_2 ?_
    obtain ⟨x_3, m_4, K⟩ := K
    refine Y.callV (g := zm_X8_weightOf) (vs := [zI ((E a1 v5))]) (st := [zI v4]) dX6_weigh_22 ⟨zg_X8_weightOf.1, zg_X8_weightOf.2.1, zg_X8_weightOf.2.2, by decide⟩ ⟨zk_X6_30, zv_X8_weightOf⟩ (ci := 8) (rfl) rfl ((zX_0_0 hX).2.2) rfl rfl (Nat.le_of_ble_eq_true rfl) m_4 (Or.inl rfl) ?_
    show Z zm_X6_weigh kz Q 25 [(0, zR 18), (1, zR a1), (3, zI v3), (4, zI v4), (5, zI v5)] [zI x_3, zI v4] (d, G, E)
    obtain ⟨z_6, K⟩ := K
    refine Z.iadd dX6_weigh_25 z_6 ?_
    refine Z.istore (ls' := [(4, zI ((v4 + x_3))), (0, zR 18), (1, zR a1), (3, zI v3), (5, zI v5)]) dX6_weigh_26 (by decide) rfl ?_
    obtain ⟨z_7, K⟩ := K
    refine Z.iinc (k := 4) (ls' := [(5, zI ((v5 + 1))), (4, zI ((v4 + x_3))), (0, zR 18), (1, zR a1), (3, zI v3)]) dX6_weigh_28 rfl (by decide) z_7 rfl ?_
    refine Z.goto 6 dX6_weigh_31 rfl ?_
    refine Z.pick (ls' := [(0, zR 18), (1, zR a1), (3, zI v3), (4, zI ((v4 + x_3))), (5, zI ((v5 + 1)))]) [2, 3, 4, 1, 0] rfl ?_
    exact K
set_option maxRecDepth 20000 in
theorem X6_tally_0 {kz : Nat × Nat} {Q : Option zV → zH → Prop} {d : List Nat} {G : Nat → Int → Option Nat} {E : Nat → Int → Int} {a1 n1 : Nat} {v2 : Int} {v3 : Int} {v4 : Int} (hX : zK zXt d G) (ha1 : a1 ∈ d) (hk1 : zkd a1 = (0, n1)) (K : Z zm_X6_tally kz Q 3 [(0, zR 18), (1, zR a1), (3, zI v3), (4, zI v4), (5, zI v2)] [] (d, G, E)) : Z zm_X6_tally kz Q 0 [(0, zR 18), (1, zR a1), (2, zI v2), (3, zI v3), (4, zI v4)] [] (d, G, E) := by
  refine Z.iload_n (k := 2) dX6_tally_0 rfl ?_
  refine Z.istore (ls' := [(5, zI v2), (0, zR 18), (1, zR a1), (2, zI v2), (3, zI v3), (4, zI v4)]) dX6_tally_1 (by decide) rfl ?_
  refine Z.pick (ls' := [(0, zR 18), (1, zR a1), (3, zI v3), (4, zI v4), (5, zI v2)]) [1, 2, 4, 5, 0] rfl ?_
  exact K
set_option maxRecDepth 20000 in
theorem X6_tally_3 {kz : Nat × Nat} {Q : Option zV → zH → Prop} {d : List Nat} {G : Nat → Int → Option Nat} {E : Nat → Int → Int} {a1 n1 : Nat} {v3 : Int} {v4 : Int} {v5 : Int} (hX : zK zXt d G) (ha1 : a1 ∈ d) (hk1 : zkd a1 = (0, n1)) (K : (v3 ≤ v5 → Q none (d, G, E)) ∧ (¬ (v3 ≤ v5) → ((0 : Int) ≤ v5 ∧ v5 < (n1 : Int)) ∧ ∃ x_3, zM zm_X8_weightOf [zR 1, zI ((E a1 v5))] (d, G, E) (some (zI x_3)) (d, G, E) ∧ zin (v4 * x_3) ∧ zin ((E 18 2) + (v4 * x_3)) ∧ ∀ E_8, E_8 = zuE E 18 2 (((E 18 2) + (v4 * x_3))) → (0 ≤ (E a1 v5) → zin (v5 + 1) ∧ Z zm_X6_tally kz Q 3 [(0, zR 18), (1, zR a1), (3, zI v3), (4, zI v4), (5, zI ((v5 + 1)))] [] (d, G, E_8)) ∧ (¬ (0 ≤ (E a1 v5)) → zin ((-1) - (E a1 v5)) ∧ (40 ≤ ((-1) - (E a1 v5)) → zin (v5 + 1) ∧ Z zm_X6_tally kz Q 3 [(0, zR 18), (1, zR a1), (3, zI v3), (4, zI v4), (5, zI ((v5 + 1)))] [] (d, G, E_8)) ∧ (¬ (40 ≤ ((-1) - (E a1 v5))) → zin ((-1) - (E a1 v5)) ∧ ((0 : Int) ≤ ((-1) - (E a1 v5)) ∧ ((-1) - (E a1 v5)) < (40 : Int)) ∧ zin ((E_8 19 ((-1) - (E a1 v5))) + v4) ∧ ((0 : Int) ≤ ((-1) - (E a1 v5)) ∧ ((-1) - (E a1 v5)) < (40 : Int)) ∧ ∀ E_18, E_18 = zuE E_8 19 (((-1) - (E a1 v5))) (((E_8 19 ((-1) - (E a1 v5))) + v4)) → zin (v5 + 1) ∧ Z zm_X6_tally kz Q 3 [(0, zR 18), (1, zR a1), (3, zI v3), (4, zI v4), (5, zI ((v5 + 1)))] [] (d, G, E_18))))) : Z zm_X6_tally kz Q 3 [(0, zR 18), (1, zR a1), (3, zI v3), (4, zI v4), (5, zI v5)] [] (d, G, E) := by
  refine Z.iload (k := 4) dX6_tally_3 rfl ?_
  refine Z.iload_n (k := 2) dX6_tally_5 rfl ?_
  refine Z.icmp_ge 73 dX6_tally_6 rfl ⟨fun c_1 => ?_, fun c_1 => ?_⟩
  · replace K := K.1 c_1
    exact Z.vret dX6_tally_73 rfl K
  · replace K := K.2 c_1
    refine Z.aload_n (k := 1) dX6_tally_9 rfl ?_
    refine Z.iload (k := 4) dX6_tally_10 rfl ?_
    obtain ⟨z_2, K⟩ := K
    refine Y.iald dX6_tally_12 (hk1) (ha1) z_2 ?_
    refine Z.istore (ls' := [(6, zI ((E a1 v5))), (0, zR 18), (1, zR a1), (3, zI v3), (4, zI v4), (5, zI v5)]) dX6_tally_13 (by decide) rfl ?_
    refine Z.aload_n (k := 1) dX6_tally_15 rfl ?_
    refine Z.dup_i dX6_tally_16 (fun _ => rfl) ?_
    refine Y.getI 2 dX6_tally_17 zl_X6_15 (rfl) (by decide) rfl (zX_0_5 hX).2.2 ?_
    refine Z.iload (k := 4) dX6_tally_20 rfl ?_
    refine Z.aload_n (k := 1) dX6_tally_22 rfl ?_
    refine Y.getR (o := some 1) 0 dX6_tally_23 zl_X6_26 (rfl) (by decide) rfl (zX_0_5 hX).2.2 (zX_18_0 hX).1 ?_
    refine Z.iload (k := 0) dX6_tally_26 rfl ?_
    obtain ⟨x_3, m_4, K⟩ := K
    refine Y.callV (g := zm_X8_weightOf) (vs := [zI ((E a1 v5))]) (st := [zI v4, zI ((E 18 2)), zR 18]) dX6_tally_28 ⟨zg_X8_weightOf.1, zg_X8_weightOf.2.1, zg_X8_weightOf.2.2, by decide⟩ ⟨zk_X6_30, zv_X8_weightOf⟩ (ci := 8) (rfl) rfl ((zX_0_0 hX).2.2) rfl rfl (Nat.le_of_ble_eq_true rfl) m_4 (Or.inl rfl) ?_
    show Z zm_X6_tally kz Q 31 [(6, zI ((E a1 v5))), (0, zR 18), (1, zR a1), (3, zI v3), (4, zI v4), (5, zI v5)] [zI x_3, zI v4, zI ((E 18 2)), zR 18] (d, G, E)
    obtain ⟨z_6, K⟩ := K
    refine Z.imul dX6_tally_31 z_6 ?_
    obtain ⟨z_7, K⟩ := K
    refine Z.iadd dX6_tally_32 z_7 ?_
    refine Y.putI 2 dX6_tally_33 zw_X6_15 (fun q => by cases q) (rfl) rfl (zX_0_5 hX).2.2 (Or.inl rfl) ?_
    generalize eE_8 : zuE E 18 2 (((E 18 2) + (v4 * x_3))) = E_8
    replace K := K E_8 eE_8.symm
    refine Z.iload (k := 0) dX6_tally_36 rfl ?_
    refine Z.if_ge 67 dX6_tally_38 rfl ⟨fun c_9 => ?_, fun c_9 => ?_⟩
    · replace K := K.1 c_9
      obtain ⟨z_10, K⟩ := K
      refine Z.iinc (k := 5) (ls' := [(5, zI ((v5 + 1))), (6, zI ((E a1 v5))), (0, zR 18), (1, zR a1), (3, zI v3), (4, zI v4)]) dX6_tally_67 rfl (by decide) z_10 rfl ?_
      refine Z.goto 3 dX6_tally_70 rfl ?_
      refine Z.pick (ls' := [(0, zR 18), (1, zR a1), (3, zI v3), (4, zI v4), (5, zI ((v5 + 1)))]) [2, 3, 4, 5, 0] rfl ?_
      exact K
    · replace K := K.2 c_9
      refine Z.iconst (n := -1) dX6_tally_41 ⟨by decide, by decide⟩ ?_
      refine Z.iload (k := 0) dX6_tally_42 rfl ?_
      obtain ⟨z_11, K⟩ := K
      refine Z.isub dX6_tally_44 z_11 ?_
      refine Z.aload_n (k := 1) dX6_tally_45 rfl ?_
      refine Y.getR (o := some 19) 1 dX6_tally_46 zl_X6_9 (rfl) (by decide) rfl (zX_0_5 hX).2.2 (zX_18_1 hX).1 ?_
      refine Y.alen 40 40 dX6_tally_49 (rfl) ((zX_18_1 hX).2.2) rfl ⟨by decide, by decide⟩ ?_
      refine Z.icmp_ge 67 dX6_tally_50 rfl ⟨fun c_12 => ?_, fun c_12 => ?_⟩
      · replace K := K.1 c_12
        obtain ⟨z_13, K⟩ := K
        refine Z.iinc (k := 5) (ls' := [(5, zI ((v5 + 1))), (6, zI ((E a1 v5))), (0, zR 18), (1, zR a1), (3, zI v3), (4, zI v4)]) dX6_tally_67 rfl (by decide) z_13 rfl ?_
        refine Z.goto 3 dX6_tally_70 rfl ?_
        refine Z.pick (ls' := [(0, zR 18), (1, zR a1), (3, zI v3), (4, zI v4), (5, zI ((v5 + 1)))]) [2, 3, 4, 5, 0] rfl ?_
        exact K
      · replace K := K.2 c_12
        refine Z.aload_n (k := 1) dX6_tally_53 rfl ?_
        refine Y.getR (o := some 19) 1 dX6_tally_54 zl_X6_9 (rfl) (by decide) rfl (zX_0_5 hX).2.2 (zX_18_1 hX).1 ?_
        refine Z.iconst (n := -1) dX6_tally_57 ⟨by decide, by decide⟩ ?_
        refine Z.iload (k := 0) dX6_tally_58 rfl ?_
        obtain ⟨z_14, K⟩ := K
        refine Z.isub dX6_tally_60 z_14 ?_
        refine Z.dup2_i dX6_tally_61 (fun _ => rfl) (fun _ => rfl) ?_
        obtain ⟨z_15, K⟩ := K
        refine Y.iald dX6_tally_62 (rfl) ((zX_18_1 hX).2.2) z_15 ?_
        refine Z.iload (k := 4) dX6_tally_63 rfl ?_
        obtain ⟨z_16, K⟩ := K
        refine Z.iadd dX6_tally_65 z_16 ?_
        obtain ⟨z_17, K⟩ := K
        refine Y.iast dX6_tally_66 (rfl) ((zX_18_1 hX).2.2) z_17 ?_
        generalize eE_18 : zuE E_8 19 (((-1) - (E a1 v5))) (((E_8 19 ((-1) - (E a1 v5))) + v4)) = E_18
        replace K := K E_18 eE_18.symm
        obtain ⟨z_19, K⟩ := K
        refine Z.iinc (k := 5) (ls' := [(5, zI ((v5 + 1))), (6, zI ((E a1 v5))), (0, zR 18), (1, zR a1), (3, zI v3), (4, zI v4)]) dX6_tally_67 rfl (by decide) z_19 rfl ?_
        refine Z.goto 3 dX6_tally_70 rfl ?_
        refine Z.pick (ls' := [(0, zR 18), (1, zR a1), (3, zI v3), (4, zI v4), (5, zI ((v5 + 1)))]) [2, 3, 4, 5, 0] rfl ?_
        exact K
set_option maxRecDepth 20000 in
theorem X6_settleSurplus_0 {kz : Nat × Nat} {Q : Option zV → zH → Prop} {d : List Nat} {G : Nat → Int → Option Nat} {E : Nat → Int → Int} {a1 n1 : Nat} {v2 : Int} {v3 : Int} (hX : zK zXt d G) (ha1 : a1 ∈ d) (hk1 : zkd a1 = (0, n1)) (K : Z zm_X6_settleSurplus kz Q 3 [(0, zR 18), (1, zR a1), (3, zI v3), (4, zI v2)] [] (d, G, E)) : Z zm_X6_settleSurplus kz Q 0 [(0, zR 18), (1, zR a1), (2, zI v2), (3, zI v3)] [] (d, G, E) := by
  refine Z.iload_n (k := 2) dX6_settleSurplus_0 rfl ?_
  refine Z.istore (ls' := [(4, zI v2), (0, zR 18), (1, zR a1), (2, zI v2), (3, zI v3)]) dX6_settleSurplus_1 (by decide) rfl ?_
  refine Z.pick (ls' := [(0, zR 18), (1, zR a1), (3, zI v3), (4, zI v2)]) [1, 2, 4, 0] rfl ?_
  exact K
set_option maxRecDepth 20000 in
theorem X6_settleSurplus_3 {kz : Nat × Nat} {Q : Option zV → zH → Prop} {d : List Nat} {G : Nat → Int → Option Nat} {E : Nat → Int → Int} {a1 n1 : Nat} {v3 : Int} {v4 : Int} (hX : zK zXt d G) (ha1 : a1 ∈ d) (hk1 : zkd a1 = (0, n1)) (K : (v3 ≤ v4 → Q none (d, G, E)) ∧ (¬ (v3 ≤ v4) → ((0 : Int) ≤ v4 ∧ v4 < (n1 : Int)) ∧ zin ((-1) - (E a1 v4)) ∧ (((-1) - (E a1 v4)) < 0 → zin (v4 + 1) ∧ Z zm_X6_settleSurplus kz Q 3 [(0, zR 18), (1, zR a1), (3, zI v3), (4, zI ((v4 + 1)))] [] (d, G, E)) ∧ (¬ (((-1) - (E a1 v4)) < 0) → (40 ≤ ((-1) - (E a1 v4)) → zin (v4 + 1) ∧ Z zm_X6_settleSurplus kz Q 3 [(0, zR 18), (1, zR a1), (3, zI v3), (4, zI ((v4 + 1)))] [] (d, G, E)) ∧ (¬ (40 ≤ ((-1) - (E a1 v4))) → ((E 18 3) = 0 → Z zm_X6_settleSurplus kz Q 54 [(0, zR 18), (1, zR a1), (3, zI v3), (4, zI v4), (5, zI (((-1) - (E a1 v4))))] [zR 18] (d, G, E)) ∧ (¬ ((E 18 3) = 0) → ((0 : Int) ≤ ((-1) - (E a1 v4)) ∧ ((-1) - (E a1 v4)) < (40 : Int)) ∧ ((E 19 ((-1) - (E a1 v4))) < 0 → Z zm_X6_settleSurplus kz Q 54 [(0, zR 18), (1, zR a1), (3, zI v3), (4, zI v4), (5, zI (((-1) - (E a1 v4))))] [zR 18] (d, G, E)) ∧ (¬ ((E 19 ((-1) - (E a1 v4))) < 0) → ∀ E_11, E_11 = zuE E 18 3 1 → ((E_11 18 4) = 0 → ∀ E_13, E_13 = zuE E_11 18 4 0 → ((0 : Int) ≤ ((-1) - (E a1 v4)) ∧ ((-1) - (E a1 v4)) < (40 : Int)) ∧ ∀ E_15, E_15 = zuE E_13 19 (((-1) - (E a1 v4))) 0 → zin (v4 + 1) ∧ Z zm_X6_settleSurplus kz Q 3 [(0, zR 18), (1, zR a1), (3, zI v3), (4, zI ((v4 + 1)))] [] (d, G, E_15)) ∧ (¬ ((E_11 18 4) = 0) → ((0 : Int) ≤ ((-1) - (E a1 v4)) ∧ ((-1) - (E a1 v4)) < (40 : Int)) ∧ (0 < (E_11 19 ((-1) - (E a1 v4))) → ∀ E_19, E_19 = zuE E_11 18 4 0 → ((0 : Int) ≤ ((-1) - (E a1 v4)) ∧ ((-1) - (E a1 v4)) < (40 : Int)) ∧ ∀ E_21, E_21 = zuE E_19 19 (((-1) - (E a1 v4))) 0 → zin (v4 + 1) ∧ Z zm_X6_settleSurplus kz Q 3 [(0, zR 18), (1, zR a1), (3, zI v3), (4, zI ((v4 + 1)))] [] (d, G, E_21)) ∧ (¬ (0 < (E_11 19 ((-1) - (E a1 v4)))) → ∀ E_23, E_23 = zuE E_11 18 4 1 → ((0 : Int) ≤ ((-1) - (E a1 v4)) ∧ ((-1) - (E a1 v4)) < (40 : Int)) ∧ ∀ E_25, E_25 = zuE E_23 19 (((-1) - (E a1 v4))) 0 → zin (v4 + 1) ∧ Z zm_X6_settleSurplus kz Q 3 [(0, zR 18), (1, zR a1), (3, zI v3), (4, zI ((v4 + 1)))] [] (d, G, E_25))))))))) : Z zm_X6_settleSurplus kz Q 3 [(0, zR 18), (1, zR a1), (3, zI v3), (4, zI v4)] [] (d, G, E) := by
  refine Z.iload (k := 3) dX6_settleSurplus_3 rfl ?_
  refine Z.iload_n (k := 2) dX6_settleSurplus_5 rfl ?_
  refine Z.icmp_ge 98 dX6_settleSurplus_6 rfl ⟨fun c_1 => ?_, fun c_1 => ?_⟩
  · replace K := K.1 c_1
    exact Z.vret dX6_settleSurplus_98 rfl K
  · replace K := K.2 c_1
    refine Z.iconst (n := -1) dX6_settleSurplus_9 ⟨by decide, by decide⟩ ?_
    refine Z.aload_n (k := 1) dX6_settleSurplus_10 rfl ?_
    refine Z.iload (k := 3) dX6_settleSurplus_11 rfl ?_
    obtain ⟨z_2, K⟩ := K
    refine Y.iald dX6_settleSurplus_13 (hk1) (ha1) z_2 ?_
    obtain ⟨z_3, K⟩ := K
    refine Z.isub dX6_settleSurplus_14 z_3 ?_
    refine Z.istore (ls' := [(5, zI (((-1) - (E a1 v4)))), (0, zR 18), (1, zR a1), (3, zI v3), (4, zI v4)]) dX6_settleSurplus_15 (by decide) rfl ?_
    refine Z.iload (k := 0) dX6_settleSurplus_17 rfl ?_
    refine Z.if_lt 92 dX6_settleSurplus_19 rfl ⟨fun c_4 => ?_, fun c_4 => ?_⟩
    · replace K := K.1 c_4
      obtain ⟨z_5, K⟩ := K
      refine Z.iinc (k := 4) (ls' := [(4, zI ((v4 + 1))), (5, zI (((-1) - (E a1 v4)))), (0, zR 18), (1, zR a1), (3, zI v3)]) dX6_settleSurplus_92 rfl (by decide) z_5 rfl ?_
      refine Z.goto 3 dX6_settleSurplus_95 rfl ?_
      refine Z.pick (ls' := [(0, zR 18), (1, zR a1), (3, zI v3), (4, zI ((v4 + 1)))]) [2, 3, 4, 0] rfl ?_
      exact K
    · replace K := K.2 c_4
      refine Z.iload (k := 0) dX6_settleSurplus_22 rfl ?_
      refine Z.aload_n (k := 1) dX6_settleSurplus_24 rfl ?_
      refine Y.getR (o := some 19) 1 dX6_settleSurplus_25 zl_X6_9 (rfl) (by decide) rfl (zX_0_5 hX).2.2 (zX_18_1 hX).1 ?_
      refine Y.alen 40 40 dX6_settleSurplus_28 (rfl) ((zX_18_1 hX).2.2) rfl ⟨by decide, by decide⟩ ?_
      refine Z.icmp_ge 92 dX6_settleSurplus_29 rfl ⟨fun c_6 => ?_, fun c_6 => ?_⟩
      · replace K := K.1 c_6
        obtain ⟨z_7, K⟩ := K
        refine Z.iinc (k := 4) (ls' := [(4, zI ((v4 + 1))), (5, zI (((-1) - (E a1 v4)))), (0, zR 18), (1, zR a1), (3, zI v3)]) dX6_settleSurplus_92 rfl (by decide) z_7 rfl ?_
        refine Z.goto 3 dX6_settleSurplus_95 rfl ?_
        refine Z.pick (ls' := [(0, zR 18), (1, zR a1), (3, zI v3), (4, zI ((v4 + 1)))]) [2, 3, 4, 0] rfl ?_
        exact K
      · replace K := K.2 c_6
        refine Z.aload_n (k := 1) dX6_settleSurplus_32 rfl ?_
        refine Z.aload_n (k := 1) dX6_settleSurplus_33 rfl ?_
        refine Y.getI 3 dX6_settleSurplus_34 zl_X6_19 (rfl) (by decide) rfl (zX_0_5 hX).2.2 ?_
        refine Z.if_eq 54 dX6_settleSurplus_37 rfl ⟨fun c_8 => ?_, fun c_8 => ?_⟩
        · replace K := K.1 c_8
          refine Z.pick (ls' := [(0, zR 18), (1, zR a1), (3, zI v3), (4, zI v4), (5, zI (((-1) - (E a1 v4))))]) [1, 2, 3, 4, 0] rfl ?_
          exact K
        · replace K := K.2 c_8
          refine Z.aload_n (k := 1) dX6_settleSurplus_40 rfl ?_
          refine Y.getR (o := some 19) 1 dX6_settleSurplus_41 zl_X6_9 (rfl) (by decide) rfl (zX_0_5 hX).2.2 (zX_18_1 hX).1 ?_
          refine Z.iload (k := 0) dX6_settleSurplus_44 rfl ?_
          obtain ⟨z_9, K⟩ := K
          refine Y.iald dX6_settleSurplus_46 (rfl) ((zX_18_1 hX).2.2) z_9 ?_
          refine Z.if_lt 54 dX6_settleSurplus_47 rfl ⟨fun c_10 => ?_, fun c_10 => ?_⟩
          · replace K := K.1 c_10
            refine Z.pick (ls' := [(0, zR 18), (1, zR a1), (3, zI v3), (4, zI v4), (5, zI (((-1) - (E a1 v4))))]) [1, 2, 3, 4, 0] rfl ?_
            exact K
          · replace K := K.2 c_10
            refine Z.iconst (n := 1) dX6_settleSurplus_50 ⟨by decide, by decide⟩ ?_
            refine Z.goto 55 dX6_settleSurplus_51 rfl ?_
            refine Y.putI 3 dX6_settleSurplus_55 zw_X6_19 (fun q => by cases q) (rfl) rfl (zX_0_5 hX).2.2 (Or.inr ⟨rfl, by decide⟩) ?_
            generalize eE_11 : zuE E 18 3 1 = E_11
            replace K := K E_11 eE_11.symm
            refine Z.aload_n (k := 1) dX6_settleSurplus_58 rfl ?_
            refine Z.aload_n (k := 1) dX6_settleSurplus_59 rfl ?_
            refine Y.getI 4 dX6_settleSurplus_60 zl_X6_23 (rfl) (by decide) rfl (zX_0_5 hX).2.2 ?_
            refine Z.if_eq 80 dX6_settleSurplus_63 rfl ⟨fun c_12 => ?_, fun c_12 => ?_⟩
            · replace K := K.1 c_12
              refine Z.iconst (n := 0) dX6_settleSurplus_80 ⟨by decide, by decide⟩ ?_
              refine Y.putI 4 dX6_settleSurplus_81 zw_X6_23 (fun q => by cases q) (rfl) rfl (zX_0_5 hX).2.2 (Or.inr ⟨rfl, by decide⟩) ?_
              generalize eE_13 : zuE E_11 18 4 0 = E_13
              replace K := K E_13 eE_13.symm
              refine Z.aload_n (k := 1) dX6_settleSurplus_84 rfl ?_
              refine Y.getR (o := some 19) 1 dX6_settleSurplus_85 zl_X6_9 (rfl) (by decide) rfl (zX_0_5 hX).2.2 (zX_18_1 hX).1 ?_
              refine Z.iload (k := 0) dX6_settleSurplus_88 rfl ?_
              refine Z.iconst (n := 0) dX6_settleSurplus_90 ⟨by decide, by decide⟩ ?_
              obtain ⟨z_14, K⟩ := K
              refine Y.iast dX6_settleSurplus_91 (rfl) ((zX_18_1 hX).2.2) z_14 ?_
              generalize eE_15 : zuE E_13 19 (((-1) - (E a1 v4))) 0 = E_15
              replace K := K E_15 eE_15.symm
              obtain ⟨z_16, K⟩ := K
              refine Z.iinc (k := 4) (ls' := [(4, zI ((v4 + 1))), (5, zI (((-1) - (E a1 v4)))), (0, zR 18), (1, zR a1), (3, zI v3)]) dX6_settleSurplus_92 rfl (by decide) z_16 rfl ?_
              refine Z.goto 3 dX6_settleSurplus_95 rfl ?_
              refine Z.pick (ls' := [(0, zR 18), (1, zR a1), (3, zI v3), (4, zI ((v4 + 1)))]) [2, 3, 4, 0] rfl ?_
              exact K
            · replace K := K.2 c_12
              refine Z.aload_n (k := 1) dX6_settleSurplus_66 rfl ?_
              refine Y.getR (o := some 19) 1 dX6_settleSurplus_67 zl_X6_9 (rfl) (by decide) rfl (zX_0_5 hX).2.2 (zX_18_1 hX).1 ?_
              refine Z.iload (k := 0) dX6_settleSurplus_70 rfl ?_
              obtain ⟨z_17, K⟩ := K
              refine Y.iald dX6_settleSurplus_72 (rfl) ((zX_18_1 hX).2.2) z_17 ?_
              refine Z.if_gt 80 dX6_settleSurplus_73 rfl ⟨fun c_18 => ?_, fun c_18 => ?_⟩
              · replace K := K.1 c_18
                refine Z.iconst (n := 0) dX6_settleSurplus_80 ⟨by decide, by decide⟩ ?_
                refine Y.putI 4 dX6_settleSurplus_81 zw_X6_23 (fun q => by cases q) (rfl) rfl (zX_0_5 hX).2.2 (Or.inr ⟨rfl, by decide⟩) ?_
                generalize eE_19 : zuE E_11 18 4 0 = E_19
                replace K := K E_19 eE_19.symm
                refine Z.aload_n (k := 1) dX6_settleSurplus_84 rfl ?_
                refine Y.getR (o := some 19) 1 dX6_settleSurplus_85 zl_X6_9 (rfl) (by decide) rfl (zX_0_5 hX).2.2 (zX_18_1 hX).1 ?_
                refine Z.iload (k := 0) dX6_settleSurplus_88 rfl ?_
                refine Z.iconst (n := 0) dX6_settleSurplus_90 ⟨by decide, by decide⟩ ?_
                obtain ⟨z_20, K⟩ := K
                refine Y.iast dX6_settleSurplus_91 (rfl) ((zX_18_1 hX).2.2) z_20 ?_
                generalize eE_21 : zuE E_19 19 (((-1) - (E a1 v4))) 0 = E_21
                replace K := K E_21 eE_21.symm
                obtain ⟨z_22, K⟩ := K
                refine Z.iinc (k := 4) (ls' := [(4, zI ((v4 + 1))), (5, zI (((-1) - (E a1 v4)))), (0, zR 18), (1, zR a1), (3, zI v3)]) dX6_settleSurplus_92 rfl (by decide) z_22 rfl ?_
                refine Z.goto 3 dX6_settleSurplus_95 rfl ?_
                refine Z.pick (ls' := [(0, zR 18), (1, zR a1), (3, zI v3), (4, zI ((v4 + 1)))]) [2, 3, 4, 0] rfl ?_
                exact K
              · replace K := K.2 c_18
                refine Z.iconst (n := 1) dX6_settleSurplus_76 ⟨by decide, by decide⟩ ?_
                refine Z.goto 81 dX6_settleSurplus_77 rfl ?_
                refine Y.putI 4 dX6_settleSurplus_81 zw_X6_23 (fun q => by cases q) (rfl) rfl (zX_0_5 hX).2.2 (Or.inr ⟨rfl, by decide⟩) ?_
                generalize eE_23 : zuE E_11 18 4 1 = E_23
                replace K := K E_23 eE_23.symm
                refine Z.aload_n (k := 1) dX6_settleSurplus_84 rfl ?_
                refine Y.getR (o := some 19) 1 dX6_settleSurplus_85 zl_X6_9 (rfl) (by decide) rfl (zX_0_5 hX).2.2 (zX_18_1 hX).1 ?_
                refine Z.iload (k := 0) dX6_settleSurplus_88 rfl ?_
                refine Z.iconst (n := 0) dX6_settleSurplus_90 ⟨by decide, by decide⟩ ?_
                obtain ⟨z_24, K⟩ := K
                refine Y.iast dX6_settleSurplus_91 (rfl) ((zX_18_1 hX).2.2) z_24 ?_
                generalize eE_25 : zuE E_23 19 (((-1) - (E a1 v4))) 0 = E_25
                replace K := K E_25 eE_25.symm
                obtain ⟨z_26, K⟩ := K
                refine Z.iinc (k := 4) (ls' := [(4, zI ((v4 + 1))), (5, zI (((-1) - (E a1 v4)))), (0, zR 18), (1, zR a1), (3, zI v3)]) dX6_settleSurplus_92 rfl (by decide) z_26 rfl ?_
                refine Z.goto 3 dX6_settleSurplus_95 rfl ?_
                refine Z.pick (ls' := [(0, zR 18), (1, zR a1), (3, zI v3), (4, zI ((v4 + 1)))]) [2, 3, 4, 0] rfl ?_
                exact K
set_option maxRecDepth 20000 in
theorem X6_settleSurplus_54 {kz : Nat × Nat} {Q : Option zV → zH → Prop} {d : List Nat} {G : Nat → Int → Option Nat} {E : Nat → Int → Int} {a1 n1 : Nat} {v3 : Int} {v4 : Int} {v5 : Int} (hX : zK zXt d G) (ha1 : a1 ∈ d) (hk1 : zkd a1 = (0, n1)) (K : ∀ E_1, E_1 = zuE E 18 3 0 → ((E_1 18 4) = 0 → ∀ E_3, E_3 = zuE E_1 18 4 0 → ((0 : Int) ≤ v5 ∧ v5 < (40 : Int)) ∧ ∀ E_5, E_5 = zuE E_3 19 v5 0 → zin (v4 + 1) ∧ Z zm_X6_settleSurplus kz Q 3 [(0, zR 18), (1, zR a1), (3, zI v3), (4, zI ((v4 + 1)))] [] (d, G, E_5)) ∧ (¬ ((E_1 18 4) = 0) → ((0 : Int) ≤ v5 ∧ v5 < (40 : Int)) ∧ (0 < (E_1 19 v5) → ∀ E_9, E_9 = zuE E_1 18 4 0 → ((0 : Int) ≤ v5 ∧ v5 < (40 : Int)) ∧ ∀ E_11, E_11 = zuE E_9 19 v5 0 → zin (v4 + 1) ∧ Z zm_X6_settleSurplus kz Q 3 [(0, zR 18), (1, zR a1), (3, zI v3), (4, zI ((v4 + 1)))] [] (d, G, E_11)) ∧ (¬ (0 < (E_1 19 v5)) → ∀ E_13, E_13 = zuE E_1 18 4 1 → ((0 : Int) ≤ v5 ∧ v5 < (40 : Int)) ∧ ∀ E_15, E_15 = zuE E_13 19 v5 0 → zin (v4 + 1) ∧ Z zm_X6_settleSurplus kz Q 3 [(0, zR 18), (1, zR a1), (3, zI v3), (4, zI ((v4 + 1)))] [] (d, G, E_15)))) : Z zm_X6_settleSurplus kz Q 54 [(0, zR 18), (1, zR a1), (3, zI v3), (4, zI v4), (5, zI v5)] [zR 18] (d, G, E) := by
  refine Z.iconst (n := 0) dX6_settleSurplus_54 ⟨by decide, by decide⟩ ?_
  refine Y.putI 3 dX6_settleSurplus_55 zw_X6_19 (fun q => by cases q) (rfl) rfl (zX_0_5 hX).2.2 (Or.inr ⟨rfl, by decide⟩) ?_
  generalize eE_1 : zuE E 18 3 0 = E_1
  replace K := K E_1 eE_1.symm
  refine Z.aload_n (k := 0) dX6_settleSurplus_58 rfl ?_
  refine Z.aload_n (k := 0) dX6_settleSurplus_59 rfl ?_
  refine Y.getI 4 dX6_settleSurplus_60 zl_X6_23 (rfl) (by decide) rfl (zX_0_5 hX).2.2 ?_
  refine Z.if_eq 80 dX6_settleSurplus_63 rfl ⟨fun c_2 => ?_, fun c_2 => ?_⟩
  · replace K := K.1 c_2
    refine Z.iconst (n := 0) dX6_settleSurplus_80 ⟨by decide, by decide⟩ ?_
    refine Y.putI 4 dX6_settleSurplus_81 zw_X6_23 (fun q => by cases q) (rfl) rfl (zX_0_5 hX).2.2 (Or.inr ⟨rfl, by decide⟩) ?_
    generalize eE_3 : zuE E_1 18 4 0 = E_3
    replace K := K E_3 eE_3.symm
    refine Z.aload_n (k := 0) dX6_settleSurplus_84 rfl ?_
    refine Y.getR (o := some 19) 1 dX6_settleSurplus_85 zl_X6_9 (rfl) (by decide) rfl (zX_0_5 hX).2.2 (zX_18_1 hX).1 ?_
    refine Z.iload (k := 4) dX6_settleSurplus_88 rfl ?_
    refine Z.iconst (n := 0) dX6_settleSurplus_90 ⟨by decide, by decide⟩ ?_
    obtain ⟨z_4, K⟩ := K
    refine Y.iast dX6_settleSurplus_91 (rfl) ((zX_18_1 hX).2.2) z_4 ?_
    generalize eE_5 : zuE E_3 19 v5 0 = E_5
    replace K := K E_5 eE_5.symm
    obtain ⟨z_6, K⟩ := K
    refine Z.iinc (k := 3) (ls' := [(4, zI ((v4 + 1))), (0, zR 18), (1, zR a1), (3, zI v3), (5, zI v5)]) dX6_settleSurplus_92 rfl (by decide) z_6 rfl ?_
    refine Z.goto 3 dX6_settleSurplus_95 rfl ?_
    refine Z.pick (ls' := [(0, zR 18), (1, zR a1), (3, zI v3), (4, zI ((v4 + 1)))]) [1, 2, 3, 0] rfl ?_
    exact K
  · replace K := K.2 c_2
    refine Z.aload_n (k := 0) dX6_settleSurplus_66 rfl ?_
    refine Y.getR (o := some 19) 1 dX6_settleSurplus_67 zl_X6_9 (rfl) (by decide) rfl (zX_0_5 hX).2.2 (zX_18_1 hX).1 ?_
    refine Z.iload (k := 4) dX6_settleSurplus_70 rfl ?_
    obtain ⟨z_7, K⟩ := K
    refine Y.iald dX6_settleSurplus_72 (rfl) ((zX_18_1 hX).2.2) z_7 ?_
    refine Z.if_gt 80 dX6_settleSurplus_73 rfl ⟨fun c_8 => ?_, fun c_8 => ?_⟩
    · replace K := K.1 c_8
      refine Z.iconst (n := 0) dX6_settleSurplus_80 ⟨by decide, by decide⟩ ?_
      refine Y.putI 4 dX6_settleSurplus_81 zw_X6_23 (fun q => by cases q) (rfl) rfl (zX_0_5 hX).2.2 (Or.inr ⟨rfl, by decide⟩) ?_
      generalize eE_9 : zuE E_1 18 4 0 = E_9
      replace K := K E_9 eE_9.symm
      refine Z.aload_n (k := 0) dX6_settleSurplus_84 rfl ?_
      refine Y.getR (o := some 19) 1 dX6_settleSurplus_85 zl_X6_9 (rfl) (by decide) rfl (zX_0_5 hX).2.2 (zX_18_1 hX).1 ?_
      refine Z.iload (k := 4) dX6_settleSurplus_88 rfl ?_
      refine Z.iconst (n := 0) dX6_settleSurplus_90 ⟨by decide, by decide⟩ ?_
      obtain ⟨z_10, K⟩ := K
      refine Y.iast dX6_settleSurplus_91 (rfl) ((zX_18_1 hX).2.2) z_10 ?_
      generalize eE_11 : zuE E_9 19 v5 0 = E_11
      replace K := K E_11 eE_11.symm
      obtain ⟨z_12, K⟩ := K
      refine Z.iinc (k := 3) (ls' := [(4, zI ((v4 + 1))), (0, zR 18), (1, zR a1), (3, zI v3), (5, zI v5)]) dX6_settleSurplus_92 rfl (by decide) z_12 rfl ?_
      refine Z.goto 3 dX6_settleSurplus_95 rfl ?_
      refine Z.pick (ls' := [(0, zR 18), (1, zR a1), (3, zI v3), (4, zI ((v4 + 1)))]) [1, 2, 3, 0] rfl ?_
      exact K
    · replace K := K.2 c_8
      refine Z.iconst (n := 1) dX6_settleSurplus_76 ⟨by decide, by decide⟩ ?_
      refine Z.goto 81 dX6_settleSurplus_77 rfl ?_
      refine Y.putI 4 dX6_settleSurplus_81 zw_X6_23 (fun q => by cases q) (rfl) rfl (zX_0_5 hX).2.2 (Or.inr ⟨rfl, by decide⟩) ?_
      generalize eE_13 : zuE E_1 18 4 1 = E_13
      replace K := K E_13 eE_13.symm
      refine Z.aload_n (k := 0) dX6_settleSurplus_84 rfl ?_
      refine Y.getR (o := some 19) 1 dX6_settleSurplus_85 zl_X6_9 (rfl) (by decide) rfl (zX_0_5 hX).2.2 (zX_18_1 hX).1 ?_
      refine Z.iload (k := 4) dX6_settleSurplus_88 rfl ?_
      refine Z.iconst (n := 0) dX6_settleSurplus_90 ⟨by decide, by decide⟩ ?_
      obtain ⟨z_14, K⟩ := K
      refine Y.iast dX6_settleSurplus_91 (rfl) ((zX_18_1 hX).2.2) z_14 ?_
      generalize eE_15 : zuE E_13 19 v5 0 = E_15
      replace K := K E_15 eE_15.symm
      obtain ⟨z_16, K⟩ := K
      refine Z.iinc (k := 3) (ls' := [(4, zI ((v4 + 1))), (0, zR 18), (1, zR a1), (3, zI v3), (5, zI v5)]) dX6_settleSurplus_92 rfl (by decide) z_16 rfl ?_
      refine Z.goto 3 dX6_settleSurplus_95 rfl ?_
      refine Z.pick (ls' := [(0, zR 18), (1, zR a1), (3, zI v3), (4, zI ((v4 + 1)))]) [1, 2, 3, 0] rfl ?_
      exact K
set_option maxRecDepth 20000 in
theorem X6_settled_0 {kz : Nat × Nat} {Q : Option zV → zH → Prop} {d : List Nat} {G : Nat → Int → Option Nat} {E : Nat → Int → Int} {v1 : Int} (hX : zK zXt d G) (K : (v1 = 0 → ((E 18 4) = 0 → Q (some (zI 0)) (d, G, E)) ∧ (¬ ((E 18 4) = 0) → Q (some (zI ((-1)))) (d, G, E))) ∧ (¬ (v1 = 0) → ((E 18 3) = 0 → Q (some (zI 0)) (d, G, E)) ∧ (¬ ((E 18 3) = 0) → Q (some (zI 1)) (d, G, E)))) : Z zm_X6_settled kz Q 0 [(0, zR 18), (1, zI v1)] [] (d, G, E) := by
  refine Z.iload_n (k := 1) dX6_settled_0 rfl ?_
  refine Z.if_eq 17 dX6_settled_1 rfl ⟨fun c_1 => ?_, fun c_1 => ?_⟩
  · replace K := K.1 c_1
    refine Z.aload_n (k := 0) dX6_settled_17 rfl ?_
    refine Y.getI 4 dX6_settled_18 zl_X6_23 (rfl) (by decide) rfl (zX_0_5 hX).2.2 ?_
    refine Z.if_eq 28 dX6_settled_21 rfl ⟨fun c_2 => ?_, fun c_2 => ?_⟩
    · replace K := K.1 c_2
      refine Z.iconst (n := 0) dX6_settled_28 ⟨by decide, by decide⟩ ?_
      exact Z.iret (ty := .int) dX6_settled_29 rfl rfl K
    · replace K := K.2 c_2
      refine Z.iconst (n := -1) dX6_settled_24 ⟨by decide, by decide⟩ ?_
      refine Z.goto 29 dX6_settled_25 rfl ?_
      exact Z.iret (ty := .int) dX6_settled_29 rfl rfl K
  · replace K := K.2 c_1
    refine Z.aload_n (k := 0) dX6_settled_4 rfl ?_
    refine Y.getI 3 dX6_settled_5 zl_X6_19 (rfl) (by decide) rfl (zX_0_5 hX).2.2 ?_
    refine Z.if_eq 15 dX6_settled_8 rfl ⟨fun c_3 => ?_, fun c_3 => ?_⟩
    · replace K := K.1 c_3
      refine Z.iconst (n := 0) dX6_settled_15 ⟨by decide, by decide⟩ ?_
      exact Z.iret (ty := .int) dX6_settled_16 rfl rfl K
    · replace K := K.2 c_3
      refine Z.iconst (n := 1) dX6_settled_11 ⟨by decide, by decide⟩ ?_
      refine Z.goto 16 dX6_settled_12 rfl ?_
      exact Z.iret (ty := .int) dX6_settled_16 rfl rfl K
set_option maxRecDepth 20000 in
theorem X6_likeParts_0 {kz : Nat × Nat} {Q : Option zV → zH → Prop} {d : List Nat} {G : Nat → Int → Option Nat} {E : Nat → Int → Int} {a1 n1 : Nat} {v2 : Int} {a3 n3 : Nat} {v4 : Int} (hX : zK zXt d G) (ha1 : a1 ∈ d) (hk1 : zkd a1 = (0, n1)) (ha3 : a3 ∈ d) (hk3 : zkd a3 = (0, n3)) (K : ((0 : Int) ≤ v2 ∧ v2 < (n1 : Int)) ∧ ∃ x_2, zM zm_X8_partsOf [zR 1, zI ((E a1 v2))] (d, G, E) (some (zI x_2)) (d, G, E) ∧ Z zm_X6_likeParts kz Q 18 [(0, zR 18), (1, zR a1), (2, zI v2), (3, zR a3), (4, zI v4), (5, zI x_2), (6, zI 1), (7, zI 0)] [] (d, G, E)) : Z zm_X6_likeParts kz Q 0 [(0, zR 18), (1, zR a1), (2, zI v2), (3, zR a3), (4, zI v4)] [] (d, G, E) := by
  refine Z.aload_n (k := 0) dX6_likeParts_0 rfl ?_
  refine Y.getR (o := some 1) 0 dX6_likeParts_1 zl_X6_26 (rfl) (by decide) rfl (zX_0_5 hX).2.2 (zX_18_0 hX).1 ?_
  refine Z.aload_n (k := 1) dX6_likeParts_4 rfl ?_
  refine Z.iload_n (k := 2) dX6_likeParts_5 rfl ?_
  obtain ⟨z_1, K⟩ := K
  refine Y.iald dX6_likeParts_6 (hk1) (ha1) z_1 ?_
  obtain ⟨x_2, m_3, K⟩ := K
  refine Y.callV (g := zm_X8_partsOf) (vs := [zI ((E a1 v2))]) (st := []) dX6_likeParts_7 ⟨zg_X8_partsOf.1, zg_X8_partsOf.2.1, zg_X8_partsOf.2.2, by decide⟩ ⟨zk_X6_61, zv_X8_partsOf⟩ (ci := 8) (rfl) rfl ((zX_0_0 hX).2.2) rfl rfl (Nat.le_of_ble_eq_true rfl) m_3 (Or.inl rfl) ?_
  show Z zm_X6_likeParts kz Q 10 [(0, zR 18), (1, zR a1), (2, zI v2), (3, zR a3), (4, zI v4)] [zI x_2] (d, G, E)
  refine Z.istore (ls' := [(5, zI x_2), (0, zR 18), (1, zR a1), (2, zI v2), (3, zR a3), (4, zI v4)]) dX6_likeParts_10 (by decide) rfl ?_
  refine Z.iconst (n := 1) dX6_likeParts_12 ⟨by decide, by decide⟩ ?_
  refine Z.istore (ls' := [(6, zI 1), (5, zI x_2), (0, zR 18), (1, zR a1), (2, zI v2), (3, zR a3), (4, zI v4)]) dX6_likeParts_13 (by decide) rfl ?_
  refine Z.iconst (n := 0) dX6_likeParts_15 ⟨by decide, by decide⟩ ?_
  refine Z.istore (ls' := [(7, zI 0), (6, zI 1), (5, zI x_2), (0, zR 18), (1, zR a1), (2, zI v2), (3, zR a3), (4, zI v4)]) dX6_likeParts_16 (by decide) rfl ?_
  refine Z.pick (ls' := [(0, zR 18), (1, zR a1), (2, zI v2), (3, zR a3), (4, zI v4), (5, zI x_2), (6, zI 1), (7, zI 0)]) [3, 4, 5, 6, 7, 2, 1, 0] rfl ?_
  exact K
set_option maxRecDepth 20000 in
theorem X6_likeParts_18 {kz : Nat × Nat} {Q : Option zV → zH → Prop} {d : List Nat} {G : Nat → Int → Option Nat} {E : Nat → Int → Int} {a1 n1 : Nat} {v2 : Int} {a3 n3 : Nat} {v4 : Int} {v5 : Int} {v6 : Int} {v7 : Int} (hX : zK zXt d G) (ha1 : a1 ∈ d) (hk1 : zkd a1 = (0, n1)) (ha3 : a3 ∈ d) (hk3 : zkd a3 = (0, n3)) (K : (v5 ≤ v7 → Q (some (zI v6)) (d, G, E)) ∧ (¬ (v5 ≤ v7) → zin (v2 + v6) ∧ ∃ x_3, zM zm_X8_after [zR 1, zR a1, zI ((v2 + v6))] (d, G, E) (some (zI x_3)) (d, G, E) ∧ zin (v4 + v6) ∧ ∃ x_7, zM zm_X8_after [zR 1, zR a3, zI ((v4 + v6))] (d, G, E) (some (zI x_7)) (d, G, E) ∧ zin (x_3 - v2) ∧ zin ((x_3 - v2) - v6) ∧ zin (x_7 - v4) ∧ zin ((x_7 - v4) - v6) ∧ (((x_3 - v2) - v6) ≠ ((x_7 - v4) - v6) → Q (some (zI v6)) (d, G, E)) ∧ (¬ (((x_3 - v2) - v6) ≠ ((x_7 - v4) - v6)) → zin (v2 + v6) ∧ zin (v4 + v6) ∧ ∃ x_17, zM zm_X11_alike [zR a1, zI ((v2 + v6)), zR a3, zI ((v4 + v6)), zI (((x_3 - v2) - v6))] (d, G, E) (some (zI x_17)) (d, G, E) ∧ (x_17 ≠ 0 → zin (v6 + ((x_3 - v2) - v6)) ∧ zin (v7 + 1) ∧ Z zm_X6_likeParts kz Q 18 [(0, zR 18), (1, zR a1), (2, zI v2), (3, zR a3), (4, zI v4), (5, zI v5), (6, zI ((v6 + ((x_3 - v2) - v6)))), (7, zI ((v7 + 1)))] [] (d, G, E)) ∧ (¬ (x_17 ≠ 0) → Q (some (zI v6)) (d, G, E))))) : Z zm_X6_likeParts kz Q 18 [(0, zR 18), (1, zR a1), (2, zI v2), (3, zR a3), (4, zI v4), (5, zI v5), (6, zI v6), (7, zI v7)] [] (d, G, E) := by
  refine Z.iload (k := 7) dX6_likeParts_18 rfl ?_
  refine Z.iload (k := 5) dX6_likeParts_20 rfl ?_
  refine Z.icmp_ge 111 dX6_likeParts_22 rfl ⟨fun c_1 => ?_, fun c_1 => ?_⟩
  · replace K := K.1 c_1
    refine Z.iload (k := 6) dX6_likeParts_111 rfl ?_
    exact Z.iret (ty := .int) dX6_likeParts_113 rfl rfl K
  · replace K := K.2 c_1
    refine Z.aload_n (k := 0) dX6_likeParts_25 rfl ?_
    refine Y.getR (o := some 1) 0 dX6_likeParts_26 zl_X6_26 (rfl) (by decide) rfl (zX_0_5 hX).2.2 (zX_18_0 hX).1 ?_
    refine Z.aload_n (k := 1) dX6_likeParts_29 rfl ?_
    refine Z.iload_n (k := 2) dX6_likeParts_30 rfl ?_
    refine Z.iload (k := 6) dX6_likeParts_31 rfl ?_
    obtain ⟨z_2, K⟩ := K
    refine Z.iadd dX6_likeParts_33 z_2 ?_
    obtain ⟨x_3, m_4, K⟩ := K
    refine Y.callV (g := zm_X8_after) (vs := [zR a1, zI ((v2 + v6))]) (st := []) dX6_likeParts_34 ⟨zg_X8_after.1, zg_X8_after.2.1, zg_X8_after.2.2, by decide⟩ ⟨zk_X6_37, zv_X8_after⟩ (ci := 8) (rfl) rfl ((zX_0_0 hX).2.2) rfl rfl (Nat.le_of_ble_eq_true rfl) m_4 (Or.inl rfl) ?_
    show Z zm_X6_likeParts kz Q 37 [(0, zR 18), (1, zR a1), (2, zI v2), (3, zR a3), (4, zI v4), (5, zI v5), (6, zI v6), (7, zI v7)] [zI x_3] (d, G, E)
    refine Z.istore (ls' := [(8, zI x_3), (0, zR 18), (1, zR a1), (2, zI v2), (3, zR a3), (4, zI v4), (5, zI v5), (6, zI v6), (7, zI v7)]) dX6_likeParts_37 (by decide) rfl ?_
    refine Z.aload_n (k := 1) dX6_likeParts_39 rfl ?_
    refine Y.getR (o := some 1) 0 dX6_likeParts_40 zl_X6_26 (rfl) (by decide) rfl (zX_0_5 hX).2.2 (zX_18_0 hX).1 ?_
    refine Z.aload_n (k := 4) dX6_likeParts_43 rfl ?_
    refine Z.iload (k := 5) dX6_likeParts_44 rfl ?_
    refine Z.iload (k := 7) dX6_likeParts_46 rfl ?_
    obtain ⟨z_6, K⟩ := K
    refine Z.iadd dX6_likeParts_48 z_6 ?_
    obtain ⟨x_7, m_8, K⟩ := K
    refine Y.callV (g := zm_X8_after) (vs := [zR a3, zI ((v4 + v6))]) (st := []) dX6_likeParts_49 ⟨zg_X8_after.1, zg_X8_after.2.1, zg_X8_after.2.2, by decide⟩ ⟨zk_X6_37, zv_X8_after⟩ (ci := 8) (rfl) rfl ((zX_0_0 hX).2.2) rfl rfl (Nat.le_of_ble_eq_true rfl) m_8 (Or.inl rfl) ?_
    show Z zm_X6_likeParts kz Q 52 [(8, zI x_3), (0, zR 18), (1, zR a1), (2, zI v2), (3, zR a3), (4, zI v4), (5, zI v5), (6, zI v6), (7, zI v7)] [zI x_7] (d, G, E)
    refine Z.istore (ls' := [(9, zI x_7), (8, zI x_3), (0, zR 18), (1, zR a1), (2, zI v2), (3, zR a3), (4, zI v4), (5, zI v5), (6, zI v6), (7, zI v7)]) dX6_likeParts_52 (by decide) rfl ?_
    refine Z.iload (k := 1) dX6_likeParts_54 rfl ?_
    refine Z.iload_n (k := 4) dX6_likeParts_56 rfl ?_
    obtain ⟨z_10, K⟩ := K
    refine Z.isub dX6_likeParts_57 z_10 ?_
    refine Z.iload (k := 8) dX6_likeParts_58 rfl ?_
    obtain ⟨z_11, K⟩ := K
    refine Z.isub dX6_likeParts_60 z_11 ?_
    refine Z.istore (ls' := [(10, zI (((x_3 - v2) - v6))), (9, zI x_7), (8, zI x_3), (0, zR 18), (1, zR a1), (2, zI v2), (3, zR a3), (4, zI v4), (5, zI v5), (6, zI v6), (7, zI v7)]) dX6_likeParts_61 (by decide) rfl ?_
    refine Z.iload (k := 0) dX6_likeParts_63 rfl ?_
    refine Z.iload (k := 1) dX6_likeParts_65 rfl ?_
    refine Z.iload (k := 7) dX6_likeParts_67 rfl ?_
    obtain ⟨z_12, K⟩ := K
    refine Z.isub dX6_likeParts_69 z_12 ?_
    refine Z.iload (k := 9) dX6_likeParts_70 rfl ?_
    obtain ⟨z_13, K⟩ := K
    refine Z.isub dX6_likeParts_72 z_13 ?_
    refine Z.icmp_ne 95 dX6_likeParts_73 rfl ⟨fun c_14 => ?_, fun c_14 => ?_⟩
    · replace K := K.1 c_14
      refine Z.iload (k := 9) dX6_likeParts_95 rfl ?_
      exact Z.iret (ty := .int) dX6_likeParts_97 rfl rfl K
    · replace K := K.2 c_14
      refine Z.aload_n (k := 4) dX6_likeParts_76 rfl ?_
      refine Z.iload_n (k := 5) dX6_likeParts_77 rfl ?_
      refine Z.iload (k := 9) dX6_likeParts_78 rfl ?_
      obtain ⟨z_15, K⟩ := K
      refine Z.iadd dX6_likeParts_80 z_15 ?_
      refine Z.aload_n (k := 6) dX6_likeParts_81 rfl ?_
      refine Z.iload (k := 7) dX6_likeParts_82 rfl ?_
      refine Z.iload (k := 9) dX6_likeParts_84 rfl ?_
      obtain ⟨z_16, K⟩ := K
      refine Z.iadd dX6_likeParts_86 z_16 ?_
      refine Z.iload (k := 0) dX6_likeParts_87 rfl ?_
      obtain ⟨x_17, m_18, K⟩ := K
      refine Y.callS (g := zm_X11_alike) (vs := [zR a1, zI ((v2 + v6)), zR a3, zI ((v4 + v6)), zI (((x_3 - v2) - v6))]) (st := []) dX6_likeParts_89 ⟨zg_X11_alike.1, zg_X11_alike.2.1, zg_X11_alike.2.2, by decide⟩ ⟨Or.inr zk_X6_41, zs_X11_alike⟩ rfl rfl (Nat.le_of_ble_eq_true rfl) m_18 (Or.inl rfl) ?_
      show Z zm_X6_likeParts kz Q 92 [(10, zI (((x_3 - v2) - v6))), (9, zI x_7), (8, zI x_3), (0, zR 18), (1, zR a1), (2, zI v2), (3, zR a3), (4, zI v4), (5, zI v5), (6, zI v6), (7, zI v7)] [zI x_17] (d, G, E)
      refine Z.if_ne 98 dX6_likeParts_92 rfl ⟨fun c_20 => ?_, fun c_20 => ?_⟩
      · replace K := K.1 c_20
        refine Z.iload (k := 9) dX6_likeParts_98 rfl ?_
        refine Z.iload (k := 0) dX6_likeParts_100 rfl ?_
        obtain ⟨z_21, K⟩ := K
        refine Z.iadd dX6_likeParts_102 z_21 ?_
        refine Z.istore (ls' := [(6, zI ((v6 + ((x_3 - v2) - v6)))), (10, zI (((x_3 - v2) - v6))), (9, zI x_7), (8, zI x_3), (0, zR 18), (1, zR a1), (2, zI v2), (3, zR a3), (4, zI v4), (5, zI v5), (7, zI v7)]) dX6_likeParts_103 (by decide) rfl ?_
        obtain ⟨z_22, K⟩ := K
        refine Z.iinc (k := 10) (ls' := [(7, zI ((v7 + 1))), (6, zI ((v6 + ((x_3 - v2) - v6)))), (10, zI (((x_3 - v2) - v6))), (9, zI x_7), (8, zI x_3), (0, zR 18), (1, zR a1), (2, zI v2), (3, zR a3), (4, zI v4), (5, zI v5)]) dX6_likeParts_105 rfl (by decide) z_22 rfl ?_
        refine Z.goto 18 dX6_likeParts_108 rfl ?_
        refine Z.pick (ls' := [(0, zR 18), (1, zR a1), (2, zI v2), (3, zR a3), (4, zI v4), (5, zI v5), (6, zI ((v6 + ((x_3 - v2) - v6)))), (7, zI ((v7 + 1)))]) [5, 6, 7, 8, 9, 10, 1, 0] rfl ?_
        exact K
      · replace K := K.2 c_20
        refine Z.iload (k := 9) dX6_likeParts_95 rfl ?_
        exact Z.iret (ty := .int) dX6_likeParts_97 rfl rfl K
set_option maxRecDepth 20000 in
theorem X6_compare_0 {kz : Nat × Nat} {Q : Option zV → zH → Prop} {d : List Nat} {G : Nat → Int → Option Nat} {E : Nat → Int → Int} {a1 n1 : Nat} {v2 : Int} {a3 n3 : Nat} {v4 : Int} (hX : zK zXt d G) (ha1 : a1 ∈ d) (hk1 : zkd a1 = (0, n1)) (ha3 : a3 ∈ d) (hk3 : zkd a3 = (0, n3)) (K : ∀ E_1, E_1 = zuE E 18 3 1 → ∀ E_2, E_2 = zuE E_1 18 4 1 → Z zm_X6_compare kz Q 20 [(0, zR 18), (1, zR a1), (3, zR a3), (5, zI v2), (6, zI v4), (7, zI 0)] [] (d, G, E_2)) : Z zm_X6_compare kz Q 0 [(0, zR 18), (1, zR a1), (2, zI v2), (3, zR a3), (4, zI v4)] [] (d, G, E) := by
  refine Z.iload_n (k := 2) dX6_compare_0 rfl ?_
  refine Z.istore (ls' := [(5, zI v2), (0, zR 18), (1, zR a1), (2, zI v2), (3, zR a3), (4, zI v4)]) dX6_compare_1 (by decide) rfl ?_
  refine Z.iload (k := 5) dX6_compare_3 rfl ?_
  refine Z.istore (ls' := [(6, zI v4), (5, zI v2), (0, zR 18), (1, zR a1), (2, zI v2), (3, zR a3), (4, zI v4)]) dX6_compare_5 (by decide) rfl ?_
  refine Z.aload_n (k := 2) dX6_compare_7 rfl ?_
  refine Z.iconst (n := 1) dX6_compare_8 ⟨by decide, by decide⟩ ?_
  refine Y.putI 3 dX6_compare_9 zw_X6_19 (fun q => by cases q) (rfl) rfl (zX_0_5 hX).2.2 (Or.inr ⟨rfl, by decide⟩) ?_
  generalize eE_1 : zuE E 18 3 1 = E_1
  replace K := K E_1 eE_1.symm
  refine Z.aload_n (k := 2) dX6_compare_12 rfl ?_
  refine Z.iconst (n := 1) dX6_compare_13 ⟨by decide, by decide⟩ ?_
  refine Y.putI 4 dX6_compare_14 zw_X6_23 (fun q => by cases q) (rfl) rfl (zX_0_5 hX).2.2 (Or.inr ⟨rfl, by decide⟩) ?_
  generalize eE_2 : zuE E_1 18 4 1 = E_2
  replace K := K E_2 eE_2.symm
  refine Z.iconst (n := 0) dX6_compare_17 ⟨by decide, by decide⟩ ?_
  refine Z.istore (ls' := [(7, zI 0), (6, zI v4), (5, zI v2), (0, zR 18), (1, zR a1), (2, zI v2), (3, zR a3), (4, zI v4)]) dX6_compare_18 (by decide) rfl ?_
  refine Z.pick (ls' := [(0, zR 18), (1, zR a1), (3, zR a3), (5, zI v2), (6, zI v4), (7, zI 0)]) [3, 4, 6, 2, 1, 0] rfl ?_
  exact K
set_option maxRecDepth 20000 in
theorem X6_compare_20 {kz : Nat × Nat} {Q : Option zV → zH → Prop} {d : List Nat} {G : Nat → Int → Option Nat} {E : Nat → Int → Int} {a1 n1 : Nat} {a3 n3 : Nat} {v5 : Int} {v6 : Int} {v7 : Int} (hX : zK zXt d G) (ha1 : a1 ∈ d) (hk1 : zkd a1 = (0, n1)) (ha3 : a3 ∈ d) (hk3 : zkd a3 = (0, n3)) (K : ((1000000) ≤ v7 → Q (some (zI 0)) (d, G, E)) ∧ (¬ ((1000000) ≤ v7) → ∃ x_2, zM zm_X8_after [zR 1, zR a1, zI v5] (d, G, E) (some (zI x_2)) (d, G, E) ∧ ∃ x_5, zM zm_X8_after [zR 1, zR a3, zI v6] (d, G, E) (some (zI x_5)) (d, G, E) ∧ zin (x_2 - v5) ∧ zin (x_5 - v6) ∧ ((x_2 - v5) ≠ (x_5 - v6) → Z zm_X6_compare kz Q 83 [(0, zR 18), (1, zR a1), (3, zR a3), (5, zI v5), (6, zI v6), (7, zI v7), (8, zI x_2), (9, zI x_5)] [] (d, G, E)) ∧ (¬ ((x_2 - v5) ≠ (x_5 - v6)) → zin (x_2 - v5) ∧ ∃ x_12, zM zm_X11_alike [zR a1, zI v5, zR a3, zI v6, zI ((x_2 - v5))] (d, G, E) (some (zI x_12)) (d, G, E) ∧ (x_12 = 0 → Z zm_X6_compare kz Q 83 [(0, zR 18), (1, zR a1), (3, zR a3), (5, zI v5), (6, zI v6), (7, zI v7), (8, zI x_2), (9, zI x_5)] [] (d, G, E)) ∧ (¬ (x_12 = 0) → Q (some (zI 2)) (d, G, E))))) : Z zm_X6_compare kz Q 20 [(0, zR 18), (1, zR a1), (3, zR a3), (5, zI v5), (6, zI v6), (7, zI v7)] [] (d, G, E) := by
  refine Z.iload (k := 5) dX6_compare_20 rfl ?_
  refine Z.ldc (n := 1000000) dX6_compare_22 ⟨by decide, by decide⟩ zq_X6_36 ?_
  refine Z.icmp_ge 230 dX6_compare_24 rfl ⟨fun c_1 => ?_, fun c_1 => ?_⟩
  · replace K := K.1 c_1
    refine Z.iconst (n := 0) dX6_compare_230 ⟨by decide, by decide⟩ ?_
    exact Z.iret (ty := .int) dX6_compare_231 rfl rfl K
  · replace K := K.2 c_1
    refine Z.aload_n (k := 0) dX6_compare_27 rfl ?_
    refine Y.getR (o := some 1) 0 dX6_compare_28 zl_X6_26 (rfl) (by decide) rfl (zX_0_5 hX).2.2 (zX_18_0 hX).1 ?_
    refine Z.aload_n (k := 1) dX6_compare_31 rfl ?_
    refine Z.iload (k := 3) dX6_compare_32 rfl ?_
    obtain ⟨x_2, m_3, K⟩ := K
    refine Y.callV (g := zm_X8_after) (vs := [zR a1, zI v5]) (st := []) dX6_compare_34 ⟨zg_X8_after.1, zg_X8_after.2.1, zg_X8_after.2.2, by decide⟩ ⟨zk_X6_37, zv_X8_after⟩ (ci := 8) (rfl) rfl ((zX_0_0 hX).2.2) rfl rfl (Nat.le_of_ble_eq_true rfl) m_3 (Or.inl rfl) ?_
    show Z zm_X6_compare kz Q 37 [(0, zR 18), (1, zR a1), (3, zR a3), (5, zI v5), (6, zI v6), (7, zI v7)] [zI x_2] (d, G, E)
    refine Z.istore (ls' := [(8, zI x_2), (0, zR 18), (1, zR a1), (3, zR a3), (5, zI v5), (6, zI v6), (7, zI v7)]) dX6_compare_37 (by decide) rfl ?_
    refine Z.aload_n (k := 1) dX6_compare_39 rfl ?_
    refine Y.getR (o := some 1) 0 dX6_compare_40 zl_X6_26 (rfl) (by decide) rfl (zX_0_5 hX).2.2 (zX_18_0 hX).1 ?_
    refine Z.aload_n (k := 3) dX6_compare_43 rfl ?_
    refine Z.iload (k := 5) dX6_compare_44 rfl ?_
    obtain ⟨x_5, m_6, K⟩ := K
    refine Y.callV (g := zm_X8_after) (vs := [zR a3, zI v6]) (st := []) dX6_compare_46 ⟨zg_X8_after.1, zg_X8_after.2.1, zg_X8_after.2.2, by decide⟩ ⟨zk_X6_37, zv_X8_after⟩ (ci := 8) (rfl) rfl ((zX_0_0 hX).2.2) rfl rfl (Nat.le_of_ble_eq_true rfl) m_6 (Or.inl rfl) ?_
    show Z zm_X6_compare kz Q 49 [(8, zI x_2), (0, zR 18), (1, zR a1), (3, zR a3), (5, zI v5), (6, zI v6), (7, zI v7)] [zI x_5] (d, G, E)
    refine Z.istore (ls' := [(9, zI x_5), (8, zI x_2), (0, zR 18), (1, zR a1), (3, zR a3), (5, zI v5), (6, zI v6), (7, zI v7)]) dX6_compare_49 (by decide) rfl ?_
    refine Z.iload (k := 1) dX6_compare_51 rfl ?_
    refine Z.iload (k := 5) dX6_compare_53 rfl ?_
    obtain ⟨z_8, K⟩ := K
    refine Z.isub dX6_compare_55 z_8 ?_
    refine Z.iload (k := 0) dX6_compare_56 rfl ?_
    refine Z.iload (k := 6) dX6_compare_58 rfl ?_
    obtain ⟨z_9, K⟩ := K
    refine Z.isub dX6_compare_60 z_9 ?_
    refine Z.icmp_ne 83 dX6_compare_61 rfl ⟨fun c_10 => ?_, fun c_10 => ?_⟩
    · replace K := K.1 c_10
      refine Z.pick (ls' := [(0, zR 18), (1, zR a1), (3, zR a3), (5, zI v5), (6, zI v6), (7, zI v7), (8, zI x_2), (9, zI x_5)]) [2, 3, 4, 5, 6, 7, 1, 0] rfl ?_
      exact K
    · replace K := K.2 c_10
      refine Z.aload_n (k := 3) dX6_compare_64 rfl ?_
      refine Z.iload (k := 5) dX6_compare_65 rfl ?_
      refine Z.aload_n (k := 4) dX6_compare_67 rfl ?_
      refine Z.iload (k := 6) dX6_compare_68 rfl ?_
      refine Z.iload (k := 1) dX6_compare_70 rfl ?_
      refine Z.iload (k := 5) dX6_compare_72 rfl ?_
      obtain ⟨z_11, K⟩ := K
      refine Z.isub dX6_compare_74 z_11 ?_
      obtain ⟨x_12, m_13, K⟩ := K
      refine Y.callS (g := zm_X11_alike) (vs := [zR a1, zI v5, zR a3, zI v6, zI ((x_2 - v5))]) (st := []) dX6_compare_75 ⟨zg_X11_alike.1, zg_X11_alike.2.1, zg_X11_alike.2.2, by decide⟩ ⟨Or.inr zk_X6_41, zs_X11_alike⟩ rfl rfl (Nat.le_of_ble_eq_true rfl) m_13 (Or.inl rfl) ?_
      show Z zm_X6_compare kz Q 78 [(9, zI x_5), (8, zI x_2), (0, zR 18), (1, zR a1), (3, zR a3), (5, zI v5), (6, zI v6), (7, zI v7)] [zI x_12] (d, G, E)
      refine Z.if_eq 83 dX6_compare_78 rfl ⟨fun c_15 => ?_, fun c_15 => ?_⟩
      · replace K := K.1 c_15
        refine Z.pick (ls' := [(0, zR 18), (1, zR a1), (3, zR a3), (5, zI v5), (6, zI v6), (7, zI v7), (8, zI x_2), (9, zI x_5)]) [2, 3, 4, 5, 6, 7, 1, 0] rfl ?_
        exact K
      · replace K := K.2 c_15
        refine Z.iconst (n := 2) dX6_compare_81 ⟨by decide, by decide⟩ ?_
        exact Z.iret (ty := .int) dX6_compare_82 rfl rfl K
set_option maxRecDepth 20000 in
theorem X6_compare_83 {kz : Nat × Nat} {Q : Option zV → zH → Prop} {d : List Nat} {G : Nat → Int → Option Nat} {E : Nat → Int → Int} {a1 n1 : Nat} {a3 n3 : Nat} {v5 : Int} {v6 : Int} {v7 : Int} {v8 : Int} {v9 : Int} (hX : zK zXt d G) (ha1 : a1 ∈ d) (hk1 : zkd a1 = (0, n1)) (ha3 : a3 ∈ d) (hk3 : zkd a3 = (0, n3)) (K : ∀ E_1, E_1 = zuE E 18 2 0 → ∃ E_2, zM zm_X6_tally [zR 18, zR a1, zI v5, zI v8, zI 1] (d, G, E_1) none (d, G, E_2) ∧ ∃ E_5, zM zm_X6_tally [zR 18, zR a3, zI v6, zI v9, zI ((-1))] (d, G, E_2) none (d, G, E_5) ∧ ∃ E_8, zM zm_X6_settleSurplus [zR 18, zR a1, zI v5, zI v8] (d, G, E_5) none (d, G, E_8) ∧ ∃ E_11, zM zm_X6_settleSurplus [zR 18, zR a3, zI v6, zI v9] (d, G, E_8) none (d, G, E_11) ∧ ((E_11 18 2) = 0 → ((0 : Int) ≤ v5 ∧ v5 < (n1 : Int)) ∧ ((E_11 a1 v5) < 0 → Q (some (zI 0)) (d, G, E_11)) ∧ (¬ ((E_11 a1 v5) < 0) → ((0 : Int) ≤ v6 ∧ v6 < (n3 : Int)) ∧ (0 ≤ (E_11 a3 v6) → ((0 : Int) ≤ v5 ∧ v5 < (n1 : Int)) ∧ ((0 : Int) ≤ v6 ∧ v6 < (n3 : Int)) ∧ ((E_11 a1 v5) = (E_11 a3 v6) → ∃ x_22, zM zm_X6_likeParts [zR 18, zR a1, zI v5, zR a3, zI v6] (d, G, E_11) (some (zI x_22)) (d, G, E_11) ∧ zin (v5 + x_22) ∧ zin (v6 + x_22) ∧ zin (v7 + 1) ∧ Z zm_X6_compare kz Q 20 [(0, zR 18), (1, zR a1), (3, zR a3), (5, zI ((v5 + x_22))), (6, zI ((v6 + x_22))), (7, zI ((v7 + 1)))] [] (d, G, E_11)) ∧ (¬ ((E_11 a1 v5) = (E_11 a3 v6)) → ((0 : Int) ≤ v5 ∧ v5 < (n1 : Int)) ∧ ((0 : Int) ≤ v6 ∧ v6 < (n3 : Int)) ∧ ((E_11 a1 v5) ≤ (E_11 a3 v6) → ∃ x_31, zM zm_X6_settled [zR 18, zI 0] (d, G, E_11) (some (zI x_31)) (d, G, E_11) ∧ Q (some (zI x_31)) (d, G, E_11)) ∧ (¬ ((E_11 a1 v5) ≤ (E_11 a3 v6)) → ∃ x_34, zM zm_X6_settled [zR 18, zI 1] (d, G, E_11) (some (zI x_34)) (d, G, E_11) ∧ Q (some (zI x_34)) (d, G, E_11)))) ∧ (¬ (0 ≤ (E_11 a3 v6)) → Q (some (zI 0)) (d, G, E_11)))) ∧ (¬ ((E_11 18 2) = 0) → ((E_11 18 2) ≤ 0 → ∃ x_38, zM zm_X6_settled [zR 18, zI 0] (d, G, E_11) (some (zI x_38)) (d, G, E_11) ∧ Q (some (zI x_38)) (d, G, E_11)) ∧ (¬ ((E_11 18 2) ≤ 0) → ∃ x_41, zM zm_X6_settled [zR 18, zI 1] (d, G, E_11) (some (zI x_41)) (d, G, E_11) ∧ Q (some (zI x_41)) (d, G, E_11)))) : Z zm_X6_compare kz Q 83 [(0, zR 18), (1, zR a1), (3, zR a3), (5, zI v5), (6, zI v6), (7, zI v7), (8, zI v8), (9, zI v9)] [] (d, G, E) := by
  refine Z.aload_n (k := 0) dX6_compare_83 rfl ?_
  refine Z.iconst (n := 0) dX6_compare_84 ⟨by decide, by decide⟩ ?_
  refine Y.putI 2 dX6_compare_85 zw_X6_15 (fun q => by cases q) (rfl) rfl (zX_0_5 hX).2.2 (Or.inl rfl) ?_
  generalize eE_1 : zuE E 18 2 0 = E_1
  replace K := K E_1 eE_1.symm
  refine Z.aload_n (k := 0) dX6_compare_88 rfl ?_
  refine Z.aload_n (k := 1) dX6_compare_89 rfl ?_
  refine Z.iload (k := 3) dX6_compare_90 rfl ?_
  refine Z.iload (k := 6) dX6_compare_92 rfl ?_
  refine Z.iconst (n := 1) dX6_compare_94 ⟨by decide, by decide⟩ ?_
  obtain ⟨E_2, m_3, K⟩ := K
  refine Y.callV (g := zm_X6_tally) (vs := [zR a1, zI v5, zI v8, zI 1]) (st := []) dX6_compare_95 ⟨zg_X6_tally.1, zg_X6_tally.2.1, zg_X6_tally.2.2, by decide⟩ ⟨zk_X6_45, zv_X6_tally⟩ (ci := 6) (rfl) rfl ((zX_0_5 hX).2.2) rfl rfl (Nat.le_of_ble_eq_true rfl) m_3 (Or.inl rfl) ?_
  show Z zm_X6_compare kz Q 98 [(0, zR 18), (1, zR a1), (3, zR a3), (5, zI v5), (6, zI v6), (7, zI v7), (8, zI v8), (9, zI v9)] [] (d, G, E_2)
  refine Z.aload_n (k := 0) dX6_compare_98 rfl ?_
  refine Z.aload_n (k := 2) dX6_compare_99 rfl ?_
  refine Z.iload (k := 4) dX6_compare_100 rfl ?_
  refine Z.iload (k := 7) dX6_compare_102 rfl ?_
  refine Z.iconst (n := -1) dX6_compare_104 ⟨by decide, by decide⟩ ?_
  obtain ⟨E_5, m_6, K⟩ := K
  refine Y.callV (g := zm_X6_tally) (vs := [zR a3, zI v6, zI v9, zI ((-1))]) (st := []) dX6_compare_105 ⟨zg_X6_tally.1, zg_X6_tally.2.1, zg_X6_tally.2.2, by decide⟩ ⟨zk_X6_45, zv_X6_tally⟩ (ci := 6) (rfl) rfl ((zX_0_5 hX).2.2) rfl rfl (Nat.le_of_ble_eq_true rfl) m_6 (Or.inl rfl) ?_
  show Z zm_X6_compare kz Q 108 [(0, zR 18), (1, zR a1), (3, zR a3), (5, zI v5), (6, zI v6), (7, zI v7), (8, zI v8), (9, zI v9)] [] (d, G, E_5)
  refine Z.aload_n (k := 0) dX6_compare_108 rfl ?_
  refine Z.aload_n (k := 1) dX6_compare_109 rfl ?_
  refine Z.iload (k := 3) dX6_compare_110 rfl ?_
  refine Z.iload (k := 6) dX6_compare_112 rfl ?_
  obtain ⟨E_8, m_9, K⟩ := K
  refine Y.callV (g := zm_X6_settleSurplus) (vs := [zR a1, zI v5, zI v8]) (st := []) dX6_compare_114 ⟨zg_X6_settleSurplus.1, zg_X6_settleSurplus.2.1, zg_X6_settleSurplus.2.2, by decide⟩ ⟨zk_X6_49, zv_X6_settleSurplus⟩ (ci := 6) (rfl) rfl ((zX_0_5 hX).2.2) rfl rfl (Nat.le_of_ble_eq_true rfl) m_9 (Or.inl rfl) ?_
  show Z zm_X6_compare kz Q 117 [(0, zR 18), (1, zR a1), (3, zR a3), (5, zI v5), (6, zI v6), (7, zI v7), (8, zI v8), (9, zI v9)] [] (d, G, E_8)
  refine Z.aload_n (k := 0) dX6_compare_117 rfl ?_
  refine Z.aload_n (k := 2) dX6_compare_118 rfl ?_
  refine Z.iload (k := 4) dX6_compare_119 rfl ?_
  refine Z.iload (k := 7) dX6_compare_121 rfl ?_
  obtain ⟨E_11, m_12, K⟩ := K
  refine Y.callV (g := zm_X6_settleSurplus) (vs := [zR a3, zI v6, zI v9]) (st := []) dX6_compare_123 ⟨zg_X6_settleSurplus.1, zg_X6_settleSurplus.2.1, zg_X6_settleSurplus.2.2, by decide⟩ ⟨zk_X6_49, zv_X6_settleSurplus⟩ (ci := 6) (rfl) rfl ((zX_0_5 hX).2.2) rfl rfl (Nat.le_of_ble_eq_true rfl) m_12 (Or.inl rfl) ?_
  show Z zm_X6_compare kz Q 126 [(0, zR 18), (1, zR a1), (3, zR a3), (5, zI v5), (6, zI v6), (7, zI v7), (8, zI v8), (9, zI v9)] [] (d, G, E_11)
  refine Z.aload_n (k := 0) dX6_compare_126 rfl ?_
  refine Y.getI 2 dX6_compare_127 zl_X6_15 (rfl) (by decide) rfl (zX_0_5 hX).2.2 ?_
  refine Z.if_eq 150 dX6_compare_130 rfl ⟨fun c_14 => ?_, fun c_14 => ?_⟩
  · replace K := K.1 c_14
    refine Z.aload_n (k := 1) dX6_compare_150 rfl ?_
    refine Z.iload (k := 3) dX6_compare_151 rfl ?_
    obtain ⟨z_15, K⟩ := K
    refine Y.iald dX6_compare_153 (hk1) (ha1) z_15 ?_
    refine Z.if_lt 164 dX6_compare_154 rfl ⟨fun c_16 => ?_, fun c_16 => ?_⟩
    · replace K := K.1 c_16
      refine Z.iconst (n := 0) dX6_compare_164 ⟨by decide, by decide⟩ ?_
      exact Z.iret (ty := .int) dX6_compare_165 rfl rfl K
    · replace K := K.2 c_16
      refine Z.aload_n (k := 2) dX6_compare_157 rfl ?_
      refine Z.iload (k := 4) dX6_compare_158 rfl ?_
      obtain ⟨z_17, K⟩ := K
      refine Y.iald dX6_compare_160 (hk3) (ha3) z_17 ?_
      refine Z.if_ge 166 dX6_compare_161 rfl ⟨fun c_18 => ?_, fun c_18 => ?_⟩
      · replace K := K.1 c_18
        refine Z.aload_n (k := 1) dX6_compare_166 rfl ?_
        refine Z.iload (k := 3) dX6_compare_167 rfl ?_
        obtain ⟨z_19, K⟩ := K
        refine Y.iald dX6_compare_169 (hk1) (ha1) z_19 ?_
        refine Z.aload_n (k := 2) dX6_compare_170 rfl ?_
        refine Z.iload (k := 4) dX6_compare_171 rfl ?_
        obtain ⟨z_20, K⟩ := K
        refine Y.iald dX6_compare_173 (hk3) (ha3) z_20 ?_
        refine Z.icmp_eq 198 dX6_compare_174 rfl ⟨fun c_21 => ?_, fun c_21 => ?_⟩
        · replace K := K.1 c_21
          refine Z.aload_n (k := 0) dX6_compare_198 rfl ?_
          refine Z.aload_n (k := 1) dX6_compare_199 rfl ?_
          refine Z.iload (k := 3) dX6_compare_200 rfl ?_
          refine Z.aload_n (k := 2) dX6_compare_202 rfl ?_
          refine Z.iload (k := 4) dX6_compare_203 rfl ?_
          obtain ⟨x_22, m_23, K⟩ := K
          refine Y.callV (g := zm_X6_likeParts) (vs := [zR a1, zI v5, zR a3, zI v6]) (st := []) dX6_compare_205 ⟨zg_X6_likeParts.1, zg_X6_likeParts.2.1, zg_X6_likeParts.2.2, by decide⟩ ⟨zk_X6_57, zv_X6_likeParts⟩ (ci := 6) (rfl) rfl ((zX_0_5 hX).2.2) rfl rfl (Nat.le_of_ble_eq_true rfl) m_23 (Or.inl rfl) ?_
          show Z zm_X6_compare kz Q 208 [(0, zR 18), (1, zR a1), (3, zR a3), (5, zI v5), (6, zI v6), (7, zI v7), (8, zI v8), (9, zI v9)] [zI x_22] (d, G, E_11)
          refine Z.istore (ls' := [(10, zI x_22), (0, zR 18), (1, zR a1), (3, zR a3), (5, zI v5), (6, zI v6), (7, zI v7), (8, zI v8), (9, zI v9)]) dX6_compare_208 (by decide) rfl ?_
          refine Z.iload (k := 4) dX6_compare_210 rfl ?_
          refine Z.iload (k := 0) dX6_compare_212 rfl ?_
          obtain ⟨z_25, K⟩ := K
          refine Z.iadd dX6_compare_214 z_25 ?_
          refine Z.istore (ls' := [(5, zI ((v5 + x_22))), (10, zI x_22), (0, zR 18), (1, zR a1), (3, zR a3), (6, zI v6), (7, zI v7), (8, zI v8), (9, zI v9)]) dX6_compare_215 (by decide) rfl ?_
          refine Z.iload (k := 5) dX6_compare_217 rfl ?_
          refine Z.iload (k := 1) dX6_compare_219 rfl ?_
          obtain ⟨z_26, K⟩ := K
          refine Z.iadd dX6_compare_221 z_26 ?_
          refine Z.istore (ls' := [(6, zI ((v6 + x_22))), (5, zI ((v5 + x_22))), (10, zI x_22), (0, zR 18), (1, zR a1), (3, zR a3), (7, zI v7), (8, zI v8), (9, zI v9)]) dX6_compare_222 (by decide) rfl ?_
          obtain ⟨z_27, K⟩ := K
          refine Z.iinc (k := 6) (ls' := [(7, zI ((v7 + 1))), (6, zI ((v6 + x_22))), (5, zI ((v5 + x_22))), (10, zI x_22), (0, zR 18), (1, zR a1), (3, zR a3), (8, zI v8), (9, zI v9)]) dX6_compare_224 rfl (by decide) z_27 rfl ?_
          refine Z.goto 20 dX6_compare_227 rfl ?_
          refine Z.pick (ls' := [(0, zR 18), (1, zR a1), (3, zR a3), (5, zI ((v5 + x_22))), (6, zI ((v6 + x_22))), (7, zI ((v7 + 1)))]) [4, 5, 6, 2, 1, 0] rfl ?_
          exact K
        · replace K := K.2 c_21
          refine Z.aload_n (k := 0) dX6_compare_177 rfl ?_
          refine Z.aload_n (k := 1) dX6_compare_178 rfl ?_
          refine Z.iload (k := 3) dX6_compare_179 rfl ?_
          obtain ⟨z_28, K⟩ := K
          refine Y.iald dX6_compare_181 (hk1) (ha1) z_28 ?_
          refine Z.aload_n (k := 2) dX6_compare_182 rfl ?_
          refine Z.iload (k := 4) dX6_compare_183 rfl ?_
          obtain ⟨z_29, K⟩ := K
          refine Y.iald dX6_compare_185 (hk3) (ha3) z_29 ?_
          refine Z.icmp_le 193 dX6_compare_186 rfl ⟨fun c_30 => ?_, fun c_30 => ?_⟩
          · replace K := K.1 c_30
            refine Z.iconst (n := 0) dX6_compare_193 ⟨by decide, by decide⟩ ?_
            obtain ⟨x_31, m_32, K⟩ := K
            refine Y.callV (g := zm_X6_settled) (vs := [zI 0]) (st := []) dX6_compare_194 ⟨zg_X6_settled.1, zg_X6_settled.2.1, zg_X6_settled.2.2, by decide⟩ ⟨zk_X6_53, zv_X6_settled⟩ (ci := 6) (rfl) rfl ((zX_0_5 hX).2.2) rfl rfl (Nat.le_of_ble_eq_true rfl) m_32 (Or.inl rfl) ?_
            show Z zm_X6_compare kz Q 197 [(0, zR 18), (1, zR a1), (3, zR a3), (5, zI v5), (6, zI v6), (7, zI v7), (8, zI v8), (9, zI v9)] [zI x_31] (d, G, E_11)
            exact Z.iret (ty := .int) dX6_compare_197 rfl rfl K
          · replace K := K.2 c_30
            refine Z.iconst (n := 1) dX6_compare_189 ⟨by decide, by decide⟩ ?_
            refine Z.goto 194 dX6_compare_190 rfl ?_
            obtain ⟨x_34, m_35, K⟩ := K
            refine Y.callV (g := zm_X6_settled) (vs := [zI 1]) (st := []) dX6_compare_194 ⟨zg_X6_settled.1, zg_X6_settled.2.1, zg_X6_settled.2.2, by decide⟩ ⟨zk_X6_53, zv_X6_settled⟩ (ci := 6) (rfl) rfl ((zX_0_5 hX).2.2) rfl rfl (Nat.le_of_ble_eq_true rfl) m_35 (Or.inl rfl) ?_
            show Z zm_X6_compare kz Q 197 [(0, zR 18), (1, zR a1), (3, zR a3), (5, zI v5), (6, zI v6), (7, zI v7), (8, zI v8), (9, zI v9)] [zI x_34] (d, G, E_11)
            exact Z.iret (ty := .int) dX6_compare_197 rfl rfl K
      · replace K := K.2 c_18
        refine Z.iconst (n := 0) dX6_compare_164 ⟨by decide, by decide⟩ ?_
        exact Z.iret (ty := .int) dX6_compare_165 rfl rfl K
  · replace K := K.2 c_14
    refine Z.aload_n (k := 0) dX6_compare_133 rfl ?_
    refine Z.aload_n (k := 0) dX6_compare_134 rfl ?_
    refine Y.getI 2 dX6_compare_135 zl_X6_15 (rfl) (by decide) rfl (zX_0_5 hX).2.2 ?_
    refine Z.if_le 145 dX6_compare_138 rfl ⟨fun c_37 => ?_, fun c_37 => ?_⟩
    · replace K := K.1 c_37
      refine Z.iconst (n := 0) dX6_compare_145 ⟨by decide, by decide⟩ ?_
      obtain ⟨x_38, m_39, K⟩ := K
      refine Y.callV (g := zm_X6_settled) (vs := [zI 0]) (st := []) dX6_compare_146 ⟨zg_X6_settled.1, zg_X6_settled.2.1, zg_X6_settled.2.2, by decide⟩ ⟨zk_X6_53, zv_X6_settled⟩ (ci := 6) (rfl) rfl ((zX_0_5 hX).2.2) rfl rfl (Nat.le_of_ble_eq_true rfl) m_39 (Or.inl rfl) ?_
      show Z zm_X6_compare kz Q 149 [(0, zR 18), (1, zR a1), (3, zR a3), (5, zI v5), (6, zI v6), (7, zI v7), (8, zI v8), (9, zI v9)] [zI x_38] (d, G, E_11)
      exact Z.iret (ty := .int) dX6_compare_149 rfl rfl K
    · replace K := K.2 c_37
      refine Z.iconst (n := 1) dX6_compare_141 ⟨by decide, by decide⟩ ?_
      refine Z.goto 146 dX6_compare_142 rfl ?_
      obtain ⟨x_41, m_42, K⟩ := K
      refine Y.callV (g := zm_X6_settled) (vs := [zI 1]) (st := []) dX6_compare_146 ⟨zg_X6_settled.1, zg_X6_settled.2.1, zg_X6_settled.2.2, by decide⟩ ⟨zk_X6_53, zv_X6_settled⟩ (ci := 6) (rfl) rfl ((zX_0_5 hX).2.2) rfl rfl (Nat.le_of_ble_eq_true rfl) m_42 (Or.inl rfl) ?_
      show Z zm_X6_compare kz Q 149 [(0, zR 18), (1, zR a1), (3, zR a3), (5, zI v5), (6, zI v6), (7, zI v7), (8, zI v8), (9, zI v9)] [zI x_41] (d, G, E_11)
      exact Z.iret (ty := .int) dX6_compare_149 rfl rfl K
set_option maxRecDepth 20000 in
theorem X6_init_0 {kz : Nat × Nat} {Q : Option zV → zH → Prop} {d : List Nat} {G : Nat → Int → Option Nat} {E : Nat → Int → Int}  (hm18 : 18 ∈ d) (hm1 : 1 ∈ d) (K : ∃ a_1, zkd a_1 = (0, (40 : Int).toNat) ∧ (0 : Int) ≤ 40 ∧ 40 ≤ (100000 : Int) ∧ a_1 ∉ d ∧ ¬ zst3 a_1 ∧ d.length + 1 ≤ kz.1 ∧ zsl d + (zkd a_1).2 ≤ kz.2 ∧ ∀ d_9 G_10 E_11, d_9 = d ++ [a_1] → G_10 = zclG G a_1 → E_11 = zclE E a_1 → (∀ G_12, G_12 = zuG G_10 18 1 (some a_1) → ∀ E_13, E_13 = zuE E_11 18 2 0 → ∀ E_14, E_14 = zuE E_13 18 3 1 → ∀ E_15, E_15 = zuE E_14 18 4 1 → ∀ G_16, G_16 = zuG G_12 18 0 (some 1) → Q none (d_9, G_16, E_15))) : Z zm_X6_init kz Q 0 [(0, zR 18), (1, zR 1)] [] (d, G, E) := by
  refine Z.aload_n (k := 0) dX6_init_0 rfl ?_
  refine Z.objInit (a := 18) dX6_init_1 zk_X6_3 ⟨by decide, by decide⟩ (Nat.le_of_ble_eq_true rfl) ?_
  refine Z.aload_n (k := 0) dX6_init_4 rfl ?_
  refine Z.bipush (n := 40) dX6_init_5 ⟨by decide, by decide⟩ (by decide) ?_
  obtain ⟨a_1, z_2, z_3, z_4, z_5, z_6, z_7, z_8, K⟩ := K
  refine Y.newI a_1 dX6_init_7 z_2 z_3 z_4 zai z_5 z_6 z_7 z_8 ?_
  generalize ed_9 : d ++ [a_1] = d_9
  generalize eG_10 : zclG G a_1 = G_10
  generalize eE_11 : zclE E a_1 = E_11
  replace K := K d_9 G_10 E_11 ed_9.symm eG_10.symm eE_11.symm
  refine Y.putR 1 dX6_init_9 zw_X6_9 (fun _ => ⟨rfl, rfl⟩) (rfl) rfl (by rw [← ed_9]; exact List.mem_append_left _ (hm18)) (fun b hb => by cases hb; exact (by rw [← ed_9]; exact List.mem_append_right _ List.mem_cons_self)) ?_
  generalize eG_12 : zuG G_10 18 1 (some a_1) = G_12
  replace K := K G_12 eG_12.symm
  refine Z.aload_n (k := 0) dX6_init_12 rfl ?_
  refine Z.iconst (n := 0) dX6_init_13 ⟨by decide, by decide⟩ ?_
  refine Y.putI 2 dX6_init_14 zw_X6_15 (fun q => by cases q) (rfl) rfl (by rw [← ed_9]; exact List.mem_append_left _ (hm18)) (Or.inl rfl) ?_
  generalize eE_13 : zuE E_11 18 2 0 = E_13
  replace K := K E_13 eE_13.symm
  refine Z.aload_n (k := 0) dX6_init_17 rfl ?_
  refine Z.iconst (n := 1) dX6_init_18 ⟨by decide, by decide⟩ ?_
  refine Y.putI 3 dX6_init_19 zw_X6_19 (fun q => by cases q) (rfl) rfl (by rw [← ed_9]; exact List.mem_append_left _ (hm18)) (Or.inr ⟨rfl, by decide⟩) ?_
  generalize eE_14 : zuE E_13 18 3 1 = E_14
  replace K := K E_14 eE_14.symm
  refine Z.aload_n (k := 0) dX6_init_22 rfl ?_
  refine Z.iconst (n := 1) dX6_init_23 ⟨by decide, by decide⟩ ?_
  refine Y.putI 4 dX6_init_24 zw_X6_23 (fun q => by cases q) (rfl) rfl (by rw [← ed_9]; exact List.mem_append_left _ (hm18)) (Or.inr ⟨rfl, by decide⟩) ?_
  generalize eE_15 : zuE E_14 18 4 1 = E_15
  replace K := K E_15 eE_15.symm
  refine Z.aload_n (k := 0) dX6_init_27 rfl ?_
  refine Z.aload_n (k := 1) dX6_init_28 rfl ?_
  refine Y.putR 0 dX6_init_29 zw_X6_26 (fun _ => ⟨rfl, rfl⟩) (rfl) rfl (by rw [← ed_9]; exact List.mem_append_left _ (hm18)) (fun b hb => by cases hb; exact (by rw [← ed_9]; exact List.mem_append_left _ (hm1))) ?_
  generalize eG_16 : zuG G_12 18 0 (some 1) = G_16
  replace K := K G_16 eG_16.symm
  exact Z.vret dX6_init_32 rfl K
