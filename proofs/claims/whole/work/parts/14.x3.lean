set_option maxRecDepth 20000 in
theorem X3_init_0 {kz : Nat × Nat} {Q : Option zV → zH → Prop} {d : List Nat} {G : Nat → Int → Option Nat} {E : Nat → Int → Int}  (hm41 : 41 ∈ d) (hm1 : 1 ∈ d) (hm18 : 18 ∈ d) (hm20 : 20 ∈ d) (hm5 : 5 ∈ d) (K : ∀ G_1, G_1 = zuG G 41 0 (some 1) → ∀ G_2, G_2 = zuG G_1 41 1 (some 18) → ∀ G_3, G_3 = zuG G_2 41 2 (some 20) → ∀ G_4, G_4 = zuG G_3 41 3 (some 5) → Q none (d, G_4, E)) : Z zm_X3_init kz Q 0 [(0, zR 41), (1, zR 1), (2, zR 18), (3, zR 20), (4, zR 5)] [] (d, G, E) := by
  refine Z.aload_n (k := 0) dX3_init_0 rfl ?_
  refine Z.objInit (a := 41) dX3_init_1 zk_X3_3 ⟨by decide, by decide⟩ (Nat.le_of_ble_eq_true rfl) ?_
  refine Z.aload_n (k := 0) dX3_init_4 rfl ?_
  refine Z.aload_n (k := 1) dX3_init_5 rfl ?_
  refine Y.putR 0 dX3_init_6 zw_X3_9 (fun _ => ⟨rfl, rfl⟩) (rfl) rfl hm41 (fun b hb => by cases hb; exact hm1) ?_
  generalize eG_1 : zuG G 41 0 (some 1) = G_1
  replace K := K G_1 eG_1.symm
  refine Z.aload_n (k := 0) dX3_init_9 rfl ?_
  refine Z.aload_n (k := 2) dX3_init_10 rfl ?_
  refine Y.putR 1 dX3_init_11 zw_X3_15 (fun _ => ⟨rfl, rfl⟩) (rfl) rfl hm41 (fun b hb => by cases hb; exact hm18) ?_
  generalize eG_2 : zuG G_1 41 1 (some 18) = G_2
  replace K := K G_2 eG_2.symm
  refine Z.aload_n (k := 0) dX3_init_14 rfl ?_
  refine Z.aload_n (k := 3) dX3_init_15 rfl ?_
  refine Y.putR 2 dX3_init_16 zw_X3_19 (fun _ => ⟨rfl, rfl⟩) (rfl) rfl hm41 (fun b hb => by cases hb; exact hm20) ?_
  generalize eG_3 : zuG G_2 41 2 (some 20) = G_3
  replace K := K G_3 eG_3.symm
  refine Z.aload_n (k := 0) dX3_init_19 rfl ?_
  refine Z.aload (k := 4) dX3_init_20 rfl ?_
  refine Y.putR 3 dX3_init_22 zw_X3_23 (fun _ => ⟨rfl, rfl⟩) (rfl) rfl hm41 (fun b hb => by cases hb; exact hm5) ?_
  generalize eG_4 : zuG G_3 41 3 (some 5) = G_4
  replace K := K G_4 eG_4.symm
  exact Z.vret dX3_init_25 rfl K
set_option maxRecDepth 20000 in
theorem X3_writeAllBut_0 {kz : Nat × Nat} {Q : Option zV → zH → Prop} {d : List Nat} {G : Nat → Int → Option Nat} {E : Nat → Int → Int} {r1 : Nat} {v2 : Int} {v3 : Int} {r4 : Nat} (hX : zK zXt d G) (hr1 : zRk d G r1) (hr4 : zRk d G r4) (K : Z zm_X3_writeAllBut kz Q 3 [(0, zR 41), (1, zR r1), (2, zI v2), (3, zI v3), (4, zR r4), (5, zI 0)] [] (d, G, E)) : Z zm_X3_writeAllBut kz Q 0 [(0, zR 41), (1, zR r1), (2, zI v2), (3, zI v3), (4, zR r4)] [] (d, G, E) := by
  refine Z.iconst (n := 0) dX3_writeAllBut_0 ⟨by decide, by decide⟩ ?_
  refine Z.istore (ls' := [(5, zI 0), (0, zR 41), (1, zR r1), (2, zI v2), (3, zI v3), (4, zR r4)]) dX3_writeAllBut_1 (by decide) rfl ?_
  refine Z.pick (ls' := [(0, zR 41), (1, zR r1), (2, zI v2), (3, zI v3), (4, zR r4), (5, zI 0)]) [1, 2, 3, 4, 5, 0] rfl ?_
  exact K
set_option maxRecDepth 20000 in
theorem X3_writeAllBut_3 {kz : Nat × Nat} {Q : Option zV → zH → Prop} {d : List Nat} {G : Nat → Int → Option Nat} {E : Nat → Int → Int} {r1 : Nat} {v2 : Int} {v3 : Int} {r4 : Nat} {v5 : Int} (hX : zK zXt d G) (hr1 : zRk d G r1) (hr4 : zRk d G r4) (K : ((E r1 3) ≤ v5 → Q (some (zI 1)) (d, G, E)) ∧ (¬ ((E r1 3) ≤ v5) → (v5 = v2 → zin (v5 + 1) ∧ Z zm_X3_writeAllBut kz Q 3 [(0, zR 41), (1, zR r1), (2, zI v2), (3, zI v3), (4, zR r4), (5, zI ((v5 + 1)))] [] (d, G, E)) ∧ (¬ (v5 = v2) → ∀ E_4, E_4 = zuE E 20 14 0 → ((0 : Int) ≤ v5 ∧ v5 < (7 : Int)) ∧ zin (v3 + (E_4 (r1 + 2) v5)) ∧ zin (v5 + 1) ∧ ((0 : Int) ≤ (v5 + 1) ∧ (v5 + 1) < (7 : Int)) ∧ zin (v3 + (E_4 (r1 + 2) (v5 + 1))) ∧ ∃ x_10 E_11, zM zm_X9_write [zR 20, zI ((v3 + (E_4 (r1 + 2) v5))), zI ((v3 + (E_4 (r1 + 2) (v5 + 1)))), zI 30] (d, G, E_4) (some (zI x_10)) (d, G, E_11) ∧ (x_10 = 0 → Q (some (zI 0)) (d, G, E_11)) ∧ (¬ (x_10 = 0) → ((0 : Int) ≤ v5 ∧ v5 < (6 : Int)) ∧ ∃ x_16 E_17, zM zm_X5_take [zR r4, zI ((E_11 (r1 + 3) v5)), zR 29, zI 0, zI ((E_11 20 14))] (d, G, E_11) (some (zI x_16)) (d, G, E_17) ∧ (x_16 ≠ 0 → zin (v5 + 1) ∧ Z zm_X3_writeAllBut kz Q 3 [(0, zR 41), (1, zR r1), (2, zI v2), (3, zI v3), (4, zR r4), (5, zI ((v5 + 1)))] [] (d, G, E_17)) ∧ (¬ (x_16 ≠ 0) → Q (some (zI 0)) (d, G, E_17)))))) : Z zm_X3_writeAllBut kz Q 3 [(0, zR 41), (1, zR r1), (2, zI v2), (3, zI v3), (4, zR r4), (5, zI v5)] [] (d, G, E) := by
  refine Z.iload (k := 5) dX3_writeAllBut_3 rfl ?_
  refine Z.aload_n (k := 1) dX3_writeAllBut_5 rfl ?_
  refine Y.getI 3 dX3_writeAllBut_6 zl_X3_138 (congrArg Prod.fst hr1.1) (by decide) rfl hr1.2.2.2.2.1 ?_
  refine Z.icmp_ge 96 dX3_writeAllBut_9 rfl ⟨fun c_1 => ?_, fun c_1 => ?_⟩
  · replace K := K.1 c_1
    refine Z.iconst (n := 1) dX3_writeAllBut_96 ⟨by decide, by decide⟩ ?_
    exact Z.iret (ty := .boolean) dX3_writeAllBut_97 rfl rfl K
  · replace K := K.2 c_1
    refine Z.iload (k := 5) dX3_writeAllBut_12 rfl ?_
    refine Z.iload_n (k := 2) dX3_writeAllBut_14 rfl ?_
    refine Z.icmp_eq 90 dX3_writeAllBut_15 rfl ⟨fun c_2 => ?_, fun c_2 => ?_⟩
    · replace K := K.1 c_2
      obtain ⟨z_3, K⟩ := K
      refine Z.iinc (k := 5) (ls' := [(5, zI ((v5 + 1))), (0, zR 41), (1, zR r1), (2, zI v2), (3, zI v3), (4, zR r4)]) dX3_writeAllBut_90 rfl (by decide) z_3 rfl ?_
      refine Z.goto 3 dX3_writeAllBut_93 rfl ?_
      refine Z.pick (ls' := [(0, zR 41), (1, zR r1), (2, zI v2), (3, zI v3), (4, zR r4), (5, zI ((v5 + 1)))]) [1, 2, 3, 4, 5, 0] rfl ?_
      exact K
    · replace K := K.2 c_2
      refine Z.aload_n (k := 0) dX3_writeAllBut_18 rfl ?_
      refine Y.getR (o := some 20) 2 dX3_writeAllBut_19 zl_X3_19 (rfl) (by decide) rfl (zX_0_10 hX).2.2 (zX_41_2 hX).1 ?_
      refine Z.iconst (n := 0) dX3_writeAllBut_22 ⟨by decide, by decide⟩ ?_
      refine Y.putI 14 dX3_writeAllBut_23 zw_X3_123 (fun q => by cases q) (rfl) rfl (zX_0_6 hX).2.2 (Or.inl rfl) ?_
      generalize eE_4 : zuE E 20 14 0 = E_4
      replace K := K E_4 eE_4.symm
      refine Z.aload_n (k := 0) dX3_writeAllBut_26 rfl ?_
      refine Y.getR (o := some 20) 2 dX3_writeAllBut_27 zl_X3_19 (rfl) (by decide) rfl (zX_0_10 hX).2.2 (zX_41_2 hX).1 ?_
      refine Z.iload_n (k := 3) dX3_writeAllBut_30 rfl ?_
      refine Z.aload_n (k := 1) dX3_writeAllBut_31 rfl ?_
      refine Y.getR (o := some (r1 + 2)) 1 dX3_writeAllBut_32 zl_X3_79 (congrArg Prod.fst hr1.1) (by decide) rfl hr1.2.2.2.2.1 hr1.2.2.2.2.2.2.2.2.2.1 ?_
      refine Z.iload (k := 5) dX3_writeAllBut_35 rfl ?_
      obtain ⟨z_5, K⟩ := K
      refine Y.iald dX3_writeAllBut_37 (hr1.2.2.1) (hr1.2.2.2.2.2.2.1) z_5 ?_
      obtain ⟨z_6, K⟩ := K
      refine Z.iadd dX3_writeAllBut_38 z_6 ?_
      refine Z.iload_n (k := 3) dX3_writeAllBut_39 rfl ?_
      refine Z.aload_n (k := 1) dX3_writeAllBut_40 rfl ?_
      refine Y.getR (o := some (r1 + 2)) 1 dX3_writeAllBut_41 zl_X3_79 (congrArg Prod.fst hr1.1) (by decide) rfl hr1.2.2.2.2.1 hr1.2.2.2.2.2.2.2.2.2.1 ?_
      refine Z.iload (k := 5) dX3_writeAllBut_44 rfl ?_
      refine Z.iconst (n := 1) dX3_writeAllBut_46 ⟨by decide, by decide⟩ ?_
      obtain ⟨z_7, K⟩ := K
      refine Z.iadd dX3_writeAllBut_47 z_7 ?_
      obtain ⟨z_8, K⟩ := K
      refine Y.iald dX3_writeAllBut_48 (hr1.2.2.1) (hr1.2.2.2.2.2.2.1) z_8 ?_
      obtain ⟨z_9, K⟩ := K
      refine Z.iadd dX3_writeAllBut_49 z_9 ?_
      refine Z.bipush (n := 30) dX3_writeAllBut_50 ⟨by decide, by decide⟩ (by decide) ?_
      obtain ⟨x_10, E_11, m_12, K⟩ := K
      refine Y.callV (g := zm_X9_write) (vs := [zI ((v3 + (E_4 (r1 + 2) v5))), zI ((v3 + (E_4 (r1 + 2) (v5 + 1)))), zI 30]) (st := []) dX3_writeAllBut_52 ⟨zg_X9_write.1, zg_X9_write.2.1, zg_X9_write.2.2, by decide⟩ ⟨zk_X3_125, zv_X9_write⟩ (ci := 9) (rfl) rfl ((zX_0_6 hX).2.2) rfl rfl (Nat.le_of_ble_eq_true rfl) m_12 (Or.inl rfl) ?_
      show Z zm_X3_writeAllBut kz Q 55 [(0, zR 41), (1, zR r1), (2, zI v2), (3, zI v3), (4, zR r4), (5, zI v5)] [zI x_10] (d, G, E_11)
      refine Z.if_eq 88 dX3_writeAllBut_55 rfl ⟨fun c_14 => ?_, fun c_14 => ?_⟩
      · replace K := K.1 c_14
        refine Z.iconst (n := 0) dX3_writeAllBut_88 ⟨by decide, by decide⟩ ?_
        exact Z.iret (ty := .boolean) dX3_writeAllBut_89 rfl rfl K
      · replace K := K.2 c_14
        refine Z.aload (k := 4) dX3_writeAllBut_58 rfl ?_
        refine Z.aload_n (k := 1) dX3_writeAllBut_60 rfl ?_
        refine Y.getR (o := some (r1 + 3)) 2 dX3_writeAllBut_61 zl_X3_141 (congrArg Prod.fst hr1.1) (by decide) rfl hr1.2.2.2.2.1 hr1.2.2.2.2.2.2.2.2.2.2 ?_
        refine Z.iload (k := 5) dX3_writeAllBut_64 rfl ?_
        obtain ⟨z_15, K⟩ := K
        refine Y.zald dX3_writeAllBut_66 (hr1.2.2.2.1) (hr1.2.2.2.2.2.2.2.1) z_15 ?_
        refine Z.aload_n (k := 0) dX3_writeAllBut_67 rfl ?_
        refine Y.getR (o := some 20) 2 dX3_writeAllBut_68 zl_X3_19 (rfl) (by decide) rfl (zX_0_10 hX).2.2 (zX_41_2 hX).1 ?_
        refine Y.getR (o := some 29) 13 dX3_writeAllBut_71 zl_X3_129 (rfl) (by decide) rfl (zX_0_6 hX).2.2 (zX_20_13 hX).1 ?_
        refine Z.iconst (n := 0) dX3_writeAllBut_74 ⟨by decide, by decide⟩ ?_
        refine Z.aload_n (k := 0) dX3_writeAllBut_75 rfl ?_
        refine Y.getR (o := some 20) 2 dX3_writeAllBut_76 zl_X3_19 (rfl) (by decide) rfl (zX_0_10 hX).2.2 (zX_41_2 hX).1 ?_
        refine Y.getI 14 dX3_writeAllBut_79 zl_X3_123 (rfl) (by decide) rfl (zX_0_6 hX).2.2 ?_
        obtain ⟨x_16, E_17, m_18, K⟩ := K
        refine Y.callV (g := zm_X5_take) (vs := [zI ((E_11 (r1 + 3) v5)), zR 29, zI 0, zI ((E_11 20 14))]) (st := []) dX3_writeAllBut_82 ⟨zg_X5_take.1, zg_X5_take.2.1, zg_X5_take.2.2, by decide⟩ ⟨zk_X3_145, zv_X5_take⟩ (ci := 5) (congrArg Prod.fst hr4.1) rfl (hr4.2.2.2.2.1) rfl rfl (Nat.le_of_ble_eq_true rfl) m_18 (Or.inl rfl) ?_
        show Z zm_X3_writeAllBut kz Q 85 [(0, zR 41), (1, zR r1), (2, zI v2), (3, zI v3), (4, zR r4), (5, zI v5)] [zI x_16] (d, G, E_17)
        refine Z.if_ne 90 dX3_writeAllBut_85 rfl ⟨fun c_20 => ?_, fun c_20 => ?_⟩
        · replace K := K.1 c_20
          obtain ⟨z_21, K⟩ := K
          refine Z.iinc (k := 5) (ls' := [(5, zI ((v5 + 1))), (0, zR 41), (1, zR r1), (2, zI v2), (3, zI v3), (4, zR r4)]) dX3_writeAllBut_90 rfl (by decide) z_21 rfl ?_
          refine Z.goto 3 dX3_writeAllBut_93 rfl ?_
          refine Z.pick (ls' := [(0, zR 41), (1, zR r1), (2, zI v2), (3, zI v3), (4, zR r4), (5, zI ((v5 + 1)))]) [1, 2, 3, 4, 5, 0] rfl ?_
          exact K
        · replace K := K.2 c_20
          refine Z.iconst (n := 0) dX3_writeAllBut_88 ⟨by decide, by decide⟩ ?_
          exact Z.iret (ty := .boolean) dX3_writeAllBut_89 rfl rfl K
set_option maxRecDepth 20000 in
theorem X3_makeClash_0 {kz : Nat × Nat} {Q : Option zV → zH → Prop} {d : List Nat} {G : Nat → Int → Option Nat} {E : Nat → Int → Int} {c1 : Nat} {v2 : Int} {c3 : Nat} {r4 : Nat} (hX : zK zXt d G) (hc1 : zCk d G c1) (hc3 : zCk d G c3) (hr4 : zRk d G r4) (K : ∃ x_1, zM zm_X1_isPositive [zR c1] (d, G, E) (some (zI x_1)) (d, G, E) ∧ (x_1 = 0 → Q (some (zI 0)) (d, G, E)) ∧ (¬ (x_1 = 0) → ∃ x_5, zM zm_X5_has [zR ((c1 + 1)), zI v2] (d, G, E) (some (zI x_5)) (d, G, E) ∧ (x_5 = 0 → Q (some (zI 0)) (d, G, E)) ∧ (¬ (x_5 = 0) → ∃ x_9, zM zm_X5_has [zR ((c3 + 1)), zI ((E c3 9))] (d, G, E) (some (zI x_9)) (d, G, E) ∧ (x_9 ≠ 0 → ((0 : Int) ≤ v2 ∧ v2 < (7 : Int)) ∧ ((0 : Int) ≤ (E c3 9) ∧ (E c3 9) < (7 : Int)) ∧ ((0 : Int) ≤ (E ((c1 + 1) + 2) v2) ∧ (E ((c1 + 1) + 2) v2) < (180 : Int)) ∧ ((0 : Int) ≤ (E ((c3 + 1) + 2) (E c3 9)) ∧ (E ((c3 + 1) + 2) (E c3 9)) < (180 : Int)) ∧ ((E ((c1 + 1) + 1) (E ((c1 + 1) + 2) v2)) = (E ((c3 + 1) + 1) (E ((c3 + 1) + 2) (E c3 9))) → ∃ E_18, zM zm_X9_layFirst [zR 20, zR ((c1 + 1))] (d, G, E) none (d, G, E_18) ∧ ∃ E_21, zM zm_X9_laySecond [zR 20, zR ((c3 + 1))] (d, G, E_18) none (d, G, E_21) ∧ zin (180 + (E ((c3 + 1) + 2) (E c3 9))) ∧ ∃ x_25 E_26, zM zm_X9_widen [zR 20, zI ((E ((c1 + 1) + 2) v2)), zI ((180 + (E ((c3 + 1) + 2) (E c3 9))))] (d, G, E_21) (some (zI x_25)) (d, G, E_26) ∧ (x_25 ≠ 0 → ∃ x_30 E_31, zM zm_X3_writeAllBut [zR 41, zR ((c1 + 1)), zI v2, zI 0, zR r4] (d, G, E_26) (some (zI x_30)) (d, G, E_31) ∧ (x_30 = 0 → Q (some (zI 1)) (d, G, E_31)) ∧ (¬ (x_30 = 0) → ∃ x_35 E_36, zM zm_X3_writeAllBut [zR 41, zR ((c3 + 1)), zI ((E_31 c3 9)), zI 180, zR r4] (d, G, E_31) (some (zI x_35)) (d, G, E_36) ∧ (x_35 = 0 → Q (some (zI 1)) (d, G, E_36)) ∧ (¬ (x_35 = 0) → Q (some (zI 2)) (d, G, E_36)))) ∧ (¬ (x_25 ≠ 0) → Q (some (zI 0)) (d, G, E_26))) ∧ (¬ ((E ((c1 + 1) + 1) (E ((c1 + 1) + 2) v2)) = (E ((c3 + 1) + 1) (E ((c3 + 1) + 2) (E c3 9)))) → Q (some (zI 0)) (d, G, E))) ∧ (¬ (x_9 ≠ 0) → Q (some (zI 0)) (d, G, E))))) : Z zm_X3_makeClash kz Q 0 [(0, zR 41), (1, zR c1), (2, zI v2), (3, zR c3), (4, zR r4)] [] (d, G, E) := by
  refine Z.aload_n (k := 1) dX3_makeClash_0 rfl ?_
  obtain ⟨x_1, m_2, K⟩ := K
  refine Y.callV (g := zm_X1_isPositive) (vs := []) (st := []) dX3_makeClash_1 ⟨zg_X1_isPositive.1, zg_X1_isPositive.2.1, zg_X1_isPositive.2.2, by decide⟩ ⟨zk_X3_61, zv_X1_isPositive⟩ (ci := 1) (congrArg Prod.fst hc1.1) rfl (hc1.2.1) rfl rfl (Nat.le_of_ble_eq_true rfl) m_2 (Or.inl rfl) ?_
  show Z zm_X3_makeClash kz Q 4 [(0, zR 41), (1, zR c1), (2, zI v2), (3, zR c3), (4, zR r4)] [zI x_1] (d, G, E)
  refine Z.if_eq 32 dX3_makeClash_4 rfl ⟨fun c_4 => ?_, fun c_4 => ?_⟩
  · replace K := K.1 c_4
    refine Z.iconst (n := 0) dX3_makeClash_32 ⟨by decide, by decide⟩ ?_
    exact Z.iret (ty := .int) dX3_makeClash_33 rfl rfl K
  · replace K := K.2 c_4
    refine Z.aload_n (k := 1) dX3_makeClash_7 rfl ?_
    refine Y.getR (o := some ((c1 + 1))) 0 dX3_makeClash_8 zl_X3_67 (congrArg Prod.fst hc1.1) (by decide) rfl hc1.2.1 hc1.2.2.2.1 ?_
    refine Z.iload_n (k := 2) dX3_makeClash_11 rfl ?_
    obtain ⟨x_5, m_6, K⟩ := K
    refine Y.callV (g := zm_X5_has) (vs := [zI v2]) (st := []) dX3_makeClash_12 ⟨zg_X5_has.1, zg_X5_has.2.1, zg_X5_has.2.2, by decide⟩ ⟨zk_X3_71, zv_X5_has⟩ (ci := 5) (congrArg Prod.fst hc1.2.2.1.1) rfl (hc1.2.2.1.2.2.2.2.1) rfl rfl (Nat.le_of_ble_eq_true rfl) m_6 (Or.inl rfl) ?_
    show Z zm_X3_makeClash kz Q 15 [(0, zR 41), (1, zR c1), (2, zI v2), (3, zR c3), (4, zR r4)] [zI x_5] (d, G, E)
    refine Z.if_eq 32 dX3_makeClash_15 rfl ⟨fun c_8 => ?_, fun c_8 => ?_⟩
    · replace K := K.1 c_8
      refine Z.iconst (n := 0) dX3_makeClash_32 ⟨by decide, by decide⟩ ?_
      exact Z.iret (ty := .int) dX3_makeClash_33 rfl rfl K
    · replace K := K.2 c_8
      refine Z.aload_n (k := 3) dX3_makeClash_18 rfl ?_
      refine Y.getR (o := some ((c3 + 1))) 0 dX3_makeClash_19 zl_X3_67 (congrArg Prod.fst hc3.1) (by decide) rfl hc3.2.1 hc3.2.2.2.1 ?_
      refine Z.aload_n (k := 3) dX3_makeClash_22 rfl ?_
      refine Y.getI 9 dX3_makeClash_23 zl_X3_75 (congrArg Prod.fst hc3.1) (by decide) rfl hc3.2.1 ?_
      obtain ⟨x_9, m_10, K⟩ := K
      refine Y.callV (g := zm_X5_has) (vs := [zI ((E c3 9))]) (st := []) dX3_makeClash_26 ⟨zg_X5_has.1, zg_X5_has.2.1, zg_X5_has.2.2, by decide⟩ ⟨zk_X3_71, zv_X5_has⟩ (ci := 5) (congrArg Prod.fst hc3.2.2.1.1) rfl (hc3.2.2.1.2.2.2.2.1) rfl rfl (Nat.le_of_ble_eq_true rfl) m_10 (Or.inl rfl) ?_
      show Z zm_X3_makeClash kz Q 29 [(0, zR 41), (1, zR c1), (2, zI v2), (3, zR c3), (4, zR r4)] [zI x_9] (d, G, E)
      refine Z.if_ne 34 dX3_makeClash_29 rfl ⟨fun c_12 => ?_, fun c_12 => ?_⟩
      · replace K := K.1 c_12
        refine Z.aload_n (k := 1) dX3_makeClash_34 rfl ?_
        refine Y.getR (o := some ((c1 + 1))) 0 dX3_makeClash_35 zl_X3_67 (congrArg Prod.fst hc1.1) (by decide) rfl hc1.2.1 hc1.2.2.2.1 ?_
        refine Y.getR (o := some ((c1 + 1) + 2)) 1 dX3_makeClash_38 zl_X3_79 (congrArg Prod.fst hc1.2.2.1.1) (by decide) rfl hc1.2.2.1.2.2.2.2.1 hc1.2.2.1.2.2.2.2.2.2.2.2.2.1 ?_
        refine Z.iload_n (k := 2) dX3_makeClash_41 rfl ?_
        obtain ⟨z_13, K⟩ := K
        refine Y.iald dX3_makeClash_42 (hc1.2.2.1.2.2.1) (hc1.2.2.1.2.2.2.2.2.2.1) z_13 ?_
        refine Z.istore (ls' := [(5, zI ((E ((c1 + 1) + 2) v2))), (0, zR 41), (1, zR c1), (2, zI v2), (3, zR c3), (4, zR r4)]) dX3_makeClash_43 (by decide) rfl ?_
        refine Z.aload_n (k := 4) dX3_makeClash_45 rfl ?_
        refine Y.getR (o := some ((c3 + 1))) 0 dX3_makeClash_46 zl_X3_67 (congrArg Prod.fst hc3.1) (by decide) rfl hc3.2.1 hc3.2.2.2.1 ?_
        refine Y.getR (o := some ((c3 + 1) + 2)) 1 dX3_makeClash_49 zl_X3_79 (congrArg Prod.fst hc3.2.2.1.1) (by decide) rfl hc3.2.2.1.2.2.2.2.1 hc3.2.2.1.2.2.2.2.2.2.2.2.2.1 ?_
        refine Z.aload_n (k := 4) dX3_makeClash_52 rfl ?_
        refine Y.getI 9 dX3_makeClash_53 zl_X3_75 (congrArg Prod.fst hc3.1) (by decide) rfl hc3.2.1 ?_
        obtain ⟨z_14, K⟩ := K
        refine Y.iald dX3_makeClash_56 (hc3.2.2.1.2.2.1) (hc3.2.2.1.2.2.2.2.2.2.1) z_14 ?_
        refine Z.istore (ls' := [(6, zI ((E ((c3 + 1) + 2) (E c3 9)))), (5, zI ((E ((c1 + 1) + 2) v2))), (0, zR 41), (1, zR c1), (2, zI v2), (3, zR c3), (4, zR r4)]) dX3_makeClash_57 (by decide) rfl ?_
        refine Z.aload_n (k := 3) dX3_makeClash_59 rfl ?_
        refine Y.getR (o := some ((c1 + 1))) 0 dX3_makeClash_60 zl_X3_67 (congrArg Prod.fst hc1.1) (by decide) rfl hc1.2.1 hc1.2.2.2.1 ?_
        refine Y.getR (o := some ((c1 + 1) + 1)) 0 dX3_makeClash_63 zl_X3_82 (congrArg Prod.fst hc1.2.2.1.1) (by decide) rfl hc1.2.2.1.2.2.2.2.1 hc1.2.2.1.2.2.2.2.2.2.2.2.1 ?_
        refine Z.iload (k := 1) dX3_makeClash_66 rfl ?_
        obtain ⟨z_15, K⟩ := K
        refine Y.iald dX3_makeClash_68 (hc1.2.2.1.2.1) (hc1.2.2.1.2.2.2.2.2.1) z_15 ?_
        refine Z.aload_n (k := 5) dX3_makeClash_69 rfl ?_
        refine Y.getR (o := some ((c3 + 1))) 0 dX3_makeClash_70 zl_X3_67 (congrArg Prod.fst hc3.1) (by decide) rfl hc3.2.1 hc3.2.2.2.1 ?_
        refine Y.getR (o := some ((c3 + 1) + 1)) 0 dX3_makeClash_73 zl_X3_82 (congrArg Prod.fst hc3.2.2.1.1) (by decide) rfl hc3.2.2.1.2.2.2.2.1 hc3.2.2.1.2.2.2.2.2.2.2.2.1 ?_
        refine Z.iload (k := 0) dX3_makeClash_76 rfl ?_
        obtain ⟨z_16, K⟩ := K
        refine Y.iald dX3_makeClash_78 (hc3.2.2.1.2.1) (hc3.2.2.1.2.2.2.2.2.1) z_16 ?_
        refine Z.icmp_eq 84 dX3_makeClash_79 rfl ⟨fun c_17 => ?_, fun c_17 => ?_⟩
        · replace K := K.1 c_17
          refine Z.aload_n (k := 2) dX3_makeClash_84 rfl ?_
          refine Y.getR (o := some 20) 2 dX3_makeClash_85 zl_X3_19 (rfl) (by decide) rfl (zX_0_10 hX).2.2 (zX_41_2 hX).1 ?_
          refine Z.aload_n (k := 3) dX3_makeClash_88 rfl ?_
          refine Y.getR (o := some ((c1 + 1))) 0 dX3_makeClash_89 zl_X3_67 (congrArg Prod.fst hc1.1) (by decide) rfl hc1.2.1 hc1.2.2.2.1 ?_
          obtain ⟨E_18, m_19, K⟩ := K
          refine Y.callV (g := zm_X9_layFirst) (vs := [zR ((c1 + 1))]) (st := []) dX3_makeClash_92 ⟨zg_X9_layFirst.1, zg_X9_layFirst.2.1, zg_X9_layFirst.2.2, by decide⟩ ⟨zk_X3_85, zv_X9_layFirst⟩ (ci := 9) (rfl) rfl ((zX_0_6 hX).2.2) rfl rfl (Nat.le_of_ble_eq_true rfl) m_19 (Or.inl rfl) ?_
          show Z zm_X3_makeClash kz Q 95 [(6, zI ((E ((c3 + 1) + 2) (E c3 9)))), (5, zI ((E ((c1 + 1) + 2) v2))), (0, zR 41), (1, zR c1), (2, zI v2), (3, zR c3), (4, zR r4)] [] (d, G, E_18)
          refine Z.aload_n (k := 2) dX3_makeClash_95 rfl ?_
          refine Y.getR (o := some 20) 2 dX3_makeClash_96 zl_X3_19 (rfl) (by decide) rfl (zX_0_10 hX).2.2 (zX_41_2 hX).1 ?_
          refine Z.aload_n (k := 5) dX3_makeClash_99 rfl ?_
          refine Y.getR (o := some ((c3 + 1))) 0 dX3_makeClash_100 zl_X3_67 (congrArg Prod.fst hc3.1) (by decide) rfl hc3.2.1 hc3.2.2.2.1 ?_
          obtain ⟨E_21, m_22, K⟩ := K
          refine Y.callV (g := zm_X9_laySecond) (vs := [zR ((c3 + 1))]) (st := []) dX3_makeClash_103 ⟨zg_X9_laySecond.1, zg_X9_laySecond.2.1, zg_X9_laySecond.2.2, by decide⟩ ⟨zk_X3_91, zv_X9_laySecond⟩ (ci := 9) (rfl) rfl ((zX_0_6 hX).2.2) rfl rfl (Nat.le_of_ble_eq_true rfl) m_22 (Or.inl rfl) ?_
          show Z zm_X3_makeClash kz Q 106 [(6, zI ((E ((c3 + 1) + 2) (E c3 9)))), (5, zI ((E ((c1 + 1) + 2) v2))), (0, zR 41), (1, zR c1), (2, zI v2), (3, zR c3), (4, zR r4)] [] (d, G, E_21)
          refine Z.aload_n (k := 2) dX3_makeClash_106 rfl ?_
          refine Y.getR (o := some 20) 2 dX3_makeClash_107 zl_X3_19 (rfl) (by decide) rfl (zX_0_10 hX).2.2 (zX_41_2 hX).1 ?_
          refine Z.iload (k := 1) dX3_makeClash_110 rfl ?_
          refine Z.sipush (n := 180) dX3_makeClash_112 ⟨by decide, by decide⟩ (by decide) ?_
          refine Z.iload (k := 0) dX3_makeClash_115 rfl ?_
          obtain ⟨z_24, K⟩ := K
          refine Z.iadd dX3_makeClash_117 z_24 ?_
          obtain ⟨x_25, E_26, m_27, K⟩ := K
          refine Y.callV (g := zm_X9_widen) (vs := [zI ((E ((c1 + 1) + 2) v2)), zI ((180 + (E ((c3 + 1) + 2) (E c3 9))))]) (st := []) dX3_makeClash_118 ⟨zg_X9_widen.1, zg_X9_widen.2.1, zg_X9_widen.2.2, by decide⟩ ⟨zk_X3_94, zv_X9_widen⟩ (ci := 9) (rfl) rfl ((zX_0_6 hX).2.2) rfl rfl (Nat.le_of_ble_eq_true rfl) m_27 (Or.inl rfl) ?_
          show Z zm_X3_makeClash kz Q 121 [(6, zI ((E ((c3 + 1) + 2) (E c3 9)))), (5, zI ((E ((c1 + 1) + 2) v2))), (0, zR 41), (1, zR c1), (2, zI v2), (3, zR c3), (4, zR r4)] [zI x_25] (d, G, E_26)
          refine Z.if_ne 126 dX3_makeClash_121 rfl ⟨fun c_29 => ?_, fun c_29 => ?_⟩
          · replace K := K.1 c_29
            refine Z.aload_n (k := 2) dX3_makeClash_126 rfl ?_
            refine Z.aload_n (k := 3) dX3_makeClash_127 rfl ?_
            refine Y.getR (o := some ((c1 + 1))) 0 dX3_makeClash_128 zl_X3_67 (congrArg Prod.fst hc1.1) (by decide) rfl hc1.2.1 hc1.2.2.2.1 ?_
            refine Z.iload_n (k := 4) dX3_makeClash_131 rfl ?_
            refine Z.iconst (n := 0) dX3_makeClash_132 ⟨by decide, by decide⟩ ?_
            refine Z.aload (k := 6) dX3_makeClash_133 rfl ?_
            obtain ⟨x_30, E_31, m_32, K⟩ := K
            refine Y.callV (g := zm_X3_writeAllBut) (vs := [zR ((c1 + 1)), zI v2, zI 0, zR r4]) (st := []) dX3_makeClash_135 ⟨zg_X3_writeAllBut.1, zg_X3_writeAllBut.2.1, zg_X3_writeAllBut.2.2, by decide⟩ ⟨zk_X3_98, zv_X3_writeAllBut⟩ (ci := 3) (rfl) rfl ((zX_0_10 hX).2.2) rfl rfl (Nat.le_of_ble_eq_true rfl) m_32 (Or.inl rfl) ?_
            show Z zm_X3_makeClash kz Q 138 [(6, zI ((E ((c3 + 1) + 2) (E c3 9)))), (5, zI ((E ((c1 + 1) + 2) v2))), (0, zR 41), (1, zR c1), (2, zI v2), (3, zR c3), (4, zR r4)] [zI x_30] (d, G, E_31)
            refine Z.if_eq 165 dX3_makeClash_138 rfl ⟨fun c_34 => ?_, fun c_34 => ?_⟩
            · replace K := K.1 c_34
              refine Z.iconst (n := 1) dX3_makeClash_165 ⟨by decide, by decide⟩ ?_
              exact Z.iret (ty := .int) dX3_makeClash_166 rfl rfl K
            · replace K := K.2 c_34
              refine Z.aload_n (k := 2) dX3_makeClash_141 rfl ?_
              refine Z.aload_n (k := 5) dX3_makeClash_142 rfl ?_
              refine Y.getR (o := some ((c3 + 1))) 0 dX3_makeClash_143 zl_X3_67 (congrArg Prod.fst hc3.1) (by decide) rfl hc3.2.1 hc3.2.2.2.1 ?_
              refine Z.aload_n (k := 5) dX3_makeClash_146 rfl ?_
              refine Y.getI 9 dX3_makeClash_147 zl_X3_75 (congrArg Prod.fst hc3.1) (by decide) rfl hc3.2.1 ?_
              refine Z.sipush (n := 180) dX3_makeClash_150 ⟨by decide, by decide⟩ (by decide) ?_
              refine Z.aload (k := 6) dX3_makeClash_153 rfl ?_
              obtain ⟨x_35, E_36, m_37, K⟩ := K
              refine Y.callV (g := zm_X3_writeAllBut) (vs := [zR ((c3 + 1)), zI ((E_31 c3 9)), zI 180, zR r4]) (st := []) dX3_makeClash_155 ⟨zg_X3_writeAllBut.1, zg_X3_writeAllBut.2.1, zg_X3_writeAllBut.2.2, by decide⟩ ⟨zk_X3_98, zv_X3_writeAllBut⟩ (ci := 3) (rfl) rfl ((zX_0_10 hX).2.2) rfl rfl (Nat.le_of_ble_eq_true rfl) m_37 (Or.inl rfl) ?_
              show Z zm_X3_makeClash kz Q 158 [(6, zI ((E ((c3 + 1) + 2) (E c3 9)))), (5, zI ((E ((c1 + 1) + 2) v2))), (0, zR 41), (1, zR c1), (2, zI v2), (3, zR c3), (4, zR r4)] [zI x_35] (d, G, E_36)
              refine Z.if_eq 165 dX3_makeClash_158 rfl ⟨fun c_39 => ?_, fun c_39 => ?_⟩
              · replace K := K.1 c_39
                refine Z.iconst (n := 1) dX3_makeClash_165 ⟨by decide, by decide⟩ ?_
                exact Z.iret (ty := .int) dX3_makeClash_166 rfl rfl K
              · replace K := K.2 c_39
                refine Z.iconst (n := 2) dX3_makeClash_161 ⟨by decide, by decide⟩ ?_
                refine Z.goto 166 dX3_makeClash_162 rfl ?_
                exact Z.iret (ty := .int) dX3_makeClash_166 rfl rfl K
          · replace K := K.2 c_29
            refine Z.iconst (n := 0) dX3_makeClash_124 ⟨by decide, by decide⟩ ?_
            exact Z.iret (ty := .int) dX3_makeClash_125 rfl rfl K
        · replace K := K.2 c_17
          refine Z.iconst (n := 0) dX3_makeClash_82 ⟨by decide, by decide⟩ ?_
          exact Z.iret (ty := .int) dX3_makeClash_83 rfl rfl K
      · replace K := K.2 c_12
        refine Z.iconst (n := 0) dX3_makeClash_32 ⟨by decide, by decide⟩ ?_
        exact Z.iret (ty := .int) dX3_makeClash_33 rfl rfl K
set_option maxRecDepth 20000 in
theorem X3_makeFactor_0 {kz : Nat × Nat} {Q : Option zV → zH → Prop} {d : List Nat} {G : Nat → Int → Option Nat} {E : Nat → Int → Int} {c1 : Nat} {v2 : Int} {v3 : Int} {r4 : Nat} (hX : zK zXt d G) (hc1 : zCk d G c1) (hr4 : zRk d G r4) (K : ∃ x_1, zM zm_X1_isPositive [zR c1] (d, G, E) (some (zI x_1)) (d, G, E) ∧ (x_1 = 0 → Q (some (zI 0)) (d, G, E)) ∧ (¬ (x_1 = 0) → ∃ x_5, zM zm_X5_has [zR ((c1 + 1)), zI v2] (d, G, E) (some (zI x_5)) (d, G, E) ∧ (x_5 = 0 → Q (some (zI 0)) (d, G, E)) ∧ (¬ (x_5 = 0) → ∃ x_9, zM zm_X5_has [zR ((c1 + 1)), zI v3] (d, G, E) (some (zI x_9)) (d, G, E) ∧ (x_9 = 0 → Q (some (zI 0)) (d, G, E)) ∧ (¬ (x_9 = 0) → (v2 < v3 → ∃ E_14, zM zm_X9_layFirst [zR 20, zR ((c1 + 1))] (d, G, E) none (d, G, E_14) ∧ ((0 : Int) ≤ v2 ∧ v2 < (7 : Int)) ∧ ((0 : Int) ≤ v3 ∧ v3 < (7 : Int)) ∧ ∃ x_19 E_20, zM zm_X9_widen [zR 20, zI ((E_14 ((c1 + 1) + 2) v2)), zI ((E_14 ((c1 + 1) + 2) v3))] (d, G, E_14) (some (zI x_19)) (d, G, E_20) ∧ (x_19 ≠ 0 → ∃ x_24 E_25, zM zm_X3_writeAllBut [zR 41, zR ((c1 + 1)), zI v3, zI 0, zR r4] (d, G, E_20) (some (zI x_24)) (d, G, E_25) ∧ (x_24 = 0 → Q (some (zI 1)) (d, G, E_25)) ∧ (¬ (x_24 = 0) → Q (some (zI 2)) (d, G, E_25))) ∧ (¬ (x_19 ≠ 0) → Q (some (zI 0)) (d, G, E_20))) ∧ (¬ (v2 < v3) → Q (some (zI 0)) (d, G, E)))))) : Z zm_X3_makeFactor kz Q 0 [(0, zR 41), (1, zR c1), (2, zI v2), (3, zI v3), (4, zR r4)] [] (d, G, E) := by
  refine Z.aload_n (k := 1) dX3_makeFactor_0 rfl ?_
  obtain ⟨x_1, m_2, K⟩ := K
  refine Y.callV (g := zm_X1_isPositive) (vs := []) (st := []) dX3_makeFactor_1 ⟨zg_X1_isPositive.1, zg_X1_isPositive.2.1, zg_X1_isPositive.2.2, by decide⟩ ⟨zk_X3_61, zv_X1_isPositive⟩ (ci := 1) (congrArg Prod.fst hc1.1) rfl (hc1.2.1) rfl rfl (Nat.le_of_ble_eq_true rfl) m_2 (Or.inl rfl) ?_
  show Z zm_X3_makeFactor kz Q 4 [(0, zR 41), (1, zR c1), (2, zI v2), (3, zI v3), (4, zR r4)] [zI x_1] (d, G, E)
  refine Z.if_eq 34 dX3_makeFactor_4 rfl ⟨fun c_4 => ?_, fun c_4 => ?_⟩
  · replace K := K.1 c_4
    refine Z.iconst (n := 0) dX3_makeFactor_34 ⟨by decide, by decide⟩ ?_
    exact Z.iret (ty := .int) dX3_makeFactor_35 rfl rfl K
  · replace K := K.2 c_4
    refine Z.aload_n (k := 1) dX3_makeFactor_7 rfl ?_
    refine Y.getR (o := some ((c1 + 1))) 0 dX3_makeFactor_8 zl_X3_67 (congrArg Prod.fst hc1.1) (by decide) rfl hc1.2.1 hc1.2.2.2.1 ?_
    refine Z.iload_n (k := 2) dX3_makeFactor_11 rfl ?_
    obtain ⟨x_5, m_6, K⟩ := K
    refine Y.callV (g := zm_X5_has) (vs := [zI v2]) (st := []) dX3_makeFactor_12 ⟨zg_X5_has.1, zg_X5_has.2.1, zg_X5_has.2.2, by decide⟩ ⟨zk_X3_71, zv_X5_has⟩ (ci := 5) (congrArg Prod.fst hc1.2.2.1.1) rfl (hc1.2.2.1.2.2.2.2.1) rfl rfl (Nat.le_of_ble_eq_true rfl) m_6 (Or.inl rfl) ?_
    show Z zm_X3_makeFactor kz Q 15 [(0, zR 41), (1, zR c1), (2, zI v2), (3, zI v3), (4, zR r4)] [zI x_5] (d, G, E)
    refine Z.if_eq 34 dX3_makeFactor_15 rfl ⟨fun c_8 => ?_, fun c_8 => ?_⟩
    · replace K := K.1 c_8
      refine Z.iconst (n := 0) dX3_makeFactor_34 ⟨by decide, by decide⟩ ?_
      exact Z.iret (ty := .int) dX3_makeFactor_35 rfl rfl K
    · replace K := K.2 c_8
      refine Z.aload_n (k := 1) dX3_makeFactor_18 rfl ?_
      refine Y.getR (o := some ((c1 + 1))) 0 dX3_makeFactor_19 zl_X3_67 (congrArg Prod.fst hc1.1) (by decide) rfl hc1.2.1 hc1.2.2.2.1 ?_
      refine Z.iload_n (k := 3) dX3_makeFactor_22 rfl ?_
      obtain ⟨x_9, m_10, K⟩ := K
      refine Y.callV (g := zm_X5_has) (vs := [zI v3]) (st := []) dX3_makeFactor_23 ⟨zg_X5_has.1, zg_X5_has.2.1, zg_X5_has.2.2, by decide⟩ ⟨zk_X3_71, zv_X5_has⟩ (ci := 5) (congrArg Prod.fst hc1.2.2.1.1) rfl (hc1.2.2.1.2.2.2.2.1) rfl rfl (Nat.le_of_ble_eq_true rfl) m_10 (Or.inl rfl) ?_
      show Z zm_X3_makeFactor kz Q 26 [(0, zR 41), (1, zR c1), (2, zI v2), (3, zI v3), (4, zR r4)] [zI x_9] (d, G, E)
      refine Z.if_eq 34 dX3_makeFactor_26 rfl ⟨fun c_12 => ?_, fun c_12 => ?_⟩
      · replace K := K.1 c_12
        refine Z.iconst (n := 0) dX3_makeFactor_34 ⟨by decide, by decide⟩ ?_
        exact Z.iret (ty := .int) dX3_makeFactor_35 rfl rfl K
      · replace K := K.2 c_12
        refine Z.iload_n (k := 2) dX3_makeFactor_29 rfl ?_
        refine Z.iload_n (k := 3) dX3_makeFactor_30 rfl ?_
        refine Z.icmp_lt 36 dX3_makeFactor_31 rfl ⟨fun c_13 => ?_, fun c_13 => ?_⟩
        · replace K := K.1 c_13
          refine Z.aload_n (k := 0) dX3_makeFactor_36 rfl ?_
          refine Y.getR (o := some 20) 2 dX3_makeFactor_37 zl_X3_19 (rfl) (by decide) rfl (zX_0_10 hX).2.2 (zX_41_2 hX).1 ?_
          refine Z.aload_n (k := 1) dX3_makeFactor_40 rfl ?_
          refine Y.getR (o := some ((c1 + 1))) 0 dX3_makeFactor_41 zl_X3_67 (congrArg Prod.fst hc1.1) (by decide) rfl hc1.2.1 hc1.2.2.2.1 ?_
          obtain ⟨E_14, m_15, K⟩ := K
          refine Y.callV (g := zm_X9_layFirst) (vs := [zR ((c1 + 1))]) (st := []) dX3_makeFactor_44 ⟨zg_X9_layFirst.1, zg_X9_layFirst.2.1, zg_X9_layFirst.2.2, by decide⟩ ⟨zk_X3_85, zv_X9_layFirst⟩ (ci := 9) (rfl) rfl ((zX_0_6 hX).2.2) rfl rfl (Nat.le_of_ble_eq_true rfl) m_15 (Or.inl rfl) ?_
          show Z zm_X3_makeFactor kz Q 47 [(0, zR 41), (1, zR c1), (2, zI v2), (3, zI v3), (4, zR r4)] [] (d, G, E_14)
          refine Z.aload_n (k := 0) dX3_makeFactor_47 rfl ?_
          refine Y.getR (o := some 20) 2 dX3_makeFactor_48 zl_X3_19 (rfl) (by decide) rfl (zX_0_10 hX).2.2 (zX_41_2 hX).1 ?_
          refine Z.aload_n (k := 1) dX3_makeFactor_51 rfl ?_
          refine Y.getR (o := some ((c1 + 1))) 0 dX3_makeFactor_52 zl_X3_67 (congrArg Prod.fst hc1.1) (by decide) rfl hc1.2.1 hc1.2.2.2.1 ?_
          refine Y.getR (o := some ((c1 + 1) + 2)) 1 dX3_makeFactor_55 zl_X3_79 (congrArg Prod.fst hc1.2.2.1.1) (by decide) rfl hc1.2.2.1.2.2.2.2.1 hc1.2.2.1.2.2.2.2.2.2.2.2.2.1 ?_
          refine Z.iload_n (k := 2) dX3_makeFactor_58 rfl ?_
          obtain ⟨z_17, K⟩ := K
          refine Y.iald dX3_makeFactor_59 (hc1.2.2.1.2.2.1) (hc1.2.2.1.2.2.2.2.2.2.1) z_17 ?_
          refine Z.aload_n (k := 1) dX3_makeFactor_60 rfl ?_
          refine Y.getR (o := some ((c1 + 1))) 0 dX3_makeFactor_61 zl_X3_67 (congrArg Prod.fst hc1.1) (by decide) rfl hc1.2.1 hc1.2.2.2.1 ?_
          refine Y.getR (o := some ((c1 + 1) + 2)) 1 dX3_makeFactor_64 zl_X3_79 (congrArg Prod.fst hc1.2.2.1.1) (by decide) rfl hc1.2.2.1.2.2.2.2.1 hc1.2.2.1.2.2.2.2.2.2.2.2.2.1 ?_
          refine Z.iload_n (k := 3) dX3_makeFactor_67 rfl ?_
          obtain ⟨z_18, K⟩ := K
          refine Y.iald dX3_makeFactor_68 (hc1.2.2.1.2.2.1) (hc1.2.2.1.2.2.2.2.2.2.1) z_18 ?_
          obtain ⟨x_19, E_20, m_21, K⟩ := K
          refine Y.callV (g := zm_X9_widen) (vs := [zI ((E_14 ((c1 + 1) + 2) v2)), zI ((E_14 ((c1 + 1) + 2) v3))]) (st := []) dX3_makeFactor_69 ⟨zg_X9_widen.1, zg_X9_widen.2.1, zg_X9_widen.2.2, by decide⟩ ⟨zk_X3_94, zv_X9_widen⟩ (ci := 9) (rfl) rfl ((zX_0_6 hX).2.2) rfl rfl (Nat.le_of_ble_eq_true rfl) m_21 (Or.inl rfl) ?_
          show Z zm_X3_makeFactor kz Q 72 [(0, zR 41), (1, zR c1), (2, zI v2), (3, zI v3), (4, zR r4)] [zI x_19] (d, G, E_20)
          refine Z.if_ne 77 dX3_makeFactor_72 rfl ⟨fun c_23 => ?_, fun c_23 => ?_⟩
          · replace K := K.1 c_23
            refine Z.aload_n (k := 0) dX3_makeFactor_77 rfl ?_
            refine Z.aload_n (k := 1) dX3_makeFactor_78 rfl ?_
            refine Y.getR (o := some ((c1 + 1))) 0 dX3_makeFactor_79 zl_X3_67 (congrArg Prod.fst hc1.1) (by decide) rfl hc1.2.1 hc1.2.2.2.1 ?_
            refine Z.iload_n (k := 3) dX3_makeFactor_82 rfl ?_
            refine Z.iconst (n := 0) dX3_makeFactor_83 ⟨by decide, by decide⟩ ?_
            refine Z.aload (k := 4) dX3_makeFactor_84 rfl ?_
            obtain ⟨x_24, E_25, m_26, K⟩ := K
            refine Y.callV (g := zm_X3_writeAllBut) (vs := [zR ((c1 + 1)), zI v3, zI 0, zR r4]) (st := []) dX3_makeFactor_86 ⟨zg_X3_writeAllBut.1, zg_X3_writeAllBut.2.1, zg_X3_writeAllBut.2.2, by decide⟩ ⟨zk_X3_98, zv_X3_writeAllBut⟩ (ci := 3) (rfl) rfl ((zX_0_10 hX).2.2) rfl rfl (Nat.le_of_ble_eq_true rfl) m_26 (Or.inl rfl) ?_
            show Z zm_X3_makeFactor kz Q 89 [(0, zR 41), (1, zR c1), (2, zI v2), (3, zI v3), (4, zR r4)] [zI x_24] (d, G, E_25)
            refine Z.if_eq 96 dX3_makeFactor_89 rfl ⟨fun c_28 => ?_, fun c_28 => ?_⟩
            · replace K := K.1 c_28
              refine Z.iconst (n := 1) dX3_makeFactor_96 ⟨by decide, by decide⟩ ?_
              exact Z.iret (ty := .int) dX3_makeFactor_97 rfl rfl K
            · replace K := K.2 c_28
              refine Z.iconst (n := 2) dX3_makeFactor_92 ⟨by decide, by decide⟩ ?_
              refine Z.goto 97 dX3_makeFactor_93 rfl ?_
              exact Z.iret (ty := .int) dX3_makeFactor_97 rfl rfl K
          · replace K := K.2 c_23
            refine Z.iconst (n := 0) dX3_makeFactor_75 ⟨by decide, by decide⟩ ?_
            exact Z.iret (ty := .int) dX3_makeFactor_76 rfl rfl K
        · replace K := K.2 c_13
          refine Z.iconst (n := 0) dX3_makeFactor_34 ⟨by decide, by decide⟩ ?_
          exact Z.iret (ty := .int) dX3_makeFactor_35 rfl rfl K
set_option maxRecDepth 20000 in
theorem X3_makeDrop_0 {kz : Nat × Nat} {Q : Option zV → zH → Prop} {d : List Nat} {G : Nat → Int → Option Nat} {E : Nat → Int → Int} {c1 : Nat} {r2 : Nat} (hX : zK zXt d G) (hc1 : zCk d G c1) (hr2 : zRk d G r2) (K : ∃ x_1, zM zm_X5_isEqual [zR ((c1 + 1)), zI ((E c1 9))] (d, G, E) (some (zI x_1)) (d, G, E) ∧ (x_1 ≠ 0 → ((0 : Int) ≤ (E c1 9) ∧ (E c1 9) < (7 : Int)) ∧ zin ((E ((c1 + 1) + 2) (E c1 9)) + 1) ∧ ∃ E_7, zM zm_X9_layFirst [zR 20, zR ((c1 + 1))] (d, G, E) none (d, G, E_7) ∧ ∃ x_10, zM zm_X8_after [zR 1, zR ((c1 + 1) + 1), zI (((E ((c1 + 1) + 2) (E c1 9)) + 1))] (d, G, E_7) (some (zI x_10)) (d, G, E_7) ∧ ∃ x_13 E_14, zM zm_X9_widen [zR 20, zI (((E ((c1 + 1) + 2) (E c1 9)) + 1)), zI x_10] (d, G, E_7) (some (zI x_13)) (d, G, E_14) ∧ (x_13 ≠ 0 → ∃ x_18 E_19, zM zm_X3_writeAllBut [zR 41, zR ((c1 + 1)), zI ((E_14 c1 9)), zI 0, zR r2] (d, G, E_14) (some (zI x_18)) (d, G, E_19) ∧ (x_18 = 0 → Q (some (zI 1)) (d, G, E_19)) ∧ (¬ (x_18 = 0) → Q (some (zI 2)) (d, G, E_19))) ∧ (¬ (x_13 ≠ 0) → Q (some (zI 0)) (d, G, E_14))) ∧ (¬ (x_1 ≠ 0) → Q (some (zI 0)) (d, G, E))) : Z zm_X3_makeDrop kz Q 0 [(0, zR 41), (1, zR c1), (2, zR r2)] [] (d, G, E) := by
  refine Z.aload_n (k := 1) dX3_makeDrop_0 rfl ?_
  refine Y.getR (o := some ((c1 + 1))) 0 dX3_makeDrop_1 zl_X3_67 (congrArg Prod.fst hc1.1) (by decide) rfl hc1.2.1 hc1.2.2.2.1 ?_
  refine Z.aload_n (k := 1) dX3_makeDrop_4 rfl ?_
  refine Y.getI 9 dX3_makeDrop_5 zl_X3_75 (congrArg Prod.fst hc1.1) (by decide) rfl hc1.2.1 ?_
  obtain ⟨x_1, m_2, K⟩ := K
  refine Y.callV (g := zm_X5_isEqual) (vs := [zI ((E c1 9))]) (st := []) dX3_makeDrop_8 ⟨zg_X5_isEqual.1, zg_X5_isEqual.2.1, zg_X5_isEqual.2.2, by decide⟩ ⟨zk_X3_102, zv_X5_isEqual⟩ (ci := 5) (congrArg Prod.fst hc1.2.2.1.1) rfl (hc1.2.2.1.2.2.2.2.1) rfl rfl (Nat.le_of_ble_eq_true rfl) m_2 (Or.inl rfl) ?_
  show Z zm_X3_makeDrop kz Q 11 [(0, zR 41), (1, zR c1), (2, zR r2)] [zI x_1] (d, G, E)
  refine Z.if_ne 16 dX3_makeDrop_11 rfl ⟨fun c_4 => ?_, fun c_4 => ?_⟩
  · replace K := K.1 c_4
    refine Z.aload_n (k := 1) dX3_makeDrop_16 rfl ?_
    refine Y.getR (o := some ((c1 + 1))) 0 dX3_makeDrop_17 zl_X3_67 (congrArg Prod.fst hc1.1) (by decide) rfl hc1.2.1 hc1.2.2.2.1 ?_
    refine Y.getR (o := some ((c1 + 1) + 2)) 1 dX3_makeDrop_20 zl_X3_79 (congrArg Prod.fst hc1.2.2.1.1) (by decide) rfl hc1.2.2.1.2.2.2.2.1 hc1.2.2.1.2.2.2.2.2.2.2.2.2.1 ?_
    refine Z.aload_n (k := 1) dX3_makeDrop_23 rfl ?_
    refine Y.getI 9 dX3_makeDrop_24 zl_X3_75 (congrArg Prod.fst hc1.1) (by decide) rfl hc1.2.1 ?_
    obtain ⟨z_5, K⟩ := K
    refine Y.iald dX3_makeDrop_27 (hc1.2.2.1.2.2.1) (hc1.2.2.1.2.2.2.2.2.2.1) z_5 ?_
    refine Z.iconst (n := 1) dX3_makeDrop_28 ⟨by decide, by decide⟩ ?_
    obtain ⟨z_6, K⟩ := K
    refine Z.iadd dX3_makeDrop_29 z_6 ?_
    refine Z.istore_n (ls' := [(3, zI (((E ((c1 + 1) + 2) (E c1 9)) + 1))), (0, zR 41), (1, zR c1), (2, zR r2)]) dX3_makeDrop_30 (by decide) rfl ?_
    refine Z.aload_n (k := 1) dX3_makeDrop_31 rfl ?_
    refine Y.getR (o := some 20) 2 dX3_makeDrop_32 zl_X3_19 (rfl) (by decide) rfl (zX_0_10 hX).2.2 (zX_41_2 hX).1 ?_
    refine Z.aload_n (k := 2) dX3_makeDrop_35 rfl ?_
    refine Y.getR (o := some ((c1 + 1))) 0 dX3_makeDrop_36 zl_X3_67 (congrArg Prod.fst hc1.1) (by decide) rfl hc1.2.1 hc1.2.2.2.1 ?_
    obtain ⟨E_7, m_8, K⟩ := K
    refine Y.callV (g := zm_X9_layFirst) (vs := [zR ((c1 + 1))]) (st := []) dX3_makeDrop_39 ⟨zg_X9_layFirst.1, zg_X9_layFirst.2.1, zg_X9_layFirst.2.2, by decide⟩ ⟨zk_X3_85, zv_X9_layFirst⟩ (ci := 9) (rfl) rfl ((zX_0_6 hX).2.2) rfl rfl (Nat.le_of_ble_eq_true rfl) m_8 (Or.inl rfl) ?_
    show Z zm_X3_makeDrop kz Q 42 [(3, zI (((E ((c1 + 1) + 2) (E c1 9)) + 1))), (0, zR 41), (1, zR c1), (2, zR r2)] [] (d, G, E_7)
    refine Z.aload_n (k := 1) dX3_makeDrop_42 rfl ?_
    refine Y.getR (o := some 20) 2 dX3_makeDrop_43 zl_X3_19 (rfl) (by decide) rfl (zX_0_10 hX).2.2 (zX_41_2 hX).1 ?_
    refine Z.iload_n (k := 0) dX3_makeDrop_46 rfl ?_
    refine Z.aload_n (k := 1) dX3_makeDrop_47 rfl ?_
    refine Y.getR (o := some 1) 0 dX3_makeDrop_48 zl_X3_9 (rfl) (by decide) rfl (zX_0_10 hX).2.2 (zX_41_0 hX).1 ?_
    refine Z.aload_n (k := 2) dX3_makeDrop_51 rfl ?_
    refine Y.getR (o := some ((c1 + 1))) 0 dX3_makeDrop_52 zl_X3_67 (congrArg Prod.fst hc1.1) (by decide) rfl hc1.2.1 hc1.2.2.2.1 ?_
    refine Y.getR (o := some ((c1 + 1) + 1)) 0 dX3_makeDrop_55 zl_X3_82 (congrArg Prod.fst hc1.2.2.1.1) (by decide) rfl hc1.2.2.1.2.2.2.2.1 hc1.2.2.1.2.2.2.2.2.2.2.2.1 ?_
    refine Z.iload_n (k := 0) dX3_makeDrop_58 rfl ?_
    obtain ⟨x_10, m_11, K⟩ := K
    refine Y.callV (g := zm_X8_after) (vs := [zR ((c1 + 1) + 1), zI (((E ((c1 + 1) + 2) (E c1 9)) + 1))]) (st := [zI (((E ((c1 + 1) + 2) (E c1 9)) + 1)), zR 20]) dX3_makeDrop_59 ⟨zg_X8_after.1, zg_X8_after.2.1, zg_X8_after.2.2, by decide⟩ ⟨zk_X3_105, zv_X8_after⟩ (ci := 8) (rfl) rfl ((zX_0_0 hX).2.2) rfl rfl (Nat.le_of_ble_eq_true rfl) m_11 (Or.inl rfl) ?_
    show Z zm_X3_makeDrop kz Q 62 [(3, zI (((E ((c1 + 1) + 2) (E c1 9)) + 1))), (0, zR 41), (1, zR c1), (2, zR r2)] [zI x_10, zI (((E ((c1 + 1) + 2) (E c1 9)) + 1)), zR 20] (d, G, E_7)
    obtain ⟨x_13, E_14, m_15, K⟩ := K
    refine Y.callV (g := zm_X9_widen) (vs := [zI (((E ((c1 + 1) + 2) (E c1 9)) + 1)), zI x_10]) (st := []) dX3_makeDrop_62 ⟨zg_X9_widen.1, zg_X9_widen.2.1, zg_X9_widen.2.2, by decide⟩ ⟨zk_X3_94, zv_X9_widen⟩ (ci := 9) (rfl) rfl ((zX_0_6 hX).2.2) rfl rfl (Nat.le_of_ble_eq_true rfl) m_15 (Or.inl rfl) ?_
    show Z zm_X3_makeDrop kz Q 65 [(3, zI (((E ((c1 + 1) + 2) (E c1 9)) + 1))), (0, zR 41), (1, zR c1), (2, zR r2)] [zI x_13] (d, G, E_14)
    refine Z.if_ne 70 dX3_makeDrop_65 rfl ⟨fun c_17 => ?_, fun c_17 => ?_⟩
    · replace K := K.1 c_17
      refine Z.aload_n (k := 1) dX3_makeDrop_70 rfl ?_
      refine Z.aload_n (k := 2) dX3_makeDrop_71 rfl ?_
      refine Y.getR (o := some ((c1 + 1))) 0 dX3_makeDrop_72 zl_X3_67 (congrArg Prod.fst hc1.1) (by decide) rfl hc1.2.1 hc1.2.2.2.1 ?_
      refine Z.aload_n (k := 2) dX3_makeDrop_75 rfl ?_
      refine Y.getI 9 dX3_makeDrop_76 zl_X3_75 (congrArg Prod.fst hc1.1) (by decide) rfl hc1.2.1 ?_
      refine Z.iconst (n := 0) dX3_makeDrop_79 ⟨by decide, by decide⟩ ?_
      refine Z.aload_n (k := 3) dX3_makeDrop_80 rfl ?_
      obtain ⟨x_18, E_19, m_20, K⟩ := K
      refine Y.callV (g := zm_X3_writeAllBut) (vs := [zR ((c1 + 1)), zI ((E_14 c1 9)), zI 0, zR r2]) (st := []) dX3_makeDrop_81 ⟨zg_X3_writeAllBut.1, zg_X3_writeAllBut.2.1, zg_X3_writeAllBut.2.2, by decide⟩ ⟨zk_X3_98, zv_X3_writeAllBut⟩ (ci := 3) (rfl) rfl ((zX_0_10 hX).2.2) rfl rfl (Nat.le_of_ble_eq_true rfl) m_20 (Or.inl rfl) ?_
      show Z zm_X3_makeDrop kz Q 84 [(3, zI (((E ((c1 + 1) + 2) (E c1 9)) + 1))), (0, zR 41), (1, zR c1), (2, zR r2)] [zI x_18] (d, G, E_19)
      refine Z.if_eq 91 dX3_makeDrop_84 rfl ⟨fun c_22 => ?_, fun c_22 => ?_⟩
      · replace K := K.1 c_22
        refine Z.iconst (n := 1) dX3_makeDrop_91 ⟨by decide, by decide⟩ ?_
        exact Z.iret (ty := .int) dX3_makeDrop_92 rfl rfl K
      · replace K := K.2 c_22
        refine Z.iconst (n := 2) dX3_makeDrop_87 ⟨by decide, by decide⟩ ?_
        refine Z.goto 92 dX3_makeDrop_88 rfl ?_
        exact Z.iret (ty := .int) dX3_makeDrop_92 rfl rfl K
    · replace K := K.2 c_17
      refine Z.iconst (n := 0) dX3_makeDrop_68 ⟨by decide, by decide⟩ ?_
      exact Z.iret (ty := .int) dX3_makeDrop_69 rfl rfl K
  · replace K := K.2 c_4
    refine Z.iconst (n := 0) dX3_makeDrop_14 ⟨by decide, by decide⟩ ?_
    exact Z.iret (ty := .int) dX3_makeDrop_15 rfl rfl K
set_option maxRecDepth 20000 in
theorem X3_sidesUnderIt_0 {kz : Nat × Nat} {Q : Option zV → zH → Prop} {d : List Nat} {G : Nat → Int → Option Nat} {E : Nat → Int → Int} {v1 : Int} {v2 : Int} {v3 : Int} {v4 : Int} (hX : zK zXt d G) (K : ∀ E_1, E_1 = zuE E 20 14 0 → ∃ x_2 E_3, zM zm_X9_write [zR 20, zI v1, zI v2, zI 30] (d, G, E_1) (some (zI x_2)) (d, G, E_3) ∧ (x_2 ≠ 0 → zin ((E_3 20 14) + 30) ∧ ∃ x_8 E_9, zM zm_X9_write [zR 20, zI v3, zI v4, zI (((E_3 20 14) + 30))] (d, G, E_3) (some (zI x_8)) (d, G, E_9) ∧ (x_8 ≠ 0 → ∃ x_13 E_14, zM zm_X6_compare [zR 18, zR 29, zI ((E_3 20 14)), zR 29, zI 0] (d, G, E_9) (some (zI x_13)) (d, G, E_14) ∧ (x_13 ≠ 1 → Q (some (zI 2)) (d, G, E_14)) ∧ (¬ (x_13 ≠ 1) → Q (some (zI 0)) (d, G, E_14))) ∧ (¬ (x_8 ≠ 0) → Q (some (zI 1)) (d, G, E_9))) ∧ (¬ (x_2 ≠ 0) → Q (some (zI 1)) (d, G, E_3))) : Z zm_X3_sidesUnderIt kz Q 0 [(0, zR 41), (1, zI v1), (2, zI v2), (3, zI v3), (4, zI v4)] [] (d, G, E) := by
  refine Z.aload_n (k := 0) dX3_sidesUnderIt_0 rfl ?_
  refine Y.getR (o := some 20) 2 dX3_sidesUnderIt_1 zl_X3_19 (rfl) (by decide) rfl (zX_0_10 hX).2.2 (zX_41_2 hX).1 ?_
  refine Z.iconst (n := 0) dX3_sidesUnderIt_4 ⟨by decide, by decide⟩ ?_
  refine Y.putI 14 dX3_sidesUnderIt_5 zw_X3_123 (fun q => by cases q) (rfl) rfl (zX_0_6 hX).2.2 (Or.inl rfl) ?_
  generalize eE_1 : zuE E 20 14 0 = E_1
  replace K := K E_1 eE_1.symm
  refine Z.aload_n (k := 0) dX3_sidesUnderIt_8 rfl ?_
  refine Y.getR (o := some 20) 2 dX3_sidesUnderIt_9 zl_X3_19 (rfl) (by decide) rfl (zX_0_10 hX).2.2 (zX_41_2 hX).1 ?_
  refine Z.iload_n (k := 1) dX3_sidesUnderIt_12 rfl ?_
  refine Z.iload_n (k := 2) dX3_sidesUnderIt_13 rfl ?_
  refine Z.bipush (n := 30) dX3_sidesUnderIt_14 ⟨by decide, by decide⟩ (by decide) ?_
  obtain ⟨x_2, E_3, m_4, K⟩ := K
  refine Y.callV (g := zm_X9_write) (vs := [zI v1, zI v2, zI 30]) (st := []) dX3_sidesUnderIt_16 ⟨zg_X9_write.1, zg_X9_write.2.1, zg_X9_write.2.2, by decide⟩ ⟨zk_X3_125, zv_X9_write⟩ (ci := 9) (rfl) rfl ((zX_0_6 hX).2.2) rfl rfl (Nat.le_of_ble_eq_true rfl) m_4 (Or.inl rfl) ?_
  show Z zm_X3_sidesUnderIt kz Q 19 [(0, zR 41), (1, zI v1), (2, zI v2), (3, zI v3), (4, zI v4)] [zI x_2] (d, G, E_3)
  refine Z.if_ne 24 dX3_sidesUnderIt_19 rfl ⟨fun c_6 => ?_, fun c_6 => ?_⟩
  · replace K := K.1 c_6
    refine Z.aload_n (k := 0) dX3_sidesUnderIt_24 rfl ?_
    refine Y.getR (o := some 20) 2 dX3_sidesUnderIt_25 zl_X3_19 (rfl) (by decide) rfl (zX_0_10 hX).2.2 (zX_41_2 hX).1 ?_
    refine Y.getI 14 dX3_sidesUnderIt_28 zl_X3_123 (rfl) (by decide) rfl (zX_0_6 hX).2.2 ?_
    refine Z.istore (ls' := [(5, zI ((E_3 20 14))), (0, zR 41), (1, zI v1), (2, zI v2), (3, zI v3), (4, zI v4)]) dX3_sidesUnderIt_31 (by decide) rfl ?_
    refine Z.aload_n (k := 1) dX3_sidesUnderIt_33 rfl ?_
    refine Y.getR (o := some 20) 2 dX3_sidesUnderIt_34 zl_X3_19 (rfl) (by decide) rfl (zX_0_10 hX).2.2 (zX_41_2 hX).1 ?_
    refine Z.iload_n (k := 4) dX3_sidesUnderIt_37 rfl ?_
    refine Z.iload (k := 5) dX3_sidesUnderIt_38 rfl ?_
    refine Z.iload (k := 0) dX3_sidesUnderIt_40 rfl ?_
    refine Z.bipush (n := 30) dX3_sidesUnderIt_42 ⟨by decide, by decide⟩ (by decide) ?_
    obtain ⟨z_7, K⟩ := K
    refine Z.iadd dX3_sidesUnderIt_44 z_7 ?_
    obtain ⟨x_8, E_9, m_10, K⟩ := K
    refine Y.callV (g := zm_X9_write) (vs := [zI v3, zI v4, zI (((E_3 20 14) + 30))]) (st := []) dX3_sidesUnderIt_45 ⟨zg_X9_write.1, zg_X9_write.2.1, zg_X9_write.2.2, by decide⟩ ⟨zk_X3_125, zv_X9_write⟩ (ci := 9) (rfl) rfl ((zX_0_6 hX).2.2) rfl rfl (Nat.le_of_ble_eq_true rfl) m_10 (Or.inl rfl) ?_
    show Z zm_X3_sidesUnderIt kz Q 48 [(5, zI ((E_3 20 14))), (0, zR 41), (1, zI v1), (2, zI v2), (3, zI v3), (4, zI v4)] [zI x_8] (d, G, E_9)
    refine Z.if_ne 53 dX3_sidesUnderIt_48 rfl ⟨fun c_12 => ?_, fun c_12 => ?_⟩
    · replace K := K.1 c_12
      refine Z.aload_n (k := 1) dX3_sidesUnderIt_53 rfl ?_
      refine Y.getR (o := some 18) 1 dX3_sidesUnderIt_54 zl_X3_15 (rfl) (by decide) rfl (zX_0_10 hX).2.2 (zX_41_1 hX).1 ?_
      refine Z.aload_n (k := 1) dX3_sidesUnderIt_57 rfl ?_
      refine Y.getR (o := some 20) 2 dX3_sidesUnderIt_58 zl_X3_19 (rfl) (by decide) rfl (zX_0_10 hX).2.2 (zX_41_2 hX).1 ?_
      refine Y.getR (o := some 29) 13 dX3_sidesUnderIt_61 zl_X3_129 (rfl) (by decide) rfl (zX_0_6 hX).2.2 (zX_20_13 hX).1 ?_
      refine Z.iload (k := 0) dX3_sidesUnderIt_64 rfl ?_
      refine Z.aload_n (k := 1) dX3_sidesUnderIt_66 rfl ?_
      refine Y.getR (o := some 20) 2 dX3_sidesUnderIt_67 zl_X3_19 (rfl) (by decide) rfl (zX_0_10 hX).2.2 (zX_41_2 hX).1 ?_
      refine Y.getR (o := some 29) 13 dX3_sidesUnderIt_70 zl_X3_129 (rfl) (by decide) rfl (zX_0_6 hX).2.2 (zX_20_13 hX).1 ?_
      refine Z.iconst (n := 0) dX3_sidesUnderIt_73 ⟨by decide, by decide⟩ ?_
      obtain ⟨x_13, E_14, m_15, K⟩ := K
      refine Y.callV (g := zm_X6_compare) (vs := [zR 29, zI ((E_3 20 14)), zR 29, zI 0]) (st := []) dX3_sidesUnderIt_74 ⟨zg_X6_compare.1, zg_X6_compare.2.1, zg_X6_compare.2.2, by decide⟩ ⟨zk_X3_132, zv_X6_compare⟩ (ci := 6) (rfl) rfl ((zX_0_5 hX).2.2) rfl rfl (Nat.le_of_ble_eq_true rfl) m_15 (Or.inl rfl) ?_
      show Z zm_X3_sidesUnderIt kz Q 77 [(5, zI ((E_3 20 14))), (0, zR 41), (1, zI v1), (2, zI v2), (3, zI v3), (4, zI v4)] [zI x_13] (d, G, E_14)
      refine Z.iconst (n := 1) dX3_sidesUnderIt_77 ⟨by decide, by decide⟩ ?_
      refine Z.icmp_ne 85 dX3_sidesUnderIt_78 rfl ⟨fun c_17 => ?_, fun c_17 => ?_⟩
      · replace K := K.1 c_17
        refine Z.iconst (n := 2) dX3_sidesUnderIt_85 ⟨by decide, by decide⟩ ?_
        exact Z.iret (ty := .int) dX3_sidesUnderIt_86 rfl rfl K
      · replace K := K.2 c_17
        refine Z.iconst (n := 0) dX3_sidesUnderIt_81 ⟨by decide, by decide⟩ ?_
        refine Z.goto 86 dX3_sidesUnderIt_82 rfl ?_
        exact Z.iret (ty := .int) dX3_sidesUnderIt_86 rfl rfl K
    · replace K := K.2 c_12
      refine Z.iconst (n := 1) dX3_sidesUnderIt_51 ⟨by decide, by decide⟩ ?_
      exact Z.iret (ty := .int) dX3_sidesUnderIt_52 rfl rfl K
  · replace K := K.2 c_6
    refine Z.iconst (n := 1) dX3_sidesUnderIt_22 ⟨by decide, by decide⟩ ?_
    exact Z.iret (ty := .int) dX3_sidesUnderIt_23 rfl rfl K
set_option maxRecDepth 20000 in
theorem X3_writeTurned_0 {kz : Nat × Nat} {Q : Option zV → zH → Prop} {d : List Nat} {G : Nat → Int → Option Nat} {E : Nat → Int → Int} {r1 : Nat} {v2 : Int} {v3 : Int} {v4 : Int} {v5 : Int} {r6 : Nat} (hX : zK zXt d G) (hr1 : zRk d G r1) (hr6 : zRk d G r6) (K : ∃ x_1, zM zm_X8_after [zR 1, zR (r1 + 1), zI v3] (d, G, E) (some (zI x_1)) (d, G, E) ∧ zin (180 + x_1) ∧ Z zm_X3_writeTurned kz Q 25 [(0, zR 41), (1, zR r1), (2, zI v2), (3, zI v3), (4, zI v4), (5, zI v5), (6, zR r6), (7, zI 180), (8, zI ((180 + x_1))), (9, zI 0)] [] (d, G, E)) : Z zm_X3_writeTurned kz Q 0 [(0, zR 41), (1, zR r1), (2, zI v2), (3, zI v3), (4, zI v4), (5, zI v5), (6, zR r6)] [] (d, G, E) := by
  refine Z.sipush (n := 180) dX3_writeTurned_0 ⟨by decide, by decide⟩ (by decide) ?_
  refine Z.istore (ls' := [(7, zI 180), (0, zR 41), (1, zR r1), (2, zI v2), (3, zI v3), (4, zI v4), (5, zI v5), (6, zR r6)]) dX3_writeTurned_3 (by decide) rfl ?_
  refine Z.iload (k := 0) dX3_writeTurned_5 rfl ?_
  refine Z.aload_n (k := 1) dX3_writeTurned_7 rfl ?_
  refine Y.getR (o := some 1) 0 dX3_writeTurned_8 zl_X3_9 (rfl) (by decide) rfl (zX_0_10 hX).2.2 (zX_41_0 hX).1 ?_
  refine Z.aload_n (k := 2) dX3_writeTurned_11 rfl ?_
  refine Y.getR (o := some (r1 + 1)) 0 dX3_writeTurned_12 zl_X3_82 (congrArg Prod.fst hr1.1) (by decide) rfl hr1.2.2.2.2.1 hr1.2.2.2.2.2.2.2.2.1 ?_
  refine Z.iload_n (k := 4) dX3_writeTurned_15 rfl ?_
  obtain ⟨x_1, m_2, K⟩ := K
  refine Y.callV (g := zm_X8_after) (vs := [zR (r1 + 1), zI v3]) (st := [zI 180]) dX3_writeTurned_16 ⟨zg_X8_after.1, zg_X8_after.2.1, zg_X8_after.2.2, by decide⟩ ⟨zk_X3_105, zv_X8_after⟩ (ci := 8) (rfl) rfl ((zX_0_0 hX).2.2) rfl rfl (Nat.le_of_ble_eq_true rfl) m_2 (Or.inl rfl) ?_
  show Z zm_X3_writeTurned kz Q 19 [(7, zI 180), (0, zR 41), (1, zR r1), (2, zI v2), (3, zI v3), (4, zI v4), (5, zI v5), (6, zR r6)] [zI x_1, zI 180] (d, G, E)
  obtain ⟨z_4, K⟩ := K
  refine Z.iadd dX3_writeTurned_19 z_4 ?_
  refine Z.istore (ls' := [(8, zI ((180 + x_1))), (7, zI 180), (0, zR 41), (1, zR r1), (2, zI v2), (3, zI v3), (4, zI v4), (5, zI v5), (6, zR r6)]) dX3_writeTurned_20 (by decide) rfl ?_
  refine Z.iconst (n := 0) dX3_writeTurned_22 ⟨by decide, by decide⟩ ?_
  refine Z.istore (ls' := [(9, zI 0), (8, zI ((180 + x_1))), (7, zI 180), (0, zR 41), (1, zR r1), (2, zI v2), (3, zI v3), (4, zI v4), (5, zI v5), (6, zR r6)]) dX3_writeTurned_23 (by decide) rfl ?_
  refine Z.pick (ls' := [(0, zR 41), (1, zR r1), (2, zI v2), (3, zI v3), (4, zI v4), (5, zI v5), (6, zR r6), (7, zI 180), (8, zI ((180 + x_1))), (9, zI 0)]) [3, 4, 5, 6, 7, 8, 9, 2, 1, 0] rfl ?_
  exact K
set_option maxRecDepth 20000 in
theorem X3_writeTurned_25 {kz : Nat × Nat} {Q : Option zV → zH → Prop} {d : List Nat} {G : Nat → Int → Option Nat} {E : Nat → Int → Int} {r1 : Nat} {v2 : Int} {v3 : Int} {v4 : Int} {v5 : Int} {r6 : Nat} {v7 : Int} {v8 : Int} {v9 : Int} (hX : zK zXt d G) (hr1 : zRk d G r1) (hr6 : zRk d G r6) (K : ((E r1 3) ≤ v9 → Q (some (zI 1)) (d, G, E)) ∧ (¬ ((E r1 3) ≤ v9) → ((0 : Int) ≤ v9 ∧ v9 < (7 : Int)) ∧ zin (v7 + (E (r1 + 2) v9)) ∧ zin (v9 + 1) ∧ ((0 : Int) ≤ (v9 + 1) ∧ (v9 + 1) < (7 : Int)) ∧ zin (v7 + (E (r1 + 2) (v9 + 1))) ∧ ∀ E_7, E_7 = zuE E 20 14 0 → (v9 = v2 → zin (v7 + v3) ∧ ∃ x_10 E_11, zM zm_X9_write [zR 20, zI ((v7 + (E (r1 + 2) v9))), zI ((v7 + v3)), zI 30] (d, G, E_7) (some (zI x_10)) (d, G, E_11) ∧ (x_10 = 0 → Z zm_X3_writeTurned kz Q 144 [(0, zR 41), (1, zR r1), (2, zI v2), (3, zI v3), (4, zI v4), (5, zI v5), (6, zR r6), (7, zI v7), (8, zI v8), (9, zI v9)] [] (d, G, E_11)) ∧ (¬ (x_10 = 0) → ∃ x_15 E_16, zM zm_X9_write [zR 20, zI v4, zI v5, zI 30] (d, G, E_11) (some (zI x_15)) (d, G, E_16) ∧ (x_15 = 0 → Z zm_X3_writeTurned kz Q 144 [(0, zR 41), (1, zR r1), (2, zI v2), (3, zI v3), (4, zI v4), (5, zI v5), (6, zR r6), (7, zI v7), (8, zI v8), (9, zI v9)] [] (d, G, E_16)) ∧ (¬ (x_15 = 0) → ∃ x_20 E_21, zM zm_X9_write [zR 20, zI v8, zI ((v7 + (E (r1 + 2) (v9 + 1)))), zI 30] (d, G, E_16) (some (zI x_20)) (d, G, E_21) ∧ (x_20 = 0 → Z zm_X3_writeTurned kz Q 144 [(0, zR 41), (1, zR r1), (2, zI v2), (3, zI v3), (4, zI v4), (5, zI v5), (6, zR r6), (7, zI v7), (8, zI v8), (9, zI v9)] [] (d, G, E_21)) ∧ (¬ (x_20 = 0) → ((0 : Int) ≤ v9 ∧ v9 < (6 : Int)) ∧ ∃ x_27 E_28, zM zm_X5_take [zR r6, zI ((E_21 (r1 + 3) v9)), zR 29, zI 0, zI ((E_21 20 14))] (d, G, E_21) (some (zI x_27)) (d, G, E_28) ∧ (x_27 ≠ 0 → zin (v9 + 1) ∧ Z zm_X3_writeTurned kz Q 25 [(0, zR 41), (1, zR r1), (2, zI v2), (3, zI v3), (4, zI v4), (5, zI v5), (6, zR r6), (7, zI v7), (8, zI v8), (9, zI ((v9 + 1)))] [] (d, G, E_28)) ∧ (¬ (x_27 ≠ 0) → Q (some (zI 0)) (d, G, E_28)))))) ∧ (¬ (v9 = v2) → ∃ x_33 E_34, zM zm_X9_write [zR 20, zI ((v7 + (E (r1 + 2) v9))), zI ((v7 + (E (r1 + 2) (v9 + 1)))), zI 30] (d, G, E_7) (some (zI x_33)) (d, G, E_34) ∧ (x_33 = 0 → Q (some (zI 0)) (d, G, E_34)) ∧ (¬ (x_33 = 0) → ((0 : Int) ≤ v9 ∧ v9 < (6 : Int)) ∧ ∃ x_39 E_40, zM zm_X5_take [zR r6, zI ((E_34 (r1 + 3) v9)), zR 29, zI 0, zI ((E_34 20 14))] (d, G, E_34) (some (zI x_39)) (d, G, E_40) ∧ (x_39 ≠ 0 → zin (v9 + 1) ∧ Z zm_X3_writeTurned kz Q 25 [(0, zR 41), (1, zR r1), (2, zI v2), (3, zI v3), (4, zI v4), (5, zI v5), (6, zR r6), (7, zI v7), (8, zI v8), (9, zI ((v9 + 1)))] [] (d, G, E_40)) ∧ (¬ (x_39 ≠ 0) → Q (some (zI 0)) (d, G, E_40)))))) : Z zm_X3_writeTurned kz Q 25 [(0, zR 41), (1, zR r1), (2, zI v2), (3, zI v3), (4, zI v4), (5, zI v5), (6, zR r6), (7, zI v7), (8, zI v8), (9, zI v9)] [] (d, G, E) := by
  refine Z.iload (k := 9) dX3_writeTurned_25 rfl ?_
  refine Z.aload_n (k := 1) dX3_writeTurned_27 rfl ?_
  refine Y.getI 3 dX3_writeTurned_28 zl_X3_138 (congrArg Prod.fst hr1.1) (by decide) rfl hr1.2.2.2.2.1 ?_
  refine Z.icmp_ge 190 dX3_writeTurned_31 rfl ⟨fun c_1 => ?_, fun c_1 => ?_⟩
  · replace K := K.1 c_1
    refine Z.iconst (n := 1) dX3_writeTurned_190 ⟨by decide, by decide⟩ ?_
    exact Z.iret (ty := .boolean) dX3_writeTurned_191 rfl rfl K
  · replace K := K.2 c_1
    refine Z.iload (k := 7) dX3_writeTurned_34 rfl ?_
    refine Z.aload_n (k := 1) dX3_writeTurned_36 rfl ?_
    refine Y.getR (o := some (r1 + 2)) 1 dX3_writeTurned_37 zl_X3_79 (congrArg Prod.fst hr1.1) (by decide) rfl hr1.2.2.2.2.1 hr1.2.2.2.2.2.2.2.2.2.1 ?_
    refine Z.iload (k := 9) dX3_writeTurned_40 rfl ?_
    obtain ⟨z_2, K⟩ := K
    refine Y.iald dX3_writeTurned_42 (hr1.2.2.1) (hr1.2.2.2.2.2.2.1) z_2 ?_
    obtain ⟨z_3, K⟩ := K
    refine Z.iadd dX3_writeTurned_43 z_3 ?_
    refine Z.istore (ls' := [(10, zI ((v7 + (E (r1 + 2) v9)))), (0, zR 41), (1, zR r1), (2, zI v2), (3, zI v3), (4, zI v4), (5, zI v5), (6, zR r6), (7, zI v7), (8, zI v8), (9, zI v9)]) dX3_writeTurned_44 (by decide) rfl ?_
    refine Z.iload (k := 8) dX3_writeTurned_46 rfl ?_
    refine Z.aload_n (k := 2) dX3_writeTurned_48 rfl ?_
    refine Y.getR (o := some (r1 + 2)) 1 dX3_writeTurned_49 zl_X3_79 (congrArg Prod.fst hr1.1) (by decide) rfl hr1.2.2.2.2.1 hr1.2.2.2.2.2.2.2.2.2.1 ?_
    refine Z.iload (k := 10) dX3_writeTurned_52 rfl ?_
    refine Z.iconst (n := 1) dX3_writeTurned_54 ⟨by decide, by decide⟩ ?_
    obtain ⟨z_4, K⟩ := K
    refine Z.iadd dX3_writeTurned_55 z_4 ?_
    obtain ⟨z_5, K⟩ := K
    refine Y.iald dX3_writeTurned_56 (hr1.2.2.1) (hr1.2.2.2.2.2.2.1) z_5 ?_
    obtain ⟨z_6, K⟩ := K
    refine Z.iadd dX3_writeTurned_57 z_6 ?_
    refine Z.istore (ls' := [(11, zI ((v7 + (E (r1 + 2) (v9 + 1))))), (10, zI ((v7 + (E (r1 + 2) v9)))), (0, zR 41), (1, zR r1), (2, zI v2), (3, zI v3), (4, zI v4), (5, zI v5), (6, zR r6), (7, zI v7), (8, zI v8), (9, zI v9)]) dX3_writeTurned_58 (by decide) rfl ?_
    refine Z.aload_n (k := 2) dX3_writeTurned_60 rfl ?_
    refine Y.getR (o := some 20) 2 dX3_writeTurned_61 zl_X3_19 (rfl) (by decide) rfl (zX_0_10 hX).2.2 (zX_41_2 hX).1 ?_
    refine Z.iconst (n := 0) dX3_writeTurned_64 ⟨by decide, by decide⟩ ?_
    refine Y.putI 14 dX3_writeTurned_65 zw_X3_123 (fun q => by cases q) (rfl) rfl (zX_0_6 hX).2.2 (Or.inl rfl) ?_
    generalize eE_7 : zuE E 20 14 0 = E_7
    replace K := K E_7 eE_7.symm
    refine Z.iload (k := 11) dX3_writeTurned_68 rfl ?_
    refine Z.iload_n (k := 4) dX3_writeTurned_70 rfl ?_
    refine Z.icmp_eq 90 dX3_writeTurned_71 rfl ⟨fun c_8 => ?_, fun c_8 => ?_⟩
    · replace K := K.1 c_8
      refine Z.aload_n (k := 2) dX3_writeTurned_90 rfl ?_
      refine Y.getR (o := some 20) 2 dX3_writeTurned_91 zl_X3_19 (rfl) (by decide) rfl (zX_0_10 hX).2.2 (zX_41_2 hX).1 ?_
      refine Z.iload (k := 1) dX3_writeTurned_94 rfl ?_
      refine Z.iload (k := 9) dX3_writeTurned_96 rfl ?_
      refine Z.iload_n (k := 5) dX3_writeTurned_98 rfl ?_
      obtain ⟨z_9, K⟩ := K
      refine Z.iadd dX3_writeTurned_99 z_9 ?_
      refine Z.bipush (n := 30) dX3_writeTurned_100 ⟨by decide, by decide⟩ (by decide) ?_
      obtain ⟨x_10, E_11, m_12, K⟩ := K
      refine Y.callV (g := zm_X9_write) (vs := [zI ((v7 + (E (r1 + 2) v9))), zI ((v7 + v3)), zI 30]) (st := []) dX3_writeTurned_102 ⟨zg_X9_write.1, zg_X9_write.2.1, zg_X9_write.2.2, by decide⟩ ⟨zk_X3_125, zv_X9_write⟩ (ci := 9) (rfl) rfl ((zX_0_6 hX).2.2) rfl rfl (Nat.le_of_ble_eq_true rfl) m_12 (Or.inl rfl) ?_
      show Z zm_X3_writeTurned kz Q 105 [(11, zI ((v7 + (E (r1 + 2) (v9 + 1))))), (10, zI ((v7 + (E (r1 + 2) v9)))), (0, zR 41), (1, zR r1), (2, zI v2), (3, zI v3), (4, zI v4), (5, zI v5), (6, zR r6), (7, zI v7), (8, zI v8), (9, zI v9)] [zI x_10] (d, G, E_11)
      refine Z.if_eq 144 dX3_writeTurned_105 rfl ⟨fun c_14 => ?_, fun c_14 => ?_⟩
      · replace K := K.1 c_14
        refine Z.pick (ls' := [(0, zR 41), (1, zR r1), (2, zI v2), (3, zI v3), (4, zI v4), (5, zI v5), (6, zR r6), (7, zI v7), (8, zI v8), (9, zI v9)]) [2, 3, 4, 5, 6, 7, 8, 9, 10, 11] rfl ?_
        exact K
      · replace K := K.2 c_14
        refine Z.aload_n (k := 2) dX3_writeTurned_108 rfl ?_
        refine Y.getR (o := some 20) 2 dX3_writeTurned_109 zl_X3_19 (rfl) (by decide) rfl (zX_0_10 hX).2.2 (zX_41_2 hX).1 ?_
        refine Z.iload (k := 6) dX3_writeTurned_112 rfl ?_
        refine Z.iload (k := 7) dX3_writeTurned_114 rfl ?_
        refine Z.bipush (n := 30) dX3_writeTurned_116 ⟨by decide, by decide⟩ (by decide) ?_
        obtain ⟨x_15, E_16, m_17, K⟩ := K
        refine Y.callV (g := zm_X9_write) (vs := [zI v4, zI v5, zI 30]) (st := []) dX3_writeTurned_118 ⟨zg_X9_write.1, zg_X9_write.2.1, zg_X9_write.2.2, by decide⟩ ⟨zk_X3_125, zv_X9_write⟩ (ci := 9) (rfl) rfl ((zX_0_6 hX).2.2) rfl rfl (Nat.le_of_ble_eq_true rfl) m_17 (Or.inl rfl) ?_
        show Z zm_X3_writeTurned kz Q 121 [(11, zI ((v7 + (E (r1 + 2) (v9 + 1))))), (10, zI ((v7 + (E (r1 + 2) v9)))), (0, zR 41), (1, zR r1), (2, zI v2), (3, zI v3), (4, zI v4), (5, zI v5), (6, zR r6), (7, zI v7), (8, zI v8), (9, zI v9)] [zI x_15] (d, G, E_16)
        refine Z.if_eq 144 dX3_writeTurned_121 rfl ⟨fun c_19 => ?_, fun c_19 => ?_⟩
        · replace K := K.1 c_19
          refine Z.pick (ls' := [(0, zR 41), (1, zR r1), (2, zI v2), (3, zI v3), (4, zI v4), (5, zI v5), (6, zR r6), (7, zI v7), (8, zI v8), (9, zI v9)]) [2, 3, 4, 5, 6, 7, 8, 9, 10, 11] rfl ?_
          exact K
        · replace K := K.2 c_19
          refine Z.aload_n (k := 2) dX3_writeTurned_124 rfl ?_
          refine Y.getR (o := some 20) 2 dX3_writeTurned_125 zl_X3_19 (rfl) (by decide) rfl (zX_0_10 hX).2.2 (zX_41_2 hX).1 ?_
          refine Z.iload (k := 10) dX3_writeTurned_128 rfl ?_
          refine Z.iload (k := 0) dX3_writeTurned_130 rfl ?_
          refine Z.bipush (n := 30) dX3_writeTurned_132 ⟨by decide, by decide⟩ (by decide) ?_
          obtain ⟨x_20, E_21, m_22, K⟩ := K
          refine Y.callV (g := zm_X9_write) (vs := [zI v8, zI ((v7 + (E (r1 + 2) (v9 + 1)))), zI 30]) (st := []) dX3_writeTurned_134 ⟨zg_X9_write.1, zg_X9_write.2.1, zg_X9_write.2.2, by decide⟩ ⟨zk_X3_125, zv_X9_write⟩ (ci := 9) (rfl) rfl ((zX_0_6 hX).2.2) rfl rfl (Nat.le_of_ble_eq_true rfl) m_22 (Or.inl rfl) ?_
          show Z zm_X3_writeTurned kz Q 137 [(11, zI ((v7 + (E (r1 + 2) (v9 + 1))))), (10, zI ((v7 + (E (r1 + 2) v9)))), (0, zR 41), (1, zR r1), (2, zI v2), (3, zI v3), (4, zI v4), (5, zI v5), (6, zR r6), (7, zI v7), (8, zI v8), (9, zI v9)] [zI x_20] (d, G, E_21)
          refine Z.if_eq 144 dX3_writeTurned_137 rfl ⟨fun c_24 => ?_, fun c_24 => ?_⟩
          · replace K := K.1 c_24
            refine Z.pick (ls' := [(0, zR 41), (1, zR r1), (2, zI v2), (3, zI v3), (4, zI v4), (5, zI v5), (6, zR r6), (7, zI v7), (8, zI v8), (9, zI v9)]) [2, 3, 4, 5, 6, 7, 8, 9, 10, 11] rfl ?_
            exact K
          · replace K := K.2 c_24
            refine Z.iconst (n := 1) dX3_writeTurned_140 ⟨by decide, by decide⟩ ?_
            refine Z.goto 145 dX3_writeTurned_141 rfl ?_
            refine Z.istore (ls' := [(12, zI 1), (11, zI ((v7 + (E (r1 + 2) (v9 + 1))))), (10, zI ((v7 + (E (r1 + 2) v9)))), (0, zR 41), (1, zR r1), (2, zI v2), (3, zI v3), (4, zI v4), (5, zI v5), (6, zR r6), (7, zI v7), (8, zI v8), (9, zI v9)]) dX3_writeTurned_145 (by decide) rfl ?_
            refine Z.iload (k := 0) dX3_writeTurned_147 rfl ?_
            refine Z.if_eq 182 dX3_writeTurned_149 rfl ⟨fun c_25 => absurd c_25 (by decide), fun _ => ?_⟩
            refine Z.aload (k := 9) dX3_writeTurned_152 rfl ?_
            refine Z.aload_n (k := 4) dX3_writeTurned_154 rfl ?_
            refine Y.getR (o := some (r1 + 3)) 2 dX3_writeTurned_155 zl_X3_141 (congrArg Prod.fst hr1.1) (by decide) rfl hr1.2.2.2.2.1 hr1.2.2.2.2.2.2.2.2.2.2 ?_
            refine Z.iload (k := 12) dX3_writeTurned_158 rfl ?_
            obtain ⟨z_26, K⟩ := K
            refine Y.zald dX3_writeTurned_160 (hr1.2.2.2.1) (hr1.2.2.2.2.2.2.2.1) z_26 ?_
            refine Z.aload_n (k := 3) dX3_writeTurned_161 rfl ?_
            refine Y.getR (o := some 20) 2 dX3_writeTurned_162 zl_X3_19 (rfl) (by decide) rfl (zX_0_10 hX).2.2 (zX_41_2 hX).1 ?_
            refine Y.getR (o := some 29) 13 dX3_writeTurned_165 zl_X3_129 (rfl) (by decide) rfl (zX_0_6 hX).2.2 (zX_20_13 hX).1 ?_
            refine Z.iconst (n := 0) dX3_writeTurned_168 ⟨by decide, by decide⟩ ?_
            refine Z.aload_n (k := 3) dX3_writeTurned_169 rfl ?_
            refine Y.getR (o := some 20) 2 dX3_writeTurned_170 zl_X3_19 (rfl) (by decide) rfl (zX_0_10 hX).2.2 (zX_41_2 hX).1 ?_
            refine Y.getI 14 dX3_writeTurned_173 zl_X3_123 (rfl) (by decide) rfl (zX_0_6 hX).2.2 ?_
            obtain ⟨x_27, E_28, m_29, K⟩ := K
            refine Y.callV (g := zm_X5_take) (vs := [zI ((E_21 (r1 + 3) v9)), zR 29, zI 0, zI ((E_21 20 14))]) (st := []) dX3_writeTurned_176 ⟨zg_X5_take.1, zg_X5_take.2.1, zg_X5_take.2.2, by decide⟩ ⟨zk_X3_145, zv_X5_take⟩ (ci := 5) (congrArg Prod.fst hr6.1) rfl (hr6.2.2.2.2.1) rfl rfl (Nat.le_of_ble_eq_true rfl) m_29 (Or.inl rfl) ?_
            show Z zm_X3_writeTurned kz Q 179 [(12, zI 1), (11, zI ((v7 + (E (r1 + 2) (v9 + 1))))), (10, zI ((v7 + (E (r1 + 2) v9)))), (0, zR 41), (1, zR r1), (2, zI v2), (3, zI v3), (4, zI v4), (5, zI v5), (6, zR r6), (7, zI v7), (8, zI v8), (9, zI v9)] [zI x_27] (d, G, E_28)
            refine Z.if_ne 184 dX3_writeTurned_179 rfl ⟨fun c_31 => ?_, fun c_31 => ?_⟩
            · replace K := K.1 c_31
              obtain ⟨z_32, K⟩ := K
              refine Z.iinc (k := 12) (ls' := [(9, zI ((v9 + 1))), (12, zI 1), (11, zI ((v7 + (E (r1 + 2) (v9 + 1))))), (10, zI ((v7 + (E (r1 + 2) v9)))), (0, zR 41), (1, zR r1), (2, zI v2), (3, zI v3), (4, zI v4), (5, zI v5), (6, zR r6), (7, zI v7), (8, zI v8)]) dX3_writeTurned_184 rfl (by decide) z_32 rfl ?_
              refine Z.goto 25 dX3_writeTurned_187 rfl ?_
              refine Z.pick (ls' := [(0, zR 41), (1, zR r1), (2, zI v2), (3, zI v3), (4, zI v4), (5, zI v5), (6, zR r6), (7, zI v7), (8, zI v8), (9, zI ((v9 + 1)))]) [4, 5, 6, 7, 8, 9, 10, 11, 12, 0] rfl ?_
              exact K
            · replace K := K.2 c_31
              refine Z.iconst (n := 0) dX3_writeTurned_182 ⟨by decide, by decide⟩ ?_
              exact Z.iret (ty := .boolean) dX3_writeTurned_183 rfl rfl K
    · replace K := K.2 c_8
      refine Z.aload_n (k := 2) dX3_writeTurned_74 rfl ?_
      refine Y.getR (o := some 20) 2 dX3_writeTurned_75 zl_X3_19 (rfl) (by decide) rfl (zX_0_10 hX).2.2 (zX_41_2 hX).1 ?_
      refine Z.iload (k := 1) dX3_writeTurned_78 rfl ?_
      refine Z.iload (k := 0) dX3_writeTurned_80 rfl ?_
      refine Z.bipush (n := 30) dX3_writeTurned_82 ⟨by decide, by decide⟩ (by decide) ?_
      obtain ⟨x_33, E_34, m_35, K⟩ := K
      refine Y.callV (g := zm_X9_write) (vs := [zI ((v7 + (E (r1 + 2) v9))), zI ((v7 + (E (r1 + 2) (v9 + 1)))), zI 30]) (st := []) dX3_writeTurned_84 ⟨zg_X9_write.1, zg_X9_write.2.1, zg_X9_write.2.2, by decide⟩ ⟨zk_X3_125, zv_X9_write⟩ (ci := 9) (rfl) rfl ((zX_0_6 hX).2.2) rfl rfl (Nat.le_of_ble_eq_true rfl) m_35 (Or.inl rfl) ?_
      show Z zm_X3_writeTurned kz Q 87 [(11, zI ((v7 + (E (r1 + 2) (v9 + 1))))), (10, zI ((v7 + (E (r1 + 2) v9)))), (0, zR 41), (1, zR r1), (2, zI v2), (3, zI v3), (4, zI v4), (5, zI v5), (6, zR r6), (7, zI v7), (8, zI v8), (9, zI v9)] [zI x_33] (d, G, E_34)
      refine Z.goto 145 dX3_writeTurned_87 rfl ?_
      refine Z.istore (ls' := [(12, zI x_33), (11, zI ((v7 + (E (r1 + 2) (v9 + 1))))), (10, zI ((v7 + (E (r1 + 2) v9)))), (0, zR 41), (1, zR r1), (2, zI v2), (3, zI v3), (4, zI v4), (5, zI v5), (6, zR r6), (7, zI v7), (8, zI v8), (9, zI v9)]) dX3_writeTurned_145 (by decide) rfl ?_
      refine Z.iload (k := 0) dX3_writeTurned_147 rfl ?_
      refine Z.if_eq 182 dX3_writeTurned_149 rfl ⟨fun c_37 => ?_, fun c_37 => ?_⟩
      · replace K := K.1 c_37
        refine Z.iconst (n := 0) dX3_writeTurned_182 ⟨by decide, by decide⟩ ?_
        exact Z.iret (ty := .boolean) dX3_writeTurned_183 rfl rfl K
      · replace K := K.2 c_37
        refine Z.aload (k := 9) dX3_writeTurned_152 rfl ?_
        refine Z.aload_n (k := 4) dX3_writeTurned_154 rfl ?_
        refine Y.getR (o := some (r1 + 3)) 2 dX3_writeTurned_155 zl_X3_141 (congrArg Prod.fst hr1.1) (by decide) rfl hr1.2.2.2.2.1 hr1.2.2.2.2.2.2.2.2.2.2 ?_
        refine Z.iload (k := 12) dX3_writeTurned_158 rfl ?_
        obtain ⟨z_38, K⟩ := K
        refine Y.zald dX3_writeTurned_160 (hr1.2.2.2.1) (hr1.2.2.2.2.2.2.2.1) z_38 ?_
        refine Z.aload_n (k := 3) dX3_writeTurned_161 rfl ?_
        refine Y.getR (o := some 20) 2 dX3_writeTurned_162 zl_X3_19 (rfl) (by decide) rfl (zX_0_10 hX).2.2 (zX_41_2 hX).1 ?_
        refine Y.getR (o := some 29) 13 dX3_writeTurned_165 zl_X3_129 (rfl) (by decide) rfl (zX_0_6 hX).2.2 (zX_20_13 hX).1 ?_
        refine Z.iconst (n := 0) dX3_writeTurned_168 ⟨by decide, by decide⟩ ?_
        refine Z.aload_n (k := 3) dX3_writeTurned_169 rfl ?_
        refine Y.getR (o := some 20) 2 dX3_writeTurned_170 zl_X3_19 (rfl) (by decide) rfl (zX_0_10 hX).2.2 (zX_41_2 hX).1 ?_
        refine Y.getI 14 dX3_writeTurned_173 zl_X3_123 (rfl) (by decide) rfl (zX_0_6 hX).2.2 ?_
        obtain ⟨x_39, E_40, m_41, K⟩ := K
        refine Y.callV (g := zm_X5_take) (vs := [zI ((E_34 (r1 + 3) v9)), zR 29, zI 0, zI ((E_34 20 14))]) (st := []) dX3_writeTurned_176 ⟨zg_X5_take.1, zg_X5_take.2.1, zg_X5_take.2.2, by decide⟩ ⟨zk_X3_145, zv_X5_take⟩ (ci := 5) (congrArg Prod.fst hr6.1) rfl (hr6.2.2.2.2.1) rfl rfl (Nat.le_of_ble_eq_true rfl) m_41 (Or.inl rfl) ?_
        show Z zm_X3_writeTurned kz Q 179 [(12, zI x_33), (11, zI ((v7 + (E (r1 + 2) (v9 + 1))))), (10, zI ((v7 + (E (r1 + 2) v9)))), (0, zR 41), (1, zR r1), (2, zI v2), (3, zI v3), (4, zI v4), (5, zI v5), (6, zR r6), (7, zI v7), (8, zI v8), (9, zI v9)] [zI x_39] (d, G, E_40)
        refine Z.if_ne 184 dX3_writeTurned_179 rfl ⟨fun c_43 => ?_, fun c_43 => ?_⟩
        · replace K := K.1 c_43
          obtain ⟨z_44, K⟩ := K
          refine Z.iinc (k := 12) (ls' := [(9, zI ((v9 + 1))), (12, zI x_33), (11, zI ((v7 + (E (r1 + 2) (v9 + 1))))), (10, zI ((v7 + (E (r1 + 2) v9)))), (0, zR 41), (1, zR r1), (2, zI v2), (3, zI v3), (4, zI v4), (5, zI v5), (6, zR r6), (7, zI v7), (8, zI v8)]) dX3_writeTurned_184 rfl (by decide) z_44 rfl ?_
          refine Z.goto 25 dX3_writeTurned_187 rfl ?_
          refine Z.pick (ls' := [(0, zR 41), (1, zR r1), (2, zI v2), (3, zI v3), (4, zI v4), (5, zI v5), (6, zR r6), (7, zI v7), (8, zI v8), (9, zI ((v9 + 1)))]) [4, 5, 6, 7, 8, 9, 10, 11, 12, 0] rfl ?_
          exact K
        · replace K := K.2 c_43
          refine Z.iconst (n := 0) dX3_writeTurned_182 ⟨by decide, by decide⟩ ?_
          exact Z.iret (ty := .boolean) dX3_writeTurned_183 rfl rfl K
set_option maxRecDepth 20000 in
theorem X3_writeTurned_144 {kz : Nat × Nat} {Q : Option zV → zH → Prop} {d : List Nat} {G : Nat → Int → Option Nat} {E : Nat → Int → Int} {r1 : Nat} {v2 : Int} {v3 : Int} {v4 : Int} {v5 : Int} {r6 : Nat} {v7 : Int} {v8 : Int} {v9 : Int} (hX : zK zXt d G) (hr1 : zRk d G r1) (hr6 : zRk d G r6) (K : Q (some (zI 0)) (d, G, E)) : Z zm_X3_writeTurned kz Q 144 [(0, zR 41), (1, zR r1), (2, zI v2), (3, zI v3), (4, zI v4), (5, zI v5), (6, zR r6), (7, zI v7), (8, zI v8), (9, zI v9)] [] (d, G, E) := by
  refine Z.iconst (n := 0) dX3_writeTurned_144 ⟨by decide, by decide⟩ ?_
  refine Z.istore (ls' := [(12, zI 0), (0, zR 41), (1, zR r1), (2, zI v2), (3, zI v3), (4, zI v4), (5, zI v5), (6, zR r6), (7, zI v7), (8, zI v8), (9, zI v9)]) dX3_writeTurned_145 (by decide) rfl ?_
  refine Z.iload (k := 0) dX3_writeTurned_147 rfl ?_
  refine Z.if_eq 182 dX3_writeTurned_149 rfl ⟨fun _ => ?_, fun c_1 => absurd (by decide) c_1⟩
  refine Z.iconst (n := 0) dX3_writeTurned_182 ⟨by decide, by decide⟩ ?_
  exact Z.iret (ty := .boolean) dX3_writeTurned_183 rfl rfl K
set_option maxRecDepth 20000 in
theorem X3_makeTurn_0 {kz : Nat × Nat} {Q : Option zV → zH → Prop} {d : List Nat} {G : Nat → Int → Option Nat} {E : Nat → Int → Int} {c1 : Nat} {c2 : Nat} {a3 n3 : Nat} {r4 : Nat} (hX : zK zXt d G) (hc1 : zCk d G c1) (hc2 : zCk d G c2) (ha3 : a3 ∈ d) (hk3 : zkd a3 = (0, n3)) (hr4 : zRk d G r4) (K : ((0 : Int) ≤ 2 ∧ 2 < (n3 : Int)) ∧ ((0 : Int) ≤ 3 ∧ 3 < (n3 : Int)) ∧ ((0 : Int) ≤ 5 ∧ 5 < (n3 : Int)) ∧ ((0 : Int) ≤ 6 ∧ 6 < (n3 : Int)) ∧ ∃ x_5, zM zm_X1_isPositive [zR c1] (d, G, E) (some (zI x_5)) (d, G, E) ∧ (x_5 = 0 → Q (some (zI 0)) (d, G, E)) ∧ (¬ (x_5 = 0) → ∃ x_9, zM zm_X5_isEqual [zR ((c1 + 1)), zI ((E a3 2))] (d, G, E) (some (zI x_9)) (d, G, E) ∧ (x_9 = 0 → Q (some (zI 0)) (d, G, E)) ∧ (¬ (x_9 = 0) → ((E a3 3) < 0 → Q (some (zI 0)) (d, G, E)) ∧ (¬ ((E a3 3) < 0) → ((E a3 3) ≤ 1 → ∃ x_15, zM zm_X5_has [zR ((c2 + 1)), zI ((E a3 5))] (d, G, E) (some (zI x_15)) (d, G, E) ∧ (x_15 = 0 → Q (some (zI 0)) (d, G, E)) ∧ (¬ (x_15 = 0) → ∃ x_19, zM zm_X1_isPositive [zR c2] (d, G, E) (some (zI x_19)) (d, G, E) ∧ (x_19 ≠ 0 → Z zm_X3_makeTurn kz Q 81 [(0, zR 41), (1, zR c1), (2, zR c2), (4, zR r4), (5, zI ((E a3 2))), (6, zI ((E a3 3))), (7, zI ((E a3 5))), (8, zI ((E a3 6)))] [] (d, G, E)) ∧ (¬ (x_19 ≠ 0) → ((E c2 9) ≠ (E a3 5) → Q (some (zI 0)) (d, G, E)) ∧ (¬ ((E c2 9) ≠ (E a3 5)) → Z zm_X3_makeTurn kz Q 81 [(0, zR 41), (1, zR c1), (2, zR c2), (4, zR r4), (5, zI ((E a3 2))), (6, zI ((E a3 3))), (7, zI ((E a3 5))), (8, zI ((E a3 6)))] [] (d, G, E))))) ∧ (¬ ((E a3 3) ≤ 1) → Q (some (zI 0)) (d, G, E)))))) : Z zm_X3_makeTurn kz Q 0 [(0, zR 41), (1, zR c1), (2, zR c2), (3, zR a3), (4, zR r4)] [] (d, G, E) := by
  refine Z.aload_n (k := 3) dX3_makeTurn_0 rfl ?_
  refine Z.iconst (n := 2) dX3_makeTurn_1 ⟨by decide, by decide⟩ ?_
  obtain ⟨z_1, K⟩ := K
  refine Y.iald dX3_makeTurn_2 (hk3) (ha3) z_1 ?_
  refine Z.istore (ls' := [(5, zI ((E a3 2))), (0, zR 41), (1, zR c1), (2, zR c2), (3, zR a3), (4, zR r4)]) dX3_makeTurn_3 (by decide) rfl ?_
  refine Z.aload_n (k := 4) dX3_makeTurn_5 rfl ?_
  refine Z.iconst (n := 3) dX3_makeTurn_6 ⟨by decide, by decide⟩ ?_
  obtain ⟨z_2, K⟩ := K
  refine Y.iald dX3_makeTurn_7 (hk3) (ha3) z_2 ?_
  refine Z.istore (ls' := [(6, zI ((E a3 3))), (5, zI ((E a3 2))), (0, zR 41), (1, zR c1), (2, zR c2), (3, zR a3), (4, zR r4)]) dX3_makeTurn_8 (by decide) rfl ?_
  refine Z.aload_n (k := 5) dX3_makeTurn_10 rfl ?_
  refine Z.iconst (n := 5) dX3_makeTurn_11 ⟨by decide, by decide⟩ ?_
  obtain ⟨z_3, K⟩ := K
  refine Y.iald dX3_makeTurn_12 (hk3) (ha3) z_3 ?_
  refine Z.istore (ls' := [(7, zI ((E a3 5))), (6, zI ((E a3 3))), (5, zI ((E a3 2))), (0, zR 41), (1, zR c1), (2, zR c2), (3, zR a3), (4, zR r4)]) dX3_makeTurn_13 (by decide) rfl ?_
  refine Z.aload_n (k := 6) dX3_makeTurn_15 rfl ?_
  refine Z.bipush (n := 6) dX3_makeTurn_16 ⟨by decide, by decide⟩ (by decide) ?_
  obtain ⟨z_4, K⟩ := K
  refine Y.iald dX3_makeTurn_18 (hk3) (ha3) z_4 ?_
  refine Z.istore (ls' := [(8, zI ((E a3 6))), (7, zI ((E a3 5))), (6, zI ((E a3 3))), (5, zI ((E a3 2))), (0, zR 41), (1, zR c1), (2, zR c2), (3, zR a3), (4, zR r4)]) dX3_makeTurn_19 (by decide) rfl ?_
  refine Z.aload_n (k := 5) dX3_makeTurn_21 rfl ?_
  obtain ⟨x_5, m_6, K⟩ := K
  refine Y.callV (g := zm_X1_isPositive) (vs := []) (st := []) dX3_makeTurn_22 ⟨zg_X1_isPositive.1, zg_X1_isPositive.2.1, zg_X1_isPositive.2.2, by decide⟩ ⟨zk_X3_61, zv_X1_isPositive⟩ (ci := 1) (congrArg Prod.fst hc1.1) rfl (hc1.2.1) rfl rfl (Nat.le_of_ble_eq_true rfl) m_6 (Or.inl rfl) ?_
  show Z zm_X3_makeTurn kz Q 25 [(8, zI ((E a3 6))), (7, zI ((E a3 5))), (6, zI ((E a3 3))), (5, zI ((E a3 2))), (0, zR 41), (1, zR c1), (2, zR c2), (3, zR a3), (4, zR r4)] [zI x_5] (d, G, E)
  refine Z.if_eq 51 dX3_makeTurn_25 rfl ⟨fun c_8 => ?_, fun c_8 => ?_⟩
  · replace K := K.1 c_8
    refine Z.iconst (n := 0) dX3_makeTurn_51 ⟨by decide, by decide⟩ ?_
    exact Z.iret (ty := .int) dX3_makeTurn_52 rfl rfl K
  · replace K := K.2 c_8
    refine Z.aload_n (k := 5) dX3_makeTurn_28 rfl ?_
    refine Y.getR (o := some ((c1 + 1))) 0 dX3_makeTurn_29 zl_X3_67 (congrArg Prod.fst hc1.1) (by decide) rfl hc1.2.1 hc1.2.2.2.1 ?_
    refine Z.iload (k := 3) dX3_makeTurn_32 rfl ?_
    obtain ⟨x_9, m_10, K⟩ := K
    refine Y.callV (g := zm_X5_isEqual) (vs := [zI ((E a3 2))]) (st := []) dX3_makeTurn_34 ⟨zg_X5_isEqual.1, zg_X5_isEqual.2.1, zg_X5_isEqual.2.2, by decide⟩ ⟨zk_X3_102, zv_X5_isEqual⟩ (ci := 5) (congrArg Prod.fst hc1.2.2.1.1) rfl (hc1.2.2.1.2.2.2.2.1) rfl rfl (Nat.le_of_ble_eq_true rfl) m_10 (Or.inl rfl) ?_
    show Z zm_X3_makeTurn kz Q 37 [(8, zI ((E a3 6))), (7, zI ((E a3 5))), (6, zI ((E a3 3))), (5, zI ((E a3 2))), (0, zR 41), (1, zR c1), (2, zR c2), (3, zR a3), (4, zR r4)] [zI x_9] (d, G, E)
    refine Z.if_eq 51 dX3_makeTurn_37 rfl ⟨fun c_12 => ?_, fun c_12 => ?_⟩
    · replace K := K.1 c_12
      refine Z.iconst (n := 0) dX3_makeTurn_51 ⟨by decide, by decide⟩ ?_
      exact Z.iret (ty := .int) dX3_makeTurn_52 rfl rfl K
    · replace K := K.2 c_12
      refine Z.iload (k := 2) dX3_makeTurn_40 rfl ?_
      refine Z.if_lt 51 dX3_makeTurn_42 rfl ⟨fun c_13 => ?_, fun c_13 => ?_⟩
      · replace K := K.1 c_13
        refine Z.iconst (n := 0) dX3_makeTurn_51 ⟨by decide, by decide⟩ ?_
        exact Z.iret (ty := .int) dX3_makeTurn_52 rfl rfl K
      · replace K := K.2 c_13
        refine Z.iload (k := 2) dX3_makeTurn_45 rfl ?_
        refine Z.iconst (n := 1) dX3_makeTurn_47 ⟨by decide, by decide⟩ ?_
        refine Z.icmp_le 53 dX3_makeTurn_48 rfl ⟨fun c_14 => ?_, fun c_14 => ?_⟩
        · replace K := K.1 c_14
          refine Z.aload_n (k := 6) dX3_makeTurn_53 rfl ?_
          refine Y.getR (o := some ((c2 + 1))) 0 dX3_makeTurn_54 zl_X3_67 (congrArg Prod.fst hc2.1) (by decide) rfl hc2.2.1 hc2.2.2.2.1 ?_
          refine Z.iload (k := 1) dX3_makeTurn_57 rfl ?_
          obtain ⟨x_15, m_16, K⟩ := K
          refine Y.callV (g := zm_X5_has) (vs := [zI ((E a3 5))]) (st := []) dX3_makeTurn_59 ⟨zg_X5_has.1, zg_X5_has.2.1, zg_X5_has.2.2, by decide⟩ ⟨zk_X3_71, zv_X5_has⟩ (ci := 5) (congrArg Prod.fst hc2.2.2.1.1) rfl (hc2.2.2.1.2.2.2.2.1) rfl rfl (Nat.le_of_ble_eq_true rfl) m_16 (Or.inl rfl) ?_
          show Z zm_X3_makeTurn kz Q 62 [(8, zI ((E a3 6))), (7, zI ((E a3 5))), (6, zI ((E a3 3))), (5, zI ((E a3 2))), (0, zR 41), (1, zR c1), (2, zR c2), (3, zR a3), (4, zR r4)] [zI x_15] (d, G, E)
          refine Z.if_eq 101 dX3_makeTurn_62 rfl ⟨fun c_18 => ?_, fun c_18 => ?_⟩
          · replace K := K.1 c_18
            refine Z.iconst (n := 0) dX3_makeTurn_101 ⟨by decide, by decide⟩ ?_
            exact Z.iret (ty := .int) dX3_makeTurn_102 rfl rfl K
          · replace K := K.2 c_18
            refine Z.aload_n (k := 6) dX3_makeTurn_65 rfl ?_
            obtain ⟨x_19, m_20, K⟩ := K
            refine Y.callV (g := zm_X1_isPositive) (vs := []) (st := []) dX3_makeTurn_66 ⟨zg_X1_isPositive.1, zg_X1_isPositive.2.1, zg_X1_isPositive.2.2, by decide⟩ ⟨zk_X3_61, zv_X1_isPositive⟩ (ci := 1) (congrArg Prod.fst hc2.1) rfl (hc2.2.1) rfl rfl (Nat.le_of_ble_eq_true rfl) m_20 (Or.inl rfl) ?_
            show Z zm_X3_makeTurn kz Q 69 [(8, zI ((E a3 6))), (7, zI ((E a3 5))), (6, zI ((E a3 3))), (5, zI ((E a3 2))), (0, zR 41), (1, zR c1), (2, zR c2), (3, zR a3), (4, zR r4)] [zI x_19] (d, G, E)
            refine Z.if_ne 81 dX3_makeTurn_69 rfl ⟨fun c_22 => ?_, fun c_22 => ?_⟩
            · replace K := K.1 c_22
              refine Z.pick (ls' := [(0, zR 41), (1, zR c1), (2, zR c2), (4, zR r4), (5, zI ((E a3 2))), (6, zI ((E a3 3))), (7, zI ((E a3 5))), (8, zI ((E a3 6)))]) [4, 5, 6, 8, 3, 2, 1, 0] rfl ?_
              exact K
            · replace K := K.2 c_22
              refine Z.aload_n (k := 6) dX3_makeTurn_72 rfl ?_
              refine Y.getI 9 dX3_makeTurn_73 zl_X3_75 (congrArg Prod.fst hc2.1) (by decide) rfl hc2.2.1 ?_
              refine Z.iload (k := 1) dX3_makeTurn_76 rfl ?_
              refine Z.icmp_ne 101 dX3_makeTurn_78 rfl ⟨fun c_23 => ?_, fun c_23 => ?_⟩
              · replace K := K.1 c_23
                refine Z.iconst (n := 0) dX3_makeTurn_101 ⟨by decide, by decide⟩ ?_
                exact Z.iret (ty := .int) dX3_makeTurn_102 rfl rfl K
              · replace K := K.2 c_23
                refine Z.pick (ls' := [(0, zR 41), (1, zR c1), (2, zR c2), (4, zR r4), (5, zI ((E a3 2))), (6, zI ((E a3 3))), (7, zI ((E a3 5))), (8, zI ((E a3 6)))]) [4, 5, 6, 8, 3, 2, 1, 0] rfl ?_
                exact K
        · replace K := K.2 c_14
          refine Z.iconst (n := 0) dX3_makeTurn_51 ⟨by decide, by decide⟩ ?_
          exact Z.iret (ty := .int) dX3_makeTurn_52 rfl rfl K
set_option maxRecDepth 20000 in
theorem X3_makeTurn_81 {kz : Nat × Nat} {Q : Option zV → zH → Prop} {d : List Nat} {G : Nat → Int → Option Nat} {E : Nat → Int → Int} {c1 : Nat} {c2 : Nat} {r4 : Nat} {v5 : Int} {v6 : Int} {v7 : Int} {v8 : Int} (hX : zK zXt d G) (hc1 : zCk d G c1) (hc2 : zCk d G c2) (hr4 : zRk d G r4) (K : (v8 < 1 → Q (some (zI 0)) (d, G, E)) ∧ (¬ (v8 < 1) → ∃ x_2, zM zm_X5_length [zR ((c2 + 1)), zI v7] (d, G, E) (some (zI x_2)) (d, G, E) ∧ (v8 < x_2 → ((0 : Int) ≤ v7 ∧ v7 < (7 : Int)) ∧ zin ((E ((c2 + 1) + 2) v7) + v8) ∧ ((0 : Int) ≤ ((E ((c2 + 1) + 2) v7) + v8) ∧ ((E ((c2 + 1) + 2) v7) + v8) < (180 : Int)) ∧ (0 ≤ (E ((c2 + 1) + 1) ((E ((c2 + 1) + 2) v7) + v8)) → ((0 : Int) ≤ v5 ∧ v5 < (7 : Int)) ∧ zin ((E ((c1 + 1) + 2) v5) + 1) ∧ ∃ x_12, zM zm_X8_after [zR 1, zR ((c1 + 1) + 1), zI (((E ((c1 + 1) + 2) v5) + 1))] (d, G, E) (some (zI x_12)) (d, G, E) ∧ (v6 ≠ 0 → Z zm_X3_makeTurn kz Q 177 [(0, zR 41), (1, zR c1), (2, zR c2), (4, zR r4), (5, zI v5), (6, zI v6), (7, zI v7), (9, zI (((E ((c2 + 1) + 2) v7) + v8))), (10, zI (((E ((c1 + 1) + 2) v5) + 1))), (11, zI x_12)] [zI x_12] (d, G, E)) ∧ (¬ (v6 ≠ 0) → Z zm_X3_makeTurn kz Q 177 [(0, zR 41), (1, zR c1), (2, zR c2), (4, zR r4), (5, zI v5), (6, zI v6), (7, zI v7), (9, zI (((E ((c2 + 1) + 2) v7) + v8))), (10, zI (((E ((c1 + 1) + 2) v5) + 1))), (11, zI x_12)] [zI (((E ((c1 + 1) + 2) v5) + 1))] (d, G, E))) ∧ (¬ (0 ≤ (E ((c2 + 1) + 1) ((E ((c2 + 1) + 2) v7) + v8))) → Q (some (zI 0)) (d, G, E))) ∧ (¬ (v8 < x_2) → Q (some (zI 0)) (d, G, E)))) : Z zm_X3_makeTurn kz Q 81 [(0, zR 41), (1, zR c1), (2, zR c2), (4, zR r4), (5, zI v5), (6, zI v6), (7, zI v7), (8, zI v8)] [] (d, G, E) := by
  refine Z.iload (k := 7) dX3_makeTurn_81 rfl ?_
  refine Z.iconst (n := 1) dX3_makeTurn_83 ⟨by decide, by decide⟩ ?_
  refine Z.icmp_lt 101 dX3_makeTurn_84 rfl ⟨fun c_1 => ?_, fun c_1 => ?_⟩
  · replace K := K.1 c_1
    refine Z.iconst (n := 0) dX3_makeTurn_101 ⟨by decide, by decide⟩ ?_
    exact Z.iret (ty := .int) dX3_makeTurn_102 rfl rfl K
  · replace K := K.2 c_1
    refine Z.iload (k := 7) dX3_makeTurn_87 rfl ?_
    refine Z.aload_n (k := 2) dX3_makeTurn_89 rfl ?_
    refine Y.getR (o := some ((c2 + 1))) 0 dX3_makeTurn_90 zl_X3_67 (congrArg Prod.fst hc2.1) (by decide) rfl hc2.2.1 hc2.2.2.2.1 ?_
    refine Z.iload (k := 6) dX3_makeTurn_93 rfl ?_
    obtain ⟨x_2, m_3, K⟩ := K
    refine Y.callV (g := zm_X5_length) (vs := [zI v7]) (st := [zI v8]) dX3_makeTurn_95 ⟨zg_X5_length.1, zg_X5_length.2.1, zg_X5_length.2.2, by decide⟩ ⟨zk_X3_111, zv_X5_length⟩ (ci := 5) (congrArg Prod.fst hc2.2.2.1.1) rfl (hc2.2.2.1.2.2.2.2.1) rfl rfl (Nat.le_of_ble_eq_true rfl) m_3 (Or.inl rfl) ?_
    show Z zm_X3_makeTurn kz Q 98 [(0, zR 41), (1, zR c1), (2, zR c2), (4, zR r4), (5, zI v5), (6, zI v6), (7, zI v7), (8, zI v8)] [zI x_2, zI v8] (d, G, E)
    refine Z.icmp_lt 103 dX3_makeTurn_98 rfl ⟨fun c_5 => ?_, fun c_5 => ?_⟩
    · replace K := K.1 c_5
      refine Z.aload_n (k := 2) dX3_makeTurn_103 rfl ?_
      refine Y.getR (o := some ((c2 + 1))) 0 dX3_makeTurn_104 zl_X3_67 (congrArg Prod.fst hc2.1) (by decide) rfl hc2.2.1 hc2.2.2.2.1 ?_
      refine Y.getR (o := some ((c2 + 1) + 2)) 1 dX3_makeTurn_107 zl_X3_79 (congrArg Prod.fst hc2.2.2.1.1) (by decide) rfl hc2.2.2.1.2.2.2.2.1 hc2.2.2.1.2.2.2.2.2.2.2.2.2.1 ?_
      refine Z.iload (k := 6) dX3_makeTurn_110 rfl ?_
      obtain ⟨z_6, K⟩ := K
      refine Y.iald dX3_makeTurn_112 (hc2.2.2.1.2.2.1) (hc2.2.2.1.2.2.2.2.2.2.1) z_6 ?_
      refine Z.iload (k := 7) dX3_makeTurn_113 rfl ?_
      obtain ⟨z_7, K⟩ := K
      refine Z.iadd dX3_makeTurn_115 z_7 ?_
      refine Z.istore (ls' := [(9, zI (((E ((c2 + 1) + 2) v7) + v8))), (0, zR 41), (1, zR c1), (2, zR c2), (4, zR r4), (5, zI v5), (6, zI v6), (7, zI v7), (8, zI v8)]) dX3_makeTurn_116 (by decide) rfl ?_
      refine Z.aload_n (k := 3) dX3_makeTurn_118 rfl ?_
      refine Y.getR (o := some ((c2 + 1))) 0 dX3_makeTurn_119 zl_X3_67 (congrArg Prod.fst hc2.1) (by decide) rfl hc2.2.1 hc2.2.2.2.1 ?_
      refine Y.getR (o := some ((c2 + 1) + 1)) 0 dX3_makeTurn_122 zl_X3_82 (congrArg Prod.fst hc2.2.2.1.1) (by decide) rfl hc2.2.2.1.2.2.2.2.1 hc2.2.2.1.2.2.2.2.2.2.2.2.1 ?_
      refine Z.iload (k := 0) dX3_makeTurn_125 rfl ?_
      obtain ⟨z_8, K⟩ := K
      refine Y.iald dX3_makeTurn_127 (hc2.2.2.1.2.1) (hc2.2.2.1.2.2.2.2.2.1) z_8 ?_
      refine Z.if_ge 133 dX3_makeTurn_128 rfl ⟨fun c_9 => ?_, fun c_9 => ?_⟩
      · replace K := K.1 c_9
        refine Z.aload_n (k := 2) dX3_makeTurn_133 rfl ?_
        refine Y.getR (o := some ((c1 + 1))) 0 dX3_makeTurn_134 zl_X3_67 (congrArg Prod.fst hc1.1) (by decide) rfl hc1.2.1 hc1.2.2.2.1 ?_
        refine Y.getR (o := some ((c1 + 1) + 2)) 1 dX3_makeTurn_137 zl_X3_79 (congrArg Prod.fst hc1.2.2.1.1) (by decide) rfl hc1.2.2.1.2.2.2.2.1 hc1.2.2.1.2.2.2.2.2.2.2.2.2.1 ?_
        refine Z.iload (k := 5) dX3_makeTurn_140 rfl ?_
        obtain ⟨z_10, K⟩ := K
        refine Y.iald dX3_makeTurn_142 (hc1.2.2.1.2.2.1) (hc1.2.2.1.2.2.2.2.2.2.1) z_10 ?_
        refine Z.iconst (n := 1) dX3_makeTurn_143 ⟨by decide, by decide⟩ ?_
        obtain ⟨z_11, K⟩ := K
        refine Z.iadd dX3_makeTurn_144 z_11 ?_
        refine Z.istore (ls' := [(10, zI (((E ((c1 + 1) + 2) v5) + 1))), (9, zI (((E ((c2 + 1) + 2) v7) + v8))), (0, zR 41), (1, zR c1), (2, zR c2), (4, zR r4), (5, zI v5), (6, zI v6), (7, zI v7), (8, zI v8)]) dX3_makeTurn_145 (by decide) rfl ?_
        refine Z.aload_n (k := 2) dX3_makeTurn_147 rfl ?_
        refine Y.getR (o := some 1) 0 dX3_makeTurn_148 zl_X3_9 (rfl) (by decide) rfl (zX_0_10 hX).2.2 (zX_41_0 hX).1 ?_
        refine Z.aload_n (k := 3) dX3_makeTurn_151 rfl ?_
        refine Y.getR (o := some ((c1 + 1))) 0 dX3_makeTurn_152 zl_X3_67 (congrArg Prod.fst hc1.1) (by decide) rfl hc1.2.1 hc1.2.2.2.1 ?_
        refine Y.getR (o := some ((c1 + 1) + 1)) 0 dX3_makeTurn_155 zl_X3_82 (congrArg Prod.fst hc1.2.2.1.1) (by decide) rfl hc1.2.2.1.2.2.2.2.1 hc1.2.2.1.2.2.2.2.2.2.2.2.1 ?_
        refine Z.iload (k := 0) dX3_makeTurn_158 rfl ?_
        obtain ⟨x_12, m_13, K⟩ := K
        refine Y.callV (g := zm_X8_after) (vs := [zR ((c1 + 1) + 1), zI (((E ((c1 + 1) + 2) v5) + 1))]) (st := []) dX3_makeTurn_160 ⟨zg_X8_after.1, zg_X8_after.2.1, zg_X8_after.2.2, by decide⟩ ⟨zk_X3_105, zv_X8_after⟩ (ci := 8) (rfl) rfl ((zX_0_0 hX).2.2) rfl rfl (Nat.le_of_ble_eq_true rfl) m_13 (Or.inl rfl) ?_
        show Z zm_X3_makeTurn kz Q 163 [(10, zI (((E ((c1 + 1) + 2) v5) + 1))), (9, zI (((E ((c2 + 1) + 2) v7) + v8))), (0, zR 41), (1, zR c1), (2, zR c2), (4, zR r4), (5, zI v5), (6, zI v6), (7, zI v7), (8, zI v8)] [zI x_12] (d, G, E)
        refine Z.istore (ls' := [(11, zI x_12), (10, zI (((E ((c1 + 1) + 2) v5) + 1))), (9, zI (((E ((c2 + 1) + 2) v7) + v8))), (0, zR 41), (1, zR c1), (2, zR c2), (4, zR r4), (5, zI v5), (6, zI v6), (7, zI v7), (8, zI v8)]) dX3_makeTurn_163 (by decide) rfl ?_
        refine Z.iload (k := 8) dX3_makeTurn_165 rfl ?_
        refine Z.if_ne 175 dX3_makeTurn_167 rfl ⟨fun c_15 => ?_, fun c_15 => ?_⟩
        · replace K := K.1 c_15
          refine Z.iload (k := 0) dX3_makeTurn_175 rfl ?_
          refine Z.pick (ls' := [(0, zR 41), (1, zR c1), (2, zR c2), (4, zR r4), (5, zI v5), (6, zI v6), (7, zI v7), (9, zI (((E ((c2 + 1) + 2) v7) + v8))), (10, zI (((E ((c1 + 1) + 2) v5) + 1))), (11, zI x_12)]) [3, 4, 5, 6, 7, 8, 9, 2, 1, 0] rfl ?_
          exact K
        · replace K := K.2 c_15
          refine Z.iload (k := 1) dX3_makeTurn_170 rfl ?_
          refine Z.goto 177 dX3_makeTurn_172 rfl ?_
          refine Z.pick (ls' := [(0, zR 41), (1, zR c1), (2, zR c2), (4, zR r4), (5, zI v5), (6, zI v6), (7, zI v7), (9, zI (((E ((c2 + 1) + 2) v7) + v8))), (10, zI (((E ((c1 + 1) + 2) v5) + 1))), (11, zI x_12)]) [3, 4, 5, 6, 7, 8, 9, 2, 1, 0] rfl ?_
          exact K
      · replace K := K.2 c_9
        refine Z.iconst (n := 0) dX3_makeTurn_131 ⟨by decide, by decide⟩ ?_
        exact Z.iret (ty := .int) dX3_makeTurn_132 rfl rfl K
    · replace K := K.2 c_5
      refine Z.iconst (n := 0) dX3_makeTurn_101 ⟨by decide, by decide⟩ ?_
      exact Z.iret (ty := .int) dX3_makeTurn_102 rfl rfl K
set_option maxRecDepth 20000 in
theorem X3_makeTurn_177 {kz : Nat × Nat} {Q : Option zV → zH → Prop} {d : List Nat} {G : Nat → Int → Option Nat} {E : Nat → Int → Int} {c1 : Nat} {c2 : Nat} {r4 : Nat} {v5 : Int} {v6 : Int} {v7 : Int} {v9 : Int} {v10 : Int} {v11 : Int} {s0 : Int} (hX : zK zXt d G) (hc1 : zCk d G c1) (hc2 : zCk d G c2) (hr4 : zRk d G r4) (K : (v6 ≠ 0 → Z zm_X3_makeTurn kz Q 191 [(0, zR 41), (1, zR c1), (2, zR c2), (4, zR r4), (5, zI v5), (7, zI v7), (9, zI v9), (12, zI s0)] [zI v10] (d, G, E)) ∧ (¬ (v6 ≠ 0) → Z zm_X3_makeTurn kz Q 191 [(0, zR 41), (1, zR c1), (2, zR c2), (4, zR r4), (5, zI v5), (7, zI v7), (9, zI v9), (12, zI s0)] [zI v11] (d, G, E))) : Z zm_X3_makeTurn kz Q 177 [(0, zR 41), (1, zR c1), (2, zR c2), (4, zR r4), (5, zI v5), (6, zI v6), (7, zI v7), (9, zI v9), (10, zI v10), (11, zI v11)] [zI s0] (d, G, E) := by
  refine Z.istore (ls' := [(12, zI s0), (0, zR 41), (1, zR c1), (2, zR c2), (4, zR r4), (5, zI v5), (6, zI v6), (7, zI v7), (9, zI v9), (10, zI v10), (11, zI v11)]) dX3_makeTurn_177 (by decide) rfl ?_
  refine Z.iload (k := 6) dX3_makeTurn_179 rfl ?_
  refine Z.if_ne 189 dX3_makeTurn_181 rfl ⟨fun c_1 => ?_, fun c_1 => ?_⟩
  · replace K := K.1 c_1
    refine Z.iload (k := 9) dX3_makeTurn_189 rfl ?_
    refine Z.pick (ls' := [(0, zR 41), (1, zR c1), (2, zR c2), (4, zR r4), (5, zI v5), (7, zI v7), (9, zI v9), (12, zI s0)]) [1, 2, 3, 4, 5, 7, 8, 0] rfl ?_
    exact K
  · replace K := K.2 c_1
    refine Z.iload (k := 10) dX3_makeTurn_184 rfl ?_
    refine Z.goto 191 dX3_makeTurn_186 rfl ?_
    refine Z.pick (ls' := [(0, zR 41), (1, zR c1), (2, zR c2), (4, zR r4), (5, zI v5), (7, zI v7), (9, zI v9), (12, zI s0)]) [1, 2, 3, 4, 5, 7, 8, 0] rfl ?_
    exact K
set_option maxRecDepth 20000 in
theorem X3_makeTurn_191 {kz : Nat × Nat} {Q : Option zV → zH → Prop} {d : List Nat} {G : Nat → Int → Option Nat} {E : Nat → Int → Int} {c1 : Nat} {c2 : Nat} {r4 : Nat} {v5 : Int} {v7 : Int} {v9 : Int} {v12 : Int} {s0 : Int} (hX : zK zXt d G) (hc1 : zCk d G c1) (hc2 : zCk d G c2) (hr4 : zRk d G r4) (K : ∃ E_1, zM zm_X9_layFirst [zR 20, zR ((c1 + 1))] (d, G, E) none (d, G, E_1) ∧ ∃ E_4, zM zm_X9_laySecond [zR 20, zR ((c2 + 1))] (d, G, E_1) none (d, G, E_4) ∧ zin (180 + v9) ∧ ∃ x_8 E_9, zM zm_X9_widen [zR 20, zI v12, zI ((180 + v9))] (d, G, E_4) (some (zI x_8)) (d, G, E_9) ∧ (x_8 ≠ 0 → ∃ x_13, zM zm_X8_after [zR 1, zR ((c1 + 1) + 1), zI s0] (d, G, E_9) (some (zI x_13)) (d, G, E_9) ∧ ∃ x_16, zM zm_X8_after [zR 1, zR ((c1 + 1) + 1), zI v12] (d, G, E_9) (some (zI x_16)) (d, G, E_9) ∧ ∃ x_19 E_20, zM zm_X3_sidesUnderIt [zR 41, zI v12, zI x_16, zI s0, zI x_13] (d, G, E_9) (some (zI x_19)) (d, G, E_20) ∧ (x_19 = 2 → ∃ x_24 E_25, zM zm_X3_writeAllBut [zR 41, zR ((c1 + 1)), zI v5, zI 0, zR r4] (d, G, E_20) (some (zI x_24)) (d, G, E_25) ∧ (x_24 = 0 → Q (some (zI 1)) (d, G, E_25)) ∧ (¬ (x_24 = 0) → ∃ x_29 E_30, zM zm_X3_writeTurned [zR 41, zR ((c2 + 1)), zI v7, zI v9, zI s0, zI x_13, zR r4] (d, G, E_25) (some (zI x_29)) (d, G, E_30) ∧ (x_29 = 0 → Q (some (zI 1)) (d, G, E_30)) ∧ (¬ (x_29 = 0) → Q (some (zI 2)) (d, G, E_30)))) ∧ (¬ (x_19 = 2) → Q (some (zI x_19)) (d, G, E_20))) ∧ (¬ (x_8 ≠ 0) → Q (some (zI 0)) (d, G, E_9))) : Z zm_X3_makeTurn kz Q 191 [(0, zR 41), (1, zR c1), (2, zR c2), (4, zR r4), (5, zI v5), (7, zI v7), (9, zI v9), (12, zI v12)] [zI s0] (d, G, E) := by
  refine Z.istore (ls' := [(13, zI s0), (0, zR 41), (1, zR c1), (2, zR c2), (4, zR r4), (5, zI v5), (7, zI v7), (9, zI v9), (12, zI v12)]) dX3_makeTurn_191 (by decide) rfl ?_
  refine Z.aload_n (k := 1) dX3_makeTurn_193 rfl ?_
  refine Y.getR (o := some 20) 2 dX3_makeTurn_194 zl_X3_19 (rfl) (by decide) rfl (zX_0_10 hX).2.2 (zX_41_2 hX).1 ?_
  refine Z.aload_n (k := 2) dX3_makeTurn_197 rfl ?_
  refine Y.getR (o := some ((c1 + 1))) 0 dX3_makeTurn_198 zl_X3_67 (congrArg Prod.fst hc1.1) (by decide) rfl hc1.2.1 hc1.2.2.2.1 ?_
  obtain ⟨E_1, m_2, K⟩ := K
  refine Y.callV (g := zm_X9_layFirst) (vs := [zR ((c1 + 1))]) (st := []) dX3_makeTurn_201 ⟨zg_X9_layFirst.1, zg_X9_layFirst.2.1, zg_X9_layFirst.2.2, by decide⟩ ⟨zk_X3_85, zv_X9_layFirst⟩ (ci := 9) (rfl) rfl ((zX_0_6 hX).2.2) rfl rfl (Nat.le_of_ble_eq_true rfl) m_2 (Or.inl rfl) ?_
  show Z zm_X3_makeTurn kz Q 204 [(13, zI s0), (0, zR 41), (1, zR c1), (2, zR c2), (4, zR r4), (5, zI v5), (7, zI v7), (9, zI v9), (12, zI v12)] [] (d, G, E_1)
  refine Z.aload_n (k := 1) dX3_makeTurn_204 rfl ?_
  refine Y.getR (o := some 20) 2 dX3_makeTurn_205 zl_X3_19 (rfl) (by decide) rfl (zX_0_10 hX).2.2 (zX_41_2 hX).1 ?_
  refine Z.aload_n (k := 3) dX3_makeTurn_208 rfl ?_
  refine Y.getR (o := some ((c2 + 1))) 0 dX3_makeTurn_209 zl_X3_67 (congrArg Prod.fst hc2.1) (by decide) rfl hc2.2.1 hc2.2.2.2.1 ?_
  obtain ⟨E_4, m_5, K⟩ := K
  refine Y.callV (g := zm_X9_laySecond) (vs := [zR ((c2 + 1))]) (st := []) dX3_makeTurn_212 ⟨zg_X9_laySecond.1, zg_X9_laySecond.2.1, zg_X9_laySecond.2.2, by decide⟩ ⟨zk_X3_91, zv_X9_laySecond⟩ (ci := 9) (rfl) rfl ((zX_0_6 hX).2.2) rfl rfl (Nat.le_of_ble_eq_true rfl) m_5 (Or.inl rfl) ?_
  show Z zm_X3_makeTurn kz Q 215 [(13, zI s0), (0, zR 41), (1, zR c1), (2, zR c2), (4, zR r4), (5, zI v5), (7, zI v7), (9, zI v9), (12, zI v12)] [] (d, G, E_4)
  refine Z.aload_n (k := 1) dX3_makeTurn_215 rfl ?_
  refine Y.getR (o := some 20) 2 dX3_makeTurn_216 zl_X3_19 (rfl) (by decide) rfl (zX_0_10 hX).2.2 (zX_41_2 hX).1 ?_
  refine Z.iload (k := 8) dX3_makeTurn_219 rfl ?_
  refine Z.sipush (n := 180) dX3_makeTurn_221 ⟨by decide, by decide⟩ (by decide) ?_
  refine Z.iload (k := 7) dX3_makeTurn_224 rfl ?_
  obtain ⟨z_7, K⟩ := K
  refine Z.iadd dX3_makeTurn_226 z_7 ?_
  obtain ⟨x_8, E_9, m_10, K⟩ := K
  refine Y.callV (g := zm_X9_widen) (vs := [zI v12, zI ((180 + v9))]) (st := []) dX3_makeTurn_227 ⟨zg_X9_widen.1, zg_X9_widen.2.1, zg_X9_widen.2.2, by decide⟩ ⟨zk_X3_94, zv_X9_widen⟩ (ci := 9) (rfl) rfl ((zX_0_6 hX).2.2) rfl rfl (Nat.le_of_ble_eq_true rfl) m_10 (Or.inl rfl) ?_
  show Z zm_X3_makeTurn kz Q 230 [(13, zI s0), (0, zR 41), (1, zR c1), (2, zR c2), (4, zR r4), (5, zI v5), (7, zI v7), (9, zI v9), (12, zI v12)] [zI x_8] (d, G, E_9)
  refine Z.if_ne 235 dX3_makeTurn_230 rfl ⟨fun c_12 => ?_, fun c_12 => ?_⟩
  · replace K := K.1 c_12
    refine Z.aload_n (k := 1) dX3_makeTurn_235 rfl ?_
    refine Y.getR (o := some 1) 0 dX3_makeTurn_236 zl_X3_9 (rfl) (by decide) rfl (zX_0_10 hX).2.2 (zX_41_0 hX).1 ?_
    refine Z.aload_n (k := 2) dX3_makeTurn_239 rfl ?_
    refine Y.getR (o := some ((c1 + 1))) 0 dX3_makeTurn_240 zl_X3_67 (congrArg Prod.fst hc1.1) (by decide) rfl hc1.2.1 hc1.2.2.2.1 ?_
    refine Y.getR (o := some ((c1 + 1) + 1)) 0 dX3_makeTurn_243 zl_X3_82 (congrArg Prod.fst hc1.2.2.1.1) (by decide) rfl hc1.2.2.1.2.2.2.2.1 hc1.2.2.1.2.2.2.2.2.2.2.2.1 ?_
    refine Z.iload (k := 0) dX3_makeTurn_246 rfl ?_
    obtain ⟨x_13, m_14, K⟩ := K
    refine Y.callV (g := zm_X8_after) (vs := [zR ((c1 + 1) + 1), zI s0]) (st := []) dX3_makeTurn_248 ⟨zg_X8_after.1, zg_X8_after.2.1, zg_X8_after.2.2, by decide⟩ ⟨zk_X3_105, zv_X8_after⟩ (ci := 8) (rfl) rfl ((zX_0_0 hX).2.2) rfl rfl (Nat.le_of_ble_eq_true rfl) m_14 (Or.inl rfl) ?_
    show Z zm_X3_makeTurn kz Q 251 [(13, zI s0), (0, zR 41), (1, zR c1), (2, zR c2), (4, zR r4), (5, zI v5), (7, zI v7), (9, zI v9), (12, zI v12)] [zI x_13] (d, G, E_9)
    refine Z.istore (ls' := [(14, zI x_13), (13, zI s0), (0, zR 41), (1, zR c1), (2, zR c2), (4, zR r4), (5, zI v5), (7, zI v7), (9, zI v9), (12, zI v12)]) dX3_makeTurn_251 (by decide) rfl ?_
    refine Z.aload_n (k := 2) dX3_makeTurn_253 rfl ?_
    refine Z.iload (k := 9) dX3_makeTurn_254 rfl ?_
    refine Z.aload_n (k := 2) dX3_makeTurn_256 rfl ?_
    refine Y.getR (o := some 1) 0 dX3_makeTurn_257 zl_X3_9 (rfl) (by decide) rfl (zX_0_10 hX).2.2 (zX_41_0 hX).1 ?_
    refine Z.aload_n (k := 3) dX3_makeTurn_260 rfl ?_
    refine Y.getR (o := some ((c1 + 1))) 0 dX3_makeTurn_261 zl_X3_67 (congrArg Prod.fst hc1.1) (by decide) rfl hc1.2.1 hc1.2.2.2.1 ?_
    refine Y.getR (o := some ((c1 + 1) + 1)) 0 dX3_makeTurn_264 zl_X3_82 (congrArg Prod.fst hc1.2.2.1.1) (by decide) rfl hc1.2.2.1.2.2.2.2.1 hc1.2.2.1.2.2.2.2.2.2.2.2.1 ?_
    refine Z.iload (k := 9) dX3_makeTurn_267 rfl ?_
    obtain ⟨x_16, m_17, K⟩ := K
    refine Y.callV (g := zm_X8_after) (vs := [zR ((c1 + 1) + 1), zI v12]) (st := [zI v12, zR 41]) dX3_makeTurn_269 ⟨zg_X8_after.1, zg_X8_after.2.1, zg_X8_after.2.2, by decide⟩ ⟨zk_X3_105, zv_X8_after⟩ (ci := 8) (rfl) rfl ((zX_0_0 hX).2.2) rfl rfl (Nat.le_of_ble_eq_true rfl) m_17 (Or.inl rfl) ?_
    show Z zm_X3_makeTurn kz Q 272 [(14, zI x_13), (13, zI s0), (0, zR 41), (1, zR c1), (2, zR c2), (4, zR r4), (5, zI v5), (7, zI v7), (9, zI v9), (12, zI v12)] [zI x_16, zI v12, zR 41] (d, G, E_9)
    refine Z.iload (k := 1) dX3_makeTurn_272 rfl ?_
    refine Z.iload (k := 0) dX3_makeTurn_274 rfl ?_
    obtain ⟨x_19, E_20, m_21, K⟩ := K
    refine Y.callV (g := zm_X3_sidesUnderIt) (vs := [zI v12, zI x_16, zI s0, zI x_13]) (st := []) dX3_makeTurn_276 ⟨zg_X3_sidesUnderIt.1, zg_X3_sidesUnderIt.2.1, zg_X3_sidesUnderIt.2.2, by decide⟩ ⟨zk_X3_115, zv_X3_sidesUnderIt⟩ (ci := 3) (rfl) rfl ((zX_0_10 hX).2.2) rfl rfl (Nat.le_of_ble_eq_true rfl) m_21 (Or.inl rfl) ?_
    show Z zm_X3_makeTurn kz Q 279 [(14, zI x_13), (13, zI s0), (0, zR 41), (1, zR c1), (2, zR c2), (4, zR r4), (5, zI v5), (7, zI v7), (9, zI v9), (12, zI v12)] [zI x_19] (d, G, E_20)
    refine Z.istore (ls' := [(15, zI x_19), (14, zI x_13), (13, zI s0), (0, zR 41), (1, zR c1), (2, zR c2), (4, zR r4), (5, zI v5), (7, zI v7), (9, zI v9), (12, zI v12)]) dX3_makeTurn_279 (by decide) rfl ?_
    refine Z.iload (k := 0) dX3_makeTurn_281 rfl ?_
    refine Z.iconst (n := 2) dX3_makeTurn_283 ⟨by decide, by decide⟩ ?_
    refine Z.icmp_eq 290 dX3_makeTurn_284 rfl ⟨fun c_23 => ?_, fun c_23 => ?_⟩
    · replace K := K.1 c_23
      refine Z.aload_n (k := 3) dX3_makeTurn_290 rfl ?_
      refine Z.aload_n (k := 4) dX3_makeTurn_291 rfl ?_
      refine Y.getR (o := some ((c1 + 1))) 0 dX3_makeTurn_292 zl_X3_67 (congrArg Prod.fst hc1.1) (by decide) rfl hc1.2.1 hc1.2.2.2.1 ?_
      refine Z.iload (k := 7) dX3_makeTurn_295 rfl ?_
      refine Z.iconst (n := 0) dX3_makeTurn_297 ⟨by decide, by decide⟩ ?_
      refine Z.aload (k := 6) dX3_makeTurn_298 rfl ?_
      obtain ⟨x_24, E_25, m_26, K⟩ := K
      refine Y.callV (g := zm_X3_writeAllBut) (vs := [zR ((c1 + 1)), zI v5, zI 0, zR r4]) (st := []) dX3_makeTurn_300 ⟨zg_X3_writeAllBut.1, zg_X3_writeAllBut.2.1, zg_X3_writeAllBut.2.2, by decide⟩ ⟨zk_X3_98, zv_X3_writeAllBut⟩ (ci := 3) (rfl) rfl ((zX_0_10 hX).2.2) rfl rfl (Nat.le_of_ble_eq_true rfl) m_26 (Or.inl rfl) ?_
      show Z zm_X3_makeTurn kz Q 303 [(15, zI x_19), (14, zI x_13), (13, zI s0), (0, zR 41), (1, zR c1), (2, zR c2), (4, zR r4), (5, zI v5), (7, zI v7), (9, zI v9), (12, zI v12)] [zI x_24] (d, G, E_25)
      refine Z.if_eq 331 dX3_makeTurn_303 rfl ⟨fun c_28 => ?_, fun c_28 => ?_⟩
      · replace K := K.1 c_28
        refine Z.iconst (n := 1) dX3_makeTurn_331 ⟨by decide, by decide⟩ ?_
        exact Z.iret (ty := .int) dX3_makeTurn_332 rfl rfl K
      · replace K := K.2 c_28
        refine Z.aload_n (k := 3) dX3_makeTurn_306 rfl ?_
        refine Z.aload_n (k := 5) dX3_makeTurn_307 rfl ?_
        refine Y.getR (o := some ((c2 + 1))) 0 dX3_makeTurn_308 zl_X3_67 (congrArg Prod.fst hc2.1) (by decide) rfl hc2.2.1 hc2.2.2.2.1 ?_
        refine Z.iload (k := 8) dX3_makeTurn_311 rfl ?_
        refine Z.iload (k := 9) dX3_makeTurn_313 rfl ?_
        refine Z.iload (k := 2) dX3_makeTurn_315 rfl ?_
        refine Z.iload (k := 1) dX3_makeTurn_317 rfl ?_
        refine Z.aload (k := 6) dX3_makeTurn_319 rfl ?_
        obtain ⟨x_29, E_30, m_31, K⟩ := K
        refine Y.callV (g := zm_X3_writeTurned) (vs := [zR ((c2 + 1)), zI v7, zI v9, zI s0, zI x_13, zR r4]) (st := []) dX3_makeTurn_321 ⟨zg_X3_writeTurned.1, zg_X3_writeTurned.2.1, zg_X3_writeTurned.2.2, by decide⟩ ⟨zk_X3_119, zv_X3_writeTurned⟩ (ci := 3) (rfl) rfl ((zX_0_10 hX).2.2) rfl rfl (Nat.le_of_ble_eq_true rfl) m_31 (Or.inl rfl) ?_
        show Z zm_X3_makeTurn kz Q 324 [(15, zI x_19), (14, zI x_13), (13, zI s0), (0, zR 41), (1, zR c1), (2, zR c2), (4, zR r4), (5, zI v5), (7, zI v7), (9, zI v9), (12, zI v12)] [zI x_29] (d, G, E_30)
        refine Z.if_eq 331 dX3_makeTurn_324 rfl ⟨fun c_33 => ?_, fun c_33 => ?_⟩
        · replace K := K.1 c_33
          refine Z.iconst (n := 1) dX3_makeTurn_331 ⟨by decide, by decide⟩ ?_
          exact Z.iret (ty := .int) dX3_makeTurn_332 rfl rfl K
        · replace K := K.2 c_33
          refine Z.iconst (n := 2) dX3_makeTurn_327 ⟨by decide, by decide⟩ ?_
          refine Z.goto 332 dX3_makeTurn_328 rfl ?_
          exact Z.iret (ty := .int) dX3_makeTurn_332 rfl rfl K
    · replace K := K.2 c_23
      refine Z.iload (k := 0) dX3_makeTurn_287 rfl ?_
      exact Z.iret (ty := .int) dX3_makeTurn_289 rfl rfl K
  · replace K := K.2 c_12
    refine Z.iconst (n := 0) dX3_makeTurn_233 ⟨by decide, by decide⟩ ?_
    exact Z.iret (ty := .int) dX3_makeTurn_234 rfl rfl K
set_option maxRecDepth 20000 in
theorem X3_make_0 {kz : Nat × Nat} {Q : Option zV → zH → Prop} {d : List Nat} {G : Nat → Int → Option Nat} {E : Nat → Int → Int} {a1 n1 : Nat} {v2 : Int} {r3 : Nat} (hX : zK zXt d G) (ha1 : a1 ∈ d) (hk1 : zkd a1 = (0, n1)) (hr3 : zRk d G r3) (K : ((0 : Int) ≤ 0 ∧ 0 < (n1 : Int)) ∧ ((E a1 0) < 1 → Q (some (zI 0)) (d, G, E)) ∧ (¬ ((E a1 0) < 1) → ((E a1 0) ≤ 4 → ((0 : Int) ≤ (E a1 0) ∧ (E a1 0) < (5 : Int)) ∧ ((0 : Int) ≤ (zsv 1 (E a1 0)) ∧ (zsv 1 (E a1 0)) < (n1 : Int)) ∧ ((0 : Int) ≤ (E a1 0) ∧ (E a1 0) < (5 : Int)) ∧ ((zsv 2 (E a1 0)) ≤ 0 → Z zm_X3_make kz Q 51 [(0, zR 41), (1, zR a1), (2, zI v2), (3, zR r3), (4, zI ((E a1 0))), (5, zI ((E a1 (zsv 1 (E a1 0)))))] [zI ((E a1 (zsv 1 (E a1 0))))] (d, G, E)) ∧ (¬ ((zsv 2 (E a1 0)) ≤ 0) → ((0 : Int) ≤ (E a1 0) ∧ (E a1 0) < (5 : Int)) ∧ ((0 : Int) ≤ (zsv 2 (E a1 0)) ∧ (zsv 2 (E a1 0)) < (n1 : Int)) ∧ Z zm_X3_make kz Q 51 [(0, zR 41), (1, zR a1), (2, zI v2), (3, zR r3), (4, zI ((E a1 0))), (5, zI ((E a1 (zsv 1 (E a1 0)))))] [zI ((E a1 (zsv 2 (E a1 0))))] (d, G, E))) ∧ (¬ ((E a1 0) ≤ 4) → Q (some (zI 0)) (d, G, E)))) : Z zm_X3_make kz Q 0 [(0, zR 41), (1, zR a1), (2, zI v2), (3, zR r3)] [] (d, G, E) := by
  refine Z.aload_n (k := 1) dX3_make_0 rfl ?_
  refine Z.iconst (n := 0) dX3_make_1 ⟨by decide, by decide⟩ ?_
  obtain ⟨z_1, K⟩ := K
  refine Y.iald dX3_make_2 (hk1) (ha1) z_1 ?_
  refine Z.istore (ls' := [(4, zI ((E a1 0))), (0, zR 41), (1, zR a1), (2, zI v2), (3, zR r3)]) dX3_make_3 (by decide) rfl ?_
  refine Z.iload (k := 0) dX3_make_5 rfl ?_
  refine Z.iconst (n := 1) dX3_make_7 ⟨by decide, by decide⟩ ?_
  refine Z.icmp_lt 17 dX3_make_8 rfl ⟨fun c_2 => ?_, fun c_2 => ?_⟩
  · replace K := K.1 c_2
    refine Z.iconst (n := 0) dX3_make_17 ⟨by decide, by decide⟩ ?_
    exact Z.iret (ty := .int) dX3_make_18 rfl rfl K
  · replace K := K.2 c_2
    refine Z.iload (k := 0) dX3_make_11 rfl ?_
    refine Z.iconst (n := 4) dX3_make_13 ⟨by decide, by decide⟩ ?_
    refine Z.icmp_le 19 dX3_make_14 rfl ⟨fun c_3 => ?_, fun c_3 => ?_⟩
    · replace K := K.1 c_3
      refine Z.aload_n (k := 2) dX3_make_19 rfl ?_
      refine Z.gets (j := 1) dX3_make_20 (by decide) zt_X3_27 ?_
      refine Z.iload (k := 0) dX3_make_23 rfl ?_
      obtain ⟨z_4, K⟩ := K
      refine Z.sald (j := 1) dX3_make_25 (by decide) z_4 ?_
      obtain ⟨z_5, K⟩ := K
      refine Y.iald dX3_make_26 (hk1) (ha1) z_5 ?_
      refine Z.istore (ls' := [(5, zI ((E a1 (zsv 1 (E a1 0))))), (4, zI ((E a1 0))), (0, zR 41), (1, zR a1), (2, zI v2), (3, zR r3)]) dX3_make_27 (by decide) rfl ?_
      refine Z.gets (j := 2) dX3_make_29 (by decide) zt_X3_31 ?_
      refine Z.iload (k := 1) dX3_make_32 rfl ?_
      obtain ⟨z_6, K⟩ := K
      refine Z.sald (j := 2) dX3_make_34 (by decide) z_6 ?_
      refine Z.if_le 49 dX3_make_35 rfl ⟨fun c_7 => ?_, fun c_7 => ?_⟩
      · replace K := K.1 c_7
        refine Z.iload (k := 0) dX3_make_49 rfl ?_
        refine Z.pick (ls' := [(0, zR 41), (1, zR a1), (2, zI v2), (3, zR r3), (4, zI ((E a1 0))), (5, zI ((E a1 (zsv 1 (E a1 0)))))]) [2, 3, 4, 5, 1, 0] rfl ?_
        exact K
      · replace K := K.2 c_7
        refine Z.aload_n (k := 3) dX3_make_38 rfl ?_
        refine Z.gets (j := 2) dX3_make_39 (by decide) zt_X3_31 ?_
        refine Z.iload (k := 1) dX3_make_42 rfl ?_
        obtain ⟨z_8, K⟩ := K
        refine Z.sald (j := 2) dX3_make_44 (by decide) z_8 ?_
        obtain ⟨z_9, K⟩ := K
        refine Y.iald dX3_make_45 (hk1) (ha1) z_9 ?_
        refine Z.goto 51 dX3_make_46 rfl ?_
        refine Z.pick (ls' := [(0, zR 41), (1, zR a1), (2, zI v2), (3, zR r3), (4, zI ((E a1 0))), (5, zI ((E a1 (zsv 1 (E a1 0)))))]) [2, 3, 4, 5, 1, 0] rfl ?_
        exact K
    · replace K := K.2 c_3
      refine Z.iconst (n := 0) dX3_make_17 ⟨by decide, by decide⟩ ?_
      exact Z.iret (ty := .int) dX3_make_18 rfl rfl K
set_option maxRecDepth 20000 in
theorem X3_make_51 {kz : Nat × Nat} {Q : Option zV → zH → Prop} {d : List Nat} {G : Nat → Int → Option Nat} {E : Nat → Int → Int} {a1 n1 : Nat} {v2 : Int} {r3 : Nat} {v4 : Int} {v5 : Int} {s0 : Int} (hX : zK zXt d G) (ha1 : a1 ∈ d) (hk1 : zkd a1 = (0, n1)) (hr3 : zRk d G r3) (K : (v2 ≤ v5 → Z zm_X3_make kz Q 72 [(0, zR 41), (1, zR a1), (2, zI v2), (3, zR r3), (4, zI v4), (6, zI s0)] [zO none] (d, G, E)) ∧ (¬ (v2 ≤ v5) → ∃ o_2, zM zm_X7_at [zR 5, zI v5] (d, G, E) (some (zO o_2)) (d, G, E) ∧ Z zm_X3_make kz Q 72 [(0, zR 41), (1, zR a1), (2, zI v2), (3, zR r3), (4, zI v4), (6, zI s0)] [zO o_2] (d, G, E))) : Z zm_X3_make kz Q 51 [(0, zR 41), (1, zR a1), (2, zI v2), (3, zR r3), (4, zI v4), (5, zI v5)] [zI s0] (d, G, E) := by
  refine Z.istore (ls' := [(6, zI s0), (0, zR 41), (1, zR a1), (2, zI v2), (3, zR r3), (4, zI v4), (5, zI v5)]) dX3_make_51 (by decide) rfl ?_
  refine Z.iload (k := 6) dX3_make_53 rfl ?_
  refine Z.iload_n (k := 3) dX3_make_55 rfl ?_
  refine Z.icmp_ge 71 dX3_make_56 rfl ⟨fun c_1 => ?_, fun c_1 => ?_⟩
  · replace K := K.1 c_1
    refine Z.null dX3_make_71 ?_
    refine Z.pick (ls' := [(0, zR 41), (1, zR a1), (2, zI v2), (3, zR r3), (4, zI v4), (6, zI s0)]) [1, 2, 3, 4, 5, 0] rfl ?_
    exact K
  · replace K := K.2 c_1
    refine Z.aload_n (k := 1) dX3_make_59 rfl ?_
    refine Y.getR (o := some 5) 3 dX3_make_60 zl_X3_23 (rfl) (by decide) rfl (zX_0_10 hX).2.2 (zX_41_3 hX).1 ?_
    refine Z.iload (k := 6) dX3_make_63 rfl ?_
    obtain ⟨o_2, m_3, K⟩ := K
    refine Y.callV (g := zm_X7_at) (vs := [zI v5]) (st := []) dX3_make_65 ⟨zg_X7_at.1, zg_X7_at.2.1, zg_X7_at.2.2, by decide⟩ ⟨zk_X3_34, zv_X7_at⟩ (ci := 7) (rfl) rfl ((zX_0_1 hX).2.2) rfl rfl (Nat.le_of_ble_eq_true rfl) m_3 (Or.inl rfl) ?_
    show Z zm_X3_make kz Q 68 [(6, zI s0), (0, zR 41), (1, zR a1), (2, zI v2), (3, zR r3), (4, zI v4), (5, zI v5)] [zO o_2] (d, G, E)
    refine Z.goto 72 dX3_make_68 rfl ?_
    refine Z.pick (ls' := [(0, zR 41), (1, zR a1), (2, zI v2), (3, zR r3), (4, zI v4), (6, zI s0)]) [1, 2, 3, 4, 5, 0] rfl ?_
    exact K
set_option maxRecDepth 20000 in
theorem X3_make_72 {kz : Nat × Nat} {Q : Option zV → zH → Prop} {d : List Nat} {G : Nat → Int → Option Nat} {E : Nat → Int → Int} {a1 n1 : Nat} {v2 : Int} {r3 : Nat} {v4 : Int} {v6 : Int} {t0 : Option Nat} (hX : zK zXt d G) (ha1 : a1 ∈ d) (hk1 : zkd a1 = (0, n1)) (hr3 : zRk d G r3) (K : (v2 ≤ v6 → (t0 = none → Q (some (zI 0)) (d, G, E)) ∧ (¬ (t0 = none) → Q (some (zI 0)) (d, G, E))) ∧ (¬ (v2 ≤ v6) → ∃ o_4, zM zm_X7_at [zR 5, zI v6] (d, G, E) (some (zO o_4)) (d, G, E) ∧ (t0 = none → Q (some (zI 0)) (d, G, E)) ∧ (¬ (t0 = none) → (o_4 ≠ none → ∃ E_9, zM zm_X5_empty [zR r3] (d, G, E) none (d, G, E_9) ∧ (v4 = 1 → ((0 : Int) ≤ 2 ∧ 2 < (n1 : Int)) ∧ ∃ x_14 E_15, zM zm_X3_makeClash [zR 41, zO t0, zI ((E_9 a1 2)), zO o_4, zR r3] (d, G, E_9) (some (zI x_14)) (d, G, E_15) ∧ Q (some (zI x_14)) (d, G, E_15)) ∧ (v4 = 2 → ((0 : Int) ≤ 2 ∧ 2 < (n1 : Int)) ∧ ((0 : Int) ≤ 3 ∧ 3 < (n1 : Int)) ∧ ∃ x_21 E_22, zM zm_X3_makeFactor [zR 41, zO t0, zI ((E_9 a1 2)), zI ((E_9 a1 3)), zR r3] (d, G, E_9) (some (zI x_21)) (d, G, E_22) ∧ Q (some (zI x_21)) (d, G, E_22)) ∧ (v4 = 3 → ∃ x_26 E_27, zM zm_X3_makeDrop [zR 41, zO t0, zR r3] (d, G, E_9) (some (zI x_26)) (d, G, E_27) ∧ Q (some (zI x_26)) (d, G, E_27)) ∧ ((v4 < 1 ∨ 3 < v4) → ∃ x_30 E_31, zM zm_X3_makeTurn [zR 41, zO t0, zO o_4, zR a1, zR r3] (d, G, E_9) (some (zI x_30)) (d, G, E_31) ∧ Q (some (zI x_30)) (d, G, E_31))) ∧ (¬ (o_4 ≠ none) → Q (some (zI 0)) (d, G, E))))) : Z zm_X3_make kz Q 72 [(0, zR 41), (1, zR a1), (2, zI v2), (3, zR r3), (4, zI v4), (6, zI v6)] [zO t0] (d, G, E) := by
  refine Z.astore (ls' := [(7, zO t0), (0, zR 41), (1, zR a1), (2, zI v2), (3, zR r3), (4, zI v4), (6, zI v6)]) dX3_make_72 (by decide) rfl ?_
  refine Z.iload (k := 6) dX3_make_74 rfl ?_
  refine Z.iload_n (k := 3) dX3_make_76 rfl ?_
  refine Z.icmp_ge 92 dX3_make_77 rfl ⟨fun c_1 => ?_, fun c_1 => ?_⟩
  · replace K := K.1 c_1
    refine Z.null dX3_make_92 ?_
    refine Z.astore (ls' := [(8, zO none), (7, zO t0), (0, zR 41), (1, zR a1), (2, zI v2), (3, zR r3), (4, zI v4), (6, zI v6)]) dX3_make_93 (by decide) rfl ?_
    refine Z.aload (k := 1) dX3_make_95 rfl ?_
    refine Z.ifnull 105 dX3_make_97 rfl ⟨fun c_2 => ?_, fun c_2 => ?_⟩
    · replace K := K.1 c_2
      refine Z.iconst (n := 0) dX3_make_105 ⟨by decide, by decide⟩ ?_
      exact Z.iret (ty := .int) dX3_make_106 rfl rfl K
    · replace K := K.2 c_2
      refine Z.aload (k := 0) dX3_make_100 rfl ?_
      refine Z.ifnonnull 107 dX3_make_102 rfl ⟨fun c_3 => absurd rfl c_3, fun _ => ?_⟩
      refine Z.iconst (n := 0) dX3_make_105 ⟨by decide, by decide⟩ ?_
      exact Z.iret (ty := .int) dX3_make_106 rfl rfl K
  · replace K := K.2 c_1
    refine Z.aload_n (k := 1) dX3_make_80 rfl ?_
    refine Y.getR (o := some 5) 3 dX3_make_81 zl_X3_23 (rfl) (by decide) rfl (zX_0_10 hX).2.2 (zX_41_3 hX).1 ?_
    refine Z.iload (k := 6) dX3_make_84 rfl ?_
    obtain ⟨o_4, m_5, K⟩ := K
    refine Y.callV (g := zm_X7_at) (vs := [zI v6]) (st := []) dX3_make_86 ⟨zg_X7_at.1, zg_X7_at.2.1, zg_X7_at.2.2, by decide⟩ ⟨zk_X3_34, zv_X7_at⟩ (ci := 7) (rfl) rfl ((zX_0_1 hX).2.2) rfl rfl (Nat.le_of_ble_eq_true rfl) m_5 (Or.inl rfl) ?_
    show Z zm_X3_make kz Q 89 [(7, zO t0), (0, zR 41), (1, zR a1), (2, zI v2), (3, zR r3), (4, zI v4), (6, zI v6)] [zO o_4] (d, G, E)
    refine Z.goto 93 dX3_make_89 rfl ?_
    refine Z.astore (ls' := [(8, zO o_4), (7, zO t0), (0, zR 41), (1, zR a1), (2, zI v2), (3, zR r3), (4, zI v4), (6, zI v6)]) dX3_make_93 (by decide) rfl ?_
    refine Z.aload (k := 1) dX3_make_95 rfl ?_
    refine Z.ifnull 105 dX3_make_97 rfl ⟨fun c_7 => ?_, fun c_7 => ?_⟩
    · replace K := K.1 c_7
      refine Z.iconst (n := 0) dX3_make_105 ⟨by decide, by decide⟩ ?_
      exact Z.iret (ty := .int) dX3_make_106 rfl rfl K
    · replace K := K.2 c_7
      refine Z.aload (k := 0) dX3_make_100 rfl ?_
      refine Z.ifnonnull 107 dX3_make_102 rfl ⟨fun c_8 => ?_, fun c_8 => ?_⟩
      · replace K := K.1 c_8
        refine Z.aload_n (k := 5) dX3_make_107 rfl ?_
        obtain ⟨E_9, m_10, K⟩ := K
        refine Y.callV (g := zm_X5_empty) (vs := []) (st := []) dX3_make_108 ⟨zg_X5_empty.1, zg_X5_empty.2.1, zg_X5_empty.2.2, by decide⟩ ⟨zk_X3_40, zv_X5_empty⟩ (ci := 5) (congrArg Prod.fst hr3.1) rfl (hr3.2.2.2.2.1) rfl rfl (Nat.le_of_ble_eq_true rfl) m_10 (Or.inl rfl) ?_
        show Z zm_X3_make kz Q 111 [(8, zO o_4), (7, zO t0), (0, zR 41), (1, zR a1), (2, zI v2), (3, zR r3), (4, zI v4), (6, zI v6)] [] (d, G, E_9)
        refine Z.iload (k := 6) dX3_make_111 rfl ?_
        by_cases c_12 : v4 = 1
        · replace K := K.1 c_12
          refine Z.tableIn (off := 27) 140 dX3_make_113 (by omega) (by omega) (by rw [c_12]; rfl) rfl ?_
          refine Z.aload_n (k := 2) dX3_make_140 rfl ?_
          refine Z.aload (k := 1) dX3_make_141 rfl ?_
          refine Z.aload_n (k := 3) dX3_make_143 rfl ?_
          refine Z.iconst (n := 2) dX3_make_144 ⟨by decide, by decide⟩ ?_
          obtain ⟨z_13, K⟩ := K
          refine Y.iald dX3_make_145 (hk1) (ha1) z_13 ?_
          refine Z.aload (k := 0) dX3_make_146 rfl ?_
          refine Z.aload_n (k := 5) dX3_make_148 rfl ?_
          obtain ⟨x_14, E_15, m_16, K⟩ := K
          refine Y.callV (g := zm_X3_makeClash) (vs := [zO t0, zI ((E_9 a1 2)), zO o_4, zR r3]) (st := []) dX3_make_149 ⟨zg_X3_makeClash.1, zg_X3_makeClash.2.1, zg_X3_makeClash.2.2, by decide⟩ ⟨zk_X3_45, zv_X3_makeClash⟩ (ci := 3) (rfl) rfl ((zX_0_10 hX).2.2) rfl rfl (Nat.le_of_ble_eq_true rfl) m_16 (Or.inl rfl) ?_
          show Z zm_X3_make kz Q 152 [(8, zO o_4), (7, zO t0), (0, zR 41), (1, zR a1), (2, zI v2), (3, zR r3), (4, zI v4), (6, zI v6)] [zI x_14] (d, G, E_15)
          exact Z.iret (ty := .int) dX3_make_152 rfl rfl K
        replace K := K.2
        by_cases c_18 : v4 = 2
        · replace K := K.1 c_18
          refine Z.tableIn (off := 40) 153 dX3_make_113 (by omega) (by omega) (by rw [c_18]; rfl) rfl ?_
          refine Z.aload_n (k := 2) dX3_make_153 rfl ?_
          refine Z.aload (k := 1) dX3_make_154 rfl ?_
          refine Z.aload_n (k := 3) dX3_make_156 rfl ?_
          refine Z.iconst (n := 2) dX3_make_157 ⟨by decide, by decide⟩ ?_
          obtain ⟨z_19, K⟩ := K
          refine Y.iald dX3_make_158 (hk1) (ha1) z_19 ?_
          refine Z.aload_n (k := 3) dX3_make_159 rfl ?_
          refine Z.iconst (n := 3) dX3_make_160 ⟨by decide, by decide⟩ ?_
          obtain ⟨z_20, K⟩ := K
          refine Y.iald dX3_make_161 (hk1) (ha1) z_20 ?_
          refine Z.aload_n (k := 5) dX3_make_162 rfl ?_
          obtain ⟨x_21, E_22, m_23, K⟩ := K
          refine Y.callV (g := zm_X3_makeFactor) (vs := [zO t0, zI ((E_9 a1 2)), zI ((E_9 a1 3)), zR r3]) (st := []) dX3_make_163 ⟨zg_X3_makeFactor.1, zg_X3_makeFactor.2.1, zg_X3_makeFactor.2.2, by decide⟩ ⟨zk_X3_49, zv_X3_makeFactor⟩ (ci := 3) (rfl) rfl ((zX_0_10 hX).2.2) rfl rfl (Nat.le_of_ble_eq_true rfl) m_23 (Or.inl rfl) ?_
          show Z zm_X3_make kz Q 166 [(8, zO o_4), (7, zO t0), (0, zR 41), (1, zR a1), (2, zI v2), (3, zR r3), (4, zI v4), (6, zI v6)] [zI x_21] (d, G, E_22)
          exact Z.iret (ty := .int) dX3_make_166 rfl rfl K
        replace K := K.2
        by_cases c_25 : v4 = 3
        · replace K := K.1 c_25
          refine Z.tableIn (off := 54) 167 dX3_make_113 (by omega) (by omega) (by rw [c_25]; rfl) rfl ?_
          refine Z.aload_n (k := 2) dX3_make_167 rfl ?_
          refine Z.aload (k := 1) dX3_make_168 rfl ?_
          refine Z.aload_n (k := 5) dX3_make_170 rfl ?_
          obtain ⟨x_26, E_27, m_28, K⟩ := K
          refine Y.callV (g := zm_X3_makeDrop) (vs := [zO t0, zR r3]) (st := []) dX3_make_171 ⟨zg_X3_makeDrop.1, zg_X3_makeDrop.2.1, zg_X3_makeDrop.2.2, by decide⟩ ⟨zk_X3_53, zv_X3_makeDrop⟩ (ci := 3) (rfl) rfl ((zX_0_10 hX).2.2) rfl rfl (Nat.le_of_ble_eq_true rfl) m_28 (Or.inl rfl) ?_
          show Z zm_X3_make kz Q 174 [(8, zO o_4), (7, zO t0), (0, zR 41), (1, zR a1), (2, zI v2), (3, zR r3), (4, zI v4), (6, zI v6)] [zI x_26] (d, G, E_27)
          exact Z.iret (ty := .int) dX3_make_174 rfl rfl K
        replace K := K.2
        have hd0 : v4 < 1 ∨ 3 < v4 := by omega
        replace K := K hd0
        refine Z.tableOut 175 dX3_make_113 hd0 rfl ?_
        refine Z.aload_n (k := 2) dX3_make_175 rfl ?_
        refine Z.aload (k := 1) dX3_make_176 rfl ?_
        refine Z.aload (k := 0) dX3_make_178 rfl ?_
        refine Z.aload_n (k := 3) dX3_make_180 rfl ?_
        refine Z.aload_n (k := 5) dX3_make_181 rfl ?_
        obtain ⟨x_30, E_31, m_32, K⟩ := K
        refine Y.callV (g := zm_X3_makeTurn) (vs := [zO t0, zO o_4, zR a1, zR r3]) (st := []) dX3_make_182 ⟨zg_X3_makeTurn.1, zg_X3_makeTurn.2.1, zg_X3_makeTurn.2.2, by decide⟩ ⟨zk_X3_57, zv_X3_makeTurn⟩ (ci := 3) (rfl) rfl ((zX_0_10 hX).2.2) rfl rfl (Nat.le_of_ble_eq_true rfl) m_32 (Or.inl rfl) ?_
        show Z zm_X3_make kz Q 185 [(8, zO o_4), (7, zO t0), (0, zR 41), (1, zR a1), (2, zI v2), (3, zR r3), (4, zI v4), (6, zI v6)] [zI x_30] (d, G, E_31)
        exact Z.iret (ty := .int) dX3_make_185 rfl rfl K
      · replace K := K.2 c_8
        refine Z.iconst (n := 0) dX3_make_105 ⟨by decide, by decide⟩ ?_
        exact Z.iret (ty := .int) dX3_make_106 rfl rfl K
