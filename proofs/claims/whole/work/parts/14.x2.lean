set_option maxRecDepth 20000 in
theorem X2_init_0 {kz : Nat × Nat} {Q : Option zV → zH → Prop} {d : List Nat} {G : Nat → Int → Option Nat} {E : Nat → Int → Int}  (hm30 : 30 ∈ d) (hm1 : 1 ∈ d) (hm18 : 18 ∈ d) (K : ∃ a1, zkd a1 = (0, (30 : Int).toNat) ∧ (0 : Int) ≤ 30 ∧ 30 ≤ (100000 : Int) ∧ a1 ∉ d ∧ ¬ zst3 a1 ∧ d.length + 1 ≤ kz.1 ∧ zsl d + (zkd a1).2 ≤ kz.2 ∧ ∀ d9 G10 E11, d9 = d ++ [a1] → G10 = zclG G a1 → E11 = zclE E a1 → (∀ G12, G12 = zuG G10 30 2 (some a1) → ∃ a13, zkd a13 = (0, (40 : Int).toNat) ∧ (0 : Int) ≤ 40 ∧ 40 ≤ (100000 : Int) ∧ a13 ∉ d9 ∧ ¬ zst3 a13 ∧ d9.length + 1 ≤ kz.1 ∧ zsl d9 + (zkd a13).2 ≤ kz.2 ∧ ∀ d21 G22 E23, d21 = d9 ++ [a13] → G22 = zclG G12 a13 → E23 = zclE E11 a13 → (∀ G24, G24 = zuG G22 30 3 (some a13) → ∀ E25, E25 = zuE E23 30 4 0 → ∀ G26, G26 = zuG G24 30 0 (some 1) → ∀ G27, G27 = zuG G26 30 1 (some 18) → Q none (d21, G27, E25)))) : Z zm_X2_init kz Q 0 [(0, zR 30), (1, zR 1), (2, zR 18)] [] (d, G, E) := by
  refine Z.aload_n (k := 0) dX2_init_0 rfl ?_
  refine Z.objInit (a := 30) dX2_init_1 zk_X2_3 ⟨by decide, by decide⟩ (Nat.le_of_ble_eq_true rfl) ?_
  refine Z.aload_n (k := 0) dX2_init_4 rfl ?_
  refine Z.bipush (n := 30) dX2_init_5 ⟨by decide, by decide⟩ (by decide) ?_
  obtain ⟨a1, z2, z3, z4, z5, z6, z7, z8, K⟩ := K
  refine Y.newI a1 dX2_init_7 z2 z3 z4 zai z5 z6 z7 z8 ?_
  generalize ed9 : d ++ [a1] = d9
  generalize eG10 : zclG G a1 = G10
  generalize eE11 : zclE E a1 = E11
  replace K := K d9 G10 E11 ed9.symm eG10.symm eE11.symm
  refine Y.putR 2 dX2_init_9 zw_X2_9 (fun _ => ⟨rfl, rfl⟩) (rfl) rfl (by rw [← ed9]; exact List.mem_append_left _ (hm30)) (fun b hb => by cases hb; exact (by rw [← ed9]; exact List.mem_append_right _ List.mem_cons_self)) ?_
  generalize eG12 : zuG G10 30 2 (some a1) = G12
  replace K := K G12 eG12.symm
  refine Z.aload_n (k := 0) dX2_init_12 rfl ?_
  refine Z.bipush (n := 40) dX2_init_13 ⟨by decide, by decide⟩ (by decide) ?_
  obtain ⟨a13, z14, z15, z16, z17, z18, z19, z20, K⟩ := K
  refine Y.newI a13 dX2_init_15 z14 z15 z16 zai z17 z18 z19 z20 ?_
  generalize ed21 : d9 ++ [a13] = d21
  generalize eG22 : zclG G12 a13 = G22
  generalize eE23 : zclE E11 a13 = E23
  replace K := K d21 G22 E23 ed21.symm eG22.symm eE23.symm
  refine Y.putR 3 dX2_init_17 zw_X2_15 (fun _ => ⟨rfl, rfl⟩) (rfl) rfl (by rw [← ed21]; exact List.mem_append_left _ ((by rw [← ed9]; exact List.mem_append_left _ (hm30)))) (fun b hb => by cases hb; exact (by rw [← ed21]; exact List.mem_append_right _ List.mem_cons_self)) ?_
  generalize eG24 : zuG G22 30 3 (some a13) = G24
  replace K := K G24 eG24.symm
  refine Z.aload_n (k := 0) dX2_init_20 rfl ?_
  refine Z.iconst (n := 0) dX2_init_21 ⟨by decide, by decide⟩ ?_
  refine Y.putI 4 dX2_init_22 zw_X2_18 (fun q => by cases q) (rfl) rfl (by rw [← ed21]; exact List.mem_append_left _ ((by rw [← ed9]; exact List.mem_append_left _ (hm30)))) (Or.inl rfl) ?_
  generalize eE25 : zuE E23 30 4 0 = E25
  replace K := K E25 eE25.symm
  refine Z.aload_n (k := 0) dX2_init_25 rfl ?_
  refine Z.aload_n (k := 1) dX2_init_26 rfl ?_
  refine Y.putR 0 dX2_init_27 zw_X2_22 (fun _ => ⟨rfl, rfl⟩) (rfl) rfl (by rw [← ed21]; exact List.mem_append_left _ ((by rw [← ed9]; exact List.mem_append_left _ (hm30)))) (fun b hb => by cases hb; exact (by rw [← ed21]; exact List.mem_append_left _ ((by rw [← ed9]; exact List.mem_append_left _ (hm1))))) ?_
  generalize eG26 : zuG G24 30 0 (some 1) = G26
  replace K := K G26 eG26.symm
  refine Z.aload_n (k := 0) dX2_init_30 rfl ?_
  refine Z.aload_n (k := 2) dX2_init_31 rfl ?_
  refine Y.putR 1 dX2_init_32 zw_X2_26 (fun _ => ⟨rfl, rfl⟩) (rfl) rfl (by rw [← ed21]; exact List.mem_append_left _ ((by rw [← ed9]; exact List.mem_append_left _ (hm30)))) (fun b hb => by cases hb; exact (by rw [← ed21]; exact List.mem_append_left _ ((by rw [← ed9]; exact List.mem_append_left _ (hm18))))) ?_
  generalize eG27 : zuG G26 30 1 (some 18) = G27
  replace K := K G27 eG27.symm
  exact Z.vret dX2_init_35 rfl K
set_option maxRecDepth 20000 in
theorem X2_sortSides_0 {kz : Nat × Nat} {Q : Option zV → zH → Prop} {d : List Nat} {G : Nat → Int → Option Nat} {E : Nat → Int → Int} {r1 : Nat} {v2 : Int} (hX : zK zXt d G) (hr1 : zRk d G r1) (K : ((0 : Int) ≤ v2 ∧ v2 < 7) ∧ zin ((E (r1 + 2) v2) + 1) ∧ ∃ x3, zM zm_X8_after [zR 1, zR (r1 + 1), zI (((E (r1 + 2) v2) + 1))] (d, G, E) (some (zI x3)) (d, G, E) ∧ ∃ x6 E7, zM zm_X6_compare [zR 18, zR (r1 + 1), zI x3, zR (r1 + 1), zI (((E (r1 + 2) v2) + 1))] (d, G, E) (some (zI x6)) (d, G, E7) ∧ (x6 = 1 → zin (x3 - ((E (r1 + 2) v2) + 1)) ∧ zin (v2 + 1) ∧ ((0 : Int) ≤ (v2 + 1) ∧ (v2 + 1) < 7) ∧ zin ((E7 (r1 + 2) (v2 + 1)) - x3) ∧ ((0 : Int) ≤ ((E (r1 + 2) v2) + 1) ∧ (0 : Int) ≤ 0 ∧ (0 : Int) ≤ (x3 - ((E (r1 + 2) v2) + 1)) ∧ ((E (r1 + 2) v2) + 1) + (x3 - ((E (r1 + 2) v2) + 1)) ≤ 180 ∧ 0 + (x3 - ((E (r1 + 2) v2) + 1)) ≤ 30) ∧ ∀ E16, E16 = zcpE E7 (r1 + 1) (((E (r1 + 2) v2) + 1)) 31 0 ((x3 - ((E (r1 + 2) v2) + 1))) → ((0 : Int) ≤ x3 ∧ (0 : Int) ≤ ((E (r1 + 2) v2) + 1) ∧ (0 : Int) ≤ ((E7 (r1 + 2) (v2 + 1)) - x3) ∧ x3 + ((E7 (r1 + 2) (v2 + 1)) - x3) ≤ 180 ∧ ((E (r1 + 2) v2) + 1) + ((E7 (r1 + 2) (v2 + 1)) - x3) ≤ 180) ∧ ∀ E18, E18 = zcpE E16 (r1 + 1) x3 (r1 + 1) (((E (r1 + 2) v2) + 1)) (((E7 (r1 + 2) (v2 + 1)) - x3)) → zin (((E (r1 + 2) v2) + 1) + ((E7 (r1 + 2) (v2 + 1)) - x3)) ∧ ((0 : Int) ≤ 0 ∧ (0 : Int) ≤ (((E (r1 + 2) v2) + 1) + ((E7 (r1 + 2) (v2 + 1)) - x3)) ∧ (0 : Int) ≤ (x3 - ((E (r1 + 2) v2) + 1)) ∧ 0 + (x3 - ((E (r1 + 2) v2) + 1)) ≤ 30 ∧ (((E (r1 + 2) v2) + 1) + ((E7 (r1 + 2) (v2 + 1)) - x3)) + (x3 - ((E (r1 + 2) v2) + 1)) ≤ 180) ∧ ∀ E21, E21 = zcpE E18 31 0 (r1 + 1) ((((E (r1 + 2) v2) + 1) + ((E7 (r1 + 2) (v2 + 1)) - x3))) ((x3 - ((E (r1 + 2) v2) + 1))) → Q none (d, G, E21)) ∧ (¬ (x6 = 1) → Q none (d, G, E7))) : Z zm_X2_sortSides kz Q 0 [(0, zR 30), (1, zR r1), (2, zI v2)] [] (d, G, E) := by
  refine Z.aload_n (k := 1) dX2_sortSides_0 rfl ?_
  refine Y.getR (o := some (r1 + 2)) 1 dX2_sortSides_1 zl_X2_55 (congrArg Prod.fst hr1.1) (by decide) rfl hr1.2.2.2.2.1 hr1.2.2.2.2.2.2.2.2.2.1 ?_
  refine Z.iload_n (k := 2) dX2_sortSides_4 rfl ?_
  obtain ⟨z1, K⟩ := K
  refine Y.iald dX2_sortSides_5 (hr1.2.2.1) (hr1.2.2.2.2.2.2.1) z1 ?_
  refine Z.iconst (n := 1) dX2_sortSides_6 ⟨by decide, by decide⟩ ?_
  obtain ⟨z2, K⟩ := K
  refine Z.iadd dX2_sortSides_7 z2 ?_
  refine Z.istore_n (ls' := [(3, zI (((E (r1 + 2) v2) + 1))), (0, zR 30), (1, zR r1), (2, zI v2)]) dX2_sortSides_8 (by decide) rfl ?_
  refine Z.aload_n (k := 1) dX2_sortSides_9 rfl ?_
  refine Y.getR (o := some 1) 0 dX2_sortSides_10 zl_X2_22 (rfl) (by decide) rfl (zX_0_7 hX).2.2 (zX_30_0 hX).1 ?_
  refine Z.aload_n (k := 2) dX2_sortSides_13 rfl ?_
  refine Y.getR (o := some (r1 + 1)) 0 dX2_sortSides_14 zl_X2_58 (congrArg Prod.fst hr1.1) (by decide) rfl hr1.2.2.2.2.1 hr1.2.2.2.2.2.2.2.2.1 ?_
  refine Z.iload_n (k := 0) dX2_sortSides_17 rfl ?_
  obtain ⟨x3, m4, K⟩ := K
  refine Y.callV (g := zm_X8_after) (vs := [zR (r1 + 1), zI (((E (r1 + 2) v2) + 1))]) (st := []) dX2_sortSides_18 ⟨zg_X8_after.1, zg_X8_after.2.1, zg_X8_after.2.2, by decide⟩ ⟨zk_X2_61, zv_X8_after⟩ (ci := 8) (rfl) rfl ((zX_0_0 hX).2.2) rfl rfl (Nat.le_of_ble_eq_true rfl) m4 (Or.inl rfl) ?_
  show Z zm_X2_sortSides kz Q 21 [(3, zI (((E (r1 + 2) v2) + 1))), (0, zR 30), (1, zR r1), (2, zI v2)] [zI x3] (d, G, E)
  refine Z.istore (ls' := [(4, zI x3), (3, zI (((E (r1 + 2) v2) + 1))), (0, zR 30), (1, zR r1), (2, zI v2)]) dX2_sortSides_21 (by decide) rfl ?_
  refine Z.aload_n (k := 2) dX2_sortSides_23 rfl ?_
  refine Y.getR (o := some 18) 1 dX2_sortSides_24 zl_X2_26 (rfl) (by decide) rfl (zX_0_7 hX).2.2 (zX_30_1 hX).1 ?_
  refine Z.aload_n (k := 3) dX2_sortSides_27 rfl ?_
  refine Y.getR (o := some (r1 + 1)) 0 dX2_sortSides_28 zl_X2_58 (congrArg Prod.fst hr1.1) (by decide) rfl hr1.2.2.2.2.1 hr1.2.2.2.2.2.2.2.2.1 ?_
  refine Z.iload (k := 0) dX2_sortSides_31 rfl ?_
  refine Z.aload_n (k := 3) dX2_sortSides_33 rfl ?_
  refine Y.getR (o := some (r1 + 1)) 0 dX2_sortSides_34 zl_X2_58 (congrArg Prod.fst hr1.1) (by decide) rfl hr1.2.2.2.2.1 hr1.2.2.2.2.2.2.2.2.1 ?_
  refine Z.iload_n (k := 1) dX2_sortSides_37 rfl ?_
  obtain ⟨x6, E7, m8, K⟩ := K
  refine Y.callV (g := zm_X6_compare) (vs := [zR (r1 + 1), zI x3, zR (r1 + 1), zI (((E (r1 + 2) v2) + 1))]) (st := []) dX2_sortSides_38 ⟨zg_X6_compare.1, zg_X6_compare.2.1, zg_X6_compare.2.2, by decide⟩ ⟨zk_X2_67, zv_X6_compare⟩ (ci := 6) (rfl) rfl ((zX_0_5 hX).2.2) rfl rfl (Nat.le_of_ble_eq_true rfl) m8 (Or.inl rfl) ?_
  show Z zm_X2_sortSides kz Q 41 [(4, zI x3), (3, zI (((E (r1 + 2) v2) + 1))), (0, zR 30), (1, zR r1), (2, zI v2)] [zI x6] (d, G, E7)
  refine Z.iconst (n := 1) dX2_sortSides_41 ⟨by decide, by decide⟩ ?_
  refine Z.icmp_eq 46 dX2_sortSides_42 rfl ⟨fun c10 => ?_, fun c10 => ?_⟩
  · replace K := K.1 c10
    refine Z.iload (k := 0) dX2_sortSides_46 rfl ?_
    refine Z.iload_n (k := 1) dX2_sortSides_48 rfl ?_
    obtain ⟨z11, K⟩ := K
    refine Z.isub dX2_sortSides_49 z11 ?_
    refine Z.istore (ls' := [(5, zI ((x3 - ((E (r1 + 2) v2) + 1)))), (4, zI x3), (3, zI (((E (r1 + 2) v2) + 1))), (0, zR 30), (1, zR r1), (2, zI v2)]) dX2_sortSides_50 (by decide) rfl ?_
    refine Z.aload_n (k := 4) dX2_sortSides_52 rfl ?_
    refine Y.getR (o := some (r1 + 2)) 1 dX2_sortSides_53 zl_X2_55 (congrArg Prod.fst hr1.1) (by decide) rfl hr1.2.2.2.2.1 hr1.2.2.2.2.2.2.2.2.2.1 ?_
    refine Z.iload_n (k := 5) dX2_sortSides_56 rfl ?_
    refine Z.iconst (n := 1) dX2_sortSides_57 ⟨by decide, by decide⟩ ?_
    obtain ⟨z12, K⟩ := K
    refine Z.iadd dX2_sortSides_58 z12 ?_
    obtain ⟨z13, K⟩ := K
    refine Y.iald dX2_sortSides_59 (hr1.2.2.1) (hr1.2.2.2.2.2.2.1) z13 ?_
    refine Z.iload (k := 1) dX2_sortSides_60 rfl ?_
    obtain ⟨z14, K⟩ := K
    refine Z.isub dX2_sortSides_62 z14 ?_
    refine Z.istore (ls' := [(6, zI (((E7 (r1 + 2) (v2 + 1)) - x3))), (5, zI ((x3 - ((E (r1 + 2) v2) + 1)))), (4, zI x3), (3, zI (((E (r1 + 2) v2) + 1))), (0, zR 30), (1, zR r1), (2, zI v2)]) dX2_sortSides_63 (by decide) rfl ?_
    refine Z.aload_n (k := 5) dX2_sortSides_65 rfl ?_
    refine Y.getR (o := some (r1 + 1)) 0 dX2_sortSides_66 zl_X2_58 (congrArg Prod.fst hr1.1) (by decide) rfl hr1.2.2.2.2.1 hr1.2.2.2.2.2.2.2.2.1 ?_
    refine Z.iload_n (k := 3) dX2_sortSides_69 rfl ?_
    refine Z.aload_n (k := 4) dX2_sortSides_70 rfl ?_
    refine Y.getR (o := some 31) 2 dX2_sortSides_71 zl_X2_9 (rfl) (by decide) rfl (zX_0_7 hX).2.2 (zX_30_2 hX).1 ?_
    refine Z.iconst (n := 0) dX2_sortSides_74 ⟨by decide, by decide⟩ ?_
    refine Z.iload (k := 1) dX2_sortSides_75 rfl ?_
    obtain ⟨z15, K⟩ := K
    refine Y.copy dX2_sortSides_77 zk_X2_73 zcopy ⟨by decide, by decide⟩ (Nat.le_of_ble_eq_true rfl) (hr1.2.1) (rfl) (hr1.2.2.2.2.2.1) ((zX_30_2 hX).2.2) z15 ?_
    generalize eE16 : zcpE E7 (r1 + 1) (((E (r1 + 2) v2) + 1)) 31 0 ((x3 - ((E (r1 + 2) v2) + 1))) = E16
    replace K := K E16 eE16.symm
    refine Z.aload_n (k := 5) dX2_sortSides_80 rfl ?_
    refine Y.getR (o := some (r1 + 1)) 0 dX2_sortSides_81 zl_X2_58 (congrArg Prod.fst hr1.1) (by decide) rfl hr1.2.2.2.2.1 hr1.2.2.2.2.2.2.2.2.1 ?_
    refine Z.iload (k := 2) dX2_sortSides_84 rfl ?_
    refine Z.aload_n (k := 5) dX2_sortSides_86 rfl ?_
    refine Y.getR (o := some (r1 + 1)) 0 dX2_sortSides_87 zl_X2_58 (congrArg Prod.fst hr1.1) (by decide) rfl hr1.2.2.2.2.1 hr1.2.2.2.2.2.2.2.2.1 ?_
    refine Z.iload_n (k := 3) dX2_sortSides_90 rfl ?_
    refine Z.iload (k := 0) dX2_sortSides_91 rfl ?_
    obtain ⟨z17, K⟩ := K
    refine Y.copy dX2_sortSides_93 zk_X2_73 zcopy ⟨by decide, by decide⟩ (Nat.le_of_ble_eq_true rfl) (hr1.2.1) (hr1.2.1) (hr1.2.2.2.2.2.1) (hr1.2.2.2.2.2.1) z17 ?_
    generalize eE18 : zcpE E16 (r1 + 1) x3 (r1 + 1) (((E (r1 + 2) v2) + 1)) (((E7 (r1 + 2) (v2 + 1)) - x3)) = E18
    replace K := K E18 eE18.symm
    refine Z.aload_n (k := 4) dX2_sortSides_96 rfl ?_
    refine Y.getR (o := some 31) 2 dX2_sortSides_97 zl_X2_9 (rfl) (by decide) rfl (zX_0_7 hX).2.2 (zX_30_2 hX).1 ?_
    refine Z.iconst (n := 0) dX2_sortSides_100 ⟨by decide, by decide⟩ ?_
    refine Z.aload_n (k := 5) dX2_sortSides_101 rfl ?_
    refine Y.getR (o := some (r1 + 1)) 0 dX2_sortSides_102 zl_X2_58 (congrArg Prod.fst hr1.1) (by decide) rfl hr1.2.2.2.2.1 hr1.2.2.2.2.2.2.2.2.1 ?_
    refine Z.iload_n (k := 3) dX2_sortSides_105 rfl ?_
    refine Z.iload (k := 0) dX2_sortSides_106 rfl ?_
    obtain ⟨z19, K⟩ := K
    refine Z.iadd dX2_sortSides_108 z19 ?_
    refine Z.iload (k := 1) dX2_sortSides_109 rfl ?_
    obtain ⟨z20, K⟩ := K
    refine Y.copy dX2_sortSides_111 zk_X2_73 zcopy ⟨by decide, by decide⟩ (Nat.le_of_ble_eq_true rfl) (rfl) (hr1.2.1) ((zX_30_2 hX).2.2) (hr1.2.2.2.2.2.1) z20 ?_
    generalize eE21 : zcpE E18 31 0 (r1 + 1) ((((E (r1 + 2) v2) + 1) + ((E7 (r1 + 2) (v2 + 1)) - x3))) ((x3 - ((E (r1 + 2) v2) + 1))) = E21
    replace K := K E21 eE21.symm
    exact Z.vret dX2_sortSides_114 rfl K
  · replace K := K.2 c10
    exact Z.vret dX2_sortSides_45 rfl K
set_option maxRecDepth 20000 in
theorem X2_goes_0 {kz : Nat × Nat} {Q : Option zV → zH → Prop} {d : List Nat} {G : Nat → Int → Option Nat} {E : Nat → Int → Int} {r1 : Nat} {v2 : Int} (hX : zK zXt d G) (hr1 : zRk d G r1) (K : ((0 : Int) ≤ v2 ∧ v2 < 6) ∧ ((E (r1 + 3) v2) = 0 → Z zm_X2_goes kz Q 33 [(1, zR r1), (2, zI v2), (3, zI 0)] [] (d, G, E)) ∧ (¬ ((E (r1 + 3) v2) = 0) → ∃ x3, zM zm_X5_isEqual [zR r1, zI v2] (d, G, E) (some (zI x3)) (d, G, E) ∧ (x3 = 0 → Z zm_X2_goes kz Q 33 [(1, zR r1), (2, zI v2), (3, zI 0)] [] (d, G, E)) ∧ (¬ (x3 = 0) → ∃ x7, zM zm_X5_hasLikeSides [zR r1, zI v2, zR 1] (d, G, E) (some (zI x7)) (d, G, E) ∧ (x7 = 0 → Z zm_X2_goes kz Q 33 [(1, zR r1), (2, zI v2), (3, zI 0)] [] (d, G, E)) ∧ (¬ (x7 = 0) → Q (some (zI 1)) (d, G, E))))) : Z zm_X2_goes kz Q 0 [(0, zR 30), (1, zR r1), (2, zI v2)] [] (d, G, E) := by
  refine Z.aload_n (k := 1) dX2_goes_0 rfl ?_
  refine Y.getR (o := some (r1 + 3)) 2 dX2_goes_1 zl_X2_79 (congrArg Prod.fst hr1.1) (by decide) rfl hr1.2.2.2.2.1 hr1.2.2.2.2.2.2.2.2.2.2 ?_
  refine Z.iload_n (k := 2) dX2_goes_4 rfl ?_
  obtain ⟨z1, K⟩ := K
  refine Y.zald dX2_goes_5 (hr1.2.2.2.1) (hr1.2.2.2.2.2.2.2.1) z1 ?_
  refine Z.if_eq 31 dX2_goes_6 rfl ⟨fun c2 => ?_, fun c2 => ?_⟩
  · replace K := K.1 c2
    refine Z.iconst (n := 0) dX2_goes_31 ⟨by decide, by decide⟩ ?_
    refine Z.istore_n (ls' := [(3, zI 0), (0, zR 30), (1, zR r1), (2, zI v2)]) dX2_goes_32 (by decide) rfl ?_
    refine Z.pick (ls' := [(1, zR r1), (2, zI v2), (3, zI 0)]) [2, 3, 0] rfl ?_
    exact K
  · replace K := K.2 c2
    refine Z.aload_n (k := 1) dX2_goes_9 rfl ?_
    refine Z.iload_n (k := 2) dX2_goes_10 rfl ?_
    obtain ⟨x3, m4, K⟩ := K
    refine Y.callV (g := zm_X5_isEqual) (vs := [zI v2]) (st := []) dX2_goes_11 ⟨zg_X5_isEqual.1, zg_X5_isEqual.2.1, zg_X5_isEqual.2.2, by decide⟩ ⟨zk_X2_35, zv_X5_isEqual⟩ (ci := 5) (congrArg Prod.fst hr1.1) rfl (hr1.2.2.2.2.1) rfl rfl (Nat.le_of_ble_eq_true rfl) m4 (Or.inl rfl) ?_
    show Z zm_X2_goes kz Q 14 [(0, zR 30), (1, zR r1), (2, zI v2)] [zI x3] (d, G, E)
    refine Z.if_eq 31 dX2_goes_14 rfl ⟨fun c6 => ?_, fun c6 => ?_⟩
    · replace K := K.1 c6
      refine Z.iconst (n := 0) dX2_goes_31 ⟨by decide, by decide⟩ ?_
      refine Z.istore_n (ls' := [(3, zI 0), (0, zR 30), (1, zR r1), (2, zI v2)]) dX2_goes_32 (by decide) rfl ?_
      refine Z.pick (ls' := [(1, zR r1), (2, zI v2), (3, zI 0)]) [2, 3, 0] rfl ?_
      exact K
    · replace K := K.2 c6
      refine Z.aload_n (k := 1) dX2_goes_17 rfl ?_
      refine Z.iload_n (k := 2) dX2_goes_18 rfl ?_
      refine Z.aload_n (k := 0) dX2_goes_19 rfl ?_
      refine Y.getR (o := some 1) 0 dX2_goes_20 zl_X2_22 (rfl) (by decide) rfl (zX_0_7 hX).2.2 (zX_30_0 hX).1 ?_
      obtain ⟨x7, m8, K⟩ := K
      refine Y.callV (g := zm_X5_hasLikeSides) (vs := [zI v2, zR 1]) (st := []) dX2_goes_23 ⟨zg_X5_hasLikeSides.1, zg_X5_hasLikeSides.2.1, zg_X5_hasLikeSides.2.2, by decide⟩ ⟨zk_X2_83, zv_X5_hasLikeSides⟩ (ci := 5) (congrArg Prod.fst hr1.1) rfl (hr1.2.2.2.2.1) rfl rfl (Nat.le_of_ble_eq_true rfl) m8 (Or.inl rfl) ?_
      show Z zm_X2_goes kz Q 26 [(0, zR 30), (1, zR r1), (2, zI v2)] [zI x7] (d, G, E)
      refine Z.if_eq 31 dX2_goes_26 rfl ⟨fun c10 => ?_, fun c10 => ?_⟩
      · replace K := K.1 c10
        refine Z.iconst (n := 0) dX2_goes_31 ⟨by decide, by decide⟩ ?_
        refine Z.istore_n (ls' := [(3, zI 0), (0, zR 30), (1, zR r1), (2, zI v2)]) dX2_goes_32 (by decide) rfl ?_
        refine Z.pick (ls' := [(1, zR r1), (2, zI v2), (3, zI 0)]) [2, 3, 0] rfl ?_
        exact K
      · replace K := K.2 c10
        refine Z.iconst (n := 1) dX2_goes_29 ⟨by decide, by decide⟩ ?_
        exact Z.iret (ty := .boolean) dX2_goes_30 rfl rfl K
set_option maxRecDepth 20000 in
theorem X2_goes_33 {kz : Nat × Nat} {Q : Option zV → zH → Prop} {d : List Nat} {G : Nat → Int → Option Nat} {E : Nat → Int → Int} {r1 : Nat} {v2 : Int} {v3 : Int} (hX : zK zXt d G) (hr1 : zRk d G r1) (K : (v2 ≤ v3 → Q (some (zI 0)) (d, G, E)) ∧ (¬ (v2 ≤ v3) → ((0 : Int) ≤ v3 ∧ v3 < 6) ∧ ((0 : Int) ≤ v2 ∧ v2 < 6) ∧ ((E (r1 + 3) v3) ≠ (E (r1 + 3) v2) → zin (v3 + 1) ∧ Z zm_X2_goes kz Q 33 [(1, zR r1), (2, zI v2), (3, zI ((v3 + 1)))] [] (d, G, E)) ∧ (¬ ((E (r1 + 3) v3) ≠ (E (r1 + 3) v2)) → ∃ x6, zM zm_X5_saysAlike [zR r1, zI v3, zI v2] (d, G, E) (some (zI x6)) (d, G, E) ∧ (x6 = 0 → zin (v3 + 1) ∧ Z zm_X2_goes kz Q 33 [(1, zR r1), (2, zI v2), (3, zI ((v3 + 1)))] [] (d, G, E)) ∧ (¬ (x6 = 0) → Q (some (zI 1)) (d, G, E))))) : Z zm_X2_goes kz Q 33 [(1, zR r1), (2, zI v2), (3, zI v3)] [] (d, G, E) := by
  refine Z.iload_n (k := 2) dX2_goes_33 rfl ?_
  refine Z.iload_n (k := 1) dX2_goes_34 rfl ?_
  refine Z.icmp_ge 70 dX2_goes_35 rfl ⟨fun c1 => ?_, fun c1 => ?_⟩
  · replace K := K.1 c1
    refine Z.iconst (n := 0) dX2_goes_70 ⟨by decide, by decide⟩ ?_
    exact Z.iret (ty := .boolean) dX2_goes_71 rfl rfl K
  · replace K := K.2 c1
    refine Z.aload_n (k := 0) dX2_goes_38 rfl ?_
    refine Y.getR (o := some (r1 + 3)) 2 dX2_goes_39 zl_X2_79 (congrArg Prod.fst hr1.1) (by decide) rfl hr1.2.2.2.2.1 hr1.2.2.2.2.2.2.2.2.2.2 ?_
    refine Z.iload_n (k := 2) dX2_goes_42 rfl ?_
    obtain ⟨z2, K⟩ := K
    refine Y.zald dX2_goes_43 (hr1.2.2.2.1) (hr1.2.2.2.2.2.2.2.1) z2 ?_
    refine Z.aload_n (k := 0) dX2_goes_44 rfl ?_
    refine Y.getR (o := some (r1 + 3)) 2 dX2_goes_45 zl_X2_79 (congrArg Prod.fst hr1.1) (by decide) rfl hr1.2.2.2.2.1 hr1.2.2.2.2.2.2.2.2.2.2 ?_
    refine Z.iload_n (k := 1) dX2_goes_48 rfl ?_
    obtain ⟨z3, K⟩ := K
    refine Y.zald dX2_goes_49 (hr1.2.2.2.1) (hr1.2.2.2.2.2.2.2.1) z3 ?_
    refine Z.icmp_ne 64 dX2_goes_50 rfl ⟨fun c4 => ?_, fun c4 => ?_⟩
    · replace K := K.1 c4
      obtain ⟨z5, K⟩ := K
      refine Z.iinc (k := 2) (ls' := [(3, zI ((v3 + 1))), (1, zR r1), (2, zI v2)]) dX2_goes_64 rfl (by decide) z5 rfl ?_
      refine Z.goto 33 dX2_goes_67 rfl ?_
      refine Z.pick (ls' := [(1, zR r1), (2, zI v2), (3, zI ((v3 + 1)))]) [1, 2, 0] rfl ?_
      exact K
    · replace K := K.2 c4
      refine Z.aload_n (k := 0) dX2_goes_53 rfl ?_
      refine Z.iload_n (k := 2) dX2_goes_54 rfl ?_
      refine Z.iload_n (k := 1) dX2_goes_55 rfl ?_
      obtain ⟨x6, m7, K⟩ := K
      refine Y.callV (g := zm_X5_saysAlike) (vs := [zI v3, zI v2]) (st := []) dX2_goes_56 ⟨zg_X5_saysAlike.1, zg_X5_saysAlike.2.1, zg_X5_saysAlike.2.2, by decide⟩ ⟨zk_X2_87, zv_X5_saysAlike⟩ (ci := 5) (congrArg Prod.fst hr1.1) rfl (hr1.2.2.2.2.1) rfl rfl (Nat.le_of_ble_eq_true rfl) m7 (Or.inl rfl) ?_
      show Z zm_X2_goes kz Q 59 [(1, zR r1), (2, zI v2), (3, zI v3)] [zI x6] (d, G, E)
      refine Z.if_eq 64 dX2_goes_59 rfl ⟨fun c9 => ?_, fun c9 => ?_⟩
      · replace K := K.1 c9
        obtain ⟨z10, K⟩ := K
        refine Z.iinc (k := 2) (ls' := [(3, zI ((v3 + 1))), (1, zR r1), (2, zI v2)]) dX2_goes_64 rfl (by decide) z10 rfl ?_
        refine Z.goto 33 dX2_goes_67 rfl ?_
        refine Z.pick (ls' := [(1, zR r1), (2, zI v2), (3, zI ((v3 + 1)))]) [1, 2, 0] rfl ?_
        exact K
      · replace K := K.2 c9
        refine Z.iconst (n := 1) dX2_goes_62 ⟨by decide, by decide⟩ ?_
        exact Z.iret (ty := .boolean) dX2_goes_63 rfl rfl K
set_option maxRecDepth 20000 in
theorem X2_numberLetters_0 {kz : Nat × Nat} {Q : Option zV → zH → Prop} {d : List Nat} {G : Nat → Int → Option Nat} {E : Nat → Int → Int} {r1 : Nat} (hX : zK zXt d G) (hr1 : zRk d G r1) (K : ∃ E1, zM zm_J7_fill_53178 [zR 32, zI ((-1))] (d, G, E) none (d, G, E1) ∧ ∀ E4, E4 = zuE E1 30 4 0 → ((0 : Int) ≤ (E4 r1 3) ∧ (E4 r1 3) < 7) ∧ Z zm_X2_numberLetters kz Q 25 [(0, zR 30), (1, zR r1), (2, zI ((E4 (r1 + 2) (E4 r1 3)))), (3, zI 0)] [] (d, G, E4)) : Z zm_X2_numberLetters kz Q 0 [(0, zR 30), (1, zR r1)] [] (d, G, E) := by
  refine Z.aload_n (k := 0) dX2_numberLetters_0 rfl ?_
  refine Y.getR (o := some 32) 3 dX2_numberLetters_1 zl_X2_15 (rfl) (by decide) rfl (zX_0_7 hX).2.2 (zX_30_3 hX).1 ?_
  refine Z.iconst (n := -1) dX2_numberLetters_4 ⟨by decide, by decide⟩ ?_
  obtain ⟨E1, m2, K⟩ := K
  refine Y.callS (g := zm_J7_fill_53178) (vs := [zR 32, zI ((-1))]) (st := []) dX2_numberLetters_5 ⟨zg_J7_fill_53178.1, zg_J7_fill_53178.2.1, zg_J7_fill_53178.2.2, by decide⟩ ⟨Or.inl zk_X2_91, zs_J7_fill_53178⟩ rfl rfl (Nat.le_of_ble_eq_true rfl) m2 (Or.inl rfl) ?_
  show Z zm_X2_numberLetters kz Q 8 [(0, zR 30), (1, zR r1)] [] (d, G, E1)
  refine Z.aload_n (k := 0) dX2_numberLetters_8 rfl ?_
  refine Z.iconst (n := 0) dX2_numberLetters_9 ⟨by decide, by decide⟩ ?_
  refine Y.putI 4 dX2_numberLetters_10 zw_X2_18 (fun q => by cases q) (rfl) rfl (zX_0_7 hX).2.2 (Or.inl rfl) ?_
  generalize eE4 : zuE E1 30 4 0 = E4
  replace K := K E4 eE4.symm
  refine Z.aload_n (k := 1) dX2_numberLetters_13 rfl ?_
  refine Y.getR (o := some (r1 + 2)) 1 dX2_numberLetters_14 zl_X2_55 (congrArg Prod.fst hr1.1) (by decide) rfl hr1.2.2.2.2.1 hr1.2.2.2.2.2.2.2.2.2.1 ?_
  refine Z.aload_n (k := 1) dX2_numberLetters_17 rfl ?_
  refine Y.getI 3 dX2_numberLetters_18 zl_X2_30 (congrArg Prod.fst hr1.1) (by decide) rfl hr1.2.2.2.2.1 ?_
  obtain ⟨z5, K⟩ := K
  refine Y.iald dX2_numberLetters_21 (hr1.2.2.1) (hr1.2.2.2.2.2.2.1) z5 ?_
  refine Z.istore_n (ls' := [(2, zI ((E4 (r1 + 2) (E4 r1 3)))), (0, zR 30), (1, zR r1)]) dX2_numberLetters_22 (by decide) rfl ?_
  refine Z.iconst (n := 0) dX2_numberLetters_23 ⟨by decide, by decide⟩ ?_
  refine Z.istore_n (ls' := [(3, zI 0), (2, zI ((E4 (r1 + 2) (E4 r1 3)))), (0, zR 30), (1, zR r1)]) dX2_numberLetters_24 (by decide) rfl ?_
  refine Z.pick (ls' := [(0, zR 30), (1, zR r1), (2, zI ((E4 (r1 + 2) (E4 r1 3)))), (3, zI 0)]) [2, 3, 1, 0] rfl ?_
  exact K
set_option maxRecDepth 20000 in
theorem X2_numberLetters_25 {kz : Nat × Nat} {Q : Option zV → zH → Prop} {d : List Nat} {G : Nat → Int → Option Nat} {E : Nat → Int → Int} {r1 : Nat} {v2 : Int} {v3 : Int} (hX : zK zXt d G) (hr1 : zRk d G r1) (K : (v2 ≤ v3 → Q none (d, G, E)) ∧ (¬ (v2 ≤ v3) → ((0 : Int) ≤ v3 ∧ v3 < 180) ∧ zin ((-1) - (E (r1 + 1) v3)) ∧ (((-1) - (E (r1 + 1) v3)) < 0 → zin (v3 + 1) ∧ Z zm_X2_numberLetters kz Q 25 [(0, zR 30), (1, zR r1), (2, zI v2), (3, zI ((v3 + 1)))] [] (d, G, E)) ∧ (¬ (((-1) - (E (r1 + 1) v3)) < 0) → (40 ≤ ((-1) - (E (r1 + 1) v3)) → zin (v3 + 1) ∧ Z zm_X2_numberLetters kz Q 25 [(0, zR 30), (1, zR r1), (2, zI v2), (3, zI ((v3 + 1)))] [] (d, G, E)) ∧ (¬ (40 ≤ ((-1) - (E (r1 + 1) v3))) → ((0 : Int) ≤ ((-1) - (E (r1 + 1) v3)) ∧ ((-1) - (E (r1 + 1) v3)) < 40) ∧ ((E 32 ((-1) - (E (r1 + 1) v3))) ≠ (-1) → ((0 : Int) ≤ ((-1) - (E (r1 + 1) v3)) ∧ ((-1) - (E (r1 + 1) v3)) < 40) ∧ zin ((-1) - (E 32 ((-1) - (E (r1 + 1) v3)))) ∧ ((0 : Int) ≤ v3 ∧ v3 < 180) ∧ ∀ E13, E13 = zuE E (r1 + 1) v3 (((-1) - (E 32 ((-1) - (E (r1 + 1) v3))))) → zin (v3 + 1) ∧ Z zm_X2_numberLetters kz Q 25 [(0, zR 30), (1, zR r1), (2, zI v2), (3, zI ((v3 + 1)))] [] (d, G, E13)) ∧ (¬ ((E 32 ((-1) - (E (r1 + 1) v3))) ≠ (-1)) → ((0 : Int) ≤ ((-1) - (E (r1 + 1) v3)) ∧ ((-1) - (E (r1 + 1) v3)) < 40) ∧ ∀ E16, E16 = zuE E 32 (((-1) - (E (r1 + 1) v3))) ((E 30 4)) → zin ((E16 30 4) + 1) ∧ ∀ E18, E18 = zuE E16 30 4 (((E16 30 4) + 1)) → ((0 : Int) ≤ ((-1) - (E (r1 + 1) v3)) ∧ ((-1) - (E (r1 + 1) v3)) < 40) ∧ zin ((-1) - (E18 32 ((-1) - (E (r1 + 1) v3)))) ∧ ((0 : Int) ≤ v3 ∧ v3 < 180) ∧ ∀ E22, E22 = zuE E18 (r1 + 1) v3 (((-1) - (E18 32 ((-1) - (E (r1 + 1) v3))))) → zin (v3 + 1) ∧ Z zm_X2_numberLetters kz Q 25 [(0, zR 30), (1, zR r1), (2, zI v2), (3, zI ((v3 + 1)))] [] (d, G, E22)))))) : Z zm_X2_numberLetters kz Q 25 [(0, zR 30), (1, zR r1), (2, zI v2), (3, zI v3)] [] (d, G, E) := by
  refine Z.iload_n (k := 3) dX2_numberLetters_25 rfl ?_
  refine Z.iload_n (k := 2) dX2_numberLetters_26 rfl ?_
  refine Z.icmp_ge 108 dX2_numberLetters_27 rfl ⟨fun c1 => ?_, fun c1 => ?_⟩
  · replace K := K.1 c1
    exact Z.vret dX2_numberLetters_108 rfl K
  · replace K := K.2 c1
    refine Z.iconst (n := -1) dX2_numberLetters_30 ⟨by decide, by decide⟩ ?_
    refine Z.aload_n (k := 1) dX2_numberLetters_31 rfl ?_
    refine Y.getR (o := some (r1 + 1)) 0 dX2_numberLetters_32 zl_X2_58 (congrArg Prod.fst hr1.1) (by decide) rfl hr1.2.2.2.2.1 hr1.2.2.2.2.2.2.2.2.1 ?_
    refine Z.iload_n (k := 3) dX2_numberLetters_35 rfl ?_
    obtain ⟨z2, K⟩ := K
    refine Y.iald dX2_numberLetters_36 (hr1.2.1) (hr1.2.2.2.2.2.1) z2 ?_
    obtain ⟨z3, K⟩ := K
    refine Z.isub dX2_numberLetters_37 z3 ?_
    refine Z.istore (ls' := [(4, zI (((-1) - (E (r1 + 1) v3)))), (0, zR 30), (1, zR r1), (2, zI v2), (3, zI v3)]) dX2_numberLetters_38 (by decide) rfl ?_
    refine Z.iload (k := 0) dX2_numberLetters_40 rfl ?_
    refine Z.if_lt 102 dX2_numberLetters_42 rfl ⟨fun c4 => ?_, fun c4 => ?_⟩
    · replace K := K.1 c4
      obtain ⟨z5, K⟩ := K
      refine Z.iinc (k := 4) (ls' := [(3, zI ((v3 + 1))), (4, zI (((-1) - (E (r1 + 1) v3)))), (0, zR 30), (1, zR r1), (2, zI v2)]) dX2_numberLetters_102 rfl (by decide) z5 rfl ?_
      refine Z.goto 25 dX2_numberLetters_105 rfl ?_
      refine Z.pick (ls' := [(0, zR 30), (1, zR r1), (2, zI v2), (3, zI ((v3 + 1)))]) [2, 3, 4, 0] rfl ?_
      exact K
    · replace K := K.2 c4
      refine Z.iload (k := 0) dX2_numberLetters_45 rfl ?_
      refine Z.aload_n (k := 1) dX2_numberLetters_47 rfl ?_
      refine Y.getR (o := some 32) 3 dX2_numberLetters_48 zl_X2_15 (rfl) (by decide) rfl (zX_0_7 hX).2.2 (zX_30_3 hX).1 ?_
      refine Y.alen 40 40 dX2_numberLetters_51 (rfl) ((zX_30_3 hX).2.2) rfl ⟨by decide, by decide⟩ ?_
      refine Z.icmp_ge 102 dX2_numberLetters_52 rfl ⟨fun c6 => ?_, fun c6 => ?_⟩
      · replace K := K.1 c6
        obtain ⟨z7, K⟩ := K
        refine Z.iinc (k := 4) (ls' := [(3, zI ((v3 + 1))), (4, zI (((-1) - (E (r1 + 1) v3)))), (0, zR 30), (1, zR r1), (2, zI v2)]) dX2_numberLetters_102 rfl (by decide) z7 rfl ?_
        refine Z.goto 25 dX2_numberLetters_105 rfl ?_
        refine Z.pick (ls' := [(0, zR 30), (1, zR r1), (2, zI v2), (3, zI ((v3 + 1)))]) [2, 3, 4, 0] rfl ?_
        exact K
      · replace K := K.2 c6
        refine Z.aload_n (k := 1) dX2_numberLetters_55 rfl ?_
        refine Y.getR (o := some 32) 3 dX2_numberLetters_56 zl_X2_15 (rfl) (by decide) rfl (zX_0_7 hX).2.2 (zX_30_3 hX).1 ?_
        refine Z.iload (k := 0) dX2_numberLetters_59 rfl ?_
        obtain ⟨z8, K⟩ := K
        refine Y.iald dX2_numberLetters_61 (rfl) ((zX_30_3 hX).2.2) z8 ?_
        refine Z.iconst (n := -1) dX2_numberLetters_62 ⟨by decide, by decide⟩ ?_
        refine Z.icmp_ne 87 dX2_numberLetters_63 rfl ⟨fun c9 => ?_, fun c9 => ?_⟩
        · replace K := K.1 c9
          refine Z.aload_n (k := 2) dX2_numberLetters_87 rfl ?_
          refine Y.getR (o := some (r1 + 1)) 0 dX2_numberLetters_88 zl_X2_58 (congrArg Prod.fst hr1.1) (by decide) rfl hr1.2.2.2.2.1 hr1.2.2.2.2.2.2.2.2.1 ?_
          refine Z.iload_n (k := 4) dX2_numberLetters_91 rfl ?_
          refine Z.iconst (n := -1) dX2_numberLetters_92 ⟨by decide, by decide⟩ ?_
          refine Z.aload_n (k := 1) dX2_numberLetters_93 rfl ?_
          refine Y.getR (o := some 32) 3 dX2_numberLetters_94 zl_X2_15 (rfl) (by decide) rfl (zX_0_7 hX).2.2 (zX_30_3 hX).1 ?_
          refine Z.iload (k := 0) dX2_numberLetters_97 rfl ?_
          obtain ⟨z10, K⟩ := K
          refine Y.iald dX2_numberLetters_99 (rfl) ((zX_30_3 hX).2.2) z10 ?_
          obtain ⟨z11, K⟩ := K
          refine Z.isub dX2_numberLetters_100 z11 ?_
          obtain ⟨z12, K⟩ := K
          refine Y.iast dX2_numberLetters_101 (hr1.2.1) (hr1.2.2.2.2.2.1) z12 ?_
          generalize eE13 : zuE E (r1 + 1) v3 (((-1) - (E 32 ((-1) - (E (r1 + 1) v3))))) = E13
          replace K := K E13 eE13.symm
          obtain ⟨z14, K⟩ := K
          refine Z.iinc (k := 4) (ls' := [(3, zI ((v3 + 1))), (4, zI (((-1) - (E (r1 + 1) v3)))), (0, zR 30), (1, zR r1), (2, zI v2)]) dX2_numberLetters_102 rfl (by decide) z14 rfl ?_
          refine Z.goto 25 dX2_numberLetters_105 rfl ?_
          refine Z.pick (ls' := [(0, zR 30), (1, zR r1), (2, zI v2), (3, zI ((v3 + 1)))]) [2, 3, 4, 0] rfl ?_
          exact K
        · replace K := K.2 c9
          refine Z.aload_n (k := 1) dX2_numberLetters_66 rfl ?_
          refine Y.getR (o := some 32) 3 dX2_numberLetters_67 zl_X2_15 (rfl) (by decide) rfl (zX_0_7 hX).2.2 (zX_30_3 hX).1 ?_
          refine Z.iload (k := 0) dX2_numberLetters_70 rfl ?_
          refine Z.aload_n (k := 1) dX2_numberLetters_72 rfl ?_
          refine Y.getI 4 dX2_numberLetters_73 zl_X2_18 (rfl) (by decide) rfl (zX_0_7 hX).2.2 ?_
          obtain ⟨z15, K⟩ := K
          refine Y.iast dX2_numberLetters_76 (rfl) ((zX_30_3 hX).2.2) z15 ?_
          generalize eE16 : zuE E 32 (((-1) - (E (r1 + 1) v3))) ((E 30 4)) = E16
          replace K := K E16 eE16.symm
          refine Z.aload_n (k := 1) dX2_numberLetters_77 rfl ?_
          refine Z.dup_i dX2_numberLetters_78 (fun _ => rfl) ?_
          refine Y.getI 4 dX2_numberLetters_79 zl_X2_18 (rfl) (by decide) rfl (zX_0_7 hX).2.2 ?_
          refine Z.iconst (n := 1) dX2_numberLetters_82 ⟨by decide, by decide⟩ ?_
          obtain ⟨z17, K⟩ := K
          refine Z.iadd dX2_numberLetters_83 z17 ?_
          refine Y.putI 4 dX2_numberLetters_84 zw_X2_18 (fun q => by cases q) (rfl) rfl (zX_0_7 hX).2.2 (Or.inl rfl) ?_
          generalize eE18 : zuE E16 30 4 (((E16 30 4) + 1)) = E18
          replace K := K E18 eE18.symm
          refine Z.aload_n (k := 2) dX2_numberLetters_87 rfl ?_
          refine Y.getR (o := some (r1 + 1)) 0 dX2_numberLetters_88 zl_X2_58 (congrArg Prod.fst hr1.1) (by decide) rfl hr1.2.2.2.2.1 hr1.2.2.2.2.2.2.2.2.1 ?_
          refine Z.iload_n (k := 4) dX2_numberLetters_91 rfl ?_
          refine Z.iconst (n := -1) dX2_numberLetters_92 ⟨by decide, by decide⟩ ?_
          refine Z.aload_n (k := 1) dX2_numberLetters_93 rfl ?_
          refine Y.getR (o := some 32) 3 dX2_numberLetters_94 zl_X2_15 (rfl) (by decide) rfl (zX_0_7 hX).2.2 (zX_30_3 hX).1 ?_
          refine Z.iload (k := 0) dX2_numberLetters_97 rfl ?_
          obtain ⟨z19, K⟩ := K
          refine Y.iald dX2_numberLetters_99 (rfl) ((zX_30_3 hX).2.2) z19 ?_
          obtain ⟨z20, K⟩ := K
          refine Z.isub dX2_numberLetters_100 z20 ?_
          obtain ⟨z21, K⟩ := K
          refine Y.iast dX2_numberLetters_101 (hr1.2.1) (hr1.2.2.2.2.2.1) z21 ?_
          generalize eE22 : zuE E18 (r1 + 1) v3 (((-1) - (E18 32 ((-1) - (E (r1 + 1) v3))))) = E22
          replace K := K E22 eE22.symm
          obtain ⟨z23, K⟩ := K
          refine Z.iinc (k := 4) (ls' := [(3, zI ((v3 + 1))), (4, zI (((-1) - (E (r1 + 1) v3)))), (0, zR 30), (1, zR r1), (2, zI v2)]) dX2_numberLetters_102 rfl (by decide) z23 rfl ?_
          refine Z.goto 25 dX2_numberLetters_105 rfl ?_
          refine Z.pick (ls' := [(0, zR 30), (1, zR r1), (2, zI v2), (3, zI ((v3 + 1)))]) [2, 3, 4, 0] rfl ?_
          exact K
set_option maxRecDepth 20000 in
theorem X2_clean_0 {kz : Nat × Nat} {Q : Option zV → zH → Prop} {d : List Nat} {G : Nat → Int → Option Nat} {E : Nat → Int → Int} {r1 : Nat} (hX : zK zXt d G) (hr1 : zRk d G r1) (K : Z zm_X2_clean kz Q 4 [(0, zR 30), (1, zR r1), (2, zI 0), (3, zI 0)] [] (d, G, E)) : Z zm_X2_clean kz Q 0 [(0, zR 30), (1, zR r1)] [] (d, G, E) := by
  refine Z.iconst (n := 0) dX2_clean_0 ⟨by decide, by decide⟩ ?_
  refine Z.istore_n (ls' := [(2, zI 0), (0, zR 30), (1, zR r1)]) dX2_clean_1 (by decide) rfl ?_
  refine Z.iconst (n := 0) dX2_clean_2 ⟨by decide, by decide⟩ ?_
  refine Z.istore_n (ls' := [(3, zI 0), (2, zI 0), (0, zR 30), (1, zR r1)]) dX2_clean_3 (by decide) rfl ?_
  refine Z.pick (ls' := [(0, zR 30), (1, zR r1), (2, zI 0), (3, zI 0)]) [2, 3, 1, 0] rfl ?_
  exact K
set_option maxRecDepth 20000 in
theorem X2_clean_4 {kz : Nat × Nat} {Q : Option zV → zH → Prop} {d : List Nat} {G : Nat → Int → Option Nat} {E : Nat → Int → Int} {r1 : Nat} {v2 : Int} {v3 : Int} (hX : zK zXt d G) (hr1 : zRk d G r1) (K : (6 ≤ v3 → ∃ E2, zM zm_X2_numberLetters [zR 30, zR r1] (d, G, E) none (d, G, E2) ∧ (20 < (E2 30 4) → Q (some (zI 0)) (d, G, E2)) ∧ (¬ (20 < (E2 30 4)) → Q (some (zI 1)) (d, G, E2))) ∧ (¬ (6 ≤ v3) → ((E r1 3) ≤ v2 → ∃ E7, zM zm_X2_numberLetters [zR 30, zR r1] (d, G, E) none (d, G, E7) ∧ (20 < (E7 30 4) → Q (some (zI 0)) (d, G, E7)) ∧ (¬ (20 < (E7 30 4)) → Q (some (zI 1)) (d, G, E7))) ∧ (¬ ((E r1 3) ≤ v2) → ∃ x11, zM zm_X5_isEqual [zR r1, zI v2] (d, G, E) (some (zI x11)) (d, G, E) ∧ (x11 = 0 → ∃ x15, zM zm_X2_goes [zR 30, zR r1, zI v2] (d, G, E) (some (zI x15)) (d, G, E) ∧ (x15 = 0 → zin (v2 + 1) ∧ zin (v3 + 1) ∧ Z zm_X2_clean kz Q 4 [(0, zR 30), (1, zR r1), (2, zI ((v2 + 1))), (3, zI ((v3 + 1)))] [] (d, G, E)) ∧ (¬ (x15 = 0) → ∃ E21, zM zm_X5_remove [zR r1, zI v2] (d, G, E) none (d, G, E21) ∧ zin (v3 + 1) ∧ Z zm_X2_clean kz Q 4 [(0, zR 30), (1, zR r1), (2, zI v2), (3, zI ((v3 + 1)))] [] (d, G, E21))) ∧ (¬ (x11 = 0) → ∃ E25, zM zm_X2_sortSides [zR 30, zR r1, zI v2] (d, G, E) none (d, G, E25) ∧ ∃ x28, zM zm_X2_goes [zR 30, zR r1, zI v2] (d, G, E25) (some (zI x28)) (d, G, E25) ∧ (x28 = 0 → zin (v2 + 1) ∧ zin (v3 + 1) ∧ Z zm_X2_clean kz Q 4 [(0, zR 30), (1, zR r1), (2, zI ((v2 + 1))), (3, zI ((v3 + 1)))] [] (d, G, E25)) ∧ (¬ (x28 = 0) → ∃ E34, zM zm_X5_remove [zR r1, zI v2] (d, G, E25) none (d, G, E34) ∧ zin (v3 + 1) ∧ Z zm_X2_clean kz Q 4 [(0, zR 30), (1, zR r1), (2, zI v2), (3, zI ((v3 + 1)))] [] (d, G, E34)))))) : Z zm_X2_clean kz Q 4 [(0, zR 30), (1, zR r1), (2, zI v2), (3, zI v3)] [] (d, G, E) := by
  refine Z.iload_n (k := 3) dX2_clean_4 rfl ?_
  refine Z.bipush (n := 6) dX2_clean_5 ⟨by decide, by decide⟩ (by decide) ?_
  refine Z.icmp_ge 58 dX2_clean_7 rfl ⟨fun c1 => ?_, fun c1 => ?_⟩
  · replace K := K.1 c1
    refine Z.aload_n (k := 0) dX2_clean_58 rfl ?_
    refine Z.aload_n (k := 1) dX2_clean_59 rfl ?_
    obtain ⟨E2, m3, K⟩ := K
    refine Y.callV (g := zm_X2_numberLetters) (vs := [zR r1]) (st := []) dX2_clean_60 ⟨zg_X2_numberLetters.1, zg_X2_numberLetters.2.1, zg_X2_numberLetters.2.2, by decide⟩ ⟨zk_X2_51, zv_X2_numberLetters⟩ (ci := 2) (rfl) rfl ((zX_0_7 hX).2.2) rfl rfl (Nat.le_of_ble_eq_true rfl) m3 (Or.inl rfl) ?_
    show Z zm_X2_clean kz Q 63 [(0, zR 30), (1, zR r1), (2, zI v2), (3, zI v3)] [] (d, G, E2)
    refine Z.aload_n (k := 0) dX2_clean_63 rfl ?_
    refine Y.getI 4 dX2_clean_64 zl_X2_18 (rfl) (by decide) rfl (zX_0_7 hX).2.2 ?_
    refine Z.bipush (n := 20) dX2_clean_67 ⟨by decide, by decide⟩ (by decide) ?_
    refine Z.icmp_gt 76 dX2_clean_69 rfl ⟨fun c5 => ?_, fun c5 => ?_⟩
    · replace K := K.1 c5
      refine Z.iconst (n := 0) dX2_clean_76 ⟨by decide, by decide⟩ ?_
      exact Z.iret (ty := .boolean) dX2_clean_77 rfl rfl K
    · replace K := K.2 c5
      refine Z.iconst (n := 1) dX2_clean_72 ⟨by decide, by decide⟩ ?_
      refine Z.goto 77 dX2_clean_73 rfl ?_
      exact Z.iret (ty := .boolean) dX2_clean_77 rfl rfl K
  · replace K := K.2 c1
    refine Z.iload_n (k := 2) dX2_clean_10 rfl ?_
    refine Z.aload_n (k := 1) dX2_clean_11 rfl ?_
    refine Y.getI 3 dX2_clean_12 zl_X2_30 (congrArg Prod.fst hr1.1) (by decide) rfl hr1.2.2.2.2.1 ?_
    refine Z.icmp_ge 58 dX2_clean_15 rfl ⟨fun c6 => ?_, fun c6 => ?_⟩
    · replace K := K.1 c6
      refine Z.aload_n (k := 0) dX2_clean_58 rfl ?_
      refine Z.aload_n (k := 1) dX2_clean_59 rfl ?_
      obtain ⟨E7, m8, K⟩ := K
      refine Y.callV (g := zm_X2_numberLetters) (vs := [zR r1]) (st := []) dX2_clean_60 ⟨zg_X2_numberLetters.1, zg_X2_numberLetters.2.1, zg_X2_numberLetters.2.2, by decide⟩ ⟨zk_X2_51, zv_X2_numberLetters⟩ (ci := 2) (rfl) rfl ((zX_0_7 hX).2.2) rfl rfl (Nat.le_of_ble_eq_true rfl) m8 (Or.inl rfl) ?_
      show Z zm_X2_clean kz Q 63 [(0, zR 30), (1, zR r1), (2, zI v2), (3, zI v3)] [] (d, G, E7)
      refine Z.aload_n (k := 0) dX2_clean_63 rfl ?_
      refine Y.getI 4 dX2_clean_64 zl_X2_18 (rfl) (by decide) rfl (zX_0_7 hX).2.2 ?_
      refine Z.bipush (n := 20) dX2_clean_67 ⟨by decide, by decide⟩ (by decide) ?_
      refine Z.icmp_gt 76 dX2_clean_69 rfl ⟨fun c10 => ?_, fun c10 => ?_⟩
      · replace K := K.1 c10
        refine Z.iconst (n := 0) dX2_clean_76 ⟨by decide, by decide⟩ ?_
        exact Z.iret (ty := .boolean) dX2_clean_77 rfl rfl K
      · replace K := K.2 c10
        refine Z.iconst (n := 1) dX2_clean_72 ⟨by decide, by decide⟩ ?_
        refine Z.goto 77 dX2_clean_73 rfl ?_
        exact Z.iret (ty := .boolean) dX2_clean_77 rfl rfl K
    · replace K := K.2 c6
      refine Z.aload_n (k := 1) dX2_clean_18 rfl ?_
      refine Z.iload_n (k := 2) dX2_clean_19 rfl ?_
      obtain ⟨x11, m12, K⟩ := K
      refine Y.callV (g := zm_X5_isEqual) (vs := [zI v2]) (st := []) dX2_clean_20 ⟨zg_X5_isEqual.1, zg_X5_isEqual.2.1, zg_X5_isEqual.2.2, by decide⟩ ⟨zk_X2_35, zv_X5_isEqual⟩ (ci := 5) (congrArg Prod.fst hr1.1) rfl (hr1.2.2.2.2.1) rfl rfl (Nat.le_of_ble_eq_true rfl) m12 (Or.inl rfl) ?_
      show Z zm_X2_clean kz Q 23 [(0, zR 30), (1, zR r1), (2, zI v2), (3, zI v3)] [zI x11] (d, G, E)
      refine Z.if_eq 32 dX2_clean_23 rfl ⟨fun c14 => ?_, fun c14 => ?_⟩
      · replace K := K.1 c14
        refine Z.aload_n (k := 0) dX2_clean_32 rfl ?_
        refine Z.aload_n (k := 1) dX2_clean_33 rfl ?_
        refine Z.iload_n (k := 2) dX2_clean_34 rfl ?_
        obtain ⟨x15, m16, K⟩ := K
        refine Y.callV (g := zm_X2_goes) (vs := [zR r1, zI v2]) (st := []) dX2_clean_35 ⟨zg_X2_goes.1, zg_X2_goes.2.1, zg_X2_goes.2.2, by decide⟩ ⟨zk_X2_43, zv_X2_goes⟩ (ci := 2) (rfl) rfl ((zX_0_7 hX).2.2) rfl rfl (Nat.le_of_ble_eq_true rfl) m16 (Or.inl rfl) ?_
        show Z zm_X2_clean kz Q 38 [(0, zR 30), (1, zR r1), (2, zI v2), (3, zI v3)] [zI x15] (d, G, E)
        refine Z.if_eq 49 dX2_clean_38 rfl ⟨fun c18 => ?_, fun c18 => ?_⟩
        · replace K := K.1 c18
          obtain ⟨z19, K⟩ := K
          refine Z.iinc (k := 2) (ls' := [(2, zI ((v2 + 1))), (0, zR 30), (1, zR r1), (3, zI v3)]) dX2_clean_49 rfl (by decide) z19 rfl ?_
          obtain ⟨z20, K⟩ := K
          refine Z.iinc (k := 3) (ls' := [(3, zI ((v3 + 1))), (2, zI ((v2 + 1))), (0, zR 30), (1, zR r1)]) dX2_clean_52 rfl (by decide) z20 rfl ?_
          refine Z.goto 4 dX2_clean_55 rfl ?_
          refine Z.pick (ls' := [(0, zR 30), (1, zR r1), (2, zI ((v2 + 1))), (3, zI ((v3 + 1)))]) [2, 3, 1, 0] rfl ?_
          exact K
        · replace K := K.2 c18
          refine Z.aload_n (k := 1) dX2_clean_41 rfl ?_
          refine Z.iload_n (k := 2) dX2_clean_42 rfl ?_
          obtain ⟨E21, m22, K⟩ := K
          refine Y.callV (g := zm_X5_remove) (vs := [zI v2]) (st := []) dX2_clean_43 ⟨zg_X5_remove.1, zg_X5_remove.2.1, zg_X5_remove.2.2, by decide⟩ ⟨zk_X2_47, zv_X5_remove⟩ (ci := 5) (congrArg Prod.fst hr1.1) rfl (hr1.2.2.2.2.1) rfl rfl (Nat.le_of_ble_eq_true rfl) m22 (Or.inl rfl) ?_
          show Z zm_X2_clean kz Q 46 [(0, zR 30), (1, zR r1), (2, zI v2), (3, zI v3)] [] (d, G, E21)
          refine Z.goto 52 dX2_clean_46 rfl ?_
          obtain ⟨z24, K⟩ := K
          refine Z.iinc (k := 3) (ls' := [(3, zI ((v3 + 1))), (0, zR 30), (1, zR r1), (2, zI v2)]) dX2_clean_52 rfl (by decide) z24 rfl ?_
          refine Z.goto 4 dX2_clean_55 rfl ?_
          refine Z.pick (ls' := [(0, zR 30), (1, zR r1), (2, zI v2), (3, zI ((v3 + 1)))]) [1, 2, 3, 0] rfl ?_
          exact K
      · replace K := K.2 c14
        refine Z.aload_n (k := 0) dX2_clean_26 rfl ?_
        refine Z.aload_n (k := 1) dX2_clean_27 rfl ?_
        refine Z.iload_n (k := 2) dX2_clean_28 rfl ?_
        obtain ⟨E25, m26, K⟩ := K
        refine Y.callV (g := zm_X2_sortSides) (vs := [zR r1, zI v2]) (st := []) dX2_clean_29 ⟨zg_X2_sortSides.1, zg_X2_sortSides.2.1, zg_X2_sortSides.2.2, by decide⟩ ⟨zk_X2_39, zv_X2_sortSides⟩ (ci := 2) (rfl) rfl ((zX_0_7 hX).2.2) rfl rfl (Nat.le_of_ble_eq_true rfl) m26 (Or.inl rfl) ?_
        show Z zm_X2_clean kz Q 32 [(0, zR 30), (1, zR r1), (2, zI v2), (3, zI v3)] [] (d, G, E25)
        refine Z.aload_n (k := 0) dX2_clean_32 rfl ?_
        refine Z.aload_n (k := 1) dX2_clean_33 rfl ?_
        refine Z.iload_n (k := 2) dX2_clean_34 rfl ?_
        obtain ⟨x28, m29, K⟩ := K
        refine Y.callV (g := zm_X2_goes) (vs := [zR r1, zI v2]) (st := []) dX2_clean_35 ⟨zg_X2_goes.1, zg_X2_goes.2.1, zg_X2_goes.2.2, by decide⟩ ⟨zk_X2_43, zv_X2_goes⟩ (ci := 2) (rfl) rfl ((zX_0_7 hX).2.2) rfl rfl (Nat.le_of_ble_eq_true rfl) m29 (Or.inl rfl) ?_
        show Z zm_X2_clean kz Q 38 [(0, zR 30), (1, zR r1), (2, zI v2), (3, zI v3)] [zI x28] (d, G, E25)
        refine Z.if_eq 49 dX2_clean_38 rfl ⟨fun c31 => ?_, fun c31 => ?_⟩
        · replace K := K.1 c31
          obtain ⟨z32, K⟩ := K
          refine Z.iinc (k := 2) (ls' := [(2, zI ((v2 + 1))), (0, zR 30), (1, zR r1), (3, zI v3)]) dX2_clean_49 rfl (by decide) z32 rfl ?_
          obtain ⟨z33, K⟩ := K
          refine Z.iinc (k := 3) (ls' := [(3, zI ((v3 + 1))), (2, zI ((v2 + 1))), (0, zR 30), (1, zR r1)]) dX2_clean_52 rfl (by decide) z33 rfl ?_
          refine Z.goto 4 dX2_clean_55 rfl ?_
          refine Z.pick (ls' := [(0, zR 30), (1, zR r1), (2, zI ((v2 + 1))), (3, zI ((v3 + 1)))]) [2, 3, 1, 0] rfl ?_
          exact K
        · replace K := K.2 c31
          refine Z.aload_n (k := 1) dX2_clean_41 rfl ?_
          refine Z.iload_n (k := 2) dX2_clean_42 rfl ?_
          obtain ⟨E34, m35, K⟩ := K
          refine Y.callV (g := zm_X5_remove) (vs := [zI v2]) (st := []) dX2_clean_43 ⟨zg_X5_remove.1, zg_X5_remove.2.1, zg_X5_remove.2.2, by decide⟩ ⟨zk_X2_47, zv_X5_remove⟩ (ci := 5) (congrArg Prod.fst hr1.1) rfl (hr1.2.2.2.2.1) rfl rfl (Nat.le_of_ble_eq_true rfl) m35 (Or.inl rfl) ?_
          show Z zm_X2_clean kz Q 46 [(0, zR 30), (1, zR r1), (2, zI v2), (3, zI v3)] [] (d, G, E34)
          refine Z.goto 52 dX2_clean_46 rfl ?_
          obtain ⟨z37, K⟩ := K
          refine Z.iinc (k := 3) (ls' := [(3, zI ((v3 + 1))), (0, zR 30), (1, zR r1), (2, zI v2)]) dX2_clean_52 rfl (by decide) z37 rfl ?_
          refine Z.goto 4 dX2_clean_55 rfl ?_
          refine Z.pick (ls' := [(0, zR 30), (1, zR r1), (2, zI v2), (3, zI ((v3 + 1)))]) [1, 2, 3, 0] rfl ?_
          exact K
