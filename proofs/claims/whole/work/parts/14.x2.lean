set_option maxRecDepth 20000 in
theorem X2_init_0 {kz : Nat × Nat} {Q : Option zV → zH → Prop} {d : List Nat} {G : Nat → Int → Option Nat} {E : Nat → Int → Int}  (hm30 : 30 ∈ d) (hm1 : 1 ∈ d) (hm18 : 18 ∈ d) (K : ∃ a_1, zkd a_1 = (0, (30 : Int).toNat) ∧ (0 : Int) ≤ 30 ∧ 30 ≤ (100000 : Int) ∧ a_1 ∉ d ∧ ¬ zst3 a_1 ∧ d.length + 1 ≤ kz.1 ∧ zsl d + (zkd a_1).2 ≤ kz.2 ∧ ∀ d_9 G_10 E_11, d_9 = d ++ [a_1] → G_10 = zclG G a_1 → E_11 = zclE E a_1 → (∀ G_12, G_12 = zuG G_10 30 2 (some a_1) → ∃ a_13, zkd a_13 = (0, (40 : Int).toNat) ∧ (0 : Int) ≤ 40 ∧ 40 ≤ (100000 : Int) ∧ a_13 ∉ d_9 ∧ ¬ zst3 a_13 ∧ d_9.length + 1 ≤ kz.1 ∧ zsl d_9 + (zkd a_13).2 ≤ kz.2 ∧ ∀ d_21 G_22 E_23, d_21 = d_9 ++ [a_13] → G_22 = zclG G_12 a_13 → E_23 = zclE E_11 a_13 → (∀ G_24, G_24 = zuG G_22 30 3 (some a_13) → ∀ E_25, E_25 = zuE E_23 30 4 0 → ∀ G_26, G_26 = zuG G_24 30 0 (some 1) → ∀ G_27, G_27 = zuG G_26 30 1 (some 18) → Q none (d_21, G_27, E_25)))) : Z zm_X2_init kz Q 0 [(0, zR 30), (1, zR 1), (2, zR 18)] [] (d, G, E) := by
  refine Z.aload_n (k := 0) dX2_init_0 rfl ?_
  refine Z.objInit (a := 30) dX2_init_1 zk_X2_3 ⟨by decide, by decide⟩ (Nat.le_of_ble_eq_true rfl) ?_
  refine Z.aload_n (k := 0) dX2_init_4 rfl ?_
  refine Z.bipush (n := 30) dX2_init_5 ⟨by decide, by decide⟩ (by decide) ?_
  obtain ⟨a_1, z_2, z_3, z_4, z_5, z_6, z_7, z_8, K⟩ := K
  refine Y.newI a_1 dX2_init_7 z_2 z_3 z_4 zai z_5 z_6 z_7 z_8 ?_
  generalize ed_9 : d ++ [a_1] = d_9
  generalize eG_10 : zclG G a_1 = G_10
  generalize eE_11 : zclE E a_1 = E_11
  replace K := K d_9 G_10 E_11 ed_9.symm eG_10.symm eE_11.symm
  refine Y.putR 2 dX2_init_9 zw_X2_9 (fun _ => ⟨rfl, rfl⟩) (rfl) rfl (by rw [← ed_9]; exact List.mem_append_left _ (hm30)) (fun b hb => by cases hb; exact (by rw [← ed_9]; exact List.mem_append_right _ List.mem_cons_self)) ?_
  generalize eG_12 : zuG G_10 30 2 (some a_1) = G_12
  replace K := K G_12 eG_12.symm
  refine Z.aload_n (k := 0) dX2_init_12 rfl ?_
  refine Z.bipush (n := 40) dX2_init_13 ⟨by decide, by decide⟩ (by decide) ?_
  obtain ⟨a_13, z_14, z_15, z_16, z_17, z_18, z_19, z_20, K⟩ := K
  refine Y.newI a_13 dX2_init_15 z_14 z_15 z_16 zai z_17 z_18 z_19 z_20 ?_
  generalize ed_21 : d_9 ++ [a_13] = d_21
  generalize eG_22 : zclG G_12 a_13 = G_22
  generalize eE_23 : zclE E_11 a_13 = E_23
  replace K := K d_21 G_22 E_23 ed_21.symm eG_22.symm eE_23.symm
  refine Y.putR 3 dX2_init_17 zw_X2_15 (fun _ => ⟨rfl, rfl⟩) (rfl) rfl (by rw [← ed_21]; exact List.mem_append_left _ ((by rw [← ed_9]; exact List.mem_append_left _ (hm30)))) (fun b hb => by cases hb; exact (by rw [← ed_21]; exact List.mem_append_right _ List.mem_cons_self)) ?_
  generalize eG_24 : zuG G_22 30 3 (some a_13) = G_24
  replace K := K G_24 eG_24.symm
  refine Z.aload_n (k := 0) dX2_init_20 rfl ?_
  refine Z.iconst (n := 0) dX2_init_21 ⟨by decide, by decide⟩ ?_
  refine Y.putI 4 dX2_init_22 zw_X2_18 (fun q => by cases q) (rfl) rfl (by rw [← ed_21]; exact List.mem_append_left _ ((by rw [← ed_9]; exact List.mem_append_left _ (hm30)))) (Or.inl rfl) ?_
  generalize eE_25 : zuE E_23 30 4 0 = E_25
  replace K := K E_25 eE_25.symm
  refine Z.aload_n (k := 0) dX2_init_25 rfl ?_
  refine Z.aload_n (k := 1) dX2_init_26 rfl ?_
  refine Y.putR 0 dX2_init_27 zw_X2_22 (fun _ => ⟨rfl, rfl⟩) (rfl) rfl (by rw [← ed_21]; exact List.mem_append_left _ ((by rw [← ed_9]; exact List.mem_append_left _ (hm30)))) (fun b hb => by cases hb; exact (by rw [← ed_21]; exact List.mem_append_left _ ((by rw [← ed_9]; exact List.mem_append_left _ (hm1))))) ?_
  generalize eG_26 : zuG G_24 30 0 (some 1) = G_26
  replace K := K G_26 eG_26.symm
  refine Z.aload_n (k := 0) dX2_init_30 rfl ?_
  refine Z.aload_n (k := 2) dX2_init_31 rfl ?_
  refine Y.putR 1 dX2_init_32 zw_X2_26 (fun _ => ⟨rfl, rfl⟩) (rfl) rfl (by rw [← ed_21]; exact List.mem_append_left _ ((by rw [← ed_9]; exact List.mem_append_left _ (hm30)))) (fun b hb => by cases hb; exact (by rw [← ed_21]; exact List.mem_append_left _ ((by rw [← ed_9]; exact List.mem_append_left _ (hm18))))) ?_
  generalize eG_27 : zuG G_26 30 1 (some 18) = G_27
  replace K := K G_27 eG_27.symm
  exact Z.vret dX2_init_35 rfl K
set_option maxRecDepth 20000 in
theorem X2_sortSides_0 {kz : Nat × Nat} {Q : Option zV → zH → Prop} {d : List Nat} {G : Nat → Int → Option Nat} {E : Nat → Int → Int} {r1 : Nat} {v2 : Int} (hX : zK zXt d G) (hr1 : zRk d G r1) (K : ((0 : Int) ≤ v2 ∧ v2 < (7 : Int)) ∧ zin ((E (r1 + 2) v2) + 1) ∧ ∃ x_3, zM zm_X8_after [zR 1, zR (r1 + 1), zI (((E (r1 + 2) v2) + 1))] (d, G, E) (some (zI x_3)) (d, G, E) ∧ ∃ x_6 E_7, zM zm_X6_compare [zR 18, zR (r1 + 1), zI x_3, zR (r1 + 1), zI (((E (r1 + 2) v2) + 1))] (d, G, E) (some (zI x_6)) (d, G, E_7) ∧ (x_6 = 1 → zin (x_3 - ((E (r1 + 2) v2) + 1)) ∧ zin (v2 + 1) ∧ ((0 : Int) ≤ (v2 + 1) ∧ (v2 + 1) < (7 : Int)) ∧ zin ((E_7 (r1 + 2) (v2 + 1)) - x_3) ∧ ((0 : Int) ≤ ((E (r1 + 2) v2) + 1) ∧ (0 : Int) ≤ 0 ∧ (0 : Int) ≤ (x_3 - ((E (r1 + 2) v2) + 1)) ∧ ((E (r1 + 2) v2) + 1) + (x_3 - ((E (r1 + 2) v2) + 1)) ≤ (180 : Int) ∧ 0 + (x_3 - ((E (r1 + 2) v2) + 1)) ≤ (30 : Int)) ∧ ∀ E_16, E_16 = zcpE E_7 (r1 + 1) (((E (r1 + 2) v2) + 1)) 31 0 ((x_3 - ((E (r1 + 2) v2) + 1))) → ((0 : Int) ≤ x_3 ∧ (0 : Int) ≤ ((E (r1 + 2) v2) + 1) ∧ (0 : Int) ≤ ((E_7 (r1 + 2) (v2 + 1)) - x_3) ∧ x_3 + ((E_7 (r1 + 2) (v2 + 1)) - x_3) ≤ (180 : Int) ∧ ((E (r1 + 2) v2) + 1) + ((E_7 (r1 + 2) (v2 + 1)) - x_3) ≤ (180 : Int)) ∧ ∀ E_18, E_18 = zcpE E_16 (r1 + 1) x_3 (r1 + 1) (((E (r1 + 2) v2) + 1)) (((E_7 (r1 + 2) (v2 + 1)) - x_3)) → zin (((E (r1 + 2) v2) + 1) + ((E_7 (r1 + 2) (v2 + 1)) - x_3)) ∧ ((0 : Int) ≤ 0 ∧ (0 : Int) ≤ (((E (r1 + 2) v2) + 1) + ((E_7 (r1 + 2) (v2 + 1)) - x_3)) ∧ (0 : Int) ≤ (x_3 - ((E (r1 + 2) v2) + 1)) ∧ 0 + (x_3 - ((E (r1 + 2) v2) + 1)) ≤ (30 : Int) ∧ (((E (r1 + 2) v2) + 1) + ((E_7 (r1 + 2) (v2 + 1)) - x_3)) + (x_3 - ((E (r1 + 2) v2) + 1)) ≤ (180 : Int)) ∧ ∀ E_21, E_21 = zcpE E_18 31 0 (r1 + 1) ((((E (r1 + 2) v2) + 1) + ((E_7 (r1 + 2) (v2 + 1)) - x_3))) ((x_3 - ((E (r1 + 2) v2) + 1))) → Q none (d, G, E_21)) ∧ (¬ (x_6 = 1) → Q none (d, G, E_7))) : Z zm_X2_sortSides kz Q 0 [(0, zR 30), (1, zR r1), (2, zI v2)] [] (d, G, E) := by
  refine Z.aload_n (k := 1) dX2_sortSides_0 rfl ?_
  refine Y.getR (o := some (r1 + 2)) 1 dX2_sortSides_1 zl_X2_55 (congrArg Prod.fst hr1.1) (by decide) rfl hr1.2.2.2.2.1 hr1.2.2.2.2.2.2.2.2.2.1 ?_
  refine Z.iload_n (k := 2) dX2_sortSides_4 rfl ?_
  obtain ⟨z_1, K⟩ := K
  refine Y.iald dX2_sortSides_5 (hr1.2.2.1) (hr1.2.2.2.2.2.2.1) z_1 ?_
  refine Z.iconst (n := 1) dX2_sortSides_6 ⟨by decide, by decide⟩ ?_
  obtain ⟨z_2, K⟩ := K
  refine Z.iadd dX2_sortSides_7 z_2 ?_
  refine Z.istore_n (ls' := [(3, zI (((E (r1 + 2) v2) + 1))), (0, zR 30), (1, zR r1), (2, zI v2)]) dX2_sortSides_8 (by decide) rfl ?_
  refine Z.aload_n (k := 1) dX2_sortSides_9 rfl ?_
  refine Y.getR (o := some 1) 0 dX2_sortSides_10 zl_X2_22 (rfl) (by decide) rfl (zX_0_7 hX).2.2 (zX_30_0 hX).1 ?_
  refine Z.aload_n (k := 2) dX2_sortSides_13 rfl ?_
  refine Y.getR (o := some (r1 + 1)) 0 dX2_sortSides_14 zl_X2_58 (congrArg Prod.fst hr1.1) (by decide) rfl hr1.2.2.2.2.1 hr1.2.2.2.2.2.2.2.2.1 ?_
  refine Z.iload_n (k := 0) dX2_sortSides_17 rfl ?_
  obtain ⟨x_3, m_4, K⟩ := K
  refine Y.callV (g := zm_X8_after) (vs := [zR (r1 + 1), zI (((E (r1 + 2) v2) + 1))]) (st := []) dX2_sortSides_18 ⟨zg_X8_after.1, zg_X8_after.2.1, zg_X8_after.2.2, by decide⟩ ⟨zk_X2_61, zv_X8_after⟩ (ci := 8) (rfl) rfl ((zX_0_0 hX).2.2) rfl rfl (Nat.le_of_ble_eq_true rfl) m_4 (Or.inl rfl) ?_
  show Z zm_X2_sortSides kz Q 21 [(3, zI (((E (r1 + 2) v2) + 1))), (0, zR 30), (1, zR r1), (2, zI v2)] [zI x_3] (d, G, E)
  refine Z.istore (ls' := [(4, zI x_3), (3, zI (((E (r1 + 2) v2) + 1))), (0, zR 30), (1, zR r1), (2, zI v2)]) dX2_sortSides_21 (by decide) rfl ?_
  refine Z.aload_n (k := 2) dX2_sortSides_23 rfl ?_
  refine Y.getR (o := some 18) 1 dX2_sortSides_24 zl_X2_26 (rfl) (by decide) rfl (zX_0_7 hX).2.2 (zX_30_1 hX).1 ?_
  refine Z.aload_n (k := 3) dX2_sortSides_27 rfl ?_
  refine Y.getR (o := some (r1 + 1)) 0 dX2_sortSides_28 zl_X2_58 (congrArg Prod.fst hr1.1) (by decide) rfl hr1.2.2.2.2.1 hr1.2.2.2.2.2.2.2.2.1 ?_
  refine Z.iload (k := 0) dX2_sortSides_31 rfl ?_
  refine Z.aload_n (k := 3) dX2_sortSides_33 rfl ?_
  refine Y.getR (o := some (r1 + 1)) 0 dX2_sortSides_34 zl_X2_58 (congrArg Prod.fst hr1.1) (by decide) rfl hr1.2.2.2.2.1 hr1.2.2.2.2.2.2.2.2.1 ?_
  refine Z.iload_n (k := 1) dX2_sortSides_37 rfl ?_
  obtain ⟨x_6, E_7, m_8, K⟩ := K
  refine Y.callV (g := zm_X6_compare) (vs := [zR (r1 + 1), zI x_3, zR (r1 + 1), zI (((E (r1 + 2) v2) + 1))]) (st := []) dX2_sortSides_38 ⟨zg_X6_compare.1, zg_X6_compare.2.1, zg_X6_compare.2.2, by decide⟩ ⟨zk_X2_67, zv_X6_compare⟩ (ci := 6) (rfl) rfl ((zX_0_5 hX).2.2) rfl rfl (Nat.le_of_ble_eq_true rfl) m_8 (Or.inl rfl) ?_
  show Z zm_X2_sortSides kz Q 41 [(4, zI x_3), (3, zI (((E (r1 + 2) v2) + 1))), (0, zR 30), (1, zR r1), (2, zI v2)] [zI x_6] (d, G, E_7)
  refine Z.iconst (n := 1) dX2_sortSides_41 ⟨by decide, by decide⟩ ?_
  refine Z.icmp_eq 46 dX2_sortSides_42 rfl ⟨fun c_10 => ?_, fun c_10 => ?_⟩
  · replace K := K.1 c_10
    refine Z.iload (k := 0) dX2_sortSides_46 rfl ?_
    refine Z.iload_n (k := 1) dX2_sortSides_48 rfl ?_
    obtain ⟨z_11, K⟩ := K
    refine Z.isub dX2_sortSides_49 z_11 ?_
    refine Z.istore (ls' := [(5, zI ((x_3 - ((E (r1 + 2) v2) + 1)))), (4, zI x_3), (3, zI (((E (r1 + 2) v2) + 1))), (0, zR 30), (1, zR r1), (2, zI v2)]) dX2_sortSides_50 (by decide) rfl ?_
    refine Z.aload_n (k := 4) dX2_sortSides_52 rfl ?_
    refine Y.getR (o := some (r1 + 2)) 1 dX2_sortSides_53 zl_X2_55 (congrArg Prod.fst hr1.1) (by decide) rfl hr1.2.2.2.2.1 hr1.2.2.2.2.2.2.2.2.2.1 ?_
    refine Z.iload_n (k := 5) dX2_sortSides_56 rfl ?_
    refine Z.iconst (n := 1) dX2_sortSides_57 ⟨by decide, by decide⟩ ?_
    obtain ⟨z_12, K⟩ := K
    refine Z.iadd dX2_sortSides_58 z_12 ?_
    obtain ⟨z_13, K⟩ := K
    refine Y.iald dX2_sortSides_59 (hr1.2.2.1) (hr1.2.2.2.2.2.2.1) z_13 ?_
    refine Z.iload (k := 1) dX2_sortSides_60 rfl ?_
    obtain ⟨z_14, K⟩ := K
    refine Z.isub dX2_sortSides_62 z_14 ?_
    refine Z.istore (ls' := [(6, zI (((E_7 (r1 + 2) (v2 + 1)) - x_3))), (5, zI ((x_3 - ((E (r1 + 2) v2) + 1)))), (4, zI x_3), (3, zI (((E (r1 + 2) v2) + 1))), (0, zR 30), (1, zR r1), (2, zI v2)]) dX2_sortSides_63 (by decide) rfl ?_
    refine Z.aload_n (k := 5) dX2_sortSides_65 rfl ?_
    refine Y.getR (o := some (r1 + 1)) 0 dX2_sortSides_66 zl_X2_58 (congrArg Prod.fst hr1.1) (by decide) rfl hr1.2.2.2.2.1 hr1.2.2.2.2.2.2.2.2.1 ?_
    refine Z.iload_n (k := 3) dX2_sortSides_69 rfl ?_
    refine Z.aload_n (k := 4) dX2_sortSides_70 rfl ?_
    refine Y.getR (o := some 31) 2 dX2_sortSides_71 zl_X2_9 (rfl) (by decide) rfl (zX_0_7 hX).2.2 (zX_30_2 hX).1 ?_
    refine Z.iconst (n := 0) dX2_sortSides_74 ⟨by decide, by decide⟩ ?_
    refine Z.iload (k := 1) dX2_sortSides_75 rfl ?_
    obtain ⟨z_15, K⟩ := K
    refine Y.copy dX2_sortSides_77 zk_X2_73 zcopy ⟨by decide, by decide⟩ (Nat.le_of_ble_eq_true rfl) (hr1.2.1) (rfl) (hr1.2.2.2.2.2.1) ((zX_30_2 hX).2.2) z_15 ?_
    generalize eE_16 : zcpE E_7 (r1 + 1) (((E (r1 + 2) v2) + 1)) 31 0 ((x_3 - ((E (r1 + 2) v2) + 1))) = E_16
    replace K := K E_16 eE_16.symm
    refine Z.aload_n (k := 5) dX2_sortSides_80 rfl ?_
    refine Y.getR (o := some (r1 + 1)) 0 dX2_sortSides_81 zl_X2_58 (congrArg Prod.fst hr1.1) (by decide) rfl hr1.2.2.2.2.1 hr1.2.2.2.2.2.2.2.2.1 ?_
    refine Z.iload (k := 2) dX2_sortSides_84 rfl ?_
    refine Z.aload_n (k := 5) dX2_sortSides_86 rfl ?_
    refine Y.getR (o := some (r1 + 1)) 0 dX2_sortSides_87 zl_X2_58 (congrArg Prod.fst hr1.1) (by decide) rfl hr1.2.2.2.2.1 hr1.2.2.2.2.2.2.2.2.1 ?_
    refine Z.iload_n (k := 3) dX2_sortSides_90 rfl ?_
    refine Z.iload (k := 0) dX2_sortSides_91 rfl ?_
    obtain ⟨z_17, K⟩ := K
    refine Y.copy dX2_sortSides_93 zk_X2_73 zcopy ⟨by decide, by decide⟩ (Nat.le_of_ble_eq_true rfl) (hr1.2.1) (hr1.2.1) (hr1.2.2.2.2.2.1) (hr1.2.2.2.2.2.1) z_17 ?_
    generalize eE_18 : zcpE E_16 (r1 + 1) x_3 (r1 + 1) (((E (r1 + 2) v2) + 1)) (((E_7 (r1 + 2) (v2 + 1)) - x_3)) = E_18
    replace K := K E_18 eE_18.symm
    refine Z.aload_n (k := 4) dX2_sortSides_96 rfl ?_
    refine Y.getR (o := some 31) 2 dX2_sortSides_97 zl_X2_9 (rfl) (by decide) rfl (zX_0_7 hX).2.2 (zX_30_2 hX).1 ?_
    refine Z.iconst (n := 0) dX2_sortSides_100 ⟨by decide, by decide⟩ ?_
    refine Z.aload_n (k := 5) dX2_sortSides_101 rfl ?_
    refine Y.getR (o := some (r1 + 1)) 0 dX2_sortSides_102 zl_X2_58 (congrArg Prod.fst hr1.1) (by decide) rfl hr1.2.2.2.2.1 hr1.2.2.2.2.2.2.2.2.1 ?_
    refine Z.iload_n (k := 3) dX2_sortSides_105 rfl ?_
    refine Z.iload (k := 0) dX2_sortSides_106 rfl ?_
    obtain ⟨z_19, K⟩ := K
    refine Z.iadd dX2_sortSides_108 z_19 ?_
    refine Z.iload (k := 1) dX2_sortSides_109 rfl ?_
    obtain ⟨z_20, K⟩ := K
    refine Y.copy dX2_sortSides_111 zk_X2_73 zcopy ⟨by decide, by decide⟩ (Nat.le_of_ble_eq_true rfl) (rfl) (hr1.2.1) ((zX_30_2 hX).2.2) (hr1.2.2.2.2.2.1) z_20 ?_
    generalize eE_21 : zcpE E_18 31 0 (r1 + 1) ((((E (r1 + 2) v2) + 1) + ((E_7 (r1 + 2) (v2 + 1)) - x_3))) ((x_3 - ((E (r1 + 2) v2) + 1))) = E_21
    replace K := K E_21 eE_21.symm
    exact Z.vret dX2_sortSides_114 rfl K
  · replace K := K.2 c_10
    exact Z.vret dX2_sortSides_45 rfl K
set_option maxRecDepth 20000 in
theorem X2_goes_0 {kz : Nat × Nat} {Q : Option zV → zH → Prop} {d : List Nat} {G : Nat → Int → Option Nat} {E : Nat → Int → Int} {r1 : Nat} {v2 : Int} (hX : zK zXt d G) (hr1 : zRk d G r1) (K : ((0 : Int) ≤ v2 ∧ v2 < (6 : Int)) ∧ ((E (r1 + 3) v2) = 0 → Z zm_X2_goes kz Q 33 [(1, zR r1), (2, zI v2), (3, zI 0)] [] (d, G, E)) ∧ (¬ ((E (r1 + 3) v2) = 0) → ∃ x_3, zM zm_X5_isEqual [zR r1, zI v2] (d, G, E) (some (zI x_3)) (d, G, E) ∧ (x_3 = 0 → Z zm_X2_goes kz Q 33 [(1, zR r1), (2, zI v2), (3, zI 0)] [] (d, G, E)) ∧ (¬ (x_3 = 0) → ∃ x_7, zM zm_X5_hasLikeSides [zR r1, zI v2, zR 1] (d, G, E) (some (zI x_7)) (d, G, E) ∧ (x_7 = 0 → Z zm_X2_goes kz Q 33 [(1, zR r1), (2, zI v2), (3, zI 0)] [] (d, G, E)) ∧ (¬ (x_7 = 0) → Q (some (zI 1)) (d, G, E))))) : Z zm_X2_goes kz Q 0 [(0, zR 30), (1, zR r1), (2, zI v2)] [] (d, G, E) := by
  refine Z.aload_n (k := 1) dX2_goes_0 rfl ?_
  refine Y.getR (o := some (r1 + 3)) 2 dX2_goes_1 zl_X2_79 (congrArg Prod.fst hr1.1) (by decide) rfl hr1.2.2.2.2.1 hr1.2.2.2.2.2.2.2.2.2.2 ?_
  refine Z.iload_n (k := 2) dX2_goes_4 rfl ?_
  obtain ⟨z_1, K⟩ := K
  refine Y.zald dX2_goes_5 (hr1.2.2.2.1) (hr1.2.2.2.2.2.2.2.1) z_1 ?_
  refine Z.if_eq 31 dX2_goes_6 rfl ⟨fun c_2 => ?_, fun c_2 => ?_⟩
  · replace K := K.1 c_2
    refine Z.iconst (n := 0) dX2_goes_31 ⟨by decide, by decide⟩ ?_
    refine Z.istore_n (ls' := [(3, zI 0), (0, zR 30), (1, zR r1), (2, zI v2)]) dX2_goes_32 (by decide) rfl ?_
    refine Z.pick (ls' := [(1, zR r1), (2, zI v2), (3, zI 0)]) [2, 3, 0] rfl ?_
    exact K
  · replace K := K.2 c_2
    refine Z.aload_n (k := 1) dX2_goes_9 rfl ?_
    refine Z.iload_n (k := 2) dX2_goes_10 rfl ?_
    obtain ⟨x_3, m_4, K⟩ := K
    refine Y.callV (g := zm_X5_isEqual) (vs := [zI v2]) (st := []) dX2_goes_11 ⟨zg_X5_isEqual.1, zg_X5_isEqual.2.1, zg_X5_isEqual.2.2, by decide⟩ ⟨zk_X2_35, zv_X5_isEqual⟩ (ci := 5) (congrArg Prod.fst hr1.1) rfl (hr1.2.2.2.2.1) rfl rfl (Nat.le_of_ble_eq_true rfl) m_4 (Or.inl rfl) ?_
    show Z zm_X2_goes kz Q 14 [(0, zR 30), (1, zR r1), (2, zI v2)] [zI x_3] (d, G, E)
    refine Z.if_eq 31 dX2_goes_14 rfl ⟨fun c_6 => ?_, fun c_6 => ?_⟩
    · replace K := K.1 c_6
      refine Z.iconst (n := 0) dX2_goes_31 ⟨by decide, by decide⟩ ?_
      refine Z.istore_n (ls' := [(3, zI 0), (0, zR 30), (1, zR r1), (2, zI v2)]) dX2_goes_32 (by decide) rfl ?_
      refine Z.pick (ls' := [(1, zR r1), (2, zI v2), (3, zI 0)]) [2, 3, 0] rfl ?_
      exact K
    · replace K := K.2 c_6
      refine Z.aload_n (k := 1) dX2_goes_17 rfl ?_
      refine Z.iload_n (k := 2) dX2_goes_18 rfl ?_
      refine Z.aload_n (k := 0) dX2_goes_19 rfl ?_
      refine Y.getR (o := some 1) 0 dX2_goes_20 zl_X2_22 (rfl) (by decide) rfl (zX_0_7 hX).2.2 (zX_30_0 hX).1 ?_
      obtain ⟨x_7, m_8, K⟩ := K
      refine Y.callV (g := zm_X5_hasLikeSides) (vs := [zI v2, zR 1]) (st := []) dX2_goes_23 ⟨zg_X5_hasLikeSides.1, zg_X5_hasLikeSides.2.1, zg_X5_hasLikeSides.2.2, by decide⟩ ⟨zk_X2_83, zv_X5_hasLikeSides⟩ (ci := 5) (congrArg Prod.fst hr1.1) rfl (hr1.2.2.2.2.1) rfl rfl (Nat.le_of_ble_eq_true rfl) m_8 (Or.inl rfl) ?_
      show Z zm_X2_goes kz Q 26 [(0, zR 30), (1, zR r1), (2, zI v2)] [zI x_7] (d, G, E)
      refine Z.if_eq 31 dX2_goes_26 rfl ⟨fun c_10 => ?_, fun c_10 => ?_⟩
      · replace K := K.1 c_10
        refine Z.iconst (n := 0) dX2_goes_31 ⟨by decide, by decide⟩ ?_
        refine Z.istore_n (ls' := [(3, zI 0), (0, zR 30), (1, zR r1), (2, zI v2)]) dX2_goes_32 (by decide) rfl ?_
        refine Z.pick (ls' := [(1, zR r1), (2, zI v2), (3, zI 0)]) [2, 3, 0] rfl ?_
        exact K
      · replace K := K.2 c_10
        refine Z.iconst (n := 1) dX2_goes_29 ⟨by decide, by decide⟩ ?_
        exact Z.iret (ty := .boolean) dX2_goes_30 rfl rfl K
set_option maxRecDepth 20000 in
theorem X2_goes_33 {kz : Nat × Nat} {Q : Option zV → zH → Prop} {d : List Nat} {G : Nat → Int → Option Nat} {E : Nat → Int → Int} {r1 : Nat} {v2 : Int} {v3 : Int} (hX : zK zXt d G) (hr1 : zRk d G r1) (K : (v2 ≤ v3 → Q (some (zI 0)) (d, G, E)) ∧ (¬ (v2 ≤ v3) → ((0 : Int) ≤ v3 ∧ v3 < (6 : Int)) ∧ ((0 : Int) ≤ v2 ∧ v2 < (6 : Int)) ∧ ((E (r1 + 3) v3) ≠ (E (r1 + 3) v2) → zin (v3 + 1) ∧ Z zm_X2_goes kz Q 33 [(1, zR r1), (2, zI v2), (3, zI ((v3 + 1)))] [] (d, G, E)) ∧ (¬ ((E (r1 + 3) v3) ≠ (E (r1 + 3) v2)) → ∃ x_6, zM zm_X5_saysAlike [zR r1, zI v3, zI v2] (d, G, E) (some (zI x_6)) (d, G, E) ∧ (x_6 = 0 → zin (v3 + 1) ∧ Z zm_X2_goes kz Q 33 [(1, zR r1), (2, zI v2), (3, zI ((v3 + 1)))] [] (d, G, E)) ∧ (¬ (x_6 = 0) → Q (some (zI 1)) (d, G, E))))) : Z zm_X2_goes kz Q 33 [(1, zR r1), (2, zI v2), (3, zI v3)] [] (d, G, E) := by
  refine Z.iload_n (k := 2) dX2_goes_33 rfl ?_
  refine Z.iload_n (k := 1) dX2_goes_34 rfl ?_
  refine Z.icmp_ge 70 dX2_goes_35 rfl ⟨fun c_1 => ?_, fun c_1 => ?_⟩
  · replace K := K.1 c_1
    refine Z.iconst (n := 0) dX2_goes_70 ⟨by decide, by decide⟩ ?_
    exact Z.iret (ty := .boolean) dX2_goes_71 rfl rfl K
  · replace K := K.2 c_1
    refine Z.aload_n (k := 0) dX2_goes_38 rfl ?_
    refine Y.getR (o := some (r1 + 3)) 2 dX2_goes_39 zl_X2_79 (congrArg Prod.fst hr1.1) (by decide) rfl hr1.2.2.2.2.1 hr1.2.2.2.2.2.2.2.2.2.2 ?_
    refine Z.iload_n (k := 2) dX2_goes_42 rfl ?_
    obtain ⟨z_2, K⟩ := K
    refine Y.zald dX2_goes_43 (hr1.2.2.2.1) (hr1.2.2.2.2.2.2.2.1) z_2 ?_
    refine Z.aload_n (k := 0) dX2_goes_44 rfl ?_
    refine Y.getR (o := some (r1 + 3)) 2 dX2_goes_45 zl_X2_79 (congrArg Prod.fst hr1.1) (by decide) rfl hr1.2.2.2.2.1 hr1.2.2.2.2.2.2.2.2.2.2 ?_
    refine Z.iload_n (k := 1) dX2_goes_48 rfl ?_
    obtain ⟨z_3, K⟩ := K
    refine Y.zald dX2_goes_49 (hr1.2.2.2.1) (hr1.2.2.2.2.2.2.2.1) z_3 ?_
    refine Z.icmp_ne 64 dX2_goes_50 rfl ⟨fun c_4 => ?_, fun c_4 => ?_⟩
    · replace K := K.1 c_4
      obtain ⟨z_5, K⟩ := K
      refine Z.iinc (k := 2) (ls' := [(3, zI ((v3 + 1))), (1, zR r1), (2, zI v2)]) dX2_goes_64 rfl (by decide) z_5 rfl ?_
      refine Z.goto 33 dX2_goes_67 rfl ?_
      refine Z.pick (ls' := [(1, zR r1), (2, zI v2), (3, zI ((v3 + 1)))]) [1, 2, 0] rfl ?_
      exact K
    · replace K := K.2 c_4
      refine Z.aload_n (k := 0) dX2_goes_53 rfl ?_
      refine Z.iload_n (k := 2) dX2_goes_54 rfl ?_
      refine Z.iload_n (k := 1) dX2_goes_55 rfl ?_
      obtain ⟨x_6, m_7, K⟩ := K
      refine Y.callV (g := zm_X5_saysAlike) (vs := [zI v3, zI v2]) (st := []) dX2_goes_56 ⟨zg_X5_saysAlike.1, zg_X5_saysAlike.2.1, zg_X5_saysAlike.2.2, by decide⟩ ⟨zk_X2_87, zv_X5_saysAlike⟩ (ci := 5) (congrArg Prod.fst hr1.1) rfl (hr1.2.2.2.2.1) rfl rfl (Nat.le_of_ble_eq_true rfl) m_7 (Or.inl rfl) ?_
      show Z zm_X2_goes kz Q 59 [(1, zR r1), (2, zI v2), (3, zI v3)] [zI x_6] (d, G, E)
      refine Z.if_eq 64 dX2_goes_59 rfl ⟨fun c_9 => ?_, fun c_9 => ?_⟩
      · replace K := K.1 c_9
        obtain ⟨z_10, K⟩ := K
        refine Z.iinc (k := 2) (ls' := [(3, zI ((v3 + 1))), (1, zR r1), (2, zI v2)]) dX2_goes_64 rfl (by decide) z_10 rfl ?_
        refine Z.goto 33 dX2_goes_67 rfl ?_
        refine Z.pick (ls' := [(1, zR r1), (2, zI v2), (3, zI ((v3 + 1)))]) [1, 2, 0] rfl ?_
        exact K
      · replace K := K.2 c_9
        refine Z.iconst (n := 1) dX2_goes_62 ⟨by decide, by decide⟩ ?_
        exact Z.iret (ty := .boolean) dX2_goes_63 rfl rfl K
set_option maxRecDepth 20000 in
theorem X2_numberLetters_0 {kz : Nat × Nat} {Q : Option zV → zH → Prop} {d : List Nat} {G : Nat → Int → Option Nat} {E : Nat → Int → Int} {r1 : Nat} (hX : zK zXt d G) (hr1 : zRk d G r1) (K : ∃ E_1, zM zm_J7_fill_53178 [zR 32, zI ((-1))] (d, G, E) none (d, G, E_1) ∧ ∀ E_4, E_4 = zuE E_1 30 4 0 → ((0 : Int) ≤ (E_4 r1 3) ∧ (E_4 r1 3) < (7 : Int)) ∧ Z zm_X2_numberLetters kz Q 25 [(0, zR 30), (1, zR r1), (2, zI ((E_4 (r1 + 2) (E_4 r1 3)))), (3, zI 0)] [] (d, G, E_4)) : Z zm_X2_numberLetters kz Q 0 [(0, zR 30), (1, zR r1)] [] (d, G, E) := by
  refine Z.aload_n (k := 0) dX2_numberLetters_0 rfl ?_
  refine Y.getR (o := some 32) 3 dX2_numberLetters_1 zl_X2_15 (rfl) (by decide) rfl (zX_0_7 hX).2.2 (zX_30_3 hX).1 ?_
  refine Z.iconst (n := -1) dX2_numberLetters_4 ⟨by decide, by decide⟩ ?_
  obtain ⟨E_1, m_2, K⟩ := K
  refine Y.callS (g := zm_J7_fill_53178) (vs := [zR 32, zI ((-1))]) (st := []) dX2_numberLetters_5 ⟨zg_J7_fill_53178.1, zg_J7_fill_53178.2.1, zg_J7_fill_53178.2.2, by decide⟩ ⟨Or.inl zk_X2_91, zs_J7_fill_53178⟩ rfl rfl (Nat.le_of_ble_eq_true rfl) m_2 (Or.inl rfl) ?_
  show Z zm_X2_numberLetters kz Q 8 [(0, zR 30), (1, zR r1)] [] (d, G, E_1)
  refine Z.aload_n (k := 0) dX2_numberLetters_8 rfl ?_
  refine Z.iconst (n := 0) dX2_numberLetters_9 ⟨by decide, by decide⟩ ?_
  refine Y.putI 4 dX2_numberLetters_10 zw_X2_18 (fun q => by cases q) (rfl) rfl (zX_0_7 hX).2.2 (Or.inl rfl) ?_
  generalize eE_4 : zuE E_1 30 4 0 = E_4
  replace K := K E_4 eE_4.symm
  refine Z.aload_n (k := 1) dX2_numberLetters_13 rfl ?_
  refine Y.getR (o := some (r1 + 2)) 1 dX2_numberLetters_14 zl_X2_55 (congrArg Prod.fst hr1.1) (by decide) rfl hr1.2.2.2.2.1 hr1.2.2.2.2.2.2.2.2.2.1 ?_
  refine Z.aload_n (k := 1) dX2_numberLetters_17 rfl ?_
  refine Y.getI 3 dX2_numberLetters_18 zl_X2_30 (congrArg Prod.fst hr1.1) (by decide) rfl hr1.2.2.2.2.1 ?_
  obtain ⟨z_5, K⟩ := K
  refine Y.iald dX2_numberLetters_21 (hr1.2.2.1) (hr1.2.2.2.2.2.2.1) z_5 ?_
  refine Z.istore_n (ls' := [(2, zI ((E_4 (r1 + 2) (E_4 r1 3)))), (0, zR 30), (1, zR r1)]) dX2_numberLetters_22 (by decide) rfl ?_
  refine Z.iconst (n := 0) dX2_numberLetters_23 ⟨by decide, by decide⟩ ?_
  refine Z.istore_n (ls' := [(3, zI 0), (2, zI ((E_4 (r1 + 2) (E_4 r1 3)))), (0, zR 30), (1, zR r1)]) dX2_numberLetters_24 (by decide) rfl ?_
  refine Z.pick (ls' := [(0, zR 30), (1, zR r1), (2, zI ((E_4 (r1 + 2) (E_4 r1 3)))), (3, zI 0)]) [2, 3, 1, 0] rfl ?_
  exact K
set_option maxRecDepth 20000 in
theorem X2_numberLetters_25 {kz : Nat × Nat} {Q : Option zV → zH → Prop} {d : List Nat} {G : Nat → Int → Option Nat} {E : Nat → Int → Int} {r1 : Nat} {v2 : Int} {v3 : Int} (hX : zK zXt d G) (hr1 : zRk d G r1) (K : (v2 ≤ v3 → Q none (d, G, E)) ∧ (¬ (v2 ≤ v3) → ((0 : Int) ≤ v3 ∧ v3 < (180 : Int)) ∧ zin ((-1) - (E (r1 + 1) v3)) ∧ (((-1) - (E (r1 + 1) v3)) < 0 → zin (v3 + 1) ∧ Z zm_X2_numberLetters kz Q 25 [(0, zR 30), (1, zR r1), (2, zI v2), (3, zI ((v3 + 1)))] [] (d, G, E)) ∧ (¬ (((-1) - (E (r1 + 1) v3)) < 0) → (40 ≤ ((-1) - (E (r1 + 1) v3)) → zin (v3 + 1) ∧ Z zm_X2_numberLetters kz Q 25 [(0, zR 30), (1, zR r1), (2, zI v2), (3, zI ((v3 + 1)))] [] (d, G, E)) ∧ (¬ (40 ≤ ((-1) - (E (r1 + 1) v3))) → ((0 : Int) ≤ ((-1) - (E (r1 + 1) v3)) ∧ ((-1) - (E (r1 + 1) v3)) < (40 : Int)) ∧ ((E 32 ((-1) - (E (r1 + 1) v3))) ≠ (-1) → ((0 : Int) ≤ ((-1) - (E (r1 + 1) v3)) ∧ ((-1) - (E (r1 + 1) v3)) < (40 : Int)) ∧ zin ((-1) - (E 32 ((-1) - (E (r1 + 1) v3)))) ∧ ((0 : Int) ≤ v3 ∧ v3 < (180 : Int)) ∧ ∀ E_13, E_13 = zuE E (r1 + 1) v3 (((-1) - (E 32 ((-1) - (E (r1 + 1) v3))))) → zin (v3 + 1) ∧ Z zm_X2_numberLetters kz Q 25 [(0, zR 30), (1, zR r1), (2, zI v2), (3, zI ((v3 + 1)))] [] (d, G, E_13)) ∧ (¬ ((E 32 ((-1) - (E (r1 + 1) v3))) ≠ (-1)) → ((0 : Int) ≤ ((-1) - (E (r1 + 1) v3)) ∧ ((-1) - (E (r1 + 1) v3)) < (40 : Int)) ∧ ∀ E_16, E_16 = zuE E 32 (((-1) - (E (r1 + 1) v3))) ((E 30 4)) → zin ((E_16 30 4) + 1) ∧ ∀ E_18, E_18 = zuE E_16 30 4 (((E_16 30 4) + 1)) → ((0 : Int) ≤ ((-1) - (E (r1 + 1) v3)) ∧ ((-1) - (E (r1 + 1) v3)) < (40 : Int)) ∧ zin ((-1) - (E_18 32 ((-1) - (E (r1 + 1) v3)))) ∧ ((0 : Int) ≤ v3 ∧ v3 < (180 : Int)) ∧ ∀ E_22, E_22 = zuE E_18 (r1 + 1) v3 (((-1) - (E_18 32 ((-1) - (E (r1 + 1) v3))))) → zin (v3 + 1) ∧ Z zm_X2_numberLetters kz Q 25 [(0, zR 30), (1, zR r1), (2, zI v2), (3, zI ((v3 + 1)))] [] (d, G, E_22)))))) : Z zm_X2_numberLetters kz Q 25 [(0, zR 30), (1, zR r1), (2, zI v2), (3, zI v3)] [] (d, G, E) := by
  refine Z.iload_n (k := 3) dX2_numberLetters_25 rfl ?_
  refine Z.iload_n (k := 2) dX2_numberLetters_26 rfl ?_
  refine Z.icmp_ge 108 dX2_numberLetters_27 rfl ⟨fun c_1 => ?_, fun c_1 => ?_⟩
  · replace K := K.1 c_1
    exact Z.vret dX2_numberLetters_108 rfl K
  · replace K := K.2 c_1
    refine Z.iconst (n := -1) dX2_numberLetters_30 ⟨by decide, by decide⟩ ?_
    refine Z.aload_n (k := 1) dX2_numberLetters_31 rfl ?_
    refine Y.getR (o := some (r1 + 1)) 0 dX2_numberLetters_32 zl_X2_58 (congrArg Prod.fst hr1.1) (by decide) rfl hr1.2.2.2.2.1 hr1.2.2.2.2.2.2.2.2.1 ?_
    refine Z.iload_n (k := 3) dX2_numberLetters_35 rfl ?_
    obtain ⟨z_2, K⟩ := K
    refine Y.iald dX2_numberLetters_36 (hr1.2.1) (hr1.2.2.2.2.2.1) z_2 ?_
    obtain ⟨z_3, K⟩ := K
    refine Z.isub dX2_numberLetters_37 z_3 ?_
    refine Z.istore (ls' := [(4, zI (((-1) - (E (r1 + 1) v3)))), (0, zR 30), (1, zR r1), (2, zI v2), (3, zI v3)]) dX2_numberLetters_38 (by decide) rfl ?_
    refine Z.iload (k := 0) dX2_numberLetters_40 rfl ?_
    refine Z.if_lt 102 dX2_numberLetters_42 rfl ⟨fun c_4 => ?_, fun c_4 => ?_⟩
    · replace K := K.1 c_4
      obtain ⟨z_5, K⟩ := K
      refine Z.iinc (k := 4) (ls' := [(3, zI ((v3 + 1))), (4, zI (((-1) - (E (r1 + 1) v3)))), (0, zR 30), (1, zR r1), (2, zI v2)]) dX2_numberLetters_102 rfl (by decide) z_5 rfl ?_
      refine Z.goto 25 dX2_numberLetters_105 rfl ?_
      refine Z.pick (ls' := [(0, zR 30), (1, zR r1), (2, zI v2), (3, zI ((v3 + 1)))]) [2, 3, 4, 0] rfl ?_
      exact K
    · replace K := K.2 c_4
      refine Z.iload (k := 0) dX2_numberLetters_45 rfl ?_
      refine Z.aload_n (k := 1) dX2_numberLetters_47 rfl ?_
      refine Y.getR (o := some 32) 3 dX2_numberLetters_48 zl_X2_15 (rfl) (by decide) rfl (zX_0_7 hX).2.2 (zX_30_3 hX).1 ?_
      refine Y.alen 40 40 dX2_numberLetters_51 (rfl) ((zX_30_3 hX).2.2) rfl ⟨by decide, by decide⟩ ?_
      refine Z.icmp_ge 102 dX2_numberLetters_52 rfl ⟨fun c_6 => ?_, fun c_6 => ?_⟩
      · replace K := K.1 c_6
        obtain ⟨z_7, K⟩ := K
        refine Z.iinc (k := 4) (ls' := [(3, zI ((v3 + 1))), (4, zI (((-1) - (E (r1 + 1) v3)))), (0, zR 30), (1, zR r1), (2, zI v2)]) dX2_numberLetters_102 rfl (by decide) z_7 rfl ?_
        refine Z.goto 25 dX2_numberLetters_105 rfl ?_
        refine Z.pick (ls' := [(0, zR 30), (1, zR r1), (2, zI v2), (3, zI ((v3 + 1)))]) [2, 3, 4, 0] rfl ?_
        exact K
      · replace K := K.2 c_6
        refine Z.aload_n (k := 1) dX2_numberLetters_55 rfl ?_
        refine Y.getR (o := some 32) 3 dX2_numberLetters_56 zl_X2_15 (rfl) (by decide) rfl (zX_0_7 hX).2.2 (zX_30_3 hX).1 ?_
        refine Z.iload (k := 0) dX2_numberLetters_59 rfl ?_
        obtain ⟨z_8, K⟩ := K
        refine Y.iald dX2_numberLetters_61 (rfl) ((zX_30_3 hX).2.2) z_8 ?_
        refine Z.iconst (n := -1) dX2_numberLetters_62 ⟨by decide, by decide⟩ ?_
        refine Z.icmp_ne 87 dX2_numberLetters_63 rfl ⟨fun c_9 => ?_, fun c_9 => ?_⟩
        · replace K := K.1 c_9
          refine Z.aload_n (k := 2) dX2_numberLetters_87 rfl ?_
          refine Y.getR (o := some (r1 + 1)) 0 dX2_numberLetters_88 zl_X2_58 (congrArg Prod.fst hr1.1) (by decide) rfl hr1.2.2.2.2.1 hr1.2.2.2.2.2.2.2.2.1 ?_
          refine Z.iload_n (k := 4) dX2_numberLetters_91 rfl ?_
          refine Z.iconst (n := -1) dX2_numberLetters_92 ⟨by decide, by decide⟩ ?_
          refine Z.aload_n (k := 1) dX2_numberLetters_93 rfl ?_
          refine Y.getR (o := some 32) 3 dX2_numberLetters_94 zl_X2_15 (rfl) (by decide) rfl (zX_0_7 hX).2.2 (zX_30_3 hX).1 ?_
          refine Z.iload (k := 0) dX2_numberLetters_97 rfl ?_
          obtain ⟨z_10, K⟩ := K
          refine Y.iald dX2_numberLetters_99 (rfl) ((zX_30_3 hX).2.2) z_10 ?_
          obtain ⟨z_11, K⟩ := K
          refine Z.isub dX2_numberLetters_100 z_11 ?_
          obtain ⟨z_12, K⟩ := K
          refine Y.iast dX2_numberLetters_101 (hr1.2.1) (hr1.2.2.2.2.2.1) z_12 ?_
          generalize eE_13 : zuE E (r1 + 1) v3 (((-1) - (E 32 ((-1) - (E (r1 + 1) v3))))) = E_13
          replace K := K E_13 eE_13.symm
          obtain ⟨z_14, K⟩ := K
          refine Z.iinc (k := 4) (ls' := [(3, zI ((v3 + 1))), (4, zI (((-1) - (E (r1 + 1) v3)))), (0, zR 30), (1, zR r1), (2, zI v2)]) dX2_numberLetters_102 rfl (by decide) z_14 rfl ?_
          refine Z.goto 25 dX2_numberLetters_105 rfl ?_
          refine Z.pick (ls' := [(0, zR 30), (1, zR r1), (2, zI v2), (3, zI ((v3 + 1)))]) [2, 3, 4, 0] rfl ?_
          exact K
        · replace K := K.2 c_9
          refine Z.aload_n (k := 1) dX2_numberLetters_66 rfl ?_
          refine Y.getR (o := some 32) 3 dX2_numberLetters_67 zl_X2_15 (rfl) (by decide) rfl (zX_0_7 hX).2.2 (zX_30_3 hX).1 ?_
          refine Z.iload (k := 0) dX2_numberLetters_70 rfl ?_
          refine Z.aload_n (k := 1) dX2_numberLetters_72 rfl ?_
          refine Y.getI 4 dX2_numberLetters_73 zl_X2_18 (rfl) (by decide) rfl (zX_0_7 hX).2.2 ?_
          obtain ⟨z_15, K⟩ := K
          refine Y.iast dX2_numberLetters_76 (rfl) ((zX_30_3 hX).2.2) z_15 ?_
          generalize eE_16 : zuE E 32 (((-1) - (E (r1 + 1) v3))) ((E 30 4)) = E_16
          replace K := K E_16 eE_16.symm
          refine Z.aload_n (k := 1) dX2_numberLetters_77 rfl ?_
          refine Z.dup_i dX2_numberLetters_78 (fun _ => rfl) ?_
          refine Y.getI 4 dX2_numberLetters_79 zl_X2_18 (rfl) (by decide) rfl (zX_0_7 hX).2.2 ?_
          refine Z.iconst (n := 1) dX2_numberLetters_82 ⟨by decide, by decide⟩ ?_
          obtain ⟨z_17, K⟩ := K
          refine Z.iadd dX2_numberLetters_83 z_17 ?_
          refine Y.putI 4 dX2_numberLetters_84 zw_X2_18 (fun q => by cases q) (rfl) rfl (zX_0_7 hX).2.2 (Or.inl rfl) ?_
          generalize eE_18 : zuE E_16 30 4 (((E_16 30 4) + 1)) = E_18
          replace K := K E_18 eE_18.symm
          refine Z.aload_n (k := 2) dX2_numberLetters_87 rfl ?_
          refine Y.getR (o := some (r1 + 1)) 0 dX2_numberLetters_88 zl_X2_58 (congrArg Prod.fst hr1.1) (by decide) rfl hr1.2.2.2.2.1 hr1.2.2.2.2.2.2.2.2.1 ?_
          refine Z.iload_n (k := 4) dX2_numberLetters_91 rfl ?_
          refine Z.iconst (n := -1) dX2_numberLetters_92 ⟨by decide, by decide⟩ ?_
          refine Z.aload_n (k := 1) dX2_numberLetters_93 rfl ?_
          refine Y.getR (o := some 32) 3 dX2_numberLetters_94 zl_X2_15 (rfl) (by decide) rfl (zX_0_7 hX).2.2 (zX_30_3 hX).1 ?_
          refine Z.iload (k := 0) dX2_numberLetters_97 rfl ?_
          obtain ⟨z_19, K⟩ := K
          refine Y.iald dX2_numberLetters_99 (rfl) ((zX_30_3 hX).2.2) z_19 ?_
          obtain ⟨z_20, K⟩ := K
          refine Z.isub dX2_numberLetters_100 z_20 ?_
          obtain ⟨z_21, K⟩ := K
          refine Y.iast dX2_numberLetters_101 (hr1.2.1) (hr1.2.2.2.2.2.1) z_21 ?_
          generalize eE_22 : zuE E_18 (r1 + 1) v3 (((-1) - (E_18 32 ((-1) - (E (r1 + 1) v3))))) = E_22
          replace K := K E_22 eE_22.symm
          obtain ⟨z_23, K⟩ := K
          refine Z.iinc (k := 4) (ls' := [(3, zI ((v3 + 1))), (4, zI (((-1) - (E (r1 + 1) v3)))), (0, zR 30), (1, zR r1), (2, zI v2)]) dX2_numberLetters_102 rfl (by decide) z_23 rfl ?_
          refine Z.goto 25 dX2_numberLetters_105 rfl ?_
          refine Z.pick (ls' := [(0, zR 30), (1, zR r1), (2, zI v2), (3, zI ((v3 + 1)))]) [2, 3, 4, 0] rfl ?_
          exact K
set_option maxRecDepth 20000 in
theorem X2_clean_0 {kz : Nat × Nat} {Q : Option zV → zH → Prop} {d : List Nat} {G : Nat → Int → Option Nat} {E : Nat → Int → Int} {r1 : Nat} (hX : zK zXt d G) (hr1 : zRk d G r1) (K : Z zm_X2_clean kz Q 4 [(0, zR 30), (1, zR r1), (2, zI 0), (3, zI 0)] [] (d, G, E)) : Z zm_X2_clean kz Q 0 [(0, zR 30), (1, zR r1)] [] (d, G, E) := by
  refine Z.iconst (n := 0) dX2_clean_0 ⟨by decide, by decide⟩ ?_
  refine Z.istore_n (ls' := [(2, zI 0), (0, zR 30), (1, zR r1)]) dX2_clean_1 (by decide) rfl ?_
  refine Z.iconst (n := 0) dX2_clean_2 ⟨by decide, by decide⟩ ?_
  refine Z.istore_n (ls' := [(3, zI 0), (2, zI 0), (0, zR 30), (1, zR r1)]) dX2_clean_3 (by decide) rfl ?_
  refine Z.pick (ls' := [(0, zR 30), (1, zR r1), (2, zI 0), (3, zI 0)]) [2, 3, 1, 0] rfl ?_
  exact K
set_option maxRecDepth 20000 in
theorem X2_clean_4 {kz : Nat × Nat} {Q : Option zV → zH → Prop} {d : List Nat} {G : Nat → Int → Option Nat} {E : Nat → Int → Int} {r1 : Nat} {v2 : Int} {v3 : Int} (hX : zK zXt d G) (hr1 : zRk d G r1) (K : (6 ≤ v3 → ∃ E_2, zM zm_X2_numberLetters [zR 30, zR r1] (d, G, E) none (d, G, E_2) ∧ (20 < (E_2 30 4) → Q (some (zI 0)) (d, G, E_2)) ∧ (¬ (20 < (E_2 30 4)) → Q (some (zI 1)) (d, G, E_2))) ∧ (¬ (6 ≤ v3) → ((E r1 3) ≤ v2 → ∃ E_7, zM zm_X2_numberLetters [zR 30, zR r1] (d, G, E) none (d, G, E_7) ∧ (20 < (E_7 30 4) → Q (some (zI 0)) (d, G, E_7)) ∧ (¬ (20 < (E_7 30 4)) → Q (some (zI 1)) (d, G, E_7))) ∧ (¬ ((E r1 3) ≤ v2) → ∃ x_11, zM zm_X5_isEqual [zR r1, zI v2] (d, G, E) (some (zI x_11)) (d, G, E) ∧ (x_11 = 0 → ∃ x_15, zM zm_X2_goes [zR 30, zR r1, zI v2] (d, G, E) (some (zI x_15)) (d, G, E) ∧ (x_15 = 0 → zin (v2 + 1) ∧ zin (v3 + 1) ∧ Z zm_X2_clean kz Q 4 [(0, zR 30), (1, zR r1), (2, zI ((v2 + 1))), (3, zI ((v3 + 1)))] [] (d, G, E)) ∧ (¬ (x_15 = 0) → ∃ E_21, zM zm_X5_remove [zR r1, zI v2] (d, G, E) none (d, G, E_21) ∧ zin (v3 + 1) ∧ Z zm_X2_clean kz Q 4 [(0, zR 30), (1, zR r1), (2, zI v2), (3, zI ((v3 + 1)))] [] (d, G, E_21))) ∧ (¬ (x_11 = 0) → ∃ E_25, zM zm_X2_sortSides [zR 30, zR r1, zI v2] (d, G, E) none (d, G, E_25) ∧ ∃ x_28, zM zm_X2_goes [zR 30, zR r1, zI v2] (d, G, E_25) (some (zI x_28)) (d, G, E_25) ∧ (x_28 = 0 → zin (v2 + 1) ∧ zin (v3 + 1) ∧ Z zm_X2_clean kz Q 4 [(0, zR 30), (1, zR r1), (2, zI ((v2 + 1))), (3, zI ((v3 + 1)))] [] (d, G, E_25)) ∧ (¬ (x_28 = 0) → ∃ E_34, zM zm_X5_remove [zR r1, zI v2] (d, G, E_25) none (d, G, E_34) ∧ zin (v3 + 1) ∧ Z zm_X2_clean kz Q 4 [(0, zR 30), (1, zR r1), (2, zI v2), (3, zI ((v3 + 1)))] [] (d, G, E_34)))))) : Z zm_X2_clean kz Q 4 [(0, zR 30), (1, zR r1), (2, zI v2), (3, zI v3)] [] (d, G, E) := by
  refine Z.iload_n (k := 3) dX2_clean_4 rfl ?_
  refine Z.bipush (n := 6) dX2_clean_5 ⟨by decide, by decide⟩ (by decide) ?_
  refine Z.icmp_ge 58 dX2_clean_7 rfl ⟨fun c_1 => ?_, fun c_1 => ?_⟩
  · replace K := K.1 c_1
    refine Z.aload_n (k := 0) dX2_clean_58 rfl ?_
    refine Z.aload_n (k := 1) dX2_clean_59 rfl ?_
    obtain ⟨E_2, m_3, K⟩ := K
    refine Y.callV (g := zm_X2_numberLetters) (vs := [zR r1]) (st := []) dX2_clean_60 ⟨zg_X2_numberLetters.1, zg_X2_numberLetters.2.1, zg_X2_numberLetters.2.2, by decide⟩ ⟨zk_X2_51, zv_X2_numberLetters⟩ (ci := 2) (rfl) rfl ((zX_0_7 hX).2.2) rfl rfl (Nat.le_of_ble_eq_true rfl) m_3 (Or.inl rfl) ?_
    show Z zm_X2_clean kz Q 63 [(0, zR 30), (1, zR r1), (2, zI v2), (3, zI v3)] [] (d, G, E_2)
    refine Z.aload_n (k := 0) dX2_clean_63 rfl ?_
    refine Y.getI 4 dX2_clean_64 zl_X2_18 (rfl) (by decide) rfl (zX_0_7 hX).2.2 ?_
    refine Z.bipush (n := 20) dX2_clean_67 ⟨by decide, by decide⟩ (by decide) ?_
    refine Z.icmp_gt 76 dX2_clean_69 rfl ⟨fun c_5 => ?_, fun c_5 => ?_⟩
    · replace K := K.1 c_5
      refine Z.iconst (n := 0) dX2_clean_76 ⟨by decide, by decide⟩ ?_
      exact Z.iret (ty := .boolean) dX2_clean_77 rfl rfl K
    · replace K := K.2 c_5
      refine Z.iconst (n := 1) dX2_clean_72 ⟨by decide, by decide⟩ ?_
      refine Z.goto 77 dX2_clean_73 rfl ?_
      exact Z.iret (ty := .boolean) dX2_clean_77 rfl rfl K
  · replace K := K.2 c_1
    refine Z.iload_n (k := 2) dX2_clean_10 rfl ?_
    refine Z.aload_n (k := 1) dX2_clean_11 rfl ?_
    refine Y.getI 3 dX2_clean_12 zl_X2_30 (congrArg Prod.fst hr1.1) (by decide) rfl hr1.2.2.2.2.1 ?_
    refine Z.icmp_ge 58 dX2_clean_15 rfl ⟨fun c_6 => ?_, fun c_6 => ?_⟩
    · replace K := K.1 c_6
      refine Z.aload_n (k := 0) dX2_clean_58 rfl ?_
      refine Z.aload_n (k := 1) dX2_clean_59 rfl ?_
      obtain ⟨E_7, m_8, K⟩ := K
      refine Y.callV (g := zm_X2_numberLetters) (vs := [zR r1]) (st := []) dX2_clean_60 ⟨zg_X2_numberLetters.1, zg_X2_numberLetters.2.1, zg_X2_numberLetters.2.2, by decide⟩ ⟨zk_X2_51, zv_X2_numberLetters⟩ (ci := 2) (rfl) rfl ((zX_0_7 hX).2.2) rfl rfl (Nat.le_of_ble_eq_true rfl) m_8 (Or.inl rfl) ?_
      show Z zm_X2_clean kz Q 63 [(0, zR 30), (1, zR r1), (2, zI v2), (3, zI v3)] [] (d, G, E_7)
      refine Z.aload_n (k := 0) dX2_clean_63 rfl ?_
      refine Y.getI 4 dX2_clean_64 zl_X2_18 (rfl) (by decide) rfl (zX_0_7 hX).2.2 ?_
      refine Z.bipush (n := 20) dX2_clean_67 ⟨by decide, by decide⟩ (by decide) ?_
      refine Z.icmp_gt 76 dX2_clean_69 rfl ⟨fun c_10 => ?_, fun c_10 => ?_⟩
      · replace K := K.1 c_10
        refine Z.iconst (n := 0) dX2_clean_76 ⟨by decide, by decide⟩ ?_
        exact Z.iret (ty := .boolean) dX2_clean_77 rfl rfl K
      · replace K := K.2 c_10
        refine Z.iconst (n := 1) dX2_clean_72 ⟨by decide, by decide⟩ ?_
        refine Z.goto 77 dX2_clean_73 rfl ?_
        exact Z.iret (ty := .boolean) dX2_clean_77 rfl rfl K
    · replace K := K.2 c_6
      refine Z.aload_n (k := 1) dX2_clean_18 rfl ?_
      refine Z.iload_n (k := 2) dX2_clean_19 rfl ?_
      obtain ⟨x_11, m_12, K⟩ := K
      refine Y.callV (g := zm_X5_isEqual) (vs := [zI v2]) (st := []) dX2_clean_20 ⟨zg_X5_isEqual.1, zg_X5_isEqual.2.1, zg_X5_isEqual.2.2, by decide⟩ ⟨zk_X2_35, zv_X5_isEqual⟩ (ci := 5) (congrArg Prod.fst hr1.1) rfl (hr1.2.2.2.2.1) rfl rfl (Nat.le_of_ble_eq_true rfl) m_12 (Or.inl rfl) ?_
      show Z zm_X2_clean kz Q 23 [(0, zR 30), (1, zR r1), (2, zI v2), (3, zI v3)] [zI x_11] (d, G, E)
      refine Z.if_eq 32 dX2_clean_23 rfl ⟨fun c_14 => ?_, fun c_14 => ?_⟩
      · replace K := K.1 c_14
        refine Z.aload_n (k := 0) dX2_clean_32 rfl ?_
        refine Z.aload_n (k := 1) dX2_clean_33 rfl ?_
        refine Z.iload_n (k := 2) dX2_clean_34 rfl ?_
        obtain ⟨x_15, m_16, K⟩ := K
        refine Y.callV (g := zm_X2_goes) (vs := [zR r1, zI v2]) (st := []) dX2_clean_35 ⟨zg_X2_goes.1, zg_X2_goes.2.1, zg_X2_goes.2.2, by decide⟩ ⟨zk_X2_43, zv_X2_goes⟩ (ci := 2) (rfl) rfl ((zX_0_7 hX).2.2) rfl rfl (Nat.le_of_ble_eq_true rfl) m_16 (Or.inl rfl) ?_
        show Z zm_X2_clean kz Q 38 [(0, zR 30), (1, zR r1), (2, zI v2), (3, zI v3)] [zI x_15] (d, G, E)
        refine Z.if_eq 49 dX2_clean_38 rfl ⟨fun c_18 => ?_, fun c_18 => ?_⟩
        · replace K := K.1 c_18
          obtain ⟨z_19, K⟩ := K
          refine Z.iinc (k := 2) (ls' := [(2, zI ((v2 + 1))), (0, zR 30), (1, zR r1), (3, zI v3)]) dX2_clean_49 rfl (by decide) z_19 rfl ?_
          obtain ⟨z_20, K⟩ := K
          refine Z.iinc (k := 3) (ls' := [(3, zI ((v3 + 1))), (2, zI ((v2 + 1))), (0, zR 30), (1, zR r1)]) dX2_clean_52 rfl (by decide) z_20 rfl ?_
          refine Z.goto 4 dX2_clean_55 rfl ?_
          refine Z.pick (ls' := [(0, zR 30), (1, zR r1), (2, zI ((v2 + 1))), (3, zI ((v3 + 1)))]) [2, 3, 1, 0] rfl ?_
          exact K
        · replace K := K.2 c_18
          refine Z.aload_n (k := 1) dX2_clean_41 rfl ?_
          refine Z.iload_n (k := 2) dX2_clean_42 rfl ?_
          obtain ⟨E_21, m_22, K⟩ := K
          refine Y.callV (g := zm_X5_remove) (vs := [zI v2]) (st := []) dX2_clean_43 ⟨zg_X5_remove.1, zg_X5_remove.2.1, zg_X5_remove.2.2, by decide⟩ ⟨zk_X2_47, zv_X5_remove⟩ (ci := 5) (congrArg Prod.fst hr1.1) rfl (hr1.2.2.2.2.1) rfl rfl (Nat.le_of_ble_eq_true rfl) m_22 (Or.inl rfl) ?_
          show Z zm_X2_clean kz Q 46 [(0, zR 30), (1, zR r1), (2, zI v2), (3, zI v3)] [] (d, G, E_21)
          refine Z.goto 52 dX2_clean_46 rfl ?_
          obtain ⟨z_24, K⟩ := K
          refine Z.iinc (k := 3) (ls' := [(3, zI ((v3 + 1))), (0, zR 30), (1, zR r1), (2, zI v2)]) dX2_clean_52 rfl (by decide) z_24 rfl ?_
          refine Z.goto 4 dX2_clean_55 rfl ?_
          refine Z.pick (ls' := [(0, zR 30), (1, zR r1), (2, zI v2), (3, zI ((v3 + 1)))]) [1, 2, 3, 0] rfl ?_
          exact K
      · replace K := K.2 c_14
        refine Z.aload_n (k := 0) dX2_clean_26 rfl ?_
        refine Z.aload_n (k := 1) dX2_clean_27 rfl ?_
        refine Z.iload_n (k := 2) dX2_clean_28 rfl ?_
        obtain ⟨E_25, m_26, K⟩ := K
        refine Y.callV (g := zm_X2_sortSides) (vs := [zR r1, zI v2]) (st := []) dX2_clean_29 ⟨zg_X2_sortSides.1, zg_X2_sortSides.2.1, zg_X2_sortSides.2.2, by decide⟩ ⟨zk_X2_39, zv_X2_sortSides⟩ (ci := 2) (rfl) rfl ((zX_0_7 hX).2.2) rfl rfl (Nat.le_of_ble_eq_true rfl) m_26 (Or.inl rfl) ?_
        show Z zm_X2_clean kz Q 32 [(0, zR 30), (1, zR r1), (2, zI v2), (3, zI v3)] [] (d, G, E_25)
        refine Z.aload_n (k := 0) dX2_clean_32 rfl ?_
        refine Z.aload_n (k := 1) dX2_clean_33 rfl ?_
        refine Z.iload_n (k := 2) dX2_clean_34 rfl ?_
        obtain ⟨x_28, m_29, K⟩ := K
        refine Y.callV (g := zm_X2_goes) (vs := [zR r1, zI v2]) (st := []) dX2_clean_35 ⟨zg_X2_goes.1, zg_X2_goes.2.1, zg_X2_goes.2.2, by decide⟩ ⟨zk_X2_43, zv_X2_goes⟩ (ci := 2) (rfl) rfl ((zX_0_7 hX).2.2) rfl rfl (Nat.le_of_ble_eq_true rfl) m_29 (Or.inl rfl) ?_
        show Z zm_X2_clean kz Q 38 [(0, zR 30), (1, zR r1), (2, zI v2), (3, zI v3)] [zI x_28] (d, G, E_25)
        refine Z.if_eq 49 dX2_clean_38 rfl ⟨fun c_31 => ?_, fun c_31 => ?_⟩
        · replace K := K.1 c_31
          obtain ⟨z_32, K⟩ := K
          refine Z.iinc (k := 2) (ls' := [(2, zI ((v2 + 1))), (0, zR 30), (1, zR r1), (3, zI v3)]) dX2_clean_49 rfl (by decide) z_32 rfl ?_
          obtain ⟨z_33, K⟩ := K
          refine Z.iinc (k := 3) (ls' := [(3, zI ((v3 + 1))), (2, zI ((v2 + 1))), (0, zR 30), (1, zR r1)]) dX2_clean_52 rfl (by decide) z_33 rfl ?_
          refine Z.goto 4 dX2_clean_55 rfl ?_
          refine Z.pick (ls' := [(0, zR 30), (1, zR r1), (2, zI ((v2 + 1))), (3, zI ((v3 + 1)))]) [2, 3, 1, 0] rfl ?_
          exact K
        · replace K := K.2 c_31
          refine Z.aload_n (k := 1) dX2_clean_41 rfl ?_
          refine Z.iload_n (k := 2) dX2_clean_42 rfl ?_
          obtain ⟨E_34, m_35, K⟩ := K
          refine Y.callV (g := zm_X5_remove) (vs := [zI v2]) (st := []) dX2_clean_43 ⟨zg_X5_remove.1, zg_X5_remove.2.1, zg_X5_remove.2.2, by decide⟩ ⟨zk_X2_47, zv_X5_remove⟩ (ci := 5) (congrArg Prod.fst hr1.1) rfl (hr1.2.2.2.2.1) rfl rfl (Nat.le_of_ble_eq_true rfl) m_35 (Or.inl rfl) ?_
          show Z zm_X2_clean kz Q 46 [(0, zR 30), (1, zR r1), (2, zI v2), (3, zI v3)] [] (d, G, E_34)
          refine Z.goto 52 dX2_clean_46 rfl ?_
          obtain ⟨z_37, K⟩ := K
          refine Z.iinc (k := 3) (ls' := [(3, zI ((v3 + 1))), (0, zR 30), (1, zR r1), (2, zI v2)]) dX2_clean_52 rfl (by decide) z_37 rfl ?_
          refine Z.goto 4 dX2_clean_55 rfl ?_
          refine Z.pick (ls' := [(0, zR 30), (1, zR r1), (2, zI v2), (3, zI ((v3 + 1)))]) [1, 2, 3, 0] rfl ?_
          exact K
