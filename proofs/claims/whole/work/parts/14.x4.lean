set_option maxRecDepth 20000 in
theorem X4_init_0 {kz : Nat × Nat} {Q : Option zV → zH → Prop} {d : List Nat} {G : Nat → Int → Option Nat} {E : Nat → Int → Int}  (hm36 : 36 ∈ d) (hm1 : 1 ∈ d) (hm18 : 18 ∈ d) (hm20 : 20 ∈ d) (hm5 : 5 ∈ d) (K : ∃ a1, zkd a1 = (0, (300 : Int).toNat) ∧ (0 : Int) ≤ 300 ∧ 300 ≤ (100000 : Int) ∧ a1 ∉ d ∧ ¬ zst3 a1 ∧ d.length + 1 ≤ kz.1 ∧ zsl d + (zkd a1).2 ≤ kz.2 ∧ ∀ d9 G10 E11, d9 = d ++ [a1] → G10 = zclG G a1 → E11 = zclE E a1 → (∀ G12, G12 = zuG G10 36 4 (some a1) → ∃ a13, zkd a13 = (0, (300 : Int).toNat) ∧ (0 : Int) ≤ 300 ∧ 300 ≤ (100000 : Int) ∧ a13 ∉ d9 ∧ ¬ zst3 a13 ∧ d9.length + 1 ≤ kz.1 ∧ zsl d9 + (zkd a13).2 ≤ kz.2 ∧ ∀ d21 G22 E23, d21 = d9 ++ [a13] → G22 = zclG G12 a13 → E23 = zclE E11 a13 → (∀ G24, G24 = zuG G22 36 5 (some a13) → ∃ a25, zkd a25 = (0, (300 : Int).toNat) ∧ (0 : Int) ≤ 300 ∧ 300 ≤ (100000 : Int) ∧ a25 ∉ d21 ∧ ¬ zst3 a25 ∧ d21.length + 1 ≤ kz.1 ∧ zsl d21 + (zkd a25).2 ≤ kz.2 ∧ ∀ d33 G34 E35, d33 = d21 ++ [a25] → G34 = zclG G24 a25 → E35 = zclE E23 a25 → (∀ G36, G36 = zuG G34 36 6 (some a25) → ∀ E37, E37 = zuE E35 36 7 0 → ∀ E38, E38 = zuE E37 36 8 0 → ∀ E39, E39 = zuE E38 36 9 0 → ∃ a40, zkd a40 = (0, (32 : Int).toNat) ∧ (0 : Int) ≤ 32 ∧ 32 ≤ (100000 : Int) ∧ a40 ∉ d33 ∧ ¬ zst3 a40 ∧ d33.length + 1 ≤ kz.1 ∧ zsl d33 + (zkd a40).2 ≤ kz.2 ∧ ∀ d48 G49 E50, d48 = d33 ++ [a40] → G49 = zclG G36 a40 → E50 = zclE E39 a40 → (∀ G51, G51 = zuG G49 36 10 (some a40) → ∀ E52, E52 = zuE E50 36 11 0 → ∀ G53, G53 = zuG G51 36 0 (some 1) → ∀ G54, G54 = zuG G53 36 1 (some 18) → ∀ G55, G55 = zuG G54 36 2 (some 20) → ∀ G56, G56 = zuG G55 36 3 (some 5) → Q none (d48, G56, E52)))))) : Z zm_X4_init kz Q 0 [(0, zR 36), (1, zR 1), (2, zR 18), (3, zR 20), (4, zR 5)] [] (d, G, E) := by
  refine Z.aload_n (k := 0) dX4_init_0 rfl ?_
  refine Z.objInit (a := 36) dX4_init_1 zk_X4_3 ⟨by decide, by decide⟩ (Nat.le_of_ble_eq_true rfl) ?_
  refine Z.aload_n (k := 0) dX4_init_4 rfl ?_
  refine Z.sipush (n := 300) dX4_init_5 ⟨by decide, by decide⟩ (by decide) ?_
  obtain ⟨a1, z2, z3, z4, z5, z6, z7, z8, K⟩ := K
  refine Y.newI a1 dX4_init_8 z2 z3 z4 zai z5 z6 z7 z8 ?_
  generalize ed9 : d ++ [a1] = d9
  generalize eG10 : zclG G a1 = G10
  generalize eE11 : zclE E a1 = E11
  replace K := K d9 G10 E11 ed9.symm eG10.symm eE11.symm
  refine Y.putR 4 dX4_init_10 zw_X4_9 (fun _ => ⟨rfl, rfl⟩) (rfl) rfl (by rw [← ed9]; exact List.mem_append_left _ (hm36)) (fun b hb => by cases hb; exact (by rw [← ed9]; exact List.mem_append_right _ List.mem_cons_self)) ?_
  generalize eG12 : zuG G10 36 4 (some a1) = G12
  replace K := K G12 eG12.symm
  refine Z.aload_n (k := 0) dX4_init_13 rfl ?_
  refine Z.sipush (n := 300) dX4_init_14 ⟨by decide, by decide⟩ (by decide) ?_
  obtain ⟨a13, z14, z15, z16, z17, z18, z19, z20, K⟩ := K
  refine Y.newI a13 dX4_init_17 z14 z15 z16 zai z17 z18 z19 z20 ?_
  generalize ed21 : d9 ++ [a13] = d21
  generalize eG22 : zclG G12 a13 = G22
  generalize eE23 : zclE E11 a13 = E23
  replace K := K d21 G22 E23 ed21.symm eG22.symm eE23.symm
  refine Y.putR 5 dX4_init_19 zw_X4_15 (fun _ => ⟨rfl, rfl⟩) (rfl) rfl (by rw [← ed21]; exact List.mem_append_left _ ((by rw [← ed9]; exact List.mem_append_left _ (hm36)))) (fun b hb => by cases hb; exact (by rw [← ed21]; exact List.mem_append_right _ List.mem_cons_self)) ?_
  generalize eG24 : zuG G22 36 5 (some a13) = G24
  replace K := K G24 eG24.symm
  refine Z.aload_n (k := 0) dX4_init_22 rfl ?_
  refine Z.sipush (n := 300) dX4_init_23 ⟨by decide, by decide⟩ (by decide) ?_
  obtain ⟨a25, z26, z27, z28, z29, z30, z31, z32, K⟩ := K
  refine Y.newI a25 dX4_init_26 z26 z27 z28 zai z29 z30 z31 z32 ?_
  generalize ed33 : d21 ++ [a25] = d33
  generalize eG34 : zclG G24 a25 = G34
  generalize eE35 : zclE E23 a25 = E35
  replace K := K d33 G34 E35 ed33.symm eG34.symm eE35.symm
  refine Y.putR 6 dX4_init_28 zw_X4_18 (fun _ => ⟨rfl, rfl⟩) (rfl) rfl (by rw [← ed33]; exact List.mem_append_left _ ((by rw [← ed21]; exact List.mem_append_left _ ((by rw [← ed9]; exact List.mem_append_left _ (hm36)))))) (fun b hb => by cases hb; exact (by rw [← ed33]; exact List.mem_append_right _ List.mem_cons_self)) ?_
  generalize eG36 : zuG G34 36 6 (some a25) = G36
  replace K := K G36 eG36.symm
  refine Z.aload_n (k := 0) dX4_init_31 rfl ?_
  refine Z.iconst (n := 0) dX4_init_32 ⟨by decide, by decide⟩ ?_
  refine Y.putI 7 dX4_init_33 zw_X4_21 (fun q => by cases q) (rfl) rfl (by rw [← ed33]; exact List.mem_append_left _ ((by rw [← ed21]; exact List.mem_append_left _ ((by rw [← ed9]; exact List.mem_append_left _ (hm36)))))) (Or.inl rfl) ?_
  generalize eE37 : zuE E35 36 7 0 = E37
  replace K := K E37 eE37.symm
  refine Z.aload_n (k := 0) dX4_init_36 rfl ?_
  refine Z.iconst (n := 0) dX4_init_37 ⟨by decide, by decide⟩ ?_
  refine Y.putI 8 dX4_init_38 zw_X4_25 (fun q => by cases q) (rfl) rfl (by rw [← ed33]; exact List.mem_append_left _ ((by rw [← ed21]; exact List.mem_append_left _ ((by rw [← ed9]; exact List.mem_append_left _ (hm36)))))) (Or.inl rfl) ?_
  generalize eE38 : zuE E37 36 8 0 = E38
  replace K := K E38 eE38.symm
  refine Z.aload_n (k := 0) dX4_init_41 rfl ?_
  refine Z.iconst (n := 0) dX4_init_42 ⟨by decide, by decide⟩ ?_
  refine Y.putI 9 dX4_init_43 zw_X4_28 (fun q => by cases q) (rfl) rfl (by rw [← ed33]; exact List.mem_append_left _ ((by rw [← ed21]; exact List.mem_append_left _ ((by rw [← ed9]; exact List.mem_append_left _ (hm36)))))) (Or.inl rfl) ?_
  generalize eE39 : zuE E38 36 9 0 = E39
  replace K := K E39 eE39.symm
  refine Z.aload_n (k := 0) dX4_init_46 rfl ?_
  refine Z.bipush (n := 32) dX4_init_47 ⟨by decide, by decide⟩ (by decide) ?_
  obtain ⟨a40, z41, z42, z43, z44, z45, z46, z47, K⟩ := K
  refine Y.newI a40 dX4_init_49 z41 z42 z43 zai z44 z45 z46 z47 ?_
  generalize ed48 : d33 ++ [a40] = d48
  generalize eG49 : zclG G36 a40 = G49
  generalize eE50 : zclE E39 a40 = E50
  replace K := K d48 G49 E50 ed48.symm eG49.symm eE50.symm
  refine Y.putR 10 dX4_init_51 zw_X4_31 (fun _ => ⟨rfl, rfl⟩) (rfl) rfl (by rw [← ed48]; exact List.mem_append_left _ ((by rw [← ed33]; exact List.mem_append_left _ ((by rw [← ed21]; exact List.mem_append_left _ ((by rw [← ed9]; exact List.mem_append_left _ (hm36)))))))) (fun b hb => by cases hb; exact (by rw [← ed48]; exact List.mem_append_right _ List.mem_cons_self)) ?_
  generalize eG51 : zuG G49 36 10 (some a40) = G51
  replace K := K G51 eG51.symm
  refine Z.aload_n (k := 0) dX4_init_54 rfl ?_
  refine Z.iconst (n := 0) dX4_init_55 ⟨by decide, by decide⟩ ?_
  refine Y.putI 11 dX4_init_56 zw_X4_34 (fun q => by cases q) (rfl) rfl (by rw [← ed48]; exact List.mem_append_left _ ((by rw [← ed33]; exact List.mem_append_left _ ((by rw [← ed21]; exact List.mem_append_left _ ((by rw [← ed9]; exact List.mem_append_left _ (hm36)))))))) (Or.inl rfl) ?_
  generalize eE52 : zuE E50 36 11 0 = E52
  replace K := K E52 eE52.symm
  refine Z.aload_n (k := 0) dX4_init_59 rfl ?_
  refine Z.aload_n (k := 1) dX4_init_60 rfl ?_
  refine Y.putR 0 dX4_init_61 zw_X4_37 (fun _ => ⟨rfl, rfl⟩) (rfl) rfl (by rw [← ed48]; exact List.mem_append_left _ ((by rw [← ed33]; exact List.mem_append_left _ ((by rw [← ed21]; exact List.mem_append_left _ ((by rw [← ed9]; exact List.mem_append_left _ (hm36)))))))) (fun b hb => by cases hb; exact (by rw [← ed48]; exact List.mem_append_left _ ((by rw [← ed33]; exact List.mem_append_left _ ((by rw [← ed21]; exact List.mem_append_left _ ((by rw [← ed9]; exact List.mem_append_left _ (hm1))))))))) ?_
  generalize eG53 : zuG G51 36 0 (some 1) = G53
  replace K := K G53 eG53.symm
  refine Z.aload_n (k := 0) dX4_init_64 rfl ?_
  refine Z.aload_n (k := 2) dX4_init_65 rfl ?_
  refine Y.putR 1 dX4_init_66 zw_X4_41 (fun _ => ⟨rfl, rfl⟩) (rfl) rfl (by rw [← ed48]; exact List.mem_append_left _ ((by rw [← ed33]; exact List.mem_append_left _ ((by rw [← ed21]; exact List.mem_append_left _ ((by rw [← ed9]; exact List.mem_append_left _ (hm36)))))))) (fun b hb => by cases hb; exact (by rw [← ed48]; exact List.mem_append_left _ ((by rw [← ed33]; exact List.mem_append_left _ ((by rw [← ed21]; exact List.mem_append_left _ ((by rw [← ed9]; exact List.mem_append_left _ (hm18))))))))) ?_
  generalize eG54 : zuG G53 36 1 (some 18) = G54
  replace K := K G54 eG54.symm
  refine Z.aload_n (k := 0) dX4_init_69 rfl ?_
  refine Z.aload_n (k := 3) dX4_init_70 rfl ?_
  refine Y.putR 2 dX4_init_71 zw_X4_45 (fun _ => ⟨rfl, rfl⟩) (rfl) rfl (by rw [← ed48]; exact List.mem_append_left _ ((by rw [← ed33]; exact List.mem_append_left _ ((by rw [← ed21]; exact List.mem_append_left _ ((by rw [← ed9]; exact List.mem_append_left _ (hm36)))))))) (fun b hb => by cases hb; exact (by rw [← ed48]; exact List.mem_append_left _ ((by rw [← ed33]; exact List.mem_append_left _ ((by rw [← ed21]; exact List.mem_append_left _ ((by rw [← ed9]; exact List.mem_append_left _ (hm20))))))))) ?_
  generalize eG55 : zuG G54 36 2 (some 20) = G55
  replace K := K G55 eG55.symm
  refine Z.aload_n (k := 0) dX4_init_74 rfl ?_
  refine Z.aload (k := 4) dX4_init_75 rfl ?_
  refine Y.putR 3 dX4_init_77 zw_X4_49 (fun _ => ⟨rfl, rfl⟩) (rfl) rfl (by rw [← ed48]; exact List.mem_append_left _ ((by rw [← ed33]; exact List.mem_append_left _ ((by rw [← ed21]; exact List.mem_append_left _ ((by rw [← ed9]; exact List.mem_append_left _ (hm36)))))))) (fun b hb => by cases hb; exact (by rw [← ed48]; exact List.mem_append_left _ ((by rw [← ed33]; exact List.mem_append_left _ ((by rw [← ed21]; exact List.mem_append_left _ ((by rw [← ed9]; exact List.mem_append_left _ (hm5))))))))) ?_
  generalize eG56 : zuG G55 36 3 (some 5) = G56
  replace K := K G56 eG56.symm
  exact Z.vret dX4_init_80 rfl K
set_option maxRecDepth 20000 in
theorem X4_list_0 {kz : Nat × Nat} {Q : Option zV → zH → Prop} {d : List Nat} {G : Nat → Int → Option Nat} {E : Nat → Int → Int} {c1 : Nat} {v2 : Int} (hX : zK zXt d G) (hc1 : zCk d G c1) (K : (300 ≤ (E 36 7) → Q none (d, G, E)) ∧ (¬ (300 ≤ (E 36 7)) → ((0 : Int) ≤ (E 36 7) ∧ (E 36 7) < 300) ∧ ∀ E3, E3 = zuE E 37 ((E 36 7)) ((E c1 5)) → ((0 : Int) ≤ (E3 36 7) ∧ (E3 36 7) < 300) ∧ ∀ E5, E5 = zuE E3 38 ((E3 36 7)) v2 → (v2 ≠ 0 → ((0 : Int) ≤ (E5 c1 12) ∧ (E5 c1 12) < 180) ∧ ((0 : Int) ≤ (E5 36 7) ∧ (E5 36 7) < 300) ∧ ∀ E9, E9 = zuE E5 39 ((E5 36 7)) ((E5 ((c1 + 1) + 1) (E5 c1 12))) → zin ((E9 36 7) + 1) ∧ ∀ E11, E11 = zuE E9 36 7 (((E9 36 7) + 1)) → Q none (d, G, E11)) ∧ (¬ (v2 ≠ 0) → ((0 : Int) ≤ 1 ∧ 1 < 180) ∧ ((0 : Int) ≤ (E5 36 7) ∧ (E5 36 7) < 300) ∧ ∀ E14, E14 = zuE E5 39 ((E5 36 7)) ((E5 ((c1 + 1) + 1) 1)) → zin ((E14 36 7) + 1) ∧ ∀ E16, E16 = zuE E14 36 7 (((E14 36 7) + 1)) → Q none (d, G, E16)))) : Z zm_X4_list kz Q 0 [(0, zR 36), (1, zR c1), (2, zI v2)] [] (d, G, E) := by
  refine Z.aload_n (k := 0) dX4_list_0 rfl ?_
  refine Y.getI 7 dX4_list_1 zl_X4_21 (rfl) (by decide) rfl (zX_0_9 hX).2.2 ?_
  refine Z.aload_n (k := 0) dX4_list_4 rfl ?_
  refine Y.getR (o := some 37) 4 dX4_list_5 zl_X4_9 (rfl) (by decide) rfl (zX_0_9 hX).2.2 (zX_36_4 hX).1 ?_
  refine Y.alen 300 300 dX4_list_8 (rfl) ((zX_36_4 hX).2.2) rfl ⟨by decide, by decide⟩ ?_
  refine Z.icmp_ge 74 dX4_list_9 rfl ⟨fun c1 => ?_, fun c1 => ?_⟩
  · replace K := K.1 c1
    exact Z.vret dX4_list_74 rfl K
  · replace K := K.2 c1
    refine Z.aload_n (k := 0) dX4_list_12 rfl ?_
    refine Y.getR (o := some 37) 4 dX4_list_13 zl_X4_9 (rfl) (by decide) rfl (zX_0_9 hX).2.2 (zX_36_4 hX).1 ?_
    refine Z.aload_n (k := 0) dX4_list_16 rfl ?_
    refine Y.getI 7 dX4_list_17 zl_X4_21 (rfl) (by decide) rfl (zX_0_9 hX).2.2 ?_
    refine Z.aload_n (k := 1) dX4_list_20 rfl ?_
    refine Y.getI 5 dX4_list_21 zl_X4_79 (congrArg Prod.fst hc1.1) (by decide) rfl hc1.2.1 ?_
    obtain ⟨z2, K⟩ := K
    refine Y.iast dX4_list_24 (rfl) ((zX_36_4 hX).2.2) z2 ?_
    generalize eE3 : zuE E 37 ((E 36 7)) ((E c1 5)) = E3
    replace K := K E3 eE3.symm
    refine Z.aload_n (k := 0) dX4_list_25 rfl ?_
    refine Y.getR (o := some 38) 5 dX4_list_26 zl_X4_15 (rfl) (by decide) rfl (zX_0_9 hX).2.2 (zX_36_5 hX).1 ?_
    refine Z.aload_n (k := 0) dX4_list_29 rfl ?_
    refine Y.getI 7 dX4_list_30 zl_X4_21 (rfl) (by decide) rfl (zX_0_9 hX).2.2 ?_
    refine Z.iload_n (k := 2) dX4_list_33 rfl ?_
    obtain ⟨z4, K⟩ := K
    refine Y.iast dX4_list_34 (rfl) ((zX_36_5 hX).2.2) z4 ?_
    generalize eE5 : zuE E3 38 ((E3 36 7)) v2 = E5
    replace K := K E5 eE5.symm
    refine Z.aload_n (k := 0) dX4_list_35 rfl ?_
    refine Y.getR (o := some 39) 6 dX4_list_36 zl_X4_18 (rfl) (by decide) rfl (zX_0_9 hX).2.2 (zX_36_6 hX).1 ?_
    refine Z.aload_n (k := 0) dX4_list_39 rfl ?_
    refine Y.getI 7 dX4_list_40 zl_X4_21 (rfl) (by decide) rfl (zX_0_9 hX).2.2 ?_
    refine Z.aload_n (k := 1) dX4_list_43 rfl ?_
    refine Y.getR (o := some ((c1 + 1))) 0 dX4_list_44 zl_X4_82 (congrArg Prod.fst hc1.1) (by decide) rfl hc1.2.1 hc1.2.2.2.1 ?_
    refine Y.getR (o := some ((c1 + 1) + 1)) 0 dX4_list_47 zl_X4_86 (congrArg Prod.fst hc1.2.2.1.1) (by decide) rfl hc1.2.2.1.2.2.2.2.1 hc1.2.2.1.2.2.2.2.2.2.2.2.1 ?_
    refine Z.iload_n (k := 2) dX4_list_50 rfl ?_
    refine Z.if_ne 58 dX4_list_51 rfl ⟨fun c6 => ?_, fun c6 => ?_⟩
    · replace K := K.1 c6
      refine Z.aload_n (k := 1) dX4_list_58 rfl ?_
      refine Y.getI 12 dX4_list_59 zl_X4_91 (congrArg Prod.fst hc1.1) (by decide) rfl hc1.2.1 ?_
      obtain ⟨z7, K⟩ := K
      refine Y.iald dX4_list_62 (hc1.2.2.1.2.1) (hc1.2.2.1.2.2.2.2.2.1) z7 ?_
      obtain ⟨z8, K⟩ := K
      refine Y.iast dX4_list_63 (rfl) ((zX_36_6 hX).2.2) z8 ?_
      generalize eE9 : zuE E5 39 ((E5 36 7)) ((E5 ((c1 + 1) + 1) (E5 c1 12))) = E9
      replace K := K E9 eE9.symm
      refine Z.aload_n (k := 0) dX4_list_64 rfl ?_
      refine Z.dup_i dX4_list_65 (fun _ => rfl) ?_
      refine Y.getI 7 dX4_list_66 zl_X4_21 (rfl) (by decide) rfl (zX_0_9 hX).2.2 ?_
      refine Z.iconst (n := 1) dX4_list_69 ⟨by decide, by decide⟩ ?_
      obtain ⟨z10, K⟩ := K
      refine Z.iadd dX4_list_70 z10 ?_
      refine Y.putI 7 dX4_list_71 zw_X4_21 (fun q => by cases q) (rfl) rfl (zX_0_9 hX).2.2 (Or.inl rfl) ?_
      generalize eE11 : zuE E9 36 7 (((E9 36 7) + 1)) = E11
      replace K := K E11 eE11.symm
      exact Z.vret dX4_list_74 rfl K
    · replace K := K.2 c6
      refine Z.iconst (n := 1) dX4_list_54 ⟨by decide, by decide⟩ ?_
      refine Z.goto 62 dX4_list_55 rfl ?_
      obtain ⟨z12, K⟩ := K
      refine Y.iald dX4_list_62 (hc1.2.2.1.2.1) (hc1.2.2.1.2.2.2.2.2.1) z12 ?_
      obtain ⟨z13, K⟩ := K
      refine Y.iast dX4_list_63 (rfl) ((zX_36_6 hX).2.2) z13 ?_
      generalize eE14 : zuE E5 39 ((E5 36 7)) ((E5 ((c1 + 1) + 1) 1)) = E14
      replace K := K E14 eE14.symm
      refine Z.aload_n (k := 0) dX4_list_64 rfl ?_
      refine Z.dup_i dX4_list_65 (fun _ => rfl) ?_
      refine Y.getI 7 dX4_list_66 zl_X4_21 (rfl) (by decide) rfl (zX_0_9 hX).2.2 ?_
      refine Z.iconst (n := 1) dX4_list_69 ⟨by decide, by decide⟩ ?_
      obtain ⟨z15, K⟩ := K
      refine Z.iadd dX4_list_70 z15 ?_
      refine Y.putI 7 dX4_list_71 zw_X4_21 (fun q => by cases q) (rfl) rfl (zX_0_9 hX).2.2 (Or.inl rfl) ?_
      generalize eE16 : zuE E14 36 7 (((E14 36 7) + 1)) = E16
      replace K := K E16 eE16.symm
      exact Z.vret dX4_list_74 rfl K
set_option maxRecDepth 20000 in
theorem X4_prepare_0 {kz : Nat × Nat} {Q : Option zV → zH → Prop} {d : List Nat} {G : Nat → Int → Option Nat} {E : Nat → Int → Int}  (hX : zK zXt d G) (K : ∀ E1, E1 = zuE E 36 11 0 → ∀ E2, E2 = zuE E1 36 7 0 → Z zm_X4_prepare kz Q 12 [(0, zR 36), (1, zI 0)] [] (d, G, E2)) : Z zm_X4_prepare kz Q 0 [(0, zR 36)] [] (d, G, E) := by
  refine Z.aload_n (k := 0) dX4_prepare_0 rfl ?_
  refine Z.iconst (n := 0) dX4_prepare_1 ⟨by decide, by decide⟩ ?_
  refine Y.putI 11 dX4_prepare_2 zw_X4_34 (fun q => by cases q) (rfl) rfl (zX_0_9 hX).2.2 (Or.inl rfl) ?_
  generalize eE1 : zuE E 36 11 0 = E1
  replace K := K E1 eE1.symm
  refine Z.aload_n (k := 0) dX4_prepare_5 rfl ?_
  refine Z.iconst (n := 0) dX4_prepare_6 ⟨by decide, by decide⟩ ?_
  refine Y.putI 7 dX4_prepare_7 zw_X4_21 (fun q => by cases q) (rfl) rfl (zX_0_9 hX).2.2 (Or.inl rfl) ?_
  generalize eE2 : zuE E1 36 7 0 = E2
  replace K := K E2 eE2.symm
  refine Z.iconst (n := 0) dX4_prepare_10 ⟨by decide, by decide⟩ ?_
  refine Z.istore_n (ls' := [(1, zI 0), (0, zR 36)]) dX4_prepare_11 (by decide) rfl ?_
  refine Z.pick (ls' := [(0, zR 36), (1, zI 0)]) [1, 0] rfl ?_
  exact K
set_option maxRecDepth 20000 in
theorem X4_prepare_12 {kz : Nat × Nat} {Q : Option zV → zH → Prop} {d : List Nat} {G : Nat → Int → Option Nat} {E : Nat → Int → Int} {v1 : Int} (hX : zK zXt d G) (K : ((E 5 4) ≤ v1 → Q none (d, G, E)) ∧ (¬ ((E 5 4) ≤ v1) → ∃ o2, zM zm_X7_at [zR 5, zI v1] (d, G, E) (some (zO o2)) (d, G, E) ∧ (o2 = none → zin (v1 + 1) ∧ Z zm_X4_prepare kz Q 12 [(0, zR 36), (1, zI ((v1 + 1)))] [] (d, G, E)) ∧ (¬ (o2 = none) → ∃ b7, o2 = some b7 ∧ zCk d G b7 ∧ ∃ x10, zM zm_X1_isThere [zR b7] (d, G, E) (some (zI x10)) (d, G, E) ∧ (x10 = 0 → zin (v1 + 1) ∧ Z zm_X4_prepare kz Q 12 [(0, zR 36), (1, zI ((v1 + 1)))] [] (d, G, E)) ∧ (¬ (x10 = 0) → ((E b7 11) = 0 → zin (v1 + 1) ∧ Z zm_X4_prepare kz Q 12 [(0, zR 36), (1, zI ((v1 + 1)))] [] (d, G, E)) ∧ (¬ ((E b7 11) = 0) → ∃ E17, zM zm_X4_list [zR 36, zR b7, zI 0] (d, G, E) none (d, G, E17) ∧ ((E17 b7 13) ≠ 0 → zin (v1 + 1) ∧ Z zm_X4_prepare kz Q 12 [(0, zR 36), (1, zI ((v1 + 1)))] [] (d, G, E17)) ∧ (¬ ((E17 b7 13) ≠ 0) → ∃ E22, zM zm_X4_list [zR 36, zR b7, zI 1] (d, G, E17) none (d, G, E22) ∧ zin (v1 + 1) ∧ Z zm_X4_prepare kz Q 12 [(0, zR 36), (1, zI ((v1 + 1)))] [] (d, G, E22))))))) : Z zm_X4_prepare kz Q 12 [(0, zR 36), (1, zI v1)] [] (d, G, E) := by
  refine Z.iload_n (k := 1) dX4_prepare_12 rfl ?_
  refine Z.aload_n (k := 0) dX4_prepare_13 rfl ?_
  refine Y.getR (o := some 5) 3 dX4_prepare_14 zl_X4_49 (rfl) (by decide) rfl (zX_0_9 hX).2.2 (zX_36_3 hX).1 ?_
  refine Y.getI 4 dX4_prepare_17 zl_X4_53 (rfl) (by decide) rfl (zX_0_1 hX).2.2 ?_
  refine Z.icmp_ge 75 dX4_prepare_20 rfl ⟨fun c1 => ?_, fun c1 => ?_⟩
  · replace K := K.1 c1
    exact Z.vret dX4_prepare_75 rfl K
  · replace K := K.2 c1
    refine Z.aload_n (k := 0) dX4_prepare_23 rfl ?_
    refine Y.getR (o := some 5) 3 dX4_prepare_24 zl_X4_49 (rfl) (by decide) rfl (zX_0_9 hX).2.2 (zX_36_3 hX).1 ?_
    refine Z.iload_n (k := 1) dX4_prepare_27 rfl ?_
    obtain ⟨o2, m3, K⟩ := K
    refine Y.callV (g := zm_X7_at) (vs := [zI v1]) (st := []) dX4_prepare_28 ⟨zg_X7_at.1, zg_X7_at.2.1, zg_X7_at.2.2, by decide⟩ ⟨zk_X4_58, zv_X7_at⟩ (ci := 7) (rfl) rfl ((zX_0_1 hX).2.2) rfl rfl (Nat.le_of_ble_eq_true rfl) m3 (Or.inl rfl) ?_
    show Z zm_X4_prepare kz Q 31 [(0, zR 36), (1, zI v1)] [zO o2] (d, G, E)
    refine Z.astore_n (ls' := [(2, zO o2), (0, zR 36), (1, zI v1)]) dX4_prepare_31 (by decide) rfl ?_
    refine Z.aload_n (k := 0) dX4_prepare_32 rfl ?_
    refine Z.ifnull 69 dX4_prepare_33 rfl ⟨fun c5 => ?_, fun c5 => ?_⟩
    · replace K := K.1 c5
      obtain ⟨z6, K⟩ := K
      refine Z.iinc (k := 2) (ls' := [(1, zI ((v1 + 1))), (2, zO o2), (0, zR 36)]) dX4_prepare_69 rfl (by decide) z6 rfl ?_
      refine Z.goto 12 dX4_prepare_72 rfl ?_
      refine Z.pick (ls' := [(0, zR 36), (1, zI ((v1 + 1)))]) [2, 0] rfl ?_
      exact K
    · replace K := K.2 c5
      refine Z.aload_n (k := 0) dX4_prepare_36 rfl ?_
      obtain ⟨b7, e8, hc9, K⟩ := K
      rw [e8]
      obtain ⟨x10, m11, K⟩ := K
      refine Y.callV (g := zm_X1_isThere) (vs := []) (st := []) dX4_prepare_37 ⟨zg_X1_isThere.1, zg_X1_isThere.2.1, zg_X1_isThere.2.2, by decide⟩ ⟨zk_X4_62, zv_X1_isThere⟩ (ci := 1) (congrArg Prod.fst hc9.1) rfl (hc9.2.1) rfl rfl (Nat.le_of_ble_eq_true rfl) m11 (Or.inl rfl) ?_
      show Z zm_X4_prepare kz Q 40 [(2, zR b7), (0, zR 36), (1, zI v1)] [zI x10] (d, G, E)
      refine Z.if_eq 69 dX4_prepare_40 rfl ⟨fun c13 => ?_, fun c13 => ?_⟩
      · replace K := K.1 c13
        obtain ⟨z14, K⟩ := K
        refine Z.iinc (k := 2) (ls' := [(1, zI ((v1 + 1))), (2, zR b7), (0, zR 36)]) dX4_prepare_69 rfl (by decide) z14 rfl ?_
        refine Z.goto 12 dX4_prepare_72 rfl ?_
        refine Z.pick (ls' := [(0, zR 36), (1, zI ((v1 + 1)))]) [2, 0] rfl ?_
        exact K
      · replace K := K.2 c13
        refine Z.aload_n (k := 0) dX4_prepare_43 rfl ?_
        refine Y.getI 11 dX4_prepare_44 zl_X4_68 (congrArg Prod.fst hc9.1) (by decide) rfl hc9.2.1 ?_
        refine Z.if_eq 69 dX4_prepare_47 rfl ⟨fun c15 => ?_, fun c15 => ?_⟩
        · replace K := K.1 c15
          obtain ⟨z16, K⟩ := K
          refine Z.iinc (k := 2) (ls' := [(1, zI ((v1 + 1))), (2, zR b7), (0, zR 36)]) dX4_prepare_69 rfl (by decide) z16 rfl ?_
          refine Z.goto 12 dX4_prepare_72 rfl ?_
          refine Z.pick (ls' := [(0, zR 36), (1, zI ((v1 + 1)))]) [2, 0] rfl ?_
          exact K
        · replace K := K.2 c15
          refine Z.aload_n (k := 1) dX4_prepare_50 rfl ?_
          refine Z.aload_n (k := 0) dX4_prepare_51 rfl ?_
          refine Z.iconst (n := 0) dX4_prepare_52 ⟨by decide, by decide⟩ ?_
          obtain ⟨E17, m18, K⟩ := K
          refine Y.callV (g := zm_X4_list) (vs := [zR b7, zI 0]) (st := []) dX4_prepare_53 ⟨zg_X4_list.1, zg_X4_list.2.1, zg_X4_list.2.2, by decide⟩ ⟨zk_X4_72, zv_X4_list⟩ (ci := 4) (rfl) rfl ((zX_0_9 hX).2.2) rfl rfl (Nat.le_of_ble_eq_true rfl) m18 (Or.inl rfl) ?_
          show Z zm_X4_prepare kz Q 56 [(2, zR b7), (0, zR 36), (1, zI v1)] [] (d, G, E17)
          refine Z.aload_n (k := 0) dX4_prepare_56 rfl ?_
          refine Y.getI 13 dX4_prepare_57 zl_X4_76 (congrArg Prod.fst hc9.1) (by decide) rfl hc9.2.1 ?_
          refine Z.if_ne 69 dX4_prepare_60 rfl ⟨fun c20 => ?_, fun c20 => ?_⟩
          · replace K := K.1 c20
            obtain ⟨z21, K⟩ := K
            refine Z.iinc (k := 2) (ls' := [(1, zI ((v1 + 1))), (2, zR b7), (0, zR 36)]) dX4_prepare_69 rfl (by decide) z21 rfl ?_
            refine Z.goto 12 dX4_prepare_72 rfl ?_
            refine Z.pick (ls' := [(0, zR 36), (1, zI ((v1 + 1)))]) [2, 0] rfl ?_
            exact K
          · replace K := K.2 c20
            refine Z.aload_n (k := 1) dX4_prepare_63 rfl ?_
            refine Z.aload_n (k := 0) dX4_prepare_64 rfl ?_
            refine Z.iconst (n := 1) dX4_prepare_65 ⟨by decide, by decide⟩ ?_
            obtain ⟨E22, m23, K⟩ := K
            refine Y.callV (g := zm_X4_list) (vs := [zR b7, zI 1]) (st := []) dX4_prepare_66 ⟨zg_X4_list.1, zg_X4_list.2.1, zg_X4_list.2.2, by decide⟩ ⟨zk_X4_72, zv_X4_list⟩ (ci := 4) (rfl) rfl ((zX_0_9 hX).2.2) rfl rfl (Nat.le_of_ble_eq_true rfl) m23 (Or.inl rfl) ?_
            show Z zm_X4_prepare kz Q 69 [(2, zR b7), (0, zR 36), (1, zI v1)] [] (d, G, E22)
            obtain ⟨z25, K⟩ := K
            refine Z.iinc (k := 2) (ls' := [(1, zI ((v1 + 1))), (2, zR b7), (0, zR 36)]) dX4_prepare_69 rfl (by decide) z25 rfl ?_
            refine Z.goto 12 dX4_prepare_72 rfl ?_
            refine Z.pick (ls' := [(0, zR 36), (1, zI ((v1 + 1)))]) [2, 0] rfl ?_
            exact K
set_option maxRecDepth 20000 in
theorem X4_fits_0 {kz : Nat × Nat} {Q : Option zV → zH → Prop} {d : List Nat} {G : Nat → Int → Option Nat} {E : Nat → Int → Int} {v1 : Int} {v2 : Int} {r3 : Nat} {v4 : Int} (hX : zK zXt d G) (hr3 : zRk d G r3) (K : ∃ o1, zM zm_X7_at [zR 5, zI v1] (d, G, E) (some (zO o1)) (d, G, E) ∧ (o1 = none → Q (some (zI 0)) (d, G, E)) ∧ (¬ (o1 = none) → ∃ b5, o1 = some b5 ∧ zCk d G b5 ∧ ((E b5 11) ≠ 0 → (v2 ≠ 0 → Z zm_X4_fits kz Q 48 [(0, zR 36), (2, zI v2), (3, zR r3), (4, zI v4), (5, zR b5), (6, zR ((b5 + 1) + 1))] [zI ((E b5 12))] (d, G, E)) ∧ (¬ (v2 ≠ 0) → Z zm_X4_fits kz Q 48 [(0, zR 36), (2, zI v2), (3, zR r3), (4, zI v4), (5, zR b5), (6, zR ((b5 + 1) + 1))] [zI 1] (d, G, E))) ∧ (¬ ((E b5 11) ≠ 0) → Q (some (zI 0)) (d, G, E)))) : Z zm_X4_fits kz Q 0 [(0, zR 36), (1, zI v1), (2, zI v2), (3, zR r3), (4, zI v4)] [] (d, G, E) := by
  refine Z.aload_n (k := 0) dX4_fits_0 rfl ?_
  refine Y.getR (o := some 5) 3 dX4_fits_1 zl_X4_49 (rfl) (by decide) rfl (zX_0_9 hX).2.2 (zX_36_3 hX).1 ?_
  refine Z.iload_n (k := 1) dX4_fits_4 rfl ?_
  obtain ⟨o1, m2, K⟩ := K
  refine Y.callV (g := zm_X7_at) (vs := [zI v1]) (st := []) dX4_fits_5 ⟨zg_X7_at.1, zg_X7_at.2.1, zg_X7_at.2.2, by decide⟩ ⟨zk_X4_58, zv_X7_at⟩ (ci := 7) (rfl) rfl ((zX_0_1 hX).2.2) rfl rfl (Nat.le_of_ble_eq_true rfl) m2 (Or.inl rfl) ?_
  show Z zm_X4_fits kz Q 8 [(0, zR 36), (1, zI v1), (2, zI v2), (3, zR r3), (4, zI v4)] [zO o1] (d, G, E)
  refine Z.astore (ls' := [(5, zO o1), (0, zR 36), (1, zI v1), (2, zI v2), (3, zR r3), (4, zI v4)]) dX4_fits_8 (by decide) rfl ?_
  refine Z.aload (k := 0) dX4_fits_10 rfl ?_
  refine Z.ifnull 23 dX4_fits_12 rfl ⟨fun c4 => ?_, fun c4 => ?_⟩
  · replace K := K.1 c4
    refine Z.iconst (n := 0) dX4_fits_23 ⟨by decide, by decide⟩ ?_
    exact Z.iret (ty := .boolean) dX4_fits_24 rfl rfl K
  · replace K := K.2 c4
    refine Z.aload (k := 0) dX4_fits_15 rfl ?_
    obtain ⟨b5, e6, hc7, K⟩ := K
    rw [e6]
    refine Y.getI 11 dX4_fits_17 zl_X4_68 (congrArg Prod.fst hc7.1) (by decide) rfl hc7.2.1 ?_
    refine Z.if_ne 25 dX4_fits_20 rfl ⟨fun c8 => ?_, fun c8 => ?_⟩
    · replace K := K.1 c8
      refine Z.aload (k := 0) dX4_fits_25 rfl ?_
      refine Y.getR (o := some ((b5 + 1))) 0 dX4_fits_27 zl_X4_82 (congrArg Prod.fst hc7.1) (by decide) rfl hc7.2.1 hc7.2.2.2.1 ?_
      refine Y.getR (o := some ((b5 + 1) + 1)) 0 dX4_fits_30 zl_X4_86 (congrArg Prod.fst hc7.2.2.1.1) (by decide) rfl hc7.2.2.1.2.2.2.2.1 hc7.2.2.1.2.2.2.2.2.2.2.2.1 ?_
      refine Z.astore (ls' := [(6, zR ((b5 + 1) + 1)), (5, zR b5), (0, zR 36), (1, zI v1), (2, zI v2), (3, zR r3), (4, zI v4)]) dX4_fits_33 (by decide) rfl ?_
      refine Z.iload_n (k := 4) dX4_fits_35 rfl ?_
      refine Z.if_ne 43 dX4_fits_36 rfl ⟨fun c9 => ?_, fun c9 => ?_⟩
      · replace K := K.1 c9
        refine Z.aload (k := 1) dX4_fits_43 rfl ?_
        refine Y.getI 12 dX4_fits_45 zl_X4_91 (congrArg Prod.fst hc7.1) (by decide) rfl hc7.2.1 ?_
        refine Z.pick (ls' := [(0, zR 36), (2, zI v2), (3, zR r3), (4, zI v4), (5, zR b5), (6, zR ((b5 + 1) + 1))]) [2, 4, 5, 6, 1, 0] rfl ?_
        exact K
      · replace K := K.2 c9
        refine Z.iconst (n := 1) dX4_fits_39 ⟨by decide, by decide⟩ ?_
        refine Z.goto 48 dX4_fits_40 rfl ?_
        refine Z.pick (ls' := [(0, zR 36), (2, zI v2), (3, zR r3), (4, zI v4), (5, zR b5), (6, zR ((b5 + 1) + 1))]) [2, 4, 5, 6, 1, 0] rfl ?_
        exact K
    · replace K := K.2 c8
      refine Z.iconst (n := 0) dX4_fits_23 ⟨by decide, by decide⟩ ?_
      exact Z.iret (ty := .boolean) dX4_fits_24 rfl rfl K
set_option maxRecDepth 20000 in
theorem X4_fits_48 {kz : Nat × Nat} {Q : Option zV → zH → Prop} {d : List Nat} {G : Nat → Int → Option Nat} {E : Nat → Int → Int} {v2 : Int} {r3 : Nat} {v4 : Int} {o5 : Option Nat} {o6 : Option Nat} {s0 : Int} (hX : zK zXt d G) (hr3 : zRk d G r3) (K : (v2 ≠ 0 → Z zm_X4_fits kz Q 63 [(0, zR 36), (2, zI v2), (3, zR r3), (4, zI v4), (5, zO o5), (6, zO o6), (7, zI s0)] [zI 1] (d, G, E)) ∧ (¬ (v2 ≠ 0) → ∃ b2, o5 = some b2 ∧ zCk d G b2 ∧ Z zm_X4_fits kz Q 63 [(0, zR 36), (2, zI v2), (3, zR r3), (4, zI v4), (5, zR b2), (6, zO o6), (7, zI s0)] [zI ((E b2 12))] (d, G, E))) : Z zm_X4_fits kz Q 48 [(0, zR 36), (2, zI v2), (3, zR r3), (4, zI v4), (5, zO o5), (6, zO o6)] [zI s0] (d, G, E) := by
  refine Z.istore (ls' := [(7, zI s0), (0, zR 36), (2, zI v2), (3, zR r3), (4, zI v4), (5, zO o5), (6, zO o6)]) dX4_fits_48 (by decide) rfl ?_
  refine Z.iload_n (k := 2) dX4_fits_50 rfl ?_
  refine Z.if_ne 62 dX4_fits_51 rfl ⟨fun c1 => ?_, fun c1 => ?_⟩
  · replace K := K.1 c1
    refine Z.iconst (n := 1) dX4_fits_62 ⟨by decide, by decide⟩ ?_
    refine Z.pick (ls' := [(0, zR 36), (2, zI v2), (3, zR r3), (4, zI v4), (5, zO o5), (6, zO o6), (7, zI s0)]) [1, 2, 3, 4, 5, 6, 0] rfl ?_
    exact K
  · replace K := K.2 c1
    refine Z.aload (k := 5) dX4_fits_54 rfl ?_
    obtain ⟨b2, e3, hc4, K⟩ := K
    rw [e3]
    refine Y.getI 12 dX4_fits_56 zl_X4_91 (congrArg Prod.fst hc4.1) (by decide) rfl hc4.2.1 ?_
    refine Z.goto 63 dX4_fits_59 rfl ?_
    refine Z.pick (ls' := [(0, zR 36), (2, zI v2), (3, zR r3), (4, zI v4), (5, zR b2), (6, zO o6), (7, zI s0)]) [1, 2, 3, 4, 5, 6, 0] rfl ?_
    exact K
set_option maxRecDepth 20000 in
theorem X4_fits_63 {kz : Nat × Nat} {Q : Option zV → zH → Prop} {d : List Nat} {G : Nat → Int → Option Nat} {E : Nat → Int → Int} {v2 : Int} {r3 : Nat} {v4 : Int} {o5 : Option Nat} {o6 : Option Nat} {v7 : Int} {s0 : Int} (hX : zK zXt d G) (hr3 : zRk d G r3) (K : (v2 ≠ 0 → ∃ b2, o5 = some b2 ∧ zCk d G b2 ∧ Z zm_X4_fits kz Q 87 [(0, zR 36), (2, zI v2), (3, zR r3), (4, zI v4), (5, zR b2), (6, zO o6), (7, zI v7), (8, zI s0)] [zI ((E b2 12))] (d, G, E)) ∧ (¬ (v2 ≠ 0) → ∃ b5, o5 = some b5 ∧ zCk d G b5 ∧ ((0 : Int) ≤ 1 ∧ 1 < 7) ∧ Z zm_X4_fits kz Q 87 [(0, zR 36), (2, zI v2), (3, zR r3), (4, zI v4), (5, zR b5), (6, zO o6), (7, zI v7), (8, zI s0)] [zI ((E ((b5 + 1) + 2) 1))] (d, G, E))) : Z zm_X4_fits kz Q 63 [(0, zR 36), (2, zI v2), (3, zR r3), (4, zI v4), (5, zO o5), (6, zO o6), (7, zI v7)] [zI s0] (d, G, E) := by
  refine Z.istore (ls' := [(8, zI s0), (0, zR 36), (2, zI v2), (3, zR r3), (4, zI v4), (5, zO o5), (6, zO o6), (7, zI v7)]) dX4_fits_63 (by decide) rfl ?_
  refine Z.iload_n (k := 2) dX4_fits_65 rfl ?_
  refine Z.if_ne 82 dX4_fits_66 rfl ⟨fun c1 => ?_, fun c1 => ?_⟩
  · replace K := K.1 c1
    refine Z.aload (k := 5) dX4_fits_82 rfl ?_
    obtain ⟨b2, e3, hc4, K⟩ := K
    rw [e3]
    refine Y.getI 12 dX4_fits_84 zl_X4_91 (congrArg Prod.fst hc4.1) (by decide) rfl hc4.2.1 ?_
    refine Z.pick (ls' := [(0, zR 36), (2, zI v2), (3, zR r3), (4, zI v4), (5, zR b2), (6, zO o6), (7, zI v7), (8, zI s0)]) [1, 2, 3, 4, 5, 6, 7, 0] rfl ?_
    exact K
  · replace K := K.2 c1
    refine Z.aload (k := 5) dX4_fits_69 rfl ?_
    obtain ⟨b5, e6, hc7, K⟩ := K
    rw [e6]
    refine Y.getR (o := some ((b5 + 1))) 0 dX4_fits_71 zl_X4_82 (congrArg Prod.fst hc7.1) (by decide) rfl hc7.2.1 hc7.2.2.2.1 ?_
    refine Y.getR (o := some ((b5 + 1) + 2)) 1 dX4_fits_74 zl_X4_113 (congrArg Prod.fst hc7.2.2.1.1) (by decide) rfl hc7.2.2.1.2.2.2.2.1 hc7.2.2.1.2.2.2.2.2.2.2.2.2.1 ?_
    refine Z.iconst (n := 1) dX4_fits_77 ⟨by decide, by decide⟩ ?_
    obtain ⟨z8, K⟩ := K
    refine Y.iald dX4_fits_78 (hc7.2.2.1.2.2.1) (hc7.2.2.1.2.2.2.2.2.2.1) z8 ?_
    refine Z.goto 87 dX4_fits_79 rfl ?_
    refine Z.pick (ls' := [(0, zR 36), (2, zI v2), (3, zR r3), (4, zI v4), (5, zR b5), (6, zO o6), (7, zI v7), (8, zI s0)]) [1, 2, 3, 4, 5, 6, 7, 0] rfl ?_
    exact K
set_option maxRecDepth 20000 in
theorem X4_fits_87 {kz : Nat × Nat} {Q : Option zV → zH → Prop} {d : List Nat} {G : Nat → Int → Option Nat} {E : Nat → Int → Int} {v2 : Int} {r3 : Nat} {v4 : Int} {o5 : Option Nat} {o6 : Option Nat} {v7 : Int} {v8 : Int} {s0 : Int} (hX : zK zXt d G) (hr3 : zRk d G r3) (K : ∃ E1, zM zm_X9_forget [zR 20, zI 0] (d, G, E) none (d, G, E1) ∧ ∃ x4 E5, zM zm_X9_matches [zR 20, zO o6, zI v7, zR (r3 + 1), zI v4] (d, G, E1) (some (zI x4)) (d, G, E5) ∧ (x4 = 0 → Q (some (zI 0)) (d, G, E5)) ∧ (¬ (x4 = 0) → ∃ x9, zM zm_X9_isTold [zR 20, zO o6, zI v8, zI s0] (d, G, E5) (some (zI x9)) (d, G, E5) ∧ (x9 ≠ 0 → ∃ E13, zM zm_X9_layFirst [zR 20, zR r3] (d, G, E5) none (d, G, E13) ∧ ∃ b16, o5 = some b16 ∧ zCk d G b16 ∧ ∃ E19, zM zm_X9_laySecond [zR 20, zR ((b16 + 1))] (d, G, E13) none (d, G, E19) ∧ ∀ E22, E22 = zuE E19 20 14 0 → zin (180 + v8) ∧ zin (180 + s0) ∧ ∃ x25 E26, zM zm_X9_write [zR 20, zI ((180 + v8)), zI ((180 + s0)), zI 1000] (d, G, E22) (some (zI x25)) (d, G, E26) ∧ (x25 = 0 → Q (some (zI 0)) (d, G, E26)) ∧ (¬ (x25 = 0) → ((E26 b16 13) = 0 → ∃ x31 E32, zM zm_X6_compare [zR 18, zR (r3 + 1), zI v4, zR 29, zI 0] (d, G, E26) (some (zI x31)) (d, G, E32) ∧ (x31 ≠ 1 → Q (some (zI 0)) (d, G, E32)) ∧ (¬ (x31 ≠ 1) → Q (some (zI 1)) (d, G, E32))) ∧ (¬ ((E26 b16 13) = 0) → (v2 = 0 → Q (some (zI 1)) (d, G, E26)) ∧ (¬ (v2 = 0) → ∃ x37 E38, zM zm_X6_compare [zR 18, zR (r3 + 1), zI v4, zR 29, zI 0] (d, G, E26) (some (zI x37)) (d, G, E38) ∧ (x37 ≠ 1 → Q (some (zI 0)) (d, G, E38)) ∧ (¬ (x37 ≠ 1) → Q (some (zI 1)) (d, G, E38)))))) ∧ (¬ (x9 ≠ 0) → Q (some (zI 0)) (d, G, E5)))) : Z zm_X4_fits kz Q 87 [(0, zR 36), (2, zI v2), (3, zR r3), (4, zI v4), (5, zO o5), (6, zO o6), (7, zI v7), (8, zI v8)] [zI s0] (d, G, E) := by
  refine Z.istore (ls' := [(9, zI s0), (0, zR 36), (2, zI v2), (3, zR r3), (4, zI v4), (5, zO o5), (6, zO o6), (7, zI v7), (8, zI v8)]) dX4_fits_87 (by decide) rfl ?_
  refine Z.aload_n (k := 1) dX4_fits_89 rfl ?_
  refine Y.getR (o := some 20) 2 dX4_fits_90 zl_X4_45 (rfl) (by decide) rfl (zX_0_9 hX).2.2 (zX_36_2 hX).1 ?_
  refine Z.iconst (n := 0) dX4_fits_93 ⟨by decide, by decide⟩ ?_
  obtain ⟨E1, m2, K⟩ := K
  refine Y.callV (g := zm_X9_forget) (vs := [zI 0]) (st := []) dX4_fits_94 ⟨zg_X9_forget.1, zg_X9_forget.2.1, zg_X9_forget.2.2, by decide⟩ ⟨zk_X4_141, zv_X9_forget⟩ (ci := 9) (rfl) rfl ((zX_0_6 hX).2.2) rfl rfl (Nat.le_of_ble_eq_true rfl) m2 (Or.inl rfl) ?_
  show Z zm_X4_fits kz Q 97 [(9, zI s0), (0, zR 36), (2, zI v2), (3, zR r3), (4, zI v4), (5, zO o5), (6, zO o6), (7, zI v7), (8, zI v8)] [] (d, G, E1)
  refine Z.aload_n (k := 1) dX4_fits_97 rfl ?_
  refine Y.getR (o := some 20) 2 dX4_fits_98 zl_X4_45 (rfl) (by decide) rfl (zX_0_9 hX).2.2 (zX_36_2 hX).1 ?_
  refine Z.aload (k := 6) dX4_fits_101 rfl ?_
  refine Z.iload (k := 7) dX4_fits_103 rfl ?_
  refine Z.aload_n (k := 3) dX4_fits_105 rfl ?_
  refine Y.getR (o := some (r3 + 1)) 0 dX4_fits_106 zl_X4_86 (congrArg Prod.fst hr3.1) (by decide) rfl hr3.2.2.2.2.1 hr3.2.2.2.2.2.2.2.2.1 ?_
  refine Z.iload (k := 4) dX4_fits_109 rfl ?_
  obtain ⟨x4, E5, m6, K⟩ := K
  refine Y.callV (g := zm_X9_matches) (vs := [zO o6, zI v7, zR (r3 + 1), zI v4]) (st := []) dX4_fits_111 ⟨zg_X9_matches.1, zg_X9_matches.2.1, zg_X9_matches.2.2, by decide⟩ ⟨zk_X4_145, zv_X9_matches⟩ (ci := 9) (rfl) rfl ((zX_0_6 hX).2.2) rfl rfl (Nat.le_of_ble_eq_true rfl) m6 (Or.inl rfl) ?_
  show Z zm_X4_fits kz Q 114 [(9, zI s0), (0, zR 36), (2, zI v2), (3, zR r3), (4, zI v4), (5, zO o5), (6, zO o6), (7, zI v7), (8, zI v8)] [zI x4] (d, G, E5)
  refine Z.if_eq 133 dX4_fits_114 rfl ⟨fun c8 => ?_, fun c8 => ?_⟩
  · replace K := K.1 c8
    refine Z.iconst (n := 0) dX4_fits_133 ⟨by decide, by decide⟩ ?_
    exact Z.iret (ty := .boolean) dX4_fits_134 rfl rfl K
  · replace K := K.2 c8
    refine Z.aload_n (k := 1) dX4_fits_117 rfl ?_
    refine Y.getR (o := some 20) 2 dX4_fits_118 zl_X4_45 (rfl) (by decide) rfl (zX_0_9 hX).2.2 (zX_36_2 hX).1 ?_
    refine Z.aload (k := 6) dX4_fits_121 rfl ?_
    refine Z.iload (k := 8) dX4_fits_123 rfl ?_
    refine Z.iload (k := 0) dX4_fits_125 rfl ?_
    obtain ⟨x9, m10, K⟩ := K
    refine Y.callV (g := zm_X9_isTold) (vs := [zO o6, zI v8, zI s0]) (st := []) dX4_fits_127 ⟨zg_X9_isTold.1, zg_X9_isTold.2.1, zg_X9_isTold.2.2, by decide⟩ ⟨zk_X4_149, zv_X9_isTold⟩ (ci := 9) (rfl) rfl ((zX_0_6 hX).2.2) rfl rfl (Nat.le_of_ble_eq_true rfl) m10 (Or.inl rfl) ?_
    show Z zm_X4_fits kz Q 130 [(9, zI s0), (0, zR 36), (2, zI v2), (3, zR r3), (4, zI v4), (5, zO o5), (6, zO o6), (7, zI v7), (8, zI v8)] [zI x9] (d, G, E5)
    refine Z.if_ne 135 dX4_fits_130 rfl ⟨fun c12 => ?_, fun c12 => ?_⟩
    · replace K := K.1 c12
      refine Z.aload_n (k := 1) dX4_fits_135 rfl ?_
      refine Y.getR (o := some 20) 2 dX4_fits_136 zl_X4_45 (rfl) (by decide) rfl (zX_0_9 hX).2.2 (zX_36_2 hX).1 ?_
      refine Z.aload_n (k := 3) dX4_fits_139 rfl ?_
      obtain ⟨E13, m14, K⟩ := K
      refine Y.callV (g := zm_X9_layFirst) (vs := [zR r3]) (st := []) dX4_fits_140 ⟨zg_X9_layFirst.1, zg_X9_layFirst.2.1, zg_X9_layFirst.2.2, by decide⟩ ⟨zk_X4_153, zv_X9_layFirst⟩ (ci := 9) (rfl) rfl ((zX_0_6 hX).2.2) rfl rfl (Nat.le_of_ble_eq_true rfl) m14 (Or.inl rfl) ?_
      show Z zm_X4_fits kz Q 143 [(9, zI s0), (0, zR 36), (2, zI v2), (3, zR r3), (4, zI v4), (5, zO o5), (6, zO o6), (7, zI v7), (8, zI v8)] [] (d, G, E13)
      refine Z.aload_n (k := 1) dX4_fits_143 rfl ?_
      refine Y.getR (o := some 20) 2 dX4_fits_144 zl_X4_45 (rfl) (by decide) rfl (zX_0_9 hX).2.2 (zX_36_2 hX).1 ?_
      refine Z.aload (k := 5) dX4_fits_147 rfl ?_
      obtain ⟨b16, e17, hc18, K⟩ := K
      rw [e17]
      refine Y.getR (o := some ((b16 + 1))) 0 dX4_fits_149 zl_X4_82 (congrArg Prod.fst hc18.1) (by decide) rfl hc18.2.1 hc18.2.2.2.1 ?_
      obtain ⟨E19, m20, K⟩ := K
      refine Y.callV (g := zm_X9_laySecond) (vs := [zR ((b16 + 1))]) (st := []) dX4_fits_152 ⟨zg_X9_laySecond.1, zg_X9_laySecond.2.1, zg_X9_laySecond.2.2, by decide⟩ ⟨zk_X4_157, zv_X9_laySecond⟩ (ci := 9) (rfl) rfl ((zX_0_6 hX).2.2) rfl rfl (Nat.le_of_ble_eq_true rfl) m20 (Or.inl rfl) ?_
      show Z zm_X4_fits kz Q 155 [(9, zI s0), (0, zR 36), (2, zI v2), (3, zR r3), (4, zI v4), (5, zR b16), (6, zO o6), (7, zI v7), (8, zI v8)] [] (d, G, E19)
      refine Z.aload_n (k := 1) dX4_fits_155 rfl ?_
      refine Y.getR (o := some 20) 2 dX4_fits_156 zl_X4_45 (rfl) (by decide) rfl (zX_0_9 hX).2.2 (zX_36_2 hX).1 ?_
      refine Z.iconst (n := 0) dX4_fits_159 ⟨by decide, by decide⟩ ?_
      refine Y.putI 14 dX4_fits_160 zw_X4_135 (fun q => by cases q) (rfl) rfl (zX_0_6 hX).2.2 (Or.inl rfl) ?_
      generalize eE22 : zuE E19 20 14 0 = E22
      replace K := K E22 eE22.symm
      refine Z.aload_n (k := 1) dX4_fits_163 rfl ?_
      refine Y.getR (o := some 20) 2 dX4_fits_164 zl_X4_45 (rfl) (by decide) rfl (zX_0_9 hX).2.2 (zX_36_2 hX).1 ?_
      refine Z.sipush (n := 180) dX4_fits_167 ⟨by decide, by decide⟩ (by decide) ?_
      refine Z.iload (k := 8) dX4_fits_170 rfl ?_
      obtain ⟨z23, K⟩ := K
      refine Z.iadd dX4_fits_172 z23 ?_
      refine Z.sipush (n := 180) dX4_fits_173 ⟨by decide, by decide⟩ (by decide) ?_
      refine Z.iload (k := 0) dX4_fits_176 rfl ?_
      obtain ⟨z24, K⟩ := K
      refine Z.iadd dX4_fits_178 z24 ?_
      refine Z.sipush (n := 1000) dX4_fits_179 ⟨by decide, by decide⟩ (by decide) ?_
      obtain ⟨x25, E26, m27, K⟩ := K
      refine Y.callV (g := zm_X9_write) (vs := [zI ((180 + v8)), zI ((180 + s0)), zI 1000]) (st := []) dX4_fits_182 ⟨zg_X9_write.1, zg_X9_write.2.1, zg_X9_write.2.2, by decide⟩ ⟨zk_X4_160, zv_X9_write⟩ (ci := 9) (rfl) rfl ((zX_0_6 hX).2.2) rfl rfl (Nat.le_of_ble_eq_true rfl) m27 (Or.inl rfl) ?_
      show Z zm_X4_fits kz Q 185 [(9, zI s0), (0, zR 36), (2, zI v2), (3, zR r3), (4, zI v4), (5, zR b16), (6, zO o6), (7, zI v7), (8, zI v8)] [zI x25] (d, G, E26)
      refine Z.if_eq 229 dX4_fits_185 rfl ⟨fun c29 => ?_, fun c29 => ?_⟩
      · replace K := K.1 c29
        refine Z.iconst (n := 0) dX4_fits_229 ⟨by decide, by decide⟩ ?_
        exact Z.iret (ty := .boolean) dX4_fits_230 rfl rfl K
      · replace K := K.2 c29
        refine Z.aload (k := 5) dX4_fits_188 rfl ?_
        refine Y.getI 13 dX4_fits_190 zl_X4_76 (congrArg Prod.fst hc18.1) (by decide) rfl hc18.2.1 ?_
        refine Z.if_eq 200 dX4_fits_193 rfl ⟨fun c30 => ?_, fun c30 => ?_⟩
        · replace K := K.1 c30
          refine Z.aload_n (k := 1) dX4_fits_200 rfl ?_
          refine Y.getR (o := some 18) 1 dX4_fits_201 zl_X4_41 (rfl) (by decide) rfl (zX_0_9 hX).2.2 (zX_36_1 hX).1 ?_
          refine Z.aload_n (k := 3) dX4_fits_204 rfl ?_
          refine Y.getR (o := some (r3 + 1)) 0 dX4_fits_205 zl_X4_86 (congrArg Prod.fst hr3.1) (by decide) rfl hr3.2.2.2.2.1 hr3.2.2.2.2.2.2.2.2.1 ?_
          refine Z.iload (k := 4) dX4_fits_208 rfl ?_
          refine Z.aload_n (k := 1) dX4_fits_210 rfl ?_
          refine Y.getR (o := some 20) 2 dX4_fits_211 zl_X4_45 (rfl) (by decide) rfl (zX_0_9 hX).2.2 (zX_36_2 hX).1 ?_
          refine Y.getR (o := some 29) 13 dX4_fits_214 zl_X4_130 (rfl) (by decide) rfl (zX_0_6 hX).2.2 (zX_20_13 hX).1 ?_
          refine Z.iconst (n := 0) dX4_fits_217 ⟨by decide, by decide⟩ ?_
          obtain ⟨x31, E32, m33, K⟩ := K
          refine Y.callV (g := zm_X6_compare) (vs := [zR (r3 + 1), zI v4, zR 29, zI 0]) (st := []) dX4_fits_218 ⟨zg_X6_compare.1, zg_X6_compare.2.1, zg_X6_compare.2.2, by decide⟩ ⟨zk_X4_164, zv_X6_compare⟩ (ci := 6) (rfl) rfl ((zX_0_5 hX).2.2) rfl rfl (Nat.le_of_ble_eq_true rfl) m33 (Or.inl rfl) ?_
          show Z zm_X4_fits kz Q 221 [(9, zI s0), (0, zR 36), (2, zI v2), (3, zR r3), (4, zI v4), (5, zR b16), (6, zO o6), (7, zI v7), (8, zI v8)] [zI x31] (d, G, E32)
          refine Z.iconst (n := 1) dX4_fits_221 ⟨by decide, by decide⟩ ?_
          refine Z.icmp_ne 229 dX4_fits_222 rfl ⟨fun c35 => ?_, fun c35 => ?_⟩
          · replace K := K.1 c35
            refine Z.iconst (n := 0) dX4_fits_229 ⟨by decide, by decide⟩ ?_
            exact Z.iret (ty := .boolean) dX4_fits_230 rfl rfl K
          · replace K := K.2 c35
            refine Z.iconst (n := 1) dX4_fits_225 ⟨by decide, by decide⟩ ?_
            refine Z.goto 230 dX4_fits_226 rfl ?_
            exact Z.iret (ty := .boolean) dX4_fits_230 rfl rfl K
        · replace K := K.2 c30
          refine Z.iload_n (k := 2) dX4_fits_196 rfl ?_
          refine Z.if_eq 225 dX4_fits_197 rfl ⟨fun c36 => ?_, fun c36 => ?_⟩
          · replace K := K.1 c36
            refine Z.iconst (n := 1) dX4_fits_225 ⟨by decide, by decide⟩ ?_
            refine Z.goto 230 dX4_fits_226 rfl ?_
            exact Z.iret (ty := .boolean) dX4_fits_230 rfl rfl K
          · replace K := K.2 c36
            refine Z.aload_n (k := 1) dX4_fits_200 rfl ?_
            refine Y.getR (o := some 18) 1 dX4_fits_201 zl_X4_41 (rfl) (by decide) rfl (zX_0_9 hX).2.2 (zX_36_1 hX).1 ?_
            refine Z.aload_n (k := 3) dX4_fits_204 rfl ?_
            refine Y.getR (o := some (r3 + 1)) 0 dX4_fits_205 zl_X4_86 (congrArg Prod.fst hr3.1) (by decide) rfl hr3.2.2.2.2.1 hr3.2.2.2.2.2.2.2.2.1 ?_
            refine Z.iload (k := 4) dX4_fits_208 rfl ?_
            refine Z.aload_n (k := 1) dX4_fits_210 rfl ?_
            refine Y.getR (o := some 20) 2 dX4_fits_211 zl_X4_45 (rfl) (by decide) rfl (zX_0_9 hX).2.2 (zX_36_2 hX).1 ?_
            refine Y.getR (o := some 29) 13 dX4_fits_214 zl_X4_130 (rfl) (by decide) rfl (zX_0_6 hX).2.2 (zX_20_13 hX).1 ?_
            refine Z.iconst (n := 0) dX4_fits_217 ⟨by decide, by decide⟩ ?_
            obtain ⟨x37, E38, m39, K⟩ := K
            refine Y.callV (g := zm_X6_compare) (vs := [zR (r3 + 1), zI v4, zR 29, zI 0]) (st := []) dX4_fits_218 ⟨zg_X6_compare.1, zg_X6_compare.2.1, zg_X6_compare.2.2, by decide⟩ ⟨zk_X4_164, zv_X6_compare⟩ (ci := 6) (rfl) rfl ((zX_0_5 hX).2.2) rfl rfl (Nat.le_of_ble_eq_true rfl) m39 (Or.inl rfl) ?_
            show Z zm_X4_fits kz Q 221 [(9, zI s0), (0, zR 36), (2, zI v2), (3, zR r3), (4, zI v4), (5, zR b16), (6, zO o6), (7, zI v7), (8, zI v8)] [zI x37] (d, G, E38)
            refine Z.iconst (n := 1) dX4_fits_221 ⟨by decide, by decide⟩ ?_
            refine Z.icmp_ne 229 dX4_fits_222 rfl ⟨fun c41 => ?_, fun c41 => ?_⟩
            · replace K := K.1 c41
              refine Z.iconst (n := 0) dX4_fits_229 ⟨by decide, by decide⟩ ?_
              exact Z.iret (ty := .boolean) dX4_fits_230 rfl rfl K
            · replace K := K.2 c41
              refine Z.iconst (n := 1) dX4_fits_225 ⟨by decide, by decide⟩ ?_
              refine Z.goto 230 dX4_fits_226 rfl ?_
              exact Z.iret (ty := .boolean) dX4_fits_230 rfl rfl K
    · replace K := K.2 c12
      refine Z.iconst (n := 0) dX4_fits_133 ⟨by decide, by decide⟩ ?_
      exact Z.iret (ty := .boolean) dX4_fits_134 rfl rfl K
set_option maxRecDepth 20000 in
theorem X4_note_0 {kz : Nat × Nat} {Q : Option zV → zH → Prop} {d : List Nat} {G : Nat → Int → Option Nat} {E : Nat → Int → Int} {v1 : Int} {r2 : Nat} {v3 : Int} {v4 : Int} (hX : zK zXt d G) (hr2 : zRk d G r2) (K : ∀ E1, E1 = zuE E 36 8 v3 → ∀ E2, E2 = zuE E1 36 9 v4 → zin (4 * (E2 36 11)) ∧ zin ((4 * (E2 36 11)) + 3) ∧ (32 ≤ ((4 * (E2 36 11)) + 3) → Q none (d, G, E2)) ∧ (¬ (32 ≤ ((4 * (E2 36 11)) + 3)) → ((0 : Int) ≤ v1 ∧ v1 < 300) ∧ ((0 : Int) ≤ (4 * (E2 36 11)) ∧ (4 * (E2 36 11)) < 32) ∧ ∀ E8, E8 = zuE E2 40 ((4 * (E2 36 11))) ((E2 37 v1)) → zin ((4 * (E2 36 11)) + 1) ∧ ((0 : Int) ≤ v1 ∧ v1 < 300) ∧ ((0 : Int) ≤ ((4 * (E2 36 11)) + 1) ∧ ((4 * (E2 36 11)) + 1) < 32) ∧ ∀ E12, E12 = zuE E8 40 (((4 * (E2 36 11)) + 1)) ((E8 38 v1)) → zin ((4 * (E2 36 11)) + 2) ∧ ((0 : Int) ≤ ((4 * (E2 36 11)) + 2) ∧ ((4 * (E2 36 11)) + 2) < 32) ∧ ∀ E15, E15 = zuE E12 40 (((4 * (E2 36 11)) + 2)) v3 → zin ((4 * (E2 36 11)) + 3) ∧ ((0 : Int) ≤ v3 ∧ v3 < 7) ∧ zin (v4 - (E15 (r2 + 2) v3)) ∧ ((0 : Int) ≤ ((4 * (E2 36 11)) + 3) ∧ ((4 * (E2 36 11)) + 3) < 32) ∧ ∀ E20, E20 = zuE E15 40 (((4 * (E2 36 11)) + 3)) ((v4 - (E15 (r2 + 2) v3))) → Q none (d, G, E20))) : Z zm_X4_note kz Q 0 [(0, zR 36), (1, zI v1), (2, zR r2), (3, zI v3), (4, zI v4)] [] (d, G, E) := by
  refine Z.aload_n (k := 0) dX4_note_0 rfl ?_
  refine Z.iload_n (k := 3) dX4_note_1 rfl ?_
  refine Y.putI 8 dX4_note_2 zw_X4_25 (fun q => by cases q) (rfl) rfl (zX_0_9 hX).2.2 (Or.inl rfl) ?_
  generalize eE1 : zuE E 36 8 v3 = E1
  replace K := K E1 eE1.symm
  refine Z.aload_n (k := 0) dX4_note_5 rfl ?_
  refine Z.iload (k := 4) dX4_note_6 rfl ?_
  refine Y.putI 9 dX4_note_8 zw_X4_28 (fun q => by cases q) (rfl) rfl (zX_0_9 hX).2.2 (Or.inl rfl) ?_
  generalize eE2 : zuE E1 36 9 v4 = E2
  replace K := K E2 eE2.symm
  refine Z.iconst (n := 4) dX4_note_11 ⟨by decide, by decide⟩ ?_
  refine Z.aload_n (k := 0) dX4_note_12 rfl ?_
  refine Y.getI 11 dX4_note_13 zl_X4_34 (rfl) (by decide) rfl (zX_0_9 hX).2.2 ?_
  obtain ⟨z3, K⟩ := K
  refine Z.imul dX4_note_16 z3 ?_
  refine Z.istore (ls' := [(5, zI ((4 * (E2 36 11)))), (0, zR 36), (1, zI v1), (2, zR r2), (3, zI v3), (4, zI v4)]) dX4_note_17 (by decide) rfl ?_
  refine Z.iload (k := 0) dX4_note_19 rfl ?_
  refine Z.iconst (n := 3) dX4_note_21 ⟨by decide, by decide⟩ ?_
  obtain ⟨z4, K⟩ := K
  refine Z.iadd dX4_note_22 z4 ?_
  refine Z.aload_n (k := 1) dX4_note_23 rfl ?_
  refine Y.getR (o := some 40) 10 dX4_note_24 zl_X4_31 (rfl) (by decide) rfl (zX_0_9 hX).2.2 (zX_36_10 hX).1 ?_
  refine Y.alen 32 32 dX4_note_27 (rfl) ((zX_36_10 hX).2.2) rfl ⟨by decide, by decide⟩ ?_
  refine Z.icmp_ge 87 dX4_note_28 rfl ⟨fun c5 => ?_, fun c5 => ?_⟩
  · replace K := K.1 c5
    exact Z.vret dX4_note_87 rfl K
  · replace K := K.2 c5
    refine Z.aload_n (k := 1) dX4_note_31 rfl ?_
    refine Y.getR (o := some 40) 10 dX4_note_32 zl_X4_31 (rfl) (by decide) rfl (zX_0_9 hX).2.2 (zX_36_10 hX).1 ?_
    refine Z.iload (k := 0) dX4_note_35 rfl ?_
    refine Z.aload_n (k := 1) dX4_note_37 rfl ?_
    refine Y.getR (o := some 37) 4 dX4_note_38 zl_X4_9 (rfl) (by decide) rfl (zX_0_9 hX).2.2 (zX_36_4 hX).1 ?_
    refine Z.iload_n (k := 2) dX4_note_41 rfl ?_
    obtain ⟨z6, K⟩ := K
    refine Y.iald dX4_note_42 (rfl) ((zX_36_4 hX).2.2) z6 ?_
    obtain ⟨z7, K⟩ := K
    refine Y.iast dX4_note_43 (rfl) ((zX_36_10 hX).2.2) z7 ?_
    generalize eE8 : zuE E2 40 ((4 * (E2 36 11))) ((E2 37 v1)) = E8
    replace K := K E8 eE8.symm
    refine Z.aload_n (k := 1) dX4_note_44 rfl ?_
    refine Y.getR (o := some 40) 10 dX4_note_45 zl_X4_31 (rfl) (by decide) rfl (zX_0_9 hX).2.2 (zX_36_10 hX).1 ?_
    refine Z.iload (k := 0) dX4_note_48 rfl ?_
    refine Z.iconst (n := 1) dX4_note_50 ⟨by decide, by decide⟩ ?_
    obtain ⟨z9, K⟩ := K
    refine Z.iadd dX4_note_51 z9 ?_
    refine Z.aload_n (k := 1) dX4_note_52 rfl ?_
    refine Y.getR (o := some 38) 5 dX4_note_53 zl_X4_15 (rfl) (by decide) rfl (zX_0_9 hX).2.2 (zX_36_5 hX).1 ?_
    refine Z.iload_n (k := 2) dX4_note_56 rfl ?_
    obtain ⟨z10, K⟩ := K
    refine Y.iald dX4_note_57 (rfl) ((zX_36_5 hX).2.2) z10 ?_
    obtain ⟨z11, K⟩ := K
    refine Y.iast dX4_note_58 (rfl) ((zX_36_10 hX).2.2) z11 ?_
    generalize eE12 : zuE E8 40 (((4 * (E2 36 11)) + 1)) ((E8 38 v1)) = E12
    replace K := K E12 eE12.symm
    refine Z.aload_n (k := 1) dX4_note_59 rfl ?_
    refine Y.getR (o := some 40) 10 dX4_note_60 zl_X4_31 (rfl) (by decide) rfl (zX_0_9 hX).2.2 (zX_36_10 hX).1 ?_
    refine Z.iload (k := 0) dX4_note_63 rfl ?_
    refine Z.iconst (n := 2) dX4_note_65 ⟨by decide, by decide⟩ ?_
    obtain ⟨z13, K⟩ := K
    refine Z.iadd dX4_note_66 z13 ?_
    refine Z.iload_n (k := 4) dX4_note_67 rfl ?_
    obtain ⟨z14, K⟩ := K
    refine Y.iast dX4_note_68 (rfl) ((zX_36_10 hX).2.2) z14 ?_
    generalize eE15 : zuE E12 40 (((4 * (E2 36 11)) + 2)) v3 = E15
    replace K := K E15 eE15.symm
    refine Z.aload_n (k := 1) dX4_note_69 rfl ?_
    refine Y.getR (o := some 40) 10 dX4_note_70 zl_X4_31 (rfl) (by decide) rfl (zX_0_9 hX).2.2 (zX_36_10 hX).1 ?_
    refine Z.iload (k := 0) dX4_note_73 rfl ?_
    refine Z.iconst (n := 3) dX4_note_75 ⟨by decide, by decide⟩ ?_
    obtain ⟨z16, K⟩ := K
    refine Z.iadd dX4_note_76 z16 ?_
    refine Z.iload (k := 5) dX4_note_77 rfl ?_
    refine Z.aload_n (k := 3) dX4_note_79 rfl ?_
    refine Y.getR (o := some (r2 + 2)) 1 dX4_note_80 zl_X4_113 (congrArg Prod.fst hr2.1) (by decide) rfl hr2.2.2.2.2.1 hr2.2.2.2.2.2.2.2.2.2.1 ?_
    refine Z.iload_n (k := 4) dX4_note_83 rfl ?_
    obtain ⟨z17, K⟩ := K
    refine Y.iald dX4_note_84 (hr2.2.2.1) (hr2.2.2.2.2.2.2.1) z17 ?_
    obtain ⟨z18, K⟩ := K
    refine Z.isub dX4_note_85 z18 ?_
    obtain ⟨z19, K⟩ := K
    refine Y.iast dX4_note_86 (rfl) ((zX_36_10 hX).2.2) z19 ?_
    generalize eE20 : zuE E15 40 (((4 * (E2 36 11)) + 3)) ((v4 - (E15 (r2 + 2) v3))) = E20
    replace K := K E20 eE20.symm
    exact Z.vret dX4_note_87 rfl K
set_option maxRecDepth 20000 in
theorem X4_findFirst_0 {kz : Nat × Nat} {Q : Option zV → zH → Prop} {d : List Nat} {G : Nat → Int → Option Nat} {E : Nat → Int → Int} {r1 : Nat} (hX : zK zXt d G) (hr1 : zRk d G r1) (K : Z zm_X4_findFirst kz Q 2 [(0, zR 36), (1, zR r1), (2, zI 0)] [] (d, G, E)) : Z zm_X4_findFirst kz Q 0 [(0, zR 36), (1, zR r1)] [] (d, G, E) := by
  refine Z.iconst (n := 0) dX4_findFirst_0 ⟨by decide, by decide⟩ ?_
  refine Z.istore_n (ls' := [(2, zI 0), (0, zR 36), (1, zR r1)]) dX4_findFirst_1 (by decide) rfl ?_
  refine Z.pick (ls' := [(0, zR 36), (1, zR r1), (2, zI 0)]) [1, 2, 0] rfl ?_
  exact K
set_option maxRecDepth 20000 in
theorem X4_findFirst_2 {kz : Nat × Nat} {Q : Option zV → zH → Prop} {d : List Nat} {G : Nat → Int → Option Nat} {E : Nat → Int → Int} {r1 : Nat} {v2 : Int} (hX : zK zXt d G) (hr1 : zRk d G r1) (K : ((E r1 3) ≤ v2 → Q (some (zI 0)) (d, G, E)) ∧ (¬ ((E r1 3) ≤ v2) → ((E 36 7) ≤ 0 → Q (some (zI 0)) (d, G, E)) ∧ (¬ ((E 36 7) ≤ 0) → ((0 : Int) ≤ v2 ∧ v2 < 7) ∧ zin ((E (r1 + 2) v2) + 1) ∧ Z zm_X4_findFirst kz Q 26 [(0, zR 36), (1, zR r1), (2, zI v2), (3, zI (((E (r1 + 2) v2) + 1)))] [] (d, G, E)))) : Z zm_X4_findFirst kz Q 2 [(0, zR 36), (1, zR r1), (2, zI v2)] [] (d, G, E) := by
  refine Z.iload_n (k := 2) dX4_findFirst_2 rfl ?_
  refine Z.aload_n (k := 1) dX4_findFirst_3 rfl ?_
  refine Y.getI 3 dX4_findFirst_4 zl_X4_110 (congrArg Prod.fst hr1.1) (by decide) rfl hr1.2.2.2.2.1 ?_
  refine Z.icmp_ge 137 dX4_findFirst_7 rfl ⟨fun c1 => ?_, fun c1 => ?_⟩
  · replace K := K.1 c1
    refine Z.iconst (n := 0) dX4_findFirst_137 ⟨by decide, by decide⟩ ?_
    exact Z.iret (ty := .boolean) dX4_findFirst_138 rfl rfl K
  · replace K := K.2 c1
    refine Z.aload_n (k := 0) dX4_findFirst_10 rfl ?_
    refine Y.getI 7 dX4_findFirst_11 zl_X4_21 (rfl) (by decide) rfl (zX_0_9 hX).2.2 ?_
    refine Z.if_le 137 dX4_findFirst_14 rfl ⟨fun c2 => ?_, fun c2 => ?_⟩
    · replace K := K.1 c2
      refine Z.iconst (n := 0) dX4_findFirst_137 ⟨by decide, by decide⟩ ?_
      exact Z.iret (ty := .boolean) dX4_findFirst_138 rfl rfl K
    · replace K := K.2 c2
      refine Z.aload_n (k := 1) dX4_findFirst_17 rfl ?_
      refine Y.getR (o := some (r1 + 2)) 1 dX4_findFirst_18 zl_X4_113 (congrArg Prod.fst hr1.1) (by decide) rfl hr1.2.2.2.2.1 hr1.2.2.2.2.2.2.2.2.2.1 ?_
      refine Z.iload_n (k := 2) dX4_findFirst_21 rfl ?_
      obtain ⟨z3, K⟩ := K
      refine Y.iald dX4_findFirst_22 (hr1.2.2.1) (hr1.2.2.2.2.2.2.1) z3 ?_
      refine Z.iconst (n := 1) dX4_findFirst_23 ⟨by decide, by decide⟩ ?_
      obtain ⟨z4, K⟩ := K
      refine Z.iadd dX4_findFirst_24 z4 ?_
      refine Z.istore_n (ls' := [(3, zI (((E (r1 + 2) v2) + 1))), (0, zR 36), (1, zR r1), (2, zI v2)]) dX4_findFirst_25 (by decide) rfl ?_
      refine Z.pick (ls' := [(0, zR 36), (1, zR r1), (2, zI v2), (3, zI (((E (r1 + 2) v2) + 1)))]) [1, 2, 3, 0] rfl ?_
      exact K
set_option maxRecDepth 20000 in
theorem X4_findFirst_26 {kz : Nat × Nat} {Q : Option zV → zH → Prop} {d : List Nat} {G : Nat → Int → Option Nat} {E : Nat → Int → Int} {r1 : Nat} {v2 : Int} {v3 : Int} (hX : zK zXt d G) (hr1 : zRk d G r1) (K : zin (v2 + 1) ∧ ((0 : Int) ≤ (v2 + 1) ∧ (v2 + 1) < 7) ∧ ((E (r1 + 2) (v2 + 1)) ≤ v3 → zin (v2 + 1) ∧ Z zm_X4_findFirst kz Q 2 [(0, zR 36), (1, zR r1), (2, zI ((v2 + 1)))] [] (d, G, E)) ∧ (¬ ((E (r1 + 2) (v2 + 1)) ≤ v3) → ((0 : Int) ≤ v3 ∧ v3 < 180) ∧ Z zm_X4_findFirst kz Q 49 [(0, zR 36), (1, zR r1), (2, zI v2), (3, zI v3), (4, zI ((E (r1 + 1) v3))), (5, zI 0)] [] (d, G, E))) : Z zm_X4_findFirst kz Q 26 [(0, zR 36), (1, zR r1), (2, zI v2), (3, zI v3)] [] (d, G, E) := by
  refine Z.iload_n (k := 3) dX4_findFirst_26 rfl ?_
  refine Z.aload_n (k := 1) dX4_findFirst_27 rfl ?_
  refine Y.getR (o := some (r1 + 2)) 1 dX4_findFirst_28 zl_X4_113 (congrArg Prod.fst hr1.1) (by decide) rfl hr1.2.2.2.2.1 hr1.2.2.2.2.2.2.2.2.2.1 ?_
  refine Z.iload_n (k := 2) dX4_findFirst_31 rfl ?_
  refine Z.iconst (n := 1) dX4_findFirst_32 ⟨by decide, by decide⟩ ?_
  obtain ⟨z1, K⟩ := K
  refine Z.iadd dX4_findFirst_33 z1 ?_
  obtain ⟨z2, K⟩ := K
  refine Y.iald dX4_findFirst_34 (hr1.2.2.1) (hr1.2.2.2.2.2.2.1) z2 ?_
  refine Z.icmp_ge 131 dX4_findFirst_35 rfl ⟨fun c3 => ?_, fun c3 => ?_⟩
  · replace K := K.1 c3
    obtain ⟨z4, K⟩ := K
    refine Z.iinc (k := 2) (ls' := [(2, zI ((v2 + 1))), (0, zR 36), (1, zR r1), (3, zI v3)]) dX4_findFirst_131 rfl (by decide) z4 rfl ?_
    refine Z.goto 2 dX4_findFirst_134 rfl ?_
    refine Z.pick (ls' := [(0, zR 36), (1, zR r1), (2, zI ((v2 + 1)))]) [1, 2, 0] rfl ?_
    exact K
  · replace K := K.2 c3
    refine Z.aload_n (k := 1) dX4_findFirst_38 rfl ?_
    refine Y.getR (o := some (r1 + 1)) 0 dX4_findFirst_39 zl_X4_86 (congrArg Prod.fst hr1.1) (by decide) rfl hr1.2.2.2.2.1 hr1.2.2.2.2.2.2.2.2.1 ?_
    refine Z.iload_n (k := 3) dX4_findFirst_42 rfl ?_
    obtain ⟨z5, K⟩ := K
    refine Y.iald dX4_findFirst_43 (hr1.2.1) (hr1.2.2.2.2.2.1) z5 ?_
    refine Z.istore (ls' := [(4, zI ((E (r1 + 1) v3))), (0, zR 36), (1, zR r1), (2, zI v2), (3, zI v3)]) dX4_findFirst_44 (by decide) rfl ?_
    refine Z.iconst (n := 0) dX4_findFirst_46 ⟨by decide, by decide⟩ ?_
    refine Z.istore (ls' := [(5, zI 0), (4, zI ((E (r1 + 1) v3))), (0, zR 36), (1, zR r1), (2, zI v2), (3, zI v3)]) dX4_findFirst_47 (by decide) rfl ?_
    refine Z.pick (ls' := [(0, zR 36), (1, zR r1), (2, zI v2), (3, zI v3), (4, zI ((E (r1 + 1) v3))), (5, zI 0)]) [2, 3, 4, 5, 1, 0] rfl ?_
    exact K
set_option maxRecDepth 20000 in
theorem X4_findFirst_49 {kz : Nat × Nat} {Q : Option zV → zH → Prop} {d : List Nat} {G : Nat → Int → Option Nat} {E : Nat → Int → Int} {r1 : Nat} {v2 : Int} {v3 : Int} {v4 : Int} {v5 : Int} (hX : zK zXt d G) (hr1 : zRk d G r1) (K : ((E 36 7) ≤ v5 → zin (v3 + 1) ∧ Z zm_X4_findFirst kz Q 26 [(0, zR 36), (1, zR r1), (2, zI v2), (3, zI ((v3 + 1)))] [] (d, G, E)) ∧ (¬ ((E 36 7) ≤ v5) → (v4 < 0 → zin (v3 + 1) ∧ Z zm_X4_findFirst kz Q 26 [(0, zR 36), (1, zR r1), (2, zI v2), (3, zI ((v3 + 1)))] [] (d, G, E)) ∧ (¬ (v4 < 0) → ((0 : Int) ≤ v5 ∧ v5 < 300) ∧ ((E 39 v5) < 0 → ((0 : Int) ≤ v5 ∧ v5 < 300) ∧ ((0 : Int) ≤ v5 ∧ v5 < 300) ∧ ∃ x9 E10, zM zm_X4_fits [zR 36, zI ((E 37 v5)), zI ((E 38 v5)), zR r1, zI v3] (d, G, E) (some (zI x9)) (d, G, E10) ∧ (x9 = 0 → zin (v5 + 1) ∧ Z zm_X4_findFirst kz Q 49 [(0, zR 36), (1, zR r1), (2, zI v2), (3, zI v3), (4, zI v4), (5, zI ((v5 + 1)))] [] (d, G, E10)) ∧ (¬ (x9 = 0) → ∃ E15, zM zm_X4_note [zR 36, zI v5, zR r1, zI v2, zI v3] (d, G, E10) none (d, G, E15) ∧ Q (some (zI 1)) (d, G, E15))) ∧ (¬ ((E 39 v5) < 0) → ((0 : Int) ≤ v5 ∧ v5 < 300) ∧ ((E 39 v5) ≠ v4 → zin (v5 + 1) ∧ Z zm_X4_findFirst kz Q 49 [(0, zR 36), (1, zR r1), (2, zI v2), (3, zI v3), (4, zI v4), (5, zI ((v5 + 1)))] [] (d, G, E)) ∧ (¬ ((E 39 v5) ≠ v4) → ((0 : Int) ≤ v5 ∧ v5 < 300) ∧ ((0 : Int) ≤ v5 ∧ v5 < 300) ∧ ∃ x23 E24, zM zm_X4_fits [zR 36, zI ((E 37 v5)), zI ((E 38 v5)), zR r1, zI v3] (d, G, E) (some (zI x23)) (d, G, E24) ∧ (x23 = 0 → zin (v5 + 1) ∧ Z zm_X4_findFirst kz Q 49 [(0, zR 36), (1, zR r1), (2, zI v2), (3, zI v3), (4, zI v4), (5, zI ((v5 + 1)))] [] (d, G, E24)) ∧ (¬ (x23 = 0) → ∃ E29, zM zm_X4_note [zR 36, zI v5, zR r1, zI v2, zI v3] (d, G, E24) none (d, G, E29) ∧ Q (some (zI 1)) (d, G, E29))))))) : Z zm_X4_findFirst kz Q 49 [(0, zR 36), (1, zR r1), (2, zI v2), (3, zI v3), (4, zI v4), (5, zI v5)] [] (d, G, E) := by
  refine Z.iload (k := 5) dX4_findFirst_49 rfl ?_
  refine Z.aload_n (k := 0) dX4_findFirst_51 rfl ?_
  refine Y.getI 7 dX4_findFirst_52 zl_X4_21 (rfl) (by decide) rfl (zX_0_9 hX).2.2 ?_
  refine Z.icmp_ge 125 dX4_findFirst_55 rfl ⟨fun c1 => ?_, fun c1 => ?_⟩
  · replace K := K.1 c1
    obtain ⟨z2, K⟩ := K
    refine Z.iinc (k := 3) (ls' := [(3, zI ((v3 + 1))), (0, zR 36), (1, zR r1), (2, zI v2), (4, zI v4), (5, zI v5)]) dX4_findFirst_125 rfl (by decide) z2 rfl ?_
    refine Z.goto 26 dX4_findFirst_128 rfl ?_
    refine Z.pick (ls' := [(0, zR 36), (1, zR r1), (2, zI v2), (3, zI ((v3 + 1)))]) [1, 2, 3, 0] rfl ?_
    exact K
  · replace K := K.2 c1
    refine Z.iload (k := 4) dX4_findFirst_58 rfl ?_
    refine Z.if_lt 125 dX4_findFirst_60 rfl ⟨fun c3 => ?_, fun c3 => ?_⟩
    · replace K := K.1 c3
      obtain ⟨z4, K⟩ := K
      refine Z.iinc (k := 3) (ls' := [(3, zI ((v3 + 1))), (0, zR 36), (1, zR r1), (2, zI v2), (4, zI v4), (5, zI v5)]) dX4_findFirst_125 rfl (by decide) z4 rfl ?_
      refine Z.goto 26 dX4_findFirst_128 rfl ?_
      refine Z.pick (ls' := [(0, zR 36), (1, zR r1), (2, zI v2), (3, zI ((v3 + 1)))]) [1, 2, 3, 0] rfl ?_
      exact K
    · replace K := K.2 c3
      refine Z.aload_n (k := 0) dX4_findFirst_63 rfl ?_
      refine Y.getR (o := some 39) 6 dX4_findFirst_64 zl_X4_18 (rfl) (by decide) rfl (zX_0_9 hX).2.2 (zX_36_6 hX).1 ?_
      refine Z.iload (k := 5) dX4_findFirst_67 rfl ?_
      obtain ⟨z5, K⟩ := K
      refine Y.iald dX4_findFirst_69 (rfl) ((zX_36_6 hX).2.2) z5 ?_
      refine Z.if_lt 85 dX4_findFirst_70 rfl ⟨fun c6 => ?_, fun c6 => ?_⟩
      · replace K := K.1 c6
        refine Z.aload_n (k := 0) dX4_findFirst_85 rfl ?_
        refine Z.aload_n (k := 0) dX4_findFirst_86 rfl ?_
        refine Y.getR (o := some 37) 4 dX4_findFirst_87 zl_X4_9 (rfl) (by decide) rfl (zX_0_9 hX).2.2 (zX_36_4 hX).1 ?_
        refine Z.iload (k := 5) dX4_findFirst_90 rfl ?_
        obtain ⟨z7, K⟩ := K
        refine Y.iald dX4_findFirst_92 (rfl) ((zX_36_4 hX).2.2) z7 ?_
        refine Z.aload_n (k := 0) dX4_findFirst_93 rfl ?_
        refine Y.getR (o := some 38) 5 dX4_findFirst_94 zl_X4_15 (rfl) (by decide) rfl (zX_0_9 hX).2.2 (zX_36_5 hX).1 ?_
        refine Z.iload (k := 5) dX4_findFirst_97 rfl ?_
        obtain ⟨z8, K⟩ := K
        refine Y.iald dX4_findFirst_99 (rfl) ((zX_36_5 hX).2.2) z8 ?_
        refine Z.aload_n (k := 1) dX4_findFirst_100 rfl ?_
        refine Z.iload_n (k := 3) dX4_findFirst_101 rfl ?_
        obtain ⟨x9, E10, m11, K⟩ := K
        refine Y.callV (g := zm_X4_fits) (vs := [zI ((E 37 v5)), zI ((E 38 v5)), zR r1, zI v3]) (st := []) dX4_findFirst_102 ⟨zg_X4_fits.1, zg_X4_fits.2.1, zg_X4_fits.2.2, by decide⟩ ⟨zk_X4_116, zv_X4_fits⟩ (ci := 4) (rfl) rfl ((zX_0_9 hX).2.2) rfl rfl (Nat.le_of_ble_eq_true rfl) m11 (Or.inl rfl) ?_
        show Z zm_X4_findFirst kz Q 105 [(0, zR 36), (1, zR r1), (2, zI v2), (3, zI v3), (4, zI v4), (5, zI v5)] [zI x9] (d, G, E10)
        refine Z.if_eq 119 dX4_findFirst_105 rfl ⟨fun c13 => ?_, fun c13 => ?_⟩
        · replace K := K.1 c13
          obtain ⟨z14, K⟩ := K
          refine Z.iinc (k := 5) (ls' := [(5, zI ((v5 + 1))), (0, zR 36), (1, zR r1), (2, zI v2), (3, zI v3), (4, zI v4)]) dX4_findFirst_119 rfl (by decide) z14 rfl ?_
          refine Z.goto 49 dX4_findFirst_122 rfl ?_
          refine Z.pick (ls' := [(0, zR 36), (1, zR r1), (2, zI v2), (3, zI v3), (4, zI v4), (5, zI ((v5 + 1)))]) [1, 2, 3, 4, 5, 0] rfl ?_
          exact K
        · replace K := K.2 c13
          refine Z.aload_n (k := 0) dX4_findFirst_108 rfl ?_
          refine Z.iload (k := 5) dX4_findFirst_109 rfl ?_
          refine Z.aload_n (k := 1) dX4_findFirst_111 rfl ?_
          refine Z.iload_n (k := 2) dX4_findFirst_112 rfl ?_
          refine Z.iload_n (k := 3) dX4_findFirst_113 rfl ?_
          obtain ⟨E15, m16, K⟩ := K
          refine Y.callV (g := zm_X4_note) (vs := [zI v5, zR r1, zI v2, zI v3]) (st := []) dX4_findFirst_114 ⟨zg_X4_note.1, zg_X4_note.2.1, zg_X4_note.2.2, by decide⟩ ⟨zk_X4_120, zv_X4_note⟩ (ci := 4) (rfl) rfl ((zX_0_9 hX).2.2) rfl rfl (Nat.le_of_ble_eq_true rfl) m16 (Or.inl rfl) ?_
          show Z zm_X4_findFirst kz Q 117 [(0, zR 36), (1, zR r1), (2, zI v2), (3, zI v3), (4, zI v4), (5, zI v5)] [] (d, G, E15)
          refine Z.iconst (n := 1) dX4_findFirst_117 ⟨by decide, by decide⟩ ?_
          exact Z.iret (ty := .boolean) dX4_findFirst_118 rfl rfl K
      · replace K := K.2 c6
        refine Z.aload_n (k := 0) dX4_findFirst_73 rfl ?_
        refine Y.getR (o := some 39) 6 dX4_findFirst_74 zl_X4_18 (rfl) (by decide) rfl (zX_0_9 hX).2.2 (zX_36_6 hX).1 ?_
        refine Z.iload (k := 5) dX4_findFirst_77 rfl ?_
        obtain ⟨z18, K⟩ := K
        refine Y.iald dX4_findFirst_79 (rfl) ((zX_36_6 hX).2.2) z18 ?_
        refine Z.iload (k := 4) dX4_findFirst_80 rfl ?_
        refine Z.icmp_ne 119 dX4_findFirst_82 rfl ⟨fun c19 => ?_, fun c19 => ?_⟩
        · replace K := K.1 c19
          obtain ⟨z20, K⟩ := K
          refine Z.iinc (k := 5) (ls' := [(5, zI ((v5 + 1))), (0, zR 36), (1, zR r1), (2, zI v2), (3, zI v3), (4, zI v4)]) dX4_findFirst_119 rfl (by decide) z20 rfl ?_
          refine Z.goto 49 dX4_findFirst_122 rfl ?_
          refine Z.pick (ls' := [(0, zR 36), (1, zR r1), (2, zI v2), (3, zI v3), (4, zI v4), (5, zI ((v5 + 1)))]) [1, 2, 3, 4, 5, 0] rfl ?_
          exact K
        · replace K := K.2 c19
          refine Z.aload_n (k := 0) dX4_findFirst_85 rfl ?_
          refine Z.aload_n (k := 0) dX4_findFirst_86 rfl ?_
          refine Y.getR (o := some 37) 4 dX4_findFirst_87 zl_X4_9 (rfl) (by decide) rfl (zX_0_9 hX).2.2 (zX_36_4 hX).1 ?_
          refine Z.iload (k := 5) dX4_findFirst_90 rfl ?_
          obtain ⟨z21, K⟩ := K
          refine Y.iald dX4_findFirst_92 (rfl) ((zX_36_4 hX).2.2) z21 ?_
          refine Z.aload_n (k := 0) dX4_findFirst_93 rfl ?_
          refine Y.getR (o := some 38) 5 dX4_findFirst_94 zl_X4_15 (rfl) (by decide) rfl (zX_0_9 hX).2.2 (zX_36_5 hX).1 ?_
          refine Z.iload (k := 5) dX4_findFirst_97 rfl ?_
          obtain ⟨z22, K⟩ := K
          refine Y.iald dX4_findFirst_99 (rfl) ((zX_36_5 hX).2.2) z22 ?_
          refine Z.aload_n (k := 1) dX4_findFirst_100 rfl ?_
          refine Z.iload_n (k := 3) dX4_findFirst_101 rfl ?_
          obtain ⟨x23, E24, m25, K⟩ := K
          refine Y.callV (g := zm_X4_fits) (vs := [zI ((E 37 v5)), zI ((E 38 v5)), zR r1, zI v3]) (st := []) dX4_findFirst_102 ⟨zg_X4_fits.1, zg_X4_fits.2.1, zg_X4_fits.2.2, by decide⟩ ⟨zk_X4_116, zv_X4_fits⟩ (ci := 4) (rfl) rfl ((zX_0_9 hX).2.2) rfl rfl (Nat.le_of_ble_eq_true rfl) m25 (Or.inl rfl) ?_
          show Z zm_X4_findFirst kz Q 105 [(0, zR 36), (1, zR r1), (2, zI v2), (3, zI v3), (4, zI v4), (5, zI v5)] [zI x23] (d, G, E24)
          refine Z.if_eq 119 dX4_findFirst_105 rfl ⟨fun c27 => ?_, fun c27 => ?_⟩
          · replace K := K.1 c27
            obtain ⟨z28, K⟩ := K
            refine Z.iinc (k := 5) (ls' := [(5, zI ((v5 + 1))), (0, zR 36), (1, zR r1), (2, zI v2), (3, zI v3), (4, zI v4)]) dX4_findFirst_119 rfl (by decide) z28 rfl ?_
            refine Z.goto 49 dX4_findFirst_122 rfl ?_
            refine Z.pick (ls' := [(0, zR 36), (1, zR r1), (2, zI v2), (3, zI v3), (4, zI v4), (5, zI ((v5 + 1)))]) [1, 2, 3, 4, 5, 0] rfl ?_
            exact K
          · replace K := K.2 c27
            refine Z.aload_n (k := 0) dX4_findFirst_108 rfl ?_
            refine Z.iload (k := 5) dX4_findFirst_109 rfl ?_
            refine Z.aload_n (k := 1) dX4_findFirst_111 rfl ?_
            refine Z.iload_n (k := 2) dX4_findFirst_112 rfl ?_
            refine Z.iload_n (k := 3) dX4_findFirst_113 rfl ?_
            obtain ⟨E29, m30, K⟩ := K
            refine Y.callV (g := zm_X4_note) (vs := [zI v5, zR r1, zI v2, zI v3]) (st := []) dX4_findFirst_114 ⟨zg_X4_note.1, zg_X4_note.2.1, zg_X4_note.2.2, by decide⟩ ⟨zk_X4_120, zv_X4_note⟩ (ci := 4) (rfl) rfl ((zX_0_9 hX).2.2) rfl rfl (Nat.le_of_ble_eq_true rfl) m30 (Or.inl rfl) ?_
            show Z zm_X4_findFirst kz Q 117 [(0, zR 36), (1, zR r1), (2, zI v2), (3, zI v3), (4, zI v4), (5, zI v5)] [] (d, G, E29)
            refine Z.iconst (n := 1) dX4_findFirst_117 ⟨by decide, by decide⟩ ?_
            exact Z.iret (ty := .boolean) dX4_findFirst_118 rfl rfl K
set_option maxRecDepth 20000 in
theorem X4_replace_0 {kz : Nat × Nat} {Q : Option zV → zH → Prop} {d : List Nat} {G : Nat → Int → Option Nat} {E : Nat → Int → Int} {r1 : Nat} {v2 : Int} {v3 : Int} (hX : zK zXt d G) (hr1 : zRk d G r1) (K : ∃ x1, zM zm_X8_after [zR 1, zR (r1 + 1), zI v3] (d, G, E) (some (zI x1)) (d, G, E) ∧ ∃ x4 E5, zM zm_X5_replace [zR r1, zI v2, zI v3, zI x1, zR 29, zI ((E 20 14))] (d, G, E) (some (zI x4)) (d, G, E5) ∧ (x4 = 0 ∨ x4 = 1) ∧ Q (some (zI x4)) (d, G, E5)) : Z zm_X4_replace kz Q 0 [(0, zR 36), (1, zR r1), (2, zI v2), (3, zI v3)] [] (d, G, E) := by
  refine Z.aload_n (k := 1) dX4_replace_0 rfl ?_
  refine Z.iload_n (k := 2) dX4_replace_1 rfl ?_
  refine Z.iload_n (k := 3) dX4_replace_2 rfl ?_
  refine Z.aload_n (k := 0) dX4_replace_3 rfl ?_
  refine Y.getR (o := some 1) 0 dX4_replace_4 zl_X4_37 (rfl) (by decide) rfl (zX_0_9 hX).2.2 (zX_36_0 hX).1 ?_
  refine Z.aload_n (k := 1) dX4_replace_7 rfl ?_
  refine Y.getR (o := some (r1 + 1)) 0 dX4_replace_8 zl_X4_86 (congrArg Prod.fst hr1.1) (by decide) rfl hr1.2.2.2.2.1 hr1.2.2.2.2.2.2.2.2.1 ?_
  refine Z.iload_n (k := 3) dX4_replace_11 rfl ?_
  obtain ⟨x1, m2, K⟩ := K
  refine Y.callV (g := zm_X8_after) (vs := [zR (r1 + 1), zI v3]) (st := [zI v3, zI v2, zR r1]) dX4_replace_12 ⟨zg_X8_after.1, zg_X8_after.2.1, zg_X8_after.2.2, by decide⟩ ⟨zk_X4_124, zv_X8_after⟩ (ci := 8) (rfl) rfl ((zX_0_0 hX).2.2) rfl rfl (Nat.le_of_ble_eq_true rfl) m2 (Or.inl rfl) ?_
  show Z zm_X4_replace kz Q 15 [(0, zR 36), (1, zR r1), (2, zI v2), (3, zI v3)] [zI x1, zI v3, zI v2, zR r1] (d, G, E)
  refine Z.aload_n (k := 0) dX4_replace_15 rfl ?_
  refine Y.getR (o := some 20) 2 dX4_replace_16 zl_X4_45 (rfl) (by decide) rfl (zX_0_9 hX).2.2 (zX_36_2 hX).1 ?_
  refine Y.getR (o := some 29) 13 dX4_replace_19 zl_X4_130 (rfl) (by decide) rfl (zX_0_6 hX).2.2 (zX_20_13 hX).1 ?_
  refine Z.aload_n (k := 0) dX4_replace_22 rfl ?_
  refine Y.getR (o := some 20) 2 dX4_replace_23 zl_X4_45 (rfl) (by decide) rfl (zX_0_9 hX).2.2 (zX_36_2 hX).1 ?_
  refine Y.getI 14 dX4_replace_26 zl_X4_135 (rfl) (by decide) rfl (zX_0_6 hX).2.2 ?_
  obtain ⟨x4, E5, m6, K⟩ := K
  refine Y.callV (g := zm_X5_replace) (vs := [zI v2, zI v3, zI x1, zR 29, zI ((E 20 14))]) (st := []) dX4_replace_29 ⟨zg_X5_replace.1, zg_X5_replace.2.1, zg_X5_replace.2.2, by decide⟩ ⟨zk_X4_138, zv_X5_replace⟩ (ci := 5) (congrArg Prod.fst hr1.1) rfl (hr1.2.2.2.2.1) rfl rfl (Nat.le_of_ble_eq_true rfl) m6 (Or.inl rfl) ?_
  show Z zm_X4_replace kz Q 32 [(0, zR 36), (1, zR r1), (2, zI v2), (3, zI v3)] [zI x4] (d, G, E5)
  exact Z.iret (ty := .boolean) dX4_replace_32 rfl (by rcases K.1 with e | e <;> rw [e] <;> rfl) K.2
set_option maxRecDepth 20000 in
theorem X4_rewrite_0 {kz : Nat × Nat} {Q : Option zV → zH → Prop} {d : List Nat} {G : Nat → Int → Option Nat} {E : Nat → Int → Int} {r1 : Nat} (hX : zK zXt d G) (hr1 : zRk d G r1) (K : ∃ E1, zM zm_X4_prepare [zR 36] (d, G, E) none (d, G, E1) ∧ Z zm_X4_rewrite kz Q 6 [(0, zR 36), (1, zR r1), (2, zR 30), (3, zI 0)] [] (d, G, E1)) : Z zm_X4_rewrite kz Q 0 [(0, zR 36), (1, zR r1), (2, zR 30)] [] (d, G, E) := by
  refine Z.aload_n (k := 0) dX4_rewrite_0 rfl ?_
  obtain ⟨E1, m2, K⟩ := K
  refine Y.callV (g := zm_X4_prepare) (vs := []) (st := []) dX4_rewrite_1 ⟨zg_X4_prepare.1, zg_X4_prepare.2.1, zg_X4_prepare.2.2, by decide⟩ ⟨zk_X4_94, zv_X4_prepare⟩ (ci := 4) (rfl) rfl ((zX_0_9 hX).2.2) rfl rfl (Nat.le_of_ble_eq_true rfl) m2 (Or.inl rfl) ?_
  show Z zm_X4_rewrite kz Q 4 [(0, zR 36), (1, zR r1), (2, zR 30)] [] (d, G, E1)
  refine Z.iconst (n := 0) dX4_rewrite_4 ⟨by decide, by decide⟩ ?_
  refine Z.istore_n (ls' := [(3, zI 0), (0, zR 36), (1, zR r1), (2, zR 30)]) dX4_rewrite_5 (by decide) rfl ?_
  refine Z.pick (ls' := [(0, zR 36), (1, zR r1), (2, zR 30), (3, zI 0)]) [1, 2, 3, 0] rfl ?_
  exact K
set_option maxRecDepth 20000 in
theorem X4_rewrite_6 {kz : Nat × Nat} {Q : Option zV → zH → Prop} {d : List Nat} {G : Nat → Int → Option Nat} {E : Nat → Int → Int} {r1 : Nat} {v3 : Int} (hX : zK zXt d G) (hr1 : zRk d G r1) (K : (8 ≤ v3 → Q (some (zI 1)) (d, G, E)) ∧ (¬ (8 ≤ v3) → ∃ x2 E3, zM zm_X4_findFirst [zR 36, zR r1] (d, G, E) (some (zI x2)) (d, G, E3) ∧ (x2 = 0 → Q (some (zI 1)) (d, G, E3)) ∧ (¬ (x2 = 0) → ∃ x7 E8, zM zm_X4_replace [zR 36, zR r1, zI ((E3 36 8)), zI ((E3 36 9))] (d, G, E3) (some (zI x7)) (d, G, E8) ∧ (x7 ≠ 0 → zin ((E8 36 11) + 1) ∧ ∀ E13, E13 = zuE E8 36 11 (((E8 36 11) + 1)) → ∃ x14 E15, zM zm_X2_clean [zR 30, zR r1] (d, G, E13) (some (zI x14)) (d, G, E15) ∧ zin (v3 + 1) ∧ Z zm_X4_rewrite kz Q 6 [(0, zR 36), (1, zR r1), (2, zR 30), (3, zI ((v3 + 1)))] [] (d, G, E15)) ∧ (¬ (x7 ≠ 0) → Q (some (zI 0)) (d, G, E8))))) : Z zm_X4_rewrite kz Q 6 [(0, zR 36), (1, zR r1), (2, zR 30), (3, zI v3)] [] (d, G, E) := by
  refine Z.iload_n (k := 3) dX4_rewrite_6 rfl ?_
  refine Z.bipush (n := 8) dX4_rewrite_7 ⟨by decide, by decide⟩ (by decide) ?_
  refine Z.icmp_ge 60 dX4_rewrite_9 rfl ⟨fun c1 => ?_, fun c1 => ?_⟩
  · replace K := K.1 c1
    refine Z.iconst (n := 1) dX4_rewrite_60 ⟨by decide, by decide⟩ ?_
    exact Z.iret (ty := .boolean) dX4_rewrite_61 rfl rfl K
  · replace K := K.2 c1
    refine Z.aload_n (k := 0) dX4_rewrite_12 rfl ?_
    refine Z.aload_n (k := 1) dX4_rewrite_13 rfl ?_
    obtain ⟨x2, E3, m4, K⟩ := K
    refine Y.callV (g := zm_X4_findFirst) (vs := [zR r1]) (st := []) dX4_rewrite_14 ⟨zg_X4_findFirst.1, zg_X4_findFirst.2.1, zg_X4_findFirst.2.2, by decide⟩ ⟨zk_X4_97, zv_X4_findFirst⟩ (ci := 4) (rfl) rfl ((zX_0_9 hX).2.2) rfl rfl (Nat.le_of_ble_eq_true rfl) m4 (Or.inl rfl) ?_
    show Z zm_X4_rewrite kz Q 17 [(0, zR 36), (1, zR r1), (2, zR 30), (3, zI v3)] [zI x2] (d, G, E3)
    refine Z.if_eq 60 dX4_rewrite_17 rfl ⟨fun c6 => ?_, fun c6 => ?_⟩
    · replace K := K.1 c6
      refine Z.iconst (n := 1) dX4_rewrite_60 ⟨by decide, by decide⟩ ?_
      exact Z.iret (ty := .boolean) dX4_rewrite_61 rfl rfl K
    · replace K := K.2 c6
      refine Z.aload_n (k := 0) dX4_rewrite_20 rfl ?_
      refine Z.aload_n (k := 1) dX4_rewrite_21 rfl ?_
      refine Z.aload_n (k := 0) dX4_rewrite_22 rfl ?_
      refine Y.getI 8 dX4_rewrite_23 zl_X4_25 (rfl) (by decide) rfl (zX_0_9 hX).2.2 ?_
      refine Z.aload_n (k := 0) dX4_rewrite_26 rfl ?_
      refine Y.getI 9 dX4_rewrite_27 zl_X4_28 (rfl) (by decide) rfl (zX_0_9 hX).2.2 ?_
      obtain ⟨x7, E8, m9, K⟩ := K
      refine Y.callV (g := zm_X4_replace) (vs := [zR r1, zI ((E3 36 8)), zI ((E3 36 9))]) (st := []) dX4_rewrite_30 ⟨zg_X4_replace.1, zg_X4_replace.2.1, zg_X4_replace.2.2, by decide⟩ ⟨zk_X4_101, zv_X4_replace⟩ (ci := 4) (rfl) rfl ((zX_0_9 hX).2.2) rfl rfl (Nat.le_of_ble_eq_true rfl) m9 (Or.inl rfl) ?_
      show Z zm_X4_rewrite kz Q 33 [(0, zR 36), (1, zR r1), (2, zR 30), (3, zI v3)] [zI x7] (d, G, E8)
      refine Z.if_ne 38 dX4_rewrite_33 rfl ⟨fun c11 => ?_, fun c11 => ?_⟩
      · replace K := K.1 c11
        refine Z.aload_n (k := 0) dX4_rewrite_38 rfl ?_
        refine Z.dup_i dX4_rewrite_39 (fun _ => rfl) ?_
        refine Y.getI 11 dX4_rewrite_40 zl_X4_34 (rfl) (by decide) rfl (zX_0_9 hX).2.2 ?_
        refine Z.iconst (n := 1) dX4_rewrite_43 ⟨by decide, by decide⟩ ?_
        obtain ⟨z12, K⟩ := K
        refine Z.iadd dX4_rewrite_44 z12 ?_
        refine Y.putI 11 dX4_rewrite_45 zw_X4_34 (fun q => by cases q) (rfl) rfl (zX_0_9 hX).2.2 (Or.inl rfl) ?_
        generalize eE13 : zuE E8 36 11 (((E8 36 11) + 1)) = E13
        replace K := K E13 eE13.symm
        refine Z.aload_n (k := 2) dX4_rewrite_48 rfl ?_
        refine Z.aload_n (k := 1) dX4_rewrite_49 rfl ?_
        obtain ⟨x14, E15, m16, K⟩ := K
        refine Y.callV (g := zm_X2_clean) (vs := [zR r1]) (st := []) dX4_rewrite_50 ⟨zg_X2_clean.1, zg_X2_clean.2.1, zg_X2_clean.2.2, by decide⟩ ⟨zk_X4_105, zv_X2_clean⟩ (ci := 2) (rfl) rfl ((zX_0_7 hX).2.2) rfl rfl (Nat.le_of_ble_eq_true rfl) m16 (Or.inl rfl) ?_
        show Z zm_X4_rewrite kz Q 53 [(0, zR 36), (1, zR r1), (2, zR 30), (3, zI v3)] [zI x14] (d, G, E15)
        refine Z.pop_i dX4_rewrite_53 (fun _ => rfl) ?_
        obtain ⟨z18, K⟩ := K
        refine Z.iinc (k := 3) (ls' := [(3, zI ((v3 + 1))), (0, zR 36), (1, zR r1), (2, zR 30)]) dX4_rewrite_54 rfl (by decide) z18 rfl ?_
        refine Z.goto 6 dX4_rewrite_57 rfl ?_
        refine Z.pick (ls' := [(0, zR 36), (1, zR r1), (2, zR 30), (3, zI ((v3 + 1)))]) [1, 2, 3, 0] rfl ?_
        exact K
      · replace K := K.2 c11
        refine Z.iconst (n := 0) dX4_rewrite_36 ⟨by decide, by decide⟩ ?_
        exact Z.iret (ty := .boolean) dX4_rewrite_37 rfl rfl K
set_option maxRecDepth 20000 in
theorem X4_again_0 {kz : Nat × Nat} {Q : Option zV → zH → Prop} {d : List Nat} {G : Nat → Int → Option Nat} {E : Nat → Int → Int} {c1 : Nat} {v2 : Int} {v3 : Int} {r4 : Nat} (hX : zK zXt d G) (hc1 : zCk d G c1) (hr4 : zRk d G r4) (K : zin (4 * v2) ∧ ((4 * v2) < 0 → Q (some (zI 0)) (d, G, E)) ∧ (¬ ((4 * v2) < 0) → zin ((4 * v2) + 3) ∧ (((4 * v2) + 3) < 32 → ((0 : Int) ≤ (4 * v2) ∧ (4 * v2) < 32) ∧ zin ((4 * v2) + 1) ∧ ((0 : Int) ≤ ((4 * v2) + 1) ∧ ((4 * v2) + 1) < 32) ∧ zin ((4 * v2) + 2) ∧ ((0 : Int) ≤ ((4 * v2) + 2) ∧ ((4 * v2) + 2) < 32) ∧ zin ((4 * v2) + 3) ∧ ((0 : Int) ≤ ((4 * v2) + 3) ∧ ((4 * v2) + 3) < 32) ∧ (v3 ≤ (E (c1 + 6) (4 * v2)) → Q (some (zI 0)) (d, G, E)) ∧ (¬ (v3 ≤ (E (c1 + 6) (4 * v2))) → ((E (c1 + 6) ((4 * v2) + 1)) < 0 → Q (some (zI 0)) (d, G, E)) ∧ (¬ ((E (c1 + 6) ((4 * v2) + 1)) < 0) → (1 < (E (c1 + 6) ((4 * v2) + 1)) → Q (some (zI 0)) (d, G, E)) ∧ (¬ (1 < (E (c1 + 6) ((4 * v2) + 1))) → ∃ x15, zM zm_X5_has [zR r4, zI ((E (c1 + 6) ((4 * v2) + 2)))] (d, G, E) (some (zI x15)) (d, G, E) ∧ (x15 = 0 → Q (some (zI 0)) (d, G, E)) ∧ (¬ (x15 = 0) → ((E (c1 + 6) ((4 * v2) + 3)) < 1 → Q (some (zI 0)) (d, G, E)) ∧ (¬ ((E (c1 + 6) ((4 * v2) + 3)) < 1) → ∃ x20, zM zm_X5_length [zR r4, zI ((E (c1 + 6) ((4 * v2) + 2)))] (d, G, E) (some (zI x20)) (d, G, E) ∧ ((E (c1 + 6) ((4 * v2) + 3)) < x20 → ((0 : Int) ≤ (E (c1 + 6) ((4 * v2) + 2)) ∧ (E (c1 + 6) ((4 * v2) + 2)) < 7) ∧ zin ((E (r4 + 2) (E (c1 + 6) ((4 * v2) + 2))) + (E (c1 + 6) ((4 * v2) + 3))) ∧ ((0 : Int) ≤ ((E (r4 + 2) (E (c1 + 6) ((4 * v2) + 2))) + (E (c1 + 6) ((4 * v2) + 3))) ∧ ((E (r4 + 2) (E (c1 + 6) ((4 * v2) + 2))) + (E (c1 + 6) ((4 * v2) + 3))) < 180) ∧ (0 ≤ (E (r4 + 1) ((E (r4 + 2) (E (c1 + 6) ((4 * v2) + 2))) + (E (c1 + 6) ((4 * v2) + 3)))) → ∃ x28 E29, zM zm_X4_fits [zR 36, zI ((E (c1 + 6) (4 * v2))), zI ((E (c1 + 6) ((4 * v2) + 1))), zR r4, zI (((E (r4 + 2) (E (c1 + 6) ((4 * v2) + 2))) + (E (c1 + 6) ((4 * v2) + 3))))] (d, G, E) (some (zI x28)) (d, G, E29) ∧ (x28 = 0 → Q (some (zI 0)) (d, G, E29)) ∧ (¬ (x28 = 0) → ∃ x33 E34, zM zm_X4_replace [zR 36, zR r4, zI ((E (c1 + 6) ((4 * v2) + 2))), zI (((E (r4 + 2) (E (c1 + 6) ((4 * v2) + 2))) + (E (c1 + 6) ((4 * v2) + 3))))] (d, G, E29) (some (zI x33)) (d, G, E34) ∧ (x33 = 0 → Q (some (zI 0)) (d, G, E34)) ∧ (¬ (x33 = 0) → Q (some (zI 1)) (d, G, E34)))) ∧ (¬ (0 ≤ (E (r4 + 1) ((E (r4 + 2) (E (c1 + 6) ((4 * v2) + 2))) + (E (c1 + 6) ((4 * v2) + 3))))) → Q (some (zI 0)) (d, G, E))) ∧ (¬ ((E (c1 + 6) ((4 * v2) + 3)) < x20) → Q (some (zI 0)) (d, G, E)))))))) ∧ (¬ (((4 * v2) + 3) < 32) → Q (some (zI 0)) (d, G, E)))) : Z zm_X4_again kz Q 0 [(0, zR 36), (1, zR c1), (2, zI v2), (3, zI v3), (4, zR r4)] [] (d, G, E) := by
  refine Z.iconst (n := 4) dX4_again_0 ⟨by decide, by decide⟩ ?_
  refine Z.iload_n (k := 2) dX4_again_1 rfl ?_
  obtain ⟨z1, K⟩ := K
  refine Z.imul dX4_again_2 z1 ?_
  refine Z.istore (ls' := [(5, zI ((4 * v2))), (0, zR 36), (1, zR c1), (2, zI v2), (3, zI v3), (4, zR r4)]) dX4_again_3 (by decide) rfl ?_
  refine Z.iload (k := 0) dX4_again_5 rfl ?_
  refine Z.if_lt 22 dX4_again_7 rfl ⟨fun c2 => ?_, fun c2 => ?_⟩
  · replace K := K.1 c2
    refine Z.iconst (n := 0) dX4_again_22 ⟨by decide, by decide⟩ ?_
    exact Z.iret (ty := .boolean) dX4_again_23 rfl rfl K
  · replace K := K.2 c2
    refine Z.iload (k := 0) dX4_again_10 rfl ?_
    refine Z.iconst (n := 3) dX4_again_12 ⟨by decide, by decide⟩ ?_
    obtain ⟨z3, K⟩ := K
    refine Z.iadd dX4_again_13 z3 ?_
    refine Z.aload_n (k := 2) dX4_again_14 rfl ?_
    refine Y.getR (o := some (c1 + 6)) 3 dX4_again_15 zl_X4_170 (congrArg Prod.fst hc1.1) (by decide) rfl hc1.2.1 hc1.2.2.2.2.2.2.2.2.2 ?_
    refine Y.alen 32 32 dX4_again_18 (hc1.2.2.2.2.2.2.2.1) (hc1.2.2.2.2.2.2.2.2.1) rfl ⟨by decide, by decide⟩ ?_
    refine Z.icmp_lt 24 dX4_again_19 rfl ⟨fun c4 => ?_, fun c4 => ?_⟩
    · replace K := K.1 c4
      refine Z.aload_n (k := 2) dX4_again_24 rfl ?_
      refine Y.getR (o := some (c1 + 6)) 3 dX4_again_25 zl_X4_170 (congrArg Prod.fst hc1.1) (by decide) rfl hc1.2.1 hc1.2.2.2.2.2.2.2.2.2 ?_
      refine Z.iload (k := 0) dX4_again_28 rfl ?_
      obtain ⟨z5, K⟩ := K
      refine Y.iald dX4_again_30 (hc1.2.2.2.2.2.2.2.1) (hc1.2.2.2.2.2.2.2.2.1) z5 ?_
      refine Z.istore (ls' := [(6, zI ((E (c1 + 6) (4 * v2)))), (5, zI ((4 * v2))), (0, zR 36), (1, zR c1), (2, zI v2), (3, zI v3), (4, zR r4)]) dX4_again_31 (by decide) rfl ?_
      refine Z.aload_n (k := 3) dX4_again_33 rfl ?_
      refine Y.getR (o := some (c1 + 6)) 3 dX4_again_34 zl_X4_170 (congrArg Prod.fst hc1.1) (by decide) rfl hc1.2.1 hc1.2.2.2.2.2.2.2.2.2 ?_
      refine Z.iload (k := 1) dX4_again_37 rfl ?_
      refine Z.iconst (n := 1) dX4_again_39 ⟨by decide, by decide⟩ ?_
      obtain ⟨z6, K⟩ := K
      refine Z.iadd dX4_again_40 z6 ?_
      obtain ⟨z7, K⟩ := K
      refine Y.iald dX4_again_41 (hc1.2.2.2.2.2.2.2.1) (hc1.2.2.2.2.2.2.2.2.1) z7 ?_
      refine Z.istore (ls' := [(7, zI ((E (c1 + 6) ((4 * v2) + 1)))), (6, zI ((E (c1 + 6) (4 * v2)))), (5, zI ((4 * v2))), (0, zR 36), (1, zR c1), (2, zI v2), (3, zI v3), (4, zR r4)]) dX4_again_42 (by decide) rfl ?_
      refine Z.aload_n (k := 4) dX4_again_44 rfl ?_
      refine Y.getR (o := some (c1 + 6)) 3 dX4_again_45 zl_X4_170 (congrArg Prod.fst hc1.1) (by decide) rfl hc1.2.1 hc1.2.2.2.2.2.2.2.2.2 ?_
      refine Z.iload (k := 2) dX4_again_48 rfl ?_
      refine Z.iconst (n := 2) dX4_again_50 ⟨by decide, by decide⟩ ?_
      obtain ⟨z8, K⟩ := K
      refine Z.iadd dX4_again_51 z8 ?_
      obtain ⟨z9, K⟩ := K
      refine Y.iald dX4_again_52 (hc1.2.2.2.2.2.2.2.1) (hc1.2.2.2.2.2.2.2.2.1) z9 ?_
      refine Z.istore (ls' := [(8, zI ((E (c1 + 6) ((4 * v2) + 2)))), (7, zI ((E (c1 + 6) ((4 * v2) + 1)))), (6, zI ((E (c1 + 6) (4 * v2)))), (5, zI ((4 * v2))), (0, zR 36), (1, zR c1), (2, zI v2), (3, zI v3), (4, zR r4)]) dX4_again_53 (by decide) rfl ?_
      refine Z.aload_n (k := 5) dX4_again_55 rfl ?_
      refine Y.getR (o := some (c1 + 6)) 3 dX4_again_56 zl_X4_170 (congrArg Prod.fst hc1.1) (by decide) rfl hc1.2.1 hc1.2.2.2.2.2.2.2.2.2 ?_
      refine Z.iload (k := 3) dX4_again_59 rfl ?_
      refine Z.iconst (n := 3) dX4_again_61 ⟨by decide, by decide⟩ ?_
      obtain ⟨z10, K⟩ := K
      refine Z.iadd dX4_again_62 z10 ?_
      obtain ⟨z11, K⟩ := K
      refine Y.iald dX4_again_63 (hc1.2.2.2.2.2.2.2.1) (hc1.2.2.2.2.2.2.2.2.1) z11 ?_
      refine Z.istore (ls' := [(9, zI ((E (c1 + 6) ((4 * v2) + 3)))), (8, zI ((E (c1 + 6) ((4 * v2) + 2)))), (7, zI ((E (c1 + 6) ((4 * v2) + 1)))), (6, zI ((E (c1 + 6) (4 * v2)))), (5, zI ((4 * v2))), (0, zR 36), (1, zR c1), (2, zI v2), (3, zI v3), (4, zR r4)]) dX4_again_64 (by decide) rfl ?_
      refine Z.iload (k := 3) dX4_again_66 rfl ?_
      refine Z.iload_n (k := 8) dX4_again_68 rfl ?_
      refine Z.icmp_ge 111 dX4_again_69 rfl ⟨fun c12 => ?_, fun c12 => ?_⟩
      · replace K := K.1 c12
        refine Z.iconst (n := 0) dX4_again_111 ⟨by decide, by decide⟩ ?_
        exact Z.iret (ty := .boolean) dX4_again_112 rfl rfl K
      · replace K := K.2 c12
        refine Z.iload (k := 2) dX4_again_72 rfl ?_
        refine Z.if_lt 111 dX4_again_74 rfl ⟨fun c13 => ?_, fun c13 => ?_⟩
        · replace K := K.1 c13
          refine Z.iconst (n := 0) dX4_again_111 ⟨by decide, by decide⟩ ?_
          exact Z.iret (ty := .boolean) dX4_again_112 rfl rfl K
        · replace K := K.2 c13
          refine Z.iload (k := 2) dX4_again_77 rfl ?_
          refine Z.iconst (n := 1) dX4_again_79 ⟨by decide, by decide⟩ ?_
          refine Z.icmp_gt 111 dX4_again_80 rfl ⟨fun c14 => ?_, fun c14 => ?_⟩
          · replace K := K.1 c14
            refine Z.iconst (n := 0) dX4_again_111 ⟨by decide, by decide⟩ ?_
            exact Z.iret (ty := .boolean) dX4_again_112 rfl rfl K
          · replace K := K.2 c14
            refine Z.aload (k := 9) dX4_again_83 rfl ?_
            refine Z.iload (k := 1) dX4_again_85 rfl ?_
            obtain ⟨x15, m16, K⟩ := K
            refine Y.callV (g := zm_X5_has) (vs := [zI ((E (c1 + 6) ((4 * v2) + 2)))]) (st := []) dX4_again_87 ⟨zg_X5_has.1, zg_X5_has.2.1, zg_X5_has.2.2, by decide⟩ ⟨zk_X4_173, zv_X5_has⟩ (ci := 5) (congrArg Prod.fst hr4.1) rfl (hr4.2.2.2.2.1) rfl rfl (Nat.le_of_ble_eq_true rfl) m16 (Or.inl rfl) ?_
            show Z zm_X4_again kz Q 90 [(9, zI ((E (c1 + 6) ((4 * v2) + 3)))), (8, zI ((E (c1 + 6) ((4 * v2) + 2)))), (7, zI ((E (c1 + 6) ((4 * v2) + 1)))), (6, zI ((E (c1 + 6) (4 * v2)))), (5, zI ((4 * v2))), (0, zR 36), (1, zR c1), (2, zI v2), (3, zI v3), (4, zR r4)] [zI x15] (d, G, E)
            refine Z.if_eq 111 dX4_again_90 rfl ⟨fun c18 => ?_, fun c18 => ?_⟩
            · replace K := K.1 c18
              refine Z.iconst (n := 0) dX4_again_111 ⟨by decide, by decide⟩ ?_
              exact Z.iret (ty := .boolean) dX4_again_112 rfl rfl K
            · replace K := K.2 c18
              refine Z.iload (k := 0) dX4_again_93 rfl ?_
              refine Z.iconst (n := 1) dX4_again_95 ⟨by decide, by decide⟩ ?_
              refine Z.icmp_lt 111 dX4_again_96 rfl ⟨fun c19 => ?_, fun c19 => ?_⟩
              · replace K := K.1 c19
                refine Z.iconst (n := 0) dX4_again_111 ⟨by decide, by decide⟩ ?_
                exact Z.iret (ty := .boolean) dX4_again_112 rfl rfl K
              · replace K := K.2 c19
                refine Z.iload (k := 0) dX4_again_99 rfl ?_
                refine Z.aload (k := 9) dX4_again_101 rfl ?_
                refine Z.iload (k := 1) dX4_again_103 rfl ?_
                obtain ⟨x20, m21, K⟩ := K
                refine Y.callV (g := zm_X5_length) (vs := [zI ((E (c1 + 6) ((4 * v2) + 2)))]) (st := [zI ((E (c1 + 6) ((4 * v2) + 3)))]) dX4_again_105 ⟨zg_X5_length.1, zg_X5_length.2.1, zg_X5_length.2.2, by decide⟩ ⟨zk_X4_177, zv_X5_length⟩ (ci := 5) (congrArg Prod.fst hr4.1) rfl (hr4.2.2.2.2.1) rfl rfl (Nat.le_of_ble_eq_true rfl) m21 (Or.inl rfl) ?_
                show Z zm_X4_again kz Q 108 [(9, zI ((E (c1 + 6) ((4 * v2) + 3)))), (8, zI ((E (c1 + 6) ((4 * v2) + 2)))), (7, zI ((E (c1 + 6) ((4 * v2) + 1)))), (6, zI ((E (c1 + 6) (4 * v2)))), (5, zI ((4 * v2))), (0, zR 36), (1, zR c1), (2, zI v2), (3, zI v3), (4, zR r4)] [zI x20, zI ((E (c1 + 6) ((4 * v2) + 3)))] (d, G, E)
                refine Z.icmp_lt 113 dX4_again_108 rfl ⟨fun c23 => ?_, fun c23 => ?_⟩
                · replace K := K.1 c23
                  refine Z.aload (k := 9) dX4_again_113 rfl ?_
                  refine Y.getR (o := some (r4 + 2)) 1 dX4_again_115 zl_X4_113 (congrArg Prod.fst hr4.1) (by decide) rfl hr4.2.2.2.2.1 hr4.2.2.2.2.2.2.2.2.2.1 ?_
                  refine Z.iload (k := 1) dX4_again_118 rfl ?_
                  obtain ⟨z24, K⟩ := K
                  refine Y.iald dX4_again_120 (hr4.2.2.1) (hr4.2.2.2.2.2.2.1) z24 ?_
                  refine Z.iload (k := 0) dX4_again_121 rfl ?_
                  obtain ⟨z25, K⟩ := K
                  refine Z.iadd dX4_again_123 z25 ?_
                  refine Z.istore (ls' := [(10, zI (((E (r4 + 2) (E (c1 + 6) ((4 * v2) + 2))) + (E (c1 + 6) ((4 * v2) + 3))))), (9, zI ((E (c1 + 6) ((4 * v2) + 3)))), (8, zI ((E (c1 + 6) ((4 * v2) + 2)))), (7, zI ((E (c1 + 6) ((4 * v2) + 1)))), (6, zI ((E (c1 + 6) (4 * v2)))), (5, zI ((4 * v2))), (0, zR 36), (1, zR c1), (2, zI v2), (3, zI v3), (4, zR r4)]) dX4_again_124 (by decide) rfl ?_
                  refine Z.aload (k := 10) dX4_again_126 rfl ?_
                  refine Y.getR (o := some (r4 + 1)) 0 dX4_again_128 zl_X4_86 (congrArg Prod.fst hr4.1) (by decide) rfl hr4.2.2.2.2.1 hr4.2.2.2.2.2.2.2.2.1 ?_
                  refine Z.iload (k := 0) dX4_again_131 rfl ?_
                  obtain ⟨z26, K⟩ := K
                  refine Y.iald dX4_again_133 (hr4.2.1) (hr4.2.2.2.2.2.1) z26 ?_
                  refine Z.if_ge 139 dX4_again_134 rfl ⟨fun c27 => ?_, fun c27 => ?_⟩
                  · replace K := K.1 c27
                    refine Z.aload_n (k := 6) dX4_again_139 rfl ?_
                    refine Z.iload (k := 4) dX4_again_140 rfl ?_
                    refine Z.iload (k := 3) dX4_again_142 rfl ?_
                    refine Z.aload (k := 10) dX4_again_144 rfl ?_
                    refine Z.iload (k := 0) dX4_again_146 rfl ?_
                    obtain ⟨x28, E29, m30, K⟩ := K
                    refine Y.callV (g := zm_X4_fits) (vs := [zI ((E (c1 + 6) (4 * v2))), zI ((E (c1 + 6) ((4 * v2) + 1))), zR r4, zI (((E (r4 + 2) (E (c1 + 6) ((4 * v2) + 2))) + (E (c1 + 6) ((4 * v2) + 3))))]) (st := []) dX4_again_148 ⟨zg_X4_fits.1, zg_X4_fits.2.1, zg_X4_fits.2.2, by decide⟩ ⟨zk_X4_116, zv_X4_fits⟩ (ci := 4) (rfl) rfl ((zX_0_9 hX).2.2) rfl rfl (Nat.le_of_ble_eq_true rfl) m30 (Or.inl rfl) ?_
                    show Z zm_X4_again kz Q 151 [(10, zI (((E (r4 + 2) (E (c1 + 6) ((4 * v2) + 2))) + (E (c1 + 6) ((4 * v2) + 3))))), (9, zI ((E (c1 + 6) ((4 * v2) + 3)))), (8, zI ((E (c1 + 6) ((4 * v2) + 2)))), (7, zI ((E (c1 + 6) ((4 * v2) + 1)))), (6, zI ((E (c1 + 6) (4 * v2)))), (5, zI ((4 * v2))), (0, zR 36), (1, zR c1), (2, zI v2), (3, zI v3), (4, zR r4)] [zI x28] (d, G, E29)
                    refine Z.if_eq 171 dX4_again_151 rfl ⟨fun c32 => ?_, fun c32 => ?_⟩
                    · replace K := K.1 c32
                      refine Z.iconst (n := 0) dX4_again_171 ⟨by decide, by decide⟩ ?_
                      exact Z.iret (ty := .boolean) dX4_again_172 rfl rfl K
                    · replace K := K.2 c32
                      refine Z.aload_n (k := 6) dX4_again_154 rfl ?_
                      refine Z.aload (k := 10) dX4_again_155 rfl ?_
                      refine Z.iload (k := 2) dX4_again_157 rfl ?_
                      refine Z.iload (k := 0) dX4_again_159 rfl ?_
                      obtain ⟨x33, E34, m35, K⟩ := K
                      refine Y.callV (g := zm_X4_replace) (vs := [zR r4, zI ((E (c1 + 6) ((4 * v2) + 2))), zI (((E (r4 + 2) (E (c1 + 6) ((4 * v2) + 2))) + (E (c1 + 6) ((4 * v2) + 3))))]) (st := []) dX4_again_161 ⟨zg_X4_replace.1, zg_X4_replace.2.1, zg_X4_replace.2.2, by decide⟩ ⟨zk_X4_101, zv_X4_replace⟩ (ci := 4) (rfl) rfl ((zX_0_9 hX).2.2) rfl rfl (Nat.le_of_ble_eq_true rfl) m35 (Or.inl rfl) ?_
                      show Z zm_X4_again kz Q 164 [(10, zI (((E (r4 + 2) (E (c1 + 6) ((4 * v2) + 2))) + (E (c1 + 6) ((4 * v2) + 3))))), (9, zI ((E (c1 + 6) ((4 * v2) + 3)))), (8, zI ((E (c1 + 6) ((4 * v2) + 2)))), (7, zI ((E (c1 + 6) ((4 * v2) + 1)))), (6, zI ((E (c1 + 6) (4 * v2)))), (5, zI ((4 * v2))), (0, zR 36), (1, zR c1), (2, zI v2), (3, zI v3), (4, zR r4)] [zI x33] (d, G, E34)
                      refine Z.if_eq 171 dX4_again_164 rfl ⟨fun c37 => ?_, fun c37 => ?_⟩
                      · replace K := K.1 c37
                        refine Z.iconst (n := 0) dX4_again_171 ⟨by decide, by decide⟩ ?_
                        exact Z.iret (ty := .boolean) dX4_again_172 rfl rfl K
                      · replace K := K.2 c37
                        refine Z.iconst (n := 1) dX4_again_167 ⟨by decide, by decide⟩ ?_
                        refine Z.goto 172 dX4_again_168 rfl ?_
                        exact Z.iret (ty := .boolean) dX4_again_172 rfl rfl K
                  · replace K := K.2 c27
                    refine Z.iconst (n := 0) dX4_again_137 ⟨by decide, by decide⟩ ?_
                    exact Z.iret (ty := .boolean) dX4_again_138 rfl rfl K
                · replace K := K.2 c23
                  refine Z.iconst (n := 0) dX4_again_111 ⟨by decide, by decide⟩ ?_
                  exact Z.iret (ty := .boolean) dX4_again_112 rfl rfl K
    · replace K := K.2 c4
      refine Z.iconst (n := 0) dX4_again_22 ⟨by decide, by decide⟩ ?_
      exact Z.iret (ty := .boolean) dX4_again_23 rfl rfl K
