set_option maxRecDepth 20000 in
theorem X4_init_0 {kz : Nat × Nat} {Q : Option zV → zH → Prop} {d : List Nat} {G : Nat → Int → Option Nat} {E : Nat → Int → Int}  (hm36 : 36 ∈ d) (hm1 : 1 ∈ d) (hm18 : 18 ∈ d) (hm20 : 20 ∈ d) (hm5 : 5 ∈ d) (K : ∃ a_1, zkd a_1 = (0, (300 : Int).toNat) ∧ (0 : Int) ≤ 300 ∧ 300 ≤ (100000 : Int) ∧ a_1 ∉ d ∧ ¬ zst3 a_1 ∧ d.length + 1 ≤ kz.1 ∧ zsl d + (zkd a_1).2 ≤ kz.2 ∧ ∀ d_9 G_10 E_11, d_9 = d ++ [a_1] → G_10 = zclG G a_1 → E_11 = zclE E a_1 → (∀ G_12, G_12 = zuG G_10 36 4 (some a_1) → ∃ a_13, zkd a_13 = (0, (300 : Int).toNat) ∧ (0 : Int) ≤ 300 ∧ 300 ≤ (100000 : Int) ∧ a_13 ∉ d_9 ∧ ¬ zst3 a_13 ∧ d_9.length + 1 ≤ kz.1 ∧ zsl d_9 + (zkd a_13).2 ≤ kz.2 ∧ ∀ d_21 G_22 E_23, d_21 = d_9 ++ [a_13] → G_22 = zclG G_12 a_13 → E_23 = zclE E_11 a_13 → (∀ G_24, G_24 = zuG G_22 36 5 (some a_13) → ∃ a_25, zkd a_25 = (0, (300 : Int).toNat) ∧ (0 : Int) ≤ 300 ∧ 300 ≤ (100000 : Int) ∧ a_25 ∉ d_21 ∧ ¬ zst3 a_25 ∧ d_21.length + 1 ≤ kz.1 ∧ zsl d_21 + (zkd a_25).2 ≤ kz.2 ∧ ∀ d_33 G_34 E_35, d_33 = d_21 ++ [a_25] → G_34 = zclG G_24 a_25 → E_35 = zclE E_23 a_25 → (∀ G_36, G_36 = zuG G_34 36 6 (some a_25) → ∀ E_37, E_37 = zuE E_35 36 7 0 → ∀ E_38, E_38 = zuE E_37 36 8 0 → ∀ E_39, E_39 = zuE E_38 36 9 0 → ∃ a_40, zkd a_40 = (0, (32 : Int).toNat) ∧ (0 : Int) ≤ 32 ∧ 32 ≤ (100000 : Int) ∧ a_40 ∉ d_33 ∧ ¬ zst3 a_40 ∧ d_33.length + 1 ≤ kz.1 ∧ zsl d_33 + (zkd a_40).2 ≤ kz.2 ∧ ∀ d_48 G_49 E_50, d_48 = d_33 ++ [a_40] → G_49 = zclG G_36 a_40 → E_50 = zclE E_39 a_40 → (∀ G_51, G_51 = zuG G_49 36 10 (some a_40) → ∀ E_52, E_52 = zuE E_50 36 11 0 → ∀ G_53, G_53 = zuG G_51 36 0 (some 1) → ∀ G_54, G_54 = zuG G_53 36 1 (some 18) → ∀ G_55, G_55 = zuG G_54 36 2 (some 20) → ∀ G_56, G_56 = zuG G_55 36 3 (some 5) → Q none (d_48, G_56, E_52)))))) : Z zm_X4_init kz Q 0 [(0, zR 36), (1, zR 1), (2, zR 18), (3, zR 20), (4, zR 5)] [] (d, G, E) := by
  refine Z.aload_n (k := 0) dX4_init_0 rfl ?_
  refine Z.objInit (a := 36) dX4_init_1 zk_X4_3 ⟨by decide, by decide⟩ (Nat.le_of_ble_eq_true rfl) ?_
  refine Z.aload_n (k := 0) dX4_init_4 rfl ?_
  refine Z.sipush (n := 300) dX4_init_5 ⟨by decide, by decide⟩ (by decide) ?_
  obtain ⟨a_1, z_2, z_3, z_4, z_5, z_6, z_7, z_8, K⟩ := K
  refine Y.newI a_1 dX4_init_8 z_2 z_3 z_4 zai z_5 z_6 z_7 z_8 ?_
  generalize ed_9 : d ++ [a_1] = d_9
  generalize eG_10 : zclG G a_1 = G_10
  generalize eE_11 : zclE E a_1 = E_11
  replace K := K d_9 G_10 E_11 ed_9.symm eG_10.symm eE_11.symm
  refine Y.putR 4 dX4_init_10 zw_X4_9 (fun _ => ⟨rfl, rfl⟩) (rfl) rfl (by rw [← ed_9]; exact List.mem_append_left _ (hm36)) (fun b hb => by cases hb; exact (by rw [← ed_9]; exact List.mem_append_right _ List.mem_cons_self)) ?_
  generalize eG_12 : zuG G_10 36 4 (some a_1) = G_12
  replace K := K G_12 eG_12.symm
  refine Z.aload_n (k := 0) dX4_init_13 rfl ?_
  refine Z.sipush (n := 300) dX4_init_14 ⟨by decide, by decide⟩ (by decide) ?_
  obtain ⟨a_13, z_14, z_15, z_16, z_17, z_18, z_19, z_20, K⟩ := K
  refine Y.newI a_13 dX4_init_17 z_14 z_15 z_16 zai z_17 z_18 z_19 z_20 ?_
  generalize ed_21 : d_9 ++ [a_13] = d_21
  generalize eG_22 : zclG G_12 a_13 = G_22
  generalize eE_23 : zclE E_11 a_13 = E_23
  replace K := K d_21 G_22 E_23 ed_21.symm eG_22.symm eE_23.symm
  refine Y.putR 5 dX4_init_19 zw_X4_15 (fun _ => ⟨rfl, rfl⟩) (rfl) rfl (by rw [← ed_21]; exact List.mem_append_left _ ((by rw [← ed_9]; exact List.mem_append_left _ (hm36)))) (fun b hb => by cases hb; exact (by rw [← ed_21]; exact List.mem_append_right _ List.mem_cons_self)) ?_
  generalize eG_24 : zuG G_22 36 5 (some a_13) = G_24
  replace K := K G_24 eG_24.symm
  refine Z.aload_n (k := 0) dX4_init_22 rfl ?_
  refine Z.sipush (n := 300) dX4_init_23 ⟨by decide, by decide⟩ (by decide) ?_
  obtain ⟨a_25, z_26, z_27, z_28, z_29, z_30, z_31, z_32, K⟩ := K
  refine Y.newI a_25 dX4_init_26 z_26 z_27 z_28 zai z_29 z_30 z_31 z_32 ?_
  generalize ed_33 : d_21 ++ [a_25] = d_33
  generalize eG_34 : zclG G_24 a_25 = G_34
  generalize eE_35 : zclE E_23 a_25 = E_35
  replace K := K d_33 G_34 E_35 ed_33.symm eG_34.symm eE_35.symm
  refine Y.putR 6 dX4_init_28 zw_X4_18 (fun _ => ⟨rfl, rfl⟩) (rfl) rfl (by rw [← ed_33]; exact List.mem_append_left _ ((by rw [← ed_21]; exact List.mem_append_left _ ((by rw [← ed_9]; exact List.mem_append_left _ (hm36)))))) (fun b hb => by cases hb; exact (by rw [← ed_33]; exact List.mem_append_right _ List.mem_cons_self)) ?_
  generalize eG_36 : zuG G_34 36 6 (some a_25) = G_36
  replace K := K G_36 eG_36.symm
  refine Z.aload_n (k := 0) dX4_init_31 rfl ?_
  refine Z.iconst (n := 0) dX4_init_32 ⟨by decide, by decide⟩ ?_
  refine Y.putI 7 dX4_init_33 zw_X4_21 (fun q => by cases q) (rfl) rfl (by rw [← ed_33]; exact List.mem_append_left _ ((by rw [← ed_21]; exact List.mem_append_left _ ((by rw [← ed_9]; exact List.mem_append_left _ (hm36)))))) (Or.inl rfl) ?_
  generalize eE_37 : zuE E_35 36 7 0 = E_37
  replace K := K E_37 eE_37.symm
  refine Z.aload_n (k := 0) dX4_init_36 rfl ?_
  refine Z.iconst (n := 0) dX4_init_37 ⟨by decide, by decide⟩ ?_
  refine Y.putI 8 dX4_init_38 zw_X4_25 (fun q => by cases q) (rfl) rfl (by rw [← ed_33]; exact List.mem_append_left _ ((by rw [← ed_21]; exact List.mem_append_left _ ((by rw [← ed_9]; exact List.mem_append_left _ (hm36)))))) (Or.inl rfl) ?_
  generalize eE_38 : zuE E_37 36 8 0 = E_38
  replace K := K E_38 eE_38.symm
  refine Z.aload_n (k := 0) dX4_init_41 rfl ?_
  refine Z.iconst (n := 0) dX4_init_42 ⟨by decide, by decide⟩ ?_
  refine Y.putI 9 dX4_init_43 zw_X4_28 (fun q => by cases q) (rfl) rfl (by rw [← ed_33]; exact List.mem_append_left _ ((by rw [← ed_21]; exact List.mem_append_left _ ((by rw [← ed_9]; exact List.mem_append_left _ (hm36)))))) (Or.inl rfl) ?_
  generalize eE_39 : zuE E_38 36 9 0 = E_39
  replace K := K E_39 eE_39.symm
  refine Z.aload_n (k := 0) dX4_init_46 rfl ?_
  refine Z.bipush (n := 32) dX4_init_47 ⟨by decide, by decide⟩ (by decide) ?_
  obtain ⟨a_40, z_41, z_42, z_43, z_44, z_45, z_46, z_47, K⟩ := K
  refine Y.newI a_40 dX4_init_49 z_41 z_42 z_43 zai z_44 z_45 z_46 z_47 ?_
  generalize ed_48 : d_33 ++ [a_40] = d_48
  generalize eG_49 : zclG G_36 a_40 = G_49
  generalize eE_50 : zclE E_39 a_40 = E_50
  replace K := K d_48 G_49 E_50 ed_48.symm eG_49.symm eE_50.symm
  refine Y.putR 10 dX4_init_51 zw_X4_31 (fun _ => ⟨rfl, rfl⟩) (rfl) rfl (by rw [← ed_48]; exact List.mem_append_left _ ((by rw [← ed_33]; exact List.mem_append_left _ ((by rw [← ed_21]; exact List.mem_append_left _ ((by rw [← ed_9]; exact List.mem_append_left _ (hm36)))))))) (fun b hb => by cases hb; exact (by rw [← ed_48]; exact List.mem_append_right _ List.mem_cons_self)) ?_
  generalize eG_51 : zuG G_49 36 10 (some a_40) = G_51
  replace K := K G_51 eG_51.symm
  refine Z.aload_n (k := 0) dX4_init_54 rfl ?_
  refine Z.iconst (n := 0) dX4_init_55 ⟨by decide, by decide⟩ ?_
  refine Y.putI 11 dX4_init_56 zw_X4_34 (fun q => by cases q) (rfl) rfl (by rw [← ed_48]; exact List.mem_append_left _ ((by rw [← ed_33]; exact List.mem_append_left _ ((by rw [← ed_21]; exact List.mem_append_left _ ((by rw [← ed_9]; exact List.mem_append_left _ (hm36)))))))) (Or.inl rfl) ?_
  generalize eE_52 : zuE E_50 36 11 0 = E_52
  replace K := K E_52 eE_52.symm
  refine Z.aload_n (k := 0) dX4_init_59 rfl ?_
  refine Z.aload_n (k := 1) dX4_init_60 rfl ?_
  refine Y.putR 0 dX4_init_61 zw_X4_37 (fun _ => ⟨rfl, rfl⟩) (rfl) rfl (by rw [← ed_48]; exact List.mem_append_left _ ((by rw [← ed_33]; exact List.mem_append_left _ ((by rw [← ed_21]; exact List.mem_append_left _ ((by rw [← ed_9]; exact List.mem_append_left _ (hm36)))))))) (fun b hb => by cases hb; exact (by rw [← ed_48]; exact List.mem_append_left _ ((by rw [← ed_33]; exact List.mem_append_left _ ((by rw [← ed_21]; exact List.mem_append_left _ ((by rw [← ed_9]; exact List.mem_append_left _ (hm1))))))))) ?_
  generalize eG_53 : zuG G_51 36 0 (some 1) = G_53
  replace K := K G_53 eG_53.symm
  refine Z.aload_n (k := 0) dX4_init_64 rfl ?_
  refine Z.aload_n (k := 2) dX4_init_65 rfl ?_
  refine Y.putR 1 dX4_init_66 zw_X4_41 (fun _ => ⟨rfl, rfl⟩) (rfl) rfl (by rw [← ed_48]; exact List.mem_append_left _ ((by rw [← ed_33]; exact List.mem_append_left _ ((by rw [← ed_21]; exact List.mem_append_left _ ((by rw [← ed_9]; exact List.mem_append_left _ (hm36)))))))) (fun b hb => by cases hb; exact (by rw [← ed_48]; exact List.mem_append_left _ ((by rw [← ed_33]; exact List.mem_append_left _ ((by rw [← ed_21]; exact List.mem_append_left _ ((by rw [← ed_9]; exact List.mem_append_left _ (hm18))))))))) ?_
  generalize eG_54 : zuG G_53 36 1 (some 18) = G_54
  replace K := K G_54 eG_54.symm
  refine Z.aload_n (k := 0) dX4_init_69 rfl ?_
  refine Z.aload_n (k := 3) dX4_init_70 rfl ?_
  refine Y.putR 2 dX4_init_71 zw_X4_45 (fun _ => ⟨rfl, rfl⟩) (rfl) rfl (by rw [← ed_48]; exact List.mem_append_left _ ((by rw [← ed_33]; exact List.mem_append_left _ ((by rw [← ed_21]; exact List.mem_append_left _ ((by rw [← ed_9]; exact List.mem_append_left _ (hm36)))))))) (fun b hb => by cases hb; exact (by rw [← ed_48]; exact List.mem_append_left _ ((by rw [← ed_33]; exact List.mem_append_left _ ((by rw [← ed_21]; exact List.mem_append_left _ ((by rw [← ed_9]; exact List.mem_append_left _ (hm20))))))))) ?_
  generalize eG_55 : zuG G_54 36 2 (some 20) = G_55
  replace K := K G_55 eG_55.symm
  refine Z.aload_n (k := 0) dX4_init_74 rfl ?_
  refine Z.aload (k := 4) dX4_init_75 rfl ?_
  refine Y.putR 3 dX4_init_77 zw_X4_49 (fun _ => ⟨rfl, rfl⟩) (rfl) rfl (by rw [← ed_48]; exact List.mem_append_left _ ((by rw [← ed_33]; exact List.mem_append_left _ ((by rw [← ed_21]; exact List.mem_append_left _ ((by rw [← ed_9]; exact List.mem_append_left _ (hm36)))))))) (fun b hb => by cases hb; exact (by rw [← ed_48]; exact List.mem_append_left _ ((by rw [← ed_33]; exact List.mem_append_left _ ((by rw [← ed_21]; exact List.mem_append_left _ ((by rw [← ed_9]; exact List.mem_append_left _ (hm5))))))))) ?_
  generalize eG_56 : zuG G_55 36 3 (some 5) = G_56
  replace K := K G_56 eG_56.symm
  exact Z.vret dX4_init_80 rfl K
set_option maxRecDepth 20000 in
theorem X4_list_0 {kz : Nat × Nat} {Q : Option zV → zH → Prop} {d : List Nat} {G : Nat → Int → Option Nat} {E : Nat → Int → Int} {c1 : Nat} {v2 : Int} (hX : zK zXt d G) (hc1 : zCk d G c1) (K : (300 ≤ (E 36 7) → Q none (d, G, E)) ∧ (¬ (300 ≤ (E 36 7)) → ((0 : Int) ≤ (E 36 7) ∧ (E 36 7) < (300 : Int)) ∧ ∀ E_3, E_3 = zuE E 37 ((E 36 7)) ((E c1 5)) → ((0 : Int) ≤ (E_3 36 7) ∧ (E_3 36 7) < (300 : Int)) ∧ ∀ E_5, E_5 = zuE E_3 38 ((E_3 36 7)) v2 → (v2 ≠ 0 → ((0 : Int) ≤ (E_5 c1 12) ∧ (E_5 c1 12) < (180 : Int)) ∧ ((0 : Int) ≤ (E_5 36 7) ∧ (E_5 36 7) < (300 : Int)) ∧ ∀ E_9, E_9 = zuE E_5 39 ((E_5 36 7)) ((E_5 ((c1 + 1) + 1) (E_5 c1 12))) → zin ((E_9 36 7) + 1) ∧ ∀ E_11, E_11 = zuE E_9 36 7 (((E_9 36 7) + 1)) → Q none (d, G, E_11)) ∧ (¬ (v2 ≠ 0) → ((0 : Int) ≤ 1 ∧ 1 < (180 : Int)) ∧ ((0 : Int) ≤ (E_5 36 7) ∧ (E_5 36 7) < (300 : Int)) ∧ ∀ E_14, E_14 = zuE E_5 39 ((E_5 36 7)) ((E_5 ((c1 + 1) + 1) 1)) → zin ((E_14 36 7) + 1) ∧ ∀ E_16, E_16 = zuE E_14 36 7 (((E_14 36 7) + 1)) → Q none (d, G, E_16)))) : Z zm_X4_list kz Q 0 [(0, zR 36), (1, zR c1), (2, zI v2)] [] (d, G, E) := by
  refine Z.aload_n (k := 0) dX4_list_0 rfl ?_
  refine Y.getI 7 dX4_list_1 zl_X4_21 (rfl) (by decide) rfl (zX_0_9 hX).2.2 ?_
  refine Z.aload_n (k := 0) dX4_list_4 rfl ?_
  refine Y.getR (o := some 37) 4 dX4_list_5 zl_X4_9 (rfl) (by decide) rfl (zX_0_9 hX).2.2 (zX_36_4 hX).1 ?_
  refine Y.alen 300 300 dX4_list_8 (rfl) ((zX_36_4 hX).2.2) rfl ⟨by decide, by decide⟩ ?_
  refine Z.icmp_ge 74 dX4_list_9 rfl ⟨fun c_1 => ?_, fun c_1 => ?_⟩
  · replace K := K.1 c_1
    exact Z.vret dX4_list_74 rfl K
  · replace K := K.2 c_1
    refine Z.aload_n (k := 0) dX4_list_12 rfl ?_
    refine Y.getR (o := some 37) 4 dX4_list_13 zl_X4_9 (rfl) (by decide) rfl (zX_0_9 hX).2.2 (zX_36_4 hX).1 ?_
    refine Z.aload_n (k := 0) dX4_list_16 rfl ?_
    refine Y.getI 7 dX4_list_17 zl_X4_21 (rfl) (by decide) rfl (zX_0_9 hX).2.2 ?_
    refine Z.aload_n (k := 1) dX4_list_20 rfl ?_
    refine Y.getI 5 dX4_list_21 zl_X4_79 (congrArg Prod.fst hc1.1) (by decide) rfl hc1.2.1 ?_
    obtain ⟨z_2, K⟩ := K
    refine Y.iast dX4_list_24 (rfl) ((zX_36_4 hX).2.2) z_2 ?_
    generalize eE_3 : zuE E 37 ((E 36 7)) ((E c1 5)) = E_3
    replace K := K E_3 eE_3.symm
    refine Z.aload_n (k := 0) dX4_list_25 rfl ?_
    refine Y.getR (o := some 38) 5 dX4_list_26 zl_X4_15 (rfl) (by decide) rfl (zX_0_9 hX).2.2 (zX_36_5 hX).1 ?_
    refine Z.aload_n (k := 0) dX4_list_29 rfl ?_
    refine Y.getI 7 dX4_list_30 zl_X4_21 (rfl) (by decide) rfl (zX_0_9 hX).2.2 ?_
    refine Z.iload_n (k := 2) dX4_list_33 rfl ?_
    obtain ⟨z_4, K⟩ := K
    refine Y.iast dX4_list_34 (rfl) ((zX_36_5 hX).2.2) z_4 ?_
    generalize eE_5 : zuE E_3 38 ((E_3 36 7)) v2 = E_5
    replace K := K E_5 eE_5.symm
    refine Z.aload_n (k := 0) dX4_list_35 rfl ?_
    refine Y.getR (o := some 39) 6 dX4_list_36 zl_X4_18 (rfl) (by decide) rfl (zX_0_9 hX).2.2 (zX_36_6 hX).1 ?_
    refine Z.aload_n (k := 0) dX4_list_39 rfl ?_
    refine Y.getI 7 dX4_list_40 zl_X4_21 (rfl) (by decide) rfl (zX_0_9 hX).2.2 ?_
    refine Z.aload_n (k := 1) dX4_list_43 rfl ?_
    refine Y.getR (o := some ((c1 + 1))) 0 dX4_list_44 zl_X4_82 (congrArg Prod.fst hc1.1) (by decide) rfl hc1.2.1 hc1.2.2.2.1 ?_
    refine Y.getR (o := some ((c1 + 1) + 1)) 0 dX4_list_47 zl_X4_86 (congrArg Prod.fst hc1.2.2.1.1) (by decide) rfl hc1.2.2.1.2.2.2.2.1 hc1.2.2.1.2.2.2.2.2.2.2.2.1 ?_
    refine Z.iload_n (k := 2) dX4_list_50 rfl ?_
    refine Z.if_ne 58 dX4_list_51 rfl ⟨fun c_6 => ?_, fun c_6 => ?_⟩
    · replace K := K.1 c_6
      refine Z.aload_n (k := 1) dX4_list_58 rfl ?_
      refine Y.getI 12 dX4_list_59 zl_X4_91 (congrArg Prod.fst hc1.1) (by decide) rfl hc1.2.1 ?_
      obtain ⟨z_7, K⟩ := K
      refine Y.iald dX4_list_62 (hc1.2.2.1.2.1) (hc1.2.2.1.2.2.2.2.2.1) z_7 ?_
      obtain ⟨z_8, K⟩ := K
      refine Y.iast dX4_list_63 (rfl) ((zX_36_6 hX).2.2) z_8 ?_
      generalize eE_9 : zuE E_5 39 ((E_5 36 7)) ((E_5 ((c1 + 1) + 1) (E_5 c1 12))) = E_9
      replace K := K E_9 eE_9.symm
      refine Z.aload_n (k := 0) dX4_list_64 rfl ?_
      refine Z.dup_i dX4_list_65 (fun _ => rfl) ?_
      refine Y.getI 7 dX4_list_66 zl_X4_21 (rfl) (by decide) rfl (zX_0_9 hX).2.2 ?_
      refine Z.iconst (n := 1) dX4_list_69 ⟨by decide, by decide⟩ ?_
      obtain ⟨z_10, K⟩ := K
      refine Z.iadd dX4_list_70 z_10 ?_
      refine Y.putI 7 dX4_list_71 zw_X4_21 (fun q => by cases q) (rfl) rfl (zX_0_9 hX).2.2 (Or.inl rfl) ?_
      generalize eE_11 : zuE E_9 36 7 (((E_9 36 7) + 1)) = E_11
      replace K := K E_11 eE_11.symm
      exact Z.vret dX4_list_74 rfl K
    · replace K := K.2 c_6
      refine Z.iconst (n := 1) dX4_list_54 ⟨by decide, by decide⟩ ?_
      refine Z.goto 62 dX4_list_55 rfl ?_
      obtain ⟨z_12, K⟩ := K
      refine Y.iald dX4_list_62 (hc1.2.2.1.2.1) (hc1.2.2.1.2.2.2.2.2.1) z_12 ?_
      obtain ⟨z_13, K⟩ := K
      refine Y.iast dX4_list_63 (rfl) ((zX_36_6 hX).2.2) z_13 ?_
      generalize eE_14 : zuE E_5 39 ((E_5 36 7)) ((E_5 ((c1 + 1) + 1) 1)) = E_14
      replace K := K E_14 eE_14.symm
      refine Z.aload_n (k := 0) dX4_list_64 rfl ?_
      refine Z.dup_i dX4_list_65 (fun _ => rfl) ?_
      refine Y.getI 7 dX4_list_66 zl_X4_21 (rfl) (by decide) rfl (zX_0_9 hX).2.2 ?_
      refine Z.iconst (n := 1) dX4_list_69 ⟨by decide, by decide⟩ ?_
      obtain ⟨z_15, K⟩ := K
      refine Z.iadd dX4_list_70 z_15 ?_
      refine Y.putI 7 dX4_list_71 zw_X4_21 (fun q => by cases q) (rfl) rfl (zX_0_9 hX).2.2 (Or.inl rfl) ?_
      generalize eE_16 : zuE E_14 36 7 (((E_14 36 7) + 1)) = E_16
      replace K := K E_16 eE_16.symm
      exact Z.vret dX4_list_74 rfl K
set_option maxRecDepth 20000 in
theorem X4_prepare_0 {kz : Nat × Nat} {Q : Option zV → zH → Prop} {d : List Nat} {G : Nat → Int → Option Nat} {E : Nat → Int → Int}  (hX : zK zXt d G) (K : ∀ E_1, E_1 = zuE E 36 11 0 → ∀ E_2, E_2 = zuE E_1 36 7 0 → Z zm_X4_prepare kz Q 12 [(0, zR 36), (1, zI 0)] [] (d, G, E_2)) : Z zm_X4_prepare kz Q 0 [(0, zR 36)] [] (d, G, E) := by
  refine Z.aload_n (k := 0) dX4_prepare_0 rfl ?_
  refine Z.iconst (n := 0) dX4_prepare_1 ⟨by decide, by decide⟩ ?_
  refine Y.putI 11 dX4_prepare_2 zw_X4_34 (fun q => by cases q) (rfl) rfl (zX_0_9 hX).2.2 (Or.inl rfl) ?_
  generalize eE_1 : zuE E 36 11 0 = E_1
  replace K := K E_1 eE_1.symm
  refine Z.aload_n (k := 0) dX4_prepare_5 rfl ?_
  refine Z.iconst (n := 0) dX4_prepare_6 ⟨by decide, by decide⟩ ?_
  refine Y.putI 7 dX4_prepare_7 zw_X4_21 (fun q => by cases q) (rfl) rfl (zX_0_9 hX).2.2 (Or.inl rfl) ?_
  generalize eE_2 : zuE E_1 36 7 0 = E_2
  replace K := K E_2 eE_2.symm
  refine Z.iconst (n := 0) dX4_prepare_10 ⟨by decide, by decide⟩ ?_
  refine Z.istore_n (ls' := [(1, zI 0), (0, zR 36)]) dX4_prepare_11 (by decide) rfl ?_
  refine Z.pick (ls' := [(0, zR 36), (1, zI 0)]) [1, 0] rfl ?_
  exact K
set_option maxRecDepth 20000 in
theorem X4_prepare_12 {kz : Nat × Nat} {Q : Option zV → zH → Prop} {d : List Nat} {G : Nat → Int → Option Nat} {E : Nat → Int → Int} {v1 : Int} (hX : zK zXt d G) (K : ((E 5 4) ≤ v1 → Q none (d, G, E)) ∧ (¬ ((E 5 4) ≤ v1) → ∃ o_2, zM zm_X7_at [zR 5, zI v1] (d, G, E) (some (zO o_2)) (d, G, E) ∧ (o_2 = none → zin (v1 + 1) ∧ Z zm_X4_prepare kz Q 12 [(0, zR 36), (1, zI ((v1 + 1)))] [] (d, G, E)) ∧ (¬ (o_2 = none) → ∃ b_7, o_2 = some b_7 ∧ zCk d G b_7 ∧ ∃ x_10, zM zm_X1_isThere [zR b_7] (d, G, E) (some (zI x_10)) (d, G, E) ∧ (x_10 = 0 → zin (v1 + 1) ∧ Z zm_X4_prepare kz Q 12 [(0, zR 36), (1, zI ((v1 + 1)))] [] (d, G, E)) ∧ (¬ (x_10 = 0) → ((E b_7 11) = 0 → zin (v1 + 1) ∧ Z zm_X4_prepare kz Q 12 [(0, zR 36), (1, zI ((v1 + 1)))] [] (d, G, E)) ∧ (¬ ((E b_7 11) = 0) → ∃ E_17, zM zm_X4_list [zR 36, zR b_7, zI 0] (d, G, E) none (d, G, E_17) ∧ ((E_17 b_7 13) ≠ 0 → zin (v1 + 1) ∧ Z zm_X4_prepare kz Q 12 [(0, zR 36), (1, zI ((v1 + 1)))] [] (d, G, E_17)) ∧ (¬ ((E_17 b_7 13) ≠ 0) → ∃ E_22, zM zm_X4_list [zR 36, zR b_7, zI 1] (d, G, E_17) none (d, G, E_22) ∧ zin (v1 + 1) ∧ Z zm_X4_prepare kz Q 12 [(0, zR 36), (1, zI ((v1 + 1)))] [] (d, G, E_22))))))) : Z zm_X4_prepare kz Q 12 [(0, zR 36), (1, zI v1)] [] (d, G, E) := by
  refine Z.iload_n (k := 1) dX4_prepare_12 rfl ?_
  refine Z.aload_n (k := 0) dX4_prepare_13 rfl ?_
  refine Y.getR (o := some 5) 3 dX4_prepare_14 zl_X4_49 (rfl) (by decide) rfl (zX_0_9 hX).2.2 (zX_36_3 hX).1 ?_
  refine Y.getI 4 dX4_prepare_17 zl_X4_53 (rfl) (by decide) rfl (zX_0_1 hX).2.2 ?_
  refine Z.icmp_ge 75 dX4_prepare_20 rfl ⟨fun c_1 => ?_, fun c_1 => ?_⟩
  · replace K := K.1 c_1
    exact Z.vret dX4_prepare_75 rfl K
  · replace K := K.2 c_1
    refine Z.aload_n (k := 0) dX4_prepare_23 rfl ?_
    refine Y.getR (o := some 5) 3 dX4_prepare_24 zl_X4_49 (rfl) (by decide) rfl (zX_0_9 hX).2.2 (zX_36_3 hX).1 ?_
    refine Z.iload_n (k := 1) dX4_prepare_27 rfl ?_
    obtain ⟨o_2, m_3, K⟩ := K
    refine Y.callV (g := zm_X7_at) (vs := [zI v1]) (st := []) dX4_prepare_28 ⟨zg_X7_at.1, zg_X7_at.2.1, zg_X7_at.2.2, by decide⟩ ⟨zk_X4_58, zv_X7_at⟩ (ci := 7) (rfl) rfl ((zX_0_1 hX).2.2) rfl rfl (Nat.le_of_ble_eq_true rfl) m_3 (Or.inl rfl) ?_
    show Z zm_X4_prepare kz Q 31 [(0, zR 36), (1, zI v1)] [zO o_2] (d, G, E)
    refine Z.astore_n (ls' := [(2, zO o_2), (0, zR 36), (1, zI v1)]) dX4_prepare_31 (by decide) rfl ?_
    refine Z.aload_n (k := 0) dX4_prepare_32 rfl ?_
    refine Z.ifnull 69 dX4_prepare_33 rfl ⟨fun c_5 => ?_, fun c_5 => ?_⟩
    · replace K := K.1 c_5
      obtain ⟨z_6, K⟩ := K
      refine Z.iinc (k := 2) (ls' := [(1, zI ((v1 + 1))), (2, zO o_2), (0, zR 36)]) dX4_prepare_69 rfl (by decide) z_6 rfl ?_
      refine Z.goto 12 dX4_prepare_72 rfl ?_
      refine Z.pick (ls' := [(0, zR 36), (1, zI ((v1 + 1)))]) [2, 0] rfl ?_
      exact K
    · replace K := K.2 c_5
      refine Z.aload_n (k := 0) dX4_prepare_36 rfl ?_
      obtain ⟨b_7, e_8, hc_9, K⟩ := K
      rw [e_8]
      obtain ⟨x_10, m_11, K⟩ := K
      refine Y.callV (g := zm_X1_isThere) (vs := []) (st := []) dX4_prepare_37 ⟨zg_X1_isThere.1, zg_X1_isThere.2.1, zg_X1_isThere.2.2, by decide⟩ ⟨zk_X4_62, zv_X1_isThere⟩ (ci := 1) (congrArg Prod.fst hc_9.1) rfl (hc_9.2.1) rfl rfl (Nat.le_of_ble_eq_true rfl) m_11 (Or.inl rfl) ?_
      show Z zm_X4_prepare kz Q 40 [(2, zR b_7), (0, zR 36), (1, zI v1)] [zI x_10] (d, G, E)
      refine Z.if_eq 69 dX4_prepare_40 rfl ⟨fun c_13 => ?_, fun c_13 => ?_⟩
      · replace K := K.1 c_13
        obtain ⟨z_14, K⟩ := K
        refine Z.iinc (k := 2) (ls' := [(1, zI ((v1 + 1))), (2, zR b_7), (0, zR 36)]) dX4_prepare_69 rfl (by decide) z_14 rfl ?_
        refine Z.goto 12 dX4_prepare_72 rfl ?_
        refine Z.pick (ls' := [(0, zR 36), (1, zI ((v1 + 1)))]) [2, 0] rfl ?_
        exact K
      · replace K := K.2 c_13
        refine Z.aload_n (k := 0) dX4_prepare_43 rfl ?_
        refine Y.getI 11 dX4_prepare_44 zl_X4_68 (congrArg Prod.fst hc_9.1) (by decide) rfl hc_9.2.1 ?_
        refine Z.if_eq 69 dX4_prepare_47 rfl ⟨fun c_15 => ?_, fun c_15 => ?_⟩
        · replace K := K.1 c_15
          obtain ⟨z_16, K⟩ := K
          refine Z.iinc (k := 2) (ls' := [(1, zI ((v1 + 1))), (2, zR b_7), (0, zR 36)]) dX4_prepare_69 rfl (by decide) z_16 rfl ?_
          refine Z.goto 12 dX4_prepare_72 rfl ?_
          refine Z.pick (ls' := [(0, zR 36), (1, zI ((v1 + 1)))]) [2, 0] rfl ?_
          exact K
        · replace K := K.2 c_15
          refine Z.aload_n (k := 1) dX4_prepare_50 rfl ?_
          refine Z.aload_n (k := 0) dX4_prepare_51 rfl ?_
          refine Z.iconst (n := 0) dX4_prepare_52 ⟨by decide, by decide⟩ ?_
          obtain ⟨E_17, m_18, K⟩ := K
          refine Y.callV (g := zm_X4_list) (vs := [zR b_7, zI 0]) (st := []) dX4_prepare_53 ⟨zg_X4_list.1, zg_X4_list.2.1, zg_X4_list.2.2, by decide⟩ ⟨zk_X4_72, zv_X4_list⟩ (ci := 4) (rfl) rfl ((zX_0_9 hX).2.2) rfl rfl (Nat.le_of_ble_eq_true rfl) m_18 (Or.inl rfl) ?_
          show Z zm_X4_prepare kz Q 56 [(2, zR b_7), (0, zR 36), (1, zI v1)] [] (d, G, E_17)
          refine Z.aload_n (k := 0) dX4_prepare_56 rfl ?_
          refine Y.getI 13 dX4_prepare_57 zl_X4_76 (congrArg Prod.fst hc_9.1) (by decide) rfl hc_9.2.1 ?_
          refine Z.if_ne 69 dX4_prepare_60 rfl ⟨fun c_20 => ?_, fun c_20 => ?_⟩
          · replace K := K.1 c_20
            obtain ⟨z_21, K⟩ := K
            refine Z.iinc (k := 2) (ls' := [(1, zI ((v1 + 1))), (2, zR b_7), (0, zR 36)]) dX4_prepare_69 rfl (by decide) z_21 rfl ?_
            refine Z.goto 12 dX4_prepare_72 rfl ?_
            refine Z.pick (ls' := [(0, zR 36), (1, zI ((v1 + 1)))]) [2, 0] rfl ?_
            exact K
          · replace K := K.2 c_20
            refine Z.aload_n (k := 1) dX4_prepare_63 rfl ?_
            refine Z.aload_n (k := 0) dX4_prepare_64 rfl ?_
            refine Z.iconst (n := 1) dX4_prepare_65 ⟨by decide, by decide⟩ ?_
            obtain ⟨E_22, m_23, K⟩ := K
            refine Y.callV (g := zm_X4_list) (vs := [zR b_7, zI 1]) (st := []) dX4_prepare_66 ⟨zg_X4_list.1, zg_X4_list.2.1, zg_X4_list.2.2, by decide⟩ ⟨zk_X4_72, zv_X4_list⟩ (ci := 4) (rfl) rfl ((zX_0_9 hX).2.2) rfl rfl (Nat.le_of_ble_eq_true rfl) m_23 (Or.inl rfl) ?_
            show Z zm_X4_prepare kz Q 69 [(2, zR b_7), (0, zR 36), (1, zI v1)] [] (d, G, E_22)
            obtain ⟨z_25, K⟩ := K
            refine Z.iinc (k := 2) (ls' := [(1, zI ((v1 + 1))), (2, zR b_7), (0, zR 36)]) dX4_prepare_69 rfl (by decide) z_25 rfl ?_
            refine Z.goto 12 dX4_prepare_72 rfl ?_
            refine Z.pick (ls' := [(0, zR 36), (1, zI ((v1 + 1)))]) [2, 0] rfl ?_
            exact K
set_option maxRecDepth 20000 in
theorem X4_fits_0 {kz : Nat × Nat} {Q : Option zV → zH → Prop} {d : List Nat} {G : Nat → Int → Option Nat} {E : Nat → Int → Int} {v1 : Int} {v2 : Int} {r3 : Nat} {v4 : Int} (hX : zK zXt d G) (hr3 : zRk d G r3) (K : ∃ o_1, zM zm_X7_at [zR 5, zI v1] (d, G, E) (some (zO o_1)) (d, G, E) ∧ (o_1 = none → Q (some (zI 0)) (d, G, E)) ∧ (¬ (o_1 = none) → ∃ b_5, o_1 = some b_5 ∧ zCk d G b_5 ∧ ((E b_5 11) ≠ 0 → (v2 ≠ 0 → Z zm_X4_fits kz Q 48 [(0, zR 36), (2, zI v2), (3, zR r3), (4, zI v4), (5, zR b_5), (6, zR ((b_5 + 1) + 1))] [zI ((E b_5 12))] (d, G, E)) ∧ (¬ (v2 ≠ 0) → Z zm_X4_fits kz Q 48 [(0, zR 36), (2, zI v2), (3, zR r3), (4, zI v4), (5, zR b_5), (6, zR ((b_5 + 1) + 1))] [zI 1] (d, G, E))) ∧ (¬ ((E b_5 11) ≠ 0) → Q (some (zI 0)) (d, G, E)))) : Z zm_X4_fits kz Q 0 [(0, zR 36), (1, zI v1), (2, zI v2), (3, zR r3), (4, zI v4)] [] (d, G, E) := by
  refine Z.aload_n (k := 0) dX4_fits_0 rfl ?_
  refine Y.getR (o := some 5) 3 dX4_fits_1 zl_X4_49 (rfl) (by decide) rfl (zX_0_9 hX).2.2 (zX_36_3 hX).1 ?_
  refine Z.iload_n (k := 1) dX4_fits_4 rfl ?_
  obtain ⟨o_1, m_2, K⟩ := K
  refine Y.callV (g := zm_X7_at) (vs := [zI v1]) (st := []) dX4_fits_5 ⟨zg_X7_at.1, zg_X7_at.2.1, zg_X7_at.2.2, by decide⟩ ⟨zk_X4_58, zv_X7_at⟩ (ci := 7) (rfl) rfl ((zX_0_1 hX).2.2) rfl rfl (Nat.le_of_ble_eq_true rfl) m_2 (Or.inl rfl) ?_
  show Z zm_X4_fits kz Q 8 [(0, zR 36), (1, zI v1), (2, zI v2), (3, zR r3), (4, zI v4)] [zO o_1] (d, G, E)
  refine Z.astore (ls' := [(5, zO o_1), (0, zR 36), (1, zI v1), (2, zI v2), (3, zR r3), (4, zI v4)]) dX4_fits_8 (by decide) rfl ?_
  refine Z.aload (k := 0) dX4_fits_10 rfl ?_
  refine Z.ifnull 23 dX4_fits_12 rfl ⟨fun c_4 => ?_, fun c_4 => ?_⟩
  · replace K := K.1 c_4
    refine Z.iconst (n := 0) dX4_fits_23 ⟨by decide, by decide⟩ ?_
    exact Z.iret (ty := .boolean) dX4_fits_24 rfl rfl K
  · replace K := K.2 c_4
    refine Z.aload (k := 0) dX4_fits_15 rfl ?_
    obtain ⟨b_5, e_6, hc_7, K⟩ := K
    rw [e_6]
    refine Y.getI 11 dX4_fits_17 zl_X4_68 (congrArg Prod.fst hc_7.1) (by decide) rfl hc_7.2.1 ?_
    refine Z.if_ne 25 dX4_fits_20 rfl ⟨fun c_8 => ?_, fun c_8 => ?_⟩
    · replace K := K.1 c_8
      refine Z.aload (k := 0) dX4_fits_25 rfl ?_
      refine Y.getR (o := some ((b_5 + 1))) 0 dX4_fits_27 zl_X4_82 (congrArg Prod.fst hc_7.1) (by decide) rfl hc_7.2.1 hc_7.2.2.2.1 ?_
      refine Y.getR (o := some ((b_5 + 1) + 1)) 0 dX4_fits_30 zl_X4_86 (congrArg Prod.fst hc_7.2.2.1.1) (by decide) rfl hc_7.2.2.1.2.2.2.2.1 hc_7.2.2.1.2.2.2.2.2.2.2.2.1 ?_
      refine Z.astore (ls' := [(6, zR ((b_5 + 1) + 1)), (5, zR b_5), (0, zR 36), (1, zI v1), (2, zI v2), (3, zR r3), (4, zI v4)]) dX4_fits_33 (by decide) rfl ?_
      refine Z.iload_n (k := 4) dX4_fits_35 rfl ?_
      refine Z.if_ne 43 dX4_fits_36 rfl ⟨fun c_9 => ?_, fun c_9 => ?_⟩
      · replace K := K.1 c_9
        refine Z.aload (k := 1) dX4_fits_43 rfl ?_
        refine Y.getI 12 dX4_fits_45 zl_X4_91 (congrArg Prod.fst hc_7.1) (by decide) rfl hc_7.2.1 ?_
        refine Z.pick (ls' := [(0, zR 36), (2, zI v2), (3, zR r3), (4, zI v4), (5, zR b_5), (6, zR ((b_5 + 1) + 1))]) [2, 4, 5, 6, 1, 0] rfl ?_
        exact K
      · replace K := K.2 c_9
        refine Z.iconst (n := 1) dX4_fits_39 ⟨by decide, by decide⟩ ?_
        refine Z.goto 48 dX4_fits_40 rfl ?_
        refine Z.pick (ls' := [(0, zR 36), (2, zI v2), (3, zR r3), (4, zI v4), (5, zR b_5), (6, zR ((b_5 + 1) + 1))]) [2, 4, 5, 6, 1, 0] rfl ?_
        exact K
    · replace K := K.2 c_8
      refine Z.iconst (n := 0) dX4_fits_23 ⟨by decide, by decide⟩ ?_
      exact Z.iret (ty := .boolean) dX4_fits_24 rfl rfl K
set_option maxRecDepth 20000 in
theorem X4_fits_48 {kz : Nat × Nat} {Q : Option zV → zH → Prop} {d : List Nat} {G : Nat → Int → Option Nat} {E : Nat → Int → Int} {v2 : Int} {r3 : Nat} {v4 : Int} {o5 : Option Nat} {o6 : Option Nat} {s0 : Int} (hX : zK zXt d G) (hr3 : zRk d G r3) (K : (v2 ≠ 0 → Z zm_X4_fits kz Q 63 [(0, zR 36), (2, zI v2), (3, zR r3), (4, zI v4), (5, zO o5), (6, zO o6), (7, zI s0)] [zI 1] (d, G, E)) ∧ (¬ (v2 ≠ 0) → ∃ b_2, o5 = some b_2 ∧ zCk d G b_2 ∧ Z zm_X4_fits kz Q 63 [(0, zR 36), (2, zI v2), (3, zR r3), (4, zI v4), (5, zR b_2), (6, zO o6), (7, zI s0)] [zI ((E b_2 12))] (d, G, E))) : Z zm_X4_fits kz Q 48 [(0, zR 36), (2, zI v2), (3, zR r3), (4, zI v4), (5, zO o5), (6, zO o6)] [zI s0] (d, G, E) := by
  refine Z.istore (ls' := [(7, zI s0), (0, zR 36), (2, zI v2), (3, zR r3), (4, zI v4), (5, zO o5), (6, zO o6)]) dX4_fits_48 (by decide) rfl ?_
  refine Z.iload_n (k := 2) dX4_fits_50 rfl ?_
  refine Z.if_ne 62 dX4_fits_51 rfl ⟨fun c_1 => ?_, fun c_1 => ?_⟩
  · replace K := K.1 c_1
    refine Z.iconst (n := 1) dX4_fits_62 ⟨by decide, by decide⟩ ?_
    refine Z.pick (ls' := [(0, zR 36), (2, zI v2), (3, zR r3), (4, zI v4), (5, zO o5), (6, zO o6), (7, zI s0)]) [1, 2, 3, 4, 5, 6, 0] rfl ?_
    exact K
  · replace K := K.2 c_1
    refine Z.aload (k := 5) dX4_fits_54 rfl ?_
    obtain ⟨b_2, e_3, hc_4, K⟩ := K
    rw [e_3]
    refine Y.getI 12 dX4_fits_56 zl_X4_91 (congrArg Prod.fst hc_4.1) (by decide) rfl hc_4.2.1 ?_
    refine Z.goto 63 dX4_fits_59 rfl ?_
    refine Z.pick (ls' := [(0, zR 36), (2, zI v2), (3, zR r3), (4, zI v4), (5, zR b_2), (6, zO o6), (7, zI s0)]) [1, 2, 3, 4, 5, 6, 0] rfl ?_
    exact K
set_option maxRecDepth 20000 in
theorem X4_fits_63 {kz : Nat × Nat} {Q : Option zV → zH → Prop} {d : List Nat} {G : Nat → Int → Option Nat} {E : Nat → Int → Int} {v2 : Int} {r3 : Nat} {v4 : Int} {o5 : Option Nat} {o6 : Option Nat} {v7 : Int} {s0 : Int} (hX : zK zXt d G) (hr3 : zRk d G r3) (K : (v2 ≠ 0 → ∃ b_2, o5 = some b_2 ∧ zCk d G b_2 ∧ Z zm_X4_fits kz Q 87 [(0, zR 36), (2, zI v2), (3, zR r3), (4, zI v4), (5, zR b_2), (6, zO o6), (7, zI v7), (8, zI s0)] [zI ((E b_2 12))] (d, G, E)) ∧ (¬ (v2 ≠ 0) → ∃ b_5, o5 = some b_5 ∧ zCk d G b_5 ∧ ((0 : Int) ≤ 1 ∧ 1 < (7 : Int)) ∧ Z zm_X4_fits kz Q 87 [(0, zR 36), (2, zI v2), (3, zR r3), (4, zI v4), (5, zR b_5), (6, zO o6), (7, zI v7), (8, zI s0)] [zI ((E ((b_5 + 1) + 2) 1))] (d, G, E))) : Z zm_X4_fits kz Q 63 [(0, zR 36), (2, zI v2), (3, zR r3), (4, zI v4), (5, zO o5), (6, zO o6), (7, zI v7)] [zI s0] (d, G, E) := by
  refine Z.istore (ls' := [(8, zI s0), (0, zR 36), (2, zI v2), (3, zR r3), (4, zI v4), (5, zO o5), (6, zO o6), (7, zI v7)]) dX4_fits_63 (by decide) rfl ?_
  refine Z.iload_n (k := 2) dX4_fits_65 rfl ?_
  refine Z.if_ne 82 dX4_fits_66 rfl ⟨fun c_1 => ?_, fun c_1 => ?_⟩
  · replace K := K.1 c_1
    refine Z.aload (k := 5) dX4_fits_82 rfl ?_
    obtain ⟨b_2, e_3, hc_4, K⟩ := K
    rw [e_3]
    refine Y.getI 12 dX4_fits_84 zl_X4_91 (congrArg Prod.fst hc_4.1) (by decide) rfl hc_4.2.1 ?_
    refine Z.pick (ls' := [(0, zR 36), (2, zI v2), (3, zR r3), (4, zI v4), (5, zR b_2), (6, zO o6), (7, zI v7), (8, zI s0)]) [1, 2, 3, 4, 5, 6, 7, 0] rfl ?_
    exact K
  · replace K := K.2 c_1
    refine Z.aload (k := 5) dX4_fits_69 rfl ?_
    obtain ⟨b_5, e_6, hc_7, K⟩ := K
    rw [e_6]
    refine Y.getR (o := some ((b_5 + 1))) 0 dX4_fits_71 zl_X4_82 (congrArg Prod.fst hc_7.1) (by decide) rfl hc_7.2.1 hc_7.2.2.2.1 ?_
    refine Y.getR (o := some ((b_5 + 1) + 2)) 1 dX4_fits_74 zl_X4_113 (congrArg Prod.fst hc_7.2.2.1.1) (by decide) rfl hc_7.2.2.1.2.2.2.2.1 hc_7.2.2.1.2.2.2.2.2.2.2.2.2.1 ?_
    refine Z.iconst (n := 1) dX4_fits_77 ⟨by decide, by decide⟩ ?_
    obtain ⟨z_8, K⟩ := K
    refine Y.iald dX4_fits_78 (hc_7.2.2.1.2.2.1) (hc_7.2.2.1.2.2.2.2.2.2.1) z_8 ?_
    refine Z.goto 87 dX4_fits_79 rfl ?_
    refine Z.pick (ls' := [(0, zR 36), (2, zI v2), (3, zR r3), (4, zI v4), (5, zR b_5), (6, zO o6), (7, zI v7), (8, zI s0)]) [1, 2, 3, 4, 5, 6, 7, 0] rfl ?_
    exact K
set_option maxRecDepth 20000 in
theorem X4_fits_87 {kz : Nat × Nat} {Q : Option zV → zH → Prop} {d : List Nat} {G : Nat → Int → Option Nat} {E : Nat → Int → Int} {v2 : Int} {r3 : Nat} {v4 : Int} {o5 : Option Nat} {o6 : Option Nat} {v7 : Int} {v8 : Int} {s0 : Int} (hX : zK zXt d G) (hr3 : zRk d G r3) (K : ∃ E_1, zM zm_X9_forget [zR 20, zI 0] (d, G, E) none (d, G, E_1) ∧ ∃ x_4 E_5, zM zm_X9_matches [zR 20, zO o6, zI v7, zR (r3 + 1), zI v4] (d, G, E_1) (some (zI x_4)) (d, G, E_5) ∧ (x_4 = 0 → Q (some (zI 0)) (d, G, E_5)) ∧ (¬ (x_4 = 0) → ∃ x_9, zM zm_X9_isTold [zR 20, zO o6, zI v8, zI s0] (d, G, E_5) (some (zI x_9)) (d, G, E_5) ∧ (x_9 ≠ 0 → ∃ E_13, zM zm_X9_layFirst [zR 20, zR r3] (d, G, E_5) none (d, G, E_13) ∧ ∃ b_16, o5 = some b_16 ∧ zCk d G b_16 ∧ ∃ E_19, zM zm_X9_laySecond [zR 20, zR ((b_16 + 1))] (d, G, E_13) none (d, G, E_19) ∧ ∀ E_22, E_22 = zuE E_19 20 14 0 → zin (180 + v8) ∧ zin (180 + s0) ∧ ∃ x_25 E_26, zM zm_X9_write [zR 20, zI ((180 + v8)), zI ((180 + s0)), zI 1000] (d, G, E_22) (some (zI x_25)) (d, G, E_26) ∧ (x_25 = 0 → Q (some (zI 0)) (d, G, E_26)) ∧ (¬ (x_25 = 0) → ((E_26 b_16 13) = 0 → ∃ x_31 E_32, zM zm_X6_compare [zR 18, zR (r3 + 1), zI v4, zR 29, zI 0] (d, G, E_26) (some (zI x_31)) (d, G, E_32) ∧ (x_31 ≠ 1 → Q (some (zI 0)) (d, G, E_32)) ∧ (¬ (x_31 ≠ 1) → Q (some (zI 1)) (d, G, E_32))) ∧ (¬ ((E_26 b_16 13) = 0) → (v2 = 0 → Q (some (zI 1)) (d, G, E_26)) ∧ (¬ (v2 = 0) → ∃ x_37 E_38, zM zm_X6_compare [zR 18, zR (r3 + 1), zI v4, zR 29, zI 0] (d, G, E_26) (some (zI x_37)) (d, G, E_38) ∧ (x_37 ≠ 1 → Q (some (zI 0)) (d, G, E_38)) ∧ (¬ (x_37 ≠ 1) → Q (some (zI 1)) (d, G, E_38)))))) ∧ (¬ (x_9 ≠ 0) → Q (some (zI 0)) (d, G, E_5)))) : Z zm_X4_fits kz Q 87 [(0, zR 36), (2, zI v2), (3, zR r3), (4, zI v4), (5, zO o5), (6, zO o6), (7, zI v7), (8, zI v8)] [zI s0] (d, G, E) := by
  refine Z.istore (ls' := [(9, zI s0), (0, zR 36), (2, zI v2), (3, zR r3), (4, zI v4), (5, zO o5), (6, zO o6), (7, zI v7), (8, zI v8)]) dX4_fits_87 (by decide) rfl ?_
  refine Z.aload_n (k := 1) dX4_fits_89 rfl ?_
  refine Y.getR (o := some 20) 2 dX4_fits_90 zl_X4_45 (rfl) (by decide) rfl (zX_0_9 hX).2.2 (zX_36_2 hX).1 ?_
  refine Z.iconst (n := 0) dX4_fits_93 ⟨by decide, by decide⟩ ?_
  obtain ⟨E_1, m_2, K⟩ := K
  refine Y.callV (g := zm_X9_forget) (vs := [zI 0]) (st := []) dX4_fits_94 ⟨zg_X9_forget.1, zg_X9_forget.2.1, zg_X9_forget.2.2, by decide⟩ ⟨zk_X4_141, zv_X9_forget⟩ (ci := 9) (rfl) rfl ((zX_0_6 hX).2.2) rfl rfl (Nat.le_of_ble_eq_true rfl) m_2 (Or.inl rfl) ?_
  show Z zm_X4_fits kz Q 97 [(9, zI s0), (0, zR 36), (2, zI v2), (3, zR r3), (4, zI v4), (5, zO o5), (6, zO o6), (7, zI v7), (8, zI v8)] [] (d, G, E_1)
  refine Z.aload_n (k := 1) dX4_fits_97 rfl ?_
  refine Y.getR (o := some 20) 2 dX4_fits_98 zl_X4_45 (rfl) (by decide) rfl (zX_0_9 hX).2.2 (zX_36_2 hX).1 ?_
  refine Z.aload (k := 6) dX4_fits_101 rfl ?_
  refine Z.iload (k := 7) dX4_fits_103 rfl ?_
  refine Z.aload_n (k := 3) dX4_fits_105 rfl ?_
  refine Y.getR (o := some (r3 + 1)) 0 dX4_fits_106 zl_X4_86 (congrArg Prod.fst hr3.1) (by decide) rfl hr3.2.2.2.2.1 hr3.2.2.2.2.2.2.2.2.1 ?_
  refine Z.iload (k := 4) dX4_fits_109 rfl ?_
  obtain ⟨x_4, E_5, m_6, K⟩ := K
  refine Y.callV (g := zm_X9_matches) (vs := [zO o6, zI v7, zR (r3 + 1), zI v4]) (st := []) dX4_fits_111 ⟨zg_X9_matches.1, zg_X9_matches.2.1, zg_X9_matches.2.2, by decide⟩ ⟨zk_X4_145, zv_X9_matches⟩ (ci := 9) (rfl) rfl ((zX_0_6 hX).2.2) rfl rfl (Nat.le_of_ble_eq_true rfl) m_6 (Or.inl rfl) ?_
  show Z zm_X4_fits kz Q 114 [(9, zI s0), (0, zR 36), (2, zI v2), (3, zR r3), (4, zI v4), (5, zO o5), (6, zO o6), (7, zI v7), (8, zI v8)] [zI x_4] (d, G, E_5)
  refine Z.if_eq 133 dX4_fits_114 rfl ⟨fun c_8 => ?_, fun c_8 => ?_⟩
  · replace K := K.1 c_8
    refine Z.iconst (n := 0) dX4_fits_133 ⟨by decide, by decide⟩ ?_
    exact Z.iret (ty := .boolean) dX4_fits_134 rfl rfl K
  · replace K := K.2 c_8
    refine Z.aload_n (k := 1) dX4_fits_117 rfl ?_
    refine Y.getR (o := some 20) 2 dX4_fits_118 zl_X4_45 (rfl) (by decide) rfl (zX_0_9 hX).2.2 (zX_36_2 hX).1 ?_
    refine Z.aload (k := 6) dX4_fits_121 rfl ?_
    refine Z.iload (k := 8) dX4_fits_123 rfl ?_
    refine Z.iload (k := 0) dX4_fits_125 rfl ?_
    obtain ⟨x_9, m_10, K⟩ := K
    refine Y.callV (g := zm_X9_isTold) (vs := [zO o6, zI v8, zI s0]) (st := []) dX4_fits_127 ⟨zg_X9_isTold.1, zg_X9_isTold.2.1, zg_X9_isTold.2.2, by decide⟩ ⟨zk_X4_149, zv_X9_isTold⟩ (ci := 9) (rfl) rfl ((zX_0_6 hX).2.2) rfl rfl (Nat.le_of_ble_eq_true rfl) m_10 (Or.inl rfl) ?_
    show Z zm_X4_fits kz Q 130 [(9, zI s0), (0, zR 36), (2, zI v2), (3, zR r3), (4, zI v4), (5, zO o5), (6, zO o6), (7, zI v7), (8, zI v8)] [zI x_9] (d, G, E_5)
    refine Z.if_ne 135 dX4_fits_130 rfl ⟨fun c_12 => ?_, fun c_12 => ?_⟩
    · replace K := K.1 c_12
      refine Z.aload_n (k := 1) dX4_fits_135 rfl ?_
      refine Y.getR (o := some 20) 2 dX4_fits_136 zl_X4_45 (rfl) (by decide) rfl (zX_0_9 hX).2.2 (zX_36_2 hX).1 ?_
      refine Z.aload_n (k := 3) dX4_fits_139 rfl ?_
      obtain ⟨E_13, m_14, K⟩ := K
      refine Y.callV (g := zm_X9_layFirst) (vs := [zR r3]) (st := []) dX4_fits_140 ⟨zg_X9_layFirst.1, zg_X9_layFirst.2.1, zg_X9_layFirst.2.2, by decide⟩ ⟨zk_X4_153, zv_X9_layFirst⟩ (ci := 9) (rfl) rfl ((zX_0_6 hX).2.2) rfl rfl (Nat.le_of_ble_eq_true rfl) m_14 (Or.inl rfl) ?_
      show Z zm_X4_fits kz Q 143 [(9, zI s0), (0, zR 36), (2, zI v2), (3, zR r3), (4, zI v4), (5, zO o5), (6, zO o6), (7, zI v7), (8, zI v8)] [] (d, G, E_13)
      refine Z.aload_n (k := 1) dX4_fits_143 rfl ?_
      refine Y.getR (o := some 20) 2 dX4_fits_144 zl_X4_45 (rfl) (by decide) rfl (zX_0_9 hX).2.2 (zX_36_2 hX).1 ?_
      refine Z.aload (k := 5) dX4_fits_147 rfl ?_
      obtain ⟨b_16, e_17, hc_18, K⟩ := K
      rw [e_17]
      refine Y.getR (o := some ((b_16 + 1))) 0 dX4_fits_149 zl_X4_82 (congrArg Prod.fst hc_18.1) (by decide) rfl hc_18.2.1 hc_18.2.2.2.1 ?_
      obtain ⟨E_19, m_20, K⟩ := K
      refine Y.callV (g := zm_X9_laySecond) (vs := [zR ((b_16 + 1))]) (st := []) dX4_fits_152 ⟨zg_X9_laySecond.1, zg_X9_laySecond.2.1, zg_X9_laySecond.2.2, by decide⟩ ⟨zk_X4_157, zv_X9_laySecond⟩ (ci := 9) (rfl) rfl ((zX_0_6 hX).2.2) rfl rfl (Nat.le_of_ble_eq_true rfl) m_20 (Or.inl rfl) ?_
      show Z zm_X4_fits kz Q 155 [(9, zI s0), (0, zR 36), (2, zI v2), (3, zR r3), (4, zI v4), (5, zR b_16), (6, zO o6), (7, zI v7), (8, zI v8)] [] (d, G, E_19)
      refine Z.aload_n (k := 1) dX4_fits_155 rfl ?_
      refine Y.getR (o := some 20) 2 dX4_fits_156 zl_X4_45 (rfl) (by decide) rfl (zX_0_9 hX).2.2 (zX_36_2 hX).1 ?_
      refine Z.iconst (n := 0) dX4_fits_159 ⟨by decide, by decide⟩ ?_
      refine Y.putI 14 dX4_fits_160 zw_X4_135 (fun q => by cases q) (rfl) rfl (zX_0_6 hX).2.2 (Or.inl rfl) ?_
      generalize eE_22 : zuE E_19 20 14 0 = E_22
      replace K := K E_22 eE_22.symm
      refine Z.aload_n (k := 1) dX4_fits_163 rfl ?_
      refine Y.getR (o := some 20) 2 dX4_fits_164 zl_X4_45 (rfl) (by decide) rfl (zX_0_9 hX).2.2 (zX_36_2 hX).1 ?_
      refine Z.sipush (n := 180) dX4_fits_167 ⟨by decide, by decide⟩ (by decide) ?_
      refine Z.iload (k := 8) dX4_fits_170 rfl ?_
      obtain ⟨z_23, K⟩ := K
      refine Z.iadd dX4_fits_172 z_23 ?_
      refine Z.sipush (n := 180) dX4_fits_173 ⟨by decide, by decide⟩ (by decide) ?_
      refine Z.iload (k := 0) dX4_fits_176 rfl ?_
      obtain ⟨z_24, K⟩ := K
      refine Z.iadd dX4_fits_178 z_24 ?_
      refine Z.sipush (n := 1000) dX4_fits_179 ⟨by decide, by decide⟩ (by decide) ?_
      obtain ⟨x_25, E_26, m_27, K⟩ := K
      refine Y.callV (g := zm_X9_write) (vs := [zI ((180 + v8)), zI ((180 + s0)), zI 1000]) (st := []) dX4_fits_182 ⟨zg_X9_write.1, zg_X9_write.2.1, zg_X9_write.2.2, by decide⟩ ⟨zk_X4_160, zv_X9_write⟩ (ci := 9) (rfl) rfl ((zX_0_6 hX).2.2) rfl rfl (Nat.le_of_ble_eq_true rfl) m_27 (Or.inl rfl) ?_
      show Z zm_X4_fits kz Q 185 [(9, zI s0), (0, zR 36), (2, zI v2), (3, zR r3), (4, zI v4), (5, zR b_16), (6, zO o6), (7, zI v7), (8, zI v8)] [zI x_25] (d, G, E_26)
      refine Z.if_eq 229 dX4_fits_185 rfl ⟨fun c_29 => ?_, fun c_29 => ?_⟩
      · replace K := K.1 c_29
        refine Z.iconst (n := 0) dX4_fits_229 ⟨by decide, by decide⟩ ?_
        exact Z.iret (ty := .boolean) dX4_fits_230 rfl rfl K
      · replace K := K.2 c_29
        refine Z.aload (k := 5) dX4_fits_188 rfl ?_
        refine Y.getI 13 dX4_fits_190 zl_X4_76 (congrArg Prod.fst hc_18.1) (by decide) rfl hc_18.2.1 ?_
        refine Z.if_eq 200 dX4_fits_193 rfl ⟨fun c_30 => ?_, fun c_30 => ?_⟩
        · replace K := K.1 c_30
          refine Z.aload_n (k := 1) dX4_fits_200 rfl ?_
          refine Y.getR (o := some 18) 1 dX4_fits_201 zl_X4_41 (rfl) (by decide) rfl (zX_0_9 hX).2.2 (zX_36_1 hX).1 ?_
          refine Z.aload_n (k := 3) dX4_fits_204 rfl ?_
          refine Y.getR (o := some (r3 + 1)) 0 dX4_fits_205 zl_X4_86 (congrArg Prod.fst hr3.1) (by decide) rfl hr3.2.2.2.2.1 hr3.2.2.2.2.2.2.2.2.1 ?_
          refine Z.iload (k := 4) dX4_fits_208 rfl ?_
          refine Z.aload_n (k := 1) dX4_fits_210 rfl ?_
          refine Y.getR (o := some 20) 2 dX4_fits_211 zl_X4_45 (rfl) (by decide) rfl (zX_0_9 hX).2.2 (zX_36_2 hX).1 ?_
          refine Y.getR (o := some 29) 13 dX4_fits_214 zl_X4_130 (rfl) (by decide) rfl (zX_0_6 hX).2.2 (zX_20_13 hX).1 ?_
          refine Z.iconst (n := 0) dX4_fits_217 ⟨by decide, by decide⟩ ?_
          obtain ⟨x_31, E_32, m_33, K⟩ := K
          refine Y.callV (g := zm_X6_compare) (vs := [zR (r3 + 1), zI v4, zR 29, zI 0]) (st := []) dX4_fits_218 ⟨zg_X6_compare.1, zg_X6_compare.2.1, zg_X6_compare.2.2, by decide⟩ ⟨zk_X4_164, zv_X6_compare⟩ (ci := 6) (rfl) rfl ((zX_0_5 hX).2.2) rfl rfl (Nat.le_of_ble_eq_true rfl) m_33 (Or.inl rfl) ?_
          show Z zm_X4_fits kz Q 221 [(9, zI s0), (0, zR 36), (2, zI v2), (3, zR r3), (4, zI v4), (5, zR b_16), (6, zO o6), (7, zI v7), (8, zI v8)] [zI x_31] (d, G, E_32)
          refine Z.iconst (n := 1) dX4_fits_221 ⟨by decide, by decide⟩ ?_
          refine Z.icmp_ne 229 dX4_fits_222 rfl ⟨fun c_35 => ?_, fun c_35 => ?_⟩
          · replace K := K.1 c_35
            refine Z.iconst (n := 0) dX4_fits_229 ⟨by decide, by decide⟩ ?_
            exact Z.iret (ty := .boolean) dX4_fits_230 rfl rfl K
          · replace K := K.2 c_35
            refine Z.iconst (n := 1) dX4_fits_225 ⟨by decide, by decide⟩ ?_
            refine Z.goto 230 dX4_fits_226 rfl ?_
            exact Z.iret (ty := .boolean) dX4_fits_230 rfl rfl K
        · replace K := K.2 c_30
          refine Z.iload_n (k := 2) dX4_fits_196 rfl ?_
          refine Z.if_eq 225 dX4_fits_197 rfl ⟨fun c_36 => ?_, fun c_36 => ?_⟩
          · replace K := K.1 c_36
            refine Z.iconst (n := 1) dX4_fits_225 ⟨by decide, by decide⟩ ?_
            refine Z.goto 230 dX4_fits_226 rfl ?_
            exact Z.iret (ty := .boolean) dX4_fits_230 rfl rfl K
          · replace K := K.2 c_36
            refine Z.aload_n (k := 1) dX4_fits_200 rfl ?_
            refine Y.getR (o := some 18) 1 dX4_fits_201 zl_X4_41 (rfl) (by decide) rfl (zX_0_9 hX).2.2 (zX_36_1 hX).1 ?_
            refine Z.aload_n (k := 3) dX4_fits_204 rfl ?_
            refine Y.getR (o := some (r3 + 1)) 0 dX4_fits_205 zl_X4_86 (congrArg Prod.fst hr3.1) (by decide) rfl hr3.2.2.2.2.1 hr3.2.2.2.2.2.2.2.2.1 ?_
            refine Z.iload (k := 4) dX4_fits_208 rfl ?_
            refine Z.aload_n (k := 1) dX4_fits_210 rfl ?_
            refine Y.getR (o := some 20) 2 dX4_fits_211 zl_X4_45 (rfl) (by decide) rfl (zX_0_9 hX).2.2 (zX_36_2 hX).1 ?_
            refine Y.getR (o := some 29) 13 dX4_fits_214 zl_X4_130 (rfl) (by decide) rfl (zX_0_6 hX).2.2 (zX_20_13 hX).1 ?_
            refine Z.iconst (n := 0) dX4_fits_217 ⟨by decide, by decide⟩ ?_
            obtain ⟨x_37, E_38, m_39, K⟩ := K
            refine Y.callV (g := zm_X6_compare) (vs := [zR (r3 + 1), zI v4, zR 29, zI 0]) (st := []) dX4_fits_218 ⟨zg_X6_compare.1, zg_X6_compare.2.1, zg_X6_compare.2.2, by decide⟩ ⟨zk_X4_164, zv_X6_compare⟩ (ci := 6) (rfl) rfl ((zX_0_5 hX).2.2) rfl rfl (Nat.le_of_ble_eq_true rfl) m_39 (Or.inl rfl) ?_
            show Z zm_X4_fits kz Q 221 [(9, zI s0), (0, zR 36), (2, zI v2), (3, zR r3), (4, zI v4), (5, zR b_16), (6, zO o6), (7, zI v7), (8, zI v8)] [zI x_37] (d, G, E_38)
            refine Z.iconst (n := 1) dX4_fits_221 ⟨by decide, by decide⟩ ?_
            refine Z.icmp_ne 229 dX4_fits_222 rfl ⟨fun c_41 => ?_, fun c_41 => ?_⟩
            · replace K := K.1 c_41
              refine Z.iconst (n := 0) dX4_fits_229 ⟨by decide, by decide⟩ ?_
              exact Z.iret (ty := .boolean) dX4_fits_230 rfl rfl K
            · replace K := K.2 c_41
              refine Z.iconst (n := 1) dX4_fits_225 ⟨by decide, by decide⟩ ?_
              refine Z.goto 230 dX4_fits_226 rfl ?_
              exact Z.iret (ty := .boolean) dX4_fits_230 rfl rfl K
    · replace K := K.2 c_12
      refine Z.iconst (n := 0) dX4_fits_133 ⟨by decide, by decide⟩ ?_
      exact Z.iret (ty := .boolean) dX4_fits_134 rfl rfl K
set_option maxRecDepth 20000 in
theorem X4_note_0 {kz : Nat × Nat} {Q : Option zV → zH → Prop} {d : List Nat} {G : Nat → Int → Option Nat} {E : Nat → Int → Int} {v1 : Int} {r2 : Nat} {v3 : Int} {v4 : Int} (hX : zK zXt d G) (hr2 : zRk d G r2) (K : ∀ E_1, E_1 = zuE E 36 8 v3 → ∀ E_2, E_2 = zuE E_1 36 9 v4 → zin (4 * (E_2 36 11)) ∧ zin ((4 * (E_2 36 11)) + 3) ∧ (32 ≤ ((4 * (E_2 36 11)) + 3) → Q none (d, G, E_2)) ∧ (¬ (32 ≤ ((4 * (E_2 36 11)) + 3)) → ((0 : Int) ≤ v1 ∧ v1 < (300 : Int)) ∧ ((0 : Int) ≤ (4 * (E_2 36 11)) ∧ (4 * (E_2 36 11)) < (32 : Int)) ∧ ∀ E_8, E_8 = zuE E_2 40 ((4 * (E_2 36 11))) ((E_2 37 v1)) → zin ((4 * (E_2 36 11)) + 1) ∧ ((0 : Int) ≤ v1 ∧ v1 < (300 : Int)) ∧ ((0 : Int) ≤ ((4 * (E_2 36 11)) + 1) ∧ ((4 * (E_2 36 11)) + 1) < (32 : Int)) ∧ ∀ E_12, E_12 = zuE E_8 40 (((4 * (E_2 36 11)) + 1)) ((E_8 38 v1)) → zin ((4 * (E_2 36 11)) + 2) ∧ ((0 : Int) ≤ ((4 * (E_2 36 11)) + 2) ∧ ((4 * (E_2 36 11)) + 2) < (32 : Int)) ∧ ∀ E_15, E_15 = zuE E_12 40 (((4 * (E_2 36 11)) + 2)) v3 → zin ((4 * (E_2 36 11)) + 3) ∧ ((0 : Int) ≤ v3 ∧ v3 < (7 : Int)) ∧ zin (v4 - (E_15 (r2 + 2) v3)) ∧ ((0 : Int) ≤ ((4 * (E_2 36 11)) + 3) ∧ ((4 * (E_2 36 11)) + 3) < (32 : Int)) ∧ ∀ E_20, E_20 = zuE E_15 40 (((4 * (E_2 36 11)) + 3)) ((v4 - (E_15 (r2 + 2) v3))) → Q none (d, G, E_20))) : Z zm_X4_note kz Q 0 [(0, zR 36), (1, zI v1), (2, zR r2), (3, zI v3), (4, zI v4)] [] (d, G, E) := by
  refine Z.aload_n (k := 0) dX4_note_0 rfl ?_
  refine Z.iload_n (k := 3) dX4_note_1 rfl ?_
  refine Y.putI 8 dX4_note_2 zw_X4_25 (fun q => by cases q) (rfl) rfl (zX_0_9 hX).2.2 (Or.inl rfl) ?_
  generalize eE_1 : zuE E 36 8 v3 = E_1
  replace K := K E_1 eE_1.symm
  refine Z.aload_n (k := 0) dX4_note_5 rfl ?_
  refine Z.iload (k := 4) dX4_note_6 rfl ?_
  refine Y.putI 9 dX4_note_8 zw_X4_28 (fun q => by cases q) (rfl) rfl (zX_0_9 hX).2.2 (Or.inl rfl) ?_
  generalize eE_2 : zuE E_1 36 9 v4 = E_2
  replace K := K E_2 eE_2.symm
  refine Z.iconst (n := 4) dX4_note_11 ⟨by decide, by decide⟩ ?_
  refine Z.aload_n (k := 0) dX4_note_12 rfl ?_
  refine Y.getI 11 dX4_note_13 zl_X4_34 (rfl) (by decide) rfl (zX_0_9 hX).2.2 ?_
  obtain ⟨z_3, K⟩ := K
  refine Z.imul dX4_note_16 z_3 ?_
  refine Z.istore (ls' := [(5, zI ((4 * (E_2 36 11)))), (0, zR 36), (1, zI v1), (2, zR r2), (3, zI v3), (4, zI v4)]) dX4_note_17 (by decide) rfl ?_
  refine Z.iload (k := 0) dX4_note_19 rfl ?_
  refine Z.iconst (n := 3) dX4_note_21 ⟨by decide, by decide⟩ ?_
  obtain ⟨z_4, K⟩ := K
  refine Z.iadd dX4_note_22 z_4 ?_
  refine Z.aload_n (k := 1) dX4_note_23 rfl ?_
  refine Y.getR (o := some 40) 10 dX4_note_24 zl_X4_31 (rfl) (by decide) rfl (zX_0_9 hX).2.2 (zX_36_10 hX).1 ?_
  refine Y.alen 32 32 dX4_note_27 (rfl) ((zX_36_10 hX).2.2) rfl ⟨by decide, by decide⟩ ?_
  refine Z.icmp_ge 87 dX4_note_28 rfl ⟨fun c_5 => ?_, fun c_5 => ?_⟩
  · replace K := K.1 c_5
    exact Z.vret dX4_note_87 rfl K
  · replace K := K.2 c_5
    refine Z.aload_n (k := 1) dX4_note_31 rfl ?_
    refine Y.getR (o := some 40) 10 dX4_note_32 zl_X4_31 (rfl) (by decide) rfl (zX_0_9 hX).2.2 (zX_36_10 hX).1 ?_
    refine Z.iload (k := 0) dX4_note_35 rfl ?_
    refine Z.aload_n (k := 1) dX4_note_37 rfl ?_
    refine Y.getR (o := some 37) 4 dX4_note_38 zl_X4_9 (rfl) (by decide) rfl (zX_0_9 hX).2.2 (zX_36_4 hX).1 ?_
    refine Z.iload_n (k := 2) dX4_note_41 rfl ?_
    obtain ⟨z_6, K⟩ := K
    refine Y.iald dX4_note_42 (rfl) ((zX_36_4 hX).2.2) z_6 ?_
    obtain ⟨z_7, K⟩ := K
    refine Y.iast dX4_note_43 (rfl) ((zX_36_10 hX).2.2) z_7 ?_
    generalize eE_8 : zuE E_2 40 ((4 * (E_2 36 11))) ((E_2 37 v1)) = E_8
    replace K := K E_8 eE_8.symm
    refine Z.aload_n (k := 1) dX4_note_44 rfl ?_
    refine Y.getR (o := some 40) 10 dX4_note_45 zl_X4_31 (rfl) (by decide) rfl (zX_0_9 hX).2.2 (zX_36_10 hX).1 ?_
    refine Z.iload (k := 0) dX4_note_48 rfl ?_
    refine Z.iconst (n := 1) dX4_note_50 ⟨by decide, by decide⟩ ?_
    obtain ⟨z_9, K⟩ := K
    refine Z.iadd dX4_note_51 z_9 ?_
    refine Z.aload_n (k := 1) dX4_note_52 rfl ?_
    refine Y.getR (o := some 38) 5 dX4_note_53 zl_X4_15 (rfl) (by decide) rfl (zX_0_9 hX).2.2 (zX_36_5 hX).1 ?_
    refine Z.iload_n (k := 2) dX4_note_56 rfl ?_
    obtain ⟨z_10, K⟩ := K
    refine Y.iald dX4_note_57 (rfl) ((zX_36_5 hX).2.2) z_10 ?_
    obtain ⟨z_11, K⟩ := K
    refine Y.iast dX4_note_58 (rfl) ((zX_36_10 hX).2.2) z_11 ?_
    generalize eE_12 : zuE E_8 40 (((4 * (E_2 36 11)) + 1)) ((E_8 38 v1)) = E_12
    replace K := K E_12 eE_12.symm
    refine Z.aload_n (k := 1) dX4_note_59 rfl ?_
    refine Y.getR (o := some 40) 10 dX4_note_60 zl_X4_31 (rfl) (by decide) rfl (zX_0_9 hX).2.2 (zX_36_10 hX).1 ?_
    refine Z.iload (k := 0) dX4_note_63 rfl ?_
    refine Z.iconst (n := 2) dX4_note_65 ⟨by decide, by decide⟩ ?_
    obtain ⟨z_13, K⟩ := K
    refine Z.iadd dX4_note_66 z_13 ?_
    refine Z.iload_n (k := 4) dX4_note_67 rfl ?_
    obtain ⟨z_14, K⟩ := K
    refine Y.iast dX4_note_68 (rfl) ((zX_36_10 hX).2.2) z_14 ?_
    generalize eE_15 : zuE E_12 40 (((4 * (E_2 36 11)) + 2)) v3 = E_15
    replace K := K E_15 eE_15.symm
    refine Z.aload_n (k := 1) dX4_note_69 rfl ?_
    refine Y.getR (o := some 40) 10 dX4_note_70 zl_X4_31 (rfl) (by decide) rfl (zX_0_9 hX).2.2 (zX_36_10 hX).1 ?_
    refine Z.iload (k := 0) dX4_note_73 rfl ?_
    refine Z.iconst (n := 3) dX4_note_75 ⟨by decide, by decide⟩ ?_
    obtain ⟨z_16, K⟩ := K
    refine Z.iadd dX4_note_76 z_16 ?_
    refine Z.iload (k := 5) dX4_note_77 rfl ?_
    refine Z.aload_n (k := 3) dX4_note_79 rfl ?_
    refine Y.getR (o := some (r2 + 2)) 1 dX4_note_80 zl_X4_113 (congrArg Prod.fst hr2.1) (by decide) rfl hr2.2.2.2.2.1 hr2.2.2.2.2.2.2.2.2.2.1 ?_
    refine Z.iload_n (k := 4) dX4_note_83 rfl ?_
    obtain ⟨z_17, K⟩ := K
    refine Y.iald dX4_note_84 (hr2.2.2.1) (hr2.2.2.2.2.2.2.1) z_17 ?_
    obtain ⟨z_18, K⟩ := K
    refine Z.isub dX4_note_85 z_18 ?_
    obtain ⟨z_19, K⟩ := K
    refine Y.iast dX4_note_86 (rfl) ((zX_36_10 hX).2.2) z_19 ?_
    generalize eE_20 : zuE E_15 40 (((4 * (E_2 36 11)) + 3)) ((v4 - (E_15 (r2 + 2) v3))) = E_20
    replace K := K E_20 eE_20.symm
    exact Z.vret dX4_note_87 rfl K
set_option maxRecDepth 20000 in
theorem X4_findFirst_0 {kz : Nat × Nat} {Q : Option zV → zH → Prop} {d : List Nat} {G : Nat → Int → Option Nat} {E : Nat → Int → Int} {r1 : Nat} (hX : zK zXt d G) (hr1 : zRk d G r1) (K : Z zm_X4_findFirst kz Q 2 [(0, zR 36), (1, zR r1), (2, zI 0)] [] (d, G, E)) : Z zm_X4_findFirst kz Q 0 [(0, zR 36), (1, zR r1)] [] (d, G, E) := by
  refine Z.iconst (n := 0) dX4_findFirst_0 ⟨by decide, by decide⟩ ?_
  refine Z.istore_n (ls' := [(2, zI 0), (0, zR 36), (1, zR r1)]) dX4_findFirst_1 (by decide) rfl ?_
  refine Z.pick (ls' := [(0, zR 36), (1, zR r1), (2, zI 0)]) [1, 2, 0] rfl ?_
  exact K
set_option maxRecDepth 20000 in
theorem X4_findFirst_2 {kz : Nat × Nat} {Q : Option zV → zH → Prop} {d : List Nat} {G : Nat → Int → Option Nat} {E : Nat → Int → Int} {r1 : Nat} {v2 : Int} (hX : zK zXt d G) (hr1 : zRk d G r1) (K : ((E r1 3) ≤ v2 → Q (some (zI 0)) (d, G, E)) ∧ (¬ ((E r1 3) ≤ v2) → ((E 36 7) ≤ 0 → Q (some (zI 0)) (d, G, E)) ∧ (¬ ((E 36 7) ≤ 0) → ((0 : Int) ≤ v2 ∧ v2 < (7 : Int)) ∧ zin ((E (r1 + 2) v2) + 1) ∧ Z zm_X4_findFirst kz Q 26 [(0, zR 36), (1, zR r1), (2, zI v2), (3, zI (((E (r1 + 2) v2) + 1)))] [] (d, G, E)))) : Z zm_X4_findFirst kz Q 2 [(0, zR 36), (1, zR r1), (2, zI v2)] [] (d, G, E) := by
  refine Z.iload_n (k := 2) dX4_findFirst_2 rfl ?_
  refine Z.aload_n (k := 1) dX4_findFirst_3 rfl ?_
  refine Y.getI 3 dX4_findFirst_4 zl_X4_110 (congrArg Prod.fst hr1.1) (by decide) rfl hr1.2.2.2.2.1 ?_
  refine Z.icmp_ge 137 dX4_findFirst_7 rfl ⟨fun c_1 => ?_, fun c_1 => ?_⟩
  · replace K := K.1 c_1
    refine Z.iconst (n := 0) dX4_findFirst_137 ⟨by decide, by decide⟩ ?_
    exact Z.iret (ty := .boolean) dX4_findFirst_138 rfl rfl K
  · replace K := K.2 c_1
    refine Z.aload_n (k := 0) dX4_findFirst_10 rfl ?_
    refine Y.getI 7 dX4_findFirst_11 zl_X4_21 (rfl) (by decide) rfl (zX_0_9 hX).2.2 ?_
    refine Z.if_le 137 dX4_findFirst_14 rfl ⟨fun c_2 => ?_, fun c_2 => ?_⟩
    · replace K := K.1 c_2
      refine Z.iconst (n := 0) dX4_findFirst_137 ⟨by decide, by decide⟩ ?_
      exact Z.iret (ty := .boolean) dX4_findFirst_138 rfl rfl K
    · replace K := K.2 c_2
      refine Z.aload_n (k := 1) dX4_findFirst_17 rfl ?_
      refine Y.getR (o := some (r1 + 2)) 1 dX4_findFirst_18 zl_X4_113 (congrArg Prod.fst hr1.1) (by decide) rfl hr1.2.2.2.2.1 hr1.2.2.2.2.2.2.2.2.2.1 ?_
      refine Z.iload_n (k := 2) dX4_findFirst_21 rfl ?_
      obtain ⟨z_3, K⟩ := K
      refine Y.iald dX4_findFirst_22 (hr1.2.2.1) (hr1.2.2.2.2.2.2.1) z_3 ?_
      refine Z.iconst (n := 1) dX4_findFirst_23 ⟨by decide, by decide⟩ ?_
      obtain ⟨z_4, K⟩ := K
      refine Z.iadd dX4_findFirst_24 z_4 ?_
      refine Z.istore_n (ls' := [(3, zI (((E (r1 + 2) v2) + 1))), (0, zR 36), (1, zR r1), (2, zI v2)]) dX4_findFirst_25 (by decide) rfl ?_
      refine Z.pick (ls' := [(0, zR 36), (1, zR r1), (2, zI v2), (3, zI (((E (r1 + 2) v2) + 1)))]) [1, 2, 3, 0] rfl ?_
      exact K
set_option maxRecDepth 20000 in
theorem X4_findFirst_26 {kz : Nat × Nat} {Q : Option zV → zH → Prop} {d : List Nat} {G : Nat → Int → Option Nat} {E : Nat → Int → Int} {r1 : Nat} {v2 : Int} {v3 : Int} (hX : zK zXt d G) (hr1 : zRk d G r1) (K : zin (v2 + 1) ∧ ((0 : Int) ≤ (v2 + 1) ∧ (v2 + 1) < (7 : Int)) ∧ ((E (r1 + 2) (v2 + 1)) ≤ v3 → zin (v2 + 1) ∧ Z zm_X4_findFirst kz Q 2 [(0, zR 36), (1, zR r1), (2, zI ((v2 + 1)))] [] (d, G, E)) ∧ (¬ ((E (r1 + 2) (v2 + 1)) ≤ v3) → ((0 : Int) ≤ v3 ∧ v3 < (180 : Int)) ∧ Z zm_X4_findFirst kz Q 49 [(0, zR 36), (1, zR r1), (2, zI v2), (3, zI v3), (4, zI ((E (r1 + 1) v3))), (5, zI 0)] [] (d, G, E))) : Z zm_X4_findFirst kz Q 26 [(0, zR 36), (1, zR r1), (2, zI v2), (3, zI v3)] [] (d, G, E) := by
  refine Z.iload_n (k := 3) dX4_findFirst_26 rfl ?_
  refine Z.aload_n (k := 1) dX4_findFirst_27 rfl ?_
  refine Y.getR (o := some (r1 + 2)) 1 dX4_findFirst_28 zl_X4_113 (congrArg Prod.fst hr1.1) (by decide) rfl hr1.2.2.2.2.1 hr1.2.2.2.2.2.2.2.2.2.1 ?_
  refine Z.iload_n (k := 2) dX4_findFirst_31 rfl ?_
  refine Z.iconst (n := 1) dX4_findFirst_32 ⟨by decide, by decide⟩ ?_
  obtain ⟨z_1, K⟩ := K
  refine Z.iadd dX4_findFirst_33 z_1 ?_
  obtain ⟨z_2, K⟩ := K
  refine Y.iald dX4_findFirst_34 (hr1.2.2.1) (hr1.2.2.2.2.2.2.1) z_2 ?_
  refine Z.icmp_ge 131 dX4_findFirst_35 rfl ⟨fun c_3 => ?_, fun c_3 => ?_⟩
  · replace K := K.1 c_3
    obtain ⟨z_4, K⟩ := K
    refine Z.iinc (k := 2) (ls' := [(2, zI ((v2 + 1))), (0, zR 36), (1, zR r1), (3, zI v3)]) dX4_findFirst_131 rfl (by decide) z_4 rfl ?_
    refine Z.goto 2 dX4_findFirst_134 rfl ?_
    refine Z.pick (ls' := [(0, zR 36), (1, zR r1), (2, zI ((v2 + 1)))]) [1, 2, 0] rfl ?_
    exact K
  · replace K := K.2 c_3
    refine Z.aload_n (k := 1) dX4_findFirst_38 rfl ?_
    refine Y.getR (o := some (r1 + 1)) 0 dX4_findFirst_39 zl_X4_86 (congrArg Prod.fst hr1.1) (by decide) rfl hr1.2.2.2.2.1 hr1.2.2.2.2.2.2.2.2.1 ?_
    refine Z.iload_n (k := 3) dX4_findFirst_42 rfl ?_
    obtain ⟨z_5, K⟩ := K
    refine Y.iald dX4_findFirst_43 (hr1.2.1) (hr1.2.2.2.2.2.1) z_5 ?_
    refine Z.istore (ls' := [(4, zI ((E (r1 + 1) v3))), (0, zR 36), (1, zR r1), (2, zI v2), (3, zI v3)]) dX4_findFirst_44 (by decide) rfl ?_
    refine Z.iconst (n := 0) dX4_findFirst_46 ⟨by decide, by decide⟩ ?_
    refine Z.istore (ls' := [(5, zI 0), (4, zI ((E (r1 + 1) v3))), (0, zR 36), (1, zR r1), (2, zI v2), (3, zI v3)]) dX4_findFirst_47 (by decide) rfl ?_
    refine Z.pick (ls' := [(0, zR 36), (1, zR r1), (2, zI v2), (3, zI v3), (4, zI ((E (r1 + 1) v3))), (5, zI 0)]) [2, 3, 4, 5, 1, 0] rfl ?_
    exact K
set_option maxRecDepth 20000 in
theorem X4_findFirst_49 {kz : Nat × Nat} {Q : Option zV → zH → Prop} {d : List Nat} {G : Nat → Int → Option Nat} {E : Nat → Int → Int} {r1 : Nat} {v2 : Int} {v3 : Int} {v4 : Int} {v5 : Int} (hX : zK zXt d G) (hr1 : zRk d G r1) (K : ((E 36 7) ≤ v5 → zin (v3 + 1) ∧ Z zm_X4_findFirst kz Q 26 [(0, zR 36), (1, zR r1), (2, zI v2), (3, zI ((v3 + 1)))] [] (d, G, E)) ∧ (¬ ((E 36 7) ≤ v5) → (v4 < 0 → zin (v3 + 1) ∧ Z zm_X4_findFirst kz Q 26 [(0, zR 36), (1, zR r1), (2, zI v2), (3, zI ((v3 + 1)))] [] (d, G, E)) ∧ (¬ (v4 < 0) → ((0 : Int) ≤ v5 ∧ v5 < (300 : Int)) ∧ ((E 39 v5) < 0 → ((0 : Int) ≤ v5 ∧ v5 < (300 : Int)) ∧ ((0 : Int) ≤ v5 ∧ v5 < (300 : Int)) ∧ ∃ x_9 E_10, zM zm_X4_fits [zR 36, zI ((E 37 v5)), zI ((E 38 v5)), zR r1, zI v3] (d, G, E) (some (zI x_9)) (d, G, E_10) ∧ (x_9 = 0 → zin (v5 + 1) ∧ Z zm_X4_findFirst kz Q 49 [(0, zR 36), (1, zR r1), (2, zI v2), (3, zI v3), (4, zI v4), (5, zI ((v5 + 1)))] [] (d, G, E_10)) ∧ (¬ (x_9 = 0) → ∃ E_15, zM zm_X4_note [zR 36, zI v5, zR r1, zI v2, zI v3] (d, G, E_10) none (d, G, E_15) ∧ Q (some (zI 1)) (d, G, E_15))) ∧ (¬ ((E 39 v5) < 0) → ((0 : Int) ≤ v5 ∧ v5 < (300 : Int)) ∧ ((E 39 v5) ≠ v4 → zin (v5 + 1) ∧ Z zm_X4_findFirst kz Q 49 [(0, zR 36), (1, zR r1), (2, zI v2), (3, zI v3), (4, zI v4), (5, zI ((v5 + 1)))] [] (d, G, E)) ∧ (¬ ((E 39 v5) ≠ v4) → ((0 : Int) ≤ v5 ∧ v5 < (300 : Int)) ∧ ((0 : Int) ≤ v5 ∧ v5 < (300 : Int)) ∧ ∃ x_23 E_24, zM zm_X4_fits [zR 36, zI ((E 37 v5)), zI ((E 38 v5)), zR r1, zI v3] (d, G, E) (some (zI x_23)) (d, G, E_24) ∧ (x_23 = 0 → zin (v5 + 1) ∧ Z zm_X4_findFirst kz Q 49 [(0, zR 36), (1, zR r1), (2, zI v2), (3, zI v3), (4, zI v4), (5, zI ((v5 + 1)))] [] (d, G, E_24)) ∧ (¬ (x_23 = 0) → ∃ E_29, zM zm_X4_note [zR 36, zI v5, zR r1, zI v2, zI v3] (d, G, E_24) none (d, G, E_29) ∧ Q (some (zI 1)) (d, G, E_29))))))) : Z zm_X4_findFirst kz Q 49 [(0, zR 36), (1, zR r1), (2, zI v2), (3, zI v3), (4, zI v4), (5, zI v5)] [] (d, G, E) := by
  refine Z.iload (k := 5) dX4_findFirst_49 rfl ?_
  refine Z.aload_n (k := 0) dX4_findFirst_51 rfl ?_
  refine Y.getI 7 dX4_findFirst_52 zl_X4_21 (rfl) (by decide) rfl (zX_0_9 hX).2.2 ?_
  refine Z.icmp_ge 125 dX4_findFirst_55 rfl ⟨fun c_1 => ?_, fun c_1 => ?_⟩
  · replace K := K.1 c_1
    obtain ⟨z_2, K⟩ := K
    refine Z.iinc (k := 3) (ls' := [(3, zI ((v3 + 1))), (0, zR 36), (1, zR r1), (2, zI v2), (4, zI v4), (5, zI v5)]) dX4_findFirst_125 rfl (by decide) z_2 rfl ?_
    refine Z.goto 26 dX4_findFirst_128 rfl ?_
    refine Z.pick (ls' := [(0, zR 36), (1, zR r1), (2, zI v2), (3, zI ((v3 + 1)))]) [1, 2, 3, 0] rfl ?_
    exact K
  · replace K := K.2 c_1
    refine Z.iload (k := 4) dX4_findFirst_58 rfl ?_
    refine Z.if_lt 125 dX4_findFirst_60 rfl ⟨fun c_3 => ?_, fun c_3 => ?_⟩
    · replace K := K.1 c_3
      obtain ⟨z_4, K⟩ := K
      refine Z.iinc (k := 3) (ls' := [(3, zI ((v3 + 1))), (0, zR 36), (1, zR r1), (2, zI v2), (4, zI v4), (5, zI v5)]) dX4_findFirst_125 rfl (by decide) z_4 rfl ?_
      refine Z.goto 26 dX4_findFirst_128 rfl ?_
      refine Z.pick (ls' := [(0, zR 36), (1, zR r1), (2, zI v2), (3, zI ((v3 + 1)))]) [1, 2, 3, 0] rfl ?_
      exact K
    · replace K := K.2 c_3
      refine Z.aload_n (k := 0) dX4_findFirst_63 rfl ?_
      refine Y.getR (o := some 39) 6 dX4_findFirst_64 zl_X4_18 (rfl) (by decide) rfl (zX_0_9 hX).2.2 (zX_36_6 hX).1 ?_
      refine Z.iload (k := 5) dX4_findFirst_67 rfl ?_
      obtain ⟨z_5, K⟩ := K
      refine Y.iald dX4_findFirst_69 (rfl) ((zX_36_6 hX).2.2) z_5 ?_
      refine Z.if_lt 85 dX4_findFirst_70 rfl ⟨fun c_6 => ?_, fun c_6 => ?_⟩
      · replace K := K.1 c_6
        refine Z.aload_n (k := 0) dX4_findFirst_85 rfl ?_
        refine Z.aload_n (k := 0) dX4_findFirst_86 rfl ?_
        refine Y.getR (o := some 37) 4 dX4_findFirst_87 zl_X4_9 (rfl) (by decide) rfl (zX_0_9 hX).2.2 (zX_36_4 hX).1 ?_
        refine Z.iload (k := 5) dX4_findFirst_90 rfl ?_
        obtain ⟨z_7, K⟩ := K
        refine Y.iald dX4_findFirst_92 (rfl) ((zX_36_4 hX).2.2) z_7 ?_
        refine Z.aload_n (k := 0) dX4_findFirst_93 rfl ?_
        refine Y.getR (o := some 38) 5 dX4_findFirst_94 zl_X4_15 (rfl) (by decide) rfl (zX_0_9 hX).2.2 (zX_36_5 hX).1 ?_
        refine Z.iload (k := 5) dX4_findFirst_97 rfl ?_
        obtain ⟨z_8, K⟩ := K
        refine Y.iald dX4_findFirst_99 (rfl) ((zX_36_5 hX).2.2) z_8 ?_
        refine Z.aload_n (k := 1) dX4_findFirst_100 rfl ?_
        refine Z.iload_n (k := 3) dX4_findFirst_101 rfl ?_
        obtain ⟨x_9, E_10, m_11, K⟩ := K
        refine Y.callV (g := zm_X4_fits) (vs := [zI ((E 37 v5)), zI ((E 38 v5)), zR r1, zI v3]) (st := []) dX4_findFirst_102 ⟨zg_X4_fits.1, zg_X4_fits.2.1, zg_X4_fits.2.2, by decide⟩ ⟨zk_X4_116, zv_X4_fits⟩ (ci := 4) (rfl) rfl ((zX_0_9 hX).2.2) rfl rfl (Nat.le_of_ble_eq_true rfl) m_11 (Or.inl rfl) ?_
        show Z zm_X4_findFirst kz Q 105 [(0, zR 36), (1, zR r1), (2, zI v2), (3, zI v3), (4, zI v4), (5, zI v5)] [zI x_9] (d, G, E_10)
        refine Z.if_eq 119 dX4_findFirst_105 rfl ⟨fun c_13 => ?_, fun c_13 => ?_⟩
        · replace K := K.1 c_13
          obtain ⟨z_14, K⟩ := K
          refine Z.iinc (k := 5) (ls' := [(5, zI ((v5 + 1))), (0, zR 36), (1, zR r1), (2, zI v2), (3, zI v3), (4, zI v4)]) dX4_findFirst_119 rfl (by decide) z_14 rfl ?_
          refine Z.goto 49 dX4_findFirst_122 rfl ?_
          refine Z.pick (ls' := [(0, zR 36), (1, zR r1), (2, zI v2), (3, zI v3), (4, zI v4), (5, zI ((v5 + 1)))]) [1, 2, 3, 4, 5, 0] rfl ?_
          exact K
        · replace K := K.2 c_13
          refine Z.aload_n (k := 0) dX4_findFirst_108 rfl ?_
          refine Z.iload (k := 5) dX4_findFirst_109 rfl ?_
          refine Z.aload_n (k := 1) dX4_findFirst_111 rfl ?_
          refine Z.iload_n (k := 2) dX4_findFirst_112 rfl ?_
          refine Z.iload_n (k := 3) dX4_findFirst_113 rfl ?_
          obtain ⟨E_15, m_16, K⟩ := K
          refine Y.callV (g := zm_X4_note) (vs := [zI v5, zR r1, zI v2, zI v3]) (st := []) dX4_findFirst_114 ⟨zg_X4_note.1, zg_X4_note.2.1, zg_X4_note.2.2, by decide⟩ ⟨zk_X4_120, zv_X4_note⟩ (ci := 4) (rfl) rfl ((zX_0_9 hX).2.2) rfl rfl (Nat.le_of_ble_eq_true rfl) m_16 (Or.inl rfl) ?_
          show Z zm_X4_findFirst kz Q 117 [(0, zR 36), (1, zR r1), (2, zI v2), (3, zI v3), (4, zI v4), (5, zI v5)] [] (d, G, E_15)
          refine Z.iconst (n := 1) dX4_findFirst_117 ⟨by decide, by decide⟩ ?_
          exact Z.iret (ty := .boolean) dX4_findFirst_118 rfl rfl K
      · replace K := K.2 c_6
        refine Z.aload_n (k := 0) dX4_findFirst_73 rfl ?_
        refine Y.getR (o := some 39) 6 dX4_findFirst_74 zl_X4_18 (rfl) (by decide) rfl (zX_0_9 hX).2.2 (zX_36_6 hX).1 ?_
        refine Z.iload (k := 5) dX4_findFirst_77 rfl ?_
        obtain ⟨z_18, K⟩ := K
        refine Y.iald dX4_findFirst_79 (rfl) ((zX_36_6 hX).2.2) z_18 ?_
        refine Z.iload (k := 4) dX4_findFirst_80 rfl ?_
        refine Z.icmp_ne 119 dX4_findFirst_82 rfl ⟨fun c_19 => ?_, fun c_19 => ?_⟩
        · replace K := K.1 c_19
          obtain ⟨z_20, K⟩ := K
          refine Z.iinc (k := 5) (ls' := [(5, zI ((v5 + 1))), (0, zR 36), (1, zR r1), (2, zI v2), (3, zI v3), (4, zI v4)]) dX4_findFirst_119 rfl (by decide) z_20 rfl ?_
          refine Z.goto 49 dX4_findFirst_122 rfl ?_
          refine Z.pick (ls' := [(0, zR 36), (1, zR r1), (2, zI v2), (3, zI v3), (4, zI v4), (5, zI ((v5 + 1)))]) [1, 2, 3, 4, 5, 0] rfl ?_
          exact K
        · replace K := K.2 c_19
          refine Z.aload_n (k := 0) dX4_findFirst_85 rfl ?_
          refine Z.aload_n (k := 0) dX4_findFirst_86 rfl ?_
          refine Y.getR (o := some 37) 4 dX4_findFirst_87 zl_X4_9 (rfl) (by decide) rfl (zX_0_9 hX).2.2 (zX_36_4 hX).1 ?_
          refine Z.iload (k := 5) dX4_findFirst_90 rfl ?_
          obtain ⟨z_21, K⟩ := K
          refine Y.iald dX4_findFirst_92 (rfl) ((zX_36_4 hX).2.2) z_21 ?_
          refine Z.aload_n (k := 0) dX4_findFirst_93 rfl ?_
          refine Y.getR (o := some 38) 5 dX4_findFirst_94 zl_X4_15 (rfl) (by decide) rfl (zX_0_9 hX).2.2 (zX_36_5 hX).1 ?_
          refine Z.iload (k := 5) dX4_findFirst_97 rfl ?_
          obtain ⟨z_22, K⟩ := K
          refine Y.iald dX4_findFirst_99 (rfl) ((zX_36_5 hX).2.2) z_22 ?_
          refine Z.aload_n (k := 1) dX4_findFirst_100 rfl ?_
          refine Z.iload_n (k := 3) dX4_findFirst_101 rfl ?_
          obtain ⟨x_23, E_24, m_25, K⟩ := K
          refine Y.callV (g := zm_X4_fits) (vs := [zI ((E 37 v5)), zI ((E 38 v5)), zR r1, zI v3]) (st := []) dX4_findFirst_102 ⟨zg_X4_fits.1, zg_X4_fits.2.1, zg_X4_fits.2.2, by decide⟩ ⟨zk_X4_116, zv_X4_fits⟩ (ci := 4) (rfl) rfl ((zX_0_9 hX).2.2) rfl rfl (Nat.le_of_ble_eq_true rfl) m_25 (Or.inl rfl) ?_
          show Z zm_X4_findFirst kz Q 105 [(0, zR 36), (1, zR r1), (2, zI v2), (3, zI v3), (4, zI v4), (5, zI v5)] [zI x_23] (d, G, E_24)
          refine Z.if_eq 119 dX4_findFirst_105 rfl ⟨fun c_27 => ?_, fun c_27 => ?_⟩
          · replace K := K.1 c_27
            obtain ⟨z_28, K⟩ := K
            refine Z.iinc (k := 5) (ls' := [(5, zI ((v5 + 1))), (0, zR 36), (1, zR r1), (2, zI v2), (3, zI v3), (4, zI v4)]) dX4_findFirst_119 rfl (by decide) z_28 rfl ?_
            refine Z.goto 49 dX4_findFirst_122 rfl ?_
            refine Z.pick (ls' := [(0, zR 36), (1, zR r1), (2, zI v2), (3, zI v3), (4, zI v4), (5, zI ((v5 + 1)))]) [1, 2, 3, 4, 5, 0] rfl ?_
            exact K
          · replace K := K.2 c_27
            refine Z.aload_n (k := 0) dX4_findFirst_108 rfl ?_
            refine Z.iload (k := 5) dX4_findFirst_109 rfl ?_
            refine Z.aload_n (k := 1) dX4_findFirst_111 rfl ?_
            refine Z.iload_n (k := 2) dX4_findFirst_112 rfl ?_
            refine Z.iload_n (k := 3) dX4_findFirst_113 rfl ?_
            obtain ⟨E_29, m_30, K⟩ := K
            refine Y.callV (g := zm_X4_note) (vs := [zI v5, zR r1, zI v2, zI v3]) (st := []) dX4_findFirst_114 ⟨zg_X4_note.1, zg_X4_note.2.1, zg_X4_note.2.2, by decide⟩ ⟨zk_X4_120, zv_X4_note⟩ (ci := 4) (rfl) rfl ((zX_0_9 hX).2.2) rfl rfl (Nat.le_of_ble_eq_true rfl) m_30 (Or.inl rfl) ?_
            show Z zm_X4_findFirst kz Q 117 [(0, zR 36), (1, zR r1), (2, zI v2), (3, zI v3), (4, zI v4), (5, zI v5)] [] (d, G, E_29)
            refine Z.iconst (n := 1) dX4_findFirst_117 ⟨by decide, by decide⟩ ?_
            exact Z.iret (ty := .boolean) dX4_findFirst_118 rfl rfl K
set_option maxRecDepth 20000 in
theorem X4_replace_0 {kz : Nat × Nat} {Q : Option zV → zH → Prop} {d : List Nat} {G : Nat → Int → Option Nat} {E : Nat → Int → Int} {r1 : Nat} {v2 : Int} {v3 : Int} (hX : zK zXt d G) (hr1 : zRk d G r1) (K : ∃ x_1, zM zm_X8_after [zR 1, zR (r1 + 1), zI v3] (d, G, E) (some (zI x_1)) (d, G, E) ∧ ∃ x_4 E_5, zM zm_X5_replace [zR r1, zI v2, zI v3, zI x_1, zR 29, zI ((E 20 14))] (d, G, E) (some (zI x_4)) (d, G, E_5) ∧ (x_4 = 0 ∨ x_4 = 1) ∧ Q (some (zI x_4)) (d, G, E_5)) : Z zm_X4_replace kz Q 0 [(0, zR 36), (1, zR r1), (2, zI v2), (3, zI v3)] [] (d, G, E) := by
  refine Z.aload_n (k := 1) dX4_replace_0 rfl ?_
  refine Z.iload_n (k := 2) dX4_replace_1 rfl ?_
  refine Z.iload_n (k := 3) dX4_replace_2 rfl ?_
  refine Z.aload_n (k := 0) dX4_replace_3 rfl ?_
  refine Y.getR (o := some 1) 0 dX4_replace_4 zl_X4_37 (rfl) (by decide) rfl (zX_0_9 hX).2.2 (zX_36_0 hX).1 ?_
  refine Z.aload_n (k := 1) dX4_replace_7 rfl ?_
  refine Y.getR (o := some (r1 + 1)) 0 dX4_replace_8 zl_X4_86 (congrArg Prod.fst hr1.1) (by decide) rfl hr1.2.2.2.2.1 hr1.2.2.2.2.2.2.2.2.1 ?_
  refine Z.iload_n (k := 3) dX4_replace_11 rfl ?_
  obtain ⟨x_1, m_2, K⟩ := K
  refine Y.callV (g := zm_X8_after) (vs := [zR (r1 + 1), zI v3]) (st := [zI v3, zI v2, zR r1]) dX4_replace_12 ⟨zg_X8_after.1, zg_X8_after.2.1, zg_X8_after.2.2, by decide⟩ ⟨zk_X4_124, zv_X8_after⟩ (ci := 8) (rfl) rfl ((zX_0_0 hX).2.2) rfl rfl (Nat.le_of_ble_eq_true rfl) m_2 (Or.inl rfl) ?_
  show Z zm_X4_replace kz Q 15 [(0, zR 36), (1, zR r1), (2, zI v2), (3, zI v3)] [zI x_1, zI v3, zI v2, zR r1] (d, G, E)
  refine Z.aload_n (k := 0) dX4_replace_15 rfl ?_
  refine Y.getR (o := some 20) 2 dX4_replace_16 zl_X4_45 (rfl) (by decide) rfl (zX_0_9 hX).2.2 (zX_36_2 hX).1 ?_
  refine Y.getR (o := some 29) 13 dX4_replace_19 zl_X4_130 (rfl) (by decide) rfl (zX_0_6 hX).2.2 (zX_20_13 hX).1 ?_
  refine Z.aload_n (k := 0) dX4_replace_22 rfl ?_
  refine Y.getR (o := some 20) 2 dX4_replace_23 zl_X4_45 (rfl) (by decide) rfl (zX_0_9 hX).2.2 (zX_36_2 hX).1 ?_
  refine Y.getI 14 dX4_replace_26 zl_X4_135 (rfl) (by decide) rfl (zX_0_6 hX).2.2 ?_
  obtain ⟨x_4, E_5, m_6, K⟩ := K
  refine Y.callV (g := zm_X5_replace) (vs := [zI v2, zI v3, zI x_1, zR 29, zI ((E 20 14))]) (st := []) dX4_replace_29 ⟨zg_X5_replace.1, zg_X5_replace.2.1, zg_X5_replace.2.2, by decide⟩ ⟨zk_X4_138, zv_X5_replace⟩ (ci := 5) (congrArg Prod.fst hr1.1) rfl (hr1.2.2.2.2.1) rfl rfl (Nat.le_of_ble_eq_true rfl) m_6 (Or.inl rfl) ?_
  show Z zm_X4_replace kz Q 32 [(0, zR 36), (1, zR r1), (2, zI v2), (3, zI v3)] [zI x_4] (d, G, E_5)
  exact Z.iret (ty := .boolean) dX4_replace_32 rfl (by rcases K.1 with e | e <;> rw [e] <;> rfl) K.2
set_option maxRecDepth 20000 in
theorem X4_rewrite_0 {kz : Nat × Nat} {Q : Option zV → zH → Prop} {d : List Nat} {G : Nat → Int → Option Nat} {E : Nat → Int → Int} {r1 : Nat} (hX : zK zXt d G) (hr1 : zRk d G r1) (K : ∃ E_1, zM zm_X4_prepare [zR 36] (d, G, E) none (d, G, E_1) ∧ Z zm_X4_rewrite kz Q 6 [(0, zR 36), (1, zR r1), (2, zR 30), (3, zI 0)] [] (d, G, E_1)) : Z zm_X4_rewrite kz Q 0 [(0, zR 36), (1, zR r1), (2, zR 30)] [] (d, G, E) := by
  refine Z.aload_n (k := 0) dX4_rewrite_0 rfl ?_
  obtain ⟨E_1, m_2, K⟩ := K
  refine Y.callV (g := zm_X4_prepare) (vs := []) (st := []) dX4_rewrite_1 ⟨zg_X4_prepare.1, zg_X4_prepare.2.1, zg_X4_prepare.2.2, by decide⟩ ⟨zk_X4_94, zv_X4_prepare⟩ (ci := 4) (rfl) rfl ((zX_0_9 hX).2.2) rfl rfl (Nat.le_of_ble_eq_true rfl) m_2 (Or.inl rfl) ?_
  show Z zm_X4_rewrite kz Q 4 [(0, zR 36), (1, zR r1), (2, zR 30)] [] (d, G, E_1)
  refine Z.iconst (n := 0) dX4_rewrite_4 ⟨by decide, by decide⟩ ?_
  refine Z.istore_n (ls' := [(3, zI 0), (0, zR 36), (1, zR r1), (2, zR 30)]) dX4_rewrite_5 (by decide) rfl ?_
  refine Z.pick (ls' := [(0, zR 36), (1, zR r1), (2, zR 30), (3, zI 0)]) [1, 2, 3, 0] rfl ?_
  exact K
set_option maxRecDepth 20000 in
theorem X4_rewrite_6 {kz : Nat × Nat} {Q : Option zV → zH → Prop} {d : List Nat} {G : Nat → Int → Option Nat} {E : Nat → Int → Int} {r1 : Nat} {v3 : Int} (hX : zK zXt d G) (hr1 : zRk d G r1) (K : (8 ≤ v3 → Q (some (zI 1)) (d, G, E)) ∧ (¬ (8 ≤ v3) → ∃ x_2 E_3, zM zm_X4_findFirst [zR 36, zR r1] (d, G, E) (some (zI x_2)) (d, G, E_3) ∧ (x_2 = 0 → Q (some (zI 1)) (d, G, E_3)) ∧ (¬ (x_2 = 0) → ∃ x_7 E_8, zM zm_X4_replace [zR 36, zR r1, zI ((E_3 36 8)), zI ((E_3 36 9))] (d, G, E_3) (some (zI x_7)) (d, G, E_8) ∧ (x_7 ≠ 0 → zin ((E_8 36 11) + 1) ∧ ∀ E_13, E_13 = zuE E_8 36 11 (((E_8 36 11) + 1)) → ∃ x_14 E_15, zM zm_X2_clean [zR 30, zR r1] (d, G, E_13) (some (zI x_14)) (d, G, E_15) ∧ zin (v3 + 1) ∧ Z zm_X4_rewrite kz Q 6 [(0, zR 36), (1, zR r1), (2, zR 30), (3, zI ((v3 + 1)))] [] (d, G, E_15)) ∧ (¬ (x_7 ≠ 0) → Q (some (zI 0)) (d, G, E_8))))) : Z zm_X4_rewrite kz Q 6 [(0, zR 36), (1, zR r1), (2, zR 30), (3, zI v3)] [] (d, G, E) := by
  refine Z.iload_n (k := 3) dX4_rewrite_6 rfl ?_
  refine Z.bipush (n := 8) dX4_rewrite_7 ⟨by decide, by decide⟩ (by decide) ?_
  refine Z.icmp_ge 60 dX4_rewrite_9 rfl ⟨fun c_1 => ?_, fun c_1 => ?_⟩
  · replace K := K.1 c_1
    refine Z.iconst (n := 1) dX4_rewrite_60 ⟨by decide, by decide⟩ ?_
    exact Z.iret (ty := .boolean) dX4_rewrite_61 rfl rfl K
  · replace K := K.2 c_1
    refine Z.aload_n (k := 0) dX4_rewrite_12 rfl ?_
    refine Z.aload_n (k := 1) dX4_rewrite_13 rfl ?_
    obtain ⟨x_2, E_3, m_4, K⟩ := K
    refine Y.callV (g := zm_X4_findFirst) (vs := [zR r1]) (st := []) dX4_rewrite_14 ⟨zg_X4_findFirst.1, zg_X4_findFirst.2.1, zg_X4_findFirst.2.2, by decide⟩ ⟨zk_X4_97, zv_X4_findFirst⟩ (ci := 4) (rfl) rfl ((zX_0_9 hX).2.2) rfl rfl (Nat.le_of_ble_eq_true rfl) m_4 (Or.inl rfl) ?_
    show Z zm_X4_rewrite kz Q 17 [(0, zR 36), (1, zR r1), (2, zR 30), (3, zI v3)] [zI x_2] (d, G, E_3)
    refine Z.if_eq 60 dX4_rewrite_17 rfl ⟨fun c_6 => ?_, fun c_6 => ?_⟩
    · replace K := K.1 c_6
      refine Z.iconst (n := 1) dX4_rewrite_60 ⟨by decide, by decide⟩ ?_
      exact Z.iret (ty := .boolean) dX4_rewrite_61 rfl rfl K
    · replace K := K.2 c_6
      refine Z.aload_n (k := 0) dX4_rewrite_20 rfl ?_
      refine Z.aload_n (k := 1) dX4_rewrite_21 rfl ?_
      refine Z.aload_n (k := 0) dX4_rewrite_22 rfl ?_
      refine Y.getI 8 dX4_rewrite_23 zl_X4_25 (rfl) (by decide) rfl (zX_0_9 hX).2.2 ?_
      refine Z.aload_n (k := 0) dX4_rewrite_26 rfl ?_
      refine Y.getI 9 dX4_rewrite_27 zl_X4_28 (rfl) (by decide) rfl (zX_0_9 hX).2.2 ?_
      obtain ⟨x_7, E_8, m_9, K⟩ := K
      refine Y.callV (g := zm_X4_replace) (vs := [zR r1, zI ((E_3 36 8)), zI ((E_3 36 9))]) (st := []) dX4_rewrite_30 ⟨zg_X4_replace.1, zg_X4_replace.2.1, zg_X4_replace.2.2, by decide⟩ ⟨zk_X4_101, zv_X4_replace⟩ (ci := 4) (rfl) rfl ((zX_0_9 hX).2.2) rfl rfl (Nat.le_of_ble_eq_true rfl) m_9 (Or.inl rfl) ?_
      show Z zm_X4_rewrite kz Q 33 [(0, zR 36), (1, zR r1), (2, zR 30), (3, zI v3)] [zI x_7] (d, G, E_8)
      refine Z.if_ne 38 dX4_rewrite_33 rfl ⟨fun c_11 => ?_, fun c_11 => ?_⟩
      · replace K := K.1 c_11
        refine Z.aload_n (k := 0) dX4_rewrite_38 rfl ?_
        refine Z.dup_i dX4_rewrite_39 (fun _ => rfl) ?_
        refine Y.getI 11 dX4_rewrite_40 zl_X4_34 (rfl) (by decide) rfl (zX_0_9 hX).2.2 ?_
        refine Z.iconst (n := 1) dX4_rewrite_43 ⟨by decide, by decide⟩ ?_
        obtain ⟨z_12, K⟩ := K
        refine Z.iadd dX4_rewrite_44 z_12 ?_
        refine Y.putI 11 dX4_rewrite_45 zw_X4_34 (fun q => by cases q) (rfl) rfl (zX_0_9 hX).2.2 (Or.inl rfl) ?_
        generalize eE_13 : zuE E_8 36 11 (((E_8 36 11) + 1)) = E_13
        replace K := K E_13 eE_13.symm
        refine Z.aload_n (k := 2) dX4_rewrite_48 rfl ?_
        refine Z.aload_n (k := 1) dX4_rewrite_49 rfl ?_
        obtain ⟨x_14, E_15, m_16, K⟩ := K
        refine Y.callV (g := zm_X2_clean) (vs := [zR r1]) (st := []) dX4_rewrite_50 ⟨zg_X2_clean.1, zg_X2_clean.2.1, zg_X2_clean.2.2, by decide⟩ ⟨zk_X4_105, zv_X2_clean⟩ (ci := 2) (rfl) rfl ((zX_0_7 hX).2.2) rfl rfl (Nat.le_of_ble_eq_true rfl) m_16 (Or.inl rfl) ?_
        show Z zm_X4_rewrite kz Q 53 [(0, zR 36), (1, zR r1), (2, zR 30), (3, zI v3)] [zI x_14] (d, G, E_15)
        refine Z.pop_i dX4_rewrite_53 (fun _ => rfl) ?_
        obtain ⟨z_18, K⟩ := K
        refine Z.iinc (k := 3) (ls' := [(3, zI ((v3 + 1))), (0, zR 36), (1, zR r1), (2, zR 30)]) dX4_rewrite_54 rfl (by decide) z_18 rfl ?_
        refine Z.goto 6 dX4_rewrite_57 rfl ?_
        refine Z.pick (ls' := [(0, zR 36), (1, zR r1), (2, zR 30), (3, zI ((v3 + 1)))]) [1, 2, 3, 0] rfl ?_
        exact K
      · replace K := K.2 c_11
        refine Z.iconst (n := 0) dX4_rewrite_36 ⟨by decide, by decide⟩ ?_
        exact Z.iret (ty := .boolean) dX4_rewrite_37 rfl rfl K
set_option maxRecDepth 20000 in
theorem X4_again_0 {kz : Nat × Nat} {Q : Option zV → zH → Prop} {d : List Nat} {G : Nat → Int → Option Nat} {E : Nat → Int → Int} {c1 : Nat} {v2 : Int} {v3 : Int} {r4 : Nat} (hX : zK zXt d G) (hc1 : zCk d G c1) (hr4 : zRk d G r4) (K : zin (4 * v2) ∧ ((4 * v2) < 0 → Q (some (zI 0)) (d, G, E)) ∧ (¬ ((4 * v2) < 0) → zin ((4 * v2) + 3) ∧ (((4 * v2) + 3) < 32 → ((0 : Int) ≤ (4 * v2) ∧ (4 * v2) < (32 : Int)) ∧ zin ((4 * v2) + 1) ∧ ((0 : Int) ≤ ((4 * v2) + 1) ∧ ((4 * v2) + 1) < (32 : Int)) ∧ zin ((4 * v2) + 2) ∧ ((0 : Int) ≤ ((4 * v2) + 2) ∧ ((4 * v2) + 2) < (32 : Int)) ∧ zin ((4 * v2) + 3) ∧ ((0 : Int) ≤ ((4 * v2) + 3) ∧ ((4 * v2) + 3) < (32 : Int)) ∧ (v3 ≤ (E (c1 + 6) (4 * v2)) → Q (some (zI 0)) (d, G, E)) ∧ (¬ (v3 ≤ (E (c1 + 6) (4 * v2))) → ((E (c1 + 6) ((4 * v2) + 1)) < 0 → Q (some (zI 0)) (d, G, E)) ∧ (¬ ((E (c1 + 6) ((4 * v2) + 1)) < 0) → (1 < (E (c1 + 6) ((4 * v2) + 1)) → Q (some (zI 0)) (d, G, E)) ∧ (¬ (1 < (E (c1 + 6) ((4 * v2) + 1))) → ∃ x_15, zM zm_X5_has [zR r4, zI ((E (c1 + 6) ((4 * v2) + 2)))] (d, G, E) (some (zI x_15)) (d, G, E) ∧ (x_15 = 0 → Q (some (zI 0)) (d, G, E)) ∧ (¬ (x_15 = 0) → ((E (c1 + 6) ((4 * v2) + 3)) < 1 → Q (some (zI 0)) (d, G, E)) ∧ (¬ ((E (c1 + 6) ((4 * v2) + 3)) < 1) → ∃ x_20, zM zm_X5_length [zR r4, zI ((E (c1 + 6) ((4 * v2) + 2)))] (d, G, E) (some (zI x_20)) (d, G, E) ∧ ((E (c1 + 6) ((4 * v2) + 3)) < x_20 → ((0 : Int) ≤ (E (c1 + 6) ((4 * v2) + 2)) ∧ (E (c1 + 6) ((4 * v2) + 2)) < (7 : Int)) ∧ zin ((E (r4 + 2) (E (c1 + 6) ((4 * v2) + 2))) + (E (c1 + 6) ((4 * v2) + 3))) ∧ ((0 : Int) ≤ ((E (r4 + 2) (E (c1 + 6) ((4 * v2) + 2))) + (E (c1 + 6) ((4 * v2) + 3))) ∧ ((E (r4 + 2) (E (c1 + 6) ((4 * v2) + 2))) + (E (c1 + 6) ((4 * v2) + 3))) < (180 : Int)) ∧ (0 ≤ (E (r4 + 1) ((E (r4 + 2) (E (c1 + 6) ((4 * v2) + 2))) + (E (c1 + 6) ((4 * v2) + 3)))) → ∃ x_28 E_29, zM zm_X4_fits [zR 36, zI ((E (c1 + 6) (4 * v2))), zI ((E (c1 + 6) ((4 * v2) + 1))), zR r4, zI (((E (r4 + 2) (E (c1 + 6) ((4 * v2) + 2))) + (E (c1 + 6) ((4 * v2) + 3))))] (d, G, E) (some (zI x_28)) (d, G, E_29) ∧ (x_28 = 0 → Q (some (zI 0)) (d, G, E_29)) ∧ (¬ (x_28 = 0) → ∃ x_33 E_34, zM zm_X4_replace [zR 36, zR r4, zI ((E (c1 + 6) ((4 * v2) + 2))), zI (((E (r4 + 2) (E (c1 + 6) ((4 * v2) + 2))) + (E (c1 + 6) ((4 * v2) + 3))))] (d, G, E_29) (some (zI x_33)) (d, G, E_34) ∧ (x_33 = 0 → Q (some (zI 0)) (d, G, E_34)) ∧ (¬ (x_33 = 0) → Q (some (zI 1)) (d, G, E_34)))) ∧ (¬ (0 ≤ (E (r4 + 1) ((E (r4 + 2) (E (c1 + 6) ((4 * v2) + 2))) + (E (c1 + 6) ((4 * v2) + 3))))) → Q (some (zI 0)) (d, G, E))) ∧ (¬ ((E (c1 + 6) ((4 * v2) + 3)) < x_20) → Q (some (zI 0)) (d, G, E)))))))) ∧ (¬ (((4 * v2) + 3) < 32) → Q (some (zI 0)) (d, G, E)))) : Z zm_X4_again kz Q 0 [(0, zR 36), (1, zR c1), (2, zI v2), (3, zI v3), (4, zR r4)] [] (d, G, E) := by
  refine Z.iconst (n := 4) dX4_again_0 ⟨by decide, by decide⟩ ?_
  refine Z.iload_n (k := 2) dX4_again_1 rfl ?_
  obtain ⟨z_1, K⟩ := K
  refine Z.imul dX4_again_2 z_1 ?_
  refine Z.istore (ls' := [(5, zI ((4 * v2))), (0, zR 36), (1, zR c1), (2, zI v2), (3, zI v3), (4, zR r4)]) dX4_again_3 (by decide) rfl ?_
  refine Z.iload (k := 0) dX4_again_5 rfl ?_
  refine Z.if_lt 22 dX4_again_7 rfl ⟨fun c_2 => ?_, fun c_2 => ?_⟩
  · replace K := K.1 c_2
    refine Z.iconst (n := 0) dX4_again_22 ⟨by decide, by decide⟩ ?_
    exact Z.iret (ty := .boolean) dX4_again_23 rfl rfl K
  · replace K := K.2 c_2
    refine Z.iload (k := 0) dX4_again_10 rfl ?_
    refine Z.iconst (n := 3) dX4_again_12 ⟨by decide, by decide⟩ ?_
    obtain ⟨z_3, K⟩ := K
    refine Z.iadd dX4_again_13 z_3 ?_
    refine Z.aload_n (k := 2) dX4_again_14 rfl ?_
    refine Y.getR (o := some (c1 + 6)) 3 dX4_again_15 zl_X4_170 (congrArg Prod.fst hc1.1) (by decide) rfl hc1.2.1 hc1.2.2.2.2.2.2.2.2.2 ?_
    refine Y.alen 32 32 dX4_again_18 (hc1.2.2.2.2.2.2.2.1) (hc1.2.2.2.2.2.2.2.2.1) rfl ⟨by decide, by decide⟩ ?_
    refine Z.icmp_lt 24 dX4_again_19 rfl ⟨fun c_4 => ?_, fun c_4 => ?_⟩
    · replace K := K.1 c_4
      refine Z.aload_n (k := 2) dX4_again_24 rfl ?_
      refine Y.getR (o := some (c1 + 6)) 3 dX4_again_25 zl_X4_170 (congrArg Prod.fst hc1.1) (by decide) rfl hc1.2.1 hc1.2.2.2.2.2.2.2.2.2 ?_
      refine Z.iload (k := 0) dX4_again_28 rfl ?_
      obtain ⟨z_5, K⟩ := K
      refine Y.iald dX4_again_30 (hc1.2.2.2.2.2.2.2.1) (hc1.2.2.2.2.2.2.2.2.1) z_5 ?_
      refine Z.istore (ls' := [(6, zI ((E (c1 + 6) (4 * v2)))), (5, zI ((4 * v2))), (0, zR 36), (1, zR c1), (2, zI v2), (3, zI v3), (4, zR r4)]) dX4_again_31 (by decide) rfl ?_
      refine Z.aload_n (k := 3) dX4_again_33 rfl ?_
      refine Y.getR (o := some (c1 + 6)) 3 dX4_again_34 zl_X4_170 (congrArg Prod.fst hc1.1) (by decide) rfl hc1.2.1 hc1.2.2.2.2.2.2.2.2.2 ?_
      refine Z.iload (k := 1) dX4_again_37 rfl ?_
      refine Z.iconst (n := 1) dX4_again_39 ⟨by decide, by decide⟩ ?_
      obtain ⟨z_6, K⟩ := K
      refine Z.iadd dX4_again_40 z_6 ?_
      obtain ⟨z_7, K⟩ := K
      refine Y.iald dX4_again_41 (hc1.2.2.2.2.2.2.2.1) (hc1.2.2.2.2.2.2.2.2.1) z_7 ?_
      refine Z.istore (ls' := [(7, zI ((E (c1 + 6) ((4 * v2) + 1)))), (6, zI ((E (c1 + 6) (4 * v2)))), (5, zI ((4 * v2))), (0, zR 36), (1, zR c1), (2, zI v2), (3, zI v3), (4, zR r4)]) dX4_again_42 (by decide) rfl ?_
      refine Z.aload_n (k := 4) dX4_again_44 rfl ?_
      refine Y.getR (o := some (c1 + 6)) 3 dX4_again_45 zl_X4_170 (congrArg Prod.fst hc1.1) (by decide) rfl hc1.2.1 hc1.2.2.2.2.2.2.2.2.2 ?_
      refine Z.iload (k := 2) dX4_again_48 rfl ?_
      refine Z.iconst (n := 2) dX4_again_50 ⟨by decide, by decide⟩ ?_
      obtain ⟨z_8, K⟩ := K
      refine Z.iadd dX4_again_51 z_8 ?_
      obtain ⟨z_9, K⟩ := K
      refine Y.iald dX4_again_52 (hc1.2.2.2.2.2.2.2.1) (hc1.2.2.2.2.2.2.2.2.1) z_9 ?_
      refine Z.istore (ls' := [(8, zI ((E (c1 + 6) ((4 * v2) + 2)))), (7, zI ((E (c1 + 6) ((4 * v2) + 1)))), (6, zI ((E (c1 + 6) (4 * v2)))), (5, zI ((4 * v2))), (0, zR 36), (1, zR c1), (2, zI v2), (3, zI v3), (4, zR r4)]) dX4_again_53 (by decide) rfl ?_
      refine Z.aload_n (k := 5) dX4_again_55 rfl ?_
      refine Y.getR (o := some (c1 + 6)) 3 dX4_again_56 zl_X4_170 (congrArg Prod.fst hc1.1) (by decide) rfl hc1.2.1 hc1.2.2.2.2.2.2.2.2.2 ?_
      refine Z.iload (k := 3) dX4_again_59 rfl ?_
      refine Z.iconst (n := 3) dX4_again_61 ⟨by decide, by decide⟩ ?_
      obtain ⟨z_10, K⟩ := K
      refine Z.iadd dX4_again_62 z_10 ?_
      obtain ⟨z_11, K⟩ := K
      refine Y.iald dX4_again_63 (hc1.2.2.2.2.2.2.2.1) (hc1.2.2.2.2.2.2.2.2.1) z_11 ?_
      refine Z.istore (ls' := [(9, zI ((E (c1 + 6) ((4 * v2) + 3)))), (8, zI ((E (c1 + 6) ((4 * v2) + 2)))), (7, zI ((E (c1 + 6) ((4 * v2) + 1)))), (6, zI ((E (c1 + 6) (4 * v2)))), (5, zI ((4 * v2))), (0, zR 36), (1, zR c1), (2, zI v2), (3, zI v3), (4, zR r4)]) dX4_again_64 (by decide) rfl ?_
      refine Z.iload (k := 3) dX4_again_66 rfl ?_
      refine Z.iload_n (k := 8) dX4_again_68 rfl ?_
      refine Z.icmp_ge 111 dX4_again_69 rfl ⟨fun c_12 => ?_, fun c_12 => ?_⟩
      · replace K := K.1 c_12
        refine Z.iconst (n := 0) dX4_again_111 ⟨by decide, by decide⟩ ?_
        exact Z.iret (ty := .boolean) dX4_again_112 rfl rfl K
      · replace K := K.2 c_12
        refine Z.iload (k := 2) dX4_again_72 rfl ?_
        refine Z.if_lt 111 dX4_again_74 rfl ⟨fun c_13 => ?_, fun c_13 => ?_⟩
        · replace K := K.1 c_13
          refine Z.iconst (n := 0) dX4_again_111 ⟨by decide, by decide⟩ ?_
          exact Z.iret (ty := .boolean) dX4_again_112 rfl rfl K
        · replace K := K.2 c_13
          refine Z.iload (k := 2) dX4_again_77 rfl ?_
          refine Z.iconst (n := 1) dX4_again_79 ⟨by decide, by decide⟩ ?_
          refine Z.icmp_gt 111 dX4_again_80 rfl ⟨fun c_14 => ?_, fun c_14 => ?_⟩
          · replace K := K.1 c_14
            refine Z.iconst (n := 0) dX4_again_111 ⟨by decide, by decide⟩ ?_
            exact Z.iret (ty := .boolean) dX4_again_112 rfl rfl K
          · replace K := K.2 c_14
            refine Z.aload (k := 9) dX4_again_83 rfl ?_
            refine Z.iload (k := 1) dX4_again_85 rfl ?_
            obtain ⟨x_15, m_16, K⟩ := K
            refine Y.callV (g := zm_X5_has) (vs := [zI ((E (c1 + 6) ((4 * v2) + 2)))]) (st := []) dX4_again_87 ⟨zg_X5_has.1, zg_X5_has.2.1, zg_X5_has.2.2, by decide⟩ ⟨zk_X4_173, zv_X5_has⟩ (ci := 5) (congrArg Prod.fst hr4.1) rfl (hr4.2.2.2.2.1) rfl rfl (Nat.le_of_ble_eq_true rfl) m_16 (Or.inl rfl) ?_
            show Z zm_X4_again kz Q 90 [(9, zI ((E (c1 + 6) ((4 * v2) + 3)))), (8, zI ((E (c1 + 6) ((4 * v2) + 2)))), (7, zI ((E (c1 + 6) ((4 * v2) + 1)))), (6, zI ((E (c1 + 6) (4 * v2)))), (5, zI ((4 * v2))), (0, zR 36), (1, zR c1), (2, zI v2), (3, zI v3), (4, zR r4)] [zI x_15] (d, G, E)
            refine Z.if_eq 111 dX4_again_90 rfl ⟨fun c_18 => ?_, fun c_18 => ?_⟩
            · replace K := K.1 c_18
              refine Z.iconst (n := 0) dX4_again_111 ⟨by decide, by decide⟩ ?_
              exact Z.iret (ty := .boolean) dX4_again_112 rfl rfl K
            · replace K := K.2 c_18
              refine Z.iload (k := 0) dX4_again_93 rfl ?_
              refine Z.iconst (n := 1) dX4_again_95 ⟨by decide, by decide⟩ ?_
              refine Z.icmp_lt 111 dX4_again_96 rfl ⟨fun c_19 => ?_, fun c_19 => ?_⟩
              · replace K := K.1 c_19
                refine Z.iconst (n := 0) dX4_again_111 ⟨by decide, by decide⟩ ?_
                exact Z.iret (ty := .boolean) dX4_again_112 rfl rfl K
              · replace K := K.2 c_19
                refine Z.iload (k := 0) dX4_again_99 rfl ?_
                refine Z.aload (k := 9) dX4_again_101 rfl ?_
                refine Z.iload (k := 1) dX4_again_103 rfl ?_
                obtain ⟨x_20, m_21, K⟩ := K
                refine Y.callV (g := zm_X5_length) (vs := [zI ((E (c1 + 6) ((4 * v2) + 2)))]) (st := [zI ((E (c1 + 6) ((4 * v2) + 3)))]) dX4_again_105 ⟨zg_X5_length.1, zg_X5_length.2.1, zg_X5_length.2.2, by decide⟩ ⟨zk_X4_177, zv_X5_length⟩ (ci := 5) (congrArg Prod.fst hr4.1) rfl (hr4.2.2.2.2.1) rfl rfl (Nat.le_of_ble_eq_true rfl) m_21 (Or.inl rfl) ?_
                show Z zm_X4_again kz Q 108 [(9, zI ((E (c1 + 6) ((4 * v2) + 3)))), (8, zI ((E (c1 + 6) ((4 * v2) + 2)))), (7, zI ((E (c1 + 6) ((4 * v2) + 1)))), (6, zI ((E (c1 + 6) (4 * v2)))), (5, zI ((4 * v2))), (0, zR 36), (1, zR c1), (2, zI v2), (3, zI v3), (4, zR r4)] [zI x_20, zI ((E (c1 + 6) ((4 * v2) + 3)))] (d, G, E)
                refine Z.icmp_lt 113 dX4_again_108 rfl ⟨fun c_23 => ?_, fun c_23 => ?_⟩
                · replace K := K.1 c_23
                  refine Z.aload (k := 9) dX4_again_113 rfl ?_
                  refine Y.getR (o := some (r4 + 2)) 1 dX4_again_115 zl_X4_113 (congrArg Prod.fst hr4.1) (by decide) rfl hr4.2.2.2.2.1 hr4.2.2.2.2.2.2.2.2.2.1 ?_
                  refine Z.iload (k := 1) dX4_again_118 rfl ?_
                  obtain ⟨z_24, K⟩ := K
                  refine Y.iald dX4_again_120 (hr4.2.2.1) (hr4.2.2.2.2.2.2.1) z_24 ?_
                  refine Z.iload (k := 0) dX4_again_121 rfl ?_
                  obtain ⟨z_25, K⟩ := K
                  refine Z.iadd dX4_again_123 z_25 ?_
                  refine Z.istore (ls' := [(10, zI (((E (r4 + 2) (E (c1 + 6) ((4 * v2) + 2))) + (E (c1 + 6) ((4 * v2) + 3))))), (9, zI ((E (c1 + 6) ((4 * v2) + 3)))), (8, zI ((E (c1 + 6) ((4 * v2) + 2)))), (7, zI ((E (c1 + 6) ((4 * v2) + 1)))), (6, zI ((E (c1 + 6) (4 * v2)))), (5, zI ((4 * v2))), (0, zR 36), (1, zR c1), (2, zI v2), (3, zI v3), (4, zR r4)]) dX4_again_124 (by decide) rfl ?_
                  refine Z.aload (k := 10) dX4_again_126 rfl ?_
                  refine Y.getR (o := some (r4 + 1)) 0 dX4_again_128 zl_X4_86 (congrArg Prod.fst hr4.1) (by decide) rfl hr4.2.2.2.2.1 hr4.2.2.2.2.2.2.2.2.1 ?_
                  refine Z.iload (k := 0) dX4_again_131 rfl ?_
                  obtain ⟨z_26, K⟩ := K
                  refine Y.iald dX4_again_133 (hr4.2.1) (hr4.2.2.2.2.2.1) z_26 ?_
                  refine Z.if_ge 139 dX4_again_134 rfl ⟨fun c_27 => ?_, fun c_27 => ?_⟩
                  · replace K := K.1 c_27
                    refine Z.aload_n (k := 6) dX4_again_139 rfl ?_
                    refine Z.iload (k := 4) dX4_again_140 rfl ?_
                    refine Z.iload (k := 3) dX4_again_142 rfl ?_
                    refine Z.aload (k := 10) dX4_again_144 rfl ?_
                    refine Z.iload (k := 0) dX4_again_146 rfl ?_
                    obtain ⟨x_28, E_29, m_30, K⟩ := K
                    refine Y.callV (g := zm_X4_fits) (vs := [zI ((E (c1 + 6) (4 * v2))), zI ((E (c1 + 6) ((4 * v2) + 1))), zR r4, zI (((E (r4 + 2) (E (c1 + 6) ((4 * v2) + 2))) + (E (c1 + 6) ((4 * v2) + 3))))]) (st := []) dX4_again_148 ⟨zg_X4_fits.1, zg_X4_fits.2.1, zg_X4_fits.2.2, by decide⟩ ⟨zk_X4_116, zv_X4_fits⟩ (ci := 4) (rfl) rfl ((zX_0_9 hX).2.2) rfl rfl (Nat.le_of_ble_eq_true rfl) m_30 (Or.inl rfl) ?_
                    show Z zm_X4_again kz Q 151 [(10, zI (((E (r4 + 2) (E (c1 + 6) ((4 * v2) + 2))) + (E (c1 + 6) ((4 * v2) + 3))))), (9, zI ((E (c1 + 6) ((4 * v2) + 3)))), (8, zI ((E (c1 + 6) ((4 * v2) + 2)))), (7, zI ((E (c1 + 6) ((4 * v2) + 1)))), (6, zI ((E (c1 + 6) (4 * v2)))), (5, zI ((4 * v2))), (0, zR 36), (1, zR c1), (2, zI v2), (3, zI v3), (4, zR r4)] [zI x_28] (d, G, E_29)
                    refine Z.if_eq 171 dX4_again_151 rfl ⟨fun c_32 => ?_, fun c_32 => ?_⟩
                    · replace K := K.1 c_32
                      refine Z.iconst (n := 0) dX4_again_171 ⟨by decide, by decide⟩ ?_
                      exact Z.iret (ty := .boolean) dX4_again_172 rfl rfl K
                    · replace K := K.2 c_32
                      refine Z.aload_n (k := 6) dX4_again_154 rfl ?_
                      refine Z.aload (k := 10) dX4_again_155 rfl ?_
                      refine Z.iload (k := 2) dX4_again_157 rfl ?_
                      refine Z.iload (k := 0) dX4_again_159 rfl ?_
                      obtain ⟨x_33, E_34, m_35, K⟩ := K
                      refine Y.callV (g := zm_X4_replace) (vs := [zR r4, zI ((E (c1 + 6) ((4 * v2) + 2))), zI (((E (r4 + 2) (E (c1 + 6) ((4 * v2) + 2))) + (E (c1 + 6) ((4 * v2) + 3))))]) (st := []) dX4_again_161 ⟨zg_X4_replace.1, zg_X4_replace.2.1, zg_X4_replace.2.2, by decide⟩ ⟨zk_X4_101, zv_X4_replace⟩ (ci := 4) (rfl) rfl ((zX_0_9 hX).2.2) rfl rfl (Nat.le_of_ble_eq_true rfl) m_35 (Or.inl rfl) ?_
                      show Z zm_X4_again kz Q 164 [(10, zI (((E (r4 + 2) (E (c1 + 6) ((4 * v2) + 2))) + (E (c1 + 6) ((4 * v2) + 3))))), (9, zI ((E (c1 + 6) ((4 * v2) + 3)))), (8, zI ((E (c1 + 6) ((4 * v2) + 2)))), (7, zI ((E (c1 + 6) ((4 * v2) + 1)))), (6, zI ((E (c1 + 6) (4 * v2)))), (5, zI ((4 * v2))), (0, zR 36), (1, zR c1), (2, zI v2), (3, zI v3), (4, zR r4)] [zI x_33] (d, G, E_34)
                      refine Z.if_eq 171 dX4_again_164 rfl ⟨fun c_37 => ?_, fun c_37 => ?_⟩
                      · replace K := K.1 c_37
                        refine Z.iconst (n := 0) dX4_again_171 ⟨by decide, by decide⟩ ?_
                        exact Z.iret (ty := .boolean) dX4_again_172 rfl rfl K
                      · replace K := K.2 c_37
                        refine Z.iconst (n := 1) dX4_again_167 ⟨by decide, by decide⟩ ?_
                        refine Z.goto 172 dX4_again_168 rfl ?_
                        exact Z.iret (ty := .boolean) dX4_again_172 rfl rfl K
                  · replace K := K.2 c_27
                    refine Z.iconst (n := 0) dX4_again_137 ⟨by decide, by decide⟩ ?_
                    exact Z.iret (ty := .boolean) dX4_again_138 rfl rfl K
                · replace K := K.2 c_23
                  refine Z.iconst (n := 0) dX4_again_111 ⟨by decide, by decide⟩ ?_
                  exact Z.iret (ty := .boolean) dX4_again_112 rfl rfl K
    · replace K := K.2 c_4
      refine Z.iconst (n := 0) dX4_again_22 ⟨by decide, by decide⟩ ?_
      exact Z.iret (ty := .boolean) dX4_again_23 rfl rfl K
