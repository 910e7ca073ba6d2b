set_option maxRecDepth 20000 in
theorem X1_isThere_0 {kz : Nat × Nat} {Q : Option zV → zH → Prop} {d : List Nat} {G : Nat → Int → Option Nat} {E : Nat → Int → Int} {c0 : Nat} (hX : zK zXt d G) (hc0 : zCk d G c0) (K : ((E c0 6) = 2 → Q (some (zI 0)) (d, G, E)) ∧ (¬ ((E c0 6) = 2) → Q (some (zI 1)) (d, G, E))) : Z zm_X1_isThere kz Q 0 [(0, zR c0)] [] (d, G, E) := by
  refine Z.aload_n (k := 0) dX1_isThere_0 rfl ?_
  refine Y.getI 6 dX1_isThere_1 zl_X1_35 (congrArg Prod.fst hc0.1) (by decide) rfl hc0.2.1 ?_
  refine Z.iconst (n := 2) dX1_isThere_4 ⟨by decide, by decide⟩ ?_
  refine Z.icmp_eq 12 dX1_isThere_5 rfl ⟨fun c_1 => ?_, fun c_1 => ?_⟩
  · replace K := K.1 c_1
    refine Z.iconst (n := 0) dX1_isThere_12 ⟨by decide, by decide⟩ ?_
    exact Z.iret (ty := .boolean) dX1_isThere_13 rfl rfl K
  · replace K := K.2 c_1
    refine Z.iconst (n := 1) dX1_isThere_8 ⟨by decide, by decide⟩ ?_
    refine Z.goto 13 dX1_isThere_9 rfl ?_
    exact Z.iret (ty := .boolean) dX1_isThere_13 rfl rfl K
set_option maxRecDepth 20000 in
theorem X1_isPositive_0 {kz : Nat × Nat} {Q : Option zV → zH → Prop} {d : List Nat} {G : Nat → Int → Option Nat} {E : Nat → Int → Int} {c0 : Nat} (hX : zK zXt d G) (hc0 : zCk d G c0) (K : ((E c0 9) ≠ (-1) → Q (some (zI 0)) (d, G, E)) ∧ (¬ ((E c0 9) ≠ (-1)) → Q (some (zI 1)) (d, G, E))) : Z zm_X1_isPositive kz Q 0 [(0, zR c0)] [] (d, G, E) := by
  refine Z.aload_n (k := 0) dX1_isPositive_0 rfl ?_
  refine Y.getI 9 dX1_isPositive_1 zl_X1_44 (congrArg Prod.fst hc0.1) (by decide) rfl hc0.2.1 ?_
  refine Z.iconst (n := -1) dX1_isPositive_4 ⟨by decide, by decide⟩ ?_
  refine Z.icmp_ne 12 dX1_isPositive_5 rfl ⟨fun c_1 => ?_, fun c_1 => ?_⟩
  · replace K := K.1 c_1
    refine Z.iconst (n := 0) dX1_isPositive_12 ⟨by decide, by decide⟩ ?_
    exact Z.iret (ty := .boolean) dX1_isPositive_13 rfl rfl K
  · replace K := K.2 c_1
    refine Z.iconst (n := 1) dX1_isPositive_8 ⟨by decide, by decide⟩ ?_
    refine Z.goto 13 dX1_isPositive_9 rfl ?_
    exact Z.iret (ty := .boolean) dX1_isPositive_13 rfl rfl K
set_option maxRecDepth 20000 in
theorem X1_init_0 {kz : Nat × Nat} {Q : Option zV → zH → Prop} {d : List Nat} {G : Nat → Int → Option Nat} {E : Nat → Int → Int} {c0 : Nat} (hk0 : zkd c0 = (4, 14)) (hm0 : c0 ∈ d) (K : ∃ a_1, (zkd a_1).1 = 5 + 3 ∧ a_1 ∉ d ∧ ¬ zst3 a_1 ∧ d.length + 1 ≤ kz.1 ∧ zsl d + (zkd a_1).2 ≤ kz.2 ∧ ∀ d_7 G_8 E_9, d_7 = d ++ [a_1] → G_8 = zclG G a_1 → E_9 = zclE E a_1 → (∃ d_10 G_11 E_12, zM zm_X5_init [zR a_1] (d_7, G_8, E_9) none (d_10, G_11, E_12) ∧ (d_10 = d_7 ∨ d_10.length ≤ kz.1 ∧ zsl d_10 ≤ kz.2) ∧ c0 ∈ d_10 ∧ a_1 ∈ d_10 ∧ ∀ G_17, G_17 = zuG G_11 c0 0 (some a_1) → ∀ G_18, G_18 = zuG G_17 c0 1 none → ∃ a_19, zkd a_19 = (0, (7 : Int).toNat) ∧ (0 : Int) ≤ 7 ∧ 7 ≤ (100000 : Int) ∧ a_19 ∉ d_10 ∧ ¬ zst3 a_19 ∧ d_10.length + 1 ≤ kz.1 ∧ zsl d_10 + (zkd a_19).2 ≤ kz.2 ∧ ∀ d_27 G_28 E_29, d_27 = d_10 ++ [a_19] → G_28 = zclG G_18 a_19 → E_29 = zclE E_12 a_19 → (∀ G_30, G_30 = zuG G_28 c0 2 (some a_19) → ∃ a_31, zkd a_31 = (0, (32 : Int).toNat) ∧ (0 : Int) ≤ 32 ∧ 32 ≤ (100000 : Int) ∧ a_31 ∉ d_27 ∧ ¬ zst3 a_31 ∧ d_27.length + 1 ≤ kz.1 ∧ zsl d_27 + (zkd a_31).2 ≤ kz.2 ∧ ∀ d_39 G_40 E_41, d_39 = d_27 ++ [a_31] → G_40 = zclG G_30 a_31 → E_41 = zclE E_29 a_31 → (∀ G_42, G_42 = zuG G_40 c0 3 (some a_31) → ∀ E_43, E_43 = zuE E_41 c0 4 0 → ∀ E_44, E_44 = zuE E_43 c0 5 0 → ∀ E_45, E_45 = zuE E_44 c0 6 0 → ∀ E_46, E_46 = zuE E_45 c0 7 ((-1)) → ∀ E_47, E_47 = zuE E_46 c0 8 0 → ∀ E_48, E_48 = zuE E_47 c0 9 ((-1)) → ∀ E_49, E_49 = zuE E_48 c0 10 0 → ∀ E_50, E_50 = zuE E_49 c0 11 0 → ∀ E_51, E_51 = zuE E_50 c0 12 0 → ∀ E_52, E_52 = zuE E_51 c0 13 0 → Q none (d_39, G_42, E_52))))) : Z zm_X1_init kz Q 0 [(0, zR c0)] [] (d, G, E) := by
  refine Z.aload_n (k := 0) dX1_init_0 rfl ?_
  refine Z.objInit (a := c0) dX1_init_1 zk_X1_3 ⟨by decide, by decide⟩ (Nat.le_of_ble_eq_true rfl) ?_
  refine Z.aload_n (k := 0) dX1_init_4 rfl ?_
  obtain ⟨a_1, z_2, z_3, z_4, z_5, z_6, K⟩ := K
  refine Y.new a_1 dX1_init_5 zc_X1_9 z_2 z_3 z_4 z_5 z_6 ?_
  generalize ed_7 : d ++ [a_1] = d_7
  generalize eG_8 : zclG G a_1 = G_8
  generalize eE_9 : zclE E a_1 = E_9
  replace K := K d_7 G_8 E_9 ed_7.symm eG_8.symm eE_9.symm
  refine Z.dup_i dX1_init_8 (fun _ => rfl) ?_
  obtain ⟨d_10, G_11, E_12, m_13, z_14, K⟩ := K
  refine Y.callI (g := zm_X5_init) (vs := []) (st := [zR a_1, zR c0]) dX1_init_9 ⟨zg_X5_init.1, zg_X5_init.2.1, zg_X5_init.2.2, by decide⟩ ⟨Or.inr zk_X1_11, zi_X5_init⟩ rfl rfl rfl rfl (Nat.le_of_ble_eq_true rfl) m_13 z_14 ?_
  show Z zm_X1_init kz Q 12 [(0, zR c0)] [zR a_1, zR c0] (d_10, G_11, E_12)
  obtain ⟨hm_15, hm_16, K⟩ := K
  refine Y.putR 0 dX1_init_12 zw_X1_12 (fun _ => ⟨rfl, rfl⟩) (congrArg Prod.fst hk0) rfl hm_15 (fun b hb => by cases hb; exact hm_16) ?_
  generalize eG_17 : zuG G_11 c0 0 (some a_1) = G_17
  replace K := K G_17 eG_17.symm
  refine Z.aload_n (k := 0) dX1_init_15 rfl ?_
  refine Z.null dX1_init_16 ?_
  refine Y.putR 1 dX1_init_17 zw_X1_18 (fun q => by cases q) (congrArg Prod.fst hk0) rfl hm_15 (fun b hb => by cases hb) ?_
  generalize eG_18 : zuG G_17 c0 1 none = G_18
  replace K := K G_18 eG_18.symm
  refine Z.aload_n (k := 0) dX1_init_20 rfl ?_
  refine Z.bipush (n := 7) dX1_init_21 ⟨by decide, by decide⟩ (by decide) ?_
  obtain ⟨a_19, z_20, z_21, z_22, z_23, z_24, z_25, z_26, K⟩ := K
  refine Y.newI a_19 dX1_init_23 z_20 z_21 z_22 zai z_23 z_24 z_25 z_26 ?_
  generalize ed_27 : d_10 ++ [a_19] = d_27
  generalize eG_28 : zclG G_18 a_19 = G_28
  generalize eE_29 : zclE E_12 a_19 = E_29
  replace K := K d_27 G_28 E_29 ed_27.symm eG_28.symm eE_29.symm
  refine Y.putR 2 dX1_init_25 zw_X1_21 (fun _ => ⟨rfl, rfl⟩) (congrArg Prod.fst hk0) rfl (by rw [← ed_27]; exact List.mem_append_left _ (hm_15)) (fun b hb => by cases hb; exact (by rw [← ed_27]; exact List.mem_append_right _ List.mem_cons_self)) ?_
  generalize eG_30 : zuG G_28 c0 2 (some a_19) = G_30
  replace K := K G_30 eG_30.symm
  refine Z.aload_n (k := 0) dX1_init_28 rfl ?_
  refine Z.bipush (n := 32) dX1_init_29 ⟨by decide, by decide⟩ (by decide) ?_
  obtain ⟨a_31, z_32, z_33, z_34, z_35, z_36, z_37, z_38, K⟩ := K
  refine Y.newI a_31 dX1_init_31 z_32 z_33 z_34 zai z_35 z_36 z_37 z_38 ?_
  generalize ed_39 : d_27 ++ [a_31] = d_39
  generalize eG_40 : zclG G_30 a_31 = G_40
  generalize eE_41 : zclE E_29 a_31 = E_41
  replace K := K d_39 G_40 E_41 ed_39.symm eG_40.symm eE_41.symm
  refine Y.putR 3 dX1_init_33 zw_X1_25 (fun _ => ⟨rfl, rfl⟩) (congrArg Prod.fst hk0) rfl (by rw [← ed_39]; exact List.mem_append_left _ ((by rw [← ed_27]; exact List.mem_append_left _ (hm_15)))) (fun b hb => by cases hb; exact (by rw [← ed_39]; exact List.mem_append_right _ List.mem_cons_self)) ?_
  generalize eG_42 : zuG G_40 c0 3 (some a_31) = G_42
  replace K := K G_42 eG_42.symm
  refine Z.aload_n (k := 0) dX1_init_36 rfl ?_
  refine Z.iconst (n := 0) dX1_init_37 ⟨by decide, by decide⟩ ?_
  refine Y.putI 4 dX1_init_38 zw_X1_28 (fun q => by cases q) (congrArg Prod.fst hk0) rfl (by rw [← ed_39]; exact List.mem_append_left _ ((by rw [← ed_27]; exact List.mem_append_left _ (hm_15)))) (Or.inl rfl) ?_
  generalize eE_43 : zuE E_41 c0 4 0 = E_43
  replace K := K E_43 eE_43.symm
  refine Z.aload_n (k := 0) dX1_init_41 rfl ?_
  refine Z.iconst (n := 0) dX1_init_42 ⟨by decide, by decide⟩ ?_
  refine Y.putI 5 dX1_init_43 zw_X1_32 (fun q => by cases q) (congrArg Prod.fst hk0) rfl (by rw [← ed_39]; exact List.mem_append_left _ ((by rw [← ed_27]; exact List.mem_append_left _ (hm_15)))) (Or.inl rfl) ?_
  generalize eE_44 : zuE E_43 c0 5 0 = E_44
  replace K := K E_44 eE_44.symm
  refine Z.aload_n (k := 0) dX1_init_46 rfl ?_
  refine Z.iconst (n := 0) dX1_init_47 ⟨by decide, by decide⟩ ?_
  refine Y.putI 6 dX1_init_48 zw_X1_35 (fun q => by cases q) (congrArg Prod.fst hk0) rfl (by rw [← ed_39]; exact List.mem_append_left _ ((by rw [← ed_27]; exact List.mem_append_left _ (hm_15)))) (Or.inl rfl) ?_
  generalize eE_45 : zuE E_44 c0 6 0 = E_45
  replace K := K E_45 eE_45.symm
  refine Z.aload_n (k := 0) dX1_init_51 rfl ?_
  refine Z.iconst (n := -1) dX1_init_52 ⟨by decide, by decide⟩ ?_
  refine Y.putI 7 dX1_init_53 zw_X1_38 (fun q => by cases q) (congrArg Prod.fst hk0) rfl (by rw [← ed_39]; exact List.mem_append_left _ ((by rw [← ed_27]; exact List.mem_append_left _ (hm_15)))) (Or.inl rfl) ?_
  generalize eE_46 : zuE E_45 c0 7 ((-1)) = E_46
  replace K := K E_46 eE_46.symm
  refine Z.aload_n (k := 0) dX1_init_56 rfl ?_
  refine Z.iconst (n := 0) dX1_init_57 ⟨by decide, by decide⟩ ?_
  refine Y.putI 8 dX1_init_58 zw_X1_41 (fun q => by cases q) (congrArg Prod.fst hk0) rfl (by rw [← ed_39]; exact List.mem_append_left _ ((by rw [← ed_27]; exact List.mem_append_left _ (hm_15)))) (Or.inl rfl) ?_
  generalize eE_47 : zuE E_46 c0 8 0 = E_47
  replace K := K E_47 eE_47.symm
  refine Z.aload_n (k := 0) dX1_init_61 rfl ?_
  refine Z.iconst (n := -1) dX1_init_62 ⟨by decide, by decide⟩ ?_
  refine Y.putI 9 dX1_init_63 zw_X1_44 (fun q => by cases q) (congrArg Prod.fst hk0) rfl (by rw [← ed_39]; exact List.mem_append_left _ ((by rw [← ed_27]; exact List.mem_append_left _ (hm_15)))) (Or.inl rfl) ?_
  generalize eE_48 : zuE E_47 c0 9 ((-1)) = E_48
  replace K := K E_48 eE_48.symm
  refine Z.aload_n (k := 0) dX1_init_66 rfl ?_
  refine Z.iconst (n := 0) dX1_init_67 ⟨by decide, by decide⟩ ?_
  refine Y.putI 10 dX1_init_68 zw_X1_47 (fun q => by cases q) (congrArg Prod.fst hk0) rfl (by rw [← ed_39]; exact List.mem_append_left _ ((by rw [← ed_27]; exact List.mem_append_left _ (hm_15)))) (Or.inl rfl) ?_
  generalize eE_49 : zuE E_48 c0 10 0 = E_49
  replace K := K E_49 eE_49.symm
  refine Z.aload_n (k := 0) dX1_init_71 rfl ?_
  refine Z.iconst (n := 0) dX1_init_72 ⟨by decide, by decide⟩ ?_
  refine Y.putI 11 dX1_init_73 zw_X1_50 (fun q => by cases q) (congrArg Prod.fst hk0) rfl (by rw [← ed_39]; exact List.mem_append_left _ ((by rw [← ed_27]; exact List.mem_append_left _ (hm_15)))) (Or.inr ⟨rfl, by decide⟩) ?_
  generalize eE_50 : zuE E_49 c0 11 0 = E_50
  replace K := K E_50 eE_50.symm
  refine Z.aload_n (k := 0) dX1_init_76 rfl ?_
  refine Z.iconst (n := 0) dX1_init_77 ⟨by decide, by decide⟩ ?_
  refine Y.putI 12 dX1_init_78 zw_X1_54 (fun q => by cases q) (congrArg Prod.fst hk0) rfl (by rw [← ed_39]; exact List.mem_append_left _ ((by rw [← ed_27]; exact List.mem_append_left _ (hm_15)))) (Or.inl rfl) ?_
  generalize eE_51 : zuE E_50 c0 12 0 = E_51
  replace K := K E_51 eE_51.symm
  refine Z.aload_n (k := 0) dX1_init_81 rfl ?_
  refine Z.iconst (n := 0) dX1_init_82 ⟨by decide, by decide⟩ ?_
  refine Y.putI 13 dX1_init_83 zw_X1_57 (fun q => by cases q) (congrArg Prod.fst hk0) rfl (by rw [← ed_39]; exact List.mem_append_left _ ((by rw [← ed_27]; exact List.mem_append_left _ (hm_15)))) (Or.inr ⟨rfl, by decide⟩) ?_
  generalize eE_52 : zuE E_51 c0 13 0 = E_52
  replace K := K E_52 eE_52.symm
  exact Z.vret dX1_init_86 rfl K
set_option maxRecDepth 20000 in
theorem X1_kind_0 {kz : Nat × Nat} {Q : Option zV → zH → Prop} {d : List Nat} {G : Nat → Int → Option Nat} {E : Nat → Int → Int} {c0 : Nat} (hX : zK zXt d G) (hc0 : zCk d G c0) (K : ((0 : Int) ≤ 0 ∧ 0 < (7 : Int)) ∧ ((E (c0 + 5) 0) < 0 → Q (some (zI 0)) (d, G, E)) ∧ (¬ ((E (c0 + 5) 0) < 0) → (4 < (E (c0 + 5) 0) → Q (some (zI 0)) (d, G, E)) ∧ (¬ (4 < (E (c0 + 5) 0)) → Q (some (zI ((E (c0 + 5) 0)))) (d, G, E)))) : Z zm_X1_kind kz Q 0 [(0, zR c0)] [] (d, G, E) := by
  refine Z.aload_n (k := 0) dX1_kind_0 rfl ?_
  refine Y.getR (o := some (c0 + 5)) 2 dX1_kind_1 zl_X1_21 (congrArg Prod.fst hc0.1) (by decide) rfl hc0.2.1 hc0.2.2.2.2.2.2.1 ?_
  refine Z.iconst (n := 0) dX1_kind_4 ⟨by decide, by decide⟩ ?_
  obtain ⟨z_1, K⟩ := K
  refine Y.iald dX1_kind_5 (hc0.2.2.2.2.1) (hc0.2.2.2.2.2.1) z_1 ?_
  refine Z.istore_n (ls' := [(1, zI ((E (c0 + 5) 0))), (0, zR c0)]) dX1_kind_6 (by decide) rfl ?_
  refine Z.iload_n (k := 0) dX1_kind_7 rfl ?_
  refine Z.if_lt 20 dX1_kind_8 rfl ⟨fun c_2 => ?_, fun c_2 => ?_⟩
  · replace K := K.1 c_2
    refine Z.iconst (n := 0) dX1_kind_20 ⟨by decide, by decide⟩ ?_
    exact Z.iret (ty := .int) dX1_kind_21 rfl rfl K
  · replace K := K.2 c_2
    refine Z.iload_n (k := 0) dX1_kind_11 rfl ?_
    refine Z.iconst (n := 4) dX1_kind_12 ⟨by decide, by decide⟩ ?_
    refine Z.icmp_gt 20 dX1_kind_13 rfl ⟨fun c_3 => ?_, fun c_3 => ?_⟩
    · replace K := K.1 c_3
      refine Z.iconst (n := 0) dX1_kind_20 ⟨by decide, by decide⟩ ?_
      exact Z.iret (ty := .int) dX1_kind_21 rfl rfl K
    · replace K := K.2 c_3
      refine Z.iload_n (k := 0) dX1_kind_16 rfl ?_
      refine Z.goto 21 dX1_kind_17 rfl ?_
      exact Z.iret (ty := .int) dX1_kind_21 rfl rfl K
set_option maxRecDepth 20000 in
theorem X1_hasRewritingNumber_0 {kz : Nat × Nat} {Q : Option zV → zH → Prop} {d : List Nat} {G : Nat → Int → Option Nat} {E : Nat → Int → Int} {c0 : Nat} {v1 : Int} (hX : zK zXt d G) (hc0 : zCk d G c0) (K : (v1 < 11 → Q (some (zI 0)) (d, G, E)) ∧ (¬ (v1 < 11) → zin (4 * (E c0 4)) ∧ zin (11 + (4 * (E c0 4))) ∧ ((11 + (4 * (E c0 4))) ≤ v1 → Q (some (zI 0)) (d, G, E)) ∧ (¬ ((11 + (4 * (E c0 4))) ≤ v1) → Q (some (zI 1)) (d, G, E)))) : Z zm_X1_hasRewritingNumber kz Q 0 [(0, zR c0), (1, zI v1)] [] (d, G, E) := by
  refine Z.iload_n (k := 1) dX1_hasRewritingNumber_0 rfl ?_
  refine Z.bipush (n := 11) dX1_hasRewritingNumber_1 ⟨by decide, by decide⟩ (by decide) ?_
  refine Z.icmp_lt 23 dX1_hasRewritingNumber_3 rfl ⟨fun c_1 => ?_, fun c_1 => ?_⟩
  · replace K := K.1 c_1
    refine Z.iconst (n := 0) dX1_hasRewritingNumber_23 ⟨by decide, by decide⟩ ?_
    exact Z.iret (ty := .boolean) dX1_hasRewritingNumber_24 rfl rfl K
  · replace K := K.2 c_1
    refine Z.iload_n (k := 1) dX1_hasRewritingNumber_6 rfl ?_
    refine Z.bipush (n := 11) dX1_hasRewritingNumber_7 ⟨by decide, by decide⟩ (by decide) ?_
    refine Z.iconst (n := 4) dX1_hasRewritingNumber_9 ⟨by decide, by decide⟩ ?_
    refine Z.aload_n (k := 0) dX1_hasRewritingNumber_10 rfl ?_
    refine Y.getI 4 dX1_hasRewritingNumber_11 zl_X1_28 (congrArg Prod.fst hc0.1) (by decide) rfl hc0.2.1 ?_
    obtain ⟨z_2, K⟩ := K
    refine Z.imul dX1_hasRewritingNumber_14 z_2 ?_
    obtain ⟨z_3, K⟩ := K
    refine Z.iadd dX1_hasRewritingNumber_15 z_3 ?_
    refine Z.icmp_ge 23 dX1_hasRewritingNumber_16 rfl ⟨fun c_4 => ?_, fun c_4 => ?_⟩
    · replace K := K.1 c_4
      refine Z.iconst (n := 0) dX1_hasRewritingNumber_23 ⟨by decide, by decide⟩ ?_
      exact Z.iret (ty := .boolean) dX1_hasRewritingNumber_24 rfl rfl K
    · replace K := K.2 c_4
      refine Z.iconst (n := 1) dX1_hasRewritingNumber_19 ⟨by decide, by decide⟩ ?_
      refine Z.goto 24 dX1_hasRewritingNumber_20 rfl ?_
      exact Z.iret (ty := .boolean) dX1_hasRewritingNumber_24 rfl rfl K
set_option maxRecDepth 20000 in
theorem X1_fill_0 {kz : Nat × Nat} {Q : Option zV → zH → Prop} {d : List Nat} {G : Nat → Int → Option Nat} {E : Nat → Int → Int} {c0 : Nat} {r1 : Nat} {v2 : Int} (hX : zK zXt d G) (hc0 : zCk d G c0) (hr1 : zRk d G r1) (K : ∃ E_1, zM zm_X5_copy [zR ((c0 + 1)), zR r1] (d, G, E) none (d, G, E_1) ∧ ∀ E_4, E_4 = zuE E_1 c0 10 v2 → ∀ E_5, E_5 = zuE E_4 c0 6 0 → ∀ E_6, E_6 = zuE E_5 c0 7 ((-1)) → ∀ E_7, E_7 = zuE E_6 c0 9 ((-1)) → ∀ E_8, E_8 = zuE E_7 c0 8 0 → Z zm_X1_fill kz Q 39 [(0, zR c0), (3, zR 18), (4, zI 0), (5, zI 0)] [] (d, G, E_8)) : Z zm_X1_fill kz Q 0 [(0, zR c0), (1, zR r1), (2, zI v2), (3, zR 18)] [] (d, G, E) := by
  refine Z.aload_n (k := 0) dX1_fill_0 rfl ?_
  refine Y.getR (o := some ((c0 + 1))) 0 dX1_fill_1 zl_X1_12 (congrArg Prod.fst hc0.1) (by decide) rfl hc0.2.1 hc0.2.2.2.1 ?_
  refine Z.aload_n (k := 1) dX1_fill_4 rfl ?_
  obtain ⟨E_1, m_2, K⟩ := K
  refine Y.callV (g := zm_X5_copy) (vs := [zR r1]) (st := []) dX1_fill_5 ⟨zg_X5_copy.1, zg_X5_copy.2.1, zg_X5_copy.2.2, by decide⟩ ⟨zk_X1_60, zv_X5_copy⟩ (ci := 5) (congrArg Prod.fst hc0.2.2.1.1) rfl (hc0.2.2.1.2.2.2.2.1) rfl rfl (Nat.le_of_ble_eq_true rfl) m_2 (Or.inl rfl) ?_
  show Z zm_X1_fill kz Q 8 [(0, zR c0), (1, zR r1), (2, zI v2), (3, zR 18)] [] (d, G, E_1)
  refine Z.aload_n (k := 0) dX1_fill_8 rfl ?_
  refine Z.iload_n (k := 2) dX1_fill_9 rfl ?_
  refine Y.putI 10 dX1_fill_10 zw_X1_47 (fun q => by cases q) (congrArg Prod.fst hc0.1) rfl hc0.2.1 (Or.inl rfl) ?_
  generalize eE_4 : zuE E_1 c0 10 v2 = E_4
  replace K := K E_4 eE_4.symm
  refine Z.aload_n (k := 0) dX1_fill_13 rfl ?_
  refine Z.iconst (n := 0) dX1_fill_14 ⟨by decide, by decide⟩ ?_
  refine Y.putI 6 dX1_fill_15 zw_X1_35 (fun q => by cases q) (congrArg Prod.fst hc0.1) rfl hc0.2.1 (Or.inl rfl) ?_
  generalize eE_5 : zuE E_4 c0 6 0 = E_5
  replace K := K E_5 eE_5.symm
  refine Z.aload_n (k := 0) dX1_fill_18 rfl ?_
  refine Z.iconst (n := -1) dX1_fill_19 ⟨by decide, by decide⟩ ?_
  refine Y.putI 7 dX1_fill_20 zw_X1_38 (fun q => by cases q) (congrArg Prod.fst hc0.1) rfl hc0.2.1 (Or.inl rfl) ?_
  generalize eE_6 : zuE E_5 c0 7 ((-1)) = E_6
  replace K := K E_6 eE_6.symm
  refine Z.aload_n (k := 0) dX1_fill_23 rfl ?_
  refine Z.iconst (n := -1) dX1_fill_24 ⟨by decide, by decide⟩ ?_
  refine Y.putI 9 dX1_fill_25 zw_X1_44 (fun q => by cases q) (congrArg Prod.fst hc0.1) rfl hc0.2.1 (Or.inl rfl) ?_
  generalize eE_7 : zuE E_6 c0 9 ((-1)) = E_7
  replace K := K E_7 eE_7.symm
  refine Z.aload_n (k := 0) dX1_fill_28 rfl ?_
  refine Z.iconst (n := 0) dX1_fill_29 ⟨by decide, by decide⟩ ?_
  refine Y.putI 8 dX1_fill_30 zw_X1_41 (fun q => by cases q) (congrArg Prod.fst hc0.1) rfl hc0.2.1 (Or.inl rfl) ?_
  generalize eE_8 : zuE E_7 c0 8 0 = E_8
  replace K := K E_8 eE_8.symm
  refine Z.iconst (n := 0) dX1_fill_33 ⟨by decide, by decide⟩ ?_
  refine Z.istore (ls' := [(4, zI 0), (0, zR c0), (1, zR r1), (2, zI v2), (3, zR 18)]) dX1_fill_34 (by decide) rfl ?_
  refine Z.iconst (n := 0) dX1_fill_36 ⟨by decide, by decide⟩ ?_
  refine Z.istore (ls' := [(5, zI 0), (4, zI 0), (0, zR c0), (1, zR r1), (2, zI v2), (3, zR 18)]) dX1_fill_37 (by decide) rfl ?_
  refine Z.pick (ls' := [(0, zR c0), (3, zR 18), (4, zI 0), (5, zI 0)]) [2, 5, 1, 0] rfl ?_
  exact K
set_option maxRecDepth 20000 in
theorem X1_fill_39 {kz : Nat × Nat} {Q : Option zV → zH → Prop} {d : List Nat} {G : Nat → Int → Option Nat} {E : Nat → Int → Int} {c0 : Nat} {v4 : Int} {v5 : Int} (hX : zK zXt d G) (hc0 : zCk d G c0) (K : ((E (c0 + 1) 3) ≤ v5 → Q none (d, G, E)) ∧ (¬ ((E (c0 + 1) 3) ≤ v5) → ((0 : Int) ≤ v5 ∧ v5 < (7 : Int)) ∧ zin (v5 + 1) ∧ ((0 : Int) ≤ (v5 + 1) ∧ (v5 + 1) < (7 : Int)) ∧ ∃ x_5, zM zm_X6_weigh [zR 18, zR ((c0 + 1) + 1), zI ((E ((c0 + 1) + 2) v5)), zI ((E ((c0 + 1) + 2) (v5 + 1)))] (d, G, E) (some (zI x_5)) (d, G, E) ∧ zin ((E c0 8) + x_5) ∧ ∀ E_9, E_9 = zuE E c0 8 (((E c0 8) + x_5)) → ((0 : Int) ≤ v5 ∧ v5 < (6 : Int)) ∧ ((E_9 ((c0 + 1) + 3) v5) = 0 → zin (v5 + 1) ∧ Z zm_X1_fill kz Q 39 [(0, zR c0), (3, zR 18), (4, zI v4), (5, zI ((v5 + 1)))] [] (d, G, E_9)) ∧ (¬ ((E_9 ((c0 + 1) + 3) v5) = 0) → (x_5 ≤ v4 → zin (v5 + 1) ∧ Z zm_X1_fill kz Q 39 [(0, zR c0), (3, zR 18), (4, zI v4), (5, zI ((v5 + 1)))] [] (d, G, E_9)) ∧ (¬ (x_5 ≤ v4) → ∀ E_15, E_15 = zuE E_9 c0 9 v5 → zin (v5 + 1) ∧ Z zm_X1_fill kz Q 39 [(0, zR c0), (3, zR 18), (4, zI x_5), (5, zI ((v5 + 1)))] [] (d, G, E_15))))) : Z zm_X1_fill kz Q 39 [(0, zR c0), (3, zR 18), (4, zI v4), (5, zI v5)] [] (d, G, E) := by
  refine Z.iload (k := 3) dX1_fill_39 rfl ?_
  refine Z.aload_n (k := 0) dX1_fill_41 rfl ?_
  refine Y.getR (o := some ((c0 + 1))) 0 dX1_fill_42 zl_X1_12 (congrArg Prod.fst hc0.1) (by decide) rfl hc0.2.1 hc0.2.2.2.1 ?_
  refine Y.getI 3 dX1_fill_45 zl_X1_64 (congrArg Prod.fst hc0.2.2.1.1) (by decide) rfl hc0.2.2.1.2.2.2.2.1 ?_
  refine Z.icmp_ge 133 dX1_fill_48 rfl ⟨fun c_1 => ?_, fun c_1 => ?_⟩
  · replace K := K.1 c_1
    exact Z.vret dX1_fill_133 rfl K
  · replace K := K.2 c_1
    refine Z.aload_n (k := 1) dX1_fill_51 rfl ?_
    refine Z.aload_n (k := 0) dX1_fill_52 rfl ?_
    refine Y.getR (o := some ((c0 + 1))) 0 dX1_fill_53 zl_X1_12 (congrArg Prod.fst hc0.1) (by decide) rfl hc0.2.1 hc0.2.2.2.1 ?_
    refine Y.getR (o := some ((c0 + 1) + 1)) 0 dX1_fill_56 zl_X1_67 (congrArg Prod.fst hc0.2.2.1.1) (by decide) rfl hc0.2.2.1.2.2.2.2.1 hc0.2.2.1.2.2.2.2.2.2.2.2.1 ?_
    refine Z.aload_n (k := 0) dX1_fill_59 rfl ?_
    refine Y.getR (o := some ((c0 + 1))) 0 dX1_fill_60 zl_X1_12 (congrArg Prod.fst hc0.1) (by decide) rfl hc0.2.1 hc0.2.2.2.1 ?_
    refine Y.getR (o := some ((c0 + 1) + 2)) 1 dX1_fill_63 zl_X1_70 (congrArg Prod.fst hc0.2.2.1.1) (by decide) rfl hc0.2.2.1.2.2.2.2.1 hc0.2.2.1.2.2.2.2.2.2.2.2.2.1 ?_
    refine Z.iload (k := 3) dX1_fill_66 rfl ?_
    obtain ⟨z_2, K⟩ := K
    refine Y.iald dX1_fill_68 (hc0.2.2.1.2.2.1) (hc0.2.2.1.2.2.2.2.2.2.1) z_2 ?_
    refine Z.aload_n (k := 0) dX1_fill_69 rfl ?_
    refine Y.getR (o := some ((c0 + 1))) 0 dX1_fill_70 zl_X1_12 (congrArg Prod.fst hc0.1) (by decide) rfl hc0.2.1 hc0.2.2.2.1 ?_
    refine Y.getR (o := some ((c0 + 1) + 2)) 1 dX1_fill_73 zl_X1_70 (congrArg Prod.fst hc0.2.2.1.1) (by decide) rfl hc0.2.2.1.2.2.2.2.1 hc0.2.2.1.2.2.2.2.2.2.2.2.2.1 ?_
    refine Z.iload (k := 3) dX1_fill_76 rfl ?_
    refine Z.iconst (n := 1) dX1_fill_78 ⟨by decide, by decide⟩ ?_
    obtain ⟨z_3, K⟩ := K
    refine Z.iadd dX1_fill_79 z_3 ?_
    obtain ⟨z_4, K⟩ := K
    refine Y.iald dX1_fill_80 (hc0.2.2.1.2.2.1) (hc0.2.2.1.2.2.2.2.2.2.1) z_4 ?_
    obtain ⟨x_5, m_6, K⟩ := K
    refine Y.callV (g := zm_X6_weigh) (vs := [zR ((c0 + 1) + 1), zI ((E ((c0 + 1) + 2) v5)), zI ((E ((c0 + 1) + 2) (v5 + 1)))]) (st := []) dX1_fill_81 ⟨zg_X6_weigh.1, zg_X6_weigh.2.1, zg_X6_weigh.2.2, by decide⟩ ⟨zk_X1_73, zv_X6_weigh⟩ (ci := 6) (rfl) rfl ((zX_0_5 hX).2.2) rfl rfl (Nat.le_of_ble_eq_true rfl) m_6 (Or.inl rfl) ?_
    show Z zm_X1_fill kz Q 84 [(0, zR c0), (3, zR 18), (4, zI v4), (5, zI v5)] [zI x_5] (d, G, E)
    refine Z.istore (ls' := [(6, zI x_5), (0, zR c0), (3, zR 18), (4, zI v4), (5, zI v5)]) dX1_fill_84 (by decide) rfl ?_
    refine Z.aload_n (k := 1) dX1_fill_86 rfl ?_
    refine Z.dup_i dX1_fill_87 (fun _ => rfl) ?_
    refine Y.getI 8 dX1_fill_88 zl_X1_41 (congrArg Prod.fst hc0.1) (by decide) rfl hc0.2.1 ?_
    refine Z.iload (k := 0) dX1_fill_91 rfl ?_
    obtain ⟨z_8, K⟩ := K
    refine Z.iadd dX1_fill_93 z_8 ?_
    refine Y.putI 8 dX1_fill_94 zw_X1_41 (fun q => by cases q) (congrArg Prod.fst hc0.1) rfl hc0.2.1 (Or.inl rfl) ?_
    generalize eE_9 : zuE E c0 8 (((E c0 8) + x_5)) = E_9
    replace K := K E_9 eE_9.symm
    refine Z.aload_n (k := 1) dX1_fill_97 rfl ?_
    refine Y.getR (o := some ((c0 + 1))) 0 dX1_fill_98 zl_X1_12 (congrArg Prod.fst hc0.1) (by decide) rfl hc0.2.1 hc0.2.2.2.1 ?_
    refine Y.getR (o := some ((c0 + 1) + 3)) 2 dX1_fill_101 zl_X1_79 (congrArg Prod.fst hc0.2.2.1.1) (by decide) rfl hc0.2.2.1.2.2.2.2.1 hc0.2.2.1.2.2.2.2.2.2.2.2.2.2 ?_
    refine Z.iload (k := 4) dX1_fill_104 rfl ?_
    obtain ⟨z_10, K⟩ := K
    refine Y.zald dX1_fill_106 (hc0.2.2.1.2.2.2.1) (hc0.2.2.1.2.2.2.2.2.2.2.1) z_10 ?_
    refine Z.if_eq 127 dX1_fill_107 rfl ⟨fun c_11 => ?_, fun c_11 => ?_⟩
    · replace K := K.1 c_11
      obtain ⟨z_12, K⟩ := K
      refine Z.iinc (k := 4) (ls' := [(5, zI ((v5 + 1))), (6, zI x_5), (0, zR c0), (3, zR 18), (4, zI v4)]) dX1_fill_127 rfl (by decide) z_12 rfl ?_
      refine Z.goto 39 dX1_fill_130 rfl ?_
      refine Z.pick (ls' := [(0, zR c0), (3, zR 18), (4, zI v4), (5, zI ((v5 + 1)))]) [2, 3, 4, 0] rfl ?_
      exact K
    · replace K := K.2 c_11
      refine Z.iload (k := 0) dX1_fill_110 rfl ?_
      refine Z.iload (k := 3) dX1_fill_112 rfl ?_
      refine Z.icmp_le 127 dX1_fill_114 rfl ⟨fun c_13 => ?_, fun c_13 => ?_⟩
      · replace K := K.1 c_13
        obtain ⟨z_14, K⟩ := K
        refine Z.iinc (k := 4) (ls' := [(5, zI ((v5 + 1))), (6, zI x_5), (0, zR c0), (3, zR 18), (4, zI v4)]) dX1_fill_127 rfl (by decide) z_14 rfl ?_
        refine Z.goto 39 dX1_fill_130 rfl ?_
        refine Z.pick (ls' := [(0, zR c0), (3, zR 18), (4, zI v4), (5, zI ((v5 + 1)))]) [2, 3, 4, 0] rfl ?_
        exact K
      · replace K := K.2 c_13
        refine Z.iload (k := 0) dX1_fill_117 rfl ?_
        refine Z.istore (ls' := [(4, zI x_5), (6, zI x_5), (0, zR c0), (3, zR 18), (5, zI v5)]) dX1_fill_119 (by decide) rfl ?_
        refine Z.aload_n (k := 2) dX1_fill_121 rfl ?_
        refine Z.iload (k := 4) dX1_fill_122 rfl ?_
        refine Y.putI 9 dX1_fill_124 zw_X1_44 (fun q => by cases q) (congrArg Prod.fst hc0.1) rfl hc0.2.1 (Or.inl rfl) ?_
        generalize eE_15 : zuE E_9 c0 9 v5 = E_15
        replace K := K E_15 eE_15.symm
        obtain ⟨z_16, K⟩ := K
        refine Z.iinc (k := 4) (ls' := [(5, zI ((v5 + 1))), (4, zI x_5), (6, zI x_5), (0, zR c0), (3, zR 18)]) dX1_fill_127 rfl (by decide) z_16 rfl ?_
        refine Z.goto 39 dX1_fill_130 rfl ?_
        refine Z.pick (ls' := [(0, zR c0), (3, zR 18), (4, zI x_5), (5, zI ((v5 + 1)))]) [3, 4, 1, 0] rfl ?_
        exact K
set_option maxRecDepth 20000 in
theorem X1_tellRule_0 {kz : Nat × Nat} {Q : Option zV → zH → Prop} {d : List Nat} {G : Nat → Int → Option Nat} {E : Nat → Int → Int} {c0 : Nat} (hX : zK zXt d G) (hc0 : zCk d G c0) (K : ((E (c0 + 1) 3) ≠ 1 → Z zm_X1_tellRule kz Q 39 [(0, zR c0), (1, zR 1), (2, zR 18)] [zR c0] (d, G, E)) ∧ (¬ ((E (c0 + 1) 3) ≠ 1) → ((0 : Int) ≤ 0 ∧ 0 < (6 : Int)) ∧ ((E ((c0 + 1) + 3) 0) ≠ 0 → Z zm_X1_tellRule kz Q 39 [(0, zR c0), (1, zR 1), (2, zR 18)] [zR c0] (d, G, E)) ∧ (¬ ((E ((c0 + 1) + 3) 0) ≠ 0) → ∃ x_4, zM zm_X5_isEqual [zR ((c0 + 1)), zI 0] (d, G, E) (some (zI x_4)) (d, G, E) ∧ (x_4 = 0 → Z zm_X1_tellRule kz Q 39 [(0, zR c0), (1, zR 1), (2, zR 18)] [zR c0] (d, G, E)) ∧ (¬ (x_4 = 0) → ∀ E_8, E_8 = zuE E c0 11 1 → ((E_8 c0 11) = 0 → ∀ E_10, E_10 = zuE E_8 c0 12 0 → ((E_10 c0 11) = 0 → ∀ E_12, E_12 = zuE E_10 c0 13 0 → Q none (d, G, E_12)) ∧ (¬ ((E_10 c0 11) = 0) → ∃ x_13 E_14, zM zm_X6_compare [zR 18, zR ((c0 + 1) + 1), zI 1, zR ((c0 + 1) + 1), zI ((E_10 c0 12))] (d, G, E_10) (some (zI x_13)) (d, G, E_14) ∧ (x_13 ≠ 1 → ∀ E_18, E_18 = zuE E_14 c0 13 0 → Q none (d, G, E_18)) ∧ (¬ (x_13 ≠ 1) → ∀ E_19, E_19 = zuE E_14 c0 13 1 → Q none (d, G, E_19)))) ∧ (¬ ((E_8 c0 11) = 0) → ∃ x_20, zM zm_X8_after [zR 1, zR ((c0 + 1) + 1), zI 1] (d, G, E_8) (some (zI x_20)) (d, G, E_8) ∧ ∀ E_23, E_23 = zuE E_8 c0 12 x_20 → ((E_23 c0 11) = 0 → ∀ E_25, E_25 = zuE E_23 c0 13 0 → Q none (d, G, E_25)) ∧ (¬ ((E_23 c0 11) = 0) → ∃ x_26 E_27, zM zm_X6_compare [zR 18, zR ((c0 + 1) + 1), zI 1, zR ((c0 + 1) + 1), zI ((E_23 c0 12))] (d, G, E_23) (some (zI x_26)) (d, G, E_27) ∧ (x_26 ≠ 1 → ∀ E_31, E_31 = zuE E_27 c0 13 0 → Q none (d, G, E_31)) ∧ (¬ (x_26 ≠ 1) → ∀ E_32, E_32 = zuE E_27 c0 13 1 → Q none (d, G, E_32)))))))) : Z zm_X1_tellRule kz Q 0 [(0, zR c0), (1, zR 1), (2, zR 18)] [] (d, G, E) := by
  refine Z.aload_n (k := 0) dX1_tellRule_0 rfl ?_
  refine Z.aload_n (k := 0) dX1_tellRule_1 rfl ?_
  refine Y.getR (o := some ((c0 + 1))) 0 dX1_tellRule_2 zl_X1_12 (congrArg Prod.fst hc0.1) (by decide) rfl hc0.2.1 hc0.2.2.2.1 ?_
  refine Y.getI 3 dX1_tellRule_5 zl_X1_64 (congrArg Prod.fst hc0.2.2.1.1) (by decide) rfl hc0.2.2.1.2.2.2.2.1 ?_
  refine Z.iconst (n := 1) dX1_tellRule_8 ⟨by decide, by decide⟩ ?_
  refine Z.icmp_ne 39 dX1_tellRule_9 rfl ⟨fun c_1 => ?_, fun c_1 => ?_⟩
  · replace K := K.1 c_1
    exact K
  · replace K := K.2 c_1
    refine Z.aload_n (k := 0) dX1_tellRule_12 rfl ?_
    refine Y.getR (o := some ((c0 + 1))) 0 dX1_tellRule_13 zl_X1_12 (congrArg Prod.fst hc0.1) (by decide) rfl hc0.2.1 hc0.2.2.2.1 ?_
    refine Y.getR (o := some ((c0 + 1) + 3)) 2 dX1_tellRule_16 zl_X1_79 (congrArg Prod.fst hc0.2.2.1.1) (by decide) rfl hc0.2.2.1.2.2.2.2.1 hc0.2.2.1.2.2.2.2.2.2.2.2.2.2 ?_
    refine Z.iconst (n := 0) dX1_tellRule_19 ⟨by decide, by decide⟩ ?_
    obtain ⟨z_2, K⟩ := K
    refine Y.zald dX1_tellRule_20 (hc0.2.2.1.2.2.2.1) (hc0.2.2.1.2.2.2.2.2.2.2.1) z_2 ?_
    refine Z.if_ne 39 dX1_tellRule_21 rfl ⟨fun c_3 => ?_, fun c_3 => ?_⟩
    · replace K := K.1 c_3
      exact K
    · replace K := K.2 c_3
      refine Z.aload_n (k := 0) dX1_tellRule_24 rfl ?_
      refine Y.getR (o := some ((c0 + 1))) 0 dX1_tellRule_25 zl_X1_12 (congrArg Prod.fst hc0.1) (by decide) rfl hc0.2.1 hc0.2.2.2.1 ?_
      refine Z.iconst (n := 0) dX1_tellRule_28 ⟨by decide, by decide⟩ ?_
      obtain ⟨x_4, m_5, K⟩ := K
      refine Y.callV (g := zm_X5_isEqual) (vs := [zI 0]) (st := [zR c0]) dX1_tellRule_29 ⟨zg_X5_isEqual.1, zg_X5_isEqual.2.1, zg_X5_isEqual.2.2, by decide⟩ ⟨zk_X1_83, zv_X5_isEqual⟩ (ci := 5) (congrArg Prod.fst hc0.2.2.1.1) rfl (hc0.2.2.1.2.2.2.2.1) rfl rfl (Nat.le_of_ble_eq_true rfl) m_5 (Or.inl rfl) ?_
      show Z zm_X1_tellRule kz Q 32 [(0, zR c0), (1, zR 1), (2, zR 18)] [zI x_4, zR c0] (d, G, E)
      refine Z.if_eq 39 dX1_tellRule_32 rfl ⟨fun c_7 => ?_, fun c_7 => ?_⟩
      · replace K := K.1 c_7
        exact K
      · replace K := K.2 c_7
        refine Z.iconst (n := 1) dX1_tellRule_35 ⟨by decide, by decide⟩ ?_
        refine Z.goto 40 dX1_tellRule_36 rfl ?_
        refine Y.putI 11 dX1_tellRule_40 zw_X1_50 (fun q => by cases q) (congrArg Prod.fst hc0.1) rfl hc0.2.1 (Or.inr ⟨rfl, by decide⟩) ?_
        generalize eE_8 : zuE E c0 11 1 = E_8
        replace K := K E_8 eE_8.symm
        refine Z.aload_n (k := 0) dX1_tellRule_43 rfl ?_
        refine Z.aload_n (k := 0) dX1_tellRule_44 rfl ?_
        refine Y.getI 11 dX1_tellRule_45 zl_X1_50 (congrArg Prod.fst hc0.1) (by decide) rfl hc0.2.1 ?_
        refine Z.if_eq 66 dX1_tellRule_48 rfl ⟨fun c_9 => ?_, fun c_9 => ?_⟩
        · replace K := K.1 c_9
          refine Z.iconst (n := 0) dX1_tellRule_66 ⟨by decide, by decide⟩ ?_
          refine Y.putI 12 dX1_tellRule_67 zw_X1_54 (fun q => by cases q) (congrArg Prod.fst hc0.1) rfl hc0.2.1 (Or.inl rfl) ?_
          generalize eE_10 : zuE E_8 c0 12 0 = E_10
          replace K := K E_10 eE_10.symm
          refine Z.aload_n (k := 0) dX1_tellRule_70 rfl ?_
          refine Z.aload_n (k := 0) dX1_tellRule_71 rfl ?_
          refine Y.getI 11 dX1_tellRule_72 zl_X1_50 (congrArg Prod.fst hc0.1) (by decide) rfl hc0.2.1 ?_
          refine Z.if_eq 109 dX1_tellRule_75 rfl ⟨fun c_11 => ?_, fun c_11 => ?_⟩
          · replace K := K.1 c_11
            refine Z.iconst (n := 0) dX1_tellRule_109 ⟨by decide, by decide⟩ ?_
            refine Y.putI 13 dX1_tellRule_110 zw_X1_57 (fun q => by cases q) (congrArg Prod.fst hc0.1) rfl hc0.2.1 (Or.inr ⟨rfl, by decide⟩) ?_
            generalize eE_12 : zuE E_10 c0 13 0 = E_12
            replace K := K E_12 eE_12.symm
            exact Z.vret dX1_tellRule_113 rfl K
          · replace K := K.2 c_11
            refine Z.aload_n (k := 2) dX1_tellRule_78 rfl ?_
            refine Z.aload_n (k := 0) dX1_tellRule_79 rfl ?_
            refine Y.getR (o := some ((c0 + 1))) 0 dX1_tellRule_80 zl_X1_12 (congrArg Prod.fst hc0.1) (by decide) rfl hc0.2.1 hc0.2.2.2.1 ?_
            refine Y.getR (o := some ((c0 + 1) + 1)) 0 dX1_tellRule_83 zl_X1_67 (congrArg Prod.fst hc0.2.2.1.1) (by decide) rfl hc0.2.2.1.2.2.2.2.1 hc0.2.2.1.2.2.2.2.2.2.2.2.1 ?_
            refine Z.iconst (n := 1) dX1_tellRule_86 ⟨by decide, by decide⟩ ?_
            refine Z.aload_n (k := 0) dX1_tellRule_87 rfl ?_
            refine Y.getR (o := some ((c0 + 1))) 0 dX1_tellRule_88 zl_X1_12 (congrArg Prod.fst hc0.1) (by decide) rfl hc0.2.1 hc0.2.2.2.1 ?_
            refine Y.getR (o := some ((c0 + 1) + 1)) 0 dX1_tellRule_91 zl_X1_67 (congrArg Prod.fst hc0.2.2.1.1) (by decide) rfl hc0.2.2.1.2.2.2.2.1 hc0.2.2.1.2.2.2.2.2.2.2.2.1 ?_
            refine Z.aload_n (k := 0) dX1_tellRule_94 rfl ?_
            refine Y.getI 12 dX1_tellRule_95 zl_X1_54 (congrArg Prod.fst hc0.1) (by decide) rfl hc0.2.1 ?_
            obtain ⟨x_13, E_14, m_15, K⟩ := K
            refine Y.callV (g := zm_X6_compare) (vs := [zR ((c0 + 1) + 1), zI 1, zR ((c0 + 1) + 1), zI ((E_10 c0 12))]) (st := [zR c0]) dX1_tellRule_98 ⟨zg_X6_compare.1, zg_X6_compare.2.1, zg_X6_compare.2.2, by decide⟩ ⟨zk_X1_93, zv_X6_compare⟩ (ci := 6) (rfl) rfl ((zX_0_5 hX).2.2) rfl rfl (Nat.le_of_ble_eq_true rfl) m_15 (Or.inl rfl) ?_
            show Z zm_X1_tellRule kz Q 101 [(0, zR c0), (1, zR 1), (2, zR 18)] [zI x_13, zR c0] (d, G, E_14)
            refine Z.iconst (n := 1) dX1_tellRule_101 ⟨by decide, by decide⟩ ?_
            refine Z.icmp_ne 109 dX1_tellRule_102 rfl ⟨fun c_17 => ?_, fun c_17 => ?_⟩
            · replace K := K.1 c_17
              refine Z.iconst (n := 0) dX1_tellRule_109 ⟨by decide, by decide⟩ ?_
              refine Y.putI 13 dX1_tellRule_110 zw_X1_57 (fun q => by cases q) (congrArg Prod.fst hc0.1) rfl hc0.2.1 (Or.inr ⟨rfl, by decide⟩) ?_
              generalize eE_18 : zuE E_14 c0 13 0 = E_18
              replace K := K E_18 eE_18.symm
              exact Z.vret dX1_tellRule_113 rfl K
            · replace K := K.2 c_17
              refine Z.iconst (n := 1) dX1_tellRule_105 ⟨by decide, by decide⟩ ?_
              refine Z.goto 110 dX1_tellRule_106 rfl ?_
              refine Y.putI 13 dX1_tellRule_110 zw_X1_57 (fun q => by cases q) (congrArg Prod.fst hc0.1) rfl hc0.2.1 (Or.inr ⟨rfl, by decide⟩) ?_
              generalize eE_19 : zuE E_14 c0 13 1 = E_19
              replace K := K E_19 eE_19.symm
              exact Z.vret dX1_tellRule_113 rfl K
        · replace K := K.2 c_9
          refine Z.aload_n (k := 1) dX1_tellRule_51 rfl ?_
          refine Z.aload_n (k := 0) dX1_tellRule_52 rfl ?_
          refine Y.getR (o := some ((c0 + 1))) 0 dX1_tellRule_53 zl_X1_12 (congrArg Prod.fst hc0.1) (by decide) rfl hc0.2.1 hc0.2.2.2.1 ?_
          refine Y.getR (o := some ((c0 + 1) + 1)) 0 dX1_tellRule_56 zl_X1_67 (congrArg Prod.fst hc0.2.2.1.1) (by decide) rfl hc0.2.2.1.2.2.2.2.1 hc0.2.2.1.2.2.2.2.2.2.2.2.1 ?_
          refine Z.iconst (n := 1) dX1_tellRule_59 ⟨by decide, by decide⟩ ?_
          obtain ⟨x_20, m_21, K⟩ := K
          refine Y.callV (g := zm_X8_after) (vs := [zR ((c0 + 1) + 1), zI 1]) (st := [zR c0]) dX1_tellRule_60 ⟨zg_X8_after.1, zg_X8_after.2.1, zg_X8_after.2.2, by decide⟩ ⟨zk_X1_87, zv_X8_after⟩ (ci := 8) (rfl) rfl ((zX_0_0 hX).2.2) rfl rfl (Nat.le_of_ble_eq_true rfl) m_21 (Or.inl rfl) ?_
          show Z zm_X1_tellRule kz Q 63 [(0, zR c0), (1, zR 1), (2, zR 18)] [zI x_20, zR c0] (d, G, E_8)
          refine Z.goto 67 dX1_tellRule_63 rfl ?_
          refine Y.putI 12 dX1_tellRule_67 zw_X1_54 (fun q => by cases q) (congrArg Prod.fst hc0.1) rfl hc0.2.1 (Or.inl rfl) ?_
          generalize eE_23 : zuE E_8 c0 12 x_20 = E_23
          replace K := K E_23 eE_23.symm
          refine Z.aload_n (k := 0) dX1_tellRule_70 rfl ?_
          refine Z.aload_n (k := 0) dX1_tellRule_71 rfl ?_
          refine Y.getI 11 dX1_tellRule_72 zl_X1_50 (congrArg Prod.fst hc0.1) (by decide) rfl hc0.2.1 ?_
          refine Z.if_eq 109 dX1_tellRule_75 rfl ⟨fun c_24 => ?_, fun c_24 => ?_⟩
          · replace K := K.1 c_24
            refine Z.iconst (n := 0) dX1_tellRule_109 ⟨by decide, by decide⟩ ?_
            refine Y.putI 13 dX1_tellRule_110 zw_X1_57 (fun q => by cases q) (congrArg Prod.fst hc0.1) rfl hc0.2.1 (Or.inr ⟨rfl, by decide⟩) ?_
            generalize eE_25 : zuE E_23 c0 13 0 = E_25
            replace K := K E_25 eE_25.symm
            exact Z.vret dX1_tellRule_113 rfl K
          · replace K := K.2 c_24
            refine Z.aload_n (k := 2) dX1_tellRule_78 rfl ?_
            refine Z.aload_n (k := 0) dX1_tellRule_79 rfl ?_
            refine Y.getR (o := some ((c0 + 1))) 0 dX1_tellRule_80 zl_X1_12 (congrArg Prod.fst hc0.1) (by decide) rfl hc0.2.1 hc0.2.2.2.1 ?_
            refine Y.getR (o := some ((c0 + 1) + 1)) 0 dX1_tellRule_83 zl_X1_67 (congrArg Prod.fst hc0.2.2.1.1) (by decide) rfl hc0.2.2.1.2.2.2.2.1 hc0.2.2.1.2.2.2.2.2.2.2.2.1 ?_
            refine Z.iconst (n := 1) dX1_tellRule_86 ⟨by decide, by decide⟩ ?_
            refine Z.aload_n (k := 0) dX1_tellRule_87 rfl ?_
            refine Y.getR (o := some ((c0 + 1))) 0 dX1_tellRule_88 zl_X1_12 (congrArg Prod.fst hc0.1) (by decide) rfl hc0.2.1 hc0.2.2.2.1 ?_
            refine Y.getR (o := some ((c0 + 1) + 1)) 0 dX1_tellRule_91 zl_X1_67 (congrArg Prod.fst hc0.2.2.1.1) (by decide) rfl hc0.2.2.1.2.2.2.2.1 hc0.2.2.1.2.2.2.2.2.2.2.2.1 ?_
            refine Z.aload_n (k := 0) dX1_tellRule_94 rfl ?_
            refine Y.getI 12 dX1_tellRule_95 zl_X1_54 (congrArg Prod.fst hc0.1) (by decide) rfl hc0.2.1 ?_
            obtain ⟨x_26, E_27, m_28, K⟩ := K
            refine Y.callV (g := zm_X6_compare) (vs := [zR ((c0 + 1) + 1), zI 1, zR ((c0 + 1) + 1), zI ((E_23 c0 12))]) (st := [zR c0]) dX1_tellRule_98 ⟨zg_X6_compare.1, zg_X6_compare.2.1, zg_X6_compare.2.2, by decide⟩ ⟨zk_X1_93, zv_X6_compare⟩ (ci := 6) (rfl) rfl ((zX_0_5 hX).2.2) rfl rfl (Nat.le_of_ble_eq_true rfl) m_28 (Or.inl rfl) ?_
            show Z zm_X1_tellRule kz Q 101 [(0, zR c0), (1, zR 1), (2, zR 18)] [zI x_26, zR c0] (d, G, E_27)
            refine Z.iconst (n := 1) dX1_tellRule_101 ⟨by decide, by decide⟩ ?_
            refine Z.icmp_ne 109 dX1_tellRule_102 rfl ⟨fun c_30 => ?_, fun c_30 => ?_⟩
            · replace K := K.1 c_30
              refine Z.iconst (n := 0) dX1_tellRule_109 ⟨by decide, by decide⟩ ?_
              refine Y.putI 13 dX1_tellRule_110 zw_X1_57 (fun q => by cases q) (congrArg Prod.fst hc0.1) rfl hc0.2.1 (Or.inr ⟨rfl, by decide⟩) ?_
              generalize eE_31 : zuE E_27 c0 13 0 = E_31
              replace K := K E_31 eE_31.symm
              exact Z.vret dX1_tellRule_113 rfl K
            · replace K := K.2 c_30
              refine Z.iconst (n := 1) dX1_tellRule_105 ⟨by decide, by decide⟩ ?_
              refine Z.goto 110 dX1_tellRule_106 rfl ?_
              refine Y.putI 13 dX1_tellRule_110 zw_X1_57 (fun q => by cases q) (congrArg Prod.fst hc0.1) rfl hc0.2.1 (Or.inr ⟨rfl, by decide⟩) ?_
              generalize eE_32 : zuE E_27 c0 13 1 = E_32
              replace K := K E_32 eE_32.symm
              exact Z.vret dX1_tellRule_113 rfl K
set_option maxRecDepth 20000 in
theorem X1_tellRule_39 {kz : Nat × Nat} {Q : Option zV → zH → Prop} {d : List Nat} {G : Nat → Int → Option Nat} {E : Nat → Int → Int} {c0 : Nat} {t0 : Option Nat} (hX : zK zXt d G) (hc0 : zCk d G c0) (K : ∃ b_1, t0 = some b_1 ∧ zCk d G b_1 ∧ ∀ E_4, E_4 = zuE E b_1 11 0 → ((E_4 c0 11) = 0 → ∀ E_6, E_6 = zuE E_4 c0 12 0 → ((E_6 c0 11) = 0 → ∀ E_8, E_8 = zuE E_6 c0 13 0 → Q none (d, G, E_8)) ∧ (¬ ((E_6 c0 11) = 0) → ∃ x_9 E_10, zM zm_X6_compare [zR 18, zR ((c0 + 1) + 1), zI 1, zR ((c0 + 1) + 1), zI ((E_6 c0 12))] (d, G, E_6) (some (zI x_9)) (d, G, E_10) ∧ (x_9 ≠ 1 → ∀ E_14, E_14 = zuE E_10 c0 13 0 → Q none (d, G, E_14)) ∧ (¬ (x_9 ≠ 1) → ∀ E_15, E_15 = zuE E_10 c0 13 1 → Q none (d, G, E_15)))) ∧ (¬ ((E_4 c0 11) = 0) → ∃ x_16, zM zm_X8_after [zR 1, zR ((c0 + 1) + 1), zI 1] (d, G, E_4) (some (zI x_16)) (d, G, E_4) ∧ ∀ E_19, E_19 = zuE E_4 c0 12 x_16 → ((E_19 c0 11) = 0 → ∀ E_21, E_21 = zuE E_19 c0 13 0 → Q none (d, G, E_21)) ∧ (¬ ((E_19 c0 11) = 0) → ∃ x_22 E_23, zM zm_X6_compare [zR 18, zR ((c0 + 1) + 1), zI 1, zR ((c0 + 1) + 1), zI ((E_19 c0 12))] (d, G, E_19) (some (zI x_22)) (d, G, E_23) ∧ (x_22 ≠ 1 → ∀ E_27, E_27 = zuE E_23 c0 13 0 → Q none (d, G, E_27)) ∧ (¬ (x_22 ≠ 1) → ∀ E_28, E_28 = zuE E_23 c0 13 1 → Q none (d, G, E_28))))) : Z zm_X1_tellRule kz Q 39 [(0, zR c0), (1, zR 1), (2, zR 18)] [zO t0] (d, G, E) := by
  refine Z.iconst (n := 0) dX1_tellRule_39 ⟨by decide, by decide⟩ ?_
  obtain ⟨b_1, e_2, hc_3, K⟩ := K
  rw [e_2]
  refine Y.putI 11 dX1_tellRule_40 zw_X1_50 (fun q => by cases q) (congrArg Prod.fst hc_3.1) rfl hc_3.2.1 (Or.inr ⟨rfl, by decide⟩) ?_
  generalize eE_4 : zuE E b_1 11 0 = E_4
  replace K := K E_4 eE_4.symm
  refine Z.aload_n (k := 0) dX1_tellRule_43 rfl ?_
  refine Z.aload_n (k := 0) dX1_tellRule_44 rfl ?_
  refine Y.getI 11 dX1_tellRule_45 zl_X1_50 (congrArg Prod.fst hc0.1) (by decide) rfl hc0.2.1 ?_
  refine Z.if_eq 66 dX1_tellRule_48 rfl ⟨fun c_5 => ?_, fun c_5 => ?_⟩
  · replace K := K.1 c_5
    refine Z.iconst (n := 0) dX1_tellRule_66 ⟨by decide, by decide⟩ ?_
    refine Y.putI 12 dX1_tellRule_67 zw_X1_54 (fun q => by cases q) (congrArg Prod.fst hc0.1) rfl hc0.2.1 (Or.inl rfl) ?_
    generalize eE_6 : zuE E_4 c0 12 0 = E_6
    replace K := K E_6 eE_6.symm
    refine Z.aload_n (k := 0) dX1_tellRule_70 rfl ?_
    refine Z.aload_n (k := 0) dX1_tellRule_71 rfl ?_
    refine Y.getI 11 dX1_tellRule_72 zl_X1_50 (congrArg Prod.fst hc0.1) (by decide) rfl hc0.2.1 ?_
    refine Z.if_eq 109 dX1_tellRule_75 rfl ⟨fun c_7 => ?_, fun c_7 => ?_⟩
    · replace K := K.1 c_7
      refine Z.iconst (n := 0) dX1_tellRule_109 ⟨by decide, by decide⟩ ?_
      refine Y.putI 13 dX1_tellRule_110 zw_X1_57 (fun q => by cases q) (congrArg Prod.fst hc0.1) rfl hc0.2.1 (Or.inr ⟨rfl, by decide⟩) ?_
      generalize eE_8 : zuE E_6 c0 13 0 = E_8
      replace K := K E_8 eE_8.symm
      exact Z.vret dX1_tellRule_113 rfl K
    · replace K := K.2 c_7
      refine Z.aload_n (k := 2) dX1_tellRule_78 rfl ?_
      refine Z.aload_n (k := 0) dX1_tellRule_79 rfl ?_
      refine Y.getR (o := some ((c0 + 1))) 0 dX1_tellRule_80 zl_X1_12 (congrArg Prod.fst hc0.1) (by decide) rfl hc0.2.1 hc0.2.2.2.1 ?_
      refine Y.getR (o := some ((c0 + 1) + 1)) 0 dX1_tellRule_83 zl_X1_67 (congrArg Prod.fst hc0.2.2.1.1) (by decide) rfl hc0.2.2.1.2.2.2.2.1 hc0.2.2.1.2.2.2.2.2.2.2.2.1 ?_
      refine Z.iconst (n := 1) dX1_tellRule_86 ⟨by decide, by decide⟩ ?_
      refine Z.aload_n (k := 0) dX1_tellRule_87 rfl ?_
      refine Y.getR (o := some ((c0 + 1))) 0 dX1_tellRule_88 zl_X1_12 (congrArg Prod.fst hc0.1) (by decide) rfl hc0.2.1 hc0.2.2.2.1 ?_
      refine Y.getR (o := some ((c0 + 1) + 1)) 0 dX1_tellRule_91 zl_X1_67 (congrArg Prod.fst hc0.2.2.1.1) (by decide) rfl hc0.2.2.1.2.2.2.2.1 hc0.2.2.1.2.2.2.2.2.2.2.2.1 ?_
      refine Z.aload_n (k := 0) dX1_tellRule_94 rfl ?_
      refine Y.getI 12 dX1_tellRule_95 zl_X1_54 (congrArg Prod.fst hc0.1) (by decide) rfl hc0.2.1 ?_
      obtain ⟨x_9, E_10, m_11, K⟩ := K
      refine Y.callV (g := zm_X6_compare) (vs := [zR ((c0 + 1) + 1), zI 1, zR ((c0 + 1) + 1), zI ((E_6 c0 12))]) (st := [zR c0]) dX1_tellRule_98 ⟨zg_X6_compare.1, zg_X6_compare.2.1, zg_X6_compare.2.2, by decide⟩ ⟨zk_X1_93, zv_X6_compare⟩ (ci := 6) (rfl) rfl ((zX_0_5 hX).2.2) rfl rfl (Nat.le_of_ble_eq_true rfl) m_11 (Or.inl rfl) ?_
      show Z zm_X1_tellRule kz Q 101 [(0, zR c0), (1, zR 1), (2, zR 18)] [zI x_9, zR c0] (d, G, E_10)
      refine Z.iconst (n := 1) dX1_tellRule_101 ⟨by decide, by decide⟩ ?_
      refine Z.icmp_ne 109 dX1_tellRule_102 rfl ⟨fun c_13 => ?_, fun c_13 => ?_⟩
      · replace K := K.1 c_13
        refine Z.iconst (n := 0) dX1_tellRule_109 ⟨by decide, by decide⟩ ?_
        refine Y.putI 13 dX1_tellRule_110 zw_X1_57 (fun q => by cases q) (congrArg Prod.fst hc0.1) rfl hc0.2.1 (Or.inr ⟨rfl, by decide⟩) ?_
        generalize eE_14 : zuE E_10 c0 13 0 = E_14
        replace K := K E_14 eE_14.symm
        exact Z.vret dX1_tellRule_113 rfl K
      · replace K := K.2 c_13
        refine Z.iconst (n := 1) dX1_tellRule_105 ⟨by decide, by decide⟩ ?_
        refine Z.goto 110 dX1_tellRule_106 rfl ?_
        refine Y.putI 13 dX1_tellRule_110 zw_X1_57 (fun q => by cases q) (congrArg Prod.fst hc0.1) rfl hc0.2.1 (Or.inr ⟨rfl, by decide⟩) ?_
        generalize eE_15 : zuE E_10 c0 13 1 = E_15
        replace K := K E_15 eE_15.symm
        exact Z.vret dX1_tellRule_113 rfl K
  · replace K := K.2 c_5
    refine Z.aload_n (k := 1) dX1_tellRule_51 rfl ?_
    refine Z.aload_n (k := 0) dX1_tellRule_52 rfl ?_
    refine Y.getR (o := some ((c0 + 1))) 0 dX1_tellRule_53 zl_X1_12 (congrArg Prod.fst hc0.1) (by decide) rfl hc0.2.1 hc0.2.2.2.1 ?_
    refine Y.getR (o := some ((c0 + 1) + 1)) 0 dX1_tellRule_56 zl_X1_67 (congrArg Prod.fst hc0.2.2.1.1) (by decide) rfl hc0.2.2.1.2.2.2.2.1 hc0.2.2.1.2.2.2.2.2.2.2.2.1 ?_
    refine Z.iconst (n := 1) dX1_tellRule_59 ⟨by decide, by decide⟩ ?_
    obtain ⟨x_16, m_17, K⟩ := K
    refine Y.callV (g := zm_X8_after) (vs := [zR ((c0 + 1) + 1), zI 1]) (st := [zR c0]) dX1_tellRule_60 ⟨zg_X8_after.1, zg_X8_after.2.1, zg_X8_after.2.2, by decide⟩ ⟨zk_X1_87, zv_X8_after⟩ (ci := 8) (rfl) rfl ((zX_0_0 hX).2.2) rfl rfl (Nat.le_of_ble_eq_true rfl) m_17 (Or.inl rfl) ?_
    show Z zm_X1_tellRule kz Q 63 [(0, zR c0), (1, zR 1), (2, zR 18)] [zI x_16, zR c0] (d, G, E_4)
    refine Z.goto 67 dX1_tellRule_63 rfl ?_
    refine Y.putI 12 dX1_tellRule_67 zw_X1_54 (fun q => by cases q) (congrArg Prod.fst hc0.1) rfl hc0.2.1 (Or.inl rfl) ?_
    generalize eE_19 : zuE E_4 c0 12 x_16 = E_19
    replace K := K E_19 eE_19.symm
    refine Z.aload_n (k := 0) dX1_tellRule_70 rfl ?_
    refine Z.aload_n (k := 0) dX1_tellRule_71 rfl ?_
    refine Y.getI 11 dX1_tellRule_72 zl_X1_50 (congrArg Prod.fst hc0.1) (by decide) rfl hc0.2.1 ?_
    refine Z.if_eq 109 dX1_tellRule_75 rfl ⟨fun c_20 => ?_, fun c_20 => ?_⟩
    · replace K := K.1 c_20
      refine Z.iconst (n := 0) dX1_tellRule_109 ⟨by decide, by decide⟩ ?_
      refine Y.putI 13 dX1_tellRule_110 zw_X1_57 (fun q => by cases q) (congrArg Prod.fst hc0.1) rfl hc0.2.1 (Or.inr ⟨rfl, by decide⟩) ?_
      generalize eE_21 : zuE E_19 c0 13 0 = E_21
      replace K := K E_21 eE_21.symm
      exact Z.vret dX1_tellRule_113 rfl K
    · replace K := K.2 c_20
      refine Z.aload_n (k := 2) dX1_tellRule_78 rfl ?_
      refine Z.aload_n (k := 0) dX1_tellRule_79 rfl ?_
      refine Y.getR (o := some ((c0 + 1))) 0 dX1_tellRule_80 zl_X1_12 (congrArg Prod.fst hc0.1) (by decide) rfl hc0.2.1 hc0.2.2.2.1 ?_
      refine Y.getR (o := some ((c0 + 1) + 1)) 0 dX1_tellRule_83 zl_X1_67 (congrArg Prod.fst hc0.2.2.1.1) (by decide) rfl hc0.2.2.1.2.2.2.2.1 hc0.2.2.1.2.2.2.2.2.2.2.2.1 ?_
      refine Z.iconst (n := 1) dX1_tellRule_86 ⟨by decide, by decide⟩ ?_
      refine Z.aload_n (k := 0) dX1_tellRule_87 rfl ?_
      refine Y.getR (o := some ((c0 + 1))) 0 dX1_tellRule_88 zl_X1_12 (congrArg Prod.fst hc0.1) (by decide) rfl hc0.2.1 hc0.2.2.2.1 ?_
      refine Y.getR (o := some ((c0 + 1) + 1)) 0 dX1_tellRule_91 zl_X1_67 (congrArg Prod.fst hc0.2.2.1.1) (by decide) rfl hc0.2.2.1.2.2.2.2.1 hc0.2.2.1.2.2.2.2.2.2.2.2.1 ?_
      refine Z.aload_n (k := 0) dX1_tellRule_94 rfl ?_
      refine Y.getI 12 dX1_tellRule_95 zl_X1_54 (congrArg Prod.fst hc0.1) (by decide) rfl hc0.2.1 ?_
      obtain ⟨x_22, E_23, m_24, K⟩ := K
      refine Y.callV (g := zm_X6_compare) (vs := [zR ((c0 + 1) + 1), zI 1, zR ((c0 + 1) + 1), zI ((E_19 c0 12))]) (st := [zR c0]) dX1_tellRule_98 ⟨zg_X6_compare.1, zg_X6_compare.2.1, zg_X6_compare.2.2, by decide⟩ ⟨zk_X1_93, zv_X6_compare⟩ (ci := 6) (rfl) rfl ((zX_0_5 hX).2.2) rfl rfl (Nat.le_of_ble_eq_true rfl) m_24 (Or.inl rfl) ?_
      show Z zm_X1_tellRule kz Q 101 [(0, zR c0), (1, zR 1), (2, zR 18)] [zI x_22, zR c0] (d, G, E_23)
      refine Z.iconst (n := 1) dX1_tellRule_101 ⟨by decide, by decide⟩ ?_
      refine Z.icmp_ne 109 dX1_tellRule_102 rfl ⟨fun c_26 => ?_, fun c_26 => ?_⟩
      · replace K := K.1 c_26
        refine Z.iconst (n := 0) dX1_tellRule_109 ⟨by decide, by decide⟩ ?_
        refine Y.putI 13 dX1_tellRule_110 zw_X1_57 (fun q => by cases q) (congrArg Prod.fst hc0.1) rfl hc0.2.1 (Or.inr ⟨rfl, by decide⟩) ?_
        generalize eE_27 : zuE E_23 c0 13 0 = E_27
        replace K := K E_27 eE_27.symm
        exact Z.vret dX1_tellRule_113 rfl K
      · replace K := K.2 c_26
        refine Z.iconst (n := 1) dX1_tellRule_105 ⟨by decide, by decide⟩ ?_
        refine Z.goto 110 dX1_tellRule_106 rfl ?_
        refine Y.putI 13 dX1_tellRule_110 zw_X1_57 (fun q => by cases q) (congrArg Prod.fst hc0.1) rfl hc0.2.1 (Or.inr ⟨rfl, by decide⟩) ?_
        generalize eE_28 : zuE E_23 c0 13 1 = E_28
        replace K := K E_28 eE_28.symm
        exact Z.vret dX1_tellRule_113 rfl K
set_option maxRecDepth 20000 in
theorem X1_tellStep_0 {kz : Nat × Nat} {Q : Option zV → zH → Prop} {d : List Nat} {G : Nat → Int → Option Nat} {E : Nat → Int → Int} {c0 : Nat} {a1 n1 : Nat} {r3 : Nat} (hX : zK zXt d G) (hc0 : zCk d G c0) (ha1 : a1 ∈ d) (hk1 : zkd a1 = (0, n1)) (hr3 : zRk d G r3) (K : ((0 : Int) ≤ 0 ∧ (0 : Int) ≤ 0 ∧ (0 : Int) ≤ 7 ∧ 0 + 7 ≤ (n1 : Int) ∧ 0 + 7 ≤ (7 : Int)) ∧ ∀ E_2, E_2 = zcpE E a1 0 (c0 + 5) 0 7 → ∀ E_3, E_3 = zuE E_2 c0 4 ((E_2 36 11)) → zin (4 * (E_3 c0 4)) ∧ ((0 : Int) ≤ 0 ∧ (0 : Int) ≤ 0 ∧ (0 : Int) ≤ (4 * (E_3 c0 4)) ∧ 0 + (4 * (E_3 c0 4)) ≤ (32 : Int) ∧ 0 + (4 * (E_3 c0 4)) ≤ (32 : Int)) ∧ ∀ E_6, E_6 = zcpE E_3 40 0 (c0 + 6) 0 ((4 * (E_3 c0 4))) → ∃ x_7, zM zm_X1_kind [zR c0] (d, G, E_6) (some (zI x_7)) (d, G, E_6) ∧ (x_7 ≠ 0 → Q none (d, G, E_6)) ∧ (¬ (x_7 ≠ 0) → ((G c0 1) ≠ none → ∃ b_12, (G c0 1) = some b_12 ∧ zRk d G b_12 ∧ ∃ E_15, zM zm_X5_copy [zR b_12, zR r3] (d, G, E_6) none (d, G, E_15) ∧ Q none (d, G, E_15)) ∧ (¬ ((G c0 1) ≠ none) → ∃ a_18, (zkd a_18).1 = 5 + 3 ∧ a_18 ∉ d ∧ ¬ zst3 a_18 ∧ d.length + 1 ≤ kz.1 ∧ zsl d + (zkd a_18).2 ≤ kz.2 ∧ ∀ d_24 G_25 E_26, d_24 = d ++ [a_18] → G_25 = zclG G a_18 → E_26 = zclE E_6 a_18 → zK zXt d_24 G_25 ∧ zCk d_24 G_25 c0 ∧ zRk d_24 G_25 r3 ∧ (∃ d_30 G_31 E_32, zM zm_X5_init [zR a_18] (d_24, G_25, E_26) none (d_30, G_31, E_32) ∧ (d_30 = d_24 ∨ d_30.length ≤ kz.1 ∧ zsl d_30 ≤ kz.2) ∧ a_18 ∈ d_30 ∧ a1 ∈ d_30 ∧ zK zXt d_30 G_31 ∧ zCk d_30 G_31 c0 ∧ zRk d_30 G_31 r3 ∧ ∀ G_40, G_40 = zuG G_31 c0 1 (some a_18) → zK zXt d_30 G_40 ∧ zCk d_30 G_40 c0 ∧ zRk d_30 G_40 r3 ∧ ∃ b_44, (G_40 c0 1) = some b_44 ∧ zRk d_30 G_40 b_44 ∧ ∃ E_47, zM zm_X5_copy [zR b_44, zR r3] (d_30, G_40, E_32) none (d_30, G_40, E_47) ∧ Q none (d_30, G_40, E_47))))) : Z zm_X1_tellStep kz Q 0 [(0, zR c0), (1, zR a1), (2, zR 36), (3, zR r3)] [] (d, G, E) := by
  refine Z.aload_n (k := 1) dX1_tellStep_0 rfl ?_
  refine Z.iconst (n := 0) dX1_tellStep_1 ⟨by decide, by decide⟩ ?_
  refine Z.aload_n (k := 0) dX1_tellStep_2 rfl ?_
  refine Y.getR (o := some (c0 + 5)) 2 dX1_tellStep_3 zl_X1_21 (congrArg Prod.fst hc0.1) (by decide) rfl hc0.2.1 hc0.2.2.2.2.2.2.1 ?_
  refine Z.iconst (n := 0) dX1_tellStep_6 ⟨by decide, by decide⟩ ?_
  refine Z.bipush (n := 7) dX1_tellStep_7 ⟨by decide, by decide⟩ (by decide) ?_
  obtain ⟨z_1, K⟩ := K
  refine Y.copy dX1_tellStep_9 zk_X1_97 zcopy ⟨by decide, by decide⟩ (Nat.le_of_ble_eq_true rfl) (hk1) (hc0.2.2.2.2.1) (ha1) (hc0.2.2.2.2.2.1) z_1 ?_
  generalize eE_2 : zcpE E a1 0 (c0 + 5) 0 7 = E_2
  replace K := K E_2 eE_2.symm
  refine Z.aload_n (k := 0) dX1_tellStep_12 rfl ?_
  refine Z.aload_n (k := 2) dX1_tellStep_13 rfl ?_
  refine Y.getI 11 dX1_tellStep_14 zl_X1_103 (rfl) (by decide) rfl (zX_0_9 hX).2.2 ?_
  refine Y.putI 4 dX1_tellStep_17 zw_X1_28 (fun q => by cases q) (congrArg Prod.fst hc0.1) rfl hc0.2.1 (Or.inl rfl) ?_
  generalize eE_3 : zuE E_2 c0 4 ((E_2 36 11)) = E_3
  replace K := K E_3 eE_3.symm
  refine Z.aload_n (k := 2) dX1_tellStep_20 rfl ?_
  refine Y.getR (o := some 40) 10 dX1_tellStep_21 zl_X1_108 (rfl) (by decide) rfl (zX_0_9 hX).2.2 (zX_36_10 hX).1 ?_
  refine Z.iconst (n := 0) dX1_tellStep_24 ⟨by decide, by decide⟩ ?_
  refine Z.aload_n (k := 0) dX1_tellStep_25 rfl ?_
  refine Y.getR (o := some (c0 + 6)) 3 dX1_tellStep_26 zl_X1_25 (congrArg Prod.fst hc0.1) (by decide) rfl hc0.2.1 hc0.2.2.2.2.2.2.2.2.2 ?_
  refine Z.iconst (n := 0) dX1_tellStep_29 ⟨by decide, by decide⟩ ?_
  refine Z.iconst (n := 4) dX1_tellStep_30 ⟨by decide, by decide⟩ ?_
  refine Z.aload_n (k := 0) dX1_tellStep_31 rfl ?_
  refine Y.getI 4 dX1_tellStep_32 zl_X1_28 (congrArg Prod.fst hc0.1) (by decide) rfl hc0.2.1 ?_
  obtain ⟨z_4, K⟩ := K
  refine Z.imul dX1_tellStep_35 z_4 ?_
  obtain ⟨z_5, K⟩ := K
  refine Y.copy dX1_tellStep_36 zk_X1_97 zcopy ⟨by decide, by decide⟩ (Nat.le_of_ble_eq_true rfl) (rfl) (hc0.2.2.2.2.2.2.2.1) ((zX_36_10 hX).2.2) (hc0.2.2.2.2.2.2.2.2.1) z_5 ?_
  generalize eE_6 : zcpE E_3 40 0 (c0 + 6) 0 ((4 * (E_3 c0 4))) = E_6
  replace K := K E_6 eE_6.symm
  refine Z.aload_n (k := 0) dX1_tellStep_39 rfl ?_
  obtain ⟨x_7, m_8, K⟩ := K
  refine Y.callV (g := zm_X1_kind) (vs := []) (st := []) dX1_tellStep_40 ⟨zg_X1_kind.1, zg_X1_kind.2.1, zg_X1_kind.2.2, by decide⟩ ⟨zk_X1_111, zv_X1_kind⟩ (ci := 1) (congrArg Prod.fst hc0.1) rfl (hc0.2.1) rfl rfl (Nat.le_of_ble_eq_true rfl) m_8 (Or.inl rfl) ?_
  show Z zm_X1_tellStep kz Q 43 [(0, zR c0), (1, zR a1), (2, zR 36), (3, zR r3)] [zI x_7] (d, G, E_6)
  refine Z.if_ne 72 dX1_tellStep_43 rfl ⟨fun c_10 => ?_, fun c_10 => ?_⟩
  · replace K := K.1 c_10
    exact Z.vret dX1_tellStep_72 rfl K
  · replace K := K.2 c_10
    refine Z.aload_n (k := 0) dX1_tellStep_46 rfl ?_
    refine Y.getR (o := (G c0 1)) 1 dX1_tellStep_47 zl_X1_18 (congrArg Prod.fst hc0.1) (by decide) rfl hc0.2.1 rfl ?_
    refine Z.ifnonnull 64 dX1_tellStep_50 rfl ⟨fun c_11 => ?_, fun c_11 => ?_⟩
    · replace K := K.1 c_11
      refine Z.aload_n (k := 0) dX1_tellStep_64 rfl ?_
      refine Y.getR (o := (G c0 1)) 1 dX1_tellStep_65 zl_X1_18 (congrArg Prod.fst hc0.1) (by decide) rfl hc0.2.1 rfl ?_
      refine Z.aload_n (k := 3) dX1_tellStep_68 rfl ?_
      obtain ⟨b_12, e_13, hr_14, K⟩ := K
      rw [e_13]
      obtain ⟨E_15, m_16, K⟩ := K
      refine Y.callV (g := zm_X5_copy) (vs := [zR r3]) (st := []) dX1_tellStep_69 ⟨zg_X5_copy.1, zg_X5_copy.2.1, zg_X5_copy.2.2, by decide⟩ ⟨zk_X1_60, zv_X5_copy⟩ (ci := 5) (congrArg Prod.fst hr_14.1) rfl (hr_14.2.2.2.2.1) rfl rfl (Nat.le_of_ble_eq_true rfl) m_16 (Or.inl rfl) ?_
      show Z zm_X1_tellStep kz Q 72 [(0, zR c0), (1, zR a1), (2, zR 36), (3, zR r3)] [] (d, G, E_15)
      exact Z.vret dX1_tellStep_72 rfl K
    · replace K := K.2 c_11
      refine Z.aload_n (k := 0) dX1_tellStep_53 rfl ?_
      obtain ⟨a_18, z_19, z_20, z_21, z_22, z_23, K⟩ := K
      refine Y.new a_18 dX1_tellStep_54 zc_X1_9 z_19 z_20 z_21 z_22 z_23 ?_
      generalize ed_24 : d ++ [a_18] = d_24
      generalize eG_25 : zclG G a_18 = G_25
      generalize eE_26 : zclE E_6 a_18 = E_26
      replace K := K d_24 G_25 E_26 ed_24.symm eG_25.symm eE_26.symm
      obtain ⟨hX_27, hc_28, hr_29, K⟩ := K
      refine Z.dup_i dX1_tellStep_57 (fun _ => rfl) ?_
      obtain ⟨d_30, G_31, E_32, m_33, z_34, K⟩ := K
      refine Y.callI (g := zm_X5_init) (vs := []) (st := [zR a_18, zR c0]) dX1_tellStep_58 ⟨zg_X5_init.1, zg_X5_init.2.1, zg_X5_init.2.2, by decide⟩ ⟨Or.inr zk_X1_11, zi_X5_init⟩ rfl rfl rfl rfl (Nat.le_of_ble_eq_true rfl) m_33 z_34 ?_
      show Z zm_X1_tellStep kz Q 61 [(0, zR c0), (1, zR a1), (2, zR 36), (3, zR r3)] [zR a_18, zR c0] (d_30, G_31, E_32)
      obtain ⟨hm_35, hm_36, hX_37, hc_38, hr_39, K⟩ := K
      refine Y.putR 1 dX1_tellStep_61 zw_X1_18 (fun q => by cases q) (congrArg Prod.fst hc_38.1) rfl hc_38.2.1 (fun b hb => by cases hb; exact hm_35) ?_
      generalize eG_40 : zuG G_31 c0 1 (some a_18) = G_40
      replace K := K G_40 eG_40.symm
      obtain ⟨hX_41, hc_42, hr_43, K⟩ := K
      refine Z.aload_n (k := 0) dX1_tellStep_64 rfl ?_
      refine Y.getR (o := (G_40 c0 1)) 1 dX1_tellStep_65 zl_X1_18 (congrArg Prod.fst hc_42.1) (by decide) rfl hc_42.2.1 rfl ?_
      refine Z.aload_n (k := 3) dX1_tellStep_68 rfl ?_
      obtain ⟨b_44, e_45, hr_46, K⟩ := K
      rw [e_45]
      obtain ⟨E_47, m_48, K⟩ := K
      refine Y.callV (g := zm_X5_copy) (vs := [zR r3]) (st := []) dX1_tellStep_69 ⟨zg_X5_copy.1, zg_X5_copy.2.1, zg_X5_copy.2.2, by decide⟩ ⟨zk_X1_60, zv_X5_copy⟩ (ci := 5) (congrArg Prod.fst hr_46.1) rfl (hr_46.2.2.2.2.1) rfl rfl (Nat.le_of_ble_eq_true rfl) m_48 (Or.inl rfl) ?_
      show Z zm_X1_tellStep kz Q 72 [(0, zR c0), (1, zR a1), (2, zR 36), (3, zR r3)] [] (d_30, G_40, E_47)
      exact Z.vret dX1_tellStep_72 rfl K
