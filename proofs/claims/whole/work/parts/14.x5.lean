set_option maxRecDepth 20000 in
theorem X5_has_0 {kz : Nat × Nat} {Q : Option zV → zH → Prop} {d : List Nat} {G : Nat → Int → Option Nat} {E : Nat → Int → Int} {r0 : Nat} {v1 : Int} (hX : zK zXt d G) (hr0 : zRk d G r0) (K : (v1 < 0 → Q (some (zI 0)) (d, G, E)) ∧ (¬ (v1 < 0) → ((E r0 3) ≤ v1 → Q (some (zI 0)) (d, G, E)) ∧ (¬ ((E r0 3) ≤ v1) → Q (some (zI 1)) (d, G, E)))) : Z zm_X5_has kz Q 0 [(0, zR r0), (1, zI v1)] [] (d, G, E) := by
  refine Z.iload_n (k := 1) dX5_has_0 rfl ?_
  refine Z.if_lt 16 dX5_has_1 rfl ⟨fun c_1 => ?_, fun c_1 => ?_⟩
  · replace K := K.1 c_1
    refine Z.iconst (n := 0) dX5_has_16 ⟨by decide, by decide⟩ ?_
    exact Z.iret (ty := .boolean) dX5_has_17 rfl rfl K
  · replace K := K.2 c_1
    refine Z.iload_n (k := 1) dX5_has_4 rfl ?_
    refine Z.aload_n (k := 0) dX5_has_5 rfl ?_
    refine Y.getI 3 dX5_has_6 zl_X5_22 (congrArg Prod.fst hr0.1) (by decide) rfl hr0.2.2.2.2.1 ?_
    refine Z.icmp_ge 16 dX5_has_9 rfl ⟨fun c_2 => ?_, fun c_2 => ?_⟩
    · replace K := K.1 c_2
      refine Z.iconst (n := 0) dX5_has_16 ⟨by decide, by decide⟩ ?_
      exact Z.iret (ty := .boolean) dX5_has_17 rfl rfl K
    · replace K := K.2 c_2
      refine Z.iconst (n := 1) dX5_has_12 ⟨by decide, by decide⟩ ?_
      refine Z.goto 17 dX5_has_13 rfl ?_
      exact Z.iret (ty := .boolean) dX5_has_17 rfl rfl K
set_option maxRecDepth 20000 in
theorem X5_isEqual_0 {kz : Nat × Nat} {Q : Option zV → zH → Prop} {d : List Nat} {G : Nat → Int → Option Nat} {E : Nat → Int → Int} {r0 : Nat} {v1 : Int} (hX : zK zXt d G) (hr0 : zRk d G r0) (K : ∃ x_1, zM zm_X5_has [zR r0, zI v1] (d, G, E) (some (zI x_1)) (d, G, E) ∧ (x_1 = 0 → Q (some (zI 0)) (d, G, E)) ∧ (¬ (x_1 = 0) → ((0 : Int) ≤ v1 ∧ v1 < (7 : Int)) ∧ ((0 : Int) ≤ (E (r0 + 2) v1) ∧ (E (r0 + 2) v1) < (180 : Int)) ∧ ((E (r0 + 1) (E (r0 + 2) v1)) ≠ 0 → Q (some (zI 0)) (d, G, E)) ∧ (¬ ((E (r0 + 1) (E (r0 + 2) v1)) ≠ 0) → Q (some (zI 1)) (d, G, E)))) : Z zm_X5_isEqual kz Q 0 [(0, zR r0), (1, zI v1)] [] (d, G, E) := by
  refine Z.aload_n (k := 0) dX5_isEqual_0 rfl ?_
  refine Z.iload_n (k := 1) dX5_isEqual_1 rfl ?_
  obtain ⟨x_1, m_2, K⟩ := K
  refine Y.callV (g := zm_X5_has) (vs := [zI v1]) (st := []) dX5_isEqual_2 ⟨zg_X5_has.1, zg_X5_has.2.1, zg_X5_has.2.2, by decide⟩ ⟨zk_X5_29, zv_X5_has⟩ (ci := 5) (congrArg Prod.fst hr0.1) rfl (hr0.2.2.2.2.1) rfl rfl (Nat.le_of_ble_eq_true rfl) m_2 (Or.inl rfl) ?_
  show Z zm_X5_isEqual kz Q 5 [(0, zR r0), (1, zI v1)] [zI x_1] (d, G, E)
  refine Z.if_eq 26 dX5_isEqual_5 rfl ⟨fun c_4 => ?_, fun c_4 => ?_⟩
  · replace K := K.1 c_4
    refine Z.iconst (n := 0) dX5_isEqual_26 ⟨by decide, by decide⟩ ?_
    exact Z.iret (ty := .boolean) dX5_isEqual_27 rfl rfl K
  · replace K := K.2 c_4
    refine Z.aload_n (k := 0) dX5_isEqual_8 rfl ?_
    refine Y.getR (o := some (r0 + 1)) 0 dX5_isEqual_9 zl_X5_9 (congrArg Prod.fst hr0.1) (by decide) rfl hr0.2.2.2.2.1 hr0.2.2.2.2.2.2.2.2.1 ?_
    refine Z.aload_n (k := 0) dX5_isEqual_12 rfl ?_
    refine Y.getR (o := some (r0 + 2)) 1 dX5_isEqual_13 zl_X5_15 (congrArg Prod.fst hr0.1) (by decide) rfl hr0.2.2.2.2.1 hr0.2.2.2.2.2.2.2.2.2.1 ?_
    refine Z.iload_n (k := 1) dX5_isEqual_16 rfl ?_
    obtain ⟨z_5, K⟩ := K
    refine Y.iald dX5_isEqual_17 (hr0.2.2.1) (hr0.2.2.2.2.2.2.1) z_5 ?_
    obtain ⟨z_6, K⟩ := K
    refine Y.iald dX5_isEqual_18 (hr0.2.1) (hr0.2.2.2.2.2.1) z_6 ?_
    refine Z.if_ne 26 dX5_isEqual_19 rfl ⟨fun c_7 => ?_, fun c_7 => ?_⟩
    · replace K := K.1 c_7
      refine Z.iconst (n := 0) dX5_isEqual_26 ⟨by decide, by decide⟩ ?_
      exact Z.iret (ty := .boolean) dX5_isEqual_27 rfl rfl K
    · replace K := K.2 c_7
      refine Z.iconst (n := 1) dX5_isEqual_22 ⟨by decide, by decide⟩ ?_
      refine Z.goto 27 dX5_isEqual_23 rfl ?_
      exact Z.iret (ty := .boolean) dX5_isEqual_27 rfl rfl K
set_option maxRecDepth 20000 in
theorem X5_length_0 {kz : Nat × Nat} {Q : Option zV → zH → Prop} {d : List Nat} {G : Nat → Int → Option Nat} {E : Nat → Int → Int} {r0 : Nat} {v1 : Int} (hX : zK zXt d G) (hr0 : zRk d G r0) (K : zin (v1 + 1) ∧ ((0 : Int) ≤ (v1 + 1) ∧ (v1 + 1) < (7 : Int)) ∧ ((0 : Int) ≤ v1 ∧ v1 < (7 : Int)) ∧ zin ((E (r0 + 2) (v1 + 1)) - (E (r0 + 2) v1)) ∧ Q (some (zI (((E (r0 + 2) (v1 + 1)) - (E (r0 + 2) v1))))) (d, G, E)) : Z zm_X5_length kz Q 0 [(0, zR r0), (1, zI v1)] [] (d, G, E) := by
  refine Z.aload_n (k := 0) dX5_length_0 rfl ?_
  refine Y.getR (o := some (r0 + 2)) 1 dX5_length_1 zl_X5_15 (congrArg Prod.fst hr0.1) (by decide) rfl hr0.2.2.2.2.1 hr0.2.2.2.2.2.2.2.2.2.1 ?_
  refine Z.iload_n (k := 1) dX5_length_4 rfl ?_
  refine Z.iconst (n := 1) dX5_length_5 ⟨by decide, by decide⟩ ?_
  obtain ⟨z_1, K⟩ := K
  refine Z.iadd dX5_length_6 z_1 ?_
  obtain ⟨z_2, K⟩ := K
  refine Y.iald dX5_length_7 (hr0.2.2.1) (hr0.2.2.2.2.2.2.1) z_2 ?_
  refine Z.aload_n (k := 0) dX5_length_8 rfl ?_
  refine Y.getR (o := some (r0 + 2)) 1 dX5_length_9 zl_X5_15 (congrArg Prod.fst hr0.1) (by decide) rfl hr0.2.2.2.2.1 hr0.2.2.2.2.2.2.2.2.2.1 ?_
  refine Z.iload_n (k := 1) dX5_length_12 rfl ?_
  obtain ⟨z_3, K⟩ := K
  refine Y.iald dX5_length_13 (hr0.2.2.1) (hr0.2.2.2.2.2.2.1) z_3 ?_
  obtain ⟨z_4, K⟩ := K
  refine Z.isub dX5_length_14 z_4 ?_
  exact Z.iret (ty := .int) dX5_length_15 rfl rfl K
set_option maxRecDepth 20000 in
theorem X5_init_0 {kz : Nat × Nat} {Q : Option zV → zH → Prop} {d : List Nat} {G : Nat → Int → Option Nat} {E : Nat → Int → Int} {r0 : Nat} (hk0 : zkd r0 = (8, 5)) (hm0 : r0 ∈ d) (K : ∃ a_1, zkd a_1 = (0, (180 : Int).toNat) ∧ (0 : Int) ≤ 180 ∧ 180 ≤ (100000 : Int) ∧ a_1 ∉ d ∧ ¬ zst3 a_1 ∧ d.length + 1 ≤ kz.1 ∧ zsl d + (zkd a_1).2 ≤ kz.2 ∧ ∀ d_9 G_10 E_11, d_9 = d ++ [a_1] → G_10 = zclG G a_1 → E_11 = zclE E a_1 → (∀ G_12, G_12 = zuG G_10 r0 0 (some a_1) → ∃ a_13, zkd a_13 = (0, (7 : Int).toNat) ∧ (0 : Int) ≤ 7 ∧ 7 ≤ (100000 : Int) ∧ a_13 ∉ d_9 ∧ ¬ zst3 a_13 ∧ d_9.length + 1 ≤ kz.1 ∧ zsl d_9 + (zkd a_13).2 ≤ kz.2 ∧ ∀ d_21 G_22 E_23, d_21 = d_9 ++ [a_13] → G_22 = zclG G_12 a_13 → E_23 = zclE E_11 a_13 → (∀ G_24, G_24 = zuG G_22 r0 1 (some a_13) → ∃ a_25, zkd a_25 = (1, (6 : Int).toNat) ∧ (0 : Int) ≤ 6 ∧ 6 ≤ (100000 : Int) ∧ a_25 ∉ d_21 ∧ ¬ zst3 a_25 ∧ d_21.length + 1 ≤ kz.1 ∧ zsl d_21 + (zkd a_25).2 ≤ kz.2 ∧ ∀ d_33 G_34 E_35, d_33 = d_21 ++ [a_25] → G_34 = zclG G_24 a_25 → E_35 = zclE E_23 a_25 → (∀ G_36, G_36 = zuG G_34 r0 2 (some a_25) → ∀ E_37, E_37 = zuE E_35 r0 3 0 → ∀ E_38, E_38 = zuE E_37 r0 4 0 → Q none (d_33, G_36, E_38))))) : Z zm_X5_init kz Q 0 [(0, zR r0)] [] (d, G, E) := by
  refine Z.aload_n (k := 0) dX5_init_0 rfl ?_
  refine Z.objInit (a := r0) dX5_init_1 zk_X5_3 ⟨by decide, by decide⟩ (Nat.le_of_ble_eq_true rfl) ?_
  refine Z.aload_n (k := 0) dX5_init_4 rfl ?_
  refine Z.sipush (n := 180) dX5_init_5 ⟨by decide, by decide⟩ (by decide) ?_
  obtain ⟨a_1, z_2, z_3, z_4, z_5, z_6, z_7, z_8, K⟩ := K
  refine Y.newI a_1 dX5_init_8 z_2 z_3 z_4 zai z_5 z_6 z_7 z_8 ?_
  generalize ed_9 : d ++ [a_1] = d_9
  generalize eG_10 : zclG G a_1 = G_10
  generalize eE_11 : zclE E a_1 = E_11
  replace K := K d_9 G_10 E_11 ed_9.symm eG_10.symm eE_11.symm
  refine Y.putR 0 dX5_init_10 zw_X5_9 (fun _ => ⟨rfl, rfl⟩) (congrArg Prod.fst hk0) rfl (by rw [← ed_9]; exact List.mem_append_left _ (hm0)) (fun b hb => by cases hb; exact (by rw [← ed_9]; exact List.mem_append_right _ List.mem_cons_self)) ?_
  generalize eG_12 : zuG G_10 r0 0 (some a_1) = G_12
  replace K := K G_12 eG_12.symm
  refine Z.aload_n (k := 0) dX5_init_13 rfl ?_
  refine Z.bipush (n := 7) dX5_init_14 ⟨by decide, by decide⟩ (by decide) ?_
  obtain ⟨a_13, z_14, z_15, z_16, z_17, z_18, z_19, z_20, K⟩ := K
  refine Y.newI a_13 dX5_init_16 z_14 z_15 z_16 zai z_17 z_18 z_19 z_20 ?_
  generalize ed_21 : d_9 ++ [a_13] = d_21
  generalize eG_22 : zclG G_12 a_13 = G_22
  generalize eE_23 : zclE E_11 a_13 = E_23
  replace K := K d_21 G_22 E_23 ed_21.symm eG_22.symm eE_23.symm
  refine Y.putR 1 dX5_init_18 zw_X5_15 (fun _ => ⟨rfl, rfl⟩) (congrArg Prod.fst hk0) rfl (by rw [← ed_21]; exact List.mem_append_left _ ((by rw [← ed_9]; exact List.mem_append_left _ (hm0)))) (fun b hb => by cases hb; exact (by rw [← ed_21]; exact List.mem_append_right _ List.mem_cons_self)) ?_
  generalize eG_24 : zuG G_22 r0 1 (some a_13) = G_24
  replace K := K G_24 eG_24.symm
  refine Z.aload_n (k := 0) dX5_init_21 rfl ?_
  refine Z.bipush (n := 6) dX5_init_22 ⟨by decide, by decide⟩ (by decide) ?_
  obtain ⟨a_25, z_26, z_27, z_28, z_29, z_30, z_31, z_32, K⟩ := K
  refine Y.newZ a_25 dX5_init_24 z_26 z_27 z_28 zaz z_29 z_30 z_31 z_32 ?_
  generalize ed_33 : d_21 ++ [a_25] = d_33
  generalize eG_34 : zclG G_24 a_25 = G_34
  generalize eE_35 : zclE E_23 a_25 = E_35
  replace K := K d_33 G_34 E_35 ed_33.symm eG_34.symm eE_35.symm
  refine Y.putR 2 dX5_init_26 zw_X5_18 (fun _ => ⟨rfl, rfl⟩) (congrArg Prod.fst hk0) rfl (by rw [← ed_33]; exact List.mem_append_left _ ((by rw [← ed_21]; exact List.mem_append_left _ ((by rw [← ed_9]; exact List.mem_append_left _ (hm0)))))) (fun b hb => by cases hb; exact (by rw [← ed_33]; exact List.mem_append_right _ List.mem_cons_self)) ?_
  generalize eG_36 : zuG G_34 r0 2 (some a_25) = G_36
  replace K := K G_36 eG_36.symm
  refine Z.aload_n (k := 0) dX5_init_29 rfl ?_
  refine Z.iconst (n := 0) dX5_init_30 ⟨by decide, by decide⟩ ?_
  refine Y.putI 3 dX5_init_31 zw_X5_22 (fun q => by cases q) (congrArg Prod.fst hk0) rfl (by rw [← ed_33]; exact List.mem_append_left _ ((by rw [← ed_21]; exact List.mem_append_left _ ((by rw [← ed_9]; exact List.mem_append_left _ (hm0)))))) (Or.inl rfl) ?_
  generalize eE_37 : zuE E_35 r0 3 0 = E_37
  replace K := K E_37 eE_37.symm
  refine Z.aload_n (k := 0) dX5_init_34 rfl ?_
  refine Z.iconst (n := 0) dX5_init_35 ⟨by decide, by decide⟩ ?_
  refine Y.putI 4 dX5_init_36 zw_X5_26 (fun q => by cases q) (congrArg Prod.fst hk0) rfl (by rw [← ed_33]; exact List.mem_append_left _ ((by rw [← ed_21]; exact List.mem_append_left _ ((by rw [← ed_9]; exact List.mem_append_left _ (hm0)))))) (Or.inl rfl) ?_
  generalize eE_38 : zuE E_37 r0 4 0 = E_38
  replace K := K E_38 eE_38.symm
  exact Z.vret dX5_init_39 rfl K
set_option maxRecDepth 20000 in
theorem X5_copy_0 {kz : Nat × Nat} {Q : Option zV → zH → Prop} {d : List Nat} {G : Nat → Int → Option Nat} {E : Nat → Int → Int} {r0 : Nat} {r1 : Nat} (hX : zK zXt d G) (hr0 : zRk d G r0) (hr1 : zRk d G r1) (K : ∀ E_1, E_1 = zuE E r0 3 ((E r1 3)) → ∀ E_2, E_2 = zuE E_1 r0 4 ((E_1 r1 4)) → zin ((E_2 r0 3) + 1) ∧ ((0 : Int) ≤ 0 ∧ (0 : Int) ≤ 0 ∧ (0 : Int) ≤ ((E_2 r0 3) + 1) ∧ 0 + ((E_2 r0 3) + 1) ≤ (7 : Int) ∧ 0 + ((E_2 r0 3) + 1) ≤ (7 : Int)) ∧ ∀ E_5, E_5 = zcpE E_2 (r1 + 2) 0 (r0 + 2) 0 (((E_2 r0 3) + 1)) → ((0 : Int) ≤ (E_5 r0 3) ∧ (E_5 r0 3) < (7 : Int)) ∧ ((0 : Int) ≤ 0 ∧ (0 : Int) ≤ 0 ∧ (0 : Int) ≤ (E_5 (r0 + 2) (E_5 r0 3)) ∧ 0 + (E_5 (r0 + 2) (E_5 r0 3)) ≤ (180 : Int) ∧ 0 + (E_5 (r0 + 2) (E_5 r0 3)) ≤ (180 : Int)) ∧ ∀ E_8, E_8 = zcpE E_5 (r1 + 1) 0 (r0 + 1) 0 ((E_5 (r0 + 2) (E_5 r0 3))) → Z zm_X5_copy kz Q 59 [(0, zR r0), (1, zR r1), (2, zI 0)] [] (d, G, E_8)) : Z zm_X5_copy kz Q 0 [(0, zR r0), (1, zR r1)] [] (d, G, E) := by
  refine Z.aload_n (k := 0) dX5_copy_0 rfl ?_
  refine Z.aload_n (k := 1) dX5_copy_1 rfl ?_
  refine Y.getI 3 dX5_copy_2 zl_X5_22 (congrArg Prod.fst hr1.1) (by decide) rfl hr1.2.2.2.2.1 ?_
  refine Y.putI 3 dX5_copy_5 zw_X5_22 (fun q => by cases q) (congrArg Prod.fst hr0.1) rfl hr0.2.2.2.2.1 (Or.inl rfl) ?_
  generalize eE_1 : zuE E r0 3 ((E r1 3)) = E_1
  replace K := K E_1 eE_1.symm
  refine Z.aload_n (k := 0) dX5_copy_8 rfl ?_
  refine Z.aload_n (k := 1) dX5_copy_9 rfl ?_
  refine Y.getI 4 dX5_copy_10 zl_X5_26 (congrArg Prod.fst hr1.1) (by decide) rfl hr1.2.2.2.2.1 ?_
  refine Y.putI 4 dX5_copy_13 zw_X5_26 (fun q => by cases q) (congrArg Prod.fst hr0.1) rfl hr0.2.2.2.2.1 (Or.inl rfl) ?_
  generalize eE_2 : zuE E_1 r0 4 ((E_1 r1 4)) = E_2
  replace K := K E_2 eE_2.symm
  refine Z.aload_n (k := 1) dX5_copy_16 rfl ?_
  refine Y.getR (o := some (r1 + 2)) 1 dX5_copy_17 zl_X5_15 (congrArg Prod.fst hr1.1) (by decide) rfl hr1.2.2.2.2.1 hr1.2.2.2.2.2.2.2.2.2.1 ?_
  refine Z.iconst (n := 0) dX5_copy_20 ⟨by decide, by decide⟩ ?_
  refine Z.aload_n (k := 0) dX5_copy_21 rfl ?_
  refine Y.getR (o := some (r0 + 2)) 1 dX5_copy_22 zl_X5_15 (congrArg Prod.fst hr0.1) (by decide) rfl hr0.2.2.2.2.1 hr0.2.2.2.2.2.2.2.2.2.1 ?_
  refine Z.iconst (n := 0) dX5_copy_25 ⟨by decide, by decide⟩ ?_
  refine Z.aload_n (k := 0) dX5_copy_26 rfl ?_
  refine Y.getI 3 dX5_copy_27 zl_X5_22 (congrArg Prod.fst hr0.1) (by decide) rfl hr0.2.2.2.2.1 ?_
  refine Z.iconst (n := 1) dX5_copy_30 ⟨by decide, by decide⟩ ?_
  obtain ⟨z_3, K⟩ := K
  refine Z.iadd dX5_copy_31 z_3 ?_
  obtain ⟨z_4, K⟩ := K
  refine Y.copy dX5_copy_32 zk_X5_33 zcopy ⟨by decide, by decide⟩ (Nat.le_of_ble_eq_true rfl) (hr1.2.2.1) (hr0.2.2.1) (hr1.2.2.2.2.2.2.1) (hr0.2.2.2.2.2.2.1) z_4 ?_
  generalize eE_5 : zcpE E_2 (r1 + 2) 0 (r0 + 2) 0 (((E_2 r0 3) + 1)) = E_5
  replace K := K E_5 eE_5.symm
  refine Z.aload_n (k := 1) dX5_copy_35 rfl ?_
  refine Y.getR (o := some (r1 + 1)) 0 dX5_copy_36 zl_X5_9 (congrArg Prod.fst hr1.1) (by decide) rfl hr1.2.2.2.2.1 hr1.2.2.2.2.2.2.2.2.1 ?_
  refine Z.iconst (n := 0) dX5_copy_39 ⟨by decide, by decide⟩ ?_
  refine Z.aload_n (k := 0) dX5_copy_40 rfl ?_
  refine Y.getR (o := some (r0 + 1)) 0 dX5_copy_41 zl_X5_9 (congrArg Prod.fst hr0.1) (by decide) rfl hr0.2.2.2.2.1 hr0.2.2.2.2.2.2.2.2.1 ?_
  refine Z.iconst (n := 0) dX5_copy_44 ⟨by decide, by decide⟩ ?_
  refine Z.aload_n (k := 0) dX5_copy_45 rfl ?_
  refine Y.getR (o := some (r0 + 2)) 1 dX5_copy_46 zl_X5_15 (congrArg Prod.fst hr0.1) (by decide) rfl hr0.2.2.2.2.1 hr0.2.2.2.2.2.2.2.2.2.1 ?_
  refine Z.aload_n (k := 0) dX5_copy_49 rfl ?_
  refine Y.getI 3 dX5_copy_50 zl_X5_22 (congrArg Prod.fst hr0.1) (by decide) rfl hr0.2.2.2.2.1 ?_
  obtain ⟨z_6, K⟩ := K
  refine Y.iald dX5_copy_53 (hr0.2.2.1) (hr0.2.2.2.2.2.2.1) z_6 ?_
  obtain ⟨z_7, K⟩ := K
  refine Y.copy dX5_copy_54 zk_X5_33 zcopy ⟨by decide, by decide⟩ (Nat.le_of_ble_eq_true rfl) (hr1.2.1) (hr0.2.1) (hr1.2.2.2.2.2.1) (hr0.2.2.2.2.2.1) z_7 ?_
  generalize eE_8 : zcpE E_5 (r1 + 1) 0 (r0 + 1) 0 ((E_5 (r0 + 2) (E_5 r0 3))) = E_8
  replace K := K E_8 eE_8.symm
  refine Z.iconst (n := 0) dX5_copy_57 ⟨by decide, by decide⟩ ?_
  refine Z.istore_n (ls' := [(2, zI 0), (0, zR r0), (1, zR r1)]) dX5_copy_58 (by decide) rfl ?_
  refine Z.pick (ls' := [(0, zR r0), (1, zR r1), (2, zI 0)]) [1, 2, 0] rfl ?_
  exact K
set_option maxRecDepth 20000 in
theorem X5_copy_59 {kz : Nat × Nat} {Q : Option zV → zH → Prop} {d : List Nat} {G : Nat → Int → Option Nat} {E : Nat → Int → Int} {r0 : Nat} {r1 : Nat} {v2 : Int} (hX : zK zXt d G) (hr0 : zRk d G r0) (hr1 : zRk d G r1) (K : ((E r0 3) ≤ v2 → Q none (d, G, E)) ∧ (¬ ((E r0 3) ≤ v2) → ((0 : Int) ≤ v2 ∧ v2 < (6 : Int)) ∧ ((0 : Int) ≤ v2 ∧ v2 < (6 : Int)) ∧ ((E (r1 + 3) v2) = 0 ∨ (E (r1 + 3) v2) = 1) ∧ ∀ E_5, E_5 = zuE E (r0 + 3) v2 ((E (r1 + 3) v2)) → zin (v2 + 1) ∧ Z zm_X5_copy kz Q 59 [(0, zR r0), (1, zR r1), (2, zI ((v2 + 1)))] [] (d, G, E_5))) : Z zm_X5_copy kz Q 59 [(0, zR r0), (1, zR r1), (2, zI v2)] [] (d, G, E) := by
  refine Z.iload_n (k := 2) dX5_copy_59 rfl ?_
  refine Z.aload_n (k := 0) dX5_copy_60 rfl ?_
  refine Y.getI 3 dX5_copy_61 zl_X5_22 (congrArg Prod.fst hr0.1) (by decide) rfl hr0.2.2.2.2.1 ?_
  refine Z.icmp_ge 85 dX5_copy_64 rfl ⟨fun c_1 => ?_, fun c_1 => ?_⟩
  · replace K := K.1 c_1
    exact Z.vret dX5_copy_85 rfl K
  · replace K := K.2 c_1
    refine Z.aload_n (k := 0) dX5_copy_67 rfl ?_
    refine Y.getR (o := some (r0 + 3)) 2 dX5_copy_68 zl_X5_18 (congrArg Prod.fst hr0.1) (by decide) rfl hr0.2.2.2.2.1 hr0.2.2.2.2.2.2.2.2.2.2 ?_
    refine Z.iload_n (k := 2) dX5_copy_71 rfl ?_
    refine Z.aload_n (k := 1) dX5_copy_72 rfl ?_
    refine Y.getR (o := some (r1 + 3)) 2 dX5_copy_73 zl_X5_18 (congrArg Prod.fst hr1.1) (by decide) rfl hr1.2.2.2.2.1 hr1.2.2.2.2.2.2.2.2.2.2 ?_
    refine Z.iload_n (k := 2) dX5_copy_76 rfl ?_
    obtain ⟨z_2, K⟩ := K
    refine Y.zald dX5_copy_77 (hr1.2.2.2.1) (hr1.2.2.2.2.2.2.2.1) z_2 ?_
    obtain ⟨z_3, K⟩ := K
    obtain ⟨z_4, K⟩ := K
    refine Y.zast dX5_copy_78 (hr0.2.2.2.1) (hr0.2.2.2.2.2.2.2.1) z_3 z_4 ?_
    generalize eE_5 : zuE E (r0 + 3) v2 ((E (r1 + 3) v2)) = E_5
    replace K := K E_5 eE_5.symm
    obtain ⟨z_6, K⟩ := K
    refine Z.iinc (k := 2) (ls' := [(2, zI ((v2 + 1))), (0, zR r0), (1, zR r1)]) dX5_copy_79 rfl (by decide) z_6 rfl ?_
    refine Z.goto 59 dX5_copy_82 rfl ?_
    refine Z.pick (ls' := [(0, zR r0), (1, zR r1), (2, zI ((v2 + 1)))]) [1, 2, 0] rfl ?_
    exact K
set_option maxRecDepth 20000 in
theorem X5_hasLikeSides_0 {kz : Nat × Nat} {Q : Option zV → zH → Prop} {d : List Nat} {G : Nat → Int → Option Nat} {E : Nat → Int → Int} {r0 : Nat} {v1 : Int} (hX : zK zXt d G) (hr0 : zRk d G r0) (K : ((0 : Int) ≤ v1 ∧ v1 < (7 : Int)) ∧ zin ((E (r0 + 2) v1) + 1) ∧ ∃ x_3, zM zm_X8_after [zR 1, zR (r0 + 1), zI (((E (r0 + 2) v1) + 1))] (d, G, E) (some (zI x_3)) (d, G, E) ∧ zin (x_3 - ((E (r0 + 2) v1) + 1)) ∧ zin (v1 + 1) ∧ ((0 : Int) ≤ (v1 + 1) ∧ (v1 + 1) < (7 : Int)) ∧ zin ((E (r0 + 2) (v1 + 1)) - x_3) ∧ ((x_3 - ((E (r0 + 2) v1) + 1)) ≠ ((E (r0 + 2) (v1 + 1)) - x_3) → Q (some (zI 0)) (d, G, E)) ∧ (¬ ((x_3 - ((E (r0 + 2) v1) + 1)) ≠ ((E (r0 + 2) (v1 + 1)) - x_3)) → ∃ x_11, zM zm_X11_alike [zR (r0 + 1), zI (((E (r0 + 2) v1) + 1)), zR (r0 + 1), zI x_3, zI ((x_3 - ((E (r0 + 2) v1) + 1)))] (d, G, E) (some (zI x_11)) (d, G, E) ∧ (x_11 = 0 → Q (some (zI 0)) (d, G, E)) ∧ (¬ (x_11 = 0) → Q (some (zI 1)) (d, G, E)))) : Z zm_X5_hasLikeSides kz Q 0 [(0, zR r0), (1, zI v1), (2, zR 1)] [] (d, G, E) := by
  refine Z.aload_n (k := 0) dX5_hasLikeSides_0 rfl ?_
  refine Y.getR (o := some (r0 + 2)) 1 dX5_hasLikeSides_1 zl_X5_15 (congrArg Prod.fst hr0.1) (by decide) rfl hr0.2.2.2.2.1 hr0.2.2.2.2.2.2.2.2.2.1 ?_
  refine Z.iload_n (k := 1) dX5_hasLikeSides_4 rfl ?_
  obtain ⟨z_1, K⟩ := K
  refine Y.iald dX5_hasLikeSides_5 (hr0.2.2.1) (hr0.2.2.2.2.2.2.1) z_1 ?_
  refine Z.iconst (n := 1) dX5_hasLikeSides_6 ⟨by decide, by decide⟩ ?_
  obtain ⟨z_2, K⟩ := K
  refine Z.iadd dX5_hasLikeSides_7 z_2 ?_
  refine Z.istore_n (ls' := [(3, zI (((E (r0 + 2) v1) + 1))), (0, zR r0), (1, zI v1), (2, zR 1)]) dX5_hasLikeSides_8 (by decide) rfl ?_
  refine Z.aload_n (k := 3) dX5_hasLikeSides_9 rfl ?_
  refine Z.aload_n (k := 1) dX5_hasLikeSides_10 rfl ?_
  refine Y.getR (o := some (r0 + 1)) 0 dX5_hasLikeSides_11 zl_X5_9 (congrArg Prod.fst hr0.1) (by decide) rfl hr0.2.2.2.2.1 hr0.2.2.2.2.2.2.2.2.1 ?_
  refine Z.iload_n (k := 0) dX5_hasLikeSides_14 rfl ?_
  obtain ⟨x_3, m_4, K⟩ := K
  refine Y.callV (g := zm_X8_after) (vs := [zR (r0 + 1), zI (((E (r0 + 2) v1) + 1))]) (st := []) dX5_hasLikeSides_15 ⟨zg_X8_after.1, zg_X8_after.2.1, zg_X8_after.2.2, by decide⟩ ⟨zk_X5_58, zv_X8_after⟩ (ci := 8) (rfl) rfl ((zX_0_0 hX).2.2) rfl rfl (Nat.le_of_ble_eq_true rfl) m_4 (Or.inl rfl) ?_
  show Z zm_X5_hasLikeSides kz Q 18 [(3, zI (((E (r0 + 2) v1) + 1))), (0, zR r0), (1, zI v1), (2, zR 1)] [zI x_3] (d, G, E)
  refine Z.istore (ls' := [(4, zI x_3), (3, zI (((E (r0 + 2) v1) + 1))), (0, zR r0), (1, zI v1), (2, zR 1)]) dX5_hasLikeSides_18 (by decide) rfl ?_
  refine Z.iload (k := 0) dX5_hasLikeSides_20 rfl ?_
  refine Z.iload_n (k := 1) dX5_hasLikeSides_22 rfl ?_
  obtain ⟨z_6, K⟩ := K
  refine Z.isub dX5_hasLikeSides_23 z_6 ?_
  refine Z.istore (ls' := [(5, zI ((x_3 - ((E (r0 + 2) v1) + 1)))), (4, zI x_3), (3, zI (((E (r0 + 2) v1) + 1))), (0, zR r0), (1, zI v1), (2, zR 1)]) dX5_hasLikeSides_24 (by decide) rfl ?_
  refine Z.iload (k := 0) dX5_hasLikeSides_26 rfl ?_
  refine Z.aload_n (k := 3) dX5_hasLikeSides_28 rfl ?_
  refine Y.getR (o := some (r0 + 2)) 1 dX5_hasLikeSides_29 zl_X5_15 (congrArg Prod.fst hr0.1) (by decide) rfl hr0.2.2.2.2.1 hr0.2.2.2.2.2.2.2.2.2.1 ?_
  refine Z.iload_n (k := 4) dX5_hasLikeSides_32 rfl ?_
  refine Z.iconst (n := 1) dX5_hasLikeSides_33 ⟨by decide, by decide⟩ ?_
  obtain ⟨z_7, K⟩ := K
  refine Z.iadd dX5_hasLikeSides_34 z_7 ?_
  obtain ⟨z_8, K⟩ := K
  refine Y.iald dX5_hasLikeSides_35 (hr0.2.2.1) (hr0.2.2.2.2.2.2.1) z_8 ?_
  refine Z.iload (k := 1) dX5_hasLikeSides_36 rfl ?_
  obtain ⟨z_9, K⟩ := K
  refine Z.isub dX5_hasLikeSides_38 z_9 ?_
  refine Z.icmp_ne 65 dX5_hasLikeSides_39 rfl ⟨fun c_10 => ?_, fun c_10 => ?_⟩
  · replace K := K.1 c_10
    refine Z.iconst (n := 0) dX5_hasLikeSides_65 ⟨by decide, by decide⟩ ?_
    exact Z.iret (ty := .boolean) dX5_hasLikeSides_66 rfl rfl K
  · replace K := K.2 c_10
    refine Z.aload_n (k := 3) dX5_hasLikeSides_42 rfl ?_
    refine Y.getR (o := some (r0 + 1)) 0 dX5_hasLikeSides_43 zl_X5_9 (congrArg Prod.fst hr0.1) (by decide) rfl hr0.2.2.2.2.1 hr0.2.2.2.2.2.2.2.2.1 ?_
    refine Z.iload_n (k := 2) dX5_hasLikeSides_46 rfl ?_
    refine Z.aload_n (k := 3) dX5_hasLikeSides_47 rfl ?_
    refine Y.getR (o := some (r0 + 1)) 0 dX5_hasLikeSides_48 zl_X5_9 (congrArg Prod.fst hr0.1) (by decide) rfl hr0.2.2.2.2.1 hr0.2.2.2.2.2.2.2.2.1 ?_
    refine Z.iload (k := 1) dX5_hasLikeSides_51 rfl ?_
    refine Z.iload (k := 0) dX5_hasLikeSides_53 rfl ?_
    obtain ⟨x_11, m_12, K⟩ := K
    refine Y.callS (g := zm_X11_alike) (vs := [zR (r0 + 1), zI (((E (r0 + 2) v1) + 1)), zR (r0 + 1), zI x_3, zI ((x_3 - ((E (r0 + 2) v1) + 1)))]) (st := []) dX5_hasLikeSides_55 ⟨zg_X11_alike.1, zg_X11_alike.2.1, zg_X11_alike.2.2, by decide⟩ ⟨Or.inr zk_X5_43, zs_X11_alike⟩ rfl rfl (Nat.le_of_ble_eq_true rfl) m_12 (Or.inl rfl) ?_
    show Z zm_X5_hasLikeSides kz Q 58 [(5, zI ((x_3 - ((E (r0 + 2) v1) + 1)))), (4, zI x_3), (3, zI (((E (r0 + 2) v1) + 1))), (0, zR r0), (1, zI v1), (2, zR 1)] [zI x_11] (d, G, E)
    refine Z.if_eq 65 dX5_hasLikeSides_58 rfl ⟨fun c_14 => ?_, fun c_14 => ?_⟩
    · replace K := K.1 c_14
      refine Z.iconst (n := 0) dX5_hasLikeSides_65 ⟨by decide, by decide⟩ ?_
      exact Z.iret (ty := .boolean) dX5_hasLikeSides_66 rfl rfl K
    · replace K := K.2 c_14
      refine Z.iconst (n := 1) dX5_hasLikeSides_61 ⟨by decide, by decide⟩ ?_
      refine Z.goto 66 dX5_hasLikeSides_62 rfl ?_
      exact Z.iret (ty := .boolean) dX5_hasLikeSides_66 rfl rfl K
set_option maxRecDepth 20000 in
theorem X5_saysAlike_0 {kz : Nat × Nat} {Q : Option zV → zH → Prop} {d : List Nat} {G : Nat → Int → Option Nat} {E : Nat → Int → Int} {r0 : Nat} {v1 : Int} {v2 : Int} (hX : zK zXt d G) (hr0 : zRk d G r0) (K : ∃ x_1, zM zm_X5_length [zR r0, zI v1] (d, G, E) (some (zI x_1)) (d, G, E) ∧ ∃ x_4, zM zm_X5_length [zR r0, zI v2] (d, G, E) (some (zI x_4)) (d, G, E) ∧ (x_1 ≠ x_4 → Q (some (zI 0)) (d, G, E)) ∧ (¬ (x_1 ≠ x_4) → ((0 : Int) ≤ v1 ∧ v1 < (7 : Int)) ∧ ((0 : Int) ≤ v2 ∧ v2 < (7 : Int)) ∧ ∃ x_10, zM zm_X11_alike [zR (r0 + 1), zI ((E (r0 + 2) v1)), zR (r0 + 1), zI ((E (r0 + 2) v2)), zI x_1] (d, G, E) (some (zI x_10)) (d, G, E) ∧ (x_10 = 0 → Q (some (zI 0)) (d, G, E)) ∧ (¬ (x_10 = 0) → Q (some (zI 1)) (d, G, E)))) : Z zm_X5_saysAlike kz Q 0 [(0, zR r0), (1, zI v1), (2, zI v2)] [] (d, G, E) := by
  refine Z.aload_n (k := 0) dX5_saysAlike_0 rfl ?_
  refine Z.iload_n (k := 1) dX5_saysAlike_1 rfl ?_
  obtain ⟨x_1, m_2, K⟩ := K
  refine Y.callV (g := zm_X5_length) (vs := [zI v1]) (st := []) dX5_saysAlike_2 ⟨zg_X5_length.1, zg_X5_length.2.1, zg_X5_length.2.2, by decide⟩ ⟨zk_X5_39, zv_X5_length⟩ (ci := 5) (congrArg Prod.fst hr0.1) rfl (hr0.2.2.2.2.1) rfl rfl (Nat.le_of_ble_eq_true rfl) m_2 (Or.inl rfl) ?_
  show Z zm_X5_saysAlike kz Q 5 [(0, zR r0), (1, zI v1), (2, zI v2)] [zI x_1] (d, G, E)
  refine Z.istore_n (ls' := [(3, zI x_1), (0, zR r0), (1, zI v1), (2, zI v2)]) dX5_saysAlike_5 (by decide) rfl ?_
  refine Z.iload_n (k := 0) dX5_saysAlike_6 rfl ?_
  refine Z.aload_n (k := 1) dX5_saysAlike_7 rfl ?_
  refine Z.iload_n (k := 3) dX5_saysAlike_8 rfl ?_
  obtain ⟨x_4, m_5, K⟩ := K
  refine Y.callV (g := zm_X5_length) (vs := [zI v2]) (st := [zI x_1]) dX5_saysAlike_9 ⟨zg_X5_length.1, zg_X5_length.2.1, zg_X5_length.2.2, by decide⟩ ⟨zk_X5_39, zv_X5_length⟩ (ci := 5) (congrArg Prod.fst hr0.1) rfl (hr0.2.2.2.2.1) rfl rfl (Nat.le_of_ble_eq_true rfl) m_5 (Or.inl rfl) ?_
  show Z zm_X5_saysAlike kz Q 12 [(3, zI x_1), (0, zR r0), (1, zI v1), (2, zI v2)] [zI x_4, zI x_1] (d, G, E)
  refine Z.icmp_ne 46 dX5_saysAlike_12 rfl ⟨fun c_7 => ?_, fun c_7 => ?_⟩
  · replace K := K.1 c_7
    refine Z.iconst (n := 0) dX5_saysAlike_46 ⟨by decide, by decide⟩ ?_
    exact Z.iret (ty := .boolean) dX5_saysAlike_47 rfl rfl K
  · replace K := K.2 c_7
    refine Z.aload_n (k := 1) dX5_saysAlike_15 rfl ?_
    refine Y.getR (o := some (r0 + 1)) 0 dX5_saysAlike_16 zl_X5_9 (congrArg Prod.fst hr0.1) (by decide) rfl hr0.2.2.2.2.1 hr0.2.2.2.2.2.2.2.2.1 ?_
    refine Z.aload_n (k := 1) dX5_saysAlike_19 rfl ?_
    refine Y.getR (o := some (r0 + 2)) 1 dX5_saysAlike_20 zl_X5_15 (congrArg Prod.fst hr0.1) (by decide) rfl hr0.2.2.2.2.1 hr0.2.2.2.2.2.2.2.2.2.1 ?_
    refine Z.iload_n (k := 2) dX5_saysAlike_23 rfl ?_
    obtain ⟨z_8, K⟩ := K
    refine Y.iald dX5_saysAlike_24 (hr0.2.2.1) (hr0.2.2.2.2.2.2.1) z_8 ?_
    refine Z.aload_n (k := 1) dX5_saysAlike_25 rfl ?_
    refine Y.getR (o := some (r0 + 1)) 0 dX5_saysAlike_26 zl_X5_9 (congrArg Prod.fst hr0.1) (by decide) rfl hr0.2.2.2.2.1 hr0.2.2.2.2.2.2.2.2.1 ?_
    refine Z.aload_n (k := 1) dX5_saysAlike_29 rfl ?_
    refine Y.getR (o := some (r0 + 2)) 1 dX5_saysAlike_30 zl_X5_15 (congrArg Prod.fst hr0.1) (by decide) rfl hr0.2.2.2.2.1 hr0.2.2.2.2.2.2.2.2.2.1 ?_
    refine Z.iload_n (k := 3) dX5_saysAlike_33 rfl ?_
    obtain ⟨z_9, K⟩ := K
    refine Y.iald dX5_saysAlike_34 (hr0.2.2.1) (hr0.2.2.2.2.2.2.1) z_9 ?_
    refine Z.iload_n (k := 0) dX5_saysAlike_35 rfl ?_
    obtain ⟨x_10, m_11, K⟩ := K
    refine Y.callS (g := zm_X11_alike) (vs := [zR (r0 + 1), zI ((E (r0 + 2) v1)), zR (r0 + 1), zI ((E (r0 + 2) v2)), zI x_1]) (st := []) dX5_saysAlike_36 ⟨zg_X11_alike.1, zg_X11_alike.2.1, zg_X11_alike.2.2, by decide⟩ ⟨Or.inr zk_X5_43, zs_X11_alike⟩ rfl rfl (Nat.le_of_ble_eq_true rfl) m_11 (Or.inl rfl) ?_
    show Z zm_X5_saysAlike kz Q 39 [(3, zI x_1), (0, zR r0), (1, zI v1), (2, zI v2)] [zI x_10] (d, G, E)
    refine Z.if_eq 46 dX5_saysAlike_39 rfl ⟨fun c_13 => ?_, fun c_13 => ?_⟩
    · replace K := K.1 c_13
      refine Z.iconst (n := 0) dX5_saysAlike_46 ⟨by decide, by decide⟩ ?_
      exact Z.iret (ty := .boolean) dX5_saysAlike_47 rfl rfl K
    · replace K := K.2 c_13
      refine Z.iconst (n := 1) dX5_saysAlike_42 ⟨by decide, by decide⟩ ?_
      refine Z.goto 47 dX5_saysAlike_43 rfl ?_
      exact Z.iret (ty := .boolean) dX5_saysAlike_47 rfl rfl K
set_option maxRecDepth 20000 in
theorem X5_remove_0 {kz : Nat × Nat} {Q : Option zV → zH → Prop} {d : List Nat} {G : Nat → Int → Option Nat} {E : Nat → Int → Int} {r0 : Nat} {v1 : Int} (hX : zK zXt d G) (hr0 : zRk d G r0) (K : ∃ x_1, zM zm_X5_length [zR r0, zI v1] (d, G, E) (some (zI x_1)) (d, G, E) ∧ zin (v1 + 1) ∧ ((0 : Int) ≤ (v1 + 1) ∧ (v1 + 1) < (7 : Int)) ∧ ((0 : Int) ≤ v1 ∧ v1 < (7 : Int)) ∧ ((0 : Int) ≤ (E r0 3) ∧ (E r0 3) < (7 : Int)) ∧ zin (v1 + 1) ∧ ((0 : Int) ≤ (v1 + 1) ∧ (v1 + 1) < (7 : Int)) ∧ zin ((E (r0 + 2) (E r0 3)) - (E (r0 + 2) (v1 + 1))) ∧ ((0 : Int) ≤ (E (r0 + 2) (v1 + 1)) ∧ (0 : Int) ≤ (E (r0 + 2) v1) ∧ (0 : Int) ≤ ((E (r0 + 2) (E r0 3)) - (E (r0 + 2) (v1 + 1))) ∧ (E (r0 + 2) (v1 + 1)) + ((E (r0 + 2) (E r0 3)) - (E (r0 + 2) (v1 + 1))) ≤ (180 : Int) ∧ (E (r0 + 2) v1) + ((E (r0 + 2) (E r0 3)) - (E (r0 + 2) (v1 + 1))) ≤ (180 : Int)) ∧ ∀ E_12, E_12 = zcpE E (r0 + 1) ((E (r0 + 2) (v1 + 1))) (r0 + 1) ((E (r0 + 2) v1)) (((E (r0 + 2) (E r0 3)) - (E (r0 + 2) (v1 + 1)))) → zin (v1 + 1) ∧ Z zm_X5_remove kz Q 53 [(0, zR r0), (2, zI x_1), (3, zI ((v1 + 1)))] [] (d, G, E_12)) : Z zm_X5_remove kz Q 0 [(0, zR r0), (1, zI v1)] [] (d, G, E) := by
  refine Z.aload_n (k := 0) dX5_remove_0 rfl ?_
  refine Z.iload_n (k := 1) dX5_remove_1 rfl ?_
  obtain ⟨x_1, m_2, K⟩ := K
  refine Y.callV (g := zm_X5_length) (vs := [zI v1]) (st := []) dX5_remove_2 ⟨zg_X5_length.1, zg_X5_length.2.1, zg_X5_length.2.2, by decide⟩ ⟨zk_X5_39, zv_X5_length⟩ (ci := 5) (congrArg Prod.fst hr0.1) rfl (hr0.2.2.2.2.1) rfl rfl (Nat.le_of_ble_eq_true rfl) m_2 (Or.inl rfl) ?_
  show Z zm_X5_remove kz Q 5 [(0, zR r0), (1, zI v1)] [zI x_1] (d, G, E)
  refine Z.istore_n (ls' := [(2, zI x_1), (0, zR r0), (1, zI v1)]) dX5_remove_5 (by decide) rfl ?_
  refine Z.aload_n (k := 1) dX5_remove_6 rfl ?_
  refine Y.getR (o := some (r0 + 1)) 0 dX5_remove_7 zl_X5_9 (congrArg Prod.fst hr0.1) (by decide) rfl hr0.2.2.2.2.1 hr0.2.2.2.2.2.2.2.2.1 ?_
  refine Z.aload_n (k := 1) dX5_remove_10 rfl ?_
  refine Y.getR (o := some (r0 + 2)) 1 dX5_remove_11 zl_X5_15 (congrArg Prod.fst hr0.1) (by decide) rfl hr0.2.2.2.2.1 hr0.2.2.2.2.2.2.2.2.2.1 ?_
  refine Z.iload_n (k := 2) dX5_remove_14 rfl ?_
  refine Z.iconst (n := 1) dX5_remove_15 ⟨by decide, by decide⟩ ?_
  obtain ⟨z_4, K⟩ := K
  refine Z.iadd dX5_remove_16 z_4 ?_
  obtain ⟨z_5, K⟩ := K
  refine Y.iald dX5_remove_17 (hr0.2.2.1) (hr0.2.2.2.2.2.2.1) z_5 ?_
  refine Z.aload_n (k := 1) dX5_remove_18 rfl ?_
  refine Y.getR (o := some (r0 + 1)) 0 dX5_remove_19 zl_X5_9 (congrArg Prod.fst hr0.1) (by decide) rfl hr0.2.2.2.2.1 hr0.2.2.2.2.2.2.2.2.1 ?_
  refine Z.aload_n (k := 1) dX5_remove_22 rfl ?_
  refine Y.getR (o := some (r0 + 2)) 1 dX5_remove_23 zl_X5_15 (congrArg Prod.fst hr0.1) (by decide) rfl hr0.2.2.2.2.1 hr0.2.2.2.2.2.2.2.2.2.1 ?_
  refine Z.iload_n (k := 2) dX5_remove_26 rfl ?_
  obtain ⟨z_6, K⟩ := K
  refine Y.iald dX5_remove_27 (hr0.2.2.1) (hr0.2.2.2.2.2.2.1) z_6 ?_
  refine Z.aload_n (k := 1) dX5_remove_28 rfl ?_
  refine Y.getR (o := some (r0 + 2)) 1 dX5_remove_29 zl_X5_15 (congrArg Prod.fst hr0.1) (by decide) rfl hr0.2.2.2.2.1 hr0.2.2.2.2.2.2.2.2.2.1 ?_
  refine Z.aload_n (k := 1) dX5_remove_32 rfl ?_
  refine Y.getI 3 dX5_remove_33 zl_X5_22 (congrArg Prod.fst hr0.1) (by decide) rfl hr0.2.2.2.2.1 ?_
  obtain ⟨z_7, K⟩ := K
  refine Y.iald dX5_remove_36 (hr0.2.2.1) (hr0.2.2.2.2.2.2.1) z_7 ?_
  refine Z.aload_n (k := 1) dX5_remove_37 rfl ?_
  refine Y.getR (o := some (r0 + 2)) 1 dX5_remove_38 zl_X5_15 (congrArg Prod.fst hr0.1) (by decide) rfl hr0.2.2.2.2.1 hr0.2.2.2.2.2.2.2.2.2.1 ?_
  refine Z.iload_n (k := 2) dX5_remove_41 rfl ?_
  refine Z.iconst (n := 1) dX5_remove_42 ⟨by decide, by decide⟩ ?_
  obtain ⟨z_8, K⟩ := K
  refine Z.iadd dX5_remove_43 z_8 ?_
  obtain ⟨z_9, K⟩ := K
  refine Y.iald dX5_remove_44 (hr0.2.2.1) (hr0.2.2.2.2.2.2.1) z_9 ?_
  obtain ⟨z_10, K⟩ := K
  refine Z.isub dX5_remove_45 z_10 ?_
  obtain ⟨z_11, K⟩ := K
  refine Y.copy dX5_remove_46 zk_X5_33 zcopy ⟨by decide, by decide⟩ (Nat.le_of_ble_eq_true rfl) (hr0.2.1) (hr0.2.1) (hr0.2.2.2.2.2.1) (hr0.2.2.2.2.2.1) z_11 ?_
  generalize eE_12 : zcpE E (r0 + 1) ((E (r0 + 2) (v1 + 1))) (r0 + 1) ((E (r0 + 2) v1)) (((E (r0 + 2) (E r0 3)) - (E (r0 + 2) (v1 + 1)))) = E_12
  replace K := K E_12 eE_12.symm
  refine Z.iload_n (k := 2) dX5_remove_49 rfl ?_
  refine Z.iconst (n := 1) dX5_remove_50 ⟨by decide, by decide⟩ ?_
  obtain ⟨z_13, K⟩ := K
  refine Z.iadd dX5_remove_51 z_13 ?_
  refine Z.istore_n (ls' := [(3, zI ((v1 + 1))), (2, zI x_1), (0, zR r0), (1, zI v1)]) dX5_remove_52 (by decide) rfl ?_
  refine Z.pick (ls' := [(0, zR r0), (2, zI x_1), (3, zI ((v1 + 1)))]) [2, 1, 0] rfl ?_
  exact K
set_option maxRecDepth 20000 in
theorem X5_remove_53 {kz : Nat × Nat} {Q : Option zV → zH → Prop} {d : List Nat} {G : Nat → Int → Option Nat} {E : Nat → Int → Int} {r0 : Nat} {v2 : Int} {v3 : Int} (hX : zK zXt d G) (hr0 : zRk d G r0) (K : ((E r0 3) ≤ v3 → zin ((E r0 3) - 1) ∧ ∀ E_3, E_3 = zuE E r0 3 (((E r0 3) - 1)) → Q none (d, G, E_3)) ∧ (¬ ((E r0 3) ≤ v3) → zin (v3 - 1) ∧ ((0 : Int) ≤ v3 ∧ v3 < (6 : Int)) ∧ ((0 : Int) ≤ (v3 - 1) ∧ (v3 - 1) < (6 : Int)) ∧ ((E (r0 + 3) v3) = 0 ∨ (E (r0 + 3) v3) = 1) ∧ ∀ E_8, E_8 = zuE E (r0 + 3) ((v3 - 1)) ((E (r0 + 3) v3)) → zin (v3 + 1) ∧ ((0 : Int) ≤ (v3 + 1) ∧ (v3 + 1) < (7 : Int)) ∧ zin ((E_8 (r0 + 2) (v3 + 1)) - v2) ∧ ((0 : Int) ≤ v3 ∧ v3 < (7 : Int)) ∧ ∀ E_13, E_13 = zuE E_8 (r0 + 2) v3 (((E_8 (r0 + 2) (v3 + 1)) - v2)) → zin (v3 + 1) ∧ Z zm_X5_remove kz Q 53 [(0, zR r0), (2, zI v2), (3, zI ((v3 + 1)))] [] (d, G, E_13))) : Z zm_X5_remove kz Q 53 [(0, zR r0), (2, zI v2), (3, zI v3)] [] (d, G, E) := by
  refine Z.iload_n (k := 2) dX5_remove_53 rfl ?_
  refine Z.aload_n (k := 0) dX5_remove_54 rfl ?_
  refine Y.getI 3 dX5_remove_55 zl_X5_22 (congrArg Prod.fst hr0.1) (by decide) rfl hr0.2.2.2.2.1 ?_
  refine Z.icmp_ge 97 dX5_remove_58 rfl ⟨fun c_1 => ?_, fun c_1 => ?_⟩
  · replace K := K.1 c_1
    refine Z.aload_n (k := 0) dX5_remove_97 rfl ?_
    refine Z.dup_i dX5_remove_98 (fun _ => rfl) ?_
    refine Y.getI 3 dX5_remove_99 zl_X5_22 (congrArg Prod.fst hr0.1) (by decide) rfl hr0.2.2.2.2.1 ?_
    refine Z.iconst (n := 1) dX5_remove_102 ⟨by decide, by decide⟩ ?_
    obtain ⟨z_2, K⟩ := K
    refine Z.isub dX5_remove_103 z_2 ?_
    refine Y.putI 3 dX5_remove_104 zw_X5_22 (fun q => by cases q) (congrArg Prod.fst hr0.1) rfl hr0.2.2.2.2.1 (Or.inl rfl) ?_
    generalize eE_3 : zuE E r0 3 (((E r0 3) - 1)) = E_3
    replace K := K E_3 eE_3.symm
    exact Z.vret dX5_remove_107 rfl K
  · replace K := K.2 c_1
    refine Z.aload_n (k := 0) dX5_remove_61 rfl ?_
    refine Y.getR (o := some (r0 + 3)) 2 dX5_remove_62 zl_X5_18 (congrArg Prod.fst hr0.1) (by decide) rfl hr0.2.2.2.2.1 hr0.2.2.2.2.2.2.2.2.2.2 ?_
    refine Z.iload_n (k := 2) dX5_remove_65 rfl ?_
    refine Z.iconst (n := 1) dX5_remove_66 ⟨by decide, by decide⟩ ?_
    obtain ⟨z_4, K⟩ := K
    refine Z.isub dX5_remove_67 z_4 ?_
    refine Z.aload_n (k := 0) dX5_remove_68 rfl ?_
    refine Y.getR (o := some (r0 + 3)) 2 dX5_remove_69 zl_X5_18 (congrArg Prod.fst hr0.1) (by decide) rfl hr0.2.2.2.2.1 hr0.2.2.2.2.2.2.2.2.2.2 ?_
    refine Z.iload_n (k := 2) dX5_remove_72 rfl ?_
    obtain ⟨z_5, K⟩ := K
    refine Y.zald dX5_remove_73 (hr0.2.2.2.1) (hr0.2.2.2.2.2.2.2.1) z_5 ?_
    obtain ⟨z_6, K⟩ := K
    obtain ⟨z_7, K⟩ := K
    refine Y.zast dX5_remove_74 (hr0.2.2.2.1) (hr0.2.2.2.2.2.2.2.1) z_6 z_7 ?_
    generalize eE_8 : zuE E (r0 + 3) ((v3 - 1)) ((E (r0 + 3) v3)) = E_8
    replace K := K E_8 eE_8.symm
    refine Z.aload_n (k := 0) dX5_remove_75 rfl ?_
    refine Y.getR (o := some (r0 + 2)) 1 dX5_remove_76 zl_X5_15 (congrArg Prod.fst hr0.1) (by decide) rfl hr0.2.2.2.2.1 hr0.2.2.2.2.2.2.2.2.2.1 ?_
    refine Z.iload_n (k := 2) dX5_remove_79 rfl ?_
    refine Z.aload_n (k := 0) dX5_remove_80 rfl ?_
    refine Y.getR (o := some (r0 + 2)) 1 dX5_remove_81 zl_X5_15 (congrArg Prod.fst hr0.1) (by decide) rfl hr0.2.2.2.2.1 hr0.2.2.2.2.2.2.2.2.2.1 ?_
    refine Z.iload_n (k := 2) dX5_remove_84 rfl ?_
    refine Z.iconst (n := 1) dX5_remove_85 ⟨by decide, by decide⟩ ?_
    obtain ⟨z_9, K⟩ := K
    refine Z.iadd dX5_remove_86 z_9 ?_
    obtain ⟨z_10, K⟩ := K
    refine Y.iald dX5_remove_87 (hr0.2.2.1) (hr0.2.2.2.2.2.2.1) z_10 ?_
    refine Z.iload_n (k := 1) dX5_remove_88 rfl ?_
    obtain ⟨z_11, K⟩ := K
    refine Z.isub dX5_remove_89 z_11 ?_
    obtain ⟨z_12, K⟩ := K
    refine Y.iast dX5_remove_90 (hr0.2.2.1) (hr0.2.2.2.2.2.2.1) z_12 ?_
    generalize eE_13 : zuE E_8 (r0 + 2) v3 (((E_8 (r0 + 2) (v3 + 1)) - v2)) = E_13
    replace K := K E_13 eE_13.symm
    obtain ⟨z_14, K⟩ := K
    refine Z.iinc (k := 2) (ls' := [(3, zI ((v3 + 1))), (0, zR r0), (2, zI v2)]) dX5_remove_91 rfl (by decide) z_14 rfl ?_
    refine Z.goto 53 dX5_remove_94 rfl ?_
    refine Z.pick (ls' := [(0, zR r0), (2, zI v2), (3, zI ((v3 + 1)))]) [1, 2, 0] rfl ?_
    exact K
set_option maxRecDepth 20000 in
theorem X5_empty_0 {kz : Nat × Nat} {Q : Option zV → zH → Prop} {d : List Nat} {G : Nat → Int → Option Nat} {E : Nat → Int → Int} {r0 : Nat} (hX : zK zXt d G) (hr0 : zRk d G r0) (K : ∀ E_1, E_1 = zuE E r0 3 0 → ((0 : Int) ≤ 0 ∧ 0 < (7 : Int)) ∧ ∀ E_3, E_3 = zuE E_1 (r0 + 2) 0 0 → Q none (d, G, E_3)) : Z zm_X5_empty kz Q 0 [(0, zR r0)] [] (d, G, E) := by
  refine Z.aload_n (k := 0) dX5_empty_0 rfl ?_
  refine Z.iconst (n := 0) dX5_empty_1 ⟨by decide, by decide⟩ ?_
  refine Y.putI 3 dX5_empty_2 zw_X5_22 (fun q => by cases q) (congrArg Prod.fst hr0.1) rfl hr0.2.2.2.2.1 (Or.inl rfl) ?_
  generalize eE_1 : zuE E r0 3 0 = E_1
  replace K := K E_1 eE_1.symm
  refine Z.aload_n (k := 0) dX5_empty_5 rfl ?_
  refine Y.getR (o := some (r0 + 2)) 1 dX5_empty_6 zl_X5_15 (congrArg Prod.fst hr0.1) (by decide) rfl hr0.2.2.2.2.1 hr0.2.2.2.2.2.2.2.2.2.1 ?_
  refine Z.iconst (n := 0) dX5_empty_9 ⟨by decide, by decide⟩ ?_
  refine Z.iconst (n := 0) dX5_empty_10 ⟨by decide, by decide⟩ ?_
  obtain ⟨z_2, K⟩ := K
  refine Y.iast dX5_empty_11 (hr0.2.2.1) (hr0.2.2.2.2.2.2.1) z_2 ?_
  generalize eE_3 : zuE E_1 (r0 + 2) 0 0 = E_3
  replace K := K E_3 eE_3.symm
  exact Z.vret dX5_empty_12 rfl K
set_option maxRecDepth 20000 in
theorem X5_take_0 {kz : Nat × Nat} {Q : Option zV → zH → Prop} {d : List Nat} {G : Nat → Int → Option Nat} {E : Nat → Int → Int} {r0 : Nat} {v1 : Int} {a2 n2 : Nat} {v3 : Int} {v4 : Int} (hX : zK zXt d G) (hr0 : zRk d G r0) (ha2 : a2 ∈ d) (hk2 : zkd a2 = (0, n2)) (K : (6 ≤ (E r0 3) → Q (some (zI 0)) (d, G, E)) ∧ (¬ (6 ≤ (E r0 3)) → (v4 ≤ 30 → ((0 : Int) ≤ (E r0 3) ∧ (E r0 3) < (7 : Int)) ∧ ((0 : Int) ≤ v3 ∧ (0 : Int) ≤ (E (r0 + 2) (E r0 3)) ∧ (0 : Int) ≤ v4 ∧ v3 + v4 ≤ (n2 : Int) ∧ (E (r0 + 2) (E r0 3)) + v4 ≤ (180 : Int)) ∧ ∀ E_5, E_5 = zcpE E a2 v3 (r0 + 1) ((E (r0 + 2) (E r0 3))) v4 → ((0 : Int) ≤ (E_5 r0 3) ∧ (E_5 r0 3) < (6 : Int)) ∧ (v1 = 0 ∨ v1 = 1) ∧ ∀ E_8, E_8 = zuE E_5 (r0 + 3) ((E_5 r0 3)) v1 → zin ((E_8 r0 3) + 1) ∧ ((0 : Int) ≤ (E_8 r0 3) ∧ (E_8 r0 3) < (7 : Int)) ∧ zin ((E_8 (r0 + 2) (E_8 r0 3)) + v4) ∧ ((0 : Int) ≤ ((E_8 r0 3) + 1) ∧ ((E_8 r0 3) + 1) < (7 : Int)) ∧ ∀ E_13, E_13 = zuE E_8 (r0 + 2) (((E_8 r0 3) + 1)) (((E_8 (r0 + 2) (E_8 r0 3)) + v4)) → zin ((E_13 r0 3) + 1) ∧ ∀ E_15, E_15 = zuE E_13 r0 3 (((E_13 r0 3) + 1)) → Q (some (zI 1)) (d, G, E_15)) ∧ (¬ (v4 ≤ 30) → Q (some (zI 0)) (d, G, E)))) : Z zm_X5_take kz Q 0 [(0, zR r0), (1, zI v1), (2, zR a2), (3, zI v3), (4, zI v4)] [] (d, G, E) := by
  refine Z.aload_n (k := 0) dX5_take_0 rfl ?_
  refine Y.getI 3 dX5_take_1 zl_X5_22 (congrArg Prod.fst hr0.1) (by decide) rfl hr0.2.2.2.2.1 ?_
  refine Z.bipush (n := 6) dX5_take_4 ⟨by decide, by decide⟩ (by decide) ?_
  refine Z.icmp_ge 16 dX5_take_6 rfl ⟨fun c_1 => ?_, fun c_1 => ?_⟩
  · replace K := K.1 c_1
    refine Z.iconst (n := 0) dX5_take_16 ⟨by decide, by decide⟩ ?_
    exact Z.iret (ty := .boolean) dX5_take_17 rfl rfl K
  · replace K := K.2 c_1
    refine Z.iload (k := 4) dX5_take_9 rfl ?_
    refine Z.bipush (n := 30) dX5_take_11 ⟨by decide, by decide⟩ (by decide) ?_
    refine Z.icmp_le 18 dX5_take_13 rfl ⟨fun c_2 => ?_, fun c_2 => ?_⟩
    · replace K := K.1 c_2
      refine Z.aload_n (k := 2) dX5_take_18 rfl ?_
      refine Z.iload_n (k := 3) dX5_take_19 rfl ?_
      refine Z.aload_n (k := 0) dX5_take_20 rfl ?_
      refine Y.getR (o := some (r0 + 1)) 0 dX5_take_21 zl_X5_9 (congrArg Prod.fst hr0.1) (by decide) rfl hr0.2.2.2.2.1 hr0.2.2.2.2.2.2.2.2.1 ?_
      refine Z.aload_n (k := 0) dX5_take_24 rfl ?_
      refine Y.getR (o := some (r0 + 2)) 1 dX5_take_25 zl_X5_15 (congrArg Prod.fst hr0.1) (by decide) rfl hr0.2.2.2.2.1 hr0.2.2.2.2.2.2.2.2.2.1 ?_
      refine Z.aload_n (k := 0) dX5_take_28 rfl ?_
      refine Y.getI 3 dX5_take_29 zl_X5_22 (congrArg Prod.fst hr0.1) (by decide) rfl hr0.2.2.2.2.1 ?_
      obtain ⟨z_3, K⟩ := K
      refine Y.iald dX5_take_32 (hr0.2.2.1) (hr0.2.2.2.2.2.2.1) z_3 ?_
      refine Z.iload (k := 4) dX5_take_33 rfl ?_
      obtain ⟨z_4, K⟩ := K
      refine Y.copy dX5_take_35 zk_X5_33 zcopy ⟨by decide, by decide⟩ (Nat.le_of_ble_eq_true rfl) (hk2) (hr0.2.1) (ha2) (hr0.2.2.2.2.2.1) z_4 ?_
      generalize eE_5 : zcpE E a2 v3 (r0 + 1) ((E (r0 + 2) (E r0 3))) v4 = E_5
      replace K := K E_5 eE_5.symm
      refine Z.aload_n (k := 0) dX5_take_38 rfl ?_
      refine Y.getR (o := some (r0 + 3)) 2 dX5_take_39 zl_X5_18 (congrArg Prod.fst hr0.1) (by decide) rfl hr0.2.2.2.2.1 hr0.2.2.2.2.2.2.2.2.2.2 ?_
      refine Z.aload_n (k := 0) dX5_take_42 rfl ?_
      refine Y.getI 3 dX5_take_43 zl_X5_22 (congrArg Prod.fst hr0.1) (by decide) rfl hr0.2.2.2.2.1 ?_
      refine Z.iload_n (k := 1) dX5_take_46 rfl ?_
      obtain ⟨z_6, K⟩ := K
      obtain ⟨z_7, K⟩ := K
      refine Y.zast dX5_take_47 (hr0.2.2.2.1) (hr0.2.2.2.2.2.2.2.1) z_6 z_7 ?_
      generalize eE_8 : zuE E_5 (r0 + 3) ((E_5 r0 3)) v1 = E_8
      replace K := K E_8 eE_8.symm
      refine Z.aload_n (k := 0) dX5_take_48 rfl ?_
      refine Y.getR (o := some (r0 + 2)) 1 dX5_take_49 zl_X5_15 (congrArg Prod.fst hr0.1) (by decide) rfl hr0.2.2.2.2.1 hr0.2.2.2.2.2.2.2.2.2.1 ?_
      refine Z.aload_n (k := 0) dX5_take_52 rfl ?_
      refine Y.getI 3 dX5_take_53 zl_X5_22 (congrArg Prod.fst hr0.1) (by decide) rfl hr0.2.2.2.2.1 ?_
      refine Z.iconst (n := 1) dX5_take_56 ⟨by decide, by decide⟩ ?_
      obtain ⟨z_9, K⟩ := K
      refine Z.iadd dX5_take_57 z_9 ?_
      refine Z.aload_n (k := 0) dX5_take_58 rfl ?_
      refine Y.getR (o := some (r0 + 2)) 1 dX5_take_59 zl_X5_15 (congrArg Prod.fst hr0.1) (by decide) rfl hr0.2.2.2.2.1 hr0.2.2.2.2.2.2.2.2.2.1 ?_
      refine Z.aload_n (k := 0) dX5_take_62 rfl ?_
      refine Y.getI 3 dX5_take_63 zl_X5_22 (congrArg Prod.fst hr0.1) (by decide) rfl hr0.2.2.2.2.1 ?_
      obtain ⟨z_10, K⟩ := K
      refine Y.iald dX5_take_66 (hr0.2.2.1) (hr0.2.2.2.2.2.2.1) z_10 ?_
      refine Z.iload (k := 4) dX5_take_67 rfl ?_
      obtain ⟨z_11, K⟩ := K
      refine Z.iadd dX5_take_69 z_11 ?_
      obtain ⟨z_12, K⟩ := K
      refine Y.iast dX5_take_70 (hr0.2.2.1) (hr0.2.2.2.2.2.2.1) z_12 ?_
      generalize eE_13 : zuE E_8 (r0 + 2) (((E_8 r0 3) + 1)) (((E_8 (r0 + 2) (E_8 r0 3)) + v4)) = E_13
      replace K := K E_13 eE_13.symm
      refine Z.aload_n (k := 0) dX5_take_71 rfl ?_
      refine Z.dup_i dX5_take_72 (fun _ => rfl) ?_
      refine Y.getI 3 dX5_take_73 zl_X5_22 (congrArg Prod.fst hr0.1) (by decide) rfl hr0.2.2.2.2.1 ?_
      refine Z.iconst (n := 1) dX5_take_76 ⟨by decide, by decide⟩ ?_
      obtain ⟨z_14, K⟩ := K
      refine Z.iadd dX5_take_77 z_14 ?_
      refine Y.putI 3 dX5_take_78 zw_X5_22 (fun q => by cases q) (congrArg Prod.fst hr0.1) rfl hr0.2.2.2.2.1 (Or.inl rfl) ?_
      generalize eE_15 : zuE E_13 r0 3 (((E_13 r0 3) + 1)) = E_15
      replace K := K E_15 eE_15.symm
      refine Z.iconst (n := 1) dX5_take_81 ⟨by decide, by decide⟩ ?_
      exact Z.iret (ty := .boolean) dX5_take_82 rfl rfl K
    · replace K := K.2 c_2
      refine Z.iconst (n := 0) dX5_take_16 ⟨by decide, by decide⟩ ?_
      exact Z.iret (ty := .boolean) dX5_take_17 rfl rfl K
set_option maxRecDepth 20000 in
theorem X5_replace_0 {kz : Nat × Nat} {Q : Option zV → zH → Prop} {d : List Nat} {G : Nat → Int → Option Nat} {E : Nat → Int → Int} {r0 : Nat} {v1 : Int} {v2 : Int} {v3 : Int} {a4 n4 : Nat} {v5 : Int} (hX : zK zXt d G) (hr0 : zRk d G r0) (ha4 : a4 ∈ d) (hk4 : zkd a4 = (0, n4)) (K : zin (v3 - v2) ∧ zin (v5 - (v3 - v2)) ∧ ∃ x_3, zM zm_X5_length [zR r0, zI v1] (d, G, E) (some (zI x_3)) (d, G, E) ∧ zin (x_3 + (v5 - (v3 - v2))) ∧ ((x_3 + (v5 - (v3 - v2))) ≤ 30 → zin (v3 + (v5 - (v3 - v2))) ∧ ((0 : Int) ≤ (E r0 3) ∧ (E r0 3) < (7 : Int)) ∧ zin ((E (r0 + 2) (E r0 3)) - v3) ∧ ((0 : Int) ≤ v3 ∧ (0 : Int) ≤ (v3 + (v5 - (v3 - v2))) ∧ (0 : Int) ≤ ((E (r0 + 2) (E r0 3)) - v3) ∧ v3 + ((E (r0 + 2) (E r0 3)) - v3) ≤ (180 : Int) ∧ (v3 + (v5 - (v3 - v2))) + ((E (r0 + 2) (E r0 3)) - v3) ≤ (180 : Int)) ∧ ∀ E_12, E_12 = zcpE E (r0 + 1) v3 (r0 + 1) ((v3 + (v5 - (v3 - v2)))) (((E (r0 + 2) (E r0 3)) - v3)) → ((0 : Int) ≤ 0 ∧ (0 : Int) ≤ v2 ∧ (0 : Int) ≤ v5 ∧ 0 + v5 ≤ (n4 : Int) ∧ v2 + v5 ≤ (180 : Int)) ∧ ∀ E_14, E_14 = zcpE E_12 a4 0 (r0 + 1) v2 v5 → zin (v1 + 1) ∧ Z zm_X5_replace kz Q 68 [(0, zR r0), (6, zI ((v5 - (v3 - v2)))), (7, zI ((v1 + 1)))] [] (d, G, E_14)) ∧ (¬ ((x_3 + (v5 - (v3 - v2))) ≤ 30) → Q (some (zI 0)) (d, G, E))) : Z zm_X5_replace kz Q 0 [(0, zR r0), (1, zI v1), (2, zI v2), (3, zI v3), (4, zR a4), (5, zI v5)] [] (d, G, E) := by
  refine Z.iload (k := 5) dX5_replace_0 rfl ?_
  refine Z.iload_n (k := 3) dX5_replace_2 rfl ?_
  refine Z.iload_n (k := 2) dX5_replace_3 rfl ?_
  obtain ⟨z_1, K⟩ := K
  refine Z.isub dX5_replace_4 z_1 ?_
  obtain ⟨z_2, K⟩ := K
  refine Z.isub dX5_replace_5 z_2 ?_
  refine Z.istore (ls' := [(6, zI ((v5 - (v3 - v2)))), (0, zR r0), (1, zI v1), (2, zI v2), (3, zI v3), (4, zR a4), (5, zI v5)]) dX5_replace_6 (by decide) rfl ?_
  refine Z.aload_n (k := 1) dX5_replace_8 rfl ?_
  refine Z.iload_n (k := 2) dX5_replace_9 rfl ?_
  obtain ⟨x_3, m_4, K⟩ := K
  refine Y.callV (g := zm_X5_length) (vs := [zI v1]) (st := []) dX5_replace_10 ⟨zg_X5_length.1, zg_X5_length.2.1, zg_X5_length.2.2, by decide⟩ ⟨zk_X5_39, zv_X5_length⟩ (ci := 5) (congrArg Prod.fst hr0.1) rfl (hr0.2.2.2.2.1) rfl rfl (Nat.le_of_ble_eq_true rfl) m_4 (Or.inl rfl) ?_
  show Z zm_X5_replace kz Q 13 [(6, zI ((v5 - (v3 - v2)))), (0, zR r0), (1, zI v1), (2, zI v2), (3, zI v3), (4, zR a4), (5, zI v5)] [zI x_3] (d, G, E)
  refine Z.iload (k := 0) dX5_replace_13 rfl ?_
  obtain ⟨z_6, K⟩ := K
  refine Z.iadd dX5_replace_15 z_6 ?_
  refine Z.bipush (n := 30) dX5_replace_16 ⟨by decide, by decide⟩ (by decide) ?_
  refine Z.icmp_le 23 dX5_replace_18 rfl ⟨fun c_7 => ?_, fun c_7 => ?_⟩
  · replace K := K.1 c_7
    refine Z.aload_n (k := 1) dX5_replace_23 rfl ?_
    refine Y.getR (o := some (r0 + 1)) 0 dX5_replace_24 zl_X5_9 (congrArg Prod.fst hr0.1) (by decide) rfl hr0.2.2.2.2.1 hr0.2.2.2.2.2.2.2.2.1 ?_
    refine Z.iload_n (k := 4) dX5_replace_27 rfl ?_
    refine Z.aload_n (k := 1) dX5_replace_28 rfl ?_
    refine Y.getR (o := some (r0 + 1)) 0 dX5_replace_29 zl_X5_9 (congrArg Prod.fst hr0.1) (by decide) rfl hr0.2.2.2.2.1 hr0.2.2.2.2.2.2.2.2.1 ?_
    refine Z.iload_n (k := 4) dX5_replace_32 rfl ?_
    refine Z.iload (k := 0) dX5_replace_33 rfl ?_
    obtain ⟨z_8, K⟩ := K
    refine Z.iadd dX5_replace_35 z_8 ?_
    refine Z.aload_n (k := 1) dX5_replace_36 rfl ?_
    refine Y.getR (o := some (r0 + 2)) 1 dX5_replace_37 zl_X5_15 (congrArg Prod.fst hr0.1) (by decide) rfl hr0.2.2.2.2.1 hr0.2.2.2.2.2.2.2.2.2.1 ?_
    refine Z.aload_n (k := 1) dX5_replace_40 rfl ?_
    refine Y.getI 3 dX5_replace_41 zl_X5_22 (congrArg Prod.fst hr0.1) (by decide) rfl hr0.2.2.2.2.1 ?_
    obtain ⟨z_9, K⟩ := K
    refine Y.iald dX5_replace_44 (hr0.2.2.1) (hr0.2.2.2.2.2.2.1) z_9 ?_
    refine Z.iload_n (k := 4) dX5_replace_45 rfl ?_
    obtain ⟨z_10, K⟩ := K
    refine Z.isub dX5_replace_46 z_10 ?_
    obtain ⟨z_11, K⟩ := K
    refine Y.copy dX5_replace_47 zk_X5_33 zcopy ⟨by decide, by decide⟩ (Nat.le_of_ble_eq_true rfl) (hr0.2.1) (hr0.2.1) (hr0.2.2.2.2.2.1) (hr0.2.2.2.2.2.1) z_11 ?_
    generalize eE_12 : zcpE E (r0 + 1) v3 (r0 + 1) ((v3 + (v5 - (v3 - v2)))) (((E (r0 + 2) (E r0 3)) - v3)) = E_12
    replace K := K E_12 eE_12.symm
    refine Z.aload (k := 5) dX5_replace_50 rfl ?_
    refine Z.iconst (n := 0) dX5_replace_52 ⟨by decide, by decide⟩ ?_
    refine Z.aload_n (k := 1) dX5_replace_53 rfl ?_
    refine Y.getR (o := some (r0 + 1)) 0 dX5_replace_54 zl_X5_9 (congrArg Prod.fst hr0.1) (by decide) rfl hr0.2.2.2.2.1 hr0.2.2.2.2.2.2.2.2.1 ?_
    refine Z.iload_n (k := 3) dX5_replace_57 rfl ?_
    refine Z.iload (k := 6) dX5_replace_58 rfl ?_
    obtain ⟨z_13, K⟩ := K
    refine Y.copy dX5_replace_60 zk_X5_33 zcopy ⟨by decide, by decide⟩ (Nat.le_of_ble_eq_true rfl) (hk4) (hr0.2.1) (ha4) (hr0.2.2.2.2.2.1) z_13 ?_
    generalize eE_14 : zcpE E_12 a4 0 (r0 + 1) v2 v5 = E_14
    replace K := K E_14 eE_14.symm
    refine Z.iload_n (k := 2) dX5_replace_63 rfl ?_
    refine Z.iconst (n := 1) dX5_replace_64 ⟨by decide, by decide⟩ ?_
    obtain ⟨z_15, K⟩ := K
    refine Z.iadd dX5_replace_65 z_15 ?_
    refine Z.istore (ls' := [(7, zI ((v1 + 1))), (6, zI ((v5 - (v3 - v2)))), (0, zR r0), (1, zI v1), (2, zI v2), (3, zI v3), (4, zR a4), (5, zI v5)]) dX5_replace_66 (by decide) rfl ?_
    refine Z.pick (ls' := [(0, zR r0), (6, zI ((v5 - (v3 - v2)))), (7, zI ((v1 + 1)))]) [2, 1, 0] rfl ?_
    exact K
  · replace K := K.2 c_7
    refine Z.iconst (n := 0) dX5_replace_21 ⟨by decide, by decide⟩ ?_
    exact Z.iret (ty := .boolean) dX5_replace_22 rfl rfl K
set_option maxRecDepth 20000 in
theorem X5_replace_68 {kz : Nat × Nat} {Q : Option zV → zH → Prop} {d : List Nat} {G : Nat → Int → Option Nat} {E : Nat → Int → Int} {r0 : Nat} {v6 : Int} {v7 : Int} (hX : zK zXt d G) (hr0 : zRk d G r0) (K : ((E r0 3) < v7 → Q (some (zI 1)) (d, G, E)) ∧ (¬ ((E r0 3) < v7) → ((0 : Int) ≤ v7 ∧ v7 < (7 : Int)) ∧ zin ((E (r0 + 2) v7) + v6) ∧ ((0 : Int) ≤ v7 ∧ v7 < (7 : Int)) ∧ ∀ E_5, E_5 = zuE E (r0 + 2) v7 (((E (r0 + 2) v7) + v6)) → zin (v7 + 1) ∧ Z zm_X5_replace kz Q 68 [(0, zR r0), (6, zI v6), (7, zI ((v7 + 1)))] [] (d, G, E_5))) : Z zm_X5_replace kz Q 68 [(0, zR r0), (6, zI v6), (7, zI v7)] [] (d, G, E) := by
  refine Z.iload (k := 2) dX5_replace_68 rfl ?_
  refine Z.aload_n (k := 0) dX5_replace_70 rfl ?_
  refine Y.getI 3 dX5_replace_71 zl_X5_22 (congrArg Prod.fst hr0.1) (by decide) rfl hr0.2.2.2.2.1 ?_
  refine Z.icmp_gt 95 dX5_replace_74 rfl ⟨fun c_1 => ?_, fun c_1 => ?_⟩
  · replace K := K.1 c_1
    refine Z.iconst (n := 1) dX5_replace_95 ⟨by decide, by decide⟩ ?_
    exact Z.iret (ty := .boolean) dX5_replace_96 rfl rfl K
  · replace K := K.2 c_1
    refine Z.aload_n (k := 0) dX5_replace_77 rfl ?_
    refine Y.getR (o := some (r0 + 2)) 1 dX5_replace_78 zl_X5_15 (congrArg Prod.fst hr0.1) (by decide) rfl hr0.2.2.2.2.1 hr0.2.2.2.2.2.2.2.2.2.1 ?_
    refine Z.iload (k := 2) dX5_replace_81 rfl ?_
    refine Z.dup2_i dX5_replace_83 (fun _ => rfl) (fun _ => rfl) ?_
    obtain ⟨z_2, K⟩ := K
    refine Y.iald dX5_replace_84 (hr0.2.2.1) (hr0.2.2.2.2.2.2.1) z_2 ?_
    refine Z.iload (k := 1) dX5_replace_85 rfl ?_
    obtain ⟨z_3, K⟩ := K
    refine Z.iadd dX5_replace_87 z_3 ?_
    obtain ⟨z_4, K⟩ := K
    refine Y.iast dX5_replace_88 (hr0.2.2.1) (hr0.2.2.2.2.2.2.1) z_4 ?_
    generalize eE_5 : zuE E (r0 + 2) v7 (((E (r0 + 2) v7) + v6)) = E_5
    replace K := K E_5 eE_5.symm
    obtain ⟨z_6, K⟩ := K
    refine Z.iinc (k := 2) (ls' := [(7, zI ((v7 + 1))), (0, zR r0), (6, zI v6)]) dX5_replace_89 rfl (by decide) z_6 rfl ?_
    refine Z.goto 68 dX5_replace_92 rfl ?_
    refine Z.pick (ls' := [(0, zR r0), (6, zI v6), (7, zI ((v7 + 1)))]) [1, 2, 0] rfl ?_
    exact K
set_option maxRecDepth 20000 in
theorem X5_isTrivial_0 {kz : Nat × Nat} {Q : Option zV → zH → Prop} {d : List Nat} {G : Nat → Int → Option Nat} {E : Nat → Int → Int} {r0 : Nat} (hX : zK zXt d G) (hr0 : zRk d G r0) (K : Z zm_X5_isTrivial kz Q 2 [(0, zR r0), (1, zR 1), (2, zI 0)] [] (d, G, E)) : Z zm_X5_isTrivial kz Q 0 [(0, zR r0), (1, zR 1)] [] (d, G, E) := by
  refine Z.iconst (n := 0) dX5_isTrivial_0 ⟨by decide, by decide⟩ ?_
  refine Z.istore_n (ls' := [(2, zI 0), (0, zR r0), (1, zR 1)]) dX5_isTrivial_1 (by decide) rfl ?_
  refine Z.pick (ls' := [(0, zR r0), (1, zR 1), (2, zI 0)]) [1, 2, 0] rfl ?_
  exact K
set_option maxRecDepth 20000 in
theorem X5_isTrivial_2 {kz : Nat × Nat} {Q : Option zV → zH → Prop} {d : List Nat} {G : Nat → Int → Option Nat} {E : Nat → Int → Int} {r0 : Nat} {v2 : Int} (hX : zK zXt d G) (hr0 : zRk d G r0) (K : ((E r0 3) ≤ v2 → Q (some (zI 0)) (d, G, E)) ∧ (¬ ((E r0 3) ≤ v2) → ∃ x_2, zM zm_X5_isEqual [zR r0, zI v2] (d, G, E) (some (zI x_2)) (d, G, E) ∧ (x_2 = 0 → Z zm_X5_isTrivial kz Q 40 [(0, zR r0), (1, zR 1), (2, zI v2), (3, zI 0)] [] (d, G, E)) ∧ (¬ (x_2 = 0) → ((0 : Int) ≤ v2 ∧ v2 < (6 : Int)) ∧ ((E (r0 + 3) v2) ≠ 0 → Z zm_X5_isTrivial kz Q 40 [(0, zR r0), (1, zR 1), (2, zI v2), (3, zI 0)] [] (d, G, E)) ∧ (¬ ((E (r0 + 3) v2) ≠ 0) → ∃ x_8, zM zm_X5_hasLikeSides [zR r0, zI v2, zR 1] (d, G, E) (some (zI x_8)) (d, G, E) ∧ (x_8 = 0 → Z zm_X5_isTrivial kz Q 40 [(0, zR r0), (1, zR 1), (2, zI v2), (3, zI 0)] [] (d, G, E)) ∧ (¬ (x_8 = 0) → Q (some (zI 1)) (d, G, E)))))) : Z zm_X5_isTrivial kz Q 2 [(0, zR r0), (1, zR 1), (2, zI v2)] [] (d, G, E) := by
  refine Z.iload_n (k := 2) dX5_isTrivial_2 rfl ?_
  refine Z.aload_n (k := 0) dX5_isTrivial_3 rfl ?_
  refine Y.getI 3 dX5_isTrivial_4 zl_X5_22 (congrArg Prod.fst hr0.1) (by decide) rfl hr0.2.2.2.2.1 ?_
  refine Z.icmp_ge 83 dX5_isTrivial_7 rfl ⟨fun c_1 => ?_, fun c_1 => ?_⟩
  · replace K := K.1 c_1
    refine Z.iconst (n := 0) dX5_isTrivial_83 ⟨by decide, by decide⟩ ?_
    exact Z.iret (ty := .boolean) dX5_isTrivial_84 rfl rfl K
  · replace K := K.2 c_1
    refine Z.aload_n (k := 0) dX5_isTrivial_10 rfl ?_
    refine Z.iload_n (k := 2) dX5_isTrivial_11 rfl ?_
    obtain ⟨x_2, m_3, K⟩ := K
    refine Y.callV (g := zm_X5_isEqual) (vs := [zI v2]) (st := []) dX5_isTrivial_12 ⟨zg_X5_isEqual.1, zg_X5_isEqual.2.1, zg_X5_isEqual.2.2, by decide⟩ ⟨zk_X5_47, zv_X5_isEqual⟩ (ci := 5) (congrArg Prod.fst hr0.1) rfl (hr0.2.2.2.2.1) rfl rfl (Nat.le_of_ble_eq_true rfl) m_3 (Or.inl rfl) ?_
    show Z zm_X5_isTrivial kz Q 15 [(0, zR r0), (1, zR 1), (2, zI v2)] [zI x_2] (d, G, E)
    refine Z.if_eq 38 dX5_isTrivial_15 rfl ⟨fun c_5 => ?_, fun c_5 => ?_⟩
    · replace K := K.1 c_5
      refine Z.iconst (n := 0) dX5_isTrivial_38 ⟨by decide, by decide⟩ ?_
      refine Z.istore_n (ls' := [(3, zI 0), (0, zR r0), (1, zR 1), (2, zI v2)]) dX5_isTrivial_39 (by decide) rfl ?_
      refine Z.pick (ls' := [(0, zR r0), (1, zR 1), (2, zI v2), (3, zI 0)]) [1, 2, 3, 0] rfl ?_
      exact K
    · replace K := K.2 c_5
      refine Z.aload_n (k := 0) dX5_isTrivial_18 rfl ?_
      refine Y.getR (o := some (r0 + 3)) 2 dX5_isTrivial_19 zl_X5_18 (congrArg Prod.fst hr0.1) (by decide) rfl hr0.2.2.2.2.1 hr0.2.2.2.2.2.2.2.2.2.2 ?_
      refine Z.iload_n (k := 2) dX5_isTrivial_22 rfl ?_
      obtain ⟨z_6, K⟩ := K
      refine Y.zald dX5_isTrivial_23 (hr0.2.2.2.1) (hr0.2.2.2.2.2.2.2.1) z_6 ?_
      refine Z.if_ne 38 dX5_isTrivial_24 rfl ⟨fun c_7 => ?_, fun c_7 => ?_⟩
      · replace K := K.1 c_7
        refine Z.iconst (n := 0) dX5_isTrivial_38 ⟨by decide, by decide⟩ ?_
        refine Z.istore_n (ls' := [(3, zI 0), (0, zR r0), (1, zR 1), (2, zI v2)]) dX5_isTrivial_39 (by decide) rfl ?_
        refine Z.pick (ls' := [(0, zR r0), (1, zR 1), (2, zI v2), (3, zI 0)]) [1, 2, 3, 0] rfl ?_
        exact K
      · replace K := K.2 c_7
        refine Z.aload_n (k := 0) dX5_isTrivial_27 rfl ?_
        refine Z.iload_n (k := 2) dX5_isTrivial_28 rfl ?_
        refine Z.aload_n (k := 1) dX5_isTrivial_29 rfl ?_
        obtain ⟨x_8, m_9, K⟩ := K
        refine Y.callV (g := zm_X5_hasLikeSides) (vs := [zI v2, zR 1]) (st := []) dX5_isTrivial_30 ⟨zg_X5_hasLikeSides.1, zg_X5_hasLikeSides.2.1, zg_X5_hasLikeSides.2.2, by decide⟩ ⟨zk_X5_50, zv_X5_hasLikeSides⟩ (ci := 5) (congrArg Prod.fst hr0.1) rfl (hr0.2.2.2.2.1) rfl rfl (Nat.le_of_ble_eq_true rfl) m_9 (Or.inl rfl) ?_
        show Z zm_X5_isTrivial kz Q 33 [(0, zR r0), (1, zR 1), (2, zI v2)] [zI x_8] (d, G, E)
        refine Z.if_eq 38 dX5_isTrivial_33 rfl ⟨fun c_11 => ?_, fun c_11 => ?_⟩
        · replace K := K.1 c_11
          refine Z.iconst (n := 0) dX5_isTrivial_38 ⟨by decide, by decide⟩ ?_
          refine Z.istore_n (ls' := [(3, zI 0), (0, zR r0), (1, zR 1), (2, zI v2)]) dX5_isTrivial_39 (by decide) rfl ?_
          refine Z.pick (ls' := [(0, zR r0), (1, zR 1), (2, zI v2), (3, zI 0)]) [1, 2, 3, 0] rfl ?_
          exact K
        · replace K := K.2 c_11
          refine Z.iconst (n := 1) dX5_isTrivial_36 ⟨by decide, by decide⟩ ?_
          exact Z.iret (ty := .boolean) dX5_isTrivial_37 rfl rfl K
set_option maxRecDepth 20000 in
theorem X5_isTrivial_40 {kz : Nat × Nat} {Q : Option zV → zH → Prop} {d : List Nat} {G : Nat → Int → Option Nat} {E : Nat → Int → Int} {r0 : Nat} {v2 : Int} {v3 : Int} (hX : zK zXt d G) (hr0 : zRk d G r0) (K : (v2 ≤ v3 → zin (v2 + 1) ∧ Z zm_X5_isTrivial kz Q 2 [(0, zR r0), (1, zR 1), (2, zI ((v2 + 1)))] [] (d, G, E)) ∧ (¬ (v2 ≤ v3) → ((0 : Int) ≤ v2 ∧ v2 < (6 : Int)) ∧ ((0 : Int) ≤ v3 ∧ v3 < (6 : Int)) ∧ ((E (r0 + 3) v2) = (E (r0 + 3) v3) → zin (v3 + 1) ∧ Z zm_X5_isTrivial kz Q 40 [(0, zR r0), (1, zR 1), (2, zI v2), (3, zI ((v3 + 1)))] [] (d, G, E)) ∧ (¬ ((E (r0 + 3) v2) = (E (r0 + 3) v3)) → ∃ x_7, zM zm_X5_saysAlike [zR r0, zI v2, zI v3] (d, G, E) (some (zI x_7)) (d, G, E) ∧ (x_7 = 0 → zin (v3 + 1) ∧ Z zm_X5_isTrivial kz Q 40 [(0, zR r0), (1, zR 1), (2, zI v2), (3, zI ((v3 + 1)))] [] (d, G, E)) ∧ (¬ (x_7 = 0) → Q (some (zI 1)) (d, G, E))))) : Z zm_X5_isTrivial kz Q 40 [(0, zR r0), (1, zR 1), (2, zI v2), (3, zI v3)] [] (d, G, E) := by
  refine Z.iload_n (k := 3) dX5_isTrivial_40 rfl ?_
  refine Z.iload_n (k := 2) dX5_isTrivial_41 rfl ?_
  refine Z.icmp_ge 77 dX5_isTrivial_42 rfl ⟨fun c_1 => ?_, fun c_1 => ?_⟩
  · replace K := K.1 c_1
    obtain ⟨z_2, K⟩ := K
    refine Z.iinc (k := 2) (ls' := [(2, zI ((v2 + 1))), (0, zR r0), (1, zR 1), (3, zI v3)]) dX5_isTrivial_77 rfl (by decide) z_2 rfl ?_
    refine Z.goto 2 dX5_isTrivial_80 rfl ?_
    refine Z.pick (ls' := [(0, zR r0), (1, zR 1), (2, zI ((v2 + 1)))]) [1, 2, 0] rfl ?_
    exact K
  · replace K := K.2 c_1
    refine Z.aload_n (k := 0) dX5_isTrivial_45 rfl ?_
    refine Y.getR (o := some (r0 + 3)) 2 dX5_isTrivial_46 zl_X5_18 (congrArg Prod.fst hr0.1) (by decide) rfl hr0.2.2.2.2.1 hr0.2.2.2.2.2.2.2.2.2.2 ?_
    refine Z.iload_n (k := 2) dX5_isTrivial_49 rfl ?_
    obtain ⟨z_3, K⟩ := K
    refine Y.zald dX5_isTrivial_50 (hr0.2.2.2.1) (hr0.2.2.2.2.2.2.2.1) z_3 ?_
    refine Z.aload_n (k := 0) dX5_isTrivial_51 rfl ?_
    refine Y.getR (o := some (r0 + 3)) 2 dX5_isTrivial_52 zl_X5_18 (congrArg Prod.fst hr0.1) (by decide) rfl hr0.2.2.2.2.1 hr0.2.2.2.2.2.2.2.2.2.2 ?_
    refine Z.iload_n (k := 3) dX5_isTrivial_55 rfl ?_
    obtain ⟨z_4, K⟩ := K
    refine Y.zald dX5_isTrivial_56 (hr0.2.2.2.1) (hr0.2.2.2.2.2.2.2.1) z_4 ?_
    refine Z.icmp_eq 71 dX5_isTrivial_57 rfl ⟨fun c_5 => ?_, fun c_5 => ?_⟩
    · replace K := K.1 c_5
      obtain ⟨z_6, K⟩ := K
      refine Z.iinc (k := 3) (ls' := [(3, zI ((v3 + 1))), (0, zR r0), (1, zR 1), (2, zI v2)]) dX5_isTrivial_71 rfl (by decide) z_6 rfl ?_
      refine Z.goto 40 dX5_isTrivial_74 rfl ?_
      refine Z.pick (ls' := [(0, zR r0), (1, zR 1), (2, zI v2), (3, zI ((v3 + 1)))]) [1, 2, 3, 0] rfl ?_
      exact K
    · replace K := K.2 c_5
      refine Z.aload_n (k := 0) dX5_isTrivial_60 rfl ?_
      refine Z.iload_n (k := 2) dX5_isTrivial_61 rfl ?_
      refine Z.iload_n (k := 3) dX5_isTrivial_62 rfl ?_
      obtain ⟨x_7, m_8, K⟩ := K
      refine Y.callV (g := zm_X5_saysAlike) (vs := [zI v2, zI v3]) (st := []) dX5_isTrivial_63 ⟨zg_X5_saysAlike.1, zg_X5_saysAlike.2.1, zg_X5_saysAlike.2.2, by decide⟩ ⟨zk_X5_54, zv_X5_saysAlike⟩ (ci := 5) (congrArg Prod.fst hr0.1) rfl (hr0.2.2.2.2.1) rfl rfl (Nat.le_of_ble_eq_true rfl) m_8 (Or.inl rfl) ?_
      show Z zm_X5_isTrivial kz Q 66 [(0, zR r0), (1, zR 1), (2, zI v2), (3, zI v3)] [zI x_7] (d, G, E)
      refine Z.if_eq 71 dX5_isTrivial_66 rfl ⟨fun c_10 => ?_, fun c_10 => ?_⟩
      · replace K := K.1 c_10
        obtain ⟨z_11, K⟩ := K
        refine Z.iinc (k := 3) (ls' := [(3, zI ((v3 + 1))), (0, zR r0), (1, zR 1), (2, zI v2)]) dX5_isTrivial_71 rfl (by decide) z_11 rfl ?_
        refine Z.goto 40 dX5_isTrivial_74 rfl ?_
        refine Z.pick (ls' := [(0, zR r0), (1, zR 1), (2, zI v2), (3, zI ((v3 + 1)))]) [1, 2, 3, 0] rfl ?_
        exact K
      · replace K := K.2 c_10
        refine Z.iconst (n := 1) dX5_isTrivial_69 ⟨by decide, by decide⟩ ?_
        exact Z.iret (ty := .boolean) dX5_isTrivial_70 rfl rfl K
set_option maxRecDepth 20000 in
theorem X5_mark_0 {kz : Nat × Nat} {Q : Option zV → zH → Prop} {d : List Nat} {G : Nat → Int → Option Nat} {E : Nat → Int → Int} {r0 : Nat} (hX : zK zXt d G) (hr0 : zRk d G r0) (K : ∀ E_1, E_1 = zuE E r0 4 0 → Z zm_X5_mark kz Q 7 [(0, zR r0), (1, zI 0)] [] (d, G, E_1)) : Z zm_X5_mark kz Q 0 [(0, zR r0)] [] (d, G, E) := by
  refine Z.aload_n (k := 0) dX5_mark_0 rfl ?_
  refine Z.iconst (n := 0) dX5_mark_1 ⟨by decide, by decide⟩ ?_
  refine Y.putI 4 dX5_mark_2 zw_X5_26 (fun q => by cases q) (congrArg Prod.fst hr0.1) rfl hr0.2.2.2.2.1 (Or.inl rfl) ?_
  generalize eE_1 : zuE E r0 4 0 = E_1
  replace K := K E_1 eE_1.symm
  refine Z.iconst (n := 0) dX5_mark_5 ⟨by decide, by decide⟩ ?_
  refine Z.istore_n (ls' := [(1, zI 0), (0, zR r0)]) dX5_mark_6 (by decide) rfl ?_
  refine Z.pick (ls' := [(0, zR r0), (1, zI 0)]) [1, 0] rfl ?_
  exact K
set_option maxRecDepth 20000 in
theorem X5_mark_7 {kz : Nat × Nat} {Q : Option zV → zH → Prop} {d : List Nat} {G : Nat → Int → Option Nat} {E : Nat → Int → Int} {r0 : Nat} {v1 : Int} (hX : zK zXt d G) (hr0 : zRk d G r0) (K : ((E r0 3) ≤ v1 → Q none (d, G, E)) ∧ (¬ ((E r0 3) ≤ v1) → ((0 : Int) ≤ v1 ∧ v1 < (7 : Int)) ∧ ((0 : Int) ≤ (E (r0 + 2) v1) ∧ (E (r0 + 2) v1) < (180 : Int)) ∧ ((0 : Int) ≤ v1 ∧ v1 < (6 : Int)) ∧ ((E (r0 + 3) v1) = 0 → zin ((E (r0 + 1) (E (r0 + 2) v1)) + 0) ∧ ∀ E_7, E_7 = zuE E r0 4 ((zor (E r0 4) (zshl 1 ((E (r0 + 1) (E (r0 + 2) v1)) + 0)))) → ((0 : Int) ≤ v1 ∧ v1 < (7 : Int)) ∧ zin ((E_7 (r0 + 2) v1) + 1) ∧ Z zm_X5_mark kz Q 62 [(0, zR r0), (1, zI v1), (2, zI (((E_7 (r0 + 2) v1) + 1)))] [] (d, G, E_7)) ∧ (¬ ((E (r0 + 3) v1) = 0) → zin ((E (r0 + 1) (E (r0 + 2) v1)) + 16) ∧ ∀ E_11, E_11 = zuE E r0 4 ((zor (E r0 4) (zshl 1 ((E (r0 + 1) (E (r0 + 2) v1)) + 16)))) → ((0 : Int) ≤ v1 ∧ v1 < (7 : Int)) ∧ zin ((E_11 (r0 + 2) v1) + 1) ∧ Z zm_X5_mark kz Q 62 [(0, zR r0), (1, zI v1), (2, zI (((E_11 (r0 + 2) v1) + 1)))] [] (d, G, E_11)))) : Z zm_X5_mark kz Q 7 [(0, zR r0), (1, zI v1)] [] (d, G, E) := by
  refine Z.iload_n (k := 1) dX5_mark_7 rfl ?_
  refine Z.aload_n (k := 0) dX5_mark_8 rfl ?_
  refine Y.getI 3 dX5_mark_9 zl_X5_22 (congrArg Prod.fst hr0.1) (by decide) rfl hr0.2.2.2.2.1 ?_
  refine Z.icmp_ge 112 dX5_mark_12 rfl ⟨fun c_1 => ?_, fun c_1 => ?_⟩
  · replace K := K.1 c_1
    exact Z.vret dX5_mark_112 rfl K
  · replace K := K.2 c_1
    refine Z.aload_n (k := 0) dX5_mark_15 rfl ?_
    refine Z.dup_i dX5_mark_16 (fun _ => rfl) ?_
    refine Y.getI 4 dX5_mark_17 zl_X5_26 (congrArg Prod.fst hr0.1) (by decide) rfl hr0.2.2.2.2.1 ?_
    refine Z.iconst (n := 1) dX5_mark_20 ⟨by decide, by decide⟩ ?_
    refine Z.aload_n (k := 0) dX5_mark_21 rfl ?_
    refine Y.getR (o := some (r0 + 1)) 0 dX5_mark_22 zl_X5_9 (congrArg Prod.fst hr0.1) (by decide) rfl hr0.2.2.2.2.1 hr0.2.2.2.2.2.2.2.2.1 ?_
    refine Z.aload_n (k := 0) dX5_mark_25 rfl ?_
    refine Y.getR (o := some (r0 + 2)) 1 dX5_mark_26 zl_X5_15 (congrArg Prod.fst hr0.1) (by decide) rfl hr0.2.2.2.2.1 hr0.2.2.2.2.2.2.2.2.2.1 ?_
    refine Z.iload_n (k := 1) dX5_mark_29 rfl ?_
    obtain ⟨z_2, K⟩ := K
    refine Y.iald dX5_mark_30 (hr0.2.2.1) (hr0.2.2.2.2.2.2.1) z_2 ?_
    obtain ⟨z_3, K⟩ := K
    refine Y.iald dX5_mark_31 (hr0.2.1) (hr0.2.2.2.2.2.1) z_3 ?_
    refine Z.aload_n (k := 0) dX5_mark_32 rfl ?_
    refine Y.getR (o := some (r0 + 3)) 2 dX5_mark_33 zl_X5_18 (congrArg Prod.fst hr0.1) (by decide) rfl hr0.2.2.2.2.1 hr0.2.2.2.2.2.2.2.2.2.2 ?_
    refine Z.iload_n (k := 1) dX5_mark_36 rfl ?_
    obtain ⟨z_4, K⟩ := K
    refine Y.zald dX5_mark_37 (hr0.2.2.2.1) (hr0.2.2.2.2.2.2.2.1) z_4 ?_
    refine Z.if_eq 46 dX5_mark_38 rfl ⟨fun c_5 => ?_, fun c_5 => ?_⟩
    · replace K := K.1 c_5
      refine Z.iconst (n := 0) dX5_mark_46 ⟨by decide, by decide⟩ ?_
      obtain ⟨z_6, K⟩ := K
      refine Z.iadd dX5_mark_47 z_6 ?_
      refine Z.ishl dX5_mark_48 ?_
      refine Z.ior dX5_mark_49 ?_
      refine Y.putI 4 dX5_mark_50 zw_X5_26 (fun q => by cases q) (congrArg Prod.fst hr0.1) rfl hr0.2.2.2.2.1 (Or.inl rfl) ?_
      generalize eE_7 : zuE E r0 4 ((zor (E r0 4) (zshl 1 ((E (r0 + 1) (E (r0 + 2) v1)) + 0)))) = E_7
      replace K := K E_7 eE_7.symm
      refine Z.aload_n (k := 0) dX5_mark_53 rfl ?_
      refine Y.getR (o := some (r0 + 2)) 1 dX5_mark_54 zl_X5_15 (congrArg Prod.fst hr0.1) (by decide) rfl hr0.2.2.2.2.1 hr0.2.2.2.2.2.2.2.2.2.1 ?_
      refine Z.iload_n (k := 1) dX5_mark_57 rfl ?_
      obtain ⟨z_8, K⟩ := K
      refine Y.iald dX5_mark_58 (hr0.2.2.1) (hr0.2.2.2.2.2.2.1) z_8 ?_
      refine Z.iconst (n := 1) dX5_mark_59 ⟨by decide, by decide⟩ ?_
      obtain ⟨z_9, K⟩ := K
      refine Z.iadd dX5_mark_60 z_9 ?_
      refine Z.istore_n (ls' := [(2, zI (((E_7 (r0 + 2) v1) + 1))), (0, zR r0), (1, zI v1)]) dX5_mark_61 (by decide) rfl ?_
      refine Z.pick (ls' := [(0, zR r0), (1, zI v1), (2, zI (((E_7 (r0 + 2) v1) + 1)))]) [1, 2, 0] rfl ?_
      exact K
    · replace K := K.2 c_5
      refine Z.bipush (n := 16) dX5_mark_41 ⟨by decide, by decide⟩ (by decide) ?_
      refine Z.goto 47 dX5_mark_43 rfl ?_
      obtain ⟨z_10, K⟩ := K
      refine Z.iadd dX5_mark_47 z_10 ?_
      refine Z.ishl dX5_mark_48 ?_
      refine Z.ior dX5_mark_49 ?_
      refine Y.putI 4 dX5_mark_50 zw_X5_26 (fun q => by cases q) (congrArg Prod.fst hr0.1) rfl hr0.2.2.2.2.1 (Or.inl rfl) ?_
      generalize eE_11 : zuE E r0 4 ((zor (E r0 4) (zshl 1 ((E (r0 + 1) (E (r0 + 2) v1)) + 16)))) = E_11
      replace K := K E_11 eE_11.symm
      refine Z.aload_n (k := 0) dX5_mark_53 rfl ?_
      refine Y.getR (o := some (r0 + 2)) 1 dX5_mark_54 zl_X5_15 (congrArg Prod.fst hr0.1) (by decide) rfl hr0.2.2.2.2.1 hr0.2.2.2.2.2.2.2.2.2.1 ?_
      refine Z.iload_n (k := 1) dX5_mark_57 rfl ?_
      obtain ⟨z_12, K⟩ := K
      refine Y.iald dX5_mark_58 (hr0.2.2.1) (hr0.2.2.2.2.2.2.1) z_12 ?_
      refine Z.iconst (n := 1) dX5_mark_59 ⟨by decide, by decide⟩ ?_
      obtain ⟨z_13, K⟩ := K
      refine Z.iadd dX5_mark_60 z_13 ?_
      refine Z.istore_n (ls' := [(2, zI (((E_11 (r0 + 2) v1) + 1))), (0, zR r0), (1, zI v1)]) dX5_mark_61 (by decide) rfl ?_
      refine Z.pick (ls' := [(0, zR r0), (1, zI v1), (2, zI (((E_11 (r0 + 2) v1) + 1)))]) [1, 2, 0] rfl ?_
      exact K
set_option maxRecDepth 20000 in
theorem X5_mark_62 {kz : Nat × Nat} {Q : Option zV → zH → Prop} {d : List Nat} {G : Nat → Int → Option Nat} {E : Nat → Int → Int} {r0 : Nat} {v1 : Int} {v2 : Int} (hX : zK zXt d G) (hr0 : zRk d G r0) (K : zin (v1 + 1) ∧ ((0 : Int) ≤ (v1 + 1) ∧ (v1 + 1) < (7 : Int)) ∧ ((E (r0 + 2) (v1 + 1)) ≤ v2 → zin (v1 + 1) ∧ Z zm_X5_mark kz Q 7 [(0, zR r0), (1, zI ((v1 + 1)))] [] (d, G, E)) ∧ (¬ ((E (r0 + 2) (v1 + 1)) ≤ v2) → ((0 : Int) ≤ v2 ∧ v2 < (180 : Int)) ∧ ((E (r0 + 1) v2) < 0 → zin (v2 + 1) ∧ Z zm_X5_mark kz Q 62 [(0, zR r0), (1, zI v1), (2, zI ((v2 + 1)))] [] (d, G, E)) ∧ (¬ ((E (r0 + 1) v2) < 0) → ((0 : Int) ≤ v2 ∧ v2 < (180 : Int)) ∧ ∀ E_9, E_9 = zuE E r0 4 ((zor (E r0 4) (zshl 1 (E (r0 + 1) v2)))) → zin (v2 + 1) ∧ Z zm_X5_mark kz Q 62 [(0, zR r0), (1, zI v1), (2, zI ((v2 + 1)))] [] (d, G, E_9)))) : Z zm_X5_mark kz Q 62 [(0, zR r0), (1, zI v1), (2, zI v2)] [] (d, G, E) := by
  refine Z.iload_n (k := 2) dX5_mark_62 rfl ?_
  refine Z.aload_n (k := 0) dX5_mark_63 rfl ?_
  refine Y.getR (o := some (r0 + 2)) 1 dX5_mark_64 zl_X5_15 (congrArg Prod.fst hr0.1) (by decide) rfl hr0.2.2.2.2.1 hr0.2.2.2.2.2.2.2.2.2.1 ?_
  refine Z.iload_n (k := 1) dX5_mark_67 rfl ?_
  refine Z.iconst (n := 1) dX5_mark_68 ⟨by decide, by decide⟩ ?_
  obtain ⟨z_1, K⟩ := K
  refine Z.iadd dX5_mark_69 z_1 ?_
  obtain ⟨z_2, K⟩ := K
  refine Y.iald dX5_mark_70 (hr0.2.2.1) (hr0.2.2.2.2.2.2.1) z_2 ?_
  refine Z.icmp_ge 106 dX5_mark_71 rfl ⟨fun c_3 => ?_, fun c_3 => ?_⟩
  · replace K := K.1 c_3
    obtain ⟨z_4, K⟩ := K
    refine Z.iinc (k := 1) (ls' := [(1, zI ((v1 + 1))), (0, zR r0), (2, zI v2)]) dX5_mark_106 rfl (by decide) z_4 rfl ?_
    refine Z.goto 7 dX5_mark_109 rfl ?_
    refine Z.pick (ls' := [(0, zR r0), (1, zI ((v1 + 1)))]) [1, 0] rfl ?_
    exact K
  · replace K := K.2 c_3
    refine Z.aload_n (k := 0) dX5_mark_74 rfl ?_
    refine Y.getR (o := some (r0 + 1)) 0 dX5_mark_75 zl_X5_9 (congrArg Prod.fst hr0.1) (by decide) rfl hr0.2.2.2.2.1 hr0.2.2.2.2.2.2.2.2.1 ?_
    refine Z.iload_n (k := 2) dX5_mark_78 rfl ?_
    obtain ⟨z_5, K⟩ := K
    refine Y.iald dX5_mark_79 (hr0.2.1) (hr0.2.2.2.2.2.1) z_5 ?_
    refine Z.if_lt 100 dX5_mark_80 rfl ⟨fun c_6 => ?_, fun c_6 => ?_⟩
    · replace K := K.1 c_6
      obtain ⟨z_7, K⟩ := K
      refine Z.iinc (k := 2) (ls' := [(2, zI ((v2 + 1))), (0, zR r0), (1, zI v1)]) dX5_mark_100 rfl (by decide) z_7 rfl ?_
      refine Z.goto 62 dX5_mark_103 rfl ?_
      refine Z.pick (ls' := [(0, zR r0), (1, zI v1), (2, zI ((v2 + 1)))]) [1, 2, 0] rfl ?_
      exact K
    · replace K := K.2 c_6
      refine Z.aload_n (k := 0) dX5_mark_83 rfl ?_
      refine Z.dup_i dX5_mark_84 (fun _ => rfl) ?_
      refine Y.getI 4 dX5_mark_85 zl_X5_26 (congrArg Prod.fst hr0.1) (by decide) rfl hr0.2.2.2.2.1 ?_
      refine Z.iconst (n := 1) dX5_mark_88 ⟨by decide, by decide⟩ ?_
      refine Z.aload_n (k := 0) dX5_mark_89 rfl ?_
      refine Y.getR (o := some (r0 + 1)) 0 dX5_mark_90 zl_X5_9 (congrArg Prod.fst hr0.1) (by decide) rfl hr0.2.2.2.2.1 hr0.2.2.2.2.2.2.2.2.1 ?_
      refine Z.iload_n (k := 2) dX5_mark_93 rfl ?_
      obtain ⟨z_8, K⟩ := K
      refine Y.iald dX5_mark_94 (hr0.2.1) (hr0.2.2.2.2.2.1) z_8 ?_
      refine Z.ishl dX5_mark_95 ?_
      refine Z.ior dX5_mark_96 ?_
      refine Y.putI 4 dX5_mark_97 zw_X5_26 (fun q => by cases q) (congrArg Prod.fst hr0.1) rfl hr0.2.2.2.2.1 (Or.inl rfl) ?_
      generalize eE_9 : zuE E r0 4 ((zor (E r0 4) (zshl 1 (E (r0 + 1) v2)))) = E_9
      replace K := K E_9 eE_9.symm
      obtain ⟨z_10, K⟩ := K
      refine Z.iinc (k := 2) (ls' := [(2, zI ((v2 + 1))), (0, zR r0), (1, zI v1)]) dX5_mark_100 rfl (by decide) z_10 rfl ?_
      refine Z.goto 62 dX5_mark_103 rfl ?_
      refine Z.pick (ls' := [(0, zR r0), (1, zI v1), (2, zI ((v2 + 1)))]) [1, 2, 0] rfl ?_
      exact K
set_option maxRecDepth 20000 in
theorem X5_same_0 {kz : Nat × Nat} {Q : Option zV → zH → Prop} {d : List Nat} {G : Nat → Int → Option Nat} {E : Nat → Int → Int} {r0 : Nat} {r1 : Nat} (hX : zK zXt d G) (hr0 : zRk d G r0) (hr1 : zRk d G r1) (K : ((E r0 3) = (E r1 3) → Z zm_X5_same kz Q 15 [(0, zR r0), (1, zR r1), (2, zI 0)] [] (d, G, E)) ∧ (¬ ((E r0 3) = (E r1 3)) → Q (some (zI 0)) (d, G, E))) : Z zm_X5_same kz Q 0 [(0, zR r0), (1, zR r1)] [] (d, G, E) := by
  refine Z.aload_n (k := 0) dX5_same_0 rfl ?_
  refine Y.getI 3 dX5_same_1 zl_X5_22 (congrArg Prod.fst hr0.1) (by decide) rfl hr0.2.2.2.2.1 ?_
  refine Z.aload_n (k := 1) dX5_same_4 rfl ?_
  refine Y.getI 3 dX5_same_5 zl_X5_22 (congrArg Prod.fst hr1.1) (by decide) rfl hr1.2.2.2.2.1 ?_
  refine Z.icmp_eq 13 dX5_same_8 rfl ⟨fun c_1 => ?_, fun c_1 => ?_⟩
  · replace K := K.1 c_1
    refine Z.iconst (n := 0) dX5_same_13 ⟨by decide, by decide⟩ ?_
    refine Z.istore_n (ls' := [(2, zI 0), (0, zR r0), (1, zR r1)]) dX5_same_14 (by decide) rfl ?_
    refine Z.pick (ls' := [(0, zR r0), (1, zR r1), (2, zI 0)]) [1, 2, 0] rfl ?_
    exact K
  · replace K := K.2 c_1
    refine Z.iconst (n := 0) dX5_same_11 ⟨by decide, by decide⟩ ?_
    exact Z.iret (ty := .boolean) dX5_same_12 rfl rfl K
set_option maxRecDepth 20000 in
theorem X5_same_15 {kz : Nat × Nat} {Q : Option zV → zH → Prop} {d : List Nat} {G : Nat → Int → Option Nat} {E : Nat → Int → Int} {r0 : Nat} {r1 : Nat} {v2 : Int} (hX : zK zXt d G) (hr0 : zRk d G r0) (hr1 : zRk d G r1) (K : ((E r0 3) ≤ v2 → ((0 : Int) ≤ (E r0 3) ∧ (E r0 3) < (7 : Int)) ∧ ∃ x_3, zM zm_X11_alike [zR (r0 + 1), zI 0, zR (r1 + 1), zI 0, zI ((E (r0 + 2) (E r0 3)))] (d, G, E) (some (zI x_3)) (d, G, E) ∧ (x_3 = 0 ∨ x_3 = 1) ∧ Q (some (zI x_3)) (d, G, E)) ∧ (¬ ((E r0 3) ≤ v2) → ((0 : Int) ≤ v2 ∧ v2 < (6 : Int)) ∧ ((0 : Int) ≤ v2 ∧ v2 < (6 : Int)) ∧ ((E (r0 + 3) v2) ≠ (E (r1 + 3) v2) → Q (some (zI 0)) (d, G, E)) ∧ (¬ ((E (r0 + 3) v2) ≠ (E (r1 + 3) v2)) → zin (v2 + 1) ∧ ((0 : Int) ≤ (v2 + 1) ∧ (v2 + 1) < (7 : Int)) ∧ zin (v2 + 1) ∧ ((0 : Int) ≤ (v2 + 1) ∧ (v2 + 1) < (7 : Int)) ∧ ((E (r0 + 2) (v2 + 1)) = (E (r1 + 2) (v2 + 1)) → zin (v2 + 1) ∧ Z zm_X5_same kz Q 15 [(0, zR r0), (1, zR r1), (2, zI ((v2 + 1)))] [] (d, G, E)) ∧ (¬ ((E (r0 + 2) (v2 + 1)) = (E (r1 + 2) (v2 + 1))) → Q (some (zI 0)) (d, G, E))))) : Z zm_X5_same kz Q 15 [(0, zR r0), (1, zR r1), (2, zI v2)] [] (d, G, E) := by
  refine Z.iload_n (k := 2) dX5_same_15 rfl ?_
  refine Z.aload_n (k := 0) dX5_same_16 rfl ?_
  refine Y.getI 3 dX5_same_17 zl_X5_22 (congrArg Prod.fst hr0.1) (by decide) rfl hr0.2.2.2.2.1 ?_
  refine Z.icmp_ge 65 dX5_same_20 rfl ⟨fun c_1 => ?_, fun c_1 => ?_⟩
  · replace K := K.1 c_1
    refine Z.aload_n (k := 0) dX5_same_65 rfl ?_
    refine Y.getR (o := some (r0 + 1)) 0 dX5_same_66 zl_X5_9 (congrArg Prod.fst hr0.1) (by decide) rfl hr0.2.2.2.2.1 hr0.2.2.2.2.2.2.2.2.1 ?_
    refine Z.iconst (n := 0) dX5_same_69 ⟨by decide, by decide⟩ ?_
    refine Z.aload_n (k := 1) dX5_same_70 rfl ?_
    refine Y.getR (o := some (r1 + 1)) 0 dX5_same_71 zl_X5_9 (congrArg Prod.fst hr1.1) (by decide) rfl hr1.2.2.2.2.1 hr1.2.2.2.2.2.2.2.2.1 ?_
    refine Z.iconst (n := 0) dX5_same_74 ⟨by decide, by decide⟩ ?_
    refine Z.aload_n (k := 0) dX5_same_75 rfl ?_
    refine Y.getR (o := some (r0 + 2)) 1 dX5_same_76 zl_X5_15 (congrArg Prod.fst hr0.1) (by decide) rfl hr0.2.2.2.2.1 hr0.2.2.2.2.2.2.2.2.2.1 ?_
    refine Z.aload_n (k := 0) dX5_same_79 rfl ?_
    refine Y.getI 3 dX5_same_80 zl_X5_22 (congrArg Prod.fst hr0.1) (by decide) rfl hr0.2.2.2.2.1 ?_
    obtain ⟨z_2, K⟩ := K
    refine Y.iald dX5_same_83 (hr0.2.2.1) (hr0.2.2.2.2.2.2.1) z_2 ?_
    obtain ⟨x_3, m_4, K⟩ := K
    refine Y.callS (g := zm_X11_alike) (vs := [zR (r0 + 1), zI 0, zR (r1 + 1), zI 0, zI ((E (r0 + 2) (E r0 3)))]) (st := []) dX5_same_84 ⟨zg_X11_alike.1, zg_X11_alike.2.1, zg_X11_alike.2.2, by decide⟩ ⟨Or.inr zk_X5_43, zs_X11_alike⟩ rfl rfl (Nat.le_of_ble_eq_true rfl) m_4 (Or.inl rfl) ?_
    show Z zm_X5_same kz Q 87 [(0, zR r0), (1, zR r1), (2, zI v2)] [zI x_3] (d, G, E)
    exact Z.iret (ty := .boolean) dX5_same_87 rfl (by rcases K.1 with e | e <;> rw [e] <;> rfl) K.2
  · replace K := K.2 c_1
    refine Z.aload_n (k := 0) dX5_same_23 rfl ?_
    refine Y.getR (o := some (r0 + 3)) 2 dX5_same_24 zl_X5_18 (congrArg Prod.fst hr0.1) (by decide) rfl hr0.2.2.2.2.1 hr0.2.2.2.2.2.2.2.2.2.2 ?_
    refine Z.iload_n (k := 2) dX5_same_27 rfl ?_
    obtain ⟨z_6, K⟩ := K
    refine Y.zald dX5_same_28 (hr0.2.2.2.1) (hr0.2.2.2.2.2.2.2.1) z_6 ?_
    refine Z.aload_n (k := 1) dX5_same_29 rfl ?_
    refine Y.getR (o := some (r1 + 3)) 2 dX5_same_30 zl_X5_18 (congrArg Prod.fst hr1.1) (by decide) rfl hr1.2.2.2.2.1 hr1.2.2.2.2.2.2.2.2.2.2 ?_
    refine Z.iload_n (k := 2) dX5_same_33 rfl ?_
    obtain ⟨z_7, K⟩ := K
    refine Y.zald dX5_same_34 (hr1.2.2.2.1) (hr1.2.2.2.2.2.2.2.1) z_7 ?_
    refine Z.icmp_ne 57 dX5_same_35 rfl ⟨fun c_8 => ?_, fun c_8 => ?_⟩
    · replace K := K.1 c_8
      refine Z.iconst (n := 0) dX5_same_57 ⟨by decide, by decide⟩ ?_
      exact Z.iret (ty := .boolean) dX5_same_58 rfl rfl K
    · replace K := K.2 c_8
      refine Z.aload_n (k := 0) dX5_same_38 rfl ?_
      refine Y.getR (o := some (r0 + 2)) 1 dX5_same_39 zl_X5_15 (congrArg Prod.fst hr0.1) (by decide) rfl hr0.2.2.2.2.1 hr0.2.2.2.2.2.2.2.2.2.1 ?_
      refine Z.iload_n (k := 2) dX5_same_42 rfl ?_
      refine Z.iconst (n := 1) dX5_same_43 ⟨by decide, by decide⟩ ?_
      obtain ⟨z_9, K⟩ := K
      refine Z.iadd dX5_same_44 z_9 ?_
      obtain ⟨z_10, K⟩ := K
      refine Y.iald dX5_same_45 (hr0.2.2.1) (hr0.2.2.2.2.2.2.1) z_10 ?_
      refine Z.aload_n (k := 1) dX5_same_46 rfl ?_
      refine Y.getR (o := some (r1 + 2)) 1 dX5_same_47 zl_X5_15 (congrArg Prod.fst hr1.1) (by decide) rfl hr1.2.2.2.2.1 hr1.2.2.2.2.2.2.2.2.2.1 ?_
      refine Z.iload_n (k := 2) dX5_same_50 rfl ?_
      refine Z.iconst (n := 1) dX5_same_51 ⟨by decide, by decide⟩ ?_
      obtain ⟨z_11, K⟩ := K
      refine Z.iadd dX5_same_52 z_11 ?_
      obtain ⟨z_12, K⟩ := K
      refine Y.iald dX5_same_53 (hr1.2.2.1) (hr1.2.2.2.2.2.2.1) z_12 ?_
      refine Z.icmp_eq 59 dX5_same_54 rfl ⟨fun c_13 => ?_, fun c_13 => ?_⟩
      · replace K := K.1 c_13
        obtain ⟨z_14, K⟩ := K
        refine Z.iinc (k := 2) (ls' := [(2, zI ((v2 + 1))), (0, zR r0), (1, zR r1)]) dX5_same_59 rfl (by decide) z_14 rfl ?_
        refine Z.goto 15 dX5_same_62 rfl ?_
        refine Z.pick (ls' := [(0, zR r0), (1, zR r1), (2, zI ((v2 + 1)))]) [1, 2, 0] rfl ?_
        exact K
      · replace K := K.2 c_13
        refine Z.iconst (n := 0) dX5_same_57 ⟨by decide, by decide⟩ ?_
        exact Z.iret (ty := .boolean) dX5_same_58 rfl rfl K
