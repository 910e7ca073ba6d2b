set_option maxRecDepth 20000 in
theorem X0_init_0 {kz : Nat × Nat} {Q : Option zV → zH → Prop} {d : List Nat} {G : Nat → Int → Option Nat} {E : Nat → Int → Int}  (hm42 : 42 ∈ d) (hm1 : 1 ∈ d) (hm5 : 5 ∈ d) (K : ∃ a_1, zkd a_1 = (0, (7 : Int).toNat) ∧ (0 : Int) ≤ 7 ∧ 7 ≤ (100000 : Int) ∧ a_1 ∉ d ∧ ¬ zst3 a_1 ∧ d.length + 1 ≤ kz.1 ∧ zsl d + (zkd a_1).2 ≤ kz.2 ∧ ∀ d_9 G_10 E_11, d_9 = d ++ [a_1] → G_10 = zclG G a_1 → E_11 = zclE E a_1 → (∀ G_12, G_12 = zuG G_10 42 2 (some a_1) → ∀ G_13, G_13 = zuG G_12 42 3 none → ∀ E_14, E_14 = zuE E_11 42 4 0 → ∀ E_15, E_15 = zuE E_14 42 5 6 → ∀ G_16, G_16 = zuG G_13 42 6 none → ∀ G_17, G_17 = zuG G_16 42 7 none → ∀ E_18, E_18 = zuE E_15 42 8 0 → ∀ E_19, E_19 = zuE E_18 42 9 0 → ∀ E_20, E_20 = zuE E_19 42 10 0 → ∀ E_21, E_21 = zuE E_20 42 11 0 → ∀ G_22, G_22 = zuG G_17 42 0 (some 1) → ∀ G_23, G_23 = zuG G_22 42 1 (some 5) → Q none (d_9, G_23, E_21))) : Z zm_X0_init kz Q 0 [(0, zR 42), (1, zR 1), (2, zR 5)] [] (d, G, E) := by
  refine Z.aload_n (k := 0) dX0_init_0 rfl ?_
  refine Z.objInit (a := 42) dX0_init_1 zk_X0_3 ⟨by decide, by decide⟩ (Nat.le_of_ble_eq_true rfl) ?_
  refine Z.aload_n (k := 0) dX0_init_4 rfl ?_
  refine Z.bipush (n := 7) dX0_init_5 ⟨by decide, by decide⟩ (by decide) ?_
  obtain ⟨a_1, z_2, z_3, z_4, z_5, z_6, z_7, z_8, K⟩ := K
  refine Y.newI a_1 dX0_init_7 z_2 z_3 z_4 zai z_5 z_6 z_7 z_8 ?_
  generalize ed_9 : d ++ [a_1] = d_9
  generalize eG_10 : zclG G a_1 = G_10
  generalize eE_11 : zclE E a_1 = E_11
  replace K := K d_9 G_10 E_11 ed_9.symm eG_10.symm eE_11.symm
  refine Y.putR 2 dX0_init_9 zw_X0_9 (fun _ => ⟨rfl, rfl⟩) (rfl) rfl (by rw [← ed_9]; exact List.mem_append_left _ (hm42)) (fun b hb => by cases hb; exact (by rw [← ed_9]; exact List.mem_append_right _ List.mem_cons_self)) ?_
  generalize eG_12 : zuG G_10 42 2 (some a_1) = G_12
  replace K := K G_12 eG_12.symm
  refine Z.aload_n (k := 0) dX0_init_12 rfl ?_
  refine Z.null dX0_init_13 ?_
  refine Y.putR 3 dX0_init_14 zw_X0_15 (fun q => by cases q) (rfl) rfl (by rw [← ed_9]; exact List.mem_append_left _ (hm42)) (fun b hb => by cases hb) ?_
  generalize eG_13 : zuG G_12 42 3 none = G_13
  replace K := K G_13 eG_13.symm
  refine Z.aload_n (k := 0) dX0_init_17 rfl ?_
  refine Z.iconst (n := 0) dX0_init_18 ⟨by decide, by decide⟩ ?_
  refine Y.putI 4 dX0_init_19 zw_X0_19 (fun q => by cases q) (rfl) rfl (by rw [← ed_9]; exact List.mem_append_left _ (hm42)) (Or.inl rfl) ?_
  generalize eE_14 : zuE E_11 42 4 0 = E_14
  replace K := K E_14 eE_14.symm
  refine Z.aload_n (k := 0) dX0_init_22 rfl ?_
  refine Z.bipush (n := 6) dX0_init_23 ⟨by decide, by decide⟩ (by decide) ?_
  refine Y.putI 5 dX0_init_25 zw_X0_23 (fun q => by cases q) (rfl) rfl (by rw [← ed_9]; exact List.mem_append_left _ (hm42)) (Or.inl rfl) ?_
  generalize eE_15 : zuE E_14 42 5 6 = E_15
  replace K := K E_15 eE_15.symm
  refine Z.aload_n (k := 0) dX0_init_28 rfl ?_
  refine Z.null dX0_init_29 ?_
  refine Y.putR 6 dX0_init_30 zw_X0_26 (fun q => by cases q) (rfl) rfl (by rw [← ed_9]; exact List.mem_append_left _ (hm42)) (fun b hb => by cases hb) ?_
  generalize eG_16 : zuG G_13 42 6 none = G_16
  replace K := K G_16 eG_16.symm
  refine Z.aload_n (k := 0) dX0_init_33 rfl ?_
  refine Z.null dX0_init_34 ?_
  refine Y.putR 7 dX0_init_35 zw_X0_29 (fun q => by cases q) (rfl) rfl (by rw [← ed_9]; exact List.mem_append_left _ (hm42)) (fun b hb => by cases hb) ?_
  generalize eG_17 : zuG G_16 42 7 none = G_17
  replace K := K G_17 eG_17.symm
  refine Z.aload_n (k := 0) dX0_init_38 rfl ?_
  refine Z.iconst (n := 0) dX0_init_39 ⟨by decide, by decide⟩ ?_
  refine Y.putI 8 dX0_init_40 zw_X0_32 (fun q => by cases q) (rfl) rfl (by rw [← ed_9]; exact List.mem_append_left _ (hm42)) (Or.inl rfl) ?_
  generalize eE_18 : zuE E_15 42 8 0 = E_18
  replace K := K E_18 eE_18.symm
  refine Z.aload_n (k := 0) dX0_init_43 rfl ?_
  refine Z.iconst (n := 0) dX0_init_44 ⟨by decide, by decide⟩ ?_
  refine Y.putI 9 dX0_init_45 zw_X0_35 (fun q => by cases q) (rfl) rfl (by rw [← ed_9]; exact List.mem_append_left _ (hm42)) (Or.inl rfl) ?_
  generalize eE_19 : zuE E_18 42 9 0 = E_19
  replace K := K E_19 eE_19.symm
  refine Z.aload_n (k := 0) dX0_init_48 rfl ?_
  refine Z.iconst (n := 0) dX0_init_49 ⟨by decide, by decide⟩ ?_
  refine Y.putI 10 dX0_init_50 zw_X0_38 (fun q => by cases q) (rfl) rfl (by rw [← ed_9]; exact List.mem_append_left _ (hm42)) (Or.inl rfl) ?_
  generalize eE_20 : zuE E_19 42 10 0 = E_20
  replace K := K E_20 eE_20.symm
  refine Z.aload_n (k := 0) dX0_init_53 rfl ?_
  refine Z.iconst (n := 0) dX0_init_54 ⟨by decide, by decide⟩ ?_
  refine Y.putI 11 dX0_init_55 zw_X0_41 (fun q => by cases q) (rfl) rfl (by rw [← ed_9]; exact List.mem_append_left _ (hm42)) (Or.inl rfl) ?_
  generalize eE_21 : zuE E_20 42 11 0 = E_21
  replace K := K E_21 eE_21.symm
  refine Z.aload_n (k := 0) dX0_init_58 rfl ?_
  refine Z.aload_n (k := 1) dX0_init_59 rfl ?_
  refine Y.putR 0 dX0_init_60 zw_X0_44 (fun _ => ⟨rfl, rfl⟩) (rfl) rfl (by rw [← ed_9]; exact List.mem_append_left _ (hm42)) (fun b hb => by cases hb; exact (by rw [← ed_9]; exact List.mem_append_left _ (hm1))) ?_
  generalize eG_22 : zuG G_17 42 0 (some 1) = G_22
  replace K := K G_22 eG_22.symm
  refine Z.aload_n (k := 0) dX0_init_63 rfl ?_
  refine Z.aload_n (k := 2) dX0_init_64 rfl ?_
  refine Y.putR 1 dX0_init_65 zw_X0_48 (fun _ => ⟨rfl, rfl⟩) (rfl) rfl (by rw [← ed_9]; exact List.mem_append_left _ (hm42)) (fun b hb => by cases hb; exact (by rw [← ed_9]; exact List.mem_append_left _ (hm5))) ?_
  generalize eG_23 : zuG G_22 42 1 (some 5) = G_23
  replace K := K G_23 eG_23.symm
  exact Z.vret dX0_init_68 rfl K
set_option maxRecDepth 20000 in
theorem X0_asGiven_0 {kz : Nat × Nat} {Q : Option zV → zH → Prop} {d : List Nat} {G : Nat → Int → Option Nat} {E : Nat → Int → Int}  (hX : zK zXt d G) (K : ∃ E_1, zM zm_J7_fill_53178 [zR 43, zI 0] (d, G, E) none (d, G, E_1) ∧ Q (some (zR 43)) (d, G, E_1)) : Z zm_X0_asGiven kz Q 0 [(0, zR 42)] [] (d, G, E) := by
  refine Z.aload_n (k := 0) dX0_asGiven_0 rfl ?_
  refine Y.getR (o := some 43) 2 dX0_asGiven_1 zl_X0_9 (rfl) (by decide) rfl (zX_0_11 hX).2.2 (zX_42_2 hX).1 ?_
  refine Z.iconst (n := 0) dX0_asGiven_4 ⟨by decide, by decide⟩ ?_
  obtain ⟨E_1, m_2, K⟩ := K
  refine Y.callS (g := zm_J7_fill_53178) (vs := [zR 43, zI 0]) (st := []) dX0_asGiven_5 ⟨zg_J7_fill_53178.1, zg_J7_fill_53178.2.1, zg_J7_fill_53178.2.2, by decide⟩ ⟨Or.inl zk_X0_52, zs_J7_fill_53178⟩ rfl rfl (Nat.le_of_ble_eq_true rfl) m_2 (Or.inl rfl) ?_
  show Z zm_X0_asGiven kz Q 8 [(0, zR 42)] [] (d, G, E_1)
  refine Z.aload_n (k := 0) dX0_asGiven_8 rfl ?_
  refine Y.getR (o := some 43) 2 dX0_asGiven_9 zl_X0_9 (rfl) (by decide) rfl (zX_0_11 hX).2.2 (zX_42_2 hX).1 ?_
  exact Z.aret dX0_asGiven_12 rfl (Or.inr ⟨_, rfl⟩) K
set_option maxRecDepth 20000 in
theorem X0_begin_0 {kz : Nat × Nat} {Q : Option zV → zH → Prop} {d : List Nat} {G : Nat → Int → Option Nat} {E : Nat → Int → Int} {o1 : Option Nat} (hX : zK zXt d G) (K : (∀ b, o1 = some b → b ∈ d) ∧ ∀ G_2, G_2 = zuG G 42 3 o1 → zK zXt d G_2 ∧ ∀ E_4, E_4 = zuE E 42 4 ((-1)) → ∀ E_5, E_5 = zuE E_4 42 5 3 → ∀ G_6, G_6 = zuG G_2 42 6 none → zK zXt d G_6 ∧ ∀ G_8, G_8 = zuG G_6 42 7 none → zK zXt d G_8 ∧ Q none (d, G_8, E_5)) : Z zm_X0_begin kz Q 0 [(0, zR 42), (1, zO o1)] [] (d, G, E) := by
  refine Z.aload_n (k := 0) dX0_begin_0 rfl ?_
  refine Z.aload_n (k := 1) dX0_begin_1 rfl ?_
  obtain ⟨z_1, K⟩ := K
  refine Y.putR 3 dX0_begin_2 zw_X0_15 (fun q => by cases q) (rfl) rfl (zX_0_11 hX).2.2 z_1 ?_
  generalize eG_2 : zuG G 42 3 o1 = G_2
  replace K := K G_2 eG_2.symm
  obtain ⟨hX_3, K⟩ := K
  refine Z.aload_n (k := 0) dX0_begin_5 rfl ?_
  refine Z.iconst (n := -1) dX0_begin_6 ⟨by decide, by decide⟩ ?_
  refine Y.putI 4 dX0_begin_7 zw_X0_19 (fun q => by cases q) (rfl) rfl (zX_0_11 hX_3).2.2 (Or.inl rfl) ?_
  generalize eE_4 : zuE E 42 4 ((-1)) = E_4
  replace K := K E_4 eE_4.symm
  refine Z.aload_n (k := 0) dX0_begin_10 rfl ?_
  refine Z.iconst (n := 3) dX0_begin_11 ⟨by decide, by decide⟩ ?_
  refine Y.putI 5 dX0_begin_12 zw_X0_23 (fun q => by cases q) (rfl) rfl (zX_0_11 hX_3).2.2 (Or.inl rfl) ?_
  generalize eE_5 : zuE E_4 42 5 3 = E_5
  replace K := K E_5 eE_5.symm
  refine Z.aload_n (k := 0) dX0_begin_15 rfl ?_
  refine Z.null dX0_begin_16 ?_
  refine Y.putR 6 dX0_begin_17 zw_X0_26 (fun q => by cases q) (rfl) rfl (zX_0_11 hX_3).2.2 (fun b hb => by cases hb) ?_
  generalize eG_6 : zuG G_2 42 6 none = G_6
  replace K := K G_6 eG_6.symm
  obtain ⟨hX_7, K⟩ := K
  refine Z.aload_n (k := 0) dX0_begin_20 rfl ?_
  refine Z.null dX0_begin_21 ?_
  refine Y.putR 7 dX0_begin_22 zw_X0_29 (fun q => by cases q) (rfl) rfl (zX_0_11 hX_7).2.2 (fun b hb => by cases hb) ?_
  generalize eG_8 : zuG G_6 42 7 none = G_8
  replace K := K G_8 eG_8.symm
  obtain ⟨hX_9, K⟩ := K
  exact Z.vret dX0_begin_25 rfl K
set_option maxRecDepth 20000 in
theorem X0_findPlace_0 {kz : Nat × Nat} {Q : Option zV → zH → Prop} {d : List Nat} {G : Nat → Int → Option Nat} {E : Nat → Int → Int}  (hX : zK zXt d G) (K : ∃ b_1, (G 42 6) = some b_1 ∧ zCk d G b_1 ∧ ((0 : Int) ≤ (E 42 8) ∧ (E 42 8) < (7 : Int)) ∧ zin ((E ((b_1 + 1) + 2) (E 42 8)) + 1) ∧ ∃ b_6, (G 42 6) = some b_6 ∧ zCk d G b_6 ∧ ((E 42 9) ≠ 0 → ∃ b_10, (G 42 6) = some b_10 ∧ zCk d G b_10 ∧ ∃ x_13, zM zm_X8_after [zR 1, zR ((b_10 + 1) + 1), zI (((E ((b_1 + 1) + 2) (E 42 8)) + 1))] (d, G, E) (some (zI x_13)) (d, G, E) ∧ ((0 : Int) ≤ x_13 ∧ x_13 < (180 : Int)) ∧ ∃ b_17, (G 42 7) = some b_17 ∧ zCk d G b_17 ∧ ((0 : Int) ≤ (E 42 10) ∧ (E 42 10) < (7 : Int)) ∧ ∃ b_21, (G 42 7) = some b_21 ∧ zCk d G b_21 ∧ ∃ x_24, zM zm_X5_length [zR ((b_21 + 1)), zI ((E 42 10))] (d, G, E) (some (zI x_24)) (d, G, E) ∧ Z zm_X0_findPlace kz Q 91 [(0, zR 42), (2, zI ((E ((b_6 + 1) + 1) x_13))), (3, zI ((E ((b_17 + 1) + 2) (E 42 10)))), (4, zI x_24)] [] (d, G, E)) ∧ (¬ ((E 42 9) ≠ 0) → ((0 : Int) ≤ ((E ((b_1 + 1) + 2) (E 42 8)) + 1) ∧ ((E ((b_1 + 1) + 2) (E 42 8)) + 1) < (180 : Int)) ∧ ∃ b_28, (G 42 7) = some b_28 ∧ zCk d G b_28 ∧ ((0 : Int) ≤ (E 42 10) ∧ (E 42 10) < (7 : Int)) ∧ ∃ b_32, (G 42 7) = some b_32 ∧ zCk d G b_32 ∧ ∃ x_35, zM zm_X5_length [zR ((b_32 + 1)), zI ((E 42 10))] (d, G, E) (some (zI x_35)) (d, G, E) ∧ Z zm_X0_findPlace kz Q 91 [(0, zR 42), (2, zI ((E ((b_6 + 1) + 1) ((E ((b_1 + 1) + 2) (E 42 8)) + 1)))), (3, zI ((E ((b_28 + 1) + 2) (E 42 10)))), (4, zI x_35)] [] (d, G, E))) : Z zm_X0_findPlace kz Q 0 [(0, zR 42)] [] (d, G, E) := by
  refine Z.aload_n (k := 0) dX0_findPlace_0 rfl ?_
  refine Y.getR (o := (G 42 6)) 6 dX0_findPlace_1 zl_X0_26 (rfl) (by decide) rfl (zX_0_11 hX).2.2 rfl ?_
  obtain ⟨b_1, e_2, hc_3, K⟩ := K
  rw [e_2]
  refine Y.getR (o := some ((b_1 + 1))) 0 dX0_findPlace_4 zl_X0_92 (congrArg Prod.fst hc_3.1) (by decide) rfl hc_3.2.1 hc_3.2.2.2.1 ?_
  refine Y.getR (o := some ((b_1 + 1) + 2)) 1 dX0_findPlace_7 zl_X0_114 (congrArg Prod.fst hc_3.2.2.1.1) (by decide) rfl hc_3.2.2.1.2.2.2.2.1 hc_3.2.2.1.2.2.2.2.2.2.2.2.2.1 ?_
  refine Z.aload_n (k := 0) dX0_findPlace_10 rfl ?_
  refine Y.getI 8 dX0_findPlace_11 zl_X0_32 (rfl) (by decide) rfl (zX_0_11 hX).2.2 ?_
  obtain ⟨z_4, K⟩ := K
  refine Y.iald dX0_findPlace_14 (hc_3.2.2.1.2.2.1) (hc_3.2.2.1.2.2.2.2.2.2.1) z_4 ?_
  refine Z.iconst (n := 1) dX0_findPlace_15 ⟨by decide, by decide⟩ ?_
  obtain ⟨z_5, K⟩ := K
  refine Z.iadd dX0_findPlace_16 z_5 ?_
  refine Z.istore_n (ls' := [(1, zI (((E ((b_1 + 1) + 2) (E 42 8)) + 1))), (0, zR 42)]) dX0_findPlace_17 (by decide) rfl ?_
  refine Z.aload_n (k := 1) dX0_findPlace_18 rfl ?_
  refine Y.getR (o := (G 42 6)) 6 dX0_findPlace_19 zl_X0_26 (rfl) (by decide) rfl (zX_0_11 hX).2.2 rfl ?_
  obtain ⟨b_6, e_7, hc_8, K⟩ := K
  rw [e_7]
  refine Y.getR (o := some ((b_6 + 1))) 0 dX0_findPlace_22 zl_X0_92 (congrArg Prod.fst hc_8.1) (by decide) rfl hc_8.2.1 hc_8.2.2.2.1 ?_
  refine Y.getR (o := some ((b_6 + 1) + 1)) 0 dX0_findPlace_25 zl_X0_117 (congrArg Prod.fst hc_8.2.2.1.1) (by decide) rfl hc_8.2.2.1.2.2.2.2.1 hc_8.2.2.1.2.2.2.2.2.2.2.2.1 ?_
  refine Z.aload_n (k := 1) dX0_findPlace_28 rfl ?_
  refine Y.getI 9 dX0_findPlace_29 zl_X0_35 (rfl) (by decide) rfl (zX_0_11 hX).2.2 ?_
  refine Z.if_ne 39 dX0_findPlace_32 rfl ⟨fun c_9 => ?_, fun c_9 => ?_⟩
  · replace K := K.1 c_9
    refine Z.aload_n (k := 1) dX0_findPlace_39 rfl ?_
    refine Y.getR (o := some 1) 0 dX0_findPlace_40 zl_X0_44 (rfl) (by decide) rfl (zX_0_11 hX).2.2 (zX_42_0 hX).1 ?_
    refine Z.aload_n (k := 1) dX0_findPlace_43 rfl ?_
    refine Y.getR (o := (G 42 6)) 6 dX0_findPlace_44 zl_X0_26 (rfl) (by decide) rfl (zX_0_11 hX).2.2 rfl ?_
    obtain ⟨b_10, e_11, hc_12, K⟩ := K
    rw [e_11]
    refine Y.getR (o := some ((b_10 + 1))) 0 dX0_findPlace_47 zl_X0_92 (congrArg Prod.fst hc_12.1) (by decide) rfl hc_12.2.1 hc_12.2.2.2.1 ?_
    refine Y.getR (o := some ((b_10 + 1) + 1)) 0 dX0_findPlace_50 zl_X0_117 (congrArg Prod.fst hc_12.2.2.1.1) (by decide) rfl hc_12.2.2.1.2.2.2.2.1 hc_12.2.2.1.2.2.2.2.2.2.2.2.1 ?_
    refine Z.iload_n (k := 0) dX0_findPlace_53 rfl ?_
    obtain ⟨x_13, m_14, K⟩ := K
    refine Y.callV (g := zm_X8_after) (vs := [zR ((b_10 + 1) + 1), zI (((E ((b_1 + 1) + 2) (E 42 8)) + 1))]) (st := [zR ((b_6 + 1) + 1)]) dX0_findPlace_54 ⟨zg_X8_after.1, zg_X8_after.2.1, zg_X8_after.2.2, by decide⟩ ⟨zk_X0_120, zv_X8_after⟩ (ci := 8) (rfl) rfl ((zX_0_0 hX).2.2) rfl rfl (Nat.le_of_ble_eq_true rfl) m_14 (Or.inl rfl) ?_
    show Z zm_X0_findPlace kz Q 57 [(1, zI (((E ((b_1 + 1) + 2) (E 42 8)) + 1))), (0, zR 42)] [zI x_13, zR ((b_6 + 1) + 1)] (d, G, E)
    obtain ⟨z_16, K⟩ := K
    refine Y.iald dX0_findPlace_57 (hc_8.2.2.1.2.1) (hc_8.2.2.1.2.2.2.2.2.1) z_16 ?_
    refine Z.istore_n (ls' := [(2, zI ((E ((b_6 + 1) + 1) x_13))), (1, zI (((E ((b_1 + 1) + 2) (E 42 8)) + 1))), (0, zR 42)]) dX0_findPlace_58 (by decide) rfl ?_
    refine Z.aload_n (k := 2) dX0_findPlace_59 rfl ?_
    refine Y.getR (o := (G 42 7)) 7 dX0_findPlace_60 zl_X0_29 (rfl) (by decide) rfl (zX_0_11 hX).2.2 rfl ?_
    obtain ⟨b_17, e_18, hc_19, K⟩ := K
    rw [e_18]
    refine Y.getR (o := some ((b_17 + 1))) 0 dX0_findPlace_63 zl_X0_92 (congrArg Prod.fst hc_19.1) (by decide) rfl hc_19.2.1 hc_19.2.2.2.1 ?_
    refine Y.getR (o := some ((b_17 + 1) + 2)) 1 dX0_findPlace_66 zl_X0_114 (congrArg Prod.fst hc_19.2.2.1.1) (by decide) rfl hc_19.2.2.1.2.2.2.2.1 hc_19.2.2.1.2.2.2.2.2.2.2.2.2.1 ?_
    refine Z.aload_n (k := 2) dX0_findPlace_69 rfl ?_
    refine Y.getI 10 dX0_findPlace_70 zl_X0_38 (rfl) (by decide) rfl (zX_0_11 hX).2.2 ?_
    obtain ⟨z_20, K⟩ := K
    refine Y.iald dX0_findPlace_73 (hc_19.2.2.1.2.2.1) (hc_19.2.2.1.2.2.2.2.2.2.1) z_20 ?_
    refine Z.istore_n (ls' := [(3, zI ((E ((b_17 + 1) + 2) (E 42 10)))), (2, zI ((E ((b_6 + 1) + 1) x_13))), (1, zI (((E ((b_1 + 1) + 2) (E 42 8)) + 1))), (0, zR 42)]) dX0_findPlace_74 (by decide) rfl ?_
    refine Z.aload_n (k := 3) dX0_findPlace_75 rfl ?_
    refine Y.getR (o := (G 42 7)) 7 dX0_findPlace_76 zl_X0_29 (rfl) (by decide) rfl (zX_0_11 hX).2.2 rfl ?_
    obtain ⟨b_21, e_22, hc_23, K⟩ := K
    rw [e_22]
    refine Y.getR (o := some ((b_21 + 1))) 0 dX0_findPlace_79 zl_X0_92 (congrArg Prod.fst hc_23.1) (by decide) rfl hc_23.2.1 hc_23.2.2.2.1 ?_
    refine Z.aload_n (k := 3) dX0_findPlace_82 rfl ?_
    refine Y.getI 10 dX0_findPlace_83 zl_X0_38 (rfl) (by decide) rfl (zX_0_11 hX).2.2 ?_
    obtain ⟨x_24, m_25, K⟩ := K
    refine Y.callV (g := zm_X5_length) (vs := [zI ((E 42 10))]) (st := []) dX0_findPlace_86 ⟨zg_X5_length.1, zg_X5_length.2.1, zg_X5_length.2.2, by decide⟩ ⟨zk_X0_126, zv_X5_length⟩ (ci := 5) (congrArg Prod.fst hc_23.2.2.1.1) rfl (hc_23.2.2.1.2.2.2.2.1) rfl rfl (Nat.le_of_ble_eq_true rfl) m_25 (Or.inl rfl) ?_
    show Z zm_X0_findPlace kz Q 89 [(3, zI ((E ((b_17 + 1) + 2) (E 42 10)))), (2, zI ((E ((b_6 + 1) + 1) x_13))), (1, zI (((E ((b_1 + 1) + 2) (E 42 8)) + 1))), (0, zR 42)] [zI x_24] (d, G, E)
    refine Z.istore (ls' := [(4, zI x_24), (3, zI ((E ((b_17 + 1) + 2) (E 42 10)))), (2, zI ((E ((b_6 + 1) + 1) x_13))), (1, zI (((E ((b_1 + 1) + 2) (E 42 8)) + 1))), (0, zR 42)]) dX0_findPlace_89 (by decide) rfl ?_
    refine Z.pick (ls' := [(0, zR 42), (2, zI ((E ((b_6 + 1) + 1) x_13))), (3, zI ((E ((b_17 + 1) + 2) (E 42 10)))), (4, zI x_24)]) [4, 2, 1, 0] rfl ?_
    exact K
  · replace K := K.2 c_9
    refine Z.iload_n (k := 0) dX0_findPlace_35 rfl ?_
    refine Z.goto 57 dX0_findPlace_36 rfl ?_
    obtain ⟨z_27, K⟩ := K
    refine Y.iald dX0_findPlace_57 (hc_8.2.2.1.2.1) (hc_8.2.2.1.2.2.2.2.2.1) z_27 ?_
    refine Z.istore_n (ls' := [(2, zI ((E ((b_6 + 1) + 1) ((E ((b_1 + 1) + 2) (E 42 8)) + 1)))), (1, zI (((E ((b_1 + 1) + 2) (E 42 8)) + 1))), (0, zR 42)]) dX0_findPlace_58 (by decide) rfl ?_
    refine Z.aload_n (k := 2) dX0_findPlace_59 rfl ?_
    refine Y.getR (o := (G 42 7)) 7 dX0_findPlace_60 zl_X0_29 (rfl) (by decide) rfl (zX_0_11 hX).2.2 rfl ?_
    obtain ⟨b_28, e_29, hc_30, K⟩ := K
    rw [e_29]
    refine Y.getR (o := some ((b_28 + 1))) 0 dX0_findPlace_63 zl_X0_92 (congrArg Prod.fst hc_30.1) (by decide) rfl hc_30.2.1 hc_30.2.2.2.1 ?_
    refine Y.getR (o := some ((b_28 + 1) + 2)) 1 dX0_findPlace_66 zl_X0_114 (congrArg Prod.fst hc_30.2.2.1.1) (by decide) rfl hc_30.2.2.1.2.2.2.2.1 hc_30.2.2.1.2.2.2.2.2.2.2.2.2.1 ?_
    refine Z.aload_n (k := 2) dX0_findPlace_69 rfl ?_
    refine Y.getI 10 dX0_findPlace_70 zl_X0_38 (rfl) (by decide) rfl (zX_0_11 hX).2.2 ?_
    obtain ⟨z_31, K⟩ := K
    refine Y.iald dX0_findPlace_73 (hc_30.2.2.1.2.2.1) (hc_30.2.2.1.2.2.2.2.2.2.1) z_31 ?_
    refine Z.istore_n (ls' := [(3, zI ((E ((b_28 + 1) + 2) (E 42 10)))), (2, zI ((E ((b_6 + 1) + 1) ((E ((b_1 + 1) + 2) (E 42 8)) + 1)))), (1, zI (((E ((b_1 + 1) + 2) (E 42 8)) + 1))), (0, zR 42)]) dX0_findPlace_74 (by decide) rfl ?_
    refine Z.aload_n (k := 3) dX0_findPlace_75 rfl ?_
    refine Y.getR (o := (G 42 7)) 7 dX0_findPlace_76 zl_X0_29 (rfl) (by decide) rfl (zX_0_11 hX).2.2 rfl ?_
    obtain ⟨b_32, e_33, hc_34, K⟩ := K
    rw [e_33]
    refine Y.getR (o := some ((b_32 + 1))) 0 dX0_findPlace_79 zl_X0_92 (congrArg Prod.fst hc_34.1) (by decide) rfl hc_34.2.1 hc_34.2.2.2.1 ?_
    refine Z.aload_n (k := 3) dX0_findPlace_82 rfl ?_
    refine Y.getI 10 dX0_findPlace_83 zl_X0_38 (rfl) (by decide) rfl (zX_0_11 hX).2.2 ?_
    obtain ⟨x_35, m_36, K⟩ := K
    refine Y.callV (g := zm_X5_length) (vs := [zI ((E 42 10))]) (st := []) dX0_findPlace_86 ⟨zg_X5_length.1, zg_X5_length.2.1, zg_X5_length.2.2, by decide⟩ ⟨zk_X0_126, zv_X5_length⟩ (ci := 5) (congrArg Prod.fst hc_34.2.2.1.1) rfl (hc_34.2.2.1.2.2.2.2.1) rfl rfl (Nat.le_of_ble_eq_true rfl) m_36 (Or.inl rfl) ?_
    show Z zm_X0_findPlace kz Q 89 [(3, zI ((E ((b_28 + 1) + 2) (E 42 10)))), (2, zI ((E ((b_6 + 1) + 1) ((E ((b_1 + 1) + 2) (E 42 8)) + 1)))), (1, zI (((E ((b_1 + 1) + 2) (E 42 8)) + 1))), (0, zR 42)] [zI x_35] (d, G, E)
    refine Z.istore (ls' := [(4, zI x_35), (3, zI ((E ((b_28 + 1) + 2) (E 42 10)))), (2, zI ((E ((b_6 + 1) + 1) ((E ((b_1 + 1) + 2) (E 42 8)) + 1)))), (1, zI (((E ((b_1 + 1) + 2) (E 42 8)) + 1))), (0, zR 42)]) dX0_findPlace_89 (by decide) rfl ?_
    refine Z.pick (ls' := [(0, zR 42), (2, zI ((E ((b_6 + 1) + 1) ((E ((b_1 + 1) + 2) (E 42 8)) + 1)))), (3, zI ((E ((b_28 + 1) + 2) (E 42 10)))), (4, zI x_35)]) [4, 2, 1, 0] rfl ?_
    exact K
set_option maxRecDepth 20000 in
theorem X0_findPlace_91 {kz : Nat × Nat} {Q : Option zV → zH → Prop} {d : List Nat} {G : Nat → Int → Option Nat} {E : Nat → Int → Int} {v2 : Int} {v3 : Int} {v4 : Int} (hX : zK zXt d G) (K : (v4 ≤ (E 42 11) → Q (some (zI 0)) (d, G, E)) ∧ (¬ (v4 ≤ (E 42 11)) → ∃ b_2, (G 42 7) = some b_2 ∧ zCk d G b_2 ∧ zin (v3 + (E 42 11)) ∧ ((0 : Int) ≤ (v3 + (E 42 11)) ∧ (v3 + (E 42 11)) < (180 : Int)) ∧ ((E ((b_2 + 1) + 1) (v3 + (E 42 11))) < 0 → zin ((E 42 11) + 1) ∧ ∀ E_9, E_9 = zuE E 42 11 (((E 42 11) + 1)) → Z zm_X0_findPlace kz Q 91 [(0, zR 42), (2, zI v2), (3, zI v3), (4, zI v4)] [] (d, G, E_9)) ∧ (¬ ((E ((b_2 + 1) + 1) (v3 + (E 42 11))) < 0) → (v2 < 0 → Q (some (zI 1)) (d, G, E)) ∧ (¬ (v2 < 0) → (v2 ≠ (E ((b_2 + 1) + 1) (v3 + (E 42 11))) → zin ((E 42 11) + 1) ∧ ∀ E_13, E_13 = zuE E 42 11 (((E 42 11) + 1)) → Z zm_X0_findPlace kz Q 91 [(0, zR 42), (2, zI v2), (3, zI v3), (4, zI v4)] [] (d, G, E_13)) ∧ (¬ (v2 ≠ (E ((b_2 + 1) + 1) (v3 + (E 42 11)))) → Q (some (zI 1)) (d, G, E)))))) : Z zm_X0_findPlace kz Q 91 [(0, zR 42), (2, zI v2), (3, zI v3), (4, zI v4)] [] (d, G, E) := by
  refine Z.aload_n (k := 0) dX0_findPlace_91 rfl ?_
  refine Y.getI 11 dX0_findPlace_92 zl_X0_41 (rfl) (by decide) rfl (zX_0_11 hX).2.2 ?_
  refine Z.iload (k := 3) dX0_findPlace_95 rfl ?_
  refine Z.icmp_ge 149 dX0_findPlace_97 rfl ⟨fun c_1 => ?_, fun c_1 => ?_⟩
  · replace K := K.1 c_1
    refine Z.iconst (n := 0) dX0_findPlace_149 ⟨by decide, by decide⟩ ?_
    exact Z.iret (ty := .boolean) dX0_findPlace_150 rfl rfl K
  · replace K := K.2 c_1
    refine Z.aload_n (k := 0) dX0_findPlace_100 rfl ?_
    refine Y.getR (o := (G 42 7)) 7 dX0_findPlace_101 zl_X0_29 (rfl) (by decide) rfl (zX_0_11 hX).2.2 rfl ?_
    obtain ⟨b_2, e_3, hc_4, K⟩ := K
    rw [e_3]
    refine Y.getR (o := some ((b_2 + 1))) 0 dX0_findPlace_104 zl_X0_92 (congrArg Prod.fst hc_4.1) (by decide) rfl hc_4.2.1 hc_4.2.2.2.1 ?_
    refine Y.getR (o := some ((b_2 + 1) + 1)) 0 dX0_findPlace_107 zl_X0_117 (congrArg Prod.fst hc_4.2.2.1.1) (by decide) rfl hc_4.2.2.1.2.2.2.2.1 hc_4.2.2.1.2.2.2.2.2.2.2.2.1 ?_
    refine Z.iload_n (k := 2) dX0_findPlace_110 rfl ?_
    refine Z.aload_n (k := 0) dX0_findPlace_111 rfl ?_
    refine Y.getI 11 dX0_findPlace_112 zl_X0_41 (rfl) (by decide) rfl (zX_0_11 hX).2.2 ?_
    obtain ⟨z_5, K⟩ := K
    refine Z.iadd dX0_findPlace_115 z_5 ?_
    obtain ⟨z_6, K⟩ := K
    refine Y.iald dX0_findPlace_116 (hc_4.2.2.1.2.1) (hc_4.2.2.1.2.2.2.2.2.1) z_6 ?_
    refine Z.istore (ls' := [(5, zI ((E ((b_2 + 1) + 1) (v3 + (E 42 11))))), (0, zR 42), (2, zI v2), (3, zI v3), (4, zI v4)]) dX0_findPlace_117 (by decide) rfl ?_
    refine Z.iload (k := 0) dX0_findPlace_119 rfl ?_
    refine Z.if_lt 136 dX0_findPlace_121 rfl ⟨fun c_7 => ?_, fun c_7 => ?_⟩
    · replace K := K.1 c_7
      refine Z.aload_n (k := 1) dX0_findPlace_136 rfl ?_
      refine Z.dup_i dX0_findPlace_137 (fun _ => rfl) ?_
      refine Y.getI 11 dX0_findPlace_138 zl_X0_41 (rfl) (by decide) rfl (zX_0_11 hX).2.2 ?_
      refine Z.iconst (n := 1) dX0_findPlace_141 ⟨by decide, by decide⟩ ?_
      obtain ⟨z_8, K⟩ := K
      refine Z.iadd dX0_findPlace_142 z_8 ?_
      refine Y.putI 11 dX0_findPlace_143 zw_X0_41 (fun q => by cases q) (rfl) rfl (zX_0_11 hX).2.2 (Or.inl rfl) ?_
      generalize eE_9 : zuE E 42 11 (((E 42 11) + 1)) = E_9
      replace K := K E_9 eE_9.symm
      refine Z.goto 91 dX0_findPlace_146 rfl ?_
      refine Z.pick (ls' := [(0, zR 42), (2, zI v2), (3, zI v3), (4, zI v4)]) [1, 2, 3, 4] rfl ?_
      exact K
    · replace K := K.2 c_7
      refine Z.iload_n (k := 2) dX0_findPlace_124 rfl ?_
      refine Z.if_lt 134 dX0_findPlace_125 rfl ⟨fun c_10 => ?_, fun c_10 => ?_⟩
      · replace K := K.1 c_10
        refine Z.iconst (n := 1) dX0_findPlace_134 ⟨by decide, by decide⟩ ?_
        exact Z.iret (ty := .boolean) dX0_findPlace_135 rfl rfl K
      · replace K := K.2 c_10
        refine Z.iload_n (k := 2) dX0_findPlace_128 rfl ?_
        refine Z.iload (k := 0) dX0_findPlace_129 rfl ?_
        refine Z.icmp_ne 136 dX0_findPlace_131 rfl ⟨fun c_11 => ?_, fun c_11 => ?_⟩
        · replace K := K.1 c_11
          refine Z.aload_n (k := 1) dX0_findPlace_136 rfl ?_
          refine Z.dup_i dX0_findPlace_137 (fun _ => rfl) ?_
          refine Y.getI 11 dX0_findPlace_138 zl_X0_41 (rfl) (by decide) rfl (zX_0_11 hX).2.2 ?_
          refine Z.iconst (n := 1) dX0_findPlace_141 ⟨by decide, by decide⟩ ?_
          obtain ⟨z_12, K⟩ := K
          refine Z.iadd dX0_findPlace_142 z_12 ?_
          refine Y.putI 11 dX0_findPlace_143 zw_X0_41 (fun q => by cases q) (rfl) rfl (zX_0_11 hX).2.2 (Or.inl rfl) ?_
          generalize eE_13 : zuE E 42 11 (((E 42 11) + 1)) = E_13
          replace K := K E_13 eE_13.symm
          refine Z.goto 91 dX0_findPlace_146 rfl ?_
          refine Z.pick (ls' := [(0, zR 42), (2, zI v2), (3, zI v3), (4, zI v4)]) [1, 2, 3, 4] rfl ?_
          exact K
        · replace K := K.2 c_11
          refine Z.iconst (n := 1) dX0_findPlace_134 ⟨by decide, by decide⟩ ?_
          exact Z.iret (ty := .boolean) dX0_findPlace_135 rfl rfl K
set_option maxRecDepth 20000 in
theorem X0_advanceTurn_0 {kz : Nat × Nat} {Q : Option zV → zH → Prop} {d : List Nat} {G : Nat → Int → Option Nat} {E : Nat → Int → Int}  (hX : zK zXt d G) (K : ∃ b_1, (G 42 7) = some b_1 ∧ zCk d G b_1 ∧ ∃ x_4, zM zm_X1_isPositive [zR b_1] (d, G, E) (some (zI x_4)) (d, G, E) ∧ (x_4 = 0 → ∃ b_8, (G 42 7) = some b_8 ∧ zCk d G b_8 ∧ ∃ b_11, (G 42 7) = some b_11 ∧ zCk d G b_11 ∧ ∃ x_14, zM zm_X1_isPositive [zR b_11] (d, G, E) (some (zI x_14)) (d, G, E) ∧ (x_14 = 0 → ∃ b_18, (G 42 7) = some b_18 ∧ zCk d G b_18 ∧ zin ((E 42 11) + 1) ∧ ∀ E_22, E_22 = zuE E 42 11 (((E 42 11) + 1)) → Z zm_X0_advanceTurn kz Q 65 [(0, zR 42), (1, zI ((E b_8 9))), (2, zI ((E b_18 9)))] [] (d, G, E_22)) ∧ (¬ (x_14 = 0) → ∃ b_23, (G 42 7) = some b_23 ∧ zCk d G b_23 ∧ zin ((E (b_23 + 1) 3) - 1) ∧ zin ((E 42 11) + 1) ∧ ∀ E_28, E_28 = zuE E 42 11 (((E 42 11) + 1)) → Z zm_X0_advanceTurn kz Q 65 [(0, zR 42), (1, zI ((E b_8 9))), (2, zI (((E (b_23 + 1) 3) - 1)))] [] (d, G, E_28))) ∧ (¬ (x_4 = 0) → ∃ b_29, (G 42 7) = some b_29 ∧ zCk d G b_29 ∧ ∃ x_32, zM zm_X1_isPositive [zR b_29] (d, G, E) (some (zI x_32)) (d, G, E) ∧ (x_32 = 0 → ∃ b_36, (G 42 7) = some b_36 ∧ zCk d G b_36 ∧ zin ((E 42 11) + 1) ∧ ∀ E_40, E_40 = zuE E 42 11 (((E 42 11) + 1)) → Z zm_X0_advanceTurn kz Q 65 [(0, zR 42), (1, zI 0), (2, zI ((E b_36 9)))] [] (d, G, E_40)) ∧ (¬ (x_32 = 0) → ∃ b_41, (G 42 7) = some b_41 ∧ zCk d G b_41 ∧ zin ((E (b_41 + 1) 3) - 1) ∧ zin ((E 42 11) + 1) ∧ ∀ E_46, E_46 = zuE E 42 11 (((E 42 11) + 1)) → Z zm_X0_advanceTurn kz Q 65 [(0, zR 42), (1, zI 0), (2, zI (((E (b_41 + 1) 3) - 1)))] [] (d, G, E_46)))) : Z zm_X0_advanceTurn kz Q 0 [(0, zR 42)] [] (d, G, E) := by
  refine Z.aload_n (k := 0) dX0_advanceTurn_0 rfl ?_
  refine Y.getR (o := (G 42 7)) 7 dX0_advanceTurn_1 zl_X0_29 (rfl) (by decide) rfl (zX_0_11 hX).2.2 rfl ?_
  obtain ⟨b_1, e_2, hc_3, K⟩ := K
  rw [e_2]
  obtain ⟨x_4, m_5, K⟩ := K
  refine Y.callV (g := zm_X1_isPositive) (vs := []) (st := []) dX0_advanceTurn_4 ⟨zg_X1_isPositive.1, zg_X1_isPositive.2.1, zg_X1_isPositive.2.2, by decide⟩ ⟨zk_X0_86, zv_X1_isPositive⟩ (ci := 1) (congrArg Prod.fst hc_3.1) rfl (hc_3.2.1) rfl rfl (Nat.le_of_ble_eq_true rfl) m_5 (Or.inl rfl) ?_
  show Z zm_X0_advanceTurn kz Q 7 [(0, zR 42)] [zI x_4] (d, G, E)
  refine Z.if_eq 14 dX0_advanceTurn_7 rfl ⟨fun c_7 => ?_, fun c_7 => ?_⟩
  · replace K := K.1 c_7
    refine Z.aload_n (k := 0) dX0_advanceTurn_14 rfl ?_
    refine Y.getR (o := (G 42 7)) 7 dX0_advanceTurn_15 zl_X0_29 (rfl) (by decide) rfl (zX_0_11 hX).2.2 rfl ?_
    obtain ⟨b_8, e_9, hc_10, K⟩ := K
    rw [e_9]
    refine Y.getI 9 dX0_advanceTurn_18 zl_X0_89 (congrArg Prod.fst hc_10.1) (by decide) rfl hc_10.2.1 ?_
    refine Z.istore_n (ls' := [(1, zI ((E b_8 9))), (0, zR 42)]) dX0_advanceTurn_21 (by decide) rfl ?_
    refine Z.aload_n (k := 1) dX0_advanceTurn_22 rfl ?_
    refine Y.getR (o := (G 42 7)) 7 dX0_advanceTurn_23 zl_X0_29 (rfl) (by decide) rfl (zX_0_11 hX).2.2 rfl ?_
    obtain ⟨b_11, e_12, hc_13, K⟩ := K
    rw [e_12]
    obtain ⟨x_14, m_15, K⟩ := K
    refine Y.callV (g := zm_X1_isPositive) (vs := []) (st := []) dX0_advanceTurn_26 ⟨zg_X1_isPositive.1, zg_X1_isPositive.2.1, zg_X1_isPositive.2.2, by decide⟩ ⟨zk_X0_86, zv_X1_isPositive⟩ (ci := 1) (congrArg Prod.fst hc_13.1) rfl (hc_13.2.1) rfl rfl (Nat.le_of_ble_eq_true rfl) m_15 (Or.inl rfl) ?_
    show Z zm_X0_advanceTurn kz Q 29 [(1, zI ((E b_8 9))), (0, zR 42)] [zI x_14] (d, G, E)
    refine Z.if_eq 47 dX0_advanceTurn_29 rfl ⟨fun c_17 => ?_, fun c_17 => ?_⟩
    · replace K := K.1 c_17
      refine Z.aload_n (k := 1) dX0_advanceTurn_47 rfl ?_
      refine Y.getR (o := (G 42 7)) 7 dX0_advanceTurn_48 zl_X0_29 (rfl) (by decide) rfl (zX_0_11 hX).2.2 rfl ?_
      obtain ⟨b_18, e_19, hc_20, K⟩ := K
      rw [e_19]
      refine Y.getI 9 dX0_advanceTurn_51 zl_X0_89 (congrArg Prod.fst hc_20.1) (by decide) rfl hc_20.2.1 ?_
      refine Z.istore_n (ls' := [(2, zI ((E b_18 9))), (1, zI ((E b_8 9))), (0, zR 42)]) dX0_advanceTurn_54 (by decide) rfl ?_
      refine Z.aload_n (k := 2) dX0_advanceTurn_55 rfl ?_
      refine Z.dup_i dX0_advanceTurn_56 (fun _ => rfl) ?_
      refine Y.getI 11 dX0_advanceTurn_57 zl_X0_41 (rfl) (by decide) rfl (zX_0_11 hX).2.2 ?_
      refine Z.iconst (n := 1) dX0_advanceTurn_60 ⟨by decide, by decide⟩ ?_
      obtain ⟨z_21, K⟩ := K
      refine Z.iadd dX0_advanceTurn_61 z_21 ?_
      refine Y.putI 11 dX0_advanceTurn_62 zw_X0_41 (fun q => by cases q) (rfl) rfl (zX_0_11 hX).2.2 (Or.inl rfl) ?_
      generalize eE_22 : zuE E 42 11 (((E 42 11) + 1)) = E_22
      replace K := K E_22 eE_22.symm
      refine Z.pick (ls' := [(0, zR 42), (1, zI ((E b_8 9))), (2, zI ((E b_18 9)))]) [2, 1, 0] rfl ?_
      exact K
    · replace K := K.2 c_17
      refine Z.aload_n (k := 1) dX0_advanceTurn_32 rfl ?_
      refine Y.getR (o := (G 42 7)) 7 dX0_advanceTurn_33 zl_X0_29 (rfl) (by decide) rfl (zX_0_11 hX).2.2 rfl ?_
      obtain ⟨b_23, e_24, hc_25, K⟩ := K
      rw [e_24]
      refine Y.getR (o := some ((b_23 + 1))) 0 dX0_advanceTurn_36 zl_X0_92 (congrArg Prod.fst hc_25.1) (by decide) rfl hc_25.2.1 hc_25.2.2.2.1 ?_
      refine Y.getI 3 dX0_advanceTurn_39 zl_X0_96 (congrArg Prod.fst hc_25.2.2.1.1) (by decide) rfl hc_25.2.2.1.2.2.2.2.1 ?_
      refine Z.iconst (n := 1) dX0_advanceTurn_42 ⟨by decide, by decide⟩ ?_
      obtain ⟨z_26, K⟩ := K
      refine Z.isub dX0_advanceTurn_43 z_26 ?_
      refine Z.goto 54 dX0_advanceTurn_44 rfl ?_
      refine Z.istore_n (ls' := [(2, zI (((E (b_23 + 1) 3) - 1))), (1, zI ((E b_8 9))), (0, zR 42)]) dX0_advanceTurn_54 (by decide) rfl ?_
      refine Z.aload_n (k := 2) dX0_advanceTurn_55 rfl ?_
      refine Z.dup_i dX0_advanceTurn_56 (fun _ => rfl) ?_
      refine Y.getI 11 dX0_advanceTurn_57 zl_X0_41 (rfl) (by decide) rfl (zX_0_11 hX).2.2 ?_
      refine Z.iconst (n := 1) dX0_advanceTurn_60 ⟨by decide, by decide⟩ ?_
      obtain ⟨z_27, K⟩ := K
      refine Z.iadd dX0_advanceTurn_61 z_27 ?_
      refine Y.putI 11 dX0_advanceTurn_62 zw_X0_41 (fun q => by cases q) (rfl) rfl (zX_0_11 hX).2.2 (Or.inl rfl) ?_
      generalize eE_28 : zuE E 42 11 (((E 42 11) + 1)) = E_28
      replace K := K E_28 eE_28.symm
      refine Z.pick (ls' := [(0, zR 42), (1, zI ((E b_8 9))), (2, zI (((E (b_23 + 1) 3) - 1)))]) [2, 1, 0] rfl ?_
      exact K
  · replace K := K.2 c_7
    refine Z.iconst (n := 0) dX0_advanceTurn_10 ⟨by decide, by decide⟩ ?_
    refine Z.goto 21 dX0_advanceTurn_11 rfl ?_
    refine Z.istore_n (ls' := [(1, zI 0), (0, zR 42)]) dX0_advanceTurn_21 (by decide) rfl ?_
    refine Z.aload_n (k := 1) dX0_advanceTurn_22 rfl ?_
    refine Y.getR (o := (G 42 7)) 7 dX0_advanceTurn_23 zl_X0_29 (rfl) (by decide) rfl (zX_0_11 hX).2.2 rfl ?_
    obtain ⟨b_29, e_30, hc_31, K⟩ := K
    rw [e_30]
    obtain ⟨x_32, m_33, K⟩ := K
    refine Y.callV (g := zm_X1_isPositive) (vs := []) (st := []) dX0_advanceTurn_26 ⟨zg_X1_isPositive.1, zg_X1_isPositive.2.1, zg_X1_isPositive.2.2, by decide⟩ ⟨zk_X0_86, zv_X1_isPositive⟩ (ci := 1) (congrArg Prod.fst hc_31.1) rfl (hc_31.2.1) rfl rfl (Nat.le_of_ble_eq_true rfl) m_33 (Or.inl rfl) ?_
    show Z zm_X0_advanceTurn kz Q 29 [(1, zI 0), (0, zR 42)] [zI x_32] (d, G, E)
    refine Z.if_eq 47 dX0_advanceTurn_29 rfl ⟨fun c_35 => ?_, fun c_35 => ?_⟩
    · replace K := K.1 c_35
      refine Z.aload_n (k := 1) dX0_advanceTurn_47 rfl ?_
      refine Y.getR (o := (G 42 7)) 7 dX0_advanceTurn_48 zl_X0_29 (rfl) (by decide) rfl (zX_0_11 hX).2.2 rfl ?_
      obtain ⟨b_36, e_37, hc_38, K⟩ := K
      rw [e_37]
      refine Y.getI 9 dX0_advanceTurn_51 zl_X0_89 (congrArg Prod.fst hc_38.1) (by decide) rfl hc_38.2.1 ?_
      refine Z.istore_n (ls' := [(2, zI ((E b_36 9))), (1, zI 0), (0, zR 42)]) dX0_advanceTurn_54 (by decide) rfl ?_
      refine Z.aload_n (k := 2) dX0_advanceTurn_55 rfl ?_
      refine Z.dup_i dX0_advanceTurn_56 (fun _ => rfl) ?_
      refine Y.getI 11 dX0_advanceTurn_57 zl_X0_41 (rfl) (by decide) rfl (zX_0_11 hX).2.2 ?_
      refine Z.iconst (n := 1) dX0_advanceTurn_60 ⟨by decide, by decide⟩ ?_
      obtain ⟨z_39, K⟩ := K
      refine Z.iadd dX0_advanceTurn_61 z_39 ?_
      refine Y.putI 11 dX0_advanceTurn_62 zw_X0_41 (fun q => by cases q) (rfl) rfl (zX_0_11 hX).2.2 (Or.inl rfl) ?_
      generalize eE_40 : zuE E 42 11 (((E 42 11) + 1)) = E_40
      replace K := K E_40 eE_40.symm
      refine Z.pick (ls' := [(0, zR 42), (1, zI 0), (2, zI ((E b_36 9)))]) [2, 1, 0] rfl ?_
      exact K
    · replace K := K.2 c_35
      refine Z.aload_n (k := 1) dX0_advanceTurn_32 rfl ?_
      refine Y.getR (o := (G 42 7)) 7 dX0_advanceTurn_33 zl_X0_29 (rfl) (by decide) rfl (zX_0_11 hX).2.2 rfl ?_
      obtain ⟨b_41, e_42, hc_43, K⟩ := K
      rw [e_42]
      refine Y.getR (o := some ((b_41 + 1))) 0 dX0_advanceTurn_36 zl_X0_92 (congrArg Prod.fst hc_43.1) (by decide) rfl hc_43.2.1 hc_43.2.2.2.1 ?_
      refine Y.getI 3 dX0_advanceTurn_39 zl_X0_96 (congrArg Prod.fst hc_43.2.2.1.1) (by decide) rfl hc_43.2.2.1.2.2.2.2.1 ?_
      refine Z.iconst (n := 1) dX0_advanceTurn_42 ⟨by decide, by decide⟩ ?_
      obtain ⟨z_44, K⟩ := K
      refine Z.isub dX0_advanceTurn_43 z_44 ?_
      refine Z.goto 54 dX0_advanceTurn_44 rfl ?_
      refine Z.istore_n (ls' := [(2, zI (((E (b_41 + 1) 3) - 1))), (1, zI 0), (0, zR 42)]) dX0_advanceTurn_54 (by decide) rfl ?_
      refine Z.aload_n (k := 2) dX0_advanceTurn_55 rfl ?_
      refine Z.dup_i dX0_advanceTurn_56 (fun _ => rfl) ?_
      refine Y.getI 11 dX0_advanceTurn_57 zl_X0_41 (rfl) (by decide) rfl (zX_0_11 hX).2.2 ?_
      refine Z.iconst (n := 1) dX0_advanceTurn_60 ⟨by decide, by decide⟩ ?_
      obtain ⟨z_45, K⟩ := K
      refine Z.iadd dX0_advanceTurn_61 z_45 ?_
      refine Y.putI 11 dX0_advanceTurn_62 zw_X0_41 (fun q => by cases q) (rfl) rfl (zX_0_11 hX).2.2 (Or.inl rfl) ?_
      generalize eE_46 : zuE E 42 11 (((E 42 11) + 1)) = E_46
      replace K := K E_46 eE_46.symm
      refine Z.pick (ls' := [(0, zR 42), (1, zI 0), (2, zI (((E (b_41 + 1) 3) - 1)))]) [2, 1, 0] rfl ?_
      exact K
set_option maxRecDepth 20000 in
theorem X0_advanceTurn_65 {kz : Nat × Nat} {Q : Option zV → zH → Prop} {d : List Nat} {G : Nat → Int → Option Nat} {E : Nat → Int → Int} {v1 : Int} {v2 : Int} (hX : zK zXt d G) (K : ∃ b_1, (G 42 6) = some b_1 ∧ zCk d G b_1 ∧ ((E (b_1 + 1) 3) ≤ (E 42 8) → Q (some (zI 0)) (d, G, E)) ∧ (¬ ((E (b_1 + 1) 3) ≤ (E 42 8)) → Z zm_X0_advanceTurn kz Q 82 [(0, zR 42), (1, zI v1), (2, zI v2)] [] (d, G, E))) : Z zm_X0_advanceTurn kz Q 65 [(0, zR 42), (1, zI v1), (2, zI v2)] [] (d, G, E) := by
  refine Z.aload_n (k := 0) dX0_advanceTurn_65 rfl ?_
  refine Y.getI 8 dX0_advanceTurn_66 zl_X0_32 (rfl) (by decide) rfl (zX_0_11 hX).2.2 ?_
  refine Z.aload_n (k := 0) dX0_advanceTurn_69 rfl ?_
  refine Y.getR (o := (G 42 6)) 6 dX0_advanceTurn_70 zl_X0_26 (rfl) (by decide) rfl (zX_0_11 hX).2.2 rfl ?_
  obtain ⟨b_1, e_2, hc_3, K⟩ := K
  rw [e_2]
  refine Y.getR (o := some ((b_1 + 1))) 0 dX0_advanceTurn_73 zl_X0_92 (congrArg Prod.fst hc_3.1) (by decide) rfl hc_3.2.1 hc_3.2.2.2.1 ?_
  refine Y.getI 3 dX0_advanceTurn_76 zl_X0_96 (congrArg Prod.fst hc_3.2.2.1.1) (by decide) rfl hc_3.2.2.1.2.2.2.2.1 ?_
  refine Z.icmp_ge 193 dX0_advanceTurn_79 rfl ⟨fun c_4 => ?_, fun c_4 => ?_⟩
  · replace K := K.1 c_4
    refine Z.iconst (n := 0) dX0_advanceTurn_193 ⟨by decide, by decide⟩ ?_
    exact Z.iret (ty := .boolean) dX0_advanceTurn_194 rfl rfl K
  · replace K := K.2 c_4
    exact K
set_option maxRecDepth 20000 in
theorem X0_advanceTurn_82 {kz : Nat × Nat} {Q : Option zV → zH → Prop} {d : List Nat} {G : Nat → Int → Option Nat} {E : Nat → Int → Int} {v1 : Int} {v2 : Int} (hX : zK zXt d G) (K : (2 ≤ (E 42 9) → zin ((E 42 8) + 1) ∧ ∀ E_3, E_3 = zuE E 42 8 (((E 42 8) + 1)) → ∀ E_4, E_4 = zuE E_3 42 9 0 → ∀ E_5, E_5 = zuE E_4 42 10 v1 → ∀ E_6, E_6 = zuE E_5 42 11 1 → Z zm_X0_advanceTurn kz Q 65 [(0, zR 42), (1, zI v1), (2, zI v2)] [] (d, G, E_6)) ∧ (¬ (2 ≤ (E 42 9)) → ∃ b_7, (G 42 6) = some b_7 ∧ zCk d G b_7 ∧ ∃ x_10, zM zm_X5_isEqual [zR ((b_7 + 1)), zI ((E 42 8))] (d, G, E) (some (zI x_10)) (d, G, E) ∧ (x_10 = 0 → zin ((E 42 8) + 1) ∧ ∀ E_15, E_15 = zuE E 42 8 (((E 42 8) + 1)) → ∀ E_16, E_16 = zuE E_15 42 9 0 → ∀ E_17, E_17 = zuE E_16 42 10 v1 → ∀ E_18, E_18 = zuE E_17 42 11 1 → Z zm_X0_advanceTurn kz Q 65 [(0, zR 42), (1, zI v1), (2, zI v2)] [] (d, G, E_18)) ∧ (¬ (x_10 = 0) → Z zm_X0_advanceTurn kz Q 107 [(0, zR 42), (1, zI v1), (2, zI v2)] [] (d, G, E)))) : Z zm_X0_advanceTurn kz Q 82 [(0, zR 42), (1, zI v1), (2, zI v2)] [] (d, G, E) := by
  refine Z.aload_n (k := 0) dX0_advanceTurn_82 rfl ?_
  refine Y.getI 9 dX0_advanceTurn_83 zl_X0_35 (rfl) (by decide) rfl (zX_0_11 hX).2.2 ?_
  refine Z.iconst (n := 2) dX0_advanceTurn_86 ⟨by decide, by decide⟩ ?_
  refine Z.icmp_ge 165 dX0_advanceTurn_87 rfl ⟨fun c_1 => ?_, fun c_1 => ?_⟩
  · replace K := K.1 c_1
    refine Z.aload_n (k := 0) dX0_advanceTurn_165 rfl ?_
    refine Z.dup_i dX0_advanceTurn_166 (fun _ => rfl) ?_
    refine Y.getI 8 dX0_advanceTurn_167 zl_X0_32 (rfl) (by decide) rfl (zX_0_11 hX).2.2 ?_
    refine Z.iconst (n := 1) dX0_advanceTurn_170 ⟨by decide, by decide⟩ ?_
    obtain ⟨z_2, K⟩ := K
    refine Z.iadd dX0_advanceTurn_171 z_2 ?_
    refine Y.putI 8 dX0_advanceTurn_172 zw_X0_32 (fun q => by cases q) (rfl) rfl (zX_0_11 hX).2.2 (Or.inl rfl) ?_
    generalize eE_3 : zuE E 42 8 (((E 42 8) + 1)) = E_3
    replace K := K E_3 eE_3.symm
    refine Z.aload_n (k := 0) dX0_advanceTurn_175 rfl ?_
    refine Z.iconst (n := 0) dX0_advanceTurn_176 ⟨by decide, by decide⟩ ?_
    refine Y.putI 9 dX0_advanceTurn_177 zw_X0_35 (fun q => by cases q) (rfl) rfl (zX_0_11 hX).2.2 (Or.inl rfl) ?_
    generalize eE_4 : zuE E_3 42 9 0 = E_4
    replace K := K E_4 eE_4.symm
    refine Z.aload_n (k := 0) dX0_advanceTurn_180 rfl ?_
    refine Z.iload_n (k := 1) dX0_advanceTurn_181 rfl ?_
    refine Y.putI 10 dX0_advanceTurn_182 zw_X0_38 (fun q => by cases q) (rfl) rfl (zX_0_11 hX).2.2 (Or.inl rfl) ?_
    generalize eE_5 : zuE E_4 42 10 v1 = E_5
    replace K := K E_5 eE_5.symm
    refine Z.aload_n (k := 0) dX0_advanceTurn_185 rfl ?_
    refine Z.iconst (n := 1) dX0_advanceTurn_186 ⟨by decide, by decide⟩ ?_
    refine Y.putI 11 dX0_advanceTurn_187 zw_X0_41 (fun q => by cases q) (rfl) rfl (zX_0_11 hX).2.2 (Or.inl rfl) ?_
    generalize eE_6 : zuE E_5 42 11 1 = E_6
    replace K := K E_6 eE_6.symm
    refine Z.goto 65 dX0_advanceTurn_190 rfl ?_
    exact K
  · replace K := K.2 c_1
    refine Z.aload_n (k := 0) dX0_advanceTurn_90 rfl ?_
    refine Y.getR (o := (G 42 6)) 6 dX0_advanceTurn_91 zl_X0_26 (rfl) (by decide) rfl (zX_0_11 hX).2.2 rfl ?_
    obtain ⟨b_7, e_8, hc_9, K⟩ := K
    rw [e_8]
    refine Y.getR (o := some ((b_7 + 1))) 0 dX0_advanceTurn_94 zl_X0_92 (congrArg Prod.fst hc_9.1) (by decide) rfl hc_9.2.1 hc_9.2.2.2.1 ?_
    refine Z.aload_n (k := 0) dX0_advanceTurn_97 rfl ?_
    refine Y.getI 8 dX0_advanceTurn_98 zl_X0_32 (rfl) (by decide) rfl (zX_0_11 hX).2.2 ?_
    obtain ⟨x_10, m_11, K⟩ := K
    refine Y.callV (g := zm_X5_isEqual) (vs := [zI ((E 42 8))]) (st := []) dX0_advanceTurn_101 ⟨zg_X5_isEqual.1, zg_X5_isEqual.2.1, zg_X5_isEqual.2.2, by decide⟩ ⟨zk_X0_107, zv_X5_isEqual⟩ (ci := 5) (congrArg Prod.fst hc_9.2.2.1.1) rfl (hc_9.2.2.1.2.2.2.2.1) rfl rfl (Nat.le_of_ble_eq_true rfl) m_11 (Or.inl rfl) ?_
    show Z zm_X0_advanceTurn kz Q 104 [(0, zR 42), (1, zI v1), (2, zI v2)] [zI x_10] (d, G, E)
    refine Z.if_eq 165 dX0_advanceTurn_104 rfl ⟨fun c_13 => ?_, fun c_13 => ?_⟩
    · replace K := K.1 c_13
      refine Z.aload_n (k := 0) dX0_advanceTurn_165 rfl ?_
      refine Z.dup_i dX0_advanceTurn_166 (fun _ => rfl) ?_
      refine Y.getI 8 dX0_advanceTurn_167 zl_X0_32 (rfl) (by decide) rfl (zX_0_11 hX).2.2 ?_
      refine Z.iconst (n := 1) dX0_advanceTurn_170 ⟨by decide, by decide⟩ ?_
      obtain ⟨z_14, K⟩ := K
      refine Z.iadd dX0_advanceTurn_171 z_14 ?_
      refine Y.putI 8 dX0_advanceTurn_172 zw_X0_32 (fun q => by cases q) (rfl) rfl (zX_0_11 hX).2.2 (Or.inl rfl) ?_
      generalize eE_15 : zuE E 42 8 (((E 42 8) + 1)) = E_15
      replace K := K E_15 eE_15.symm
      refine Z.aload_n (k := 0) dX0_advanceTurn_175 rfl ?_
      refine Z.iconst (n := 0) dX0_advanceTurn_176 ⟨by decide, by decide⟩ ?_
      refine Y.putI 9 dX0_advanceTurn_177 zw_X0_35 (fun q => by cases q) (rfl) rfl (zX_0_11 hX).2.2 (Or.inl rfl) ?_
      generalize eE_16 : zuE E_15 42 9 0 = E_16
      replace K := K E_16 eE_16.symm
      refine Z.aload_n (k := 0) dX0_advanceTurn_180 rfl ?_
      refine Z.iload_n (k := 1) dX0_advanceTurn_181 rfl ?_
      refine Y.putI 10 dX0_advanceTurn_182 zw_X0_38 (fun q => by cases q) (rfl) rfl (zX_0_11 hX).2.2 (Or.inl rfl) ?_
      generalize eE_17 : zuE E_16 42 10 v1 = E_17
      replace K := K E_17 eE_17.symm
      refine Z.aload_n (k := 0) dX0_advanceTurn_185 rfl ?_
      refine Z.iconst (n := 1) dX0_advanceTurn_186 ⟨by decide, by decide⟩ ?_
      refine Y.putI 11 dX0_advanceTurn_187 zw_X0_41 (fun q => by cases q) (rfl) rfl (zX_0_11 hX).2.2 (Or.inl rfl) ?_
      generalize eE_18 : zuE E_17 42 11 1 = E_18
      replace K := K E_18 eE_18.symm
      refine Z.goto 65 dX0_advanceTurn_190 rfl ?_
      exact K
    · replace K := K.2 c_13
      exact K
set_option maxRecDepth 20000 in
theorem X0_advanceTurn_107 {kz : Nat × Nat} {Q : Option zV → zH → Prop} {d : List Nat} {G : Nat → Int → Option Nat} {E : Nat → Int → Int} {v1 : Int} {v2 : Int} (hX : zK zXt d G) (K : (v2 < (E 42 10) → zin ((E 42 9) + 1) ∧ ∀ E_3, E_3 = zuE E 42 9 (((E 42 9) + 1)) → ∀ E_4, E_4 = zuE E_3 42 10 v1 → ∀ E_5, E_5 = zuE E_4 42 11 1 → Z zm_X0_advanceTurn kz Q 82 [(0, zR 42), (1, zI v1), (2, zI v2)] [] (d, G, E_5)) ∧ (¬ (v2 < (E 42 10)) → ∃ x_6 E_7, zM zm_X0_findPlace [zR 42] (d, G, E) (some (zI x_6)) (d, G, E_7) ∧ (x_6 = 0 → zin ((E_7 42 10) + 1) ∧ ∀ E_12, E_12 = zuE E_7 42 10 (((E_7 42 10) + 1)) → ∀ E_13, E_13 = zuE E_12 42 11 1 → Z zm_X0_advanceTurn kz Q 107 [(0, zR 42), (1, zI v1), (2, zI v2)] [] (d, G, E_13)) ∧ (¬ (x_6 = 0) → Q (some (zI 1)) (d, G, E_7)))) : Z zm_X0_advanceTurn kz Q 107 [(0, zR 42), (1, zI v1), (2, zI v2)] [] (d, G, E) := by
  refine Z.aload_n (k := 0) dX0_advanceTurn_107 rfl ?_
  refine Y.getI 10 dX0_advanceTurn_108 zl_X0_38 (rfl) (by decide) rfl (zX_0_11 hX).2.2 ?_
  refine Z.iload_n (k := 2) dX0_advanceTurn_111 rfl ?_
  refine Z.icmp_gt 142 dX0_advanceTurn_112 rfl ⟨fun c_1 => ?_, fun c_1 => ?_⟩
  · replace K := K.1 c_1
    refine Z.aload_n (k := 0) dX0_advanceTurn_142 rfl ?_
    refine Z.dup_i dX0_advanceTurn_143 (fun _ => rfl) ?_
    refine Y.getI 9 dX0_advanceTurn_144 zl_X0_35 (rfl) (by decide) rfl (zX_0_11 hX).2.2 ?_
    refine Z.iconst (n := 1) dX0_advanceTurn_147 ⟨by decide, by decide⟩ ?_
    obtain ⟨z_2, K⟩ := K
    refine Z.iadd dX0_advanceTurn_148 z_2 ?_
    refine Y.putI 9 dX0_advanceTurn_149 zw_X0_35 (fun q => by cases q) (rfl) rfl (zX_0_11 hX).2.2 (Or.inl rfl) ?_
    generalize eE_3 : zuE E 42 9 (((E 42 9) + 1)) = E_3
    replace K := K E_3 eE_3.symm
    refine Z.aload_n (k := 0) dX0_advanceTurn_152 rfl ?_
    refine Z.iload_n (k := 1) dX0_advanceTurn_153 rfl ?_
    refine Y.putI 10 dX0_advanceTurn_154 zw_X0_38 (fun q => by cases q) (rfl) rfl (zX_0_11 hX).2.2 (Or.inl rfl) ?_
    generalize eE_4 : zuE E_3 42 10 v1 = E_4
    replace K := K E_4 eE_4.symm
    refine Z.aload_n (k := 0) dX0_advanceTurn_157 rfl ?_
    refine Z.iconst (n := 1) dX0_advanceTurn_158 ⟨by decide, by decide⟩ ?_
    refine Y.putI 11 dX0_advanceTurn_159 zw_X0_41 (fun q => by cases q) (rfl) rfl (zX_0_11 hX).2.2 (Or.inl rfl) ?_
    generalize eE_5 : zuE E_4 42 11 1 = E_5
    replace K := K E_5 eE_5.symm
    refine Z.goto 82 dX0_advanceTurn_162 rfl ?_
    exact K
  · replace K := K.2 c_1
    refine Z.aload_n (k := 0) dX0_advanceTurn_115 rfl ?_
    obtain ⟨x_6, E_7, m_8, K⟩ := K
    refine Y.callV (g := zm_X0_findPlace) (vs := []) (st := []) dX0_advanceTurn_116 ⟨zg_X0_findPlace.1, zg_X0_findPlace.2.1, zg_X0_findPlace.2.2, by decide⟩ ⟨zk_X0_111, zv_X0_findPlace⟩ (ci := 0) (rfl) rfl ((zX_0_11 hX).2.2) rfl rfl (Nat.le_of_ble_eq_true rfl) m_8 (Or.inl rfl) ?_
    show Z zm_X0_advanceTurn kz Q 119 [(0, zR 42), (1, zI v1), (2, zI v2)] [zI x_6] (d, G, E_7)
    refine Z.if_eq 124 dX0_advanceTurn_119 rfl ⟨fun c_10 => ?_, fun c_10 => ?_⟩
    · replace K := K.1 c_10
      refine Z.aload_n (k := 0) dX0_advanceTurn_124 rfl ?_
      refine Z.dup_i dX0_advanceTurn_125 (fun _ => rfl) ?_
      refine Y.getI 10 dX0_advanceTurn_126 zl_X0_38 (rfl) (by decide) rfl (zX_0_11 hX).2.2 ?_
      refine Z.iconst (n := 1) dX0_advanceTurn_129 ⟨by decide, by decide⟩ ?_
      obtain ⟨z_11, K⟩ := K
      refine Z.iadd dX0_advanceTurn_130 z_11 ?_
      refine Y.putI 10 dX0_advanceTurn_131 zw_X0_38 (fun q => by cases q) (rfl) rfl (zX_0_11 hX).2.2 (Or.inl rfl) ?_
      generalize eE_12 : zuE E_7 42 10 (((E_7 42 10) + 1)) = E_12
      replace K := K E_12 eE_12.symm
      refine Z.aload_n (k := 0) dX0_advanceTurn_134 rfl ?_
      refine Z.iconst (n := 1) dX0_advanceTurn_135 ⟨by decide, by decide⟩ ?_
      refine Y.putI 11 dX0_advanceTurn_136 zw_X0_41 (fun q => by cases q) (rfl) rfl (zX_0_11 hX).2.2 (Or.inl rfl) ?_
      generalize eE_13 : zuE E_12 42 11 1 = E_13
      replace K := K E_13 eE_13.symm
      refine Z.goto 107 dX0_advanceTurn_139 rfl ?_
      exact K
    · replace K := K.2 c_10
      refine Z.iconst (n := 1) dX0_advanceTurn_122 ⟨by decide, by decide⟩ ?_
      exact Z.iret (ty := .boolean) dX0_advanceTurn_123 rfl rfl K
set_option maxRecDepth 20000 in
theorem X0_advanceFactor_0 {kz : Nat × Nat} {Q : Option zV → zH → Prop} {d : List Nat} {G : Nat → Int → Option Nat} {E : Nat → Int → Int}  (hX : zK zXt d G) (K : zin ((E 42 10) + 1) ∧ ∀ E_2, E_2 = zuE E 42 10 (((E 42 10) + 1)) → ∃ b_3, (G 42 6) = some b_3 ∧ zCk d G b_3 ∧ ((E_2 42 10) < (E_2 (b_3 + 1) 3) → ∃ b_7, (G 42 6) = some b_7 ∧ zCk d G b_7 ∧ ((E_2 (b_7 + 1) 3) ≤ (E_2 42 10) → Q (some (zI 0)) (d, G, E_2)) ∧ (¬ ((E_2 (b_7 + 1) 3) ≤ (E_2 42 10)) → Q (some (zI 1)) (d, G, E_2))) ∧ (¬ ((E_2 42 10) < (E_2 (b_3 + 1) 3)) → zin ((E_2 42 8) + 1) ∧ ∀ E_12, E_12 = zuE E_2 42 8 (((E_2 42 8) + 1)) → zin ((E_12 42 8) + 1) ∧ ∀ E_14, E_14 = zuE E_12 42 10 (((E_12 42 8) + 1)) → ∃ b_15, (G 42 6) = some b_15 ∧ zCk d G b_15 ∧ ((E_14 (b_15 + 1) 3) ≤ (E_14 42 10) → Q (some (zI 0)) (d, G, E_14)) ∧ (¬ ((E_14 (b_15 + 1) 3) ≤ (E_14 42 10)) → Q (some (zI 1)) (d, G, E_14)))) : Z zm_X0_advanceFactor kz Q 0 [(0, zR 42)] [] (d, G, E) := by
  refine Z.aload_n (k := 0) dX0_advanceFactor_0 rfl ?_
  refine Z.dup_i dX0_advanceFactor_1 (fun _ => rfl) ?_
  refine Y.getI 10 dX0_advanceFactor_2 zl_X0_38 (rfl) (by decide) rfl (zX_0_11 hX).2.2 ?_
  refine Z.iconst (n := 1) dX0_advanceFactor_5 ⟨by decide, by decide⟩ ?_
  obtain ⟨z_1, K⟩ := K
  refine Z.iadd dX0_advanceFactor_6 z_1 ?_
  refine Y.putI 10 dX0_advanceFactor_7 zw_X0_38 (fun q => by cases q) (rfl) rfl (zX_0_11 hX).2.2 (Or.inl rfl) ?_
  generalize eE_2 : zuE E 42 10 (((E 42 10) + 1)) = E_2
  replace K := K E_2 eE_2.symm
  refine Z.aload_n (k := 0) dX0_advanceFactor_10 rfl ?_
  refine Y.getI 10 dX0_advanceFactor_11 zl_X0_38 (rfl) (by decide) rfl (zX_0_11 hX).2.2 ?_
  refine Z.aload_n (k := 0) dX0_advanceFactor_14 rfl ?_
  refine Y.getR (o := (G 42 6)) 6 dX0_advanceFactor_15 zl_X0_26 (rfl) (by decide) rfl (zX_0_11 hX).2.2 rfl ?_
  obtain ⟨b_3, e_4, hc_5, K⟩ := K
  rw [e_4]
  refine Y.getR (o := some ((b_3 + 1))) 0 dX0_advanceFactor_18 zl_X0_92 (congrArg Prod.fst hc_5.1) (by decide) rfl hc_5.2.1 hc_5.2.2.2.1 ?_
  refine Y.getI 3 dX0_advanceFactor_21 zl_X0_96 (congrArg Prod.fst hc_5.2.2.1.1) (by decide) rfl hc_5.2.2.1.2.2.2.2.1 ?_
  refine Z.icmp_lt 47 dX0_advanceFactor_24 rfl ⟨fun c_6 => ?_, fun c_6 => ?_⟩
  · replace K := K.1 c_6
    refine Z.aload_n (k := 0) dX0_advanceFactor_47 rfl ?_
    refine Y.getI 10 dX0_advanceFactor_48 zl_X0_38 (rfl) (by decide) rfl (zX_0_11 hX).2.2 ?_
    refine Z.aload_n (k := 0) dX0_advanceFactor_51 rfl ?_
    refine Y.getR (o := (G 42 6)) 6 dX0_advanceFactor_52 zl_X0_26 (rfl) (by decide) rfl (zX_0_11 hX).2.2 rfl ?_
    obtain ⟨b_7, e_8, hc_9, K⟩ := K
    rw [e_8]
    refine Y.getR (o := some ((b_7 + 1))) 0 dX0_advanceFactor_55 zl_X0_92 (congrArg Prod.fst hc_9.1) (by decide) rfl hc_9.2.1 hc_9.2.2.2.1 ?_
    refine Y.getI 3 dX0_advanceFactor_58 zl_X0_96 (congrArg Prod.fst hc_9.2.2.1.1) (by decide) rfl hc_9.2.2.1.2.2.2.2.1 ?_
    refine Z.icmp_ge 68 dX0_advanceFactor_61 rfl ⟨fun c_10 => ?_, fun c_10 => ?_⟩
    · replace K := K.1 c_10
      refine Z.iconst (n := 0) dX0_advanceFactor_68 ⟨by decide, by decide⟩ ?_
      exact Z.iret (ty := .boolean) dX0_advanceFactor_69 rfl rfl K
    · replace K := K.2 c_10
      refine Z.iconst (n := 1) dX0_advanceFactor_64 ⟨by decide, by decide⟩ ?_
      refine Z.goto 69 dX0_advanceFactor_65 rfl ?_
      exact Z.iret (ty := .boolean) dX0_advanceFactor_69 rfl rfl K
  · replace K := K.2 c_6
    refine Z.aload_n (k := 0) dX0_advanceFactor_27 rfl ?_
    refine Z.dup_i dX0_advanceFactor_28 (fun _ => rfl) ?_
    refine Y.getI 8 dX0_advanceFactor_29 zl_X0_32 (rfl) (by decide) rfl (zX_0_11 hX).2.2 ?_
    refine Z.iconst (n := 1) dX0_advanceFactor_32 ⟨by decide, by decide⟩ ?_
    obtain ⟨z_11, K⟩ := K
    refine Z.iadd dX0_advanceFactor_33 z_11 ?_
    refine Y.putI 8 dX0_advanceFactor_34 zw_X0_32 (fun q => by cases q) (rfl) rfl (zX_0_11 hX).2.2 (Or.inl rfl) ?_
    generalize eE_12 : zuE E_2 42 8 (((E_2 42 8) + 1)) = E_12
    replace K := K E_12 eE_12.symm
    refine Z.aload_n (k := 0) dX0_advanceFactor_37 rfl ?_
    refine Z.aload_n (k := 0) dX0_advanceFactor_38 rfl ?_
    refine Y.getI 8 dX0_advanceFactor_39 zl_X0_32 (rfl) (by decide) rfl (zX_0_11 hX).2.2 ?_
    refine Z.iconst (n := 1) dX0_advanceFactor_42 ⟨by decide, by decide⟩ ?_
    obtain ⟨z_13, K⟩ := K
    refine Z.iadd dX0_advanceFactor_43 z_13 ?_
    refine Y.putI 10 dX0_advanceFactor_44 zw_X0_38 (fun q => by cases q) (rfl) rfl (zX_0_11 hX).2.2 (Or.inl rfl) ?_
    generalize eE_14 : zuE E_12 42 10 (((E_12 42 8) + 1)) = E_14
    replace K := K E_14 eE_14.symm
    refine Z.aload_n (k := 0) dX0_advanceFactor_47 rfl ?_
    refine Y.getI 10 dX0_advanceFactor_48 zl_X0_38 (rfl) (by decide) rfl (zX_0_11 hX).2.2 ?_
    refine Z.aload_n (k := 0) dX0_advanceFactor_51 rfl ?_
    refine Y.getR (o := (G 42 6)) 6 dX0_advanceFactor_52 zl_X0_26 (rfl) (by decide) rfl (zX_0_11 hX).2.2 rfl ?_
    obtain ⟨b_15, e_16, hc_17, K⟩ := K
    rw [e_16]
    refine Y.getR (o := some ((b_15 + 1))) 0 dX0_advanceFactor_55 zl_X0_92 (congrArg Prod.fst hc_17.1) (by decide) rfl hc_17.2.1 hc_17.2.2.2.1 ?_
    refine Y.getI 3 dX0_advanceFactor_58 zl_X0_96 (congrArg Prod.fst hc_17.2.2.1.1) (by decide) rfl hc_17.2.2.1.2.2.2.2.1 ?_
    refine Z.icmp_ge 68 dX0_advanceFactor_61 rfl ⟨fun c_18 => ?_, fun c_18 => ?_⟩
    · replace K := K.1 c_18
      refine Z.iconst (n := 0) dX0_advanceFactor_68 ⟨by decide, by decide⟩ ?_
      exact Z.iret (ty := .boolean) dX0_advanceFactor_69 rfl rfl K
    · replace K := K.2 c_18
      refine Z.iconst (n := 1) dX0_advanceFactor_64 ⟨by decide, by decide⟩ ?_
      refine Z.goto 69 dX0_advanceFactor_65 rfl ?_
      exact Z.iret (ty := .boolean) dX0_advanceFactor_69 rfl rfl K
set_option maxRecDepth 20000 in
theorem X0_advance_0 {kz : Nat × Nat} {Q : Option zV → zH → Prop} {d : List Nat} {G : Nat → Int → Option Nat} {E : Nat → Int → Int}  (hX : zK zXt d G) (K : ((E 42 5) = 0 → zin ((E 42 8) + 1) ∧ ∀ E_3, E_3 = zuE E 42 8 (((E 42 8) + 1)) → ∃ b_4, (G 42 6) = some b_4 ∧ zCk d G b_4 ∧ ∃ x_7, zM zm_X1_isPositive [zR b_4] (d, G, E_3) (some (zI x_7)) (d, G, E_3) ∧ (x_7 = 0 → Q (some (zI 0)) (d, G, E_3)) ∧ (¬ (x_7 = 0) → ∃ b_11, (G 42 7) = some b_11 ∧ zCk d G b_11 ∧ ∃ x_14, zM zm_X1_isPositive [zR b_11] (d, G, E_3) (some (zI x_14)) (d, G, E_3) ∧ (x_14 ≠ 0 → Q (some (zI 0)) (d, G, E_3)) ∧ (¬ (x_14 ≠ 0) → ∃ b_18, (G 42 6) = some b_18 ∧ zCk d G b_18 ∧ ((E_3 (b_18 + 1) 3) ≤ (E_3 42 8) → Q (some (zI 0)) (d, G, E_3)) ∧ (¬ ((E_3 (b_18 + 1) 3) ≤ (E_3 42 8)) → Q (some (zI 1)) (d, G, E_3))))) ∧ ((E 42 5) = 1 → zin ((E 42 8) + 1) ∧ ∀ E_24, E_24 = zuE E 42 8 (((E 42 8) + 1)) → ∃ b_25, (G 42 6) = some b_25 ∧ zCk d G b_25 ∧ ∃ x_28, zM zm_X1_isPositive [zR b_25] (d, G, E_24) (some (zI x_28)) (d, G, E_24) ∧ (x_28 = 0 → Q (some (zI 0)) (d, G, E_24)) ∧ (¬ (x_28 = 0) → ∃ b_32, (G 42 7) = some b_32 ∧ zCk d G b_32 ∧ ∃ x_35, zM zm_X1_isPositive [zR b_32] (d, G, E_24) (some (zI x_35)) (d, G, E_24) ∧ (x_35 ≠ 0 → Q (some (zI 0)) (d, G, E_24)) ∧ (¬ (x_35 ≠ 0) → ∃ b_39, (G 42 6) = some b_39 ∧ zCk d G b_39 ∧ ((E_24 (b_39 + 1) 3) ≤ (E_24 42 8) → Q (some (zI 0)) (d, G, E_24)) ∧ (¬ ((E_24 (b_39 + 1) 3) ≤ (E_24 42 8)) → Q (some (zI 1)) (d, G, E_24))))) ∧ ((E 42 5) = 2 → ∃ b_44, (G 42 6) = some b_44 ∧ zCk d G b_44 ∧ ∃ x_47, zM zm_X1_isPositive [zR b_44] (d, G, E) (some (zI x_47)) (d, G, E) ∧ (x_47 = 0 → Q (some (zI 0)) (d, G, E)) ∧ (¬ (x_47 = 0) → ∃ x_51 E_52, zM zm_X0_advanceTurn [zR 42] (d, G, E) (some (zI x_51)) (d, G, E_52) ∧ (x_51 = 0 → Q (some (zI 0)) (d, G, E_52)) ∧ (¬ (x_51 = 0) → Q (some (zI 1)) (d, G, E_52)))) ∧ ((E 42 5) = 3 → ∃ b_57, (G 42 6) = some b_57 ∧ zCk d G b_57 ∧ ∃ x_60, zM zm_X1_isPositive [zR b_57] (d, G, E) (some (zI x_60)) (d, G, E) ∧ (x_60 = 0 → Q (some (zI 0)) (d, G, E)) ∧ (¬ (x_60 = 0) → ∃ x_64 E_65, zM zm_X0_advanceTurn [zR 42] (d, G, E) (some (zI x_64)) (d, G, E_65) ∧ (x_64 = 0 → Q (some (zI 0)) (d, G, E_65)) ∧ (¬ (x_64 = 0) → Q (some (zI 1)) (d, G, E_65)))) ∧ ((E 42 5) = 4 → ∃ b_70, (G 42 6) = some b_70 ∧ zCk d G b_70 ∧ ∃ x_73, zM zm_X1_isPositive [zR b_70] (d, G, E) (some (zI x_73)) (d, G, E) ∧ (x_73 = 0 → Q (some (zI 0)) (d, G, E)) ∧ (¬ (x_73 = 0) → ∃ x_77 E_78, zM zm_X0_advanceFactor [zR 42] (d, G, E) (some (zI x_77)) (d, G, E_78) ∧ (x_77 = 0 → Q (some (zI 0)) (d, G, E_78)) ∧ (¬ (x_77 = 0) → Q (some (zI 1)) (d, G, E_78)))) ∧ (((E 42 5) < 0 ∨ 4 < (E 42 5)) → zin ((E 42 11) + 1) ∧ ∀ E_83, E_83 = zuE E 42 11 (((E 42 11) + 1)) → ((E_83 42 11) ≠ 1 → Q (some (zI 0)) (d, G, E_83)) ∧ (¬ ((E_83 42 11) ≠ 1) → ∃ b_85, (G 42 6) = some b_85 ∧ zCk d G b_85 ∧ ∃ x_88, zM zm_X1_isPositive [zR b_85] (d, G, E_83) (some (zI x_88)) (d, G, E_83) ∧ (x_88 ≠ 0 → Q (some (zI 0)) (d, G, E_83)) ∧ (¬ (x_88 ≠ 0) → Q (some (zI 1)) (d, G, E_83))))) : Z zm_X0_advance kz Q 0 [(0, zR 42)] [] (d, G, E) := by
  refine Z.aload_n (k := 0) dX0_advance_0 rfl ?_
  refine Y.getI 5 dX0_advance_1 zl_X0_23 (rfl) (by decide) rfl (zX_0_11 hX).2.2 ?_
  by_cases c_1 : (E 42 5) = 0
  · replace K := K.1 c_1
    refine Z.tableIn (off := 36) 40 dX0_advance_4 (by omega) (by omega) (by rw [c_1]; rfl) rfl ?_
    refine Z.aload_n (k := 0) dX0_advance_40 rfl ?_
    refine Z.dup_i dX0_advance_41 (fun _ => rfl) ?_
    refine Y.getI 8 dX0_advance_42 zl_X0_32 (rfl) (by decide) rfl (zX_0_11 hX).2.2 ?_
    refine Z.iconst (n := 1) dX0_advance_45 ⟨by decide, by decide⟩ ?_
    obtain ⟨z_2, K⟩ := K
    refine Z.iadd dX0_advance_46 z_2 ?_
    refine Y.putI 8 dX0_advance_47 zw_X0_32 (fun q => by cases q) (rfl) rfl (zX_0_11 hX).2.2 (Or.inl rfl) ?_
    generalize eE_3 : zuE E 42 8 (((E 42 8) + 1)) = E_3
    replace K := K E_3 eE_3.symm
    refine Z.aload_n (k := 0) dX0_advance_50 rfl ?_
    refine Y.getR (o := (G 42 6)) 6 dX0_advance_51 zl_X0_26 (rfl) (by decide) rfl (zX_0_11 hX).2.2 rfl ?_
    obtain ⟨b_4, e_5, hc_6, K⟩ := K
    rw [e_5]
    obtain ⟨x_7, m_8, K⟩ := K
    refine Y.callV (g := zm_X1_isPositive) (vs := []) (st := []) dX0_advance_54 ⟨zg_X1_isPositive.1, zg_X1_isPositive.2.1, zg_X1_isPositive.2.2, by decide⟩ ⟨zk_X0_86, zv_X1_isPositive⟩ (ci := 1) (congrArg Prod.fst hc_6.1) rfl (hc_6.2.1) rfl rfl (Nat.le_of_ble_eq_true rfl) m_8 (Or.inl rfl) ?_
    show Z zm_X0_advance kz Q 57 [(0, zR 42)] [zI x_7] (d, G, E_3)
    refine Z.if_eq 91 dX0_advance_57 rfl ⟨fun c_10 => ?_, fun c_10 => ?_⟩
    · replace K := K.1 c_10
      refine Z.iconst (n := 0) dX0_advance_91 ⟨by decide, by decide⟩ ?_
      exact Z.iret (ty := .boolean) dX0_advance_92 rfl rfl K
    · replace K := K.2 c_10
      refine Z.aload_n (k := 0) dX0_advance_60 rfl ?_
      refine Y.getR (o := (G 42 7)) 7 dX0_advance_61 zl_X0_29 (rfl) (by decide) rfl (zX_0_11 hX).2.2 rfl ?_
      obtain ⟨b_11, e_12, hc_13, K⟩ := K
      rw [e_12]
      obtain ⟨x_14, m_15, K⟩ := K
      refine Y.callV (g := zm_X1_isPositive) (vs := []) (st := []) dX0_advance_64 ⟨zg_X1_isPositive.1, zg_X1_isPositive.2.1, zg_X1_isPositive.2.2, by decide⟩ ⟨zk_X0_86, zv_X1_isPositive⟩ (ci := 1) (congrArg Prod.fst hc_13.1) rfl (hc_13.2.1) rfl rfl (Nat.le_of_ble_eq_true rfl) m_15 (Or.inl rfl) ?_
      show Z zm_X0_advance kz Q 67 [(0, zR 42)] [zI x_14] (d, G, E_3)
      refine Z.if_ne 91 dX0_advance_67 rfl ⟨fun c_17 => ?_, fun c_17 => ?_⟩
      · replace K := K.1 c_17
        refine Z.iconst (n := 0) dX0_advance_91 ⟨by decide, by decide⟩ ?_
        exact Z.iret (ty := .boolean) dX0_advance_92 rfl rfl K
      · replace K := K.2 c_17
        refine Z.aload_n (k := 0) dX0_advance_70 rfl ?_
        refine Y.getI 8 dX0_advance_71 zl_X0_32 (rfl) (by decide) rfl (zX_0_11 hX).2.2 ?_
        refine Z.aload_n (k := 0) dX0_advance_74 rfl ?_
        refine Y.getR (o := (G 42 6)) 6 dX0_advance_75 zl_X0_26 (rfl) (by decide) rfl (zX_0_11 hX).2.2 rfl ?_
        obtain ⟨b_18, e_19, hc_20, K⟩ := K
        rw [e_19]
        refine Y.getR (o := some ((b_18 + 1))) 0 dX0_advance_78 zl_X0_92 (congrArg Prod.fst hc_20.1) (by decide) rfl hc_20.2.1 hc_20.2.2.2.1 ?_
        refine Y.getI 3 dX0_advance_81 zl_X0_96 (congrArg Prod.fst hc_20.2.2.1.1) (by decide) rfl hc_20.2.2.1.2.2.2.2.1 ?_
        refine Z.icmp_ge 91 dX0_advance_84 rfl ⟨fun c_21 => ?_, fun c_21 => ?_⟩
        · replace K := K.1 c_21
          refine Z.iconst (n := 0) dX0_advance_91 ⟨by decide, by decide⟩ ?_
          exact Z.iret (ty := .boolean) dX0_advance_92 rfl rfl K
        · replace K := K.2 c_21
          refine Z.iconst (n := 1) dX0_advance_87 ⟨by decide, by decide⟩ ?_
          refine Z.goto 92 dX0_advance_88 rfl ?_
          exact Z.iret (ty := .boolean) dX0_advance_92 rfl rfl K
  replace K := K.2
  by_cases c_22 : (E 42 5) = 1
  · replace K := K.1 c_22
    refine Z.tableIn (off := 36) 40 dX0_advance_4 (by omega) (by omega) (by rw [c_22]; rfl) rfl ?_
    refine Z.aload_n (k := 0) dX0_advance_40 rfl ?_
    refine Z.dup_i dX0_advance_41 (fun _ => rfl) ?_
    refine Y.getI 8 dX0_advance_42 zl_X0_32 (rfl) (by decide) rfl (zX_0_11 hX).2.2 ?_
    refine Z.iconst (n := 1) dX0_advance_45 ⟨by decide, by decide⟩ ?_
    obtain ⟨z_23, K⟩ := K
    refine Z.iadd dX0_advance_46 z_23 ?_
    refine Y.putI 8 dX0_advance_47 zw_X0_32 (fun q => by cases q) (rfl) rfl (zX_0_11 hX).2.2 (Or.inl rfl) ?_
    generalize eE_24 : zuE E 42 8 (((E 42 8) + 1)) = E_24
    replace K := K E_24 eE_24.symm
    refine Z.aload_n (k := 0) dX0_advance_50 rfl ?_
    refine Y.getR (o := (G 42 6)) 6 dX0_advance_51 zl_X0_26 (rfl) (by decide) rfl (zX_0_11 hX).2.2 rfl ?_
    obtain ⟨b_25, e_26, hc_27, K⟩ := K
    rw [e_26]
    obtain ⟨x_28, m_29, K⟩ := K
    refine Y.callV (g := zm_X1_isPositive) (vs := []) (st := []) dX0_advance_54 ⟨zg_X1_isPositive.1, zg_X1_isPositive.2.1, zg_X1_isPositive.2.2, by decide⟩ ⟨zk_X0_86, zv_X1_isPositive⟩ (ci := 1) (congrArg Prod.fst hc_27.1) rfl (hc_27.2.1) rfl rfl (Nat.le_of_ble_eq_true rfl) m_29 (Or.inl rfl) ?_
    show Z zm_X0_advance kz Q 57 [(0, zR 42)] [zI x_28] (d, G, E_24)
    refine Z.if_eq 91 dX0_advance_57 rfl ⟨fun c_31 => ?_, fun c_31 => ?_⟩
    · replace K := K.1 c_31
      refine Z.iconst (n := 0) dX0_advance_91 ⟨by decide, by decide⟩ ?_
      exact Z.iret (ty := .boolean) dX0_advance_92 rfl rfl K
    · replace K := K.2 c_31
      refine Z.aload_n (k := 0) dX0_advance_60 rfl ?_
      refine Y.getR (o := (G 42 7)) 7 dX0_advance_61 zl_X0_29 (rfl) (by decide) rfl (zX_0_11 hX).2.2 rfl ?_
      obtain ⟨b_32, e_33, hc_34, K⟩ := K
      rw [e_33]
      obtain ⟨x_35, m_36, K⟩ := K
      refine Y.callV (g := zm_X1_isPositive) (vs := []) (st := []) dX0_advance_64 ⟨zg_X1_isPositive.1, zg_X1_isPositive.2.1, zg_X1_isPositive.2.2, by decide⟩ ⟨zk_X0_86, zv_X1_isPositive⟩ (ci := 1) (congrArg Prod.fst hc_34.1) rfl (hc_34.2.1) rfl rfl (Nat.le_of_ble_eq_true rfl) m_36 (Or.inl rfl) ?_
      show Z zm_X0_advance kz Q 67 [(0, zR 42)] [zI x_35] (d, G, E_24)
      refine Z.if_ne 91 dX0_advance_67 rfl ⟨fun c_38 => ?_, fun c_38 => ?_⟩
      · replace K := K.1 c_38
        refine Z.iconst (n := 0) dX0_advance_91 ⟨by decide, by decide⟩ ?_
        exact Z.iret (ty := .boolean) dX0_advance_92 rfl rfl K
      · replace K := K.2 c_38
        refine Z.aload_n (k := 0) dX0_advance_70 rfl ?_
        refine Y.getI 8 dX0_advance_71 zl_X0_32 (rfl) (by decide) rfl (zX_0_11 hX).2.2 ?_
        refine Z.aload_n (k := 0) dX0_advance_74 rfl ?_
        refine Y.getR (o := (G 42 6)) 6 dX0_advance_75 zl_X0_26 (rfl) (by decide) rfl (zX_0_11 hX).2.2 rfl ?_
        obtain ⟨b_39, e_40, hc_41, K⟩ := K
        rw [e_40]
        refine Y.getR (o := some ((b_39 + 1))) 0 dX0_advance_78 zl_X0_92 (congrArg Prod.fst hc_41.1) (by decide) rfl hc_41.2.1 hc_41.2.2.2.1 ?_
        refine Y.getI 3 dX0_advance_81 zl_X0_96 (congrArg Prod.fst hc_41.2.2.1.1) (by decide) rfl hc_41.2.2.1.2.2.2.2.1 ?_
        refine Z.icmp_ge 91 dX0_advance_84 rfl ⟨fun c_42 => ?_, fun c_42 => ?_⟩
        · replace K := K.1 c_42
          refine Z.iconst (n := 0) dX0_advance_91 ⟨by decide, by decide⟩ ?_
          exact Z.iret (ty := .boolean) dX0_advance_92 rfl rfl K
        · replace K := K.2 c_42
          refine Z.iconst (n := 1) dX0_advance_87 ⟨by decide, by decide⟩ ?_
          refine Z.goto 92 dX0_advance_88 rfl ?_
          exact Z.iret (ty := .boolean) dX0_advance_92 rfl rfl K
  replace K := K.2
  by_cases c_43 : (E 42 5) = 2
  · replace K := K.1 c_43
    refine Z.tableIn (off := 89) 93 dX0_advance_4 (by omega) (by omega) (by rw [c_43]; rfl) rfl ?_
    refine Z.aload_n (k := 0) dX0_advance_93 rfl ?_
    refine Y.getR (o := (G 42 6)) 6 dX0_advance_94 zl_X0_26 (rfl) (by decide) rfl (zX_0_11 hX).2.2 rfl ?_
    obtain ⟨b_44, e_45, hc_46, K⟩ := K
    rw [e_45]
    obtain ⟨x_47, m_48, K⟩ := K
    refine Y.callV (g := zm_X1_isPositive) (vs := []) (st := []) dX0_advance_97 ⟨zg_X1_isPositive.1, zg_X1_isPositive.2.1, zg_X1_isPositive.2.2, by decide⟩ ⟨zk_X0_86, zv_X1_isPositive⟩ (ci := 1) (congrArg Prod.fst hc_46.1) rfl (hc_46.2.1) rfl rfl (Nat.le_of_ble_eq_true rfl) m_48 (Or.inl rfl) ?_
    show Z zm_X0_advance kz Q 100 [(0, zR 42)] [zI x_47] (d, G, E)
    refine Z.if_eq 114 dX0_advance_100 rfl ⟨fun c_50 => ?_, fun c_50 => ?_⟩
    · replace K := K.1 c_50
      refine Z.iconst (n := 0) dX0_advance_114 ⟨by decide, by decide⟩ ?_
      exact Z.iret (ty := .boolean) dX0_advance_115 rfl rfl K
    · replace K := K.2 c_50
      refine Z.aload_n (k := 0) dX0_advance_103 rfl ?_
      obtain ⟨x_51, E_52, m_53, K⟩ := K
      refine Y.callV (g := zm_X0_advanceTurn) (vs := []) (st := []) dX0_advance_104 ⟨zg_X0_advanceTurn.1, zg_X0_advanceTurn.2.1, zg_X0_advanceTurn.2.2, by decide⟩ ⟨zk_X0_101, zv_X0_advanceTurn⟩ (ci := 0) (rfl) rfl ((zX_0_11 hX).2.2) rfl rfl (Nat.le_of_ble_eq_true rfl) m_53 (Or.inl rfl) ?_
      show Z zm_X0_advance kz Q 107 [(0, zR 42)] [zI x_51] (d, G, E_52)
      refine Z.if_eq 114 dX0_advance_107 rfl ⟨fun c_55 => ?_, fun c_55 => ?_⟩
      · replace K := K.1 c_55
        refine Z.iconst (n := 0) dX0_advance_114 ⟨by decide, by decide⟩ ?_
        exact Z.iret (ty := .boolean) dX0_advance_115 rfl rfl K
      · replace K := K.2 c_55
        refine Z.iconst (n := 1) dX0_advance_110 ⟨by decide, by decide⟩ ?_
        refine Z.goto 115 dX0_advance_111 rfl ?_
        exact Z.iret (ty := .boolean) dX0_advance_115 rfl rfl K
  replace K := K.2
  by_cases c_56 : (E 42 5) = 3
  · replace K := K.1 c_56
    refine Z.tableIn (off := 89) 93 dX0_advance_4 (by omega) (by omega) (by rw [c_56]; rfl) rfl ?_
    refine Z.aload_n (k := 0) dX0_advance_93 rfl ?_
    refine Y.getR (o := (G 42 6)) 6 dX0_advance_94 zl_X0_26 (rfl) (by decide) rfl (zX_0_11 hX).2.2 rfl ?_
    obtain ⟨b_57, e_58, hc_59, K⟩ := K
    rw [e_58]
    obtain ⟨x_60, m_61, K⟩ := K
    refine Y.callV (g := zm_X1_isPositive) (vs := []) (st := []) dX0_advance_97 ⟨zg_X1_isPositive.1, zg_X1_isPositive.2.1, zg_X1_isPositive.2.2, by decide⟩ ⟨zk_X0_86, zv_X1_isPositive⟩ (ci := 1) (congrArg Prod.fst hc_59.1) rfl (hc_59.2.1) rfl rfl (Nat.le_of_ble_eq_true rfl) m_61 (Or.inl rfl) ?_
    show Z zm_X0_advance kz Q 100 [(0, zR 42)] [zI x_60] (d, G, E)
    refine Z.if_eq 114 dX0_advance_100 rfl ⟨fun c_63 => ?_, fun c_63 => ?_⟩
    · replace K := K.1 c_63
      refine Z.iconst (n := 0) dX0_advance_114 ⟨by decide, by decide⟩ ?_
      exact Z.iret (ty := .boolean) dX0_advance_115 rfl rfl K
    · replace K := K.2 c_63
      refine Z.aload_n (k := 0) dX0_advance_103 rfl ?_
      obtain ⟨x_64, E_65, m_66, K⟩ := K
      refine Y.callV (g := zm_X0_advanceTurn) (vs := []) (st := []) dX0_advance_104 ⟨zg_X0_advanceTurn.1, zg_X0_advanceTurn.2.1, zg_X0_advanceTurn.2.2, by decide⟩ ⟨zk_X0_101, zv_X0_advanceTurn⟩ (ci := 0) (rfl) rfl ((zX_0_11 hX).2.2) rfl rfl (Nat.le_of_ble_eq_true rfl) m_66 (Or.inl rfl) ?_
      show Z zm_X0_advance kz Q 107 [(0, zR 42)] [zI x_64] (d, G, E_65)
      refine Z.if_eq 114 dX0_advance_107 rfl ⟨fun c_68 => ?_, fun c_68 => ?_⟩
      · replace K := K.1 c_68
        refine Z.iconst (n := 0) dX0_advance_114 ⟨by decide, by decide⟩ ?_
        exact Z.iret (ty := .boolean) dX0_advance_115 rfl rfl K
      · replace K := K.2 c_68
        refine Z.iconst (n := 1) dX0_advance_110 ⟨by decide, by decide⟩ ?_
        refine Z.goto 115 dX0_advance_111 rfl ?_
        exact Z.iret (ty := .boolean) dX0_advance_115 rfl rfl K
  replace K := K.2
  by_cases c_69 : (E 42 5) = 4
  · replace K := K.1 c_69
    refine Z.tableIn (off := 112) 116 dX0_advance_4 (by omega) (by omega) (by rw [c_69]; rfl) rfl ?_
    refine Z.aload_n (k := 0) dX0_advance_116 rfl ?_
    refine Y.getR (o := (G 42 6)) 6 dX0_advance_117 zl_X0_26 (rfl) (by decide) rfl (zX_0_11 hX).2.2 rfl ?_
    obtain ⟨b_70, e_71, hc_72, K⟩ := K
    rw [e_71]
    obtain ⟨x_73, m_74, K⟩ := K
    refine Y.callV (g := zm_X1_isPositive) (vs := []) (st := []) dX0_advance_120 ⟨zg_X1_isPositive.1, zg_X1_isPositive.2.1, zg_X1_isPositive.2.2, by decide⟩ ⟨zk_X0_86, zv_X1_isPositive⟩ (ci := 1) (congrArg Prod.fst hc_72.1) rfl (hc_72.2.1) rfl rfl (Nat.le_of_ble_eq_true rfl) m_74 (Or.inl rfl) ?_
    show Z zm_X0_advance kz Q 123 [(0, zR 42)] [zI x_73] (d, G, E)
    refine Z.if_eq 137 dX0_advance_123 rfl ⟨fun c_76 => ?_, fun c_76 => ?_⟩
    · replace K := K.1 c_76
      refine Z.iconst (n := 0) dX0_advance_137 ⟨by decide, by decide⟩ ?_
      exact Z.iret (ty := .boolean) dX0_advance_138 rfl rfl K
    · replace K := K.2 c_76
      refine Z.aload_n (k := 0) dX0_advance_126 rfl ?_
      obtain ⟨x_77, E_78, m_79, K⟩ := K
      refine Y.callV (g := zm_X0_advanceFactor) (vs := []) (st := []) dX0_advance_127 ⟨zg_X0_advanceFactor.1, zg_X0_advanceFactor.2.1, zg_X0_advanceFactor.2.2, by decide⟩ ⟨zk_X0_104, zv_X0_advanceFactor⟩ (ci := 0) (rfl) rfl ((zX_0_11 hX).2.2) rfl rfl (Nat.le_of_ble_eq_true rfl) m_79 (Or.inl rfl) ?_
      show Z zm_X0_advance kz Q 130 [(0, zR 42)] [zI x_77] (d, G, E_78)
      refine Z.if_eq 137 dX0_advance_130 rfl ⟨fun c_81 => ?_, fun c_81 => ?_⟩
      · replace K := K.1 c_81
        refine Z.iconst (n := 0) dX0_advance_137 ⟨by decide, by decide⟩ ?_
        exact Z.iret (ty := .boolean) dX0_advance_138 rfl rfl K
      · replace K := K.2 c_81
        refine Z.iconst (n := 1) dX0_advance_133 ⟨by decide, by decide⟩ ?_
        refine Z.goto 138 dX0_advance_134 rfl ?_
        exact Z.iret (ty := .boolean) dX0_advance_138 rfl rfl K
  replace K := K.2
  have hd0 : (E 42 5) < 0 ∨ 4 < (E 42 5) := by omega
  replace K := K hd0
  refine Z.tableOut 139 dX0_advance_4 hd0 rfl ?_
  refine Z.aload_n (k := 0) dX0_advance_139 rfl ?_
  refine Z.dup_i dX0_advance_140 (fun _ => rfl) ?_
  refine Y.getI 11 dX0_advance_141 zl_X0_41 (rfl) (by decide) rfl (zX_0_11 hX).2.2 ?_
  refine Z.iconst (n := 1) dX0_advance_144 ⟨by decide, by decide⟩ ?_
  obtain ⟨z_82, K⟩ := K
  refine Z.iadd dX0_advance_145 z_82 ?_
  refine Y.putI 11 dX0_advance_146 zw_X0_41 (fun q => by cases q) (rfl) rfl (zX_0_11 hX).2.2 (Or.inl rfl) ?_
  generalize eE_83 : zuE E 42 11 (((E 42 11) + 1)) = E_83
  replace K := K E_83 eE_83.symm
  refine Z.aload_n (k := 0) dX0_advance_149 rfl ?_
  refine Y.getI 11 dX0_advance_150 zl_X0_41 (rfl) (by decide) rfl (zX_0_11 hX).2.2 ?_
  refine Z.iconst (n := 1) dX0_advance_153 ⟨by decide, by decide⟩ ?_
  refine Z.icmp_ne 171 dX0_advance_154 rfl ⟨fun c_84 => ?_, fun c_84 => ?_⟩
  · replace K := K.1 c_84
    refine Z.iconst (n := 0) dX0_advance_171 ⟨by decide, by decide⟩ ?_
    exact Z.iret (ty := .boolean) dX0_advance_172 rfl rfl K
  · replace K := K.2 c_84
    refine Z.aload_n (k := 0) dX0_advance_157 rfl ?_
    refine Y.getR (o := (G 42 6)) 6 dX0_advance_158 zl_X0_26 (rfl) (by decide) rfl (zX_0_11 hX).2.2 rfl ?_
    obtain ⟨b_85, e_86, hc_87, K⟩ := K
    rw [e_86]
    obtain ⟨x_88, m_89, K⟩ := K
    refine Y.callV (g := zm_X1_isPositive) (vs := []) (st := []) dX0_advance_161 ⟨zg_X1_isPositive.1, zg_X1_isPositive.2.1, zg_X1_isPositive.2.2, by decide⟩ ⟨zk_X0_86, zv_X1_isPositive⟩ (ci := 1) (congrArg Prod.fst hc_87.1) rfl (hc_87.2.1) rfl rfl (Nat.le_of_ble_eq_true rfl) m_89 (Or.inl rfl) ?_
    show Z zm_X0_advance kz Q 164 [(0, zR 42)] [zI x_88] (d, G, E_83)
    refine Z.if_ne 171 dX0_advance_164 rfl ⟨fun c_91 => ?_, fun c_91 => ?_⟩
    · replace K := K.1 c_91
      refine Z.iconst (n := 0) dX0_advance_171 ⟨by decide, by decide⟩ ?_
      exact Z.iret (ty := .boolean) dX0_advance_172 rfl rfl K
    · replace K := K.2 c_91
      refine Z.iconst (n := 1) dX0_advance_167 ⟨by decide, by decide⟩ ?_
      refine Z.goto 172 dX0_advance_168 rfl ?_
      exact Z.iret (ty := .boolean) dX0_advance_172 rfl rfl K
set_option maxRecDepth 20000 in
theorem X0_tell_0 {kz : Nat × Nat} {Q : Option zV → zH → Prop} {d : List Nat} {G : Nat → Int → Option Nat} {E : Nat → Int → Int}  (hX : zK zXt d G) (K : ∃ E_1, zM zm_J7_fill_53178 [zR 43, zI 0] (d, G, E) none (d, G, E_1) ∧ ∃ b_4, (G 42 6) = some b_4 ∧ zCk d G b_4 ∧ ((0 : Int) ≤ 1 ∧ 1 < (7 : Int)) ∧ ∀ E_8, E_8 = zuE E_1 43 1 ((E_1 b_4 5)) → ((E_8 42 5) = 0 → ((0 : Int) ≤ 0 ∧ 0 < (7 : Int)) ∧ ∀ E_11, E_11 = zuE E_8 43 0 1 → ((0 : Int) ≤ 2 ∧ 2 < (7 : Int)) ∧ ∀ E_13, E_13 = zuE E_11 43 2 ((E_11 42 8)) → ∃ b_14, (G 42 7) = some b_14 ∧ zCk d G b_14 ∧ ((0 : Int) ≤ 3 ∧ 3 < (7 : Int)) ∧ ∀ E_18, E_18 = zuE E_13 43 3 ((E_13 b_14 5)) → Q none (d, G, E_18)) ∧ ((E_8 42 5) = 1 → ((0 : Int) ≤ 0 ∧ 0 < (7 : Int)) ∧ ∀ E_21, E_21 = zuE E_8 43 0 1 → ((0 : Int) ≤ 2 ∧ 2 < (7 : Int)) ∧ ∀ E_23, E_23 = zuE E_21 43 2 ((E_21 42 8)) → ∃ b_24, (G 42 7) = some b_24 ∧ zCk d G b_24 ∧ ((0 : Int) ≤ 3 ∧ 3 < (7 : Int)) ∧ ∀ E_28, E_28 = zuE E_23 43 3 ((E_23 b_24 5)) → Q none (d, G, E_28)) ∧ ((E_8 42 5) = 2 → ((0 : Int) ≤ 0 ∧ 0 < (7 : Int)) ∧ ∀ E_31, E_31 = zuE E_8 43 0 4 → ((0 : Int) ≤ 2 ∧ 2 < (7 : Int)) ∧ ∀ E_33, E_33 = zuE E_31 43 2 ((E_31 42 8)) → ((0 : Int) ≤ 3 ∧ 3 < (7 : Int)) ∧ ∀ E_35, E_35 = zuE E_33 43 3 ((E_33 42 9)) → ∃ b_36, (G 42 7) = some b_36 ∧ zCk d G b_36 ∧ ((0 : Int) ≤ 4 ∧ 4 < (7 : Int)) ∧ ∀ E_40, E_40 = zuE E_35 43 4 ((E_35 b_36 5)) → ((0 : Int) ≤ 5 ∧ 5 < (7 : Int)) ∧ ∀ E_42, E_42 = zuE E_40 43 5 ((E_40 42 10)) → ((0 : Int) ≤ 6 ∧ 6 < (7 : Int)) ∧ ∀ E_44, E_44 = zuE E_42 43 6 ((E_42 42 11)) → Q none (d, G, E_44)) ∧ ((E_8 42 5) = 3 → ((0 : Int) ≤ 0 ∧ 0 < (7 : Int)) ∧ ∀ E_47, E_47 = zuE E_8 43 0 4 → ((0 : Int) ≤ 2 ∧ 2 < (7 : Int)) ∧ ∀ E_49, E_49 = zuE E_47 43 2 ((E_47 42 8)) → ((0 : Int) ≤ 3 ∧ 3 < (7 : Int)) ∧ ∀ E_51, E_51 = zuE E_49 43 3 ((E_49 42 9)) → ∃ b_52, (G 42 7) = some b_52 ∧ zCk d G b_52 ∧ ((0 : Int) ≤ 4 ∧ 4 < (7 : Int)) ∧ ∀ E_56, E_56 = zuE E_51 43 4 ((E_51 b_52 5)) → ((0 : Int) ≤ 5 ∧ 5 < (7 : Int)) ∧ ∀ E_58, E_58 = zuE E_56 43 5 ((E_56 42 10)) → ((0 : Int) ≤ 6 ∧ 6 < (7 : Int)) ∧ ∀ E_60, E_60 = zuE E_58 43 6 ((E_58 42 11)) → Q none (d, G, E_60)) ∧ ((E_8 42 5) = 4 → ((0 : Int) ≤ 0 ∧ 0 < (7 : Int)) ∧ ∀ E_63, E_63 = zuE E_8 43 0 2 → ((0 : Int) ≤ 2 ∧ 2 < (7 : Int)) ∧ ∀ E_65, E_65 = zuE E_63 43 2 ((E_63 42 8)) → ((0 : Int) ≤ 3 ∧ 3 < (7 : Int)) ∧ ∀ E_67, E_67 = zuE E_65 43 3 ((E_65 42 10)) → Q none (d, G, E_67)) ∧ (((E_8 42 5) < 0 ∨ 4 < (E_8 42 5)) → ((0 : Int) ≤ 0 ∧ 0 < (7 : Int)) ∧ ∀ E_69, E_69 = zuE E_8 43 0 3 → Q none (d, G, E_69))) : Z zm_X0_tell kz Q 0 [(0, zR 42)] [] (d, G, E) := by
  refine Z.aload_n (k := 0) dX0_tell_0 rfl ?_
  refine Y.getR (o := some 43) 2 dX0_tell_1 zl_X0_9 (rfl) (by decide) rfl (zX_0_11 hX).2.2 (zX_42_2 hX).1 ?_
  refine Z.iconst (n := 0) dX0_tell_4 ⟨by decide, by decide⟩ ?_
  obtain ⟨E_1, m_2, K⟩ := K
  refine Y.callS (g := zm_J7_fill_53178) (vs := [zR 43, zI 0]) (st := []) dX0_tell_5 ⟨zg_J7_fill_53178.1, zg_J7_fill_53178.2.1, zg_J7_fill_53178.2.2, by decide⟩ ⟨Or.inl zk_X0_52, zs_J7_fill_53178⟩ rfl rfl (Nat.le_of_ble_eq_true rfl) m_2 (Or.inl rfl) ?_
  show Z zm_X0_tell kz Q 8 [(0, zR 42)] [] (d, G, E_1)
  refine Z.aload_n (k := 0) dX0_tell_8 rfl ?_
  refine Y.getR (o := some 43) 2 dX0_tell_9 zl_X0_9 (rfl) (by decide) rfl (zX_0_11 hX).2.2 (zX_42_2 hX).1 ?_
  refine Z.iconst (n := 1) dX0_tell_12 ⟨by decide, by decide⟩ ?_
  refine Z.aload_n (k := 0) dX0_tell_13 rfl ?_
  refine Y.getR (o := (G 42 6)) 6 dX0_tell_14 zl_X0_26 (rfl) (by decide) rfl (zX_0_11 hX).2.2 rfl ?_
  obtain ⟨b_4, e_5, hc_6, K⟩ := K
  rw [e_5]
  refine Y.getI 5 dX0_tell_17 zl_X0_130 (congrArg Prod.fst hc_6.1) (by decide) rfl hc_6.2.1 ?_
  obtain ⟨z_7, K⟩ := K
  refine Y.iast dX0_tell_20 (rfl) ((zX_42_2 hX).2.2) z_7 ?_
  generalize eE_8 : zuE E_1 43 1 ((E_1 b_4 5)) = E_8
  replace K := K E_8 eE_8.symm
  refine Z.aload_n (k := 0) dX0_tell_21 rfl ?_
  refine Y.getI 5 dX0_tell_22 zl_X0_23 (rfl) (by decide) rfl (zX_0_11 hX).2.2 ?_
  by_cases c_9 : (E_8 42 5) = 0
  · replace K := K.1 c_9
    refine Z.tableIn (off := 35) 60 dX0_tell_25 (by omega) (by omega) (by rw [c_9]; rfl) rfl ?_
    refine Z.aload_n (k := 0) dX0_tell_60 rfl ?_
    refine Y.getR (o := some 43) 2 dX0_tell_61 zl_X0_9 (rfl) (by decide) rfl (zX_0_11 hX).2.2 (zX_42_2 hX).1 ?_
    refine Z.iconst (n := 0) dX0_tell_64 ⟨by decide, by decide⟩ ?_
    refine Z.iconst (n := 1) dX0_tell_65 ⟨by decide, by decide⟩ ?_
    obtain ⟨z_10, K⟩ := K
    refine Y.iast dX0_tell_66 (rfl) ((zX_42_2 hX).2.2) z_10 ?_
    generalize eE_11 : zuE E_8 43 0 1 = E_11
    replace K := K E_11 eE_11.symm
    refine Z.aload_n (k := 0) dX0_tell_67 rfl ?_
    refine Y.getR (o := some 43) 2 dX0_tell_68 zl_X0_9 (rfl) (by decide) rfl (zX_0_11 hX).2.2 (zX_42_2 hX).1 ?_
    refine Z.iconst (n := 2) dX0_tell_71 ⟨by decide, by decide⟩ ?_
    refine Z.aload_n (k := 0) dX0_tell_72 rfl ?_
    refine Y.getI 8 dX0_tell_73 zl_X0_32 (rfl) (by decide) rfl (zX_0_11 hX).2.2 ?_
    obtain ⟨z_12, K⟩ := K
    refine Y.iast dX0_tell_76 (rfl) ((zX_42_2 hX).2.2) z_12 ?_
    generalize eE_13 : zuE E_11 43 2 ((E_11 42 8)) = E_13
    replace K := K E_13 eE_13.symm
    refine Z.aload_n (k := 0) dX0_tell_77 rfl ?_
    refine Y.getR (o := some 43) 2 dX0_tell_78 zl_X0_9 (rfl) (by decide) rfl (zX_0_11 hX).2.2 (zX_42_2 hX).1 ?_
    refine Z.iconst (n := 3) dX0_tell_81 ⟨by decide, by decide⟩ ?_
    refine Z.aload_n (k := 0) dX0_tell_82 rfl ?_
    refine Y.getR (o := (G 42 7)) 7 dX0_tell_83 zl_X0_29 (rfl) (by decide) rfl (zX_0_11 hX).2.2 rfl ?_
    obtain ⟨b_14, e_15, hc_16, K⟩ := K
    rw [e_15]
    refine Y.getI 5 dX0_tell_86 zl_X0_130 (congrArg Prod.fst hc_16.1) (by decide) rfl hc_16.2.1 ?_
    obtain ⟨z_17, K⟩ := K
    refine Y.iast dX0_tell_89 (rfl) ((zX_42_2 hX).2.2) z_17 ?_
    generalize eE_18 : zuE E_13 43 3 ((E_13 b_14 5)) = E_18
    replace K := K E_18 eE_18.symm
    refine Z.goto 194 dX0_tell_90 rfl ?_
    exact Z.vret dX0_tell_194 rfl K
  replace K := K.2
  by_cases c_19 : (E_8 42 5) = 1
  · replace K := K.1 c_19
    refine Z.tableIn (off := 35) 60 dX0_tell_25 (by omega) (by omega) (by rw [c_19]; rfl) rfl ?_
    refine Z.aload_n (k := 0) dX0_tell_60 rfl ?_
    refine Y.getR (o := some 43) 2 dX0_tell_61 zl_X0_9 (rfl) (by decide) rfl (zX_0_11 hX).2.2 (zX_42_2 hX).1 ?_
    refine Z.iconst (n := 0) dX0_tell_64 ⟨by decide, by decide⟩ ?_
    refine Z.iconst (n := 1) dX0_tell_65 ⟨by decide, by decide⟩ ?_
    obtain ⟨z_20, K⟩ := K
    refine Y.iast dX0_tell_66 (rfl) ((zX_42_2 hX).2.2) z_20 ?_
    generalize eE_21 : zuE E_8 43 0 1 = E_21
    replace K := K E_21 eE_21.symm
    refine Z.aload_n (k := 0) dX0_tell_67 rfl ?_
    refine Y.getR (o := some 43) 2 dX0_tell_68 zl_X0_9 (rfl) (by decide) rfl (zX_0_11 hX).2.2 (zX_42_2 hX).1 ?_
    refine Z.iconst (n := 2) dX0_tell_71 ⟨by decide, by decide⟩ ?_
    refine Z.aload_n (k := 0) dX0_tell_72 rfl ?_
    refine Y.getI 8 dX0_tell_73 zl_X0_32 (rfl) (by decide) rfl (zX_0_11 hX).2.2 ?_
    obtain ⟨z_22, K⟩ := K
    refine Y.iast dX0_tell_76 (rfl) ((zX_42_2 hX).2.2) z_22 ?_
    generalize eE_23 : zuE E_21 43 2 ((E_21 42 8)) = E_23
    replace K := K E_23 eE_23.symm
    refine Z.aload_n (k := 0) dX0_tell_77 rfl ?_
    refine Y.getR (o := some 43) 2 dX0_tell_78 zl_X0_9 (rfl) (by decide) rfl (zX_0_11 hX).2.2 (zX_42_2 hX).1 ?_
    refine Z.iconst (n := 3) dX0_tell_81 ⟨by decide, by decide⟩ ?_
    refine Z.aload_n (k := 0) dX0_tell_82 rfl ?_
    refine Y.getR (o := (G 42 7)) 7 dX0_tell_83 zl_X0_29 (rfl) (by decide) rfl (zX_0_11 hX).2.2 rfl ?_
    obtain ⟨b_24, e_25, hc_26, K⟩ := K
    rw [e_25]
    refine Y.getI 5 dX0_tell_86 zl_X0_130 (congrArg Prod.fst hc_26.1) (by decide) rfl hc_26.2.1 ?_
    obtain ⟨z_27, K⟩ := K
    refine Y.iast dX0_tell_89 (rfl) ((zX_42_2 hX).2.2) z_27 ?_
    generalize eE_28 : zuE E_23 43 3 ((E_23 b_24 5)) = E_28
    replace K := K E_28 eE_28.symm
    refine Z.goto 194 dX0_tell_90 rfl ?_
    exact Z.vret dX0_tell_194 rfl K
  replace K := K.2
  by_cases c_29 : (E_8 42 5) = 2
  · replace K := K.1 c_29
    refine Z.tableIn (off := 68) 93 dX0_tell_25 (by omega) (by omega) (by rw [c_29]; rfl) rfl ?_
    refine Z.aload_n (k := 0) dX0_tell_93 rfl ?_
    refine Y.getR (o := some 43) 2 dX0_tell_94 zl_X0_9 (rfl) (by decide) rfl (zX_0_11 hX).2.2 (zX_42_2 hX).1 ?_
    refine Z.iconst (n := 0) dX0_tell_97 ⟨by decide, by decide⟩ ?_
    refine Z.iconst (n := 4) dX0_tell_98 ⟨by decide, by decide⟩ ?_
    obtain ⟨z_30, K⟩ := K
    refine Y.iast dX0_tell_99 (rfl) ((zX_42_2 hX).2.2) z_30 ?_
    generalize eE_31 : zuE E_8 43 0 4 = E_31
    replace K := K E_31 eE_31.symm
    refine Z.aload_n (k := 0) dX0_tell_100 rfl ?_
    refine Y.getR (o := some 43) 2 dX0_tell_101 zl_X0_9 (rfl) (by decide) rfl (zX_0_11 hX).2.2 (zX_42_2 hX).1 ?_
    refine Z.iconst (n := 2) dX0_tell_104 ⟨by decide, by decide⟩ ?_
    refine Z.aload_n (k := 0) dX0_tell_105 rfl ?_
    refine Y.getI 8 dX0_tell_106 zl_X0_32 (rfl) (by decide) rfl (zX_0_11 hX).2.2 ?_
    obtain ⟨z_32, K⟩ := K
    refine Y.iast dX0_tell_109 (rfl) ((zX_42_2 hX).2.2) z_32 ?_
    generalize eE_33 : zuE E_31 43 2 ((E_31 42 8)) = E_33
    replace K := K E_33 eE_33.symm
    refine Z.aload_n (k := 0) dX0_tell_110 rfl ?_
    refine Y.getR (o := some 43) 2 dX0_tell_111 zl_X0_9 (rfl) (by decide) rfl (zX_0_11 hX).2.2 (zX_42_2 hX).1 ?_
    refine Z.iconst (n := 3) dX0_tell_114 ⟨by decide, by decide⟩ ?_
    refine Z.aload_n (k := 0) dX0_tell_115 rfl ?_
    refine Y.getI 9 dX0_tell_116 zl_X0_35 (rfl) (by decide) rfl (zX_0_11 hX).2.2 ?_
    obtain ⟨z_34, K⟩ := K
    refine Y.iast dX0_tell_119 (rfl) ((zX_42_2 hX).2.2) z_34 ?_
    generalize eE_35 : zuE E_33 43 3 ((E_33 42 9)) = E_35
    replace K := K E_35 eE_35.symm
    refine Z.aload_n (k := 0) dX0_tell_120 rfl ?_
    refine Y.getR (o := some 43) 2 dX0_tell_121 zl_X0_9 (rfl) (by decide) rfl (zX_0_11 hX).2.2 (zX_42_2 hX).1 ?_
    refine Z.iconst (n := 4) dX0_tell_124 ⟨by decide, by decide⟩ ?_
    refine Z.aload_n (k := 0) dX0_tell_125 rfl ?_
    refine Y.getR (o := (G 42 7)) 7 dX0_tell_126 zl_X0_29 (rfl) (by decide) rfl (zX_0_11 hX).2.2 rfl ?_
    obtain ⟨b_36, e_37, hc_38, K⟩ := K
    rw [e_37]
    refine Y.getI 5 dX0_tell_129 zl_X0_130 (congrArg Prod.fst hc_38.1) (by decide) rfl hc_38.2.1 ?_
    obtain ⟨z_39, K⟩ := K
    refine Y.iast dX0_tell_132 (rfl) ((zX_42_2 hX).2.2) z_39 ?_
    generalize eE_40 : zuE E_35 43 4 ((E_35 b_36 5)) = E_40
    replace K := K E_40 eE_40.symm
    refine Z.aload_n (k := 0) dX0_tell_133 rfl ?_
    refine Y.getR (o := some 43) 2 dX0_tell_134 zl_X0_9 (rfl) (by decide) rfl (zX_0_11 hX).2.2 (zX_42_2 hX).1 ?_
    refine Z.iconst (n := 5) dX0_tell_137 ⟨by decide, by decide⟩ ?_
    refine Z.aload_n (k := 0) dX0_tell_138 rfl ?_
    refine Y.getI 10 dX0_tell_139 zl_X0_38 (rfl) (by decide) rfl (zX_0_11 hX).2.2 ?_
    obtain ⟨z_41, K⟩ := K
    refine Y.iast dX0_tell_142 (rfl) ((zX_42_2 hX).2.2) z_41 ?_
    generalize eE_42 : zuE E_40 43 5 ((E_40 42 10)) = E_42
    replace K := K E_42 eE_42.symm
    refine Z.aload_n (k := 0) dX0_tell_143 rfl ?_
    refine Y.getR (o := some 43) 2 dX0_tell_144 zl_X0_9 (rfl) (by decide) rfl (zX_0_11 hX).2.2 (zX_42_2 hX).1 ?_
    refine Z.bipush (n := 6) dX0_tell_147 ⟨by decide, by decide⟩ (by decide) ?_
    refine Z.aload_n (k := 0) dX0_tell_149 rfl ?_
    refine Y.getI 11 dX0_tell_150 zl_X0_41 (rfl) (by decide) rfl (zX_0_11 hX).2.2 ?_
    obtain ⟨z_43, K⟩ := K
    refine Y.iast dX0_tell_153 (rfl) ((zX_42_2 hX).2.2) z_43 ?_
    generalize eE_44 : zuE E_42 43 6 ((E_42 42 11)) = E_44
    replace K := K E_44 eE_44.symm
    refine Z.goto 194 dX0_tell_154 rfl ?_
    exact Z.vret dX0_tell_194 rfl K
  replace K := K.2
  by_cases c_45 : (E_8 42 5) = 3
  · replace K := K.1 c_45
    refine Z.tableIn (off := 68) 93 dX0_tell_25 (by omega) (by omega) (by rw [c_45]; rfl) rfl ?_
    refine Z.aload_n (k := 0) dX0_tell_93 rfl ?_
    refine Y.getR (o := some 43) 2 dX0_tell_94 zl_X0_9 (rfl) (by decide) rfl (zX_0_11 hX).2.2 (zX_42_2 hX).1 ?_
    refine Z.iconst (n := 0) dX0_tell_97 ⟨by decide, by decide⟩ ?_
    refine Z.iconst (n := 4) dX0_tell_98 ⟨by decide, by decide⟩ ?_
    obtain ⟨z_46, K⟩ := K
    refine Y.iast dX0_tell_99 (rfl) ((zX_42_2 hX).2.2) z_46 ?_
    generalize eE_47 : zuE E_8 43 0 4 = E_47
    replace K := K E_47 eE_47.symm
    refine Z.aload_n (k := 0) dX0_tell_100 rfl ?_
    refine Y.getR (o := some 43) 2 dX0_tell_101 zl_X0_9 (rfl) (by decide) rfl (zX_0_11 hX).2.2 (zX_42_2 hX).1 ?_
    refine Z.iconst (n := 2) dX0_tell_104 ⟨by decide, by decide⟩ ?_
    refine Z.aload_n (k := 0) dX0_tell_105 rfl ?_
    refine Y.getI 8 dX0_tell_106 zl_X0_32 (rfl) (by decide) rfl (zX_0_11 hX).2.2 ?_
    obtain ⟨z_48, K⟩ := K
    refine Y.iast dX0_tell_109 (rfl) ((zX_42_2 hX).2.2) z_48 ?_
    generalize eE_49 : zuE E_47 43 2 ((E_47 42 8)) = E_49
    replace K := K E_49 eE_49.symm
    refine Z.aload_n (k := 0) dX0_tell_110 rfl ?_
    refine Y.getR (o := some 43) 2 dX0_tell_111 zl_X0_9 (rfl) (by decide) rfl (zX_0_11 hX).2.2 (zX_42_2 hX).1 ?_
    refine Z.iconst (n := 3) dX0_tell_114 ⟨by decide, by decide⟩ ?_
    refine Z.aload_n (k := 0) dX0_tell_115 rfl ?_
    refine Y.getI 9 dX0_tell_116 zl_X0_35 (rfl) (by decide) rfl (zX_0_11 hX).2.2 ?_
    obtain ⟨z_50, K⟩ := K
    refine Y.iast dX0_tell_119 (rfl) ((zX_42_2 hX).2.2) z_50 ?_
    generalize eE_51 : zuE E_49 43 3 ((E_49 42 9)) = E_51
    replace K := K E_51 eE_51.symm
    refine Z.aload_n (k := 0) dX0_tell_120 rfl ?_
    refine Y.getR (o := some 43) 2 dX0_tell_121 zl_X0_9 (rfl) (by decide) rfl (zX_0_11 hX).2.2 (zX_42_2 hX).1 ?_
    refine Z.iconst (n := 4) dX0_tell_124 ⟨by decide, by decide⟩ ?_
    refine Z.aload_n (k := 0) dX0_tell_125 rfl ?_
    refine Y.getR (o := (G 42 7)) 7 dX0_tell_126 zl_X0_29 (rfl) (by decide) rfl (zX_0_11 hX).2.2 rfl ?_
    obtain ⟨b_52, e_53, hc_54, K⟩ := K
    rw [e_53]
    refine Y.getI 5 dX0_tell_129 zl_X0_130 (congrArg Prod.fst hc_54.1) (by decide) rfl hc_54.2.1 ?_
    obtain ⟨z_55, K⟩ := K
    refine Y.iast dX0_tell_132 (rfl) ((zX_42_2 hX).2.2) z_55 ?_
    generalize eE_56 : zuE E_51 43 4 ((E_51 b_52 5)) = E_56
    replace K := K E_56 eE_56.symm
    refine Z.aload_n (k := 0) dX0_tell_133 rfl ?_
    refine Y.getR (o := some 43) 2 dX0_tell_134 zl_X0_9 (rfl) (by decide) rfl (zX_0_11 hX).2.2 (zX_42_2 hX).1 ?_
    refine Z.iconst (n := 5) dX0_tell_137 ⟨by decide, by decide⟩ ?_
    refine Z.aload_n (k := 0) dX0_tell_138 rfl ?_
    refine Y.getI 10 dX0_tell_139 zl_X0_38 (rfl) (by decide) rfl (zX_0_11 hX).2.2 ?_
    obtain ⟨z_57, K⟩ := K
    refine Y.iast dX0_tell_142 (rfl) ((zX_42_2 hX).2.2) z_57 ?_
    generalize eE_58 : zuE E_56 43 5 ((E_56 42 10)) = E_58
    replace K := K E_58 eE_58.symm
    refine Z.aload_n (k := 0) dX0_tell_143 rfl ?_
    refine Y.getR (o := some 43) 2 dX0_tell_144 zl_X0_9 (rfl) (by decide) rfl (zX_0_11 hX).2.2 (zX_42_2 hX).1 ?_
    refine Z.bipush (n := 6) dX0_tell_147 ⟨by decide, by decide⟩ (by decide) ?_
    refine Z.aload_n (k := 0) dX0_tell_149 rfl ?_
    refine Y.getI 11 dX0_tell_150 zl_X0_41 (rfl) (by decide) rfl (zX_0_11 hX).2.2 ?_
    obtain ⟨z_59, K⟩ := K
    refine Y.iast dX0_tell_153 (rfl) ((zX_42_2 hX).2.2) z_59 ?_
    generalize eE_60 : zuE E_58 43 6 ((E_58 42 11)) = E_60
    replace K := K E_60 eE_60.symm
    refine Z.goto 194 dX0_tell_154 rfl ?_
    exact Z.vret dX0_tell_194 rfl K
  replace K := K.2
  by_cases c_61 : (E_8 42 5) = 4
  · replace K := K.1 c_61
    refine Z.tableIn (off := 132) 157 dX0_tell_25 (by omega) (by omega) (by rw [c_61]; rfl) rfl ?_
    refine Z.aload_n (k := 0) dX0_tell_157 rfl ?_
    refine Y.getR (o := some 43) 2 dX0_tell_158 zl_X0_9 (rfl) (by decide) rfl (zX_0_11 hX).2.2 (zX_42_2 hX).1 ?_
    refine Z.iconst (n := 0) dX0_tell_161 ⟨by decide, by decide⟩ ?_
    refine Z.iconst (n := 2) dX0_tell_162 ⟨by decide, by decide⟩ ?_
    obtain ⟨z_62, K⟩ := K
    refine Y.iast dX0_tell_163 (rfl) ((zX_42_2 hX).2.2) z_62 ?_
    generalize eE_63 : zuE E_8 43 0 2 = E_63
    replace K := K E_63 eE_63.symm
    refine Z.aload_n (k := 0) dX0_tell_164 rfl ?_
    refine Y.getR (o := some 43) 2 dX0_tell_165 zl_X0_9 (rfl) (by decide) rfl (zX_0_11 hX).2.2 (zX_42_2 hX).1 ?_
    refine Z.iconst (n := 2) dX0_tell_168 ⟨by decide, by decide⟩ ?_
    refine Z.aload_n (k := 0) dX0_tell_169 rfl ?_
    refine Y.getI 8 dX0_tell_170 zl_X0_32 (rfl) (by decide) rfl (zX_0_11 hX).2.2 ?_
    obtain ⟨z_64, K⟩ := K
    refine Y.iast dX0_tell_173 (rfl) ((zX_42_2 hX).2.2) z_64 ?_
    generalize eE_65 : zuE E_63 43 2 ((E_63 42 8)) = E_65
    replace K := K E_65 eE_65.symm
    refine Z.aload_n (k := 0) dX0_tell_174 rfl ?_
    refine Y.getR (o := some 43) 2 dX0_tell_175 zl_X0_9 (rfl) (by decide) rfl (zX_0_11 hX).2.2 (zX_42_2 hX).1 ?_
    refine Z.iconst (n := 3) dX0_tell_178 ⟨by decide, by decide⟩ ?_
    refine Z.aload_n (k := 0) dX0_tell_179 rfl ?_
    refine Y.getI 10 dX0_tell_180 zl_X0_38 (rfl) (by decide) rfl (zX_0_11 hX).2.2 ?_
    obtain ⟨z_66, K⟩ := K
    refine Y.iast dX0_tell_183 (rfl) ((zX_42_2 hX).2.2) z_66 ?_
    generalize eE_67 : zuE E_65 43 3 ((E_65 42 10)) = E_67
    replace K := K E_67 eE_67.symm
    refine Z.goto 194 dX0_tell_184 rfl ?_
    exact Z.vret dX0_tell_194 rfl K
  replace K := K.2
  have hd0 : (E_8 42 5) < 0 ∨ 4 < (E_8 42 5) := by omega
  replace K := K hd0
  refine Z.tableOut 187 dX0_tell_25 hd0 rfl ?_
  refine Z.aload_n (k := 0) dX0_tell_187 rfl ?_
  refine Y.getR (o := some 43) 2 dX0_tell_188 zl_X0_9 (rfl) (by decide) rfl (zX_0_11 hX).2.2 (zX_42_2 hX).1 ?_
  refine Z.iconst (n := 0) dX0_tell_191 ⟨by decide, by decide⟩ ?_
  refine Z.iconst (n := 3) dX0_tell_192 ⟨by decide, by decide⟩ ?_
  obtain ⟨z_68, K⟩ := K
  refine Y.iast dX0_tell_193 (rfl) ((zX_42_2 hX).2.2) z_68 ?_
  generalize eE_69 : zuE E_8 43 0 3 = E_69
  replace K := K E_69 eE_69.symm
  exact Z.vret dX0_tell_194 rfl K
set_option maxRecDepth 20000 in
theorem X0_nextPhase_0 {kz : Nat × Nat} {Q : Option zV → zH → Prop} {d : List Nat} {G : Nat → Int → Option Nat} {E : Nat → Int → Int}  (hX : zK zXt d G) (K : zin ((E 42 5) + 1) ∧ ∀ E_2, E_2 = zuE E 42 5 (((E 42 5) + 1)) → ((E_2 42 5) ≠ 4 → Z zm_X0_nextPhase kz Q 47 [(0, zR 42)] [] (d, G, E_2)) ∧ (¬ ((E_2 42 5) ≠ 4) → zin ((E_2 42 4) + 1) ∧ ∀ E_5, E_5 = zuE E_2 42 4 (((E_2 42 4) + 1)) → ((E_5 5 4) ≤ (E_5 42 4) → Z zm_X0_nextPhase kz Q 47 [(0, zR 42)] [] (d, G, E_5)) ∧ (¬ ((E_5 5 4) ≤ (E_5 42 4)) → ∀ E_7, E_7 = zuE E_5 42 5 0 → Z zm_X0_nextPhase kz Q 47 [(0, zR 42)] [] (d, G, E_7)))) : Z zm_X0_nextPhase kz Q 0 [(0, zR 42)] [] (d, G, E) := by
  refine Z.aload_n (k := 0) dX0_nextPhase_0 rfl ?_
  refine Z.dup_i dX0_nextPhase_1 (fun _ => rfl) ?_
  refine Y.getI 5 dX0_nextPhase_2 zl_X0_23 (rfl) (by decide) rfl (zX_0_11 hX).2.2 ?_
  refine Z.iconst (n := 1) dX0_nextPhase_5 ⟨by decide, by decide⟩ ?_
  obtain ⟨z_1, K⟩ := K
  refine Z.iadd dX0_nextPhase_6 z_1 ?_
  refine Y.putI 5 dX0_nextPhase_7 zw_X0_23 (fun q => by cases q) (rfl) rfl (zX_0_11 hX).2.2 (Or.inl rfl) ?_
  generalize eE_2 : zuE E 42 5 (((E 42 5) + 1)) = E_2
  replace K := K E_2 eE_2.symm
  refine Z.aload_n (k := 0) dX0_nextPhase_10 rfl ?_
  refine Y.getI 5 dX0_nextPhase_11 zl_X0_23 (rfl) (by decide) rfl (zX_0_11 hX).2.2 ?_
  refine Z.iconst (n := 4) dX0_nextPhase_14 ⟨by decide, by decide⟩ ?_
  refine Z.icmp_ne 47 dX0_nextPhase_15 rfl ⟨fun c_3 => ?_, fun c_3 => ?_⟩
  · replace K := K.1 c_3
    exact K
  · replace K := K.2 c_3
    refine Z.aload_n (k := 0) dX0_nextPhase_18 rfl ?_
    refine Z.dup_i dX0_nextPhase_19 (fun _ => rfl) ?_
    refine Y.getI 4 dX0_nextPhase_20 zl_X0_19 (rfl) (by decide) rfl (zX_0_11 hX).2.2 ?_
    refine Z.iconst (n := 1) dX0_nextPhase_23 ⟨by decide, by decide⟩ ?_
    obtain ⟨z_4, K⟩ := K
    refine Z.iadd dX0_nextPhase_24 z_4 ?_
    refine Y.putI 4 dX0_nextPhase_25 zw_X0_19 (fun q => by cases q) (rfl) rfl (zX_0_11 hX).2.2 (Or.inl rfl) ?_
    generalize eE_5 : zuE E_2 42 4 (((E_2 42 4) + 1)) = E_5
    replace K := K E_5 eE_5.symm
    refine Z.aload_n (k := 0) dX0_nextPhase_28 rfl ?_
    refine Y.getI 4 dX0_nextPhase_29 zl_X0_19 (rfl) (by decide) rfl (zX_0_11 hX).2.2 ?_
    refine Z.aload_n (k := 0) dX0_nextPhase_32 rfl ?_
    refine Y.getR (o := some 5) 1 dX0_nextPhase_33 zl_X0_48 (rfl) (by decide) rfl (zX_0_11 hX).2.2 (zX_42_1 hX).1 ?_
    refine Y.getI 4 dX0_nextPhase_36 zl_X0_74 (rfl) (by decide) rfl (zX_0_1 hX).2.2 ?_
    refine Z.icmp_ge 47 dX0_nextPhase_39 rfl ⟨fun c_6 => ?_, fun c_6 => ?_⟩
    · replace K := K.1 c_6
      exact K
    · replace K := K.2 c_6
      refine Z.aload_n (k := 0) dX0_nextPhase_42 rfl ?_
      refine Z.iconst (n := 0) dX0_nextPhase_43 ⟨by decide, by decide⟩ ?_
      refine Y.putI 5 dX0_nextPhase_44 zw_X0_23 (fun q => by cases q) (rfl) rfl (zX_0_11 hX).2.2 (Or.inl rfl) ?_
      generalize eE_7 : zuE E_5 42 5 0 = E_7
      replace K := K E_7 eE_7.symm
      exact K
set_option maxRecDepth 20000 in
theorem X0_nextPhase_47 {kz : Nat × Nat} {Q : Option zV → zH → Prop} {d : List Nat} {G : Nat → Int → Option Nat} {E : Nat → Int → Int}  (hX : zK zXt d G) (K : (4 ≤ (E 42 5) → Z zm_X0_nextPhase kz Q 73 [(0, zR 42)] [zO ((G 42 3))] (d, G, E)) ∧ (¬ (4 ≤ (E 42 5)) → ∃ o_2, zM zm_X7_at [zR 5, zI ((E 42 4))] (d, G, E) (some (zO o_2)) (d, G, E) ∧ Z zm_X0_nextPhase kz Q 73 [(0, zR 42)] [zO o_2] (d, G, E))) : Z zm_X0_nextPhase kz Q 47 [(0, zR 42)] [] (d, G, E) := by
  refine Z.aload_n (k := 0) dX0_nextPhase_47 rfl ?_
  refine Y.getI 5 dX0_nextPhase_48 zl_X0_23 (rfl) (by decide) rfl (zX_0_11 hX).2.2 ?_
  refine Z.iconst (n := 4) dX0_nextPhase_51 ⟨by decide, by decide⟩ ?_
  refine Z.icmp_ge 69 dX0_nextPhase_52 rfl ⟨fun c_1 => ?_, fun c_1 => ?_⟩
  · replace K := K.1 c_1
    refine Z.aload_n (k := 0) dX0_nextPhase_69 rfl ?_
    refine Y.getR (o := (G 42 3)) 3 dX0_nextPhase_70 zl_X0_15 (rfl) (by decide) rfl (zX_0_11 hX).2.2 rfl ?_
    exact K
  · replace K := K.2 c_1
    refine Z.aload_n (k := 0) dX0_nextPhase_55 rfl ?_
    refine Y.getR (o := some 5) 1 dX0_nextPhase_56 zl_X0_48 (rfl) (by decide) rfl (zX_0_11 hX).2.2 (zX_42_1 hX).1 ?_
    refine Z.aload_n (k := 0) dX0_nextPhase_59 rfl ?_
    refine Y.getI 4 dX0_nextPhase_60 zl_X0_19 (rfl) (by decide) rfl (zX_0_11 hX).2.2 ?_
    obtain ⟨o_2, m_3, K⟩ := K
    refine Y.callV (g := zm_X7_at) (vs := [zI ((E 42 4))]) (st := []) dX0_nextPhase_63 ⟨zg_X7_at.1, zg_X7_at.2.1, zg_X7_at.2.2, by decide⟩ ⟨zk_X0_79, zv_X7_at⟩ (ci := 7) (rfl) rfl ((zX_0_1 hX).2.2) rfl rfl (Nat.le_of_ble_eq_true rfl) m_3 (Or.inl rfl) ?_
    show Z zm_X0_nextPhase kz Q 66 [(0, zR 42)] [zO o_2] (d, G, E)
    refine Z.goto 73 dX0_nextPhase_66 rfl ?_
    exact K
set_option maxRecDepth 20000 in
theorem X0_nextPhase_73 {kz : Nat × Nat} {Q : Option zV → zH → Prop} {d : List Nat} {G : Nat → Int → Option Nat} {E : Nat → Int → Int} {t0 : Option Nat} (hX : zK zXt d G) (K : ((E 42 5) = 1 → Z zm_X0_nextPhase kz Q 90 [(0, zR 42), (1, zO t0)] [] (d, G, E)) ∧ (¬ ((E 42 5) = 1) → ((E 42 5) ≠ 3 → Z zm_X0_nextPhase kz Q 95 [(0, zR 42), (1, zO t0)] [zI 0] (d, G, E)) ∧ (¬ ((E 42 5) ≠ 3) → Z zm_X0_nextPhase kz Q 90 [(0, zR 42), (1, zO t0)] [] (d, G, E)))) : Z zm_X0_nextPhase kz Q 73 [(0, zR 42)] [zO t0] (d, G, E) := by
  refine Z.astore_n (ls' := [(1, zO t0), (0, zR 42)]) dX0_nextPhase_73 (by decide) rfl ?_
  refine Z.aload_n (k := 1) dX0_nextPhase_74 rfl ?_
  refine Y.getI 5 dX0_nextPhase_75 zl_X0_23 (rfl) (by decide) rfl (zX_0_11 hX).2.2 ?_
  refine Z.iconst (n := 1) dX0_nextPhase_78 ⟨by decide, by decide⟩ ?_
  refine Z.icmp_eq 90 dX0_nextPhase_79 rfl ⟨fun c_1 => ?_, fun c_1 => ?_⟩
  · replace K := K.1 c_1
    refine Z.pick (ls' := [(0, zR 42), (1, zO t0)]) [1, 0] rfl ?_
    exact K
  · replace K := K.2 c_1
    refine Z.aload_n (k := 1) dX0_nextPhase_82 rfl ?_
    refine Y.getI 5 dX0_nextPhase_83 zl_X0_23 (rfl) (by decide) rfl (zX_0_11 hX).2.2 ?_
    refine Z.iconst (n := 3) dX0_nextPhase_86 ⟨by decide, by decide⟩ ?_
    refine Z.icmp_ne 94 dX0_nextPhase_87 rfl ⟨fun c_2 => ?_, fun c_2 => ?_⟩
    · replace K := K.1 c_2
      refine Z.iconst (n := 0) dX0_nextPhase_94 ⟨by decide, by decide⟩ ?_
      refine Z.pick (ls' := [(0, zR 42), (1, zO t0)]) [1, 0] rfl ?_
      exact K
    · replace K := K.2 c_2
      refine Z.pick (ls' := [(0, zR 42), (1, zO t0)]) [1, 0] rfl ?_
      exact K
set_option maxRecDepth 20000 in
theorem X0_nextPhase_90 {kz : Nat × Nat} {Q : Option zV → zH → Prop} {d : List Nat} {G : Nat → Int → Option Nat} {E : Nat → Int → Int} {o1 : Option Nat} (hX : zK zXt d G) (K : Z zm_X0_nextPhase kz Q 95 [(0, zR 42), (1, zO o1)] [zI 1] (d, G, E)) : Z zm_X0_nextPhase kz Q 90 [(0, zR 42), (1, zO o1)] [] (d, G, E) := by
  refine Z.iconst (n := 1) dX0_nextPhase_90 ⟨by decide, by decide⟩ ?_
  refine Z.goto 95 dX0_nextPhase_91 rfl ?_
  exact K
set_option maxRecDepth 20000 in
theorem X0_nextPhase_95 {kz : Nat × Nat} {Q : Option zV → zH → Prop} {d : List Nat} {G : Nat → Int → Option Nat} {E : Nat → Int → Int} {o1 : Option Nat} {s0 : Int} (hX : zK zXt d G) (K : (o1 = none → Z zm_X0_nextPhase kz Q 120 [(0, zR 42)] [] (d, G, E)) ∧ (¬ (o1 = none) → ∃ b_2, o1 = some b_2 ∧ zCk d G b_2 ∧ ((E b_2 6) ≠ 1 → Z zm_X0_nextPhase kz Q 120 [(0, zR 42)] [] (d, G, E)) ∧ (¬ ((E b_2 6) ≠ 1) → (s0 = 0 → Z zm_X0_nextPhase kz Q 133 [(0, zR 42), (1, zR b_2), (2, zI s0)] [] (d, G, E)) ∧ (¬ (s0 = 0) → (∀ b, (G 42 3) = some b → b ∈ d) ∧ ((some b_2 ≠ (G 42 3) → Z zm_X0_nextPhase kz Q 133 [(0, zR 42), (1, zR b_2), (2, zI s0)] [] (d, G, E)) ∧ (¬ (some b_2 ≠ (G 42 3)) → Z zm_X0_nextPhase kz Q 120 [(0, zR 42)] [] (d, G, E))))))) : Z zm_X0_nextPhase kz Q 95 [(0, zR 42), (1, zO o1)] [zI s0] (d, G, E) := by
  refine Z.istore_n (ls' := [(2, zI s0), (0, zR 42), (1, zO o1)]) dX0_nextPhase_95 (by decide) rfl ?_
  refine Z.aload_n (k := 2) dX0_nextPhase_96 rfl ?_
  refine Z.ifnull 120 dX0_nextPhase_97 rfl ⟨fun c_1 => ?_, fun c_1 => ?_⟩
  · replace K := K.1 c_1
    refine Z.pick (ls' := [(0, zR 42)]) [1] rfl ?_
    exact K
  · replace K := K.2 c_1
    refine Z.aload_n (k := 2) dX0_nextPhase_100 rfl ?_
    obtain ⟨b_2, e_3, hc_4, K⟩ := K
    rw [e_3]
    refine Y.getI 6 dX0_nextPhase_101 zl_X0_83 (congrArg Prod.fst hc_4.1) (by decide) rfl hc_4.2.1 ?_
    refine Z.iconst (n := 1) dX0_nextPhase_104 ⟨by decide, by decide⟩ ?_
    refine Z.icmp_ne 120 dX0_nextPhase_105 rfl ⟨fun c_5 => ?_, fun c_5 => ?_⟩
    · replace K := K.1 c_5
      refine Z.pick (ls' := [(0, zR 42)]) [1] rfl ?_
      exact K
    · replace K := K.2 c_5
      refine Z.iload_n (k := 0) dX0_nextPhase_108 rfl ?_
      refine Z.if_eq 133 dX0_nextPhase_109 rfl ⟨fun c_6 => ?_, fun c_6 => ?_⟩
      · replace K := K.1 c_6
        refine Z.pick (ls' := [(0, zR 42), (1, zR b_2), (2, zI s0)]) [1, 2, 0] rfl ?_
        exact K
      · replace K := K.2 c_6
        refine Z.aload_n (k := 2) dX0_nextPhase_112 rfl ?_
        refine Z.aload_n (k := 1) dX0_nextPhase_113 rfl ?_
        refine Y.getR (o := (G 42 3)) 3 dX0_nextPhase_114 zl_X0_15 (rfl) (by decide) rfl (zX_0_11 hX).2.2 rfl ?_
        obtain ⟨z_7, K⟩ := K
        refine Y.acmp_ne 133 dX0_nextPhase_117 rfl (fun b hb => by cases hb; exact hc_4.2.1) z_7 ⟨fun c_8 => ?_, fun c_8 => ?_⟩
        · replace K := K.1 c_8
          refine Z.pick (ls' := [(0, zR 42), (1, zR b_2), (2, zI s0)]) [1, 2, 0] rfl ?_
          exact K
        · replace K := K.2 c_8
          refine Z.pick (ls' := [(0, zR 42)]) [1] rfl ?_
          exact K
set_option maxRecDepth 20000 in
theorem X0_nextPhase_120 {kz : Nat × Nat} {Q : Option zV → zH → Prop} {d : List Nat} {G : Nat → Int → Option Nat} {E : Nat → Int → Int}  (hX : zK zXt d G) (K : ∀ G_1, G_1 = zuG G 42 6 none → zK zXt d G_1 ∧ ∀ G_3, G_3 = zuG G_1 42 7 none → zK zXt d G_3 ∧ Z zm_X0_nextPhase kz Q 165 [(0, zR 42)] [] (d, G_3, E)) : Z zm_X0_nextPhase kz Q 120 [(0, zR 42)] [] (d, G, E) := by
  refine Z.aload_n (k := 0) dX0_nextPhase_120 rfl ?_
  refine Z.null dX0_nextPhase_121 ?_
  refine Y.putR 6 dX0_nextPhase_122 zw_X0_26 (fun q => by cases q) (rfl) rfl (zX_0_11 hX).2.2 (fun b hb => by cases hb) ?_
  generalize eG_1 : zuG G 42 6 none = G_1
  replace K := K G_1 eG_1.symm
  obtain ⟨hX_2, K⟩ := K
  refine Z.aload_n (k := 0) dX0_nextPhase_125 rfl ?_
  refine Z.null dX0_nextPhase_126 ?_
  refine Y.putR 7 dX0_nextPhase_127 zw_X0_29 (fun q => by cases q) (rfl) rfl (zX_0_11 hX_2).2.2 (fun b hb => by cases hb) ?_
  generalize eG_3 : zuG G_1 42 7 none = G_3
  replace K := K G_3 eG_3.symm
  obtain ⟨hX_4, K⟩ := K
  refine Z.goto 165 dX0_nextPhase_130 rfl ?_
  exact K
set_option maxRecDepth 20000 in
theorem X0_nextPhase_133 {kz : Nat × Nat} {Q : Option zV → zH → Prop} {d : List Nat} {G : Nat → Int → Option Nat} {E : Nat → Int → Int} {o1 : Option Nat} {v2 : Int} (hX : zK zXt d G) (K : (v2 = 0 → (∀ b, (G 42 3) = some b → b ∈ d) ∧ ∀ G_3, G_3 = zuG G 42 6 ((G 42 3)) → zK zXt d G_3 ∧ (v2 = 0 → (∀ b, o1 = some b → b ∈ d) ∧ ∀ G_7, G_7 = zuG G_3 42 7 o1 → zK zXt d G_7 ∧ Z zm_X0_nextPhase kz Q 165 [(0, zR 42)] [] (d, G_7, E)) ∧ (¬ (v2 = 0) → (∀ b, (G_3 42 3) = some b → b ∈ d) ∧ ∀ G_10, G_10 = zuG G_3 42 7 ((G_3 42 3)) → zK zXt d G_10 ∧ Z zm_X0_nextPhase kz Q 165 [(0, zR 42)] [] (d, G_10, E))) ∧ (¬ (v2 = 0) → (∀ b, o1 = some b → b ∈ d) ∧ ∀ G_13, G_13 = zuG G 42 6 o1 → zK zXt d G_13 ∧ (v2 = 0 → (∀ b, o1 = some b → b ∈ d) ∧ ∀ G_17, G_17 = zuG G_13 42 7 o1 → zK zXt d G_17 ∧ Z zm_X0_nextPhase kz Q 165 [(0, zR 42)] [] (d, G_17, E)) ∧ (¬ (v2 = 0) → (∀ b, (G_13 42 3) = some b → b ∈ d) ∧ ∀ G_20, G_20 = zuG G_13 42 7 ((G_13 42 3)) → zK zXt d G_20 ∧ Z zm_X0_nextPhase kz Q 165 [(0, zR 42)] [] (d, G_20, E)))) : Z zm_X0_nextPhase kz Q 133 [(0, zR 42), (1, zO o1), (2, zI v2)] [] (d, G, E) := by
  refine Z.aload_n (k := 0) dX0_nextPhase_133 rfl ?_
  refine Z.iload_n (k := 2) dX0_nextPhase_134 rfl ?_
  refine Z.if_eq 142 dX0_nextPhase_135 rfl ⟨fun c_1 => ?_, fun c_1 => ?_⟩
  · replace K := K.1 c_1
    refine Z.aload_n (k := 0) dX0_nextPhase_142 rfl ?_
    refine Y.getR (o := (G 42 3)) 3 dX0_nextPhase_143 zl_X0_15 (rfl) (by decide) rfl (zX_0_11 hX).2.2 rfl ?_
    obtain ⟨z_2, K⟩ := K
    refine Y.putR 6 dX0_nextPhase_146 zw_X0_26 (fun q => by cases q) (rfl) rfl (zX_0_11 hX).2.2 z_2 ?_
    generalize eG_3 : zuG G 42 6 ((G 42 3)) = G_3
    replace K := K G_3 eG_3.symm
    obtain ⟨hX_4, K⟩ := K
    refine Z.aload_n (k := 0) dX0_nextPhase_149 rfl ?_
    refine Z.iload_n (k := 2) dX0_nextPhase_150 rfl ?_
    refine Z.if_eq 161 dX0_nextPhase_151 rfl ⟨fun c_5 => ?_, fun c_5 => ?_⟩
    · replace K := K.1 c_5
      refine Z.aload_n (k := 1) dX0_nextPhase_161 rfl ?_
      obtain ⟨z_6, K⟩ := K
      refine Y.putR 7 dX0_nextPhase_162 zw_X0_29 (fun q => by cases q) (rfl) rfl (zX_0_11 hX_4).2.2 z_6 ?_
      generalize eG_7 : zuG G_3 42 7 o1 = G_7
      replace K := K G_7 eG_7.symm
      obtain ⟨hX_8, K⟩ := K
      refine Z.pick (ls' := [(0, zR 42)]) [0] rfl ?_
      exact K
    · replace K := K.2 c_5
      refine Z.aload_n (k := 0) dX0_nextPhase_154 rfl ?_
      refine Y.getR (o := (G_3 42 3)) 3 dX0_nextPhase_155 zl_X0_15 (rfl) (by decide) rfl (zX_0_11 hX_4).2.2 rfl ?_
      refine Z.goto 162 dX0_nextPhase_158 rfl ?_
      obtain ⟨z_9, K⟩ := K
      refine Y.putR 7 dX0_nextPhase_162 zw_X0_29 (fun q => by cases q) (rfl) rfl (zX_0_11 hX_4).2.2 z_9 ?_
      generalize eG_10 : zuG G_3 42 7 ((G_3 42 3)) = G_10
      replace K := K G_10 eG_10.symm
      obtain ⟨hX_11, K⟩ := K
      refine Z.pick (ls' := [(0, zR 42)]) [0] rfl ?_
      exact K
  · replace K := K.2 c_1
    refine Z.aload_n (k := 1) dX0_nextPhase_138 rfl ?_
    refine Z.goto 146 dX0_nextPhase_139 rfl ?_
    obtain ⟨z_12, K⟩ := K
    refine Y.putR 6 dX0_nextPhase_146 zw_X0_26 (fun q => by cases q) (rfl) rfl (zX_0_11 hX).2.2 z_12 ?_
    generalize eG_13 : zuG G 42 6 o1 = G_13
    replace K := K G_13 eG_13.symm
    obtain ⟨hX_14, K⟩ := K
    refine Z.aload_n (k := 0) dX0_nextPhase_149 rfl ?_
    refine Z.iload_n (k := 2) dX0_nextPhase_150 rfl ?_
    refine Z.if_eq 161 dX0_nextPhase_151 rfl ⟨fun c_15 => ?_, fun c_15 => ?_⟩
    · replace K := K.1 c_15
      refine Z.aload_n (k := 1) dX0_nextPhase_161 rfl ?_
      obtain ⟨z_16, K⟩ := K
      refine Y.putR 7 dX0_nextPhase_162 zw_X0_29 (fun q => by cases q) (rfl) rfl (zX_0_11 hX_14).2.2 z_16 ?_
      generalize eG_17 : zuG G_13 42 7 o1 = G_17
      replace K := K G_17 eG_17.symm
      obtain ⟨hX_18, K⟩ := K
      refine Z.pick (ls' := [(0, zR 42)]) [0] rfl ?_
      exact K
    · replace K := K.2 c_15
      refine Z.aload_n (k := 0) dX0_nextPhase_154 rfl ?_
      refine Y.getR (o := (G_13 42 3)) 3 dX0_nextPhase_155 zl_X0_15 (rfl) (by decide) rfl (zX_0_11 hX_14).2.2 rfl ?_
      refine Z.goto 162 dX0_nextPhase_158 rfl ?_
      obtain ⟨z_19, K⟩ := K
      refine Y.putR 7 dX0_nextPhase_162 zw_X0_29 (fun q => by cases q) (rfl) rfl (zX_0_11 hX_14).2.2 z_19 ?_
      generalize eG_20 : zuG G_13 42 7 ((G_13 42 3)) = G_20
      replace K := K G_20 eG_20.symm
      obtain ⟨hX_21, K⟩ := K
      refine Z.pick (ls' := [(0, zR 42)]) [0] rfl ?_
      exact K
set_option maxRecDepth 20000 in
theorem X0_nextPhase_165 {kz : Nat × Nat} {Q : Option zV → zH → Prop} {d : List Nat} {G : Nat → Int → Option Nat} {E : Nat → Int → Int}  (hX : zK zXt d G) (K : ((E 42 5) = 0 → Z zm_X0_nextPhase kz Q 181 [(0, zR 42)] [zR 42] (d, G, E)) ∧ (¬ ((E 42 5) = 0) → ((E 42 5) ≠ 1 → ∀ E_3, E_3 = zuE E 42 8 0 → ∀ E_4, E_4 = zuE E_3 42 9 0 → ((E_4 42 5) = 4 → ∀ E_6, E_6 = zuE E_4 42 10 0 → ∀ E_7, E_7 = zuE E_6 42 11 0 → Q none (d, G, E_7)) ∧ (¬ ((E_4 42 5) = 4) → ((G 42 7) = none → ∀ E_9, E_9 = zuE E_4 42 10 0 → ∀ E_10, E_10 = zuE E_9 42 11 0 → Q none (d, G, E_10)) ∧ (¬ ((G 42 7) = none) → ∃ b_11, (G 42 7) = some b_11 ∧ zCk d G b_11 ∧ ∃ x_14, zM zm_X1_isPositive [zR b_11] (d, G, E_4) (some (zI x_14)) (d, G, E_4) ∧ (x_14 = 0 → ∃ b_18, (G 42 7) = some b_18 ∧ zCk d G b_18 ∧ ∀ E_21, E_21 = zuE E_4 42 10 ((E_4 b_18 9)) → ∀ E_22, E_22 = zuE E_21 42 11 0 → Q none (d, G, E_22)) ∧ (¬ (x_14 = 0) → ∀ E_23, E_23 = zuE E_4 42 10 0 → ∀ E_24, E_24 = zuE E_23 42 11 0 → Q none (d, G, E_24))))) ∧ (¬ ((E 42 5) ≠ 1) → Z zm_X0_nextPhase kz Q 181 [(0, zR 42)] [zR 42] (d, G, E)))) : Z zm_X0_nextPhase kz Q 165 [(0, zR 42)] [] (d, G, E) := by
  refine Z.aload_n (k := 0) dX0_nextPhase_165 rfl ?_
  refine Z.aload_n (k := 0) dX0_nextPhase_166 rfl ?_
  refine Y.getI 5 dX0_nextPhase_167 zl_X0_23 (rfl) (by decide) rfl (zX_0_11 hX).2.2 ?_
  refine Z.if_eq 181 dX0_nextPhase_170 rfl ⟨fun c_1 => ?_, fun c_1 => ?_⟩
  · replace K := K.1 c_1
    exact K
  · replace K := K.2 c_1
    refine Z.aload_n (k := 0) dX0_nextPhase_173 rfl ?_
    refine Y.getI 5 dX0_nextPhase_174 zl_X0_23 (rfl) (by decide) rfl (zX_0_11 hX).2.2 ?_
    refine Z.iconst (n := 1) dX0_nextPhase_177 ⟨by decide, by decide⟩ ?_
    refine Z.icmp_ne 185 dX0_nextPhase_178 rfl ⟨fun c_2 => ?_, fun c_2 => ?_⟩
    · replace K := K.1 c_2
      refine Z.iconst (n := 0) dX0_nextPhase_185 ⟨by decide, by decide⟩ ?_
      refine Y.putI 8 dX0_nextPhase_186 zw_X0_32 (fun q => by cases q) (rfl) rfl (zX_0_11 hX).2.2 (Or.inl rfl) ?_
      generalize eE_3 : zuE E 42 8 0 = E_3
      replace K := K E_3 eE_3.symm
      refine Z.aload_n (k := 0) dX0_nextPhase_189 rfl ?_
      refine Z.iconst (n := 0) dX0_nextPhase_190 ⟨by decide, by decide⟩ ?_
      refine Y.putI 9 dX0_nextPhase_191 zw_X0_35 (fun q => by cases q) (rfl) rfl (zX_0_11 hX).2.2 (Or.inl rfl) ?_
      generalize eE_4 : zuE E_3 42 9 0 = E_4
      replace K := K E_4 eE_4.symm
      refine Z.aload_n (k := 0) dX0_nextPhase_194 rfl ?_
      refine Z.aload_n (k := 0) dX0_nextPhase_195 rfl ?_
      refine Y.getI 5 dX0_nextPhase_196 zl_X0_23 (rfl) (by decide) rfl (zX_0_11 hX).2.2 ?_
      refine Z.iconst (n := 4) dX0_nextPhase_199 ⟨by decide, by decide⟩ ?_
      refine Z.icmp_eq 220 dX0_nextPhase_200 rfl ⟨fun c_5 => ?_, fun c_5 => ?_⟩
      · replace K := K.1 c_5
        refine Z.iconst (n := 0) dX0_nextPhase_220 ⟨by decide, by decide⟩ ?_
        refine Z.goto 231 dX0_nextPhase_221 rfl ?_
        refine Y.putI 10 dX0_nextPhase_231 zw_X0_38 (fun q => by cases q) (rfl) rfl (zX_0_11 hX).2.2 (Or.inl rfl) ?_
        generalize eE_6 : zuE E_4 42 10 0 = E_6
        replace K := K E_6 eE_6.symm
        refine Z.aload_n (k := 0) dX0_nextPhase_234 rfl ?_
        refine Z.iconst (n := 0) dX0_nextPhase_235 ⟨by decide, by decide⟩ ?_
        refine Y.putI 11 dX0_nextPhase_236 zw_X0_41 (fun q => by cases q) (rfl) rfl (zX_0_11 hX).2.2 (Or.inl rfl) ?_
        generalize eE_7 : zuE E_6 42 11 0 = E_7
        replace K := K E_7 eE_7.symm
        exact Z.vret dX0_nextPhase_239 rfl K
      · replace K := K.2 c_5
        refine Z.aload_n (k := 0) dX0_nextPhase_203 rfl ?_
        refine Y.getR (o := (G 42 7)) 7 dX0_nextPhase_204 zl_X0_29 (rfl) (by decide) rfl (zX_0_11 hX).2.2 rfl ?_
        refine Z.ifnull 220 dX0_nextPhase_207 rfl ⟨fun c_8 => ?_, fun c_8 => ?_⟩
        · replace K := K.1 c_8
          refine Z.iconst (n := 0) dX0_nextPhase_220 ⟨by decide, by decide⟩ ?_
          refine Z.goto 231 dX0_nextPhase_221 rfl ?_
          refine Y.putI 10 dX0_nextPhase_231 zw_X0_38 (fun q => by cases q) (rfl) rfl (zX_0_11 hX).2.2 (Or.inl rfl) ?_
          generalize eE_9 : zuE E_4 42 10 0 = E_9
          replace K := K E_9 eE_9.symm
          refine Z.aload_n (k := 0) dX0_nextPhase_234 rfl ?_
          refine Z.iconst (n := 0) dX0_nextPhase_235 ⟨by decide, by decide⟩ ?_
          refine Y.putI 11 dX0_nextPhase_236 zw_X0_41 (fun q => by cases q) (rfl) rfl (zX_0_11 hX).2.2 (Or.inl rfl) ?_
          generalize eE_10 : zuE E_9 42 11 0 = E_10
          replace K := K E_10 eE_10.symm
          exact Z.vret dX0_nextPhase_239 rfl K
        · replace K := K.2 c_8
          refine Z.aload_n (k := 0) dX0_nextPhase_210 rfl ?_
          refine Y.getR (o := (G 42 7)) 7 dX0_nextPhase_211 zl_X0_29 (rfl) (by decide) rfl (zX_0_11 hX).2.2 rfl ?_
          obtain ⟨b_11, e_12, hc_13, K⟩ := K
          rw [e_12]
          obtain ⟨x_14, m_15, K⟩ := K
          refine Y.callV (g := zm_X1_isPositive) (vs := []) (st := [zR 42]) dX0_nextPhase_214 ⟨zg_X1_isPositive.1, zg_X1_isPositive.2.1, zg_X1_isPositive.2.2, by decide⟩ ⟨zk_X0_86, zv_X1_isPositive⟩ (ci := 1) (congrArg Prod.fst hc_13.1) rfl (hc_13.2.1) rfl rfl (Nat.le_of_ble_eq_true rfl) m_15 (Or.inl rfl) ?_
          show Z zm_X0_nextPhase kz Q 217 [(0, zR 42)] [zI x_14, zR 42] (d, G, E_4)
          refine Z.if_eq 224 dX0_nextPhase_217 rfl ⟨fun c_17 => ?_, fun c_17 => ?_⟩
          · replace K := K.1 c_17
            refine Z.aload_n (k := 0) dX0_nextPhase_224 rfl ?_
            refine Y.getR (o := (G 42 7)) 7 dX0_nextPhase_225 zl_X0_29 (rfl) (by decide) rfl (zX_0_11 hX).2.2 rfl ?_
            obtain ⟨b_18, e_19, hc_20, K⟩ := K
            rw [e_19]
            refine Y.getI 9 dX0_nextPhase_228 zl_X0_89 (congrArg Prod.fst hc_20.1) (by decide) rfl hc_20.2.1 ?_
            refine Y.putI 10 dX0_nextPhase_231 zw_X0_38 (fun q => by cases q) (rfl) rfl (zX_0_11 hX).2.2 (Or.inl rfl) ?_
            generalize eE_21 : zuE E_4 42 10 ((E_4 b_18 9)) = E_21
            replace K := K E_21 eE_21.symm
            refine Z.aload_n (k := 0) dX0_nextPhase_234 rfl ?_
            refine Z.iconst (n := 0) dX0_nextPhase_235 ⟨by decide, by decide⟩ ?_
            refine Y.putI 11 dX0_nextPhase_236 zw_X0_41 (fun q => by cases q) (rfl) rfl (zX_0_11 hX).2.2 (Or.inl rfl) ?_
            generalize eE_22 : zuE E_21 42 11 0 = E_22
            replace K := K E_22 eE_22.symm
            exact Z.vret dX0_nextPhase_239 rfl K
          · replace K := K.2 c_17
            refine Z.iconst (n := 0) dX0_nextPhase_220 ⟨by decide, by decide⟩ ?_
            refine Z.goto 231 dX0_nextPhase_221 rfl ?_
            refine Y.putI 10 dX0_nextPhase_231 zw_X0_38 (fun q => by cases q) (rfl) rfl (zX_0_11 hX).2.2 (Or.inl rfl) ?_
            generalize eE_23 : zuE E_4 42 10 0 = E_23
            replace K := K E_23 eE_23.symm
            refine Z.aload_n (k := 0) dX0_nextPhase_234 rfl ?_
            refine Z.iconst (n := 0) dX0_nextPhase_235 ⟨by decide, by decide⟩ ?_
            refine Y.putI 11 dX0_nextPhase_236 zw_X0_41 (fun q => by cases q) (rfl) rfl (zX_0_11 hX).2.2 (Or.inl rfl) ?_
            generalize eE_24 : zuE E_23 42 11 0 = E_24
            replace K := K E_24 eE_24.symm
            exact Z.vret dX0_nextPhase_239 rfl K
    · replace K := K.2 c_2
      exact K
set_option maxRecDepth 20000 in
theorem X0_nextPhase_181 {kz : Nat × Nat} {Q : Option zV → zH → Prop} {d : List Nat} {G : Nat → Int → Option Nat} {E : Nat → Int → Int}  (hX : zK zXt d G) (K : ∀ E_1, E_1 = zuE E 42 8 ((-1)) → ∀ E_2, E_2 = zuE E_1 42 9 0 → ((E_2 42 5) = 4 → ∀ E_4, E_4 = zuE E_2 42 10 0 → ∀ E_5, E_5 = zuE E_4 42 11 0 → Q none (d, G, E_5)) ∧ (¬ ((E_2 42 5) = 4) → ((G 42 7) = none → ∀ E_7, E_7 = zuE E_2 42 10 0 → ∀ E_8, E_8 = zuE E_7 42 11 0 → Q none (d, G, E_8)) ∧ (¬ ((G 42 7) = none) → ∃ b_9, (G 42 7) = some b_9 ∧ zCk d G b_9 ∧ ∃ x_12, zM zm_X1_isPositive [zR b_9] (d, G, E_2) (some (zI x_12)) (d, G, E_2) ∧ (x_12 = 0 → ∃ b_16, (G 42 7) = some b_16 ∧ zCk d G b_16 ∧ ∀ E_19, E_19 = zuE E_2 42 10 ((E_2 b_16 9)) → ∀ E_20, E_20 = zuE E_19 42 11 0 → Q none (d, G, E_20)) ∧ (¬ (x_12 = 0) → ∀ E_21, E_21 = zuE E_2 42 10 0 → ∀ E_22, E_22 = zuE E_21 42 11 0 → Q none (d, G, E_22))))) : Z zm_X0_nextPhase kz Q 181 [(0, zR 42)] [zR 42] (d, G, E) := by
  refine Z.iconst (n := -1) dX0_nextPhase_181 ⟨by decide, by decide⟩ ?_
  refine Z.goto 186 dX0_nextPhase_182 rfl ?_
  refine Y.putI 8 dX0_nextPhase_186 zw_X0_32 (fun q => by cases q) (rfl) rfl (zX_0_11 hX).2.2 (Or.inl rfl) ?_
  generalize eE_1 : zuE E 42 8 ((-1)) = E_1
  replace K := K E_1 eE_1.symm
  refine Z.aload_n (k := 0) dX0_nextPhase_189 rfl ?_
  refine Z.iconst (n := 0) dX0_nextPhase_190 ⟨by decide, by decide⟩ ?_
  refine Y.putI 9 dX0_nextPhase_191 zw_X0_35 (fun q => by cases q) (rfl) rfl (zX_0_11 hX).2.2 (Or.inl rfl) ?_
  generalize eE_2 : zuE E_1 42 9 0 = E_2
  replace K := K E_2 eE_2.symm
  refine Z.aload_n (k := 0) dX0_nextPhase_194 rfl ?_
  refine Z.aload_n (k := 0) dX0_nextPhase_195 rfl ?_
  refine Y.getI 5 dX0_nextPhase_196 zl_X0_23 (rfl) (by decide) rfl (zX_0_11 hX).2.2 ?_
  refine Z.iconst (n := 4) dX0_nextPhase_199 ⟨by decide, by decide⟩ ?_
  refine Z.icmp_eq 220 dX0_nextPhase_200 rfl ⟨fun c_3 => ?_, fun c_3 => ?_⟩
  · replace K := K.1 c_3
    refine Z.iconst (n := 0) dX0_nextPhase_220 ⟨by decide, by decide⟩ ?_
    refine Z.goto 231 dX0_nextPhase_221 rfl ?_
    refine Y.putI 10 dX0_nextPhase_231 zw_X0_38 (fun q => by cases q) (rfl) rfl (zX_0_11 hX).2.2 (Or.inl rfl) ?_
    generalize eE_4 : zuE E_2 42 10 0 = E_4
    replace K := K E_4 eE_4.symm
    refine Z.aload_n (k := 0) dX0_nextPhase_234 rfl ?_
    refine Z.iconst (n := 0) dX0_nextPhase_235 ⟨by decide, by decide⟩ ?_
    refine Y.putI 11 dX0_nextPhase_236 zw_X0_41 (fun q => by cases q) (rfl) rfl (zX_0_11 hX).2.2 (Or.inl rfl) ?_
    generalize eE_5 : zuE E_4 42 11 0 = E_5
    replace K := K E_5 eE_5.symm
    exact Z.vret dX0_nextPhase_239 rfl K
  · replace K := K.2 c_3
    refine Z.aload_n (k := 0) dX0_nextPhase_203 rfl ?_
    refine Y.getR (o := (G 42 7)) 7 dX0_nextPhase_204 zl_X0_29 (rfl) (by decide) rfl (zX_0_11 hX).2.2 rfl ?_
    refine Z.ifnull 220 dX0_nextPhase_207 rfl ⟨fun c_6 => ?_, fun c_6 => ?_⟩
    · replace K := K.1 c_6
      refine Z.iconst (n := 0) dX0_nextPhase_220 ⟨by decide, by decide⟩ ?_
      refine Z.goto 231 dX0_nextPhase_221 rfl ?_
      refine Y.putI 10 dX0_nextPhase_231 zw_X0_38 (fun q => by cases q) (rfl) rfl (zX_0_11 hX).2.2 (Or.inl rfl) ?_
      generalize eE_7 : zuE E_2 42 10 0 = E_7
      replace K := K E_7 eE_7.symm
      refine Z.aload_n (k := 0) dX0_nextPhase_234 rfl ?_
      refine Z.iconst (n := 0) dX0_nextPhase_235 ⟨by decide, by decide⟩ ?_
      refine Y.putI 11 dX0_nextPhase_236 zw_X0_41 (fun q => by cases q) (rfl) rfl (zX_0_11 hX).2.2 (Or.inl rfl) ?_
      generalize eE_8 : zuE E_7 42 11 0 = E_8
      replace K := K E_8 eE_8.symm
      exact Z.vret dX0_nextPhase_239 rfl K
    · replace K := K.2 c_6
      refine Z.aload_n (k := 0) dX0_nextPhase_210 rfl ?_
      refine Y.getR (o := (G 42 7)) 7 dX0_nextPhase_211 zl_X0_29 (rfl) (by decide) rfl (zX_0_11 hX).2.2 rfl ?_
      obtain ⟨b_9, e_10, hc_11, K⟩ := K
      rw [e_10]
      obtain ⟨x_12, m_13, K⟩ := K
      refine Y.callV (g := zm_X1_isPositive) (vs := []) (st := [zR 42]) dX0_nextPhase_214 ⟨zg_X1_isPositive.1, zg_X1_isPositive.2.1, zg_X1_isPositive.2.2, by decide⟩ ⟨zk_X0_86, zv_X1_isPositive⟩ (ci := 1) (congrArg Prod.fst hc_11.1) rfl (hc_11.2.1) rfl rfl (Nat.le_of_ble_eq_true rfl) m_13 (Or.inl rfl) ?_
      show Z zm_X0_nextPhase kz Q 217 [(0, zR 42)] [zI x_12, zR 42] (d, G, E_2)
      refine Z.if_eq 224 dX0_nextPhase_217 rfl ⟨fun c_15 => ?_, fun c_15 => ?_⟩
      · replace K := K.1 c_15
        refine Z.aload_n (k := 0) dX0_nextPhase_224 rfl ?_
        refine Y.getR (o := (G 42 7)) 7 dX0_nextPhase_225 zl_X0_29 (rfl) (by decide) rfl (zX_0_11 hX).2.2 rfl ?_
        obtain ⟨b_16, e_17, hc_18, K⟩ := K
        rw [e_17]
        refine Y.getI 9 dX0_nextPhase_228 zl_X0_89 (congrArg Prod.fst hc_18.1) (by decide) rfl hc_18.2.1 ?_
        refine Y.putI 10 dX0_nextPhase_231 zw_X0_38 (fun q => by cases q) (rfl) rfl (zX_0_11 hX).2.2 (Or.inl rfl) ?_
        generalize eE_19 : zuE E_2 42 10 ((E_2 b_16 9)) = E_19
        replace K := K E_19 eE_19.symm
        refine Z.aload_n (k := 0) dX0_nextPhase_234 rfl ?_
        refine Z.iconst (n := 0) dX0_nextPhase_235 ⟨by decide, by decide⟩ ?_
        refine Y.putI 11 dX0_nextPhase_236 zw_X0_41 (fun q => by cases q) (rfl) rfl (zX_0_11 hX).2.2 (Or.inl rfl) ?_
        generalize eE_20 : zuE E_19 42 11 0 = E_20
        replace K := K E_20 eE_20.symm
        exact Z.vret dX0_nextPhase_239 rfl K
      · replace K := K.2 c_15
        refine Z.iconst (n := 0) dX0_nextPhase_220 ⟨by decide, by decide⟩ ?_
        refine Z.goto 231 dX0_nextPhase_221 rfl ?_
        refine Y.putI 10 dX0_nextPhase_231 zw_X0_38 (fun q => by cases q) (rfl) rfl (zX_0_11 hX).2.2 (Or.inl rfl) ?_
        generalize eE_21 : zuE E_2 42 10 0 = E_21
        replace K := K E_21 eE_21.symm
        refine Z.aload_n (k := 0) dX0_nextPhase_234 rfl ?_
        refine Z.iconst (n := 0) dX0_nextPhase_235 ⟨by decide, by decide⟩ ?_
        refine Y.putI 11 dX0_nextPhase_236 zw_X0_41 (fun q => by cases q) (rfl) rfl (zX_0_11 hX).2.2 (Or.inl rfl) ?_
        generalize eE_22 : zuE E_21 42 11 0 = E_22
        replace K := K E_22 eE_22.symm
        exact Z.vret dX0_nextPhase_239 rfl K
set_option maxRecDepth 20000 in
theorem X0_next_0 {kz : Nat × Nat} {Q : Option zV → zH → Prop} {d : List Nat} {G : Nat → Int → Option Nat} {E : Nat → Int → Int}  (hX : zK zXt d G) (K : Z zm_X0_next kz Q 2 [(0, zR 42), (1, zI 0)] [] (d, G, E)) : Z zm_X0_next kz Q 0 [(0, zR 42)] [] (d, G, E) := by
  refine Z.iconst (n := 0) dX0_next_0 ⟨by decide, by decide⟩ ?_
  refine Z.istore_n (ls' := [(1, zI 0), (0, zR 42)]) dX0_next_1 (by decide) rfl ?_
  refine Z.pick (ls' := [(0, zR 42), (1, zI 0)]) [1, 0] rfl ?_
  exact K
set_option maxRecDepth 20000 in
theorem X0_next_2 {kz : Nat × Nat} {Q : Option zV → zH → Prop} {d : List Nat} {G : Nat → Int → Option Nat} {E : Nat → Int → Int} {v1 : Int} (hX : zK zXt d G) (K : ((1000000) ≤ v1 → Q (some (zI 0)) (d, G, E)) ∧ (¬ ((1000000) ≤ v1) → ((G 42 3) = none → Q (some (zI 0)) (d, G, E)) ∧ (¬ ((G 42 3) = none) → ∃ b_3, (G 42 3) = some b_3 ∧ zCk d G b_3 ∧ ∃ x_6, zM zm_X1_isThere [zR b_3] (d, G, E) (some (zI x_6)) (d, G, E) ∧ (x_6 = 0 → Q (some (zI 0)) (d, G, E)) ∧ (¬ (x_6 = 0) → ((E 42 5) ≠ 6 → ((G 42 6) = none → ∃ G_12 E_13, zM zm_X0_nextPhase [zR 42] (d, G, E) none (d, G_12, E_13) ∧ zK zXt d G_12 ∧ zin (v1 + 1) ∧ Z zm_X0_next kz Q 2 [(0, zR 42), (1, zI ((v1 + 1)))] [] (d, G_12, E_13)) ∧ (¬ ((G 42 6) = none) → ((G 42 7) = none → ∃ G_19 E_20, zM zm_X0_nextPhase [zR 42] (d, G, E) none (d, G_19, E_20) ∧ zK zXt d G_19 ∧ zin (v1 + 1) ∧ Z zm_X0_next kz Q 2 [(0, zR 42), (1, zI ((v1 + 1)))] [] (d, G_19, E_20)) ∧ (¬ ((G 42 7) = none) → ∃ b_25, (G 42 6) = some b_25 ∧ zCk d G b_25 ∧ ∃ x_28, zM zm_X1_isThere [zR b_25] (d, G, E) (some (zI x_28)) (d, G, E) ∧ (x_28 = 0 → ∃ G_32 E_33, zM zm_X0_nextPhase [zR 42] (d, G, E) none (d, G_32, E_33) ∧ zK zXt d G_32 ∧ zin (v1 + 1) ∧ Z zm_X0_next kz Q 2 [(0, zR 42), (1, zI ((v1 + 1)))] [] (d, G_32, E_33)) ∧ (¬ (x_28 = 0) → ∃ b_38, (G 42 7) = some b_38 ∧ zCk d G b_38 ∧ ∃ x_41, zM zm_X1_isThere [zR b_38] (d, G, E) (some (zI x_41)) (d, G, E) ∧ (x_41 = 0 → ∃ G_45 E_46, zM zm_X0_nextPhase [zR 42] (d, G, E) none (d, G_45, E_46) ∧ zK zXt d G_45 ∧ zin (v1 + 1) ∧ Z zm_X0_next kz Q 2 [(0, zR 42), (1, zI ((v1 + 1)))] [] (d, G_45, E_46)) ∧ (¬ (x_41 = 0) → ∃ x_51 E_52, zM zm_X0_advance [zR 42] (d, G, E) (some (zI x_51)) (d, G, E_52) ∧ (x_51 = 0 → ∃ G_56 E_57, zM zm_X0_nextPhase [zR 42] (d, G, E_52) none (d, G_56, E_57) ∧ zK zXt d G_56 ∧ zin (v1 + 1) ∧ Z zm_X0_next kz Q 2 [(0, zR 42), (1, zI ((v1 + 1)))] [] (d, G_56, E_57)) ∧ (¬ (x_51 = 0) → ∃ E_62, zM zm_X0_tell [zR 42] (d, G, E_52) none (d, G, E_62) ∧ Q (some (zI 1)) (d, G, E_62))))))) ∧ (¬ ((E 42 5) ≠ 6) → Q (some (zI 0)) (d, G, E)))))) : Z zm_X0_next kz Q 2 [(0, zR 42), (1, zI v1)] [] (d, G, E) := by
  refine Z.iload_n (k := 1) dX0_next_2 rfl ?_
  refine Z.ldc (n := 1000000) dX0_next_3 ⟨by decide, by decide⟩ zq_X0_58 ?_
  refine Z.icmp_ge 93 dX0_next_5 rfl ⟨fun c_1 => ?_, fun c_1 => ?_⟩
  · replace K := K.1 c_1
    refine Z.iconst (n := 0) dX0_next_93 ⟨by decide, by decide⟩ ?_
    exact Z.iret (ty := .boolean) dX0_next_94 rfl rfl K
  · replace K := K.2 c_1
    refine Z.aload_n (k := 0) dX0_next_8 rfl ?_
    refine Y.getR (o := (G 42 3)) 3 dX0_next_9 zl_X0_15 (rfl) (by decide) rfl (zX_0_11 hX).2.2 rfl ?_
    refine Z.ifnull 34 dX0_next_12 rfl ⟨fun c_2 => ?_, fun c_2 => ?_⟩
    · replace K := K.1 c_2
      refine Z.iconst (n := 0) dX0_next_34 ⟨by decide, by decide⟩ ?_
      exact Z.iret (ty := .boolean) dX0_next_35 rfl rfl K
    · replace K := K.2 c_2
      refine Z.aload_n (k := 0) dX0_next_15 rfl ?_
      refine Y.getR (o := (G 42 3)) 3 dX0_next_16 zl_X0_15 (rfl) (by decide) rfl (zX_0_11 hX).2.2 rfl ?_
      obtain ⟨b_3, e_4, hc_5, K⟩ := K
      rw [e_4]
      obtain ⟨x_6, m_7, K⟩ := K
      refine Y.callV (g := zm_X1_isThere) (vs := []) (st := []) dX0_next_19 ⟨zg_X1_isThere.1, zg_X1_isThere.2.1, zg_X1_isThere.2.2, by decide⟩ ⟨zk_X0_59, zv_X1_isThere⟩ (ci := 1) (congrArg Prod.fst hc_5.1) rfl (hc_5.2.1) rfl rfl (Nat.le_of_ble_eq_true rfl) m_7 (Or.inl rfl) ?_
      show Z zm_X0_next kz Q 22 [(0, zR 42), (1, zI v1)] [zI x_6] (d, G, E)
      refine Z.if_eq 34 dX0_next_22 rfl ⟨fun c_9 => ?_, fun c_9 => ?_⟩
      · replace K := K.1 c_9
        refine Z.iconst (n := 0) dX0_next_34 ⟨by decide, by decide⟩ ?_
        exact Z.iret (ty := .boolean) dX0_next_35 rfl rfl K
      · replace K := K.2 c_9
        refine Z.aload_n (k := 0) dX0_next_25 rfl ?_
        refine Y.getI 5 dX0_next_26 zl_X0_23 (rfl) (by decide) rfl (zX_0_11 hX).2.2 ?_
        refine Z.bipush (n := 6) dX0_next_29 ⟨by decide, by decide⟩ (by decide) ?_
        refine Z.icmp_ne 36 dX0_next_31 rfl ⟨fun c_10 => ?_, fun c_10 => ?_⟩
        · replace K := K.1 c_10
          refine Z.aload_n (k := 0) dX0_next_36 rfl ?_
          refine Y.getR (o := (G 42 6)) 6 dX0_next_37 zl_X0_26 (rfl) (by decide) rfl (zX_0_11 hX).2.2 rfl ?_
          refine Z.ifnull 83 dX0_next_40 rfl ⟨fun c_11 => ?_, fun c_11 => ?_⟩
          · replace K := K.1 c_11
            refine Z.aload_n (k := 0) dX0_next_83 rfl ?_
            obtain ⟨G_12, E_13, m_14, K⟩ := K
            refine Y.callV (g := zm_X0_nextPhase) (vs := []) (st := []) dX0_next_84 ⟨zg_X0_nextPhase.1, zg_X0_nextPhase.2.1, zg_X0_nextPhase.2.2, by decide⟩ ⟨zk_X0_71, zv_X0_nextPhase⟩ (ci := 0) (rfl) rfl ((zX_0_11 hX).2.2) rfl rfl (Nat.le_of_ble_eq_true rfl) m_14 (Or.inl rfl) ?_
            show Z zm_X0_next kz Q 87 [(0, zR 42), (1, zI v1)] [] (d, G_12, E_13)
            obtain ⟨hX_16, K⟩ := K
            obtain ⟨z_17, K⟩ := K
            refine Z.iinc (k := 1) (ls' := [(1, zI ((v1 + 1))), (0, zR 42)]) dX0_next_87 rfl (by decide) z_17 rfl ?_
            refine Z.goto 2 dX0_next_90 rfl ?_
            refine Z.pick (ls' := [(0, zR 42), (1, zI ((v1 + 1)))]) [1, 0] rfl ?_
            exact K
          · replace K := K.2 c_11
            refine Z.aload_n (k := 0) dX0_next_43 rfl ?_
            refine Y.getR (o := (G 42 7)) 7 dX0_next_44 zl_X0_29 (rfl) (by decide) rfl (zX_0_11 hX).2.2 rfl ?_
            refine Z.ifnull 83 dX0_next_47 rfl ⟨fun c_18 => ?_, fun c_18 => ?_⟩
            · replace K := K.1 c_18
              refine Z.aload_n (k := 0) dX0_next_83 rfl ?_
              obtain ⟨G_19, E_20, m_21, K⟩ := K
              refine Y.callV (g := zm_X0_nextPhase) (vs := []) (st := []) dX0_next_84 ⟨zg_X0_nextPhase.1, zg_X0_nextPhase.2.1, zg_X0_nextPhase.2.2, by decide⟩ ⟨zk_X0_71, zv_X0_nextPhase⟩ (ci := 0) (rfl) rfl ((zX_0_11 hX).2.2) rfl rfl (Nat.le_of_ble_eq_true rfl) m_21 (Or.inl rfl) ?_
              show Z zm_X0_next kz Q 87 [(0, zR 42), (1, zI v1)] [] (d, G_19, E_20)
              obtain ⟨hX_23, K⟩ := K
              obtain ⟨z_24, K⟩ := K
              refine Z.iinc (k := 1) (ls' := [(1, zI ((v1 + 1))), (0, zR 42)]) dX0_next_87 rfl (by decide) z_24 rfl ?_
              refine Z.goto 2 dX0_next_90 rfl ?_
              refine Z.pick (ls' := [(0, zR 42), (1, zI ((v1 + 1)))]) [1, 0] rfl ?_
              exact K
            · replace K := K.2 c_18
              refine Z.aload_n (k := 0) dX0_next_50 rfl ?_
              refine Y.getR (o := (G 42 6)) 6 dX0_next_51 zl_X0_26 (rfl) (by decide) rfl (zX_0_11 hX).2.2 rfl ?_
              obtain ⟨b_25, e_26, hc_27, K⟩ := K
              rw [e_26]
              obtain ⟨x_28, m_29, K⟩ := K
              refine Y.callV (g := zm_X1_isThere) (vs := []) (st := []) dX0_next_54 ⟨zg_X1_isThere.1, zg_X1_isThere.2.1, zg_X1_isThere.2.2, by decide⟩ ⟨zk_X0_59, zv_X1_isThere⟩ (ci := 1) (congrArg Prod.fst hc_27.1) rfl (hc_27.2.1) rfl rfl (Nat.le_of_ble_eq_true rfl) m_29 (Or.inl rfl) ?_
              show Z zm_X0_next kz Q 57 [(0, zR 42), (1, zI v1)] [zI x_28] (d, G, E)
              refine Z.if_eq 83 dX0_next_57 rfl ⟨fun c_31 => ?_, fun c_31 => ?_⟩
              · replace K := K.1 c_31
                refine Z.aload_n (k := 0) dX0_next_83 rfl ?_
                obtain ⟨G_32, E_33, m_34, K⟩ := K
                refine Y.callV (g := zm_X0_nextPhase) (vs := []) (st := []) dX0_next_84 ⟨zg_X0_nextPhase.1, zg_X0_nextPhase.2.1, zg_X0_nextPhase.2.2, by decide⟩ ⟨zk_X0_71, zv_X0_nextPhase⟩ (ci := 0) (rfl) rfl ((zX_0_11 hX).2.2) rfl rfl (Nat.le_of_ble_eq_true rfl) m_34 (Or.inl rfl) ?_
                show Z zm_X0_next kz Q 87 [(0, zR 42), (1, zI v1)] [] (d, G_32, E_33)
                obtain ⟨hX_36, K⟩ := K
                obtain ⟨z_37, K⟩ := K
                refine Z.iinc (k := 1) (ls' := [(1, zI ((v1 + 1))), (0, zR 42)]) dX0_next_87 rfl (by decide) z_37 rfl ?_
                refine Z.goto 2 dX0_next_90 rfl ?_
                refine Z.pick (ls' := [(0, zR 42), (1, zI ((v1 + 1)))]) [1, 0] rfl ?_
                exact K
              · replace K := K.2 c_31
                refine Z.aload_n (k := 0) dX0_next_60 rfl ?_
                refine Y.getR (o := (G 42 7)) 7 dX0_next_61 zl_X0_29 (rfl) (by decide) rfl (zX_0_11 hX).2.2 rfl ?_
                obtain ⟨b_38, e_39, hc_40, K⟩ := K
                rw [e_39]
                obtain ⟨x_41, m_42, K⟩ := K
                refine Y.callV (g := zm_X1_isThere) (vs := []) (st := []) dX0_next_64 ⟨zg_X1_isThere.1, zg_X1_isThere.2.1, zg_X1_isThere.2.2, by decide⟩ ⟨zk_X0_59, zv_X1_isThere⟩ (ci := 1) (congrArg Prod.fst hc_40.1) rfl (hc_40.2.1) rfl rfl (Nat.le_of_ble_eq_true rfl) m_42 (Or.inl rfl) ?_
                show Z zm_X0_next kz Q 67 [(0, zR 42), (1, zI v1)] [zI x_41] (d, G, E)
                refine Z.if_eq 83 dX0_next_67 rfl ⟨fun c_44 => ?_, fun c_44 => ?_⟩
                · replace K := K.1 c_44
                  refine Z.aload_n (k := 0) dX0_next_83 rfl ?_
                  obtain ⟨G_45, E_46, m_47, K⟩ := K
                  refine Y.callV (g := zm_X0_nextPhase) (vs := []) (st := []) dX0_next_84 ⟨zg_X0_nextPhase.1, zg_X0_nextPhase.2.1, zg_X0_nextPhase.2.2, by decide⟩ ⟨zk_X0_71, zv_X0_nextPhase⟩ (ci := 0) (rfl) rfl ((zX_0_11 hX).2.2) rfl rfl (Nat.le_of_ble_eq_true rfl) m_47 (Or.inl rfl) ?_
                  show Z zm_X0_next kz Q 87 [(0, zR 42), (1, zI v1)] [] (d, G_45, E_46)
                  obtain ⟨hX_49, K⟩ := K
                  obtain ⟨z_50, K⟩ := K
                  refine Z.iinc (k := 1) (ls' := [(1, zI ((v1 + 1))), (0, zR 42)]) dX0_next_87 rfl (by decide) z_50 rfl ?_
                  refine Z.goto 2 dX0_next_90 rfl ?_
                  refine Z.pick (ls' := [(0, zR 42), (1, zI ((v1 + 1)))]) [1, 0] rfl ?_
                  exact K
                · replace K := K.2 c_44
                  refine Z.aload_n (k := 0) dX0_next_70 rfl ?_
                  obtain ⟨x_51, E_52, m_53, K⟩ := K
                  refine Y.callV (g := zm_X0_advance) (vs := []) (st := []) dX0_next_71 ⟨zg_X0_advance.1, zg_X0_advance.2.1, zg_X0_advance.2.2, by decide⟩ ⟨zk_X0_65, zv_X0_advance⟩ (ci := 0) (rfl) rfl ((zX_0_11 hX).2.2) rfl rfl (Nat.le_of_ble_eq_true rfl) m_53 (Or.inl rfl) ?_
                  show Z zm_X0_next kz Q 74 [(0, zR 42), (1, zI v1)] [zI x_51] (d, G, E_52)
                  refine Z.if_eq 83 dX0_next_74 rfl ⟨fun c_55 => ?_, fun c_55 => ?_⟩
                  · replace K := K.1 c_55
                    refine Z.aload_n (k := 0) dX0_next_83 rfl ?_
                    obtain ⟨G_56, E_57, m_58, K⟩ := K
                    refine Y.callV (g := zm_X0_nextPhase) (vs := []) (st := []) dX0_next_84 ⟨zg_X0_nextPhase.1, zg_X0_nextPhase.2.1, zg_X0_nextPhase.2.2, by decide⟩ ⟨zk_X0_71, zv_X0_nextPhase⟩ (ci := 0) (rfl) rfl ((zX_0_11 hX).2.2) rfl rfl (Nat.le_of_ble_eq_true rfl) m_58 (Or.inl rfl) ?_
                    show Z zm_X0_next kz Q 87 [(0, zR 42), (1, zI v1)] [] (d, G_56, E_57)
                    obtain ⟨hX_60, K⟩ := K
                    obtain ⟨z_61, K⟩ := K
                    refine Z.iinc (k := 1) (ls' := [(1, zI ((v1 + 1))), (0, zR 42)]) dX0_next_87 rfl (by decide) z_61 rfl ?_
                    refine Z.goto 2 dX0_next_90 rfl ?_
                    refine Z.pick (ls' := [(0, zR 42), (1, zI ((v1 + 1)))]) [1, 0] rfl ?_
                    exact K
                  · replace K := K.2 c_55
                    refine Z.aload_n (k := 0) dX0_next_77 rfl ?_
                    obtain ⟨E_62, m_63, K⟩ := K
                    refine Y.callV (g := zm_X0_tell) (vs := []) (st := []) dX0_next_78 ⟨zg_X0_tell.1, zg_X0_tell.2.1, zg_X0_tell.2.2, by decide⟩ ⟨zk_X0_68, zv_X0_tell⟩ (ci := 0) (rfl) rfl ((zX_0_11 hX).2.2) rfl rfl (Nat.le_of_ble_eq_true rfl) m_63 (Or.inl rfl) ?_
                    show Z zm_X0_next kz Q 81 [(0, zR 42), (1, zI v1)] [] (d, G, E_62)
                    refine Z.iconst (n := 1) dX0_next_81 ⟨by decide, by decide⟩ ?_
                    exact Z.iret (ty := .boolean) dX0_next_82 rfl rfl K
        · replace K := K.2 c_10
          refine Z.iconst (n := 0) dX0_next_34 ⟨by decide, by decide⟩ ?_
          exact Z.iret (ty := .boolean) dX0_next_35 rfl rfl K
