set_option maxRecDepth 20000 in
theorem X7_at_0 {kz : Nat × Nat} {Q : Option zV → zH → Prop} {d : List Nat} {G : Nat → Int → Option Nat} {E : Nat → Int → Int} {v1 : Int} (hX : zK zXt d G) (K : (v1 < 0 → Q (some (zO none)) (d, G, E)) ∧ (¬ (v1 < 0) → ((E 5 4) ≤ v1 → Q (some (zO none)) (d, G, E)) ∧ (¬ ((E 5 4) ≤ v1) → ((0 : Int) ≤ v1 ∧ v1 < (150 : Int)) ∧ Q (some (zO ((G 6 v1)))) (d, G, E)))) : Z zm_X7_at kz Q 0 [(0, zR 5), (1, zI v1)] [] (d, G, E) := by
  refine Z.iload_n (k := 1) dX7_at_0 rfl ?_
  refine Z.if_lt 21 dX7_at_1 rfl ⟨fun c_1 => ?_, fun c_1 => ?_⟩
  · replace K := K.1 c_1
    refine Z.null dX7_at_21 ?_
    exact Z.aret dX7_at_22 rfl (Or.inl ⟨_, rfl⟩) K
  · replace K := K.2 c_1
    refine Z.iload_n (k := 1) dX7_at_4 rfl ?_
    refine Z.aload_n (k := 0) dX7_at_5 rfl ?_
    refine Y.getI 4 dX7_at_6 zl_X7_29 (rfl) (by decide) rfl (zX_0_1 hX).2.2 ?_
    refine Z.icmp_ge 21 dX7_at_9 rfl ⟨fun c_2 => ?_, fun c_2 => ?_⟩
    · replace K := K.1 c_2
      refine Z.null dX7_at_21 ?_
      exact Z.aret dX7_at_22 rfl (Or.inl ⟨_, rfl⟩) K
    · replace K := K.2 c_2
      refine Z.aload_n (k := 0) dX7_at_12 rfl ?_
      refine Y.getR (o := some 6) 0 dX7_at_13 zl_X7_11 (rfl) (by decide) rfl (zX_0_1 hX).2.2 (zX_5_0 hX).1 ?_
      refine Z.iload_n (k := 1) dX7_at_16 rfl ?_
      obtain ⟨z_3, K⟩ := K
      refine Y.aald dX7_at_17 (rfl) ((zX_5_0 hX).2.2) z_3 ?_
      refine Z.goto 22 dX7_at_18 rfl ?_
      exact Z.aret dX7_at_22 rfl (Or.inl ⟨_, rfl⟩) K
set_option maxRecDepth 20000 in
theorem X7_init_0 {kz : Nat × Nat} {Q : Option zV → zH → Prop} {d : List Nat} {G : Nat → Int → Option Nat} {E : Nat → Int → Int}  (hm5 : 5 ∈ d) (K : ∃ a_1, zkd a_1 = (2, (150 : Int).toNat) ∧ (0 : Int) ≤ 150 ∧ 150 ≤ (100000 : Int) ∧ a_1 ∉ d ∧ ¬ zst3 a_1 ∧ d.length + 1 ≤ kz.1 ∧ zsl d + (zkd a_1).2 ≤ kz.2 ∧ ∀ d_9 G_10 E_11, d_9 = d ++ [a_1] → G_10 = zclG G a_1 → E_11 = zclE E a_1 → (∀ G_12, G_12 = zuG G_10 5 0 (some a_1) → ∃ a_13, zkd a_13 = (1, (150 : Int).toNat) ∧ (0 : Int) ≤ 150 ∧ 150 ≤ (100000 : Int) ∧ a_13 ∉ d_9 ∧ ¬ zst3 a_13 ∧ d_9.length + 1 ≤ kz.1 ∧ zsl d_9 + (zkd a_13).2 ≤ kz.2 ∧ ∀ d_21 G_22 E_23, d_21 = d_9 ++ [a_13] → G_22 = zclG G_12 a_13 → E_23 = zclE E_11 a_13 → (∀ G_24, G_24 = zuG G_22 5 1 (some a_13) → ∃ a_25, zkd a_25 = (0, (150 : Int).toNat) ∧ (0 : Int) ≤ 150 ∧ 150 ≤ (100000 : Int) ∧ a_25 ∉ d_21 ∧ ¬ zst3 a_25 ∧ d_21.length + 1 ≤ kz.1 ∧ zsl d_21 + (zkd a_25).2 ≤ kz.2 ∧ ∀ d_33 G_34 E_35, d_33 = d_21 ++ [a_25] → G_34 = zclG G_24 a_25 → E_35 = zclE E_23 a_25 → (∀ G_36, G_36 = zuG G_34 5 2 (some a_25) → ∀ E_37, E_37 = zuE E_35 5 3 0 → ∀ E_38, E_38 = zuE E_37 5 4 0 → Q none (d_33, G_36, E_38))))) : Z zm_X7_init kz Q 0 [(0, zR 5)] [] (d, G, E) := by
  refine Z.aload_n (k := 0) dX7_init_0 rfl ?_
  refine Z.objInit (a := 5) dX7_init_1 zk_X7_3 ⟨by decide, by decide⟩ (Nat.le_of_ble_eq_true rfl) ?_
  refine Z.aload_n (k := 0) dX7_init_4 rfl ?_
  refine Z.sipush (n := 150) dX7_init_5 ⟨by decide, by decide⟩ (by decide) ?_
  obtain ⟨a_1, z_2, z_3, z_4, z_5, z_6, z_7, z_8, K⟩ := K
  refine Y.newA a_1 dX7_init_8 z_2 z_3 z_4 zc_X7_9 z_5 z_6 z_7 z_8 ?_
  generalize ed_9 : d ++ [a_1] = d_9
  generalize eG_10 : zclG G a_1 = G_10
  generalize eE_11 : zclE E a_1 = E_11
  replace K := K d_9 G_10 E_11 ed_9.symm eG_10.symm eE_11.symm
  refine Y.putR 0 dX7_init_11 zw_X7_11 (fun _ => ⟨rfl, rfl⟩) (rfl) rfl (by rw [← ed_9]; exact List.mem_append_left _ (hm5)) (fun b hb => by cases hb; exact (by rw [← ed_9]; exact List.mem_append_right _ List.mem_cons_self)) ?_
  generalize eG_12 : zuG G_10 5 0 (some a_1) = G_12
  replace K := K G_12 eG_12.symm
  refine Z.aload_n (k := 0) dX7_init_14 rfl ?_
  refine Z.sipush (n := 150) dX7_init_15 ⟨by decide, by decide⟩ (by decide) ?_
  obtain ⟨a_13, z_14, z_15, z_16, z_17, z_18, z_19, z_20, K⟩ := K
  refine Y.newZ a_13 dX7_init_18 z_14 z_15 z_16 zaz z_17 z_18 z_19 z_20 ?_
  generalize ed_21 : d_9 ++ [a_13] = d_21
  generalize eG_22 : zclG G_12 a_13 = G_22
  generalize eE_23 : zclE E_11 a_13 = E_23
  replace K := K d_21 G_22 E_23 ed_21.symm eG_22.symm eE_23.symm
  refine Y.putR 1 dX7_init_20 zw_X7_17 (fun _ => ⟨rfl, rfl⟩) (rfl) rfl (by rw [← ed_21]; exact List.mem_append_left _ ((by rw [← ed_9]; exact List.mem_append_left _ (hm5)))) (fun b hb => by cases hb; exact (by rw [← ed_21]; exact List.mem_append_right _ List.mem_cons_self)) ?_
  generalize eG_24 : zuG G_22 5 1 (some a_13) = G_24
  replace K := K G_24 eG_24.symm
  refine Z.aload_n (k := 0) dX7_init_23 rfl ?_
  refine Z.sipush (n := 150) dX7_init_24 ⟨by decide, by decide⟩ (by decide) ?_
  obtain ⟨a_25, z_26, z_27, z_28, z_29, z_30, z_31, z_32, K⟩ := K
  refine Y.newI a_25 dX7_init_27 z_26 z_27 z_28 zai z_29 z_30 z_31 z_32 ?_
  generalize ed_33 : d_21 ++ [a_25] = d_33
  generalize eG_34 : zclG G_24 a_25 = G_34
  generalize eE_35 : zclE E_23 a_25 = E_35
  replace K := K d_33 G_34 E_35 ed_33.symm eG_34.symm eE_35.symm
  refine Y.putR 2 dX7_init_29 zw_X7_21 (fun _ => ⟨rfl, rfl⟩) (rfl) rfl (by rw [← ed_33]; exact List.mem_append_left _ ((by rw [← ed_21]; exact List.mem_append_left _ ((by rw [← ed_9]; exact List.mem_append_left _ (hm5)))))) (fun b hb => by cases hb; exact (by rw [← ed_33]; exact List.mem_append_right _ List.mem_cons_self)) ?_
  generalize eG_36 : zuG G_34 5 2 (some a_25) = G_36
  replace K := K G_36 eG_36.symm
  refine Z.aload_n (k := 0) dX7_init_32 rfl ?_
  refine Z.iconst (n := 0) dX7_init_33 ⟨by decide, by decide⟩ ?_
  refine Y.putI 3 dX7_init_34 zw_X7_25 (fun q => by cases q) (rfl) rfl (by rw [← ed_33]; exact List.mem_append_left _ ((by rw [← ed_21]; exact List.mem_append_left _ ((by rw [← ed_9]; exact List.mem_append_left _ (hm5)))))) (Or.inl rfl) ?_
  generalize eE_37 : zuE E_35 5 3 0 = E_37
  replace K := K E_37 eE_37.symm
  refine Z.aload_n (k := 0) dX7_init_37 rfl ?_
  refine Z.iconst (n := 0) dX7_init_38 ⟨by decide, by decide⟩ ?_
  refine Y.putI 4 dX7_init_39 zw_X7_29 (fun q => by cases q) (rfl) rfl (by rw [← ed_33]; exact List.mem_append_left _ ((by rw [← ed_21]; exact List.mem_append_left _ ((by rw [← ed_9]; exact List.mem_append_left _ (hm5)))))) (Or.inl rfl) ?_
  generalize eE_38 : zuE E_37 5 4 0 = E_38
  replace K := K E_38 eE_38.symm
  exact Z.vret dX7_init_42 rfl K
set_option maxRecDepth 20000 in
theorem X7_add_0 {kz : Nat × Nat} {Q : Option zV → zH → Prop} {d : List Nat} {G : Nat → Int → Option Nat} {E : Nat → Int → Int}  (hX : zK zXt d G) (K : ((E 5 4) < 150 → ((0 : Int) ≤ (E 5 4) ∧ (E 5 4) < (150 : Int)) ∧ ((G 6 (E 5 4)) ≠ none → ((0 : Int) ≤ (E 5 4) ∧ (E 5 4) < (150 : Int)) ∧ ∃ b_5, (G 6 (E 5 4)) = some b_5 ∧ zCk d G b_5 ∧ ∀ E_8, E_8 = zuE E b_5 5 ((E 5 4)) → zin ((E_8 5 4) + 1) ∧ ∀ E_10, E_10 = zuE E_8 5 4 (((E_8 5 4) + 1)) → Q (some (zR b_5)) (d, G, E_10)) ∧ (¬ ((G 6 (E 5 4)) ≠ none) → ∃ a_11, (zkd a_11).1 = 1 + 3 ∧ a_11 ∉ d ∧ ¬ zst3 a_11 ∧ d.length + 1 ≤ kz.1 ∧ zsl d + (zkd a_11).2 ≤ kz.2 ∧ ∀ d_17 G_18 E_19, d_17 = d ++ [a_11] → G_18 = zclG G a_11 → E_19 = zclE E a_11 → zK zXt d_17 G_18 ∧ (∃ d_21 G_22 E_23, zM zm_X1_init [zR a_11] (d_17, G_18, E_19) none (d_21, G_22, E_23) ∧ (d_21 = d_17 ∨ d_21.length ≤ kz.1 ∧ zsl d_21 ≤ kz.2) ∧ a_11 ∈ d_21 ∧ zK zXt d_21 G_22 ∧ ((0 : Int) ≤ (E 5 4) ∧ (E 5 4) < (150 : Int)) ∧ ∀ G_29, G_29 = zuG G_22 6 ((E 5 4)) (some a_11) → zK zXt d_21 G_29 ∧ ((0 : Int) ≤ (E_23 5 4) ∧ (E_23 5 4) < (150 : Int)) ∧ ∃ b_32, (G_29 6 (E_23 5 4)) = some b_32 ∧ zCk d_21 G_29 b_32 ∧ ∀ E_35, E_35 = zuE E_23 b_32 5 ((E_23 5 4)) → zin ((E_35 5 4) + 1) ∧ ∀ E_37, E_37 = zuE E_35 5 4 (((E_35 5 4) + 1)) → Q (some (zR b_32)) (d_21, G_29, E_37)))) ∧ (¬ ((E 5 4) < 150) → Q (some (zO none)) (d, G, E))) : Z zm_X7_add kz Q 0 [(0, zR 5)] [] (d, G, E) := by
  refine Z.aload_n (k := 0) dX7_add_0 rfl ?_
  refine Y.getI 4 dX7_add_1 zl_X7_29 (rfl) (by decide) rfl (zX_0_1 hX).2.2 ?_
  refine Z.sipush (n := 150) dX7_add_4 ⟨by decide, by decide⟩ (by decide) ?_
  refine Z.icmp_lt 12 dX7_add_7 rfl ⟨fun c_1 => ?_, fun c_1 => ?_⟩
  · replace K := K.1 c_1
    refine Z.aload_n (k := 0) dX7_add_12 rfl ?_
    refine Y.getR (o := some 6) 0 dX7_add_13 zl_X7_11 (rfl) (by decide) rfl (zX_0_1 hX).2.2 (zX_5_0 hX).1 ?_
    refine Z.aload_n (k := 0) dX7_add_16 rfl ?_
    refine Y.getI 4 dX7_add_17 zl_X7_29 (rfl) (by decide) rfl (zX_0_1 hX).2.2 ?_
    obtain ⟨z_2, K⟩ := K
    refine Y.aald dX7_add_20 (rfl) ((zX_5_0 hX).2.2) z_2 ?_
    refine Z.ifnonnull 40 dX7_add_21 rfl ⟨fun c_3 => ?_, fun c_3 => ?_⟩
    · replace K := K.1 c_3
      refine Z.aload_n (k := 0) dX7_add_40 rfl ?_
      refine Y.getR (o := some 6) 0 dX7_add_41 zl_X7_11 (rfl) (by decide) rfl (zX_0_1 hX).2.2 (zX_5_0 hX).1 ?_
      refine Z.aload_n (k := 0) dX7_add_44 rfl ?_
      refine Y.getI 4 dX7_add_45 zl_X7_29 (rfl) (by decide) rfl (zX_0_1 hX).2.2 ?_
      obtain ⟨z_4, K⟩ := K
      refine Y.aald dX7_add_48 (rfl) ((zX_5_0 hX).2.2) z_4 ?_
      refine Z.astore_n (ls' := [(1, zO ((G 6 (E 5 4)))), (0, zR 5)]) dX7_add_49 (by decide) rfl ?_
      refine Z.aload_n (k := 0) dX7_add_50 rfl ?_
      refine Z.aload_n (k := 1) dX7_add_51 rfl ?_
      refine Y.getI 4 dX7_add_52 zl_X7_29 (rfl) (by decide) rfl (zX_0_1 hX).2.2 ?_
      obtain ⟨b_5, e_6, hc_7, K⟩ := K
      rw [e_6]
      refine Y.putI 5 dX7_add_55 zw_X7_33 (fun q => by cases q) (congrArg Prod.fst hc_7.1) rfl hc_7.2.1 (Or.inl rfl) ?_
      generalize eE_8 : zuE E b_5 5 ((E 5 4)) = E_8
      replace K := K E_8 eE_8.symm
      refine Z.aload_n (k := 1) dX7_add_58 rfl ?_
      refine Z.dup_i dX7_add_59 (fun _ => rfl) ?_
      refine Y.getI 4 dX7_add_60 zl_X7_29 (rfl) (by decide) rfl (zX_0_1 hX).2.2 ?_
      refine Z.iconst (n := 1) dX7_add_63 ⟨by decide, by decide⟩ ?_
      obtain ⟨z_9, K⟩ := K
      refine Z.iadd dX7_add_64 z_9 ?_
      refine Y.putI 4 dX7_add_65 zw_X7_29 (fun q => by cases q) (rfl) rfl (zX_0_1 hX).2.2 (Or.inl rfl) ?_
      generalize eE_10 : zuE E_8 5 4 (((E_8 5 4) + 1)) = E_10
      replace K := K E_10 eE_10.symm
      refine Z.aload_n (k := 0) dX7_add_68 rfl ?_
      exact Z.aret dX7_add_69 rfl (Or.inl ⟨_, rfl⟩) K
    · replace K := K.2 c_3
      refine Z.aload_n (k := 0) dX7_add_24 rfl ?_
      refine Y.getR (o := some 6) 0 dX7_add_25 zl_X7_11 (rfl) (by decide) rfl (zX_0_1 hX).2.2 (zX_5_0 hX).1 ?_
      refine Z.aload_n (k := 0) dX7_add_28 rfl ?_
      refine Y.getI 4 dX7_add_29 zl_X7_29 (rfl) (by decide) rfl (zX_0_1 hX).2.2 ?_
      obtain ⟨a_11, z_12, z_13, z_14, z_15, z_16, K⟩ := K
      refine Y.new a_11 dX7_add_32 zc2_X7_9 z_12 z_13 z_14 z_15 z_16 ?_
      generalize ed_17 : d ++ [a_11] = d_17
      generalize eG_18 : zclG G a_11 = G_18
      generalize eE_19 : zclE E a_11 = E_19
      replace K := K d_17 G_18 E_19 ed_17.symm eG_18.symm eE_19.symm
      obtain ⟨hX_20, K⟩ := K
      refine Z.dup_i dX7_add_35 (fun _ => rfl) ?_
      obtain ⟨d_21, G_22, E_23, m_24, z_25, K⟩ := K
      refine Y.callI (g := zm_X1_init) (vs := []) (st := [zR a_11, zI ((E 5 4)), zR 6]) dX7_add_36 ⟨zg_X1_init.1, zg_X1_init.2.1, zg_X1_init.2.2, by decide⟩ ⟨Or.inr zk_X7_32, zi_X1_init⟩ rfl rfl rfl rfl (Nat.le_of_ble_eq_true rfl) m_24 z_25 ?_
      show Z zm_X7_add kz Q 39 [(0, zR 5)] [zR a_11, zI ((E 5 4)), zR 6] (d_21, G_22, E_23)
      obtain ⟨hm_26, hX_27, K⟩ := K
      obtain ⟨z_28, K⟩ := K
      refine Y.aast dX7_add_39 (rfl) ((zX_5_0 hX_27).2.2) (hm_26) (z_12) z_28 ?_
      generalize eG_29 : zuG G_22 6 ((E 5 4)) (some a_11) = G_29
      replace K := K G_29 eG_29.symm
      obtain ⟨hX_30, K⟩ := K
      refine Z.aload_n (k := 0) dX7_add_40 rfl ?_
      refine Y.getR (o := some 6) 0 dX7_add_41 zl_X7_11 (rfl) (by decide) rfl (zX_0_1 hX_30).2.2 (zX_5_0 hX_30).1 ?_
      refine Z.aload_n (k := 0) dX7_add_44 rfl ?_
      refine Y.getI 4 dX7_add_45 zl_X7_29 (rfl) (by decide) rfl (zX_0_1 hX_30).2.2 ?_
      obtain ⟨z_31, K⟩ := K
      refine Y.aald dX7_add_48 (rfl) ((zX_5_0 hX_30).2.2) z_31 ?_
      refine Z.astore_n (ls' := [(1, zO ((G_29 6 (E_23 5 4)))), (0, zR 5)]) dX7_add_49 (by decide) rfl ?_
      refine Z.aload_n (k := 0) dX7_add_50 rfl ?_
      refine Z.aload_n (k := 1) dX7_add_51 rfl ?_
      refine Y.getI 4 dX7_add_52 zl_X7_29 (rfl) (by decide) rfl (zX_0_1 hX_30).2.2 ?_
      obtain ⟨b_32, e_33, hc_34, K⟩ := K
      rw [e_33]
      refine Y.putI 5 dX7_add_55 zw_X7_33 (fun q => by cases q) (congrArg Prod.fst hc_34.1) rfl hc_34.2.1 (Or.inl rfl) ?_
      generalize eE_35 : zuE E_23 b_32 5 ((E_23 5 4)) = E_35
      replace K := K E_35 eE_35.symm
      refine Z.aload_n (k := 1) dX7_add_58 rfl ?_
      refine Z.dup_i dX7_add_59 (fun _ => rfl) ?_
      refine Y.getI 4 dX7_add_60 zl_X7_29 (rfl) (by decide) rfl (zX_0_1 hX_30).2.2 ?_
      refine Z.iconst (n := 1) dX7_add_63 ⟨by decide, by decide⟩ ?_
      obtain ⟨z_36, K⟩ := K
      refine Z.iadd dX7_add_64 z_36 ?_
      refine Y.putI 4 dX7_add_65 zw_X7_29 (fun q => by cases q) (rfl) rfl (zX_0_1 hX_30).2.2 (Or.inl rfl) ?_
      generalize eE_37 : zuE E_35 5 4 (((E_35 5 4) + 1)) = E_37
      replace K := K E_37 eE_37.symm
      refine Z.aload_n (k := 0) dX7_add_68 rfl ?_
      exact Z.aret dX7_add_69 rfl (Or.inl ⟨_, rfl⟩) K
  · replace K := K.2 c_1
    refine Z.null dX7_add_10 ?_
    exact Z.aret dX7_add_11 rfl (Or.inl ⟨_, rfl⟩) K
set_option maxRecDepth 20000 in
theorem X7_inState_0 {kz : Nat × Nat} {Q : Option zV → zH → Prop} {d : List Nat} {G : Nat → Int → Option Nat} {E : Nat → Int → Int} {v1 : Int} (hX : zK zXt d G) (K : Z zm_X7_inState kz Q 4 [(0, zR 5), (1, zI v1), (2, zI 0), (3, zI 0)] [] (d, G, E)) : Z zm_X7_inState kz Q 0 [(0, zR 5), (1, zI v1)] [] (d, G, E) := by
  refine Z.iconst (n := 0) dX7_inState_0 ⟨by decide, by decide⟩ ?_
  refine Z.istore_n (ls' := [(2, zI 0), (0, zR 5), (1, zI v1)]) dX7_inState_1 (by decide) rfl ?_
  refine Z.iconst (n := 0) dX7_inState_2 ⟨by decide, by decide⟩ ?_
  refine Z.istore_n (ls' := [(3, zI 0), (2, zI 0), (0, zR 5), (1, zI v1)]) dX7_inState_3 (by decide) rfl ?_
  refine Z.pick (ls' := [(0, zR 5), (1, zI v1), (2, zI 0), (3, zI 0)]) [2, 3, 1, 0] rfl ?_
  exact K
set_option maxRecDepth 20000 in
theorem X7_inState_4 {kz : Nat × Nat} {Q : Option zV → zH → Prop} {d : List Nat} {G : Nat → Int → Option Nat} {E : Nat → Int → Int} {v1 : Int} {v2 : Int} {v3 : Int} (hX : zK zXt d G) (K : ((E 5 4) ≤ v3 → Q (some (zI v2)) (d, G, E)) ∧ (¬ ((E 5 4) ≤ v3) → ∃ o_2, zM zm_X7_at [zR 5, zI v3] (d, G, E) (some (zO o_2)) (d, G, E) ∧ (o_2 = none → zin (v3 + 1) ∧ Z zm_X7_inState kz Q 4 [(0, zR 5), (1, zI v1), (2, zI v2), (3, zI ((v3 + 1)))] [] (d, G, E)) ∧ (¬ (o_2 = none) → ∃ b_7, o_2 = some b_7 ∧ zCk d G b_7 ∧ ((E b_7 6) ≠ v1 → zin (v3 + 1) ∧ Z zm_X7_inState kz Q 4 [(0, zR 5), (1, zI v1), (2, zI v2), (3, zI ((v3 + 1)))] [] (d, G, E)) ∧ (¬ ((E b_7 6) ≠ v1) → zin (v2 + 1) ∧ zin (v3 + 1) ∧ Z zm_X7_inState kz Q 4 [(0, zR 5), (1, zI v1), (2, zI ((v2 + 1))), (3, zI ((v3 + 1)))] [] (d, G, E))))) : Z zm_X7_inState kz Q 4 [(0, zR 5), (1, zI v1), (2, zI v2), (3, zI v3)] [] (d, G, E) := by
  refine Z.iload_n (k := 3) dX7_inState_4 rfl ?_
  refine Z.aload_n (k := 0) dX7_inState_5 rfl ?_
  refine Y.getI 4 dX7_inState_6 zl_X7_29 (rfl) (by decide) rfl (zX_0_1 hX).2.2 ?_
  refine Z.icmp_ge 42 dX7_inState_9 rfl ⟨fun c_1 => ?_, fun c_1 => ?_⟩
  · replace K := K.1 c_1
    refine Z.iload_n (k := 2) dX7_inState_42 rfl ?_
    exact Z.iret (ty := .int) dX7_inState_43 rfl rfl K
  · replace K := K.2 c_1
    refine Z.aload_n (k := 0) dX7_inState_12 rfl ?_
    refine Z.iload_n (k := 3) dX7_inState_13 rfl ?_
    obtain ⟨o_2, m_3, K⟩ := K
    refine Y.callV (g := zm_X7_at) (vs := [zI v3]) (st := []) dX7_inState_14 ⟨zg_X7_at.1, zg_X7_at.2.1, zg_X7_at.2.2, by decide⟩ ⟨zk_X7_36, zv_X7_at⟩ (ci := 7) (rfl) rfl ((zX_0_1 hX).2.2) rfl rfl (Nat.le_of_ble_eq_true rfl) m_3 (Or.inl rfl) ?_
    show Z zm_X7_inState kz Q 17 [(0, zR 5), (1, zI v1), (2, zI v2), (3, zI v3)] [zO o_2] (d, G, E)
    refine Z.astore (ls' := [(4, zO o_2), (0, zR 5), (1, zI v1), (2, zI v2), (3, zI v3)]) dX7_inState_17 (by decide) rfl ?_
    refine Z.aload (k := 0) dX7_inState_19 rfl ?_
    refine Z.ifnull 36 dX7_inState_21 rfl ⟨fun c_5 => ?_, fun c_5 => ?_⟩
    · replace K := K.1 c_5
      obtain ⟨z_6, K⟩ := K
      refine Z.iinc (k := 4) (ls' := [(3, zI ((v3 + 1))), (4, zO o_2), (0, zR 5), (1, zI v1), (2, zI v2)]) dX7_inState_36 rfl (by decide) z_6 rfl ?_
      refine Z.goto 4 dX7_inState_39 rfl ?_
      refine Z.pick (ls' := [(0, zR 5), (1, zI v1), (2, zI v2), (3, zI ((v3 + 1)))]) [2, 3, 4, 0] rfl ?_
      exact K
    · replace K := K.2 c_5
      refine Z.aload (k := 0) dX7_inState_24 rfl ?_
      obtain ⟨b_7, e_8, hc_9, K⟩ := K
      rw [e_8]
      refine Y.getI 6 dX7_inState_26 zl_X7_40 (congrArg Prod.fst hc_9.1) (by decide) rfl hc_9.2.1 ?_
      refine Z.iload_n (k := 2) dX7_inState_29 rfl ?_
      refine Z.icmp_ne 36 dX7_inState_30 rfl ⟨fun c_10 => ?_, fun c_10 => ?_⟩
      · replace K := K.1 c_10
        obtain ⟨z_11, K⟩ := K
        refine Z.iinc (k := 4) (ls' := [(3, zI ((v3 + 1))), (4, zR b_7), (0, zR 5), (1, zI v1), (2, zI v2)]) dX7_inState_36 rfl (by decide) z_11 rfl ?_
        refine Z.goto 4 dX7_inState_39 rfl ?_
        refine Z.pick (ls' := [(0, zR 5), (1, zI v1), (2, zI v2), (3, zI ((v3 + 1)))]) [2, 3, 4, 0] rfl ?_
        exact K
      · replace K := K.2 c_10
        obtain ⟨z_12, K⟩ := K
        refine Z.iinc (k := 3) (ls' := [(2, zI ((v2 + 1))), (4, zR b_7), (0, zR 5), (1, zI v1), (3, zI v3)]) dX7_inState_33 rfl (by decide) z_12 rfl ?_
        obtain ⟨z_13, K⟩ := K
        refine Z.iinc (k := 4) (ls' := [(3, zI ((v3 + 1))), (2, zI ((v2 + 1))), (4, zR b_7), (0, zR 5), (1, zI v1)]) dX7_inState_36 rfl (by decide) z_13 rfl ?_
        refine Z.goto 4 dX7_inState_39 rfl ?_
        refine Z.pick (ls' := [(0, zR 5), (1, zI v1), (2, zI ((v2 + 1))), (3, zI ((v3 + 1)))]) [3, 4, 1, 0] rfl ?_
        exact K
set_option maxRecDepth 20000 in
theorem X7_find_0 {kz : Nat × Nat} {Q : Option zV → zH → Prop} {d : List Nat} {G : Nat → Int → Option Nat} {E : Nat → Int → Int} {v1 : Int} (hX : zK zXt d G) (K : (v1 < 0 → Q none (d, G, E)) ∧ (¬ (v1 < 0) → ((E 5 4) ≤ v1 → Q none (d, G, E)) ∧ (¬ ((E 5 4) ≤ v1) → (150 ≤ (E 5 3) → Q none (d, G, E)) ∧ (¬ (150 ≤ (E 5 3)) → ((0 : Int) ≤ v1 ∧ v1 < (150 : Int)) ∧ ((E 7 v1) ≠ 0 → Q none (d, G, E)) ∧ (¬ ((E 7 v1) ≠ 0) → ((0 : Int) ≤ v1 ∧ v1 < (150 : Int)) ∧ ∀ E_7, E_7 = zuE E 7 v1 1 → ((0 : Int) ≤ (E_7 5 3) ∧ (E_7 5 3) < (150 : Int)) ∧ ∀ E_9, E_9 = zuE E_7 8 ((E_7 5 3)) v1 → zin ((E_9 5 3) + 1) ∧ ∀ E_11, E_11 = zuE E_9 5 3 (((E_9 5 3) + 1)) → Q none (d, G, E_11)))))) : Z zm_X7_find kz Q 0 [(0, zR 5), (1, zI v1)] [] (d, G, E) := by
  refine Z.iload_n (k := 1) dX7_find_0 rfl ?_
  refine Z.if_lt 58 dX7_find_1 rfl ⟨fun c_1 => ?_, fun c_1 => ?_⟩
  · replace K := K.1 c_1
    exact Z.vret dX7_find_58 rfl K
  · replace K := K.2 c_1
    refine Z.iload_n (k := 1) dX7_find_4 rfl ?_
    refine Z.aload_n (k := 0) dX7_find_5 rfl ?_
    refine Y.getI 4 dX7_find_6 zl_X7_29 (rfl) (by decide) rfl (zX_0_1 hX).2.2 ?_
    refine Z.icmp_ge 58 dX7_find_9 rfl ⟨fun c_2 => ?_, fun c_2 => ?_⟩
    · replace K := K.1 c_2
      exact Z.vret dX7_find_58 rfl K
    · replace K := K.2 c_2
      refine Z.aload_n (k := 0) dX7_find_12 rfl ?_
      refine Y.getI 3 dX7_find_13 zl_X7_25 (rfl) (by decide) rfl (zX_0_1 hX).2.2 ?_
      refine Z.sipush (n := 150) dX7_find_16 ⟨by decide, by decide⟩ (by decide) ?_
      refine Z.icmp_ge 58 dX7_find_19 rfl ⟨fun c_3 => ?_, fun c_3 => ?_⟩
      · replace K := K.1 c_3
        exact Z.vret dX7_find_58 rfl K
      · replace K := K.2 c_3
        refine Z.aload_n (k := 0) dX7_find_22 rfl ?_
        refine Y.getR (o := some 7) 1 dX7_find_23 zl_X7_17 (rfl) (by decide) rfl (zX_0_1 hX).2.2 (zX_5_1 hX).1 ?_
        refine Z.iload_n (k := 1) dX7_find_26 rfl ?_
        obtain ⟨z_4, K⟩ := K
        refine Y.zald dX7_find_27 (rfl) ((zX_5_1 hX).2.2) z_4 ?_
        refine Z.if_ne 58 dX7_find_28 rfl ⟨fun c_5 => ?_, fun c_5 => ?_⟩
        · replace K := K.1 c_5
          exact Z.vret dX7_find_58 rfl K
        · replace K := K.2 c_5
          refine Z.aload_n (k := 0) dX7_find_31 rfl ?_
          refine Y.getR (o := some 7) 1 dX7_find_32 zl_X7_17 (rfl) (by decide) rfl (zX_0_1 hX).2.2 (zX_5_1 hX).1 ?_
          refine Z.iload_n (k := 1) dX7_find_35 rfl ?_
          refine Z.iconst (n := 1) dX7_find_36 ⟨by decide, by decide⟩ ?_
          obtain ⟨z_6, K⟩ := K
          refine Y.zast dX7_find_37 (rfl) ((zX_5_1 hX).2.2) z_6 (by decide) ?_
          generalize eE_7 : zuE E 7 v1 1 = E_7
          replace K := K E_7 eE_7.symm
          refine Z.aload_n (k := 0) dX7_find_38 rfl ?_
          refine Y.getR (o := some 8) 2 dX7_find_39 zl_X7_21 (rfl) (by decide) rfl (zX_0_1 hX).2.2 (zX_5_2 hX).1 ?_
          refine Z.aload_n (k := 0) dX7_find_42 rfl ?_
          refine Y.getI 3 dX7_find_43 zl_X7_25 (rfl) (by decide) rfl (zX_0_1 hX).2.2 ?_
          refine Z.iload_n (k := 1) dX7_find_46 rfl ?_
          obtain ⟨z_8, K⟩ := K
          refine Y.iast dX7_find_47 (rfl) ((zX_5_2 hX).2.2) z_8 ?_
          generalize eE_9 : zuE E_7 8 ((E_7 5 3)) v1 = E_9
          replace K := K E_9 eE_9.symm
          refine Z.aload_n (k := 0) dX7_find_48 rfl ?_
          refine Z.dup_i dX7_find_49 (fun _ => rfl) ?_
          refine Y.getI 3 dX7_find_50 zl_X7_25 (rfl) (by decide) rfl (zX_0_1 hX).2.2 ?_
          refine Z.iconst (n := 1) dX7_find_53 ⟨by decide, by decide⟩ ?_
          obtain ⟨z_10, K⟩ := K
          refine Z.iadd dX7_find_54 z_10 ?_
          refine Y.putI 3 dX7_find_55 zw_X7_25 (fun q => by cases q) (rfl) rfl (zX_0_1 hX).2.2 (Or.inl rfl) ?_
          generalize eE_11 : zuE E_9 5 3 (((E_9 5 3) + 1)) = E_11
          replace K := K E_11 eE_11.symm
          exact Z.vret dX7_find_58 rfl K
set_option maxRecDepth 20000 in
theorem X7_findNamed_0 {kz : Nat × Nat} {Q : Option zV → zH → Prop} {d : List Nat} {G : Nat → Int → Option Nat} {E : Nat → Int → Int} {c1 : Nat} (hX : zK zXt d G) (hc1 : zCk d G c1) (K : ∃ x_1, zM zm_X1_kind [zR c1] (d, G, E) (some (zI x_1)) (d, G, E) ∧ ((0 : Int) ≤ x_1 ∧ x_1 < (5 : Int)) ∧ ((zsv 1 x_1) ≤ 0 → ((0 : Int) ≤ x_1 ∧ x_1 < (5 : Int)) ∧ ((zsv 2 x_1) ≤ 0 → Z zm_X7_findNamed kz Q 51 [(0, zR 5), (1, zR c1), (3, zI 0)] [] (d, G, E)) ∧ (¬ ((zsv 2 x_1) ≤ 0) → ((0 : Int) ≤ x_1 ∧ x_1 < (5 : Int)) ∧ ((0 : Int) ≤ (zsv 2 x_1) ∧ (zsv 2 x_1) < (7 : Int)) ∧ ∃ E_10, zM zm_X7_find [zR 5, zI ((E (c1 + 5) (zsv 2 x_1)))] (d, G, E) none (d, G, E_10) ∧ Z zm_X7_findNamed kz Q 51 [(0, zR 5), (1, zR c1), (3, zI 0)] [] (d, G, E_10))) ∧ (¬ ((zsv 1 x_1) ≤ 0) → ((0 : Int) ≤ x_1 ∧ x_1 < (5 : Int)) ∧ ((0 : Int) ≤ (zsv 1 x_1) ∧ (zsv 1 x_1) < (7 : Int)) ∧ ∃ E_15, zM zm_X7_find [zR 5, zI ((E (c1 + 5) (zsv 1 x_1)))] (d, G, E) none (d, G, E_15) ∧ ((0 : Int) ≤ x_1 ∧ x_1 < (5 : Int)) ∧ ((zsv 2 x_1) ≤ 0 → Z zm_X7_findNamed kz Q 51 [(0, zR 5), (1, zR c1), (3, zI 0)] [] (d, G, E_15)) ∧ (¬ ((zsv 2 x_1) ≤ 0) → ((0 : Int) ≤ x_1 ∧ x_1 < (5 : Int)) ∧ ((0 : Int) ≤ (zsv 2 x_1) ∧ (zsv 2 x_1) < (7 : Int)) ∧ ∃ E_22, zM zm_X7_find [zR 5, zI ((E_15 (c1 + 5) (zsv 2 x_1)))] (d, G, E_15) none (d, G, E_22) ∧ Z zm_X7_findNamed kz Q 51 [(0, zR 5), (1, zR c1), (3, zI 0)] [] (d, G, E_22)))) : Z zm_X7_findNamed kz Q 0 [(0, zR 5), (1, zR c1)] [] (d, G, E) := by
  refine Z.aload_n (k := 1) dX7_findNamed_0 rfl ?_
  obtain ⟨x_1, m_2, K⟩ := K
  refine Y.callV (g := zm_X1_kind) (vs := []) (st := []) dX7_findNamed_1 ⟨zg_X1_kind.1, zg_X1_kind.2.1, zg_X1_kind.2.2, by decide⟩ ⟨zk_X7_60, zv_X1_kind⟩ (ci := 1) (congrArg Prod.fst hc1.1) rfl (hc1.2.1) rfl rfl (Nat.le_of_ble_eq_true rfl) m_2 (Or.inl rfl) ?_
  show Z zm_X7_findNamed kz Q 4 [(0, zR 5), (1, zR c1)] [zI x_1] (d, G, E)
  refine Z.istore_n (ls' := [(2, zI x_1), (0, zR 5), (1, zR c1)]) dX7_findNamed_4 (by decide) rfl ?_
  refine Z.gets (j := 1) dX7_findNamed_5 (by decide) zt_X7_64 ?_
  refine Z.iload_n (k := 0) dX7_findNamed_8 rfl ?_
  obtain ⟨z_4, K⟩ := K
  refine Z.sald (j := 1) dX7_findNamed_9 (by decide) z_4 ?_
  refine Z.if_le 27 dX7_findNamed_10 rfl ⟨fun c_5 => ?_, fun c_5 => ?_⟩
  · replace K := K.1 c_5
    refine Z.gets (j := 2) dX7_findNamed_27 (by decide) zt_X7_70 ?_
    refine Z.iload_n (k := 0) dX7_findNamed_30 rfl ?_
    obtain ⟨z_6, K⟩ := K
    refine Z.sald (j := 2) dX7_findNamed_31 (by decide) z_6 ?_
    refine Z.if_le 49 dX7_findNamed_32 rfl ⟨fun c_7 => ?_, fun c_7 => ?_⟩
    · replace K := K.1 c_7
      refine Z.iconst (n := 0) dX7_findNamed_49 ⟨by decide, by decide⟩ ?_
      refine Z.istore_n (ls' := [(3, zI 0), (2, zI x_1), (0, zR 5), (1, zR c1)]) dX7_findNamed_50 (by decide) rfl ?_
      refine Z.pick (ls' := [(0, zR 5), (1, zR c1), (3, zI 0)]) [2, 3, 0] rfl ?_
      exact K
    · replace K := K.2 c_7
      refine Z.aload_n (k := 1) dX7_findNamed_35 rfl ?_
      refine Z.aload_n (k := 2) dX7_findNamed_36 rfl ?_
      refine Y.getR (o := some (c1 + 5)) 2 dX7_findNamed_37 zl_X7_67 (congrArg Prod.fst hc1.1) (by decide) rfl hc1.2.1 hc1.2.2.2.2.2.2.1 ?_
      refine Z.gets (j := 2) dX7_findNamed_40 (by decide) zt_X7_70 ?_
      refine Z.iload_n (k := 0) dX7_findNamed_43 rfl ?_
      obtain ⟨z_8, K⟩ := K
      refine Z.sald (j := 2) dX7_findNamed_44 (by decide) z_8 ?_
      obtain ⟨z_9, K⟩ := K
      refine Y.iald dX7_findNamed_45 (hc1.2.2.2.2.1) (hc1.2.2.2.2.2.1) z_9 ?_
      obtain ⟨E_10, m_11, K⟩ := K
      refine Y.callV (g := zm_X7_find) (vs := [zI ((E (c1 + 5) (zsv 2 x_1)))]) (st := []) dX7_findNamed_46 ⟨zg_X7_find.1, zg_X7_find.2.1, zg_X7_find.2.2, by decide⟩ ⟨zk_X7_52, zv_X7_find⟩ (ci := 7) (rfl) rfl ((zX_0_1 hX).2.2) rfl rfl (Nat.le_of_ble_eq_true rfl) m_11 (Or.inl rfl) ?_
      show Z zm_X7_findNamed kz Q 49 [(2, zI x_1), (0, zR 5), (1, zR c1)] [] (d, G, E_10)
      refine Z.iconst (n := 0) dX7_findNamed_49 ⟨by decide, by decide⟩ ?_
      refine Z.istore_n (ls' := [(3, zI 0), (2, zI x_1), (0, zR 5), (1, zR c1)]) dX7_findNamed_50 (by decide) rfl ?_
      refine Z.pick (ls' := [(0, zR 5), (1, zR c1), (3, zI 0)]) [2, 3, 0] rfl ?_
      exact K
  · replace K := K.2 c_5
    refine Z.aload_n (k := 1) dX7_findNamed_13 rfl ?_
    refine Z.aload_n (k := 2) dX7_findNamed_14 rfl ?_
    refine Y.getR (o := some (c1 + 5)) 2 dX7_findNamed_15 zl_X7_67 (congrArg Prod.fst hc1.1) (by decide) rfl hc1.2.1 hc1.2.2.2.2.2.2.1 ?_
    refine Z.gets (j := 1) dX7_findNamed_18 (by decide) zt_X7_64 ?_
    refine Z.iload_n (k := 0) dX7_findNamed_21 rfl ?_
    obtain ⟨z_13, K⟩ := K
    refine Z.sald (j := 1) dX7_findNamed_22 (by decide) z_13 ?_
    obtain ⟨z_14, K⟩ := K
    refine Y.iald dX7_findNamed_23 (hc1.2.2.2.2.1) (hc1.2.2.2.2.2.1) z_14 ?_
    obtain ⟨E_15, m_16, K⟩ := K
    refine Y.callV (g := zm_X7_find) (vs := [zI ((E (c1 + 5) (zsv 1 x_1)))]) (st := []) dX7_findNamed_24 ⟨zg_X7_find.1, zg_X7_find.2.1, zg_X7_find.2.2, by decide⟩ ⟨zk_X7_52, zv_X7_find⟩ (ci := 7) (rfl) rfl ((zX_0_1 hX).2.2) rfl rfl (Nat.le_of_ble_eq_true rfl) m_16 (Or.inl rfl) ?_
    show Z zm_X7_findNamed kz Q 27 [(2, zI x_1), (0, zR 5), (1, zR c1)] [] (d, G, E_15)
    refine Z.gets (j := 2) dX7_findNamed_27 (by decide) zt_X7_70 ?_
    refine Z.iload_n (k := 0) dX7_findNamed_30 rfl ?_
    obtain ⟨z_18, K⟩ := K
    refine Z.sald (j := 2) dX7_findNamed_31 (by decide) z_18 ?_
    refine Z.if_le 49 dX7_findNamed_32 rfl ⟨fun c_19 => ?_, fun c_19 => ?_⟩
    · replace K := K.1 c_19
      refine Z.iconst (n := 0) dX7_findNamed_49 ⟨by decide, by decide⟩ ?_
      refine Z.istore_n (ls' := [(3, zI 0), (2, zI x_1), (0, zR 5), (1, zR c1)]) dX7_findNamed_50 (by decide) rfl ?_
      refine Z.pick (ls' := [(0, zR 5), (1, zR c1), (3, zI 0)]) [2, 3, 0] rfl ?_
      exact K
    · replace K := K.2 c_19
      refine Z.aload_n (k := 1) dX7_findNamed_35 rfl ?_
      refine Z.aload_n (k := 2) dX7_findNamed_36 rfl ?_
      refine Y.getR (o := some (c1 + 5)) 2 dX7_findNamed_37 zl_X7_67 (congrArg Prod.fst hc1.1) (by decide) rfl hc1.2.1 hc1.2.2.2.2.2.2.1 ?_
      refine Z.gets (j := 2) dX7_findNamed_40 (by decide) zt_X7_70 ?_
      refine Z.iload_n (k := 0) dX7_findNamed_43 rfl ?_
      obtain ⟨z_20, K⟩ := K
      refine Z.sald (j := 2) dX7_findNamed_44 (by decide) z_20 ?_
      obtain ⟨z_21, K⟩ := K
      refine Y.iald dX7_findNamed_45 (hc1.2.2.2.2.1) (hc1.2.2.2.2.2.1) z_21 ?_
      obtain ⟨E_22, m_23, K⟩ := K
      refine Y.callV (g := zm_X7_find) (vs := [zI ((E_15 (c1 + 5) (zsv 2 x_1)))]) (st := []) dX7_findNamed_46 ⟨zg_X7_find.1, zg_X7_find.2.1, zg_X7_find.2.2, by decide⟩ ⟨zk_X7_52, zv_X7_find⟩ (ci := 7) (rfl) rfl ((zX_0_1 hX).2.2) rfl rfl (Nat.le_of_ble_eq_true rfl) m_23 (Or.inl rfl) ?_
      show Z zm_X7_findNamed kz Q 49 [(2, zI x_1), (0, zR 5), (1, zR c1)] [] (d, G, E_22)
      refine Z.iconst (n := 0) dX7_findNamed_49 ⟨by decide, by decide⟩ ?_
      refine Z.istore_n (ls' := [(3, zI 0), (2, zI x_1), (0, zR 5), (1, zR c1)]) dX7_findNamed_50 (by decide) rfl ?_
      refine Z.pick (ls' := [(0, zR 5), (1, zR c1), (3, zI 0)]) [2, 3, 0] rfl ?_
      exact K
set_option maxRecDepth 20000 in
theorem X7_findNamed_51 {kz : Nat × Nat} {Q : Option zV → zH → Prop} {d : List Nat} {G : Nat → Int → Option Nat} {E : Nat → Int → Int} {c1 : Nat} {v3 : Int} (hX : zK zXt d G) (hc1 : zCk d G c1) (K : ((E c1 4) ≤ v3 → Q none (d, G, E)) ∧ (¬ ((E c1 4) ≤ v3) → zin (4 * v3) ∧ ((0 : Int) ≤ (4 * v3) ∧ (4 * v3) < (32 : Int)) ∧ ∃ E_4, zM zm_X7_find [zR 5, zI ((E (c1 + 6) (4 * v3)))] (d, G, E) none (d, G, E_4) ∧ zin (v3 + 1) ∧ Z zm_X7_findNamed kz Q 51 [(0, zR 5), (1, zR c1), (3, zI ((v3 + 1)))] [] (d, G, E_4))) : Z zm_X7_findNamed kz Q 51 [(0, zR 5), (1, zR c1), (3, zI v3)] [] (d, G, E) := by
  refine Z.iload_n (k := 2) dX7_findNamed_51 rfl ?_
  refine Z.aload_n (k := 1) dX7_findNamed_52 rfl ?_
  refine Y.getI 4 dX7_findNamed_53 zl_X7_73 (congrArg Prod.fst hc1.1) (by decide) rfl hc1.2.1 ?_
  refine Z.icmp_ge 77 dX7_findNamed_56 rfl ⟨fun c_1 => ?_, fun c_1 => ?_⟩
  · replace K := K.1 c_1
    exact Z.vret dX7_findNamed_77 rfl K
  · replace K := K.2 c_1
    refine Z.aload_n (k := 0) dX7_findNamed_59 rfl ?_
    refine Z.aload_n (k := 1) dX7_findNamed_60 rfl ?_
    refine Y.getR (o := some (c1 + 6)) 3 dX7_findNamed_61 zl_X7_76 (congrArg Prod.fst hc1.1) (by decide) rfl hc1.2.1 hc1.2.2.2.2.2.2.2.2.2 ?_
    refine Z.iconst (n := 4) dX7_findNamed_64 ⟨by decide, by decide⟩ ?_
    refine Z.iload_n (k := 2) dX7_findNamed_65 rfl ?_
    obtain ⟨z_2, K⟩ := K
    refine Z.imul dX7_findNamed_66 z_2 ?_
    obtain ⟨z_3, K⟩ := K
    refine Y.iald dX7_findNamed_67 (hc1.2.2.2.2.2.2.2.1) (hc1.2.2.2.2.2.2.2.2.1) z_3 ?_
    obtain ⟨E_4, m_5, K⟩ := K
    refine Y.callV (g := zm_X7_find) (vs := [zI ((E (c1 + 6) (4 * v3)))]) (st := []) dX7_findNamed_68 ⟨zg_X7_find.1, zg_X7_find.2.1, zg_X7_find.2.2, by decide⟩ ⟨zk_X7_52, zv_X7_find⟩ (ci := 7) (rfl) rfl ((zX_0_1 hX).2.2) rfl rfl (Nat.le_of_ble_eq_true rfl) m_5 (Or.inl rfl) ?_
    show Z zm_X7_findNamed kz Q 71 [(0, zR 5), (1, zR c1), (3, zI v3)] [] (d, G, E_4)
    obtain ⟨z_7, K⟩ := K
    refine Z.iinc (k := 2) (ls' := [(3, zI ((v3 + 1))), (0, zR 5), (1, zR c1)]) dX7_findNamed_71 rfl (by decide) z_7 rfl ?_
    refine Z.goto 51 dX7_findNamed_74 rfl ?_
    refine Z.pick (ls' := [(0, zR 5), (1, zR c1), (3, zI ((v3 + 1)))]) [1, 2, 0] rfl ?_
    exact K
set_option maxRecDepth 20000 in
theorem X7_markProof_0 {kz : Nat × Nat} {Q : Option zV → zH → Prop} {d : List Nat} {G : Nat → Int → Option Nat} {E : Nat → Int → Int}  (hX : zK zXt d G) (K : ∀ E_1, E_1 = zuE E 5 3 0 → Z zm_X7_markProof kz Q 7 [(0, zR 5), (1, zI 0)] [] (d, G, E_1)) : Z zm_X7_markProof kz Q 0 [(0, zR 5)] [] (d, G, E) := by
  refine Z.aload_n (k := 0) dX7_markProof_0 rfl ?_
  refine Z.iconst (n := 0) dX7_markProof_1 ⟨by decide, by decide⟩ ?_
  refine Y.putI 3 dX7_markProof_2 zw_X7_25 (fun q => by cases q) (rfl) rfl (zX_0_1 hX).2.2 (Or.inl rfl) ?_
  generalize eE_1 : zuE E 5 3 0 = E_1
  replace K := K E_1 eE_1.symm
  refine Z.iconst (n := 0) dX7_markProof_5 ⟨by decide, by decide⟩ ?_
  refine Z.istore_n (ls' := [(1, zI 0), (0, zR 5)]) dX7_markProof_6 (by decide) rfl ?_
  refine Z.pick (ls' := [(0, zR 5), (1, zI 0)]) [1, 0] rfl ?_
  exact K
set_option maxRecDepth 20000 in
theorem X7_markProof_7 {kz : Nat × Nat} {Q : Option zV → zH → Prop} {d : List Nat} {G : Nat → Int → Option Nat} {E : Nat → Int → Int} {v1 : Int} (hX : zK zXt d G) (K : (150 ≤ v1 → Z zm_X7_markProof kz Q 54 [(0, zR 5), (1, zI 0)] [] (d, G, E)) ∧ (¬ (150 ≤ v1) → ((0 : Int) ≤ v1 ∧ v1 < (150 : Int)) ∧ ∀ E_3, E_3 = zuE E 7 v1 0 → ∃ o_4, zM zm_X7_at [zR 5, zI v1] (d, G, E_3) (some (zO o_4)) (d, G, E_3) ∧ (o_4 = none → zin (v1 + 1) ∧ Z zm_X7_markProof kz Q 7 [(0, zR 5), (1, zI ((v1 + 1)))] [] (d, G, E_3)) ∧ (¬ (o_4 = none) → ∃ b_9, o_4 = some b_9 ∧ zCk d G b_9 ∧ ((E_3 (b_9 + 1) 3) ≠ 0 → zin (v1 + 1) ∧ Z zm_X7_markProof kz Q 7 [(0, zR 5), (1, zI ((v1 + 1)))] [] (d, G, E_3)) ∧ (¬ ((E_3 (b_9 + 1) 3) ≠ 0) → ∃ E_14, zM zm_X7_find [zR 5, zI v1] (d, G, E_3) none (d, G, E_14) ∧ zin (v1 + 1) ∧ Z zm_X7_markProof kz Q 7 [(0, zR 5), (1, zI ((v1 + 1)))] [] (d, G, E_14))))) : Z zm_X7_markProof kz Q 7 [(0, zR 5), (1, zI v1)] [] (d, G, E) := by
  refine Z.iload_n (k := 1) dX7_markProof_7 rfl ?_
  refine Z.sipush (n := 150) dX7_markProof_8 ⟨by decide, by decide⟩ (by decide) ?_
  refine Z.icmp_ge 52 dX7_markProof_11 rfl ⟨fun c_1 => ?_, fun c_1 => ?_⟩
  · replace K := K.1 c_1
    refine Z.iconst (n := 0) dX7_markProof_52 ⟨by decide, by decide⟩ ?_
    refine Z.istore_n (ls' := [(1, zI 0), (0, zR 5)]) dX7_markProof_53 (by decide) rfl ?_
    refine Z.pick (ls' := [(0, zR 5), (1, zI 0)]) [1, 0] rfl ?_
    exact K
  · replace K := K.2 c_1
    refine Z.aload_n (k := 0) dX7_markProof_14 rfl ?_
    refine Y.getR (o := some 7) 1 dX7_markProof_15 zl_X7_17 (rfl) (by decide) rfl (zX_0_1 hX).2.2 (zX_5_1 hX).1 ?_
    refine Z.iload_n (k := 1) dX7_markProof_18 rfl ?_
    refine Z.iconst (n := 0) dX7_markProof_19 ⟨by decide, by decide⟩ ?_
    obtain ⟨z_2, K⟩ := K
    refine Y.zast dX7_markProof_20 (rfl) ((zX_5_1 hX).2.2) z_2 (by decide) ?_
    generalize eE_3 : zuE E 7 v1 0 = E_3
    replace K := K E_3 eE_3.symm
    refine Z.aload_n (k := 0) dX7_markProof_21 rfl ?_
    refine Z.iload_n (k := 1) dX7_markProof_22 rfl ?_
    obtain ⟨o_4, m_5, K⟩ := K
    refine Y.callV (g := zm_X7_at) (vs := [zI v1]) (st := []) dX7_markProof_23 ⟨zg_X7_at.1, zg_X7_at.2.1, zg_X7_at.2.2, by decide⟩ ⟨zk_X7_36, zv_X7_at⟩ (ci := 7) (rfl) rfl ((zX_0_1 hX).2.2) rfl rfl (Nat.le_of_ble_eq_true rfl) m_5 (Or.inl rfl) ?_
    show Z zm_X7_markProof kz Q 26 [(0, zR 5), (1, zI v1)] [zO o_4] (d, G, E_3)
    refine Z.astore_n (ls' := [(2, zO o_4), (0, zR 5), (1, zI v1)]) dX7_markProof_26 (by decide) rfl ?_
    refine Z.aload_n (k := 0) dX7_markProof_27 rfl ?_
    refine Z.ifnull 46 dX7_markProof_28 rfl ⟨fun c_7 => ?_, fun c_7 => ?_⟩
    · replace K := K.1 c_7
      obtain ⟨z_8, K⟩ := K
      refine Z.iinc (k := 2) (ls' := [(1, zI ((v1 + 1))), (2, zO o_4), (0, zR 5)]) dX7_markProof_46 rfl (by decide) z_8 rfl ?_
      refine Z.goto 7 dX7_markProof_49 rfl ?_
      refine Z.pick (ls' := [(0, zR 5), (1, zI ((v1 + 1)))]) [2, 0] rfl ?_
      exact K
    · replace K := K.2 c_7
      refine Z.aload_n (k := 0) dX7_markProof_31 rfl ?_
      obtain ⟨b_9, e_10, hc_11, K⟩ := K
      rw [e_10]
      refine Y.getR (o := some ((b_9 + 1))) 0 dX7_markProof_32 zl_X7_43 (congrArg Prod.fst hc_11.1) (by decide) rfl hc_11.2.1 hc_11.2.2.2.1 ?_
      refine Y.getI 3 dX7_markProof_35 zl_X7_47 (congrArg Prod.fst hc_11.2.2.1.1) (by decide) rfl hc_11.2.2.1.2.2.2.2.1 ?_
      refine Z.if_ne 46 dX7_markProof_38 rfl ⟨fun c_12 => ?_, fun c_12 => ?_⟩
      · replace K := K.1 c_12
        obtain ⟨z_13, K⟩ := K
        refine Z.iinc (k := 2) (ls' := [(1, zI ((v1 + 1))), (2, zR b_9), (0, zR 5)]) dX7_markProof_46 rfl (by decide) z_13 rfl ?_
        refine Z.goto 7 dX7_markProof_49 rfl ?_
        refine Z.pick (ls' := [(0, zR 5), (1, zI ((v1 + 1)))]) [2, 0] rfl ?_
        exact K
      · replace K := K.2 c_12
        refine Z.aload_n (k := 1) dX7_markProof_41 rfl ?_
        refine Z.iload_n (k := 2) dX7_markProof_42 rfl ?_
        obtain ⟨E_14, m_15, K⟩ := K
        refine Y.callV (g := zm_X7_find) (vs := [zI v1]) (st := []) dX7_markProof_43 ⟨zg_X7_find.1, zg_X7_find.2.1, zg_X7_find.2.2, by decide⟩ ⟨zk_X7_52, zv_X7_find⟩ (ci := 7) (rfl) rfl ((zX_0_1 hX).2.2) rfl rfl (Nat.le_of_ble_eq_true rfl) m_15 (Or.inl rfl) ?_
        show Z zm_X7_markProof kz Q 46 [(2, zR b_9), (0, zR 5), (1, zI v1)] [] (d, G, E_14)
        obtain ⟨z_17, K⟩ := K
        refine Z.iinc (k := 2) (ls' := [(1, zI ((v1 + 1))), (2, zR b_9), (0, zR 5)]) dX7_markProof_46 rfl (by decide) z_17 rfl ?_
        refine Z.goto 7 dX7_markProof_49 rfl ?_
        refine Z.pick (ls' := [(0, zR 5), (1, zI ((v1 + 1)))]) [2, 0] rfl ?_
        exact K
set_option maxRecDepth 20000 in
theorem X7_markProof_54 {kz : Nat × Nat} {Q : Option zV → zH → Prop} {d : List Nat} {G : Nat → Int → Option Nat} {E : Nat → Int → Int} {v1 : Int} (hX : zK zXt d G) (K : ((E 5 3) ≤ v1 → Q none (d, G, E)) ∧ (¬ ((E 5 3) ≤ v1) → (150 ≤ v1 → Q none (d, G, E)) ∧ (¬ (150 ≤ v1) → ((0 : Int) ≤ v1 ∧ v1 < (150 : Int)) ∧ ∃ o_4, zM zm_X7_at [zR 5, zI ((E 8 v1))] (d, G, E) (some (zO o_4)) (d, G, E) ∧ (o_4 = none → zin (v1 + 1) ∧ Z zm_X7_markProof kz Q 54 [(0, zR 5), (1, zI ((v1 + 1)))] [] (d, G, E)) ∧ (¬ (o_4 = none) → ∃ E_9, zM zm_X7_findNamed [zR 5, zO o_4] (d, G, E) none (d, G, E_9) ∧ zin (v1 + 1) ∧ Z zm_X7_markProof kz Q 54 [(0, zR 5), (1, zI ((v1 + 1)))] [] (d, G, E_9))))) : Z zm_X7_markProof kz Q 54 [(0, zR 5), (1, zI v1)] [] (d, G, E) := by
  refine Z.iload_n (k := 1) dX7_markProof_54 rfl ?_
  refine Z.aload_n (k := 0) dX7_markProof_55 rfl ?_
  refine Y.getI 3 dX7_markProof_56 zl_X7_25 (rfl) (by decide) rfl (zX_0_1 hX).2.2 ?_
  refine Z.icmp_ge 95 dX7_markProof_59 rfl ⟨fun c_1 => ?_, fun c_1 => ?_⟩
  · replace K := K.1 c_1
    exact Z.vret dX7_markProof_95 rfl K
  · replace K := K.2 c_1
    refine Z.iload_n (k := 1) dX7_markProof_62 rfl ?_
    refine Z.sipush (n := 150) dX7_markProof_63 ⟨by decide, by decide⟩ (by decide) ?_
    refine Z.icmp_ge 95 dX7_markProof_66 rfl ⟨fun c_2 => ?_, fun c_2 => ?_⟩
    · replace K := K.1 c_2
      exact Z.vret dX7_markProof_95 rfl K
    · replace K := K.2 c_2
      refine Z.aload_n (k := 0) dX7_markProof_69 rfl ?_
      refine Z.aload_n (k := 0) dX7_markProof_70 rfl ?_
      refine Y.getR (o := some 8) 2 dX7_markProof_71 zl_X7_21 (rfl) (by decide) rfl (zX_0_1 hX).2.2 (zX_5_2 hX).1 ?_
      refine Z.iload_n (k := 1) dX7_markProof_74 rfl ?_
      obtain ⟨z_3, K⟩ := K
      refine Y.iald dX7_markProof_75 (rfl) ((zX_5_2 hX).2.2) z_3 ?_
      obtain ⟨o_4, m_5, K⟩ := K
      refine Y.callV (g := zm_X7_at) (vs := [zI ((E 8 v1))]) (st := []) dX7_markProof_76 ⟨zg_X7_at.1, zg_X7_at.2.1, zg_X7_at.2.2, by decide⟩ ⟨zk_X7_36, zv_X7_at⟩ (ci := 7) (rfl) rfl ((zX_0_1 hX).2.2) rfl rfl (Nat.le_of_ble_eq_true rfl) m_5 (Or.inl rfl) ?_
      show Z zm_X7_markProof kz Q 79 [(0, zR 5), (1, zI v1)] [zO o_4] (d, G, E)
      refine Z.astore_n (ls' := [(2, zO o_4), (0, zR 5), (1, zI v1)]) dX7_markProof_79 (by decide) rfl ?_
      refine Z.aload_n (k := 0) dX7_markProof_80 rfl ?_
      refine Z.ifnull 89 dX7_markProof_81 rfl ⟨fun c_7 => ?_, fun c_7 => ?_⟩
      · replace K := K.1 c_7
        obtain ⟨z_8, K⟩ := K
        refine Z.iinc (k := 2) (ls' := [(1, zI ((v1 + 1))), (2, zO o_4), (0, zR 5)]) dX7_markProof_89 rfl (by decide) z_8 rfl ?_
        refine Z.goto 54 dX7_markProof_92 rfl ?_
        refine Z.pick (ls' := [(0, zR 5), (1, zI ((v1 + 1)))]) [2, 0] rfl ?_
        exact K
      · replace K := K.2 c_7
        refine Z.aload_n (k := 1) dX7_markProof_84 rfl ?_
        refine Z.aload_n (k := 0) dX7_markProof_85 rfl ?_
        obtain ⟨E_9, m_10, K⟩ := K
        refine Y.callV (g := zm_X7_findNamed) (vs := [zO o_4]) (st := []) dX7_markProof_86 ⟨zg_X7_findNamed.1, zg_X7_findNamed.2.1, zg_X7_findNamed.2.2, by decide⟩ ⟨zk_X7_56, zv_X7_findNamed⟩ (ci := 7) (rfl) rfl ((zX_0_1 hX).2.2) rfl rfl (Nat.le_of_ble_eq_true rfl) m_10 (Or.inl rfl) ?_
        show Z zm_X7_markProof kz Q 89 [(2, zO o_4), (0, zR 5), (1, zI v1)] [] (d, G, E_9)
        obtain ⟨z_12, K⟩ := K
        refine Z.iinc (k := 2) (ls' := [(1, zI ((v1 + 1))), (2, zO o_4), (0, zR 5)]) dX7_markProof_89 rfl (by decide) z_12 rfl ?_
        refine Z.goto 54 dX7_markProof_92 rfl ?_
        refine Z.pick (ls' := [(0, zR 5), (1, zI ((v1 + 1)))]) [2, 0] rfl ?_
        exact K
