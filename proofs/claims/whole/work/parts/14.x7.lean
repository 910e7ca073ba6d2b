set_option maxRecDepth 20000 in
theorem X7_at_0 {kz : Nat × Nat} {Q : Option zV → zH → Prop} {d : List Nat} {G : Nat → Int → Option Nat} {E : Nat → Int → Int} {v1 : Int} (hX : zK zXt d G) (K : (v1 < 0 → Q (some (zO none)) (d, G, E)) ∧ (¬ (v1 < 0) → ((E 5 4) ≤ v1 → Q (some (zO none)) (d, G, E)) ∧ (¬ ((E 5 4) ≤ v1) → ((0 : Int) ≤ v1 ∧ v1 < 150) ∧ Q (some (zO ((G 6 v1)))) (d, G, E)))) : Z zm_X7_at kz Q 0 [(0, zR 5), (1, zI v1)] [] (d, G, E) := by
  refine Z.iload_n (k := 1) dX7_at_0 rfl ?_
  refine Z.if_lt 21 dX7_at_1 rfl ⟨fun c1 => ?_, fun c1 => ?_⟩
  · replace K := K.1 c1
    refine Z.null dX7_at_21 ?_
    exact Z.aret dX7_at_22 rfl (Or.inl ⟨_, rfl⟩) K
  · replace K := K.2 c1
    refine Z.iload_n (k := 1) dX7_at_4 rfl ?_
    refine Z.aload_n (k := 0) dX7_at_5 rfl ?_
    refine Y.getI 4 dX7_at_6 zl_X7_29 (rfl) (by decide) rfl (zX_0_1 hX).2.2 ?_
    refine Z.icmp_ge 21 dX7_at_9 rfl ⟨fun c2 => ?_, fun c2 => ?_⟩
    · replace K := K.1 c2
      refine Z.null dX7_at_21 ?_
      exact Z.aret dX7_at_22 rfl (Or.inl ⟨_, rfl⟩) K
    · replace K := K.2 c2
      refine Z.aload_n (k := 0) dX7_at_12 rfl ?_
      refine Y.getR (o := some 6) 0 dX7_at_13 zl_X7_11 (rfl) (by decide) rfl (zX_0_1 hX).2.2 (zX_5_0 hX).1 ?_
      refine Z.iload_n (k := 1) dX7_at_16 rfl ?_
      obtain ⟨z3, K⟩ := K
      refine Y.aald dX7_at_17 (rfl) ((zX_5_0 hX).2.2) z3 ?_
      refine Z.goto 22 dX7_at_18 rfl ?_
      exact Z.aret dX7_at_22 rfl (Or.inl ⟨_, rfl⟩) K
set_option maxRecDepth 20000 in
theorem X7_init_0 {kz : Nat × Nat} {Q : Option zV → zH → Prop} {d : List Nat} {G : Nat → Int → Option Nat} {E : Nat → Int → Int}  (hm5 : 5 ∈ d) (K : ∃ a1, zkd a1 = (2, (150 : Int).toNat) ∧ (0 : Int) ≤ 150 ∧ 150 ≤ (100000 : Int) ∧ a1 ∉ d ∧ ¬ zst3 a1 ∧ d.length + 1 ≤ kz.1 ∧ zsl d + (zkd a1).2 ≤ kz.2 ∧ ∀ d9 G10 E11, d9 = d ++ [a1] → G10 = zclG G a1 → E11 = zclE E a1 → (∀ G12, G12 = zuG G10 5 0 (some a1) → ∃ a13, zkd a13 = (1, (150 : Int).toNat) ∧ (0 : Int) ≤ 150 ∧ 150 ≤ (100000 : Int) ∧ a13 ∉ d9 ∧ ¬ zst3 a13 ∧ d9.length + 1 ≤ kz.1 ∧ zsl d9 + (zkd a13).2 ≤ kz.2 ∧ ∀ d21 G22 E23, d21 = d9 ++ [a13] → G22 = zclG G12 a13 → E23 = zclE E11 a13 → (∀ G24, G24 = zuG G22 5 1 (some a13) → ∃ a25, zkd a25 = (0, (150 : Int).toNat) ∧ (0 : Int) ≤ 150 ∧ 150 ≤ (100000 : Int) ∧ a25 ∉ d21 ∧ ¬ zst3 a25 ∧ d21.length + 1 ≤ kz.1 ∧ zsl d21 + (zkd a25).2 ≤ kz.2 ∧ ∀ d33 G34 E35, d33 = d21 ++ [a25] → G34 = zclG G24 a25 → E35 = zclE E23 a25 → (∀ G36, G36 = zuG G34 5 2 (some a25) → ∀ E37, E37 = zuE E35 5 3 0 → ∀ E38, E38 = zuE E37 5 4 0 → Q none (d33, G36, E38))))) : Z zm_X7_init kz Q 0 [(0, zR 5)] [] (d, G, E) := by
  refine Z.aload_n (k := 0) dX7_init_0 rfl ?_
  refine Z.objInit (a := 5) dX7_init_1 zk_X7_3 ⟨by decide, by decide⟩ (Nat.le_of_ble_eq_true rfl) ?_
  refine Z.aload_n (k := 0) dX7_init_4 rfl ?_
  refine Z.sipush (n := 150) dX7_init_5 ⟨by decide, by decide⟩ (by decide) ?_
  obtain ⟨a1, z2, z3, z4, z5, z6, z7, z8, K⟩ := K
  refine Y.newA a1 dX7_init_8 z2 z3 z4 zc_X7_9 z5 z6 z7 z8 ?_
  generalize ed9 : d ++ [a1] = d9
  generalize eG10 : zclG G a1 = G10
  generalize eE11 : zclE E a1 = E11
  replace K := K d9 G10 E11 ed9.symm eG10.symm eE11.symm
  refine Y.putR 0 dX7_init_11 zw_X7_11 (fun _ => ⟨rfl, rfl⟩) (rfl) rfl (by rw [← ed9]; exact List.mem_append_left _ (hm5)) (fun b hb => by cases hb; exact (by rw [← ed9]; exact List.mem_append_right _ List.mem_cons_self)) ?_
  generalize eG12 : zuG G10 5 0 (some a1) = G12
  replace K := K G12 eG12.symm
  refine Z.aload_n (k := 0) dX7_init_14 rfl ?_
  refine Z.sipush (n := 150) dX7_init_15 ⟨by decide, by decide⟩ (by decide) ?_
  obtain ⟨a13, z14, z15, z16, z17, z18, z19, z20, K⟩ := K
  refine Y.newZ a13 dX7_init_18 z14 z15 z16 zaz z17 z18 z19 z20 ?_
  generalize ed21 : d9 ++ [a13] = d21
  generalize eG22 : zclG G12 a13 = G22
  generalize eE23 : zclE E11 a13 = E23
  replace K := K d21 G22 E23 ed21.symm eG22.symm eE23.symm
  refine Y.putR 1 dX7_init_20 zw_X7_17 (fun _ => ⟨rfl, rfl⟩) (rfl) rfl (by rw [← ed21]; exact List.mem_append_left _ ((by rw [← ed9]; exact List.mem_append_left _ (hm5)))) (fun b hb => by cases hb; exact (by rw [← ed21]; exact List.mem_append_right _ List.mem_cons_self)) ?_
  generalize eG24 : zuG G22 5 1 (some a13) = G24
  replace K := K G24 eG24.symm
  refine Z.aload_n (k := 0) dX7_init_23 rfl ?_
  refine Z.sipush (n := 150) dX7_init_24 ⟨by decide, by decide⟩ (by decide) ?_
  obtain ⟨a25, z26, z27, z28, z29, z30, z31, z32, K⟩ := K
  refine Y.newI a25 dX7_init_27 z26 z27 z28 zai z29 z30 z31 z32 ?_
  generalize ed33 : d21 ++ [a25] = d33
  generalize eG34 : zclG G24 a25 = G34
  generalize eE35 : zclE E23 a25 = E35
  replace K := K d33 G34 E35 ed33.symm eG34.symm eE35.symm
  refine Y.putR 2 dX7_init_29 zw_X7_21 (fun _ => ⟨rfl, rfl⟩) (rfl) rfl (by rw [← ed33]; exact List.mem_append_left _ ((by rw [← ed21]; exact List.mem_append_left _ ((by rw [← ed9]; exact List.mem_append_left _ (hm5)))))) (fun b hb => by cases hb; exact (by rw [← ed33]; exact List.mem_append_right _ List.mem_cons_self)) ?_
  generalize eG36 : zuG G34 5 2 (some a25) = G36
  replace K := K G36 eG36.symm
  refine Z.aload_n (k := 0) dX7_init_32 rfl ?_
  refine Z.iconst (n := 0) dX7_init_33 ⟨by decide, by decide⟩ ?_
  refine Y.putI 3 dX7_init_34 zw_X7_25 (fun q => by cases q) (rfl) rfl (by rw [← ed33]; exact List.mem_append_left _ ((by rw [← ed21]; exact List.mem_append_left _ ((by rw [← ed9]; exact List.mem_append_left _ (hm5)))))) (Or.inl rfl) ?_
  generalize eE37 : zuE E35 5 3 0 = E37
  replace K := K E37 eE37.symm
  refine Z.aload_n (k := 0) dX7_init_37 rfl ?_
  refine Z.iconst (n := 0) dX7_init_38 ⟨by decide, by decide⟩ ?_
  refine Y.putI 4 dX7_init_39 zw_X7_29 (fun q => by cases q) (rfl) rfl (by rw [← ed33]; exact List.mem_append_left _ ((by rw [← ed21]; exact List.mem_append_left _ ((by rw [← ed9]; exact List.mem_append_left _ (hm5)))))) (Or.inl rfl) ?_
  generalize eE38 : zuE E37 5 4 0 = E38
  replace K := K E38 eE38.symm
  exact Z.vret dX7_init_42 rfl K
set_option maxRecDepth 20000 in
theorem X7_add_0 {kz : Nat × Nat} {Q : Option zV → zH → Prop} {d : List Nat} {G : Nat → Int → Option Nat} {E : Nat → Int → Int}  (hX : zK zXt d G) (K : ((E 5 4) < 150 → ((0 : Int) ≤ (E 5 4) ∧ (E 5 4) < 150) ∧ ((G 6 (E 5 4)) ≠ none → ((0 : Int) ≤ (E 5 4) ∧ (E 5 4) < 150) ∧ ∃ b5, (G 6 (E 5 4)) = some b5 ∧ zCk d G b5 ∧ ∀ E8, E8 = zuE E b5 5 ((E 5 4)) → zin ((E8 5 4) + 1) ∧ ∀ E10, E10 = zuE E8 5 4 (((E8 5 4) + 1)) → Q (some (zR b5)) (d, G, E10)) ∧ (¬ ((G 6 (E 5 4)) ≠ none) → ∃ a11, (zkd a11).1 = 1 + 3 ∧ a11 ∉ d ∧ ¬ zst3 a11 ∧ d.length + 1 ≤ kz.1 ∧ zsl d + (zkd a11).2 ≤ kz.2 ∧ ∀ d17 G18 E19, d17 = d ++ [a11] → G18 = zclG G a11 → E19 = zclE E a11 → zK zXt d17 G18 ∧ (∃ d21 G22 E23, zM zm_X1_init [zR a11] (d17, G18, E19) none (d21, G22, E23) ∧ (d21 = d17 ∨ d21.length ≤ kz.1 ∧ zsl d21 ≤ kz.2) ∧ zK zXt d21 G22 ∧ ((0 : Int) ≤ (E 5 4) ∧ (E 5 4) < 150) ∧ ∀ G28, G28 = zuG G22 6 ((E 5 4)) (some a11) → zK zXt d21 G28 ∧ ((0 : Int) ≤ (E23 5 4) ∧ (E23 5 4) < 150) ∧ ∃ b31, (G28 6 (E23 5 4)) = some b31 ∧ zCk d21 G28 b31 ∧ ∀ E34, E34 = zuE E23 b31 5 ((E23 5 4)) → zin ((E34 5 4) + 1) ∧ ∀ E36, E36 = zuE E34 5 4 (((E34 5 4) + 1)) → Q (some (zR b31)) (d21, G28, E36)))) ∧ (¬ ((E 5 4) < 150) → Q (some (zO none)) (d, G, E))) : Z zm_X7_add kz Q 0 [(0, zR 5)] [] (d, G, E) := by
  refine Z.aload_n (k := 0) dX7_add_0 rfl ?_
  refine Y.getI 4 dX7_add_1 zl_X7_29 (rfl) (by decide) rfl (zX_0_1 hX).2.2 ?_
  refine Z.sipush (n := 150) dX7_add_4 ⟨by decide, by decide⟩ (by decide) ?_
  refine Z.icmp_lt 12 dX7_add_7 rfl ⟨fun c1 => ?_, fun c1 => ?_⟩
  · replace K := K.1 c1
    refine Z.aload_n (k := 0) dX7_add_12 rfl ?_
    refine Y.getR (o := some 6) 0 dX7_add_13 zl_X7_11 (rfl) (by decide) rfl (zX_0_1 hX).2.2 (zX_5_0 hX).1 ?_
    refine Z.aload_n (k := 0) dX7_add_16 rfl ?_
    refine Y.getI 4 dX7_add_17 zl_X7_29 (rfl) (by decide) rfl (zX_0_1 hX).2.2 ?_
    obtain ⟨z2, K⟩ := K
    refine Y.aald dX7_add_20 (rfl) ((zX_5_0 hX).2.2) z2 ?_
    refine Z.ifnonnull 40 dX7_add_21 rfl ⟨fun c3 => ?_, fun c3 => ?_⟩
    · replace K := K.1 c3
      refine Z.aload_n (k := 0) dX7_add_40 rfl ?_
      refine Y.getR (o := some 6) 0 dX7_add_41 zl_X7_11 (rfl) (by decide) rfl (zX_0_1 hX).2.2 (zX_5_0 hX).1 ?_
      refine Z.aload_n (k := 0) dX7_add_44 rfl ?_
      refine Y.getI 4 dX7_add_45 zl_X7_29 (rfl) (by decide) rfl (zX_0_1 hX).2.2 ?_
      obtain ⟨z4, K⟩ := K
      refine Y.aald dX7_add_48 (rfl) ((zX_5_0 hX).2.2) z4 ?_
      refine Z.astore_n (ls' := [(1, zO ((G 6 (E 5 4)))), (0, zR 5)]) dX7_add_49 (by decide) rfl ?_
      refine Z.aload_n (k := 0) dX7_add_50 rfl ?_
      refine Z.aload_n (k := 1) dX7_add_51 rfl ?_
      refine Y.getI 4 dX7_add_52 zl_X7_29 (rfl) (by decide) rfl (zX_0_1 hX).2.2 ?_
      obtain ⟨b5, e6, hc7, K⟩ := K
      rw [e6]
      refine Y.putI 5 dX7_add_55 zw_X7_33 (fun q => by cases q) (congrArg Prod.fst hc7.1) rfl hc7.2.1 (Or.inl rfl) ?_
      generalize eE8 : zuE E b5 5 ((E 5 4)) = E8
      replace K := K E8 eE8.symm
      refine Z.aload_n (k := 1) dX7_add_58 rfl ?_
      refine Z.dup_i dX7_add_59 (fun _ => rfl) ?_
      refine Y.getI 4 dX7_add_60 zl_X7_29 (rfl) (by decide) rfl (zX_0_1 hX).2.2 ?_
      refine Z.iconst (n := 1) dX7_add_63 ⟨by decide, by decide⟩ ?_
      obtain ⟨z9, K⟩ := K
      refine Z.iadd dX7_add_64 z9 ?_
      refine Y.putI 4 dX7_add_65 zw_X7_29 (fun q => by cases q) (rfl) rfl (zX_0_1 hX).2.2 (Or.inl rfl) ?_
      generalize eE10 : zuE E8 5 4 (((E8 5 4) + 1)) = E10
      replace K := K E10 eE10.symm
      refine Z.aload_n (k := 0) dX7_add_68 rfl ?_
      exact Z.aret dX7_add_69 rfl (Or.inl ⟨_, rfl⟩) K
    · replace K := K.2 c3
      refine Z.aload_n (k := 0) dX7_add_24 rfl ?_
      refine Y.getR (o := some 6) 0 dX7_add_25 zl_X7_11 (rfl) (by decide) rfl (zX_0_1 hX).2.2 (zX_5_0 hX).1 ?_
      refine Z.aload_n (k := 0) dX7_add_28 rfl ?_
      refine Y.getI 4 dX7_add_29 zl_X7_29 (rfl) (by decide) rfl (zX_0_1 hX).2.2 ?_
      obtain ⟨a11, z12, z13, z14, z15, z16, K⟩ := K
      refine Y.new a11 dX7_add_32 zc_X7_9 z12 z13 z14 z15 z16 ?_
      generalize ed17 : d ++ [a11] = d17
      generalize eG18 : zclG G a11 = G18
      generalize eE19 : zclE E a11 = E19
      replace K := K d17 G18 E19 ed17.symm eG18.symm eE19.symm
      obtain ⟨hX20, K⟩ := K
      refine Z.dup_i dX7_add_35 (fun _ => rfl) ?_
      obtain ⟨d21, G22, E23, m24, z25, K⟩ := K
      refine Y.callI (g := zm_X1_init) (vs := []) (st := [zR a11, zI ((E 5 4)), zR 6]) dX7_add_36 ⟨zg_X1_init.1, zg_X1_init.2.1, zg_X1_init.2.2, by decide⟩ ⟨Or.inr zk_X7_32, zi_X1_init⟩ rfl rfl rfl rfl (Nat.le_of_ble_eq_true rfl) m24 z25 ?_
      show Z zm_X7_add kz Q 39 [(0, zR 5)] [zR a11, zI ((E 5 4)), zR 6] (d21, G22, E23)
      obtain ⟨hX26, K⟩ := K
      obtain ⟨z27, K⟩ := K
      refine Y.aast dX7_add_39 (rfl) ((zX_5_0 hX26).2.2) ((by rw [← ed17]; exact List.mem_append_right _ List.mem_cons_self)) (z12) z27 ?_
      generalize eG28 : zuG G22 6 ((E 5 4)) (some a11) = G28
      replace K := K G28 eG28.symm
      obtain ⟨hX29, K⟩ := K
      refine Z.aload_n (k := 0) dX7_add_40 rfl ?_
      refine Y.getR (o := some 6) 0 dX7_add_41 zl_X7_11 (rfl) (by decide) rfl (zX_0_1 hX29).2.2 (zX_5_0 hX29).1 ?_
      refine Z.aload_n (k := 0) dX7_add_44 rfl ?_
      refine Y.getI 4 dX7_add_45 zl_X7_29 (rfl) (by decide) rfl (zX_0_1 hX29).2.2 ?_
      obtain ⟨z30, K⟩ := K
      refine Y.aald dX7_add_48 (rfl) ((zX_5_0 hX29).2.2) z30 ?_
      refine Z.astore_n (ls' := [(1, zO ((G28 6 (E23 5 4)))), (0, zR 5)]) dX7_add_49 (by decide) rfl ?_
      refine Z.aload_n (k := 0) dX7_add_50 rfl ?_
      refine Z.aload_n (k := 1) dX7_add_51 rfl ?_
      refine Y.getI 4 dX7_add_52 zl_X7_29 (rfl) (by decide) rfl (zX_0_1 hX29).2.2 ?_
      obtain ⟨b31, e32, hc33, K⟩ := K
      rw [e32]
      refine Y.putI 5 dX7_add_55 zw_X7_33 (fun q => by cases q) (congrArg Prod.fst hc33.1) rfl hc33.2.1 (Or.inl rfl) ?_
      generalize eE34 : zuE E23 b31 5 ((E23 5 4)) = E34
      replace K := K E34 eE34.symm
      refine Z.aload_n (k := 1) dX7_add_58 rfl ?_
      refine Z.dup_i dX7_add_59 (fun _ => rfl) ?_
      refine Y.getI 4 dX7_add_60 zl_X7_29 (rfl) (by decide) rfl (zX_0_1 hX29).2.2 ?_
      refine Z.iconst (n := 1) dX7_add_63 ⟨by decide, by decide⟩ ?_
      obtain ⟨z35, K⟩ := K
      refine Z.iadd dX7_add_64 z35 ?_
      refine Y.putI 4 dX7_add_65 zw_X7_29 (fun q => by cases q) (rfl) rfl (zX_0_1 hX29).2.2 (Or.inl rfl) ?_
      generalize eE36 : zuE E34 5 4 (((E34 5 4) + 1)) = E36
      replace K := K E36 eE36.symm
      refine Z.aload_n (k := 0) dX7_add_68 rfl ?_
      exact Z.aret dX7_add_69 rfl (Or.inl ⟨_, rfl⟩) K
  · replace K := K.2 c1
    refine Z.null dX7_add_10 ?_
    exact Z.aret dX7_add_11 rfl (Or.inl ⟨_, rfl⟩) K
set_option maxRecDepth 20000 in
theorem X7_inState_0 {kz : Nat × Nat} {Q : Option zV → zH → Prop} {d : List Nat} {G : Nat → Int → Option Nat} {E : Nat → Int → Int} {v1 : Int} (hX : zK zXt d G) (K : Z zm_X7_inState kz Q 4 [(0, zR 5), (1, zI v1), (2, zI 0), (3, zI 0)] [] (d, G, E)) : Z zm_X7_inState kz Q 0 [(0, zR 5), (1, zI v1)] [] (d, G, E) := by
  refine Z.iconst (n := 0) dX7_inState_0 ⟨by decide, by decide⟩ ?_
  refine Z.istore_n (ls' := [(2, zI 0), (0, zR 5), (1, zI v1)]) dX7_inState_1 (by decide) rfl ?_
  refine Z.iconst (n := 0) dX7_inState_2 ⟨by decide, by decide⟩ ?_
  refine Z.istore_n (ls' := [(3, zI 0), (2, zI 0), (0, zR 5), (1, zI v1)]) dX7_inState_3 (by decide) rfl ?_
  refine Z.pick (ls' := [(0, zR 5), (1, zI v1), (2, zI 0), (3, zI 0)]) [2, 3, 1, 0] rfl ?_
  exact K
set_option maxRecDepth 20000 in
theorem X7_inState_4 {kz : Nat × Nat} {Q : Option zV → zH → Prop} {d : List Nat} {G : Nat → Int → Option Nat} {E : Nat → Int → Int} {v1 : Int} {v2 : Int} {v3 : Int} (hX : zK zXt d G) (K : ((E 5 4) ≤ v3 → Q (some (zI v2)) (d, G, E)) ∧ (¬ ((E 5 4) ≤ v3) → ∃ o2, zM zm_X7_at [zR 5, zI v3] (d, G, E) (some (zO o2)) (d, G, E) ∧ (o2 = none → zin (v3 + 1) ∧ Z zm_X7_inState kz Q 4 [(0, zR 5), (1, zI v1), (2, zI v2), (3, zI ((v3 + 1)))] [] (d, G, E)) ∧ (¬ (o2 = none) → ∃ b7, o2 = some b7 ∧ zCk d G b7 ∧ ((E b7 6) ≠ v1 → zin (v3 + 1) ∧ Z zm_X7_inState kz Q 4 [(0, zR 5), (1, zI v1), (2, zI v2), (3, zI ((v3 + 1)))] [] (d, G, E)) ∧ (¬ ((E b7 6) ≠ v1) → zin (v2 + 1) ∧ zin (v3 + 1) ∧ Z zm_X7_inState kz Q 4 [(0, zR 5), (1, zI v1), (2, zI ((v2 + 1))), (3, zI ((v3 + 1)))] [] (d, G, E))))) : Z zm_X7_inState kz Q 4 [(0, zR 5), (1, zI v1), (2, zI v2), (3, zI v3)] [] (d, G, E) := by
  refine Z.iload_n (k := 3) dX7_inState_4 rfl ?_
  refine Z.aload_n (k := 0) dX7_inState_5 rfl ?_
  refine Y.getI 4 dX7_inState_6 zl_X7_29 (rfl) (by decide) rfl (zX_0_1 hX).2.2 ?_
  refine Z.icmp_ge 42 dX7_inState_9 rfl ⟨fun c1 => ?_, fun c1 => ?_⟩
  · replace K := K.1 c1
    refine Z.iload_n (k := 2) dX7_inState_42 rfl ?_
    exact Z.iret (ty := .int) dX7_inState_43 rfl rfl K
  · replace K := K.2 c1
    refine Z.aload_n (k := 0) dX7_inState_12 rfl ?_
    refine Z.iload_n (k := 3) dX7_inState_13 rfl ?_
    obtain ⟨o2, m3, K⟩ := K
    refine Y.callV (g := zm_X7_at) (vs := [zI v3]) (st := []) dX7_inState_14 ⟨zg_X7_at.1, zg_X7_at.2.1, zg_X7_at.2.2, by decide⟩ ⟨zk_X7_36, zv_X7_at⟩ (ci := 7) (rfl) rfl ((zX_0_1 hX).2.2) rfl rfl (Nat.le_of_ble_eq_true rfl) m3 (Or.inl rfl) ?_
    show Z zm_X7_inState kz Q 17 [(0, zR 5), (1, zI v1), (2, zI v2), (3, zI v3)] [zO o2] (d, G, E)
    refine Z.astore (ls' := [(4, zO o2), (0, zR 5), (1, zI v1), (2, zI v2), (3, zI v3)]) dX7_inState_17 (by decide) rfl ?_
    refine Z.aload (k := 0) dX7_inState_19 rfl ?_
    refine Z.ifnull 36 dX7_inState_21 rfl ⟨fun c5 => ?_, fun c5 => ?_⟩
    · replace K := K.1 c5
      obtain ⟨z6, K⟩ := K
      refine Z.iinc (k := 4) (ls' := [(3, zI ((v3 + 1))), (4, zO o2), (0, zR 5), (1, zI v1), (2, zI v2)]) dX7_inState_36 rfl (by decide) z6 rfl ?_
      refine Z.goto 4 dX7_inState_39 rfl ?_
      refine Z.pick (ls' := [(0, zR 5), (1, zI v1), (2, zI v2), (3, zI ((v3 + 1)))]) [2, 3, 4, 0] rfl ?_
      exact K
    · replace K := K.2 c5
      refine Z.aload (k := 0) dX7_inState_24 rfl ?_
      obtain ⟨b7, e8, hc9, K⟩ := K
      rw [e8]
      refine Y.getI 6 dX7_inState_26 zl_X7_40 (congrArg Prod.fst hc9.1) (by decide) rfl hc9.2.1 ?_
      refine Z.iload_n (k := 2) dX7_inState_29 rfl ?_
      refine Z.icmp_ne 36 dX7_inState_30 rfl ⟨fun c10 => ?_, fun c10 => ?_⟩
      · replace K := K.1 c10
        obtain ⟨z11, K⟩ := K
        refine Z.iinc (k := 4) (ls' := [(3, zI ((v3 + 1))), (4, zR b7), (0, zR 5), (1, zI v1), (2, zI v2)]) dX7_inState_36 rfl (by decide) z11 rfl ?_
        refine Z.goto 4 dX7_inState_39 rfl ?_
        refine Z.pick (ls' := [(0, zR 5), (1, zI v1), (2, zI v2), (3, zI ((v3 + 1)))]) [2, 3, 4, 0] rfl ?_
        exact K
      · replace K := K.2 c10
        obtain ⟨z12, K⟩ := K
        refine Z.iinc (k := 3) (ls' := [(2, zI ((v2 + 1))), (4, zR b7), (0, zR 5), (1, zI v1), (3, zI v3)]) dX7_inState_33 rfl (by decide) z12 rfl ?_
        obtain ⟨z13, K⟩ := K
        refine Z.iinc (k := 4) (ls' := [(3, zI ((v3 + 1))), (2, zI ((v2 + 1))), (4, zR b7), (0, zR 5), (1, zI v1)]) dX7_inState_36 rfl (by decide) z13 rfl ?_
        refine Z.goto 4 dX7_inState_39 rfl ?_
        refine Z.pick (ls' := [(0, zR 5), (1, zI v1), (2, zI ((v2 + 1))), (3, zI ((v3 + 1)))]) [3, 4, 1, 0] rfl ?_
        exact K
set_option maxRecDepth 20000 in
theorem X7_find_0 {kz : Nat × Nat} {Q : Option zV → zH → Prop} {d : List Nat} {G : Nat → Int → Option Nat} {E : Nat → Int → Int} {v1 : Int} (hX : zK zXt d G) (K : (v1 < 0 → Q none (d, G, E)) ∧ (¬ (v1 < 0) → ((E 5 4) ≤ v1 → Q none (d, G, E)) ∧ (¬ ((E 5 4) ≤ v1) → (150 ≤ (E 5 3) → Q none (d, G, E)) ∧ (¬ (150 ≤ (E 5 3)) → ((0 : Int) ≤ v1 ∧ v1 < 150) ∧ ((E 7 v1) ≠ 0 → Q none (d, G, E)) ∧ (¬ ((E 7 v1) ≠ 0) → ((0 : Int) ≤ v1 ∧ v1 < 150) ∧ ∀ E7, E7 = zuE E 7 v1 1 → ((0 : Int) ≤ (E7 5 3) ∧ (E7 5 3) < 150) ∧ ∀ E9, E9 = zuE E7 8 ((E7 5 3)) v1 → zin ((E9 5 3) + 1) ∧ ∀ E11, E11 = zuE E9 5 3 (((E9 5 3) + 1)) → Q none (d, G, E11)))))) : Z zm_X7_find kz Q 0 [(0, zR 5), (1, zI v1)] [] (d, G, E) := by
  refine Z.iload_n (k := 1) dX7_find_0 rfl ?_
  refine Z.if_lt 58 dX7_find_1 rfl ⟨fun c1 => ?_, fun c1 => ?_⟩
  · replace K := K.1 c1
    exact Z.vret dX7_find_58 rfl K
  · replace K := K.2 c1
    refine Z.iload_n (k := 1) dX7_find_4 rfl ?_
    refine Z.aload_n (k := 0) dX7_find_5 rfl ?_
    refine Y.getI 4 dX7_find_6 zl_X7_29 (rfl) (by decide) rfl (zX_0_1 hX).2.2 ?_
    refine Z.icmp_ge 58 dX7_find_9 rfl ⟨fun c2 => ?_, fun c2 => ?_⟩
    · replace K := K.1 c2
      exact Z.vret dX7_find_58 rfl K
    · replace K := K.2 c2
      refine Z.aload_n (k := 0) dX7_find_12 rfl ?_
      refine Y.getI 3 dX7_find_13 zl_X7_25 (rfl) (by decide) rfl (zX_0_1 hX).2.2 ?_
      refine Z.sipush (n := 150) dX7_find_16 ⟨by decide, by decide⟩ (by decide) ?_
      refine Z.icmp_ge 58 dX7_find_19 rfl ⟨fun c3 => ?_, fun c3 => ?_⟩
      · replace K := K.1 c3
        exact Z.vret dX7_find_58 rfl K
      · replace K := K.2 c3
        refine Z.aload_n (k := 0) dX7_find_22 rfl ?_
        refine Y.getR (o := some 7) 1 dX7_find_23 zl_X7_17 (rfl) (by decide) rfl (zX_0_1 hX).2.2 (zX_5_1 hX).1 ?_
        refine Z.iload_n (k := 1) dX7_find_26 rfl ?_
        obtain ⟨z4, K⟩ := K
        refine Y.zald dX7_find_27 (rfl) ((zX_5_1 hX).2.2) z4 ?_
        refine Z.if_ne 58 dX7_find_28 rfl ⟨fun c5 => ?_, fun c5 => ?_⟩
        · replace K := K.1 c5
          exact Z.vret dX7_find_58 rfl K
        · replace K := K.2 c5
          refine Z.aload_n (k := 0) dX7_find_31 rfl ?_
          refine Y.getR (o := some 7) 1 dX7_find_32 zl_X7_17 (rfl) (by decide) rfl (zX_0_1 hX).2.2 (zX_5_1 hX).1 ?_
          refine Z.iload_n (k := 1) dX7_find_35 rfl ?_
          refine Z.iconst (n := 1) dX7_find_36 ⟨by decide, by decide⟩ ?_
          obtain ⟨z6, K⟩ := K
          refine Y.zast dX7_find_37 (rfl) ((zX_5_1 hX).2.2) z6 (by decide) ?_
          generalize eE7 : zuE E 7 v1 1 = E7
          replace K := K E7 eE7.symm
          refine Z.aload_n (k := 0) dX7_find_38 rfl ?_
          refine Y.getR (o := some 8) 2 dX7_find_39 zl_X7_21 (rfl) (by decide) rfl (zX_0_1 hX).2.2 (zX_5_2 hX).1 ?_
          refine Z.aload_n (k := 0) dX7_find_42 rfl ?_
          refine Y.getI 3 dX7_find_43 zl_X7_25 (rfl) (by decide) rfl (zX_0_1 hX).2.2 ?_
          refine Z.iload_n (k := 1) dX7_find_46 rfl ?_
          obtain ⟨z8, K⟩ := K
          refine Y.iast dX7_find_47 (rfl) ((zX_5_2 hX).2.2) z8 ?_
          generalize eE9 : zuE E7 8 ((E7 5 3)) v1 = E9
          replace K := K E9 eE9.symm
          refine Z.aload_n (k := 0) dX7_find_48 rfl ?_
          refine Z.dup_i dX7_find_49 (fun _ => rfl) ?_
          refine Y.getI 3 dX7_find_50 zl_X7_25 (rfl) (by decide) rfl (zX_0_1 hX).2.2 ?_
          refine Z.iconst (n := 1) dX7_find_53 ⟨by decide, by decide⟩ ?_
          obtain ⟨z10, K⟩ := K
          refine Z.iadd dX7_find_54 z10 ?_
          refine Y.putI 3 dX7_find_55 zw_X7_25 (fun q => by cases q) (rfl) rfl (zX_0_1 hX).2.2 (Or.inl rfl) ?_
          generalize eE11 : zuE E9 5 3 (((E9 5 3) + 1)) = E11
          replace K := K E11 eE11.symm
          exact Z.vret dX7_find_58 rfl K
set_option maxRecDepth 20000 in
theorem X7_findNamed_0 {kz : Nat × Nat} {Q : Option zV → zH → Prop} {d : List Nat} {G : Nat → Int → Option Nat} {E : Nat → Int → Int} {c1 : Nat} (hX : zK zXt d G) (hc1 : zCk d G c1) (K : ∃ x1, zM zm_X1_kind [zR c1] (d, G, E) (some (zI x1)) (d, G, E) ∧ ((0 : Int) ≤ x1 ∧ x1 < 5) ∧ ((zsv 1 x1) ≤ 0 → ((0 : Int) ≤ x1 ∧ x1 < 5) ∧ ((zsv 2 x1) ≤ 0 → Z zm_X7_findNamed kz Q 51 [(0, zR 5), (1, zR c1), (3, zI 0)] [] (d, G, E)) ∧ (¬ ((zsv 2 x1) ≤ 0) → ((0 : Int) ≤ x1 ∧ x1 < 5) ∧ ((0 : Int) ≤ (zsv 2 x1) ∧ (zsv 2 x1) < 7) ∧ ∃ E10, zM zm_X7_find [zR 5, zI ((E (c1 + 5) (zsv 2 x1)))] (d, G, E) none (d, G, E10) ∧ Z zm_X7_findNamed kz Q 51 [(0, zR 5), (1, zR c1), (3, zI 0)] [] (d, G, E10))) ∧ (¬ ((zsv 1 x1) ≤ 0) → ((0 : Int) ≤ x1 ∧ x1 < 5) ∧ ((0 : Int) ≤ (zsv 1 x1) ∧ (zsv 1 x1) < 7) ∧ ∃ E15, zM zm_X7_find [zR 5, zI ((E (c1 + 5) (zsv 1 x1)))] (d, G, E) none (d, G, E15) ∧ ((0 : Int) ≤ x1 ∧ x1 < 5) ∧ ((zsv 2 x1) ≤ 0 → Z zm_X7_findNamed kz Q 51 [(0, zR 5), (1, zR c1), (3, zI 0)] [] (d, G, E15)) ∧ (¬ ((zsv 2 x1) ≤ 0) → ((0 : Int) ≤ x1 ∧ x1 < 5) ∧ ((0 : Int) ≤ (zsv 2 x1) ∧ (zsv 2 x1) < 7) ∧ ∃ E22, zM zm_X7_find [zR 5, zI ((E15 (c1 + 5) (zsv 2 x1)))] (d, G, E15) none (d, G, E22) ∧ Z zm_X7_findNamed kz Q 51 [(0, zR 5), (1, zR c1), (3, zI 0)] [] (d, G, E22)))) : Z zm_X7_findNamed kz Q 0 [(0, zR 5), (1, zR c1)] [] (d, G, E) := by
  refine Z.aload_n (k := 1) dX7_findNamed_0 rfl ?_
  obtain ⟨x1, m2, K⟩ := K
  refine Y.callV (g := zm_X1_kind) (vs := []) (st := []) dX7_findNamed_1 ⟨zg_X1_kind.1, zg_X1_kind.2.1, zg_X1_kind.2.2, by decide⟩ ⟨zk_X7_60, zv_X1_kind⟩ (ci := 1) (congrArg Prod.fst hc1.1) rfl (hc1.2.1) rfl rfl (Nat.le_of_ble_eq_true rfl) m2 (Or.inl rfl) ?_
  show Z zm_X7_findNamed kz Q 4 [(0, zR 5), (1, zR c1)] [zI x1] (d, G, E)
  refine Z.istore_n (ls' := [(2, zI x1), (0, zR 5), (1, zR c1)]) dX7_findNamed_4 (by decide) rfl ?_
  refine Z.gets (j := 1) dX7_findNamed_5 (by decide) zt_X7_64 ?_
  refine Z.iload_n (k := 0) dX7_findNamed_8 rfl ?_
  obtain ⟨z4, K⟩ := K
  refine Z.sald (j := 1) dX7_findNamed_9 (by decide) z4 ?_
  refine Z.if_le 27 dX7_findNamed_10 rfl ⟨fun c5 => ?_, fun c5 => ?_⟩
  · replace K := K.1 c5
    refine Z.gets (j := 2) dX7_findNamed_27 (by decide) zt_X7_70 ?_
    refine Z.iload_n (k := 0) dX7_findNamed_30 rfl ?_
    obtain ⟨z6, K⟩ := K
    refine Z.sald (j := 2) dX7_findNamed_31 (by decide) z6 ?_
    refine Z.if_le 49 dX7_findNamed_32 rfl ⟨fun c7 => ?_, fun c7 => ?_⟩
    · replace K := K.1 c7
      refine Z.iconst (n := 0) dX7_findNamed_49 ⟨by decide, by decide⟩ ?_
      refine Z.istore_n (ls' := [(3, zI 0), (2, zI x1), (0, zR 5), (1, zR c1)]) dX7_findNamed_50 (by decide) rfl ?_
      refine Z.pick (ls' := [(0, zR 5), (1, zR c1), (3, zI 0)]) [2, 3, 0] rfl ?_
      exact K
    · replace K := K.2 c7
      refine Z.aload_n (k := 1) dX7_findNamed_35 rfl ?_
      refine Z.aload_n (k := 2) dX7_findNamed_36 rfl ?_
      refine Y.getR (o := some (c1 + 5)) 2 dX7_findNamed_37 zl_X7_67 (congrArg Prod.fst hc1.1) (by decide) rfl hc1.2.1 hc1.2.2.2.2.2.2.1 ?_
      refine Z.gets (j := 2) dX7_findNamed_40 (by decide) zt_X7_70 ?_
      refine Z.iload_n (k := 0) dX7_findNamed_43 rfl ?_
      obtain ⟨z8, K⟩ := K
      refine Z.sald (j := 2) dX7_findNamed_44 (by decide) z8 ?_
      obtain ⟨z9, K⟩ := K
      refine Y.iald dX7_findNamed_45 (hc1.2.2.2.2.1) (hc1.2.2.2.2.2.1) z9 ?_
      obtain ⟨E10, m11, K⟩ := K
      refine Y.callV (g := zm_X7_find) (vs := [zI ((E (c1 + 5) (zsv 2 x1)))]) (st := []) dX7_findNamed_46 ⟨zg_X7_find.1, zg_X7_find.2.1, zg_X7_find.2.2, by decide⟩ ⟨zk_X7_52, zv_X7_find⟩ (ci := 7) (rfl) rfl ((zX_0_1 hX).2.2) rfl rfl (Nat.le_of_ble_eq_true rfl) m11 (Or.inl rfl) ?_
      show Z zm_X7_findNamed kz Q 49 [(2, zI x1), (0, zR 5), (1, zR c1)] [] (d, G, E10)
      refine Z.iconst (n := 0) dX7_findNamed_49 ⟨by decide, by decide⟩ ?_
      refine Z.istore_n (ls' := [(3, zI 0), (2, zI x1), (0, zR 5), (1, zR c1)]) dX7_findNamed_50 (by decide) rfl ?_
      refine Z.pick (ls' := [(0, zR 5), (1, zR c1), (3, zI 0)]) [2, 3, 0] rfl ?_
      exact K
  · replace K := K.2 c5
    refine Z.aload_n (k := 1) dX7_findNamed_13 rfl ?_
    refine Z.aload_n (k := 2) dX7_findNamed_14 rfl ?_
    refine Y.getR (o := some (c1 + 5)) 2 dX7_findNamed_15 zl_X7_67 (congrArg Prod.fst hc1.1) (by decide) rfl hc1.2.1 hc1.2.2.2.2.2.2.1 ?_
    refine Z.gets (j := 1) dX7_findNamed_18 (by decide) zt_X7_64 ?_
    refine Z.iload_n (k := 0) dX7_findNamed_21 rfl ?_
    obtain ⟨z13, K⟩ := K
    refine Z.sald (j := 1) dX7_findNamed_22 (by decide) z13 ?_
    obtain ⟨z14, K⟩ := K
    refine Y.iald dX7_findNamed_23 (hc1.2.2.2.2.1) (hc1.2.2.2.2.2.1) z14 ?_
    obtain ⟨E15, m16, K⟩ := K
    refine Y.callV (g := zm_X7_find) (vs := [zI ((E (c1 + 5) (zsv 1 x1)))]) (st := []) dX7_findNamed_24 ⟨zg_X7_find.1, zg_X7_find.2.1, zg_X7_find.2.2, by decide⟩ ⟨zk_X7_52, zv_X7_find⟩ (ci := 7) (rfl) rfl ((zX_0_1 hX).2.2) rfl rfl (Nat.le_of_ble_eq_true rfl) m16 (Or.inl rfl) ?_
    show Z zm_X7_findNamed kz Q 27 [(2, zI x1), (0, zR 5), (1, zR c1)] [] (d, G, E15)
    refine Z.gets (j := 2) dX7_findNamed_27 (by decide) zt_X7_70 ?_
    refine Z.iload_n (k := 0) dX7_findNamed_30 rfl ?_
    obtain ⟨z18, K⟩ := K
    refine Z.sald (j := 2) dX7_findNamed_31 (by decide) z18 ?_
    refine Z.if_le 49 dX7_findNamed_32 rfl ⟨fun c19 => ?_, fun c19 => ?_⟩
    · replace K := K.1 c19
      refine Z.iconst (n := 0) dX7_findNamed_49 ⟨by decide, by decide⟩ ?_
      refine Z.istore_n (ls' := [(3, zI 0), (2, zI x1), (0, zR 5), (1, zR c1)]) dX7_findNamed_50 (by decide) rfl ?_
      refine Z.pick (ls' := [(0, zR 5), (1, zR c1), (3, zI 0)]) [2, 3, 0] rfl ?_
      exact K
    · replace K := K.2 c19
      refine Z.aload_n (k := 1) dX7_findNamed_35 rfl ?_
      refine Z.aload_n (k := 2) dX7_findNamed_36 rfl ?_
      refine Y.getR (o := some (c1 + 5)) 2 dX7_findNamed_37 zl_X7_67 (congrArg Prod.fst hc1.1) (by decide) rfl hc1.2.1 hc1.2.2.2.2.2.2.1 ?_
      refine Z.gets (j := 2) dX7_findNamed_40 (by decide) zt_X7_70 ?_
      refine Z.iload_n (k := 0) dX7_findNamed_43 rfl ?_
      obtain ⟨z20, K⟩ := K
      refine Z.sald (j := 2) dX7_findNamed_44 (by decide) z20 ?_
      obtain ⟨z21, K⟩ := K
      refine Y.iald dX7_findNamed_45 (hc1.2.2.2.2.1) (hc1.2.2.2.2.2.1) z21 ?_
      obtain ⟨E22, m23, K⟩ := K
      refine Y.callV (g := zm_X7_find) (vs := [zI ((E15 (c1 + 5) (zsv 2 x1)))]) (st := []) dX7_findNamed_46 ⟨zg_X7_find.1, zg_X7_find.2.1, zg_X7_find.2.2, by decide⟩ ⟨zk_X7_52, zv_X7_find⟩ (ci := 7) (rfl) rfl ((zX_0_1 hX).2.2) rfl rfl (Nat.le_of_ble_eq_true rfl) m23 (Or.inl rfl) ?_
      show Z zm_X7_findNamed kz Q 49 [(2, zI x1), (0, zR 5), (1, zR c1)] [] (d, G, E22)
      refine Z.iconst (n := 0) dX7_findNamed_49 ⟨by decide, by decide⟩ ?_
      refine Z.istore_n (ls' := [(3, zI 0), (2, zI x1), (0, zR 5), (1, zR c1)]) dX7_findNamed_50 (by decide) rfl ?_
      refine Z.pick (ls' := [(0, zR 5), (1, zR c1), (3, zI 0)]) [2, 3, 0] rfl ?_
      exact K
set_option maxRecDepth 20000 in
theorem X7_findNamed_51 {kz : Nat × Nat} {Q : Option zV → zH → Prop} {d : List Nat} {G : Nat → Int → Option Nat} {E : Nat → Int → Int} {c1 : Nat} {v3 : Int} (hX : zK zXt d G) (hc1 : zCk d G c1) (K : ((E c1 4) ≤ v3 → Q none (d, G, E)) ∧ (¬ ((E c1 4) ≤ v3) → zin (4 * v3) ∧ ((0 : Int) ≤ (4 * v3) ∧ (4 * v3) < 32) ∧ ∃ E4, zM zm_X7_find [zR 5, zI ((E (c1 + 6) (4 * v3)))] (d, G, E) none (d, G, E4) ∧ zin (v3 + 1) ∧ Z zm_X7_findNamed kz Q 51 [(0, zR 5), (1, zR c1), (3, zI ((v3 + 1)))] [] (d, G, E4))) : Z zm_X7_findNamed kz Q 51 [(0, zR 5), (1, zR c1), (3, zI v3)] [] (d, G, E) := by
  refine Z.iload_n (k := 2) dX7_findNamed_51 rfl ?_
  refine Z.aload_n (k := 1) dX7_findNamed_52 rfl ?_
  refine Y.getI 4 dX7_findNamed_53 zl_X7_73 (congrArg Prod.fst hc1.1) (by decide) rfl hc1.2.1 ?_
  refine Z.icmp_ge 77 dX7_findNamed_56 rfl ⟨fun c1 => ?_, fun c1 => ?_⟩
  · replace K := K.1 c1
    exact Z.vret dX7_findNamed_77 rfl K
  · replace K := K.2 c1
    refine Z.aload_n (k := 0) dX7_findNamed_59 rfl ?_
    refine Z.aload_n (k := 1) dX7_findNamed_60 rfl ?_
    refine Y.getR (o := some (c1 + 6)) 3 dX7_findNamed_61 zl_X7_76 (congrArg Prod.fst hc1.1) (by decide) rfl hc1.2.1 hc1.2.2.2.2.2.2.2.2.2 ?_
    refine Z.iconst (n := 4) dX7_findNamed_64 ⟨by decide, by decide⟩ ?_
    refine Z.iload_n (k := 2) dX7_findNamed_65 rfl ?_
    obtain ⟨z2, K⟩ := K
    refine Z.imul dX7_findNamed_66 z2 ?_
    obtain ⟨z3, K⟩ := K
    refine Y.iald dX7_findNamed_67 (hc1.2.2.2.2.2.2.2.1) (hc1.2.2.2.2.2.2.2.2.1) z3 ?_
    obtain ⟨E4, m5, K⟩ := K
    refine Y.callV (g := zm_X7_find) (vs := [zI ((E (c1 + 6) (4 * v3)))]) (st := []) dX7_findNamed_68 ⟨zg_X7_find.1, zg_X7_find.2.1, zg_X7_find.2.2, by decide⟩ ⟨zk_X7_52, zv_X7_find⟩ (ci := 7) (rfl) rfl ((zX_0_1 hX).2.2) rfl rfl (Nat.le_of_ble_eq_true rfl) m5 (Or.inl rfl) ?_
    show Z zm_X7_findNamed kz Q 71 [(0, zR 5), (1, zR c1), (3, zI v3)] [] (d, G, E4)
    obtain ⟨z7, K⟩ := K
    refine Z.iinc (k := 2) (ls' := [(3, zI ((v3 + 1))), (0, zR 5), (1, zR c1)]) dX7_findNamed_71 rfl (by decide) z7 rfl ?_
    refine Z.goto 51 dX7_findNamed_74 rfl ?_
    refine Z.pick (ls' := [(0, zR 5), (1, zR c1), (3, zI ((v3 + 1)))]) [1, 2, 0] rfl ?_
    exact K
set_option maxRecDepth 20000 in
theorem X7_markProof_0 {kz : Nat × Nat} {Q : Option zV → zH → Prop} {d : List Nat} {G : Nat → Int → Option Nat} {E : Nat → Int → Int}  (hX : zK zXt d G) (K : ∀ E1, E1 = zuE E 5 3 0 → Z zm_X7_markProof kz Q 7 [(0, zR 5), (1, zI 0)] [] (d, G, E1)) : Z zm_X7_markProof kz Q 0 [(0, zR 5)] [] (d, G, E) := by
  refine Z.aload_n (k := 0) dX7_markProof_0 rfl ?_
  refine Z.iconst (n := 0) dX7_markProof_1 ⟨by decide, by decide⟩ ?_
  refine Y.putI 3 dX7_markProof_2 zw_X7_25 (fun q => by cases q) (rfl) rfl (zX_0_1 hX).2.2 (Or.inl rfl) ?_
  generalize eE1 : zuE E 5 3 0 = E1
  replace K := K E1 eE1.symm
  refine Z.iconst (n := 0) dX7_markProof_5 ⟨by decide, by decide⟩ ?_
  refine Z.istore_n (ls' := [(1, zI 0), (0, zR 5)]) dX7_markProof_6 (by decide) rfl ?_
  refine Z.pick (ls' := [(0, zR 5), (1, zI 0)]) [1, 0] rfl ?_
  exact K
set_option maxRecDepth 20000 in
theorem X7_markProof_7 {kz : Nat × Nat} {Q : Option zV → zH → Prop} {d : List Nat} {G : Nat → Int → Option Nat} {E : Nat → Int → Int} {v1 : Int} (hX : zK zXt d G) (K : (150 ≤ v1 → Z zm_X7_markProof kz Q 54 [(0, zR 5), (1, zI 0)] [] (d, G, E)) ∧ (¬ (150 ≤ v1) → ((0 : Int) ≤ v1 ∧ v1 < 150) ∧ ∀ E3, E3 = zuE E 7 v1 0 → ∃ o4, zM zm_X7_at [zR 5, zI v1] (d, G, E3) (some (zO o4)) (d, G, E3) ∧ (o4 = none → zin (v1 + 1) ∧ Z zm_X7_markProof kz Q 7 [(0, zR 5), (1, zI ((v1 + 1)))] [] (d, G, E3)) ∧ (¬ (o4 = none) → ∃ b9, o4 = some b9 ∧ zCk d G b9 ∧ ((E3 (b9 + 1) 3) ≠ 0 → zin (v1 + 1) ∧ Z zm_X7_markProof kz Q 7 [(0, zR 5), (1, zI ((v1 + 1)))] [] (d, G, E3)) ∧ (¬ ((E3 (b9 + 1) 3) ≠ 0) → ∃ E14, zM zm_X7_find [zR 5, zI v1] (d, G, E3) none (d, G, E14) ∧ zin (v1 + 1) ∧ Z zm_X7_markProof kz Q 7 [(0, zR 5), (1, zI ((v1 + 1)))] [] (d, G, E14))))) : Z zm_X7_markProof kz Q 7 [(0, zR 5), (1, zI v1)] [] (d, G, E) := by
  refine Z.iload_n (k := 1) dX7_markProof_7 rfl ?_
  refine Z.sipush (n := 150) dX7_markProof_8 ⟨by decide, by decide⟩ (by decide) ?_
  refine Z.icmp_ge 52 dX7_markProof_11 rfl ⟨fun c1 => ?_, fun c1 => ?_⟩
  · replace K := K.1 c1
    refine Z.iconst (n := 0) dX7_markProof_52 ⟨by decide, by decide⟩ ?_
    refine Z.istore_n (ls' := [(1, zI 0), (0, zR 5)]) dX7_markProof_53 (by decide) rfl ?_
    refine Z.pick (ls' := [(0, zR 5), (1, zI 0)]) [1, 0] rfl ?_
    exact K
  · replace K := K.2 c1
    refine Z.aload_n (k := 0) dX7_markProof_14 rfl ?_
    refine Y.getR (o := some 7) 1 dX7_markProof_15 zl_X7_17 (rfl) (by decide) rfl (zX_0_1 hX).2.2 (zX_5_1 hX).1 ?_
    refine Z.iload_n (k := 1) dX7_markProof_18 rfl ?_
    refine Z.iconst (n := 0) dX7_markProof_19 ⟨by decide, by decide⟩ ?_
    obtain ⟨z2, K⟩ := K
    refine Y.zast dX7_markProof_20 (rfl) ((zX_5_1 hX).2.2) z2 (by decide) ?_
    generalize eE3 : zuE E 7 v1 0 = E3
    replace K := K E3 eE3.symm
    refine Z.aload_n (k := 0) dX7_markProof_21 rfl ?_
    refine Z.iload_n (k := 1) dX7_markProof_22 rfl ?_
    obtain ⟨o4, m5, K⟩ := K
    refine Y.callV (g := zm_X7_at) (vs := [zI v1]) (st := []) dX7_markProof_23 ⟨zg_X7_at.1, zg_X7_at.2.1, zg_X7_at.2.2, by decide⟩ ⟨zk_X7_36, zv_X7_at⟩ (ci := 7) (rfl) rfl ((zX_0_1 hX).2.2) rfl rfl (Nat.le_of_ble_eq_true rfl) m5 (Or.inl rfl) ?_
    show Z zm_X7_markProof kz Q 26 [(0, zR 5), (1, zI v1)] [zO o4] (d, G, E3)
    refine Z.astore_n (ls' := [(2, zO o4), (0, zR 5), (1, zI v1)]) dX7_markProof_26 (by decide) rfl ?_
    refine Z.aload_n (k := 0) dX7_markProof_27 rfl ?_
    refine Z.ifnull 46 dX7_markProof_28 rfl ⟨fun c7 => ?_, fun c7 => ?_⟩
    · replace K := K.1 c7
      obtain ⟨z8, K⟩ := K
      refine Z.iinc (k := 2) (ls' := [(1, zI ((v1 + 1))), (2, zO o4), (0, zR 5)]) dX7_markProof_46 rfl (by decide) z8 rfl ?_
      refine Z.goto 7 dX7_markProof_49 rfl ?_
      refine Z.pick (ls' := [(0, zR 5), (1, zI ((v1 + 1)))]) [2, 0] rfl ?_
      exact K
    · replace K := K.2 c7
      refine Z.aload_n (k := 0) dX7_markProof_31 rfl ?_
      obtain ⟨b9, e10, hc11, K⟩ := K
      rw [e10]
      refine Y.getR (o := some ((b9 + 1))) 0 dX7_markProof_32 zl_X7_43 (congrArg Prod.fst hc11.1) (by decide) rfl hc11.2.1 hc11.2.2.2.1 ?_
      refine Y.getI 3 dX7_markProof_35 zl_X7_47 (congrArg Prod.fst hc11.2.2.1.1) (by decide) rfl hc11.2.2.1.2.2.2.2.1 ?_
      refine Z.if_ne 46 dX7_markProof_38 rfl ⟨fun c12 => ?_, fun c12 => ?_⟩
      · replace K := K.1 c12
        obtain ⟨z13, K⟩ := K
        refine Z.iinc (k := 2) (ls' := [(1, zI ((v1 + 1))), (2, zR b9), (0, zR 5)]) dX7_markProof_46 rfl (by decide) z13 rfl ?_
        refine Z.goto 7 dX7_markProof_49 rfl ?_
        refine Z.pick (ls' := [(0, zR 5), (1, zI ((v1 + 1)))]) [2, 0] rfl ?_
        exact K
      · replace K := K.2 c12
        refine Z.aload_n (k := 1) dX7_markProof_41 rfl ?_
        refine Z.iload_n (k := 2) dX7_markProof_42 rfl ?_
        obtain ⟨E14, m15, K⟩ := K
        refine Y.callV (g := zm_X7_find) (vs := [zI v1]) (st := []) dX7_markProof_43 ⟨zg_X7_find.1, zg_X7_find.2.1, zg_X7_find.2.2, by decide⟩ ⟨zk_X7_52, zv_X7_find⟩ (ci := 7) (rfl) rfl ((zX_0_1 hX).2.2) rfl rfl (Nat.le_of_ble_eq_true rfl) m15 (Or.inl rfl) ?_
        show Z zm_X7_markProof kz Q 46 [(2, zR b9), (0, zR 5), (1, zI v1)] [] (d, G, E14)
        obtain ⟨z17, K⟩ := K
        refine Z.iinc (k := 2) (ls' := [(1, zI ((v1 + 1))), (2, zR b9), (0, zR 5)]) dX7_markProof_46 rfl (by decide) z17 rfl ?_
        refine Z.goto 7 dX7_markProof_49 rfl ?_
        refine Z.pick (ls' := [(0, zR 5), (1, zI ((v1 + 1)))]) [2, 0] rfl ?_
        exact K
set_option maxRecDepth 20000 in
theorem X7_markProof_54 {kz : Nat × Nat} {Q : Option zV → zH → Prop} {d : List Nat} {G : Nat → Int → Option Nat} {E : Nat → Int → Int} {v1 : Int} (hX : zK zXt d G) (K : ((E 5 3) ≤ v1 → Q none (d, G, E)) ∧ (¬ ((E 5 3) ≤ v1) → (150 ≤ v1 → Q none (d, G, E)) ∧ (¬ (150 ≤ v1) → ((0 : Int) ≤ v1 ∧ v1 < 150) ∧ ∃ o4, zM zm_X7_at [zR 5, zI ((E 8 v1))] (d, G, E) (some (zO o4)) (d, G, E) ∧ (o4 = none → zin (v1 + 1) ∧ Z zm_X7_markProof kz Q 54 [(0, zR 5), (1, zI ((v1 + 1)))] [] (d, G, E)) ∧ (¬ (o4 = none) → ∃ E9, zM zm_X7_findNamed [zR 5, zO o4] (d, G, E) none (d, G, E9) ∧ zin (v1 + 1) ∧ Z zm_X7_markProof kz Q 54 [(0, zR 5), (1, zI ((v1 + 1)))] [] (d, G, E9))))) : Z zm_X7_markProof kz Q 54 [(0, zR 5), (1, zI v1)] [] (d, G, E) := by
  refine Z.iload_n (k := 1) dX7_markProof_54 rfl ?_
  refine Z.aload_n (k := 0) dX7_markProof_55 rfl ?_
  refine Y.getI 3 dX7_markProof_56 zl_X7_25 (rfl) (by decide) rfl (zX_0_1 hX).2.2 ?_
  refine Z.icmp_ge 95 dX7_markProof_59 rfl ⟨fun c1 => ?_, fun c1 => ?_⟩
  · replace K := K.1 c1
    exact Z.vret dX7_markProof_95 rfl K
  · replace K := K.2 c1
    refine Z.iload_n (k := 1) dX7_markProof_62 rfl ?_
    refine Z.sipush (n := 150) dX7_markProof_63 ⟨by decide, by decide⟩ (by decide) ?_
    refine Z.icmp_ge 95 dX7_markProof_66 rfl ⟨fun c2 => ?_, fun c2 => ?_⟩
    · replace K := K.1 c2
      exact Z.vret dX7_markProof_95 rfl K
    · replace K := K.2 c2
      refine Z.aload_n (k := 0) dX7_markProof_69 rfl ?_
      refine Z.aload_n (k := 0) dX7_markProof_70 rfl ?_
      refine Y.getR (o := some 8) 2 dX7_markProof_71 zl_X7_21 (rfl) (by decide) rfl (zX_0_1 hX).2.2 (zX_5_2 hX).1 ?_
      refine Z.iload_n (k := 1) dX7_markProof_74 rfl ?_
      obtain ⟨z3, K⟩ := K
      refine Y.iald dX7_markProof_75 (rfl) ((zX_5_2 hX).2.2) z3 ?_
      obtain ⟨o4, m5, K⟩ := K
      refine Y.callV (g := zm_X7_at) (vs := [zI ((E 8 v1))]) (st := []) dX7_markProof_76 ⟨zg_X7_at.1, zg_X7_at.2.1, zg_X7_at.2.2, by decide⟩ ⟨zk_X7_36, zv_X7_at⟩ (ci := 7) (rfl) rfl ((zX_0_1 hX).2.2) rfl rfl (Nat.le_of_ble_eq_true rfl) m5 (Or.inl rfl) ?_
      show Z zm_X7_markProof kz Q 79 [(0, zR 5), (1, zI v1)] [zO o4] (d, G, E)
      refine Z.astore_n (ls' := [(2, zO o4), (0, zR 5), (1, zI v1)]) dX7_markProof_79 (by decide) rfl ?_
      refine Z.aload_n (k := 0) dX7_markProof_80 rfl ?_
      refine Z.ifnull 89 dX7_markProof_81 rfl ⟨fun c7 => ?_, fun c7 => ?_⟩
      · replace K := K.1 c7
        obtain ⟨z8, K⟩ := K
        refine Z.iinc (k := 2) (ls' := [(1, zI ((v1 + 1))), (2, zO o4), (0, zR 5)]) dX7_markProof_89 rfl (by decide) z8 rfl ?_
        refine Z.goto 54 dX7_markProof_92 rfl ?_
        refine Z.pick (ls' := [(0, zR 5), (1, zI ((v1 + 1)))]) [2, 0] rfl ?_
        exact K
      · replace K := K.2 c7
        refine Z.aload_n (k := 1) dX7_markProof_84 rfl ?_
        refine Z.aload_n (k := 0) dX7_markProof_85 rfl ?_
        obtain ⟨E9, m10, K⟩ := K
        refine Y.callV (g := zm_X7_findNamed) (vs := [zO o4]) (st := []) dX7_markProof_86 ⟨zg_X7_findNamed.1, zg_X7_findNamed.2.1, zg_X7_findNamed.2.2, by decide⟩ ⟨zk_X7_56, zv_X7_findNamed⟩ (ci := 7) (rfl) rfl ((zX_0_1 hX).2.2) rfl rfl (Nat.le_of_ble_eq_true rfl) m10 (Or.inl rfl) ?_
        show Z zm_X7_markProof kz Q 89 [(2, zO o4), (0, zR 5), (1, zI v1)] [] (d, G, E9)
        obtain ⟨z12, K⟩ := K
        refine Z.iinc (k := 2) (ls' := [(1, zI ((v1 + 1))), (2, zO o4), (0, zR 5)]) dX7_markProof_89 rfl (by decide) z12 rfl ?_
        refine Z.goto 54 dX7_markProof_92 rfl ?_
        refine Z.pick (ls' := [(0, zR 5), (1, zI ((v1 + 1)))]) [2, 0] rfl ?_
        exact K
