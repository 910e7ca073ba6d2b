set_option maxRecDepth 20000 in
theorem X8_after_0 {kz : Nat × Nat} {Q : Option zV → zH → Prop} {d : List Nat} {G : Nat → Int → Option Nat} {E : Nat → Int → Int} {a1 n1 : Nat} {v2 : Int} (hX : zK zXt d G) (ha1 : a1 ∈ d) (hk1 : zkd a1 = (0, n1)) (K : Z zm_X8_after kz Q 5 [(0, zR 1), (1, zR a1), (3, zI 1), (4, zI v2)] [] (d, G, E)) : Z zm_X8_after kz Q 0 [(0, zR 1), (1, zR a1), (2, zI v2)] [] (d, G, E) := by
  refine Z.iconst (n := 1) dX8_after_0 ⟨by decide, by decide⟩ ?_
  refine Z.istore_n (ls' := [(3, zI 1), (0, zR 1), (1, zR a1), (2, zI v2)]) dX8_after_1 (by decide) rfl ?_
  refine Z.iload_n (k := 3) dX8_after_2 rfl ?_
  refine Z.istore (ls' := [(4, zI v2), (3, zI 1), (0, zR 1), (1, zR a1), (2, zI v2)]) dX8_after_3 (by decide) rfl ?_
  refine Z.pick (ls' := [(0, zR 1), (1, zR a1), (3, zI 1), (4, zI v2)]) [2, 3, 1, 0] rfl ?_
  exact K
set_option maxRecDepth 20000 in
theorem X8_after_5 {kz : Nat × Nat} {Q : Option zV → zH → Prop} {d : List Nat} {G : Nat → Int → Option Nat} {E : Nat → Int → Int} {a1 n1 : Nat} {v3 : Int} {v4 : Int} (hX : zK zXt d G) (ha1 : a1 ∈ d) (hk1 : zkd a1 = (0, n1)) (K : (v3 ≤ 0 → Q (some (zI v4)) (d, G, E)) ∧ (¬ (v3 ≤ 0) → (v4 < 0 → Q (some (zI v4)) (d, G, E)) ∧ (¬ (v4 < 0) → zin (n1 : Int) ∧ ((n1 : Int) ≤ v4 → Q (some (zI v4)) (d, G, E)) ∧ (¬ ((n1 : Int) ≤ v4) → ((0 : Int) ≤ v4 ∧ v4 < (n1 : Int)) ∧ ((E a1 v4) < 0 → zin (v3 + (-1)) ∧ zin (v4 + 1) ∧ Z zm_X8_after kz Q 5 [(0, zR 1), (1, zR a1), (3, zI ((v3 + (-1)))), (4, zI ((v4 + 1)))] [] (d, G, E)) ∧ (¬ ((E a1 v4) < 0) → (16 ≤ (E a1 v4) → zin (v3 + (-1)) ∧ zin (v4 + 1) ∧ Z zm_X8_after kz Q 5 [(0, zR 1), (1, zR a1), (3, zI ((v3 + (-1)))), (4, zI ((v4 + 1)))] [] (d, G, E)) ∧ (¬ (16 ≤ (E a1 v4)) → ((0 : Int) ≤ (E a1 v4) ∧ (E a1 v4) < (16 : Int)) ∧ zin ((E 3 (E a1 v4)) - 1) ∧ zin (v3 + ((E 3 (E a1 v4)) - 1)) ∧ zin (v4 + 1) ∧ Z zm_X8_after kz Q 5 [(0, zR 1), (1, zR a1), (3, zI ((v3 + ((E 3 (E a1 v4)) - 1)))), (4, zI ((v4 + 1)))] [] (d, G, E))))))) : Z zm_X8_after kz Q 5 [(0, zR 1), (1, zR a1), (3, zI v3), (4, zI v4)] [] (d, G, E) := by
  refine Z.iload_n (k := 2) dX8_after_5 rfl ?_
  refine Z.if_le 61 dX8_after_6 rfl ⟨fun c_1 => ?_, fun c_1 => ?_⟩
  · replace K := K.1 c_1
    refine Z.iload (k := 3) dX8_after_61 rfl ?_
    exact Z.iret (ty := .int) dX8_after_63 rfl rfl K
  · replace K := K.2 c_1
    refine Z.iload (k := 3) dX8_after_9 rfl ?_
    refine Z.if_lt 61 dX8_after_11 rfl ⟨fun c_2 => ?_, fun c_2 => ?_⟩
    · replace K := K.1 c_2
      refine Z.iload (k := 3) dX8_after_61 rfl ?_
      exact Z.iret (ty := .int) dX8_after_63 rfl rfl K
    · replace K := K.2 c_2
      refine Z.iload (k := 3) dX8_after_14 rfl ?_
      refine Z.aload_n (k := 1) dX8_after_16 rfl ?_
      obtain ⟨z_3, K⟩ := K
      refine Y.alen n1 (n1 : Int) dX8_after_17 (hk1) (ha1) rfl z_3 ?_
      refine Z.icmp_ge 61 dX8_after_18 rfl ⟨fun c_4 => ?_, fun c_4 => ?_⟩
      · replace K := K.1 c_4
        refine Z.iload (k := 3) dX8_after_61 rfl ?_
        exact Z.iret (ty := .int) dX8_after_63 rfl rfl K
      · replace K := K.2 c_4
        refine Z.aload_n (k := 1) dX8_after_21 rfl ?_
        refine Z.iload (k := 3) dX8_after_22 rfl ?_
        obtain ⟨z_5, K⟩ := K
        refine Y.iald dX8_after_24 (hk1) (ha1) z_5 ?_
        refine Z.istore (ls' := [(5, zI ((E a1 v4))), (0, zR 1), (1, zR a1), (3, zI v3), (4, zI v4)]) dX8_after_25 (by decide) rfl ?_
        refine Z.iload_n (k := 3) dX8_after_27 rfl ?_
        refine Z.iload (k := 0) dX8_after_28 rfl ?_
        refine Z.if_lt 52 dX8_after_30 rfl ⟨fun c_6 => ?_, fun c_6 => ?_⟩
        · replace K := K.1 c_6
          refine Z.iconst (n := -1) dX8_after_52 ⟨by decide, by decide⟩ ?_
          obtain ⟨z_7, K⟩ := K
          refine Z.iadd dX8_after_53 z_7 ?_
          refine Z.istore_n (ls' := [(3, zI ((v3 + (-1)))), (5, zI ((E a1 v4))), (0, zR 1), (1, zR a1), (4, zI v4)]) dX8_after_54 (by decide) rfl ?_
          obtain ⟨z_8, K⟩ := K
          refine Z.iinc (k := 4) (ls' := [(4, zI ((v4 + 1))), (3, zI ((v3 + (-1)))), (5, zI ((E a1 v4))), (0, zR 1), (1, zR a1)]) dX8_after_55 rfl (by decide) z_8 rfl ?_
          refine Z.goto 5 dX8_after_58 rfl ?_
          refine Z.pick (ls' := [(0, zR 1), (1, zR a1), (3, zI ((v3 + (-1)))), (4, zI ((v4 + 1)))]) [3, 4, 1, 0] rfl ?_
          exact K
        · replace K := K.2 c_6
          refine Z.iload (k := 0) dX8_after_33 rfl ?_
          refine Z.bipush (n := 16) dX8_after_35 ⟨by decide, by decide⟩ (by decide) ?_
          refine Z.icmp_ge 52 dX8_after_37 rfl ⟨fun c_9 => ?_, fun c_9 => ?_⟩
          · replace K := K.1 c_9
            refine Z.iconst (n := -1) dX8_after_52 ⟨by decide, by decide⟩ ?_
            obtain ⟨z_10, K⟩ := K
            refine Z.iadd dX8_after_53 z_10 ?_
            refine Z.istore_n (ls' := [(3, zI ((v3 + (-1)))), (5, zI ((E a1 v4))), (0, zR 1), (1, zR a1), (4, zI v4)]) dX8_after_54 (by decide) rfl ?_
            obtain ⟨z_11, K⟩ := K
            refine Z.iinc (k := 4) (ls' := [(4, zI ((v4 + 1))), (3, zI ((v3 + (-1)))), (5, zI ((E a1 v4))), (0, zR 1), (1, zR a1)]) dX8_after_55 rfl (by decide) z_11 rfl ?_
            refine Z.goto 5 dX8_after_58 rfl ?_
            refine Z.pick (ls' := [(0, zR 1), (1, zR a1), (3, zI ((v3 + (-1)))), (4, zI ((v4 + 1)))]) [3, 4, 1, 0] rfl ?_
            exact K
          · replace K := K.2 c_9
            refine Z.aload_n (k := 1) dX8_after_40 rfl ?_
            refine Y.getR (o := some 3) 1 dX8_after_41 zl_X8_15 (rfl) (by decide) rfl (zX_0_0 hX).2.2 (zX_1_1 hX).1 ?_
            refine Z.iload (k := 0) dX8_after_44 rfl ?_
            obtain ⟨z_12, K⟩ := K
            refine Y.iald dX8_after_46 (rfl) ((zX_1_1 hX).2.2) z_12 ?_
            refine Z.iconst (n := 1) dX8_after_47 ⟨by decide, by decide⟩ ?_
            obtain ⟨z_13, K⟩ := K
            refine Z.isub dX8_after_48 z_13 ?_
            refine Z.goto 53 dX8_after_49 rfl ?_
            obtain ⟨z_14, K⟩ := K
            refine Z.iadd dX8_after_53 z_14 ?_
            refine Z.istore_n (ls' := [(3, zI ((v3 + ((E 3 (E a1 v4)) - 1)))), (5, zI ((E a1 v4))), (0, zR 1), (1, zR a1), (4, zI v4)]) dX8_after_54 (by decide) rfl ?_
            obtain ⟨z_15, K⟩ := K
            refine Z.iinc (k := 4) (ls' := [(4, zI ((v4 + 1))), (3, zI ((v3 + ((E 3 (E a1 v4)) - 1)))), (5, zI ((E a1 v4))), (0, zR 1), (1, zR a1)]) dX8_after_55 rfl (by decide) z_15 rfl ?_
            refine Z.goto 5 dX8_after_58 rfl ?_
            refine Z.pick (ls' := [(0, zR 1), (1, zR a1), (3, zI ((v3 + ((E 3 (E a1 v4)) - 1)))), (4, zI ((v4 + 1)))]) [3, 4, 1, 0] rfl ?_
            exact K
set_option maxRecDepth 20000 in
theorem X8_weightOf_0 {kz : Nat × Nat} {Q : Option zV → zH → Prop} {d : List Nat} {G : Nat → Int → Option Nat} {E : Nat → Int → Int} {v1 : Int} (hX : zK zXt d G) (K : (v1 < 0 → Q (some (zI 1)) (d, G, E)) ∧ (¬ (v1 < 0) → (16 ≤ v1 → Q (some (zI 1)) (d, G, E)) ∧ (¬ (16 ≤ v1) → ((0 : Int) ≤ v1 ∧ v1 < (16 : Int)) ∧ Q (some (zI ((E 4 v1)))) (d, G, E)))) : Z zm_X8_weightOf kz Q 0 [(0, zR 1), (1, zI v1)] [] (d, G, E) := by
  refine Z.iload_n (k := 1) dX8_weightOf_0 rfl ?_
  refine Z.if_lt 19 dX8_weightOf_1 rfl ⟨fun c_1 => ?_, fun c_1 => ?_⟩
  · replace K := K.1 c_1
    refine Z.iconst (n := 1) dX8_weightOf_19 ⟨by decide, by decide⟩ ?_
    exact Z.iret (ty := .int) dX8_weightOf_20 rfl rfl K
  · replace K := K.2 c_1
    refine Z.iload_n (k := 1) dX8_weightOf_4 rfl ?_
    refine Z.bipush (n := 16) dX8_weightOf_5 ⟨by decide, by decide⟩ (by decide) ?_
    refine Z.icmp_ge 19 dX8_weightOf_7 rfl ⟨fun c_2 => ?_, fun c_2 => ?_⟩
    · replace K := K.1 c_2
      refine Z.iconst (n := 1) dX8_weightOf_19 ⟨by decide, by decide⟩ ?_
      exact Z.iret (ty := .int) dX8_weightOf_20 rfl rfl K
    · replace K := K.2 c_2
      refine Z.aload_n (k := 0) dX8_weightOf_10 rfl ?_
      refine Y.getR (o := some 4) 2 dX8_weightOf_11 zl_X8_19 (rfl) (by decide) rfl (zX_0_0 hX).2.2 (zX_1_2 hX).1 ?_
      refine Z.iload_n (k := 1) dX8_weightOf_14 rfl ?_
      obtain ⟨z_3, K⟩ := K
      refine Y.iald dX8_weightOf_15 (rfl) ((zX_1_2 hX).2.2) z_3 ?_
      refine Z.goto 20 dX8_weightOf_16 rfl ?_
      exact Z.iret (ty := .int) dX8_weightOf_20 rfl rfl K
set_option maxRecDepth 20000 in
theorem X8_partsOf_0 {kz : Nat × Nat} {Q : Option zV → zH → Prop} {d : List Nat} {G : Nat → Int → Option Nat} {E : Nat → Int → Int} {v1 : Int} (hX : zK zXt d G) (K : (v1 < 0 → Q (some (zI 0)) (d, G, E)) ∧ (¬ (v1 < 0) → (16 ≤ v1 → Q (some (zI 0)) (d, G, E)) ∧ (¬ (16 ≤ v1) → ((0 : Int) ≤ v1 ∧ v1 < (16 : Int)) ∧ Q (some (zI ((E 3 v1)))) (d, G, E)))) : Z zm_X8_partsOf kz Q 0 [(0, zR 1), (1, zI v1)] [] (d, G, E) := by
  refine Z.iload_n (k := 1) dX8_partsOf_0 rfl ?_
  refine Z.if_lt 19 dX8_partsOf_1 rfl ⟨fun c_1 => ?_, fun c_1 => ?_⟩
  · replace K := K.1 c_1
    refine Z.iconst (n := 0) dX8_partsOf_19 ⟨by decide, by decide⟩ ?_
    exact Z.iret (ty := .int) dX8_partsOf_20 rfl rfl K
  · replace K := K.2 c_1
    refine Z.iload_n (k := 1) dX8_partsOf_4 rfl ?_
    refine Z.bipush (n := 16) dX8_partsOf_5 ⟨by decide, by decide⟩ (by decide) ?_
    refine Z.icmp_ge 19 dX8_partsOf_7 rfl ⟨fun c_2 => ?_, fun c_2 => ?_⟩
    · replace K := K.1 c_2
      refine Z.iconst (n := 0) dX8_partsOf_19 ⟨by decide, by decide⟩ ?_
      exact Z.iret (ty := .int) dX8_partsOf_20 rfl rfl K
    · replace K := K.2 c_2
      refine Z.aload_n (k := 0) dX8_partsOf_10 rfl ?_
      refine Y.getR (o := some 3) 1 dX8_partsOf_11 zl_X8_15 (rfl) (by decide) rfl (zX_0_0 hX).2.2 (zX_1_1 hX).1 ?_
      refine Z.iload_n (k := 1) dX8_partsOf_14 rfl ?_
      obtain ⟨z_3, K⟩ := K
      refine Y.iald dX8_partsOf_15 (rfl) ((zX_1_1 hX).2.2) z_3 ?_
      refine Z.goto 20 dX8_partsOf_16 rfl ?_
      exact Z.iret (ty := .int) dX8_partsOf_20 rfl rfl K
set_option maxRecDepth 20000 in
theorem X8_init_0 {kz : Nat × Nat} {Q : Option zV → zH → Prop} {d : List Nat} {G : Nat → Int → Option Nat} {E : Nat → Int → Int}  (hm1 : 1 ∈ d) (K : ∃ a_1, zkd a_1 = (1, (16 : Int).toNat) ∧ (0 : Int) ≤ 16 ∧ 16 ≤ (100000 : Int) ∧ a_1 ∉ d ∧ ¬ zst3 a_1 ∧ d.length + 1 ≤ kz.1 ∧ zsl d + (zkd a_1).2 ≤ kz.2 ∧ ∀ d_9 G_10 E_11, d_9 = d ++ [a_1] → G_10 = zclG G a_1 → E_11 = zclE E a_1 → (∀ G_12, G_12 = zuG G_10 1 0 (some a_1) → ∃ a_13, zkd a_13 = (0, (16 : Int).toNat) ∧ (0 : Int) ≤ 16 ∧ 16 ≤ (100000 : Int) ∧ a_13 ∉ d_9 ∧ ¬ zst3 a_13 ∧ d_9.length + 1 ≤ kz.1 ∧ zsl d_9 + (zkd a_13).2 ≤ kz.2 ∧ ∀ d_21 G_22 E_23, d_21 = d_9 ++ [a_13] → G_22 = zclG G_12 a_13 → E_23 = zclE E_11 a_13 → (∀ G_24, G_24 = zuG G_22 1 1 (some a_13) → ∃ a_25, zkd a_25 = (0, (16 : Int).toNat) ∧ (0 : Int) ≤ 16 ∧ 16 ≤ (100000 : Int) ∧ a_25 ∉ d_21 ∧ ¬ zst3 a_25 ∧ d_21.length + 1 ≤ kz.1 ∧ zsl d_21 + (zkd a_25).2 ≤ kz.2 ∧ ∀ d_33 G_34 E_35, d_33 = d_21 ++ [a_25] → G_34 = zclG G_24 a_25 → E_35 = zclE E_23 a_25 → (∀ G_36, G_36 = zuG G_34 1 2 (some a_25) → ∀ E_37, E_37 = zuE E_35 1 3 1 → ∃ b_38 n_40, (G_36 1 0) = some b_38 ∧ zkd b_38 = (1, n_40) ∧ b_38 ∈ d_33 ∧ ((0 : Int) ≤ 0 ∧ 0 < (n_40 : Int)) ∧ ∀ E_44, E_44 = zuE E_37 b_38 0 1 → ∃ b_45 n_47, (G_36 1 1) = some b_45 ∧ zkd b_45 = (0, n_47) ∧ b_45 ∈ d_33 ∧ ((0 : Int) ≤ 0 ∧ 0 < (n_47 : Int)) ∧ ∀ E_51, E_51 = zuE E_44 b_45 0 2 → ∃ b_52 n_54, (G_36 1 2) = some b_52 ∧ zkd b_52 = (0, n_54) ∧ b_52 ∈ d_33 ∧ ((0 : Int) ≤ 0 ∧ 0 < (n_54 : Int)) ∧ ∀ E_58, E_58 = zuE E_51 b_52 0 1 → Q none (d_33, G_36, E_58))))) : Z zm_X8_init kz Q 0 [(0, zR 1)] [] (d, G, E) := by
  refine Z.aload_n (k := 0) dX8_init_0 rfl ?_
  refine Z.objInit (a := 1) dX8_init_1 zk_X8_3 ⟨by decide, by decide⟩ (Nat.le_of_ble_eq_true rfl) ?_
  refine Z.aload_n (k := 0) dX8_init_4 rfl ?_
  refine Z.bipush (n := 16) dX8_init_5 ⟨by decide, by decide⟩ (by decide) ?_
  obtain ⟨a_1, z_2, z_3, z_4, z_5, z_6, z_7, z_8, K⟩ := K
  refine Y.newZ a_1 dX8_init_7 z_2 z_3 z_4 zaz z_5 z_6 z_7 z_8 ?_
  generalize ed_9 : d ++ [a_1] = d_9
  generalize eG_10 : zclG G a_1 = G_10
  generalize eE_11 : zclE E a_1 = E_11
  replace K := K d_9 G_10 E_11 ed_9.symm eG_10.symm eE_11.symm
  refine Y.putR 0 dX8_init_9 zw_X8_9 (fun _ => ⟨rfl, rfl⟩) (rfl) rfl (by rw [← ed_9]; exact List.mem_append_left _ (hm1)) (fun b hb => by cases hb; exact (by rw [← ed_9]; exact List.mem_append_right _ List.mem_cons_self)) ?_
  generalize eG_12 : zuG G_10 1 0 (some a_1) = G_12
  replace K := K G_12 eG_12.symm
  refine Z.aload_n (k := 0) dX8_init_12 rfl ?_
  refine Z.bipush (n := 16) dX8_init_13 ⟨by decide, by decide⟩ (by decide) ?_
  obtain ⟨a_13, z_14, z_15, z_16, z_17, z_18, z_19, z_20, K⟩ := K
  refine Y.newI a_13 dX8_init_15 z_14 z_15 z_16 zai z_17 z_18 z_19 z_20 ?_
  generalize ed_21 : d_9 ++ [a_13] = d_21
  generalize eG_22 : zclG G_12 a_13 = G_22
  generalize eE_23 : zclE E_11 a_13 = E_23
  replace K := K d_21 G_22 E_23 ed_21.symm eG_22.symm eE_23.symm
  refine Y.putR 1 dX8_init_17 zw_X8_15 (fun _ => ⟨rfl, rfl⟩) (rfl) rfl (by rw [← ed_21]; exact List.mem_append_left _ ((by rw [← ed_9]; exact List.mem_append_left _ (hm1)))) (fun b hb => by cases hb; exact (by rw [← ed_21]; exact List.mem_append_right _ List.mem_cons_self)) ?_
  generalize eG_24 : zuG G_22 1 1 (some a_13) = G_24
  replace K := K G_24 eG_24.symm
  refine Z.aload_n (k := 0) dX8_init_20 rfl ?_
  refine Z.bipush (n := 16) dX8_init_21 ⟨by decide, by decide⟩ (by decide) ?_
  obtain ⟨a_25, z_26, z_27, z_28, z_29, z_30, z_31, z_32, K⟩ := K
  refine Y.newI a_25 dX8_init_23 z_26 z_27 z_28 zai z_29 z_30 z_31 z_32 ?_
  generalize ed_33 : d_21 ++ [a_25] = d_33
  generalize eG_34 : zclG G_24 a_25 = G_34
  generalize eE_35 : zclE E_23 a_25 = E_35
  replace K := K d_33 G_34 E_35 ed_33.symm eG_34.symm eE_35.symm
  refine Y.putR 2 dX8_init_25 zw_X8_19 (fun _ => ⟨rfl, rfl⟩) (rfl) rfl (by rw [← ed_33]; exact List.mem_append_left _ ((by rw [← ed_21]; exact List.mem_append_left _ ((by rw [← ed_9]; exact List.mem_append_left _ (hm1)))))) (fun b hb => by cases hb; exact (by rw [← ed_33]; exact List.mem_append_right _ List.mem_cons_self)) ?_
  generalize eG_36 : zuG G_34 1 2 (some a_25) = G_36
  replace K := K G_36 eG_36.symm
  refine Z.aload_n (k := 0) dX8_init_28 rfl ?_
  refine Z.iconst (n := 1) dX8_init_29 ⟨by decide, by decide⟩ ?_
  refine Y.putI 3 dX8_init_30 zw_X8_22 (fun q => by cases q) (rfl) rfl (by rw [← ed_33]; exact List.mem_append_left _ ((by rw [← ed_21]; exact List.mem_append_left _ ((by rw [← ed_9]; exact List.mem_append_left _ (hm1)))))) (Or.inl rfl) ?_
  generalize eE_37 : zuE E_35 1 3 1 = E_37
  replace K := K E_37 eE_37.symm
  refine Z.aload_n (k := 0) dX8_init_33 rfl ?_
  refine Y.getR (o := (G_36 1 0)) 0 dX8_init_34 zl_X8_9 (rfl) (by decide) rfl (by rw [← ed_33]; exact List.mem_append_left _ ((by rw [← ed_21]; exact List.mem_append_left _ ((by rw [← ed_9]; exact List.mem_append_left _ (hm1)))))) rfl ?_
  refine Z.iconst (n := 0) dX8_init_37 ⟨by decide, by decide⟩ ?_
  refine Z.iconst (n := 1) dX8_init_38 ⟨by decide, by decide⟩ ?_
  obtain ⟨b_38, n_40, e_39, hk_41, hm_42, K⟩ := K
  rw [e_39]
  obtain ⟨z_43, K⟩ := K
  refine Y.zast dX8_init_39 (hk_41) (hm_42) z_43 (by decide) ?_
  generalize eE_44 : zuE E_37 b_38 0 1 = E_44
  replace K := K E_44 eE_44.symm
  refine Z.aload_n (k := 0) dX8_init_40 rfl ?_
  refine Y.getR (o := (G_36 1 1)) 1 dX8_init_41 zl_X8_15 (rfl) (by decide) rfl (by rw [← ed_33]; exact List.mem_append_left _ ((by rw [← ed_21]; exact List.mem_append_left _ ((by rw [← ed_9]; exact List.mem_append_left _ (hm1)))))) rfl ?_
  refine Z.iconst (n := 0) dX8_init_44 ⟨by decide, by decide⟩ ?_
  refine Z.iconst (n := 2) dX8_init_45 ⟨by decide, by decide⟩ ?_
  obtain ⟨b_45, n_47, e_46, hk_48, hm_49, K⟩ := K
  rw [e_46]
  obtain ⟨z_50, K⟩ := K
  refine Y.iast dX8_init_46 (hk_48) (hm_49) z_50 ?_
  generalize eE_51 : zuE E_44 b_45 0 2 = E_51
  replace K := K E_51 eE_51.symm
  refine Z.aload_n (k := 0) dX8_init_47 rfl ?_
  refine Y.getR (o := (G_36 1 2)) 2 dX8_init_48 zl_X8_19 (rfl) (by decide) rfl (by rw [← ed_33]; exact List.mem_append_left _ ((by rw [← ed_21]; exact List.mem_append_left _ ((by rw [← ed_9]; exact List.mem_append_left _ (hm1)))))) rfl ?_
  refine Z.iconst (n := 0) dX8_init_51 ⟨by decide, by decide⟩ ?_
  refine Z.iconst (n := 1) dX8_init_52 ⟨by decide, by decide⟩ ?_
  obtain ⟨b_52, n_54, e_53, hk_55, hm_56, K⟩ := K
  rw [e_53]
  obtain ⟨z_57, K⟩ := K
  refine Y.iast dX8_init_53 (hk_55) (hm_56) z_57 ?_
  generalize eE_58 : zuE E_51 b_52 0 1 = E_58
  replace K := K E_58 eE_58.symm
  exact Z.vret dX8_init_54 rfl K
set_option maxRecDepth 20000 in
theorem X8_add_0 {kz : Nat × Nat} {Q : Option zV → zH → Prop} {d : List Nat} {G : Nat → Int → Option Nat} {E : Nat → Int → Int} {v1 : Int} {v2 : Int} {v3 : Int} (hX : zK zXt d G) (K : ((E 1 3) < 16 → ((0 : Int) ≤ (E 1 3) ∧ (E 1 3) < (16 : Int)) ∧ (v1 = 0 ∨ v1 = 1) ∧ ∀ E_4, E_4 = zuE E 2 ((E 1 3)) v1 → ((0 : Int) ≤ (E_4 1 3) ∧ (E_4 1 3) < (16 : Int)) ∧ ∀ E_6, E_6 = zuE E_4 3 ((E_4 1 3)) v2 → ((0 : Int) ≤ (E_6 1 3) ∧ (E_6 1 3) < (16 : Int)) ∧ ∀ E_8, E_8 = zuE E_6 4 ((E_6 1 3)) v3 → zin ((E_8 1 3) + 1) ∧ ∀ E_10, E_10 = zuE E_8 1 3 (((E_8 1 3) + 1)) → zin ((E_10 1 3) - 1) ∧ Q (some (zI (((E_10 1 3) - 1)))) (d, G, E_10)) ∧ (¬ ((E 1 3) < 16) → Q (some (zI ((-4)))) (d, G, E))) : Z zm_X8_add kz Q 0 [(0, zR 1), (1, zI v1), (2, zI v2), (3, zI v3)] [] (d, G, E) := by
  refine Z.aload_n (k := 0) dX8_add_0 rfl ?_
  refine Y.getI 3 dX8_add_1 zl_X8_22 (rfl) (by decide) rfl (zX_0_0 hX).2.2 ?_
  refine Z.bipush (n := 16) dX8_add_4 ⟨by decide, by decide⟩ (by decide) ?_
  refine Z.icmp_lt 12 dX8_add_6 rfl ⟨fun c_1 => ?_, fun c_1 => ?_⟩
  · replace K := K.1 c_1
    refine Z.aload_n (k := 0) dX8_add_12 rfl ?_
    refine Y.getR (o := some 2) 0 dX8_add_13 zl_X8_9 (rfl) (by decide) rfl (zX_0_0 hX).2.2 (zX_1_0 hX).1 ?_
    refine Z.aload_n (k := 0) dX8_add_16 rfl ?_
    refine Y.getI 3 dX8_add_17 zl_X8_22 (rfl) (by decide) rfl (zX_0_0 hX).2.2 ?_
    refine Z.iload_n (k := 1) dX8_add_20 rfl ?_
    obtain ⟨z_2, K⟩ := K
    obtain ⟨z_3, K⟩ := K
    refine Y.zast dX8_add_21 (rfl) ((zX_1_0 hX).2.2) z_2 z_3 ?_
    generalize eE_4 : zuE E 2 ((E 1 3)) v1 = E_4
    replace K := K E_4 eE_4.symm
    refine Z.aload_n (k := 0) dX8_add_22 rfl ?_
    refine Y.getR (o := some 3) 1 dX8_add_23 zl_X8_15 (rfl) (by decide) rfl (zX_0_0 hX).2.2 (zX_1_1 hX).1 ?_
    refine Z.aload_n (k := 0) dX8_add_26 rfl ?_
    refine Y.getI 3 dX8_add_27 zl_X8_22 (rfl) (by decide) rfl (zX_0_0 hX).2.2 ?_
    refine Z.iload_n (k := 2) dX8_add_30 rfl ?_
    obtain ⟨z_5, K⟩ := K
    refine Y.iast dX8_add_31 (rfl) ((zX_1_1 hX).2.2) z_5 ?_
    generalize eE_6 : zuE E_4 3 ((E_4 1 3)) v2 = E_6
    replace K := K E_6 eE_6.symm
    refine Z.aload_n (k := 0) dX8_add_32 rfl ?_
    refine Y.getR (o := some 4) 2 dX8_add_33 zl_X8_19 (rfl) (by decide) rfl (zX_0_0 hX).2.2 (zX_1_2 hX).1 ?_
    refine Z.aload_n (k := 0) dX8_add_36 rfl ?_
    refine Y.getI 3 dX8_add_37 zl_X8_22 (rfl) (by decide) rfl (zX_0_0 hX).2.2 ?_
    refine Z.iload_n (k := 3) dX8_add_40 rfl ?_
    obtain ⟨z_7, K⟩ := K
    refine Y.iast dX8_add_41 (rfl) ((zX_1_2 hX).2.2) z_7 ?_
    generalize eE_8 : zuE E_6 4 ((E_6 1 3)) v3 = E_8
    replace K := K E_8 eE_8.symm
    refine Z.aload_n (k := 0) dX8_add_42 rfl ?_
    refine Z.dup_i dX8_add_43 (fun _ => rfl) ?_
    refine Y.getI 3 dX8_add_44 zl_X8_22 (rfl) (by decide) rfl (zX_0_0 hX).2.2 ?_
    refine Z.iconst (n := 1) dX8_add_47 ⟨by decide, by decide⟩ ?_
    obtain ⟨z_9, K⟩ := K
    refine Z.iadd dX8_add_48 z_9 ?_
    refine Y.putI 3 dX8_add_49 zw_X8_22 (fun q => by cases q) (rfl) rfl (zX_0_0 hX).2.2 (Or.inl rfl) ?_
    generalize eE_10 : zuE E_8 1 3 (((E_8 1 3) + 1)) = E_10
    replace K := K E_10 eE_10.symm
    refine Z.aload_n (k := 0) dX8_add_52 rfl ?_
    refine Y.getI 3 dX8_add_53 zl_X8_22 (rfl) (by decide) rfl (zX_0_0 hX).2.2 ?_
    refine Z.iconst (n := 1) dX8_add_56 ⟨by decide, by decide⟩ ?_
    obtain ⟨z_11, K⟩ := K
    refine Z.isub dX8_add_57 z_11 ?_
    exact Z.iret (ty := .int) dX8_add_58 rfl rfl K
  · replace K := K.2 c_1
    refine Z.bipush (n := -4) dX8_add_9 ⟨by decide, by decide⟩ (by decide) ?_
    exact Z.iret (ty := .int) dX8_add_11 rfl rfl K
set_option maxRecDepth 20000 in
theorem X8_isSaying_0 {kz : Nat × Nat} {Q : Option zV → zH → Prop} {d : List Nat} {G : Nat → Int → Option Nat} {E : Nat → Int → Int} {v1 : Int} (hX : zK zXt d G) (K : (v1 < 0 → Q (some (zI 0)) (d, G, E)) ∧ (¬ (v1 < 0) → ((E 1 3) ≤ v1 → Q (some (zI 0)) (d, G, E)) ∧ (¬ ((E 1 3) ≤ v1) → ((0 : Int) ≤ v1 ∧ v1 < (16 : Int)) ∧ ((E 2 v1) = 0 → Q (some (zI 0)) (d, G, E)) ∧ (¬ ((E 2 v1) = 0) → Q (some (zI 1)) (d, G, E))))) : Z zm_X8_isSaying kz Q 0 [(0, zR 1), (1, zI v1)] [] (d, G, E) := by
  refine Z.iload_n (k := 1) dX8_isSaying_0 rfl ?_
  refine Z.if_lt 25 dX8_isSaying_1 rfl ⟨fun c_1 => ?_, fun c_1 => ?_⟩
  · replace K := K.1 c_1
    refine Z.iconst (n := 0) dX8_isSaying_25 ⟨by decide, by decide⟩ ?_
    exact Z.iret (ty := .boolean) dX8_isSaying_26 rfl rfl K
  · replace K := K.2 c_1
    refine Z.iload_n (k := 1) dX8_isSaying_4 rfl ?_
    refine Z.aload_n (k := 0) dX8_isSaying_5 rfl ?_
    refine Y.getI 3 dX8_isSaying_6 zl_X8_22 (rfl) (by decide) rfl (zX_0_0 hX).2.2 ?_
    refine Z.icmp_ge 25 dX8_isSaying_9 rfl ⟨fun c_2 => ?_, fun c_2 => ?_⟩
    · replace K := K.1 c_2
      refine Z.iconst (n := 0) dX8_isSaying_25 ⟨by decide, by decide⟩ ?_
      exact Z.iret (ty := .boolean) dX8_isSaying_26 rfl rfl K
    · replace K := K.2 c_2
      refine Z.aload_n (k := 0) dX8_isSaying_12 rfl ?_
      refine Y.getR (o := some 2) 0 dX8_isSaying_13 zl_X8_9 (rfl) (by decide) rfl (zX_0_0 hX).2.2 (zX_1_0 hX).1 ?_
      refine Z.iload_n (k := 1) dX8_isSaying_16 rfl ?_
      obtain ⟨z_3, K⟩ := K
      refine Y.zald dX8_isSaying_17 (rfl) ((zX_1_0 hX).2.2) z_3 ?_
      refine Z.if_eq 25 dX8_isSaying_18 rfl ⟨fun c_4 => ?_, fun c_4 => ?_⟩
      · replace K := K.1 c_4
        refine Z.iconst (n := 0) dX8_isSaying_25 ⟨by decide, by decide⟩ ?_
        exact Z.iret (ty := .boolean) dX8_isSaying_26 rfl rfl K
      · replace K := K.2 c_4
        refine Z.iconst (n := 1) dX8_isSaying_21 ⟨by decide, by decide⟩ ?_
        refine Z.goto 26 dX8_isSaying_22 rfl ?_
        exact Z.iret (ty := .boolean) dX8_isSaying_26 rfl rfl K
set_option maxRecDepth 20000 in
theorem X8_isFunction_0 {kz : Nat × Nat} {Q : Option zV → zH → Prop} {d : List Nat} {G : Nat → Int → Option Nat} {E : Nat → Int → Int} {v1 : Int} (hX : zK zXt d G) (K : (v1 < 0 → Q (some (zI 0)) (d, G, E)) ∧ (¬ (v1 < 0) → ((E 1 3) ≤ v1 → Q (some (zI 0)) (d, G, E)) ∧ (¬ ((E 1 3) ≤ v1) → ((0 : Int) ≤ v1 ∧ v1 < (16 : Int)) ∧ ((E 2 v1) ≠ 0 → Q (some (zI 0)) (d, G, E)) ∧ (¬ ((E 2 v1) ≠ 0) → Q (some (zI 1)) (d, G, E))))) : Z zm_X8_isFunction kz Q 0 [(0, zR 1), (1, zI v1)] [] (d, G, E) := by
  refine Z.iload_n (k := 1) dX8_isFunction_0 rfl ?_
  refine Z.if_lt 25 dX8_isFunction_1 rfl ⟨fun c_1 => ?_, fun c_1 => ?_⟩
  · replace K := K.1 c_1
    refine Z.iconst (n := 0) dX8_isFunction_25 ⟨by decide, by decide⟩ ?_
    exact Z.iret (ty := .boolean) dX8_isFunction_26 rfl rfl K
  · replace K := K.2 c_1
    refine Z.iload_n (k := 1) dX8_isFunction_4 rfl ?_
    refine Z.aload_n (k := 0) dX8_isFunction_5 rfl ?_
    refine Y.getI 3 dX8_isFunction_6 zl_X8_22 (rfl) (by decide) rfl (zX_0_0 hX).2.2 ?_
    refine Z.icmp_ge 25 dX8_isFunction_9 rfl ⟨fun c_2 => ?_, fun c_2 => ?_⟩
    · replace K := K.1 c_2
      refine Z.iconst (n := 0) dX8_isFunction_25 ⟨by decide, by decide⟩ ?_
      exact Z.iret (ty := .boolean) dX8_isFunction_26 rfl rfl K
    · replace K := K.2 c_2
      refine Z.aload_n (k := 0) dX8_isFunction_12 rfl ?_
      refine Y.getR (o := some 2) 0 dX8_isFunction_13 zl_X8_9 (rfl) (by decide) rfl (zX_0_0 hX).2.2 (zX_1_0 hX).1 ?_
      refine Z.iload_n (k := 1) dX8_isFunction_16 rfl ?_
      obtain ⟨z_3, K⟩ := K
      refine Y.zald dX8_isFunction_17 (rfl) ((zX_1_0 hX).2.2) z_3 ?_
      refine Z.if_ne 25 dX8_isFunction_18 rfl ⟨fun c_4 => ?_, fun c_4 => ?_⟩
      · replace K := K.1 c_4
        refine Z.iconst (n := 0) dX8_isFunction_25 ⟨by decide, by decide⟩ ?_
        exact Z.iret (ty := .boolean) dX8_isFunction_26 rfl rfl K
      · replace K := K.2 c_4
        refine Z.iconst (n := 1) dX8_isFunction_21 ⟨by decide, by decide⟩ ?_
        refine Z.goto 26 dX8_isFunction_22 rfl ?_
        exact Z.iret (ty := .boolean) dX8_isFunction_26 rfl rfl K
