set_option maxRecDepth 20000 in
theorem X8_after_0 {kz : Nat × Nat} {Q : Option zV → zH → Prop} {d : List Nat} {G : Nat → Int → Option Nat} {E : Nat → Int → Int} {a1 n1 : Nat} {v2 : Int} (hX : zK zXt d G) (ha1 : a1 ∈ d) (hk1 : zkd a1 = (0, n1)) (K : Z zm_X8_after kz Q 5 [(0, zR 1), (1, zR a1), (3, zI 1), (4, zI v2)] [] (d, G, E)) : Z zm_X8_after kz Q 0 [(0, zR 1), (1, zR a1), (2, zI v2)] [] (d, G, E) := by
  refine Z.iconst (n := 1) dX8_after_0 ⟨by decide, by decide⟩ ?_
  refine Z.istore_n (ls' := [(3, zI 1), (0, zR 1), (1, zR a1), (2, zI v2)]) dX8_after_1 (by decide) rfl ?_
  refine Z.iload_n (k := 3) dX8_after_2 rfl ?_
  refine Z.istore (ls' := [(4, zI v2), (3, zI 1), (0, zR 1), (1, zR a1), (2, zI v2)]) dX8_after_3 (by decide) rfl ?_
  refine Z.pick (ls' := [(0, zR 1), (1, zR a1), (3, zI 1), (4, zI v2)]) [2, 3, 1, 0] rfl ?_
  exact K
set_option maxRecDepth 20000 in
theorem X8_after_5 {kz : Nat × Nat} {Q : Option zV → zH → Prop} {d : List Nat} {G : Nat → Int → Option Nat} {E : Nat → Int → Int} {a1 n1 : Nat} {v3 : Int} {v4 : Int} (hX : zK zXt d G) (ha1 : a1 ∈ d) (hk1 : zkd a1 = (0, n1)) (K : (v3 ≤ 0 → Q (some (zI v4)) (d, G, E)) ∧ (¬ (v3 ≤ 0) → (v4 < 0 → Q (some (zI v4)) (d, G, E)) ∧ (¬ (v4 < 0) → zin (n1 : Int) ∧ ((n1 : Int) ≤ v4 → Q (some (zI v4)) (d, G, E)) ∧ (¬ ((n1 : Int) ≤ v4) → ((0 : Int) ≤ v4 ∧ v4 < n1) ∧ ((E a1 v4) < 0 → zin (v3 + (-1)) ∧ zin (v4 + 1) ∧ Z zm_X8_after kz Q 5 [(0, zR 1), (1, zR a1), (3, zI ((v3 + (-1)))), (4, zI ((v4 + 1)))] [] (d, G, E)) ∧ (¬ ((E a1 v4) < 0) → (16 ≤ (E a1 v4) → zin (v3 + (-1)) ∧ zin (v4 + 1) ∧ Z zm_X8_after kz Q 5 [(0, zR 1), (1, zR a1), (3, zI ((v3 + (-1)))), (4, zI ((v4 + 1)))] [] (d, G, E)) ∧ (¬ (16 ≤ (E a1 v4)) → ((0 : Int) ≤ (E a1 v4) ∧ (E a1 v4) < 16) ∧ zin ((E 3 (E a1 v4)) - 1) ∧ zin (v3 + ((E 3 (E a1 v4)) - 1)) ∧ zin (v4 + 1) ∧ Z zm_X8_after kz Q 5 [(0, zR 1), (1, zR a1), (3, zI ((v3 + ((E 3 (E a1 v4)) - 1)))), (4, zI ((v4 + 1)))] [] (d, G, E))))))) : Z zm_X8_after kz Q 5 [(0, zR 1), (1, zR a1), (3, zI v3), (4, zI v4)] [] (d, G, E) := by
  refine Z.iload_n (k := 2) dX8_after_5 rfl ?_
  refine Z.if_le 61 dX8_after_6 rfl ⟨fun c1 => ?_, fun c1 => ?_⟩
  · replace K := K.1 c1
    refine Z.iload (k := 3) dX8_after_61 rfl ?_
    exact Z.iret (ty := .int) dX8_after_63 rfl rfl K
  · replace K := K.2 c1
    refine Z.iload (k := 3) dX8_after_9 rfl ?_
    refine Z.if_lt 61 dX8_after_11 rfl ⟨fun c2 => ?_, fun c2 => ?_⟩
    · replace K := K.1 c2
      refine Z.iload (k := 3) dX8_after_61 rfl ?_
      exact Z.iret (ty := .int) dX8_after_63 rfl rfl K
    · replace K := K.2 c2
      refine Z.iload (k := 3) dX8_after_14 rfl ?_
      refine Z.aload_n (k := 1) dX8_after_16 rfl ?_
      obtain ⟨z3, K⟩ := K
      refine Y.alen n1 (n1 : Int) dX8_after_17 (hk1) (ha1) rfl z3 ?_
      refine Z.icmp_ge 61 dX8_after_18 rfl ⟨fun c4 => ?_, fun c4 => ?_⟩
      · replace K := K.1 c4
        refine Z.iload (k := 3) dX8_after_61 rfl ?_
        exact Z.iret (ty := .int) dX8_after_63 rfl rfl K
      · replace K := K.2 c4
        refine Z.aload_n (k := 1) dX8_after_21 rfl ?_
        refine Z.iload (k := 3) dX8_after_22 rfl ?_
        obtain ⟨z5, K⟩ := K
        refine Y.iald dX8_after_24 (hk1) (ha1) z5 ?_
        refine Z.istore (ls' := [(5, zI ((E a1 v4))), (0, zR 1), (1, zR a1), (3, zI v3), (4, zI v4)]) dX8_after_25 (by decide) rfl ?_
        refine Z.iload_n (k := 3) dX8_after_27 rfl ?_
        refine Z.iload (k := 0) dX8_after_28 rfl ?_
        refine Z.if_lt 52 dX8_after_30 rfl ⟨fun c6 => ?_, fun c6 => ?_⟩
        · replace K := K.1 c6
          refine Z.iconst (n := -1) dX8_after_52 ⟨by decide, by decide⟩ ?_
          obtain ⟨z7, K⟩ := K
          refine Z.iadd dX8_after_53 z7 ?_
          refine Z.istore_n (ls' := [(3, zI ((v3 + (-1)))), (5, zI ((E a1 v4))), (0, zR 1), (1, zR a1), (4, zI v4)]) dX8_after_54 (by decide) rfl ?_
          obtain ⟨z8, K⟩ := K
          refine Z.iinc (k := 4) (ls' := [(4, zI ((v4 + 1))), (3, zI ((v3 + (-1)))), (5, zI ((E a1 v4))), (0, zR 1), (1, zR a1)]) dX8_after_55 rfl (by decide) z8 rfl ?_
          refine Z.goto 5 dX8_after_58 rfl ?_
          refine Z.pick (ls' := [(0, zR 1), (1, zR a1), (3, zI ((v3 + (-1)))), (4, zI ((v4 + 1)))]) [3, 4, 1, 0] rfl ?_
          exact K
        · replace K := K.2 c6
          refine Z.iload (k := 0) dX8_after_33 rfl ?_
          refine Z.bipush (n := 16) dX8_after_35 ⟨by decide, by decide⟩ (by decide) ?_
          refine Z.icmp_ge 52 dX8_after_37 rfl ⟨fun c9 => ?_, fun c9 => ?_⟩
          · replace K := K.1 c9
            refine Z.iconst (n := -1) dX8_after_52 ⟨by decide, by decide⟩ ?_
            obtain ⟨z10, K⟩ := K
            refine Z.iadd dX8_after_53 z10 ?_
            refine Z.istore_n (ls' := [(3, zI ((v3 + (-1)))), (5, zI ((E a1 v4))), (0, zR 1), (1, zR a1), (4, zI v4)]) dX8_after_54 (by decide) rfl ?_
            obtain ⟨z11, K⟩ := K
            refine Z.iinc (k := 4) (ls' := [(4, zI ((v4 + 1))), (3, zI ((v3 + (-1)))), (5, zI ((E a1 v4))), (0, zR 1), (1, zR a1)]) dX8_after_55 rfl (by decide) z11 rfl ?_
            refine Z.goto 5 dX8_after_58 rfl ?_
            refine Z.pick (ls' := [(0, zR 1), (1, zR a1), (3, zI ((v3 + (-1)))), (4, zI ((v4 + 1)))]) [3, 4, 1, 0] rfl ?_
            exact K
          · replace K := K.2 c9
            refine Z.aload_n (k := 1) dX8_after_40 rfl ?_
            refine Y.getR (o := some 3) 1 dX8_after_41 zl_X8_15 (rfl) (by decide) rfl (zX_0_0 hX).2.2 (zX_1_1 hX).1 ?_
            refine Z.iload (k := 0) dX8_after_44 rfl ?_
            obtain ⟨z12, K⟩ := K
            refine Y.iald dX8_after_46 (rfl) ((zX_1_1 hX).2.2) z12 ?_
            refine Z.iconst (n := 1) dX8_after_47 ⟨by decide, by decide⟩ ?_
            obtain ⟨z13, K⟩ := K
            refine Z.isub dX8_after_48 z13 ?_
            refine Z.goto 53 dX8_after_49 rfl ?_
            obtain ⟨z14, K⟩ := K
            refine Z.iadd dX8_after_53 z14 ?_
            refine Z.istore_n (ls' := [(3, zI ((v3 + ((E 3 (E a1 v4)) - 1)))), (5, zI ((E a1 v4))), (0, zR 1), (1, zR a1), (4, zI v4)]) dX8_after_54 (by decide) rfl ?_
            obtain ⟨z15, K⟩ := K
            refine Z.iinc (k := 4) (ls' := [(4, zI ((v4 + 1))), (3, zI ((v3 + ((E 3 (E a1 v4)) - 1)))), (5, zI ((E a1 v4))), (0, zR 1), (1, zR a1)]) dX8_after_55 rfl (by decide) z15 rfl ?_
            refine Z.goto 5 dX8_after_58 rfl ?_
            refine Z.pick (ls' := [(0, zR 1), (1, zR a1), (3, zI ((v3 + ((E 3 (E a1 v4)) - 1)))), (4, zI ((v4 + 1)))]) [3, 4, 1, 0] rfl ?_
            exact K
set_option maxRecDepth 20000 in
theorem X8_weightOf_0 {kz : Nat × Nat} {Q : Option zV → zH → Prop} {d : List Nat} {G : Nat → Int → Option Nat} {E : Nat → Int → Int} {v1 : Int} (hX : zK zXt d G) (K : (v1 < 0 → Q (some (zI 1)) (d, G, E)) ∧ (¬ (v1 < 0) → (16 ≤ v1 → Q (some (zI 1)) (d, G, E)) ∧ (¬ (16 ≤ v1) → ((0 : Int) ≤ v1 ∧ v1 < 16) ∧ Q (some (zI ((E 4 v1)))) (d, G, E)))) : Z zm_X8_weightOf kz Q 0 [(0, zR 1), (1, zI v1)] [] (d, G, E) := by
  refine Z.iload_n (k := 1) dX8_weightOf_0 rfl ?_
  refine Z.if_lt 19 dX8_weightOf_1 rfl ⟨fun c1 => ?_, fun c1 => ?_⟩
  · replace K := K.1 c1
    refine Z.iconst (n := 1) dX8_weightOf_19 ⟨by decide, by decide⟩ ?_
    exact Z.iret (ty := .int) dX8_weightOf_20 rfl rfl K
  · replace K := K.2 c1
    refine Z.iload_n (k := 1) dX8_weightOf_4 rfl ?_
    refine Z.bipush (n := 16) dX8_weightOf_5 ⟨by decide, by decide⟩ (by decide) ?_
    refine Z.icmp_ge 19 dX8_weightOf_7 rfl ⟨fun c2 => ?_, fun c2 => ?_⟩
    · replace K := K.1 c2
      refine Z.iconst (n := 1) dX8_weightOf_19 ⟨by decide, by decide⟩ ?_
      exact Z.iret (ty := .int) dX8_weightOf_20 rfl rfl K
    · replace K := K.2 c2
      refine Z.aload_n (k := 0) dX8_weightOf_10 rfl ?_
      refine Y.getR (o := some 4) 2 dX8_weightOf_11 zl_X8_19 (rfl) (by decide) rfl (zX_0_0 hX).2.2 (zX_1_2 hX).1 ?_
      refine Z.iload_n (k := 1) dX8_weightOf_14 rfl ?_
      obtain ⟨z3, K⟩ := K
      refine Y.iald dX8_weightOf_15 (rfl) ((zX_1_2 hX).2.2) z3 ?_
      refine Z.goto 20 dX8_weightOf_16 rfl ?_
      exact Z.iret (ty := .int) dX8_weightOf_20 rfl rfl K
set_option maxRecDepth 20000 in
theorem X8_partsOf_0 {kz : Nat × Nat} {Q : Option zV → zH → Prop} {d : List Nat} {G : Nat → Int → Option Nat} {E : Nat → Int → Int} {v1 : Int} (hX : zK zXt d G) (K : (v1 < 0 → Q (some (zI 0)) (d, G, E)) ∧ (¬ (v1 < 0) → (16 ≤ v1 → Q (some (zI 0)) (d, G, E)) ∧ (¬ (16 ≤ v1) → ((0 : Int) ≤ v1 ∧ v1 < 16) ∧ Q (some (zI ((E 3 v1)))) (d, G, E)))) : Z zm_X8_partsOf kz Q 0 [(0, zR 1), (1, zI v1)] [] (d, G, E) := by
  refine Z.iload_n (k := 1) dX8_partsOf_0 rfl ?_
  refine Z.if_lt 19 dX8_partsOf_1 rfl ⟨fun c1 => ?_, fun c1 => ?_⟩
  · replace K := K.1 c1
    refine Z.iconst (n := 0) dX8_partsOf_19 ⟨by decide, by decide⟩ ?_
    exact Z.iret (ty := .int) dX8_partsOf_20 rfl rfl K
  · replace K := K.2 c1
    refine Z.iload_n (k := 1) dX8_partsOf_4 rfl ?_
    refine Z.bipush (n := 16) dX8_partsOf_5 ⟨by decide, by decide⟩ (by decide) ?_
    refine Z.icmp_ge 19 dX8_partsOf_7 rfl ⟨fun c2 => ?_, fun c2 => ?_⟩
    · replace K := K.1 c2
      refine Z.iconst (n := 0) dX8_partsOf_19 ⟨by decide, by decide⟩ ?_
      exact Z.iret (ty := .int) dX8_partsOf_20 rfl rfl K
    · replace K := K.2 c2
      refine Z.aload_n (k := 0) dX8_partsOf_10 rfl ?_
      refine Y.getR (o := some 3) 1 dX8_partsOf_11 zl_X8_15 (rfl) (by decide) rfl (zX_0_0 hX).2.2 (zX_1_1 hX).1 ?_
      refine Z.iload_n (k := 1) dX8_partsOf_14 rfl ?_
      obtain ⟨z3, K⟩ := K
      refine Y.iald dX8_partsOf_15 (rfl) ((zX_1_1 hX).2.2) z3 ?_
      refine Z.goto 20 dX8_partsOf_16 rfl ?_
      exact Z.iret (ty := .int) dX8_partsOf_20 rfl rfl K
set_option maxRecDepth 20000 in
theorem X8_init_0 {kz : Nat × Nat} {Q : Option zV → zH → Prop} {d : List Nat} {G : Nat → Int → Option Nat} {E : Nat → Int → Int}  (hm1 : 1 ∈ d) (K : ∃ a1, zkd a1 = (1, (16 : Int).toNat) ∧ (0 : Int) ≤ 16 ∧ 16 ≤ (100000 : Int) ∧ a1 ∉ d ∧ ¬ zst3 a1 ∧ d.length + 1 ≤ kz.1 ∧ zsl d + (zkd a1).2 ≤ kz.2 ∧ ∀ d9 G10 E11, d9 = d ++ [a1] → G10 = zclG G a1 → E11 = zclE E a1 → (∀ G12, G12 = zuG G10 1 0 (some a1) → ∃ a13, zkd a13 = (0, (16 : Int).toNat) ∧ (0 : Int) ≤ 16 ∧ 16 ≤ (100000 : Int) ∧ a13 ∉ d9 ∧ ¬ zst3 a13 ∧ d9.length + 1 ≤ kz.1 ∧ zsl d9 + (zkd a13).2 ≤ kz.2 ∧ ∀ d21 G22 E23, d21 = d9 ++ [a13] → G22 = zclG G12 a13 → E23 = zclE E11 a13 → (∀ G24, G24 = zuG G22 1 1 (some a13) → ∃ a25, zkd a25 = (0, (16 : Int).toNat) ∧ (0 : Int) ≤ 16 ∧ 16 ≤ (100000 : Int) ∧ a25 ∉ d21 ∧ ¬ zst3 a25 ∧ d21.length + 1 ≤ kz.1 ∧ zsl d21 + (zkd a25).2 ≤ kz.2 ∧ ∀ d33 G34 E35, d33 = d21 ++ [a25] → G34 = zclG G24 a25 → E35 = zclE E23 a25 → (∀ G36, G36 = zuG G34 1 2 (some a25) → ∀ E37, E37 = zuE E35 1 3 1 → ∃ b38 n40, (G36 1 0) = some b38 ∧ zkd b38 = (1, n40) ∧ b38 ∈ d33 ∧ ((0 : Int) ≤ 0 ∧ 0 < n40) ∧ ∀ E44, E44 = zuE E37 b38 0 1 → ∃ b45 n47, (G36 1 1) = some b45 ∧ zkd b45 = (0, n47) ∧ b45 ∈ d33 ∧ ((0 : Int) ≤ 0 ∧ 0 < n47) ∧ ∀ E51, E51 = zuE E44 b45 0 2 → ∃ b52 n54, (G36 1 2) = some b52 ∧ zkd b52 = (0, n54) ∧ b52 ∈ d33 ∧ ((0 : Int) ≤ 0 ∧ 0 < n54) ∧ ∀ E58, E58 = zuE E51 b52 0 1 → Q none (d33, G36, E58))))) : Z zm_X8_init kz Q 0 [(0, zR 1)] [] (d, G, E) := by
  refine Z.aload_n (k := 0) dX8_init_0 rfl ?_
  refine Z.objInit (a := 1) dX8_init_1 zk_X8_3 ⟨by decide, by decide⟩ (Nat.le_of_ble_eq_true rfl) ?_
  refine Z.aload_n (k := 0) dX8_init_4 rfl ?_
  refine Z.bipush (n := 16) dX8_init_5 ⟨by decide, by decide⟩ (by decide) ?_
  obtain ⟨a1, z2, z3, z4, z5, z6, z7, z8, K⟩ := K
  refine Y.newZ a1 dX8_init_7 z2 z3 z4 zaz z5 z6 z7 z8 ?_
  generalize ed9 : d ++ [a1] = d9
  generalize eG10 : zclG G a1 = G10
  generalize eE11 : zclE E a1 = E11
  replace K := K d9 G10 E11 ed9.symm eG10.symm eE11.symm
  refine Y.putR 0 dX8_init_9 zw_X8_9 (fun _ => ⟨rfl, rfl⟩) (rfl) rfl (by rw [← ed9]; exact List.mem_append_left _ (hm1)) (fun b hb => by cases hb; exact (by rw [← ed9]; exact List.mem_append_right _ List.mem_cons_self)) ?_
  generalize eG12 : zuG G10 1 0 (some a1) = G12
  replace K := K G12 eG12.symm
  refine Z.aload_n (k := 0) dX8_init_12 rfl ?_
  refine Z.bipush (n := 16) dX8_init_13 ⟨by decide, by decide⟩ (by decide) ?_
  obtain ⟨a13, z14, z15, z16, z17, z18, z19, z20, K⟩ := K
  refine Y.newI a13 dX8_init_15 z14 z15 z16 zai z17 z18 z19 z20 ?_
  generalize ed21 : d9 ++ [a13] = d21
  generalize eG22 : zclG G12 a13 = G22
  generalize eE23 : zclE E11 a13 = E23
  replace K := K d21 G22 E23 ed21.symm eG22.symm eE23.symm
  refine Y.putR 1 dX8_init_17 zw_X8_15 (fun _ => ⟨rfl, rfl⟩) (rfl) rfl (by rw [← ed21]; exact List.mem_append_left _ ((by rw [← ed9]; exact List.mem_append_left _ (hm1)))) (fun b hb => by cases hb; exact (by rw [← ed21]; exact List.mem_append_right _ List.mem_cons_self)) ?_
  generalize eG24 : zuG G22 1 1 (some a13) = G24
  replace K := K G24 eG24.symm
  refine Z.aload_n (k := 0) dX8_init_20 rfl ?_
  refine Z.bipush (n := 16) dX8_init_21 ⟨by decide, by decide⟩ (by decide) ?_
  obtain ⟨a25, z26, z27, z28, z29, z30, z31, z32, K⟩ := K
  refine Y.newI a25 dX8_init_23 z26 z27 z28 zai z29 z30 z31 z32 ?_
  generalize ed33 : d21 ++ [a25] = d33
  generalize eG34 : zclG G24 a25 = G34
  generalize eE35 : zclE E23 a25 = E35
  replace K := K d33 G34 E35 ed33.symm eG34.symm eE35.symm
  refine Y.putR 2 dX8_init_25 zw_X8_19 (fun _ => ⟨rfl, rfl⟩) (rfl) rfl (by rw [← ed33]; exact List.mem_append_left _ ((by rw [← ed21]; exact List.mem_append_left _ ((by rw [← ed9]; exact List.mem_append_left _ (hm1)))))) (fun b hb => by cases hb; exact (by rw [← ed33]; exact List.mem_append_right _ List.mem_cons_self)) ?_
  generalize eG36 : zuG G34 1 2 (some a25) = G36
  replace K := K G36 eG36.symm
  refine Z.aload_n (k := 0) dX8_init_28 rfl ?_
  refine Z.iconst (n := 1) dX8_init_29 ⟨by decide, by decide⟩ ?_
  refine Y.putI 3 dX8_init_30 zw_X8_22 (fun q => by cases q) (rfl) rfl (by rw [← ed33]; exact List.mem_append_left _ ((by rw [← ed21]; exact List.mem_append_left _ ((by rw [← ed9]; exact List.mem_append_left _ (hm1)))))) (Or.inl rfl) ?_
  generalize eE37 : zuE E35 1 3 1 = E37
  replace K := K E37 eE37.symm
  refine Z.aload_n (k := 0) dX8_init_33 rfl ?_
  refine Y.getR (o := (G36 1 0)) 0 dX8_init_34 zl_X8_9 (rfl) (by decide) rfl (by rw [← ed33]; exact List.mem_append_left _ ((by rw [← ed21]; exact List.mem_append_left _ ((by rw [← ed9]; exact List.mem_append_left _ (hm1)))))) rfl ?_
  refine Z.iconst (n := 0) dX8_init_37 ⟨by decide, by decide⟩ ?_
  refine Z.iconst (n := 1) dX8_init_38 ⟨by decide, by decide⟩ ?_
  obtain ⟨b38, n40, e39, hk41, hm42, K⟩ := K
  rw [e39]
  obtain ⟨z43, K⟩ := K
  refine Y.zast dX8_init_39 (hk41) (hm42) z43 (by decide) ?_
  generalize eE44 : zuE E37 b38 0 1 = E44
  replace K := K E44 eE44.symm
  refine Z.aload_n (k := 0) dX8_init_40 rfl ?_
  refine Y.getR (o := (G36 1 1)) 1 dX8_init_41 zl_X8_15 (rfl) (by decide) rfl (by rw [← ed33]; exact List.mem_append_left _ ((by rw [← ed21]; exact List.mem_append_left _ ((by rw [← ed9]; exact List.mem_append_left _ (hm1)))))) rfl ?_
  refine Z.iconst (n := 0) dX8_init_44 ⟨by decide, by decide⟩ ?_
  refine Z.iconst (n := 2) dX8_init_45 ⟨by decide, by decide⟩ ?_
  obtain ⟨b45, n47, e46, hk48, hm49, K⟩ := K
  rw [e46]
  obtain ⟨z50, K⟩ := K
  refine Y.iast dX8_init_46 (hk48) (hm49) z50 ?_
  generalize eE51 : zuE E44 b45 0 2 = E51
  replace K := K E51 eE51.symm
  refine Z.aload_n (k := 0) dX8_init_47 rfl ?_
  refine Y.getR (o := (G36 1 2)) 2 dX8_init_48 zl_X8_19 (rfl) (by decide) rfl (by rw [← ed33]; exact List.mem_append_left _ ((by rw [← ed21]; exact List.mem_append_left _ ((by rw [← ed9]; exact List.mem_append_left _ (hm1)))))) rfl ?_
  refine Z.iconst (n := 0) dX8_init_51 ⟨by decide, by decide⟩ ?_
  refine Z.iconst (n := 1) dX8_init_52 ⟨by decide, by decide⟩ ?_
  obtain ⟨b52, n54, e53, hk55, hm56, K⟩ := K
  rw [e53]
  obtain ⟨z57, K⟩ := K
  refine Y.iast dX8_init_53 (hk55) (hm56) z57 ?_
  generalize eE58 : zuE E51 b52 0 1 = E58
  replace K := K E58 eE58.symm
  exact Z.vret dX8_init_54 rfl K
set_option maxRecDepth 20000 in
theorem X8_add_0 {kz : Nat × Nat} {Q : Option zV → zH → Prop} {d : List Nat} {G : Nat → Int → Option Nat} {E : Nat → Int → Int} {v1 : Int} {v2 : Int} {v3 : Int} (hX : zK zXt d G) (K : ((E 1 3) < 16 → ((0 : Int) ≤ (E 1 3) ∧ (E 1 3) < 16) ∧ (v1 = 0 ∨ v1 = 1) ∧ ∀ E4, E4 = zuE E 2 ((E 1 3)) v1 → ((0 : Int) ≤ (E4 1 3) ∧ (E4 1 3) < 16) ∧ ∀ E6, E6 = zuE E4 3 ((E4 1 3)) v2 → ((0 : Int) ≤ (E6 1 3) ∧ (E6 1 3) < 16) ∧ ∀ E8, E8 = zuE E6 4 ((E6 1 3)) v3 → zin ((E8 1 3) + 1) ∧ ∀ E10, E10 = zuE E8 1 3 (((E8 1 3) + 1)) → zin ((E10 1 3) - 1) ∧ Q (some (zI (((E10 1 3) - 1)))) (d, G, E10)) ∧ (¬ ((E 1 3) < 16) → Q (some (zI ((-4)))) (d, G, E))) : Z zm_X8_add kz Q 0 [(0, zR 1), (1, zI v1), (2, zI v2), (3, zI v3)] [] (d, G, E) := by
  refine Z.aload_n (k := 0) dX8_add_0 rfl ?_
  refine Y.getI 3 dX8_add_1 zl_X8_22 (rfl) (by decide) rfl (zX_0_0 hX).2.2 ?_
  refine Z.bipush (n := 16) dX8_add_4 ⟨by decide, by decide⟩ (by decide) ?_
  refine Z.icmp_lt 12 dX8_add_6 rfl ⟨fun c1 => ?_, fun c1 => ?_⟩
  · replace K := K.1 c1
    refine Z.aload_n (k := 0) dX8_add_12 rfl ?_
    refine Y.getR (o := some 2) 0 dX8_add_13 zl_X8_9 (rfl) (by decide) rfl (zX_0_0 hX).2.2 (zX_1_0 hX).1 ?_
    refine Z.aload_n (k := 0) dX8_add_16 rfl ?_
    refine Y.getI 3 dX8_add_17 zl_X8_22 (rfl) (by decide) rfl (zX_0_0 hX).2.2 ?_
    refine Z.iload_n (k := 1) dX8_add_20 rfl ?_
    obtain ⟨z2, K⟩ := K
    obtain ⟨z3, K⟩ := K
    refine Y.zast dX8_add_21 (rfl) ((zX_1_0 hX).2.2) z2 z3 ?_
    generalize eE4 : zuE E 2 ((E 1 3)) v1 = E4
    replace K := K E4 eE4.symm
    refine Z.aload_n (k := 0) dX8_add_22 rfl ?_
    refine Y.getR (o := some 3) 1 dX8_add_23 zl_X8_15 (rfl) (by decide) rfl (zX_0_0 hX).2.2 (zX_1_1 hX).1 ?_
    refine Z.aload_n (k := 0) dX8_add_26 rfl ?_
    refine Y.getI 3 dX8_add_27 zl_X8_22 (rfl) (by decide) rfl (zX_0_0 hX).2.2 ?_
    refine Z.iload_n (k := 2) dX8_add_30 rfl ?_
    obtain ⟨z5, K⟩ := K
    refine Y.iast dX8_add_31 (rfl) ((zX_1_1 hX).2.2) z5 ?_
    generalize eE6 : zuE E4 3 ((E4 1 3)) v2 = E6
    replace K := K E6 eE6.symm
    refine Z.aload_n (k := 0) dX8_add_32 rfl ?_
    refine Y.getR (o := some 4) 2 dX8_add_33 zl_X8_19 (rfl) (by decide) rfl (zX_0_0 hX).2.2 (zX_1_2 hX).1 ?_
    refine Z.aload_n (k := 0) dX8_add_36 rfl ?_
    refine Y.getI 3 dX8_add_37 zl_X8_22 (rfl) (by decide) rfl (zX_0_0 hX).2.2 ?_
    refine Z.iload_n (k := 3) dX8_add_40 rfl ?_
    obtain ⟨z7, K⟩ := K
    refine Y.iast dX8_add_41 (rfl) ((zX_1_2 hX).2.2) z7 ?_
    generalize eE8 : zuE E6 4 ((E6 1 3)) v3 = E8
    replace K := K E8 eE8.symm
    refine Z.aload_n (k := 0) dX8_add_42 rfl ?_
    refine Z.dup_i dX8_add_43 (fun _ => rfl) ?_
    refine Y.getI 3 dX8_add_44 zl_X8_22 (rfl) (by decide) rfl (zX_0_0 hX).2.2 ?_
    refine Z.iconst (n := 1) dX8_add_47 ⟨by decide, by decide⟩ ?_
    obtain ⟨z9, K⟩ := K
    refine Z.iadd dX8_add_48 z9 ?_
    refine Y.putI 3 dX8_add_49 zw_X8_22 (fun q => by cases q) (rfl) rfl (zX_0_0 hX).2.2 (Or.inl rfl) ?_
    generalize eE10 : zuE E8 1 3 (((E8 1 3) + 1)) = E10
    replace K := K E10 eE10.symm
    refine Z.aload_n (k := 0) dX8_add_52 rfl ?_
    refine Y.getI 3 dX8_add_53 zl_X8_22 (rfl) (by decide) rfl (zX_0_0 hX).2.2 ?_
    refine Z.iconst (n := 1) dX8_add_56 ⟨by decide, by decide⟩ ?_
    obtain ⟨z11, K⟩ := K
    refine Z.isub dX8_add_57 z11 ?_
    exact Z.iret (ty := .int) dX8_add_58 rfl rfl K
  · replace K := K.2 c1
    refine Z.bipush (n := -4) dX8_add_9 ⟨by decide, by decide⟩ (by decide) ?_
    exact Z.iret (ty := .int) dX8_add_11 rfl rfl K
set_option maxRecDepth 20000 in
theorem X8_isSaying_0 {kz : Nat × Nat} {Q : Option zV → zH → Prop} {d : List Nat} {G : Nat → Int → Option Nat} {E : Nat → Int → Int} {v1 : Int} (hX : zK zXt d G) (K : (v1 < 0 → Q (some (zI 0)) (d, G, E)) ∧ (¬ (v1 < 0) → ((E 1 3) ≤ v1 → Q (some (zI 0)) (d, G, E)) ∧ (¬ ((E 1 3) ≤ v1) → ((0 : Int) ≤ v1 ∧ v1 < 16) ∧ ((E 2 v1) = 0 → Q (some (zI 0)) (d, G, E)) ∧ (¬ ((E 2 v1) = 0) → Q (some (zI 1)) (d, G, E))))) : Z zm_X8_isSaying kz Q 0 [(0, zR 1), (1, zI v1)] [] (d, G, E) := by
  refine Z.iload_n (k := 1) dX8_isSaying_0 rfl ?_
  refine Z.if_lt 25 dX8_isSaying_1 rfl ⟨fun c1 => ?_, fun c1 => ?_⟩
  · replace K := K.1 c1
    refine Z.iconst (n := 0) dX8_isSaying_25 ⟨by decide, by decide⟩ ?_
    exact Z.iret (ty := .boolean) dX8_isSaying_26 rfl rfl K
  · replace K := K.2 c1
    refine Z.iload_n (k := 1) dX8_isSaying_4 rfl ?_
    refine Z.aload_n (k := 0) dX8_isSaying_5 rfl ?_
    refine Y.getI 3 dX8_isSaying_6 zl_X8_22 (rfl) (by decide) rfl (zX_0_0 hX).2.2 ?_
    refine Z.icmp_ge 25 dX8_isSaying_9 rfl ⟨fun c2 => ?_, fun c2 => ?_⟩
    · replace K := K.1 c2
      refine Z.iconst (n := 0) dX8_isSaying_25 ⟨by decide, by decide⟩ ?_
      exact Z.iret (ty := .boolean) dX8_isSaying_26 rfl rfl K
    · replace K := K.2 c2
      refine Z.aload_n (k := 0) dX8_isSaying_12 rfl ?_
      refine Y.getR (o := some 2) 0 dX8_isSaying_13 zl_X8_9 (rfl) (by decide) rfl (zX_0_0 hX).2.2 (zX_1_0 hX).1 ?_
      refine Z.iload_n (k := 1) dX8_isSaying_16 rfl ?_
      obtain ⟨z3, K⟩ := K
      refine Y.zald dX8_isSaying_17 (rfl) ((zX_1_0 hX).2.2) z3 ?_
      refine Z.if_eq 25 dX8_isSaying_18 rfl ⟨fun c4 => ?_, fun c4 => ?_⟩
      · replace K := K.1 c4
        refine Z.iconst (n := 0) dX8_isSaying_25 ⟨by decide, by decide⟩ ?_
        exact Z.iret (ty := .boolean) dX8_isSaying_26 rfl rfl K
      · replace K := K.2 c4
        refine Z.iconst (n := 1) dX8_isSaying_21 ⟨by decide, by decide⟩ ?_
        refine Z.goto 26 dX8_isSaying_22 rfl ?_
        exact Z.iret (ty := .boolean) dX8_isSaying_26 rfl rfl K
set_option maxRecDepth 20000 in
theorem X8_isFunction_0 {kz : Nat × Nat} {Q : Option zV → zH → Prop} {d : List Nat} {G : Nat → Int → Option Nat} {E : Nat → Int → Int} {v1 : Int} (hX : zK zXt d G) (K : (v1 < 0 → Q (some (zI 0)) (d, G, E)) ∧ (¬ (v1 < 0) → ((E 1 3) ≤ v1 → Q (some (zI 0)) (d, G, E)) ∧ (¬ ((E 1 3) ≤ v1) → ((0 : Int) ≤ v1 ∧ v1 < 16) ∧ ((E 2 v1) ≠ 0 → Q (some (zI 0)) (d, G, E)) ∧ (¬ ((E 2 v1) ≠ 0) → Q (some (zI 1)) (d, G, E))))) : Z zm_X8_isFunction kz Q 0 [(0, zR 1), (1, zI v1)] [] (d, G, E) := by
  refine Z.iload_n (k := 1) dX8_isFunction_0 rfl ?_
  refine Z.if_lt 25 dX8_isFunction_1 rfl ⟨fun c1 => ?_, fun c1 => ?_⟩
  · replace K := K.1 c1
    refine Z.iconst (n := 0) dX8_isFunction_25 ⟨by decide, by decide⟩ ?_
    exact Z.iret (ty := .boolean) dX8_isFunction_26 rfl rfl K
  · replace K := K.2 c1
    refine Z.iload_n (k := 1) dX8_isFunction_4 rfl ?_
    refine Z.aload_n (k := 0) dX8_isFunction_5 rfl ?_
    refine Y.getI 3 dX8_isFunction_6 zl_X8_22 (rfl) (by decide) rfl (zX_0_0 hX).2.2 ?_
    refine Z.icmp_ge 25 dX8_isFunction_9 rfl ⟨fun c2 => ?_, fun c2 => ?_⟩
    · replace K := K.1 c2
      refine Z.iconst (n := 0) dX8_isFunction_25 ⟨by decide, by decide⟩ ?_
      exact Z.iret (ty := .boolean) dX8_isFunction_26 rfl rfl K
    · replace K := K.2 c2
      refine Z.aload_n (k := 0) dX8_isFunction_12 rfl ?_
      refine Y.getR (o := some 2) 0 dX8_isFunction_13 zl_X8_9 (rfl) (by decide) rfl (zX_0_0 hX).2.2 (zX_1_0 hX).1 ?_
      refine Z.iload_n (k := 1) dX8_isFunction_16 rfl ?_
      obtain ⟨z3, K⟩ := K
      refine Y.zald dX8_isFunction_17 (rfl) ((zX_1_0 hX).2.2) z3 ?_
      refine Z.if_ne 25 dX8_isFunction_18 rfl ⟨fun c4 => ?_, fun c4 => ?_⟩
      · replace K := K.1 c4
        refine Z.iconst (n := 0) dX8_isFunction_25 ⟨by decide, by decide⟩ ?_
        exact Z.iret (ty := .boolean) dX8_isFunction_26 rfl rfl K
      · replace K := K.2 c4
        refine Z.iconst (n := 1) dX8_isFunction_21 ⟨by decide, by decide⟩ ?_
        refine Z.goto 26 dX8_isFunction_22 rfl ?_
        exact Z.iret (ty := .boolean) dX8_isFunction_26 rfl rfl K
