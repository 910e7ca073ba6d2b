set_option maxRecDepth 20000 in
theorem X10_init_0 {kz : Nat × Nat} {Q : Option zV → zH → Prop} {d : List Nat} {G : Nat → Int → Option Nat} {E : Nat → Int → Int}  (hm33 : 33 ∈ d) (hm20 : 20 ∈ d) (hm5 : 5 ∈ d) (K : ∃ a_1, zkd a_1 = (0, (7 : Int).toNat) ∧ (0 : Int) ≤ 7 ∧ 7 ≤ (100000 : Int) ∧ a_1 ∉ d ∧ ¬ zst3 a_1 ∧ d.length + 1 ≤ kz.1 ∧ zsl d + (zkd a_1).2 ≤ kz.2 ∧ ∀ d_9 G_10 E_11, d_9 = d ++ [a_1] → G_10 = zclG G a_1 → E_11 = zclE E a_1 → (∀ G_12, G_12 = zuG G_10 33 2 (some a_1) → ∃ a_13, zkd a_13 = (0, (7 : Int).toNat) ∧ (0 : Int) ≤ 7 ∧ 7 ≤ (100000 : Int) ∧ a_13 ∉ d_9 ∧ ¬ zst3 a_13 ∧ d_9.length + 1 ≤ kz.1 ∧ zsl d_9 + (zkd a_13).2 ≤ kz.2 ∧ ∀ d_21 G_22 E_23, d_21 = d_9 ++ [a_13] → G_22 = zclG G_12 a_13 → E_23 = zclE E_11 a_13 → (∀ G_24, G_24 = zuG G_22 33 3 (some a_13) → ∀ G_25, G_25 = zuG G_24 33 0 (some 20) → ∀ G_26, G_26 = zuG G_25 33 1 (some 5) → Q none (d_21, G_26, E_23)))) : Z zm_X10_init kz Q 0 [(0, zR 33), (1, zR 20), (2, zR 5)] [] (d, G, E) := by
  refine Z.aload_n (k := 0) dX10_init_0 rfl ?_
  refine Z.objInit (a := 33) dX10_init_1 zk_X10_3 ⟨by decide, by decide⟩ (Nat.le_of_ble_eq_true rfl) ?_
  refine Z.aload_n (k := 0) dX10_init_4 rfl ?_
  refine Z.bipush (n := 7) dX10_init_5 ⟨by decide, by decide⟩ (by decide) ?_
  obtain ⟨a_1, z_2, z_3, z_4, z_5, z_6, z_7, z_8, K⟩ := K
  refine Y.newI a_1 dX10_init_7 z_2 z_3 z_4 zai z_5 z_6 z_7 z_8 ?_
  generalize ed_9 : d ++ [a_1] = d_9
  generalize eG_10 : zclG G a_1 = G_10
  generalize eE_11 : zclE E a_1 = E_11
  replace K := K d_9 G_10 E_11 ed_9.symm eG_10.symm eE_11.symm
  refine Y.putR 2 dX10_init_9 zw_X10_9 (fun _ => ⟨rfl, rfl⟩) (rfl) rfl (by rw [← ed_9]; exact List.mem_append_left _ (hm33)) (fun b hb => by cases hb; exact (by rw [← ed_9]; exact List.mem_append_right _ List.mem_cons_self)) ?_
  generalize eG_12 : zuG G_10 33 2 (some a_1) = G_12
  replace K := K G_12 eG_12.symm
  refine Z.aload_n (k := 0) dX10_init_12 rfl ?_
  refine Z.bipush (n := 7) dX10_init_13 ⟨by decide, by decide⟩ (by decide) ?_
  obtain ⟨a_13, z_14, z_15, z_16, z_17, z_18, z_19, z_20, K⟩ := K
  refine Y.newI a_13 dX10_init_15 z_14 z_15 z_16 zai z_17 z_18 z_19 z_20 ?_
  generalize ed_21 : d_9 ++ [a_13] = d_21
  generalize eG_22 : zclG G_12 a_13 = G_22
  generalize eE_23 : zclE E_11 a_13 = E_23
  replace K := K d_21 G_22 E_23 ed_21.symm eG_22.symm eE_23.symm
  refine Y.putR 3 dX10_init_17 zw_X10_15 (fun _ => ⟨rfl, rfl⟩) (rfl) rfl (by rw [← ed_21]; exact List.mem_append_left _ ((by rw [← ed_9]; exact List.mem_append_left _ (hm33)))) (fun b hb => by cases hb; exact (by rw [← ed_21]; exact List.mem_append_right _ List.mem_cons_self)) ?_
  generalize eG_24 : zuG G_22 33 3 (some a_13) = G_24
  replace K := K G_24 eG_24.symm
  refine Z.aload_n (k := 0) dX10_init_20 rfl ?_
  refine Z.aload_n (k := 1) dX10_init_21 rfl ?_
  refine Y.putR 0 dX10_init_22 zw_X10_18 (fun _ => ⟨rfl, rfl⟩) (rfl) rfl (by rw [← ed_21]; exact List.mem_append_left _ ((by rw [← ed_9]; exact List.mem_append_left _ (hm33)))) (fun b hb => by cases hb; exact (by rw [← ed_21]; exact List.mem_append_left _ ((by rw [← ed_9]; exact List.mem_append_left _ (hm20))))) ?_
  generalize eG_25 : zuG G_24 33 0 (some 20) = G_25
  replace K := K G_25 eG_25.symm
  refine Z.aload_n (k := 0) dX10_init_25 rfl ?_
  refine Z.aload_n (k := 2) dX10_init_26 rfl ?_
  refine Y.putR 1 dX10_init_27 zw_X10_22 (fun _ => ⟨rfl, rfl⟩) (rfl) rfl (by rw [← ed_21]; exact List.mem_append_left _ ((by rw [← ed_9]; exact List.mem_append_left _ (hm33)))) (fun b hb => by cases hb; exact (by rw [← ed_21]; exact List.mem_append_left _ ((by rw [← ed_9]; exact List.mem_append_left _ (hm5))))) ?_
  generalize eG_26 : zuG G_25 33 1 (some 5) = G_26
  replace K := K G_26 eG_26.symm
  exact Z.vret dX10_init_30 rfl K
set_option maxRecDepth 20000 in
theorem X10_takes_0 {kz : Nat × Nat} {Q : Option zV → zH → Prop} {d : List Nat} {G : Nat → Int → Option Nat} {E : Nat → Int → Int} {r1 : Nat} {r2 : Nat} (hX : zK zXt d G) (hr1 : zRk d G r1) (hr2 : zRk d G r2) (K : ((E r2 3) < (E r1 3) → Q (some (zI 0)) (d, G, E)) ∧ (¬ ((E r2 3) < (E r1 3)) → ((zand (E r1 4) (zxor (E r2 4) (-1))) = 0 → ∃ E_3, zM zm_X9_forget [zR 20, zI 0] (d, G, E) none (d, G, E_3) ∧ ((0 : Int) ≤ 0 ∧ 0 < (7 : Int)) ∧ ∀ E_7, E_7 = zuE E_3 34 0 0 → ((0 : Int) ≤ 0 ∧ 0 < (7 : Int)) ∧ ∀ E_9, E_9 = zuE E_7 35 0 0 → Z zm_X10_takes kz Q 54 [(0, zR 33), (1, zR r1), (2, zR r2), (3, zI 0), (4, zI 0)] [] (d, G, E_9)) ∧ (¬ ((zand (E r1 4) (zxor (E r2 4) (-1))) = 0) → Q (some (zI 0)) (d, G, E)))) : Z zm_X10_takes kz Q 0 [(0, zR 33), (1, zR r1), (2, zR r2)] [] (d, G, E) := by
  refine Z.aload_n (k := 1) dX10_takes_0 rfl ?_
  refine Y.getI 3 dX10_takes_1 zl_X10_26 (congrArg Prod.fst hr1.1) (by decide) rfl hr1.2.2.2.2.1 ?_
  refine Z.aload_n (k := 2) dX10_takes_4 rfl ?_
  refine Y.getI 3 dX10_takes_5 zl_X10_26 (congrArg Prod.fst hr2.1) (by decide) rfl hr2.2.2.2.2.1 ?_
  refine Z.icmp_gt 25 dX10_takes_8 rfl ⟨fun c_1 => ?_, fun c_1 => ?_⟩
  · replace K := K.1 c_1
    refine Z.iconst (n := 0) dX10_takes_25 ⟨by decide, by decide⟩ ?_
    exact Z.iret (ty := .boolean) dX10_takes_26 rfl rfl K
  · replace K := K.2 c_1
    refine Z.aload_n (k := 1) dX10_takes_11 rfl ?_
    refine Y.getI 4 dX10_takes_12 zl_X10_32 (congrArg Prod.fst hr1.1) (by decide) rfl hr1.2.2.2.2.1 ?_
    refine Z.aload_n (k := 2) dX10_takes_15 rfl ?_
    refine Y.getI 4 dX10_takes_16 zl_X10_32 (congrArg Prod.fst hr2.1) (by decide) rfl hr2.2.2.2.2.1 ?_
    refine Z.iconst (n := -1) dX10_takes_19 ⟨by decide, by decide⟩ ?_
    refine Z.ixor dX10_takes_20 ?_
    refine Z.iand dX10_takes_21 ?_
    refine Z.if_eq 27 dX10_takes_22 rfl ⟨fun c_2 => ?_, fun c_2 => ?_⟩
    · replace K := K.1 c_2
      refine Z.aload_n (k := 0) dX10_takes_27 rfl ?_
      refine Y.getR (o := some 20) 0 dX10_takes_28 zl_X10_18 (rfl) (by decide) rfl (zX_0_8 hX).2.2 (zX_33_0 hX).1 ?_
      refine Z.iconst (n := 0) dX10_takes_31 ⟨by decide, by decide⟩ ?_
      obtain ⟨E_3, m_4, K⟩ := K
      refine Y.callV (g := zm_X9_forget) (vs := [zI 0]) (st := []) dX10_takes_32 ⟨zg_X9_forget.1, zg_X9_forget.2.1, zg_X9_forget.2.2, by decide⟩ ⟨zk_X10_35, zv_X9_forget⟩ (ci := 9) (rfl) rfl ((zX_0_6 hX).2.2) rfl rfl (Nat.le_of_ble_eq_true rfl) m_4 (Or.inl rfl) ?_
      show Z zm_X10_takes kz Q 35 [(0, zR 33), (1, zR r1), (2, zR r2)] [] (d, G, E_3)
      refine Z.iconst (n := 0) dX10_takes_35 ⟨by decide, by decide⟩ ?_
      refine Z.istore_n (ls' := [(3, zI 0), (0, zR 33), (1, zR r1), (2, zR r2)]) dX10_takes_36 (by decide) rfl ?_
      refine Z.aload_n (k := 1) dX10_takes_37 rfl ?_
      refine Y.getR (o := some 34) 2 dX10_takes_38 zl_X10_9 (rfl) (by decide) rfl (zX_0_8 hX).2.2 (zX_33_2 hX).1 ?_
      refine Z.iconst (n := 0) dX10_takes_41 ⟨by decide, by decide⟩ ?_
      refine Z.iconst (n := 0) dX10_takes_42 ⟨by decide, by decide⟩ ?_
      obtain ⟨z_6, K⟩ := K
      refine Y.iast dX10_takes_43 (rfl) ((zX_33_2 hX).2.2) z_6 ?_
      generalize eE_7 : zuE E_3 34 0 0 = E_7
      replace K := K E_7 eE_7.symm
      refine Z.aload_n (k := 1) dX10_takes_44 rfl ?_
      refine Y.getR (o := some 35) 3 dX10_takes_45 zl_X10_15 (rfl) (by decide) rfl (zX_0_8 hX).2.2 (zX_33_3 hX).1 ?_
      refine Z.iconst (n := 0) dX10_takes_48 ⟨by decide, by decide⟩ ?_
      refine Z.iconst (n := 0) dX10_takes_49 ⟨by decide, by decide⟩ ?_
      obtain ⟨z_8, K⟩ := K
      refine Y.iast dX10_takes_50 (rfl) ((zX_33_3 hX).2.2) z_8 ?_
      generalize eE_9 : zuE E_7 35 0 0 = E_9
      replace K := K E_9 eE_9.symm
      refine Z.iconst (n := 0) dX10_takes_51 ⟨by decide, by decide⟩ ?_
      refine Z.istore (ls' := [(4, zI 0), (3, zI 0), (0, zR 33), (1, zR r1), (2, zR r2)]) dX10_takes_52 (by decide) rfl ?_
      refine Z.pick (ls' := [(0, zR 33), (1, zR r1), (2, zR r2), (3, zI 0), (4, zI 0)]) [2, 3, 4, 1, 0] rfl ?_
      exact K
    · replace K := K.2 c_2
      refine Z.iconst (n := 0) dX10_takes_25 ⟨by decide, by decide⟩ ?_
      exact Z.iret (ty := .boolean) dX10_takes_26 rfl rfl K
set_option maxRecDepth 20000 in
theorem X10_takes_54 {kz : Nat × Nat} {Q : Option zV → zH → Prop} {d : List Nat} {G : Nat → Int → Option Nat} {E : Nat → Int → Int} {r1 : Nat} {r2 : Nat} {v3 : Int} {v4 : Int} (hX : zK zXt d G) (hr1 : zRk d G r1) (hr2 : zRk d G r2) (K : ((1000000) ≤ v4 → (v3 ≠ (E r1 3) → Q (some (zI 0)) (d, G, E)) ∧ (¬ (v3 ≠ (E r1 3)) → Q (some (zI 1)) (d, G, E))) ∧ (¬ ((1000000) ≤ v4) → ((E r1 3) ≤ v3 → (v3 ≠ (E r1 3) → Q (some (zI 0)) (d, G, E)) ∧ (¬ (v3 ≠ (E r1 3)) → Q (some (zI 1)) (d, G, E))) ∧ (¬ ((E r1 3) ≤ v3) → ((0 : Int) ≤ v3 ∧ v3 < (7 : Int)) ∧ ((E 34 v3) < (E r2 3) → zin ((E 34 v3) + 1) ∧ ((0 : Int) ≤ v3 ∧ v3 < (7 : Int)) ∧ ∀ E_9, E_9 = zuE E 34 v3 (((E 34 v3) + 1)) → ((0 : Int) ≤ v3 ∧ v3 < (6 : Int)) ∧ ((0 : Int) ≤ (E 34 v3) ∧ (E 34 v3) < (6 : Int)) ∧ ((E_9 (r1 + 3) v3) ≠ (E_9 (r2 + 3) (E 34 v3)) → ((0 : Int) ≤ v3 ∧ v3 < (7 : Int)) ∧ ∃ E_14, zM zm_X9_forget [zR 20, zI ((E_9 35 v3))] (d, G, E_9) none (d, G, E_14) ∧ zin (v4 + 1) ∧ Z zm_X10_takes kz Q 54 [(0, zR 33), (1, zR r1), (2, zR r2), (3, zI v3), (4, zI ((v4 + 1)))] [] (d, G, E_14)) ∧ (¬ ((E_9 (r1 + 3) v3) ≠ (E_9 (r2 + 3) (E 34 v3))) → ((0 : Int) ≤ v3 ∧ v3 < (7 : Int)) ∧ ((0 : Int) ≤ (E 34 v3) ∧ (E 34 v3) < (7 : Int)) ∧ ∃ x_20 E_21, zM zm_X9_matches [zR 20, zR (r1 + 1), zI ((E_9 (r1 + 2) v3)), zR (r2 + 1), zI ((E_9 (r2 + 2) (E 34 v3)))] (d, G, E_9) (some (zI x_20)) (d, G, E_21) ∧ (x_20 = 0 → ((0 : Int) ≤ v3 ∧ v3 < (7 : Int)) ∧ ∃ E_26, zM zm_X9_forget [zR 20, zI ((E_21 35 v3))] (d, G, E_21) none (d, G, E_26) ∧ zin (v4 + 1) ∧ Z zm_X10_takes kz Q 54 [(0, zR 33), (1, zR r1), (2, zR r2), (3, zI v3), (4, zI ((v4 + 1)))] [] (d, G, E_26)) ∧ (¬ (x_20 = 0) → zin (v3 + 1) ∧ ((0 : Int) ≤ (v3 + 1) ∧ (v3 + 1) < (7 : Int)) ∧ ∀ E_32, E_32 = zuE E_21 34 ((v3 + 1)) 0 → ((0 : Int) ≤ (v3 + 1) ∧ (v3 + 1) < (7 : Int)) ∧ ∀ E_34, E_34 = zuE E_32 35 ((v3 + 1)) ((E_32 20 4)) → zin (v4 + 1) ∧ Z zm_X10_takes kz Q 54 [(0, zR 33), (1, zR r1), (2, zR r2), (3, zI ((v3 + 1))), (4, zI ((v4 + 1)))] [] (d, G, E_34)))) ∧ (¬ ((E 34 v3) < (E r2 3)) → (v3 ≠ 0 → zin (v3 + (-1)) ∧ ((0 : Int) ≤ (v3 + (-1)) ∧ (v3 + (-1)) < (7 : Int)) ∧ ∃ E_39, zM zm_X9_forget [zR 20, zI ((E 35 (v3 + (-1))))] (d, G, E) none (d, G, E_39) ∧ zin (v4 + 1) ∧ Z zm_X10_takes kz Q 54 [(0, zR 33), (1, zR r1), (2, zR r2), (3, zI ((v3 + (-1)))), (4, zI ((v4 + 1)))] [] (d, G, E_39)) ∧ (¬ (v3 ≠ 0) → Q (some (zI 0)) (d, G, E)))))) : Z zm_X10_takes kz Q 54 [(0, zR 33), (1, zR r1), (2, zR r2), (3, zI v3), (4, zI v4)] [] (d, G, E) := by
  refine Z.iload (k := 4) dX10_takes_54 rfl ?_
  refine Z.ldc (n := 1000000) dX10_takes_56 ⟨by decide, by decide⟩ zq_X10_41 ?_
  refine Z.icmp_ge 213 dX10_takes_58 rfl ⟨fun c_1 => ?_, fun c_1 => ?_⟩
  · replace K := K.1 c_1
    refine Z.iload_n (k := 3) dX10_takes_213 rfl ?_
    refine Z.aload_n (k := 1) dX10_takes_214 rfl ?_
    refine Y.getI 3 dX10_takes_215 zl_X10_26 (congrArg Prod.fst hr1.1) (by decide) rfl hr1.2.2.2.2.1 ?_
    refine Z.icmp_ne 225 dX10_takes_218 rfl ⟨fun c_2 => ?_, fun c_2 => ?_⟩
    · replace K := K.1 c_2
      refine Z.iconst (n := 0) dX10_takes_225 ⟨by decide, by decide⟩ ?_
      exact Z.iret (ty := .boolean) dX10_takes_226 rfl rfl K
    · replace K := K.2 c_2
      refine Z.iconst (n := 1) dX10_takes_221 ⟨by decide, by decide⟩ ?_
      refine Z.goto 226 dX10_takes_222 rfl ?_
      exact Z.iret (ty := .boolean) dX10_takes_226 rfl rfl K
  · replace K := K.2 c_1
    refine Z.iload_n (k := 3) dX10_takes_61 rfl ?_
    refine Z.aload_n (k := 1) dX10_takes_62 rfl ?_
    refine Y.getI 3 dX10_takes_63 zl_X10_26 (congrArg Prod.fst hr1.1) (by decide) rfl hr1.2.2.2.2.1 ?_
    refine Z.icmp_ge 213 dX10_takes_66 rfl ⟨fun c_3 => ?_, fun c_3 => ?_⟩
    · replace K := K.1 c_3
      refine Z.iload_n (k := 3) dX10_takes_213 rfl ?_
      refine Z.aload_n (k := 1) dX10_takes_214 rfl ?_
      refine Y.getI 3 dX10_takes_215 zl_X10_26 (congrArg Prod.fst hr1.1) (by decide) rfl hr1.2.2.2.2.1 ?_
      refine Z.icmp_ne 225 dX10_takes_218 rfl ⟨fun c_4 => ?_, fun c_4 => ?_⟩
      · replace K := K.1 c_4
        refine Z.iconst (n := 0) dX10_takes_225 ⟨by decide, by decide⟩ ?_
        exact Z.iret (ty := .boolean) dX10_takes_226 rfl rfl K
      · replace K := K.2 c_4
        refine Z.iconst (n := 1) dX10_takes_221 ⟨by decide, by decide⟩ ?_
        refine Z.goto 226 dX10_takes_222 rfl ?_
        exact Z.iret (ty := .boolean) dX10_takes_226 rfl rfl K
    · replace K := K.2 c_3
      refine Z.aload_n (k := 0) dX10_takes_69 rfl ?_
      refine Y.getR (o := some 34) 2 dX10_takes_70 zl_X10_9 (rfl) (by decide) rfl (zX_0_8 hX).2.2 (zX_33_2 hX).1 ?_
      refine Z.iload_n (k := 3) dX10_takes_73 rfl ?_
      obtain ⟨z_5, K⟩ := K
      refine Y.iald dX10_takes_74 (rfl) ((zX_33_2 hX).2.2) z_5 ?_
      refine Z.istore (ls' := [(5, zI ((E 34 v3))), (0, zR 33), (1, zR r1), (2, zR r2), (3, zI v3), (4, zI v4)]) dX10_takes_75 (by decide) rfl ?_
      refine Z.iload (k := 0) dX10_takes_77 rfl ?_
      refine Z.aload_n (k := 3) dX10_takes_79 rfl ?_
      refine Y.getI 3 dX10_takes_80 zl_X10_26 (congrArg Prod.fst hr2.1) (by decide) rfl hr2.2.2.2.2.1 ?_
      refine Z.icmp_lt 111 dX10_takes_83 rfl ⟨fun c_6 => ?_, fun c_6 => ?_⟩
      · replace K := K.1 c_6
        refine Z.aload_n (k := 1) dX10_takes_111 rfl ?_
        refine Y.getR (o := some 34) 2 dX10_takes_112 zl_X10_9 (rfl) (by decide) rfl (zX_0_8 hX).2.2 (zX_33_2 hX).1 ?_
        refine Z.iload_n (k := 4) dX10_takes_115 rfl ?_
        refine Z.iload (k := 0) dX10_takes_116 rfl ?_
        refine Z.iconst (n := 1) dX10_takes_118 ⟨by decide, by decide⟩ ?_
        obtain ⟨z_7, K⟩ := K
        refine Z.iadd dX10_takes_119 z_7 ?_
        obtain ⟨z_8, K⟩ := K
        refine Y.iast dX10_takes_120 (rfl) ((zX_33_2 hX).2.2) z_8 ?_
        generalize eE_9 : zuE E 34 v3 (((E 34 v3) + 1)) = E_9
        replace K := K E_9 eE_9.symm
        refine Z.aload_n (k := 2) dX10_takes_121 rfl ?_
        refine Y.getR (o := some (r1 + 3)) 2 dX10_takes_122 zl_X10_42 (congrArg Prod.fst hr1.1) (by decide) rfl hr1.2.2.2.2.1 hr1.2.2.2.2.2.2.2.2.2.2 ?_
        refine Z.iload_n (k := 4) dX10_takes_125 rfl ?_
        obtain ⟨z_10, K⟩ := K
        refine Y.zald dX10_takes_126 (hr1.2.2.2.1) (hr1.2.2.2.2.2.2.2.1) z_10 ?_
        refine Z.aload_n (k := 3) dX10_takes_127 rfl ?_
        refine Y.getR (o := some (r2 + 3)) 2 dX10_takes_128 zl_X10_42 (congrArg Prod.fst hr2.1) (by decide) rfl hr2.2.2.2.2.1 hr2.2.2.2.2.2.2.2.2.2.2 ?_
        refine Z.iload (k := 0) dX10_takes_131 rfl ?_
        obtain ⟨z_11, K⟩ := K
        refine Y.zald dX10_takes_133 (hr2.2.2.2.1) (hr2.2.2.2.2.2.2.2.1) z_11 ?_
        refine Z.icmp_ne 194 dX10_takes_134 rfl ⟨fun c_12 => ?_, fun c_12 => ?_⟩
        · replace K := K.1 c_12
          refine Z.aload_n (k := 1) dX10_takes_194 rfl ?_
          refine Y.getR (o := some 20) 0 dX10_takes_195 zl_X10_18 (rfl) (by decide) rfl (zX_0_8 hX).2.2 (zX_33_0 hX).1 ?_
          refine Z.aload_n (k := 1) dX10_takes_198 rfl ?_
          refine Y.getR (o := some 35) 3 dX10_takes_199 zl_X10_15 (rfl) (by decide) rfl (zX_0_8 hX).2.2 (zX_33_3 hX).1 ?_
          refine Z.iload_n (k := 4) dX10_takes_202 rfl ?_
          obtain ⟨z_13, K⟩ := K
          refine Y.iald dX10_takes_203 (rfl) ((zX_33_3 hX).2.2) z_13 ?_
          obtain ⟨E_14, m_15, K⟩ := K
          refine Y.callV (g := zm_X9_forget) (vs := [zI ((E_9 35 v3))]) (st := []) dX10_takes_204 ⟨zg_X9_forget.1, zg_X9_forget.2.1, zg_X9_forget.2.2, by decide⟩ ⟨zk_X10_35, zv_X9_forget⟩ (ci := 9) (rfl) rfl ((zX_0_6 hX).2.2) rfl rfl (Nat.le_of_ble_eq_true rfl) m_15 (Or.inl rfl) ?_
          show Z zm_X10_takes kz Q 207 [(5, zI ((E 34 v3))), (0, zR 33), (1, zR r1), (2, zR r2), (3, zI v3), (4, zI v4)] [] (d, G, E_14)
          obtain ⟨z_17, K⟩ := K
          refine Z.iinc (k := 5) (ls' := [(4, zI ((v4 + 1))), (5, zI ((E 34 v3))), (0, zR 33), (1, zR r1), (2, zR r2), (3, zI v3)]) dX10_takes_207 rfl (by decide) z_17 rfl ?_
          refine Z.goto 54 dX10_takes_210 rfl ?_
          refine Z.pick (ls' := [(0, zR 33), (1, zR r1), (2, zR r2), (3, zI v3), (4, zI ((v4 + 1)))]) [2, 3, 4, 5, 0] rfl ?_
          exact K
        · replace K := K.2 c_12
          refine Z.aload_n (k := 1) dX10_takes_137 rfl ?_
          refine Y.getR (o := some 20) 0 dX10_takes_138 zl_X10_18 (rfl) (by decide) rfl (zX_0_8 hX).2.2 (zX_33_0 hX).1 ?_
          refine Z.aload_n (k := 2) dX10_takes_141 rfl ?_
          refine Y.getR (o := some (r1 + 1)) 0 dX10_takes_142 zl_X10_46 (congrArg Prod.fst hr1.1) (by decide) rfl hr1.2.2.2.2.1 hr1.2.2.2.2.2.2.2.2.1 ?_
          refine Z.aload_n (k := 2) dX10_takes_145 rfl ?_
          refine Y.getR (o := some (r1 + 2)) 1 dX10_takes_146 zl_X10_49 (congrArg Prod.fst hr1.1) (by decide) rfl hr1.2.2.2.2.1 hr1.2.2.2.2.2.2.2.2.2.1 ?_
          refine Z.iload_n (k := 4) dX10_takes_149 rfl ?_
          obtain ⟨z_18, K⟩ := K
          refine Y.iald dX10_takes_150 (hr1.2.2.1) (hr1.2.2.2.2.2.2.1) z_18 ?_
          refine Z.aload_n (k := 3) dX10_takes_151 rfl ?_
          refine Y.getR (o := some (r2 + 1)) 0 dX10_takes_152 zl_X10_46 (congrArg Prod.fst hr2.1) (by decide) rfl hr2.2.2.2.2.1 hr2.2.2.2.2.2.2.2.2.1 ?_
          refine Z.aload_n (k := 3) dX10_takes_155 rfl ?_
          refine Y.getR (o := some (r2 + 2)) 1 dX10_takes_156 zl_X10_49 (congrArg Prod.fst hr2.1) (by decide) rfl hr2.2.2.2.2.1 hr2.2.2.2.2.2.2.2.2.2.1 ?_
          refine Z.iload (k := 0) dX10_takes_159 rfl ?_
          obtain ⟨z_19, K⟩ := K
          refine Y.iald dX10_takes_161 (hr2.2.2.1) (hr2.2.2.2.2.2.2.1) z_19 ?_
          obtain ⟨x_20, E_21, m_22, K⟩ := K
          refine Y.callV (g := zm_X9_matches) (vs := [zR (r1 + 1), zI ((E_9 (r1 + 2) v3)), zR (r2 + 1), zI ((E_9 (r2 + 2) (E 34 v3)))]) (st := []) dX10_takes_162 ⟨zg_X9_matches.1, zg_X9_matches.2.1, zg_X9_matches.2.2, by decide⟩ ⟨zk_X10_52, zv_X9_matches⟩ (ci := 9) (rfl) rfl ((zX_0_6 hX).2.2) rfl rfl (Nat.le_of_ble_eq_true rfl) m_22 (Or.inl rfl) ?_
          show Z zm_X10_takes kz Q 165 [(5, zI ((E 34 v3))), (0, zR 33), (1, zR r1), (2, zR r2), (3, zI v3), (4, zI v4)] [zI x_20] (d, G, E_21)
          refine Z.if_eq 194 dX10_takes_165 rfl ⟨fun c_24 => ?_, fun c_24 => ?_⟩
          · replace K := K.1 c_24
            refine Z.aload_n (k := 1) dX10_takes_194 rfl ?_
            refine Y.getR (o := some 20) 0 dX10_takes_195 zl_X10_18 (rfl) (by decide) rfl (zX_0_8 hX).2.2 (zX_33_0 hX).1 ?_
            refine Z.aload_n (k := 1) dX10_takes_198 rfl ?_
            refine Y.getR (o := some 35) 3 dX10_takes_199 zl_X10_15 (rfl) (by decide) rfl (zX_0_8 hX).2.2 (zX_33_3 hX).1 ?_
            refine Z.iload_n (k := 4) dX10_takes_202 rfl ?_
            obtain ⟨z_25, K⟩ := K
            refine Y.iald dX10_takes_203 (rfl) ((zX_33_3 hX).2.2) z_25 ?_
            obtain ⟨E_26, m_27, K⟩ := K
            refine Y.callV (g := zm_X9_forget) (vs := [zI ((E_21 35 v3))]) (st := []) dX10_takes_204 ⟨zg_X9_forget.1, zg_X9_forget.2.1, zg_X9_forget.2.2, by decide⟩ ⟨zk_X10_35, zv_X9_forget⟩ (ci := 9) (rfl) rfl ((zX_0_6 hX).2.2) rfl rfl (Nat.le_of_ble_eq_true rfl) m_27 (Or.inl rfl) ?_
            show Z zm_X10_takes kz Q 207 [(5, zI ((E 34 v3))), (0, zR 33), (1, zR r1), (2, zR r2), (3, zI v3), (4, zI v4)] [] (d, G, E_26)
            obtain ⟨z_29, K⟩ := K
            refine Z.iinc (k := 5) (ls' := [(4, zI ((v4 + 1))), (5, zI ((E 34 v3))), (0, zR 33), (1, zR r1), (2, zR r2), (3, zI v3)]) dX10_takes_207 rfl (by decide) z_29 rfl ?_
            refine Z.goto 54 dX10_takes_210 rfl ?_
            refine Z.pick (ls' := [(0, zR 33), (1, zR r1), (2, zR r2), (3, zI v3), (4, zI ((v4 + 1)))]) [2, 3, 4, 5, 0] rfl ?_
            exact K
          · replace K := K.2 c_24
            obtain ⟨z_30, K⟩ := K
            refine Z.iinc (k := 4) (ls' := [(3, zI ((v3 + 1))), (5, zI ((E 34 v3))), (0, zR 33), (1, zR r1), (2, zR r2), (4, zI v4)]) dX10_takes_168 rfl (by decide) z_30 rfl ?_
            refine Z.aload_n (k := 2) dX10_takes_171 rfl ?_
            refine Y.getR (o := some 34) 2 dX10_takes_172 zl_X10_9 (rfl) (by decide) rfl (zX_0_8 hX).2.2 (zX_33_2 hX).1 ?_
            refine Z.iload_n (k := 0) dX10_takes_175 rfl ?_
            refine Z.iconst (n := 0) dX10_takes_176 ⟨by decide, by decide⟩ ?_
            obtain ⟨z_31, K⟩ := K
            refine Y.iast dX10_takes_177 (rfl) ((zX_33_2 hX).2.2) z_31 ?_
            generalize eE_32 : zuE E_21 34 ((v3 + 1)) 0 = E_32
            replace K := K E_32 eE_32.symm
            refine Z.aload_n (k := 2) dX10_takes_178 rfl ?_
            refine Y.getR (o := some 35) 3 dX10_takes_179 zl_X10_15 (rfl) (by decide) rfl (zX_0_8 hX).2.2 (zX_33_3 hX).1 ?_
            refine Z.iload_n (k := 0) dX10_takes_182 rfl ?_
            refine Z.aload_n (k := 2) dX10_takes_183 rfl ?_
            refine Y.getR (o := some 20) 0 dX10_takes_184 zl_X10_18 (rfl) (by decide) rfl (zX_0_8 hX).2.2 (zX_33_0 hX).1 ?_
            refine Y.getI 4 dX10_takes_187 zl_X10_56 (rfl) (by decide) rfl (zX_0_6 hX).2.2 ?_
            obtain ⟨z_33, K⟩ := K
            refine Y.iast dX10_takes_190 (rfl) ((zX_33_3 hX).2.2) z_33 ?_
            generalize eE_34 : zuE E_32 35 ((v3 + 1)) ((E_32 20 4)) = E_34
            replace K := K E_34 eE_34.symm
            refine Z.goto 207 dX10_takes_191 rfl ?_
            obtain ⟨z_35, K⟩ := K
            refine Z.iinc (k := 5) (ls' := [(4, zI ((v4 + 1))), (3, zI ((v3 + 1))), (5, zI ((E 34 v3))), (0, zR 33), (1, zR r1), (2, zR r2)]) dX10_takes_207 rfl (by decide) z_35 rfl ?_
            refine Z.goto 54 dX10_takes_210 rfl ?_
            refine Z.pick (ls' := [(0, zR 33), (1, zR r1), (2, zR r2), (3, zI ((v3 + 1))), (4, zI ((v4 + 1)))]) [3, 4, 5, 1, 0] rfl ?_
            exact K
      · replace K := K.2 c_6
        refine Z.iload_n (k := 4) dX10_takes_86 rfl ?_
        refine Z.if_ne 92 dX10_takes_87 rfl ⟨fun c_36 => ?_, fun c_36 => ?_⟩
        · replace K := K.1 c_36
          obtain ⟨z_37, K⟩ := K
          refine Z.iinc (k := 4) (ls' := [(3, zI ((v3 + (-1)))), (5, zI ((E 34 v3))), (0, zR 33), (1, zR r1), (2, zR r2), (4, zI v4)]) dX10_takes_92 rfl (by decide) z_37 rfl ?_
          refine Z.aload_n (k := 2) dX10_takes_95 rfl ?_
          refine Y.getR (o := some 20) 0 dX10_takes_96 zl_X10_18 (rfl) (by decide) rfl (zX_0_8 hX).2.2 (zX_33_0 hX).1 ?_
          refine Z.aload_n (k := 2) dX10_takes_99 rfl ?_
          refine Y.getR (o := some 35) 3 dX10_takes_100 zl_X10_15 (rfl) (by decide) rfl (zX_0_8 hX).2.2 (zX_33_3 hX).1 ?_
          refine Z.iload_n (k := 0) dX10_takes_103 rfl ?_
          obtain ⟨z_38, K⟩ := K
          refine Y.iald dX10_takes_104 (rfl) ((zX_33_3 hX).2.2) z_38 ?_
          obtain ⟨E_39, m_40, K⟩ := K
          refine Y.callV (g := zm_X9_forget) (vs := [zI ((E 35 (v3 + (-1))))]) (st := []) dX10_takes_105 ⟨zg_X9_forget.1, zg_X9_forget.2.1, zg_X9_forget.2.2, by decide⟩ ⟨zk_X10_35, zv_X9_forget⟩ (ci := 9) (rfl) rfl ((zX_0_6 hX).2.2) rfl rfl (Nat.le_of_ble_eq_true rfl) m_40 (Or.inl rfl) ?_
          show Z zm_X10_takes kz Q 108 [(3, zI ((v3 + (-1)))), (5, zI ((E 34 v3))), (0, zR 33), (1, zR r1), (2, zR r2), (4, zI v4)] [] (d, G, E_39)
          refine Z.goto 207 dX10_takes_108 rfl ?_
          obtain ⟨z_42, K⟩ := K
          refine Z.iinc (k := 5) (ls' := [(4, zI ((v4 + 1))), (3, zI ((v3 + (-1)))), (5, zI ((E 34 v3))), (0, zR 33), (1, zR r1), (2, zR r2)]) dX10_takes_207 rfl (by decide) z_42 rfl ?_
          refine Z.goto 54 dX10_takes_210 rfl ?_
          refine Z.pick (ls' := [(0, zR 33), (1, zR r1), (2, zR r2), (3, zI ((v3 + (-1)))), (4, zI ((v4 + 1)))]) [3, 4, 5, 1, 0] rfl ?_
          exact K
        · replace K := K.2 c_36
          refine Z.iconst (n := 0) dX10_takes_90 ⟨by decide, by decide⟩ ?_
          exact Z.iret (ty := .boolean) dX10_takes_91 rfl rfl K
set_option maxRecDepth 20000 in
theorem X10_isTakenIn_0 {kz : Nat × Nat} {Q : Option zV → zH → Prop} {d : List Nat} {G : Nat → Int → Option Nat} {E : Nat → Int → Int} {r1 : Nat} (hX : zK zXt d G) (hr1 : zRk d G r1) (K : Z zm_X10_isTakenIn kz Q 2 [(0, zR 33), (1, zR r1), (2, zI 0)] [] (d, G, E)) : Z zm_X10_isTakenIn kz Q 0 [(0, zR 33), (1, zR r1)] [] (d, G, E) := by
  refine Z.iconst (n := 0) dX10_isTakenIn_0 ⟨by decide, by decide⟩ ?_
  refine Z.istore_n (ls' := [(2, zI 0), (0, zR 33), (1, zR r1)]) dX10_isTakenIn_1 (by decide) rfl ?_
  refine Z.pick (ls' := [(0, zR 33), (1, zR r1), (2, zI 0)]) [1, 2, 0] rfl ?_
  exact K
set_option maxRecDepth 20000 in
theorem X10_isTakenIn_2 {kz : Nat × Nat} {Q : Option zV → zH → Prop} {d : List Nat} {G : Nat → Int → Option Nat} {E : Nat → Int → Int} {r1 : Nat} {v2 : Int} (hX : zK zXt d G) (hr1 : zRk d G r1) (K : ((E 5 4) ≤ v2 → Q (some (zI 0)) (d, G, E)) ∧ (¬ ((E 5 4) ≤ v2) → ∃ o_2, zM zm_X7_at [zR 5, zI v2] (d, G, E) (some (zO o_2)) (d, G, E) ∧ (o_2 = none → zin (v2 + 1) ∧ Z zm_X10_isTakenIn kz Q 2 [(0, zR 33), (1, zR r1), (2, zI ((v2 + 1)))] [] (d, G, E)) ∧ (¬ (o_2 = none) → ∃ b_7, o_2 = some b_7 ∧ zCk d G b_7 ∧ ∃ x_10, zM zm_X1_isThere [zR b_7] (d, G, E) (some (zI x_10)) (d, G, E) ∧ (x_10 = 0 → zin (v2 + 1) ∧ Z zm_X10_isTakenIn kz Q 2 [(0, zR 33), (1, zR r1), (2, zI ((v2 + 1)))] [] (d, G, E)) ∧ (¬ (x_10 = 0) → ∃ x_15 E_16, zM zm_X10_takes [zR 33, zR ((b_7 + 1)), zR r1] (d, G, E) (some (zI x_15)) (d, G, E_16) ∧ (x_15 = 0 → zin (v2 + 1) ∧ Z zm_X10_isTakenIn kz Q 2 [(0, zR 33), (1, zR r1), (2, zI ((v2 + 1)))] [] (d, G, E_16)) ∧ (¬ (x_15 = 0) → Q (some (zI 1)) (d, G, E_16)))))) : Z zm_X10_isTakenIn kz Q 2 [(0, zR 33), (1, zR r1), (2, zI v2)] [] (d, G, E) := by
  refine Z.iload_n (k := 2) dX10_isTakenIn_2 rfl ?_
  refine Z.aload_n (k := 0) dX10_isTakenIn_3 rfl ?_
  refine Y.getR (o := some 5) 1 dX10_isTakenIn_4 zl_X10_22 (rfl) (by decide) rfl (zX_0_8 hX).2.2 (zX_33_1 hX).1 ?_
  refine Y.getI 4 dX10_isTakenIn_7 zl_X10_59 (rfl) (by decide) rfl (zX_0_1 hX).2.2 ?_
  refine Z.icmp_ge 53 dX10_isTakenIn_10 rfl ⟨fun c_1 => ?_, fun c_1 => ?_⟩
  · replace K := K.1 c_1
    refine Z.iconst (n := 0) dX10_isTakenIn_53 ⟨by decide, by decide⟩ ?_
    exact Z.iret (ty := .boolean) dX10_isTakenIn_54 rfl rfl K
  · replace K := K.2 c_1
    refine Z.aload_n (k := 0) dX10_isTakenIn_13 rfl ?_
    refine Y.getR (o := some 5) 1 dX10_isTakenIn_14 zl_X10_22 (rfl) (by decide) rfl (zX_0_8 hX).2.2 (zX_33_1 hX).1 ?_
    refine Z.iload_n (k := 2) dX10_isTakenIn_17 rfl ?_
    obtain ⟨o_2, m_3, K⟩ := K
    refine Y.callV (g := zm_X7_at) (vs := [zI v2]) (st := []) dX10_isTakenIn_18 ⟨zg_X7_at.1, zg_X7_at.2.1, zg_X7_at.2.2, by decide⟩ ⟨zk_X10_64, zv_X7_at⟩ (ci := 7) (rfl) rfl ((zX_0_1 hX).2.2) rfl rfl (Nat.le_of_ble_eq_true rfl) m_3 (Or.inl rfl) ?_
    show Z zm_X10_isTakenIn kz Q 21 [(0, zR 33), (1, zR r1), (2, zI v2)] [zO o_2] (d, G, E)
    refine Z.astore_n (ls' := [(3, zO o_2), (0, zR 33), (1, zR r1), (2, zI v2)]) dX10_isTakenIn_21 (by decide) rfl ?_
    refine Z.aload_n (k := 0) dX10_isTakenIn_22 rfl ?_
    refine Z.ifnull 47 dX10_isTakenIn_23 rfl ⟨fun c_5 => ?_, fun c_5 => ?_⟩
    · replace K := K.1 c_5
      obtain ⟨z_6, K⟩ := K
      refine Z.iinc (k := 3) (ls' := [(2, zI ((v2 + 1))), (3, zO o_2), (0, zR 33), (1, zR r1)]) dX10_isTakenIn_47 rfl (by decide) z_6 rfl ?_
      refine Z.goto 2 dX10_isTakenIn_50 rfl ?_
      refine Z.pick (ls' := [(0, zR 33), (1, zR r1), (2, zI ((v2 + 1)))]) [2, 3, 0] rfl ?_
      exact K
    · replace K := K.2 c_5
      refine Z.aload_n (k := 0) dX10_isTakenIn_26 rfl ?_
      obtain ⟨b_7, e_8, hc_9, K⟩ := K
      rw [e_8]
      obtain ⟨x_10, m_11, K⟩ := K
      refine Y.callV (g := zm_X1_isThere) (vs := []) (st := []) dX10_isTakenIn_27 ⟨zg_X1_isThere.1, zg_X1_isThere.2.1, zg_X1_isThere.2.2, by decide⟩ ⟨zk_X10_68, zv_X1_isThere⟩ (ci := 1) (congrArg Prod.fst hc_9.1) rfl (hc_9.2.1) rfl rfl (Nat.le_of_ble_eq_true rfl) m_11 (Or.inl rfl) ?_
      show Z zm_X10_isTakenIn kz Q 30 [(3, zR b_7), (0, zR 33), (1, zR r1), (2, zI v2)] [zI x_10] (d, G, E)
      refine Z.if_eq 47 dX10_isTakenIn_30 rfl ⟨fun c_13 => ?_, fun c_13 => ?_⟩
      · replace K := K.1 c_13
        obtain ⟨z_14, K⟩ := K
        refine Z.iinc (k := 3) (ls' := [(2, zI ((v2 + 1))), (3, zR b_7), (0, zR 33), (1, zR r1)]) dX10_isTakenIn_47 rfl (by decide) z_14 rfl ?_
        refine Z.goto 2 dX10_isTakenIn_50 rfl ?_
        refine Z.pick (ls' := [(0, zR 33), (1, zR r1), (2, zI ((v2 + 1)))]) [2, 3, 0] rfl ?_
        exact K
      · replace K := K.2 c_13
        refine Z.aload_n (k := 1) dX10_isTakenIn_33 rfl ?_
        refine Z.aload_n (k := 0) dX10_isTakenIn_34 rfl ?_
        refine Y.getR (o := some ((b_7 + 1))) 0 dX10_isTakenIn_35 zl_X10_74 (congrArg Prod.fst hc_9.1) (by decide) rfl hc_9.2.1 hc_9.2.2.2.1 ?_
        refine Z.aload_n (k := 2) dX10_isTakenIn_38 rfl ?_
        obtain ⟨x_15, E_16, m_17, K⟩ := K
        refine Y.callV (g := zm_X10_takes) (vs := [zR ((b_7 + 1)), zR r1]) (st := []) dX10_isTakenIn_39 ⟨zg_X10_takes.1, zg_X10_takes.2.1, zg_X10_takes.2.2, by decide⟩ ⟨zk_X10_78, zv_X10_takes⟩ (ci := 10) (rfl) rfl ((zX_0_8 hX).2.2) rfl rfl (Nat.le_of_ble_eq_true rfl) m_17 (Or.inl rfl) ?_
        show Z zm_X10_isTakenIn kz Q 42 [(3, zR b_7), (0, zR 33), (1, zR r1), (2, zI v2)] [zI x_15] (d, G, E_16)
        refine Z.if_eq 47 dX10_isTakenIn_42 rfl ⟨fun c_19 => ?_, fun c_19 => ?_⟩
        · replace K := K.1 c_19
          obtain ⟨z_20, K⟩ := K
          refine Z.iinc (k := 3) (ls' := [(2, zI ((v2 + 1))), (3, zR b_7), (0, zR 33), (1, zR r1)]) dX10_isTakenIn_47 rfl (by decide) z_20 rfl ?_
          refine Z.goto 2 dX10_isTakenIn_50 rfl ?_
          refine Z.pick (ls' := [(0, zR 33), (1, zR r1), (2, zI ((v2 + 1)))]) [2, 3, 0] rfl ?_
          exact K
        · replace K := K.2 c_19
          refine Z.iconst (n := 1) dX10_isTakenIn_45 ⟨by decide, by decide⟩ ?_
          exact Z.iret (ty := .boolean) dX10_isTakenIn_46 rfl rfl K
set_option maxRecDepth 20000 in
theorem X10_putAway_0 {kz : Nat × Nat} {Q : Option zV → zH → Prop} {d : List Nat} {G : Nat → Int → Option Nat} {E : Nat → Int → Int} {c1 : Nat} (hX : zK zXt d G) (hc1 : zCk d G c1) (K : Z zm_X10_putAway kz Q 2 [(0, zR 33), (1, zR c1), (2, zI 0)] [] (d, G, E)) : Z zm_X10_putAway kz Q 0 [(0, zR 33), (1, zR c1)] [] (d, G, E) := by
  refine Z.iconst (n := 0) dX10_putAway_0 ⟨by decide, by decide⟩ ?_
  refine Z.istore_n (ls' := [(2, zI 0), (0, zR 33), (1, zR c1)]) dX10_putAway_1 (by decide) rfl ?_
  refine Z.pick (ls' := [(0, zR 33), (1, zR c1), (2, zI 0)]) [1, 2, 0] rfl ?_
  exact K
set_option maxRecDepth 20000 in
theorem X10_putAway_2 {kz : Nat × Nat} {Q : Option zV → zH → Prop} {d : List Nat} {G : Nat → Int → Option Nat} {E : Nat → Int → Int} {c1 : Nat} {v2 : Int} (hX : zK zXt d G) (hc1 : zCk d G c1) (K : ((E 5 4) ≤ v2 → Q none (d, G, E)) ∧ (¬ ((E 5 4) ≤ v2) → ∃ o_2, zM zm_X7_at [zR 5, zI v2] (d, G, E) (some (zO o_2)) (d, G, E) ∧ (o_2 = none → zin (v2 + 1) ∧ Z zm_X10_putAway kz Q 2 [(0, zR 33), (1, zR c1), (2, zI ((v2 + 1)))] [] (d, G, E)) ∧ (¬ (o_2 = none) → (∀ b, o_2 = some b → b ∈ d) ∧ ((o_2 = some c1 → zin (v2 + 1) ∧ Z zm_X10_putAway kz Q 2 [(0, zR 33), (1, zR c1), (2, zI ((v2 + 1)))] [] (d, G, E)) ∧ (¬ (o_2 = some c1) → ∃ b_10, o_2 = some b_10 ∧ zCk d G b_10 ∧ ∃ x_13, zM zm_X1_isThere [zR b_10] (d, G, E) (some (zI x_13)) (d, G, E) ∧ (x_13 = 0 → zin (v2 + 1) ∧ Z zm_X10_putAway kz Q 2 [(0, zR 33), (1, zR c1), (2, zI ((v2 + 1)))] [] (d, G, E)) ∧ (¬ (x_13 = 0) → ∃ x_18 E_19, zM zm_X10_takes [zR 33, zR ((c1 + 1)), zR ((b_10 + 1))] (d, G, E) (some (zI x_18)) (d, G, E_19) ∧ (x_18 = 0 → zin (v2 + 1) ∧ Z zm_X10_putAway kz Q 2 [(0, zR 33), (1, zR c1), (2, zI ((v2 + 1)))] [] (d, G, E_19)) ∧ (¬ (x_18 = 0) → ∀ E_24, E_24 = zuE E_19 b_10 6 2 → ∀ E_25, E_25 = zuE E_24 b_10 7 ((E_24 c1 5)) → zin (v2 + 1) ∧ Z zm_X10_putAway kz Q 2 [(0, zR 33), (1, zR c1), (2, zI ((v2 + 1)))] [] (d, G, E_25)))))))) : Z zm_X10_putAway kz Q 2 [(0, zR 33), (1, zR c1), (2, zI v2)] [] (d, G, E) := by
  refine Z.iload_n (k := 2) dX10_putAway_2 rfl ?_
  refine Z.aload_n (k := 0) dX10_putAway_3 rfl ?_
  refine Y.getR (o := some 5) 1 dX10_putAway_4 zl_X10_22 (rfl) (by decide) rfl (zX_0_8 hX).2.2 (zX_33_1 hX).1 ?_
  refine Y.getI 4 dX10_putAway_7 zl_X10_59 (rfl) (by decide) rfl (zX_0_1 hX).2.2 ?_
  refine Z.icmp_ge 72 dX10_putAway_10 rfl ⟨fun c_1 => ?_, fun c_1 => ?_⟩
  · replace K := K.1 c_1
    exact Z.vret dX10_putAway_72 rfl K
  · replace K := K.2 c_1
    refine Z.aload_n (k := 0) dX10_putAway_13 rfl ?_
    refine Y.getR (o := some 5) 1 dX10_putAway_14 zl_X10_22 (rfl) (by decide) rfl (zX_0_8 hX).2.2 (zX_33_1 hX).1 ?_
    refine Z.iload_n (k := 2) dX10_putAway_17 rfl ?_
    obtain ⟨o_2, m_3, K⟩ := K
    refine Y.callV (g := zm_X7_at) (vs := [zI v2]) (st := []) dX10_putAway_18 ⟨zg_X7_at.1, zg_X7_at.2.1, zg_X7_at.2.2, by decide⟩ ⟨zk_X10_64, zv_X7_at⟩ (ci := 7) (rfl) rfl ((zX_0_1 hX).2.2) rfl rfl (Nat.le_of_ble_eq_true rfl) m_3 (Or.inl rfl) ?_
    show Z zm_X10_putAway kz Q 21 [(0, zR 33), (1, zR c1), (2, zI v2)] [zO o_2] (d, G, E)
    refine Z.astore_n (ls' := [(3, zO o_2), (0, zR 33), (1, zR c1), (2, zI v2)]) dX10_putAway_21 (by decide) rfl ?_
    refine Z.aload_n (k := 0) dX10_putAway_22 rfl ?_
    refine Z.ifnull 66 dX10_putAway_23 rfl ⟨fun c_5 => ?_, fun c_5 => ?_⟩
    · replace K := K.1 c_5
      obtain ⟨z_6, K⟩ := K
      refine Z.iinc (k := 3) (ls' := [(2, zI ((v2 + 1))), (3, zO o_2), (0, zR 33), (1, zR c1)]) dX10_putAway_66 rfl (by decide) z_6 rfl ?_
      refine Z.goto 2 dX10_putAway_69 rfl ?_
      refine Z.pick (ls' := [(0, zR 33), (1, zR c1), (2, zI ((v2 + 1)))]) [2, 3, 0] rfl ?_
      exact K
    · replace K := K.2 c_5
      refine Z.aload_n (k := 0) dX10_putAway_26 rfl ?_
      refine Z.aload_n (k := 2) dX10_putAway_27 rfl ?_
      obtain ⟨z_7, K⟩ := K
      refine Y.acmp_eq 66 dX10_putAway_28 rfl z_7 (fun b hb => by cases hb; exact hc1.2.1) ⟨fun c_8 => ?_, fun c_8 => ?_⟩
      · replace K := K.1 c_8
        obtain ⟨z_9, K⟩ := K
        refine Z.iinc (k := 3) (ls' := [(2, zI ((v2 + 1))), (3, zO o_2), (0, zR 33), (1, zR c1)]) dX10_putAway_66 rfl (by decide) z_9 rfl ?_
        refine Z.goto 2 dX10_putAway_69 rfl ?_
        refine Z.pick (ls' := [(0, zR 33), (1, zR c1), (2, zI ((v2 + 1)))]) [2, 3, 0] rfl ?_
        exact K
      · replace K := K.2 c_8
        refine Z.aload_n (k := 0) dX10_putAway_31 rfl ?_
        obtain ⟨b_10, e_11, hc_12, K⟩ := K
        rw [e_11]
        obtain ⟨x_13, m_14, K⟩ := K
        refine Y.callV (g := zm_X1_isThere) (vs := []) (st := []) dX10_putAway_32 ⟨zg_X1_isThere.1, zg_X1_isThere.2.1, zg_X1_isThere.2.2, by decide⟩ ⟨zk_X10_68, zv_X1_isThere⟩ (ci := 1) (congrArg Prod.fst hc_12.1) rfl (hc_12.2.1) rfl rfl (Nat.le_of_ble_eq_true rfl) m_14 (Or.inl rfl) ?_
        show Z zm_X10_putAway kz Q 35 [(3, zR b_10), (0, zR 33), (1, zR c1), (2, zI v2)] [zI x_13] (d, G, E)
        refine Z.if_eq 66 dX10_putAway_35 rfl ⟨fun c_16 => ?_, fun c_16 => ?_⟩
        · replace K := K.1 c_16
          obtain ⟨z_17, K⟩ := K
          refine Z.iinc (k := 3) (ls' := [(2, zI ((v2 + 1))), (3, zR b_10), (0, zR 33), (1, zR c1)]) dX10_putAway_66 rfl (by decide) z_17 rfl ?_
          refine Z.goto 2 dX10_putAway_69 rfl ?_
          refine Z.pick (ls' := [(0, zR 33), (1, zR c1), (2, zI ((v2 + 1)))]) [2, 3, 0] rfl ?_
          exact K
        · replace K := K.2 c_16
          refine Z.aload_n (k := 1) dX10_putAway_38 rfl ?_
          refine Z.aload_n (k := 2) dX10_putAway_39 rfl ?_
          refine Y.getR (o := some ((c1 + 1))) 0 dX10_putAway_40 zl_X10_74 (congrArg Prod.fst hc1.1) (by decide) rfl hc1.2.1 hc1.2.2.2.1 ?_
          refine Z.aload_n (k := 0) dX10_putAway_43 rfl ?_
          refine Y.getR (o := some ((b_10 + 1))) 0 dX10_putAway_44 zl_X10_74 (congrArg Prod.fst hc_12.1) (by decide) rfl hc_12.2.1 hc_12.2.2.2.1 ?_
          obtain ⟨x_18, E_19, m_20, K⟩ := K
          refine Y.callV (g := zm_X10_takes) (vs := [zR ((c1 + 1)), zR ((b_10 + 1))]) (st := []) dX10_putAway_47 ⟨zg_X10_takes.1, zg_X10_takes.2.1, zg_X10_takes.2.2, by decide⟩ ⟨zk_X10_78, zv_X10_takes⟩ (ci := 10) (rfl) rfl ((zX_0_8 hX).2.2) rfl rfl (Nat.le_of_ble_eq_true rfl) m_20 (Or.inl rfl) ?_
          show Z zm_X10_putAway kz Q 50 [(3, zR b_10), (0, zR 33), (1, zR c1), (2, zI v2)] [zI x_18] (d, G, E_19)
          refine Z.if_eq 66 dX10_putAway_50 rfl ⟨fun c_22 => ?_, fun c_22 => ?_⟩
          · replace K := K.1 c_22
            obtain ⟨z_23, K⟩ := K
            refine Z.iinc (k := 3) (ls' := [(2, zI ((v2 + 1))), (3, zR b_10), (0, zR 33), (1, zR c1)]) dX10_putAway_66 rfl (by decide) z_23 rfl ?_
            refine Z.goto 2 dX10_putAway_69 rfl ?_
            refine Z.pick (ls' := [(0, zR 33), (1, zR c1), (2, zI ((v2 + 1)))]) [2, 3, 0] rfl ?_
            exact K
          · replace K := K.2 c_22
            refine Z.aload_n (k := 0) dX10_putAway_53 rfl ?_
            refine Z.iconst (n := 2) dX10_putAway_54 ⟨by decide, by decide⟩ ?_
            refine Y.putI 6 dX10_putAway_55 zw_X10_82 (fun q => by cases q) (congrArg Prod.fst hc_12.1) rfl hc_12.2.1 (Or.inl rfl) ?_
            generalize eE_24 : zuE E_19 b_10 6 2 = E_24
            replace K := K E_24 eE_24.symm
            refine Z.aload_n (k := 0) dX10_putAway_58 rfl ?_
            refine Z.aload_n (k := 2) dX10_putAway_59 rfl ?_
            refine Y.getI 5 dX10_putAway_60 zl_X10_85 (congrArg Prod.fst hc1.1) (by decide) rfl hc1.2.1 ?_
            refine Y.putI 7 dX10_putAway_63 zw_X10_88 (fun q => by cases q) (congrArg Prod.fst hc_12.1) rfl hc_12.2.1 (Or.inl rfl) ?_
            generalize eE_25 : zuE E_24 b_10 7 ((E_24 c1 5)) = E_25
            replace K := K E_25 eE_25.symm
            obtain ⟨z_26, K⟩ := K
            refine Z.iinc (k := 3) (ls' := [(2, zI ((v2 + 1))), (3, zR b_10), (0, zR 33), (1, zR c1)]) dX10_putAway_66 rfl (by decide) z_26 rfl ?_
            refine Z.goto 2 dX10_putAway_69 rfl ?_
            refine Z.pick (ls' := [(0, zR 33), (1, zR c1), (2, zI ((v2 + 1)))]) [2, 3, 0] rfl ?_
            exact K
