set_option maxRecDepth 20000 in
theorem X10_init_0 {kz : Nat × Nat} {Q : Option zV → zH → Prop} {d : List Nat} {G : Nat → Int → Option Nat} {E : Nat → Int → Int}  (hm33 : 33 ∈ d) (hm20 : 20 ∈ d) (hm5 : 5 ∈ d) (K : ∃ a1, zkd a1 = (0, (7 : Int).toNat) ∧ (0 : Int) ≤ 7 ∧ 7 ≤ (100000 : Int) ∧ a1 ∉ d ∧ ¬ zst3 a1 ∧ d.length + 1 ≤ kz.1 ∧ zsl d + (zkd a1).2 ≤ kz.2 ∧ ∀ d9 G10 E11, d9 = d ++ [a1] → G10 = zclG G a1 → E11 = zclE E a1 → (∀ G12, G12 = zuG G10 33 2 (some a1) → ∃ a13, zkd a13 = (0, (7 : Int).toNat) ∧ (0 : Int) ≤ 7 ∧ 7 ≤ (100000 : Int) ∧ a13 ∉ d9 ∧ ¬ zst3 a13 ∧ d9.length + 1 ≤ kz.1 ∧ zsl d9 + (zkd a13).2 ≤ kz.2 ∧ ∀ d21 G22 E23, d21 = d9 ++ [a13] → G22 = zclG G12 a13 → E23 = zclE E11 a13 → (∀ G24, G24 = zuG G22 33 3 (some a13) → ∀ G25, G25 = zuG G24 33 0 (some 20) → ∀ G26, G26 = zuG G25 33 1 (some 5) → Q none (d21, G26, E23)))) : Z zm_X10_init kz Q 0 [(0, zR 33), (1, zR 20), (2, zR 5)] [] (d, G, E) := by
  refine Z.aload_n (k := 0) dX10_init_0 rfl ?_
  refine Z.objInit (a := 33) dX10_init_1 zk_X10_3 ⟨by decide, by decide⟩ (Nat.le_of_ble_eq_true rfl) ?_
  refine Z.aload_n (k := 0) dX10_init_4 rfl ?_
  refine Z.bipush (n := 7) dX10_init_5 ⟨by decide, by decide⟩ (by decide) ?_
  obtain ⟨a1, z2, z3, z4, z5, z6, z7, z8, K⟩ := K
  refine Y.newI a1 dX10_init_7 z2 z3 z4 zai z5 z6 z7 z8 ?_
  generalize ed9 : d ++ [a1] = d9
  generalize eG10 : zclG G a1 = G10
  generalize eE11 : zclE E a1 = E11
  replace K := K d9 G10 E11 ed9.symm eG10.symm eE11.symm
  refine Y.putR 2 dX10_init_9 zw_X10_9 (fun _ => ⟨rfl, rfl⟩) (rfl) rfl (by rw [← ed9]; exact List.mem_append_left _ (hm33)) (fun b hb => by cases hb; exact (by rw [← ed9]; exact List.mem_append_right _ List.mem_cons_self)) ?_
  generalize eG12 : zuG G10 33 2 (some a1) = G12
  replace K := K G12 eG12.symm
  refine Z.aload_n (k := 0) dX10_init_12 rfl ?_
  refine Z.bipush (n := 7) dX10_init_13 ⟨by decide, by decide⟩ (by decide) ?_
  obtain ⟨a13, z14, z15, z16, z17, z18, z19, z20, K⟩ := K
  refine Y.newI a13 dX10_init_15 z14 z15 z16 zai z17 z18 z19 z20 ?_
  generalize ed21 : d9 ++ [a13] = d21
  generalize eG22 : zclG G12 a13 = G22
  generalize eE23 : zclE E11 a13 = E23
  replace K := K d21 G22 E23 ed21.symm eG22.symm eE23.symm
  refine Y.putR 3 dX10_init_17 zw_X10_15 (fun _ => ⟨rfl, rfl⟩) (rfl) rfl (by rw [← ed21]; exact List.mem_append_left _ ((by rw [← ed9]; exact List.mem_append_left _ (hm33)))) (fun b hb => by cases hb; exact (by rw [← ed21]; exact List.mem_append_right _ List.mem_cons_self)) ?_
  generalize eG24 : zuG G22 33 3 (some a13) = G24
  replace K := K G24 eG24.symm
  refine Z.aload_n (k := 0) dX10_init_20 rfl ?_
  refine Z.aload_n (k := 1) dX10_init_21 rfl ?_
  refine Y.putR 0 dX10_init_22 zw_X10_18 (fun _ => ⟨rfl, rfl⟩) (rfl) rfl (by rw [← ed21]; exact List.mem_append_left _ ((by rw [← ed9]; exact List.mem_append_left _ (hm33)))) (fun b hb => by cases hb; exact (by rw [← ed21]; exact List.mem_append_left _ ((by rw [← ed9]; exact List.mem_append_left _ (hm20))))) ?_
  generalize eG25 : zuG G24 33 0 (some 20) = G25
  replace K := K G25 eG25.symm
  refine Z.aload_n (k := 0) dX10_init_25 rfl ?_
  refine Z.aload_n (k := 2) dX10_init_26 rfl ?_
  refine Y.putR 1 dX10_init_27 zw_X10_22 (fun _ => ⟨rfl, rfl⟩) (rfl) rfl (by rw [← ed21]; exact List.mem_append_left _ ((by rw [← ed9]; exact List.mem_append_left _ (hm33)))) (fun b hb => by cases hb; exact (by rw [← ed21]; exact List.mem_append_left _ ((by rw [← ed9]; exact List.mem_append_left _ (hm5))))) ?_
  generalize eG26 : zuG G25 33 1 (some 5) = G26
  replace K := K G26 eG26.symm
  exact Z.vret dX10_init_30 rfl K
set_option maxRecDepth 20000 in
theorem X10_takes_0 {kz : Nat × Nat} {Q : Option zV → zH → Prop} {d : List Nat} {G : Nat → Int → Option Nat} {E : Nat → Int → Int} {r1 : Nat} {r2 : Nat} (hX : zK zXt d G) (hr1 : zRk d G r1) (hr2 : zRk d G r2) (K : ((E r2 3) < (E r1 3) → Q (some (zI 0)) (d, G, E)) ∧ (¬ ((E r2 3) < (E r1 3)) → ((zand (E r1 4) (zxor (E r2 4) (-1))) = 0 → ∃ E3, zM zm_X9_forget [zR 20, zI 0] (d, G, E) none (d, G, E3) ∧ ((0 : Int) ≤ 0 ∧ 0 < 7) ∧ ∀ E7, E7 = zuE E3 34 0 0 → ((0 : Int) ≤ 0 ∧ 0 < 7) ∧ ∀ E9, E9 = zuE E7 35 0 0 → Z zm_X10_takes kz Q 54 [(0, zR 33), (1, zR r1), (2, zR r2), (3, zI 0), (4, zI 0)] [] (d, G, E9)) ∧ (¬ ((zand (E r1 4) (zxor (E r2 4) (-1))) = 0) → Q (some (zI 0)) (d, G, E)))) : Z zm_X10_takes kz Q 0 [(0, zR 33), (1, zR r1), (2, zR r2)] [] (d, G, E) := by
  refine Z.aload_n (k := 1) dX10_takes_0 rfl ?_
  refine Y.getI 3 dX10_takes_1 zl_X10_26 (congrArg Prod.fst hr1.1) (by decide) rfl hr1.2.2.2.2.1 ?_
  refine Z.aload_n (k := 2) dX10_takes_4 rfl ?_
  refine Y.getI 3 dX10_takes_5 zl_X10_26 (congrArg Prod.fst hr2.1) (by decide) rfl hr2.2.2.2.2.1 ?_
  refine Z.icmp_gt 25 dX10_takes_8 rfl ⟨fun c1 => ?_, fun c1 => ?_⟩
  · replace K := K.1 c1
    refine Z.iconst (n := 0) dX10_takes_25 ⟨by decide, by decide⟩ ?_
    exact Z.iret (ty := .boolean) dX10_takes_26 rfl rfl K
  · replace K := K.2 c1
    refine Z.aload_n (k := 1) dX10_takes_11 rfl ?_
    refine Y.getI 4 dX10_takes_12 zl_X10_32 (congrArg Prod.fst hr1.1) (by decide) rfl hr1.2.2.2.2.1 ?_
    refine Z.aload_n (k := 2) dX10_takes_15 rfl ?_
    refine Y.getI 4 dX10_takes_16 zl_X10_32 (congrArg Prod.fst hr2.1) (by decide) rfl hr2.2.2.2.2.1 ?_
    refine Z.iconst (n := -1) dX10_takes_19 ⟨by decide, by decide⟩ ?_
    refine Z.ixor dX10_takes_20 ?_
    refine Z.iand dX10_takes_21 ?_
    refine Z.if_eq 27 dX10_takes_22 rfl ⟨fun c2 => ?_, fun c2 => ?_⟩
    · replace K := K.1 c2
      refine Z.aload_n (k := 0) dX10_takes_27 rfl ?_
      refine Y.getR (o := some 20) 0 dX10_takes_28 zl_X10_18 (rfl) (by decide) rfl (zX_0_8 hX).2.2 (zX_33_0 hX).1 ?_
      refine Z.iconst (n := 0) dX10_takes_31 ⟨by decide, by decide⟩ ?_
      obtain ⟨E3, m4, K⟩ := K
      refine Y.callV (g := zm_X9_forget) (vs := [zI 0]) (st := []) dX10_takes_32 ⟨zg_X9_forget.1, zg_X9_forget.2.1, zg_X9_forget.2.2, by decide⟩ ⟨zk_X10_35, zv_X9_forget⟩ (ci := 9) (rfl) rfl ((zX_0_6 hX).2.2) rfl rfl (Nat.le_of_ble_eq_true rfl) m4 (Or.inl rfl) ?_
      show Z zm_X10_takes kz Q 35 [(0, zR 33), (1, zR r1), (2, zR r2)] [] (d, G, E3)
      refine Z.iconst (n := 0) dX10_takes_35 ⟨by decide, by decide⟩ ?_
      refine Z.istore_n (ls' := [(3, zI 0), (0, zR 33), (1, zR r1), (2, zR r2)]) dX10_takes_36 (by decide) rfl ?_
      refine Z.aload_n (k := 1) dX10_takes_37 rfl ?_
      refine Y.getR (o := some 34) 2 dX10_takes_38 zl_X10_9 (rfl) (by decide) rfl (zX_0_8 hX).2.2 (zX_33_2 hX).1 ?_
      refine Z.iconst (n := 0) dX10_takes_41 ⟨by decide, by decide⟩ ?_
      refine Z.iconst (n := 0) dX10_takes_42 ⟨by decide, by decide⟩ ?_
      obtain ⟨z6, K⟩ := K
      refine Y.iast dX10_takes_43 (rfl) ((zX_33_2 hX).2.2) z6 ?_
      generalize eE7 : zuE E3 34 0 0 = E7
      replace K := K E7 eE7.symm
      refine Z.aload_n (k := 1) dX10_takes_44 rfl ?_
      refine Y.getR (o := some 35) 3 dX10_takes_45 zl_X10_15 (rfl) (by decide) rfl (zX_0_8 hX).2.2 (zX_33_3 hX).1 ?_
      refine Z.iconst (n := 0) dX10_takes_48 ⟨by decide, by decide⟩ ?_
      refine Z.iconst (n := 0) dX10_takes_49 ⟨by decide, by decide⟩ ?_
      obtain ⟨z8, K⟩ := K
      refine Y.iast dX10_takes_50 (rfl) ((zX_33_3 hX).2.2) z8 ?_
      generalize eE9 : zuE E7 35 0 0 = E9
      replace K := K E9 eE9.symm
      refine Z.iconst (n := 0) dX10_takes_51 ⟨by decide, by decide⟩ ?_
      refine Z.istore (ls' := [(4, zI 0), (3, zI 0), (0, zR 33), (1, zR r1), (2, zR r2)]) dX10_takes_52 (by decide) rfl ?_
      refine Z.pick (ls' := [(0, zR 33), (1, zR r1), (2, zR r2), (3, zI 0), (4, zI 0)]) [2, 3, 4, 1, 0] rfl ?_
      exact K
    · replace K := K.2 c2
      refine Z.iconst (n := 0) dX10_takes_25 ⟨by decide, by decide⟩ ?_
      exact Z.iret (ty := .boolean) dX10_takes_26 rfl rfl K
set_option maxRecDepth 20000 in
theorem X10_takes_54 {kz : Nat × Nat} {Q : Option zV → zH → Prop} {d : List Nat} {G : Nat → Int → Option Nat} {E : Nat → Int → Int} {r1 : Nat} {r2 : Nat} {v3 : Int} {v4 : Int} (hX : zK zXt d G) (hr1 : zRk d G r1) (hr2 : zRk d G r2) (K : ((1000000) ≤ v4 → (v3 ≠ (E r1 3) → Q (some (zI 0)) (d, G, E)) ∧ (¬ (v3 ≠ (E r1 3)) → Q (some (zI 1)) (d, G, E))) ∧ (¬ ((1000000) ≤ v4) → ((E r1 3) ≤ v3 → (v3 ≠ (E r1 3) → Q (some (zI 0)) (d, G, E)) ∧ (¬ (v3 ≠ (E r1 3)) → Q (some (zI 1)) (d, G, E))) ∧ (¬ ((E r1 3) ≤ v3) → ((0 : Int) ≤ v3 ∧ v3 < 7) ∧ ((E 34 v3) < (E r2 3) → zin ((E 34 v3) + 1) ∧ ((0 : Int) ≤ v3 ∧ v3 < 7) ∧ ∀ E9, E9 = zuE E 34 v3 (((E 34 v3) + 1)) → ((0 : Int) ≤ v3 ∧ v3 < 6) ∧ ((0 : Int) ≤ (E 34 v3) ∧ (E 34 v3) < 6) ∧ ((E9 (r1 + 3) v3) ≠ (E9 (r2 + 3) (E 34 v3)) → ((0 : Int) ≤ v3 ∧ v3 < 7) ∧ ∃ E14, zM zm_X9_forget [zR 20, zI ((E9 35 v3))] (d, G, E9) none (d, G, E14) ∧ zin (v4 + 1) ∧ Z zm_X10_takes kz Q 54 [(0, zR 33), (1, zR r1), (2, zR r2), (3, zI v3), (4, zI ((v4 + 1)))] [] (d, G, E14)) ∧ (¬ ((E9 (r1 + 3) v3) ≠ (E9 (r2 + 3) (E 34 v3))) → ((0 : Int) ≤ v3 ∧ v3 < 7) ∧ ((0 : Int) ≤ (E 34 v3) ∧ (E 34 v3) < 7) ∧ ∃ x20 E21, zM zm_X9_matches [zR 20, zR (r1 + 1), zI ((E9 (r1 + 2) v3)), zR (r2 + 1), zI ((E9 (r2 + 2) (E 34 v3)))] (d, G, E9) (some (zI x20)) (d, G, E21) ∧ (x20 = 0 → ((0 : Int) ≤ v3 ∧ v3 < 7) ∧ ∃ E26, zM zm_X9_forget [zR 20, zI ((E21 35 v3))] (d, G, E21) none (d, G, E26) ∧ zin (v4 + 1) ∧ Z zm_X10_takes kz Q 54 [(0, zR 33), (1, zR r1), (2, zR r2), (3, zI v3), (4, zI ((v4 + 1)))] [] (d, G, E26)) ∧ (¬ (x20 = 0) → zin (v3 + 1) ∧ ((0 : Int) ≤ (v3 + 1) ∧ (v3 + 1) < 7) ∧ ∀ E32, E32 = zuE E21 34 ((v3 + 1)) 0 → ((0 : Int) ≤ (v3 + 1) ∧ (v3 + 1) < 7) ∧ ∀ E34, E34 = zuE E32 35 ((v3 + 1)) ((E32 20 4)) → zin (v4 + 1) ∧ Z zm_X10_takes kz Q 54 [(0, zR 33), (1, zR r1), (2, zR r2), (3, zI ((v3 + 1))), (4, zI ((v4 + 1)))] [] (d, G, E34)))) ∧ (¬ ((E 34 v3) < (E r2 3)) → (v3 ≠ 0 → zin (v3 + (-1)) ∧ ((0 : Int) ≤ (v3 + (-1)) ∧ (v3 + (-1)) < 7) ∧ ∃ E39, zM zm_X9_forget [zR 20, zI ((E 35 (v3 + (-1))))] (d, G, E) none (d, G, E39) ∧ zin (v4 + 1) ∧ Z zm_X10_takes kz Q 54 [(0, zR 33), (1, zR r1), (2, zR r2), (3, zI ((v3 + (-1)))), (4, zI ((v4 + 1)))] [] (d, G, E39)) ∧ (¬ (v3 ≠ 0) → Q (some (zI 0)) (d, G, E)))))) : Z zm_X10_takes kz Q 54 [(0, zR 33), (1, zR r1), (2, zR r2), (3, zI v3), (4, zI v4)] [] (d, G, E) := by
  refine Z.iload (k := 4) dX10_takes_54 rfl ?_
  refine Z.ldc (n := 1000000) dX10_takes_56 ⟨by decide, by decide⟩ zq_X10_41 ?_
  refine Z.icmp_ge 213 dX10_takes_58 rfl ⟨fun c1 => ?_, fun c1 => ?_⟩
  · replace K := K.1 c1
    refine Z.iload_n (k := 3) dX10_takes_213 rfl ?_
    refine Z.aload_n (k := 1) dX10_takes_214 rfl ?_
    refine Y.getI 3 dX10_takes_215 zl_X10_26 (congrArg Prod.fst hr1.1) (by decide) rfl hr1.2.2.2.2.1 ?_
    refine Z.icmp_ne 225 dX10_takes_218 rfl ⟨fun c2 => ?_, fun c2 => ?_⟩
    · replace K := K.1 c2
      refine Z.iconst (n := 0) dX10_takes_225 ⟨by decide, by decide⟩ ?_
      exact Z.iret (ty := .boolean) dX10_takes_226 rfl rfl K
    · replace K := K.2 c2
      refine Z.iconst (n := 1) dX10_takes_221 ⟨by decide, by decide⟩ ?_
      refine Z.goto 226 dX10_takes_222 rfl ?_
      exact Z.iret (ty := .boolean) dX10_takes_226 rfl rfl K
  · replace K := K.2 c1
    refine Z.iload_n (k := 3) dX10_takes_61 rfl ?_
    refine Z.aload_n (k := 1) dX10_takes_62 rfl ?_
    refine Y.getI 3 dX10_takes_63 zl_X10_26 (congrArg Prod.fst hr1.1) (by decide) rfl hr1.2.2.2.2.1 ?_
    refine Z.icmp_ge 213 dX10_takes_66 rfl ⟨fun c3 => ?_, fun c3 => ?_⟩
    · replace K := K.1 c3
      refine Z.iload_n (k := 3) dX10_takes_213 rfl ?_
      refine Z.aload_n (k := 1) dX10_takes_214 rfl ?_
      refine Y.getI 3 dX10_takes_215 zl_X10_26 (congrArg Prod.fst hr1.1) (by decide) rfl hr1.2.2.2.2.1 ?_
      refine Z.icmp_ne 225 dX10_takes_218 rfl ⟨fun c4 => ?_, fun c4 => ?_⟩
      · replace K := K.1 c4
        refine Z.iconst (n := 0) dX10_takes_225 ⟨by decide, by decide⟩ ?_
        exact Z.iret (ty := .boolean) dX10_takes_226 rfl rfl K
      · replace K := K.2 c4
        refine Z.iconst (n := 1) dX10_takes_221 ⟨by decide, by decide⟩ ?_
        refine Z.goto 226 dX10_takes_222 rfl ?_
        exact Z.iret (ty := .boolean) dX10_takes_226 rfl rfl K
    · replace K := K.2 c3
      refine Z.aload_n (k := 0) dX10_takes_69 rfl ?_
      refine Y.getR (o := some 34) 2 dX10_takes_70 zl_X10_9 (rfl) (by decide) rfl (zX_0_8 hX).2.2 (zX_33_2 hX).1 ?_
      refine Z.iload_n (k := 3) dX10_takes_73 rfl ?_
      obtain ⟨z5, K⟩ := K
      refine Y.iald dX10_takes_74 (rfl) ((zX_33_2 hX).2.2) z5 ?_
      refine Z.istore (ls' := [(5, zI ((E 34 v3))), (0, zR 33), (1, zR r1), (2, zR r2), (3, zI v3), (4, zI v4)]) dX10_takes_75 (by decide) rfl ?_
      refine Z.iload (k := 0) dX10_takes_77 rfl ?_
      refine Z.aload_n (k := 3) dX10_takes_79 rfl ?_
      refine Y.getI 3 dX10_takes_80 zl_X10_26 (congrArg Prod.fst hr2.1) (by decide) rfl hr2.2.2.2.2.1 ?_
      refine Z.icmp_lt 111 dX10_takes_83 rfl ⟨fun c6 => ?_, fun c6 => ?_⟩
      · replace K := K.1 c6
        refine Z.aload_n (k := 1) dX10_takes_111 rfl ?_
        refine Y.getR (o := some 34) 2 dX10_takes_112 zl_X10_9 (rfl) (by decide) rfl (zX_0_8 hX).2.2 (zX_33_2 hX).1 ?_
        refine Z.iload_n (k := 4) dX10_takes_115 rfl ?_
        refine Z.iload (k := 0) dX10_takes_116 rfl ?_
        refine Z.iconst (n := 1) dX10_takes_118 ⟨by decide, by decide⟩ ?_
        obtain ⟨z7, K⟩ := K
        refine Z.iadd dX10_takes_119 z7 ?_
        obtain ⟨z8, K⟩ := K
        refine Y.iast dX10_takes_120 (rfl) ((zX_33_2 hX).2.2) z8 ?_
        generalize eE9 : zuE E 34 v3 (((E 34 v3) + 1)) = E9
        replace K := K E9 eE9.symm
        refine Z.aload_n (k := 2) dX10_takes_121 rfl ?_
        refine Y.getR (o := some (r1 + 3)) 2 dX10_takes_122 zl_X10_42 (congrArg Prod.fst hr1.1) (by decide) rfl hr1.2.2.2.2.1 hr1.2.2.2.2.2.2.2.2.2.2 ?_
        refine Z.iload_n (k := 4) dX10_takes_125 rfl ?_
        obtain ⟨z10, K⟩ := K
        refine Y.zald dX10_takes_126 (hr1.2.2.2.1) (hr1.2.2.2.2.2.2.2.1) z10 ?_
        refine Z.aload_n (k := 3) dX10_takes_127 rfl ?_
        refine Y.getR (o := some (r2 + 3)) 2 dX10_takes_128 zl_X10_42 (congrArg Prod.fst hr2.1) (by decide) rfl hr2.2.2.2.2.1 hr2.2.2.2.2.2.2.2.2.2.2 ?_
        refine Z.iload (k := 0) dX10_takes_131 rfl ?_
        obtain ⟨z11, K⟩ := K
        refine Y.zald dX10_takes_133 (hr2.2.2.2.1) (hr2.2.2.2.2.2.2.2.1) z11 ?_
        refine Z.icmp_ne 194 dX10_takes_134 rfl ⟨fun c12 => ?_, fun c12 => ?_⟩
        · replace K := K.1 c12
          refine Z.aload_n (k := 1) dX10_takes_194 rfl ?_
          refine Y.getR (o := some 20) 0 dX10_takes_195 zl_X10_18 (rfl) (by decide) rfl (zX_0_8 hX).2.2 (zX_33_0 hX).1 ?_
          refine Z.aload_n (k := 1) dX10_takes_198 rfl ?_
          refine Y.getR (o := some 35) 3 dX10_takes_199 zl_X10_15 (rfl) (by decide) rfl (zX_0_8 hX).2.2 (zX_33_3 hX).1 ?_
          refine Z.iload_n (k := 4) dX10_takes_202 rfl ?_
          obtain ⟨z13, K⟩ := K
          refine Y.iald dX10_takes_203 (rfl) ((zX_33_3 hX).2.2) z13 ?_
          obtain ⟨E14, m15, K⟩ := K
          refine Y.callV (g := zm_X9_forget) (vs := [zI ((E9 35 v3))]) (st := []) dX10_takes_204 ⟨zg_X9_forget.1, zg_X9_forget.2.1, zg_X9_forget.2.2, by decide⟩ ⟨zk_X10_35, zv_X9_forget⟩ (ci := 9) (rfl) rfl ((zX_0_6 hX).2.2) rfl rfl (Nat.le_of_ble_eq_true rfl) m15 (Or.inl rfl) ?_
          show Z zm_X10_takes kz Q 207 [(5, zI ((E 34 v3))), (0, zR 33), (1, zR r1), (2, zR r2), (3, zI v3), (4, zI v4)] [] (d, G, E14)
          obtain ⟨z17, K⟩ := K
          refine Z.iinc (k := 5) (ls' := [(4, zI ((v4 + 1))), (5, zI ((E 34 v3))), (0, zR 33), (1, zR r1), (2, zR r2), (3, zI v3)]) dX10_takes_207 rfl (by decide) z17 rfl ?_
          refine Z.goto 54 dX10_takes_210 rfl ?_
          refine Z.pick (ls' := [(0, zR 33), (1, zR r1), (2, zR r2), (3, zI v3), (4, zI ((v4 + 1)))]) [2, 3, 4, 5, 0] rfl ?_
          exact K
        · replace K := K.2 c12
          refine Z.aload_n (k := 1) dX10_takes_137 rfl ?_
          refine Y.getR (o := some 20) 0 dX10_takes_138 zl_X10_18 (rfl) (by decide) rfl (zX_0_8 hX).2.2 (zX_33_0 hX).1 ?_
          refine Z.aload_n (k := 2) dX10_takes_141 rfl ?_
          refine Y.getR (o := some (r1 + 1)) 0 dX10_takes_142 zl_X10_46 (congrArg Prod.fst hr1.1) (by decide) rfl hr1.2.2.2.2.1 hr1.2.2.2.2.2.2.2.2.1 ?_
          refine Z.aload_n (k := 2) dX10_takes_145 rfl ?_
          refine Y.getR (o := some (r1 + 2)) 1 dX10_takes_146 zl_X10_49 (congrArg Prod.fst hr1.1) (by decide) rfl hr1.2.2.2.2.1 hr1.2.2.2.2.2.2.2.2.2.1 ?_
          refine Z.iload_n (k := 4) dX10_takes_149 rfl ?_
          obtain ⟨z18, K⟩ := K
          refine Y.iald dX10_takes_150 (hr1.2.2.1) (hr1.2.2.2.2.2.2.1) z18 ?_
          refine Z.aload_n (k := 3) dX10_takes_151 rfl ?_
          refine Y.getR (o := some (r2 + 1)) 0 dX10_takes_152 zl_X10_46 (congrArg Prod.fst hr2.1) (by decide) rfl hr2.2.2.2.2.1 hr2.2.2.2.2.2.2.2.2.1 ?_
          refine Z.aload_n (k := 3) dX10_takes_155 rfl ?_
          refine Y.getR (o := some (r2 + 2)) 1 dX10_takes_156 zl_X10_49 (congrArg Prod.fst hr2.1) (by decide) rfl hr2.2.2.2.2.1 hr2.2.2.2.2.2.2.2.2.2.1 ?_
          refine Z.iload (k := 0) dX10_takes_159 rfl ?_
          obtain ⟨z19, K⟩ := K
          refine Y.iald dX10_takes_161 (hr2.2.2.1) (hr2.2.2.2.2.2.2.1) z19 ?_
          obtain ⟨x20, E21, m22, K⟩ := K
          refine Y.callV (g := zm_X9_matches) (vs := [zR (r1 + 1), zI ((E9 (r1 + 2) v3)), zR (r2 + 1), zI ((E9 (r2 + 2) (E 34 v3)))]) (st := []) dX10_takes_162 ⟨zg_X9_matches.1, zg_X9_matches.2.1, zg_X9_matches.2.2, by decide⟩ ⟨zk_X10_52, zv_X9_matches⟩ (ci := 9) (rfl) rfl ((zX_0_6 hX).2.2) rfl rfl (Nat.le_of_ble_eq_true rfl) m22 (Or.inl rfl) ?_
          show Z zm_X10_takes kz Q 165 [(5, zI ((E 34 v3))), (0, zR 33), (1, zR r1), (2, zR r2), (3, zI v3), (4, zI v4)] [zI x20] (d, G, E21)
          refine Z.if_eq 194 dX10_takes_165 rfl ⟨fun c24 => ?_, fun c24 => ?_⟩
          · replace K := K.1 c24
            refine Z.aload_n (k := 1) dX10_takes_194 rfl ?_
            refine Y.getR (o := some 20) 0 dX10_takes_195 zl_X10_18 (rfl) (by decide) rfl (zX_0_8 hX).2.2 (zX_33_0 hX).1 ?_
            refine Z.aload_n (k := 1) dX10_takes_198 rfl ?_
            refine Y.getR (o := some 35) 3 dX10_takes_199 zl_X10_15 (rfl) (by decide) rfl (zX_0_8 hX).2.2 (zX_33_3 hX).1 ?_
            refine Z.iload_n (k := 4) dX10_takes_202 rfl ?_
            obtain ⟨z25, K⟩ := K
            refine Y.iald dX10_takes_203 (rfl) ((zX_33_3 hX).2.2) z25 ?_
            obtain ⟨E26, m27, K⟩ := K
            refine Y.callV (g := zm_X9_forget) (vs := [zI ((E21 35 v3))]) (st := []) dX10_takes_204 ⟨zg_X9_forget.1, zg_X9_forget.2.1, zg_X9_forget.2.2, by decide⟩ ⟨zk_X10_35, zv_X9_forget⟩ (ci := 9) (rfl) rfl ((zX_0_6 hX).2.2) rfl rfl (Nat.le_of_ble_eq_true rfl) m27 (Or.inl rfl) ?_
            show Z zm_X10_takes kz Q 207 [(5, zI ((E 34 v3))), (0, zR 33), (1, zR r1), (2, zR r2), (3, zI v3), (4, zI v4)] [] (d, G, E26)
            obtain ⟨z29, K⟩ := K
            refine Z.iinc (k := 5) (ls' := [(4, zI ((v4 + 1))), (5, zI ((E 34 v3))), (0, zR 33), (1, zR r1), (2, zR r2), (3, zI v3)]) dX10_takes_207 rfl (by decide) z29 rfl ?_
            refine Z.goto 54 dX10_takes_210 rfl ?_
            refine Z.pick (ls' := [(0, zR 33), (1, zR r1), (2, zR r2), (3, zI v3), (4, zI ((v4 + 1)))]) [2, 3, 4, 5, 0] rfl ?_
            exact K
          · replace K := K.2 c24
            obtain ⟨z30, K⟩ := K
            refine Z.iinc (k := 4) (ls' := [(3, zI ((v3 + 1))), (5, zI ((E 34 v3))), (0, zR 33), (1, zR r1), (2, zR r2), (4, zI v4)]) dX10_takes_168 rfl (by decide) z30 rfl ?_
            refine Z.aload_n (k := 2) dX10_takes_171 rfl ?_
            refine Y.getR (o := some 34) 2 dX10_takes_172 zl_X10_9 (rfl) (by decide) rfl (zX_0_8 hX).2.2 (zX_33_2 hX).1 ?_
            refine Z.iload_n (k := 0) dX10_takes_175 rfl ?_
            refine Z.iconst (n := 0) dX10_takes_176 ⟨by decide, by decide⟩ ?_
            obtain ⟨z31, K⟩ := K
            refine Y.iast dX10_takes_177 (rfl) ((zX_33_2 hX).2.2) z31 ?_
            generalize eE32 : zuE E21 34 ((v3 + 1)) 0 = E32
            replace K := K E32 eE32.symm
            refine Z.aload_n (k := 2) dX10_takes_178 rfl ?_
            refine Y.getR (o := some 35) 3 dX10_takes_179 zl_X10_15 (rfl) (by decide) rfl (zX_0_8 hX).2.2 (zX_33_3 hX).1 ?_
            refine Z.iload_n (k := 0) dX10_takes_182 rfl ?_
            refine Z.aload_n (k := 2) dX10_takes_183 rfl ?_
            refine Y.getR (o := some 20) 0 dX10_takes_184 zl_X10_18 (rfl) (by decide) rfl (zX_0_8 hX).2.2 (zX_33_0 hX).1 ?_
            refine Y.getI 4 dX10_takes_187 zl_X10_56 (rfl) (by decide) rfl (zX_0_6 hX).2.2 ?_
            obtain ⟨z33, K⟩ := K
            refine Y.iast dX10_takes_190 (rfl) ((zX_33_3 hX).2.2) z33 ?_
            generalize eE34 : zuE E32 35 ((v3 + 1)) ((E32 20 4)) = E34
            replace K := K E34 eE34.symm
            refine Z.goto 207 dX10_takes_191 rfl ?_
            obtain ⟨z35, K⟩ := K
            refine Z.iinc (k := 5) (ls' := [(4, zI ((v4 + 1))), (3, zI ((v3 + 1))), (5, zI ((E 34 v3))), (0, zR 33), (1, zR r1), (2, zR r2)]) dX10_takes_207 rfl (by decide) z35 rfl ?_
            refine Z.goto 54 dX10_takes_210 rfl ?_
            refine Z.pick (ls' := [(0, zR 33), (1, zR r1), (2, zR r2), (3, zI ((v3 + 1))), (4, zI ((v4 + 1)))]) [3, 4, 5, 1, 0] rfl ?_
            exact K
      · replace K := K.2 c6
        refine Z.iload_n (k := 4) dX10_takes_86 rfl ?_
        refine Z.if_ne 92 dX10_takes_87 rfl ⟨fun c36 => ?_, fun c36 => ?_⟩
        · replace K := K.1 c36
          obtain ⟨z37, K⟩ := K
          refine Z.iinc (k := 4) (ls' := [(3, zI ((v3 + (-1)))), (5, zI ((E 34 v3))), (0, zR 33), (1, zR r1), (2, zR r2), (4, zI v4)]) dX10_takes_92 rfl (by decide) z37 rfl ?_
          refine Z.aload_n (k := 2) dX10_takes_95 rfl ?_
          refine Y.getR (o := some 20) 0 dX10_takes_96 zl_X10_18 (rfl) (by decide) rfl (zX_0_8 hX).2.2 (zX_33_0 hX).1 ?_
          refine Z.aload_n (k := 2) dX10_takes_99 rfl ?_
          refine Y.getR (o := some 35) 3 dX10_takes_100 zl_X10_15 (rfl) (by decide) rfl (zX_0_8 hX).2.2 (zX_33_3 hX).1 ?_
          refine Z.iload_n (k := 0) dX10_takes_103 rfl ?_
          obtain ⟨z38, K⟩ := K
          refine Y.iald dX10_takes_104 (rfl) ((zX_33_3 hX).2.2) z38 ?_
          obtain ⟨E39, m40, K⟩ := K
          refine Y.callV (g := zm_X9_forget) (vs := [zI ((E 35 (v3 + (-1))))]) (st := []) dX10_takes_105 ⟨zg_X9_forget.1, zg_X9_forget.2.1, zg_X9_forget.2.2, by decide⟩ ⟨zk_X10_35, zv_X9_forget⟩ (ci := 9) (rfl) rfl ((zX_0_6 hX).2.2) rfl rfl (Nat.le_of_ble_eq_true rfl) m40 (Or.inl rfl) ?_
          show Z zm_X10_takes kz Q 108 [(3, zI ((v3 + (-1)))), (5, zI ((E 34 v3))), (0, zR 33), (1, zR r1), (2, zR r2), (4, zI v4)] [] (d, G, E39)
          refine Z.goto 207 dX10_takes_108 rfl ?_
          obtain ⟨z42, K⟩ := K
          refine Z.iinc (k := 5) (ls' := [(4, zI ((v4 + 1))), (3, zI ((v3 + (-1)))), (5, zI ((E 34 v3))), (0, zR 33), (1, zR r1), (2, zR r2)]) dX10_takes_207 rfl (by decide) z42 rfl ?_
          refine Z.goto 54 dX10_takes_210 rfl ?_
          refine Z.pick (ls' := [(0, zR 33), (1, zR r1), (2, zR r2), (3, zI ((v3 + (-1)))), (4, zI ((v4 + 1)))]) [3, 4, 5, 1, 0] rfl ?_
          exact K
        · replace K := K.2 c36
          refine Z.iconst (n := 0) dX10_takes_90 ⟨by decide, by decide⟩ ?_
          exact Z.iret (ty := .boolean) dX10_takes_91 rfl rfl K
set_option maxRecDepth 20000 in
theorem X10_isTakenIn_0 {kz : Nat × Nat} {Q : Option zV → zH → Prop} {d : List Nat} {G : Nat → Int → Option Nat} {E : Nat → Int → Int} {r1 : Nat} (hX : zK zXt d G) (hr1 : zRk d G r1) (K : Z zm_X10_isTakenIn kz Q 2 [(0, zR 33), (1, zR r1), (2, zI 0)] [] (d, G, E)) : Z zm_X10_isTakenIn kz Q 0 [(0, zR 33), (1, zR r1)] [] (d, G, E) := by
  refine Z.iconst (n := 0) dX10_isTakenIn_0 ⟨by decide, by decide⟩ ?_
  refine Z.istore_n (ls' := [(2, zI 0), (0, zR 33), (1, zR r1)]) dX10_isTakenIn_1 (by decide) rfl ?_
  refine Z.pick (ls' := [(0, zR 33), (1, zR r1), (2, zI 0)]) [1, 2, 0] rfl ?_
  exact K
set_option maxRecDepth 20000 in
theorem X10_isTakenIn_2 {kz : Nat × Nat} {Q : Option zV → zH → Prop} {d : List Nat} {G : Nat → Int → Option Nat} {E : Nat → Int → Int} {r1 : Nat} {v2 : Int} (hX : zK zXt d G) (hr1 : zRk d G r1) (K : ((E 5 4) ≤ v2 → Q (some (zI 0)) (d, G, E)) ∧ (¬ ((E 5 4) ≤ v2) → ∃ o2, zM zm_X7_at [zR 5, zI v2] (d, G, E) (some (zO o2)) (d, G, E) ∧ (o2 = none → zin (v2 + 1) ∧ Z zm_X10_isTakenIn kz Q 2 [(0, zR 33), (1, zR r1), (2, zI ((v2 + 1)))] [] (d, G, E)) ∧ (¬ (o2 = none) → ∃ b7, o2 = some b7 ∧ zCk d G b7 ∧ ∃ x10, zM zm_X1_isThere [zR b7] (d, G, E) (some (zI x10)) (d, G, E) ∧ (x10 = 0 → zin (v2 + 1) ∧ Z zm_X10_isTakenIn kz Q 2 [(0, zR 33), (1, zR r1), (2, zI ((v2 + 1)))] [] (d, G, E)) ∧ (¬ (x10 = 0) → ∃ x15 E16, zM zm_X10_takes [zR 33, zR ((b7 + 1)), zR r1] (d, G, E) (some (zI x15)) (d, G, E16) ∧ (x15 = 0 → zin (v2 + 1) ∧ Z zm_X10_isTakenIn kz Q 2 [(0, zR 33), (1, zR r1), (2, zI ((v2 + 1)))] [] (d, G, E16)) ∧ (¬ (x15 = 0) → Q (some (zI 1)) (d, G, E16)))))) : Z zm_X10_isTakenIn kz Q 2 [(0, zR 33), (1, zR r1), (2, zI v2)] [] (d, G, E) := by
  refine Z.iload_n (k := 2) dX10_isTakenIn_2 rfl ?_
  refine Z.aload_n (k := 0) dX10_isTakenIn_3 rfl ?_
  refine Y.getR (o := some 5) 1 dX10_isTakenIn_4 zl_X10_22 (rfl) (by decide) rfl (zX_0_8 hX).2.2 (zX_33_1 hX).1 ?_
  refine Y.getI 4 dX10_isTakenIn_7 zl_X10_59 (rfl) (by decide) rfl (zX_0_1 hX).2.2 ?_
  refine Z.icmp_ge 53 dX10_isTakenIn_10 rfl ⟨fun c1 => ?_, fun c1 => ?_⟩
  · replace K := K.1 c1
    refine Z.iconst (n := 0) dX10_isTakenIn_53 ⟨by decide, by decide⟩ ?_
    exact Z.iret (ty := .boolean) dX10_isTakenIn_54 rfl rfl K
  · replace K := K.2 c1
    refine Z.aload_n (k := 0) dX10_isTakenIn_13 rfl ?_
    refine Y.getR (o := some 5) 1 dX10_isTakenIn_14 zl_X10_22 (rfl) (by decide) rfl (zX_0_8 hX).2.2 (zX_33_1 hX).1 ?_
    refine Z.iload_n (k := 2) dX10_isTakenIn_17 rfl ?_
    obtain ⟨o2, m3, K⟩ := K
    refine Y.callV (g := zm_X7_at) (vs := [zI v2]) (st := []) dX10_isTakenIn_18 ⟨zg_X7_at.1, zg_X7_at.2.1, zg_X7_at.2.2, by decide⟩ ⟨zk_X10_64, zv_X7_at⟩ (ci := 7) (rfl) rfl ((zX_0_1 hX).2.2) rfl rfl (Nat.le_of_ble_eq_true rfl) m3 (Or.inl rfl) ?_
    show Z zm_X10_isTakenIn kz Q 21 [(0, zR 33), (1, zR r1), (2, zI v2)] [zO o2] (d, G, E)
    refine Z.astore_n (ls' := [(3, zO o2), (0, zR 33), (1, zR r1), (2, zI v2)]) dX10_isTakenIn_21 (by decide) rfl ?_
    refine Z.aload_n (k := 0) dX10_isTakenIn_22 rfl ?_
    refine Z.ifnull 47 dX10_isTakenIn_23 rfl ⟨fun c5 => ?_, fun c5 => ?_⟩
    · replace K := K.1 c5
      obtain ⟨z6, K⟩ := K
      refine Z.iinc (k := 3) (ls' := [(2, zI ((v2 + 1))), (3, zO o2), (0, zR 33), (1, zR r1)]) dX10_isTakenIn_47 rfl (by decide) z6 rfl ?_
      refine Z.goto 2 dX10_isTakenIn_50 rfl ?_
      refine Z.pick (ls' := [(0, zR 33), (1, zR r1), (2, zI ((v2 + 1)))]) [2, 3, 0] rfl ?_
      exact K
    · replace K := K.2 c5
      refine Z.aload_n (k := 0) dX10_isTakenIn_26 rfl ?_
      obtain ⟨b7, e8, hc9, K⟩ := K
      rw [e8]
      obtain ⟨x10, m11, K⟩ := K
      refine Y.callV (g := zm_X1_isThere) (vs := []) (st := []) dX10_isTakenIn_27 ⟨zg_X1_isThere.1, zg_X1_isThere.2.1, zg_X1_isThere.2.2, by decide⟩ ⟨zk_X10_68, zv_X1_isThere⟩ (ci := 1) (congrArg Prod.fst hc9.1) rfl (hc9.2.1) rfl rfl (Nat.le_of_ble_eq_true rfl) m11 (Or.inl rfl) ?_
      show Z zm_X10_isTakenIn kz Q 30 [(3, zR b7), (0, zR 33), (1, zR r1), (2, zI v2)] [zI x10] (d, G, E)
      refine Z.if_eq 47 dX10_isTakenIn_30 rfl ⟨fun c13 => ?_, fun c13 => ?_⟩
      · replace K := K.1 c13
        obtain ⟨z14, K⟩ := K
        refine Z.iinc (k := 3) (ls' := [(2, zI ((v2 + 1))), (3, zR b7), (0, zR 33), (1, zR r1)]) dX10_isTakenIn_47 rfl (by decide) z14 rfl ?_
        refine Z.goto 2 dX10_isTakenIn_50 rfl ?_
        refine Z.pick (ls' := [(0, zR 33), (1, zR r1), (2, zI ((v2 + 1)))]) [2, 3, 0] rfl ?_
        exact K
      · replace K := K.2 c13
        refine Z.aload_n (k := 1) dX10_isTakenIn_33 rfl ?_
        refine Z.aload_n (k := 0) dX10_isTakenIn_34 rfl ?_
        refine Y.getR (o := some ((b7 + 1))) 0 dX10_isTakenIn_35 zl_X10_74 (congrArg Prod.fst hc9.1) (by decide) rfl hc9.2.1 hc9.2.2.2.1 ?_
        refine Z.aload_n (k := 2) dX10_isTakenIn_38 rfl ?_
        obtain ⟨x15, E16, m17, K⟩ := K
        refine Y.callV (g := zm_X10_takes) (vs := [zR ((b7 + 1)), zR r1]) (st := []) dX10_isTakenIn_39 ⟨zg_X10_takes.1, zg_X10_takes.2.1, zg_X10_takes.2.2, by decide⟩ ⟨zk_X10_78, zv_X10_takes⟩ (ci := 10) (rfl) rfl ((zX_0_8 hX).2.2) rfl rfl (Nat.le_of_ble_eq_true rfl) m17 (Or.inl rfl) ?_
        show Z zm_X10_isTakenIn kz Q 42 [(3, zR b7), (0, zR 33), (1, zR r1), (2, zI v2)] [zI x15] (d, G, E16)
        refine Z.if_eq 47 dX10_isTakenIn_42 rfl ⟨fun c19 => ?_, fun c19 => ?_⟩
        · replace K := K.1 c19
          obtain ⟨z20, K⟩ := K
          refine Z.iinc (k := 3) (ls' := [(2, zI ((v2 + 1))), (3, zR b7), (0, zR 33), (1, zR r1)]) dX10_isTakenIn_47 rfl (by decide) z20 rfl ?_
          refine Z.goto 2 dX10_isTakenIn_50 rfl ?_
          refine Z.pick (ls' := [(0, zR 33), (1, zR r1), (2, zI ((v2 + 1)))]) [2, 3, 0] rfl ?_
          exact K
        · replace K := K.2 c19
          refine Z.iconst (n := 1) dX10_isTakenIn_45 ⟨by decide, by decide⟩ ?_
          exact Z.iret (ty := .boolean) dX10_isTakenIn_46 rfl rfl K
set_option maxRecDepth 20000 in
theorem X10_putAway_0 {kz : Nat × Nat} {Q : Option zV → zH → Prop} {d : List Nat} {G : Nat → Int → Option Nat} {E : Nat → Int → Int} {c1 : Nat} (hX : zK zXt d G) (hc1 : zCk d G c1) (K : Z zm_X10_putAway kz Q 2 [(0, zR 33), (1, zR c1), (2, zI 0)] [] (d, G, E)) : Z zm_X10_putAway kz Q 0 [(0, zR 33), (1, zR c1)] [] (d, G, E) := by
  refine Z.iconst (n := 0) dX10_putAway_0 ⟨by decide, by decide⟩ ?_
  refine Z.istore_n (ls' := [(2, zI 0), (0, zR 33), (1, zR c1)]) dX10_putAway_1 (by decide) rfl ?_
  refine Z.pick (ls' := [(0, zR 33), (1, zR c1), (2, zI 0)]) [1, 2, 0] rfl ?_
  exact K
set_option maxRecDepth 20000 in
theorem X10_putAway_2 {kz : Nat × Nat} {Q : Option zV → zH → Prop} {d : List Nat} {G : Nat → Int → Option Nat} {E : Nat → Int → Int} {c1 : Nat} {v2 : Int} (hX : zK zXt d G) (hc1 : zCk d G c1) (K : ((E 5 4) ≤ v2 → Q none (d, G, E)) ∧ (¬ ((E 5 4) ≤ v2) → ∃ o2, zM zm_X7_at [zR 5, zI v2] (d, G, E) (some (zO o2)) (d, G, E) ∧ (o2 = none → zin (v2 + 1) ∧ Z zm_X10_putAway kz Q 2 [(0, zR 33), (1, zR c1), (2, zI ((v2 + 1)))] [] (d, G, E)) ∧ (¬ (o2 = none) → (∀ b, o2 = some b → b ∈ d) ∧ ((o2 = some c1 → zin (v2 + 1) ∧ Z zm_X10_putAway kz Q 2 [(0, zR 33), (1, zR c1), (2, zI ((v2 + 1)))] [] (d, G, E)) ∧ (¬ (o2 = some c1) → ∃ b10, o2 = some b10 ∧ zCk d G b10 ∧ ∃ x13, zM zm_X1_isThere [zR b10] (d, G, E) (some (zI x13)) (d, G, E) ∧ (x13 = 0 → zin (v2 + 1) ∧ Z zm_X10_putAway kz Q 2 [(0, zR 33), (1, zR c1), (2, zI ((v2 + 1)))] [] (d, G, E)) ∧ (¬ (x13 = 0) → ∃ x18 E19, zM zm_X10_takes [zR 33, zR ((c1 + 1)), zR ((b10 + 1))] (d, G, E) (some (zI x18)) (d, G, E19) ∧ (x18 = 0 → zin (v2 + 1) ∧ Z zm_X10_putAway kz Q 2 [(0, zR 33), (1, zR c1), (2, zI ((v2 + 1)))] [] (d, G, E19)) ∧ (¬ (x18 = 0) → ∀ E24, E24 = zuE E19 b10 6 2 → ∀ E25, E25 = zuE E24 b10 7 ((E24 c1 5)) → zin (v2 + 1) ∧ Z zm_X10_putAway kz Q 2 [(0, zR 33), (1, zR c1), (2, zI ((v2 + 1)))] [] (d, G, E25)))))))) : Z zm_X10_putAway kz Q 2 [(0, zR 33), (1, zR c1), (2, zI v2)] [] (d, G, E) := by
  refine Z.iload_n (k := 2) dX10_putAway_2 rfl ?_
  refine Z.aload_n (k := 0) dX10_putAway_3 rfl ?_
  refine Y.getR (o := some 5) 1 dX10_putAway_4 zl_X10_22 (rfl) (by decide) rfl (zX_0_8 hX).2.2 (zX_33_1 hX).1 ?_
  refine Y.getI 4 dX10_putAway_7 zl_X10_59 (rfl) (by decide) rfl (zX_0_1 hX).2.2 ?_
  refine Z.icmp_ge 72 dX10_putAway_10 rfl ⟨fun c1 => ?_, fun c1 => ?_⟩
  · replace K := K.1 c1
    exact Z.vret dX10_putAway_72 rfl K
  · replace K := K.2 c1
    refine Z.aload_n (k := 0) dX10_putAway_13 rfl ?_
    refine Y.getR (o := some 5) 1 dX10_putAway_14 zl_X10_22 (rfl) (by decide) rfl (zX_0_8 hX).2.2 (zX_33_1 hX).1 ?_
    refine Z.iload_n (k := 2) dX10_putAway_17 rfl ?_
    obtain ⟨o2, m3, K⟩ := K
    refine Y.callV (g := zm_X7_at) (vs := [zI v2]) (st := []) dX10_putAway_18 ⟨zg_X7_at.1, zg_X7_at.2.1, zg_X7_at.2.2, by decide⟩ ⟨zk_X10_64, zv_X7_at⟩ (ci := 7) (rfl) rfl ((zX_0_1 hX).2.2) rfl rfl (Nat.le_of_ble_eq_true rfl) m3 (Or.inl rfl) ?_
    show Z zm_X10_putAway kz Q 21 [(0, zR 33), (1, zR c1), (2, zI v2)] [zO o2] (d, G, E)
    refine Z.astore_n (ls' := [(3, zO o2), (0, zR 33), (1, zR c1), (2, zI v2)]) dX10_putAway_21 (by decide) rfl ?_
    refine Z.aload_n (k := 0) dX10_putAway_22 rfl ?_
    refine Z.ifnull 66 dX10_putAway_23 rfl ⟨fun c5 => ?_, fun c5 => ?_⟩
    · replace K := K.1 c5
      obtain ⟨z6, K⟩ := K
      refine Z.iinc (k := 3) (ls' := [(2, zI ((v2 + 1))), (3, zO o2), (0, zR 33), (1, zR c1)]) dX10_putAway_66 rfl (by decide) z6 rfl ?_
      refine Z.goto 2 dX10_putAway_69 rfl ?_
      refine Z.pick (ls' := [(0, zR 33), (1, zR c1), (2, zI ((v2 + 1)))]) [2, 3, 0] rfl ?_
      exact K
    · replace K := K.2 c5
      refine Z.aload_n (k := 0) dX10_putAway_26 rfl ?_
      refine Z.aload_n (k := 2) dX10_putAway_27 rfl ?_
      obtain ⟨z7, K⟩ := K
      refine Y.acmp_eq 66 dX10_putAway_28 rfl z7 (fun b hb => by cases hb; exact hc1.2.1) ⟨fun c8 => ?_, fun c8 => ?_⟩
      · replace K := K.1 c8
        obtain ⟨z9, K⟩ := K
        refine Z.iinc (k := 3) (ls' := [(2, zI ((v2 + 1))), (3, zO o2), (0, zR 33), (1, zR c1)]) dX10_putAway_66 rfl (by decide) z9 rfl ?_
        refine Z.goto 2 dX10_putAway_69 rfl ?_
        refine Z.pick (ls' := [(0, zR 33), (1, zR c1), (2, zI ((v2 + 1)))]) [2, 3, 0] rfl ?_
        exact K
      · replace K := K.2 c8
        refine Z.aload_n (k := 0) dX10_putAway_31 rfl ?_
        obtain ⟨b10, e11, hc12, K⟩ := K
        rw [e11]
        obtain ⟨x13, m14, K⟩ := K
        refine Y.callV (g := zm_X1_isThere) (vs := []) (st := []) dX10_putAway_32 ⟨zg_X1_isThere.1, zg_X1_isThere.2.1, zg_X1_isThere.2.2, by decide⟩ ⟨zk_X10_68, zv_X1_isThere⟩ (ci := 1) (congrArg Prod.fst hc12.1) rfl (hc12.2.1) rfl rfl (Nat.le_of_ble_eq_true rfl) m14 (Or.inl rfl) ?_
        show Z zm_X10_putAway kz Q 35 [(3, zR b10), (0, zR 33), (1, zR c1), (2, zI v2)] [zI x13] (d, G, E)
        refine Z.if_eq 66 dX10_putAway_35 rfl ⟨fun c16 => ?_, fun c16 => ?_⟩
        · replace K := K.1 c16
          obtain ⟨z17, K⟩ := K
          refine Z.iinc (k := 3) (ls' := [(2, zI ((v2 + 1))), (3, zR b10), (0, zR 33), (1, zR c1)]) dX10_putAway_66 rfl (by decide) z17 rfl ?_
          refine Z.goto 2 dX10_putAway_69 rfl ?_
          refine Z.pick (ls' := [(0, zR 33), (1, zR c1), (2, zI ((v2 + 1)))]) [2, 3, 0] rfl ?_
          exact K
        · replace K := K.2 c16
          refine Z.aload_n (k := 1) dX10_putAway_38 rfl ?_
          refine Z.aload_n (k := 2) dX10_putAway_39 rfl ?_
          refine Y.getR (o := some ((c1 + 1))) 0 dX10_putAway_40 zl_X10_74 (congrArg Prod.fst hc1.1) (by decide) rfl hc1.2.1 hc1.2.2.2.1 ?_
          refine Z.aload_n (k := 0) dX10_putAway_43 rfl ?_
          refine Y.getR (o := some ((b10 + 1))) 0 dX10_putAway_44 zl_X10_74 (congrArg Prod.fst hc12.1) (by decide) rfl hc12.2.1 hc12.2.2.2.1 ?_
          obtain ⟨x18, E19, m20, K⟩ := K
          refine Y.callV (g := zm_X10_takes) (vs := [zR ((c1 + 1)), zR ((b10 + 1))]) (st := []) dX10_putAway_47 ⟨zg_X10_takes.1, zg_X10_takes.2.1, zg_X10_takes.2.2, by decide⟩ ⟨zk_X10_78, zv_X10_takes⟩ (ci := 10) (rfl) rfl ((zX_0_8 hX).2.2) rfl rfl (Nat.le_of_ble_eq_true rfl) m20 (Or.inl rfl) ?_
          show Z zm_X10_putAway kz Q 50 [(3, zR b10), (0, zR 33), (1, zR c1), (2, zI v2)] [zI x18] (d, G, E19)
          refine Z.if_eq 66 dX10_putAway_50 rfl ⟨fun c22 => ?_, fun c22 => ?_⟩
          · replace K := K.1 c22
            obtain ⟨z23, K⟩ := K
            refine Z.iinc (k := 3) (ls' := [(2, zI ((v2 + 1))), (3, zR b10), (0, zR 33), (1, zR c1)]) dX10_putAway_66 rfl (by decide) z23 rfl ?_
            refine Z.goto 2 dX10_putAway_69 rfl ?_
            refine Z.pick (ls' := [(0, zR 33), (1, zR c1), (2, zI ((v2 + 1)))]) [2, 3, 0] rfl ?_
            exact K
          · replace K := K.2 c22
            refine Z.aload_n (k := 0) dX10_putAway_53 rfl ?_
            refine Z.iconst (n := 2) dX10_putAway_54 ⟨by decide, by decide⟩ ?_
            refine Y.putI 6 dX10_putAway_55 zw_X10_82 (fun q => by cases q) (congrArg Prod.fst hc12.1) rfl hc12.2.1 (Or.inl rfl) ?_
            generalize eE24 : zuE E19 b10 6 2 = E24
            replace K := K E24 eE24.symm
            refine Z.aload_n (k := 0) dX10_putAway_58 rfl ?_
            refine Z.aload_n (k := 2) dX10_putAway_59 rfl ?_
            refine Y.getI 5 dX10_putAway_60 zl_X10_85 (congrArg Prod.fst hc1.1) (by decide) rfl hc1.2.1 ?_
            refine Y.putI 7 dX10_putAway_63 zw_X10_88 (fun q => by cases q) (congrArg Prod.fst hc12.1) rfl hc12.2.1 (Or.inl rfl) ?_
            generalize eE25 : zuE E24 b10 7 ((E24 c1 5)) = E25
            replace K := K E25 eE25.symm
            obtain ⟨z26, K⟩ := K
            refine Z.iinc (k := 3) (ls' := [(2, zI ((v2 + 1))), (3, zR b10), (0, zR 33), (1, zR c1)]) dX10_putAway_66 rfl (by decide) z26 rfl ?_
            refine Z.goto 2 dX10_putAway_69 rfl ?_
            refine Z.pick (ls' := [(0, zR 33), (1, zR c1), (2, zI ((v2 + 1)))]) [2, 3, 0] rfl ?_
            exact K
