set_option maxRecDepth 20000 in
theorem X0_init_0 {kz : Nat × Nat} {Q : Option zV → zH → Prop} {d : List Nat} {G : Nat → Int → Option Nat} {E : Nat → Int → Int}  (hm42 : 42 ∈ d) (hm1 : 1 ∈ d) (hm5 : 5 ∈ d) (K : ∃ a1, zkd a1 = (0, (7 : Int).toNat) ∧ (0 : Int) ≤ 7 ∧ 7 ≤ (100000 : Int) ∧ a1 ∉ d ∧ ¬ zst3 a1 ∧ d.length + 1 ≤ kz.1 ∧ zsl d + (zkd a1).2 ≤ kz.2 ∧ ∀ d9 G10 E11, d9 = d ++ [a1] → G10 = zclG G a1 → E11 = zclE E a1 → (∀ G12, G12 = zuG G10 42 2 (some a1) → ∀ G13, G13 = zuG G12 42 3 none → ∀ E14, E14 = zuE E11 42 4 0 → ∀ E15, E15 = zuE E14 42 5 6 → ∀ G16, G16 = zuG G13 42 6 none → ∀ G17, G17 = zuG G16 42 7 none → ∀ E18, E18 = zuE E15 42 8 0 → ∀ E19, E19 = zuE E18 42 9 0 → ∀ E20, E20 = zuE E19 42 10 0 → ∀ E21, E21 = zuE E20 42 11 0 → ∀ G22, G22 = zuG G17 42 0 (some 1) → ∀ G23, G23 = zuG G22 42 1 (some 5) → Q none (d9, G23, E21))) : Z zm_X0_init kz Q 0 [(0, zR 42), (1, zR 1), (2, zR 5)] [] (d, G, E) := by
  refine Z.aload_n (k := 0) dX0_init_0 rfl ?_
  refine Z.objInit (a := 42) dX0_init_1 zk_X0_3 ⟨by decide, by decide⟩ (Nat.le_of_ble_eq_true rfl) ?_
  refine Z.aload_n (k := 0) dX0_init_4 rfl ?_
  refine Z.bipush (n := 7) dX0_init_5 ⟨by decide, by decide⟩ (by decide) ?_
  obtain ⟨a1, z2, z3, z4, z5, z6, z7, z8, K⟩ := K
  refine Y.newI a1 dX0_init_7 z2 z3 z4 zai z5 z6 z7 z8 ?_
  generalize ed9 : d ++ [a1] = d9
  generalize eG10 : zclG G a1 = G10
  generalize eE11 : zclE E a1 = E11
  replace K := K d9 G10 E11 ed9.symm eG10.symm eE11.symm
  refine Y.putR 2 dX0_init_9 zw_X0_9 (fun _ => ⟨rfl, rfl⟩) (rfl) rfl (by rw [← ed9]; exact List.mem_append_left _ (hm42)) (fun b hb => by cases hb; exact (by rw [← ed9]; exact List.mem_append_right _ List.mem_cons_self)) ?_
  generalize eG12 : zuG G10 42 2 (some a1) = G12
  replace K := K G12 eG12.symm
  refine Z.aload_n (k := 0) dX0_init_12 rfl ?_
  refine Z.null dX0_init_13 ?_
  refine Y.putR 3 dX0_init_14 zw_X0_15 (fun q => by cases q) (rfl) rfl (by rw [← ed9]; exact List.mem_append_left _ (hm42)) (fun b hb => by cases hb) ?_
  generalize eG13 : zuG G12 42 3 none = G13
  replace K := K G13 eG13.symm
  refine Z.aload_n (k := 0) dX0_init_17 rfl ?_
  refine Z.iconst (n := 0) dX0_init_18 ⟨by decide, by decide⟩ ?_
  refine Y.putI 4 dX0_init_19 zw_X0_19 (fun q => by cases q) (rfl) rfl (by rw [← ed9]; exact List.mem_append_left _ (hm42)) (Or.inl rfl) ?_
  generalize eE14 : zuE E11 42 4 0 = E14
  replace K := K E14 eE14.symm
  refine Z.aload_n (k := 0) dX0_init_22 rfl ?_
  refine Z.bipush (n := 6) dX0_init_23 ⟨by decide, by decide⟩ (by decide) ?_
  refine Y.putI 5 dX0_init_25 zw_X0_23 (fun q => by cases q) (rfl) rfl (by rw [← ed9]; exact List.mem_append_left _ (hm42)) (Or.inl rfl) ?_
  generalize eE15 : zuE E14 42 5 6 = E15
  replace K := K E15 eE15.symm
  refine Z.aload_n (k := 0) dX0_init_28 rfl ?_
  refine Z.null dX0_init_29 ?_
  refine Y.putR 6 dX0_init_30 zw_X0_26 (fun q => by cases q) (rfl) rfl (by rw [← ed9]; exact List.mem_append_left _ (hm42)) (fun b hb => by cases hb) ?_
  generalize eG16 : zuG G13 42 6 none = G16
  replace K := K G16 eG16.symm
  refine Z.aload_n (k := 0) dX0_init_33 rfl ?_
  refine Z.null dX0_init_34 ?_
  refine Y.putR 7 dX0_init_35 zw_X0_29 (fun q => by cases q) (rfl) rfl (by rw [← ed9]; exact List.mem_append_left _ (hm42)) (fun b hb => by cases hb) ?_
  generalize eG17 : zuG G16 42 7 none = G17
  replace K := K G17 eG17.symm
  refine Z.aload_n (k := 0) dX0_init_38 rfl ?_
  refine Z.iconst (n := 0) dX0_init_39 ⟨by decide, by decide⟩ ?_
  refine Y.putI 8 dX0_init_40 zw_X0_32 (fun q => by cases q) (rfl) rfl (by rw [← ed9]; exact List.mem_append_left _ (hm42)) (Or.inl rfl) ?_
  generalize eE18 : zuE E15 42 8 0 = E18
  replace K := K E18 eE18.symm
  refine Z.aload_n (k := 0) dX0_init_43 rfl ?_
  refine Z.iconst (n := 0) dX0_init_44 ⟨by decide, by decide⟩ ?_
  refine Y.putI 9 dX0_init_45 zw_X0_35 (fun q => by cases q) (rfl) rfl (by rw [← ed9]; exact List.mem_append_left _ (hm42)) (Or.inl rfl) ?_
  generalize eE19 : zuE E18 42 9 0 = E19
  replace K := K E19 eE19.symm
  refine Z.aload_n (k := 0) dX0_init_48 rfl ?_
  refine Z.iconst (n := 0) dX0_init_49 ⟨by decide, by decide⟩ ?_
  refine Y.putI 10 dX0_init_50 zw_X0_38 (fun q => by cases q) (rfl) rfl (by rw [← ed9]; exact List.mem_append_left _ (hm42)) (Or.inl rfl) ?_
  generalize eE20 : zuE E19 42 10 0 = E20
  replace K := K E20 eE20.symm
  refine Z.aload_n (k := 0) dX0_init_53 rfl ?_
  refine Z.iconst (n := 0) dX0_init_54 ⟨by decide, by decide⟩ ?_
  refine Y.putI 11 dX0_init_55 zw_X0_41 (fun q => by cases q) (rfl) rfl (by rw [← ed9]; exact List.mem_append_left _ (hm42)) (Or.inl rfl) ?_
  generalize eE21 : zuE E20 42 11 0 = E21
  replace K := K E21 eE21.symm
  refine Z.aload_n (k := 0) dX0_init_58 rfl ?_
  refine Z.aload_n (k := 1) dX0_init_59 rfl ?_
  refine Y.putR 0 dX0_init_60 zw_X0_44 (fun _ => ⟨rfl, rfl⟩) (rfl) rfl (by rw [← ed9]; exact List.mem_append_left _ (hm42)) (fun b hb => by cases hb; exact (by rw [← ed9]; exact List.mem_append_left _ (hm1))) ?_
  generalize eG22 : zuG G17 42 0 (some 1) = G22
  replace K := K G22 eG22.symm
  refine Z.aload_n (k := 0) dX0_init_63 rfl ?_
  refine Z.aload_n (k := 2) dX0_init_64 rfl ?_
  refine Y.putR 1 dX0_init_65 zw_X0_48 (fun _ => ⟨rfl, rfl⟩) (rfl) rfl (by rw [← ed9]; exact List.mem_append_left _ (hm42)) (fun b hb => by cases hb; exact (by rw [← ed9]; exact List.mem_append_left _ (hm5))) ?_
  generalize eG23 : zuG G22 42 1 (some 5) = G23
  replace K := K G23 eG23.symm
  exact Z.vret dX0_init_68 rfl K
set_option maxRecDepth 20000 in
theorem X0_asGiven_0 {kz : Nat × Nat} {Q : Option zV → zH → Prop} {d : List Nat} {G : Nat → Int → Option Nat} {E : Nat → Int → Int}  (hX : zK zXt d G) (K : ∃ E1, zM zm_J7_fill_53178 [zR 43, zI 0] (d, G, E) none (d, G, E1) ∧ Q (some (zR 43)) (d, G, E1)) : Z zm_X0_asGiven kz Q 0 [(0, zR 42)] [] (d, G, E) := by
  refine Z.aload_n (k := 0) dX0_asGiven_0 rfl ?_
  refine Y.getR (o := some 43) 2 dX0_asGiven_1 zl_X0_9 (rfl) (by decide) rfl (zX_0_11 hX).2.2 (zX_42_2 hX).1 ?_
  refine Z.iconst (n := 0) dX0_asGiven_4 ⟨by decide, by decide⟩ ?_
  obtain ⟨E1, m2, K⟩ := K
  refine Y.callS (g := zm_J7_fill_53178) (vs := [zR 43, zI 0]) (st := []) dX0_asGiven_5 ⟨zg_J7_fill_53178.1, zg_J7_fill_53178.2.1, zg_J7_fill_53178.2.2, by decide⟩ ⟨Or.inl zk_X0_52, zs_J7_fill_53178⟩ rfl rfl (Nat.le_of_ble_eq_true rfl) m2 (Or.inl rfl) ?_
  show Z zm_X0_asGiven kz Q 8 [(0, zR 42)] [] (d, G, E1)
  refine Z.aload_n (k := 0) dX0_asGiven_8 rfl ?_
  refine Y.getR (o := some 43) 2 dX0_asGiven_9 zl_X0_9 (rfl) (by decide) rfl (zX_0_11 hX).2.2 (zX_42_2 hX).1 ?_
  exact Z.aret dX0_asGiven_12 rfl (Or.inr ⟨_, rfl⟩) K
set_option maxRecDepth 20000 in
theorem X0_begin_0 {kz : Nat × Nat} {Q : Option zV → zH → Prop} {d : List Nat} {G : Nat → Int → Option Nat} {E : Nat → Int → Int} {o1 : Option Nat} (hX : zK zXt d G) (K : (∀ b, o1 = some b → b ∈ d) ∧ ∀ G2, G2 = zuG G 42 3 o1 → zK zXt d G2 ∧ ∀ E4, E4 = zuE E 42 4 ((-1)) → ∀ E5, E5 = zuE E4 42 5 3 → ∀ G6, G6 = zuG G2 42 6 none → zK zXt d G6 ∧ ∀ G8, G8 = zuG G6 42 7 none → zK zXt d G8 ∧ Q none (d, G8, E5)) : Z zm_X0_begin kz Q 0 [(0, zR 42), (1, zO o1)] [] (d, G, E) := by
  refine Z.aload_n (k := 0) dX0_begin_0 rfl ?_
  refine Z.aload_n (k := 1) dX0_begin_1 rfl ?_
  obtain ⟨z1, K⟩ := K
  refine Y.putR 3 dX0_begin_2 zw_X0_15 (fun q => by cases q) (rfl) rfl (zX_0_11 hX).2.2 z1 ?_
  generalize eG2 : zuG G 42 3 o1 = G2
  replace K := K G2 eG2.symm
  obtain ⟨hX3, K⟩ := K
  refine Z.aload_n (k := 0) dX0_begin_5 rfl ?_
  refine Z.iconst (n := -1) dX0_begin_6 ⟨by decide, by decide⟩ ?_
  refine Y.putI 4 dX0_begin_7 zw_X0_19 (fun q => by cases q) (rfl) rfl (zX_0_11 hX3).2.2 (Or.inl rfl) ?_
  generalize eE4 : zuE E 42 4 ((-1)) = E4
  replace K := K E4 eE4.symm
  refine Z.aload_n (k := 0) dX0_begin_10 rfl ?_
  refine Z.iconst (n := 3) dX0_begin_11 ⟨by decide, by decide⟩ ?_
  refine Y.putI 5 dX0_begin_12 zw_X0_23 (fun q => by cases q) (rfl) rfl (zX_0_11 hX3).2.2 (Or.inl rfl) ?_
  generalize eE5 : zuE E4 42 5 3 = E5
  replace K := K E5 eE5.symm
  refine Z.aload_n (k := 0) dX0_begin_15 rfl ?_
  refine Z.null dX0_begin_16 ?_
  refine Y.putR 6 dX0_begin_17 zw_X0_26 (fun q => by cases q) (rfl) rfl (zX_0_11 hX3).2.2 (fun b hb => by cases hb) ?_
  generalize eG6 : zuG G2 42 6 none = G6
  replace K := K G6 eG6.symm
  obtain ⟨hX7, K⟩ := K
  refine Z.aload_n (k := 0) dX0_begin_20 rfl ?_
  refine Z.null dX0_begin_21 ?_
  refine Y.putR 7 dX0_begin_22 zw_X0_29 (fun q => by cases q) (rfl) rfl (zX_0_11 hX7).2.2 (fun b hb => by cases hb) ?_
  generalize eG8 : zuG G6 42 7 none = G8
  replace K := K G8 eG8.symm
  obtain ⟨hX9, K⟩ := K
  exact Z.vret dX0_begin_25 rfl K
set_option maxRecDepth 20000 in
theorem X0_findPlace_0 {kz : Nat × Nat} {Q : Option zV → zH → Prop} {d : List Nat} {G : Nat → Int → Option Nat} {E : Nat → Int → Int}  (hX : zK zXt d G) (K : ∃ b1, (G 42 6) = some b1 ∧ zCk d G b1 ∧ ((0 : Int) ≤ (E 42 8) ∧ (E 42 8) < 7) ∧ zin ((E ((b1 + 1) + 2) (E 42 8)) + 1) ∧ ∃ b6, (G 42 6) = some b6 ∧ zCk d G b6 ∧ ((E 42 9) ≠ 0 → ∃ b10, (G 42 6) = some b10 ∧ zCk d G b10 ∧ ∃ x13, zM zm_X8_after [zR 1, zR ((b10 + 1) + 1), zI (((E ((b1 + 1) + 2) (E 42 8)) + 1))] (d, G, E) (some (zI x13)) (d, G, E) ∧ ((0 : Int) ≤ x13 ∧ x13 < 180) ∧ ∃ b17, (G 42 7) = some b17 ∧ zCk d G b17 ∧ ((0 : Int) ≤ (E 42 10) ∧ (E 42 10) < 7) ∧ ∃ b21, (G 42 7) = some b21 ∧ zCk d G b21 ∧ ∃ x24, zM zm_X5_length [zR ((b21 + 1)), zI ((E 42 10))] (d, G, E) (some (zI x24)) (d, G, E) ∧ Z zm_X0_findPlace kz Q 91 [(0, zR 42), (2, zI ((E ((b6 + 1) + 1) x13))), (3, zI ((E ((b17 + 1) + 2) (E 42 10)))), (4, zI x24)] [] (d, G, E)) ∧ (¬ ((E 42 9) ≠ 0) → ((0 : Int) ≤ ((E ((b1 + 1) + 2) (E 42 8)) + 1) ∧ ((E ((b1 + 1) + 2) (E 42 8)) + 1) < 180) ∧ ∃ b28, (G 42 7) = some b28 ∧ zCk d G b28 ∧ ((0 : Int) ≤ (E 42 10) ∧ (E 42 10) < 7) ∧ ∃ b32, (G 42 7) = some b32 ∧ zCk d G b32 ∧ ∃ x35, zM zm_X5_length [zR ((b32 + 1)), zI ((E 42 10))] (d, G, E) (some (zI x35)) (d, G, E) ∧ Z zm_X0_findPlace kz Q 91 [(0, zR 42), (2, zI ((E ((b6 + 1) + 1) ((E ((b1 + 1) + 2) (E 42 8)) + 1)))), (3, zI ((E ((b28 + 1) + 2) (E 42 10)))), (4, zI x35)] [] (d, G, E))) : Z zm_X0_findPlace kz Q 0 [(0, zR 42)] [] (d, G, E) := by
  refine Z.aload_n (k := 0) dX0_findPlace_0 rfl ?_
  refine Y.getR (o := (G 42 6)) 6 dX0_findPlace_1 zl_X0_26 (rfl) (by decide) rfl (zX_0_11 hX).2.2 rfl ?_
  obtain ⟨b1, e2, hc3, K⟩ := K
  rw [e2]
  refine Y.getR (o := some ((b1 + 1))) 0 dX0_findPlace_4 zl_X0_92 (congrArg Prod.fst hc3.1) (by decide) rfl hc3.2.1 hc3.2.2.2.1 ?_
  refine Y.getR (o := some ((b1 + 1) + 2)) 1 dX0_findPlace_7 zl_X0_114 (congrArg Prod.fst hc3.2.2.1.1) (by decide) rfl hc3.2.2.1.2.2.2.2.1 hc3.2.2.1.2.2.2.2.2.2.2.2.2.1 ?_
  refine Z.aload_n (k := 0) dX0_findPlace_10 rfl ?_
  refine Y.getI 8 dX0_findPlace_11 zl_X0_32 (rfl) (by decide) rfl (zX_0_11 hX).2.2 ?_
  obtain ⟨z4, K⟩ := K
  refine Y.iald dX0_findPlace_14 (hc3.2.2.1.2.2.1) (hc3.2.2.1.2.2.2.2.2.2.1) z4 ?_
  refine Z.iconst (n := 1) dX0_findPlace_15 ⟨by decide, by decide⟩ ?_
  obtain ⟨z5, K⟩ := K
  refine Z.iadd dX0_findPlace_16 z5 ?_
  refine Z.istore_n (ls' := [(1, zI (((E ((b1 + 1) + 2) (E 42 8)) + 1))), (0, zR 42)]) dX0_findPlace_17 (by decide) rfl ?_
  refine Z.aload_n (k := 1) dX0_findPlace_18 rfl ?_
  refine Y.getR (o := (G 42 6)) 6 dX0_findPlace_19 zl_X0_26 (rfl) (by decide) rfl (zX_0_11 hX).2.2 rfl ?_
  obtain ⟨b6, e7, hc8, K⟩ := K
  rw [e7]
  refine Y.getR (o := some ((b6 + 1))) 0 dX0_findPlace_22 zl_X0_92 (congrArg Prod.fst hc8.1) (by decide) rfl hc8.2.1 hc8.2.2.2.1 ?_
  refine Y.getR (o := some ((b6 + 1) + 1)) 0 dX0_findPlace_25 zl_X0_117 (congrArg Prod.fst hc8.2.2.1.1) (by decide) rfl hc8.2.2.1.2.2.2.2.1 hc8.2.2.1.2.2.2.2.2.2.2.2.1 ?_
  refine Z.aload_n (k := 1) dX0_findPlace_28 rfl ?_
  refine Y.getI 9 dX0_findPlace_29 zl_X0_35 (rfl) (by decide) rfl (zX_0_11 hX).2.2 ?_
  refine Z.if_ne 39 dX0_findPlace_32 rfl ⟨fun c9 => ?_, fun c9 => ?_⟩
  · replace K := K.1 c9
    refine Z.aload_n (k := 1) dX0_findPlace_39 rfl ?_
    refine Y.getR (o := some 1) 0 dX0_findPlace_40 zl_X0_44 (rfl) (by decide) rfl (zX_0_11 hX).2.2 (zX_42_0 hX).1 ?_
    refine Z.aload_n (k := 1) dX0_findPlace_43 rfl ?_
    refine Y.getR (o := (G 42 6)) 6 dX0_findPlace_44 zl_X0_26 (rfl) (by decide) rfl (zX_0_11 hX).2.2 rfl ?_
    obtain ⟨b10, e11, hc12, K⟩ := K
    rw [e11]
    refine Y.getR (o := some ((b10 + 1))) 0 dX0_findPlace_47 zl_X0_92 (congrArg Prod.fst hc12.1) (by decide) rfl hc12.2.1 hc12.2.2.2.1 ?_
    refine Y.getR (o := some ((b10 + 1) + 1)) 0 dX0_findPlace_50 zl_X0_117 (congrArg Prod.fst hc12.2.2.1.1) (by decide) rfl hc12.2.2.1.2.2.2.2.1 hc12.2.2.1.2.2.2.2.2.2.2.2.1 ?_
    refine Z.iload_n (k := 0) dX0_findPlace_53 rfl ?_
    obtain ⟨x13, m14, K⟩ := K
    refine Y.callV (g := zm_X8_after) (vs := [zR ((b10 + 1) + 1), zI (((E ((b1 + 1) + 2) (E 42 8)) + 1))]) (st := [zR ((b6 + 1) + 1)]) dX0_findPlace_54 ⟨zg_X8_after.1, zg_X8_after.2.1, zg_X8_after.2.2, by decide⟩ ⟨zk_X0_120, zv_X8_after⟩ (ci := 8) (rfl) rfl ((zX_0_0 hX).2.2) rfl rfl (Nat.le_of_ble_eq_true rfl) m14 (Or.inl rfl) ?_
    show Z zm_X0_findPlace kz Q 57 [(1, zI (((E ((b1 + 1) + 2) (E 42 8)) + 1))), (0, zR 42)] [zI x13, zR ((b6 + 1) + 1)] (d, G, E)
    obtain ⟨z16, K⟩ := K
    refine Y.iald dX0_findPlace_57 (hc8.2.2.1.2.1) (hc8.2.2.1.2.2.2.2.2.1) z16 ?_
    refine Z.istore_n (ls' := [(2, zI ((E ((b6 + 1) + 1) x13))), (1, zI (((E ((b1 + 1) + 2) (E 42 8)) + 1))), (0, zR 42)]) dX0_findPlace_58 (by decide) rfl ?_
    refine Z.aload_n (k := 2) dX0_findPlace_59 rfl ?_
    refine Y.getR (o := (G 42 7)) 7 dX0_findPlace_60 zl_X0_29 (rfl) (by decide) rfl (zX_0_11 hX).2.2 rfl ?_
    obtain ⟨b17, e18, hc19, K⟩ := K
    rw [e18]
    refine Y.getR (o := some ((b17 + 1))) 0 dX0_findPlace_63 zl_X0_92 (congrArg Prod.fst hc19.1) (by decide) rfl hc19.2.1 hc19.2.2.2.1 ?_
    refine Y.getR (o := some ((b17 + 1) + 2)) 1 dX0_findPlace_66 zl_X0_114 (congrArg Prod.fst hc19.2.2.1.1) (by decide) rfl hc19.2.2.1.2.2.2.2.1 hc19.2.2.1.2.2.2.2.2.2.2.2.2.1 ?_
    refine Z.aload_n (k := 2) dX0_findPlace_69 rfl ?_
    refine Y.getI 10 dX0_findPlace_70 zl_X0_38 (rfl) (by decide) rfl (zX_0_11 hX).2.2 ?_
    obtain ⟨z20, K⟩ := K
    refine Y.iald dX0_findPlace_73 (hc19.2.2.1.2.2.1) (hc19.2.2.1.2.2.2.2.2.2.1) z20 ?_
    refine Z.istore_n (ls' := [(3, zI ((E ((b17 + 1) + 2) (E 42 10)))), (2, zI ((E ((b6 + 1) + 1) x13))), (1, zI (((E ((b1 + 1) + 2) (E 42 8)) + 1))), (0, zR 42)]) dX0_findPlace_74 (by decide) rfl ?_
    refine Z.aload_n (k := 3) dX0_findPlace_75 rfl ?_
    refine Y.getR (o := (G 42 7)) 7 dX0_findPlace_76 zl_X0_29 (rfl) (by decide) rfl (zX_0_11 hX).2.2 rfl ?_
    obtain ⟨b21, e22, hc23, K⟩ := K
    rw [e22]
    refine Y.getR (o := some ((b21 + 1))) 0 dX0_findPlace_79 zl_X0_92 (congrArg Prod.fst hc23.1) (by decide) rfl hc23.2.1 hc23.2.2.2.1 ?_
    refine Z.aload_n (k := 3) dX0_findPlace_82 rfl ?_
    refine Y.getI 10 dX0_findPlace_83 zl_X0_38 (rfl) (by decide) rfl (zX_0_11 hX).2.2 ?_
    obtain ⟨x24, m25, K⟩ := K
    refine Y.callV (g := zm_X5_length) (vs := [zI ((E 42 10))]) (st := []) dX0_findPlace_86 ⟨zg_X5_length.1, zg_X5_length.2.1, zg_X5_length.2.2, by decide⟩ ⟨zk_X0_126, zv_X5_length⟩ (ci := 5) (congrArg Prod.fst hc23.2.2.1.1) rfl (hc23.2.2.1.2.2.2.2.1) rfl rfl (Nat.le_of_ble_eq_true rfl) m25 (Or.inl rfl) ?_
    show Z zm_X0_findPlace kz Q 89 [(3, zI ((E ((b17 + 1) + 2) (E 42 10)))), (2, zI ((E ((b6 + 1) + 1) x13))), (1, zI (((E ((b1 + 1) + 2) (E 42 8)) + 1))), (0, zR 42)] [zI x24] (d, G, E)
    refine Z.istore (ls' := [(4, zI x24), (3, zI ((E ((b17 + 1) + 2) (E 42 10)))), (2, zI ((E ((b6 + 1) + 1) x13))), (1, zI (((E ((b1 + 1) + 2) (E 42 8)) + 1))), (0, zR 42)]) dX0_findPlace_89 (by decide) rfl ?_
    refine Z.pick (ls' := [(0, zR 42), (2, zI ((E ((b6 + 1) + 1) x13))), (3, zI ((E ((b17 + 1) + 2) (E 42 10)))), (4, zI x24)]) [4, 2, 1, 0] rfl ?_
    exact K
  · replace K := K.2 c9
    refine Z.iload_n (k := 0) dX0_findPlace_35 rfl ?_
    refine Z.goto 57 dX0_findPlace_36 rfl ?_
    obtain ⟨z27, K⟩ := K
    refine Y.iald dX0_findPlace_57 (hc8.2.2.1.2.1) (hc8.2.2.1.2.2.2.2.2.1) z27 ?_
    refine Z.istore_n (ls' := [(2, zI ((E ((b6 + 1) + 1) ((E ((b1 + 1) + 2) (E 42 8)) + 1)))), (1, zI (((E ((b1 + 1) + 2) (E 42 8)) + 1))), (0, zR 42)]) dX0_findPlace_58 (by decide) rfl ?_
    refine Z.aload_n (k := 2) dX0_findPlace_59 rfl ?_
    refine Y.getR (o := (G 42 7)) 7 dX0_findPlace_60 zl_X0_29 (rfl) (by decide) rfl (zX_0_11 hX).2.2 rfl ?_
    obtain ⟨b28, e29, hc30, K⟩ := K
    rw [e29]
    refine Y.getR (o := some ((b28 + 1))) 0 dX0_findPlace_63 zl_X0_92 (congrArg Prod.fst hc30.1) (by decide) rfl hc30.2.1 hc30.2.2.2.1 ?_
    refine Y.getR (o := some ((b28 + 1) + 2)) 1 dX0_findPlace_66 zl_X0_114 (congrArg Prod.fst hc30.2.2.1.1) (by decide) rfl hc30.2.2.1.2.2.2.2.1 hc30.2.2.1.2.2.2.2.2.2.2.2.2.1 ?_
    refine Z.aload_n (k := 2) dX0_findPlace_69 rfl ?_
    refine Y.getI 10 dX0_findPlace_70 zl_X0_38 (rfl) (by decide) rfl (zX_0_11 hX).2.2 ?_
    obtain ⟨z31, K⟩ := K
    refine Y.iald dX0_findPlace_73 (hc30.2.2.1.2.2.1) (hc30.2.2.1.2.2.2.2.2.2.1) z31 ?_
    refine Z.istore_n (ls' := [(3, zI ((E ((b28 + 1) + 2) (E 42 10)))), (2, zI ((E ((b6 + 1) + 1) ((E ((b1 + 1) + 2) (E 42 8)) + 1)))), (1, zI (((E ((b1 + 1) + 2) (E 42 8)) + 1))), (0, zR 42)]) dX0_findPlace_74 (by decide) rfl ?_
    refine Z.aload_n (k := 3) dX0_findPlace_75 rfl ?_
    refine Y.getR (o := (G 42 7)) 7 dX0_findPlace_76 zl_X0_29 (rfl) (by decide) rfl (zX_0_11 hX).2.2 rfl ?_
    obtain ⟨b32, e33, hc34, K⟩ := K
    rw [e33]
    refine Y.getR (o := some ((b32 + 1))) 0 dX0_findPlace_79 zl_X0_92 (congrArg Prod.fst hc34.1) (by decide) rfl hc34.2.1 hc34.2.2.2.1 ?_
    refine Z.aload_n (k := 3) dX0_findPlace_82 rfl ?_
    refine Y.getI 10 dX0_findPlace_83 zl_X0_38 (rfl) (by decide) rfl (zX_0_11 hX).2.2 ?_
    obtain ⟨x35, m36, K⟩ := K
    refine Y.callV (g := zm_X5_length) (vs := [zI ((E 42 10))]) (st := []) dX0_findPlace_86 ⟨zg_X5_length.1, zg_X5_length.2.1, zg_X5_length.2.2, by decide⟩ ⟨zk_X0_126, zv_X5_length⟩ (ci := 5) (congrArg Prod.fst hc34.2.2.1.1) rfl (hc34.2.2.1.2.2.2.2.1) rfl rfl (Nat.le_of_ble_eq_true rfl) m36 (Or.inl rfl) ?_
    show Z zm_X0_findPlace kz Q 89 [(3, zI ((E ((b28 + 1) + 2) (E 42 10)))), (2, zI ((E ((b6 + 1) + 1) ((E ((b1 + 1) + 2) (E 42 8)) + 1)))), (1, zI (((E ((b1 + 1) + 2) (E 42 8)) + 1))), (0, zR 42)] [zI x35] (d, G, E)
    refine Z.istore (ls' := [(4, zI x35), (3, zI ((E ((b28 + 1) + 2) (E 42 10)))), (2, zI ((E ((b6 + 1) + 1) ((E ((b1 + 1) + 2) (E 42 8)) + 1)))), (1, zI (((E ((b1 + 1) + 2) (E 42 8)) + 1))), (0, zR 42)]) dX0_findPlace_89 (by decide) rfl ?_
    refine Z.pick (ls' := [(0, zR 42), (2, zI ((E ((b6 + 1) + 1) ((E ((b1 + 1) + 2) (E 42 8)) + 1)))), (3, zI ((E ((b28 + 1) + 2) (E 42 10)))), (4, zI x35)]) [4, 2, 1, 0] rfl ?_
    exact K
set_option maxRecDepth 20000 in
theorem X0_findPlace_91 {kz : Nat × Nat} {Q : Option zV → zH → Prop} {d : List Nat} {G : Nat → Int → Option Nat} {E : Nat → Int → Int} {v2 : Int} {v3 : Int} {v4 : Int} (hX : zK zXt d G) (K : (v4 ≤ (E 42 11) → Q (some (zI 0)) (d, G, E)) ∧ (¬ (v4 ≤ (E 42 11)) → ∃ b2, (G 42 7) = some b2 ∧ zCk d G b2 ∧ zin (v3 + (E 42 11)) ∧ ((0 : Int) ≤ (v3 + (E 42 11)) ∧ (v3 + (E 42 11)) < 180) ∧ ((E ((b2 + 1) + 1) (v3 + (E 42 11))) < 0 → zin ((E 42 11) + 1) ∧ ∀ E9, E9 = zuE E 42 11 (((E 42 11) + 1)) → Z zm_X0_findPlace kz Q 91 [(0, zR 42), (2, zI v2), (3, zI v3), (4, zI v4)] [] (d, G, E9)) ∧ (¬ ((E ((b2 + 1) + 1) (v3 + (E 42 11))) < 0) → (v2 < 0 → Q (some (zI 1)) (d, G, E)) ∧ (¬ (v2 < 0) → (v2 ≠ (E ((b2 + 1) + 1) (v3 + (E 42 11))) → zin ((E 42 11) + 1) ∧ ∀ E13, E13 = zuE E 42 11 (((E 42 11) + 1)) → Z zm_X0_findPlace kz Q 91 [(0, zR 42), (2, zI v2), (3, zI v3), (4, zI v4)] [] (d, G, E13)) ∧ (¬ (v2 ≠ (E ((b2 + 1) + 1) (v3 + (E 42 11)))) → Q (some (zI 1)) (d, G, E)))))) : Z zm_X0_findPlace kz Q 91 [(0, zR 42), (2, zI v2), (3, zI v3), (4, zI v4)] [] (d, G, E) := by
  refine Z.aload_n (k := 0) dX0_findPlace_91 rfl ?_
  refine Y.getI 11 dX0_findPlace_92 zl_X0_41 (rfl) (by decide) rfl (zX_0_11 hX).2.2 ?_
  refine Z.iload (k := 3) dX0_findPlace_95 rfl ?_
  refine Z.icmp_ge 149 dX0_findPlace_97 rfl ⟨fun c1 => ?_, fun c1 => ?_⟩
  · replace K := K.1 c1
    refine Z.iconst (n := 0) dX0_findPlace_149 ⟨by decide, by decide⟩ ?_
    exact Z.iret (ty := .boolean) dX0_findPlace_150 rfl rfl K
  · replace K := K.2 c1
    refine Z.aload_n (k := 0) dX0_findPlace_100 rfl ?_
    refine Y.getR (o := (G 42 7)) 7 dX0_findPlace_101 zl_X0_29 (rfl) (by decide) rfl (zX_0_11 hX).2.2 rfl ?_
    obtain ⟨b2, e3, hc4, K⟩ := K
    rw [e3]
    refine Y.getR (o := some ((b2 + 1))) 0 dX0_findPlace_104 zl_X0_92 (congrArg Prod.fst hc4.1) (by decide) rfl hc4.2.1 hc4.2.2.2.1 ?_
    refine Y.getR (o := some ((b2 + 1) + 1)) 0 dX0_findPlace_107 zl_X0_117 (congrArg Prod.fst hc4.2.2.1.1) (by decide) rfl hc4.2.2.1.2.2.2.2.1 hc4.2.2.1.2.2.2.2.2.2.2.2.1 ?_
    refine Z.iload_n (k := 2) dX0_findPlace_110 rfl ?_
    refine Z.aload_n (k := 0) dX0_findPlace_111 rfl ?_
    refine Y.getI 11 dX0_findPlace_112 zl_X0_41 (rfl) (by decide) rfl (zX_0_11 hX).2.2 ?_
    obtain ⟨z5, K⟩ := K
    refine Z.iadd dX0_findPlace_115 z5 ?_
    obtain ⟨z6, K⟩ := K
    refine Y.iald dX0_findPlace_116 (hc4.2.2.1.2.1) (hc4.2.2.1.2.2.2.2.2.1) z6 ?_
    refine Z.istore (ls' := [(5, zI ((E ((b2 + 1) + 1) (v3 + (E 42 11))))), (0, zR 42), (2, zI v2), (3, zI v3), (4, zI v4)]) dX0_findPlace_117 (by decide) rfl ?_
    refine Z.iload (k := 0) dX0_findPlace_119 rfl ?_
    refine Z.if_lt 136 dX0_findPlace_121 rfl ⟨fun c7 => ?_, fun c7 => ?_⟩
    · replace K := K.1 c7
      refine Z.aload_n (k := 1) dX0_findPlace_136 rfl ?_
      refine Z.dup_i dX0_findPlace_137 (fun _ => rfl) ?_
      refine Y.getI 11 dX0_findPlace_138 zl_X0_41 (rfl) (by decide) rfl (zX_0_11 hX).2.2 ?_
      refine Z.iconst (n := 1) dX0_findPlace_141 ⟨by decide, by decide⟩ ?_
      obtain ⟨z8, K⟩ := K
      refine Z.iadd dX0_findPlace_142 z8 ?_
      refine Y.putI 11 dX0_findPlace_143 zw_X0_41 (fun q => by cases q) (rfl) rfl (zX_0_11 hX).2.2 (Or.inl rfl) ?_
      generalize eE9 : zuE E 42 11 (((E 42 11) + 1)) = E9
      replace K := K E9 eE9.symm
      refine Z.goto 91 dX0_findPlace_146 rfl ?_
      refine Z.pick (ls' := [(0, zR 42), (2, zI v2), (3, zI v3), (4, zI v4)]) [1, 2, 3, 4] rfl ?_
      exact K
    · replace K := K.2 c7
      refine Z.iload_n (k := 2) dX0_findPlace_124 rfl ?_
      refine Z.if_lt 134 dX0_findPlace_125 rfl ⟨fun c10 => ?_, fun c10 => ?_⟩
      · replace K := K.1 c10
        refine Z.iconst (n := 1) dX0_findPlace_134 ⟨by decide, by decide⟩ ?_
        exact Z.iret (ty := .boolean) dX0_findPlace_135 rfl rfl K
      · replace K := K.2 c10
        refine Z.iload_n (k := 2) dX0_findPlace_128 rfl ?_
        refine Z.iload (k := 0) dX0_findPlace_129 rfl ?_
        refine Z.icmp_ne 136 dX0_findPlace_131 rfl ⟨fun c11 => ?_, fun c11 => ?_⟩
        · replace K := K.1 c11
          refine Z.aload_n (k := 1) dX0_findPlace_136 rfl ?_
          refine Z.dup_i dX0_findPlace_137 (fun _ => rfl) ?_
          refine Y.getI 11 dX0_findPlace_138 zl_X0_41 (rfl) (by decide) rfl (zX_0_11 hX).2.2 ?_
          refine Z.iconst (n := 1) dX0_findPlace_141 ⟨by decide, by decide⟩ ?_
          obtain ⟨z12, K⟩ := K
          refine Z.iadd dX0_findPlace_142 z12 ?_
          refine Y.putI 11 dX0_findPlace_143 zw_X0_41 (fun q => by cases q) (rfl) rfl (zX_0_11 hX).2.2 (Or.inl rfl) ?_
          generalize eE13 : zuE E 42 11 (((E 42 11) + 1)) = E13
          replace K := K E13 eE13.symm
          refine Z.goto 91 dX0_findPlace_146 rfl ?_
          refine Z.pick (ls' := [(0, zR 42), (2, zI v2), (3, zI v3), (4, zI v4)]) [1, 2, 3, 4] rfl ?_
          exact K
        · replace K := K.2 c11
          refine Z.iconst (n := 1) dX0_findPlace_134 ⟨by decide, by decide⟩ ?_
          exact Z.iret (ty := .boolean) dX0_findPlace_135 rfl rfl K
set_option maxRecDepth 20000 in
theorem X0_advanceTurn_0 {kz : Nat × Nat} {Q : Option zV → zH → Prop} {d : List Nat} {G : Nat → Int → Option Nat} {E : Nat → Int → Int}  (hX : zK zXt d G) (K : ∃ b1, (G 42 7) = some b1 ∧ zCk d G b1 ∧ ∃ x4, zM zm_X1_isPositive [zR b1] (d, G, E) (some (zI x4)) (d, G, E) ∧ (x4 = 0 → ∃ b8, (G 42 7) = some b8 ∧ zCk d G b8 ∧ ∃ b11, (G 42 7) = some b11 ∧ zCk d G b11 ∧ ∃ x14, zM zm_X1_isPositive [zR b11] (d, G, E) (some (zI x14)) (d, G, E) ∧ (x14 = 0 → ∃ b18, (G 42 7) = some b18 ∧ zCk d G b18 ∧ zin ((E 42 11) + 1) ∧ ∀ E22, E22 = zuE E 42 11 (((E 42 11) + 1)) → Z zm_X0_advanceTurn kz Q 65 [(0, zR 42), (1, zI ((E b8 9))), (2, zI ((E b18 9)))] [] (d, G, E22)) ∧ (¬ (x14 = 0) → ∃ b23, (G 42 7) = some b23 ∧ zCk d G b23 ∧ zin ((E (b23 + 1) 3) - 1) ∧ zin ((E 42 11) + 1) ∧ ∀ E28, E28 = zuE E 42 11 (((E 42 11) + 1)) → Z zm_X0_advanceTurn kz Q 65 [(0, zR 42), (1, zI ((E b8 9))), (2, zI (((E (b23 + 1) 3) - 1)))] [] (d, G, E28))) ∧ (¬ (x4 = 0) → ∃ b29, (G 42 7) = some b29 ∧ zCk d G b29 ∧ ∃ x32, zM zm_X1_isPositive [zR b29] (d, G, E) (some (zI x32)) (d, G, E) ∧ (x32 = 0 → ∃ b36, (G 42 7) = some b36 ∧ zCk d G b36 ∧ zin ((E 42 11) + 1) ∧ ∀ E40, E40 = zuE E 42 11 (((E 42 11) + 1)) → Z zm_X0_advanceTurn kz Q 65 [(0, zR 42), (1, zI 0), (2, zI ((E b36 9)))] [] (d, G, E40)) ∧ (¬ (x32 = 0) → ∃ b41, (G 42 7) = some b41 ∧ zCk d G b41 ∧ zin ((E (b41 + 1) 3) - 1) ∧ zin ((E 42 11) + 1) ∧ ∀ E46, E46 = zuE E 42 11 (((E 42 11) + 1)) → Z zm_X0_advanceTurn kz Q 65 [(0, zR 42), (1, zI 0), (2, zI (((E (b41 + 1) 3) - 1)))] [] (d, G, E46)))) : Z zm_X0_advanceTurn kz Q 0 [(0, zR 42)] [] (d, G, E) := by
  refine Z.aload_n (k := 0) dX0_advanceTurn_0 rfl ?_
  refine Y.getR (o := (G 42 7)) 7 dX0_advanceTurn_1 zl_X0_29 (rfl) (by decide) rfl (zX_0_11 hX).2.2 rfl ?_
  obtain ⟨b1, e2, hc3, K⟩ := K
  rw [e2]
  obtain ⟨x4, m5, K⟩ := K
  refine Y.callV (g := zm_X1_isPositive) (vs := []) (st := []) dX0_advanceTurn_4 ⟨zg_X1_isPositive.1, zg_X1_isPositive.2.1, zg_X1_isPositive.2.2, by decide⟩ ⟨zk_X0_86, zv_X1_isPositive⟩ (ci := 1) (congrArg Prod.fst hc3.1) rfl (hc3.2.1) rfl rfl (Nat.le_of_ble_eq_true rfl) m5 (Or.inl rfl) ?_
  show Z zm_X0_advanceTurn kz Q 7 [(0, zR 42)] [zI x4] (d, G, E)
  refine Z.if_eq 14 dX0_advanceTurn_7 rfl ⟨fun c7 => ?_, fun c7 => ?_⟩
  · replace K := K.1 c7
    refine Z.aload_n (k := 0) dX0_advanceTurn_14 rfl ?_
    refine Y.getR (o := (G 42 7)) 7 dX0_advanceTurn_15 zl_X0_29 (rfl) (by decide) rfl (zX_0_11 hX).2.2 rfl ?_
    obtain ⟨b8, e9, hc10, K⟩ := K
    rw [e9]
    refine Y.getI 9 dX0_advanceTurn_18 zl_X0_89 (congrArg Prod.fst hc10.1) (by decide) rfl hc10.2.1 ?_
    refine Z.istore_n (ls' := [(1, zI ((E b8 9))), (0, zR 42)]) dX0_advanceTurn_21 (by decide) rfl ?_
    refine Z.aload_n (k := 1) dX0_advanceTurn_22 rfl ?_
    refine Y.getR (o := (G 42 7)) 7 dX0_advanceTurn_23 zl_X0_29 (rfl) (by decide) rfl (zX_0_11 hX).2.2 rfl ?_
    obtain ⟨b11, e12, hc13, K⟩ := K
    rw [e12]
    obtain ⟨x14, m15, K⟩ := K
    refine Y.callV (g := zm_X1_isPositive) (vs := []) (st := []) dX0_advanceTurn_26 ⟨zg_X1_isPositive.1, zg_X1_isPositive.2.1, zg_X1_isPositive.2.2, by decide⟩ ⟨zk_X0_86, zv_X1_isPositive⟩ (ci := 1) (congrArg Prod.fst hc13.1) rfl (hc13.2.1) rfl rfl (Nat.le_of_ble_eq_true rfl) m15 (Or.inl rfl) ?_
    show Z zm_X0_advanceTurn kz Q 29 [(1, zI ((E b8 9))), (0, zR 42)] [zI x14] (d, G, E)
    refine Z.if_eq 47 dX0_advanceTurn_29 rfl ⟨fun c17 => ?_, fun c17 => ?_⟩
    · replace K := K.1 c17
      refine Z.aload_n (k := 1) dX0_advanceTurn_47 rfl ?_
      refine Y.getR (o := (G 42 7)) 7 dX0_advanceTurn_48 zl_X0_29 (rfl) (by decide) rfl (zX_0_11 hX).2.2 rfl ?_
      obtain ⟨b18, e19, hc20, K⟩ := K
      rw [e19]
      refine Y.getI 9 dX0_advanceTurn_51 zl_X0_89 (congrArg Prod.fst hc20.1) (by decide) rfl hc20.2.1 ?_
      refine Z.istore_n (ls' := [(2, zI ((E b18 9))), (1, zI ((E b8 9))), (0, zR 42)]) dX0_advanceTurn_54 (by decide) rfl ?_
      refine Z.aload_n (k := 2) dX0_advanceTurn_55 rfl ?_
      refine Z.dup_i dX0_advanceTurn_56 (fun _ => rfl) ?_
      refine Y.getI 11 dX0_advanceTurn_57 zl_X0_41 (rfl) (by decide) rfl (zX_0_11 hX).2.2 ?_
      refine Z.iconst (n := 1) dX0_advanceTurn_60 ⟨by decide, by decide⟩ ?_
      obtain ⟨z21, K⟩ := K
      refine Z.iadd dX0_advanceTurn_61 z21 ?_
      refine Y.putI 11 dX0_advanceTurn_62 zw_X0_41 (fun q => by cases q) (rfl) rfl (zX_0_11 hX).2.2 (Or.inl rfl) ?_
      generalize eE22 : zuE E 42 11 (((E 42 11) + 1)) = E22
      replace K := K E22 eE22.symm
      refine Z.pick (ls' := [(0, zR 42), (1, zI ((E b8 9))), (2, zI ((E b18 9)))]) [2, 1, 0] rfl ?_
      exact K
    · replace K := K.2 c17
      refine Z.aload_n (k := 1) dX0_advanceTurn_32 rfl ?_
      refine Y.getR (o := (G 42 7)) 7 dX0_advanceTurn_33 zl_X0_29 (rfl) (by decide) rfl (zX_0_11 hX).2.2 rfl ?_
      obtain ⟨b23, e24, hc25, K⟩ := K
      rw [e24]
      refine Y.getR (o := some ((b23 + 1))) 0 dX0_advanceTurn_36 zl_X0_92 (congrArg Prod.fst hc25.1) (by decide) rfl hc25.2.1 hc25.2.2.2.1 ?_
      refine Y.getI 3 dX0_advanceTurn_39 zl_X0_96 (congrArg Prod.fst hc25.2.2.1.1) (by decide) rfl hc25.2.2.1.2.2.2.2.1 ?_
      refine Z.iconst (n := 1) dX0_advanceTurn_42 ⟨by decide, by decide⟩ ?_
      obtain ⟨z26, K⟩ := K
      refine Z.isub dX0_advanceTurn_43 z26 ?_
      refine Z.goto 54 dX0_advanceTurn_44 rfl ?_
      refine Z.istore_n (ls' := [(2, zI (((E (b23 + 1) 3) - 1))), (1, zI ((E b8 9))), (0, zR 42)]) dX0_advanceTurn_54 (by decide) rfl ?_
      refine Z.aload_n (k := 2) dX0_advanceTurn_55 rfl ?_
      refine Z.dup_i dX0_advanceTurn_56 (fun _ => rfl) ?_
      refine Y.getI 11 dX0_advanceTurn_57 zl_X0_41 (rfl) (by decide) rfl (zX_0_11 hX).2.2 ?_
      refine Z.iconst (n := 1) dX0_advanceTurn_60 ⟨by decide, by decide⟩ ?_
      obtain ⟨z27, K⟩ := K
      refine Z.iadd dX0_advanceTurn_61 z27 ?_
      refine Y.putI 11 dX0_advanceTurn_62 zw_X0_41 (fun q => by cases q) (rfl) rfl (zX_0_11 hX).2.2 (Or.inl rfl) ?_
      generalize eE28 : zuE E 42 11 (((E 42 11) + 1)) = E28
      replace K := K E28 eE28.symm
      refine Z.pick (ls' := [(0, zR 42), (1, zI ((E b8 9))), (2, zI (((E (b23 + 1) 3) - 1)))]) [2, 1, 0] rfl ?_
      exact K
  · replace K := K.2 c7
    refine Z.iconst (n := 0) dX0_advanceTurn_10 ⟨by decide, by decide⟩ ?_
    refine Z.goto 21 dX0_advanceTurn_11 rfl ?_
    refine Z.istore_n (ls' := [(1, zI 0), (0, zR 42)]) dX0_advanceTurn_21 (by decide) rfl ?_
    refine Z.aload_n (k := 1) dX0_advanceTurn_22 rfl ?_
    refine Y.getR (o := (G 42 7)) 7 dX0_advanceTurn_23 zl_X0_29 (rfl) (by decide) rfl (zX_0_11 hX).2.2 rfl ?_
    obtain ⟨b29, e30, hc31, K⟩ := K
    rw [e30]
    obtain ⟨x32, m33, K⟩ := K
    refine Y.callV (g := zm_X1_isPositive) (vs := []) (st := []) dX0_advanceTurn_26 ⟨zg_X1_isPositive.1, zg_X1_isPositive.2.1, zg_X1_isPositive.2.2, by decide⟩ ⟨zk_X0_86, zv_X1_isPositive⟩ (ci := 1) (congrArg Prod.fst hc31.1) rfl (hc31.2.1) rfl rfl (Nat.le_of_ble_eq_true rfl) m33 (Or.inl rfl) ?_
    show Z zm_X0_advanceTurn kz Q 29 [(1, zI 0), (0, zR 42)] [zI x32] (d, G, E)
    refine Z.if_eq 47 dX0_advanceTurn_29 rfl ⟨fun c35 => ?_, fun c35 => ?_⟩
    · replace K := K.1 c35
      refine Z.aload_n (k := 1) dX0_advanceTurn_47 rfl ?_
      refine Y.getR (o := (G 42 7)) 7 dX0_advanceTurn_48 zl_X0_29 (rfl) (by decide) rfl (zX_0_11 hX).2.2 rfl ?_
      obtain ⟨b36, e37, hc38, K⟩ := K
      rw [e37]
      refine Y.getI 9 dX0_advanceTurn_51 zl_X0_89 (congrArg Prod.fst hc38.1) (by decide) rfl hc38.2.1 ?_
      refine Z.istore_n (ls' := [(2, zI ((E b36 9))), (1, zI 0), (0, zR 42)]) dX0_advanceTurn_54 (by decide) rfl ?_
      refine Z.aload_n (k := 2) dX0_advanceTurn_55 rfl ?_
      refine Z.dup_i dX0_advanceTurn_56 (fun _ => rfl) ?_
      refine Y.getI 11 dX0_advanceTurn_57 zl_X0_41 (rfl) (by decide) rfl (zX_0_11 hX).2.2 ?_
      refine Z.iconst (n := 1) dX0_advanceTurn_60 ⟨by decide, by decide⟩ ?_
      obtain ⟨z39, K⟩ := K
      refine Z.iadd dX0_advanceTurn_61 z39 ?_
      refine Y.putI 11 dX0_advanceTurn_62 zw_X0_41 (fun q => by cases q) (rfl) rfl (zX_0_11 hX).2.2 (Or.inl rfl) ?_
      generalize eE40 : zuE E 42 11 (((E 42 11) + 1)) = E40
      replace K := K E40 eE40.symm
      refine Z.pick (ls' := [(0, zR 42), (1, zI 0), (2, zI ((E b36 9)))]) [2, 1, 0] rfl ?_
      exact K
    · replace K := K.2 c35
      refine Z.aload_n (k := 1) dX0_advanceTurn_32 rfl ?_
      refine Y.getR (o := (G 42 7)) 7 dX0_advanceTurn_33 zl_X0_29 (rfl) (by decide) rfl (zX_0_11 hX).2.2 rfl ?_
      obtain ⟨b41, e42, hc43, K⟩ := K
      rw [e42]
      refine Y.getR (o := some ((b41 + 1))) 0 dX0_advanceTurn_36 zl_X0_92 (congrArg Prod.fst hc43.1) (by decide) rfl hc43.2.1 hc43.2.2.2.1 ?_
      refine Y.getI 3 dX0_advanceTurn_39 zl_X0_96 (congrArg Prod.fst hc43.2.2.1.1) (by decide) rfl hc43.2.2.1.2.2.2.2.1 ?_
      refine Z.iconst (n := 1) dX0_advanceTurn_42 ⟨by decide, by decide⟩ ?_
      obtain ⟨z44, K⟩ := K
      refine Z.isub dX0_advanceTurn_43 z44 ?_
      refine Z.goto 54 dX0_advanceTurn_44 rfl ?_
      refine Z.istore_n (ls' := [(2, zI (((E (b41 + 1) 3) - 1))), (1, zI 0), (0, zR 42)]) dX0_advanceTurn_54 (by decide) rfl ?_
      refine Z.aload_n (k := 2) dX0_advanceTurn_55 rfl ?_
      refine Z.dup_i dX0_advanceTurn_56 (fun _ => rfl) ?_
      refine Y.getI 11 dX0_advanceTurn_57 zl_X0_41 (rfl) (by decide) rfl (zX_0_11 hX).2.2 ?_
      refine Z.iconst (n := 1) dX0_advanceTurn_60 ⟨by decide, by decide⟩ ?_
      obtain ⟨z45, K⟩ := K
      refine Z.iadd dX0_advanceTurn_61 z45 ?_
      refine Y.putI 11 dX0_advanceTurn_62 zw_X0_41 (fun q => by cases q) (rfl) rfl (zX_0_11 hX).2.2 (Or.inl rfl) ?_
      generalize eE46 : zuE E 42 11 (((E 42 11) + 1)) = E46
      replace K := K E46 eE46.symm
      refine Z.pick (ls' := [(0, zR 42), (1, zI 0), (2, zI (((E (b41 + 1) 3) - 1)))]) [2, 1, 0] rfl ?_
      exact K
set_option maxRecDepth 20000 in
theorem X0_advanceTurn_65 {kz : Nat × Nat} {Q : Option zV → zH → Prop} {d : List Nat} {G : Nat → Int → Option Nat} {E : Nat → Int → Int} {v1 : Int} {v2 : Int} (hX : zK zXt d G) (K : ∃ b1, (G 42 6) = some b1 ∧ zCk d G b1 ∧ ((E (b1 + 1) 3) ≤ (E 42 8) → Q (some (zI 0)) (d, G, E)) ∧ (¬ ((E (b1 + 1) 3) ≤ (E 42 8)) → Z zm_X0_advanceTurn kz Q 82 [(0, zR 42), (1, zI v1), (2, zI v2)] [] (d, G, E))) : Z zm_X0_advanceTurn kz Q 65 [(0, zR 42), (1, zI v1), (2, zI v2)] [] (d, G, E) := by
  refine Z.aload_n (k := 0) dX0_advanceTurn_65 rfl ?_
  refine Y.getI 8 dX0_advanceTurn_66 zl_X0_32 (rfl) (by decide) rfl (zX_0_11 hX).2.2 ?_
  refine Z.aload_n (k := 0) dX0_advanceTurn_69 rfl ?_
  refine Y.getR (o := (G 42 6)) 6 dX0_advanceTurn_70 zl_X0_26 (rfl) (by decide) rfl (zX_0_11 hX).2.2 rfl ?_
  obtain ⟨b1, e2, hc3, K⟩ := K
  rw [e2]
  refine Y.getR (o := some ((b1 + 1))) 0 dX0_advanceTurn_73 zl_X0_92 (congrArg Prod.fst hc3.1) (by decide) rfl hc3.2.1 hc3.2.2.2.1 ?_
  refine Y.getI 3 dX0_advanceTurn_76 zl_X0_96 (congrArg Prod.fst hc3.2.2.1.1) (by decide) rfl hc3.2.2.1.2.2.2.2.1 ?_
  refine Z.icmp_ge 193 dX0_advanceTurn_79 rfl ⟨fun c4 => ?_, fun c4 => ?_⟩
  · replace K := K.1 c4
    refine Z.iconst (n := 0) dX0_advanceTurn_193 ⟨by decide, by decide⟩ ?_
    exact Z.iret (ty := .boolean) dX0_advanceTurn_194 rfl rfl K
  · replace K := K.2 c4
    exact K
set_option maxRecDepth 20000 in
theorem X0_advanceTurn_82 {kz : Nat × Nat} {Q : Option zV → zH → Prop} {d : List Nat} {G : Nat → Int → Option Nat} {E : Nat → Int → Int} {v1 : Int} {v2 : Int} (hX : zK zXt d G) (K : (2 ≤ (E 42 9) → zin ((E 42 8) + 1) ∧ ∀ E3, E3 = zuE E 42 8 (((E 42 8) + 1)) → ∀ E4, E4 = zuE E3 42 9 0 → ∀ E5, E5 = zuE E4 42 10 v1 → ∀ E6, E6 = zuE E5 42 11 1 → Z zm_X0_advanceTurn kz Q 65 [(0, zR 42), (1, zI v1), (2, zI v2)] [] (d, G, E6)) ∧ (¬ (2 ≤ (E 42 9)) → ∃ b7, (G 42 6) = some b7 ∧ zCk d G b7 ∧ ∃ x10, zM zm_X5_isEqual [zR ((b7 + 1)), zI ((E 42 8))] (d, G, E) (some (zI x10)) (d, G, E) ∧ (x10 = 0 → zin ((E 42 8) + 1) ∧ ∀ E15, E15 = zuE E 42 8 (((E 42 8) + 1)) → ∀ E16, E16 = zuE E15 42 9 0 → ∀ E17, E17 = zuE E16 42 10 v1 → ∀ E18, E18 = zuE E17 42 11 1 → Z zm_X0_advanceTurn kz Q 65 [(0, zR 42), (1, zI v1), (2, zI v2)] [] (d, G, E18)) ∧ (¬ (x10 = 0) → Z zm_X0_advanceTurn kz Q 107 [(0, zR 42), (1, zI v1), (2, zI v2)] [] (d, G, E)))) : Z zm_X0_advanceTurn kz Q 82 [(0, zR 42), (1, zI v1), (2, zI v2)] [] (d, G, E) := by
  refine Z.aload_n (k := 0) dX0_advanceTurn_82 rfl ?_
  refine Y.getI 9 dX0_advanceTurn_83 zl_X0_35 (rfl) (by decide) rfl (zX_0_11 hX).2.2 ?_
  refine Z.iconst (n := 2) dX0_advanceTurn_86 ⟨by decide, by decide⟩ ?_
  refine Z.icmp_ge 165 dX0_advanceTurn_87 rfl ⟨fun c1 => ?_, fun c1 => ?_⟩
  · replace K := K.1 c1
    refine Z.aload_n (k := 0) dX0_advanceTurn_165 rfl ?_
    refine Z.dup_i dX0_advanceTurn_166 (fun _ => rfl) ?_
    refine Y.getI 8 dX0_advanceTurn_167 zl_X0_32 (rfl) (by decide) rfl (zX_0_11 hX).2.2 ?_
    refine Z.iconst (n := 1) dX0_advanceTurn_170 ⟨by decide, by decide⟩ ?_
    obtain ⟨z2, K⟩ := K
    refine Z.iadd dX0_advanceTurn_171 z2 ?_
    refine Y.putI 8 dX0_advanceTurn_172 zw_X0_32 (fun q => by cases q) (rfl) rfl (zX_0_11 hX).2.2 (Or.inl rfl) ?_
    generalize eE3 : zuE E 42 8 (((E 42 8) + 1)) = E3
    replace K := K E3 eE3.symm
    refine Z.aload_n (k := 0) dX0_advanceTurn_175 rfl ?_
    refine Z.iconst (n := 0) dX0_advanceTurn_176 ⟨by decide, by decide⟩ ?_
    refine Y.putI 9 dX0_advanceTurn_177 zw_X0_35 (fun q => by cases q) (rfl) rfl (zX_0_11 hX).2.2 (Or.inl rfl) ?_
    generalize eE4 : zuE E3 42 9 0 = E4
    replace K := K E4 eE4.symm
    refine Z.aload_n (k := 0) dX0_advanceTurn_180 rfl ?_
    refine Z.iload_n (k := 1) dX0_advanceTurn_181 rfl ?_
    refine Y.putI 10 dX0_advanceTurn_182 zw_X0_38 (fun q => by cases q) (rfl) rfl (zX_0_11 hX).2.2 (Or.inl rfl) ?_
    generalize eE5 : zuE E4 42 10 v1 = E5
    replace K := K E5 eE5.symm
    refine Z.aload_n (k := 0) dX0_advanceTurn_185 rfl ?_
    refine Z.iconst (n := 1) dX0_advanceTurn_186 ⟨by decide, by decide⟩ ?_
    refine Y.putI 11 dX0_advanceTurn_187 zw_X0_41 (fun q => by cases q) (rfl) rfl (zX_0_11 hX).2.2 (Or.inl rfl) ?_
    generalize eE6 : zuE E5 42 11 1 = E6
    replace K := K E6 eE6.symm
    refine Z.goto 65 dX0_advanceTurn_190 rfl ?_
    exact K
  · replace K := K.2 c1
    refine Z.aload_n (k := 0) dX0_advanceTurn_90 rfl ?_
    refine Y.getR (o := (G 42 6)) 6 dX0_advanceTurn_91 zl_X0_26 (rfl) (by decide) rfl (zX_0_11 hX).2.2 rfl ?_
    obtain ⟨b7, e8, hc9, K⟩ := K
    rw [e8]
    refine Y.getR (o := some ((b7 + 1))) 0 dX0_advanceTurn_94 zl_X0_92 (congrArg Prod.fst hc9.1) (by decide) rfl hc9.2.1 hc9.2.2.2.1 ?_
    refine Z.aload_n (k := 0) dX0_advanceTurn_97 rfl ?_
    refine Y.getI 8 dX0_advanceTurn_98 zl_X0_32 (rfl) (by decide) rfl (zX_0_11 hX).2.2 ?_
    obtain ⟨x10, m11, K⟩ := K
    refine Y.callV (g := zm_X5_isEqual) (vs := [zI ((E 42 8))]) (st := []) dX0_advanceTurn_101 ⟨zg_X5_isEqual.1, zg_X5_isEqual.2.1, zg_X5_isEqual.2.2, by decide⟩ ⟨zk_X0_107, zv_X5_isEqual⟩ (ci := 5) (congrArg Prod.fst hc9.2.2.1.1) rfl (hc9.2.2.1.2.2.2.2.1) rfl rfl (Nat.le_of_ble_eq_true rfl) m11 (Or.inl rfl) ?_
    show Z zm_X0_advanceTurn kz Q 104 [(0, zR 42), (1, zI v1), (2, zI v2)] [zI x10] (d, G, E)
    refine Z.if_eq 165 dX0_advanceTurn_104 rfl ⟨fun c13 => ?_, fun c13 => ?_⟩
    · replace K := K.1 c13
      refine Z.aload_n (k := 0) dX0_advanceTurn_165 rfl ?_
      refine Z.dup_i dX0_advanceTurn_166 (fun _ => rfl) ?_
      refine Y.getI 8 dX0_advanceTurn_167 zl_X0_32 (rfl) (by decide) rfl (zX_0_11 hX).2.2 ?_
      refine Z.iconst (n := 1) dX0_advanceTurn_170 ⟨by decide, by decide⟩ ?_
      obtain ⟨z14, K⟩ := K
      refine Z.iadd dX0_advanceTurn_171 z14 ?_
      refine Y.putI 8 dX0_advanceTurn_172 zw_X0_32 (fun q => by cases q) (rfl) rfl (zX_0_11 hX).2.2 (Or.inl rfl) ?_
      generalize eE15 : zuE E 42 8 (((E 42 8) + 1)) = E15
      replace K := K E15 eE15.symm
      refine Z.aload_n (k := 0) dX0_advanceTurn_175 rfl ?_
      refine Z.iconst (n := 0) dX0_advanceTurn_176 ⟨by decide, by decide⟩ ?_
      refine Y.putI 9 dX0_advanceTurn_177 zw_X0_35 (fun q => by cases q) (rfl) rfl (zX_0_11 hX).2.2 (Or.inl rfl) ?_
      generalize eE16 : zuE E15 42 9 0 = E16
      replace K := K E16 eE16.symm
      refine Z.aload_n (k := 0) dX0_advanceTurn_180 rfl ?_
      refine Z.iload_n (k := 1) dX0_advanceTurn_181 rfl ?_
      refine Y.putI 10 dX0_advanceTurn_182 zw_X0_38 (fun q => by cases q) (rfl) rfl (zX_0_11 hX).2.2 (Or.inl rfl) ?_
      generalize eE17 : zuE E16 42 10 v1 = E17
      replace K := K E17 eE17.symm
      refine Z.aload_n (k := 0) dX0_advanceTurn_185 rfl ?_
      refine Z.iconst (n := 1) dX0_advanceTurn_186 ⟨by decide, by decide⟩ ?_
      refine Y.putI 11 dX0_advanceTurn_187 zw_X0_41 (fun q => by cases q) (rfl) rfl (zX_0_11 hX).2.2 (Or.inl rfl) ?_
      generalize eE18 : zuE E17 42 11 1 = E18
      replace K := K E18 eE18.symm
      refine Z.goto 65 dX0_advanceTurn_190 rfl ?_
      exact K
    · replace K := K.2 c13
      exact K
set_option maxRecDepth 20000 in
theorem X0_advanceTurn_107 {kz : Nat × Nat} {Q : Option zV → zH → Prop} {d : List Nat} {G : Nat → Int → Option Nat} {E : Nat → Int → Int} {v1 : Int} {v2 : Int} (hX : zK zXt d G) (K : (v2 < (E 42 10) → zin ((E 42 9) + 1) ∧ ∀ E3, E3 = zuE E 42 9 (((E 42 9) + 1)) → ∀ E4, E4 = zuE E3 42 10 v1 → ∀ E5, E5 = zuE E4 42 11 1 → Z zm_X0_advanceTurn kz Q 82 [(0, zR 42), (1, zI v1), (2, zI v2)] [] (d, G, E5)) ∧ (¬ (v2 < (E 42 10)) → ∃ x6 E7, zM zm_X0_findPlace [zR 42] (d, G, E) (some (zI x6)) (d, G, E7) ∧ (x6 = 0 → zin ((E7 42 10) + 1) ∧ ∀ E12, E12 = zuE E7 42 10 (((E7 42 10) + 1)) → ∀ E13, E13 = zuE E12 42 11 1 → Z zm_X0_advanceTurn kz Q 107 [(0, zR 42), (1, zI v1), (2, zI v2)] [] (d, G, E13)) ∧ (¬ (x6 = 0) → Q (some (zI 1)) (d, G, E7)))) : Z zm_X0_advanceTurn kz Q 107 [(0, zR 42), (1, zI v1), (2, zI v2)] [] (d, G, E) := by
  refine Z.aload_n (k := 0) dX0_advanceTurn_107 rfl ?_
  refine Y.getI 10 dX0_advanceTurn_108 zl_X0_38 (rfl) (by decide) rfl (zX_0_11 hX).2.2 ?_
  refine Z.iload_n (k := 2) dX0_advanceTurn_111 rfl ?_
  refine Z.icmp_gt 142 dX0_advanceTurn_112 rfl ⟨fun c1 => ?_, fun c1 => ?_⟩
  · replace K := K.1 c1
    refine Z.aload_n (k := 0) dX0_advanceTurn_142 rfl ?_
    refine Z.dup_i dX0_advanceTurn_143 (fun _ => rfl) ?_
    refine Y.getI 9 dX0_advanceTurn_144 zl_X0_35 (rfl) (by decide) rfl (zX_0_11 hX).2.2 ?_
    refine Z.iconst (n := 1) dX0_advanceTurn_147 ⟨by decide, by decide⟩ ?_
    obtain ⟨z2, K⟩ := K
    refine Z.iadd dX0_advanceTurn_148 z2 ?_
    refine Y.putI 9 dX0_advanceTurn_149 zw_X0_35 (fun q => by cases q) (rfl) rfl (zX_0_11 hX).2.2 (Or.inl rfl) ?_
    generalize eE3 : zuE E 42 9 (((E 42 9) + 1)) = E3
    replace K := K E3 eE3.symm
    refine Z.aload_n (k := 0) dX0_advanceTurn_152 rfl ?_
    refine Z.iload_n (k := 1) dX0_advanceTurn_153 rfl ?_
    refine Y.putI 10 dX0_advanceTurn_154 zw_X0_38 (fun q => by cases q) (rfl) rfl (zX_0_11 hX).2.2 (Or.inl rfl) ?_
    generalize eE4 : zuE E3 42 10 v1 = E4
    replace K := K E4 eE4.symm
    refine Z.aload_n (k := 0) dX0_advanceTurn_157 rfl ?_
    refine Z.iconst (n := 1) dX0_advanceTurn_158 ⟨by decide, by decide⟩ ?_
    refine Y.putI 11 dX0_advanceTurn_159 zw_X0_41 (fun q => by cases q) (rfl) rfl (zX_0_11 hX).2.2 (Or.inl rfl) ?_
    generalize eE5 : zuE E4 42 11 1 = E5
    replace K := K E5 eE5.symm
    refine Z.goto 82 dX0_advanceTurn_162 rfl ?_
    exact K
  · replace K := K.2 c1
    refine Z.aload_n (k := 0) dX0_advanceTurn_115 rfl ?_
    obtain ⟨x6, E7, m8, K⟩ := K
    refine Y.callV (g := zm_X0_findPlace) (vs := []) (st := []) dX0_advanceTurn_116 ⟨zg_X0_findPlace.1, zg_X0_findPlace.2.1, zg_X0_findPlace.2.2, by decide⟩ ⟨zk_X0_111, zv_X0_findPlace⟩ (ci := 0) (rfl) rfl ((zX_0_11 hX).2.2) rfl rfl (Nat.le_of_ble_eq_true rfl) m8 (Or.inl rfl) ?_
    show Z zm_X0_advanceTurn kz Q 119 [(0, zR 42), (1, zI v1), (2, zI v2)] [zI x6] (d, G, E7)
    refine Z.if_eq 124 dX0_advanceTurn_119 rfl ⟨fun c10 => ?_, fun c10 => ?_⟩
    · replace K := K.1 c10
      refine Z.aload_n (k := 0) dX0_advanceTurn_124 rfl ?_
      refine Z.dup_i dX0_advanceTurn_125 (fun _ => rfl) ?_
      refine Y.getI 10 dX0_advanceTurn_126 zl_X0_38 (rfl) (by decide) rfl (zX_0_11 hX).2.2 ?_
      refine Z.iconst (n := 1) dX0_advanceTurn_129 ⟨by decide, by decide⟩ ?_
      obtain ⟨z11, K⟩ := K
      refine Z.iadd dX0_advanceTurn_130 z11 ?_
      refine Y.putI 10 dX0_advanceTurn_131 zw_X0_38 (fun q => by cases q) (rfl) rfl (zX_0_11 hX).2.2 (Or.inl rfl) ?_
      generalize eE12 : zuE E7 42 10 (((E7 42 10) + 1)) = E12
      replace K := K E12 eE12.symm
      refine Z.aload_n (k := 0) dX0_advanceTurn_134 rfl ?_
      refine Z.iconst (n := 1) dX0_advanceTurn_135 ⟨by decide, by decide⟩ ?_
      refine Y.putI 11 dX0_advanceTurn_136 zw_X0_41 (fun q => by cases q) (rfl) rfl (zX_0_11 hX).2.2 (Or.inl rfl) ?_
      generalize eE13 : zuE E12 42 11 1 = E13
      replace K := K E13 eE13.symm
      refine Z.goto 107 dX0_advanceTurn_139 rfl ?_
      exact K
    · replace K := K.2 c10
      refine Z.iconst (n := 1) dX0_advanceTurn_122 ⟨by decide, by decide⟩ ?_
      exact Z.iret (ty := .boolean) dX0_advanceTurn_123 rfl rfl K
set_option maxRecDepth 20000 in
theorem X0_advanceFactor_0 {kz : Nat × Nat} {Q : Option zV → zH → Prop} {d : List Nat} {G : Nat → Int → Option Nat} {E : Nat → Int → Int}  (hX : zK zXt d G) (K : zin ((E 42 10) + 1) ∧ ∀ E2, E2 = zuE E 42 10 (((E 42 10) + 1)) → ∃ b3, (G 42 6) = some b3 ∧ zCk d G b3 ∧ ((E2 42 10) < (E2 (b3 + 1) 3) → ∃ b7, (G 42 6) = some b7 ∧ zCk d G b7 ∧ ((E2 (b7 + 1) 3) ≤ (E2 42 10) → Q (some (zI 0)) (d, G, E2)) ∧ (¬ ((E2 (b7 + 1) 3) ≤ (E2 42 10)) → Q (some (zI 1)) (d, G, E2))) ∧ (¬ ((E2 42 10) < (E2 (b3 + 1) 3)) → zin ((E2 42 8) + 1) ∧ ∀ E12, E12 = zuE E2 42 8 (((E2 42 8) + 1)) → zin ((E12 42 8) + 1) ∧ ∀ E14, E14 = zuE E12 42 10 (((E12 42 8) + 1)) → ∃ b15, (G 42 6) = some b15 ∧ zCk d G b15 ∧ ((E14 (b15 + 1) 3) ≤ (E14 42 10) → Q (some (zI 0)) (d, G, E14)) ∧ (¬ ((E14 (b15 + 1) 3) ≤ (E14 42 10)) → Q (some (zI 1)) (d, G, E14)))) : Z zm_X0_advanceFactor kz Q 0 [(0, zR 42)] [] (d, G, E) := by
  refine Z.aload_n (k := 0) dX0_advanceFactor_0 rfl ?_
  refine Z.dup_i dX0_advanceFactor_1 (fun _ => rfl) ?_
  refine Y.getI 10 dX0_advanceFactor_2 zl_X0_38 (rfl) (by decide) rfl (zX_0_11 hX).2.2 ?_
  refine Z.iconst (n := 1) dX0_advanceFactor_5 ⟨by decide, by decide⟩ ?_
  obtain ⟨z1, K⟩ := K
  refine Z.iadd dX0_advanceFactor_6 z1 ?_
  refine Y.putI 10 dX0_advanceFactor_7 zw_X0_38 (fun q => by cases q) (rfl) rfl (zX_0_11 hX).2.2 (Or.inl rfl) ?_
  generalize eE2 : zuE E 42 10 (((E 42 10) + 1)) = E2
  replace K := K E2 eE2.symm
  refine Z.aload_n (k := 0) dX0_advanceFactor_10 rfl ?_
  refine Y.getI 10 dX0_advanceFactor_11 zl_X0_38 (rfl) (by decide) rfl (zX_0_11 hX).2.2 ?_
  refine Z.aload_n (k := 0) dX0_advanceFactor_14 rfl ?_
  refine Y.getR (o := (G 42 6)) 6 dX0_advanceFactor_15 zl_X0_26 (rfl) (by decide) rfl (zX_0_11 hX).2.2 rfl ?_
  obtain ⟨b3, e4, hc5, K⟩ := K
  rw [e4]
  refine Y.getR (o := some ((b3 + 1))) 0 dX0_advanceFactor_18 zl_X0_92 (congrArg Prod.fst hc5.1) (by decide) rfl hc5.2.1 hc5.2.2.2.1 ?_
  refine Y.getI 3 dX0_advanceFactor_21 zl_X0_96 (congrArg Prod.fst hc5.2.2.1.1) (by decide) rfl hc5.2.2.1.2.2.2.2.1 ?_
  refine Z.icmp_lt 47 dX0_advanceFactor_24 rfl ⟨fun c6 => ?_, fun c6 => ?_⟩
  · replace K := K.1 c6
    refine Z.aload_n (k := 0) dX0_advanceFactor_47 rfl ?_
    refine Y.getI 10 dX0_advanceFactor_48 zl_X0_38 (rfl) (by decide) rfl (zX_0_11 hX).2.2 ?_
    refine Z.aload_n (k := 0) dX0_advanceFactor_51 rfl ?_
    refine Y.getR (o := (G 42 6)) 6 dX0_advanceFactor_52 zl_X0_26 (rfl) (by decide) rfl (zX_0_11 hX).2.2 rfl ?_
    obtain ⟨b7, e8, hc9, K⟩ := K
    rw [e8]
    refine Y.getR (o := some ((b7 + 1))) 0 dX0_advanceFactor_55 zl_X0_92 (congrArg Prod.fst hc9.1) (by decide) rfl hc9.2.1 hc9.2.2.2.1 ?_
    refine Y.getI 3 dX0_advanceFactor_58 zl_X0_96 (congrArg Prod.fst hc9.2.2.1.1) (by decide) rfl hc9.2.2.1.2.2.2.2.1 ?_
    refine Z.icmp_ge 68 dX0_advanceFactor_61 rfl ⟨fun c10 => ?_, fun c10 => ?_⟩
    · replace K := K.1 c10
      refine Z.iconst (n := 0) dX0_advanceFactor_68 ⟨by decide, by decide⟩ ?_
      exact Z.iret (ty := .boolean) dX0_advanceFactor_69 rfl rfl K
    · replace K := K.2 c10
      refine Z.iconst (n := 1) dX0_advanceFactor_64 ⟨by decide, by decide⟩ ?_
      refine Z.goto 69 dX0_advanceFactor_65 rfl ?_
      exact Z.iret (ty := .boolean) dX0_advanceFactor_69 rfl rfl K
  · replace K := K.2 c6
    refine Z.aload_n (k := 0) dX0_advanceFactor_27 rfl ?_
    refine Z.dup_i dX0_advanceFactor_28 (fun _ => rfl) ?_
    refine Y.getI 8 dX0_advanceFactor_29 zl_X0_32 (rfl) (by decide) rfl (zX_0_11 hX).2.2 ?_
    refine Z.iconst (n := 1) dX0_advanceFactor_32 ⟨by decide, by decide⟩ ?_
    obtain ⟨z11, K⟩ := K
    refine Z.iadd dX0_advanceFactor_33 z11 ?_
    refine Y.putI 8 dX0_advanceFactor_34 zw_X0_32 (fun q => by cases q) (rfl) rfl (zX_0_11 hX).2.2 (Or.inl rfl) ?_
    generalize eE12 : zuE E2 42 8 (((E2 42 8) + 1)) = E12
    replace K := K E12 eE12.symm
    refine Z.aload_n (k := 0) dX0_advanceFactor_37 rfl ?_
    refine Z.aload_n (k := 0) dX0_advanceFactor_38 rfl ?_
    refine Y.getI 8 dX0_advanceFactor_39 zl_X0_32 (rfl) (by decide) rfl (zX_0_11 hX).2.2 ?_
    refine Z.iconst (n := 1) dX0_advanceFactor_42 ⟨by decide, by decide⟩ ?_
    obtain ⟨z13, K⟩ := K
    refine Z.iadd dX0_advanceFactor_43 z13 ?_
    refine Y.putI 10 dX0_advanceFactor_44 zw_X0_38 (fun q => by cases q) (rfl) rfl (zX_0_11 hX).2.2 (Or.inl rfl) ?_
    generalize eE14 : zuE E12 42 10 (((E12 42 8) + 1)) = E14
    replace K := K E14 eE14.symm
    refine Z.aload_n (k := 0) dX0_advanceFactor_47 rfl ?_
    refine Y.getI 10 dX0_advanceFactor_48 zl_X0_38 (rfl) (by decide) rfl (zX_0_11 hX).2.2 ?_
    refine Z.aload_n (k := 0) dX0_advanceFactor_51 rfl ?_
    refine Y.getR (o := (G 42 6)) 6 dX0_advanceFactor_52 zl_X0_26 (rfl) (by decide) rfl (zX_0_11 hX).2.2 rfl ?_
    obtain ⟨b15, e16, hc17, K⟩ := K
    rw [e16]
    refine Y.getR (o := some ((b15 + 1))) 0 dX0_advanceFactor_55 zl_X0_92 (congrArg Prod.fst hc17.1) (by decide) rfl hc17.2.1 hc17.2.2.2.1 ?_
    refine Y.getI 3 dX0_advanceFactor_58 zl_X0_96 (congrArg Prod.fst hc17.2.2.1.1) (by decide) rfl hc17.2.2.1.2.2.2.2.1 ?_
    refine Z.icmp_ge 68 dX0_advanceFactor_61 rfl ⟨fun c18 => ?_, fun c18 => ?_⟩
    · replace K := K.1 c18
      refine Z.iconst (n := 0) dX0_advanceFactor_68 ⟨by decide, by decide⟩ ?_
      exact Z.iret (ty := .boolean) dX0_advanceFactor_69 rfl rfl K
    · replace K := K.2 c18
      refine Z.iconst (n := 1) dX0_advanceFactor_64 ⟨by decide, by decide⟩ ?_
      refine Z.goto 69 dX0_advanceFactor_65 rfl ?_
      exact Z.iret (ty := .boolean) dX0_advanceFactor_69 rfl rfl K
set_option maxRecDepth 20000 in
theorem X0_advance_0 {kz : Nat × Nat} {Q : Option zV → zH → Prop} {d : List Nat} {G : Nat → Int → Option Nat} {E : Nat → Int → Int}  (hX : zK zXt d G) (K : ((E 42 5) = 0 → zin ((E 42 8) + 1) ∧ ∀ E3, E3 = zuE E 42 8 (((E 42 8) + 1)) → ∃ b4, (G 42 6) = some b4 ∧ zCk d G b4 ∧ ∃ x7, zM zm_X1_isPositive [zR b4] (d, G, E3) (some (zI x7)) (d, G, E3) ∧ (x7 = 0 → Q (some (zI 0)) (d, G, E3)) ∧ (¬ (x7 = 0) → ∃ b11, (G 42 7) = some b11 ∧ zCk d G b11 ∧ ∃ x14, zM zm_X1_isPositive [zR b11] (d, G, E3) (some (zI x14)) (d, G, E3) ∧ (x14 ≠ 0 → Q (some (zI 0)) (d, G, E3)) ∧ (¬ (x14 ≠ 0) → ∃ b18, (G 42 6) = some b18 ∧ zCk d G b18 ∧ ((E3 (b18 + 1) 3) ≤ (E3 42 8) → Q (some (zI 0)) (d, G, E3)) ∧ (¬ ((E3 (b18 + 1) 3) ≤ (E3 42 8)) → Q (some (zI 1)) (d, G, E3))))) ∧ ((E 42 5) = 1 → zin ((E 42 8) + 1) ∧ ∀ E24, E24 = zuE E 42 8 (((E 42 8) + 1)) → ∃ b25, (G 42 6) = some b25 ∧ zCk d G b25 ∧ ∃ x28, zM zm_X1_isPositive [zR b25] (d, G, E24) (some (zI x28)) (d, G, E24) ∧ (x28 = 0 → Q (some (zI 0)) (d, G, E24)) ∧ (¬ (x28 = 0) → ∃ b32, (G 42 7) = some b32 ∧ zCk d G b32 ∧ ∃ x35, zM zm_X1_isPositive [zR b32] (d, G, E24) (some (zI x35)) (d, G, E24) ∧ (x35 ≠ 0 → Q (some (zI 0)) (d, G, E24)) ∧ (¬ (x35 ≠ 0) → ∃ b39, (G 42 6) = some b39 ∧ zCk d G b39 ∧ ((E24 (b39 + 1) 3) ≤ (E24 42 8) → Q (some (zI 0)) (d, G, E24)) ∧ (¬ ((E24 (b39 + 1) 3) ≤ (E24 42 8)) → Q (some (zI 1)) (d, G, E24))))) ∧ ((E 42 5) = 2 → ∃ b44, (G 42 6) = some b44 ∧ zCk d G b44 ∧ ∃ x47, zM zm_X1_isPositive [zR b44] (d, G, E) (some (zI x47)) (d, G, E) ∧ (x47 = 0 → Q (some (zI 0)) (d, G, E)) ∧ (¬ (x47 = 0) → ∃ x51 E52, zM zm_X0_advanceTurn [zR 42] (d, G, E) (some (zI x51)) (d, G, E52) ∧ (x51 = 0 → Q (some (zI 0)) (d, G, E52)) ∧ (¬ (x51 = 0) → Q (some (zI 1)) (d, G, E52)))) ∧ ((E 42 5) = 3 → ∃ b57, (G 42 6) = some b57 ∧ zCk d G b57 ∧ ∃ x60, zM zm_X1_isPositive [zR b57] (d, G, E) (some (zI x60)) (d, G, E) ∧ (x60 = 0 → Q (some (zI 0)) (d, G, E)) ∧ (¬ (x60 = 0) → ∃ x64 E65, zM zm_X0_advanceTurn [zR 42] (d, G, E) (some (zI x64)) (d, G, E65) ∧ (x64 = 0 → Q (some (zI 0)) (d, G, E65)) ∧ (¬ (x64 = 0) → Q (some (zI 1)) (d, G, E65)))) ∧ ((E 42 5) = 4 → ∃ b70, (G 42 6) = some b70 ∧ zCk d G b70 ∧ ∃ x73, zM zm_X1_isPositive [zR b70] (d, G, E) (some (zI x73)) (d, G, E) ∧ (x73 = 0 → Q (some (zI 0)) (d, G, E)) ∧ (¬ (x73 = 0) → ∃ x77 E78, zM zm_X0_advanceFactor [zR 42] (d, G, E) (some (zI x77)) (d, G, E78) ∧ (x77 = 0 → Q (some (zI 0)) (d, G, E78)) ∧ (¬ (x77 = 0) → Q (some (zI 1)) (d, G, E78)))) ∧ (((E 42 5) < 0 ∨ 4 < (E 42 5)) → zin ((E 42 11) + 1) ∧ ∀ E83, E83 = zuE E 42 11 (((E 42 11) + 1)) → ((E83 42 11) ≠ 1 → Q (some (zI 0)) (d, G, E83)) ∧ (¬ ((E83 42 11) ≠ 1) → ∃ b85, (G 42 6) = some b85 ∧ zCk d G b85 ∧ ∃ x88, zM zm_X1_isPositive [zR b85] (d, G, E83) (some (zI x88)) (d, G, E83) ∧ (x88 ≠ 0 → Q (some (zI 0)) (d, G, E83)) ∧ (¬ (x88 ≠ 0) → Q (some (zI 1)) (d, G, E83))))) : Z zm_X0_advance kz Q 0 [(0, zR 42)] [] (d, G, E) := by
  refine Z.aload_n (k := 0) dX0_advance_0 rfl ?_
  refine Y.getI 5 dX0_advance_1 zl_X0_23 (rfl) (by decide) rfl (zX_0_11 hX).2.2 ?_
  by_cases c1 : (E 42 5) = 0
  · replace K := K.1 c1
    refine Z.tableIn (off := 36) 40 dX0_advance_4 (by omega) (by omega) (by rw [c1]; rfl) rfl ?_
    refine Z.aload_n (k := 0) dX0_advance_40 rfl ?_
    refine Z.dup_i dX0_advance_41 (fun _ => rfl) ?_
    refine Y.getI 8 dX0_advance_42 zl_X0_32 (rfl) (by decide) rfl (zX_0_11 hX).2.2 ?_
    refine Z.iconst (n := 1) dX0_advance_45 ⟨by decide, by decide⟩ ?_
    obtain ⟨z2, K⟩ := K
    refine Z.iadd dX0_advance_46 z2 ?_
    refine Y.putI 8 dX0_advance_47 zw_X0_32 (fun q => by cases q) (rfl) rfl (zX_0_11 hX).2.2 (Or.inl rfl) ?_
    generalize eE3 : zuE E 42 8 (((E 42 8) + 1)) = E3
    replace K := K E3 eE3.symm
    refine Z.aload_n (k := 0) dX0_advance_50 rfl ?_
    refine Y.getR (o := (G 42 6)) 6 dX0_advance_51 zl_X0_26 (rfl) (by decide) rfl (zX_0_11 hX).2.2 rfl ?_
    obtain ⟨b4, e5, hc6, K⟩ := K
    rw [e5]
    obtain ⟨x7, m8, K⟩ := K
    refine Y.callV (g := zm_X1_isPositive) (vs := []) (st := []) dX0_advance_54 ⟨zg_X1_isPositive.1, zg_X1_isPositive.2.1, zg_X1_isPositive.2.2, by decide⟩ ⟨zk_X0_86, zv_X1_isPositive⟩ (ci := 1) (congrArg Prod.fst hc6.1) rfl (hc6.2.1) rfl rfl (Nat.le_of_ble_eq_true rfl) m8 (Or.inl rfl) ?_
    show Z zm_X0_advance kz Q 57 [(0, zR 42)] [zI x7] (d, G, E3)
    refine Z.if_eq 91 dX0_advance_57 rfl ⟨fun c10 => ?_, fun c10 => ?_⟩
    · replace K := K.1 c10
      refine Z.iconst (n := 0) dX0_advance_91 ⟨by decide, by decide⟩ ?_
      exact Z.iret (ty := .boolean) dX0_advance_92 rfl rfl K
    · replace K := K.2 c10
      refine Z.aload_n (k := 0) dX0_advance_60 rfl ?_
      refine Y.getR (o := (G 42 7)) 7 dX0_advance_61 zl_X0_29 (rfl) (by decide) rfl (zX_0_11 hX).2.2 rfl ?_
      obtain ⟨b11, e12, hc13, K⟩ := K
      rw [e12]
      obtain ⟨x14, m15, K⟩ := K
      refine Y.callV (g := zm_X1_isPositive) (vs := []) (st := []) dX0_advance_64 ⟨zg_X1_isPositive.1, zg_X1_isPositive.2.1, zg_X1_isPositive.2.2, by decide⟩ ⟨zk_X0_86, zv_X1_isPositive⟩ (ci := 1) (congrArg Prod.fst hc13.1) rfl (hc13.2.1) rfl rfl (Nat.le_of_ble_eq_true rfl) m15 (Or.inl rfl) ?_
      show Z zm_X0_advance kz Q 67 [(0, zR 42)] [zI x14] (d, G, E3)
      refine Z.if_ne 91 dX0_advance_67 rfl ⟨fun c17 => ?_, fun c17 => ?_⟩
      · replace K := K.1 c17
        refine Z.iconst (n := 0) dX0_advance_91 ⟨by decide, by decide⟩ ?_
        exact Z.iret (ty := .boolean) dX0_advance_92 rfl rfl K
      · replace K := K.2 c17
        refine Z.aload_n (k := 0) dX0_advance_70 rfl ?_
        refine Y.getI 8 dX0_advance_71 zl_X0_32 (rfl) (by decide) rfl (zX_0_11 hX).2.2 ?_
        refine Z.aload_n (k := 0) dX0_advance_74 rfl ?_
        refine Y.getR (o := (G 42 6)) 6 dX0_advance_75 zl_X0_26 (rfl) (by decide) rfl (zX_0_11 hX).2.2 rfl ?_
        obtain ⟨b18, e19, hc20, K⟩ := K
        rw [e19]
        refine Y.getR (o := some ((b18 + 1))) 0 dX0_advance_78 zl_X0_92 (congrArg Prod.fst hc20.1) (by decide) rfl hc20.2.1 hc20.2.2.2.1 ?_
        refine Y.getI 3 dX0_advance_81 zl_X0_96 (congrArg Prod.fst hc20.2.2.1.1) (by decide) rfl hc20.2.2.1.2.2.2.2.1 ?_
        refine Z.icmp_ge 91 dX0_advance_84 rfl ⟨fun c21 => ?_, fun c21 => ?_⟩
        · replace K := K.1 c21
          refine Z.iconst (n := 0) dX0_advance_91 ⟨by decide, by decide⟩ ?_
          exact Z.iret (ty := .boolean) dX0_advance_92 rfl rfl K
        · replace K := K.2 c21
          refine Z.iconst (n := 1) dX0_advance_87 ⟨by decide, by decide⟩ ?_
          refine Z.goto 92 dX0_advance_88 rfl ?_
          exact Z.iret (ty := .boolean) dX0_advance_92 rfl rfl K
  replace K := K.2
  by_cases c22 : (E 42 5) = 1
  · replace K := K.1 c22
    refine Z.tableIn (off := 36) 40 dX0_advance_4 (by omega) (by omega) (by rw [c22]; rfl) rfl ?_
    refine Z.aload_n (k := 0) dX0_advance_40 rfl ?_
    refine Z.dup_i dX0_advance_41 (fun _ => rfl) ?_
    refine Y.getI 8 dX0_advance_42 zl_X0_32 (rfl) (by decide) rfl (zX_0_11 hX).2.2 ?_
    refine Z.iconst (n := 1) dX0_advance_45 ⟨by decide, by decide⟩ ?_
    obtain ⟨z23, K⟩ := K
    refine Z.iadd dX0_advance_46 z23 ?_
    refine Y.putI 8 dX0_advance_47 zw_X0_32 (fun q => by cases q) (rfl) rfl (zX_0_11 hX).2.2 (Or.inl rfl) ?_
    generalize eE24 : zuE E 42 8 (((E 42 8) + 1)) = E24
    replace K := K E24 eE24.symm
    refine Z.aload_n (k := 0) dX0_advance_50 rfl ?_
    refine Y.getR (o := (G 42 6)) 6 dX0_advance_51 zl_X0_26 (rfl) (by decide) rfl (zX_0_11 hX).2.2 rfl ?_
    obtain ⟨b25, e26, hc27, K⟩ := K
    rw [e26]
    obtain ⟨x28, m29, K⟩ := K
    refine Y.callV (g := zm_X1_isPositive) (vs := []) (st := []) dX0_advance_54 ⟨zg_X1_isPositive.1, zg_X1_isPositive.2.1, zg_X1_isPositive.2.2, by decide⟩ ⟨zk_X0_86, zv_X1_isPositive⟩ (ci := 1) (congrArg Prod.fst hc27.1) rfl (hc27.2.1) rfl rfl (Nat.le_of_ble_eq_true rfl) m29 (Or.inl rfl) ?_
    show Z zm_X0_advance kz Q 57 [(0, zR 42)] [zI x28] (d, G, E24)
    refine Z.if_eq 91 dX0_advance_57 rfl ⟨fun c31 => ?_, fun c31 => ?_⟩
    · replace K := K.1 c31
      refine Z.iconst (n := 0) dX0_advance_91 ⟨by decide, by decide⟩ ?_
      exact Z.iret (ty := .boolean) dX0_advance_92 rfl rfl K
    · replace K := K.2 c31
      refine Z.aload_n (k := 0) dX0_advance_60 rfl ?_
      refine Y.getR (o := (G 42 7)) 7 dX0_advance_61 zl_X0_29 (rfl) (by decide) rfl (zX_0_11 hX).2.2 rfl ?_
      obtain ⟨b32, e33, hc34, K⟩ := K
      rw [e33]
      obtain ⟨x35, m36, K⟩ := K
      refine Y.callV (g := zm_X1_isPositive) (vs := []) (st := []) dX0_advance_64 ⟨zg_X1_isPositive.1, zg_X1_isPositive.2.1, zg_X1_isPositive.2.2, by decide⟩ ⟨zk_X0_86, zv_X1_isPositive⟩ (ci := 1) (congrArg Prod.fst hc34.1) rfl (hc34.2.1) rfl rfl (Nat.le_of_ble_eq_true rfl) m36 (Or.inl rfl) ?_
      show Z zm_X0_advance kz Q 67 [(0, zR 42)] [zI x35] (d, G, E24)
      refine Z.if_ne 91 dX0_advance_67 rfl ⟨fun c38 => ?_, fun c38 => ?_⟩
      · replace K := K.1 c38
        refine Z.iconst (n := 0) dX0_advance_91 ⟨by decide, by decide⟩ ?_
        exact Z.iret (ty := .boolean) dX0_advance_92 rfl rfl K
      · replace K := K.2 c38
        refine Z.aload_n (k := 0) dX0_advance_70 rfl ?_
        refine Y.getI 8 dX0_advance_71 zl_X0_32 (rfl) (by decide) rfl (zX_0_11 hX).2.2 ?_
        refine Z.aload_n (k := 0) dX0_advance_74 rfl ?_
        refine Y.getR (o := (G 42 6)) 6 dX0_advance_75 zl_X0_26 (rfl) (by decide) rfl (zX_0_11 hX).2.2 rfl ?_
        obtain ⟨b39, e40, hc41, K⟩ := K
        rw [e40]
        refine Y.getR (o := some ((b39 + 1))) 0 dX0_advance_78 zl_X0_92 (congrArg Prod.fst hc41.1) (by decide) rfl hc41.2.1 hc41.2.2.2.1 ?_
        refine Y.getI 3 dX0_advance_81 zl_X0_96 (congrArg Prod.fst hc41.2.2.1.1) (by decide) rfl hc41.2.2.1.2.2.2.2.1 ?_
        refine Z.icmp_ge 91 dX0_advance_84 rfl ⟨fun c42 => ?_, fun c42 => ?_⟩
        · replace K := K.1 c42
          refine Z.iconst (n := 0) dX0_advance_91 ⟨by decide, by decide⟩ ?_
          exact Z.iret (ty := .boolean) dX0_advance_92 rfl rfl K
        · replace K := K.2 c42
          refine Z.iconst (n := 1) dX0_advance_87 ⟨by decide, by decide⟩ ?_
          refine Z.goto 92 dX0_advance_88 rfl ?_
          exact Z.iret (ty := .boolean) dX0_advance_92 rfl rfl K
  replace K := K.2
  by_cases c43 : (E 42 5) = 2
  · replace K := K.1 c43
    refine Z.tableIn (off := 89) 93 dX0_advance_4 (by omega) (by omega) (by rw [c43]; rfl) rfl ?_
    refine Z.aload_n (k := 0) dX0_advance_93 rfl ?_
    refine Y.getR (o := (G 42 6)) 6 dX0_advance_94 zl_X0_26 (rfl) (by decide) rfl (zX_0_11 hX).2.2 rfl ?_
    obtain ⟨b44, e45, hc46, K⟩ := K
    rw [e45]
    obtain ⟨x47, m48, K⟩ := K
    refine Y.callV (g := zm_X1_isPositive) (vs := []) (st := []) dX0_advance_97 ⟨zg_X1_isPositive.1, zg_X1_isPositive.2.1, zg_X1_isPositive.2.2, by decide⟩ ⟨zk_X0_86, zv_X1_isPositive⟩ (ci := 1) (congrArg Prod.fst hc46.1) rfl (hc46.2.1) rfl rfl (Nat.le_of_ble_eq_true rfl) m48 (Or.inl rfl) ?_
    show Z zm_X0_advance kz Q 100 [(0, zR 42)] [zI x47] (d, G, E)
    refine Z.if_eq 114 dX0_advance_100 rfl ⟨fun c50 => ?_, fun c50 => ?_⟩
    · replace K := K.1 c50
      refine Z.iconst (n := 0) dX0_advance_114 ⟨by decide, by decide⟩ ?_
      exact Z.iret (ty := .boolean) dX0_advance_115 rfl rfl K
    · replace K := K.2 c50
      refine Z.aload_n (k := 0) dX0_advance_103 rfl ?_
      obtain ⟨x51, E52, m53, K⟩ := K
      refine Y.callV (g := zm_X0_advanceTurn) (vs := []) (st := []) dX0_advance_104 ⟨zg_X0_advanceTurn.1, zg_X0_advanceTurn.2.1, zg_X0_advanceTurn.2.2, by decide⟩ ⟨zk_X0_101, zv_X0_advanceTurn⟩ (ci := 0) (rfl) rfl ((zX_0_11 hX).2.2) rfl rfl (Nat.le_of_ble_eq_true rfl) m53 (Or.inl rfl) ?_
      show Z zm_X0_advance kz Q 107 [(0, zR 42)] [zI x51] (d, G, E52)
      refine Z.if_eq 114 dX0_advance_107 rfl ⟨fun c55 => ?_, fun c55 => ?_⟩
      · replace K := K.1 c55
        refine Z.iconst (n := 0) dX0_advance_114 ⟨by decide, by decide⟩ ?_
        exact Z.iret (ty := .boolean) dX0_advance_115 rfl rfl K
      · replace K := K.2 c55
        refine Z.iconst (n := 1) dX0_advance_110 ⟨by decide, by decide⟩ ?_
        refine Z.goto 115 dX0_advance_111 rfl ?_
        exact Z.iret (ty := .boolean) dX0_advance_115 rfl rfl K
  replace K := K.2
  by_cases c56 : (E 42 5) = 3
  · replace K := K.1 c56
    refine Z.tableIn (off := 89) 93 dX0_advance_4 (by omega) (by omega) (by rw [c56]; rfl) rfl ?_
    refine Z.aload_n (k := 0) dX0_advance_93 rfl ?_
    refine Y.getR (o := (G 42 6)) 6 dX0_advance_94 zl_X0_26 (rfl) (by decide) rfl (zX_0_11 hX).2.2 rfl ?_
    obtain ⟨b57, e58, hc59, K⟩ := K
    rw [e58]
    obtain ⟨x60, m61, K⟩ := K
    refine Y.callV (g := zm_X1_isPositive) (vs := []) (st := []) dX0_advance_97 ⟨zg_X1_isPositive.1, zg_X1_isPositive.2.1, zg_X1_isPositive.2.2, by decide⟩ ⟨zk_X0_86, zv_X1_isPositive⟩ (ci := 1) (congrArg Prod.fst hc59.1) rfl (hc59.2.1) rfl rfl (Nat.le_of_ble_eq_true rfl) m61 (Or.inl rfl) ?_
    show Z zm_X0_advance kz Q 100 [(0, zR 42)] [zI x60] (d, G, E)
    refine Z.if_eq 114 dX0_advance_100 rfl ⟨fun c63 => ?_, fun c63 => ?_⟩
    · replace K := K.1 c63
      refine Z.iconst (n := 0) dX0_advance_114 ⟨by decide, by decide⟩ ?_
      exact Z.iret (ty := .boolean) dX0_advance_115 rfl rfl K
    · replace K := K.2 c63
      refine Z.aload_n (k := 0) dX0_advance_103 rfl ?_
      obtain ⟨x64, E65, m66, K⟩ := K
      refine Y.callV (g := zm_X0_advanceTurn) (vs := []) (st := []) dX0_advance_104 ⟨zg_X0_advanceTurn.1, zg_X0_advanceTurn.2.1, zg_X0_advanceTurn.2.2, by decide⟩ ⟨zk_X0_101, zv_X0_advanceTurn⟩ (ci := 0) (rfl) rfl ((zX_0_11 hX).2.2) rfl rfl (Nat.le_of_ble_eq_true rfl) m66 (Or.inl rfl) ?_
      show Z zm_X0_advance kz Q 107 [(0, zR 42)] [zI x64] (d, G, E65)
      refine Z.if_eq 114 dX0_advance_107 rfl ⟨fun c68 => ?_, fun c68 => ?_⟩
      · replace K := K.1 c68
        refine Z.iconst (n := 0) dX0_advance_114 ⟨by decide, by decide⟩ ?_
        exact Z.iret (ty := .boolean) dX0_advance_115 rfl rfl K
      · replace K := K.2 c68
        refine Z.iconst (n := 1) dX0_advance_110 ⟨by decide, by decide⟩ ?_
        refine Z.goto 115 dX0_advance_111 rfl ?_
        exact Z.iret (ty := .boolean) dX0_advance_115 rfl rfl K
  replace K := K.2
  by_cases c69 : (E 42 5) = 4
  · replace K := K.1 c69
    refine Z.tableIn (off := 112) 116 dX0_advance_4 (by omega) (by omega) (by rw [c69]; rfl) rfl ?_
    refine Z.aload_n (k := 0) dX0_advance_116 rfl ?_
    refine Y.getR (o := (G 42 6)) 6 dX0_advance_117 zl_X0_26 (rfl) (by decide) rfl (zX_0_11 hX).2.2 rfl ?_
    obtain ⟨b70, e71, hc72, K⟩ := K
    rw [e71]
    obtain ⟨x73, m74, K⟩ := K
    refine Y.callV (g := zm_X1_isPositive) (vs := []) (st := []) dX0_advance_120 ⟨zg_X1_isPositive.1, zg_X1_isPositive.2.1, zg_X1_isPositive.2.2, by decide⟩ ⟨zk_X0_86, zv_X1_isPositive⟩ (ci := 1) (congrArg Prod.fst hc72.1) rfl (hc72.2.1) rfl rfl (Nat.le_of_ble_eq_true rfl) m74 (Or.inl rfl) ?_
    show Z zm_X0_advance kz Q 123 [(0, zR 42)] [zI x73] (d, G, E)
    refine Z.if_eq 137 dX0_advance_123 rfl ⟨fun c76 => ?_, fun c76 => ?_⟩
    · replace K := K.1 c76
      refine Z.iconst (n := 0) dX0_advance_137 ⟨by decide, by decide⟩ ?_
      exact Z.iret (ty := .boolean) dX0_advance_138 rfl rfl K
    · replace K := K.2 c76
      refine Z.aload_n (k := 0) dX0_advance_126 rfl ?_
      obtain ⟨x77, E78, m79, K⟩ := K
      refine Y.callV (g := zm_X0_advanceFactor) (vs := []) (st := []) dX0_advance_127 ⟨zg_X0_advanceFactor.1, zg_X0_advanceFactor.2.1, zg_X0_advanceFactor.2.2, by decide⟩ ⟨zk_X0_104, zv_X0_advanceFactor⟩ (ci := 0) (rfl) rfl ((zX_0_11 hX).2.2) rfl rfl (Nat.le_of_ble_eq_true rfl) m79 (Or.inl rfl) ?_
      show Z zm_X0_advance kz Q 130 [(0, zR 42)] [zI x77] (d, G, E78)
      refine Z.if_eq 137 dX0_advance_130 rfl ⟨fun c81 => ?_, fun c81 => ?_⟩
      · replace K := K.1 c81
        refine Z.iconst (n := 0) dX0_advance_137 ⟨by decide, by decide⟩ ?_
        exact Z.iret (ty := .boolean) dX0_advance_138 rfl rfl K
      · replace K := K.2 c81
        refine Z.iconst (n := 1) dX0_advance_133 ⟨by decide, by decide⟩ ?_
        refine Z.goto 138 dX0_advance_134 rfl ?_
        exact Z.iret (ty := .boolean) dX0_advance_138 rfl rfl K
  replace K := K.2
  have hd0 : (E 42 5) < 0 ∨ 4 < (E 42 5) := by omega
  replace K := K hd0
  refine Z.tableOut 139 dX0_advance_4 hd0 rfl ?_
  refine Z.aload_n (k := 0) dX0_advance_139 rfl ?_
  refine Z.dup_i dX0_advance_140 (fun _ => rfl) ?_
  refine Y.getI 11 dX0_advance_141 zl_X0_41 (rfl) (by decide) rfl (zX_0_11 hX).2.2 ?_
  refine Z.iconst (n := 1) dX0_advance_144 ⟨by decide, by decide⟩ ?_
  obtain ⟨z82, K⟩ := K
  refine Z.iadd dX0_advance_145 z82 ?_
  refine Y.putI 11 dX0_advance_146 zw_X0_41 (fun q => by cases q) (rfl) rfl (zX_0_11 hX).2.2 (Or.inl rfl) ?_
  generalize eE83 : zuE E 42 11 (((E 42 11) + 1)) = E83
  replace K := K E83 eE83.symm
  refine Z.aload_n (k := 0) dX0_advance_149 rfl ?_
  refine Y.getI 11 dX0_advance_150 zl_X0_41 (rfl) (by decide) rfl (zX_0_11 hX).2.2 ?_
  refine Z.iconst (n := 1) dX0_advance_153 ⟨by decide, by decide⟩ ?_
  refine Z.icmp_ne 171 dX0_advance_154 rfl ⟨fun c84 => ?_, fun c84 => ?_⟩
  · replace K := K.1 c84
    refine Z.iconst (n := 0) dX0_advance_171 ⟨by decide, by decide⟩ ?_
    exact Z.iret (ty := .boolean) dX0_advance_172 rfl rfl K
  · replace K := K.2 c84
    refine Z.aload_n (k := 0) dX0_advance_157 rfl ?_
    refine Y.getR (o := (G 42 6)) 6 dX0_advance_158 zl_X0_26 (rfl) (by decide) rfl (zX_0_11 hX).2.2 rfl ?_
    obtain ⟨b85, e86, hc87, K⟩ := K
    rw [e86]
    obtain ⟨x88, m89, K⟩ := K
    refine Y.callV (g := zm_X1_isPositive) (vs := []) (st := []) dX0_advance_161 ⟨zg_X1_isPositive.1, zg_X1_isPositive.2.1, zg_X1_isPositive.2.2, by decide⟩ ⟨zk_X0_86, zv_X1_isPositive⟩ (ci := 1) (congrArg Prod.fst hc87.1) rfl (hc87.2.1) rfl rfl (Nat.le_of_ble_eq_true rfl) m89 (Or.inl rfl) ?_
    show Z zm_X0_advance kz Q 164 [(0, zR 42)] [zI x88] (d, G, E83)
    refine Z.if_ne 171 dX0_advance_164 rfl ⟨fun c91 => ?_, fun c91 => ?_⟩
    · replace K := K.1 c91
      refine Z.iconst (n := 0) dX0_advance_171 ⟨by decide, by decide⟩ ?_
      exact Z.iret (ty := .boolean) dX0_advance_172 rfl rfl K
    · replace K := K.2 c91
      refine Z.iconst (n := 1) dX0_advance_167 ⟨by decide, by decide⟩ ?_
      refine Z.goto 172 dX0_advance_168 rfl ?_
      exact Z.iret (ty := .boolean) dX0_advance_172 rfl rfl K
set_option maxRecDepth 20000 in
theorem X0_tell_0 {kz : Nat × Nat} {Q : Option zV → zH → Prop} {d : List Nat} {G : Nat → Int → Option Nat} {E : Nat → Int → Int}  (hX : zK zXt d G) (K : ∃ E1, zM zm_J7_fill_53178 [zR 43, zI 0] (d, G, E) none (d, G, E1) ∧ ∃ b4, (G 42 6) = some b4 ∧ zCk d G b4 ∧ ((0 : Int) ≤ 1 ∧ 1 < 7) ∧ ∀ E8, E8 = zuE E1 43 1 ((E1 b4 5)) → ((E8 42 5) = 0 → ((0 : Int) ≤ 0 ∧ 0 < 7) ∧ ∀ E11, E11 = zuE E8 43 0 1 → ((0 : Int) ≤ 2 ∧ 2 < 7) ∧ ∀ E13, E13 = zuE E11 43 2 ((E11 42 8)) → ∃ b14, (G 42 7) = some b14 ∧ zCk d G b14 ∧ ((0 : Int) ≤ 3 ∧ 3 < 7) ∧ ∀ E18, E18 = zuE E13 43 3 ((E13 b14 5)) → Q none (d, G, E18)) ∧ ((E8 42 5) = 1 → ((0 : Int) ≤ 0 ∧ 0 < 7) ∧ ∀ E21, E21 = zuE E8 43 0 1 → ((0 : Int) ≤ 2 ∧ 2 < 7) ∧ ∀ E23, E23 = zuE E21 43 2 ((E21 42 8)) → ∃ b24, (G 42 7) = some b24 ∧ zCk d G b24 ∧ ((0 : Int) ≤ 3 ∧ 3 < 7) ∧ ∀ E28, E28 = zuE E23 43 3 ((E23 b24 5)) → Q none (d, G, E28)) ∧ ((E8 42 5) = 2 → ((0 : Int) ≤ 0 ∧ 0 < 7) ∧ ∀ E31, E31 = zuE E8 43 0 4 → ((0 : Int) ≤ 2 ∧ 2 < 7) ∧ ∀ E33, E33 = zuE E31 43 2 ((E31 42 8)) → ((0 : Int) ≤ 3 ∧ 3 < 7) ∧ ∀ E35, E35 = zuE E33 43 3 ((E33 42 9)) → ∃ b36, (G 42 7) = some b36 ∧ zCk d G b36 ∧ ((0 : Int) ≤ 4 ∧ 4 < 7) ∧ ∀ E40, E40 = zuE E35 43 4 ((E35 b36 5)) → ((0 : Int) ≤ 5 ∧ 5 < 7) ∧ ∀ E42, E42 = zuE E40 43 5 ((E40 42 10)) → ((0 : Int) ≤ 6 ∧ 6 < 7) ∧ ∀ E44, E44 = zuE E42 43 6 ((E42 42 11)) → Q none (d, G, E44)) ∧ ((E8 42 5) = 3 → ((0 : Int) ≤ 0 ∧ 0 < 7) ∧ ∀ E47, E47 = zuE E8 43 0 4 → ((0 : Int) ≤ 2 ∧ 2 < 7) ∧ ∀ E49, E49 = zuE E47 43 2 ((E47 42 8)) → ((0 : Int) ≤ 3 ∧ 3 < 7) ∧ ∀ E51, E51 = zuE E49 43 3 ((E49 42 9)) → ∃ b52, (G 42 7) = some b52 ∧ zCk d G b52 ∧ ((0 : Int) ≤ 4 ∧ 4 < 7) ∧ ∀ E56, E56 = zuE E51 43 4 ((E51 b52 5)) → ((0 : Int) ≤ 5 ∧ 5 < 7) ∧ ∀ E58, E58 = zuE E56 43 5 ((E56 42 10)) → ((0 : Int) ≤ 6 ∧ 6 < 7) ∧ ∀ E60, E60 = zuE E58 43 6 ((E58 42 11)) → Q none (d, G, E60)) ∧ ((E8 42 5) = 4 → ((0 : Int) ≤ 0 ∧ 0 < 7) ∧ ∀ E63, E63 = zuE E8 43 0 2 → ((0 : Int) ≤ 2 ∧ 2 < 7) ∧ ∀ E65, E65 = zuE E63 43 2 ((E63 42 8)) → ((0 : Int) ≤ 3 ∧ 3 < 7) ∧ ∀ E67, E67 = zuE E65 43 3 ((E65 42 10)) → Q none (d, G, E67)) ∧ (((E8 42 5) < 0 ∨ 4 < (E8 42 5)) → ((0 : Int) ≤ 0 ∧ 0 < 7) ∧ ∀ E69, E69 = zuE E8 43 0 3 → Q none (d, G, E69))) : Z zm_X0_tell kz Q 0 [(0, zR 42)] [] (d, G, E) := by
  refine Z.aload_n (k := 0) dX0_tell_0 rfl ?_
  refine Y.getR (o := some 43) 2 dX0_tell_1 zl_X0_9 (rfl) (by decide) rfl (zX_0_11 hX).2.2 (zX_42_2 hX).1 ?_
  refine Z.iconst (n := 0) dX0_tell_4 ⟨by decide, by decide⟩ ?_
  obtain ⟨E1, m2, K⟩ := K
  refine Y.callS (g := zm_J7_fill_53178) (vs := [zR 43, zI 0]) (st := []) dX0_tell_5 ⟨zg_J7_fill_53178.1, zg_J7_fill_53178.2.1, zg_J7_fill_53178.2.2, by decide⟩ ⟨Or.inl zk_X0_52, zs_J7_fill_53178⟩ rfl rfl (Nat.le_of_ble_eq_true rfl) m2 (Or.inl rfl) ?_
  show Z zm_X0_tell kz Q 8 [(0, zR 42)] [] (d, G, E1)
  refine Z.aload_n (k := 0) dX0_tell_8 rfl ?_
  refine Y.getR (o := some 43) 2 dX0_tell_9 zl_X0_9 (rfl) (by decide) rfl (zX_0_11 hX).2.2 (zX_42_2 hX).1 ?_
  refine Z.iconst (n := 1) dX0_tell_12 ⟨by decide, by decide⟩ ?_
  refine Z.aload_n (k := 0) dX0_tell_13 rfl ?_
  refine Y.getR (o := (G 42 6)) 6 dX0_tell_14 zl_X0_26 (rfl) (by decide) rfl (zX_0_11 hX).2.2 rfl ?_
  obtain ⟨b4, e5, hc6, K⟩ := K
  rw [e5]
  refine Y.getI 5 dX0_tell_17 zl_X0_130 (congrArg Prod.fst hc6.1) (by decide) rfl hc6.2.1 ?_
  obtain ⟨z7, K⟩ := K
  refine Y.iast dX0_tell_20 (rfl) ((zX_42_2 hX).2.2) z7 ?_
  generalize eE8 : zuE E1 43 1 ((E1 b4 5)) = E8
  replace K := K E8 eE8.symm
  refine Z.aload_n (k := 0) dX0_tell_21 rfl ?_
  refine Y.getI 5 dX0_tell_22 zl_X0_23 (rfl) (by decide) rfl (zX_0_11 hX).2.2 ?_
  by_cases c9 : (E8 42 5) = 0
  · replace K := K.1 c9
    refine Z.tableIn (off := 35) 60 dX0_tell_25 (by omega) (by omega) (by rw [c9]; rfl) rfl ?_
    refine Z.aload_n (k := 0) dX0_tell_60 rfl ?_
    refine Y.getR (o := some 43) 2 dX0_tell_61 zl_X0_9 (rfl) (by decide) rfl (zX_0_11 hX).2.2 (zX_42_2 hX).1 ?_
    refine Z.iconst (n := 0) dX0_tell_64 ⟨by decide, by decide⟩ ?_
    refine Z.iconst (n := 1) dX0_tell_65 ⟨by decide, by decide⟩ ?_
    obtain ⟨z10, K⟩ := K
    refine Y.iast dX0_tell_66 (rfl) ((zX_42_2 hX).2.2) z10 ?_
    generalize eE11 : zuE E8 43 0 1 = E11
    replace K := K E11 eE11.symm
    refine Z.aload_n (k := 0) dX0_tell_67 rfl ?_
    refine Y.getR (o := some 43) 2 dX0_tell_68 zl_X0_9 (rfl) (by decide) rfl (zX_0_11 hX).2.2 (zX_42_2 hX).1 ?_
    refine Z.iconst (n := 2) dX0_tell_71 ⟨by decide, by decide⟩ ?_
    refine Z.aload_n (k := 0) dX0_tell_72 rfl ?_
    refine Y.getI 8 dX0_tell_73 zl_X0_32 (rfl) (by decide) rfl (zX_0_11 hX).2.2 ?_
    obtain ⟨z12, K⟩ := K
    refine Y.iast dX0_tell_76 (rfl) ((zX_42_2 hX).2.2) z12 ?_
    generalize eE13 : zuE E11 43 2 ((E11 42 8)) = E13
    replace K := K E13 eE13.symm
    refine Z.aload_n (k := 0) dX0_tell_77 rfl ?_
    refine Y.getR (o := some 43) 2 dX0_tell_78 zl_X0_9 (rfl) (by decide) rfl (zX_0_11 hX).2.2 (zX_42_2 hX).1 ?_
    refine Z.iconst (n := 3) dX0_tell_81 ⟨by decide, by decide⟩ ?_
    refine Z.aload_n (k := 0) dX0_tell_82 rfl ?_
    refine Y.getR (o := (G 42 7)) 7 dX0_tell_83 zl_X0_29 (rfl) (by decide) rfl (zX_0_11 hX).2.2 rfl ?_
    obtain ⟨b14, e15, hc16, K⟩ := K
    rw [e15]
    refine Y.getI 5 dX0_tell_86 zl_X0_130 (congrArg Prod.fst hc16.1) (by decide) rfl hc16.2.1 ?_
    obtain ⟨z17, K⟩ := K
    refine Y.iast dX0_tell_89 (rfl) ((zX_42_2 hX).2.2) z17 ?_
    generalize eE18 : zuE E13 43 3 ((E13 b14 5)) = E18
    replace K := K E18 eE18.symm
    refine Z.goto 194 dX0_tell_90 rfl ?_
    exact Z.vret dX0_tell_194 rfl K
  replace K := K.2
  by_cases c19 : (E8 42 5) = 1
  · replace K := K.1 c19
    refine Z.tableIn (off := 35) 60 dX0_tell_25 (by omega) (by omega) (by rw [c19]; rfl) rfl ?_
    refine Z.aload_n (k := 0) dX0_tell_60 rfl ?_
    refine Y.getR (o := some 43) 2 dX0_tell_61 zl_X0_9 (rfl) (by decide) rfl (zX_0_11 hX).2.2 (zX_42_2 hX).1 ?_
    refine Z.iconst (n := 0) dX0_tell_64 ⟨by decide, by decide⟩ ?_
    refine Z.iconst (n := 1) dX0_tell_65 ⟨by decide, by decide⟩ ?_
    obtain ⟨z20, K⟩ := K
    refine Y.iast dX0_tell_66 (rfl) ((zX_42_2 hX).2.2) z20 ?_
    generalize eE21 : zuE E8 43 0 1 = E21
    replace K := K E21 eE21.symm
    refine Z.aload_n (k := 0) dX0_tell_67 rfl ?_
    refine Y.getR (o := some 43) 2 dX0_tell_68 zl_X0_9 (rfl) (by decide) rfl (zX_0_11 hX).2.2 (zX_42_2 hX).1 ?_
    refine Z.iconst (n := 2) dX0_tell_71 ⟨by decide, by decide⟩ ?_
    refine Z.aload_n (k := 0) dX0_tell_72 rfl ?_
    refine Y.getI 8 dX0_tell_73 zl_X0_32 (rfl) (by decide) rfl (zX_0_11 hX).2.2 ?_
    obtain ⟨z22, K⟩ := K
    refine Y.iast dX0_tell_76 (rfl) ((zX_42_2 hX).2.2) z22 ?_
    generalize eE23 : zuE E21 43 2 ((E21 42 8)) = E23
    replace K := K E23 eE23.symm
    refine Z.aload_n (k := 0) dX0_tell_77 rfl ?_
    refine Y.getR (o := some 43) 2 dX0_tell_78 zl_X0_9 (rfl) (by decide) rfl (zX_0_11 hX).2.2 (zX_42_2 hX).1 ?_
    refine Z.iconst (n := 3) dX0_tell_81 ⟨by decide, by decide⟩ ?_
    refine Z.aload_n (k := 0) dX0_tell_82 rfl ?_
    refine Y.getR (o := (G 42 7)) 7 dX0_tell_83 zl_X0_29 (rfl) (by decide) rfl (zX_0_11 hX).2.2 rfl ?_
    obtain ⟨b24, e25, hc26, K⟩ := K
    rw [e25]
    refine Y.getI 5 dX0_tell_86 zl_X0_130 (congrArg Prod.fst hc26.1) (by decide) rfl hc26.2.1 ?_
    obtain ⟨z27, K⟩ := K
    refine Y.iast dX0_tell_89 (rfl) ((zX_42_2 hX).2.2) z27 ?_
    generalize eE28 : zuE E23 43 3 ((E23 b24 5)) = E28
    replace K := K E28 eE28.symm
    refine Z.goto 194 dX0_tell_90 rfl ?_
    exact Z.vret dX0_tell_194 rfl K
  replace K := K.2
  by_cases c29 : (E8 42 5) = 2
  · replace K := K.1 c29
    refine Z.tableIn (off := 68) 93 dX0_tell_25 (by omega) (by omega) (by rw [c29]; rfl) rfl ?_
    refine Z.aload_n (k := 0) dX0_tell_93 rfl ?_
    refine Y.getR (o := some 43) 2 dX0_tell_94 zl_X0_9 (rfl) (by decide) rfl (zX_0_11 hX).2.2 (zX_42_2 hX).1 ?_
    refine Z.iconst (n := 0) dX0_tell_97 ⟨by decide, by decide⟩ ?_
    refine Z.iconst (n := 4) dX0_tell_98 ⟨by decide, by decide⟩ ?_
    obtain ⟨z30, K⟩ := K
    refine Y.iast dX0_tell_99 (rfl) ((zX_42_2 hX).2.2) z30 ?_
    generalize eE31 : zuE E8 43 0 4 = E31
    replace K := K E31 eE31.symm
    refine Z.aload_n (k := 0) dX0_tell_100 rfl ?_
    refine Y.getR (o := some 43) 2 dX0_tell_101 zl_X0_9 (rfl) (by decide) rfl (zX_0_11 hX).2.2 (zX_42_2 hX).1 ?_
    refine Z.iconst (n := 2) dX0_tell_104 ⟨by decide, by decide⟩ ?_
    refine Z.aload_n (k := 0) dX0_tell_105 rfl ?_
    refine Y.getI 8 dX0_tell_106 zl_X0_32 (rfl) (by decide) rfl (zX_0_11 hX).2.2 ?_
    obtain ⟨z32, K⟩ := K
    refine Y.iast dX0_tell_109 (rfl) ((zX_42_2 hX).2.2) z32 ?_
    generalize eE33 : zuE E31 43 2 ((E31 42 8)) = E33
    replace K := K E33 eE33.symm
    refine Z.aload_n (k := 0) dX0_tell_110 rfl ?_
    refine Y.getR (o := some 43) 2 dX0_tell_111 zl_X0_9 (rfl) (by decide) rfl (zX_0_11 hX).2.2 (zX_42_2 hX).1 ?_
    refine Z.iconst (n := 3) dX0_tell_114 ⟨by decide, by decide⟩ ?_
    refine Z.aload_n (k := 0) dX0_tell_115 rfl ?_
    refine Y.getI 9 dX0_tell_116 zl_X0_35 (rfl) (by decide) rfl (zX_0_11 hX).2.2 ?_
    obtain ⟨z34, K⟩ := K
    refine Y.iast dX0_tell_119 (rfl) ((zX_42_2 hX).2.2) z34 ?_
    generalize eE35 : zuE E33 43 3 ((E33 42 9)) = E35
    replace K := K E35 eE35.symm
    refine Z.aload_n (k := 0) dX0_tell_120 rfl ?_
    refine Y.getR (o := some 43) 2 dX0_tell_121 zl_X0_9 (rfl) (by decide) rfl (zX_0_11 hX).2.2 (zX_42_2 hX).1 ?_
    refine Z.iconst (n := 4) dX0_tell_124 ⟨by decide, by decide⟩ ?_
    refine Z.aload_n (k := 0) dX0_tell_125 rfl ?_
    refine Y.getR (o := (G 42 7)) 7 dX0_tell_126 zl_X0_29 (rfl) (by decide) rfl (zX_0_11 hX).2.2 rfl ?_
    obtain ⟨b36, e37, hc38, K⟩ := K
    rw [e37]
    refine Y.getI 5 dX0_tell_129 zl_X0_130 (congrArg Prod.fst hc38.1) (by decide) rfl hc38.2.1 ?_
    obtain ⟨z39, K⟩ := K
    refine Y.iast dX0_tell_132 (rfl) ((zX_42_2 hX).2.2) z39 ?_
    generalize eE40 : zuE E35 43 4 ((E35 b36 5)) = E40
    replace K := K E40 eE40.symm
    refine Z.aload_n (k := 0) dX0_tell_133 rfl ?_
    refine Y.getR (o := some 43) 2 dX0_tell_134 zl_X0_9 (rfl) (by decide) rfl (zX_0_11 hX).2.2 (zX_42_2 hX).1 ?_
    refine Z.iconst (n := 5) dX0_tell_137 ⟨by decide, by decide⟩ ?_
    refine Z.aload_n (k := 0) dX0_tell_138 rfl ?_
    refine Y.getI 10 dX0_tell_139 zl_X0_38 (rfl) (by decide) rfl (zX_0_11 hX).2.2 ?_
    obtain ⟨z41, K⟩ := K
    refine Y.iast dX0_tell_142 (rfl) ((zX_42_2 hX).2.2) z41 ?_
    generalize eE42 : zuE E40 43 5 ((E40 42 10)) = E42
    replace K := K E42 eE42.symm
    refine Z.aload_n (k := 0) dX0_tell_143 rfl ?_
    refine Y.getR (o := some 43) 2 dX0_tell_144 zl_X0_9 (rfl) (by decide) rfl (zX_0_11 hX).2.2 (zX_42_2 hX).1 ?_
    refine Z.bipush (n := 6) dX0_tell_147 ⟨by decide, by decide⟩ (by decide) ?_
    refine Z.aload_n (k := 0) dX0_tell_149 rfl ?_
    refine Y.getI 11 dX0_tell_150 zl_X0_41 (rfl) (by decide) rfl (zX_0_11 hX).2.2 ?_
    obtain ⟨z43, K⟩ := K
    refine Y.iast dX0_tell_153 (rfl) ((zX_42_2 hX).2.2) z43 ?_
    generalize eE44 : zuE E42 43 6 ((E42 42 11)) = E44
    replace K := K E44 eE44.symm
    refine Z.goto 194 dX0_tell_154 rfl ?_
    exact Z.vret dX0_tell_194 rfl K
  replace K := K.2
  by_cases c45 : (E8 42 5) = 3
  · replace K := K.1 c45
    refine Z.tableIn (off := 68) 93 dX0_tell_25 (by omega) (by omega) (by rw [c45]; rfl) rfl ?_
    refine Z.aload_n (k := 0) dX0_tell_93 rfl ?_
    refine Y.getR (o := some 43) 2 dX0_tell_94 zl_X0_9 (rfl) (by decide) rfl (zX_0_11 hX).2.2 (zX_42_2 hX).1 ?_
    refine Z.iconst (n := 0) dX0_tell_97 ⟨by decide, by decide⟩ ?_
    refine Z.iconst (n := 4) dX0_tell_98 ⟨by decide, by decide⟩ ?_
    obtain ⟨z46, K⟩ := K
    refine Y.iast dX0_tell_99 (rfl) ((zX_42_2 hX).2.2) z46 ?_
    generalize eE47 : zuE E8 43 0 4 = E47
    replace K := K E47 eE47.symm
    refine Z.aload_n (k := 0) dX0_tell_100 rfl ?_
    refine Y.getR (o := some 43) 2 dX0_tell_101 zl_X0_9 (rfl) (by decide) rfl (zX_0_11 hX).2.2 (zX_42_2 hX).1 ?_
    refine Z.iconst (n := 2) dX0_tell_104 ⟨by decide, by decide⟩ ?_
    refine Z.aload_n (k := 0) dX0_tell_105 rfl ?_
    refine Y.getI 8 dX0_tell_106 zl_X0_32 (rfl) (by decide) rfl (zX_0_11 hX).2.2 ?_
    obtain ⟨z48, K⟩ := K
    refine Y.iast dX0_tell_109 (rfl) ((zX_42_2 hX).2.2) z48 ?_
    generalize eE49 : zuE E47 43 2 ((E47 42 8)) = E49
    replace K := K E49 eE49.symm
    refine Z.aload_n (k := 0) dX0_tell_110 rfl ?_
    refine Y.getR (o := some 43) 2 dX0_tell_111 zl_X0_9 (rfl) (by decide) rfl (zX_0_11 hX).2.2 (zX_42_2 hX).1 ?_
    refine Z.iconst (n := 3) dX0_tell_114 ⟨by decide, by decide⟩ ?_
    refine Z.aload_n (k := 0) dX0_tell_115 rfl ?_
    refine Y.getI 9 dX0_tell_116 zl_X0_35 (rfl) (by decide) rfl (zX_0_11 hX).2.2 ?_
    obtain ⟨z50, K⟩ := K
    refine Y.iast dX0_tell_119 (rfl) ((zX_42_2 hX).2.2) z50 ?_
    generalize eE51 : zuE E49 43 3 ((E49 42 9)) = E51
    replace K := K E51 eE51.symm
    refine Z.aload_n (k := 0) dX0_tell_120 rfl ?_
    refine Y.getR (o := some 43) 2 dX0_tell_121 zl_X0_9 (rfl) (by decide) rfl (zX_0_11 hX).2.2 (zX_42_2 hX).1 ?_
    refine Z.iconst (n := 4) dX0_tell_124 ⟨by decide, by decide⟩ ?_
    refine Z.aload_n (k := 0) dX0_tell_125 rfl ?_
    refine Y.getR (o := (G 42 7)) 7 dX0_tell_126 zl_X0_29 (rfl) (by decide) rfl (zX_0_11 hX).2.2 rfl ?_
    obtain ⟨b52, e53, hc54, K⟩ := K
    rw [e53]
    refine Y.getI 5 dX0_tell_129 zl_X0_130 (congrArg Prod.fst hc54.1) (by decide) rfl hc54.2.1 ?_
    obtain ⟨z55, K⟩ := K
    refine Y.iast dX0_tell_132 (rfl) ((zX_42_2 hX).2.2) z55 ?_
    generalize eE56 : zuE E51 43 4 ((E51 b52 5)) = E56
    replace K := K E56 eE56.symm
    refine Z.aload_n (k := 0) dX0_tell_133 rfl ?_
    refine Y.getR (o := some 43) 2 dX0_tell_134 zl_X0_9 (rfl) (by decide) rfl (zX_0_11 hX).2.2 (zX_42_2 hX).1 ?_
    refine Z.iconst (n := 5) dX0_tell_137 ⟨by decide, by decide⟩ ?_
    refine Z.aload_n (k := 0) dX0_tell_138 rfl ?_
    refine Y.getI 10 dX0_tell_139 zl_X0_38 (rfl) (by decide) rfl (zX_0_11 hX).2.2 ?_
    obtain ⟨z57, K⟩ := K
    refine Y.iast dX0_tell_142 (rfl) ((zX_42_2 hX).2.2) z57 ?_
    generalize eE58 : zuE E56 43 5 ((E56 42 10)) = E58
    replace K := K E58 eE58.symm
    refine Z.aload_n (k := 0) dX0_tell_143 rfl ?_
    refine Y.getR (o := some 43) 2 dX0_tell_144 zl_X0_9 (rfl) (by decide) rfl (zX_0_11 hX).2.2 (zX_42_2 hX).1 ?_
    refine Z.bipush (n := 6) dX0_tell_147 ⟨by decide, by decide⟩ (by decide) ?_
    refine Z.aload_n (k := 0) dX0_tell_149 rfl ?_
    refine Y.getI 11 dX0_tell_150 zl_X0_41 (rfl) (by decide) rfl (zX_0_11 hX).2.2 ?_
    obtain ⟨z59, K⟩ := K
    refine Y.iast dX0_tell_153 (rfl) ((zX_42_2 hX).2.2) z59 ?_
    generalize eE60 : zuE E58 43 6 ((E58 42 11)) = E60
    replace K := K E60 eE60.symm
    refine Z.goto 194 dX0_tell_154 rfl ?_
    exact Z.vret dX0_tell_194 rfl K
  replace K := K.2
  by_cases c61 : (E8 42 5) = 4
  · replace K := K.1 c61
    refine Z.tableIn (off := 132) 157 dX0_tell_25 (by omega) (by omega) (by rw [c61]; rfl) rfl ?_
    refine Z.aload_n (k := 0) dX0_tell_157 rfl ?_
    refine Y.getR (o := some 43) 2 dX0_tell_158 zl_X0_9 (rfl) (by decide) rfl (zX_0_11 hX).2.2 (zX_42_2 hX).1 ?_
    refine Z.iconst (n := 0) dX0_tell_161 ⟨by decide, by decide⟩ ?_
    refine Z.iconst (n := 2) dX0_tell_162 ⟨by decide, by decide⟩ ?_
    obtain ⟨z62, K⟩ := K
    refine Y.iast dX0_tell_163 (rfl) ((zX_42_2 hX).2.2) z62 ?_
    generalize eE63 : zuE E8 43 0 2 = E63
    replace K := K E63 eE63.symm
    refine Z.aload_n (k := 0) dX0_tell_164 rfl ?_
    refine Y.getR (o := some 43) 2 dX0_tell_165 zl_X0_9 (rfl) (by decide) rfl (zX_0_11 hX).2.2 (zX_42_2 hX).1 ?_
    refine Z.iconst (n := 2) dX0_tell_168 ⟨by decide, by decide⟩ ?_
    refine Z.aload_n (k := 0) dX0_tell_169 rfl ?_
    refine Y.getI 8 dX0_tell_170 zl_X0_32 (rfl) (by decide) rfl (zX_0_11 hX).2.2 ?_
    obtain ⟨z64, K⟩ := K
    refine Y.iast dX0_tell_173 (rfl) ((zX_42_2 hX).2.2) z64 ?_
    generalize eE65 : zuE E63 43 2 ((E63 42 8)) = E65
    replace K := K E65 eE65.symm
    refine Z.aload_n (k := 0) dX0_tell_174 rfl ?_
    refine Y.getR (o := some 43) 2 dX0_tell_175 zl_X0_9 (rfl) (by decide) rfl (zX_0_11 hX).2.2 (zX_42_2 hX).1 ?_
    refine Z.iconst (n := 3) dX0_tell_178 ⟨by decide, by decide⟩ ?_
    refine Z.aload_n (k := 0) dX0_tell_179 rfl ?_
    refine Y.getI 10 dX0_tell_180 zl_X0_38 (rfl) (by decide) rfl (zX_0_11 hX).2.2 ?_
    obtain ⟨z66, K⟩ := K
    refine Y.iast dX0_tell_183 (rfl) ((zX_42_2 hX).2.2) z66 ?_
    generalize eE67 : zuE E65 43 3 ((E65 42 10)) = E67
    replace K := K E67 eE67.symm
    refine Z.goto 194 dX0_tell_184 rfl ?_
    exact Z.vret dX0_tell_194 rfl K
  replace K := K.2
  have hd0 : (E8 42 5) < 0 ∨ 4 < (E8 42 5) := by omega
  replace K := K hd0
  refine Z.tableOut 187 dX0_tell_25 hd0 rfl ?_
  refine Z.aload_n (k := 0) dX0_tell_187 rfl ?_
  refine Y.getR (o := some 43) 2 dX0_tell_188 zl_X0_9 (rfl) (by decide) rfl (zX_0_11 hX).2.2 (zX_42_2 hX).1 ?_
  refine Z.iconst (n := 0) dX0_tell_191 ⟨by decide, by decide⟩ ?_
  refine Z.iconst (n := 3) dX0_tell_192 ⟨by decide, by decide⟩ ?_
  obtain ⟨z68, K⟩ := K
  refine Y.iast dX0_tell_193 (rfl) ((zX_42_2 hX).2.2) z68 ?_
  generalize eE69 : zuE E8 43 0 3 = E69
  replace K := K E69 eE69.symm
  exact Z.vret dX0_tell_194 rfl K
set_option maxRecDepth 20000 in
theorem X0_nextPhase_0 {kz : Nat × Nat} {Q : Option zV → zH → Prop} {d : List Nat} {G : Nat → Int → Option Nat} {E : Nat → Int → Int}  (hX : zK zXt d G) (K : zin ((E 42 5) + 1) ∧ ∀ E2, E2 = zuE E 42 5 (((E 42 5) + 1)) → ((E2 42 5) ≠ 4 → Z zm_X0_nextPhase kz Q 47 [(0, zR 42)] [] (d, G, E2)) ∧ (¬ ((E2 42 5) ≠ 4) → zin ((E2 42 4) + 1) ∧ ∀ E5, E5 = zuE E2 42 4 (((E2 42 4) + 1)) → ((E5 5 4) ≤ (E5 42 4) → Z zm_X0_nextPhase kz Q 47 [(0, zR 42)] [] (d, G, E5)) ∧ (¬ ((E5 5 4) ≤ (E5 42 4)) → ∀ E7, E7 = zuE E5 42 5 0 → Z zm_X0_nextPhase kz Q 47 [(0, zR 42)] [] (d, G, E7)))) : Z zm_X0_nextPhase kz Q 0 [(0, zR 42)] [] (d, G, E) := by
  refine Z.aload_n (k := 0) dX0_nextPhase_0 rfl ?_
  refine Z.dup_i dX0_nextPhase_1 (fun _ => rfl) ?_
  refine Y.getI 5 dX0_nextPhase_2 zl_X0_23 (rfl) (by decide) rfl (zX_0_11 hX).2.2 ?_
  refine Z.iconst (n := 1) dX0_nextPhase_5 ⟨by decide, by decide⟩ ?_
  obtain ⟨z1, K⟩ := K
  refine Z.iadd dX0_nextPhase_6 z1 ?_
  refine Y.putI 5 dX0_nextPhase_7 zw_X0_23 (fun q => by cases q) (rfl) rfl (zX_0_11 hX).2.2 (Or.inl rfl) ?_
  generalize eE2 : zuE E 42 5 (((E 42 5) + 1)) = E2
  replace K := K E2 eE2.symm
  refine Z.aload_n (k := 0) dX0_nextPhase_10 rfl ?_
  refine Y.getI 5 dX0_nextPhase_11 zl_X0_23 (rfl) (by decide) rfl (zX_0_11 hX).2.2 ?_
  refine Z.iconst (n := 4) dX0_nextPhase_14 ⟨by decide, by decide⟩ ?_
  refine Z.icmp_ne 47 dX0_nextPhase_15 rfl ⟨fun c3 => ?_, fun c3 => ?_⟩
  · replace K := K.1 c3
    exact K
  · replace K := K.2 c3
    refine Z.aload_n (k := 0) dX0_nextPhase_18 rfl ?_
    refine Z.dup_i dX0_nextPhase_19 (fun _ => rfl) ?_
    refine Y.getI 4 dX0_nextPhase_20 zl_X0_19 (rfl) (by decide) rfl (zX_0_11 hX).2.2 ?_
    refine Z.iconst (n := 1) dX0_nextPhase_23 ⟨by decide, by decide⟩ ?_
    obtain ⟨z4, K⟩ := K
    refine Z.iadd dX0_nextPhase_24 z4 ?_
    refine Y.putI 4 dX0_nextPhase_25 zw_X0_19 (fun q => by cases q) (rfl) rfl (zX_0_11 hX).2.2 (Or.inl rfl) ?_
    generalize eE5 : zuE E2 42 4 (((E2 42 4) + 1)) = E5
    replace K := K E5 eE5.symm
    refine Z.aload_n (k := 0) dX0_nextPhase_28 rfl ?_
    refine Y.getI 4 dX0_nextPhase_29 zl_X0_19 (rfl) (by decide) rfl (zX_0_11 hX).2.2 ?_
    refine Z.aload_n (k := 0) dX0_nextPhase_32 rfl ?_
    refine Y.getR (o := some 5) 1 dX0_nextPhase_33 zl_X0_48 (rfl) (by decide) rfl (zX_0_11 hX).2.2 (zX_42_1 hX).1 ?_
    refine Y.getI 4 dX0_nextPhase_36 zl_X0_74 (rfl) (by decide) rfl (zX_0_1 hX).2.2 ?_
    refine Z.icmp_ge 47 dX0_nextPhase_39 rfl ⟨fun c6 => ?_, fun c6 => ?_⟩
    · replace K := K.1 c6
      exact K
    · replace K := K.2 c6
      refine Z.aload_n (k := 0) dX0_nextPhase_42 rfl ?_
      refine Z.iconst (n := 0) dX0_nextPhase_43 ⟨by decide, by decide⟩ ?_
      refine Y.putI 5 dX0_nextPhase_44 zw_X0_23 (fun q => by cases q) (rfl) rfl (zX_0_11 hX).2.2 (Or.inl rfl) ?_
      generalize eE7 : zuE E5 42 5 0 = E7
      replace K := K E7 eE7.symm
      exact K
set_option maxRecDepth 20000 in
theorem X0_nextPhase_47 {kz : Nat × Nat} {Q : Option zV → zH → Prop} {d : List Nat} {G : Nat → Int → Option Nat} {E : Nat → Int → Int}  (hX : zK zXt d G) (K : (4 ≤ (E 42 5) → Z zm_X0_nextPhase kz Q 73 [(0, zR 42)] [zO ((G 42 3))] (d, G, E)) ∧ (¬ (4 ≤ (E 42 5)) → ∃ o2, zM zm_X7_at [zR 5, zI ((E 42 4))] (d, G, E) (some (zO o2)) (d, G, E) ∧ Z zm_X0_nextPhase kz Q 73 [(0, zR 42)] [zO o2] (d, G, E))) : Z zm_X0_nextPhase kz Q 47 [(0, zR 42)] [] (d, G, E) := by
  refine Z.aload_n (k := 0) dX0_nextPhase_47 rfl ?_
  refine Y.getI 5 dX0_nextPhase_48 zl_X0_23 (rfl) (by decide) rfl (zX_0_11 hX).2.2 ?_
  refine Z.iconst (n := 4) dX0_nextPhase_51 ⟨by decide, by decide⟩ ?_
  refine Z.icmp_ge 69 dX0_nextPhase_52 rfl ⟨fun c1 => ?_, fun c1 => ?_⟩
  · replace K := K.1 c1
    refine Z.aload_n (k := 0) dX0_nextPhase_69 rfl ?_
    refine Y.getR (o := (G 42 3)) 3 dX0_nextPhase_70 zl_X0_15 (rfl) (by decide) rfl (zX_0_11 hX).2.2 rfl ?_
    exact K
  · replace K := K.2 c1
    refine Z.aload_n (k := 0) dX0_nextPhase_55 rfl ?_
    refine Y.getR (o := some 5) 1 dX0_nextPhase_56 zl_X0_48 (rfl) (by decide) rfl (zX_0_11 hX).2.2 (zX_42_1 hX).1 ?_
    refine Z.aload_n (k := 0) dX0_nextPhase_59 rfl ?_
    refine Y.getI 4 dX0_nextPhase_60 zl_X0_19 (rfl) (by decide) rfl (zX_0_11 hX).2.2 ?_
    obtain ⟨o2, m3, K⟩ := K
    refine Y.callV (g := zm_X7_at) (vs := [zI ((E 42 4))]) (st := []) dX0_nextPhase_63 ⟨zg_X7_at.1, zg_X7_at.2.1, zg_X7_at.2.2, by decide⟩ ⟨zk_X0_79, zv_X7_at⟩ (ci := 7) (rfl) rfl ((zX_0_1 hX).2.2) rfl rfl (Nat.le_of_ble_eq_true rfl) m3 (Or.inl rfl) ?_
    show Z zm_X0_nextPhase kz Q 66 [(0, zR 42)] [zO o2] (d, G, E)
    refine Z.goto 73 dX0_nextPhase_66 rfl ?_
    exact K
set_option maxRecDepth 20000 in
theorem X0_nextPhase_73 {kz : Nat × Nat} {Q : Option zV → zH → Prop} {d : List Nat} {G : Nat → Int → Option Nat} {E : Nat → Int → Int} {t0 : Option Nat} (hX : zK zXt d G) (K : ((E 42 5) = 1 → Z zm_X0_nextPhase kz Q 90 [(0, zR 42), (1, zO t0)] [] (d, G, E)) ∧ (¬ ((E 42 5) = 1) → ((E 42 5) ≠ 3 → Z zm_X0_nextPhase kz Q 95 [(0, zR 42), (1, zO t0)] [zI 0] (d, G, E)) ∧ (¬ ((E 42 5) ≠ 3) → Z zm_X0_nextPhase kz Q 90 [(0, zR 42), (1, zO t0)] [] (d, G, E)))) : Z zm_X0_nextPhase kz Q 73 [(0, zR 42)] [zO t0] (d, G, E) := by
  refine Z.astore_n (ls' := [(1, zO t0), (0, zR 42)]) dX0_nextPhase_73 (by decide) rfl ?_
  refine Z.aload_n (k := 1) dX0_nextPhase_74 rfl ?_
  refine Y.getI 5 dX0_nextPhase_75 zl_X0_23 (rfl) (by decide) rfl (zX_0_11 hX).2.2 ?_
  refine Z.iconst (n := 1) dX0_nextPhase_78 ⟨by decide, by decide⟩ ?_
  refine Z.icmp_eq 90 dX0_nextPhase_79 rfl ⟨fun c1 => ?_, fun c1 => ?_⟩
  · replace K := K.1 c1
    refine Z.pick (ls' := [(0, zR 42), (1, zO t0)]) [1, 0] rfl ?_
    exact K
  · replace K := K.2 c1
    refine Z.aload_n (k := 1) dX0_nextPhase_82 rfl ?_
    refine Y.getI 5 dX0_nextPhase_83 zl_X0_23 (rfl) (by decide) rfl (zX_0_11 hX).2.2 ?_
    refine Z.iconst (n := 3) dX0_nextPhase_86 ⟨by decide, by decide⟩ ?_
    refine Z.icmp_ne 94 dX0_nextPhase_87 rfl ⟨fun c2 => ?_, fun c2 => ?_⟩
    · replace K := K.1 c2
      refine Z.iconst (n := 0) dX0_nextPhase_94 ⟨by decide, by decide⟩ ?_
      refine Z.pick (ls' := [(0, zR 42), (1, zO t0)]) [1, 0] rfl ?_
      exact K
    · replace K := K.2 c2
      refine Z.pick (ls' := [(0, zR 42), (1, zO t0)]) [1, 0] rfl ?_
      exact K
set_option maxRecDepth 20000 in
theorem X0_nextPhase_90 {kz : Nat × Nat} {Q : Option zV → zH → Prop} {d : List Nat} {G : Nat → Int → Option Nat} {E : Nat → Int → Int} {o1 : Option Nat} (hX : zK zXt d G) (K : Z zm_X0_nextPhase kz Q 95 [(0, zR 42), (1, zO o1)] [zI 1] (d, G, E)) : Z zm_X0_nextPhase kz Q 90 [(0, zR 42), (1, zO o1)] [] (d, G, E) := by
  refine Z.iconst (n := 1) dX0_nextPhase_90 ⟨by decide, by decide⟩ ?_
  refine Z.goto 95 dX0_nextPhase_91 rfl ?_
  exact K
set_option maxRecDepth 20000 in
theorem X0_nextPhase_95 {kz : Nat × Nat} {Q : Option zV → zH → Prop} {d : List Nat} {G : Nat → Int → Option Nat} {E : Nat → Int → Int} {o1 : Option Nat} {s0 : Int} (hX : zK zXt d G) (K : (o1 = none → Z zm_X0_nextPhase kz Q 120 [(0, zR 42)] [] (d, G, E)) ∧ (¬ (o1 = none) → ∃ b2, o1 = some b2 ∧ zCk d G b2 ∧ ((E b2 6) ≠ 1 → Z zm_X0_nextPhase kz Q 120 [(0, zR 42)] [] (d, G, E)) ∧ (¬ ((E b2 6) ≠ 1) → (s0 = 0 → Z zm_X0_nextPhase kz Q 133 [(0, zR 42), (1, zR b2), (2, zI s0)] [] (d, G, E)) ∧ (¬ (s0 = 0) → (∀ b, (G 42 3) = some b → b ∈ d) ∧ ((some b2 ≠ (G 42 3) → Z zm_X0_nextPhase kz Q 133 [(0, zR 42), (1, zR b2), (2, zI s0)] [] (d, G, E)) ∧ (¬ (some b2 ≠ (G 42 3)) → Z zm_X0_nextPhase kz Q 120 [(0, zR 42)] [] (d, G, E))))))) : Z zm_X0_nextPhase kz Q 95 [(0, zR 42), (1, zO o1)] [zI s0] (d, G, E) := by
  refine Z.istore_n (ls' := [(2, zI s0), (0, zR 42), (1, zO o1)]) dX0_nextPhase_95 (by decide) rfl ?_
  refine Z.aload_n (k := 2) dX0_nextPhase_96 rfl ?_
  refine Z.ifnull 120 dX0_nextPhase_97 rfl ⟨fun c1 => ?_, fun c1 => ?_⟩
  · replace K := K.1 c1
    refine Z.pick (ls' := [(0, zR 42)]) [1] rfl ?_
    exact K
  · replace K := K.2 c1
    refine Z.aload_n (k := 2) dX0_nextPhase_100 rfl ?_
    obtain ⟨b2, e3, hc4, K⟩ := K
    rw [e3]
    refine Y.getI 6 dX0_nextPhase_101 zl_X0_83 (congrArg Prod.fst hc4.1) (by decide) rfl hc4.2.1 ?_
    refine Z.iconst (n := 1) dX0_nextPhase_104 ⟨by decide, by decide⟩ ?_
    refine Z.icmp_ne 120 dX0_nextPhase_105 rfl ⟨fun c5 => ?_, fun c5 => ?_⟩
    · replace K := K.1 c5
      refine Z.pick (ls' := [(0, zR 42)]) [1] rfl ?_
      exact K
    · replace K := K.2 c5
      refine Z.iload_n (k := 0) dX0_nextPhase_108 rfl ?_
      refine Z.if_eq 133 dX0_nextPhase_109 rfl ⟨fun c6 => ?_, fun c6 => ?_⟩
      · replace K := K.1 c6
        refine Z.pick (ls' := [(0, zR 42), (1, zR b2), (2, zI s0)]) [1, 2, 0] rfl ?_
        exact K
      · replace K := K.2 c6
        refine Z.aload_n (k := 2) dX0_nextPhase_112 rfl ?_
        refine Z.aload_n (k := 1) dX0_nextPhase_113 rfl ?_
        refine Y.getR (o := (G 42 3)) 3 dX0_nextPhase_114 zl_X0_15 (rfl) (by decide) rfl (zX_0_11 hX).2.2 rfl ?_
        obtain ⟨z7, K⟩ := K
        refine Y.acmp_ne 133 dX0_nextPhase_117 rfl (fun b hb => by cases hb; exact hc4.2.1) z7 ⟨fun c8 => ?_, fun c8 => ?_⟩
        · replace K := K.1 c8
          refine Z.pick (ls' := [(0, zR 42), (1, zR b2), (2, zI s0)]) [1, 2, 0] rfl ?_
          exact K
        · replace K := K.2 c8
          refine Z.pick (ls' := [(0, zR 42)]) [1] rfl ?_
          exact K
set_option maxRecDepth 20000 in
theorem X0_nextPhase_120 {kz : Nat × Nat} {Q : Option zV → zH → Prop} {d : List Nat} {G : Nat → Int → Option Nat} {E : Nat → Int → Int}  (hX : zK zXt d G) (K : ∀ G1, G1 = zuG G 42 6 none → zK zXt d G1 ∧ ∀ G3, G3 = zuG G1 42 7 none → zK zXt d G3 ∧ Z zm_X0_nextPhase kz Q 165 [(0, zR 42)] [] (d, G3, E)) : Z zm_X0_nextPhase kz Q 120 [(0, zR 42)] [] (d, G, E) := by
  refine Z.aload_n (k := 0) dX0_nextPhase_120 rfl ?_
  refine Z.null dX0_nextPhase_121 ?_
  refine Y.putR 6 dX0_nextPhase_122 zw_X0_26 (fun q => by cases q) (rfl) rfl (zX_0_11 hX).2.2 (fun b hb => by cases hb) ?_
  generalize eG1 : zuG G 42 6 none = G1
  replace K := K G1 eG1.symm
  obtain ⟨hX2, K⟩ := K
  refine Z.aload_n (k := 0) dX0_nextPhase_125 rfl ?_
  refine Z.null dX0_nextPhase_126 ?_
  refine Y.putR 7 dX0_nextPhase_127 zw_X0_29 (fun q => by cases q) (rfl) rfl (zX_0_11 hX2).2.2 (fun b hb => by cases hb) ?_
  generalize eG3 : zuG G1 42 7 none = G3
  replace K := K G3 eG3.symm
  obtain ⟨hX4, K⟩ := K
  refine Z.goto 165 dX0_nextPhase_130 rfl ?_
  exact K
set_option maxRecDepth 20000 in
theorem X0_nextPhase_133 {kz : Nat × Nat} {Q : Option zV → zH → Prop} {d : List Nat} {G : Nat → Int → Option Nat} {E : Nat → Int → Int} {o1 : Option Nat} {v2 : Int} (hX : zK zXt d G) (K : (v2 = 0 → (∀ b, (G 42 3) = some b → b ∈ d) ∧ ∀ G3, G3 = zuG G 42 6 ((G 42 3)) → zK zXt d G3 ∧ (v2 = 0 → (∀ b, o1 = some b → b ∈ d) ∧ ∀ G7, G7 = zuG G3 42 7 o1 → zK zXt d G7 ∧ Z zm_X0_nextPhase kz Q 165 [(0, zR 42)] [] (d, G7, E)) ∧ (¬ (v2 = 0) → (∀ b, (G3 42 3) = some b → b ∈ d) ∧ ∀ G10, G10 = zuG G3 42 7 ((G3 42 3)) → zK zXt d G10 ∧ Z zm_X0_nextPhase kz Q 165 [(0, zR 42)] [] (d, G10, E))) ∧ (¬ (v2 = 0) → (∀ b, o1 = some b → b ∈ d) ∧ ∀ G13, G13 = zuG G 42 6 o1 → zK zXt d G13 ∧ (v2 = 0 → (∀ b, o1 = some b → b ∈ d) ∧ ∀ G17, G17 = zuG G13 42 7 o1 → zK zXt d G17 ∧ Z zm_X0_nextPhase kz Q 165 [(0, zR 42)] [] (d, G17, E)) ∧ (¬ (v2 = 0) → (∀ b, (G13 42 3) = some b → b ∈ d) ∧ ∀ G20, G20 = zuG G13 42 7 ((G13 42 3)) → zK zXt d G20 ∧ Z zm_X0_nextPhase kz Q 165 [(0, zR 42)] [] (d, G20, E)))) : Z zm_X0_nextPhase kz Q 133 [(0, zR 42), (1, zO o1), (2, zI v2)] [] (d, G, E) := by
  refine Z.aload_n (k := 0) dX0_nextPhase_133 rfl ?_
  refine Z.iload_n (k := 2) dX0_nextPhase_134 rfl ?_
  refine Z.if_eq 142 dX0_nextPhase_135 rfl ⟨fun c1 => ?_, fun c1 => ?_⟩
  · replace K := K.1 c1
    refine Z.aload_n (k := 0) dX0_nextPhase_142 rfl ?_
    refine Y.getR (o := (G 42 3)) 3 dX0_nextPhase_143 zl_X0_15 (rfl) (by decide) rfl (zX_0_11 hX).2.2 rfl ?_
    obtain ⟨z2, K⟩ := K
    refine Y.putR 6 dX0_nextPhase_146 zw_X0_26 (fun q => by cases q) (rfl) rfl (zX_0_11 hX).2.2 z2 ?_
    generalize eG3 : zuG G 42 6 ((G 42 3)) = G3
    replace K := K G3 eG3.symm
    obtain ⟨hX4, K⟩ := K
    refine Z.aload_n (k := 0) dX0_nextPhase_149 rfl ?_
    refine Z.iload_n (k := 2) dX0_nextPhase_150 rfl ?_
    refine Z.if_eq 161 dX0_nextPhase_151 rfl ⟨fun c5 => ?_, fun c5 => ?_⟩
    · replace K := K.1 c5
      refine Z.aload_n (k := 1) dX0_nextPhase_161 rfl ?_
      obtain ⟨z6, K⟩ := K
      refine Y.putR 7 dX0_nextPhase_162 zw_X0_29 (fun q => by cases q) (rfl) rfl (zX_0_11 hX4).2.2 z6 ?_
      generalize eG7 : zuG G3 42 7 o1 = G7
      replace K := K G7 eG7.symm
      obtain ⟨hX8, K⟩ := K
      refine Z.pick (ls' := [(0, zR 42)]) [0] rfl ?_
      exact K
    · replace K := K.2 c5
      refine Z.aload_n (k := 0) dX0_nextPhase_154 rfl ?_
      refine Y.getR (o := (G3 42 3)) 3 dX0_nextPhase_155 zl_X0_15 (rfl) (by decide) rfl (zX_0_11 hX4).2.2 rfl ?_
      refine Z.goto 162 dX0_nextPhase_158 rfl ?_
      obtain ⟨z9, K⟩ := K
      refine Y.putR 7 dX0_nextPhase_162 zw_X0_29 (fun q => by cases q) (rfl) rfl (zX_0_11 hX4).2.2 z9 ?_
      generalize eG10 : zuG G3 42 7 ((G3 42 3)) = G10
      replace K := K G10 eG10.symm
      obtain ⟨hX11, K⟩ := K
      refine Z.pick (ls' := [(0, zR 42)]) [0] rfl ?_
      exact K
  · replace K := K.2 c1
    refine Z.aload_n (k := 1) dX0_nextPhase_138 rfl ?_
    refine Z.goto 146 dX0_nextPhase_139 rfl ?_
    obtain ⟨z12, K⟩ := K
    refine Y.putR 6 dX0_nextPhase_146 zw_X0_26 (fun q => by cases q) (rfl) rfl (zX_0_11 hX).2.2 z12 ?_
    generalize eG13 : zuG G 42 6 o1 = G13
    replace K := K G13 eG13.symm
    obtain ⟨hX14, K⟩ := K
    refine Z.aload_n (k := 0) dX0_nextPhase_149 rfl ?_
    refine Z.iload_n (k := 2) dX0_nextPhase_150 rfl ?_
    refine Z.if_eq 161 dX0_nextPhase_151 rfl ⟨fun c15 => ?_, fun c15 => ?_⟩
    · replace K := K.1 c15
      refine Z.aload_n (k := 1) dX0_nextPhase_161 rfl ?_
      obtain ⟨z16, K⟩ := K
      refine Y.putR 7 dX0_nextPhase_162 zw_X0_29 (fun q => by cases q) (rfl) rfl (zX_0_11 hX14).2.2 z16 ?_
      generalize eG17 : zuG G13 42 7 o1 = G17
      replace K := K G17 eG17.symm
      obtain ⟨hX18, K⟩ := K
      refine Z.pick (ls' := [(0, zR 42)]) [0] rfl ?_
      exact K
    · replace K := K.2 c15
      refine Z.aload_n (k := 0) dX0_nextPhase_154 rfl ?_
      refine Y.getR (o := (G13 42 3)) 3 dX0_nextPhase_155 zl_X0_15 (rfl) (by decide) rfl (zX_0_11 hX14).2.2 rfl ?_
      refine Z.goto 162 dX0_nextPhase_158 rfl ?_
      obtain ⟨z19, K⟩ := K
      refine Y.putR 7 dX0_nextPhase_162 zw_X0_29 (fun q => by cases q) (rfl) rfl (zX_0_11 hX14).2.2 z19 ?_
      generalize eG20 : zuG G13 42 7 ((G13 42 3)) = G20
      replace K := K G20 eG20.symm
      obtain ⟨hX21, K⟩ := K
      refine Z.pick (ls' := [(0, zR 42)]) [0] rfl ?_
      exact K
set_option maxRecDepth 20000 in
theorem X0_nextPhase_165 {kz : Nat × Nat} {Q : Option zV → zH → Prop} {d : List Nat} {G : Nat → Int → Option Nat} {E : Nat → Int → Int}  (hX : zK zXt d G) (K : ((E 42 5) = 0 → Z zm_X0_nextPhase kz Q 181 [(0, zR 42)] [zR 42] (d, G, E)) ∧ (¬ ((E 42 5) = 0) → ((E 42 5) ≠ 1 → ∀ E3, E3 = zuE E 42 8 0 → ∀ E4, E4 = zuE E3 42 9 0 → ((E4 42 5) = 4 → ∀ E6, E6 = zuE E4 42 10 0 → ∀ E7, E7 = zuE E6 42 11 0 → Q none (d, G, E7)) ∧ (¬ ((E4 42 5) = 4) → ((G 42 7) = none → ∀ E9, E9 = zuE E4 42 10 0 → ∀ E10, E10 = zuE E9 42 11 0 → Q none (d, G, E10)) ∧ (¬ ((G 42 7) = none) → ∃ b11, (G 42 7) = some b11 ∧ zCk d G b11 ∧ ∃ x14, zM zm_X1_isPositive [zR b11] (d, G, E4) (some (zI x14)) (d, G, E4) ∧ (x14 = 0 → ∃ b18, (G 42 7) = some b18 ∧ zCk d G b18 ∧ ∀ E21, E21 = zuE E4 42 10 ((E4 b18 9)) → ∀ E22, E22 = zuE E21 42 11 0 → Q none (d, G, E22)) ∧ (¬ (x14 = 0) → ∀ E23, E23 = zuE E4 42 10 0 → ∀ E24, E24 = zuE E23 42 11 0 → Q none (d, G, E24))))) ∧ (¬ ((E 42 5) ≠ 1) → Z zm_X0_nextPhase kz Q 181 [(0, zR 42)] [zR 42] (d, G, E)))) : Z zm_X0_nextPhase kz Q 165 [(0, zR 42)] [] (d, G, E) := by
  refine Z.aload_n (k := 0) dX0_nextPhase_165 rfl ?_
  refine Z.aload_n (k := 0) dX0_nextPhase_166 rfl ?_
  refine Y.getI 5 dX0_nextPhase_167 zl_X0_23 (rfl) (by decide) rfl (zX_0_11 hX).2.2 ?_
  refine Z.if_eq 181 dX0_nextPhase_170 rfl ⟨fun c1 => ?_, fun c1 => ?_⟩
  · replace K := K.1 c1
    exact K
  · replace K := K.2 c1
    refine Z.aload_n (k := 0) dX0_nextPhase_173 rfl ?_
    refine Y.getI 5 dX0_nextPhase_174 zl_X0_23 (rfl) (by decide) rfl (zX_0_11 hX).2.2 ?_
    refine Z.iconst (n := 1) dX0_nextPhase_177 ⟨by decide, by decide⟩ ?_
    refine Z.icmp_ne 185 dX0_nextPhase_178 rfl ⟨fun c2 => ?_, fun c2 => ?_⟩
    · replace K := K.1 c2
      refine Z.iconst (n := 0) dX0_nextPhase_185 ⟨by decide, by decide⟩ ?_
      refine Y.putI 8 dX0_nextPhase_186 zw_X0_32 (fun q => by cases q) (rfl) rfl (zX_0_11 hX).2.2 (Or.inl rfl) ?_
      generalize eE3 : zuE E 42 8 0 = E3
      replace K := K E3 eE3.symm
      refine Z.aload_n (k := 0) dX0_nextPhase_189 rfl ?_
      refine Z.iconst (n := 0) dX0_nextPhase_190 ⟨by decide, by decide⟩ ?_
      refine Y.putI 9 dX0_nextPhase_191 zw_X0_35 (fun q => by cases q) (rfl) rfl (zX_0_11 hX).2.2 (Or.inl rfl) ?_
      generalize eE4 : zuE E3 42 9 0 = E4
      replace K := K E4 eE4.symm
      refine Z.aload_n (k := 0) dX0_nextPhase_194 rfl ?_
      refine Z.aload_n (k := 0) dX0_nextPhase_195 rfl ?_
      refine Y.getI 5 dX0_nextPhase_196 zl_X0_23 (rfl) (by decide) rfl (zX_0_11 hX).2.2 ?_
      refine Z.iconst (n := 4) dX0_nextPhase_199 ⟨by decide, by decide⟩ ?_
      refine Z.icmp_eq 220 dX0_nextPhase_200 rfl ⟨fun c5 => ?_, fun c5 => ?_⟩
      · replace K := K.1 c5
        refine Z.iconst (n := 0) dX0_nextPhase_220 ⟨by decide, by decide⟩ ?_
        refine Z.goto 231 dX0_nextPhase_221 rfl ?_
        refine Y.putI 10 dX0_nextPhase_231 zw_X0_38 (fun q => by cases q) (rfl) rfl (zX_0_11 hX).2.2 (Or.inl rfl) ?_
        generalize eE6 : zuE E4 42 10 0 = E6
        replace K := K E6 eE6.symm
        refine Z.aload_n (k := 0) dX0_nextPhase_234 rfl ?_
        refine Z.iconst (n := 0) dX0_nextPhase_235 ⟨by decide, by decide⟩ ?_
        refine Y.putI 11 dX0_nextPhase_236 zw_X0_41 (fun q => by cases q) (rfl) rfl (zX_0_11 hX).2.2 (Or.inl rfl) ?_
        generalize eE7 : zuE E6 42 11 0 = E7
        replace K := K E7 eE7.symm
        exact Z.vret dX0_nextPhase_239 rfl K
      · replace K := K.2 c5
        refine Z.aload_n (k := 0) dX0_nextPhase_203 rfl ?_
        refine Y.getR (o := (G 42 7)) 7 dX0_nextPhase_204 zl_X0_29 (rfl) (by decide) rfl (zX_0_11 hX).2.2 rfl ?_
        refine Z.ifnull 220 dX0_nextPhase_207 rfl ⟨fun c8 => ?_, fun c8 => ?_⟩
        · replace K := K.1 c8
          refine Z.iconst (n := 0) dX0_nextPhase_220 ⟨by decide, by decide⟩ ?_
          refine Z.goto 231 dX0_nextPhase_221 rfl ?_
          refine Y.putI 10 dX0_nextPhase_231 zw_X0_38 (fun q => by cases q) (rfl) rfl (zX_0_11 hX).2.2 (Or.inl rfl) ?_
          generalize eE9 : zuE E4 42 10 0 = E9
          replace K := K E9 eE9.symm
          refine Z.aload_n (k := 0) dX0_nextPhase_234 rfl ?_
          refine Z.iconst (n := 0) dX0_nextPhase_235 ⟨by decide, by decide⟩ ?_
          refine Y.putI 11 dX0_nextPhase_236 zw_X0_41 (fun q => by cases q) (rfl) rfl (zX_0_11 hX).2.2 (Or.inl rfl) ?_
          generalize eE10 : zuE E9 42 11 0 = E10
          replace K := K E10 eE10.symm
          exact Z.vret dX0_nextPhase_239 rfl K
        · replace K := K.2 c8
          refine Z.aload_n (k := 0) dX0_nextPhase_210 rfl ?_
          refine Y.getR (o := (G 42 7)) 7 dX0_nextPhase_211 zl_X0_29 (rfl) (by decide) rfl (zX_0_11 hX).2.2 rfl ?_
          obtain ⟨b11, e12, hc13, K⟩ := K
          rw [e12]
          obtain ⟨x14, m15, K⟩ := K
          refine Y.callV (g := zm_X1_isPositive) (vs := []) (st := [zR 42]) dX0_nextPhase_214 ⟨zg_X1_isPositive.1, zg_X1_isPositive.2.1, zg_X1_isPositive.2.2, by decide⟩ ⟨zk_X0_86, zv_X1_isPositive⟩ (ci := 1) (congrArg Prod.fst hc13.1) rfl (hc13.2.1) rfl rfl (Nat.le_of_ble_eq_true rfl) m15 (Or.inl rfl) ?_
          show Z zm_X0_nextPhase kz Q 217 [(0, zR 42)] [zI x14, zR 42] (d, G, E4)
          refine Z.if_eq 224 dX0_nextPhase_217 rfl ⟨fun c17 => ?_, fun c17 => ?_⟩
          · replace K := K.1 c17
            refine Z.aload_n (k := 0) dX0_nextPhase_224 rfl ?_
            refine Y.getR (o := (G 42 7)) 7 dX0_nextPhase_225 zl_X0_29 (rfl) (by decide) rfl (zX_0_11 hX).2.2 rfl ?_
            obtain ⟨b18, e19, hc20, K⟩ := K
            rw [e19]
            refine Y.getI 9 dX0_nextPhase_228 zl_X0_89 (congrArg Prod.fst hc20.1) (by decide) rfl hc20.2.1 ?_
            refine Y.putI 10 dX0_nextPhase_231 zw_X0_38 (fun q => by cases q) (rfl) rfl (zX_0_11 hX).2.2 (Or.inl rfl) ?_
            generalize eE21 : zuE E4 42 10 ((E4 b18 9)) = E21
            replace K := K E21 eE21.symm
            refine Z.aload_n (k := 0) dX0_nextPhase_234 rfl ?_
            refine Z.iconst (n := 0) dX0_nextPhase_235 ⟨by decide, by decide⟩ ?_
            refine Y.putI 11 dX0_nextPhase_236 zw_X0_41 (fun q => by cases q) (rfl) rfl (zX_0_11 hX).2.2 (Or.inl rfl) ?_
            generalize eE22 : zuE E21 42 11 0 = E22
            replace K := K E22 eE22.symm
            exact Z.vret dX0_nextPhase_239 rfl K
          · replace K := K.2 c17
            refine Z.iconst (n := 0) dX0_nextPhase_220 ⟨by decide, by decide⟩ ?_
            refine Z.goto 231 dX0_nextPhase_221 rfl ?_
            refine Y.putI 10 dX0_nextPhase_231 zw_X0_38 (fun q => by cases q) (rfl) rfl (zX_0_11 hX).2.2 (Or.inl rfl) ?_
            generalize eE23 : zuE E4 42 10 0 = E23
            replace K := K E23 eE23.symm
            refine Z.aload_n (k := 0) dX0_nextPhase_234 rfl ?_
            refine Z.iconst (n := 0) dX0_nextPhase_235 ⟨by decide, by decide⟩ ?_
            refine Y.putI 11 dX0_nextPhase_236 zw_X0_41 (fun q => by cases q) (rfl) rfl (zX_0_11 hX).2.2 (Or.inl rfl) ?_
            generalize eE24 : zuE E23 42 11 0 = E24
            replace K := K E24 eE24.symm
            exact Z.vret dX0_nextPhase_239 rfl K
    · replace K := K.2 c2
      exact K
set_option maxRecDepth 20000 in
theorem X0_nextPhase_181 {kz : Nat × Nat} {Q : Option zV → zH → Prop} {d : List Nat} {G : Nat → Int → Option Nat} {E : Nat → Int → Int}  (hX : zK zXt d G) (K : ∀ E1, E1 = zuE E 42 8 ((-1)) → ∀ E2, E2 = zuE E1 42 9 0 → ((E2 42 5) = 4 → ∀ E4, E4 = zuE E2 42 10 0 → ∀ E5, E5 = zuE E4 42 11 0 → Q none (d, G, E5)) ∧ (¬ ((E2 42 5) = 4) → ((G 42 7) = none → ∀ E7, E7 = zuE E2 42 10 0 → ∀ E8, E8 = zuE E7 42 11 0 → Q none (d, G, E8)) ∧ (¬ ((G 42 7) = none) → ∃ b9, (G 42 7) = some b9 ∧ zCk d G b9 ∧ ∃ x12, zM zm_X1_isPositive [zR b9] (d, G, E2) (some (zI x12)) (d, G, E2) ∧ (x12 = 0 → ∃ b16, (G 42 7) = some b16 ∧ zCk d G b16 ∧ ∀ E19, E19 = zuE E2 42 10 ((E2 b16 9)) → ∀ E20, E20 = zuE E19 42 11 0 → Q none (d, G, E20)) ∧ (¬ (x12 = 0) → ∀ E21, E21 = zuE E2 42 10 0 → ∀ E22, E22 = zuE E21 42 11 0 → Q none (d, G, E22))))) : Z zm_X0_nextPhase kz Q 181 [(0, zR 42)] [zR 42] (d, G, E) := by
  refine Z.iconst (n := -1) dX0_nextPhase_181 ⟨by decide, by decide⟩ ?_
  refine Z.goto 186 dX0_nextPhase_182 rfl ?_
  refine Y.putI 8 dX0_nextPhase_186 zw_X0_32 (fun q => by cases q) (rfl) rfl (zX_0_11 hX).2.2 (Or.inl rfl) ?_
  generalize eE1 : zuE E 42 8 ((-1)) = E1
  replace K := K E1 eE1.symm
  refine Z.aload_n (k := 0) dX0_nextPhase_189 rfl ?_
  refine Z.iconst (n := 0) dX0_nextPhase_190 ⟨by decide, by decide⟩ ?_
  refine Y.putI 9 dX0_nextPhase_191 zw_X0_35 (fun q => by cases q) (rfl) rfl (zX_0_11 hX).2.2 (Or.inl rfl) ?_
  generalize eE2 : zuE E1 42 9 0 = E2
  replace K := K E2 eE2.symm
  refine Z.aload_n (k := 0) dX0_nextPhase_194 rfl ?_
  refine Z.aload_n (k := 0) dX0_nextPhase_195 rfl ?_
  refine Y.getI 5 dX0_nextPhase_196 zl_X0_23 (rfl) (by decide) rfl (zX_0_11 hX).2.2 ?_
  refine Z.iconst (n := 4) dX0_nextPhase_199 ⟨by decide, by decide⟩ ?_
  refine Z.icmp_eq 220 dX0_nextPhase_200 rfl ⟨fun c3 => ?_, fun c3 => ?_⟩
  · replace K := K.1 c3
    refine Z.iconst (n := 0) dX0_nextPhase_220 ⟨by decide, by decide⟩ ?_
    refine Z.goto 231 dX0_nextPhase_221 rfl ?_
    refine Y.putI 10 dX0_nextPhase_231 zw_X0_38 (fun q => by cases q) (rfl) rfl (zX_0_11 hX).2.2 (Or.inl rfl) ?_
    generalize eE4 : zuE E2 42 10 0 = E4
    replace K := K E4 eE4.symm
    refine Z.aload_n (k := 0) dX0_nextPhase_234 rfl ?_
    refine Z.iconst (n := 0) dX0_nextPhase_235 ⟨by decide, by decide⟩ ?_
    refine Y.putI 11 dX0_nextPhase_236 zw_X0_41 (fun q => by cases q) (rfl) rfl (zX_0_11 hX).2.2 (Or.inl rfl) ?_
    generalize eE5 : zuE E4 42 11 0 = E5
    replace K := K E5 eE5.symm
    exact Z.vret dX0_nextPhase_239 rfl K
  · replace K := K.2 c3
    refine Z.aload_n (k := 0) dX0_nextPhase_203 rfl ?_
    refine Y.getR (o := (G 42 7)) 7 dX0_nextPhase_204 zl_X0_29 (rfl) (by decide) rfl (zX_0_11 hX).2.2 rfl ?_
    refine Z.ifnull 220 dX0_nextPhase_207 rfl ⟨fun c6 => ?_, fun c6 => ?_⟩
    · replace K := K.1 c6
      refine Z.iconst (n := 0) dX0_nextPhase_220 ⟨by decide, by decide⟩ ?_
      refine Z.goto 231 dX0_nextPhase_221 rfl ?_
      refine Y.putI 10 dX0_nextPhase_231 zw_X0_38 (fun q => by cases q) (rfl) rfl (zX_0_11 hX).2.2 (Or.inl rfl) ?_
      generalize eE7 : zuE E2 42 10 0 = E7
      replace K := K E7 eE7.symm
      refine Z.aload_n (k := 0) dX0_nextPhase_234 rfl ?_
      refine Z.iconst (n := 0) dX0_nextPhase_235 ⟨by decide, by decide⟩ ?_
      refine Y.putI 11 dX0_nextPhase_236 zw_X0_41 (fun q => by cases q) (rfl) rfl (zX_0_11 hX).2.2 (Or.inl rfl) ?_
      generalize eE8 : zuE E7 42 11 0 = E8
      replace K := K E8 eE8.symm
      exact Z.vret dX0_nextPhase_239 rfl K
    · replace K := K.2 c6
      refine Z.aload_n (k := 0) dX0_nextPhase_210 rfl ?_
      refine Y.getR (o := (G 42 7)) 7 dX0_nextPhase_211 zl_X0_29 (rfl) (by decide) rfl (zX_0_11 hX).2.2 rfl ?_
      obtain ⟨b9, e10, hc11, K⟩ := K
      rw [e10]
      obtain ⟨x12, m13, K⟩ := K
      refine Y.callV (g := zm_X1_isPositive) (vs := []) (st := [zR 42]) dX0_nextPhase_214 ⟨zg_X1_isPositive.1, zg_X1_isPositive.2.1, zg_X1_isPositive.2.2, by decide⟩ ⟨zk_X0_86, zv_X1_isPositive⟩ (ci := 1) (congrArg Prod.fst hc11.1) rfl (hc11.2.1) rfl rfl (Nat.le_of_ble_eq_true rfl) m13 (Or.inl rfl) ?_
      show Z zm_X0_nextPhase kz Q 217 [(0, zR 42)] [zI x12, zR 42] (d, G, E2)
      refine Z.if_eq 224 dX0_nextPhase_217 rfl ⟨fun c15 => ?_, fun c15 => ?_⟩
      · replace K := K.1 c15
        refine Z.aload_n (k := 0) dX0_nextPhase_224 rfl ?_
        refine Y.getR (o := (G 42 7)) 7 dX0_nextPhase_225 zl_X0_29 (rfl) (by decide) rfl (zX_0_11 hX).2.2 rfl ?_
        obtain ⟨b16, e17, hc18, K⟩ := K
        rw [e17]
        refine Y.getI 9 dX0_nextPhase_228 zl_X0_89 (congrArg Prod.fst hc18.1) (by decide) rfl hc18.2.1 ?_
        refine Y.putI 10 dX0_nextPhase_231 zw_X0_38 (fun q => by cases q) (rfl) rfl (zX_0_11 hX).2.2 (Or.inl rfl) ?_
        generalize eE19 : zuE E2 42 10 ((E2 b16 9)) = E19
        replace K := K E19 eE19.symm
        refine Z.aload_n (k := 0) dX0_nextPhase_234 rfl ?_
        refine Z.iconst (n := 0) dX0_nextPhase_235 ⟨by decide, by decide⟩ ?_
        refine Y.putI 11 dX0_nextPhase_236 zw_X0_41 (fun q => by cases q) (rfl) rfl (zX_0_11 hX).2.2 (Or.inl rfl) ?_
        generalize eE20 : zuE E19 42 11 0 = E20
        replace K := K E20 eE20.symm
        exact Z.vret dX0_nextPhase_239 rfl K
      · replace K := K.2 c15
        refine Z.iconst (n := 0) dX0_nextPhase_220 ⟨by decide, by decide⟩ ?_
        refine Z.goto 231 dX0_nextPhase_221 rfl ?_
        refine Y.putI 10 dX0_nextPhase_231 zw_X0_38 (fun q => by cases q) (rfl) rfl (zX_0_11 hX).2.2 (Or.inl rfl) ?_
        generalize eE21 : zuE E2 42 10 0 = E21
        replace K := K E21 eE21.symm
        refine Z.aload_n (k := 0) dX0_nextPhase_234 rfl ?_
        refine Z.iconst (n := 0) dX0_nextPhase_235 ⟨by decide, by decide⟩ ?_
        refine Y.putI 11 dX0_nextPhase_236 zw_X0_41 (fun q => by cases q) (rfl) rfl (zX_0_11 hX).2.2 (Or.inl rfl) ?_
        generalize eE22 : zuE E21 42 11 0 = E22
        replace K := K E22 eE22.symm
        exact Z.vret dX0_nextPhase_239 rfl K
set_option maxRecDepth 20000 in
theorem X0_next_0 {kz : Nat × Nat} {Q : Option zV → zH → Prop} {d : List Nat} {G : Nat → Int → Option Nat} {E : Nat → Int → Int}  (hX : zK zXt d G) (K : Z zm_X0_next kz Q 2 [(0, zR 42), (1, zI 0)] [] (d, G, E)) : Z zm_X0_next kz Q 0 [(0, zR 42)] [] (d, G, E) := by
  refine Z.iconst (n := 0) dX0_next_0 ⟨by decide, by decide⟩ ?_
  refine Z.istore_n (ls' := [(1, zI 0), (0, zR 42)]) dX0_next_1 (by decide) rfl ?_
  refine Z.pick (ls' := [(0, zR 42), (1, zI 0)]) [1, 0] rfl ?_
  exact K
set_option maxRecDepth 20000 in
theorem X0_next_2 {kz : Nat × Nat} {Q : Option zV → zH → Prop} {d : List Nat} {G : Nat → Int → Option Nat} {E : Nat → Int → Int} {v1 : Int} (hX : zK zXt d G) (K : ((1000000) ≤ v1 → Q (some (zI 0)) (d, G, E)) ∧ (¬ ((1000000) ≤ v1) → ((G 42 3) = none → Q (some (zI 0)) (d, G, E)) ∧ (¬ ((G 42 3) = none) → ∃ b3, (G 42 3) = some b3 ∧ zCk d G b3 ∧ ∃ x6, zM zm_X1_isThere [zR b3] (d, G, E) (some (zI x6)) (d, G, E) ∧ (x6 = 0 → Q (some (zI 0)) (d, G, E)) ∧ (¬ (x6 = 0) → ((E 42 5) ≠ 6 → ((G 42 6) = none → ∃ G12 E13, zM zm_X0_nextPhase [zR 42] (d, G, E) none (d, G12, E13) ∧ zK zXt d G12 ∧ zin (v1 + 1) ∧ Z zm_X0_next kz Q 2 [(0, zR 42), (1, zI ((v1 + 1)))] [] (d, G12, E13)) ∧ (¬ ((G 42 6) = none) → ((G 42 7) = none → ∃ G19 E20, zM zm_X0_nextPhase [zR 42] (d, G, E) none (d, G19, E20) ∧ zK zXt d G19 ∧ zin (v1 + 1) ∧ Z zm_X0_next kz Q 2 [(0, zR 42), (1, zI ((v1 + 1)))] [] (d, G19, E20)) ∧ (¬ ((G 42 7) = none) → ∃ b25, (G 42 6) = some b25 ∧ zCk d G b25 ∧ ∃ x28, zM zm_X1_isThere [zR b25] (d, G, E) (some (zI x28)) (d, G, E) ∧ (x28 = 0 → ∃ G32 E33, zM zm_X0_nextPhase [zR 42] (d, G, E) none (d, G32, E33) ∧ zK zXt d G32 ∧ zin (v1 + 1) ∧ Z zm_X0_next kz Q 2 [(0, zR 42), (1, zI ((v1 + 1)))] [] (d, G32, E33)) ∧ (¬ (x28 = 0) → ∃ b38, (G 42 7) = some b38 ∧ zCk d G b38 ∧ ∃ x41, zM zm_X1_isThere [zR b38] (d, G, E) (some (zI x41)) (d, G, E) ∧ (x41 = 0 → ∃ G45 E46, zM zm_X0_nextPhase [zR 42] (d, G, E) none (d, G45, E46) ∧ zK zXt d G45 ∧ zin (v1 + 1) ∧ Z zm_X0_next kz Q 2 [(0, zR 42), (1, zI ((v1 + 1)))] [] (d, G45, E46)) ∧ (¬ (x41 = 0) → ∃ x51 E52, zM zm_X0_advance [zR 42] (d, G, E) (some (zI x51)) (d, G, E52) ∧ (x51 = 0 → ∃ G56 E57, zM zm_X0_nextPhase [zR 42] (d, G, E52) none (d, G56, E57) ∧ zK zXt d G56 ∧ zin (v1 + 1) ∧ Z zm_X0_next kz Q 2 [(0, zR 42), (1, zI ((v1 + 1)))] [] (d, G56, E57)) ∧ (¬ (x51 = 0) → ∃ E62, zM zm_X0_tell [zR 42] (d, G, E52) none (d, G, E62) ∧ Q (some (zI 1)) (d, G, E62))))))) ∧ (¬ ((E 42 5) ≠ 6) → Q (some (zI 0)) (d, G, E)))))) : Z zm_X0_next kz Q 2 [(0, zR 42), (1, zI v1)] [] (d, G, E) := by
  refine Z.iload_n (k := 1) dX0_next_2 rfl ?_
  refine Z.ldc (n := 1000000) dX0_next_3 ⟨by decide, by decide⟩ zq_X0_58 ?_
  refine Z.icmp_ge 93 dX0_next_5 rfl ⟨fun c1 => ?_, fun c1 => ?_⟩
  · replace K := K.1 c1
    refine Z.iconst (n := 0) dX0_next_93 ⟨by decide, by decide⟩ ?_
    exact Z.iret (ty := .boolean) dX0_next_94 rfl rfl K
  · replace K := K.2 c1
    refine Z.aload_n (k := 0) dX0_next_8 rfl ?_
    refine Y.getR (o := (G 42 3)) 3 dX0_next_9 zl_X0_15 (rfl) (by decide) rfl (zX_0_11 hX).2.2 rfl ?_
    refine Z.ifnull 34 dX0_next_12 rfl ⟨fun c2 => ?_, fun c2 => ?_⟩
    · replace K := K.1 c2
      refine Z.iconst (n := 0) dX0_next_34 ⟨by decide, by decide⟩ ?_
      exact Z.iret (ty := .boolean) dX0_next_35 rfl rfl K
    · replace K := K.2 c2
      refine Z.aload_n (k := 0) dX0_next_15 rfl ?_
      refine Y.getR (o := (G 42 3)) 3 dX0_next_16 zl_X0_15 (rfl) (by decide) rfl (zX_0_11 hX).2.2 rfl ?_
      obtain ⟨b3, e4, hc5, K⟩ := K
      rw [e4]
      obtain ⟨x6, m7, K⟩ := K
      refine Y.callV (g := zm_X1_isThere) (vs := []) (st := []) dX0_next_19 ⟨zg_X1_isThere.1, zg_X1_isThere.2.1, zg_X1_isThere.2.2, by decide⟩ ⟨zk_X0_59, zv_X1_isThere⟩ (ci := 1) (congrArg Prod.fst hc5.1) rfl (hc5.2.1) rfl rfl (Nat.le_of_ble_eq_true rfl) m7 (Or.inl rfl) ?_
      show Z zm_X0_next kz Q 22 [(0, zR 42), (1, zI v1)] [zI x6] (d, G, E)
      refine Z.if_eq 34 dX0_next_22 rfl ⟨fun c9 => ?_, fun c9 => ?_⟩
      · replace K := K.1 c9
        refine Z.iconst (n := 0) dX0_next_34 ⟨by decide, by decide⟩ ?_
        exact Z.iret (ty := .boolean) dX0_next_35 rfl rfl K
      · replace K := K.2 c9
        refine Z.aload_n (k := 0) dX0_next_25 rfl ?_
        refine Y.getI 5 dX0_next_26 zl_X0_23 (rfl) (by decide) rfl (zX_0_11 hX).2.2 ?_
        refine Z.bipush (n := 6) dX0_next_29 ⟨by decide, by decide⟩ (by decide) ?_
        refine Z.icmp_ne 36 dX0_next_31 rfl ⟨fun c10 => ?_, fun c10 => ?_⟩
        · replace K := K.1 c10
          refine Z.aload_n (k := 0) dX0_next_36 rfl ?_
          refine Y.getR (o := (G 42 6)) 6 dX0_next_37 zl_X0_26 (rfl) (by decide) rfl (zX_0_11 hX).2.2 rfl ?_
          refine Z.ifnull 83 dX0_next_40 rfl ⟨fun c11 => ?_, fun c11 => ?_⟩
          · replace K := K.1 c11
            refine Z.aload_n (k := 0) dX0_next_83 rfl ?_
            obtain ⟨G12, E13, m14, K⟩ := K
            refine Y.callV (g := zm_X0_nextPhase) (vs := []) (st := []) dX0_next_84 ⟨zg_X0_nextPhase.1, zg_X0_nextPhase.2.1, zg_X0_nextPhase.2.2, by decide⟩ ⟨zk_X0_71, zv_X0_nextPhase⟩ (ci := 0) (rfl) rfl ((zX_0_11 hX).2.2) rfl rfl (Nat.le_of_ble_eq_true rfl) m14 (Or.inl rfl) ?_
            show Z zm_X0_next kz Q 87 [(0, zR 42), (1, zI v1)] [] (d, G12, E13)
            obtain ⟨hX16, K⟩ := K
            obtain ⟨z17, K⟩ := K
            refine Z.iinc (k := 1) (ls' := [(1, zI ((v1 + 1))), (0, zR 42)]) dX0_next_87 rfl (by decide) z17 rfl ?_
            refine Z.goto 2 dX0_next_90 rfl ?_
            refine Z.pick (ls' := [(0, zR 42), (1, zI ((v1 + 1)))]) [1, 0] rfl ?_
            exact K
          · replace K := K.2 c11
            refine Z.aload_n (k := 0) dX0_next_43 rfl ?_
            refine Y.getR (o := (G 42 7)) 7 dX0_next_44 zl_X0_29 (rfl) (by decide) rfl (zX_0_11 hX).2.2 rfl ?_
            refine Z.ifnull 83 dX0_next_47 rfl ⟨fun c18 => ?_, fun c18 => ?_⟩
            · replace K := K.1 c18
              refine Z.aload_n (k := 0) dX0_next_83 rfl ?_
              obtain ⟨G19, E20, m21, K⟩ := K
              refine Y.callV (g := zm_X0_nextPhase) (vs := []) (st := []) dX0_next_84 ⟨zg_X0_nextPhase.1, zg_X0_nextPhase.2.1, zg_X0_nextPhase.2.2, by decide⟩ ⟨zk_X0_71, zv_X0_nextPhase⟩ (ci := 0) (rfl) rfl ((zX_0_11 hX).2.2) rfl rfl (Nat.le_of_ble_eq_true rfl) m21 (Or.inl rfl) ?_
              show Z zm_X0_next kz Q 87 [(0, zR 42), (1, zI v1)] [] (d, G19, E20)
              obtain ⟨hX23, K⟩ := K
              obtain ⟨z24, K⟩ := K
              refine Z.iinc (k := 1) (ls' := [(1, zI ((v1 + 1))), (0, zR 42)]) dX0_next_87 rfl (by decide) z24 rfl ?_
              refine Z.goto 2 dX0_next_90 rfl ?_
              refine Z.pick (ls' := [(0, zR 42), (1, zI ((v1 + 1)))]) [1, 0] rfl ?_
              exact K
            · replace K := K.2 c18
              refine Z.aload_n (k := 0) dX0_next_50 rfl ?_
              refine Y.getR (o := (G 42 6)) 6 dX0_next_51 zl_X0_26 (rfl) (by decide) rfl (zX_0_11 hX).2.2 rfl ?_
              obtain ⟨b25, e26, hc27, K⟩ := K
              rw [e26]
              obtain ⟨x28, m29, K⟩ := K
              refine Y.callV (g := zm_X1_isThere) (vs := []) (st := []) dX0_next_54 ⟨zg_X1_isThere.1, zg_X1_isThere.2.1, zg_X1_isThere.2.2, by decide⟩ ⟨zk_X0_59, zv_X1_isThere⟩ (ci := 1) (congrArg Prod.fst hc27.1) rfl (hc27.2.1) rfl rfl (Nat.le_of_ble_eq_true rfl) m29 (Or.inl rfl) ?_
              show Z zm_X0_next kz Q 57 [(0, zR 42), (1, zI v1)] [zI x28] (d, G, E)
              refine Z.if_eq 83 dX0_next_57 rfl ⟨fun c31 => ?_, fun c31 => ?_⟩
              · replace K := K.1 c31
                refine Z.aload_n (k := 0) dX0_next_83 rfl ?_
                obtain ⟨G32, E33, m34, K⟩ := K
                refine Y.callV (g := zm_X0_nextPhase) (vs := []) (st := []) dX0_next_84 ⟨zg_X0_nextPhase.1, zg_X0_nextPhase.2.1, zg_X0_nextPhase.2.2, by decide⟩ ⟨zk_X0_71, zv_X0_nextPhase⟩ (ci := 0) (rfl) rfl ((zX_0_11 hX).2.2) rfl rfl (Nat.le_of_ble_eq_true rfl) m34 (Or.inl rfl) ?_
                show Z zm_X0_next kz Q 87 [(0, zR 42), (1, zI v1)] [] (d, G32, E33)
                obtain ⟨hX36, K⟩ := K
                obtain ⟨z37, K⟩ := K
                refine Z.iinc (k := 1) (ls' := [(1, zI ((v1 + 1))), (0, zR 42)]) dX0_next_87 rfl (by decide) z37 rfl ?_
                refine Z.goto 2 dX0_next_90 rfl ?_
                refine Z.pick (ls' := [(0, zR 42), (1, zI ((v1 + 1)))]) [1, 0] rfl ?_
                exact K
              · replace K := K.2 c31
                refine Z.aload_n (k := 0) dX0_next_60 rfl ?_
                refine Y.getR (o := (G 42 7)) 7 dX0_next_61 zl_X0_29 (rfl) (by decide) rfl (zX_0_11 hX).2.2 rfl ?_
                obtain ⟨b38, e39, hc40, K⟩ := K
                rw [e39]
                obtain ⟨x41, m42, K⟩ := K
                refine Y.callV (g := zm_X1_isThere) (vs := []) (st := []) dX0_next_64 ⟨zg_X1_isThere.1, zg_X1_isThere.2.1, zg_X1_isThere.2.2, by decide⟩ ⟨zk_X0_59, zv_X1_isThere⟩ (ci := 1) (congrArg Prod.fst hc40.1) rfl (hc40.2.1) rfl rfl (Nat.le_of_ble_eq_true rfl) m42 (Or.inl rfl) ?_
                show Z zm_X0_next kz Q 67 [(0, zR 42), (1, zI v1)] [zI x41] (d, G, E)
                refine Z.if_eq 83 dX0_next_67 rfl ⟨fun c44 => ?_, fun c44 => ?_⟩
                · replace K := K.1 c44
                  refine Z.aload_n (k := 0) dX0_next_83 rfl ?_
                  obtain ⟨G45, E46, m47, K⟩ := K
                  refine Y.callV (g := zm_X0_nextPhase) (vs := []) (st := []) dX0_next_84 ⟨zg_X0_nextPhase.1, zg_X0_nextPhase.2.1, zg_X0_nextPhase.2.2, by decide⟩ ⟨zk_X0_71, zv_X0_nextPhase⟩ (ci := 0) (rfl) rfl ((zX_0_11 hX).2.2) rfl rfl (Nat.le_of_ble_eq_true rfl) m47 (Or.inl rfl) ?_
                  show Z zm_X0_next kz Q 87 [(0, zR 42), (1, zI v1)] [] (d, G45, E46)
                  obtain ⟨hX49, K⟩ := K
                  obtain ⟨z50, K⟩ := K
                  refine Z.iinc (k := 1) (ls' := [(1, zI ((v1 + 1))), (0, zR 42)]) dX0_next_87 rfl (by decide) z50 rfl ?_
                  refine Z.goto 2 dX0_next_90 rfl ?_
                  refine Z.pick (ls' := [(0, zR 42), (1, zI ((v1 + 1)))]) [1, 0] rfl ?_
                  exact K
                · replace K := K.2 c44
                  refine Z.aload_n (k := 0) dX0_next_70 rfl ?_
                  obtain ⟨x51, E52, m53, K⟩ := K
                  refine Y.callV (g := zm_X0_advance) (vs := []) (st := []) dX0_next_71 ⟨zg_X0_advance.1, zg_X0_advance.2.1, zg_X0_advance.2.2, by decide⟩ ⟨zk_X0_65, zv_X0_advance⟩ (ci := 0) (rfl) rfl ((zX_0_11 hX).2.2) rfl rfl (Nat.le_of_ble_eq_true rfl) m53 (Or.inl rfl) ?_
                  show Z zm_X0_next kz Q 74 [(0, zR 42), (1, zI v1)] [zI x51] (d, G, E52)
                  refine Z.if_eq 83 dX0_next_74 rfl ⟨fun c55 => ?_, fun c55 => ?_⟩
                  · replace K := K.1 c55
                    refine Z.aload_n (k := 0) dX0_next_83 rfl ?_
                    obtain ⟨G56, E57, m58, K⟩ := K
                    refine Y.callV (g := zm_X0_nextPhase) (vs := []) (st := []) dX0_next_84 ⟨zg_X0_nextPhase.1, zg_X0_nextPhase.2.1, zg_X0_nextPhase.2.2, by decide⟩ ⟨zk_X0_71, zv_X0_nextPhase⟩ (ci := 0) (rfl) rfl ((zX_0_11 hX).2.2) rfl rfl (Nat.le_of_ble_eq_true rfl) m58 (Or.inl rfl) ?_
                    show Z zm_X0_next kz Q 87 [(0, zR 42), (1, zI v1)] [] (d, G56, E57)
                    obtain ⟨hX60, K⟩ := K
                    obtain ⟨z61, K⟩ := K
                    refine Z.iinc (k := 1) (ls' := [(1, zI ((v1 + 1))), (0, zR 42)]) dX0_next_87 rfl (by decide) z61 rfl ?_
                    refine Z.goto 2 dX0_next_90 rfl ?_
                    refine Z.pick (ls' := [(0, zR 42), (1, zI ((v1 + 1)))]) [1, 0] rfl ?_
                    exact K
                  · replace K := K.2 c55
                    refine Z.aload_n (k := 0) dX0_next_77 rfl ?_
                    obtain ⟨E62, m63, K⟩ := K
                    refine Y.callV (g := zm_X0_tell) (vs := []) (st := []) dX0_next_78 ⟨zg_X0_tell.1, zg_X0_tell.2.1, zg_X0_tell.2.2, by decide⟩ ⟨zk_X0_68, zv_X0_tell⟩ (ci := 0) (rfl) rfl ((zX_0_11 hX).2.2) rfl rfl (Nat.le_of_ble_eq_true rfl) m63 (Or.inl rfl) ?_
                    show Z zm_X0_next kz Q 81 [(0, zR 42), (1, zI v1)] [] (d, G, E62)
                    refine Z.iconst (n := 1) dX0_next_81 ⟨by decide, by decide⟩ ?_
                    exact Z.iret (ty := .boolean) dX0_next_82 rfl rfl K
        · replace K := K.2 c10
          refine Z.iconst (n := 0) dX0_next_34 ⟨by decide, by decide⟩ ?_
          exact Z.iret (ty := .boolean) dX0_next_35 rfl rfl K
