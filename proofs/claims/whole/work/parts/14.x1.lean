set_option maxRecDepth 20000 in
theorem X1_isThere_0 {kz : Nat × Nat} {Q : Option zV → zH → Prop} {d : List Nat} {G : Nat → Int → Option Nat} {E : Nat → Int → Int} {c0 : Nat} (hX : zK zXt d G) (hc0 : zCk d G c0) (K : ((E c0 6) = 2 → Q (some (zI 0)) (d, G, E)) ∧ (¬ ((E c0 6) = 2) → Q (some (zI 1)) (d, G, E))) : Z zm_X1_isThere kz Q 0 [(0, zR c0)] [] (d, G, E) := by
  refine Z.aload_n (k := 0) dX1_isThere_0 rfl ?_
  refine Y.getI 6 dX1_isThere_1 zl_X1_35 (congrArg Prod.fst hc0.1) (by decide) rfl hc0.2.1 ?_
  refine Z.iconst (n := 2) dX1_isThere_4 ⟨by decide, by decide⟩ ?_
  refine Z.icmp_eq 12 dX1_isThere_5 rfl ⟨fun c1 => ?_, fun c1 => ?_⟩
  · replace K := K.1 c1
    refine Z.iconst (n := 0) dX1_isThere_12 ⟨by decide, by decide⟩ ?_
    exact Z.iret (ty := .boolean) dX1_isThere_13 rfl rfl K
  · replace K := K.2 c1
    refine Z.iconst (n := 1) dX1_isThere_8 ⟨by decide, by decide⟩ ?_
    refine Z.goto 13 dX1_isThere_9 rfl ?_
    exact Z.iret (ty := .boolean) dX1_isThere_13 rfl rfl K
set_option maxRecDepth 20000 in
theorem X1_isPositive_0 {kz : Nat × Nat} {Q : Option zV → zH → Prop} {d : List Nat} {G : Nat → Int → Option Nat} {E : Nat → Int → Int} {c0 : Nat} (hX : zK zXt d G) (hc0 : zCk d G c0) (K : ((E c0 9) ≠ (-1) → Q (some (zI 0)) (d, G, E)) ∧ (¬ ((E c0 9) ≠ (-1)) → Q (some (zI 1)) (d, G, E))) : Z zm_X1_isPositive kz Q 0 [(0, zR c0)] [] (d, G, E) := by
  refine Z.aload_n (k := 0) dX1_isPositive_0 rfl ?_
  refine Y.getI 9 dX1_isPositive_1 zl_X1_44 (congrArg Prod.fst hc0.1) (by decide) rfl hc0.2.1 ?_
  refine Z.iconst (n := -1) dX1_isPositive_4 ⟨by decide, by decide⟩ ?_
  refine Z.icmp_ne 12 dX1_isPositive_5 rfl ⟨fun c1 => ?_, fun c1 => ?_⟩
  · replace K := K.1 c1
    refine Z.iconst (n := 0) dX1_isPositive_12 ⟨by decide, by decide⟩ ?_
    exact Z.iret (ty := .boolean) dX1_isPositive_13 rfl rfl K
  · replace K := K.2 c1
    refine Z.iconst (n := 1) dX1_isPositive_8 ⟨by decide, by decide⟩ ?_
    refine Z.goto 13 dX1_isPositive_9 rfl ?_
    exact Z.iret (ty := .boolean) dX1_isPositive_13 rfl rfl K
set_option maxRecDepth 20000 in
theorem X1_init_0 {kz : Nat × Nat} {Q : Option zV → zH → Prop} {d : List Nat} {G : Nat → Int → Option Nat} {E : Nat → Int → Int} {c0 : Nat} (hk0 : zkd c0 = (4, 14)) (hm0 : c0 ∈ d) (K : ∃ a1, (zkd a1).1 = 5 + 3 ∧ a1 ∉ d ∧ ¬ zst3 a1 ∧ d.length + 1 ≤ kz.1 ∧ zsl d + (zkd a1).2 ≤ kz.2 ∧ ∀ d7 G8 E9, d7 = d ++ [a1] → G8 = zclG G a1 → E9 = zclE E a1 → (∃ d10 G11 E12, zM zm_X5_init [zR a1] (d7, G8, E9) none (d10, G11, E12) ∧ (d10 = d7 ∨ d10.length ≤ kz.1 ∧ zsl d10 ≤ kz.2) ∧ c0 ∈ d10 ∧ a1 ∈ d10 ∧ ∀ G17, G17 = zuG G11 c0 0 (some a1) → ∀ G18, G18 = zuG G17 c0 1 none → ∃ a19, zkd a19 = (0, (7 : Int).toNat) ∧ (0 : Int) ≤ 7 ∧ 7 ≤ (100000 : Int) ∧ a19 ∉ d10 ∧ ¬ zst3 a19 ∧ d10.length + 1 ≤ kz.1 ∧ zsl d10 + (zkd a19).2 ≤ kz.2 ∧ ∀ d27 G28 E29, d27 = d10 ++ [a19] → G28 = zclG G18 a19 → E29 = zclE E12 a19 → (∀ G30, G30 = zuG G28 c0 2 (some a19) → ∃ a31, zkd a31 = (0, (32 : Int).toNat) ∧ (0 : Int) ≤ 32 ∧ 32 ≤ (100000 : Int) ∧ a31 ∉ d27 ∧ ¬ zst3 a31 ∧ d27.length + 1 ≤ kz.1 ∧ zsl d27 + (zkd a31).2 ≤ kz.2 ∧ ∀ d39 G40 E41, d39 = d27 ++ [a31] → G40 = zclG G30 a31 → E41 = zclE E29 a31 → (∀ G42, G42 = zuG G40 c0 3 (some a31) → ∀ E43, E43 = zuE E41 c0 4 0 → ∀ E44, E44 = zuE E43 c0 5 0 → ∀ E45, E45 = zuE E44 c0 6 0 → ∀ E46, E46 = zuE E45 c0 7 ((-1)) → ∀ E47, E47 = zuE E46 c0 8 0 → ∀ E48, E48 = zuE E47 c0 9 ((-1)) → ∀ E49, E49 = zuE E48 c0 10 0 → ∀ E50, E50 = zuE E49 c0 11 0 → ∀ E51, E51 = zuE E50 c0 12 0 → ∀ E52, E52 = zuE E51 c0 13 0 → Q none (d39, G42, E52))))) : Z zm_X1_init kz Q 0 [(0, zR c0)] [] (d, G, E) := by
  refine Z.aload_n (k := 0) dX1_init_0 rfl ?_
  refine Z.objInit (a := c0) dX1_init_1 zk_X1_3 ⟨by decide, by decide⟩ (Nat.le_of_ble_eq_true rfl) ?_
  refine Z.aload_n (k := 0) dX1_init_4 rfl ?_
  obtain ⟨a1, z2, z3, z4, z5, z6, K⟩ := K
  refine Y.new a1 dX1_init_5 zc_X1_9 z2 z3 z4 z5 z6 ?_
  generalize ed7 : d ++ [a1] = d7
  generalize eG8 : zclG G a1 = G8
  generalize eE9 : zclE E a1 = E9
  replace K := K d7 G8 E9 ed7.symm eG8.symm eE9.symm
  refine Z.dup_i dX1_init_8 (fun _ => rfl) ?_
  obtain ⟨d10, G11, E12, m13, z14, K⟩ := K
  refine Y.callI (g := zm_X5_init) (vs := []) (st := [zR a1, zR c0]) dX1_init_9 ⟨zg_X5_init.1, zg_X5_init.2.1, zg_X5_init.2.2, by decide⟩ ⟨Or.inr zk_X1_11, zi_X5_init⟩ rfl rfl rfl rfl (Nat.le_of_ble_eq_true rfl) m13 z14 ?_
  show Z zm_X1_init kz Q 12 [(0, zR c0)] [zR a1, zR c0] (d10, G11, E12)
  obtain ⟨hm15, hm16, K⟩ := K
  refine Y.putR 0 dX1_init_12 zw_X1_12 (fun _ => ⟨rfl, rfl⟩) (congrArg Prod.fst hk0) rfl hm15 (fun b hb => by cases hb; exact hm16) ?_
  generalize eG17 : zuG G11 c0 0 (some a1) = G17
  replace K := K G17 eG17.symm
  refine Z.aload_n (k := 0) dX1_init_15 rfl ?_
  refine Z.null dX1_init_16 ?_
  refine Y.putR 1 dX1_init_17 zw_X1_18 (fun q => by cases q) (congrArg Prod.fst hk0) rfl hm15 (fun b hb => by cases hb) ?_
  generalize eG18 : zuG G17 c0 1 none = G18
  replace K := K G18 eG18.symm
  refine Z.aload_n (k := 0) dX1_init_20 rfl ?_
  refine Z.bipush (n := 7) dX1_init_21 ⟨by decide, by decide⟩ (by decide) ?_
  obtain ⟨a19, z20, z21, z22, z23, z24, z25, z26, K⟩ := K
  refine Y.newI a19 dX1_init_23 z20 z21 z22 zai z23 z24 z25 z26 ?_
  generalize ed27 : d10 ++ [a19] = d27
  generalize eG28 : zclG G18 a19 = G28
  generalize eE29 : zclE E12 a19 = E29
  replace K := K d27 G28 E29 ed27.symm eG28.symm eE29.symm
  refine Y.putR 2 dX1_init_25 zw_X1_21 (fun _ => ⟨rfl, rfl⟩) (congrArg Prod.fst hk0) rfl (by rw [← ed27]; exact List.mem_append_left _ (hm15)) (fun b hb => by cases hb; exact (by rw [← ed27]; exact List.mem_append_right _ List.mem_cons_self)) ?_
  generalize eG30 : zuG G28 c0 2 (some a19) = G30
  replace K := K G30 eG30.symm
  refine Z.aload_n (k := 0) dX1_init_28 rfl ?_
  refine Z.bipush (n := 32) dX1_init_29 ⟨by decide, by decide⟩ (by decide) ?_
  obtain ⟨a31, z32, z33, z34, z35, z36, z37, z38, K⟩ := K
  refine Y.newI a31 dX1_init_31 z32 z33 z34 zai z35 z36 z37 z38 ?_
  generalize ed39 : d27 ++ [a31] = d39
  generalize eG40 : zclG G30 a31 = G40
  generalize eE41 : zclE E29 a31 = E41
  replace K := K d39 G40 E41 ed39.symm eG40.symm eE41.symm
  refine Y.putR 3 dX1_init_33 zw_X1_25 (fun _ => ⟨rfl, rfl⟩) (congrArg Prod.fst hk0) rfl (by rw [← ed39]; exact List.mem_append_left _ ((by rw [← ed27]; exact List.mem_append_left _ (hm15)))) (fun b hb => by cases hb; exact (by rw [← ed39]; exact List.mem_append_right _ List.mem_cons_self)) ?_
  generalize eG42 : zuG G40 c0 3 (some a31) = G42
  replace K := K G42 eG42.symm
  refine Z.aload_n (k := 0) dX1_init_36 rfl ?_
  refine Z.iconst (n := 0) dX1_init_37 ⟨by decide, by decide⟩ ?_
  refine Y.putI 4 dX1_init_38 zw_X1_28 (fun q => by cases q) (congrArg Prod.fst hk0) rfl (by rw [← ed39]; exact List.mem_append_left _ ((by rw [← ed27]; exact List.mem_append_left _ (hm15)))) (Or.inl rfl) ?_
  generalize eE43 : zuE E41 c0 4 0 = E43
  replace K := K E43 eE43.symm
  refine Z.aload_n (k := 0) dX1_init_41 rfl ?_
  refine Z.iconst (n := 0) dX1_init_42 ⟨by decide, by decide⟩ ?_
  refine Y.putI 5 dX1_init_43 zw_X1_32 (fun q => by cases q) (congrArg Prod.fst hk0) rfl (by rw [← ed39]; exact List.mem_append_left _ ((by rw [← ed27]; exact List.mem_append_left _ (hm15)))) (Or.inl rfl) ?_
  generalize eE44 : zuE E43 c0 5 0 = E44
  replace K := K E44 eE44.symm
  refine Z.aload_n (k := 0) dX1_init_46 rfl ?_
  refine Z.iconst (n := 0) dX1_init_47 ⟨by decide, by decide⟩ ?_
  refine Y.putI 6 dX1_init_48 zw_X1_35 (fun q => by cases q) (congrArg Prod.fst hk0) rfl (by rw [← ed39]; exact List.mem_append_left _ ((by rw [← ed27]; exact List.mem_append_left _ (hm15)))) (Or.inl rfl) ?_
  generalize eE45 : zuE E44 c0 6 0 = E45
  replace K := K E45 eE45.symm
  refine Z.aload_n (k := 0) dX1_init_51 rfl ?_
  refine Z.iconst (n := -1) dX1_init_52 ⟨by decide, by decide⟩ ?_
  refine Y.putI 7 dX1_init_53 zw_X1_38 (fun q => by cases q) (congrArg Prod.fst hk0) rfl (by rw [← ed39]; exact List.mem_append_left _ ((by rw [← ed27]; exact List.mem_append_left _ (hm15)))) (Or.inl rfl) ?_
  generalize eE46 : zuE E45 c0 7 ((-1)) = E46
  replace K := K E46 eE46.symm
  refine Z.aload_n (k := 0) dX1_init_56 rfl ?_
  refine Z.iconst (n := 0) dX1_init_57 ⟨by decide, by decide⟩ ?_
  refine Y.putI 8 dX1_init_58 zw_X1_41 (fun q => by cases q) (congrArg Prod.fst hk0) rfl (by rw [← ed39]; exact List.mem_append_left _ ((by rw [← ed27]; exact List.mem_append_left _ (hm15)))) (Or.inl rfl) ?_
  generalize eE47 : zuE E46 c0 8 0 = E47
  replace K := K E47 eE47.symm
  refine Z.aload_n (k := 0) dX1_init_61 rfl ?_
  refine Z.iconst (n := -1) dX1_init_62 ⟨by decide, by decide⟩ ?_
  refine Y.putI 9 dX1_init_63 zw_X1_44 (fun q => by cases q) (congrArg Prod.fst hk0) rfl (by rw [← ed39]; exact List.mem_append_left _ ((by rw [← ed27]; exact List.mem_append_left _ (hm15)))) (Or.inl rfl) ?_
  generalize eE48 : zuE E47 c0 9 ((-1)) = E48
  replace K := K E48 eE48.symm
  refine Z.aload_n (k := 0) dX1_init_66 rfl ?_
  refine Z.iconst (n := 0) dX1_init_67 ⟨by decide, by decide⟩ ?_
  refine Y.putI 10 dX1_init_68 zw_X1_47 (fun q => by cases q) (congrArg Prod.fst hk0) rfl (by rw [← ed39]; exact List.mem_append_left _ ((by rw [← ed27]; exact List.mem_append_left _ (hm15)))) (Or.inl rfl) ?_
  generalize eE49 : zuE E48 c0 10 0 = E49
  replace K := K E49 eE49.symm
  refine Z.aload_n (k := 0) dX1_init_71 rfl ?_
  refine Z.iconst (n := 0) dX1_init_72 ⟨by decide, by decide⟩ ?_
  refine Y.putI 11 dX1_init_73 zw_X1_50 (fun q => by cases q) (congrArg Prod.fst hk0) rfl (by rw [← ed39]; exact List.mem_append_left _ ((by rw [← ed27]; exact List.mem_append_left _ (hm15)))) (Or.inr ⟨rfl, by decide⟩) ?_
  generalize eE50 : zuE E49 c0 11 0 = E50
  replace K := K E50 eE50.symm
  refine Z.aload_n (k := 0) dX1_init_76 rfl ?_
  refine Z.iconst (n := 0) dX1_init_77 ⟨by decide, by decide⟩ ?_
  refine Y.putI 12 dX1_init_78 zw_X1_54 (fun q => by cases q) (congrArg Prod.fst hk0) rfl (by rw [← ed39]; exact List.mem_append_left _ ((by rw [← ed27]; exact List.mem_append_left _ (hm15)))) (Or.inl rfl) ?_
  generalize eE51 : zuE E50 c0 12 0 = E51
  replace K := K E51 eE51.symm
  refine Z.aload_n (k := 0) dX1_init_81 rfl ?_
  refine Z.iconst (n := 0) dX1_init_82 ⟨by decide, by decide⟩ ?_
  refine Y.putI 13 dX1_init_83 zw_X1_57 (fun q => by cases q) (congrArg Prod.fst hk0) rfl (by rw [← ed39]; exact List.mem_append_left _ ((by rw [← ed27]; exact List.mem_append_left _ (hm15)))) (Or.inr ⟨rfl, by decide⟩) ?_
  generalize eE52 : zuE E51 c0 13 0 = E52
  replace K := K E52 eE52.symm
  exact Z.vret dX1_init_86 rfl K
set_option maxRecDepth 20000 in
theorem X1_kind_0 {kz : Nat × Nat} {Q : Option zV → zH → Prop} {d : List Nat} {G : Nat → Int → Option Nat} {E : Nat → Int → Int} {c0 : Nat} (hX : zK zXt d G) (hc0 : zCk d G c0) (K : ((0 : Int) ≤ 0 ∧ 0 < 7) ∧ ((E (c0 + 5) 0) < 0 → Q (some (zI 0)) (d, G, E)) ∧ (¬ ((E (c0 + 5) 0) < 0) → (4 < (E (c0 + 5) 0) → Q (some (zI 0)) (d, G, E)) ∧ (¬ (4 < (E (c0 + 5) 0)) → Q (some (zI ((E (c0 + 5) 0)))) (d, G, E)))) : Z zm_X1_kind kz Q 0 [(0, zR c0)] [] (d, G, E) := by
  refine Z.aload_n (k := 0) dX1_kind_0 rfl ?_
  refine Y.getR (o := some (c0 + 5)) 2 dX1_kind_1 zl_X1_21 (congrArg Prod.fst hc0.1) (by decide) rfl hc0.2.1 hc0.2.2.2.2.2.2.1 ?_
  refine Z.iconst (n := 0) dX1_kind_4 ⟨by decide, by decide⟩ ?_
  obtain ⟨z1, K⟩ := K
  refine Y.iald dX1_kind_5 (hc0.2.2.2.2.1) (hc0.2.2.2.2.2.1) z1 ?_
  refine Z.istore_n (ls' := [(1, zI ((E (c0 + 5) 0))), (0, zR c0)]) dX1_kind_6 (by decide) rfl ?_
  refine Z.iload_n (k := 0) dX1_kind_7 rfl ?_
  refine Z.if_lt 20 dX1_kind_8 rfl ⟨fun c2 => ?_, fun c2 => ?_⟩
  · replace K := K.1 c2
    refine Z.iconst (n := 0) dX1_kind_20 ⟨by decide, by decide⟩ ?_
    exact Z.iret (ty := .int) dX1_kind_21 rfl rfl K
  · replace K := K.2 c2
    refine Z.iload_n (k := 0) dX1_kind_11 rfl ?_
    refine Z.iconst (n := 4) dX1_kind_12 ⟨by decide, by decide⟩ ?_
    refine Z.icmp_gt 20 dX1_kind_13 rfl ⟨fun c3 => ?_, fun c3 => ?_⟩
    · replace K := K.1 c3
      refine Z.iconst (n := 0) dX1_kind_20 ⟨by decide, by decide⟩ ?_
      exact Z.iret (ty := .int) dX1_kind_21 rfl rfl K
    · replace K := K.2 c3
      refine Z.iload_n (k := 0) dX1_kind_16 rfl ?_
      refine Z.goto 21 dX1_kind_17 rfl ?_
      exact Z.iret (ty := .int) dX1_kind_21 rfl rfl K
set_option maxRecDepth 20000 in
theorem X1_hasRewritingNumber_0 {kz : Nat × Nat} {Q : Option zV → zH → Prop} {d : List Nat} {G : Nat → Int → Option Nat} {E : Nat → Int → Int} {c0 : Nat} {v1 : Int} (hX : zK zXt d G) (hc0 : zCk d G c0) (K : (v1 < 11 → Q (some (zI 0)) (d, G, E)) ∧ (¬ (v1 < 11) → zin (4 * (E c0 4)) ∧ zin (11 + (4 * (E c0 4))) ∧ ((11 + (4 * (E c0 4))) ≤ v1 → Q (some (zI 0)) (d, G, E)) ∧ (¬ ((11 + (4 * (E c0 4))) ≤ v1) → Q (some (zI 1)) (d, G, E)))) : Z zm_X1_hasRewritingNumber kz Q 0 [(0, zR c0), (1, zI v1)] [] (d, G, E) := by
  refine Z.iload_n (k := 1) dX1_hasRewritingNumber_0 rfl ?_
  refine Z.bipush (n := 11) dX1_hasRewritingNumber_1 ⟨by decide, by decide⟩ (by decide) ?_
  refine Z.icmp_lt 23 dX1_hasRewritingNumber_3 rfl ⟨fun c1 => ?_, fun c1 => ?_⟩
  · replace K := K.1 c1
    refine Z.iconst (n := 0) dX1_hasRewritingNumber_23 ⟨by decide, by decide⟩ ?_
    exact Z.iret (ty := .boolean) dX1_hasRewritingNumber_24 rfl rfl K
  · replace K := K.2 c1
    refine Z.iload_n (k := 1) dX1_hasRewritingNumber_6 rfl ?_
    refine Z.bipush (n := 11) dX1_hasRewritingNumber_7 ⟨by decide, by decide⟩ (by decide) ?_
    refine Z.iconst (n := 4) dX1_hasRewritingNumber_9 ⟨by decide, by decide⟩ ?_
    refine Z.aload_n (k := 0) dX1_hasRewritingNumber_10 rfl ?_
    refine Y.getI 4 dX1_hasRewritingNumber_11 zl_X1_28 (congrArg Prod.fst hc0.1) (by decide) rfl hc0.2.1 ?_
    obtain ⟨z2, K⟩ := K
    refine Z.imul dX1_hasRewritingNumber_14 z2 ?_
    obtain ⟨z3, K⟩ := K
    refine Z.iadd dX1_hasRewritingNumber_15 z3 ?_
    refine Z.icmp_ge 23 dX1_hasRewritingNumber_16 rfl ⟨fun c4 => ?_, fun c4 => ?_⟩
    · replace K := K.1 c4
      refine Z.iconst (n := 0) dX1_hasRewritingNumber_23 ⟨by decide, by decide⟩ ?_
      exact Z.iret (ty := .boolean) dX1_hasRewritingNumber_24 rfl rfl K
    · replace K := K.2 c4
      refine Z.iconst (n := 1) dX1_hasRewritingNumber_19 ⟨by decide, by decide⟩ ?_
      refine Z.goto 24 dX1_hasRewritingNumber_20 rfl ?_
      exact Z.iret (ty := .boolean) dX1_hasRewritingNumber_24 rfl rfl K
set_option maxRecDepth 20000 in
theorem X1_fill_0 {kz : Nat × Nat} {Q : Option zV → zH → Prop} {d : List Nat} {G : Nat → Int → Option Nat} {E : Nat → Int → Int} {c0 : Nat} {r1 : Nat} {v2 : Int} (hX : zK zXt d G) (hc0 : zCk d G c0) (hr1 : zRk d G r1) (K : ∃ E1, zM zm_X5_copy [zR ((c0 + 1)), zR r1] (d, G, E) none (d, G, E1) ∧ ∀ E4, E4 = zuE E1 c0 10 v2 → ∀ E5, E5 = zuE E4 c0 6 0 → ∀ E6, E6 = zuE E5 c0 7 ((-1)) → ∀ E7, E7 = zuE E6 c0 9 ((-1)) → ∀ E8, E8 = zuE E7 c0 8 0 → Z zm_X1_fill kz Q 39 [(0, zR c0), (3, zR 18), (4, zI 0), (5, zI 0)] [] (d, G, E8)) : Z zm_X1_fill kz Q 0 [(0, zR c0), (1, zR r1), (2, zI v2), (3, zR 18)] [] (d, G, E) := by
  refine Z.aload_n (k := 0) dX1_fill_0 rfl ?_
  refine Y.getR (o := some ((c0 + 1))) 0 dX1_fill_1 zl_X1_12 (congrArg Prod.fst hc0.1) (by decide) rfl hc0.2.1 hc0.2.2.2.1 ?_
  refine Z.aload_n (k := 1) dX1_fill_4 rfl ?_
  obtain ⟨E1, m2, K⟩ := K
  refine Y.callV (g := zm_X5_copy) (vs := [zR r1]) (st := []) dX1_fill_5 ⟨zg_X5_copy.1, zg_X5_copy.2.1, zg_X5_copy.2.2, by decide⟩ ⟨zk_X1_60, zv_X5_copy⟩ (ci := 5) (congrArg Prod.fst hc0.2.2.1.1) rfl (hc0.2.2.1.2.2.2.2.1) rfl rfl (Nat.le_of_ble_eq_true rfl) m2 (Or.inl rfl) ?_
  show Z zm_X1_fill kz Q 8 [(0, zR c0), (1, zR r1), (2, zI v2), (3, zR 18)] [] (d, G, E1)
  refine Z.aload_n (k := 0) dX1_fill_8 rfl ?_
  refine Z.iload_n (k := 2) dX1_fill_9 rfl ?_
  refine Y.putI 10 dX1_fill_10 zw_X1_47 (fun q => by cases q) (congrArg Prod.fst hc0.1) rfl hc0.2.1 (Or.inl rfl) ?_
  generalize eE4 : zuE E1 c0 10 v2 = E4
  replace K := K E4 eE4.symm
  refine Z.aload_n (k := 0) dX1_fill_13 rfl ?_
  refine Z.iconst (n := 0) dX1_fill_14 ⟨by decide, by decide⟩ ?_
  refine Y.putI 6 dX1_fill_15 zw_X1_35 (fun q => by cases q) (congrArg Prod.fst hc0.1) rfl hc0.2.1 (Or.inl rfl) ?_
  generalize eE5 : zuE E4 c0 6 0 = E5
  replace K := K E5 eE5.symm
  refine Z.aload_n (k := 0) dX1_fill_18 rfl ?_
  refine Z.iconst (n := -1) dX1_fill_19 ⟨by decide, by decide⟩ ?_
  refine Y.putI 7 dX1_fill_20 zw_X1_38 (fun q => by cases q) (congrArg Prod.fst hc0.1) rfl hc0.2.1 (Or.inl rfl) ?_
  generalize eE6 : zuE E5 c0 7 ((-1)) = E6
  replace K := K E6 eE6.symm
  refine Z.aload_n (k := 0) dX1_fill_23 rfl ?_
  refine Z.iconst (n := -1) dX1_fill_24 ⟨by decide, by decide⟩ ?_
  refine Y.putI 9 dX1_fill_25 zw_X1_44 (fun q => by cases q) (congrArg Prod.fst hc0.1) rfl hc0.2.1 (Or.inl rfl) ?_
  generalize eE7 : zuE E6 c0 9 ((-1)) = E7
  replace K := K E7 eE7.symm
  refine Z.aload_n (k := 0) dX1_fill_28 rfl ?_
  refine Z.iconst (n := 0) dX1_fill_29 ⟨by decide, by decide⟩ ?_
  refine Y.putI 8 dX1_fill_30 zw_X1_41 (fun q => by cases q) (congrArg Prod.fst hc0.1) rfl hc0.2.1 (Or.inl rfl) ?_
  generalize eE8 : zuE E7 c0 8 0 = E8
  replace K := K E8 eE8.symm
  refine Z.iconst (n := 0) dX1_fill_33 ⟨by decide, by decide⟩ ?_
  refine Z.istore (ls' := [(4, zI 0), (0, zR c0), (1, zR r1), (2, zI v2), (3, zR 18)]) dX1_fill_34 (by decide) rfl ?_
  refine Z.iconst (n := 0) dX1_fill_36 ⟨by decide, by decide⟩ ?_
  refine Z.istore (ls' := [(5, zI 0), (4, zI 0), (0, zR c0), (1, zR r1), (2, zI v2), (3, zR 18)]) dX1_fill_37 (by decide) rfl ?_
  refine Z.pick (ls' := [(0, zR c0), (3, zR 18), (4, zI 0), (5, zI 0)]) [2, 5, 1, 0] rfl ?_
  exact K
set_option maxRecDepth 20000 in
theorem X1_fill_39 {kz : Nat × Nat} {Q : Option zV → zH → Prop} {d : List Nat} {G : Nat → Int → Option Nat} {E : Nat → Int → Int} {c0 : Nat} {v4 : Int} {v5 : Int} (hX : zK zXt d G) (hc0 : zCk d G c0) (K : ((E (c0 + 1) 3) ≤ v5 → Q none (d, G, E)) ∧ (¬ ((E (c0 + 1) 3) ≤ v5) → ((0 : Int) ≤ v5 ∧ v5 < 7) ∧ zin (v5 + 1) ∧ ((0 : Int) ≤ (v5 + 1) ∧ (v5 + 1) < 7) ∧ ∃ x5, zM zm_X6_weigh [zR 18, zR ((c0 + 1) + 1), zI ((E ((c0 + 1) + 2) v5)), zI ((E ((c0 + 1) + 2) (v5 + 1)))] (d, G, E) (some (zI x5)) (d, G, E) ∧ zin ((E c0 8) + x5) ∧ ∀ E9, E9 = zuE E c0 8 (((E c0 8) + x5)) → ((0 : Int) ≤ v5 ∧ v5 < 6) ∧ ((E9 ((c0 + 1) + 3) v5) = 0 → zin (v5 + 1) ∧ Z zm_X1_fill kz Q 39 [(0, zR c0), (3, zR 18), (4, zI v4), (5, zI ((v5 + 1)))] [] (d, G, E9)) ∧ (¬ ((E9 ((c0 + 1) + 3) v5) = 0) → (x5 ≤ v4 → zin (v5 + 1) ∧ Z zm_X1_fill kz Q 39 [(0, zR c0), (3, zR 18), (4, zI v4), (5, zI ((v5 + 1)))] [] (d, G, E9)) ∧ (¬ (x5 ≤ v4) → ∀ E15, E15 = zuE E9 c0 9 v5 → zin (v5 + 1) ∧ Z zm_X1_fill kz Q 39 [(0, zR c0), (3, zR 18), (4, zI x5), (5, zI ((v5 + 1)))] [] (d, G, E15))))) : Z zm_X1_fill kz Q 39 [(0, zR c0), (3, zR 18), (4, zI v4), (5, zI v5)] [] (d, G, E) := by
  refine Z.iload (k := 3) dX1_fill_39 rfl ?_
  refine Z.aload_n (k := 0) dX1_fill_41 rfl ?_
  refine Y.getR (o := some ((c0 + 1))) 0 dX1_fill_42 zl_X1_12 (congrArg Prod.fst hc0.1) (by decide) rfl hc0.2.1 hc0.2.2.2.1 ?_
  refine Y.getI 3 dX1_fill_45 zl_X1_64 (congrArg Prod.fst hc0.2.2.1.1) (by decide) rfl hc0.2.2.1.2.2.2.2.1 ?_
  refine Z.icmp_ge 133 dX1_fill_48 rfl ⟨fun c1 => ?_, fun c1 => ?_⟩
  · replace K := K.1 c1
    exact Z.vret dX1_fill_133 rfl K
  · replace K := K.2 c1
    refine Z.aload_n (k := 1) dX1_fill_51 rfl ?_
    refine Z.aload_n (k := 0) dX1_fill_52 rfl ?_
    refine Y.getR (o := some ((c0 + 1))) 0 dX1_fill_53 zl_X1_12 (congrArg Prod.fst hc0.1) (by decide) rfl hc0.2.1 hc0.2.2.2.1 ?_
    refine Y.getR (o := some ((c0 + 1) + 1)) 0 dX1_fill_56 zl_X1_67 (congrArg Prod.fst hc0.2.2.1.1) (by decide) rfl hc0.2.2.1.2.2.2.2.1 hc0.2.2.1.2.2.2.2.2.2.2.2.1 ?_
    refine Z.aload_n (k := 0) dX1_fill_59 rfl ?_
    refine Y.getR (o := some ((c0 + 1))) 0 dX1_fill_60 zl_X1_12 (congrArg Prod.fst hc0.1) (by decide) rfl hc0.2.1 hc0.2.2.2.1 ?_
    refine Y.getR (o := some ((c0 + 1) + 2)) 1 dX1_fill_63 zl_X1_70 (congrArg Prod.fst hc0.2.2.1.1) (by decide) rfl hc0.2.2.1.2.2.2.2.1 hc0.2.2.1.2.2.2.2.2.2.2.2.2.1 ?_
    refine Z.iload (k := 3) dX1_fill_66 rfl ?_
    obtain ⟨z2, K⟩ := K
    refine Y.iald dX1_fill_68 (hc0.2.2.1.2.2.1) (hc0.2.2.1.2.2.2.2.2.2.1) z2 ?_
    refine Z.aload_n (k := 0) dX1_fill_69 rfl ?_
    refine Y.getR (o := some ((c0 + 1))) 0 dX1_fill_70 zl_X1_12 (congrArg Prod.fst hc0.1) (by decide) rfl hc0.2.1 hc0.2.2.2.1 ?_
    refine Y.getR (o := some ((c0 + 1) + 2)) 1 dX1_fill_73 zl_X1_70 (congrArg Prod.fst hc0.2.2.1.1) (by decide) rfl hc0.2.2.1.2.2.2.2.1 hc0.2.2.1.2.2.2.2.2.2.2.2.2.1 ?_
    refine Z.iload (k := 3) dX1_fill_76 rfl ?_
    refine Z.iconst (n := 1) dX1_fill_78 ⟨by decide, by decide⟩ ?_
    obtain ⟨z3, K⟩ := K
    refine Z.iadd dX1_fill_79 z3 ?_
    obtain ⟨z4, K⟩ := K
    refine Y.iald dX1_fill_80 (hc0.2.2.1.2.2.1) (hc0.2.2.1.2.2.2.2.2.2.1) z4 ?_
    obtain ⟨x5, m6, K⟩ := K
    refine Y.callV (g := zm_X6_weigh) (vs := [zR ((c0 + 1) + 1), zI ((E ((c0 + 1) + 2) v5)), zI ((E ((c0 + 1) + 2) (v5 + 1)))]) (st := []) dX1_fill_81 ⟨zg_X6_weigh.1, zg_X6_weigh.2.1, zg_X6_weigh.2.2, by decide⟩ ⟨zk_X1_73, zv_X6_weigh⟩ (ci := 6) (rfl) rfl ((zX_0_5 hX).2.2) rfl rfl (Nat.le_of_ble_eq_true rfl) m6 (Or.inl rfl) ?_
    show Z zm_X1_fill kz Q 84 [(0, zR c0), (3, zR 18), (4, zI v4), (5, zI v5)] [zI x5] (d, G, E)
    refine Z.istore (ls' := [(6, zI x5), (0, zR c0), (3, zR 18), (4, zI v4), (5, zI v5)]) dX1_fill_84 (by decide) rfl ?_
    refine Z.aload_n (k := 1) dX1_fill_86 rfl ?_
    refine Z.dup_i dX1_fill_87 (fun _ => rfl) ?_
    refine Y.getI 8 dX1_fill_88 zl_X1_41 (congrArg Prod.fst hc0.1) (by decide) rfl hc0.2.1 ?_
    refine Z.iload (k := 0) dX1_fill_91 rfl ?_
    obtain ⟨z8, K⟩ := K
    refine Z.iadd dX1_fill_93 z8 ?_
    refine Y.putI 8 dX1_fill_94 zw_X1_41 (fun q => by cases q) (congrArg Prod.fst hc0.1) rfl hc0.2.1 (Or.inl rfl) ?_
    generalize eE9 : zuE E c0 8 (((E c0 8) + x5)) = E9
    replace K := K E9 eE9.symm
    refine Z.aload_n (k := 1) dX1_fill_97 rfl ?_
    refine Y.getR (o := some ((c0 + 1))) 0 dX1_fill_98 zl_X1_12 (congrArg Prod.fst hc0.1) (by decide) rfl hc0.2.1 hc0.2.2.2.1 ?_
    refine Y.getR (o := some ((c0 + 1) + 3)) 2 dX1_fill_101 zl_X1_79 (congrArg Prod.fst hc0.2.2.1.1) (by decide) rfl hc0.2.2.1.2.2.2.2.1 hc0.2.2.1.2.2.2.2.2.2.2.2.2.2 ?_
    refine Z.iload (k := 4) dX1_fill_104 rfl ?_
    obtain ⟨z10, K⟩ := K
    refine Y.zald dX1_fill_106 (hc0.2.2.1.2.2.2.1) (hc0.2.2.1.2.2.2.2.2.2.2.1) z10 ?_
    refine Z.if_eq 127 dX1_fill_107 rfl ⟨fun c11 => ?_, fun c11 => ?_⟩
    · replace K := K.1 c11
      obtain ⟨z12, K⟩ := K
      refine Z.iinc (k := 4) (ls' := [(5, zI ((v5 + 1))), (6, zI x5), (0, zR c0), (3, zR 18), (4, zI v4)]) dX1_fill_127 rfl (by decide) z12 rfl ?_
      refine Z.goto 39 dX1_fill_130 rfl ?_
      refine Z.pick (ls' := [(0, zR c0), (3, zR 18), (4, zI v4), (5, zI ((v5 + 1)))]) [2, 3, 4, 0] rfl ?_
      exact K
    · replace K := K.2 c11
      refine Z.iload (k := 0) dX1_fill_110 rfl ?_
      refine Z.iload (k := 3) dX1_fill_112 rfl ?_
      refine Z.icmp_le 127 dX1_fill_114 rfl ⟨fun c13 => ?_, fun c13 => ?_⟩
      · replace K := K.1 c13
        obtain ⟨z14, K⟩ := K
        refine Z.iinc (k := 4) (ls' := [(5, zI ((v5 + 1))), (6, zI x5), (0, zR c0), (3, zR 18), (4, zI v4)]) dX1_fill_127 rfl (by decide) z14 rfl ?_
        refine Z.goto 39 dX1_fill_130 rfl ?_
        refine Z.pick (ls' := [(0, zR c0), (3, zR 18), (4, zI v4), (5, zI ((v5 + 1)))]) [2, 3, 4, 0] rfl ?_
        exact K
      · replace K := K.2 c13
        refine Z.iload (k := 0) dX1_fill_117 rfl ?_
        refine Z.istore (ls' := [(4, zI x5), (6, zI x5), (0, zR c0), (3, zR 18), (5, zI v5)]) dX1_fill_119 (by decide) rfl ?_
        refine Z.aload_n (k := 2) dX1_fill_121 rfl ?_
        refine Z.iload (k := 4) dX1_fill_122 rfl ?_
        refine Y.putI 9 dX1_fill_124 zw_X1_44 (fun q => by cases q) (congrArg Prod.fst hc0.1) rfl hc0.2.1 (Or.inl rfl) ?_
        generalize eE15 : zuE E9 c0 9 v5 = E15
        replace K := K E15 eE15.symm
        obtain ⟨z16, K⟩ := K
        refine Z.iinc (k := 4) (ls' := [(5, zI ((v5 + 1))), (4, zI x5), (6, zI x5), (0, zR c0), (3, zR 18)]) dX1_fill_127 rfl (by decide) z16 rfl ?_
        refine Z.goto 39 dX1_fill_130 rfl ?_
        refine Z.pick (ls' := [(0, zR c0), (3, zR 18), (4, zI x5), (5, zI ((v5 + 1)))]) [3, 4, 1, 0] rfl ?_
        exact K
set_option maxRecDepth 20000 in
theorem X1_tellRule_0 {kz : Nat × Nat} {Q : Option zV → zH → Prop} {d : List Nat} {G : Nat → Int → Option Nat} {E : Nat → Int → Int} {c0 : Nat} (hX : zK zXt d G) (hc0 : zCk d G c0) (K : ((E (c0 + 1) 3) ≠ 1 → Z zm_X1_tellRule kz Q 39 [(0, zR c0), (1, zR 1), (2, zR 18)] [zR c0] (d, G, E)) ∧ (¬ ((E (c0 + 1) 3) ≠ 1) → ((0 : Int) ≤ 0 ∧ 0 < 6) ∧ ((E ((c0 + 1) + 3) 0) ≠ 0 → Z zm_X1_tellRule kz Q 39 [(0, zR c0), (1, zR 1), (2, zR 18)] [zR c0] (d, G, E)) ∧ (¬ ((E ((c0 + 1) + 3) 0) ≠ 0) → ∃ x4, zM zm_X5_isEqual [zR ((c0 + 1)), zI 0] (d, G, E) (some (zI x4)) (d, G, E) ∧ (x4 = 0 → Z zm_X1_tellRule kz Q 39 [(0, zR c0), (1, zR 1), (2, zR 18)] [zR c0] (d, G, E)) ∧ (¬ (x4 = 0) → ∀ E8, E8 = zuE E c0 11 1 → ((E8 c0 11) = 0 → ∀ E10, E10 = zuE E8 c0 12 0 → ((E10 c0 11) = 0 → ∀ E12, E12 = zuE E10 c0 13 0 → Q none (d, G, E12)) ∧ (¬ ((E10 c0 11) = 0) → ∃ x13 E14, zM zm_X6_compare [zR 18, zR ((c0 + 1) + 1), zI 1, zR ((c0 + 1) + 1), zI ((E10 c0 12))] (d, G, E10) (some (zI x13)) (d, G, E14) ∧ (x13 ≠ 1 → ∀ E18, E18 = zuE E14 c0 13 0 → Q none (d, G, E18)) ∧ (¬ (x13 ≠ 1) → ∀ E19, E19 = zuE E14 c0 13 1 → Q none (d, G, E19)))) ∧ (¬ ((E8 c0 11) = 0) → ∃ x20, zM zm_X8_after [zR 1, zR ((c0 + 1) + 1), zI 1] (d, G, E8) (some (zI x20)) (d, G, E8) ∧ ∀ E23, E23 = zuE E8 c0 12 x20 → ((E23 c0 11) = 0 → ∀ E25, E25 = zuE E23 c0 13 0 → Q none (d, G, E25)) ∧ (¬ ((E23 c0 11) = 0) → ∃ x26 E27, zM zm_X6_compare [zR 18, zR ((c0 + 1) + 1), zI 1, zR ((c0 + 1) + 1), zI ((E23 c0 12))] (d, G, E23) (some (zI x26)) (d, G, E27) ∧ (x26 ≠ 1 → ∀ E31, E31 = zuE E27 c0 13 0 → Q none (d, G, E31)) ∧ (¬ (x26 ≠ 1) → ∀ E32, E32 = zuE E27 c0 13 1 → Q none (d, G, E32)))))))) : Z zm_X1_tellRule kz Q 0 [(0, zR c0), (1, zR 1), (2, zR 18)] [] (d, G, E) := by
  refine Z.aload_n (k := 0) dX1_tellRule_0 rfl ?_
  refine Z.aload_n (k := 0) dX1_tellRule_1 rfl ?_
  refine Y.getR (o := some ((c0 + 1))) 0 dX1_tellRule_2 zl_X1_12 (congrArg Prod.fst hc0.1) (by decide) rfl hc0.2.1 hc0.2.2.2.1 ?_
  refine Y.getI 3 dX1_tellRule_5 zl_X1_64 (congrArg Prod.fst hc0.2.2.1.1) (by decide) rfl hc0.2.2.1.2.2.2.2.1 ?_
  refine Z.iconst (n := 1) dX1_tellRule_8 ⟨by decide, by decide⟩ ?_
  refine Z.icmp_ne 39 dX1_tellRule_9 rfl ⟨fun c1 => ?_, fun c1 => ?_⟩
  · replace K := K.1 c1
    exact K
  · replace K := K.2 c1
    refine Z.aload_n (k := 0) dX1_tellRule_12 rfl ?_
    refine Y.getR (o := some ((c0 + 1))) 0 dX1_tellRule_13 zl_X1_12 (congrArg Prod.fst hc0.1) (by decide) rfl hc0.2.1 hc0.2.2.2.1 ?_
    refine Y.getR (o := some ((c0 + 1) + 3)) 2 dX1_tellRule_16 zl_X1_79 (congrArg Prod.fst hc0.2.2.1.1) (by decide) rfl hc0.2.2.1.2.2.2.2.1 hc0.2.2.1.2.2.2.2.2.2.2.2.2.2 ?_
    refine Z.iconst (n := 0) dX1_tellRule_19 ⟨by decide, by decide⟩ ?_
    obtain ⟨z2, K⟩ := K
    refine Y.zald dX1_tellRule_20 (hc0.2.2.1.2.2.2.1) (hc0.2.2.1.2.2.2.2.2.2.2.1) z2 ?_
    refine Z.if_ne 39 dX1_tellRule_21 rfl ⟨fun c3 => ?_, fun c3 => ?_⟩
    · replace K := K.1 c3
      exact K
    · replace K := K.2 c3
      refine Z.aload_n (k := 0) dX1_tellRule_24 rfl ?_
      refine Y.getR (o := some ((c0 + 1))) 0 dX1_tellRule_25 zl_X1_12 (congrArg Prod.fst hc0.1) (by decide) rfl hc0.2.1 hc0.2.2.2.1 ?_
      refine Z.iconst (n := 0) dX1_tellRule_28 ⟨by decide, by decide⟩ ?_
      obtain ⟨x4, m5, K⟩ := K
      refine Y.callV (g := zm_X5_isEqual) (vs := [zI 0]) (st := [zR c0]) dX1_tellRule_29 ⟨zg_X5_isEqual.1, zg_X5_isEqual.2.1, zg_X5_isEqual.2.2, by decide⟩ ⟨zk_X1_83, zv_X5_isEqual⟩ (ci := 5) (congrArg Prod.fst hc0.2.2.1.1) rfl (hc0.2.2.1.2.2.2.2.1) rfl rfl (Nat.le_of_ble_eq_true rfl) m5 (Or.inl rfl) ?_
      show Z zm_X1_tellRule kz Q 32 [(0, zR c0), (1, zR 1), (2, zR 18)] [zI x4, zR c0] (d, G, E)
      refine Z.if_eq 39 dX1_tellRule_32 rfl ⟨fun c7 => ?_, fun c7 => ?_⟩
      · replace K := K.1 c7
        exact K
      · replace K := K.2 c7
        refine Z.iconst (n := 1) dX1_tellRule_35 ⟨by decide, by decide⟩ ?_
        refine Z.goto 40 dX1_tellRule_36 rfl ?_
        refine Y.putI 11 dX1_tellRule_40 zw_X1_50 (fun q => by cases q) (congrArg Prod.fst hc0.1) rfl hc0.2.1 (Or.inr ⟨rfl, by decide⟩) ?_
        generalize eE8 : zuE E c0 11 1 = E8
        replace K := K E8 eE8.symm
        refine Z.aload_n (k := 0) dX1_tellRule_43 rfl ?_
        refine Z.aload_n (k := 0) dX1_tellRule_44 rfl ?_
        refine Y.getI 11 dX1_tellRule_45 zl_X1_50 (congrArg Prod.fst hc0.1) (by decide) rfl hc0.2.1 ?_
        refine Z.if_eq 66 dX1_tellRule_48 rfl ⟨fun c9 => ?_, fun c9 => ?_⟩
        · replace K := K.1 c9
          refine Z.iconst (n := 0) dX1_tellRule_66 ⟨by decide, by decide⟩ ?_
          refine Y.putI 12 dX1_tellRule_67 zw_X1_54 (fun q => by cases q) (congrArg Prod.fst hc0.1) rfl hc0.2.1 (Or.inl rfl) ?_
          generalize eE10 : zuE E8 c0 12 0 = E10
          replace K := K E10 eE10.symm
          refine Z.aload_n (k := 0) dX1_tellRule_70 rfl ?_
          refine Z.aload_n (k := 0) dX1_tellRule_71 rfl ?_
          refine Y.getI 11 dX1_tellRule_72 zl_X1_50 (congrArg Prod.fst hc0.1) (by decide) rfl hc0.2.1 ?_
          refine Z.if_eq 109 dX1_tellRule_75 rfl ⟨fun c11 => ?_, fun c11 => ?_⟩
          · replace K := K.1 c11
            refine Z.iconst (n := 0) dX1_tellRule_109 ⟨by decide, by decide⟩ ?_
            refine Y.putI 13 dX1_tellRule_110 zw_X1_57 (fun q => by cases q) (congrArg Prod.fst hc0.1) rfl hc0.2.1 (Or.inr ⟨rfl, by decide⟩) ?_
            generalize eE12 : zuE E10 c0 13 0 = E12
            replace K := K E12 eE12.symm
            exact Z.vret dX1_tellRule_113 rfl K
          · replace K := K.2 c11
            refine Z.aload_n (k := 2) dX1_tellRule_78 rfl ?_
            refine Z.aload_n (k := 0) dX1_tellRule_79 rfl ?_
            refine Y.getR (o := some ((c0 + 1))) 0 dX1_tellRule_80 zl_X1_12 (congrArg Prod.fst hc0.1) (by decide) rfl hc0.2.1 hc0.2.2.2.1 ?_
            refine Y.getR (o := some ((c0 + 1) + 1)) 0 dX1_tellRule_83 zl_X1_67 (congrArg Prod.fst hc0.2.2.1.1) (by decide) rfl hc0.2.2.1.2.2.2.2.1 hc0.2.2.1.2.2.2.2.2.2.2.2.1 ?_
            refine Z.iconst (n := 1) dX1_tellRule_86 ⟨by decide, by decide⟩ ?_
            refine Z.aload_n (k := 0) dX1_tellRule_87 rfl ?_
            refine Y.getR (o := some ((c0 + 1))) 0 dX1_tellRule_88 zl_X1_12 (congrArg Prod.fst hc0.1) (by decide) rfl hc0.2.1 hc0.2.2.2.1 ?_
            refine Y.getR (o := some ((c0 + 1) + 1)) 0 dX1_tellRule_91 zl_X1_67 (congrArg Prod.fst hc0.2.2.1.1) (by decide) rfl hc0.2.2.1.2.2.2.2.1 hc0.2.2.1.2.2.2.2.2.2.2.2.1 ?_
            refine Z.aload_n (k := 0) dX1_tellRule_94 rfl ?_
            refine Y.getI 12 dX1_tellRule_95 zl_X1_54 (congrArg Prod.fst hc0.1) (by decide) rfl hc0.2.1 ?_
            obtain ⟨x13, E14, m15, K⟩ := K
            refine Y.callV (g := zm_X6_compare) (vs := [zR ((c0 + 1) + 1), zI 1, zR ((c0 + 1) + 1), zI ((E10 c0 12))]) (st := [zR c0]) dX1_tellRule_98 ⟨zg_X6_compare.1, zg_X6_compare.2.1, zg_X6_compare.2.2, by decide⟩ ⟨zk_X1_93, zv_X6_compare⟩ (ci := 6) (rfl) rfl ((zX_0_5 hX).2.2) rfl rfl (Nat.le_of_ble_eq_true rfl) m15 (Or.inl rfl) ?_
            show Z zm_X1_tellRule kz Q 101 [(0, zR c0), (1, zR 1), (2, zR 18)] [zI x13, zR c0] (d, G, E14)
            refine Z.iconst (n := 1) dX1_tellRule_101 ⟨by decide, by decide⟩ ?_
            refine Z.icmp_ne 109 dX1_tellRule_102 rfl ⟨fun c17 => ?_, fun c17 => ?_⟩
            · replace K := K.1 c17
              refine Z.iconst (n := 0) dX1_tellRule_109 ⟨by decide, by decide⟩ ?_
              refine Y.putI 13 dX1_tellRule_110 zw_X1_57 (fun q => by cases q) (congrArg Prod.fst hc0.1) rfl hc0.2.1 (Or.inr ⟨rfl, by decide⟩) ?_
              generalize eE18 : zuE E14 c0 13 0 = E18
              replace K := K E18 eE18.symm
              exact Z.vret dX1_tellRule_113 rfl K
            · replace K := K.2 c17
              refine Z.iconst (n := 1) dX1_tellRule_105 ⟨by decide, by decide⟩ ?_
              refine Z.goto 110 dX1_tellRule_106 rfl ?_
              refine Y.putI 13 dX1_tellRule_110 zw_X1_57 (fun q => by cases q) (congrArg Prod.fst hc0.1) rfl hc0.2.1 (Or.inr ⟨rfl, by decide⟩) ?_
              generalize eE19 : zuE E14 c0 13 1 = E19
              replace K := K E19 eE19.symm
              exact Z.vret dX1_tellRule_113 rfl K
        · replace K := K.2 c9
          refine Z.aload_n (k := 1) dX1_tellRule_51 rfl ?_
          refine Z.aload_n (k := 0) dX1_tellRule_52 rfl ?_
          refine Y.getR (o := some ((c0 + 1))) 0 dX1_tellRule_53 zl_X1_12 (congrArg Prod.fst hc0.1) (by decide) rfl hc0.2.1 hc0.2.2.2.1 ?_
          refine Y.getR (o := some ((c0 + 1) + 1)) 0 dX1_tellRule_56 zl_X1_67 (congrArg Prod.fst hc0.2.2.1.1) (by decide) rfl hc0.2.2.1.2.2.2.2.1 hc0.2.2.1.2.2.2.2.2.2.2.2.1 ?_
          refine Z.iconst (n := 1) dX1_tellRule_59 ⟨by decide, by decide⟩ ?_
          obtain ⟨x20, m21, K⟩ := K
          refine Y.callV (g := zm_X8_after) (vs := [zR ((c0 + 1) + 1), zI 1]) (st := [zR c0]) dX1_tellRule_60 ⟨zg_X8_after.1, zg_X8_after.2.1, zg_X8_after.2.2, by decide⟩ ⟨zk_X1_87, zv_X8_after⟩ (ci := 8) (rfl) rfl ((zX_0_0 hX).2.2) rfl rfl (Nat.le_of_ble_eq_true rfl) m21 (Or.inl rfl) ?_
          show Z zm_X1_tellRule kz Q 63 [(0, zR c0), (1, zR 1), (2, zR 18)] [zI x20, zR c0] (d, G, E8)
          refine Z.goto 67 dX1_tellRule_63 rfl ?_
          refine Y.putI 12 dX1_tellRule_67 zw_X1_54 (fun q => by cases q) (congrArg Prod.fst hc0.1) rfl hc0.2.1 (Or.inl rfl) ?_
          generalize eE23 : zuE E8 c0 12 x20 = E23
          replace K := K E23 eE23.symm
          refine Z.aload_n (k := 0) dX1_tellRule_70 rfl ?_
          refine Z.aload_n (k := 0) dX1_tellRule_71 rfl ?_
          refine Y.getI 11 dX1_tellRule_72 zl_X1_50 (congrArg Prod.fst hc0.1) (by decide) rfl hc0.2.1 ?_
          refine Z.if_eq 109 dX1_tellRule_75 rfl ⟨fun c24 => ?_, fun c24 => ?_⟩
          · replace K := K.1 c24
            refine Z.iconst (n := 0) dX1_tellRule_109 ⟨by decide, by decide⟩ ?_
            refine Y.putI 13 dX1_tellRule_110 zw_X1_57 (fun q => by cases q) (congrArg Prod.fst hc0.1) rfl hc0.2.1 (Or.inr ⟨rfl, by decide⟩) ?_
            generalize eE25 : zuE E23 c0 13 0 = E25
            replace K := K E25 eE25.symm
            exact Z.vret dX1_tellRule_113 rfl K
          · replace K := K.2 c24
            refine Z.aload_n (k := 2) dX1_tellRule_78 rfl ?_
            refine Z.aload_n (k := 0) dX1_tellRule_79 rfl ?_
            refine Y.getR (o := some ((c0 + 1))) 0 dX1_tellRule_80 zl_X1_12 (congrArg Prod.fst hc0.1) (by decide) rfl hc0.2.1 hc0.2.2.2.1 ?_
            refine Y.getR (o := some ((c0 + 1) + 1)) 0 dX1_tellRule_83 zl_X1_67 (congrArg Prod.fst hc0.2.2.1.1) (by decide) rfl hc0.2.2.1.2.2.2.2.1 hc0.2.2.1.2.2.2.2.2.2.2.2.1 ?_
            refine Z.iconst (n := 1) dX1_tellRule_86 ⟨by decide, by decide⟩ ?_
            refine Z.aload_n (k := 0) dX1_tellRule_87 rfl ?_
            refine Y.getR (o := some ((c0 + 1))) 0 dX1_tellRule_88 zl_X1_12 (congrArg Prod.fst hc0.1) (by decide) rfl hc0.2.1 hc0.2.2.2.1 ?_
            refine Y.getR (o := some ((c0 + 1) + 1)) 0 dX1_tellRule_91 zl_X1_67 (congrArg Prod.fst hc0.2.2.1.1) (by decide) rfl hc0.2.2.1.2.2.2.2.1 hc0.2.2.1.2.2.2.2.2.2.2.2.1 ?_
            refine Z.aload_n (k := 0) dX1_tellRule_94 rfl ?_
            refine Y.getI 12 dX1_tellRule_95 zl_X1_54 (congrArg Prod.fst hc0.1) (by decide) rfl hc0.2.1 ?_
            obtain ⟨x26, E27, m28, K⟩ := K
            refine Y.callV (g := zm_X6_compare) (vs := [zR ((c0 + 1) + 1), zI 1, zR ((c0 + 1) + 1), zI ((E23 c0 12))]) (st := [zR c0]) dX1_tellRule_98 ⟨zg_X6_compare.1, zg_X6_compare.2.1, zg_X6_compare.2.2, by decide⟩ ⟨zk_X1_93, zv_X6_compare⟩ (ci := 6) (rfl) rfl ((zX_0_5 hX).2.2) rfl rfl (Nat.le_of_ble_eq_true rfl) m28 (Or.inl rfl) ?_
            show Z zm_X1_tellRule kz Q 101 [(0, zR c0), (1, zR 1), (2, zR 18)] [zI x26, zR c0] (d, G, E27)
            refine Z.iconst (n := 1) dX1_tellRule_101 ⟨by decide, by decide⟩ ?_
            refine Z.icmp_ne 109 dX1_tellRule_102 rfl ⟨fun c30 => ?_, fun c30 => ?_⟩
            · replace K := K.1 c30
              refine Z.iconst (n := 0) dX1_tellRule_109 ⟨by decide, by decide⟩ ?_
              refine Y.putI 13 dX1_tellRule_110 zw_X1_57 (fun q => by cases q) (congrArg Prod.fst hc0.1) rfl hc0.2.1 (Or.inr ⟨rfl, by decide⟩) ?_
              generalize eE31 : zuE E27 c0 13 0 = E31
              replace K := K E31 eE31.symm
              exact Z.vret dX1_tellRule_113 rfl K
            · replace K := K.2 c30
              refine Z.iconst (n := 1) dX1_tellRule_105 ⟨by decide, by decide⟩ ?_
              refine Z.goto 110 dX1_tellRule_106 rfl ?_
              refine Y.putI 13 dX1_tellRule_110 zw_X1_57 (fun q => by cases q) (congrArg Prod.fst hc0.1) rfl hc0.2.1 (Or.inr ⟨rfl, by decide⟩) ?_
              generalize eE32 : zuE E27 c0 13 1 = E32
              replace K := K E32 eE32.symm
              exact Z.vret dX1_tellRule_113 rfl K
set_option maxRecDepth 20000 in
theorem X1_tellRule_39 {kz : Nat × Nat} {Q : Option zV → zH → Prop} {d : List Nat} {G : Nat → Int → Option Nat} {E : Nat → Int → Int} {c0 : Nat} {t0 : Option Nat} (hX : zK zXt d G) (hc0 : zCk d G c0) (K : ∃ b1, t0 = some b1 ∧ zCk d G b1 ∧ ∀ E4, E4 = zuE E b1 11 0 → ((E4 c0 11) = 0 → ∀ E6, E6 = zuE E4 c0 12 0 → ((E6 c0 11) = 0 → ∀ E8, E8 = zuE E6 c0 13 0 → Q none (d, G, E8)) ∧ (¬ ((E6 c0 11) = 0) → ∃ x9 E10, zM zm_X6_compare [zR 18, zR ((c0 + 1) + 1), zI 1, zR ((c0 + 1) + 1), zI ((E6 c0 12))] (d, G, E6) (some (zI x9)) (d, G, E10) ∧ (x9 ≠ 1 → ∀ E14, E14 = zuE E10 c0 13 0 → Q none (d, G, E14)) ∧ (¬ (x9 ≠ 1) → ∀ E15, E15 = zuE E10 c0 13 1 → Q none (d, G, E15)))) ∧ (¬ ((E4 c0 11) = 0) → ∃ x16, zM zm_X8_after [zR 1, zR ((c0 + 1) + 1), zI 1] (d, G, E4) (some (zI x16)) (d, G, E4) ∧ ∀ E19, E19 = zuE E4 c0 12 x16 → ((E19 c0 11) = 0 → ∀ E21, E21 = zuE E19 c0 13 0 → Q none (d, G, E21)) ∧ (¬ ((E19 c0 11) = 0) → ∃ x22 E23, zM zm_X6_compare [zR 18, zR ((c0 + 1) + 1), zI 1, zR ((c0 + 1) + 1), zI ((E19 c0 12))] (d, G, E19) (some (zI x22)) (d, G, E23) ∧ (x22 ≠ 1 → ∀ E27, E27 = zuE E23 c0 13 0 → Q none (d, G, E27)) ∧ (¬ (x22 ≠ 1) → ∀ E28, E28 = zuE E23 c0 13 1 → Q none (d, G, E28))))) : Z zm_X1_tellRule kz Q 39 [(0, zR c0), (1, zR 1), (2, zR 18)] [zO t0] (d, G, E) := by
  refine Z.iconst (n := 0) dX1_tellRule_39 ⟨by decide, by decide⟩ ?_
  obtain ⟨b1, e2, hc3, K⟩ := K
  rw [e2]
  refine Y.putI 11 dX1_tellRule_40 zw_X1_50 (fun q => by cases q) (congrArg Prod.fst hc3.1) rfl hc3.2.1 (Or.inr ⟨rfl, by decide⟩) ?_
  generalize eE4 : zuE E b1 11 0 = E4
  replace K := K E4 eE4.symm
  refine Z.aload_n (k := 0) dX1_tellRule_43 rfl ?_
  refine Z.aload_n (k := 0) dX1_tellRule_44 rfl ?_
  refine Y.getI 11 dX1_tellRule_45 zl_X1_50 (congrArg Prod.fst hc0.1) (by decide) rfl hc0.2.1 ?_
  refine Z.if_eq 66 dX1_tellRule_48 rfl ⟨fun c5 => ?_, fun c5 => ?_⟩
  · replace K := K.1 c5
    refine Z.iconst (n := 0) dX1_tellRule_66 ⟨by decide, by decide⟩ ?_
    refine Y.putI 12 dX1_tellRule_67 zw_X1_54 (fun q => by cases q) (congrArg Prod.fst hc0.1) rfl hc0.2.1 (Or.inl rfl) ?_
    generalize eE6 : zuE E4 c0 12 0 = E6
    replace K := K E6 eE6.symm
    refine Z.aload_n (k := 0) dX1_tellRule_70 rfl ?_
    refine Z.aload_n (k := 0) dX1_tellRule_71 rfl ?_
    refine Y.getI 11 dX1_tellRule_72 zl_X1_50 (congrArg Prod.fst hc0.1) (by decide) rfl hc0.2.1 ?_
    refine Z.if_eq 109 dX1_tellRule_75 rfl ⟨fun c7 => ?_, fun c7 => ?_⟩
    · replace K := K.1 c7
      refine Z.iconst (n := 0) dX1_tellRule_109 ⟨by decide, by decide⟩ ?_
      refine Y.putI 13 dX1_tellRule_110 zw_X1_57 (fun q => by cases q) (congrArg Prod.fst hc0.1) rfl hc0.2.1 (Or.inr ⟨rfl, by decide⟩) ?_
      generalize eE8 : zuE E6 c0 13 0 = E8
      replace K := K E8 eE8.symm
      exact Z.vret dX1_tellRule_113 rfl K
    · replace K := K.2 c7
      refine Z.aload_n (k := 2) dX1_tellRule_78 rfl ?_
      refine Z.aload_n (k := 0) dX1_tellRule_79 rfl ?_
      refine Y.getR (o := some ((c0 + 1))) 0 dX1_tellRule_80 zl_X1_12 (congrArg Prod.fst hc0.1) (by decide) rfl hc0.2.1 hc0.2.2.2.1 ?_
      refine Y.getR (o := some ((c0 + 1) + 1)) 0 dX1_tellRule_83 zl_X1_67 (congrArg Prod.fst hc0.2.2.1.1) (by decide) rfl hc0.2.2.1.2.2.2.2.1 hc0.2.2.1.2.2.2.2.2.2.2.2.1 ?_
      refine Z.iconst (n := 1) dX1_tellRule_86 ⟨by decide, by decide⟩ ?_
      refine Z.aload_n (k := 0) dX1_tellRule_87 rfl ?_
      refine Y.getR (o := some ((c0 + 1))) 0 dX1_tellRule_88 zl_X1_12 (congrArg Prod.fst hc0.1) (by decide) rfl hc0.2.1 hc0.2.2.2.1 ?_
      refine Y.getR (o := some ((c0 + 1) + 1)) 0 dX1_tellRule_91 zl_X1_67 (congrArg Prod.fst hc0.2.2.1.1) (by decide) rfl hc0.2.2.1.2.2.2.2.1 hc0.2.2.1.2.2.2.2.2.2.2.2.1 ?_
      refine Z.aload_n (k := 0) dX1_tellRule_94 rfl ?_
      refine Y.getI 12 dX1_tellRule_95 zl_X1_54 (congrArg Prod.fst hc0.1) (by decide) rfl hc0.2.1 ?_
      obtain ⟨x9, E10, m11, K⟩ := K
      refine Y.callV (g := zm_X6_compare) (vs := [zR ((c0 + 1) + 1), zI 1, zR ((c0 + 1) + 1), zI ((E6 c0 12))]) (st := [zR c0]) dX1_tellRule_98 ⟨zg_X6_compare.1, zg_X6_compare.2.1, zg_X6_compare.2.2, by decide⟩ ⟨zk_X1_93, zv_X6_compare⟩ (ci := 6) (rfl) rfl ((zX_0_5 hX).2.2) rfl rfl (Nat.le_of_ble_eq_true rfl) m11 (Or.inl rfl) ?_
      show Z zm_X1_tellRule kz Q 101 [(0, zR c0), (1, zR 1), (2, zR 18)] [zI x9, zR c0] (d, G, E10)
      refine Z.iconst (n := 1) dX1_tellRule_101 ⟨by decide, by decide⟩ ?_
      refine Z.icmp_ne 109 dX1_tellRule_102 rfl ⟨fun c13 => ?_, fun c13 => ?_⟩
      · replace K := K.1 c13
        refine Z.iconst (n := 0) dX1_tellRule_109 ⟨by decide, by decide⟩ ?_
        refine Y.putI 13 dX1_tellRule_110 zw_X1_57 (fun q => by cases q) (congrArg Prod.fst hc0.1) rfl hc0.2.1 (Or.inr ⟨rfl, by decide⟩) ?_
        generalize eE14 : zuE E10 c0 13 0 = E14
        replace K := K E14 eE14.symm
        exact Z.vret dX1_tellRule_113 rfl K
      · replace K := K.2 c13
        refine Z.iconst (n := 1) dX1_tellRule_105 ⟨by decide, by decide⟩ ?_
        refine Z.goto 110 dX1_tellRule_106 rfl ?_
        refine Y.putI 13 dX1_tellRule_110 zw_X1_57 (fun q => by cases q) (congrArg Prod.fst hc0.1) rfl hc0.2.1 (Or.inr ⟨rfl, by decide⟩) ?_
        generalize eE15 : zuE E10 c0 13 1 = E15
        replace K := K E15 eE15.symm
        exact Z.vret dX1_tellRule_113 rfl K
  · replace K := K.2 c5
    refine Z.aload_n (k := 1) dX1_tellRule_51 rfl ?_
    refine Z.aload_n (k := 0) dX1_tellRule_52 rfl ?_
    refine Y.getR (o := some ((c0 + 1))) 0 dX1_tellRule_53 zl_X1_12 (congrArg Prod.fst hc0.1) (by decide) rfl hc0.2.1 hc0.2.2.2.1 ?_
    refine Y.getR (o := some ((c0 + 1) + 1)) 0 dX1_tellRule_56 zl_X1_67 (congrArg Prod.fst hc0.2.2.1.1) (by decide) rfl hc0.2.2.1.2.2.2.2.1 hc0.2.2.1.2.2.2.2.2.2.2.2.1 ?_
    refine Z.iconst (n := 1) dX1_tellRule_59 ⟨by decide, by decide⟩ ?_
    obtain ⟨x16, m17, K⟩ := K
    refine Y.callV (g := zm_X8_after) (vs := [zR ((c0 + 1) + 1), zI 1]) (st := [zR c0]) dX1_tellRule_60 ⟨zg_X8_after.1, zg_X8_after.2.1, zg_X8_after.2.2, by decide⟩ ⟨zk_X1_87, zv_X8_after⟩ (ci := 8) (rfl) rfl ((zX_0_0 hX).2.2) rfl rfl (Nat.le_of_ble_eq_true rfl) m17 (Or.inl rfl) ?_
    show Z zm_X1_tellRule kz Q 63 [(0, zR c0), (1, zR 1), (2, zR 18)] [zI x16, zR c0] (d, G, E4)
    refine Z.goto 67 dX1_tellRule_63 rfl ?_
    refine Y.putI 12 dX1_tellRule_67 zw_X1_54 (fun q => by cases q) (congrArg Prod.fst hc0.1) rfl hc0.2.1 (Or.inl rfl) ?_
    generalize eE19 : zuE E4 c0 12 x16 = E19
    replace K := K E19 eE19.symm
    refine Z.aload_n (k := 0) dX1_tellRule_70 rfl ?_
    refine Z.aload_n (k := 0) dX1_tellRule_71 rfl ?_
    refine Y.getI 11 dX1_tellRule_72 zl_X1_50 (congrArg Prod.fst hc0.1) (by decide) rfl hc0.2.1 ?_
    refine Z.if_eq 109 dX1_tellRule_75 rfl ⟨fun c20 => ?_, fun c20 => ?_⟩
    · replace K := K.1 c20
      refine Z.iconst (n := 0) dX1_tellRule_109 ⟨by decide, by decide⟩ ?_
      refine Y.putI 13 dX1_tellRule_110 zw_X1_57 (fun q => by cases q) (congrArg Prod.fst hc0.1) rfl hc0.2.1 (Or.inr ⟨rfl, by decide⟩) ?_
      generalize eE21 : zuE E19 c0 13 0 = E21
      replace K := K E21 eE21.symm
      exact Z.vret dX1_tellRule_113 rfl K
    · replace K := K.2 c20
      refine Z.aload_n (k := 2) dX1_tellRule_78 rfl ?_
      refine Z.aload_n (k := 0) dX1_tellRule_79 rfl ?_
      refine Y.getR (o := some ((c0 + 1))) 0 dX1_tellRule_80 zl_X1_12 (congrArg Prod.fst hc0.1) (by decide) rfl hc0.2.1 hc0.2.2.2.1 ?_
      refine Y.getR (o := some ((c0 + 1) + 1)) 0 dX1_tellRule_83 zl_X1_67 (congrArg Prod.fst hc0.2.2.1.1) (by decide) rfl hc0.2.2.1.2.2.2.2.1 hc0.2.2.1.2.2.2.2.2.2.2.2.1 ?_
      refine Z.iconst (n := 1) dX1_tellRule_86 ⟨by decide, by decide⟩ ?_
      refine Z.aload_n (k := 0) dX1_tellRule_87 rfl ?_
      refine Y.getR (o := some ((c0 + 1))) 0 dX1_tellRule_88 zl_X1_12 (congrArg Prod.fst hc0.1) (by decide) rfl hc0.2.1 hc0.2.2.2.1 ?_
      refine Y.getR (o := some ((c0 + 1) + 1)) 0 dX1_tellRule_91 zl_X1_67 (congrArg Prod.fst hc0.2.2.1.1) (by decide) rfl hc0.2.2.1.2.2.2.2.1 hc0.2.2.1.2.2.2.2.2.2.2.2.1 ?_
      refine Z.aload_n (k := 0) dX1_tellRule_94 rfl ?_
      refine Y.getI 12 dX1_tellRule_95 zl_X1_54 (congrArg Prod.fst hc0.1) (by decide) rfl hc0.2.1 ?_
      obtain ⟨x22, E23, m24, K⟩ := K
      refine Y.callV (g := zm_X6_compare) (vs := [zR ((c0 + 1) + 1), zI 1, zR ((c0 + 1) + 1), zI ((E19 c0 12))]) (st := [zR c0]) dX1_tellRule_98 ⟨zg_X6_compare.1, zg_X6_compare.2.1, zg_X6_compare.2.2, by decide⟩ ⟨zk_X1_93, zv_X6_compare⟩ (ci := 6) (rfl) rfl ((zX_0_5 hX).2.2) rfl rfl (Nat.le_of_ble_eq_true rfl) m24 (Or.inl rfl) ?_
      show Z zm_X1_tellRule kz Q 101 [(0, zR c0), (1, zR 1), (2, zR 18)] [zI x22, zR c0] (d, G, E23)
      refine Z.iconst (n := 1) dX1_tellRule_101 ⟨by decide, by decide⟩ ?_
      refine Z.icmp_ne 109 dX1_tellRule_102 rfl ⟨fun c26 => ?_, fun c26 => ?_⟩
      · replace K := K.1 c26
        refine Z.iconst (n := 0) dX1_tellRule_109 ⟨by decide, by decide⟩ ?_
        refine Y.putI 13 dX1_tellRule_110 zw_X1_57 (fun q => by cases q) (congrArg Prod.fst hc0.1) rfl hc0.2.1 (Or.inr ⟨rfl, by decide⟩) ?_
        generalize eE27 : zuE E23 c0 13 0 = E27
        replace K := K E27 eE27.symm
        exact Z.vret dX1_tellRule_113 rfl K
      · replace K := K.2 c26
        refine Z.iconst (n := 1) dX1_tellRule_105 ⟨by decide, by decide⟩ ?_
        refine Z.goto 110 dX1_tellRule_106 rfl ?_
        refine Y.putI 13 dX1_tellRule_110 zw_X1_57 (fun q => by cases q) (congrArg Prod.fst hc0.1) rfl hc0.2.1 (Or.inr ⟨rfl, by decide⟩) ?_
        generalize eE28 : zuE E23 c0 13 1 = E28
        replace K := K E28 eE28.symm
        exact Z.vret dX1_tellRule_113 rfl K
set_option maxRecDepth 20000 in
theorem X1_tellStep_0 {kz : Nat × Nat} {Q : Option zV → zH → Prop} {d : List Nat} {G : Nat → Int → Option Nat} {E : Nat → Int → Int} {c0 : Nat} {a1 n1 : Nat} {r3 : Nat} (hX : zK zXt d G) (hc0 : zCk d G c0) (ha1 : a1 ∈ d) (hk1 : zkd a1 = (0, n1)) (hr3 : zRk d G r3) (K : ((0 : Int) ≤ 0 ∧ (0 : Int) ≤ 0 ∧ (0 : Int) ≤ 7 ∧ 0 + 7 ≤ n1 ∧ 0 + 7 ≤ 7) ∧ ∀ E2, E2 = zcpE E a1 0 (c0 + 5) 0 7 → ∀ E3, E3 = zuE E2 c0 4 ((E2 36 11)) → zin (4 * (E3 c0 4)) ∧ ((0 : Int) ≤ 0 ∧ (0 : Int) ≤ 0 ∧ (0 : Int) ≤ (4 * (E3 c0 4)) ∧ 0 + (4 * (E3 c0 4)) ≤ 32 ∧ 0 + (4 * (E3 c0 4)) ≤ 32) ∧ ∀ E6, E6 = zcpE E3 40 0 (c0 + 6) 0 ((4 * (E3 c0 4))) → ∃ x7, zM zm_X1_kind [zR c0] (d, G, E6) (some (zI x7)) (d, G, E6) ∧ (x7 ≠ 0 → Q none (d, G, E6)) ∧ (¬ (x7 ≠ 0) → ((G c0 1) ≠ none → ∃ b12, (G c0 1) = some b12 ∧ zRk d G b12 ∧ ∃ E15, zM zm_X5_copy [zR b12, zR r3] (d, G, E6) none (d, G, E15) ∧ Q none (d, G, E15)) ∧ (¬ ((G c0 1) ≠ none) → ∃ a18, (zkd a18).1 = 5 + 3 ∧ a18 ∉ d ∧ ¬ zst3 a18 ∧ d.length + 1 ≤ kz.1 ∧ zsl d + (zkd a18).2 ≤ kz.2 ∧ ∀ d24 G25 E26, d24 = d ++ [a18] → G25 = zclG G a18 → E26 = zclE E6 a18 → zK zXt d24 G25 ∧ zCk d24 G25 c0 ∧ zRk d24 G25 r3 ∧ (∃ d30 G31 E32, zM zm_X5_init [zR a18] (d24, G25, E26) none (d30, G31, E32) ∧ (d30 = d24 ∨ d30.length ≤ kz.1 ∧ zsl d30 ≤ kz.2) ∧ zK zXt d30 G31 ∧ zCk d30 G31 c0 ∧ zRk d30 G31 r3 ∧ ∀ G38, G38 = zuG G31 c0 1 (some a18) → zK zXt d30 G38 ∧ zCk d30 G38 c0 ∧ zRk d30 G38 r3 ∧ ∃ b42, (G38 c0 1) = some b42 ∧ zRk d30 G38 b42 ∧ ∃ E45, zM zm_X5_copy [zR b42, zR r3] (d30, G38, E32) none (d30, G38, E45) ∧ Q none (d30, G38, E45))))) : Z zm_X1_tellStep kz Q 0 [(0, zR c0), (1, zR a1), (2, zR 36), (3, zR r3)] [] (d, G, E) := by
  refine Z.aload_n (k := 1) dX1_tellStep_0 rfl ?_
  refine Z.iconst (n := 0) dX1_tellStep_1 ⟨by decide, by decide⟩ ?_
  refine Z.aload_n (k := 0) dX1_tellStep_2 rfl ?_
  refine Y.getR (o := some (c0 + 5)) 2 dX1_tellStep_3 zl_X1_21 (congrArg Prod.fst hc0.1) (by decide) rfl hc0.2.1 hc0.2.2.2.2.2.2.1 ?_
  refine Z.iconst (n := 0) dX1_tellStep_6 ⟨by decide, by decide⟩ ?_
  refine Z.bipush (n := 7) dX1_tellStep_7 ⟨by decide, by decide⟩ (by decide) ?_
  obtain ⟨z1, K⟩ := K
  refine Y.copy dX1_tellStep_9 zk_X1_97 zcopy ⟨by decide, by decide⟩ (Nat.le_of_ble_eq_true rfl) (hk1) (hc0.2.2.2.2.1) (ha1) (hc0.2.2.2.2.2.1) z1 ?_
  generalize eE2 : zcpE E a1 0 (c0 + 5) 0 7 = E2
  replace K := K E2 eE2.symm
  refine Z.aload_n (k := 0) dX1_tellStep_12 rfl ?_
  refine Z.aload_n (k := 2) dX1_tellStep_13 rfl ?_
  refine Y.getI 11 dX1_tellStep_14 zl_X1_103 (rfl) (by decide) rfl (zX_0_9 hX).2.2 ?_
  refine Y.putI 4 dX1_tellStep_17 zw_X1_28 (fun q => by cases q) (congrArg Prod.fst hc0.1) rfl hc0.2.1 (Or.inl rfl) ?_
  generalize eE3 : zuE E2 c0 4 ((E2 36 11)) = E3
  replace K := K E3 eE3.symm
  refine Z.aload_n (k := 2) dX1_tellStep_20 rfl ?_
  refine Y.getR (o := some 40) 10 dX1_tellStep_21 zl_X1_108 (rfl) (by decide) rfl (zX_0_9 hX).2.2 (zX_36_10 hX).1 ?_
  refine Z.iconst (n := 0) dX1_tellStep_24 ⟨by decide, by decide⟩ ?_
  refine Z.aload_n (k := 0) dX1_tellStep_25 rfl ?_
  refine Y.getR (o := some (c0 + 6)) 3 dX1_tellStep_26 zl_X1_25 (congrArg Prod.fst hc0.1) (by decide) rfl hc0.2.1 hc0.2.2.2.2.2.2.2.2.2 ?_
  refine Z.iconst (n := 0) dX1_tellStep_29 ⟨by decide, by decide⟩ ?_
  refine Z.iconst (n := 4) dX1_tellStep_30 ⟨by decide, by decide⟩ ?_
  refine Z.aload_n (k := 0) dX1_tellStep_31 rfl ?_
  refine Y.getI 4 dX1_tellStep_32 zl_X1_28 (congrArg Prod.fst hc0.1) (by decide) rfl hc0.2.1 ?_
  obtain ⟨z4, K⟩ := K
  refine Z.imul dX1_tellStep_35 z4 ?_
  obtain ⟨z5, K⟩ := K
  refine Y.copy dX1_tellStep_36 zk_X1_97 zcopy ⟨by decide, by decide⟩ (Nat.le_of_ble_eq_true rfl) (rfl) (hc0.2.2.2.2.2.2.2.1) ((zX_36_10 hX).2.2) (hc0.2.2.2.2.2.2.2.2.1) z5 ?_
  generalize eE6 : zcpE E3 40 0 (c0 + 6) 0 ((4 * (E3 c0 4))) = E6
  replace K := K E6 eE6.symm
  refine Z.aload_n (k := 0) dX1_tellStep_39 rfl ?_
  obtain ⟨x7, m8, K⟩ := K
  refine Y.callV (g := zm_X1_kind) (vs := []) (st := []) dX1_tellStep_40 ⟨zg_X1_kind.1, zg_X1_kind.2.1, zg_X1_kind.2.2, by decide⟩ ⟨zk_X1_111, zv_X1_kind⟩ (ci := 1) (congrArg Prod.fst hc0.1) rfl (hc0.2.1) rfl rfl (Nat.le_of_ble_eq_true rfl) m8 (Or.inl rfl) ?_
  show Z zm_X1_tellStep kz Q 43 [(0, zR c0), (1, zR a1), (2, zR 36), (3, zR r3)] [zI x7] (d, G, E6)
  refine Z.if_ne 72 dX1_tellStep_43 rfl ⟨fun c10 => ?_, fun c10 => ?_⟩
  · replace K := K.1 c10
    exact Z.vret dX1_tellStep_72 rfl K
  · replace K := K.2 c10
    refine Z.aload_n (k := 0) dX1_tellStep_46 rfl ?_
    refine Y.getR (o := (G c0 1)) 1 dX1_tellStep_47 zl_X1_18 (congrArg Prod.fst hc0.1) (by decide) rfl hc0.2.1 rfl ?_
    refine Z.ifnonnull 64 dX1_tellStep_50 rfl ⟨fun c11 => ?_, fun c11 => ?_⟩
    · replace K := K.1 c11
      refine Z.aload_n (k := 0) dX1_tellStep_64 rfl ?_
      refine Y.getR (o := (G c0 1)) 1 dX1_tellStep_65 zl_X1_18 (congrArg Prod.fst hc0.1) (by decide) rfl hc0.2.1 rfl ?_
      refine Z.aload_n (k := 3) dX1_tellStep_68 rfl ?_
      obtain ⟨b12, e13, hr14, K⟩ := K
      rw [e13]
      obtain ⟨E15, m16, K⟩ := K
      refine Y.callV (g := zm_X5_copy) (vs := [zR r3]) (st := []) dX1_tellStep_69 ⟨zg_X5_copy.1, zg_X5_copy.2.1, zg_X5_copy.2.2, by decide⟩ ⟨zk_X1_60, zv_X5_copy⟩ (ci := 5) (congrArg Prod.fst hr14.1) rfl (hr14.2.2.2.2.1) rfl rfl (Nat.le_of_ble_eq_true rfl) m16 (Or.inl rfl) ?_
      show Z zm_X1_tellStep kz Q 72 [(0, zR c0), (1, zR a1), (2, zR 36), (3, zR r3)] [] (d, G, E15)
      exact Z.vret dX1_tellStep_72 rfl K
    · replace K := K.2 c11
      refine Z.aload_n (k := 0) dX1_tellStep_53 rfl ?_
      obtain ⟨a18, z19, z20, z21, z22, z23, K⟩ := K
      refine Y.new a18 dX1_tellStep_54 zc_X1_9 z19 z20 z21 z22 z23 ?_
      generalize ed24 : d ++ [a18] = d24
      generalize eG25 : zclG G a18 = G25
      generalize eE26 : zclE E6 a18 = E26
      replace K := K d24 G25 E26 ed24.symm eG25.symm eE26.symm
      obtain ⟨hX27, hc28, hr29, K⟩ := K
      refine Z.dup_i dX1_tellStep_57 (fun _ => rfl) ?_
      obtain ⟨d30, G31, E32, m33, z34, K⟩ := K
      refine Y.callI (g := zm_X5_init) (vs := []) (st := [zR a18, zR c0]) dX1_tellStep_58 ⟨zg_X5_init.1, zg_X5_init.2.1, zg_X5_init.2.2, by decide⟩ ⟨Or.inr zk_X1_11, zi_X5_init⟩ rfl rfl rfl rfl (Nat.le_of_ble_eq_true rfl) m33 z34 ?_
      show Z zm_X1_tellStep kz Q 61 [(0, zR c0), (1, zR a1), (2, zR 36), (3, zR r3)] [zR a18, zR c0] (d30, G31, E32)
      obtain ⟨hX35, hc36, hr37, K⟩ := K
      refine Y.putR 1 dX1_tellStep_61 zw_X1_18 (fun q => by cases q) (congrArg Prod.fst hc36.1) rfl hc36.2.1 (fun b hb => by cases hb; exact (by rw [← ed24]; exact List.mem_append_right _ List.mem_cons_self)) ?_
      generalize eG38 : zuG G31 c0 1 (some a18) = G38
      replace K := K G38 eG38.symm
      obtain ⟨hX39, hc40, hr41, K⟩ := K
      refine Z.aload_n (k := 0) dX1_tellStep_64 rfl ?_
      refine Y.getR (o := (G38 c0 1)) 1 dX1_tellStep_65 zl_X1_18 (congrArg Prod.fst hc40.1) (by decide) rfl hc40.2.1 rfl ?_
      refine Z.aload_n (k := 3) dX1_tellStep_68 rfl ?_
      obtain ⟨b42, e43, hr44, K⟩ := K
      rw [e43]
      obtain ⟨E45, m46, K⟩ := K
      refine Y.callV (g := zm_X5_copy) (vs := [zR r3]) (st := []) dX1_tellStep_69 ⟨zg_X5_copy.1, zg_X5_copy.2.1, zg_X5_copy.2.2, by decide⟩ ⟨zk_X1_60, zv_X5_copy⟩ (ci := 5) (congrArg Prod.fst hr44.1) rfl (hr44.2.2.2.2.1) rfl rfl (Nat.le_of_ble_eq_true rfl) m46 (Or.inl rfl) ?_
      show Z zm_X1_tellStep kz Q 72 [(0, zR c0), (1, zR a1), (2, zR 36), (3, zR r3)] [] (d30, G38, E45)
      exact Z.vret dX1_tellStep_72 rfl K
