set_option maxRecDepth 20000 in
theorem X9_layFirst_0 {kz : Nat × Nat} {Q : Option zV → zH → Prop} {d : List Nat} {G : Nat → Int → Option Nat} {E : Nat → Int → Int} {r1 : Nat} (hX : zK zXt d G) (hr1 : zRk d G r1) (K : ((0 : Int) ≤ (E r1 3) ∧ (E r1 3) < (7 : Int)) ∧ ((0 : Int) ≤ 0 ∧ (0 : Int) ≤ 0 ∧ (0 : Int) ≤ (E (r1 + 2) (E r1 3)) ∧ 0 + (E (r1 + 2) (E r1 3)) ≤ (180 : Int) ∧ 0 + (E (r1 + 2) (E r1 3)) ≤ (360 : Int)) ∧ ∀ E_3, E_3 = zcpE E (r1 + 1) 0 21 0 ((E (r1 + 2) (E r1 3))) → Q none (d, G, E_3)) : Z zm_X9_layFirst kz Q 0 [(0, zR 20), (1, zR r1)] [] (d, G, E) := by
  refine Z.aload_n (k := 1) dX9_layFirst_0 rfl ?_
  refine Y.getR (o := some (r1 + 1)) 0 dX9_layFirst_1 zl_X9_65 (congrArg Prod.fst hr1.1) (by decide) rfl hr1.2.2.2.2.1 hr1.2.2.2.2.2.2.2.2.1 ?_
  refine Z.iconst (n := 0) dX9_layFirst_4 ⟨by decide, by decide⟩ ?_
  refine Z.aload_n (k := 0) dX9_layFirst_5 rfl ?_
  refine Y.getR (o := some 21) 1 dX9_layFirst_6 zl_X9_9 (rfl) (by decide) rfl (zX_0_6 hX).2.2 (zX_20_1 hX).1 ?_
  refine Z.iconst (n := 0) dX9_layFirst_9 ⟨by decide, by decide⟩ ?_
  refine Z.aload_n (k := 1) dX9_layFirst_10 rfl ?_
  refine Y.getR (o := some (r1 + 2)) 1 dX9_layFirst_11 zl_X9_70 (congrArg Prod.fst hr1.1) (by decide) rfl hr1.2.2.2.2.1 hr1.2.2.2.2.2.2.2.2.2.1 ?_
  refine Z.aload_n (k := 1) dX9_layFirst_14 rfl ?_
  refine Y.getI 3 dX9_layFirst_15 zl_X9_73 (congrArg Prod.fst hr1.1) (by decide) rfl hr1.2.2.2.2.1 ?_
  obtain ⟨z_1, K⟩ := K
  refine Y.iald dX9_layFirst_18 (hr1.2.2.1) (hr1.2.2.2.2.2.2.1) z_1 ?_
  obtain ⟨z_2, K⟩ := K
  refine Y.copy dX9_layFirst_19 zk_X9_76 zcopy ⟨by decide, by decide⟩ (Nat.le_of_ble_eq_true rfl) (hr1.2.1) (rfl) (hr1.2.2.2.2.2.1) ((zX_20_1 hX).2.2) z_2 ?_
  generalize eE_3 : zcpE E (r1 + 1) 0 21 0 ((E (r1 + 2) (E r1 3))) = E_3
  replace K := K E_3 eE_3.symm
  exact Z.vret dX9_layFirst_22 rfl K
set_option maxRecDepth 20000 in
theorem X9_laySecond_0 {kz : Nat × Nat} {Q : Option zV → zH → Prop} {d : List Nat} {G : Nat → Int → Option Nat} {E : Nat → Int → Int} {r1 : Nat} (hX : zK zXt d G) (hr1 : zRk d G r1) (K : ((0 : Int) ≤ (E r1 3) ∧ (E r1 3) < (7 : Int)) ∧ Z zm_X9_laySecond kz Q 12 [(0, zR 20), (1, zR r1), (2, zI ((E (r1 + 2) (E r1 3)))), (3, zI 0)] [] (d, G, E)) : Z zm_X9_laySecond kz Q 0 [(0, zR 20), (1, zR r1)] [] (d, G, E) := by
  refine Z.aload_n (k := 1) dX9_laySecond_0 rfl ?_
  refine Y.getR (o := some (r1 + 2)) 1 dX9_laySecond_1 zl_X9_70 (congrArg Prod.fst hr1.1) (by decide) rfl hr1.2.2.2.2.1 hr1.2.2.2.2.2.2.2.2.2.1 ?_
  refine Z.aload_n (k := 1) dX9_laySecond_4 rfl ?_
  refine Y.getI 3 dX9_laySecond_5 zl_X9_73 (congrArg Prod.fst hr1.1) (by decide) rfl hr1.2.2.2.2.1 ?_
  obtain ⟨z_1, K⟩ := K
  refine Y.iald dX9_laySecond_8 (hr1.2.2.1) (hr1.2.2.2.2.2.2.1) z_1 ?_
  refine Z.istore_n (ls' := [(2, zI ((E (r1 + 2) (E r1 3)))), (0, zR 20), (1, zR r1)]) dX9_laySecond_9 (by decide) rfl ?_
  refine Z.iconst (n := 0) dX9_laySecond_10 ⟨by decide, by decide⟩ ?_
  refine Z.istore_n (ls' := [(3, zI 0), (2, zI ((E (r1 + 2) (E r1 3)))), (0, zR 20), (1, zR r1)]) dX9_laySecond_11 (by decide) rfl ?_
  refine Z.pick (ls' := [(0, zR 20), (1, zR r1), (2, zI ((E (r1 + 2) (E r1 3)))), (3, zI 0)]) [2, 3, 1, 0] rfl ?_
  exact K
set_option maxRecDepth 20000 in
theorem X9_laySecond_12 {kz : Nat × Nat} {Q : Option zV → zH → Prop} {d : List Nat} {G : Nat → Int → Option Nat} {E : Nat → Int → Int} {r1 : Nat} {v2 : Int} {v3 : Int} (hX : zK zXt d G) (hr1 : zRk d G r1) (K : (v2 ≤ v3 → Q none (d, G, E)) ∧ (¬ (v2 ≤ v3) → ((0 : Int) ≤ v3 ∧ v3 < (180 : Int)) ∧ zin (180 + v3) ∧ (0 ≤ (E (r1 + 1) v3) → ((0 : Int) ≤ (180 + v3) ∧ (180 + v3) < (360 : Int)) ∧ ∀ E_6, E_6 = zuE E 21 ((180 + v3)) ((E (r1 + 1) v3)) → zin (v3 + 1) ∧ Z zm_X9_laySecond kz Q 12 [(0, zR 20), (1, zR r1), (2, zI v2), (3, zI ((v3 + 1)))] [] (d, G, E_6)) ∧ (¬ (0 ≤ (E (r1 + 1) v3)) → zin ((E (r1 + 1) v3) - 20) ∧ ((0 : Int) ≤ (180 + v3) ∧ (180 + v3) < (360 : Int)) ∧ ∀ E_10, E_10 = zuE E 21 ((180 + v3)) (((E (r1 + 1) v3) - 20)) → zin (v3 + 1) ∧ Z zm_X9_laySecond kz Q 12 [(0, zR 20), (1, zR r1), (2, zI v2), (3, zI ((v3 + 1)))] [] (d, G, E_10)))) : Z zm_X9_laySecond kz Q 12 [(0, zR 20), (1, zR r1), (2, zI v2), (3, zI v3)] [] (d, G, E) := by
  refine Z.iload_n (k := 3) dX9_laySecond_12 rfl ?_
  refine Z.iload_n (k := 2) dX9_laySecond_13 rfl ?_
  refine Z.icmp_ge 56 dX9_laySecond_14 rfl ⟨fun c_1 => ?_, fun c_1 => ?_⟩
  · replace K := K.1 c_1
    exact Z.vret dX9_laySecond_56 rfl K
  · replace K := K.2 c_1
    refine Z.aload_n (k := 1) dX9_laySecond_17 rfl ?_
    refine Y.getR (o := some (r1 + 1)) 0 dX9_laySecond_18 zl_X9_65 (congrArg Prod.fst hr1.1) (by decide) rfl hr1.2.2.2.2.1 hr1.2.2.2.2.2.2.2.2.1 ?_
    refine Z.iload_n (k := 3) dX9_laySecond_21 rfl ?_
    obtain ⟨z_2, K⟩ := K
    refine Y.iald dX9_laySecond_22 (hr1.2.1) (hr1.2.2.2.2.2.1) z_2 ?_
    refine Z.istore (ls' := [(4, zI ((E (r1 + 1) v3))), (0, zR 20), (1, zR r1), (2, zI v2), (3, zI v3)]) dX9_laySecond_23 (by decide) rfl ?_
    refine Z.aload_n (k := 1) dX9_laySecond_25 rfl ?_
    refine Y.getR (o := some 21) 1 dX9_laySecond_26 zl_X9_9 (rfl) (by decide) rfl (zX_0_6 hX).2.2 (zX_20_1 hX).1 ?_
    refine Z.sipush (n := 180) dX9_laySecond_29 ⟨by decide, by decide⟩ (by decide) ?_
    refine Z.iload_n (k := 4) dX9_laySecond_32 rfl ?_
    obtain ⟨z_3, K⟩ := K
    refine Z.iadd dX9_laySecond_33 z_3 ?_
    refine Z.iload (k := 0) dX9_laySecond_34 rfl ?_
    refine Z.if_ge 47 dX9_laySecond_36 rfl ⟨fun c_4 => ?_, fun c_4 => ?_⟩
    · replace K := K.1 c_4
      refine Z.iload (k := 0) dX9_laySecond_47 rfl ?_
      obtain ⟨z_5, K⟩ := K
      refine Y.iast dX9_laySecond_49 (rfl) ((zX_20_1 hX).2.2) z_5 ?_
      generalize eE_6 : zuE E 21 ((180 + v3)) ((E (r1 + 1) v3)) = E_6
      replace K := K E_6 eE_6.symm
      obtain ⟨z_7, K⟩ := K
      refine Z.iinc (k := 4) (ls' := [(3, zI ((v3 + 1))), (4, zI ((E (r1 + 1) v3))), (0, zR 20), (1, zR r1), (2, zI v2)]) dX9_laySecond_50 rfl (by decide) z_7 rfl ?_
      refine Z.goto 12 dX9_laySecond_53 rfl ?_
      refine Z.pick (ls' := [(0, zR 20), (1, zR r1), (2, zI v2), (3, zI ((v3 + 1)))]) [2, 3, 4, 0] rfl ?_
      exact K
    · replace K := K.2 c_4
      refine Z.iload (k := 0) dX9_laySecond_39 rfl ?_
      refine Z.bipush (n := 20) dX9_laySecond_41 ⟨by decide, by decide⟩ (by decide) ?_
      obtain ⟨z_8, K⟩ := K
      refine Z.isub dX9_laySecond_43 z_8 ?_
      refine Z.goto 49 dX9_laySecond_44 rfl ?_
      obtain ⟨z_9, K⟩ := K
      refine Y.iast dX9_laySecond_49 (rfl) ((zX_20_1 hX).2.2) z_9 ?_
      generalize eE_10 : zuE E 21 ((180 + v3)) (((E (r1 + 1) v3) - 20)) = E_10
      replace K := K E_10 eE_10.symm
      obtain ⟨z_11, K⟩ := K
      refine Z.iinc (k := 4) (ls' := [(3, zI ((v3 + 1))), (4, zI ((E (r1 + 1) v3))), (0, zR 20), (1, zR r1), (2, zI v2)]) dX9_laySecond_50 rfl (by decide) z_11 rfl ?_
      refine Z.goto 12 dX9_laySecond_53 rfl ?_
      refine Z.pick (ls' := [(0, zR 20), (1, zR r1), (2, zI v2), (3, zI ((v3 + 1)))]) [2, 3, 4, 0] rfl ?_
      exact K
set_option maxRecDepth 20000 in
theorem X9_forget_0 {kz : Nat × Nat} {Q : Option zV → zH → Prop} {d : List Nat} {G : Nat → Int → Option Nat} {E : Nat → Int → Int} {v1 : Int} (hX : zK zXt d G) (K : ((E 20 4) ≤ v1 → Q none (d, G, E)) ∧ (¬ ((E 20 4) ≤ v1) → ((E 20 4) ≤ 0 → Q none (d, G, E)) ∧ (¬ ((E 20 4) ≤ 0) → zin ((E 20 4) - 1) ∧ ∀ E_4, E_4 = zuE E 20 4 (((E 20 4) - 1)) → ((0 : Int) ≤ (E_4 20 4) ∧ (E_4 20 4) < (40 : Int)) ∧ ((0 : Int) ≤ (E_4 23 (E_4 20 4)) ∧ (E_4 23 (E_4 20 4)) < (40 : Int)) ∧ ∀ E_7, E_7 = zuE E_4 22 ((E_4 23 (E_4 20 4))) ((-1)) → Z zm_X9_forget kz Q 0 [(0, zR 20), (1, zI v1)] [] (d, G, E_7)))) : Z zm_X9_forget kz Q 0 [(0, zR 20), (1, zI v1)] [] (d, G, E) := by
  refine Z.aload_n (k := 0) dX9_forget_0 rfl ?_
  refine Y.getI 4 dX9_forget_1 zl_X9_21 (rfl) (by decide) rfl (zX_0_6 hX).2.2 ?_
  refine Z.iload_n (k := 1) dX9_forget_4 rfl ?_
  refine Z.icmp_le 43 dX9_forget_5 rfl ⟨fun c_1 => ?_, fun c_1 => ?_⟩
  · replace K := K.1 c_1
    exact Z.vret dX9_forget_43 rfl K
  · replace K := K.2 c_1
    refine Z.aload_n (k := 0) dX9_forget_8 rfl ?_
    refine Y.getI 4 dX9_forget_9 zl_X9_21 (rfl) (by decide) rfl (zX_0_6 hX).2.2 ?_
    refine Z.if_le 43 dX9_forget_12 rfl ⟨fun c_2 => ?_, fun c_2 => ?_⟩
    · replace K := K.1 c_2
      exact Z.vret dX9_forget_43 rfl K
    · replace K := K.2 c_2
      refine Z.aload_n (k := 0) dX9_forget_15 rfl ?_
      refine Z.dup_i dX9_forget_16 (fun _ => rfl) ?_
      refine Y.getI 4 dX9_forget_17 zl_X9_21 (rfl) (by decide) rfl (zX_0_6 hX).2.2 ?_
      refine Z.iconst (n := 1) dX9_forget_20 ⟨by decide, by decide⟩ ?_
      obtain ⟨z_3, K⟩ := K
      refine Z.isub dX9_forget_21 z_3 ?_
      refine Y.putI 4 dX9_forget_22 zw_X9_21 (fun q => by cases q) (rfl) rfl (zX_0_6 hX).2.2 (Or.inl rfl) ?_
      generalize eE_4 : zuE E 20 4 (((E 20 4) - 1)) = E_4
      replace K := K E_4 eE_4.symm
      refine Z.aload_n (k := 0) dX9_forget_25 rfl ?_
      refine Y.getR (o := some 22) 2 dX9_forget_26 zl_X9_15 (rfl) (by decide) rfl (zX_0_6 hX).2.2 (zX_20_2 hX).1 ?_
      refine Z.aload_n (k := 0) dX9_forget_29 rfl ?_
      refine Y.getR (o := some 23) 3 dX9_forget_30 zl_X9_18 (rfl) (by decide) rfl (zX_0_6 hX).2.2 (zX_20_3 hX).1 ?_
      refine Z.aload_n (k := 0) dX9_forget_33 rfl ?_
      refine Y.getI 4 dX9_forget_34 zl_X9_21 (rfl) (by decide) rfl (zX_0_6 hX).2.2 ?_
      obtain ⟨z_5, K⟩ := K
      refine Y.iald dX9_forget_37 (rfl) ((zX_20_3 hX).2.2) z_5 ?_
      refine Z.iconst (n := -1) dX9_forget_38 ⟨by decide, by decide⟩ ?_
      obtain ⟨z_6, K⟩ := K
      refine Y.iast dX9_forget_39 (rfl) ((zX_20_2 hX).2.2) z_6 ?_
      generalize eE_7 : zuE E_4 22 ((E_4 23 (E_4 20 4))) ((-1)) = E_7
      replace K := K E_7 eE_7.symm
      refine Z.goto 0 dX9_forget_40 rfl ?_
      exact K
set_option maxRecDepth 20000 in
theorem X9_resting_0 {kz : Nat × Nat} {Q : Option zV → zH → Prop} {d : List Nat} {G : Nat → Int → Option Nat} {E : Nat → Int → Int} {v1 : Int} (hX : zK zXt d G) (K : Z zm_X9_resting kz Q 4 [(0, zR 20), (2, zI v1), (3, zI 0)] [] (d, G, E)) : Z zm_X9_resting kz Q 0 [(0, zR 20), (1, zI v1)] [] (d, G, E) := by
  refine Z.iload_n (k := 1) dX9_resting_0 rfl ?_
  refine Z.istore_n (ls' := [(2, zI v1), (0, zR 20), (1, zI v1)]) dX9_resting_1 (by decide) rfl ?_
  refine Z.iconst (n := 0) dX9_resting_2 ⟨by decide, by decide⟩ ?_
  refine Z.istore_n (ls' := [(3, zI 0), (2, zI v1), (0, zR 20), (1, zI v1)]) dX9_resting_3 (by decide) rfl ?_
  refine Z.pick (ls' := [(0, zR 20), (2, zI v1), (3, zI 0)]) [2, 1, 0] rfl ?_
  exact K
set_option maxRecDepth 20000 in
theorem X9_resting_4 {kz : Nat × Nat} {Q : Option zV → zH → Prop} {d : List Nat} {G : Nat → Int → Option Nat} {E : Nat → Int → Int} {v2 : Int} {v3 : Int} (hX : zK zXt d G) (K : (40 ≤ v3 → Q (some (zI v2)) (d, G, E)) ∧ (¬ (40 ≤ v3) → ((0 : Int) ≤ v2 ∧ v2 < (360 : Int)) ∧ (0 ≤ (E 21 v2) → Q (some (zI v2)) (d, G, E)) ∧ (¬ (0 ≤ (E 21 v2)) → zin ((-1) - (E 21 v2)) ∧ ((0 : Int) ≤ ((-1) - (E 21 v2)) ∧ ((-1) - (E 21 v2)) < (40 : Int)) ∧ ((E 22 ((-1) - (E 21 v2))) ≠ (-1) → zin ((-1) - (E 21 v2)) ∧ ((0 : Int) ≤ ((-1) - (E 21 v2)) ∧ ((-1) - (E 21 v2)) < (40 : Int)) ∧ zin (v3 + 1) ∧ Z zm_X9_resting kz Q 4 [(0, zR 20), (2, zI ((E 22 ((-1) - (E 21 v2))))), (3, zI ((v3 + 1)))] [] (d, G, E)) ∧ (¬ ((E 22 ((-1) - (E 21 v2))) ≠ (-1)) → Q (some (zI v2)) (d, G, E))))) : Z zm_X9_resting kz Q 4 [(0, zR 20), (2, zI v2), (3, zI v3)] [] (d, G, E) := by
  refine Z.iload_n (k := 2) dX9_resting_4 rfl ?_
  refine Z.aload_n (k := 0) dX9_resting_5 rfl ?_
  refine Y.getR (o := some 22) 2 dX9_resting_6 zl_X9_15 (rfl) (by decide) rfl (zX_0_6 hX).2.2 (zX_20_2 hX).1 ?_
  refine Y.alen 40 40 dX9_resting_9 (rfl) ((zX_20_2 hX).2.2) rfl ⟨by decide, by decide⟩ ?_
  refine Z.icmp_ge 57 dX9_resting_10 rfl ⟨fun c_1 => ?_, fun c_1 => ?_⟩
  · replace K := K.1 c_1
    refine Z.iload_n (k := 1) dX9_resting_57 rfl ?_
    exact Z.iret (ty := .int) dX9_resting_58 rfl rfl K
  · replace K := K.2 c_1
    refine Z.aload_n (k := 0) dX9_resting_13 rfl ?_
    refine Y.getR (o := some 21) 1 dX9_resting_14 zl_X9_9 (rfl) (by decide) rfl (zX_0_6 hX).2.2 (zX_20_1 hX).1 ?_
    refine Z.iload_n (k := 1) dX9_resting_17 rfl ?_
    obtain ⟨z_2, K⟩ := K
    refine Y.iald dX9_resting_18 (rfl) ((zX_20_1 hX).2.2) z_2 ?_
    refine Z.istore (ls' := [(4, zI ((E 21 v2))), (0, zR 20), (2, zI v2), (3, zI v3)]) dX9_resting_19 (by decide) rfl ?_
    refine Z.iload (k := 0) dX9_resting_21 rfl ?_
    refine Z.if_ge 39 dX9_resting_23 rfl ⟨fun c_3 => ?_, fun c_3 => ?_⟩
    · replace K := K.1 c_3
      refine Z.iload_n (k := 2) dX9_resting_39 rfl ?_
      exact Z.iret (ty := .int) dX9_resting_40 rfl rfl K
    · replace K := K.2 c_3
      refine Z.aload_n (k := 1) dX9_resting_26 rfl ?_
      refine Y.getR (o := some 22) 2 dX9_resting_27 zl_X9_15 (rfl) (by decide) rfl (zX_0_6 hX).2.2 (zX_20_2 hX).1 ?_
      refine Z.iconst (n := -1) dX9_resting_30 ⟨by decide, by decide⟩ ?_
      refine Z.iload (k := 0) dX9_resting_31 rfl ?_
      obtain ⟨z_4, K⟩ := K
      refine Z.isub dX9_resting_33 z_4 ?_
      obtain ⟨z_5, K⟩ := K
      refine Y.iald dX9_resting_34 (rfl) ((zX_20_2 hX).2.2) z_5 ?_
      refine Z.iconst (n := -1) dX9_resting_35 ⟨by decide, by decide⟩ ?_
      refine Z.icmp_ne 41 dX9_resting_36 rfl ⟨fun c_6 => ?_, fun c_6 => ?_⟩
      · replace K := K.1 c_6
        refine Z.aload_n (k := 1) dX9_resting_41 rfl ?_
        refine Y.getR (o := some 22) 2 dX9_resting_42 zl_X9_15 (rfl) (by decide) rfl (zX_0_6 hX).2.2 (zX_20_2 hX).1 ?_
        refine Z.iconst (n := -1) dX9_resting_45 ⟨by decide, by decide⟩ ?_
        refine Z.iload (k := 0) dX9_resting_46 rfl ?_
        obtain ⟨z_7, K⟩ := K
        refine Z.isub dX9_resting_48 z_7 ?_
        obtain ⟨z_8, K⟩ := K
        refine Y.iald dX9_resting_49 (rfl) ((zX_20_2 hX).2.2) z_8 ?_
        refine Z.istore_n (ls' := [(2, zI ((E 22 ((-1) - (E 21 v2))))), (4, zI ((E 21 v2))), (0, zR 20), (3, zI v3)]) dX9_resting_50 (by decide) rfl ?_
        obtain ⟨z_9, K⟩ := K
        refine Z.iinc (k := 3) (ls' := [(3, zI ((v3 + 1))), (2, zI ((E 22 ((-1) - (E 21 v2))))), (4, zI ((E 21 v2))), (0, zR 20)]) dX9_resting_51 rfl (by decide) z_9 rfl ?_
        refine Z.goto 4 dX9_resting_54 rfl ?_
        refine Z.pick (ls' := [(0, zR 20), (2, zI ((E 22 ((-1) - (E 21 v2))))), (3, zI ((v3 + 1)))]) [3, 1, 0] rfl ?_
        exact K
      · replace K := K.2 c_6
        refine Z.iload_n (k := 2) dX9_resting_39 rfl ?_
        exact Z.iret (ty := .int) dX9_resting_40 rfl rfl K
set_option maxRecDepth 20000 in
theorem X9_beginWay_0 {kz : Nat × Nat} {Q : Option zV → zH → Prop} {d : List Nat} {G : Nat → Int → Option Nat} {E : Nat → Int → Int} {v1 : Int} {v2 : Int} (hX : zK zXt d G) (K : ∀ E_1, E_1 = zuE E 20 10 v1 → ∀ E_2, E_2 = zuE E_1 20 11 v2 → ∀ E_3, E_3 = zuE E_2 20 12 0 → Q none (d, G, E_3)) : Z zm_X9_beginWay kz Q 0 [(0, zR 20), (1, zI v1), (2, zI v2)] [] (d, G, E) := by
  refine Z.aload_n (k := 0) dX9_beginWay_0 rfl ?_
  refine Z.iload_n (k := 1) dX9_beginWay_1 rfl ?_
  refine Y.putI 10 dX9_beginWay_2 zw_X9_40 (fun q => by cases q) (rfl) rfl (zX_0_6 hX).2.2 (Or.inl rfl) ?_
  generalize eE_1 : zuE E 20 10 v1 = E_1
  replace K := K E_1 eE_1.symm
  refine Z.aload_n (k := 0) dX9_beginWay_5 rfl ?_
  refine Z.iload_n (k := 2) dX9_beginWay_6 rfl ?_
  refine Y.putI 11 dX9_beginWay_7 zw_X9_43 (fun q => by cases q) (rfl) rfl (zX_0_6 hX).2.2 (Or.inl rfl) ?_
  generalize eE_2 : zuE E_1 20 11 v2 = E_2
  replace K := K E_2 eE_2.symm
  refine Z.aload_n (k := 0) dX9_beginWay_10 rfl ?_
  refine Z.iconst (n := 0) dX9_beginWay_11 ⟨by decide, by decide⟩ ?_
  refine Y.putI 12 dX9_beginWay_12 zw_X9_46 (fun q => by cases q) (rfl) rfl (zX_0_6 hX).2.2 (Or.inl rfl) ?_
  generalize eE_3 : zuE E_2 20 12 0 = E_3
  replace K := K E_3 eE_3.symm
  exact Z.vret dX9_beginWay_15 rfl K
set_option maxRecDepth 20000 in
theorem X9_nextOnWay_0 {kz : Nat × Nat} {Q : Option zV → zH → Prop} {d : List Nat} {G : Nat → Int → Option Nat} {E : Nat → Int → Int}  (hX : zK zXt d G) (K : Z zm_X9_nextOnWay kz Q 2 [(0, zR 20), (1, zI 0)] [] (d, G, E)) : Z zm_X9_nextOnWay kz Q 0 [(0, zR 20)] [] (d, G, E) := by
  refine Z.iconst (n := 0) dX9_nextOnWay_0 ⟨by decide, by decide⟩ ?_
  refine Z.istore_n (ls' := [(1, zI 0), (0, zR 20)]) dX9_nextOnWay_1 (by decide) rfl ?_
  refine Z.pick (ls' := [(0, zR 20), (1, zI 0)]) [1, 0] rfl ?_
  exact K
set_option maxRecDepth 20000 in
theorem X9_nextOnWay_2 {kz : Nat × Nat} {Q : Option zV → zH → Prop} {d : List Nat} {G : Nat → Int → Option Nat} {E : Nat → Int → Int} {v1 : Int} (hX : zK zXt d G) (K : ((1000000) ≤ v1 → Q (some (zI ((-1)))) (d, G, E)) ∧ (¬ ((1000000) ≤ v1) → ((E 20 11) ≤ (E 20 10) → ((E 20 12) ≠ 0 → zin ((E 20 12) - 1) ∧ ∀ E_5, E_5 = zuE E 20 12 (((E 20 12) - 1)) → ((0 : Int) ≤ (E_5 20 12) ∧ (E_5 20 12) < (128 : Int)) ∧ ∀ E_7, E_7 = zuE E_5 20 10 ((E_5 27 (E_5 20 12))) → ((0 : Int) ≤ (E_7 20 12) ∧ (E_7 20 12) < (128 : Int)) ∧ ∀ E_9, E_9 = zuE E_7 20 11 ((E_7 28 (E_7 20 12))) → zin (v1 + 1) ∧ Z zm_X9_nextOnWay kz Q 2 [(0, zR 20), (1, zI ((v1 + 1)))] [] (d, G, E_9)) ∧ (¬ ((E 20 12) ≠ 0) → Q (some (zI ((-1)))) (d, G, E))) ∧ (¬ ((E 20 11) ≤ (E 20 10)) → ∃ x_11, zM zm_X9_resting [zR 20, zI ((E 20 10))] (d, G, E) (some (zI x_11)) (d, G, E) ∧ zin ((E 20 10) + 1) ∧ ∀ E_15, E_15 = zuE E 20 10 (((E 20 10) + 1)) → zin ((E_15 20 10) - 1) ∧ (x_11 = ((E_15 20 10) - 1) → Q (some (zI x_11)) (d, G, E_15)) ∧ (¬ (x_11 = ((E_15 20 10) - 1)) → ((0 : Int) ≤ x_11 ∧ x_11 < (360 : Int)) ∧ ((E_15 21 x_11) < 0 → Q (some (zI x_11)) (d, G, E_15)) ∧ (¬ ((E_15 21 x_11) < 0) → ((E_15 20 12) < 128 → ((0 : Int) ≤ (E_15 20 12) ∧ (E_15 20 12) < (128 : Int)) ∧ ∀ E_22, E_22 = zuE E_15 27 ((E_15 20 12)) ((E_15 20 10)) → ((0 : Int) ≤ (E_22 20 12) ∧ (E_22 20 12) < (128 : Int)) ∧ ∀ E_24, E_24 = zuE E_22 28 ((E_22 20 12)) ((E_22 20 11)) → zin ((E_24 20 12) + 1) ∧ ∀ E_26, E_26 = zuE E_24 20 12 (((E_24 20 12) + 1)) → ∀ E_27, E_27 = zuE E_26 20 10 x_11 → ∃ x_28, zM zm_X8_after [zR 1, zR 21, zI x_11] (d, G, E_27) (some (zI x_28)) (d, G, E_27) ∧ ∀ E_31, E_31 = zuE E_27 20 11 x_28 → zin (v1 + 1) ∧ Z zm_X9_nextOnWay kz Q 2 [(0, zR 20), (1, zI ((v1 + 1)))] [] (d, G, E_31)) ∧ (¬ ((E_15 20 12) < 128) → Q (some (zI x_11)) (d, G, E_15))))))) : Z zm_X9_nextOnWay kz Q 2 [(0, zR 20), (1, zI v1)] [] (d, G, E) := by
  refine Z.iload_n (k := 1) dX9_nextOnWay_2 rfl ?_
  refine Z.ldc (n := 1000000) dX9_nextOnWay_3 ⟨by decide, by decide⟩ zq_X9_86 ?_
  refine Z.icmp_ge 180 dX9_nextOnWay_5 rfl ⟨fun c_1 => ?_, fun c_1 => ?_⟩
  · replace K := K.1 c_1
    refine Z.iconst (n := -1) dX9_nextOnWay_180 ⟨by decide, by decide⟩ ?_
    exact Z.iret (ty := .int) dX9_nextOnWay_181 rfl rfl K
  · replace K := K.2 c_1
    refine Z.aload_n (k := 0) dX9_nextOnWay_8 rfl ?_
    refine Y.getI 10 dX9_nextOnWay_9 zl_X9_40 (rfl) (by decide) rfl (zX_0_6 hX).2.2 ?_
    refine Z.aload_n (k := 0) dX9_nextOnWay_12 rfl ?_
    refine Y.getI 11 dX9_nextOnWay_13 zl_X9_43 (rfl) (by decide) rfl (zX_0_6 hX).2.2 ?_
    refine Z.icmp_ge 129 dX9_nextOnWay_16 rfl ⟨fun c_2 => ?_, fun c_2 => ?_⟩
    · replace K := K.1 c_2
      refine Z.aload_n (k := 0) dX9_nextOnWay_129 rfl ?_
      refine Y.getI 12 dX9_nextOnWay_130 zl_X9_46 (rfl) (by decide) rfl (zX_0_6 hX).2.2 ?_
      refine Z.if_ne 138 dX9_nextOnWay_133 rfl ⟨fun c_3 => ?_, fun c_3 => ?_⟩
      · replace K := K.1 c_3
        refine Z.aload_n (k := 0) dX9_nextOnWay_138 rfl ?_
        refine Z.dup_i dX9_nextOnWay_139 (fun _ => rfl) ?_
        refine Y.getI 12 dX9_nextOnWay_140 zl_X9_46 (rfl) (by decide) rfl (zX_0_6 hX).2.2 ?_
        refine Z.iconst (n := 1) dX9_nextOnWay_143 ⟨by decide, by decide⟩ ?_
        obtain ⟨z_4, K⟩ := K
        refine Z.isub dX9_nextOnWay_144 z_4 ?_
        refine Y.putI 12 dX9_nextOnWay_145 zw_X9_46 (fun q => by cases q) (rfl) rfl (zX_0_6 hX).2.2 (Or.inl rfl) ?_
        generalize eE_5 : zuE E 20 12 (((E 20 12) - 1)) = E_5
        replace K := K E_5 eE_5.symm
        refine Z.aload_n (k := 0) dX9_nextOnWay_148 rfl ?_
        refine Z.aload_n (k := 0) dX9_nextOnWay_149 rfl ?_
        refine Y.getR (o := some 27) 8 dX9_nextOnWay_150 zl_X9_34 (rfl) (by decide) rfl (zX_0_6 hX).2.2 (zX_20_8 hX).1 ?_
        refine Z.aload_n (k := 0) dX9_nextOnWay_153 rfl ?_
        refine Y.getI 12 dX9_nextOnWay_154 zl_X9_46 (rfl) (by decide) rfl (zX_0_6 hX).2.2 ?_
        obtain ⟨z_6, K⟩ := K
        refine Y.iald dX9_nextOnWay_157 (rfl) ((zX_20_8 hX).2.2) z_6 ?_
        refine Y.putI 10 dX9_nextOnWay_158 zw_X9_40 (fun q => by cases q) (rfl) rfl (zX_0_6 hX).2.2 (Or.inl rfl) ?_
        generalize eE_7 : zuE E_5 20 10 ((E_5 27 (E_5 20 12))) = E_7
        replace K := K E_7 eE_7.symm
        refine Z.aload_n (k := 0) dX9_nextOnWay_161 rfl ?_
        refine Z.aload_n (k := 0) dX9_nextOnWay_162 rfl ?_
        refine Y.getR (o := some 28) 9 dX9_nextOnWay_163 zl_X9_37 (rfl) (by decide) rfl (zX_0_6 hX).2.2 (zX_20_9 hX).1 ?_
        refine Z.aload_n (k := 0) dX9_nextOnWay_166 rfl ?_
        refine Y.getI 12 dX9_nextOnWay_167 zl_X9_46 (rfl) (by decide) rfl (zX_0_6 hX).2.2 ?_
        obtain ⟨z_8, K⟩ := K
        refine Y.iald dX9_nextOnWay_170 (rfl) ((zX_20_9 hX).2.2) z_8 ?_
        refine Y.putI 11 dX9_nextOnWay_171 zw_X9_43 (fun q => by cases q) (rfl) rfl (zX_0_6 hX).2.2 (Or.inl rfl) ?_
        generalize eE_9 : zuE E_7 20 11 ((E_7 28 (E_7 20 12))) = E_9
        replace K := K E_9 eE_9.symm
        obtain ⟨z_10, K⟩ := K
        refine Z.iinc (k := 1) (ls' := [(1, zI ((v1 + 1))), (0, zR 20)]) dX9_nextOnWay_174 rfl (by decide) z_10 rfl ?_
        refine Z.goto 2 dX9_nextOnWay_177 rfl ?_
        refine Z.pick (ls' := [(0, zR 20), (1, zI ((v1 + 1)))]) [1, 0] rfl ?_
        exact K
      · replace K := K.2 c_3
        refine Z.iconst (n := -1) dX9_nextOnWay_136 ⟨by decide, by decide⟩ ?_
        exact Z.iret (ty := .int) dX9_nextOnWay_137 rfl rfl K
    · replace K := K.2 c_2
      refine Z.aload_n (k := 0) dX9_nextOnWay_19 rfl ?_
      refine Z.aload_n (k := 0) dX9_nextOnWay_20 rfl ?_
      refine Y.getI 10 dX9_nextOnWay_21 zl_X9_40 (rfl) (by decide) rfl (zX_0_6 hX).2.2 ?_
      obtain ⟨x_11, m_12, K⟩ := K
      refine Y.callV (g := zm_X9_resting) (vs := [zI ((E 20 10))]) (st := []) dX9_nextOnWay_24 ⟨zg_X9_resting.1, zg_X9_resting.2.1, zg_X9_resting.2.2, by decide⟩ ⟨zk_X9_87, zv_X9_resting⟩ (ci := 9) (rfl) rfl ((zX_0_6 hX).2.2) rfl rfl (Nat.le_of_ble_eq_true rfl) m_12 (Or.inl rfl) ?_
      show Z zm_X9_nextOnWay kz Q 27 [(0, zR 20), (1, zI v1)] [zI x_11] (d, G, E)
      refine Z.istore_n (ls' := [(2, zI x_11), (0, zR 20), (1, zI v1)]) dX9_nextOnWay_27 (by decide) rfl ?_
      refine Z.aload_n (k := 1) dX9_nextOnWay_28 rfl ?_
      refine Z.dup_i dX9_nextOnWay_29 (fun _ => rfl) ?_
      refine Y.getI 10 dX9_nextOnWay_30 zl_X9_40 (rfl) (by decide) rfl (zX_0_6 hX).2.2 ?_
      refine Z.iconst (n := 1) dX9_nextOnWay_33 ⟨by decide, by decide⟩ ?_
      obtain ⟨z_14, K⟩ := K
      refine Z.iadd dX9_nextOnWay_34 z_14 ?_
      refine Y.putI 10 dX9_nextOnWay_35 zw_X9_40 (fun q => by cases q) (rfl) rfl (zX_0_6 hX).2.2 (Or.inl rfl) ?_
      generalize eE_15 : zuE E 20 10 (((E 20 10) + 1)) = E_15
      replace K := K E_15 eE_15.symm
      refine Z.iload_n (k := 0) dX9_nextOnWay_38 rfl ?_
      refine Z.aload_n (k := 1) dX9_nextOnWay_39 rfl ?_
      refine Y.getI 10 dX9_nextOnWay_40 zl_X9_40 (rfl) (by decide) rfl (zX_0_6 hX).2.2 ?_
      refine Z.iconst (n := 1) dX9_nextOnWay_43 ⟨by decide, by decide⟩ ?_
      obtain ⟨z_16, K⟩ := K
      refine Z.isub dX9_nextOnWay_44 z_16 ?_
      refine Z.icmp_eq 67 dX9_nextOnWay_45 rfl ⟨fun c_17 => ?_, fun c_17 => ?_⟩
      · replace K := K.1 c_17
        refine Z.iload_n (k := 0) dX9_nextOnWay_67 rfl ?_
        exact Z.iret (ty := .int) dX9_nextOnWay_68 rfl rfl K
      · replace K := K.2 c_17
        refine Z.aload_n (k := 1) dX9_nextOnWay_48 rfl ?_
        refine Y.getR (o := some 21) 1 dX9_nextOnWay_49 zl_X9_9 (rfl) (by decide) rfl (zX_0_6 hX).2.2 (zX_20_1 hX).1 ?_
        refine Z.iload_n (k := 0) dX9_nextOnWay_52 rfl ?_
        obtain ⟨z_18, K⟩ := K
        refine Y.iald dX9_nextOnWay_53 (rfl) ((zX_20_1 hX).2.2) z_18 ?_
        refine Z.if_lt 67 dX9_nextOnWay_54 rfl ⟨fun c_19 => ?_, fun c_19 => ?_⟩
        · replace K := K.1 c_19
          refine Z.iload_n (k := 0) dX9_nextOnWay_67 rfl ?_
          exact Z.iret (ty := .int) dX9_nextOnWay_68 rfl rfl K
        · replace K := K.2 c_19
          refine Z.aload_n (k := 1) dX9_nextOnWay_57 rfl ?_
          refine Y.getI 12 dX9_nextOnWay_58 zl_X9_46 (rfl) (by decide) rfl (zX_0_6 hX).2.2 ?_
          refine Z.sipush (n := 128) dX9_nextOnWay_61 ⟨by decide, by decide⟩ (by decide) ?_
          refine Z.icmp_lt 69 dX9_nextOnWay_64 rfl ⟨fun c_20 => ?_, fun c_20 => ?_⟩
          · replace K := K.1 c_20
            refine Z.aload_n (k := 1) dX9_nextOnWay_69 rfl ?_
            refine Y.getR (o := some 27) 8 dX9_nextOnWay_70 zl_X9_34 (rfl) (by decide) rfl (zX_0_6 hX).2.2 (zX_20_8 hX).1 ?_
            refine Z.aload_n (k := 1) dX9_nextOnWay_73 rfl ?_
            refine Y.getI 12 dX9_nextOnWay_74 zl_X9_46 (rfl) (by decide) rfl (zX_0_6 hX).2.2 ?_
            refine Z.aload_n (k := 1) dX9_nextOnWay_77 rfl ?_
            refine Y.getI 10 dX9_nextOnWay_78 zl_X9_40 (rfl) (by decide) rfl (zX_0_6 hX).2.2 ?_
            obtain ⟨z_21, K⟩ := K
            refine Y.iast dX9_nextOnWay_81 (rfl) ((zX_20_8 hX).2.2) z_21 ?_
            generalize eE_22 : zuE E_15 27 ((E_15 20 12)) ((E_15 20 10)) = E_22
            replace K := K E_22 eE_22.symm
            refine Z.aload_n (k := 1) dX9_nextOnWay_82 rfl ?_
            refine Y.getR (o := some 28) 9 dX9_nextOnWay_83 zl_X9_37 (rfl) (by decide) rfl (zX_0_6 hX).2.2 (zX_20_9 hX).1 ?_
            refine Z.aload_n (k := 1) dX9_nextOnWay_86 rfl ?_
            refine Y.getI 12 dX9_nextOnWay_87 zl_X9_46 (rfl) (by decide) rfl (zX_0_6 hX).2.2 ?_
            refine Z.aload_n (k := 1) dX9_nextOnWay_90 rfl ?_
            refine Y.getI 11 dX9_nextOnWay_91 zl_X9_43 (rfl) (by decide) rfl (zX_0_6 hX).2.2 ?_
            obtain ⟨z_23, K⟩ := K
            refine Y.iast dX9_nextOnWay_94 (rfl) ((zX_20_9 hX).2.2) z_23 ?_
            generalize eE_24 : zuE E_22 28 ((E_22 20 12)) ((E_22 20 11)) = E_24
            replace K := K E_24 eE_24.symm
            refine Z.aload_n (k := 1) dX9_nextOnWay_95 rfl ?_
            refine Z.dup_i dX9_nextOnWay_96 (fun _ => rfl) ?_
            refine Y.getI 12 dX9_nextOnWay_97 zl_X9_46 (rfl) (by decide) rfl (zX_0_6 hX).2.2 ?_
            refine Z.iconst (n := 1) dX9_nextOnWay_100 ⟨by decide, by decide⟩ ?_
            obtain ⟨z_25, K⟩ := K
            refine Z.iadd dX9_nextOnWay_101 z_25 ?_
            refine Y.putI 12 dX9_nextOnWay_102 zw_X9_46 (fun q => by cases q) (rfl) rfl (zX_0_6 hX).2.2 (Or.inl rfl) ?_
            generalize eE_26 : zuE E_24 20 12 (((E_24 20 12) + 1)) = E_26
            replace K := K E_26 eE_26.symm
            refine Z.aload_n (k := 1) dX9_nextOnWay_105 rfl ?_
            refine Z.iload_n (k := 0) dX9_nextOnWay_106 rfl ?_
            refine Y.putI 10 dX9_nextOnWay_107 zw_X9_40 (fun q => by cases q) (rfl) rfl (zX_0_6 hX).2.2 (Or.inl rfl) ?_
            generalize eE_27 : zuE E_26 20 10 x_11 = E_27
            replace K := K E_27 eE_27.symm
            refine Z.aload_n (k := 1) dX9_nextOnWay_110 rfl ?_
            refine Z.aload_n (k := 1) dX9_nextOnWay_111 rfl ?_
            refine Y.getR (o := some 1) 0 dX9_nextOnWay_112 zl_X9_55 (rfl) (by decide) rfl (zX_0_6 hX).2.2 (zX_20_0 hX).1 ?_
            refine Z.aload_n (k := 1) dX9_nextOnWay_115 rfl ?_
            refine Y.getR (o := some 21) 1 dX9_nextOnWay_116 zl_X9_9 (rfl) (by decide) rfl (zX_0_6 hX).2.2 (zX_20_1 hX).1 ?_
            refine Z.iload_n (k := 0) dX9_nextOnWay_119 rfl ?_
            obtain ⟨x_28, m_29, K⟩ := K
            refine Y.callV (g := zm_X8_after) (vs := [zR 21, zI x_11]) (st := [zR 20]) dX9_nextOnWay_120 ⟨zg_X8_after.1, zg_X8_after.2.1, zg_X8_after.2.2, by decide⟩ ⟨zk_X9_96, zv_X8_after⟩ (ci := 8) (rfl) rfl ((zX_0_0 hX).2.2) rfl rfl (Nat.le_of_ble_eq_true rfl) m_29 (Or.inl rfl) ?_
            show Z zm_X9_nextOnWay kz Q 123 [(2, zI x_11), (0, zR 20), (1, zI v1)] [zI x_28, zR 20] (d, G, E_27)
            refine Y.putI 11 dX9_nextOnWay_123 zw_X9_43 (fun q => by cases q) (rfl) rfl (zX_0_6 hX).2.2 (Or.inl rfl) ?_
            generalize eE_31 : zuE E_27 20 11 x_28 = E_31
            replace K := K E_31 eE_31.symm
            refine Z.goto 174 dX9_nextOnWay_126 rfl ?_
            obtain ⟨z_32, K⟩ := K
            refine Z.iinc (k := 2) (ls' := [(1, zI ((v1 + 1))), (2, zI x_11), (0, zR 20)]) dX9_nextOnWay_174 rfl (by decide) z_32 rfl ?_
            refine Z.goto 2 dX9_nextOnWay_177 rfl ?_
            refine Z.pick (ls' := [(0, zR 20), (1, zI ((v1 + 1)))]) [2, 0] rfl ?_
            exact K
          · replace K := K.2 c_20
            refine Z.iload_n (k := 0) dX9_nextOnWay_67 rfl ?_
            exact Z.iret (ty := .int) dX9_nextOnWay_68 rfl rfl K
set_option maxRecDepth 20000 in
theorem X9_isIn_0 {kz : Nat × Nat} {Q : Option zV → zH → Prop} {d : List Nat} {G : Nat → Int → Option Nat} {E : Nat → Int → Int} {v1 : Int} {v2 : Int} (hX : zK zXt d G) (K : ∃ x_1, zM zm_X8_after [zR 1, zR 21, zI v2] (d, G, E) (some (zI x_1)) (d, G, E) ∧ ∃ E_4, zM zm_X9_beginWay [zR 20, zI v2, zI x_1] (d, G, E) none (d, G, E_4) ∧ Z zm_X9_isIn kz Q 19 [(0, zR 20), (1, zI v1), (3, zI 0)] [] (d, G, E_4)) : Z zm_X9_isIn kz Q 0 [(0, zR 20), (1, zI v1), (2, zI v2)] [] (d, G, E) := by
  refine Z.aload_n (k := 0) dX9_isIn_0 rfl ?_
  refine Z.iload_n (k := 2) dX9_isIn_1 rfl ?_
  refine Z.aload_n (k := 0) dX9_isIn_2 rfl ?_
  refine Y.getR (o := some 1) 0 dX9_isIn_3 zl_X9_55 (rfl) (by decide) rfl (zX_0_6 hX).2.2 (zX_20_0 hX).1 ?_
  refine Z.aload_n (k := 0) dX9_isIn_6 rfl ?_
  refine Y.getR (o := some 21) 1 dX9_isIn_7 zl_X9_9 (rfl) (by decide) rfl (zX_0_6 hX).2.2 (zX_20_1 hX).1 ?_
  refine Z.iload_n (k := 2) dX9_isIn_10 rfl ?_
  obtain ⟨x_1, m_2, K⟩ := K
  refine Y.callV (g := zm_X8_after) (vs := [zR 21, zI v2]) (st := [zI v2, zR 20]) dX9_isIn_11 ⟨zg_X8_after.1, zg_X8_after.2.1, zg_X8_after.2.2, by decide⟩ ⟨zk_X9_96, zv_X8_after⟩ (ci := 8) (rfl) rfl ((zX_0_0 hX).2.2) rfl rfl (Nat.le_of_ble_eq_true rfl) m_2 (Or.inl rfl) ?_
  show Z zm_X9_isIn kz Q 14 [(0, zR 20), (1, zI v1), (2, zI v2)] [zI x_1, zI v2, zR 20] (d, G, E)
  obtain ⟨E_4, m_5, K⟩ := K
  refine Y.callV (g := zm_X9_beginWay) (vs := [zI v2, zI x_1]) (st := []) dX9_isIn_14 ⟨zg_X9_beginWay.1, zg_X9_beginWay.2.1, zg_X9_beginWay.2.2, by decide⟩ ⟨zk_X9_111, zv_X9_beginWay⟩ (ci := 9) (rfl) rfl ((zX_0_6 hX).2.2) rfl rfl (Nat.le_of_ble_eq_true rfl) m_5 (Or.inl rfl) ?_
  show Z zm_X9_isIn kz Q 17 [(0, zR 20), (1, zI v1), (2, zI v2)] [] (d, G, E_4)
  refine Z.iconst (n := 0) dX9_isIn_17 ⟨by decide, by decide⟩ ?_
  refine Z.istore_n (ls' := [(3, zI 0), (0, zR 20), (1, zI v1), (2, zI v2)]) dX9_isIn_18 (by decide) rfl ?_
  refine Z.pick (ls' := [(0, zR 20), (1, zI v1), (3, zI 0)]) [1, 2, 0] rfl ?_
  exact K
set_option maxRecDepth 20000 in
theorem X9_isIn_19 {kz : Nat × Nat} {Q : Option zV → zH → Prop} {d : List Nat} {G : Nat → Int → Option Nat} {E : Nat → Int → Int} {v1 : Int} {v3 : Int} (hX : zK zXt d G) (K : ((1000000) ≤ v3 → Q (some (zI 1)) (d, G, E)) ∧ (¬ ((1000000) ≤ v3) → ∃ x_2 E_3, zM zm_X9_nextOnWay [zR 20] (d, G, E) (some (zI x_2)) (d, G, E_3) ∧ (x_2 = (-1) → (x_2 = (-1) → Q (some (zI 0)) (d, G, E_3)) ∧ (¬ (x_2 = (-1)) → Q (some (zI 1)) (d, G, E_3))) ∧ (¬ (x_2 = (-1)) → ((0 : Int) ≤ x_2 ∧ x_2 < (360 : Int)) ∧ zin ((-1) - v1) ∧ ((E_3 21 x_2) ≠ ((-1) - v1) → zin (v3 + 1) ∧ Z zm_X9_isIn kz Q 19 [(0, zR 20), (1, zI v1), (3, zI ((v3 + 1)))] [] (d, G, E_3)) ∧ (¬ ((E_3 21 x_2) ≠ ((-1) - v1)) → (x_2 = (-1) → Q (some (zI 0)) (d, G, E_3)) ∧ (¬ (x_2 = (-1)) → Q (some (zI 1)) (d, G, E_3)))))) : Z zm_X9_isIn kz Q 19 [(0, zR 20), (1, zI v1), (3, zI v3)] [] (d, G, E) := by
  refine Z.iload_n (k := 2) dX9_isIn_19 rfl ?_
  refine Z.ldc (n := 1000000) dX9_isIn_20 ⟨by decide, by decide⟩ zq_X9_86 ?_
  refine Z.icmp_ge 68 dX9_isIn_22 rfl ⟨fun c_1 => ?_, fun c_1 => ?_⟩
  · replace K := K.1 c_1
    refine Z.iconst (n := 1) dX9_isIn_68 ⟨by decide, by decide⟩ ?_
    exact Z.iret (ty := .boolean) dX9_isIn_69 rfl rfl K
  · replace K := K.2 c_1
    refine Z.aload_n (k := 0) dX9_isIn_25 rfl ?_
    obtain ⟨x_2, E_3, m_4, K⟩ := K
    refine Y.callV (g := zm_X9_nextOnWay) (vs := []) (st := []) dX9_isIn_26 ⟨zg_X9_nextOnWay.1, zg_X9_nextOnWay.2.1, zg_X9_nextOnWay.2.2, by decide⟩ ⟨zk_X9_114, zv_X9_nextOnWay⟩ (ci := 9) (rfl) rfl ((zX_0_6 hX).2.2) rfl rfl (Nat.le_of_ble_eq_true rfl) m_4 (Or.inl rfl) ?_
    show Z zm_X9_isIn kz Q 29 [(0, zR 20), (1, zI v1), (3, zI v3)] [zI x_2] (d, G, E_3)
    refine Z.istore (ls' := [(4, zI x_2), (0, zR 20), (1, zI v1), (3, zI v3)]) dX9_isIn_29 (by decide) rfl ?_
    refine Z.iload (k := 0) dX9_isIn_31 rfl ?_
    refine Z.iconst (n := -1) dX9_isIn_33 ⟨by decide, by decide⟩ ?_
    refine Z.icmp_eq 50 dX9_isIn_34 rfl ⟨fun c_6 => ?_, fun c_6 => ?_⟩
    · replace K := K.1 c_6
      refine Z.iload (k := 0) dX9_isIn_50 rfl ?_
      refine Z.iconst (n := -1) dX9_isIn_52 ⟨by decide, by decide⟩ ?_
      refine Z.icmp_eq 60 dX9_isIn_53 rfl ⟨fun c_7 => ?_, fun c_7 => ?_⟩
      · replace K := K.1 c_7
        refine Z.iconst (n := 0) dX9_isIn_60 ⟨by decide, by decide⟩ ?_
        exact Z.iret (ty := .boolean) dX9_isIn_61 rfl rfl K
      · replace K := K.2 c_7
        refine Z.iconst (n := 1) dX9_isIn_56 ⟨by decide, by decide⟩ ?_
        refine Z.goto 61 dX9_isIn_57 rfl ?_
        exact Z.iret (ty := .boolean) dX9_isIn_61 rfl rfl K
    · replace K := K.2 c_6
      refine Z.aload_n (k := 1) dX9_isIn_37 rfl ?_
      refine Y.getR (o := some 21) 1 dX9_isIn_38 zl_X9_9 (rfl) (by decide) rfl (zX_0_6 hX).2.2 (zX_20_1 hX).1 ?_
      refine Z.iload (k := 0) dX9_isIn_41 rfl ?_
      obtain ⟨z_8, K⟩ := K
      refine Y.iald dX9_isIn_43 (rfl) ((zX_20_1 hX).2.2) z_8 ?_
      refine Z.iconst (n := -1) dX9_isIn_44 ⟨by decide, by decide⟩ ?_
      refine Z.iload_n (k := 2) dX9_isIn_45 rfl ?_
      obtain ⟨z_9, K⟩ := K
      refine Z.isub dX9_isIn_46 z_9 ?_
      refine Z.icmp_ne 62 dX9_isIn_47 rfl ⟨fun c_10 => ?_, fun c_10 => ?_⟩
      · replace K := K.1 c_10
        obtain ⟨z_11, K⟩ := K
        refine Z.iinc (k := 3) (ls' := [(3, zI ((v3 + 1))), (4, zI x_2), (0, zR 20), (1, zI v1)]) dX9_isIn_62 rfl (by decide) z_11 rfl ?_
        refine Z.goto 19 dX9_isIn_65 rfl ?_
        refine Z.pick (ls' := [(0, zR 20), (1, zI v1), (3, zI ((v3 + 1)))]) [2, 3, 0] rfl ?_
        exact K
      · replace K := K.2 c_10
        refine Z.iload (k := 0) dX9_isIn_50 rfl ?_
        refine Z.iconst (n := -1) dX9_isIn_52 ⟨by decide, by decide⟩ ?_
        refine Z.icmp_eq 60 dX9_isIn_53 rfl ⟨fun c_12 => ?_, fun c_12 => ?_⟩
        · replace K := K.1 c_12
          refine Z.iconst (n := 0) dX9_isIn_60 ⟨by decide, by decide⟩ ?_
          exact Z.iret (ty := .boolean) dX9_isIn_61 rfl rfl K
        · replace K := K.2 c_12
          refine Z.iconst (n := 1) dX9_isIn_56 ⟨by decide, by decide⟩ ?_
          refine Z.goto 61 dX9_isIn_57 rfl ?_
          exact Z.iret (ty := .boolean) dX9_isIn_61 rfl rfl K
set_option maxRecDepth 20000 in
theorem X9_tell_0 {kz : Nat × Nat} {Q : Option zV → zH → Prop} {d : List Nat} {G : Nat → Int → Option Nat} {E : Nat → Int → Int} {v1 : Int} {v2 : Int} (hX : zK zXt d G) (K : (40 ≤ v1 → Q none (d, G, E)) ∧ (¬ (40 ≤ v1) → (40 ≤ (E 20 4) → Q none (d, G, E)) ∧ (¬ (40 ≤ (E 20 4)) → ((0 : Int) ≤ v1 ∧ v1 < (40 : Int)) ∧ ∀ E_4, E_4 = zuE E 22 v1 v2 → ((0 : Int) ≤ (E_4 20 4) ∧ (E_4 20 4) < (40 : Int)) ∧ ∀ E_6, E_6 = zuE E_4 23 ((E_4 20 4)) v1 → zin ((E_6 20 4) + 1) ∧ ∀ E_8, E_8 = zuE E_6 20 4 (((E_6 20 4) + 1)) → Q none (d, G, E_8)))) : Z zm_X9_tell kz Q 0 [(0, zR 20), (1, zI v1), (2, zI v2)] [] (d, G, E) := by
  refine Z.iload_n (k := 1) dX9_tell_0 rfl ?_
  refine Z.aload_n (k := 0) dX9_tell_1 rfl ?_
  refine Y.getR (o := some 22) 2 dX9_tell_2 zl_X9_15 (rfl) (by decide) rfl (zX_0_6 hX).2.2 (zX_20_2 hX).1 ?_
  refine Y.alen 40 40 dX9_tell_5 (rfl) ((zX_20_2 hX).2.2) rfl ⟨by decide, by decide⟩ ?_
  refine Z.icmp_ge 48 dX9_tell_6 rfl ⟨fun c_1 => ?_, fun c_1 => ?_⟩
  · replace K := K.1 c_1
    exact Z.vret dX9_tell_48 rfl K
  · replace K := K.2 c_1
    refine Z.aload_n (k := 0) dX9_tell_9 rfl ?_
    refine Y.getI 4 dX9_tell_10 zl_X9_21 (rfl) (by decide) rfl (zX_0_6 hX).2.2 ?_
    refine Z.aload_n (k := 0) dX9_tell_13 rfl ?_
    refine Y.getR (o := some 23) 3 dX9_tell_14 zl_X9_18 (rfl) (by decide) rfl (zX_0_6 hX).2.2 (zX_20_3 hX).1 ?_
    refine Y.alen 40 40 dX9_tell_17 (rfl) ((zX_20_3 hX).2.2) rfl ⟨by decide, by decide⟩ ?_
    refine Z.icmp_ge 48 dX9_tell_18 rfl ⟨fun c_2 => ?_, fun c_2 => ?_⟩
    · replace K := K.1 c_2
      exact Z.vret dX9_tell_48 rfl K
    · replace K := K.2 c_2
      refine Z.aload_n (k := 0) dX9_tell_21 rfl ?_
      refine Y.getR (o := some 22) 2 dX9_tell_22 zl_X9_15 (rfl) (by decide) rfl (zX_0_6 hX).2.2 (zX_20_2 hX).1 ?_
      refine Z.iload_n (k := 1) dX9_tell_25 rfl ?_
      refine Z.iload_n (k := 2) dX9_tell_26 rfl ?_
      obtain ⟨z_3, K⟩ := K
      refine Y.iast dX9_tell_27 (rfl) ((zX_20_2 hX).2.2) z_3 ?_
      generalize eE_4 : zuE E 22 v1 v2 = E_4
      replace K := K E_4 eE_4.symm
      refine Z.aload_n (k := 0) dX9_tell_28 rfl ?_
      refine Y.getR (o := some 23) 3 dX9_tell_29 zl_X9_18 (rfl) (by decide) rfl (zX_0_6 hX).2.2 (zX_20_3 hX).1 ?_
      refine Z.aload_n (k := 0) dX9_tell_32 rfl ?_
      refine Y.getI 4 dX9_tell_33 zl_X9_21 (rfl) (by decide) rfl (zX_0_6 hX).2.2 ?_
      refine Z.iload_n (k := 1) dX9_tell_36 rfl ?_
      obtain ⟨z_5, K⟩ := K
      refine Y.iast dX9_tell_37 (rfl) ((zX_20_3 hX).2.2) z_5 ?_
      generalize eE_6 : zuE E_4 23 ((E_4 20 4)) v1 = E_6
      replace K := K E_6 eE_6.symm
      refine Z.aload_n (k := 0) dX9_tell_38 rfl ?_
      refine Z.dup_i dX9_tell_39 (fun _ => rfl) ?_
      refine Y.getI 4 dX9_tell_40 zl_X9_21 (rfl) (by decide) rfl (zX_0_6 hX).2.2 ?_
      refine Z.iconst (n := 1) dX9_tell_43 ⟨by decide, by decide⟩ ?_
      obtain ⟨z_7, K⟩ := K
      refine Z.iadd dX9_tell_44 z_7 ?_
      refine Y.putI 4 dX9_tell_45 zw_X9_21 (fun q => by cases q) (rfl) rfl (zX_0_6 hX).2.2 (Or.inl rfl) ?_
      generalize eE_8 : zuE E_6 20 4 (((E_6 20 4) + 1)) = E_8
      replace K := K E_8 eE_8.symm
      exact Z.vret dX9_tell_48 rfl K
set_option maxRecDepth 20000 in
theorem X9_meet_0 {kz : Nat × Nat} {Q : Option zV → zH → Prop} {d : List Nat} {G : Nat → Int → Option Nat} {E : Nat → Int → Int} {v1 : Int} {v2 : Int} (hX : zK zXt d G) (K : ((0 : Int) ≤ v1 ∧ v1 < (360 : Int)) ∧ ((0 : Int) ≤ v2 ∧ v2 < (360 : Int)) ∧ ((E 21 v1) ≠ (E 21 v2) → ((0 : Int) ≤ v1 ∧ v1 < (360 : Int)) ∧ (0 ≤ (E 21 v1) → Z zm_X9_meet kz Q 31 [(0, zR 20), (1, zI v1), (2, zI v2)] [zI 0] (d, G, E)) ∧ (¬ (0 ≤ (E 21 v1)) → Z zm_X9_meet kz Q 31 [(0, zR 20), (1, zI v1), (2, zI v2)] [zI 1] (d, G, E))) ∧ (¬ ((E 21 v1) ≠ (E 21 v2)) → Q (some (zI 1)) (d, G, E))) : Z zm_X9_meet kz Q 0 [(0, zR 20), (1, zI v1), (2, zI v2)] [] (d, G, E) := by
  refine Z.aload_n (k := 0) dX9_meet_0 rfl ?_
  refine Y.getR (o := some 21) 1 dX9_meet_1 zl_X9_9 (rfl) (by decide) rfl (zX_0_6 hX).2.2 (zX_20_1 hX).1 ?_
  refine Z.iload_n (k := 1) dX9_meet_4 rfl ?_
  obtain ⟨z_1, K⟩ := K
  refine Y.iald dX9_meet_5 (rfl) ((zX_20_1 hX).2.2) z_1 ?_
  refine Z.aload_n (k := 0) dX9_meet_6 rfl ?_
  refine Y.getR (o := some 21) 1 dX9_meet_7 zl_X9_9 (rfl) (by decide) rfl (zX_0_6 hX).2.2 (zX_20_1 hX).1 ?_
  refine Z.iload_n (k := 2) dX9_meet_10 rfl ?_
  obtain ⟨z_2, K⟩ := K
  refine Y.iald dX9_meet_11 (rfl) ((zX_20_1 hX).2.2) z_2 ?_
  refine Z.icmp_ne 17 dX9_meet_12 rfl ⟨fun c_3 => ?_, fun c_3 => ?_⟩
  · replace K := K.1 c_3
    refine Z.aload_n (k := 0) dX9_meet_17 rfl ?_
    refine Y.getR (o := some 21) 1 dX9_meet_18 zl_X9_9 (rfl) (by decide) rfl (zX_0_6 hX).2.2 (zX_20_1 hX).1 ?_
    refine Z.iload_n (k := 1) dX9_meet_21 rfl ?_
    obtain ⟨z_4, K⟩ := K
    refine Y.iald dX9_meet_22 (rfl) ((zX_20_1 hX).2.2) z_4 ?_
    refine Z.if_ge 30 dX9_meet_23 rfl ⟨fun c_5 => ?_, fun c_5 => ?_⟩
    · replace K := K.1 c_5
      refine Z.iconst (n := 0) dX9_meet_30 ⟨by decide, by decide⟩ ?_
      exact K
    · replace K := K.2 c_5
      refine Z.iconst (n := 1) dX9_meet_26 ⟨by decide, by decide⟩ ?_
      refine Z.goto 31 dX9_meet_27 rfl ?_
      exact K
  · replace K := K.2 c_3
    refine Z.iconst (n := 1) dX9_meet_15 ⟨by decide, by decide⟩ ?_
    exact Z.iret (ty := .boolean) dX9_meet_16 rfl rfl K
set_option maxRecDepth 20000 in
theorem X9_meet_31 {kz : Nat × Nat} {Q : Option zV → zH → Prop} {d : List Nat} {G : Nat → Int → Option Nat} {E : Nat → Int → Int} {v1 : Int} {v2 : Int} {s0 : Int} (hX : zK zXt d G) (K : (s0 = 0 → ((0 : Int) ≤ v2 ∧ v2 < (360 : Int)) ∧ zin ((-1) - (E 21 v2)) ∧ (s0 = 0 → ∃ x_5 E_6, zM zm_X9_isIn [zR 20, zI (((-1) - (E 21 v2))), zI v1] (d, G, E) (some (zI x_5)) (d, G, E_6) ∧ (x_5 = 0 → ∃ E_10, zM zm_X9_tell [zR 20, zI (((-1) - (E 21 v2))), zI v1] (d, G, E_6) none (d, G, E_10) ∧ Q (some (zI 1)) (d, G, E_10)) ∧ (¬ (x_5 = 0) → Q (some (zI 0)) (d, G, E_6))) ∧ (¬ (s0 = 0) → ∃ x_13 E_14, zM zm_X9_isIn [zR 20, zI (((-1) - (E 21 v2))), zI v2] (d, G, E) (some (zI x_13)) (d, G, E_14) ∧ (x_13 = 0 → ∃ E_18, zM zm_X9_tell [zR 20, zI (((-1) - (E 21 v2))), zI v2] (d, G, E_14) none (d, G, E_18) ∧ Q (some (zI 1)) (d, G, E_18)) ∧ (¬ (x_13 = 0) → Q (some (zI 0)) (d, G, E_14)))) ∧ (¬ (s0 = 0) → ((0 : Int) ≤ v1 ∧ v1 < (360 : Int)) ∧ zin ((-1) - (E 21 v1)) ∧ (s0 = 0 → ∃ x_24 E_25, zM zm_X9_isIn [zR 20, zI (((-1) - (E 21 v1))), zI v1] (d, G, E) (some (zI x_24)) (d, G, E_25) ∧ (x_24 = 0 → ∃ E_29, zM zm_X9_tell [zR 20, zI (((-1) - (E 21 v1))), zI v1] (d, G, E_25) none (d, G, E_29) ∧ Q (some (zI 1)) (d, G, E_29)) ∧ (¬ (x_24 = 0) → Q (some (zI 0)) (d, G, E_25))) ∧ (¬ (s0 = 0) → ∃ x_32 E_33, zM zm_X9_isIn [zR 20, zI (((-1) - (E 21 v1))), zI v2] (d, G, E) (some (zI x_32)) (d, G, E_33) ∧ (x_32 = 0 → ∃ E_37, zM zm_X9_tell [zR 20, zI (((-1) - (E 21 v1))), zI v2] (d, G, E_33) none (d, G, E_37) ∧ Q (some (zI 1)) (d, G, E_37)) ∧ (¬ (x_32 = 0) → Q (some (zI 0)) (d, G, E_33))))) : Z zm_X9_meet kz Q 31 [(0, zR 20), (1, zI v1), (2, zI v2)] [zI s0] (d, G, E) := by
  refine Z.istore_n (ls' := [(3, zI s0), (0, zR 20), (1, zI v1), (2, zI v2)]) dX9_meet_31 (by decide) rfl ?_
  refine Z.iconst (n := -1) dX9_meet_32 ⟨by decide, by decide⟩ ?_
  refine Z.aload_n (k := 1) dX9_meet_33 rfl ?_
  refine Y.getR (o := some 21) 1 dX9_meet_34 zl_X9_9 (rfl) (by decide) rfl (zX_0_6 hX).2.2 (zX_20_1 hX).1 ?_
  refine Z.iload_n (k := 0) dX9_meet_37 rfl ?_
  refine Z.if_eq 45 dX9_meet_38 rfl ⟨fun c_1 => ?_, fun c_1 => ?_⟩
  · replace K := K.1 c_1
    refine Z.iload_n (k := 3) dX9_meet_45 rfl ?_
    obtain ⟨z_2, K⟩ := K
    refine Y.iald dX9_meet_46 (rfl) ((zX_20_1 hX).2.2) z_2 ?_
    obtain ⟨z_3, K⟩ := K
    refine Z.isub dX9_meet_47 z_3 ?_
    refine Z.istore (ls' := [(4, zI (((-1) - (E 21 v2)))), (3, zI s0), (0, zR 20), (1, zI v1), (2, zI v2)]) dX9_meet_48 (by decide) rfl ?_
    refine Z.iload_n (k := 1) dX9_meet_50 rfl ?_
    refine Z.if_eq 58 dX9_meet_51 rfl ⟨fun c_4 => ?_, fun c_4 => ?_⟩
    · replace K := K.1 c_4
      refine Z.iload_n (k := 3) dX9_meet_58 rfl ?_
      refine Z.istore (ls' := [(5, zI v1), (4, zI (((-1) - (E 21 v2)))), (3, zI s0), (0, zR 20), (1, zI v1), (2, zI v2)]) dX9_meet_59 (by decide) rfl ?_
      refine Z.aload_n (k := 3) dX9_meet_61 rfl ?_
      refine Z.iload (k := 1) dX9_meet_62 rfl ?_
      refine Z.iload (k := 0) dX9_meet_64 rfl ?_
      obtain ⟨x_5, E_6, m_7, K⟩ := K
      refine Y.callV (g := zm_X9_isIn) (vs := [zI (((-1) - (E 21 v2))), zI v1]) (st := []) dX9_meet_66 ⟨zg_X9_isIn.1, zg_X9_isIn.2.1, zg_X9_isIn.2.2, by decide⟩ ⟨zk_X9_104, zv_X9_isIn⟩ (ci := 9) (rfl) rfl ((zX_0_6 hX).2.2) rfl rfl (Nat.le_of_ble_eq_true rfl) m_7 (Or.inl rfl) ?_
      show Z zm_X9_meet kz Q 69 [(5, zI v1), (4, zI (((-1) - (E 21 v2)))), (3, zI s0), (0, zR 20), (1, zI v1), (2, zI v2)] [zI x_5] (d, G, E_6)
      refine Z.if_eq 74 dX9_meet_69 rfl ⟨fun c_9 => ?_, fun c_9 => ?_⟩
      · replace K := K.1 c_9
        refine Z.aload_n (k := 3) dX9_meet_74 rfl ?_
        refine Z.iload (k := 1) dX9_meet_75 rfl ?_
        refine Z.iload (k := 0) dX9_meet_77 rfl ?_
        obtain ⟨E_10, m_11, K⟩ := K
        refine Y.callV (g := zm_X9_tell) (vs := [zI (((-1) - (E 21 v2))), zI v1]) (st := []) dX9_meet_79 ⟨zg_X9_tell.1, zg_X9_tell.2.1, zg_X9_tell.2.2, by decide⟩ ⟨zk_X9_107, zv_X9_tell⟩ (ci := 9) (rfl) rfl ((zX_0_6 hX).2.2) rfl rfl (Nat.le_of_ble_eq_true rfl) m_11 (Or.inl rfl) ?_
        show Z zm_X9_meet kz Q 82 [(5, zI v1), (4, zI (((-1) - (E 21 v2)))), (3, zI s0), (0, zR 20), (1, zI v1), (2, zI v2)] [] (d, G, E_10)
        refine Z.iconst (n := 1) dX9_meet_82 ⟨by decide, by decide⟩ ?_
        exact Z.iret (ty := .boolean) dX9_meet_83 rfl rfl K
      · replace K := K.2 c_9
        refine Z.iconst (n := 0) dX9_meet_72 ⟨by decide, by decide⟩ ?_
        exact Z.iret (ty := .boolean) dX9_meet_73 rfl rfl K
    · replace K := K.2 c_4
      refine Z.iload_n (k := 4) dX9_meet_54 rfl ?_
      refine Z.goto 59 dX9_meet_55 rfl ?_
      refine Z.istore (ls' := [(5, zI v2), (4, zI (((-1) - (E 21 v2)))), (3, zI s0), (0, zR 20), (1, zI v1), (2, zI v2)]) dX9_meet_59 (by decide) rfl ?_
      refine Z.aload_n (k := 3) dX9_meet_61 rfl ?_
      refine Z.iload (k := 1) dX9_meet_62 rfl ?_
      refine Z.iload (k := 0) dX9_meet_64 rfl ?_
      obtain ⟨x_13, E_14, m_15, K⟩ := K
      refine Y.callV (g := zm_X9_isIn) (vs := [zI (((-1) - (E 21 v2))), zI v2]) (st := []) dX9_meet_66 ⟨zg_X9_isIn.1, zg_X9_isIn.2.1, zg_X9_isIn.2.2, by decide⟩ ⟨zk_X9_104, zv_X9_isIn⟩ (ci := 9) (rfl) rfl ((zX_0_6 hX).2.2) rfl rfl (Nat.le_of_ble_eq_true rfl) m_15 (Or.inl rfl) ?_
      show Z zm_X9_meet kz Q 69 [(5, zI v2), (4, zI (((-1) - (E 21 v2)))), (3, zI s0), (0, zR 20), (1, zI v1), (2, zI v2)] [zI x_13] (d, G, E_14)
      refine Z.if_eq 74 dX9_meet_69 rfl ⟨fun c_17 => ?_, fun c_17 => ?_⟩
      · replace K := K.1 c_17
        refine Z.aload_n (k := 3) dX9_meet_74 rfl ?_
        refine Z.iload (k := 1) dX9_meet_75 rfl ?_
        refine Z.iload (k := 0) dX9_meet_77 rfl ?_
        obtain ⟨E_18, m_19, K⟩ := K
        refine Y.callV (g := zm_X9_tell) (vs := [zI (((-1) - (E 21 v2))), zI v2]) (st := []) dX9_meet_79 ⟨zg_X9_tell.1, zg_X9_tell.2.1, zg_X9_tell.2.2, by decide⟩ ⟨zk_X9_107, zv_X9_tell⟩ (ci := 9) (rfl) rfl ((zX_0_6 hX).2.2) rfl rfl (Nat.le_of_ble_eq_true rfl) m_19 (Or.inl rfl) ?_
        show Z zm_X9_meet kz Q 82 [(5, zI v2), (4, zI (((-1) - (E 21 v2)))), (3, zI s0), (0, zR 20), (1, zI v1), (2, zI v2)] [] (d, G, E_18)
        refine Z.iconst (n := 1) dX9_meet_82 ⟨by decide, by decide⟩ ?_
        exact Z.iret (ty := .boolean) dX9_meet_83 rfl rfl K
      · replace K := K.2 c_17
        refine Z.iconst (n := 0) dX9_meet_72 ⟨by decide, by decide⟩ ?_
        exact Z.iret (ty := .boolean) dX9_meet_73 rfl rfl K
  · replace K := K.2 c_1
    refine Z.iload_n (k := 2) dX9_meet_41 rfl ?_
    refine Z.goto 46 dX9_meet_42 rfl ?_
    obtain ⟨z_21, K⟩ := K
    refine Y.iald dX9_meet_46 (rfl) ((zX_20_1 hX).2.2) z_21 ?_
    obtain ⟨z_22, K⟩ := K
    refine Z.isub dX9_meet_47 z_22 ?_
    refine Z.istore (ls' := [(4, zI (((-1) - (E 21 v1)))), (3, zI s0), (0, zR 20), (1, zI v1), (2, zI v2)]) dX9_meet_48 (by decide) rfl ?_
    refine Z.iload_n (k := 1) dX9_meet_50 rfl ?_
    refine Z.if_eq 58 dX9_meet_51 rfl ⟨fun c_23 => ?_, fun c_23 => ?_⟩
    · replace K := K.1 c_23
      refine Z.iload_n (k := 3) dX9_meet_58 rfl ?_
      refine Z.istore (ls' := [(5, zI v1), (4, zI (((-1) - (E 21 v1)))), (3, zI s0), (0, zR 20), (1, zI v1), (2, zI v2)]) dX9_meet_59 (by decide) rfl ?_
      refine Z.aload_n (k := 3) dX9_meet_61 rfl ?_
      refine Z.iload (k := 1) dX9_meet_62 rfl ?_
      refine Z.iload (k := 0) dX9_meet_64 rfl ?_
      obtain ⟨x_24, E_25, m_26, K⟩ := K
      refine Y.callV (g := zm_X9_isIn) (vs := [zI (((-1) - (E 21 v1))), zI v1]) (st := []) dX9_meet_66 ⟨zg_X9_isIn.1, zg_X9_isIn.2.1, zg_X9_isIn.2.2, by decide⟩ ⟨zk_X9_104, zv_X9_isIn⟩ (ci := 9) (rfl) rfl ((zX_0_6 hX).2.2) rfl rfl (Nat.le_of_ble_eq_true rfl) m_26 (Or.inl rfl) ?_
      show Z zm_X9_meet kz Q 69 [(5, zI v1), (4, zI (((-1) - (E 21 v1)))), (3, zI s0), (0, zR 20), (1, zI v1), (2, zI v2)] [zI x_24] (d, G, E_25)
      refine Z.if_eq 74 dX9_meet_69 rfl ⟨fun c_28 => ?_, fun c_28 => ?_⟩
      · replace K := K.1 c_28
        refine Z.aload_n (k := 3) dX9_meet_74 rfl ?_
        refine Z.iload (k := 1) dX9_meet_75 rfl ?_
        refine Z.iload (k := 0) dX9_meet_77 rfl ?_
        obtain ⟨E_29, m_30, K⟩ := K
        refine Y.callV (g := zm_X9_tell) (vs := [zI (((-1) - (E 21 v1))), zI v1]) (st := []) dX9_meet_79 ⟨zg_X9_tell.1, zg_X9_tell.2.1, zg_X9_tell.2.2, by decide⟩ ⟨zk_X9_107, zv_X9_tell⟩ (ci := 9) (rfl) rfl ((zX_0_6 hX).2.2) rfl rfl (Nat.le_of_ble_eq_true rfl) m_30 (Or.inl rfl) ?_
        show Z zm_X9_meet kz Q 82 [(5, zI v1), (4, zI (((-1) - (E 21 v1)))), (3, zI s0), (0, zR 20), (1, zI v1), (2, zI v2)] [] (d, G, E_29)
        refine Z.iconst (n := 1) dX9_meet_82 ⟨by decide, by decide⟩ ?_
        exact Z.iret (ty := .boolean) dX9_meet_83 rfl rfl K
      · replace K := K.2 c_28
        refine Z.iconst (n := 0) dX9_meet_72 ⟨by decide, by decide⟩ ?_
        exact Z.iret (ty := .boolean) dX9_meet_73 rfl rfl K
    · replace K := K.2 c_23
      refine Z.iload_n (k := 4) dX9_meet_54 rfl ?_
      refine Z.goto 59 dX9_meet_55 rfl ?_
      refine Z.istore (ls' := [(5, zI v2), (4, zI (((-1) - (E 21 v1)))), (3, zI s0), (0, zR 20), (1, zI v1), (2, zI v2)]) dX9_meet_59 (by decide) rfl ?_
      refine Z.aload_n (k := 3) dX9_meet_61 rfl ?_
      refine Z.iload (k := 1) dX9_meet_62 rfl ?_
      refine Z.iload (k := 0) dX9_meet_64 rfl ?_
      obtain ⟨x_32, E_33, m_34, K⟩ := K
      refine Y.callV (g := zm_X9_isIn) (vs := [zI (((-1) - (E 21 v1))), zI v2]) (st := []) dX9_meet_66 ⟨zg_X9_isIn.1, zg_X9_isIn.2.1, zg_X9_isIn.2.2, by decide⟩ ⟨zk_X9_104, zv_X9_isIn⟩ (ci := 9) (rfl) rfl ((zX_0_6 hX).2.2) rfl rfl (Nat.le_of_ble_eq_true rfl) m_34 (Or.inl rfl) ?_
      show Z zm_X9_meet kz Q 69 [(5, zI v2), (4, zI (((-1) - (E 21 v1)))), (3, zI s0), (0, zR 20), (1, zI v1), (2, zI v2)] [zI x_32] (d, G, E_33)
      refine Z.if_eq 74 dX9_meet_69 rfl ⟨fun c_36 => ?_, fun c_36 => ?_⟩
      · replace K := K.1 c_36
        refine Z.aload_n (k := 3) dX9_meet_74 rfl ?_
        refine Z.iload (k := 1) dX9_meet_75 rfl ?_
        refine Z.iload (k := 0) dX9_meet_77 rfl ?_
        obtain ⟨E_37, m_38, K⟩ := K
        refine Y.callV (g := zm_X9_tell) (vs := [zI (((-1) - (E 21 v1))), zI v2]) (st := []) dX9_meet_79 ⟨zg_X9_tell.1, zg_X9_tell.2.1, zg_X9_tell.2.2, by decide⟩ ⟨zk_X9_107, zv_X9_tell⟩ (ci := 9) (rfl) rfl ((zX_0_6 hX).2.2) rfl rfl (Nat.le_of_ble_eq_true rfl) m_38 (Or.inl rfl) ?_
        show Z zm_X9_meet kz Q 82 [(5, zI v2), (4, zI (((-1) - (E 21 v1)))), (3, zI s0), (0, zR 20), (1, zI v1), (2, zI v2)] [] (d, G, E_37)
        refine Z.iconst (n := 1) dX9_meet_82 ⟨by decide, by decide⟩ ?_
        exact Z.iret (ty := .boolean) dX9_meet_83 rfl rfl K
      · replace K := K.2 c_36
        refine Z.iconst (n := 0) dX9_meet_72 ⟨by decide, by decide⟩ ?_
        exact Z.iret (ty := .boolean) dX9_meet_73 rfl rfl K
set_option maxRecDepth 20000 in
theorem X9_widen_0 {kz : Nat × Nat} {Q : Option zV → zH → Prop} {d : List Nat} {G : Nat → Int → Option Nat} {E : Nat → Int → Int} {v1 : Int} {v2 : Int} (hX : zK zXt d G) (K : ∃ E_1, zM zm_X9_forget [zR 20, zI 0] (d, G, E) none (d, G, E_1) ∧ Z zm_X9_widen kz Q 19 [(0, zR 20), (3, zI v1), (4, zI v2), (5, zI 1), (6, zI 0), (7, zI 0)] [] (d, G, E_1)) : Z zm_X9_widen kz Q 0 [(0, zR 20), (1, zI v1), (2, zI v2)] [] (d, G, E) := by
  refine Z.aload_n (k := 0) dX9_widen_0 rfl ?_
  refine Z.iconst (n := 0) dX9_widen_1 ⟨by decide, by decide⟩ ?_
  obtain ⟨E_1, m_2, K⟩ := K
  refine Y.callV (g := zm_X9_forget) (vs := [zI 0]) (st := []) dX9_widen_2 ⟨zg_X9_forget.1, zg_X9_forget.2.1, zg_X9_forget.2.2, by decide⟩ ⟨zk_X9_82, zv_X9_forget⟩ (ci := 9) (rfl) rfl ((zX_0_6 hX).2.2) rfl rfl (Nat.le_of_ble_eq_true rfl) m_2 (Or.inl rfl) ?_
  show Z zm_X9_widen kz Q 5 [(0, zR 20), (1, zI v1), (2, zI v2)] [] (d, G, E_1)
  refine Z.iload_n (k := 1) dX9_widen_5 rfl ?_
  refine Z.istore_n (ls' := [(3, zI v1), (0, zR 20), (1, zI v1), (2, zI v2)]) dX9_widen_6 (by decide) rfl ?_
  refine Z.iload_n (k := 3) dX9_widen_7 rfl ?_
  refine Z.istore (ls' := [(4, zI v2), (3, zI v1), (0, zR 20), (1, zI v1), (2, zI v2)]) dX9_widen_8 (by decide) rfl ?_
  refine Z.iconst (n := 1) dX9_widen_10 ⟨by decide, by decide⟩ ?_
  refine Z.istore (ls' := [(5, zI 1), (4, zI v2), (3, zI v1), (0, zR 20), (1, zI v1), (2, zI v2)]) dX9_widen_11 (by decide) rfl ?_
  refine Z.iconst (n := 0) dX9_widen_13 ⟨by decide, by decide⟩ ?_
  refine Z.istore (ls' := [(6, zI 0), (5, zI 1), (4, zI v2), (3, zI v1), (0, zR 20), (1, zI v1), (2, zI v2)]) dX9_widen_14 (by decide) rfl ?_
  refine Z.iconst (n := 0) dX9_widen_16 ⟨by decide, by decide⟩ ?_
  refine Z.istore (ls' := [(7, zI 0), (6, zI 0), (5, zI 1), (4, zI v2), (3, zI v1), (0, zR 20), (1, zI v1), (2, zI v2)]) dX9_widen_17 (by decide) rfl ?_
  refine Z.pick (ls' := [(0, zR 20), (3, zI v1), (4, zI v2), (5, zI 1), (6, zI 0), (7, zI 0)]) [5, 4, 3, 2, 1, 0] rfl ?_
  exact K
set_option maxRecDepth 20000 in
theorem X9_widen_19 {kz : Nat × Nat} {Q : Option zV → zH → Prop} {d : List Nat} {G : Nat → Int → Option Nat} {E : Nat → Int → Int} {v3 : Int} {v4 : Int} {v5 : Int} {v6 : Int} {v7 : Int} (hX : zK zXt d G) (K : ((1000000) ≤ v7 → Q (some (zI 0)) (d, G, E)) ∧ (¬ ((1000000) ≤ v7) → (v5 ≠ 0 → ∃ x_3, zM zm_X9_resting [zR 20, zI v3] (d, G, E) (some (zI x_3)) (d, G, E) ∧ ∃ x_6, zM zm_X9_resting [zR 20, zI v4] (d, G, E) (some (zI x_6)) (d, G, E) ∧ ((0 : Int) ≤ x_3 ∧ x_3 < (360 : Int)) ∧ ((E 21 x_3) < 0 → Z zm_X9_widen kz Q 149 [(0, zR 20), (3, zI v3), (4, zI v4), (5, zI v5), (6, zI v6), (7, zI v7), (8, zI x_3), (9, zI x_6), (10, zI ((E 21 x_3)))] [] (d, G, E)) ∧ (¬ ((E 21 x_3) < 0) → (x_3 ≠ v3 → Z zm_X9_widen kz Q 149 [(0, zR 20), (3, zI v3), (4, zI v4), (5, zI v5), (6, zI v6), (7, zI v7), (8, zI x_3), (9, zI x_6), (10, zI ((E 21 x_3)))] [] (d, G, E)) ∧ (¬ (x_3 ≠ v3) → (x_6 ≠ v4 → Z zm_X9_widen kz Q 149 [(0, zR 20), (3, zI v3), (4, zI v4), (5, zI v5), (6, zI v6), (7, zI v7), (8, zI x_3), (9, zI x_6), (10, zI ((E 21 x_3)))] [] (d, G, E)) ∧ (¬ (x_6 ≠ v4) → ((0 : Int) ≤ x_6 ∧ x_6 < (360 : Int)) ∧ ((E 21 x_3) ≠ (E 21 x_6) → Z zm_X9_widen kz Q 149 [(0, zR 20), (3, zI v3), (4, zI v4), (5, zI v5), (6, zI v6), (7, zI v7), (8, zI x_3), (9, zI x_6), (10, zI ((E 21 x_3)))] [] (d, G, E)) ∧ (¬ ((E 21 x_3) ≠ (E 21 x_6)) → ∃ x_15, zM zm_X8_partsOf [zR 1, zI ((E 21 x_3))] (d, G, E) (some (zI x_15)) (d, G, E) ∧ zin (x_15 - 1) ∧ zin (v5 + (x_15 - 1)) ∧ zin (v3 + 1) ∧ zin (v4 + 1) ∧ zin (v7 + 1) ∧ Z zm_X9_widen kz Q 19 [(0, zR 20), (3, zI ((v3 + 1))), (4, zI ((v4 + 1))), (5, zI ((v5 + (x_15 - 1)))), (6, zI v6), (7, zI ((v7 + 1)))] [] (d, G, E)))))) ∧ (¬ (v5 ≠ 0) → (v6 ≠ 0 → zin (v6 + (-1)) ∧ ((0 : Int) ≤ (v6 + (-1)) ∧ (v6 + (-1)) < (128 : Int)) ∧ ((0 : Int) ≤ (v6 + (-1)) ∧ (v6 + (-1)) < (128 : Int)) ∧ ((0 : Int) ≤ (v6 + (-1)) ∧ (v6 + (-1)) < (128 : Int)) ∧ zin (v7 + 1) ∧ Z zm_X9_widen kz Q 19 [(0, zR 20), (3, zI ((E 24 (v6 + (-1))))), (4, zI ((E 25 (v6 + (-1))))), (5, zI ((E 26 (v6 + (-1))))), (6, zI ((v6 + (-1)))), (7, zI ((v7 + 1)))] [] (d, G, E)) ∧ (¬ (v6 ≠ 0) → Q (some (zI 1)) (d, G, E))))) : Z zm_X9_widen kz Q 19 [(0, zR 20), (3, zI v3), (4, zI v4), (5, zI v5), (6, zI v6), (7, zI v7)] [] (d, G, E) := by
  refine Z.iload (k := 5) dX9_widen_19 rfl ?_
  refine Z.ldc (n := 1000000) dX9_widen_21 ⟨by decide, by decide⟩ zq_X9_86 ?_
  refine Z.icmp_ge 309 dX9_widen_23 rfl ⟨fun c_1 => ?_, fun c_1 => ?_⟩
  · replace K := K.1 c_1
    refine Z.iconst (n := 0) dX9_widen_309 ⟨by decide, by decide⟩ ?_
    exact Z.iret (ty := .boolean) dX9_widen_310 rfl rfl K
  · replace K := K.2 c_1
    refine Z.iload (k := 3) dX9_widen_26 rfl ?_
    refine Z.if_ne 70 dX9_widen_28 rfl ⟨fun c_2 => ?_, fun c_2 => ?_⟩
    · replace K := K.1 c_2
      refine Z.aload_n (k := 0) dX9_widen_70 rfl ?_
      refine Z.iload_n (k := 1) dX9_widen_71 rfl ?_
      obtain ⟨x_3, m_4, K⟩ := K
      refine Y.callV (g := zm_X9_resting) (vs := [zI v3]) (st := []) dX9_widen_72 ⟨zg_X9_resting.1, zg_X9_resting.2.1, zg_X9_resting.2.2, by decide⟩ ⟨zk_X9_87, zv_X9_resting⟩ (ci := 9) (rfl) rfl ((zX_0_6 hX).2.2) rfl rfl (Nat.le_of_ble_eq_true rfl) m_4 (Or.inl rfl) ?_
      show Z zm_X9_widen kz Q 75 [(0, zR 20), (3, zI v3), (4, zI v4), (5, zI v5), (6, zI v6), (7, zI v7)] [zI x_3] (d, G, E)
      refine Z.istore (ls' := [(8, zI x_3), (0, zR 20), (3, zI v3), (4, zI v4), (5, zI v5), (6, zI v6), (7, zI v7)]) dX9_widen_75 (by decide) rfl ?_
      refine Z.aload_n (k := 1) dX9_widen_77 rfl ?_
      refine Z.iload (k := 3) dX9_widen_78 rfl ?_
      obtain ⟨x_6, m_7, K⟩ := K
      refine Y.callV (g := zm_X9_resting) (vs := [zI v4]) (st := []) dX9_widen_80 ⟨zg_X9_resting.1, zg_X9_resting.2.1, zg_X9_resting.2.2, by decide⟩ ⟨zk_X9_87, zv_X9_resting⟩ (ci := 9) (rfl) rfl ((zX_0_6 hX).2.2) rfl rfl (Nat.le_of_ble_eq_true rfl) m_7 (Or.inl rfl) ?_
      show Z zm_X9_widen kz Q 83 [(8, zI x_3), (0, zR 20), (3, zI v3), (4, zI v4), (5, zI v5), (6, zI v6), (7, zI v7)] [zI x_6] (d, G, E)
      refine Z.istore (ls' := [(9, zI x_6), (8, zI x_3), (0, zR 20), (3, zI v3), (4, zI v4), (5, zI v5), (6, zI v6), (7, zI v7)]) dX9_widen_83 (by decide) rfl ?_
      refine Z.aload_n (k := 2) dX9_widen_85 rfl ?_
      refine Y.getR (o := some 21) 1 dX9_widen_86 zl_X9_9 (rfl) (by decide) rfl (zX_0_6 hX).2.2 (zX_20_1 hX).1 ?_
      refine Z.iload (k := 1) dX9_widen_89 rfl ?_
      obtain ⟨z_9, K⟩ := K
      refine Y.iald dX9_widen_91 (rfl) ((zX_20_1 hX).2.2) z_9 ?_
      refine Z.istore (ls' := [(10, zI ((E 21 x_3))), (9, zI x_6), (8, zI x_3), (0, zR 20), (3, zI v3), (4, zI v4), (5, zI v5), (6, zI v6), (7, zI v7)]) dX9_widen_92 (by decide) rfl ?_
      refine Z.iload (k := 0) dX9_widen_94 rfl ?_
      refine Z.if_lt 149 dX9_widen_96 rfl ⟨fun c_10 => ?_, fun c_10 => ?_⟩
      · replace K := K.1 c_10
        refine Z.pick (ls' := [(0, zR 20), (3, zI v3), (4, zI v4), (5, zI v5), (6, zI v6), (7, zI v7), (8, zI x_3), (9, zI x_6), (10, zI ((E 21 x_3)))]) [3, 4, 5, 6, 7, 8, 2, 1, 0] rfl ?_
        exact K
      · replace K := K.2 c_10
        refine Z.iload (k := 2) dX9_widen_99 rfl ?_
        refine Z.iload_n (k := 4) dX9_widen_101 rfl ?_
        refine Z.icmp_ne 149 dX9_widen_102 rfl ⟨fun c_11 => ?_, fun c_11 => ?_⟩
        · replace K := K.1 c_11
          refine Z.pick (ls' := [(0, zR 20), (3, zI v3), (4, zI v4), (5, zI v5), (6, zI v6), (7, zI v7), (8, zI x_3), (9, zI x_6), (10, zI ((E 21 x_3)))]) [3, 4, 5, 6, 7, 8, 2, 1, 0] rfl ?_
          exact K
        · replace K := K.2 c_11
          refine Z.iload (k := 1) dX9_widen_105 rfl ?_
          refine Z.iload (k := 5) dX9_widen_107 rfl ?_
          refine Z.icmp_ne 149 dX9_widen_109 rfl ⟨fun c_12 => ?_, fun c_12 => ?_⟩
          · replace K := K.1 c_12
            refine Z.pick (ls' := [(0, zR 20), (3, zI v3), (4, zI v4), (5, zI v5), (6, zI v6), (7, zI v7), (8, zI x_3), (9, zI x_6), (10, zI ((E 21 x_3)))]) [3, 4, 5, 6, 7, 8, 2, 1, 0] rfl ?_
            exact K
          · replace K := K.2 c_12
            refine Z.iload (k := 0) dX9_widen_112 rfl ?_
            refine Z.aload_n (k := 3) dX9_widen_114 rfl ?_
            refine Y.getR (o := some 21) 1 dX9_widen_115 zl_X9_9 (rfl) (by decide) rfl (zX_0_6 hX).2.2 (zX_20_1 hX).1 ?_
            refine Z.iload (k := 1) dX9_widen_118 rfl ?_
            obtain ⟨z_13, K⟩ := K
            refine Y.iald dX9_widen_120 (rfl) ((zX_20_1 hX).2.2) z_13 ?_
            refine Z.icmp_ne 149 dX9_widen_121 rfl ⟨fun c_14 => ?_, fun c_14 => ?_⟩
            · replace K := K.1 c_14
              refine Z.pick (ls' := [(0, zR 20), (3, zI v3), (4, zI v4), (5, zI v5), (6, zI v6), (7, zI v7), (8, zI x_3), (9, zI x_6), (10, zI ((E 21 x_3)))]) [3, 4, 5, 6, 7, 8, 2, 1, 0] rfl ?_
              exact K
            · replace K := K.2 c_14
              refine Z.iload (k := 6) dX9_widen_124 rfl ?_
              refine Z.aload_n (k := 3) dX9_widen_126 rfl ?_
              refine Y.getR (o := some 1) 0 dX9_widen_127 zl_X9_55 (rfl) (by decide) rfl (zX_0_6 hX).2.2 (zX_20_0 hX).1 ?_
              refine Z.iload (k := 0) dX9_widen_130 rfl ?_
              obtain ⟨x_15, m_16, K⟩ := K
              refine Y.callV (g := zm_X8_partsOf) (vs := [zI ((E 21 x_3))]) (st := [zI v5]) dX9_widen_132 ⟨zg_X8_partsOf.1, zg_X8_partsOf.2.1, zg_X8_partsOf.2.2, by decide⟩ ⟨zk_X9_91, zv_X8_partsOf⟩ (ci := 8) (rfl) rfl ((zX_0_0 hX).2.2) rfl rfl (Nat.le_of_ble_eq_true rfl) m_16 (Or.inl rfl) ?_
              show Z zm_X9_widen kz Q 135 [(10, zI ((E 21 x_3))), (9, zI x_6), (8, zI x_3), (0, zR 20), (3, zI v3), (4, zI v4), (5, zI v5), (6, zI v6), (7, zI v7)] [zI x_15, zI v5] (d, G, E)
              refine Z.iconst (n := 1) dX9_widen_135 ⟨by decide, by decide⟩ ?_
              obtain ⟨z_18, K⟩ := K
              refine Z.isub dX9_widen_136 z_18 ?_
              obtain ⟨z_19, K⟩ := K
              refine Z.iadd dX9_widen_137 z_19 ?_
              refine Z.istore (ls' := [(5, zI ((v5 + (x_15 - 1)))), (10, zI ((E 21 x_3))), (9, zI x_6), (8, zI x_3), (0, zR 20), (3, zI v3), (4, zI v4), (6, zI v6), (7, zI v7)]) dX9_widen_138 (by decide) rfl ?_
              obtain ⟨z_20, K⟩ := K
              refine Z.iinc (k := 5) (ls' := [(3, zI ((v3 + 1))), (5, zI ((v5 + (x_15 - 1)))), (10, zI ((E 21 x_3))), (9, zI x_6), (8, zI x_3), (0, zR 20), (4, zI v4), (6, zI v6), (7, zI v7)]) dX9_widen_140 rfl (by decide) z_20 rfl ?_
              obtain ⟨z_21, K⟩ := K
              refine Z.iinc (k := 6) (ls' := [(4, zI ((v4 + 1))), (3, zI ((v3 + 1))), (5, zI ((v5 + (x_15 - 1)))), (10, zI ((E 21 x_3))), (9, zI x_6), (8, zI x_3), (0, zR 20), (6, zI v6), (7, zI v7)]) dX9_widen_143 rfl (by decide) z_21 rfl ?_
              refine Z.goto 303 dX9_widen_146 rfl ?_
              obtain ⟨z_22, K⟩ := K
              refine Z.iinc (k := 8) (ls' := [(7, zI ((v7 + 1))), (4, zI ((v4 + 1))), (3, zI ((v3 + 1))), (5, zI ((v5 + (x_15 - 1)))), (10, zI ((E 21 x_3))), (9, zI x_6), (8, zI x_3), (0, zR 20), (6, zI v6)]) dX9_widen_303 rfl (by decide) z_22 rfl ?_
              refine Z.goto 19 dX9_widen_306 rfl ?_
              refine Z.pick (ls' := [(0, zR 20), (3, zI ((v3 + 1))), (4, zI ((v4 + 1))), (5, zI ((v5 + (x_15 - 1)))), (6, zI v6), (7, zI ((v7 + 1)))]) [7, 2, 1, 3, 8, 0] rfl ?_
              exact K
    · replace K := K.2 c_2
      refine Z.iload (k := 4) dX9_widen_31 rfl ?_
      refine Z.if_ne 38 dX9_widen_33 rfl ⟨fun c_23 => ?_, fun c_23 => ?_⟩
      · replace K := K.1 c_23
        obtain ⟨z_24, K⟩ := K
        refine Z.iinc (k := 4) (ls' := [(6, zI ((v6 + (-1)))), (0, zR 20), (3, zI v3), (4, zI v4), (5, zI v5), (7, zI v7)]) dX9_widen_38 rfl (by decide) z_24 rfl ?_
        refine Z.aload_n (k := 1) dX9_widen_41 rfl ?_
        refine Y.getR (o := some 24) 5 dX9_widen_42 zl_X9_25 (rfl) (by decide) rfl (zX_0_6 hX).2.2 (zX_20_5 hX).1 ?_
        refine Z.iload (k := 0) dX9_widen_45 rfl ?_
        obtain ⟨z_25, K⟩ := K
        refine Y.iald dX9_widen_47 (rfl) ((zX_20_5 hX).2.2) z_25 ?_
        refine Z.istore_n (ls' := [(3, zI ((E 24 (v6 + (-1))))), (6, zI ((v6 + (-1)))), (0, zR 20), (4, zI v4), (5, zI v5), (7, zI v7)]) dX9_widen_48 (by decide) rfl ?_
        refine Z.aload_n (k := 2) dX9_widen_49 rfl ?_
        refine Y.getR (o := some 25) 6 dX9_widen_50 zl_X9_28 (rfl) (by decide) rfl (zX_0_6 hX).2.2 (zX_20_6 hX).1 ?_
        refine Z.iload (k := 1) dX9_widen_53 rfl ?_
        obtain ⟨z_26, K⟩ := K
        refine Y.iald dX9_widen_55 (rfl) ((zX_20_6 hX).2.2) z_26 ?_
        refine Z.istore (ls' := [(4, zI ((E 25 (v6 + (-1))))), (3, zI ((E 24 (v6 + (-1))))), (6, zI ((v6 + (-1)))), (0, zR 20), (5, zI v5), (7, zI v7)]) dX9_widen_56 (by decide) rfl ?_
        refine Z.aload_n (k := 3) dX9_widen_58 rfl ?_
        refine Y.getR (o := some 26) 7 dX9_widen_59 zl_X9_31 (rfl) (by decide) rfl (zX_0_6 hX).2.2 (zX_20_7 hX).1 ?_
        refine Z.iload (k := 2) dX9_widen_62 rfl ?_
        obtain ⟨z_27, K⟩ := K
        refine Y.iald dX9_widen_64 (rfl) ((zX_20_7 hX).2.2) z_27 ?_
        refine Z.istore (ls' := [(5, zI ((E 26 (v6 + (-1))))), (4, zI ((E 25 (v6 + (-1))))), (3, zI ((E 24 (v6 + (-1))))), (6, zI ((v6 + (-1)))), (0, zR 20), (7, zI v7)]) dX9_widen_65 (by decide) rfl ?_
        refine Z.goto 303 dX9_widen_67 rfl ?_
        obtain ⟨z_28, K⟩ := K
        refine Z.iinc (k := 5) (ls' := [(7, zI ((v7 + 1))), (5, zI ((E 26 (v6 + (-1))))), (4, zI ((E 25 (v6 + (-1))))), (3, zI ((E 24 (v6 + (-1))))), (6, zI ((v6 + (-1)))), (0, zR 20)]) dX9_widen_303 rfl (by decide) z_28 rfl ?_
        refine Z.goto 19 dX9_widen_306 rfl ?_
        refine Z.pick (ls' := [(0, zR 20), (3, zI ((E 24 (v6 + (-1))))), (4, zI ((E 25 (v6 + (-1))))), (5, zI ((E 26 (v6 + (-1))))), (6, zI ((v6 + (-1)))), (7, zI ((v7 + 1)))]) [5, 3, 2, 1, 4, 0] rfl ?_
        exact K
      · replace K := K.2 c_23
        refine Z.iconst (n := 1) dX9_widen_36 ⟨by decide, by decide⟩ ?_
        exact Z.iret (ty := .boolean) dX9_widen_37 rfl rfl K
set_option maxRecDepth 20000 in
theorem X9_widen_149 {kz : Nat × Nat} {Q : Option zV → zH → Prop} {d : List Nat} {G : Nat → Int → Option Nat} {E : Nat → Int → Int} {v3 : Int} {v4 : Int} {v5 : Int} {v6 : Int} {v7 : Int} {v8 : Int} {v9 : Int} {v10 : Int} (hX : zK zXt d G) (K : (v10 < 0 → ∃ x_2 E_3, zM zm_X9_meet [zR 20, zI v8, zI v9] (d, G, E) (some (zI x_2)) (d, G, E_3) ∧ (x_2 ≠ 0 → ∃ x_7, zM zm_X8_after [zR 1, zR 21, zI v3] (d, G, E_3) (some (zI x_7)) (d, G, E_3) ∧ ∃ x_10, zM zm_X8_after [zR 1, zR 21, zI v4] (d, G, E_3) (some (zI x_10)) (d, G, E_3) ∧ zin (v5 + (-1)) ∧ zin (v7 + 1) ∧ Z zm_X9_widen kz Q 19 [(0, zR 20), (3, zI x_7), (4, zI x_10), (5, zI ((v5 + (-1)))), (6, zI v6), (7, zI ((v7 + 1)))] [] (d, G, E_3)) ∧ (¬ (x_2 ≠ 0) → Q (some (zI 0)) (d, G, E_3))) ∧ (¬ (v10 < 0) → ((0 : Int) ≤ v9 ∧ v9 < (360 : Int)) ∧ ((E 21 v9) < 0 → ∃ x_17 E_18, zM zm_X9_meet [zR 20, zI v8, zI v9] (d, G, E) (some (zI x_17)) (d, G, E_18) ∧ (x_17 ≠ 0 → ∃ x_22, zM zm_X8_after [zR 1, zR 21, zI v3] (d, G, E_18) (some (zI x_22)) (d, G, E_18) ∧ ∃ x_25, zM zm_X8_after [zR 1, zR 21, zI v4] (d, G, E_18) (some (zI x_25)) (d, G, E_18) ∧ zin (v5 + (-1)) ∧ zin (v7 + 1) ∧ Z zm_X9_widen kz Q 19 [(0, zR 20), (3, zI x_22), (4, zI x_25), (5, zI ((v5 + (-1)))), (6, zI v6), (7, zI ((v7 + 1)))] [] (d, G, E_18)) ∧ (¬ (x_17 ≠ 0) → Q (some (zI 0)) (d, G, E_18))) ∧ (¬ ((E 21 v9) < 0) → (v8 = v9 → ∃ x_31 E_32, zM zm_X9_meet [zR 20, zI v8, zI v9] (d, G, E) (some (zI x_31)) (d, G, E_32) ∧ (x_31 ≠ 0 → ∃ x_36, zM zm_X8_after [zR 1, zR 21, zI v3] (d, G, E_32) (some (zI x_36)) (d, G, E_32) ∧ ∃ x_39, zM zm_X8_after [zR 1, zR 21, zI v4] (d, G, E_32) (some (zI x_39)) (d, G, E_32) ∧ zin (v5 + (-1)) ∧ zin (v7 + 1) ∧ Z zm_X9_widen kz Q 19 [(0, zR 20), (3, zI x_36), (4, zI x_39), (5, zI ((v5 + (-1)))), (6, zI v6), (7, zI ((v7 + 1)))] [] (d, G, E_32)) ∧ (¬ (x_31 ≠ 0) → Q (some (zI 0)) (d, G, E_32))) ∧ (¬ (v8 = v9) → ((0 : Int) ≤ v9 ∧ v9 < (360 : Int)) ∧ (v10 ≠ (E 21 v9) → Q (some (zI 0)) (d, G, E)) ∧ (¬ (v10 ≠ (E 21 v9)) → (v6 < 128 → ∃ x_47, zM zm_X8_after [zR 1, zR 21, zI v3] (d, G, E) (some (zI x_47)) (d, G, E) ∧ ((0 : Int) ≤ v6 ∧ v6 < (128 : Int)) ∧ ∀ E_51, E_51 = zuE E 24 v6 x_47 → ∃ x_52, zM zm_X8_after [zR 1, zR 21, zI v4] (d, G, E_51) (some (zI x_52)) (d, G, E_51) ∧ ((0 : Int) ≤ v6 ∧ v6 < (128 : Int)) ∧ ∀ E_56, E_56 = zuE E_51 25 v6 x_52 → zin (v5 - 1) ∧ ((0 : Int) ≤ v6 ∧ v6 < (128 : Int)) ∧ ∀ E_59, E_59 = zuE E_56 26 v6 ((v5 - 1)) → zin (v6 + 1) ∧ zin (v7 + 1) ∧ Z zm_X9_widen kz Q 19 [(0, zR 20), (3, zI v8), (4, zI v9), (5, zI 1), (6, zI ((v6 + 1))), (7, zI ((v7 + 1)))] [] (d, G, E_59)) ∧ (¬ (v6 < 128) → Q (some (zI 0)) (d, G, E))))))) : Z zm_X9_widen kz Q 149 [(0, zR 20), (3, zI v3), (4, zI v4), (5, zI v5), (6, zI v6), (7, zI v7), (8, zI v8), (9, zI v9), (10, zI v10)] [] (d, G, E) := by
  refine Z.iload (k := 8) dX9_widen_149 rfl ?_
  refine Z.if_lt 259 dX9_widen_151 rfl ⟨fun c_1 => ?_, fun c_1 => ?_⟩
  · replace K := K.1 c_1
    refine Z.aload_n (k := 0) dX9_widen_259 rfl ?_
    refine Z.iload (k := 6) dX9_widen_260 rfl ?_
    refine Z.iload (k := 7) dX9_widen_262 rfl ?_
    obtain ⟨x_2, E_3, m_4, K⟩ := K
    refine Y.callV (g := zm_X9_meet) (vs := [zI v8, zI v9]) (st := []) dX9_widen_264 ⟨zg_X9_meet.1, zg_X9_meet.2.1, zg_X9_meet.2.2, by decide⟩ ⟨zk_X9_100, zv_X9_meet⟩ (ci := 9) (rfl) rfl ((zX_0_6 hX).2.2) rfl rfl (Nat.le_of_ble_eq_true rfl) m_4 (Or.inl rfl) ?_
    show Z zm_X9_widen kz Q 267 [(0, zR 20), (3, zI v3), (4, zI v4), (5, zI v5), (6, zI v6), (7, zI v7), (8, zI v8), (9, zI v9), (10, zI v10)] [zI x_2] (d, G, E_3)
    refine Z.if_ne 272 dX9_widen_267 rfl ⟨fun c_6 => ?_, fun c_6 => ?_⟩
    · replace K := K.1 c_6
      refine Z.aload_n (k := 0) dX9_widen_272 rfl ?_
      refine Y.getR (o := some 1) 0 dX9_widen_273 zl_X9_55 (rfl) (by decide) rfl (zX_0_6 hX).2.2 (zX_20_0 hX).1 ?_
      refine Z.aload_n (k := 0) dX9_widen_276 rfl ?_
      refine Y.getR (o := some 21) 1 dX9_widen_277 zl_X9_9 (rfl) (by decide) rfl (zX_0_6 hX).2.2 (zX_20_1 hX).1 ?_
      refine Z.iload_n (k := 1) dX9_widen_280 rfl ?_
      obtain ⟨x_7, m_8, K⟩ := K
      refine Y.callV (g := zm_X8_after) (vs := [zR 21, zI v3]) (st := []) dX9_widen_281 ⟨zg_X8_after.1, zg_X8_after.2.1, zg_X8_after.2.2, by decide⟩ ⟨zk_X9_96, zv_X8_after⟩ (ci := 8) (rfl) rfl ((zX_0_0 hX).2.2) rfl rfl (Nat.le_of_ble_eq_true rfl) m_8 (Or.inl rfl) ?_
      show Z zm_X9_widen kz Q 284 [(0, zR 20), (3, zI v3), (4, zI v4), (5, zI v5), (6, zI v6), (7, zI v7), (8, zI v8), (9, zI v9), (10, zI v10)] [zI x_7] (d, G, E_3)
      refine Z.istore_n (ls' := [(3, zI x_7), (0, zR 20), (4, zI v4), (5, zI v5), (6, zI v6), (7, zI v7), (8, zI v8), (9, zI v9), (10, zI v10)]) dX9_widen_284 (by decide) rfl ?_
      refine Z.aload_n (k := 1) dX9_widen_285 rfl ?_
      refine Y.getR (o := some 1) 0 dX9_widen_286 zl_X9_55 (rfl) (by decide) rfl (zX_0_6 hX).2.2 (zX_20_0 hX).1 ?_
      refine Z.aload_n (k := 1) dX9_widen_289 rfl ?_
      refine Y.getR (o := some 21) 1 dX9_widen_290 zl_X9_9 (rfl) (by decide) rfl (zX_0_6 hX).2.2 (zX_20_1 hX).1 ?_
      refine Z.iload (k := 2) dX9_widen_293 rfl ?_
      obtain ⟨x_10, m_11, K⟩ := K
      refine Y.callV (g := zm_X8_after) (vs := [zR 21, zI v4]) (st := []) dX9_widen_295 ⟨zg_X8_after.1, zg_X8_after.2.1, zg_X8_after.2.2, by decide⟩ ⟨zk_X9_96, zv_X8_after⟩ (ci := 8) (rfl) rfl ((zX_0_0 hX).2.2) rfl rfl (Nat.le_of_ble_eq_true rfl) m_11 (Or.inl rfl) ?_
      show Z zm_X9_widen kz Q 298 [(3, zI x_7), (0, zR 20), (4, zI v4), (5, zI v5), (6, zI v6), (7, zI v7), (8, zI v8), (9, zI v9), (10, zI v10)] [zI x_10] (d, G, E_3)
      refine Z.istore (ls' := [(4, zI x_10), (3, zI x_7), (0, zR 20), (5, zI v5), (6, zI v6), (7, zI v7), (8, zI v8), (9, zI v9), (10, zI v10)]) dX9_widen_298 (by decide) rfl ?_
      obtain ⟨z_13, K⟩ := K
      refine Z.iinc (k := 3) (ls' := [(5, zI ((v5 + (-1)))), (4, zI x_10), (3, zI x_7), (0, zR 20), (6, zI v6), (7, zI v7), (8, zI v8), (9, zI v9), (10, zI v10)]) dX9_widen_300 rfl (by decide) z_13 rfl ?_
      obtain ⟨z_14, K⟩ := K
      refine Z.iinc (k := 5) (ls' := [(7, zI ((v7 + 1))), (5, zI ((v5 + (-1)))), (4, zI x_10), (3, zI x_7), (0, zR 20), (6, zI v6), (8, zI v8), (9, zI v9), (10, zI v10)]) dX9_widen_303 rfl (by decide) z_14 rfl ?_
      refine Z.goto 19 dX9_widen_306 rfl ?_
      refine Z.pick (ls' := [(0, zR 20), (3, zI x_7), (4, zI x_10), (5, zI ((v5 + (-1)))), (6, zI v6), (7, zI ((v7 + 1)))]) [4, 3, 2, 1, 5, 0] rfl ?_
      exact K
    · replace K := K.2 c_6
      refine Z.iconst (n := 0) dX9_widen_270 ⟨by decide, by decide⟩ ?_
      exact Z.iret (ty := .boolean) dX9_widen_271 rfl rfl K
  · replace K := K.2 c_1
    refine Z.aload_n (k := 0) dX9_widen_154 rfl ?_
    refine Y.getR (o := some 21) 1 dX9_widen_155 zl_X9_9 (rfl) (by decide) rfl (zX_0_6 hX).2.2 (zX_20_1 hX).1 ?_
    refine Z.iload (k := 7) dX9_widen_158 rfl ?_
    obtain ⟨z_15, K⟩ := K
    refine Y.iald dX9_widen_160 (rfl) ((zX_20_1 hX).2.2) z_15 ?_
    refine Z.if_lt 259 dX9_widen_161 rfl ⟨fun c_16 => ?_, fun c_16 => ?_⟩
    · replace K := K.1 c_16
      refine Z.aload_n (k := 0) dX9_widen_259 rfl ?_
      refine Z.iload (k := 6) dX9_widen_260 rfl ?_
      refine Z.iload (k := 7) dX9_widen_262 rfl ?_
      obtain ⟨x_17, E_18, m_19, K⟩ := K
      refine Y.callV (g := zm_X9_meet) (vs := [zI v8, zI v9]) (st := []) dX9_widen_264 ⟨zg_X9_meet.1, zg_X9_meet.2.1, zg_X9_meet.2.2, by decide⟩ ⟨zk_X9_100, zv_X9_meet⟩ (ci := 9) (rfl) rfl ((zX_0_6 hX).2.2) rfl rfl (Nat.le_of_ble_eq_true rfl) m_19 (Or.inl rfl) ?_
      show Z zm_X9_widen kz Q 267 [(0, zR 20), (3, zI v3), (4, zI v4), (5, zI v5), (6, zI v6), (7, zI v7), (8, zI v8), (9, zI v9), (10, zI v10)] [zI x_17] (d, G, E_18)
      refine Z.if_ne 272 dX9_widen_267 rfl ⟨fun c_21 => ?_, fun c_21 => ?_⟩
      · replace K := K.1 c_21
        refine Z.aload_n (k := 0) dX9_widen_272 rfl ?_
        refine Y.getR (o := some 1) 0 dX9_widen_273 zl_X9_55 (rfl) (by decide) rfl (zX_0_6 hX).2.2 (zX_20_0 hX).1 ?_
        refine Z.aload_n (k := 0) dX9_widen_276 rfl ?_
        refine Y.getR (o := some 21) 1 dX9_widen_277 zl_X9_9 (rfl) (by decide) rfl (zX_0_6 hX).2.2 (zX_20_1 hX).1 ?_
        refine Z.iload_n (k := 1) dX9_widen_280 rfl ?_
        obtain ⟨x_22, m_23, K⟩ := K
        refine Y.callV (g := zm_X8_after) (vs := [zR 21, zI v3]) (st := []) dX9_widen_281 ⟨zg_X8_after.1, zg_X8_after.2.1, zg_X8_after.2.2, by decide⟩ ⟨zk_X9_96, zv_X8_after⟩ (ci := 8) (rfl) rfl ((zX_0_0 hX).2.2) rfl rfl (Nat.le_of_ble_eq_true rfl) m_23 (Or.inl rfl) ?_
        show Z zm_X9_widen kz Q 284 [(0, zR 20), (3, zI v3), (4, zI v4), (5, zI v5), (6, zI v6), (7, zI v7), (8, zI v8), (9, zI v9), (10, zI v10)] [zI x_22] (d, G, E_18)
        refine Z.istore_n (ls' := [(3, zI x_22), (0, zR 20), (4, zI v4), (5, zI v5), (6, zI v6), (7, zI v7), (8, zI v8), (9, zI v9), (10, zI v10)]) dX9_widen_284 (by decide) rfl ?_
        refine Z.aload_n (k := 1) dX9_widen_285 rfl ?_
        refine Y.getR (o := some 1) 0 dX9_widen_286 zl_X9_55 (rfl) (by decide) rfl (zX_0_6 hX).2.2 (zX_20_0 hX).1 ?_
        refine Z.aload_n (k := 1) dX9_widen_289 rfl ?_
        refine Y.getR (o := some 21) 1 dX9_widen_290 zl_X9_9 (rfl) (by decide) rfl (zX_0_6 hX).2.2 (zX_20_1 hX).1 ?_
        refine Z.iload (k := 2) dX9_widen_293 rfl ?_
        obtain ⟨x_25, m_26, K⟩ := K
        refine Y.callV (g := zm_X8_after) (vs := [zR 21, zI v4]) (st := []) dX9_widen_295 ⟨zg_X8_after.1, zg_X8_after.2.1, zg_X8_after.2.2, by decide⟩ ⟨zk_X9_96, zv_X8_after⟩ (ci := 8) (rfl) rfl ((zX_0_0 hX).2.2) rfl rfl (Nat.le_of_ble_eq_true rfl) m_26 (Or.inl rfl) ?_
        show Z zm_X9_widen kz Q 298 [(3, zI x_22), (0, zR 20), (4, zI v4), (5, zI v5), (6, zI v6), (7, zI v7), (8, zI v8), (9, zI v9), (10, zI v10)] [zI x_25] (d, G, E_18)
        refine Z.istore (ls' := [(4, zI x_25), (3, zI x_22), (0, zR 20), (5, zI v5), (6, zI v6), (7, zI v7), (8, zI v8), (9, zI v9), (10, zI v10)]) dX9_widen_298 (by decide) rfl ?_
        obtain ⟨z_28, K⟩ := K
        refine Z.iinc (k := 3) (ls' := [(5, zI ((v5 + (-1)))), (4, zI x_25), (3, zI x_22), (0, zR 20), (6, zI v6), (7, zI v7), (8, zI v8), (9, zI v9), (10, zI v10)]) dX9_widen_300 rfl (by decide) z_28 rfl ?_
        obtain ⟨z_29, K⟩ := K
        refine Z.iinc (k := 5) (ls' := [(7, zI ((v7 + 1))), (5, zI ((v5 + (-1)))), (4, zI x_25), (3, zI x_22), (0, zR 20), (6, zI v6), (8, zI v8), (9, zI v9), (10, zI v10)]) dX9_widen_303 rfl (by decide) z_29 rfl ?_
        refine Z.goto 19 dX9_widen_306 rfl ?_
        refine Z.pick (ls' := [(0, zR 20), (3, zI x_22), (4, zI x_25), (5, zI ((v5 + (-1)))), (6, zI v6), (7, zI ((v7 + 1)))]) [4, 3, 2, 1, 5, 0] rfl ?_
        exact K
      · replace K := K.2 c_21
        refine Z.iconst (n := 0) dX9_widen_270 ⟨by decide, by decide⟩ ?_
        exact Z.iret (ty := .boolean) dX9_widen_271 rfl rfl K
    · replace K := K.2 c_16
      refine Z.iload (k := 6) dX9_widen_164 rfl ?_
      refine Z.iload (k := 7) dX9_widen_166 rfl ?_
      refine Z.icmp_eq 259 dX9_widen_168 rfl ⟨fun c_30 => ?_, fun c_30 => ?_⟩
      · replace K := K.1 c_30
        refine Z.aload_n (k := 0) dX9_widen_259 rfl ?_
        refine Z.iload (k := 6) dX9_widen_260 rfl ?_
        refine Z.iload (k := 7) dX9_widen_262 rfl ?_
        obtain ⟨x_31, E_32, m_33, K⟩ := K
        refine Y.callV (g := zm_X9_meet) (vs := [zI v8, zI v9]) (st := []) dX9_widen_264 ⟨zg_X9_meet.1, zg_X9_meet.2.1, zg_X9_meet.2.2, by decide⟩ ⟨zk_X9_100, zv_X9_meet⟩ (ci := 9) (rfl) rfl ((zX_0_6 hX).2.2) rfl rfl (Nat.le_of_ble_eq_true rfl) m_33 (Or.inl rfl) ?_
        show Z zm_X9_widen kz Q 267 [(0, zR 20), (3, zI v3), (4, zI v4), (5, zI v5), (6, zI v6), (7, zI v7), (8, zI v8), (9, zI v9), (10, zI v10)] [zI x_31] (d, G, E_32)
        refine Z.if_ne 272 dX9_widen_267 rfl ⟨fun c_35 => ?_, fun c_35 => ?_⟩
        · replace K := K.1 c_35
          refine Z.aload_n (k := 0) dX9_widen_272 rfl ?_
          refine Y.getR (o := some 1) 0 dX9_widen_273 zl_X9_55 (rfl) (by decide) rfl (zX_0_6 hX).2.2 (zX_20_0 hX).1 ?_
          refine Z.aload_n (k := 0) dX9_widen_276 rfl ?_
          refine Y.getR (o := some 21) 1 dX9_widen_277 zl_X9_9 (rfl) (by decide) rfl (zX_0_6 hX).2.2 (zX_20_1 hX).1 ?_
          refine Z.iload_n (k := 1) dX9_widen_280 rfl ?_
          obtain ⟨x_36, m_37, K⟩ := K
          refine Y.callV (g := zm_X8_after) (vs := [zR 21, zI v3]) (st := []) dX9_widen_281 ⟨zg_X8_after.1, zg_X8_after.2.1, zg_X8_after.2.2, by decide⟩ ⟨zk_X9_96, zv_X8_after⟩ (ci := 8) (rfl) rfl ((zX_0_0 hX).2.2) rfl rfl (Nat.le_of_ble_eq_true rfl) m_37 (Or.inl rfl) ?_
          show Z zm_X9_widen kz Q 284 [(0, zR 20), (3, zI v3), (4, zI v4), (5, zI v5), (6, zI v6), (7, zI v7), (8, zI v8), (9, zI v9), (10, zI v10)] [zI x_36] (d, G, E_32)
          refine Z.istore_n (ls' := [(3, zI x_36), (0, zR 20), (4, zI v4), (5, zI v5), (6, zI v6), (7, zI v7), (8, zI v8), (9, zI v9), (10, zI v10)]) dX9_widen_284 (by decide) rfl ?_
          refine Z.aload_n (k := 1) dX9_widen_285 rfl ?_
          refine Y.getR (o := some 1) 0 dX9_widen_286 zl_X9_55 (rfl) (by decide) rfl (zX_0_6 hX).2.2 (zX_20_0 hX).1 ?_
          refine Z.aload_n (k := 1) dX9_widen_289 rfl ?_
          refine Y.getR (o := some 21) 1 dX9_widen_290 zl_X9_9 (rfl) (by decide) rfl (zX_0_6 hX).2.2 (zX_20_1 hX).1 ?_
          refine Z.iload (k := 2) dX9_widen_293 rfl ?_
          obtain ⟨x_39, m_40, K⟩ := K
          refine Y.callV (g := zm_X8_after) (vs := [zR 21, zI v4]) (st := []) dX9_widen_295 ⟨zg_X8_after.1, zg_X8_after.2.1, zg_X8_after.2.2, by decide⟩ ⟨zk_X9_96, zv_X8_after⟩ (ci := 8) (rfl) rfl ((zX_0_0 hX).2.2) rfl rfl (Nat.le_of_ble_eq_true rfl) m_40 (Or.inl rfl) ?_
          show Z zm_X9_widen kz Q 298 [(3, zI x_36), (0, zR 20), (4, zI v4), (5, zI v5), (6, zI v6), (7, zI v7), (8, zI v8), (9, zI v9), (10, zI v10)] [zI x_39] (d, G, E_32)
          refine Z.istore (ls' := [(4, zI x_39), (3, zI x_36), (0, zR 20), (5, zI v5), (6, zI v6), (7, zI v7), (8, zI v8), (9, zI v9), (10, zI v10)]) dX9_widen_298 (by decide) rfl ?_
          obtain ⟨z_42, K⟩ := K
          refine Z.iinc (k := 3) (ls' := [(5, zI ((v5 + (-1)))), (4, zI x_39), (3, zI x_36), (0, zR 20), (6, zI v6), (7, zI v7), (8, zI v8), (9, zI v9), (10, zI v10)]) dX9_widen_300 rfl (by decide) z_42 rfl ?_
          obtain ⟨z_43, K⟩ := K
          refine Z.iinc (k := 5) (ls' := [(7, zI ((v7 + 1))), (5, zI ((v5 + (-1)))), (4, zI x_39), (3, zI x_36), (0, zR 20), (6, zI v6), (8, zI v8), (9, zI v9), (10, zI v10)]) dX9_widen_303 rfl (by decide) z_43 rfl ?_
          refine Z.goto 19 dX9_widen_306 rfl ?_
          refine Z.pick (ls' := [(0, zR 20), (3, zI x_36), (4, zI x_39), (5, zI ((v5 + (-1)))), (6, zI v6), (7, zI ((v7 + 1)))]) [4, 3, 2, 1, 5, 0] rfl ?_
          exact K
        · replace K := K.2 c_35
          refine Z.iconst (n := 0) dX9_widen_270 ⟨by decide, by decide⟩ ?_
          exact Z.iret (ty := .boolean) dX9_widen_271 rfl rfl K
      · replace K := K.2 c_30
        refine Z.iload (k := 8) dX9_widen_171 rfl ?_
        refine Z.aload_n (k := 0) dX9_widen_173 rfl ?_
        refine Y.getR (o := some 21) 1 dX9_widen_174 zl_X9_9 (rfl) (by decide) rfl (zX_0_6 hX).2.2 (zX_20_1 hX).1 ?_
        refine Z.iload (k := 7) dX9_widen_177 rfl ?_
        obtain ⟨z_44, K⟩ := K
        refine Y.iald dX9_widen_179 (rfl) ((zX_20_1 hX).2.2) z_44 ?_
        refine Z.icmp_ne 191 dX9_widen_180 rfl ⟨fun c_45 => ?_, fun c_45 => ?_⟩
        · replace K := K.1 c_45
          refine Z.iconst (n := 0) dX9_widen_191 ⟨by decide, by decide⟩ ?_
          exact Z.iret (ty := .boolean) dX9_widen_192 rfl rfl K
        · replace K := K.2 c_45
          refine Z.iload (k := 4) dX9_widen_183 rfl ?_
          refine Z.sipush (n := 128) dX9_widen_185 ⟨by decide, by decide⟩ (by decide) ?_
          refine Z.icmp_lt 193 dX9_widen_188 rfl ⟨fun c_46 => ?_, fun c_46 => ?_⟩
          · replace K := K.1 c_46
            refine Z.aload_n (k := 0) dX9_widen_193 rfl ?_
            refine Y.getR (o := some 24) 5 dX9_widen_194 zl_X9_25 (rfl) (by decide) rfl (zX_0_6 hX).2.2 (zX_20_5 hX).1 ?_
            refine Z.iload (k := 4) dX9_widen_197 rfl ?_
            refine Z.aload_n (k := 0) dX9_widen_199 rfl ?_
            refine Y.getR (o := some 1) 0 dX9_widen_200 zl_X9_55 (rfl) (by decide) rfl (zX_0_6 hX).2.2 (zX_20_0 hX).1 ?_
            refine Z.aload_n (k := 0) dX9_widen_203 rfl ?_
            refine Y.getR (o := some 21) 1 dX9_widen_204 zl_X9_9 (rfl) (by decide) rfl (zX_0_6 hX).2.2 (zX_20_1 hX).1 ?_
            refine Z.iload_n (k := 1) dX9_widen_207 rfl ?_
            obtain ⟨x_47, m_48, K⟩ := K
            refine Y.callV (g := zm_X8_after) (vs := [zR 21, zI v3]) (st := [zI v6, zR 24]) dX9_widen_208 ⟨zg_X8_after.1, zg_X8_after.2.1, zg_X8_after.2.2, by decide⟩ ⟨zk_X9_96, zv_X8_after⟩ (ci := 8) (rfl) rfl ((zX_0_0 hX).2.2) rfl rfl (Nat.le_of_ble_eq_true rfl) m_48 (Or.inl rfl) ?_
            show Z zm_X9_widen kz Q 211 [(0, zR 20), (3, zI v3), (4, zI v4), (5, zI v5), (6, zI v6), (7, zI v7), (8, zI v8), (9, zI v9), (10, zI v10)] [zI x_47, zI v6, zR 24] (d, G, E)
            obtain ⟨z_50, K⟩ := K
            refine Y.iast dX9_widen_211 (rfl) ((zX_20_5 hX).2.2) z_50 ?_
            generalize eE_51 : zuE E 24 v6 x_47 = E_51
            replace K := K E_51 eE_51.symm
            refine Z.aload_n (k := 0) dX9_widen_212 rfl ?_
            refine Y.getR (o := some 25) 6 dX9_widen_213 zl_X9_28 (rfl) (by decide) rfl (zX_0_6 hX).2.2 (zX_20_6 hX).1 ?_
            refine Z.iload (k := 4) dX9_widen_216 rfl ?_
            refine Z.aload_n (k := 0) dX9_widen_218 rfl ?_
            refine Y.getR (o := some 1) 0 dX9_widen_219 zl_X9_55 (rfl) (by decide) rfl (zX_0_6 hX).2.2 (zX_20_0 hX).1 ?_
            refine Z.aload_n (k := 0) dX9_widen_222 rfl ?_
            refine Y.getR (o := some 21) 1 dX9_widen_223 zl_X9_9 (rfl) (by decide) rfl (zX_0_6 hX).2.2 (zX_20_1 hX).1 ?_
            refine Z.iload (k := 2) dX9_widen_226 rfl ?_
            obtain ⟨x_52, m_53, K⟩ := K
            refine Y.callV (g := zm_X8_after) (vs := [zR 21, zI v4]) (st := [zI v6, zR 25]) dX9_widen_228 ⟨zg_X8_after.1, zg_X8_after.2.1, zg_X8_after.2.2, by decide⟩ ⟨zk_X9_96, zv_X8_after⟩ (ci := 8) (rfl) rfl ((zX_0_0 hX).2.2) rfl rfl (Nat.le_of_ble_eq_true rfl) m_53 (Or.inl rfl) ?_
            show Z zm_X9_widen kz Q 231 [(0, zR 20), (3, zI v3), (4, zI v4), (5, zI v5), (6, zI v6), (7, zI v7), (8, zI v8), (9, zI v9), (10, zI v10)] [zI x_52, zI v6, zR 25] (d, G, E_51)
            obtain ⟨z_55, K⟩ := K
            refine Y.iast dX9_widen_231 (rfl) ((zX_20_6 hX).2.2) z_55 ?_
            generalize eE_56 : zuE E_51 25 v6 x_52 = E_56
            replace K := K E_56 eE_56.symm
            refine Z.aload_n (k := 0) dX9_widen_232 rfl ?_
            refine Y.getR (o := some 26) 7 dX9_widen_233 zl_X9_31 (rfl) (by decide) rfl (zX_0_6 hX).2.2 (zX_20_7 hX).1 ?_
            refine Z.iload (k := 4) dX9_widen_236 rfl ?_
            refine Z.iload (k := 3) dX9_widen_238 rfl ?_
            refine Z.iconst (n := 1) dX9_widen_240 ⟨by decide, by decide⟩ ?_
            obtain ⟨z_57, K⟩ := K
            refine Z.isub dX9_widen_241 z_57 ?_
            obtain ⟨z_58, K⟩ := K
            refine Y.iast dX9_widen_242 (rfl) ((zX_20_7 hX).2.2) z_58 ?_
            generalize eE_59 : zuE E_56 26 v6 ((v5 - 1)) = E_59
            replace K := K E_59 eE_59.symm
            obtain ⟨z_60, K⟩ := K
            refine Z.iinc (k := 4) (ls' := [(6, zI ((v6 + 1))), (0, zR 20), (3, zI v3), (4, zI v4), (5, zI v5), (7, zI v7), (8, zI v8), (9, zI v9), (10, zI v10)]) dX9_widen_243 rfl (by decide) z_60 rfl ?_
            refine Z.iload (k := 6) dX9_widen_246 rfl ?_
            refine Z.istore_n (ls' := [(3, zI v8), (6, zI ((v6 + 1))), (0, zR 20), (4, zI v4), (5, zI v5), (7, zI v7), (8, zI v8), (9, zI v9), (10, zI v10)]) dX9_widen_248 (by decide) rfl ?_
            refine Z.iload (k := 7) dX9_widen_249 rfl ?_
            refine Z.istore (ls' := [(4, zI v9), (3, zI v8), (6, zI ((v6 + 1))), (0, zR 20), (5, zI v5), (7, zI v7), (8, zI v8), (9, zI v9), (10, zI v10)]) dX9_widen_251 (by decide) rfl ?_
            refine Z.iconst (n := 1) dX9_widen_253 ⟨by decide, by decide⟩ ?_
            refine Z.istore (ls' := [(5, zI 1), (4, zI v9), (3, zI v8), (6, zI ((v6 + 1))), (0, zR 20), (7, zI v7), (8, zI v8), (9, zI v9), (10, zI v10)]) dX9_widen_254 (by decide) rfl ?_
            refine Z.goto 303 dX9_widen_256 rfl ?_
            obtain ⟨z_61, K⟩ := K
            refine Z.iinc (k := 5) (ls' := [(7, zI ((v7 + 1))), (5, zI 1), (4, zI v9), (3, zI v8), (6, zI ((v6 + 1))), (0, zR 20), (8, zI v8), (9, zI v9), (10, zI v10)]) dX9_widen_303 rfl (by decide) z_61 rfl ?_
            refine Z.goto 19 dX9_widen_306 rfl ?_
            refine Z.pick (ls' := [(0, zR 20), (3, zI v8), (4, zI v9), (5, zI 1), (6, zI ((v6 + 1))), (7, zI ((v7 + 1)))]) [5, 3, 2, 1, 4, 0] rfl ?_
            exact K
          · replace K := K.2 c_46
            refine Z.iconst (n := 0) dX9_widen_191 ⟨by decide, by decide⟩ ?_
            exact Z.iret (ty := .boolean) dX9_widen_192 rfl rfl K
set_option maxRecDepth 20000 in
theorem X9_write_0 {kz : Nat × Nat} {Q : Option zV → zH → Prop} {d : List Nat} {G : Nat → Int → Option Nat} {E : Nat → Int → Int} {v1 : Int} {v2 : Int} {v3 : Int} (hX : zK zXt d G) (K : ∃ E_1, zM zm_X9_beginWay [zR 20, zI v1, zI v2] (d, G, E) none (d, G, E_1) ∧ Z zm_X9_write kz Q 9 [(0, zR 20), (3, zI v3), (4, zI 0)] [] (d, G, E_1)) : Z zm_X9_write kz Q 0 [(0, zR 20), (1, zI v1), (2, zI v2), (3, zI v3)] [] (d, G, E) := by
  refine Z.aload_n (k := 0) dX9_write_0 rfl ?_
  refine Z.iload_n (k := 1) dX9_write_1 rfl ?_
  refine Z.iload_n (k := 2) dX9_write_2 rfl ?_
  obtain ⟨E_1, m_2, K⟩ := K
  refine Y.callV (g := zm_X9_beginWay) (vs := [zI v1, zI v2]) (st := []) dX9_write_3 ⟨zg_X9_beginWay.1, zg_X9_beginWay.2.1, zg_X9_beginWay.2.2, by decide⟩ ⟨zk_X9_111, zv_X9_beginWay⟩ (ci := 9) (rfl) rfl ((zX_0_6 hX).2.2) rfl rfl (Nat.le_of_ble_eq_true rfl) m_2 (Or.inl rfl) ?_
  show Z zm_X9_write kz Q 6 [(0, zR 20), (1, zI v1), (2, zI v2), (3, zI v3)] [] (d, G, E_1)
  refine Z.iconst (n := 0) dX9_write_6 ⟨by decide, by decide⟩ ?_
  refine Z.istore (ls' := [(4, zI 0), (0, zR 20), (1, zI v1), (2, zI v2), (3, zI v3)]) dX9_write_7 (by decide) rfl ?_
  refine Z.pick (ls' := [(0, zR 20), (3, zI v3), (4, zI 0)]) [1, 4, 0] rfl ?_
  exact K
set_option maxRecDepth 20000 in
theorem X9_write_9 {kz : Nat × Nat} {Q : Option zV → zH → Prop} {d : List Nat} {G : Nat → Int → Option Nat} {E : Nat → Int → Int} {v3 : Int} {v4 : Int} (hX : zK zXt d G) (K : ((1000000) ≤ v4 → Q (some (zI 0)) (d, G, E)) ∧ (¬ ((1000000) ≤ v4) → ∃ x_2 E_3, zM zm_X9_nextOnWay [zR 20] (d, G, E) (some (zI x_2)) (d, G, E_3) ∧ (x_2 ≠ (-1) → (v3 ≤ (E_3 20 14) → Q (some (zI 0)) (d, G, E_3)) ∧ (¬ (v3 ≤ (E_3 20 14)) → ((E_3 20 14) < 1000 → ((0 : Int) ≤ x_2 ∧ x_2 < (360 : Int)) ∧ ((0 : Int) ≤ (E_3 20 14) ∧ (E_3 20 14) < (1000 : Int)) ∧ ∀ E_11, E_11 = zuE E_3 29 ((E_3 20 14)) ((E_3 21 x_2)) → zin ((E_11 20 14) + 1) ∧ ∀ E_13, E_13 = zuE E_11 20 14 (((E_11 20 14) + 1)) → zin (v4 + 1) ∧ Z zm_X9_write kz Q 9 [(0, zR 20), (3, zI v3), (4, zI ((v4 + 1)))] [] (d, G, E_13)) ∧ (¬ ((E_3 20 14) < 1000) → Q (some (zI 0)) (d, G, E_3)))) ∧ (¬ (x_2 ≠ (-1)) → Q (some (zI 1)) (d, G, E_3)))) : Z zm_X9_write kz Q 9 [(0, zR 20), (3, zI v3), (4, zI v4)] [] (d, G, E) := by
  refine Z.iload (k := 2) dX9_write_9 rfl ?_
  refine Z.ldc (n := 1000000) dX9_write_11 ⟨by decide, by decide⟩ zq_X9_86 ?_
  refine Z.icmp_ge 82 dX9_write_13 rfl ⟨fun c_1 => ?_, fun c_1 => ?_⟩
  · replace K := K.1 c_1
    refine Z.iconst (n := 0) dX9_write_82 ⟨by decide, by decide⟩ ?_
    exact Z.iret (ty := .boolean) dX9_write_83 rfl rfl K
  · replace K := K.2 c_1
    refine Z.aload_n (k := 0) dX9_write_16 rfl ?_
    obtain ⟨x_2, E_3, m_4, K⟩ := K
    refine Y.callV (g := zm_X9_nextOnWay) (vs := []) (st := []) dX9_write_17 ⟨zg_X9_nextOnWay.1, zg_X9_nextOnWay.2.1, zg_X9_nextOnWay.2.2, by decide⟩ ⟨zk_X9_114, zv_X9_nextOnWay⟩ (ci := 9) (rfl) rfl ((zX_0_6 hX).2.2) rfl rfl (Nat.le_of_ble_eq_true rfl) m_4 (Or.inl rfl) ?_
    show Z zm_X9_write kz Q 20 [(0, zR 20), (3, zI v3), (4, zI v4)] [zI x_2] (d, G, E_3)
    refine Z.istore (ls' := [(5, zI x_2), (0, zR 20), (3, zI v3), (4, zI v4)]) dX9_write_20 (by decide) rfl ?_
    refine Z.iload (k := 0) dX9_write_22 rfl ?_
    refine Z.iconst (n := -1) dX9_write_24 ⟨by decide, by decide⟩ ?_
    refine Z.icmp_ne 30 dX9_write_25 rfl ⟨fun c_6 => ?_, fun c_6 => ?_⟩
    · replace K := K.1 c_6
      refine Z.aload_n (k := 1) dX9_write_30 rfl ?_
      refine Y.getI 14 dX9_write_31 zl_X9_52 (rfl) (by decide) rfl (zX_0_6 hX).2.2 ?_
      refine Z.iload_n (k := 2) dX9_write_34 rfl ?_
      refine Z.icmp_ge 48 dX9_write_35 rfl ⟨fun c_7 => ?_, fun c_7 => ?_⟩
      · replace K := K.1 c_7
        refine Z.iconst (n := 0) dX9_write_48 ⟨by decide, by decide⟩ ?_
        exact Z.iret (ty := .boolean) dX9_write_49 rfl rfl K
      · replace K := K.2 c_7
        refine Z.aload_n (k := 1) dX9_write_38 rfl ?_
        refine Y.getI 14 dX9_write_39 zl_X9_52 (rfl) (by decide) rfl (zX_0_6 hX).2.2 ?_
        refine Z.sipush (n := 1000) dX9_write_42 ⟨by decide, by decide⟩ (by decide) ?_
        refine Z.icmp_lt 50 dX9_write_45 rfl ⟨fun c_8 => ?_, fun c_8 => ?_⟩
        · replace K := K.1 c_8
          refine Z.aload_n (k := 1) dX9_write_50 rfl ?_
          refine Y.getR (o := some 29) 13 dX9_write_51 zl_X9_49 (rfl) (by decide) rfl (zX_0_6 hX).2.2 (zX_20_13 hX).1 ?_
          refine Z.aload_n (k := 1) dX9_write_54 rfl ?_
          refine Y.getI 14 dX9_write_55 zl_X9_52 (rfl) (by decide) rfl (zX_0_6 hX).2.2 ?_
          refine Z.aload_n (k := 1) dX9_write_58 rfl ?_
          refine Y.getR (o := some 21) 1 dX9_write_59 zl_X9_9 (rfl) (by decide) rfl (zX_0_6 hX).2.2 (zX_20_1 hX).1 ?_
          refine Z.iload (k := 0) dX9_write_62 rfl ?_
          obtain ⟨z_9, K⟩ := K
          refine Y.iald dX9_write_64 (rfl) ((zX_20_1 hX).2.2) z_9 ?_
          obtain ⟨z_10, K⟩ := K
          refine Y.iast dX9_write_65 (rfl) ((zX_20_13 hX).2.2) z_10 ?_
          generalize eE_11 : zuE E_3 29 ((E_3 20 14)) ((E_3 21 x_2)) = E_11
          replace K := K E_11 eE_11.symm
          refine Z.aload_n (k := 1) dX9_write_66 rfl ?_
          refine Z.dup_i dX9_write_67 (fun _ => rfl) ?_
          refine Y.getI 14 dX9_write_68 zl_X9_52 (rfl) (by decide) rfl (zX_0_6 hX).2.2 ?_
          refine Z.iconst (n := 1) dX9_write_71 ⟨by decide, by decide⟩ ?_
          obtain ⟨z_12, K⟩ := K
          refine Z.iadd dX9_write_72 z_12 ?_
          refine Y.putI 14 dX9_write_73 zw_X9_52 (fun q => by cases q) (rfl) rfl (zX_0_6 hX).2.2 (Or.inl rfl) ?_
          generalize eE_13 : zuE E_11 20 14 (((E_11 20 14) + 1)) = E_13
          replace K := K E_13 eE_13.symm
          obtain ⟨z_14, K⟩ := K
          refine Z.iinc (k := 3) (ls' := [(4, zI ((v4 + 1))), (5, zI x_2), (0, zR 20), (3, zI v3)]) dX9_write_76 rfl (by decide) z_14 rfl ?_
          refine Z.goto 9 dX9_write_79 rfl ?_
          refine Z.pick (ls' := [(0, zR 20), (3, zI v3), (4, zI ((v4 + 1)))]) [2, 3, 0] rfl ?_
          exact K
        · replace K := K.2 c_8
          refine Z.iconst (n := 0) dX9_write_48 ⟨by decide, by decide⟩ ?_
          exact Z.iret (ty := .boolean) dX9_write_49 rfl rfl K
    · replace K := K.2 c_6
      refine Z.iconst (n := 1) dX9_write_28 ⟨by decide, by decide⟩ ?_
      exact Z.iret (ty := .boolean) dX9_write_29 rfl rfl K
set_option maxRecDepth 20000 in
theorem X9_matches_0 {kz : Nat × Nat} {Q : Option zV → zH → Prop} {d : List Nat} {G : Nat → Int → Option Nat} {E : Nat → Int → Int} {a1 n1 : Nat} {v2 : Int} {a3 n3 : Nat} {v4 : Int} (hX : zK zXt d G) (ha1 : a1 ∈ d) (hk1 : zkd a1 = (0, n1)) (ha3 : a3 ∈ d) (hk3 : zkd a3 = (0, n3)) (K : Z zm_X9_matches kz Q 10 [(0, zR 20), (1, zR a1), (3, zR a3), (5, zI v2), (6, zI v4), (7, zI 1)] [] (d, G, E)) : Z zm_X9_matches kz Q 0 [(0, zR 20), (1, zR a1), (2, zI v2), (3, zR a3), (4, zI v4)] [] (d, G, E) := by
  refine Z.iload_n (k := 2) dX9_matches_0 rfl ?_
  refine Z.istore (ls' := [(5, zI v2), (0, zR 20), (1, zR a1), (2, zI v2), (3, zR a3), (4, zI v4)]) dX9_matches_1 (by decide) rfl ?_
  refine Z.iload (k := 5) dX9_matches_3 rfl ?_
  refine Z.istore (ls' := [(6, zI v4), (5, zI v2), (0, zR 20), (1, zR a1), (2, zI v2), (3, zR a3), (4, zI v4)]) dX9_matches_5 (by decide) rfl ?_
  refine Z.iconst (n := 1) dX9_matches_7 ⟨by decide, by decide⟩ ?_
  refine Z.istore (ls' := [(7, zI 1), (6, zI v4), (5, zI v2), (0, zR 20), (1, zR a1), (2, zI v2), (3, zR a3), (4, zI v4)]) dX9_matches_8 (by decide) rfl ?_
  refine Z.pick (ls' := [(0, zR 20), (1, zR a1), (3, zR a3), (5, zI v2), (6, zI v4), (7, zI 1)]) [3, 4, 6, 2, 1, 0] rfl ?_
  exact K
set_option maxRecDepth 20000 in
theorem X9_matches_10 {kz : Nat × Nat} {Q : Option zV → zH → Prop} {d : List Nat} {G : Nat → Int → Option Nat} {E : Nat → Int → Int} {a1 n1 : Nat} {a3 n3 : Nat} {v5 : Int} {v6 : Int} {v7 : Int} (hX : zK zXt d G) (ha1 : a1 ∈ d) (hk1 : zkd a1 = (0, n1)) (ha3 : a3 ∈ d) (hk3 : zkd a3 = (0, n3)) (K : (v7 ≤ 0 → (v7 ≠ 0 → Q (some (zI 0)) (d, G, E)) ∧ (¬ (v7 ≠ 0) → Q (some (zI 1)) (d, G, E))) ∧ (¬ (v7 ≤ 0) → zin (n1 : Int) ∧ ((n1 : Int) ≤ v5 → (v7 ≠ 0 → Q (some (zI 0)) (d, G, E)) ∧ (¬ (v7 ≠ 0) → Q (some (zI 1)) (d, G, E))) ∧ (¬ ((n1 : Int) ≤ v5) → zin (n3 : Int) ∧ ((n3 : Int) ≤ v6 → (v7 ≠ 0 → Q (some (zI 0)) (d, G, E)) ∧ (¬ (v7 ≠ 0) → Q (some (zI 1)) (d, G, E))) ∧ (¬ ((n3 : Int) ≤ v6) → ((0 : Int) ≤ v5 ∧ v5 < (n1 : Int)) ∧ ((E a1 v5) < 0 → ∃ x_11, zM zm_X8_after [zR 1, zR a3, zI v6] (d, G, E) (some (zI x_11)) (d, G, E) ∧ zin (19 - (E a1 v5)) ∧ ((0 : Int) ≤ (19 - (E a1 v5)) ∧ (19 - (E a1 v5)) < (40 : Int)) ∧ ((E 22 (19 - (E a1 v5))) ≠ (-1) → zin (x_11 - v6) ∧ ∃ x_18, zM zm_X11_alike [zR a3, zI ((E 22 (19 - (E a1 v5)))), zR a3, zI v6, zI ((x_11 - v6))] (d, G, E) (some (zI x_18)) (d, G, E) ∧ (x_18 ≠ 0 → zin (v7 + (-1)) ∧ zin (v5 + 1) ∧ Z zm_X9_matches kz Q 10 [(0, zR 20), (1, zR a1), (3, zR a3), (5, zI ((v5 + 1))), (6, zI x_11), (7, zI ((v7 + (-1))))] [] (d, G, E)) ∧ (¬ (x_18 ≠ 0) → Q (some (zI 0)) (d, G, E))) ∧ (¬ ((E 22 (19 - (E a1 v5))) ≠ (-1)) → ∃ E_24, zM zm_X9_tell [zR 20, zI ((19 - (E a1 v5))), zI v6] (d, G, E) none (d, G, E_24) ∧ zin (v7 + (-1)) ∧ zin (v5 + 1) ∧ Z zm_X9_matches kz Q 10 [(0, zR 20), (1, zR a1), (3, zR a3), (5, zI ((v5 + 1))), (6, zI x_11), (7, zI ((v7 + (-1))))] [] (d, G, E_24))) ∧ (¬ ((E a1 v5) < 0) → ((0 : Int) ≤ v6 ∧ v6 < (n3 : Int)) ∧ ((E a1 v5) = (E a3 v6) → ∃ x_31, zM zm_X8_partsOf [zR 1, zI ((E a1 v5))] (d, G, E) (some (zI x_31)) (d, G, E) ∧ zin (x_31 - 1) ∧ zin (v7 + (x_31 - 1)) ∧ zin (v6 + 1) ∧ zin (v5 + 1) ∧ Z zm_X9_matches kz Q 10 [(0, zR 20), (1, zR a1), (3, zR a3), (5, zI ((v5 + 1))), (6, zI ((v6 + 1))), (7, zI ((v7 + (x_31 - 1))))] [] (d, G, E)) ∧ (¬ ((E a1 v5) = (E a3 v6)) → Q (some (zI 0)) (d, G, E))))))) : Z zm_X9_matches kz Q 10 [(0, zR 20), (1, zR a1), (3, zR a3), (5, zI v5), (6, zI v6), (7, zI v7)] [] (d, G, E) := by
  refine Z.iload (k := 5) dX9_matches_10 rfl ?_
  refine Z.if_le 150 dX9_matches_12 rfl ⟨fun c_1 => ?_, fun c_1 => ?_⟩
  · replace K := K.1 c_1
    refine Z.iload (k := 5) dX9_matches_150 rfl ?_
    refine Z.if_ne 159 dX9_matches_152 rfl ⟨fun c_2 => ?_, fun c_2 => ?_⟩
    · replace K := K.1 c_2
      refine Z.iconst (n := 0) dX9_matches_159 ⟨by decide, by decide⟩ ?_
      exact Z.iret (ty := .boolean) dX9_matches_160 rfl rfl K
    · replace K := K.2 c_2
      refine Z.iconst (n := 1) dX9_matches_155 ⟨by decide, by decide⟩ ?_
      refine Z.goto 160 dX9_matches_156 rfl ?_
      exact Z.iret (ty := .boolean) dX9_matches_160 rfl rfl K
  · replace K := K.2 c_1
    refine Z.iload (k := 3) dX9_matches_15 rfl ?_
    refine Z.aload_n (k := 1) dX9_matches_17 rfl ?_
    obtain ⟨z_3, K⟩ := K
    refine Y.alen n1 (n1 : Int) dX9_matches_18 (hk1) (ha1) rfl z_3 ?_
    refine Z.icmp_ge 150 dX9_matches_19 rfl ⟨fun c_4 => ?_, fun c_4 => ?_⟩
    · replace K := K.1 c_4
      refine Z.iload (k := 5) dX9_matches_150 rfl ?_
      refine Z.if_ne 159 dX9_matches_152 rfl ⟨fun c_5 => ?_, fun c_5 => ?_⟩
      · replace K := K.1 c_5
        refine Z.iconst (n := 0) dX9_matches_159 ⟨by decide, by decide⟩ ?_
        exact Z.iret (ty := .boolean) dX9_matches_160 rfl rfl K
      · replace K := K.2 c_5
        refine Z.iconst (n := 1) dX9_matches_155 ⟨by decide, by decide⟩ ?_
        refine Z.goto 160 dX9_matches_156 rfl ?_
        exact Z.iret (ty := .boolean) dX9_matches_160 rfl rfl K
    · replace K := K.2 c_4
      refine Z.iload (k := 4) dX9_matches_22 rfl ?_
      refine Z.aload_n (k := 2) dX9_matches_24 rfl ?_
      obtain ⟨z_6, K⟩ := K
      refine Y.alen n3 (n3 : Int) dX9_matches_25 (hk3) (ha3) rfl z_6 ?_
      refine Z.icmp_ge 150 dX9_matches_26 rfl ⟨fun c_7 => ?_, fun c_7 => ?_⟩
      · replace K := K.1 c_7
        refine Z.iload (k := 5) dX9_matches_150 rfl ?_
        refine Z.if_ne 159 dX9_matches_152 rfl ⟨fun c_8 => ?_, fun c_8 => ?_⟩
        · replace K := K.1 c_8
          refine Z.iconst (n := 0) dX9_matches_159 ⟨by decide, by decide⟩ ?_
          exact Z.iret (ty := .boolean) dX9_matches_160 rfl rfl K
        · replace K := K.2 c_8
          refine Z.iconst (n := 1) dX9_matches_155 ⟨by decide, by decide⟩ ?_
          refine Z.goto 160 dX9_matches_156 rfl ?_
          exact Z.iret (ty := .boolean) dX9_matches_160 rfl rfl K
      · replace K := K.2 c_7
        refine Z.aload_n (k := 1) dX9_matches_29 rfl ?_
        refine Z.iload (k := 3) dX9_matches_30 rfl ?_
        obtain ⟨z_9, K⟩ := K
        refine Y.iald dX9_matches_32 (hk1) (ha1) z_9 ?_
        refine Z.istore (ls' := [(8, zI ((E a1 v5))), (0, zR 20), (1, zR a1), (3, zR a3), (5, zI v5), (6, zI v6), (7, zI v7)]) dX9_matches_33 (by decide) rfl ?_
        refine Z.iload (k := 0) dX9_matches_35 rfl ?_
        refine Z.if_lt 73 dX9_matches_37 rfl ⟨fun c_10 => ?_, fun c_10 => ?_⟩
        · replace K := K.1 c_10
          refine Z.aload_n (k := 1) dX9_matches_73 rfl ?_
          refine Y.getR (o := some 1) 0 dX9_matches_74 zl_X9_55 (rfl) (by decide) rfl (zX_0_6 hX).2.2 (zX_20_0 hX).1 ?_
          refine Z.aload_n (k := 3) dX9_matches_77 rfl ?_
          refine Z.iload (k := 5) dX9_matches_78 rfl ?_
          obtain ⟨x_11, m_12, K⟩ := K
          refine Y.callV (g := zm_X8_after) (vs := [zR a3, zI v6]) (st := []) dX9_matches_80 ⟨zg_X8_after.1, zg_X8_after.2.1, zg_X8_after.2.2, by decide⟩ ⟨zk_X9_96, zv_X8_after⟩ (ci := 8) (rfl) rfl ((zX_0_0 hX).2.2) rfl rfl (Nat.le_of_ble_eq_true rfl) m_12 (Or.inl rfl) ?_
          show Z zm_X9_matches kz Q 83 [(8, zI ((E a1 v5))), (0, zR 20), (1, zR a1), (3, zR a3), (5, zI v5), (6, zI v6), (7, zI v7)] [zI x_11] (d, G, E)
          refine Z.istore (ls' := [(9, zI x_11), (8, zI ((E a1 v5))), (0, zR 20), (1, zR a1), (3, zR a3), (5, zI v5), (6, zI v6), (7, zI v7)]) dX9_matches_83 (by decide) rfl ?_
          refine Z.bipush (n := 19) dX9_matches_85 ⟨by decide, by decide⟩ (by decide) ?_
          refine Z.iload (k := 1) dX9_matches_87 rfl ?_
          obtain ⟨z_14, K⟩ := K
          refine Z.isub dX9_matches_89 z_14 ?_
          refine Z.istore (ls' := [(10, zI ((19 - (E a1 v5)))), (9, zI x_11), (8, zI ((E a1 v5))), (0, zR 20), (1, zR a1), (3, zR a3), (5, zI v5), (6, zI v6), (7, zI v7)]) dX9_matches_90 (by decide) rfl ?_
          refine Z.aload_n (k := 3) dX9_matches_92 rfl ?_
          refine Y.getR (o := some 22) 2 dX9_matches_93 zl_X9_15 (rfl) (by decide) rfl (zX_0_6 hX).2.2 (zX_20_2 hX).1 ?_
          refine Z.iload (k := 0) dX9_matches_96 rfl ?_
          obtain ⟨z_15, K⟩ := K
          refine Y.iald dX9_matches_98 (rfl) ((zX_20_2 hX).2.2) z_15 ?_
          refine Z.istore (ls' := [(11, zI ((E 22 (19 - (E a1 v5))))), (10, zI ((19 - (E a1 v5)))), (9, zI x_11), (8, zI ((E a1 v5))), (0, zR 20), (1, zR a1), (3, zR a3), (5, zI v5), (6, zI v6), (7, zI v7)]) dX9_matches_99 (by decide) rfl ?_
          refine Z.iload (k := 0) dX9_matches_101 rfl ?_
          refine Z.iconst (n := -1) dX9_matches_103 ⟨by decide, by decide⟩ ?_
          refine Z.icmp_ne 118 dX9_matches_104 rfl ⟨fun c_16 => ?_, fun c_16 => ?_⟩
          · replace K := K.1 c_16
            refine Z.aload_n (k := 6) dX9_matches_118 rfl ?_
            refine Z.iload (k := 0) dX9_matches_119 rfl ?_
            refine Z.aload_n (k := 6) dX9_matches_121 rfl ?_
            refine Z.iload (k := 8) dX9_matches_122 rfl ?_
            refine Z.iload (k := 2) dX9_matches_124 rfl ?_
            refine Z.iload (k := 8) dX9_matches_126 rfl ?_
            obtain ⟨z_17, K⟩ := K
            refine Z.isub dX9_matches_128 z_17 ?_
            obtain ⟨x_18, m_19, K⟩ := K
            refine Y.callS (g := zm_X11_alike) (vs := [zR a3, zI ((E 22 (19 - (E a1 v5)))), zR a3, zI v6, zI ((x_11 - v6))]) (st := []) dX9_matches_129 ⟨zg_X11_alike.1, zg_X11_alike.2.1, zg_X11_alike.2.2, by decide⟩ ⟨Or.inr zk_X9_118, zs_X11_alike⟩ rfl rfl (Nat.le_of_ble_eq_true rfl) m_19 (Or.inl rfl) ?_
            show Z zm_X9_matches kz Q 132 [(11, zI ((E 22 (19 - (E a1 v5))))), (10, zI ((19 - (E a1 v5)))), (9, zI x_11), (8, zI ((E a1 v5))), (0, zR 20), (1, zR a1), (3, zR a3), (5, zI v5), (6, zI v6), (7, zI v7)] [zI x_18] (d, G, E)
            refine Z.if_ne 137 dX9_matches_132 rfl ⟨fun c_21 => ?_, fun c_21 => ?_⟩
            · replace K := K.1 c_21
              refine Z.iload (k := 2) dX9_matches_137 rfl ?_
              refine Z.istore (ls' := [(6, zI x_11), (11, zI ((E 22 (19 - (E a1 v5))))), (10, zI ((19 - (E a1 v5)))), (9, zI x_11), (8, zI ((E a1 v5))), (0, zR 20), (1, zR a1), (3, zR a3), (5, zI v5), (7, zI v7)]) dX9_matches_139 (by decide) rfl ?_
              obtain ⟨z_22, K⟩ := K
              refine Z.iinc (k := 9) (ls' := [(7, zI ((v7 + (-1)))), (6, zI x_11), (11, zI ((E 22 (19 - (E a1 v5))))), (10, zI ((19 - (E a1 v5)))), (9, zI x_11), (8, zI ((E a1 v5))), (0, zR 20), (1, zR a1), (3, zR a3), (5, zI v5)]) dX9_matches_141 rfl (by decide) z_22 rfl ?_
              obtain ⟨z_23, K⟩ := K
              refine Z.iinc (k := 9) (ls' := [(5, zI ((v5 + 1))), (7, zI ((v7 + (-1)))), (6, zI x_11), (11, zI ((E 22 (19 - (E a1 v5))))), (10, zI ((19 - (E a1 v5)))), (9, zI x_11), (8, zI ((E a1 v5))), (0, zR 20), (1, zR a1), (3, zR a3)]) dX9_matches_144 rfl (by decide) z_23 rfl ?_
              refine Z.goto 10 dX9_matches_147 rfl ?_
              refine Z.pick (ls' := [(0, zR 20), (1, zR a1), (3, zR a3), (5, zI ((v5 + 1))), (6, zI x_11), (7, zI ((v7 + (-1))))]) [7, 8, 9, 0, 2, 1] rfl ?_
              exact K
            · replace K := K.2 c_21
              refine Z.iconst (n := 0) dX9_matches_135 ⟨by decide, by decide⟩ ?_
              exact Z.iret (ty := .boolean) dX9_matches_136 rfl rfl K
          · replace K := K.2 c_16
            refine Z.aload_n (k := 4) dX9_matches_107 rfl ?_
            refine Z.iload (k := 1) dX9_matches_108 rfl ?_
            refine Z.iload (k := 8) dX9_matches_110 rfl ?_
            obtain ⟨E_24, m_25, K⟩ := K
            refine Y.callV (g := zm_X9_tell) (vs := [zI ((19 - (E a1 v5))), zI v6]) (st := []) dX9_matches_112 ⟨zg_X9_tell.1, zg_X9_tell.2.1, zg_X9_tell.2.2, by decide⟩ ⟨zk_X9_107, zv_X9_tell⟩ (ci := 9) (rfl) rfl ((zX_0_6 hX).2.2) rfl rfl (Nat.le_of_ble_eq_true rfl) m_25 (Or.inl rfl) ?_
            show Z zm_X9_matches kz Q 115 [(11, zI ((E 22 (19 - (E a1 v5))))), (10, zI ((19 - (E a1 v5)))), (9, zI x_11), (8, zI ((E a1 v5))), (0, zR 20), (1, zR a1), (3, zR a3), (5, zI v5), (6, zI v6), (7, zI v7)] [] (d, G, E_24)
            refine Z.goto 137 dX9_matches_115 rfl ?_
            refine Z.iload (k := 2) dX9_matches_137 rfl ?_
            refine Z.istore (ls' := [(6, zI x_11), (11, zI ((E 22 (19 - (E a1 v5))))), (10, zI ((19 - (E a1 v5)))), (9, zI x_11), (8, zI ((E a1 v5))), (0, zR 20), (1, zR a1), (3, zR a3), (5, zI v5), (7, zI v7)]) dX9_matches_139 (by decide) rfl ?_
            obtain ⟨z_27, K⟩ := K
            refine Z.iinc (k := 9) (ls' := [(7, zI ((v7 + (-1)))), (6, zI x_11), (11, zI ((E 22 (19 - (E a1 v5))))), (10, zI ((19 - (E a1 v5)))), (9, zI x_11), (8, zI ((E a1 v5))), (0, zR 20), (1, zR a1), (3, zR a3), (5, zI v5)]) dX9_matches_141 rfl (by decide) z_27 rfl ?_
            obtain ⟨z_28, K⟩ := K
            refine Z.iinc (k := 9) (ls' := [(5, zI ((v5 + 1))), (7, zI ((v7 + (-1)))), (6, zI x_11), (11, zI ((E 22 (19 - (E a1 v5))))), (10, zI ((19 - (E a1 v5)))), (9, zI x_11), (8, zI ((E a1 v5))), (0, zR 20), (1, zR a1), (3, zR a3)]) dX9_matches_144 rfl (by decide) z_28 rfl ?_
            refine Z.goto 10 dX9_matches_147 rfl ?_
            refine Z.pick (ls' := [(0, zR 20), (1, zR a1), (3, zR a3), (5, zI ((v5 + 1))), (6, zI x_11), (7, zI ((v7 + (-1))))]) [7, 8, 9, 0, 2, 1] rfl ?_
            exact K
        · replace K := K.2 c_10
          refine Z.iload (k := 0) dX9_matches_40 rfl ?_
          refine Z.aload_n (k := 3) dX9_matches_42 rfl ?_
          refine Z.iload (k := 5) dX9_matches_43 rfl ?_
          obtain ⟨z_29, K⟩ := K
          refine Y.iald dX9_matches_45 (hk3) (ha3) z_29 ?_
          refine Z.icmp_eq 51 dX9_matches_46 rfl ⟨fun c_30 => ?_, fun c_30 => ?_⟩
          · replace K := K.1 c_30
            refine Z.iload (k := 6) dX9_matches_51 rfl ?_
            refine Z.aload_n (k := 1) dX9_matches_53 rfl ?_
            refine Y.getR (o := some 1) 0 dX9_matches_54 zl_X9_55 (rfl) (by decide) rfl (zX_0_6 hX).2.2 (zX_20_0 hX).1 ?_
            refine Z.iload (k := 0) dX9_matches_57 rfl ?_
            obtain ⟨x_31, m_32, K⟩ := K
            refine Y.callV (g := zm_X8_partsOf) (vs := [zI ((E a1 v5))]) (st := [zI v7]) dX9_matches_59 ⟨zg_X8_partsOf.1, zg_X8_partsOf.2.1, zg_X8_partsOf.2.2, by decide⟩ ⟨zk_X9_91, zv_X8_partsOf⟩ (ci := 8) (rfl) rfl ((zX_0_0 hX).2.2) rfl rfl (Nat.le_of_ble_eq_true rfl) m_32 (Or.inl rfl) ?_
            show Z zm_X9_matches kz Q 62 [(8, zI ((E a1 v5))), (0, zR 20), (1, zR a1), (3, zR a3), (5, zI v5), (6, zI v6), (7, zI v7)] [zI x_31, zI v7] (d, G, E)
            refine Z.iconst (n := 1) dX9_matches_62 ⟨by decide, by decide⟩ ?_
            obtain ⟨z_34, K⟩ := K
            refine Z.isub dX9_matches_63 z_34 ?_
            obtain ⟨z_35, K⟩ := K
            refine Z.iadd dX9_matches_64 z_35 ?_
            refine Z.istore (ls' := [(7, zI ((v7 + (x_31 - 1)))), (8, zI ((E a1 v5))), (0, zR 20), (1, zR a1), (3, zR a3), (5, zI v5), (6, zI v6)]) dX9_matches_65 (by decide) rfl ?_
            obtain ⟨z_36, K⟩ := K
            refine Z.iinc (k := 6) (ls' := [(6, zI ((v6 + 1))), (7, zI ((v7 + (x_31 - 1)))), (8, zI ((E a1 v5))), (0, zR 20), (1, zR a1), (3, zR a3), (5, zI v5)]) dX9_matches_67 rfl (by decide) z_36 rfl ?_
            refine Z.goto 144 dX9_matches_70 rfl ?_
            obtain ⟨z_37, K⟩ := K
            refine Z.iinc (k := 6) (ls' := [(5, zI ((v5 + 1))), (6, zI ((v6 + 1))), (7, zI ((v7 + (x_31 - 1)))), (8, zI ((E a1 v5))), (0, zR 20), (1, zR a1), (3, zR a3)]) dX9_matches_144 rfl (by decide) z_37 rfl ?_
            refine Z.goto 10 dX9_matches_147 rfl ?_
            refine Z.pick (ls' := [(0, zR 20), (1, zR a1), (3, zR a3), (5, zI ((v5 + 1))), (6, zI ((v6 + 1))), (7, zI ((v7 + (x_31 - 1))))]) [4, 5, 6, 0, 1, 2] rfl ?_
            exact K
          · replace K := K.2 c_30
            refine Z.iconst (n := 0) dX9_matches_49 ⟨by decide, by decide⟩ ?_
            exact Z.iret (ty := .boolean) dX9_matches_50 rfl rfl K
set_option maxRecDepth 20000 in
theorem X9_isTold_0 {kz : Nat × Nat} {Q : Option zV → zH → Prop} {d : List Nat} {G : Nat → Int → Option Nat} {E : Nat → Int → Int} {a1 n1 : Nat} {v2 : Int} {v3 : Int} (hX : zK zXt d G) (ha1 : a1 ∈ d) (hk1 : zkd a1 = (0, n1)) (K : Z zm_X9_isTold kz Q 3 [(0, zR 20), (1, zR a1), (3, zI v3), (4, zI v2)] [] (d, G, E)) : Z zm_X9_isTold kz Q 0 [(0, zR 20), (1, zR a1), (2, zI v2), (3, zI v3)] [] (d, G, E) := by
  refine Z.iload_n (k := 2) dX9_isTold_0 rfl ?_
  refine Z.istore (ls' := [(4, zI v2), (0, zR 20), (1, zR a1), (2, zI v2), (3, zI v3)]) dX9_isTold_1 (by decide) rfl ?_
  refine Z.pick (ls' := [(0, zR 20), (1, zR a1), (3, zI v3), (4, zI v2)]) [1, 2, 4, 0] rfl ?_
  exact K
set_option maxRecDepth 20000 in
theorem X9_isTold_3 {kz : Nat × Nat} {Q : Option zV → zH → Prop} {d : List Nat} {G : Nat → Int → Option Nat} {E : Nat → Int → Int} {a1 n1 : Nat} {v3 : Int} {v4 : Int} (hX : zK zXt d G) (ha1 : a1 ∈ d) (hk1 : zkd a1 = (0, n1)) (K : (v3 ≤ v4 → Q (some (zI 1)) (d, G, E)) ∧ (¬ (v3 ≤ v4) → ((0 : Int) ≤ v4 ∧ v4 < (n1 : Int)) ∧ (0 ≤ (E a1 v4) → zin (v4 + 1) ∧ Z zm_X9_isTold kz Q 3 [(0, zR 20), (1, zR a1), (3, zI v3), (4, zI ((v4 + 1)))] [] (d, G, E)) ∧ (¬ (0 ≤ (E a1 v4)) → ((0 : Int) ≤ v4 ∧ v4 < (n1 : Int)) ∧ zin (19 - (E a1 v4)) ∧ ((0 : Int) ≤ (19 - (E a1 v4)) ∧ (19 - (E a1 v4)) < (40 : Int)) ∧ ((E 22 (19 - (E a1 v4))) ≠ (-1) → zin (v4 + 1) ∧ Z zm_X9_isTold kz Q 3 [(0, zR 20), (1, zR a1), (3, zI v3), (4, zI ((v4 + 1)))] [] (d, G, E)) ∧ (¬ ((E 22 (19 - (E a1 v4))) ≠ (-1)) → Q (some (zI 0)) (d, G, E))))) : Z zm_X9_isTold kz Q 3 [(0, zR 20), (1, zR a1), (3, zI v3), (4, zI v4)] [] (d, G, E) := by
  refine Z.iload (k := 3) dX9_isTold_3 rfl ?_
  refine Z.iload_n (k := 2) dX9_isTold_5 rfl ?_
  refine Z.icmp_ge 40 dX9_isTold_6 rfl ⟨fun c_1 => ?_, fun c_1 => ?_⟩
  · replace K := K.1 c_1
    refine Z.iconst (n := 1) dX9_isTold_40 ⟨by decide, by decide⟩ ?_
    exact Z.iret (ty := .boolean) dX9_isTold_41 rfl rfl K
  · replace K := K.2 c_1
    refine Z.aload_n (k := 1) dX9_isTold_9 rfl ?_
    refine Z.iload (k := 3) dX9_isTold_10 rfl ?_
    obtain ⟨z_2, K⟩ := K
    refine Y.iald dX9_isTold_12 (hk1) (ha1) z_2 ?_
    refine Z.if_ge 34 dX9_isTold_13 rfl ⟨fun c_3 => ?_, fun c_3 => ?_⟩
    · replace K := K.1 c_3
      obtain ⟨z_4, K⟩ := K
      refine Z.iinc (k := 3) (ls' := [(4, zI ((v4 + 1))), (0, zR 20), (1, zR a1), (3, zI v3)]) dX9_isTold_34 rfl (by decide) z_4 rfl ?_
      refine Z.goto 3 dX9_isTold_37 rfl ?_
      refine Z.pick (ls' := [(0, zR 20), (1, zR a1), (3, zI v3), (4, zI ((v4 + 1)))]) [1, 2, 3, 0] rfl ?_
      exact K
    · replace K := K.2 c_3
      refine Z.aload_n (k := 0) dX9_isTold_16 rfl ?_
      refine Y.getR (o := some 22) 2 dX9_isTold_17 zl_X9_15 (rfl) (by decide) rfl (zX_0_6 hX).2.2 (zX_20_2 hX).1 ?_
      refine Z.bipush (n := 19) dX9_isTold_20 ⟨by decide, by decide⟩ (by decide) ?_
      refine Z.aload_n (k := 1) dX9_isTold_22 rfl ?_
      refine Z.iload (k := 3) dX9_isTold_23 rfl ?_
      obtain ⟨z_5, K⟩ := K
      refine Y.iald dX9_isTold_25 (hk1) (ha1) z_5 ?_
      obtain ⟨z_6, K⟩ := K
      refine Z.isub dX9_isTold_26 z_6 ?_
      obtain ⟨z_7, K⟩ := K
      refine Y.iald dX9_isTold_27 (rfl) ((zX_20_2 hX).2.2) z_7 ?_
      refine Z.iconst (n := -1) dX9_isTold_28 ⟨by decide, by decide⟩ ?_
      refine Z.icmp_ne 34 dX9_isTold_29 rfl ⟨fun c_8 => ?_, fun c_8 => ?_⟩
      · replace K := K.1 c_8
        obtain ⟨z_9, K⟩ := K
        refine Z.iinc (k := 3) (ls' := [(4, zI ((v4 + 1))), (0, zR 20), (1, zR a1), (3, zI v3)]) dX9_isTold_34 rfl (by decide) z_9 rfl ?_
        refine Z.goto 3 dX9_isTold_37 rfl ?_
        refine Z.pick (ls' := [(0, zR 20), (1, zR a1), (3, zI v3), (4, zI ((v4 + 1)))]) [1, 2, 3, 0] rfl ?_
        exact K
      · replace K := K.2 c_8
        refine Z.iconst (n := 0) dX9_isTold_32 ⟨by decide, by decide⟩ ?_
        exact Z.iret (ty := .boolean) dX9_isTold_33 rfl rfl K
set_option maxRecDepth 20000 in
theorem X9_init_0 {kz : Nat × Nat} {Q : Option zV → zH → Prop} {d : List Nat} {G : Nat → Int → Option Nat} {E : Nat → Int → Int}  (hm20 : 20 ∈ d) (hm1 : 1 ∈ d) (K : ∃ a_1, zkd a_1 = (0, (360 : Int).toNat) ∧ (0 : Int) ≤ 360 ∧ 360 ≤ (100000 : Int) ∧ a_1 ∉ d ∧ ¬ zst3 a_1 ∧ d.length + 1 ≤ kz.1 ∧ zsl d + (zkd a_1).2 ≤ kz.2 ∧ ∀ d_9 G_10 E_11, d_9 = d ++ [a_1] → G_10 = zclG G a_1 → E_11 = zclE E a_1 → (∀ G_12, G_12 = zuG G_10 20 1 (some a_1) → ∃ a_13, zkd a_13 = (0, (40 : Int).toNat) ∧ (0 : Int) ≤ 40 ∧ 40 ≤ (100000 : Int) ∧ a_13 ∉ d_9 ∧ ¬ zst3 a_13 ∧ d_9.length + 1 ≤ kz.1 ∧ zsl d_9 + (zkd a_13).2 ≤ kz.2 ∧ ∀ d_21 G_22 E_23, d_21 = d_9 ++ [a_13] → G_22 = zclG G_12 a_13 → E_23 = zclE E_11 a_13 → (∀ G_24, G_24 = zuG G_22 20 2 (some a_13) → ∃ a_25, zkd a_25 = (0, (40 : Int).toNat) ∧ (0 : Int) ≤ 40 ∧ 40 ≤ (100000 : Int) ∧ a_25 ∉ d_21 ∧ ¬ zst3 a_25 ∧ d_21.length + 1 ≤ kz.1 ∧ zsl d_21 + (zkd a_25).2 ≤ kz.2 ∧ ∀ d_33 G_34 E_35, d_33 = d_21 ++ [a_25] → G_34 = zclG G_24 a_25 → E_35 = zclE E_23 a_25 → (∀ G_36, G_36 = zuG G_34 20 3 (some a_25) → ∀ E_37, E_37 = zuE E_35 20 4 0 → ∃ a_38, zkd a_38 = (0, (128 : Int).toNat) ∧ (0 : Int) ≤ 128 ∧ 128 ≤ (100000 : Int) ∧ a_38 ∉ d_33 ∧ ¬ zst3 a_38 ∧ d_33.length + 1 ≤ kz.1 ∧ zsl d_33 + (zkd a_38).2 ≤ kz.2 ∧ ∀ d_46 G_47 E_48, d_46 = d_33 ++ [a_38] → G_47 = zclG G_36 a_38 → E_48 = zclE E_37 a_38 → (∀ G_49, G_49 = zuG G_47 20 5 (some a_38) → ∃ a_50, zkd a_50 = (0, (128 : Int).toNat) ∧ (0 : Int) ≤ 128 ∧ 128 ≤ (100000 : Int) ∧ a_50 ∉ d_46 ∧ ¬ zst3 a_50 ∧ d_46.length + 1 ≤ kz.1 ∧ zsl d_46 + (zkd a_50).2 ≤ kz.2 ∧ ∀ d_58 G_59 E_60, d_58 = d_46 ++ [a_50] → G_59 = zclG G_49 a_50 → E_60 = zclE E_48 a_50 → (∀ G_61, G_61 = zuG G_59 20 6 (some a_50) → ∃ a_62, zkd a_62 = (0, (128 : Int).toNat) ∧ (0 : Int) ≤ 128 ∧ 128 ≤ (100000 : Int) ∧ a_62 ∉ d_58 ∧ ¬ zst3 a_62 ∧ d_58.length + 1 ≤ kz.1 ∧ zsl d_58 + (zkd a_62).2 ≤ kz.2 ∧ ∀ d_70 G_71 E_72, d_70 = d_58 ++ [a_62] → G_71 = zclG G_61 a_62 → E_72 = zclE E_60 a_62 → (∀ G_73, G_73 = zuG G_71 20 7 (some a_62) → ∃ a_74, zkd a_74 = (0, (128 : Int).toNat) ∧ (0 : Int) ≤ 128 ∧ 128 ≤ (100000 : Int) ∧ a_74 ∉ d_70 ∧ ¬ zst3 a_74 ∧ d_70.length + 1 ≤ kz.1 ∧ zsl d_70 + (zkd a_74).2 ≤ kz.2 ∧ ∀ d_82 G_83 E_84, d_82 = d_70 ++ [a_74] → G_83 = zclG G_73 a_74 → E_84 = zclE E_72 a_74 → (∀ G_85, G_85 = zuG G_83 20 8 (some a_74) → ∃ a_86, zkd a_86 = (0, (128 : Int).toNat) ∧ (0 : Int) ≤ 128 ∧ 128 ≤ (100000 : Int) ∧ a_86 ∉ d_82 ∧ ¬ zst3 a_86 ∧ d_82.length + 1 ≤ kz.1 ∧ zsl d_82 + (zkd a_86).2 ≤ kz.2 ∧ ∀ d_94 G_95 E_96, d_94 = d_82 ++ [a_86] → G_95 = zclG G_85 a_86 → E_96 = zclE E_84 a_86 → (∀ G_97, G_97 = zuG G_95 20 9 (some a_86) → ∀ E_98, E_98 = zuE E_96 20 10 0 → ∀ E_99, E_99 = zuE E_98 20 11 0 → ∀ E_100, E_100 = zuE E_99 20 12 0 → ∃ a_101, zkd a_101 = (0, (1000 : Int).toNat) ∧ (0 : Int) ≤ 1000 ∧ 1000 ≤ (100000 : Int) ∧ a_101 ∉ d_94 ∧ ¬ zst3 a_101 ∧ d_94.length + 1 ≤ kz.1 ∧ zsl d_94 + (zkd a_101).2 ≤ kz.2 ∧ ∀ d_109 G_110 E_111, d_109 = d_94 ++ [a_101] → G_110 = zclG G_97 a_101 → E_111 = zclE E_100 a_101 → (∀ G_112, G_112 = zuG G_110 20 13 (some a_101) → ∀ E_113, E_113 = zuE E_111 20 14 0 → ∀ G_114, G_114 = zuG G_112 20 0 (some 1) → ∃ E_115, zM zm_J7_fill_53178 [zO ((G_114 20 2)), zI ((-1))] (d_109, G_114, E_113) none (d_109, G_114, E_115) ∧ Q none (d_109, G_114, E_115))))))))))) : Z zm_X9_init kz Q 0 [(0, zR 20), (1, zR 1)] [] (d, G, E) := by
  refine Z.aload_n (k := 0) dX9_init_0 rfl ?_
  refine Z.objInit (a := 20) dX9_init_1 zk_X9_3 ⟨by decide, by decide⟩ (Nat.le_of_ble_eq_true rfl) ?_
  refine Z.aload_n (k := 0) dX9_init_4 rfl ?_
  refine Z.sipush (n := 360) dX9_init_5 ⟨by decide, by decide⟩ (by decide) ?_
  obtain ⟨a_1, z_2, z_3, z_4, z_5, z_6, z_7, z_8, K⟩ := K
  refine Y.newI a_1 dX9_init_8 z_2 z_3 z_4 zai z_5 z_6 z_7 z_8 ?_
  generalize ed_9 : d ++ [a_1] = d_9
  generalize eG_10 : zclG G a_1 = G_10
  generalize eE_11 : zclE E a_1 = E_11
  replace K := K d_9 G_10 E_11 ed_9.symm eG_10.symm eE_11.symm
  refine Y.putR 1 dX9_init_10 zw_X9_9 (fun _ => ⟨rfl, rfl⟩) (rfl) rfl (by rw [← ed_9]; exact List.mem_append_left _ (hm20)) (fun b hb => by cases hb; exact (by rw [← ed_9]; exact List.mem_append_right _ List.mem_cons_self)) ?_
  generalize eG_12 : zuG G_10 20 1 (some a_1) = G_12
  replace K := K G_12 eG_12.symm
  refine Z.aload_n (k := 0) dX9_init_13 rfl ?_
  refine Z.bipush (n := 40) dX9_init_14 ⟨by decide, by decide⟩ (by decide) ?_
  obtain ⟨a_13, z_14, z_15, z_16, z_17, z_18, z_19, z_20, K⟩ := K
  refine Y.newI a_13 dX9_init_16 z_14 z_15 z_16 zai z_17 z_18 z_19 z_20 ?_
  generalize ed_21 : d_9 ++ [a_13] = d_21
  generalize eG_22 : zclG G_12 a_13 = G_22
  generalize eE_23 : zclE E_11 a_13 = E_23
  replace K := K d_21 G_22 E_23 ed_21.symm eG_22.symm eE_23.symm
  refine Y.putR 2 dX9_init_18 zw_X9_15 (fun _ => ⟨rfl, rfl⟩) (rfl) rfl (by rw [← ed_21]; exact List.mem_append_left _ ((by rw [← ed_9]; exact List.mem_append_left _ (hm20)))) (fun b hb => by cases hb; exact (by rw [← ed_21]; exact List.mem_append_right _ List.mem_cons_self)) ?_
  generalize eG_24 : zuG G_22 20 2 (some a_13) = G_24
  replace K := K G_24 eG_24.symm
  refine Z.aload_n (k := 0) dX9_init_21 rfl ?_
  refine Z.bipush (n := 40) dX9_init_22 ⟨by decide, by decide⟩ (by decide) ?_
  obtain ⟨a_25, z_26, z_27, z_28, z_29, z_30, z_31, z_32, K⟩ := K
  refine Y.newI a_25 dX9_init_24 z_26 z_27 z_28 zai z_29 z_30 z_31 z_32 ?_
  generalize ed_33 : d_21 ++ [a_25] = d_33
  generalize eG_34 : zclG G_24 a_25 = G_34
  generalize eE_35 : zclE E_23 a_25 = E_35
  replace K := K d_33 G_34 E_35 ed_33.symm eG_34.symm eE_35.symm
  refine Y.putR 3 dX9_init_26 zw_X9_18 (fun _ => ⟨rfl, rfl⟩) (rfl) rfl (by rw [← ed_33]; exact List.mem_append_left _ ((by rw [← ed_21]; exact List.mem_append_left _ ((by rw [← ed_9]; exact List.mem_append_left _ (hm20)))))) (fun b hb => by cases hb; exact (by rw [← ed_33]; exact List.mem_append_right _ List.mem_cons_self)) ?_
  generalize eG_36 : zuG G_34 20 3 (some a_25) = G_36
  replace K := K G_36 eG_36.symm
  refine Z.aload_n (k := 0) dX9_init_29 rfl ?_
  refine Z.iconst (n := 0) dX9_init_30 ⟨by decide, by decide⟩ ?_
  refine Y.putI 4 dX9_init_31 zw_X9_21 (fun q => by cases q) (rfl) rfl (by rw [← ed_33]; exact List.mem_append_left _ ((by rw [← ed_21]; exact List.mem_append_left _ ((by rw [← ed_9]; exact List.mem_append_left _ (hm20)))))) (Or.inl rfl) ?_
  generalize eE_37 : zuE E_35 20 4 0 = E_37
  replace K := K E_37 eE_37.symm
  refine Z.aload_n (k := 0) dX9_init_34 rfl ?_
  refine Z.sipush (n := 128) dX9_init_35 ⟨by decide, by decide⟩ (by decide) ?_
  obtain ⟨a_38, z_39, z_40, z_41, z_42, z_43, z_44, z_45, K⟩ := K
  refine Y.newI a_38 dX9_init_38 z_39 z_40 z_41 zai z_42 z_43 z_44 z_45 ?_
  generalize ed_46 : d_33 ++ [a_38] = d_46
  generalize eG_47 : zclG G_36 a_38 = G_47
  generalize eE_48 : zclE E_37 a_38 = E_48
  replace K := K d_46 G_47 E_48 ed_46.symm eG_47.symm eE_48.symm
  refine Y.putR 5 dX9_init_40 zw_X9_25 (fun _ => ⟨rfl, rfl⟩) (rfl) rfl (by rw [← ed_46]; exact List.mem_append_left _ ((by rw [← ed_33]; exact List.mem_append_left _ ((by rw [← ed_21]; exact List.mem_append_left _ ((by rw [← ed_9]; exact List.mem_append_left _ (hm20)))))))) (fun b hb => by cases hb; exact (by rw [← ed_46]; exact List.mem_append_right _ List.mem_cons_self)) ?_
  generalize eG_49 : zuG G_47 20 5 (some a_38) = G_49
  replace K := K G_49 eG_49.symm
  refine Z.aload_n (k := 0) dX9_init_43 rfl ?_
  refine Z.sipush (n := 128) dX9_init_44 ⟨by decide, by decide⟩ (by decide) ?_
  obtain ⟨a_50, z_51, z_52, z_53, z_54, z_55, z_56, z_57, K⟩ := K
  refine Y.newI a_50 dX9_init_47 z_51 z_52 z_53 zai z_54 z_55 z_56 z_57 ?_
  generalize ed_58 : d_46 ++ [a_50] = d_58
  generalize eG_59 : zclG G_49 a_50 = G_59
  generalize eE_60 : zclE E_48 a_50 = E_60
  replace K := K d_58 G_59 E_60 ed_58.symm eG_59.symm eE_60.symm
  refine Y.putR 6 dX9_init_49 zw_X9_28 (fun _ => ⟨rfl, rfl⟩) (rfl) rfl (by rw [← ed_58]; exact List.mem_append_left _ ((by rw [← ed_46]; exact List.mem_append_left _ ((by rw [← ed_33]; exact List.mem_append_left _ ((by rw [← ed_21]; exact List.mem_append_left _ ((by rw [← ed_9]; exact List.mem_append_left _ (hm20)))))))))) (fun b hb => by cases hb; exact (by rw [← ed_58]; exact List.mem_append_right _ List.mem_cons_self)) ?_
  generalize eG_61 : zuG G_59 20 6 (some a_50) = G_61
  replace K := K G_61 eG_61.symm
  refine Z.aload_n (k := 0) dX9_init_52 rfl ?_
  refine Z.sipush (n := 128) dX9_init_53 ⟨by decide, by decide⟩ (by decide) ?_
  obtain ⟨a_62, z_63, z_64, z_65, z_66, z_67, z_68, z_69, K⟩ := K
  refine Y.newI a_62 dX9_init_56 z_63 z_64 z_65 zai z_66 z_67 z_68 z_69 ?_
  generalize ed_70 : d_58 ++ [a_62] = d_70
  generalize eG_71 : zclG G_61 a_62 = G_71
  generalize eE_72 : zclE E_60 a_62 = E_72
  replace K := K d_70 G_71 E_72 ed_70.symm eG_71.symm eE_72.symm
  refine Y.putR 7 dX9_init_58 zw_X9_31 (fun _ => ⟨rfl, rfl⟩) (rfl) rfl (by rw [← ed_70]; exact List.mem_append_left _ ((by rw [← ed_58]; exact List.mem_append_left _ ((by rw [← ed_46]; exact List.mem_append_left _ ((by rw [← ed_33]; exact List.mem_append_left _ ((by rw [← ed_21]; exact List.mem_append_left _ ((by rw [← ed_9]; exact List.mem_append_left _ (hm20)))))))))))) (fun b hb => by cases hb; exact (by rw [← ed_70]; exact List.mem_append_right _ List.mem_cons_self)) ?_
  generalize eG_73 : zuG G_71 20 7 (some a_62) = G_73
  replace K := K G_73 eG_73.symm
  refine Z.aload_n (k := 0) dX9_init_61 rfl ?_
  refine Z.sipush (n := 128) dX9_init_62 ⟨by decide, by decide⟩ (by decide) ?_
  obtain ⟨a_74, z_75, z_76, z_77, z_78, z_79, z_80, z_81, K⟩ := K
  refine Y.newI a_74 dX9_init_65 z_75 z_76 z_77 zai z_78 z_79 z_80 z_81 ?_
  generalize ed_82 : d_70 ++ [a_74] = d_82
  generalize eG_83 : zclG G_73 a_74 = G_83
  generalize eE_84 : zclE E_72 a_74 = E_84
  replace K := K d_82 G_83 E_84 ed_82.symm eG_83.symm eE_84.symm
  refine Y.putR 8 dX9_init_67 zw_X9_34 (fun _ => ⟨rfl, rfl⟩) (rfl) rfl (by rw [← ed_82]; exact List.mem_append_left _ ((by rw [← ed_70]; exact List.mem_append_left _ ((by rw [← ed_58]; exact List.mem_append_left _ ((by rw [← ed_46]; exact List.mem_append_left _ ((by rw [← ed_33]; exact List.mem_append_left _ ((by rw [← ed_21]; exact List.mem_append_left _ ((by rw [← ed_9]; exact List.mem_append_left _ (hm20)))))))))))))) (fun b hb => by cases hb; exact (by rw [← ed_82]; exact List.mem_append_right _ List.mem_cons_self)) ?_
  generalize eG_85 : zuG G_83 20 8 (some a_74) = G_85
  replace K := K G_85 eG_85.symm
  refine Z.aload_n (k := 0) dX9_init_70 rfl ?_
  refine Z.sipush (n := 128) dX9_init_71 ⟨by decide, by decide⟩ (by decide) ?_
  obtain ⟨a_86, z_87, z_88, z_89, z_90, z_91, z_92, z_93, K⟩ := K
  refine Y.newI a_86 dX9_init_74 z_87 z_88 z_89 zai z_90 z_91 z_92 z_93 ?_
  generalize ed_94 : d_82 ++ [a_86] = d_94
  generalize eG_95 : zclG G_85 a_86 = G_95
  generalize eE_96 : zclE E_84 a_86 = E_96
  replace K := K d_94 G_95 E_96 ed_94.symm eG_95.symm eE_96.symm
  refine Y.putR 9 dX9_init_76 zw_X9_37 (fun _ => ⟨rfl, rfl⟩) (rfl) rfl (by rw [← ed_94]; exact List.mem_append_left _ ((by rw [← ed_82]; exact List.mem_append_left _ ((by rw [← ed_70]; exact List.mem_append_left _ ((by rw [← ed_58]; exact List.mem_append_left _ ((by rw [← ed_46]; exact List.mem_append_left _ ((by rw [← ed_33]; exact List.mem_append_left _ ((by rw [← ed_21]; exact List.mem_append_left _ ((by rw [← ed_9]; exact List.mem_append_left _ (hm20)))))))))))))))) (fun b hb => by cases hb; exact (by rw [← ed_94]; exact List.mem_append_right _ List.mem_cons_self)) ?_
  generalize eG_97 : zuG G_95 20 9 (some a_86) = G_97
  replace K := K G_97 eG_97.symm
  refine Z.aload_n (k := 0) dX9_init_79 rfl ?_
  refine Z.iconst (n := 0) dX9_init_80 ⟨by decide, by decide⟩ ?_
  refine Y.putI 10 dX9_init_81 zw_X9_40 (fun q => by cases q) (rfl) rfl (by rw [← ed_94]; exact List.mem_append_left _ ((by rw [← ed_82]; exact List.mem_append_left _ ((by rw [← ed_70]; exact List.mem_append_left _ ((by rw [← ed_58]; exact List.mem_append_left _ ((by rw [← ed_46]; exact List.mem_append_left _ ((by rw [← ed_33]; exact List.mem_append_left _ ((by rw [← ed_21]; exact List.mem_append_left _ ((by rw [← ed_9]; exact List.mem_append_left _ (hm20)))))))))))))))) (Or.inl rfl) ?_
  generalize eE_98 : zuE E_96 20 10 0 = E_98
  replace K := K E_98 eE_98.symm
  refine Z.aload_n (k := 0) dX9_init_84 rfl ?_
  refine Z.iconst (n := 0) dX9_init_85 ⟨by decide, by decide⟩ ?_
  refine Y.putI 11 dX9_init_86 zw_X9_43 (fun q => by cases q) (rfl) rfl (by rw [← ed_94]; exact List.mem_append_left _ ((by rw [← ed_82]; exact List.mem_append_left _ ((by rw [← ed_70]; exact List.mem_append_left _ ((by rw [← ed_58]; exact List.mem_append_left _ ((by rw [← ed_46]; exact List.mem_append_left _ ((by rw [← ed_33]; exact List.mem_append_left _ ((by rw [← ed_21]; exact List.mem_append_left _ ((by rw [← ed_9]; exact List.mem_append_left _ (hm20)))))))))))))))) (Or.inl rfl) ?_
  generalize eE_99 : zuE E_98 20 11 0 = E_99
  replace K := K E_99 eE_99.symm
  refine Z.aload_n (k := 0) dX9_init_89 rfl ?_
  refine Z.iconst (n := 0) dX9_init_90 ⟨by decide, by decide⟩ ?_
  refine Y.putI 12 dX9_init_91 zw_X9_46 (fun q => by cases q) (rfl) rfl (by rw [← ed_94]; exact List.mem_append_left _ ((by rw [← ed_82]; exact List.mem_append_left _ ((by rw [← ed_70]; exact List.mem_append_left _ ((by rw [← ed_58]; exact List.mem_append_left _ ((by rw [← ed_46]; exact List.mem_append_left _ ((by rw [← ed_33]; exact List.mem_append_left _ ((by rw [← ed_21]; exact List.mem_append_left _ ((by rw [← ed_9]; exact List.mem_append_left _ (hm20)))))))))))))))) (Or.inl rfl) ?_
  generalize eE_100 : zuE E_99 20 12 0 = E_100
  replace K := K E_100 eE_100.symm
  refine Z.aload_n (k := 0) dX9_init_94 rfl ?_
  refine Z.sipush (n := 1000) dX9_init_95 ⟨by decide, by decide⟩ (by decide) ?_
  obtain ⟨a_101, z_102, z_103, z_104, z_105, z_106, z_107, z_108, K⟩ := K
  refine Y.newI a_101 dX9_init_98 z_102 z_103 z_104 zai z_105 z_106 z_107 z_108 ?_
  generalize ed_109 : d_94 ++ [a_101] = d_109
  generalize eG_110 : zclG G_97 a_101 = G_110
  generalize eE_111 : zclE E_100 a_101 = E_111
  replace K := K d_109 G_110 E_111 ed_109.symm eG_110.symm eE_111.symm
  refine Y.putR 13 dX9_init_100 zw_X9_49 (fun _ => ⟨rfl, rfl⟩) (rfl) rfl (by rw [← ed_109]; exact List.mem_append_left _ ((by rw [← ed_94]; exact List.mem_append_left _ ((by rw [← ed_82]; exact List.mem_append_left _ ((by rw [← ed_70]; exact List.mem_append_left _ ((by rw [← ed_58]; exact List.mem_append_left _ ((by rw [← ed_46]; exact List.mem_append_left _ ((by rw [← ed_33]; exact List.mem_append_left _ ((by rw [← ed_21]; exact List.mem_append_left _ ((by rw [← ed_9]; exact List.mem_append_left _ (hm20)))))))))))))))))) (fun b hb => by cases hb; exact (by rw [← ed_109]; exact List.mem_append_right _ List.mem_cons_self)) ?_
  generalize eG_112 : zuG G_110 20 13 (some a_101) = G_112
  replace K := K G_112 eG_112.symm
  refine Z.aload_n (k := 0) dX9_init_103 rfl ?_
  refine Z.iconst (n := 0) dX9_init_104 ⟨by decide, by decide⟩ ?_
  refine Y.putI 14 dX9_init_105 zw_X9_52 (fun q => by cases q) (rfl) rfl (by rw [← ed_109]; exact List.mem_append_left _ ((by rw [← ed_94]; exact List.mem_append_left _ ((by rw [← ed_82]; exact List.mem_append_left _ ((by rw [← ed_70]; exact List.mem_append_left _ ((by rw [← ed_58]; exact List.mem_append_left _ ((by rw [← ed_46]; exact List.mem_append_left _ ((by rw [← ed_33]; exact List.mem_append_left _ ((by rw [← ed_21]; exact List.mem_append_left _ ((by rw [← ed_9]; exact List.mem_append_left _ (hm20)))))))))))))))))) (Or.inl rfl) ?_
  generalize eE_113 : zuE E_111 20 14 0 = E_113
  replace K := K E_113 eE_113.symm
  refine Z.aload_n (k := 0) dX9_init_108 rfl ?_
  refine Z.aload_n (k := 1) dX9_init_109 rfl ?_
  refine Y.putR 0 dX9_init_110 zw_X9_55 (fun _ => ⟨rfl, rfl⟩) (rfl) rfl (by rw [← ed_109]; exact List.mem_append_left _ ((by rw [← ed_94]; exact List.mem_append_left _ ((by rw [← ed_82]; exact List.mem_append_left _ ((by rw [← ed_70]; exact List.mem_append_left _ ((by rw [← ed_58]; exact List.mem_append_left _ ((by rw [← ed_46]; exact List.mem_append_left _ ((by rw [← ed_33]; exact List.mem_append_left _ ((by rw [← ed_21]; exact List.mem_append_left _ ((by rw [← ed_9]; exact List.mem_append_left _ (hm20)))))))))))))))))) (fun b hb => by cases hb; exact (by rw [← ed_109]; exact List.mem_append_left _ ((by rw [← ed_94]; exact List.mem_append_left _ ((by rw [← ed_82]; exact List.mem_append_left _ ((by rw [← ed_70]; exact List.mem_append_left _ ((by rw [← ed_58]; exact List.mem_append_left _ ((by rw [← ed_46]; exact List.mem_append_left _ ((by rw [← ed_33]; exact List.mem_append_left _ ((by rw [← ed_21]; exact List.mem_append_left _ ((by rw [← ed_9]; exact List.mem_append_left _ (hm1))))))))))))))))))) ?_
  generalize eG_114 : zuG G_112 20 0 (some 1) = G_114
  replace K := K G_114 eG_114.symm
  refine Z.aload_n (k := 0) dX9_init_113 rfl ?_
  refine Y.getR (o := (G_114 20 2)) 2 dX9_init_114 zl_X9_15 (rfl) (by decide) rfl (by rw [← ed_109]; exact List.mem_append_left _ ((by rw [← ed_94]; exact List.mem_append_left _ ((by rw [← ed_82]; exact List.mem_append_left _ ((by rw [← ed_70]; exact List.mem_append_left _ ((by rw [← ed_58]; exact List.mem_append_left _ ((by rw [← ed_46]; exact List.mem_append_left _ ((by rw [← ed_33]; exact List.mem_append_left _ ((by rw [← ed_21]; exact List.mem_append_left _ ((by rw [← ed_9]; exact List.mem_append_left _ (hm20)))))))))))))))))) rfl ?_
  refine Z.iconst (n := -1) dX9_init_117 ⟨by decide, by decide⟩ ?_
  obtain ⟨E_115, m_116, K⟩ := K
  refine Y.callS (g := zm_J7_fill_53178) (vs := [zO ((G_114 20 2)), zI ((-1))]) (st := []) dX9_init_118 ⟨zg_J7_fill_53178.1, zg_J7_fill_53178.2.1, zg_J7_fill_53178.2.2, by decide⟩ ⟨Or.inl zk_X9_59, zs_J7_fill_53178⟩ rfl rfl (Nat.le_of_ble_eq_true rfl) m_116 (Or.inl rfl) ?_
  show Z zm_X9_init kz Q 121 [(0, zR 20), (1, zR 1)] [] (d_109, G_114, E_115)
  exact Z.vret dX9_init_121 rfl K
