set_option maxRecDepth 20000 in
theorem X9_layFirst_0 {kz : Nat × Nat} {Q : Option zV → zH → Prop} {d : List Nat} {G : Nat → Int → Option Nat} {E : Nat → Int → Int} {r1 : Nat} (hX : zK zXt d G) (hr1 : zRk d G r1) (K : ((0 : Int) ≤ (E r1 3) ∧ (E r1 3) < 7) ∧ ((0 : Int) ≤ 0 ∧ (0 : Int) ≤ 0 ∧ (0 : Int) ≤ (E (r1 + 2) (E r1 3)) ∧ 0 + (E (r1 + 2) (E r1 3)) ≤ 180 ∧ 0 + (E (r1 + 2) (E r1 3)) ≤ 360) ∧ ∀ E3, E3 = zcpE E (r1 + 1) 0 21 0 ((E (r1 + 2) (E r1 3))) → Q none (d, G, E3)) : Z zm_X9_layFirst kz Q 0 [(0, zR 20), (1, zR r1)] [] (d, G, E) := by
  refine Z.aload_n (k := 1) dX9_layFirst_0 rfl ?_
  refine Y.getR (o := some (r1 + 1)) 0 dX9_layFirst_1 zl_X9_65 (congrArg Prod.fst hr1.1) (by decide) rfl hr1.2.2.2.2.1 hr1.2.2.2.2.2.2.2.2.1 ?_
  refine Z.iconst (n := 0) dX9_layFirst_4 ⟨by decide, by decide⟩ ?_
  refine Z.aload_n (k := 0) dX9_layFirst_5 rfl ?_
  refine Y.getR (o := some 21) 1 dX9_layFirst_6 zl_X9_9 (rfl) (by decide) rfl (zX_0_6 hX).2.2 (zX_20_1 hX).1 ?_
  refine Z.iconst (n := 0) dX9_layFirst_9 ⟨by decide, by decide⟩ ?_
  refine Z.aload_n (k := 1) dX9_layFirst_10 rfl ?_
  refine Y.getR (o := some (r1 + 2)) 1 dX9_layFirst_11 zl_X9_70 (congrArg Prod.fst hr1.1) (by decide) rfl hr1.2.2.2.2.1 hr1.2.2.2.2.2.2.2.2.2.1 ?_
  refine Z.aload_n (k := 1) dX9_layFirst_14 rfl ?_
  refine Y.getI 3 dX9_layFirst_15 zl_X9_73 (congrArg Prod.fst hr1.1) (by decide) rfl hr1.2.2.2.2.1 ?_
  obtain ⟨z1, K⟩ := K
  refine Y.iald dX9_layFirst_18 (hr1.2.2.1) (hr1.2.2.2.2.2.2.1) z1 ?_
  obtain ⟨z2, K⟩ := K
  refine Y.copy dX9_layFirst_19 zk_X9_76 zcopy ⟨by decide, by decide⟩ (Nat.le_of_ble_eq_true rfl) (hr1.2.1) (rfl) (hr1.2.2.2.2.2.1) ((zX_20_1 hX).2.2) z2 ?_
  generalize eE3 : zcpE E (r1 + 1) 0 21 0 ((E (r1 + 2) (E r1 3))) = E3
  replace K := K E3 eE3.symm
  exact Z.vret dX9_layFirst_22 rfl K
set_option maxRecDepth 20000 in
theorem X9_laySecond_0 {kz : Nat × Nat} {Q : Option zV → zH → Prop} {d : List Nat} {G : Nat → Int → Option Nat} {E : Nat → Int → Int} {r1 : Nat} (hX : zK zXt d G) (hr1 : zRk d G r1) (K : ((0 : Int) ≤ (E r1 3) ∧ (E r1 3) < 7) ∧ Z zm_X9_laySecond kz Q 12 [(0, zR 20), (1, zR r1), (2, zI ((E (r1 + 2) (E r1 3)))), (3, zI 0)] [] (d, G, E)) : Z zm_X9_laySecond kz Q 0 [(0, zR 20), (1, zR r1)] [] (d, G, E) := by
  refine Z.aload_n (k := 1) dX9_laySecond_0 rfl ?_
  refine Y.getR (o := some (r1 + 2)) 1 dX9_laySecond_1 zl_X9_70 (congrArg Prod.fst hr1.1) (by decide) rfl hr1.2.2.2.2.1 hr1.2.2.2.2.2.2.2.2.2.1 ?_
  refine Z.aload_n (k := 1) dX9_laySecond_4 rfl ?_
  refine Y.getI 3 dX9_laySecond_5 zl_X9_73 (congrArg Prod.fst hr1.1) (by decide) rfl hr1.2.2.2.2.1 ?_
  obtain ⟨z1, K⟩ := K
  refine Y.iald dX9_laySecond_8 (hr1.2.2.1) (hr1.2.2.2.2.2.2.1) z1 ?_
  refine Z.istore_n (ls' := [(2, zI ((E (r1 + 2) (E r1 3)))), (0, zR 20), (1, zR r1)]) dX9_laySecond_9 (by decide) rfl ?_
  refine Z.iconst (n := 0) dX9_laySecond_10 ⟨by decide, by decide⟩ ?_
  refine Z.istore_n (ls' := [(3, zI 0), (2, zI ((E (r1 + 2) (E r1 3)))), (0, zR 20), (1, zR r1)]) dX9_laySecond_11 (by decide) rfl ?_
  refine Z.pick (ls' := [(0, zR 20), (1, zR r1), (2, zI ((E (r1 + 2) (E r1 3)))), (3, zI 0)]) [2, 3, 1, 0] rfl ?_
  exact K
set_option maxRecDepth 20000 in
theorem X9_laySecond_12 {kz : Nat × Nat} {Q : Option zV → zH → Prop} {d : List Nat} {G : Nat → Int → Option Nat} {E : Nat → Int → Int} {r1 : Nat} {v2 : Int} {v3 : Int} (hX : zK zXt d G) (hr1 : zRk d G r1) (K : (v2 ≤ v3 → Q none (d, G, E)) ∧ (¬ (v2 ≤ v3) → ((0 : Int) ≤ v3 ∧ v3 < 180) ∧ zin (180 + v3) ∧ (0 ≤ (E (r1 + 1) v3) → ((0 : Int) ≤ (180 + v3) ∧ (180 + v3) < 360) ∧ ∀ E6, E6 = zuE E 21 ((180 + v3)) ((E (r1 + 1) v3)) → zin (v3 + 1) ∧ Z zm_X9_laySecond kz Q 12 [(0, zR 20), (1, zR r1), (2, zI v2), (3, zI ((v3 + 1)))] [] (d, G, E6)) ∧ (¬ (0 ≤ (E (r1 + 1) v3)) → zin ((E (r1 + 1) v3) - 20) ∧ ((0 : Int) ≤ (180 + v3) ∧ (180 + v3) < 360) ∧ ∀ E10, E10 = zuE E 21 ((180 + v3)) (((E (r1 + 1) v3) - 20)) → zin (v3 + 1) ∧ Z zm_X9_laySecond kz Q 12 [(0, zR 20), (1, zR r1), (2, zI v2), (3, zI ((v3 + 1)))] [] (d, G, E10)))) : Z zm_X9_laySecond kz Q 12 [(0, zR 20), (1, zR r1), (2, zI v2), (3, zI v3)] [] (d, G, E) := by
  refine Z.iload_n (k := 3) dX9_laySecond_12 rfl ?_
  refine Z.iload_n (k := 2) dX9_laySecond_13 rfl ?_
  refine Z.icmp_ge 56 dX9_laySecond_14 rfl ⟨fun c1 => ?_, fun c1 => ?_⟩
  · replace K := K.1 c1
    exact Z.vret dX9_laySecond_56 rfl K
  · replace K := K.2 c1
    refine Z.aload_n (k := 1) dX9_laySecond_17 rfl ?_
    refine Y.getR (o := some (r1 + 1)) 0 dX9_laySecond_18 zl_X9_65 (congrArg Prod.fst hr1.1) (by decide) rfl hr1.2.2.2.2.1 hr1.2.2.2.2.2.2.2.2.1 ?_
    refine Z.iload_n (k := 3) dX9_laySecond_21 rfl ?_
    obtain ⟨z2, K⟩ := K
    refine Y.iald dX9_laySecond_22 (hr1.2.1) (hr1.2.2.2.2.2.1) z2 ?_
    refine Z.istore (ls' := [(4, zI ((E (r1 + 1) v3))), (0, zR 20), (1, zR r1), (2, zI v2), (3, zI v3)]) dX9_laySecond_23 (by decide) rfl ?_
    refine Z.aload_n (k := 1) dX9_laySecond_25 rfl ?_
    refine Y.getR (o := some 21) 1 dX9_laySecond_26 zl_X9_9 (rfl) (by decide) rfl (zX_0_6 hX).2.2 (zX_20_1 hX).1 ?_
    refine Z.sipush (n := 180) dX9_laySecond_29 ⟨by decide, by decide⟩ (by decide) ?_
    refine Z.iload_n (k := 4) dX9_laySecond_32 rfl ?_
    obtain ⟨z3, K⟩ := K
    refine Z.iadd dX9_laySecond_33 z3 ?_
    refine Z.iload (k := 0) dX9_laySecond_34 rfl ?_
    refine Z.if_ge 47 dX9_laySecond_36 rfl ⟨fun c4 => ?_, fun c4 => ?_⟩
    · replace K := K.1 c4
      refine Z.iload (k := 0) dX9_laySecond_47 rfl ?_
      obtain ⟨z5, K⟩ := K
      refine Y.iast dX9_laySecond_49 (rfl) ((zX_20_1 hX).2.2) z5 ?_
      generalize eE6 : zuE E 21 ((180 + v3)) ((E (r1 + 1) v3)) = E6
      replace K := K E6 eE6.symm
      obtain ⟨z7, K⟩ := K
      refine Z.iinc (k := 4) (ls' := [(3, zI ((v3 + 1))), (4, zI ((E (r1 + 1) v3))), (0, zR 20), (1, zR r1), (2, zI v2)]) dX9_laySecond_50 rfl (by decide) z7 rfl ?_
      refine Z.goto 12 dX9_laySecond_53 rfl ?_
      refine Z.pick (ls' := [(0, zR 20), (1, zR r1), (2, zI v2), (3, zI ((v3 + 1)))]) [2, 3, 4, 0] rfl ?_
      exact K
    · replace K := K.2 c4
      refine Z.iload (k := 0) dX9_laySecond_39 rfl ?_
      refine Z.bipush (n := 20) dX9_laySecond_41 ⟨by decide, by decide⟩ (by decide) ?_
      obtain ⟨z8, K⟩ := K
      refine Z.isub dX9_laySecond_43 z8 ?_
      refine Z.goto 49 dX9_laySecond_44 rfl ?_
      obtain ⟨z9, K⟩ := K
      refine Y.iast dX9_laySecond_49 (rfl) ((zX_20_1 hX).2.2) z9 ?_
      generalize eE10 : zuE E 21 ((180 + v3)) (((E (r1 + 1) v3) - 20)) = E10
      replace K := K E10 eE10.symm
      obtain ⟨z11, K⟩ := K
      refine Z.iinc (k := 4) (ls' := [(3, zI ((v3 + 1))), (4, zI ((E (r1 + 1) v3))), (0, zR 20), (1, zR r1), (2, zI v2)]) dX9_laySecond_50 rfl (by decide) z11 rfl ?_
      refine Z.goto 12 dX9_laySecond_53 rfl ?_
      refine Z.pick (ls' := [(0, zR 20), (1, zR r1), (2, zI v2), (3, zI ((v3 + 1)))]) [2, 3, 4, 0] rfl ?_
      exact K
set_option maxRecDepth 20000 in
theorem X9_forget_0 {kz : Nat × Nat} {Q : Option zV → zH → Prop} {d : List Nat} {G : Nat → Int → Option Nat} {E : Nat → Int → Int} {v1 : Int} (hX : zK zXt d G) (K : ((E 20 4) ≤ v1 → Q none (d, G, E)) ∧ (¬ ((E 20 4) ≤ v1) → ((E 20 4) ≤ 0 → Q none (d, G, E)) ∧ (¬ ((E 20 4) ≤ 0) → zin ((E 20 4) - 1) ∧ ∀ E4, E4 = zuE E 20 4 (((E 20 4) - 1)) → ((0 : Int) ≤ (E4 20 4) ∧ (E4 20 4) < 40) ∧ ((0 : Int) ≤ (E4 23 (E4 20 4)) ∧ (E4 23 (E4 20 4)) < 40) ∧ ∀ E7, E7 = zuE E4 22 ((E4 23 (E4 20 4))) ((-1)) → Z zm_X9_forget kz Q 0 [(0, zR 20), (1, zI v1)] [] (d, G, E7)))) : Z zm_X9_forget kz Q 0 [(0, zR 20), (1, zI v1)] [] (d, G, E) := by
  refine Z.aload_n (k := 0) dX9_forget_0 rfl ?_
  refine Y.getI 4 dX9_forget_1 zl_X9_21 (rfl) (by decide) rfl (zX_0_6 hX).2.2 ?_
  refine Z.iload_n (k := 1) dX9_forget_4 rfl ?_
  refine Z.icmp_le 43 dX9_forget_5 rfl ⟨fun c1 => ?_, fun c1 => ?_⟩
  · replace K := K.1 c1
    exact Z.vret dX9_forget_43 rfl K
  · replace K := K.2 c1
    refine Z.aload_n (k := 0) dX9_forget_8 rfl ?_
    refine Y.getI 4 dX9_forget_9 zl_X9_21 (rfl) (by decide) rfl (zX_0_6 hX).2.2 ?_
    refine Z.if_le 43 dX9_forget_12 rfl ⟨fun c2 => ?_, fun c2 => ?_⟩
    · replace K := K.1 c2
      exact Z.vret dX9_forget_43 rfl K
    · replace K := K.2 c2
      refine Z.aload_n (k := 0) dX9_forget_15 rfl ?_
      refine Z.dup_i dX9_forget_16 (fun _ => rfl) ?_
      refine Y.getI 4 dX9_forget_17 zl_X9_21 (rfl) (by decide) rfl (zX_0_6 hX).2.2 ?_
      refine Z.iconst (n := 1) dX9_forget_20 ⟨by decide, by decide⟩ ?_
      obtain ⟨z3, K⟩ := K
      refine Z.isub dX9_forget_21 z3 ?_
      refine Y.putI 4 dX9_forget_22 zw_X9_21 (fun q => by cases q) (rfl) rfl (zX_0_6 hX).2.2 (Or.inl rfl) ?_
      generalize eE4 : zuE E 20 4 (((E 20 4) - 1)) = E4
      replace K := K E4 eE4.symm
      refine Z.aload_n (k := 0) dX9_forget_25 rfl ?_
      refine Y.getR (o := some 22) 2 dX9_forget_26 zl_X9_15 (rfl) (by decide) rfl (zX_0_6 hX).2.2 (zX_20_2 hX).1 ?_
      refine Z.aload_n (k := 0) dX9_forget_29 rfl ?_
      refine Y.getR (o := some 23) 3 dX9_forget_30 zl_X9_18 (rfl) (by decide) rfl (zX_0_6 hX).2.2 (zX_20_3 hX).1 ?_
      refine Z.aload_n (k := 0) dX9_forget_33 rfl ?_
      refine Y.getI 4 dX9_forget_34 zl_X9_21 (rfl) (by decide) rfl (zX_0_6 hX).2.2 ?_
      obtain ⟨z5, K⟩ := K
      refine Y.iald dX9_forget_37 (rfl) ((zX_20_3 hX).2.2) z5 ?_
      refine Z.iconst (n := -1) dX9_forget_38 ⟨by decide, by decide⟩ ?_
      obtain ⟨z6, K⟩ := K
      refine Y.iast dX9_forget_39 (rfl) ((zX_20_2 hX).2.2) z6 ?_
      generalize eE7 : zuE E4 22 ((E4 23 (E4 20 4))) ((-1)) = E7
      replace K := K E7 eE7.symm
      refine Z.goto 0 dX9_forget_40 rfl ?_
      exact K
set_option maxRecDepth 20000 in
theorem X9_resting_0 {kz : Nat × Nat} {Q : Option zV → zH → Prop} {d : List Nat} {G : Nat → Int → Option Nat} {E : Nat → Int → Int} {v1 : Int} (hX : zK zXt d G) (K : Z zm_X9_resting kz Q 4 [(0, zR 20), (2, zI v1), (3, zI 0)] [] (d, G, E)) : Z zm_X9_resting kz Q 0 [(0, zR 20), (1, zI v1)] [] (d, G, E) := by
  refine Z.iload_n (k := 1) dX9_resting_0 rfl ?_
  refine Z.istore_n (ls' := [(2, zI v1), (0, zR 20), (1, zI v1)]) dX9_resting_1 (by decide) rfl ?_
  refine Z.iconst (n := 0) dX9_resting_2 ⟨by decide, by decide⟩ ?_
  refine Z.istore_n (ls' := [(3, zI 0), (2, zI v1), (0, zR 20), (1, zI v1)]) dX9_resting_3 (by decide) rfl ?_
  refine Z.pick (ls' := [(0, zR 20), (2, zI v1), (3, zI 0)]) [2, 1, 0] rfl ?_
  exact K
set_option maxRecDepth 20000 in
theorem X9_resting_4 {kz : Nat × Nat} {Q : Option zV → zH → Prop} {d : List Nat} {G : Nat → Int → Option Nat} {E : Nat → Int → Int} {v2 : Int} {v3 : Int} (hX : zK zXt d G) (K : (40 ≤ v3 → Q (some (zI v2)) (d, G, E)) ∧ (¬ (40 ≤ v3) → ((0 : Int) ≤ v2 ∧ v2 < 360) ∧ (0 ≤ (E 21 v2) → Q (some (zI v2)) (d, G, E)) ∧ (¬ (0 ≤ (E 21 v2)) → zin ((-1) - (E 21 v2)) ∧ ((0 : Int) ≤ ((-1) - (E 21 v2)) ∧ ((-1) - (E 21 v2)) < 40) ∧ ((E 22 ((-1) - (E 21 v2))) ≠ (-1) → zin ((-1) - (E 21 v2)) ∧ ((0 : Int) ≤ ((-1) - (E 21 v2)) ∧ ((-1) - (E 21 v2)) < 40) ∧ zin (v3 + 1) ∧ Z zm_X9_resting kz Q 4 [(0, zR 20), (2, zI ((E 22 ((-1) - (E 21 v2))))), (3, zI ((v3 + 1)))] [] (d, G, E)) ∧ (¬ ((E 22 ((-1) - (E 21 v2))) ≠ (-1)) → Q (some (zI v2)) (d, G, E))))) : Z zm_X9_resting kz Q 4 [(0, zR 20), (2, zI v2), (3, zI v3)] [] (d, G, E) := by
  refine Z.iload_n (k := 2) dX9_resting_4 rfl ?_
  refine Z.aload_n (k := 0) dX9_resting_5 rfl ?_
  refine Y.getR (o := some 22) 2 dX9_resting_6 zl_X9_15 (rfl) (by decide) rfl (zX_0_6 hX).2.2 (zX_20_2 hX).1 ?_
  refine Y.alen 40 40 dX9_resting_9 (rfl) ((zX_20_2 hX).2.2) rfl ⟨by decide, by decide⟩ ?_
  refine Z.icmp_ge 57 dX9_resting_10 rfl ⟨fun c1 => ?_, fun c1 => ?_⟩
  · replace K := K.1 c1
    refine Z.iload_n (k := 1) dX9_resting_57 rfl ?_
    exact Z.iret (ty := .int) dX9_resting_58 rfl rfl K
  · replace K := K.2 c1
    refine Z.aload_n (k := 0) dX9_resting_13 rfl ?_
    refine Y.getR (o := some 21) 1 dX9_resting_14 zl_X9_9 (rfl) (by decide) rfl (zX_0_6 hX).2.2 (zX_20_1 hX).1 ?_
    refine Z.iload_n (k := 1) dX9_resting_17 rfl ?_
    obtain ⟨z2, K⟩ := K
    refine Y.iald dX9_resting_18 (rfl) ((zX_20_1 hX).2.2) z2 ?_
    refine Z.istore (ls' := [(4, zI ((E 21 v2))), (0, zR 20), (2, zI v2), (3, zI v3)]) dX9_resting_19 (by decide) rfl ?_
    refine Z.iload (k := 0) dX9_resting_21 rfl ?_
    refine Z.if_ge 39 dX9_resting_23 rfl ⟨fun c3 => ?_, fun c3 => ?_⟩
    · replace K := K.1 c3
      refine Z.iload_n (k := 2) dX9_resting_39 rfl ?_
      exact Z.iret (ty := .int) dX9_resting_40 rfl rfl K
    · replace K := K.2 c3
      refine Z.aload_n (k := 1) dX9_resting_26 rfl ?_
      refine Y.getR (o := some 22) 2 dX9_resting_27 zl_X9_15 (rfl) (by decide) rfl (zX_0_6 hX).2.2 (zX_20_2 hX).1 ?_
      refine Z.iconst (n := -1) dX9_resting_30 ⟨by decide, by decide⟩ ?_
      refine Z.iload (k := 0) dX9_resting_31 rfl ?_
      obtain ⟨z4, K⟩ := K
      refine Z.isub dX9_resting_33 z4 ?_
      obtain ⟨z5, K⟩ := K
      refine Y.iald dX9_resting_34 (rfl) ((zX_20_2 hX).2.2) z5 ?_
      refine Z.iconst (n := -1) dX9_resting_35 ⟨by decide, by decide⟩ ?_
      refine Z.icmp_ne 41 dX9_resting_36 rfl ⟨fun c6 => ?_, fun c6 => ?_⟩
      · replace K := K.1 c6
        refine Z.aload_n (k := 1) dX9_resting_41 rfl ?_
        refine Y.getR (o := some 22) 2 dX9_resting_42 zl_X9_15 (rfl) (by decide) rfl (zX_0_6 hX).2.2 (zX_20_2 hX).1 ?_
        refine Z.iconst (n := -1) dX9_resting_45 ⟨by decide, by decide⟩ ?_
        refine Z.iload (k := 0) dX9_resting_46 rfl ?_
        obtain ⟨z7, K⟩ := K
        refine Z.isub dX9_resting_48 z7 ?_
        obtain ⟨z8, K⟩ := K
        refine Y.iald dX9_resting_49 (rfl) ((zX_20_2 hX).2.2) z8 ?_
        refine Z.istore_n (ls' := [(2, zI ((E 22 ((-1) - (E 21 v2))))), (4, zI ((E 21 v2))), (0, zR 20), (3, zI v3)]) dX9_resting_50 (by decide) rfl ?_
        obtain ⟨z9, K⟩ := K
        refine Z.iinc (k := 3) (ls' := [(3, zI ((v3 + 1))), (2, zI ((E 22 ((-1) - (E 21 v2))))), (4, zI ((E 21 v2))), (0, zR 20)]) dX9_resting_51 rfl (by decide) z9 rfl ?_
        refine Z.goto 4 dX9_resting_54 rfl ?_
        refine Z.pick (ls' := [(0, zR 20), (2, zI ((E 22 ((-1) - (E 21 v2))))), (3, zI ((v3 + 1)))]) [3, 1, 0] rfl ?_
        exact K
      · replace K := K.2 c6
        refine Z.iload_n (k := 2) dX9_resting_39 rfl ?_
        exact Z.iret (ty := .int) dX9_resting_40 rfl rfl K
set_option maxRecDepth 20000 in
theorem X9_beginWay_0 {kz : Nat × Nat} {Q : Option zV → zH → Prop} {d : List Nat} {G : Nat → Int → Option Nat} {E : Nat → Int → Int} {v1 : Int} {v2 : Int} (hX : zK zXt d G) (K : ∀ E1, E1 = zuE E 20 10 v1 → ∀ E2, E2 = zuE E1 20 11 v2 → ∀ E3, E3 = zuE E2 20 12 0 → Q none (d, G, E3)) : Z zm_X9_beginWay kz Q 0 [(0, zR 20), (1, zI v1), (2, zI v2)] [] (d, G, E) := by
  refine Z.aload_n (k := 0) dX9_beginWay_0 rfl ?_
  refine Z.iload_n (k := 1) dX9_beginWay_1 rfl ?_
  refine Y.putI 10 dX9_beginWay_2 zw_X9_40 (fun q => by cases q) (rfl) rfl (zX_0_6 hX).2.2 (Or.inl rfl) ?_
  generalize eE1 : zuE E 20 10 v1 = E1
  replace K := K E1 eE1.symm
  refine Z.aload_n (k := 0) dX9_beginWay_5 rfl ?_
  refine Z.iload_n (k := 2) dX9_beginWay_6 rfl ?_
  refine Y.putI 11 dX9_beginWay_7 zw_X9_43 (fun q => by cases q) (rfl) rfl (zX_0_6 hX).2.2 (Or.inl rfl) ?_
  generalize eE2 : zuE E1 20 11 v2 = E2
  replace K := K E2 eE2.symm
  refine Z.aload_n (k := 0) dX9_beginWay_10 rfl ?_
  refine Z.iconst (n := 0) dX9_beginWay_11 ⟨by decide, by decide⟩ ?_
  refine Y.putI 12 dX9_beginWay_12 zw_X9_46 (fun q => by cases q) (rfl) rfl (zX_0_6 hX).2.2 (Or.inl rfl) ?_
  generalize eE3 : zuE E2 20 12 0 = E3
  replace K := K E3 eE3.symm
  exact Z.vret dX9_beginWay_15 rfl K
set_option maxRecDepth 20000 in
theorem X9_nextOnWay_0 {kz : Nat × Nat} {Q : Option zV → zH → Prop} {d : List Nat} {G : Nat → Int → Option Nat} {E : Nat → Int → Int}  (hX : zK zXt d G) (K : Z zm_X9_nextOnWay kz Q 2 [(0, zR 20), (1, zI 0)] [] (d, G, E)) : Z zm_X9_nextOnWay kz Q 0 [(0, zR 20)] [] (d, G, E) := by
  refine Z.iconst (n := 0) dX9_nextOnWay_0 ⟨by decide, by decide⟩ ?_
  refine Z.istore_n (ls' := [(1, zI 0), (0, zR 20)]) dX9_nextOnWay_1 (by decide) rfl ?_
  refine Z.pick (ls' := [(0, zR 20), (1, zI 0)]) [1, 0] rfl ?_
  exact K
set_option maxRecDepth 20000 in
theorem X9_nextOnWay_2 {kz : Nat × Nat} {Q : Option zV → zH → Prop} {d : List Nat} {G : Nat → Int → Option Nat} {E : Nat → Int → Int} {v1 : Int} (hX : zK zXt d G) (K : ((1000000) ≤ v1 → Q (some (zI ((-1)))) (d, G, E)) ∧ (¬ ((1000000) ≤ v1) → ((E 20 11) ≤ (E 20 10) → ((E 20 12) ≠ 0 → zin ((E 20 12) - 1) ∧ ∀ E5, E5 = zuE E 20 12 (((E 20 12) - 1)) → ((0 : Int) ≤ (E5 20 12) ∧ (E5 20 12) < 128) ∧ ∀ E7, E7 = zuE E5 20 10 ((E5 27 (E5 20 12))) → ((0 : Int) ≤ (E7 20 12) ∧ (E7 20 12) < 128) ∧ ∀ E9, E9 = zuE E7 20 11 ((E7 28 (E7 20 12))) → zin (v1 + 1) ∧ Z zm_X9_nextOnWay kz Q 2 [(0, zR 20), (1, zI ((v1 + 1)))] [] (d, G, E9)) ∧ (¬ ((E 20 12) ≠ 0) → Q (some (zI ((-1)))) (d, G, E))) ∧ (¬ ((E 20 11) ≤ (E 20 10)) → ∃ x11, zM zm_X9_resting [zR 20, zI ((E 20 10))] (d, G, E) (some (zI x11)) (d, G, E) ∧ zin ((E 20 10) + 1) ∧ ∀ E15, E15 = zuE E 20 10 (((E 20 10) + 1)) → zin ((E15 20 10) - 1) ∧ (x11 = ((E15 20 10) - 1) → Q (some (zI x11)) (d, G, E15)) ∧ (¬ (x11 = ((E15 20 10) - 1)) → ((0 : Int) ≤ x11 ∧ x11 < 360) ∧ ((E15 21 x11) < 0 → Q (some (zI x11)) (d, G, E15)) ∧ (¬ ((E15 21 x11) < 0) → ((E15 20 12) < 128 → ((0 : Int) ≤ (E15 20 12) ∧ (E15 20 12) < 128) ∧ ∀ E22, E22 = zuE E15 27 ((E15 20 12)) ((E15 20 10)) → ((0 : Int) ≤ (E22 20 12) ∧ (E22 20 12) < 128) ∧ ∀ E24, E24 = zuE E22 28 ((E22 20 12)) ((E22 20 11)) → zin ((E24 20 12) + 1) ∧ ∀ E26, E26 = zuE E24 20 12 (((E24 20 12) + 1)) → ∀ E27, E27 = zuE E26 20 10 x11 → ∃ x28, zM zm_X8_after [zR 1, zR 21, zI x11] (d, G, E27) (some (zI x28)) (d, G, E27) ∧ ∀ E31, E31 = zuE E27 20 11 x28 → zin (v1 + 1) ∧ Z zm_X9_nextOnWay kz Q 2 [(0, zR 20), (1, zI ((v1 + 1)))] [] (d, G, E31)) ∧ (¬ ((E15 20 12) < 128) → Q (some (zI x11)) (d, G, E15))))))) : Z zm_X9_nextOnWay kz Q 2 [(0, zR 20), (1, zI v1)] [] (d, G, E) := by
  refine Z.iload_n (k := 1) dX9_nextOnWay_2 rfl ?_
  refine Z.ldc (n := 1000000) dX9_nextOnWay_3 ⟨by decide, by decide⟩ zq_X9_86 ?_
  refine Z.icmp_ge 180 dX9_nextOnWay_5 rfl ⟨fun c1 => ?_, fun c1 => ?_⟩
  · replace K := K.1 c1
    refine Z.iconst (n := -1) dX9_nextOnWay_180 ⟨by decide, by decide⟩ ?_
    exact Z.iret (ty := .int) dX9_nextOnWay_181 rfl rfl K
  · replace K := K.2 c1
    refine Z.aload_n (k := 0) dX9_nextOnWay_8 rfl ?_
    refine Y.getI 10 dX9_nextOnWay_9 zl_X9_40 (rfl) (by decide) rfl (zX_0_6 hX).2.2 ?_
    refine Z.aload_n (k := 0) dX9_nextOnWay_12 rfl ?_
    refine Y.getI 11 dX9_nextOnWay_13 zl_X9_43 (rfl) (by decide) rfl (zX_0_6 hX).2.2 ?_
    refine Z.icmp_ge 129 dX9_nextOnWay_16 rfl ⟨fun c2 => ?_, fun c2 => ?_⟩
    · replace K := K.1 c2
      refine Z.aload_n (k := 0) dX9_nextOnWay_129 rfl ?_
      refine Y.getI 12 dX9_nextOnWay_130 zl_X9_46 (rfl) (by decide) rfl (zX_0_6 hX).2.2 ?_
      refine Z.if_ne 138 dX9_nextOnWay_133 rfl ⟨fun c3 => ?_, fun c3 => ?_⟩
      · replace K := K.1 c3
        refine Z.aload_n (k := 0) dX9_nextOnWay_138 rfl ?_
        refine Z.dup_i dX9_nextOnWay_139 (fun _ => rfl) ?_
        refine Y.getI 12 dX9_nextOnWay_140 zl_X9_46 (rfl) (by decide) rfl (zX_0_6 hX).2.2 ?_
        refine Z.iconst (n := 1) dX9_nextOnWay_143 ⟨by decide, by decide⟩ ?_
        obtain ⟨z4, K⟩ := K
        refine Z.isub dX9_nextOnWay_144 z4 ?_
        refine Y.putI 12 dX9_nextOnWay_145 zw_X9_46 (fun q => by cases q) (rfl) rfl (zX_0_6 hX).2.2 (Or.inl rfl) ?_
        generalize eE5 : zuE E 20 12 (((E 20 12) - 1)) = E5
        replace K := K E5 eE5.symm
        refine Z.aload_n (k := 0) dX9_nextOnWay_148 rfl ?_
        refine Z.aload_n (k := 0) dX9_nextOnWay_149 rfl ?_
        refine Y.getR (o := some 27) 8 dX9_nextOnWay_150 zl_X9_34 (rfl) (by decide) rfl (zX_0_6 hX).2.2 (zX_20_8 hX).1 ?_
        refine Z.aload_n (k := 0) dX9_nextOnWay_153 rfl ?_
        refine Y.getI 12 dX9_nextOnWay_154 zl_X9_46 (rfl) (by decide) rfl (zX_0_6 hX).2.2 ?_
        obtain ⟨z6, K⟩ := K
        refine Y.iald dX9_nextOnWay_157 (rfl) ((zX_20_8 hX).2.2) z6 ?_
        refine Y.putI 10 dX9_nextOnWay_158 zw_X9_40 (fun q => by cases q) (rfl) rfl (zX_0_6 hX).2.2 (Or.inl rfl) ?_
        generalize eE7 : zuE E5 20 10 ((E5 27 (E5 20 12))) = E7
        replace K := K E7 eE7.symm
        refine Z.aload_n (k := 0) dX9_nextOnWay_161 rfl ?_
        refine Z.aload_n (k := 0) dX9_nextOnWay_162 rfl ?_
        refine Y.getR (o := some 28) 9 dX9_nextOnWay_163 zl_X9_37 (rfl) (by decide) rfl (zX_0_6 hX).2.2 (zX_20_9 hX).1 ?_
        refine Z.aload_n (k := 0) dX9_nextOnWay_166 rfl ?_
        refine Y.getI 12 dX9_nextOnWay_167 zl_X9_46 (rfl) (by decide) rfl (zX_0_6 hX).2.2 ?_
        obtain ⟨z8, K⟩ := K
        refine Y.iald dX9_nextOnWay_170 (rfl) ((zX_20_9 hX).2.2) z8 ?_
        refine Y.putI 11 dX9_nextOnWay_171 zw_X9_43 (fun q => by cases q) (rfl) rfl (zX_0_6 hX).2.2 (Or.inl rfl) ?_
        generalize eE9 : zuE E7 20 11 ((E7 28 (E7 20 12))) = E9
        replace K := K E9 eE9.symm
        obtain ⟨z10, K⟩ := K
        refine Z.iinc (k := 1) (ls' := [(1, zI ((v1 + 1))), (0, zR 20)]) dX9_nextOnWay_174 rfl (by decide) z10 rfl ?_
        refine Z.goto 2 dX9_nextOnWay_177 rfl ?_
        refine Z.pick (ls' := [(0, zR 20), (1, zI ((v1 + 1)))]) [1, 0] rfl ?_
        exact K
      · replace K := K.2 c3
        refine Z.iconst (n := -1) dX9_nextOnWay_136 ⟨by decide, by decide⟩ ?_
        exact Z.iret (ty := .int) dX9_nextOnWay_137 rfl rfl K
    · replace K := K.2 c2
      refine Z.aload_n (k := 0) dX9_nextOnWay_19 rfl ?_
      refine Z.aload_n (k := 0) dX9_nextOnWay_20 rfl ?_
      refine Y.getI 10 dX9_nextOnWay_21 zl_X9_40 (rfl) (by decide) rfl (zX_0_6 hX).2.2 ?_
      obtain ⟨x11, m12, K⟩ := K
      refine Y.callV (g := zm_X9_resting) (vs := [zI ((E 20 10))]) (st := []) dX9_nextOnWay_24 ⟨zg_X9_resting.1, zg_X9_resting.2.1, zg_X9_resting.2.2, by decide⟩ ⟨zk_X9_87, zv_X9_resting⟩ (ci := 9) (rfl) rfl ((zX_0_6 hX).2.2) rfl rfl (Nat.le_of_ble_eq_true rfl) m12 (Or.inl rfl) ?_
      show Z zm_X9_nextOnWay kz Q 27 [(0, zR 20), (1, zI v1)] [zI x11] (d, G, E)
      refine Z.istore_n (ls' := [(2, zI x11), (0, zR 20), (1, zI v1)]) dX9_nextOnWay_27 (by decide) rfl ?_
      refine Z.aload_n (k := 1) dX9_nextOnWay_28 rfl ?_
      refine Z.dup_i dX9_nextOnWay_29 (fun _ => rfl) ?_
      refine Y.getI 10 dX9_nextOnWay_30 zl_X9_40 (rfl) (by decide) rfl (zX_0_6 hX).2.2 ?_
      refine Z.iconst (n := 1) dX9_nextOnWay_33 ⟨by decide, by decide⟩ ?_
      obtain ⟨z14, K⟩ := K
      refine Z.iadd dX9_nextOnWay_34 z14 ?_
      refine Y.putI 10 dX9_nextOnWay_35 zw_X9_40 (fun q => by cases q) (rfl) rfl (zX_0_6 hX).2.2 (Or.inl rfl) ?_
      generalize eE15 : zuE E 20 10 (((E 20 10) + 1)) = E15
      replace K := K E15 eE15.symm
      refine Z.iload_n (k := 0) dX9_nextOnWay_38 rfl ?_
      refine Z.aload_n (k := 1) dX9_nextOnWay_39 rfl ?_
      refine Y.getI 10 dX9_nextOnWay_40 zl_X9_40 (rfl) (by decide) rfl (zX_0_6 hX).2.2 ?_
      refine Z.iconst (n := 1) dX9_nextOnWay_43 ⟨by decide, by decide⟩ ?_
      obtain ⟨z16, K⟩ := K
      refine Z.isub dX9_nextOnWay_44 z16 ?_
      refine Z.icmp_eq 67 dX9_nextOnWay_45 rfl ⟨fun c17 => ?_, fun c17 => ?_⟩
      · replace K := K.1 c17
        refine Z.iload_n (k := 0) dX9_nextOnWay_67 rfl ?_
        exact Z.iret (ty := .int) dX9_nextOnWay_68 rfl rfl K
      · replace K := K.2 c17
        refine Z.aload_n (k := 1) dX9_nextOnWay_48 rfl ?_
        refine Y.getR (o := some 21) 1 dX9_nextOnWay_49 zl_X9_9 (rfl) (by decide) rfl (zX_0_6 hX).2.2 (zX_20_1 hX).1 ?_
        refine Z.iload_n (k := 0) dX9_nextOnWay_52 rfl ?_
        obtain ⟨z18, K⟩ := K
        refine Y.iald dX9_nextOnWay_53 (rfl) ((zX_20_1 hX).2.2) z18 ?_
        refine Z.if_lt 67 dX9_nextOnWay_54 rfl ⟨fun c19 => ?_, fun c19 => ?_⟩
        · replace K := K.1 c19
          refine Z.iload_n (k := 0) dX9_nextOnWay_67 rfl ?_
          exact Z.iret (ty := .int) dX9_nextOnWay_68 rfl rfl K
        · replace K := K.2 c19
          refine Z.aload_n (k := 1) dX9_nextOnWay_57 rfl ?_
          refine Y.getI 12 dX9_nextOnWay_58 zl_X9_46 (rfl) (by decide) rfl (zX_0_6 hX).2.2 ?_
          refine Z.sipush (n := 128) dX9_nextOnWay_61 ⟨by decide, by decide⟩ (by decide) ?_
          refine Z.icmp_lt 69 dX9_nextOnWay_64 rfl ⟨fun c20 => ?_, fun c20 => ?_⟩
          · replace K := K.1 c20
            refine Z.aload_n (k := 1) dX9_nextOnWay_69 rfl ?_
            refine Y.getR (o := some 27) 8 dX9_nextOnWay_70 zl_X9_34 (rfl) (by decide) rfl (zX_0_6 hX).2.2 (zX_20_8 hX).1 ?_
            refine Z.aload_n (k := 1) dX9_nextOnWay_73 rfl ?_
            refine Y.getI 12 dX9_nextOnWay_74 zl_X9_46 (rfl) (by decide) rfl (zX_0_6 hX).2.2 ?_
            refine Z.aload_n (k := 1) dX9_nextOnWay_77 rfl ?_
            refine Y.getI 10 dX9_nextOnWay_78 zl_X9_40 (rfl) (by decide) rfl (zX_0_6 hX).2.2 ?_
            obtain ⟨z21, K⟩ := K
            refine Y.iast dX9_nextOnWay_81 (rfl) ((zX_20_8 hX).2.2) z21 ?_
            generalize eE22 : zuE E15 27 ((E15 20 12)) ((E15 20 10)) = E22
            replace K := K E22 eE22.symm
            refine Z.aload_n (k := 1) dX9_nextOnWay_82 rfl ?_
            refine Y.getR (o := some 28) 9 dX9_nextOnWay_83 zl_X9_37 (rfl) (by decide) rfl (zX_0_6 hX).2.2 (zX_20_9 hX).1 ?_
            refine Z.aload_n (k := 1) dX9_nextOnWay_86 rfl ?_
            refine Y.getI 12 dX9_nextOnWay_87 zl_X9_46 (rfl) (by decide) rfl (zX_0_6 hX).2.2 ?_
            refine Z.aload_n (k := 1) dX9_nextOnWay_90 rfl ?_
            refine Y.getI 11 dX9_nextOnWay_91 zl_X9_43 (rfl) (by decide) rfl (zX_0_6 hX).2.2 ?_
            obtain ⟨z23, K⟩ := K
            refine Y.iast dX9_nextOnWay_94 (rfl) ((zX_20_9 hX).2.2) z23 ?_
            generalize eE24 : zuE E22 28 ((E22 20 12)) ((E22 20 11)) = E24
            replace K := K E24 eE24.symm
            refine Z.aload_n (k := 1) dX9_nextOnWay_95 rfl ?_
            refine Z.dup_i dX9_nextOnWay_96 (fun _ => rfl) ?_
            refine Y.getI 12 dX9_nextOnWay_97 zl_X9_46 (rfl) (by decide) rfl (zX_0_6 hX).2.2 ?_
            refine Z.iconst (n := 1) dX9_nextOnWay_100 ⟨by decide, by decide⟩ ?_
            obtain ⟨z25, K⟩ := K
            refine Z.iadd dX9_nextOnWay_101 z25 ?_
            refine Y.putI 12 dX9_nextOnWay_102 zw_X9_46 (fun q => by cases q) (rfl) rfl (zX_0_6 hX).2.2 (Or.inl rfl) ?_
            generalize eE26 : zuE E24 20 12 (((E24 20 12) + 1)) = E26
            replace K := K E26 eE26.symm
            refine Z.aload_n (k := 1) dX9_nextOnWay_105 rfl ?_
            refine Z.iload_n (k := 0) dX9_nextOnWay_106 rfl ?_
            refine Y.putI 10 dX9_nextOnWay_107 zw_X9_40 (fun q => by cases q) (rfl) rfl (zX_0_6 hX).2.2 (Or.inl rfl) ?_
            generalize eE27 : zuE E26 20 10 x11 = E27
            replace K := K E27 eE27.symm
            refine Z.aload_n (k := 1) dX9_nextOnWay_110 rfl ?_
            refine Z.aload_n (k := 1) dX9_nextOnWay_111 rfl ?_
            refine Y.getR (o := some 1) 0 dX9_nextOnWay_112 zl_X9_55 (rfl) (by decide) rfl (zX_0_6 hX).2.2 (zX_20_0 hX).1 ?_
            refine Z.aload_n (k := 1) dX9_nextOnWay_115 rfl ?_
            refine Y.getR (o := some 21) 1 dX9_nextOnWay_116 zl_X9_9 (rfl) (by decide) rfl (zX_0_6 hX).2.2 (zX_20_1 hX).1 ?_
            refine Z.iload_n (k := 0) dX9_nextOnWay_119 rfl ?_
            obtain ⟨x28, m29, K⟩ := K
            refine Y.callV (g := zm_X8_after) (vs := [zR 21, zI x11]) (st := [zR 20]) dX9_nextOnWay_120 ⟨zg_X8_after.1, zg_X8_after.2.1, zg_X8_after.2.2, by decide⟩ ⟨zk_X9_96, zv_X8_after⟩ (ci := 8) (rfl) rfl ((zX_0_0 hX).2.2) rfl rfl (Nat.le_of_ble_eq_true rfl) m29 (Or.inl rfl) ?_
            show Z zm_X9_nextOnWay kz Q 123 [(2, zI x11), (0, zR 20), (1, zI v1)] [zI x28, zR 20] (d, G, E27)
            refine Y.putI 11 dX9_nextOnWay_123 zw_X9_43 (fun q => by cases q) (rfl) rfl (zX_0_6 hX).2.2 (Or.inl rfl) ?_
            generalize eE31 : zuE E27 20 11 x28 = E31
            replace K := K E31 eE31.symm
            refine Z.goto 174 dX9_nextOnWay_126 rfl ?_
            obtain ⟨z32, K⟩ := K
            refine Z.iinc (k := 2) (ls' := [(1, zI ((v1 + 1))), (2, zI x11), (0, zR 20)]) dX9_nextOnWay_174 rfl (by decide) z32 rfl ?_
            refine Z.goto 2 dX9_nextOnWay_177 rfl ?_
            refine Z.pick (ls' := [(0, zR 20), (1, zI ((v1 + 1)))]) [2, 0] rfl ?_
            exact K
          · replace K := K.2 c20
            refine Z.iload_n (k := 0) dX9_nextOnWay_67 rfl ?_
            exact Z.iret (ty := .int) dX9_nextOnWay_68 rfl rfl K
set_option maxRecDepth 20000 in
theorem X9_isIn_0 {kz : Nat × Nat} {Q : Option zV → zH → Prop} {d : List Nat} {G : Nat → Int → Option Nat} {E : Nat → Int → Int} {v1 : Int} {v2 : Int} (hX : zK zXt d G) (K : ∃ x1, zM zm_X8_after [zR 1, zR 21, zI v2] (d, G, E) (some (zI x1)) (d, G, E) ∧ ∃ E4, zM zm_X9_beginWay [zR 20, zI v2, zI x1] (d, G, E) none (d, G, E4) ∧ Z zm_X9_isIn kz Q 19 [(0, zR 20), (1, zI v1), (3, zI 0)] [] (d, G, E4)) : Z zm_X9_isIn kz Q 0 [(0, zR 20), (1, zI v1), (2, zI v2)] [] (d, G, E) := by
  refine Z.aload_n (k := 0) dX9_isIn_0 rfl ?_
  refine Z.iload_n (k := 2) dX9_isIn_1 rfl ?_
  refine Z.aload_n (k := 0) dX9_isIn_2 rfl ?_
  refine Y.getR (o := some 1) 0 dX9_isIn_3 zl_X9_55 (rfl) (by decide) rfl (zX_0_6 hX).2.2 (zX_20_0 hX).1 ?_
  refine Z.aload_n (k := 0) dX9_isIn_6 rfl ?_
  refine Y.getR (o := some 21) 1 dX9_isIn_7 zl_X9_9 (rfl) (by decide) rfl (zX_0_6 hX).2.2 (zX_20_1 hX).1 ?_
  refine Z.iload_n (k := 2) dX9_isIn_10 rfl ?_
  obtain ⟨x1, m2, K⟩ := K
  refine Y.callV (g := zm_X8_after) (vs := [zR 21, zI v2]) (st := [zI v2, zR 20]) dX9_isIn_11 ⟨zg_X8_after.1, zg_X8_after.2.1, zg_X8_after.2.2, by decide⟩ ⟨zk_X9_96, zv_X8_after⟩ (ci := 8) (rfl) rfl ((zX_0_0 hX).2.2) rfl rfl (Nat.le_of_ble_eq_true rfl) m2 (Or.inl rfl) ?_
  show Z zm_X9_isIn kz Q 14 [(0, zR 20), (1, zI v1), (2, zI v2)] [zI x1, zI v2, zR 20] (d, G, E)
  obtain ⟨E4, m5, K⟩ := K
  refine Y.callV (g := zm_X9_beginWay) (vs := [zI v2, zI x1]) (st := []) dX9_isIn_14 ⟨zg_X9_beginWay.1, zg_X9_beginWay.2.1, zg_X9_beginWay.2.2, by decide⟩ ⟨zk_X9_111, zv_X9_beginWay⟩ (ci := 9) (rfl) rfl ((zX_0_6 hX).2.2) rfl rfl (Nat.le_of_ble_eq_true rfl) m5 (Or.inl rfl) ?_
  show Z zm_X9_isIn kz Q 17 [(0, zR 20), (1, zI v1), (2, zI v2)] [] (d, G, E4)
  refine Z.iconst (n := 0) dX9_isIn_17 ⟨by decide, by decide⟩ ?_
  refine Z.istore_n (ls' := [(3, zI 0), (0, zR 20), (1, zI v1), (2, zI v2)]) dX9_isIn_18 (by decide) rfl ?_
  refine Z.pick (ls' := [(0, zR 20), (1, zI v1), (3, zI 0)]) [1, 2, 0] rfl ?_
  exact K
set_option maxRecDepth 20000 in
theorem X9_isIn_19 {kz : Nat × Nat} {Q : Option zV → zH → Prop} {d : List Nat} {G : Nat → Int → Option Nat} {E : Nat → Int → Int} {v1 : Int} {v3 : Int} (hX : zK zXt d G) (K : ((1000000) ≤ v3 → Q (some (zI 1)) (d, G, E)) ∧ (¬ ((1000000) ≤ v3) → ∃ x2 E3, zM zm_X9_nextOnWay [zR 20] (d, G, E) (some (zI x2)) (d, G, E3) ∧ (x2 = (-1) → (x2 = (-1) → Q (some (zI 0)) (d, G, E3)) ∧ (¬ (x2 = (-1)) → Q (some (zI 1)) (d, G, E3))) ∧ (¬ (x2 = (-1)) → ((0 : Int) ≤ x2 ∧ x2 < 360) ∧ zin ((-1) - v1) ∧ ((E3 21 x2) ≠ ((-1) - v1) → zin (v3 + 1) ∧ Z zm_X9_isIn kz Q 19 [(0, zR 20), (1, zI v1), (3, zI ((v3 + 1)))] [] (d, G, E3)) ∧ (¬ ((E3 21 x2) ≠ ((-1) - v1)) → (x2 = (-1) → Q (some (zI 0)) (d, G, E3)) ∧ (¬ (x2 = (-1)) → Q (some (zI 1)) (d, G, E3)))))) : Z zm_X9_isIn kz Q 19 [(0, zR 20), (1, zI v1), (3, zI v3)] [] (d, G, E) := by
  refine Z.iload_n (k := 2) dX9_isIn_19 rfl ?_
  refine Z.ldc (n := 1000000) dX9_isIn_20 ⟨by decide, by decide⟩ zq_X9_86 ?_
  refine Z.icmp_ge 68 dX9_isIn_22 rfl ⟨fun c1 => ?_, fun c1 => ?_⟩
  · replace K := K.1 c1
    refine Z.iconst (n := 1) dX9_isIn_68 ⟨by decide, by decide⟩ ?_
    exact Z.iret (ty := .boolean) dX9_isIn_69 rfl rfl K
  · replace K := K.2 c1
    refine Z.aload_n (k := 0) dX9_isIn_25 rfl ?_
    obtain ⟨x2, E3, m4, K⟩ := K
    refine Y.callV (g := zm_X9_nextOnWay) (vs := []) (st := []) dX9_isIn_26 ⟨zg_X9_nextOnWay.1, zg_X9_nextOnWay.2.1, zg_X9_nextOnWay.2.2, by decide⟩ ⟨zk_X9_114, zv_X9_nextOnWay⟩ (ci := 9) (rfl) rfl ((zX_0_6 hX).2.2) rfl rfl (Nat.le_of_ble_eq_true rfl) m4 (Or.inl rfl) ?_
    show Z zm_X9_isIn kz Q 29 [(0, zR 20), (1, zI v1), (3, zI v3)] [zI x2] (d, G, E3)
    refine Z.istore (ls' := [(4, zI x2), (0, zR 20), (1, zI v1), (3, zI v3)]) dX9_isIn_29 (by decide) rfl ?_
    refine Z.iload (k := 0) dX9_isIn_31 rfl ?_
    refine Z.iconst (n := -1) dX9_isIn_33 ⟨by decide, by decide⟩ ?_
    refine Z.icmp_eq 50 dX9_isIn_34 rfl ⟨fun c6 => ?_, fun c6 => ?_⟩
    · replace K := K.1 c6
      refine Z.iload (k := 0) dX9_isIn_50 rfl ?_
      refine Z.iconst (n := -1) dX9_isIn_52 ⟨by decide, by decide⟩ ?_
      refine Z.icmp_eq 60 dX9_isIn_53 rfl ⟨fun c7 => ?_, fun c7 => ?_⟩
      · replace K := K.1 c7
        refine Z.iconst (n := 0) dX9_isIn_60 ⟨by decide, by decide⟩ ?_
        exact Z.iret (ty := .boolean) dX9_isIn_61 rfl rfl K
      · replace K := K.2 c7
        refine Z.iconst (n := 1) dX9_isIn_56 ⟨by decide, by decide⟩ ?_
        refine Z.goto 61 dX9_isIn_57 rfl ?_
        exact Z.iret (ty := .boolean) dX9_isIn_61 rfl rfl K
    · replace K := K.2 c6
      refine Z.aload_n (k := 1) dX9_isIn_37 rfl ?_
      refine Y.getR (o := some 21) 1 dX9_isIn_38 zl_X9_9 (rfl) (by decide) rfl (zX_0_6 hX).2.2 (zX_20_1 hX).1 ?_
      refine Z.iload (k := 0) dX9_isIn_41 rfl ?_
      obtain ⟨z8, K⟩ := K
      refine Y.iald dX9_isIn_43 (rfl) ((zX_20_1 hX).2.2) z8 ?_
      refine Z.iconst (n := -1) dX9_isIn_44 ⟨by decide, by decide⟩ ?_
      refine Z.iload_n (k := 2) dX9_isIn_45 rfl ?_
      obtain ⟨z9, K⟩ := K
      refine Z.isub dX9_isIn_46 z9 ?_
      refine Z.icmp_ne 62 dX9_isIn_47 rfl ⟨fun c10 => ?_, fun c10 => ?_⟩
      · replace K := K.1 c10
        obtain ⟨z11, K⟩ := K
        refine Z.iinc (k := 3) (ls' := [(3, zI ((v3 + 1))), (4, zI x2), (0, zR 20), (1, zI v1)]) dX9_isIn_62 rfl (by decide) z11 rfl ?_
        refine Z.goto 19 dX9_isIn_65 rfl ?_
        refine Z.pick (ls' := [(0, zR 20), (1, zI v1), (3, zI ((v3 + 1)))]) [2, 3, 0] rfl ?_
        exact K
      · replace K := K.2 c10
        refine Z.iload (k := 0) dX9_isIn_50 rfl ?_
        refine Z.iconst (n := -1) dX9_isIn_52 ⟨by decide, by decide⟩ ?_
        refine Z.icmp_eq 60 dX9_isIn_53 rfl ⟨fun c12 => ?_, fun c12 => ?_⟩
        · replace K := K.1 c12
          refine Z.iconst (n := 0) dX9_isIn_60 ⟨by decide, by decide⟩ ?_
          exact Z.iret (ty := .boolean) dX9_isIn_61 rfl rfl K
        · replace K := K.2 c12
          refine Z.iconst (n := 1) dX9_isIn_56 ⟨by decide, by decide⟩ ?_
          refine Z.goto 61 dX9_isIn_57 rfl ?_
          exact Z.iret (ty := .boolean) dX9_isIn_61 rfl rfl K
set_option maxRecDepth 20000 in
theorem X9_tell_0 {kz : Nat × Nat} {Q : Option zV → zH → Prop} {d : List Nat} {G : Nat → Int → Option Nat} {E : Nat → Int → Int} {v1 : Int} {v2 : Int} (hX : zK zXt d G) (K : (40 ≤ v1 → Q none (d, G, E)) ∧ (¬ (40 ≤ v1) → (40 ≤ (E 20 4) → Q none (d, G, E)) ∧ (¬ (40 ≤ (E 20 4)) → ((0 : Int) ≤ v1 ∧ v1 < 40) ∧ ∀ E4, E4 = zuE E 22 v1 v2 → ((0 : Int) ≤ (E4 20 4) ∧ (E4 20 4) < 40) ∧ ∀ E6, E6 = zuE E4 23 ((E4 20 4)) v1 → zin ((E6 20 4) + 1) ∧ ∀ E8, E8 = zuE E6 20 4 (((E6 20 4) + 1)) → Q none (d, G, E8)))) : Z zm_X9_tell kz Q 0 [(0, zR 20), (1, zI v1), (2, zI v2)] [] (d, G, E) := by
  refine Z.iload_n (k := 1) dX9_tell_0 rfl ?_
  refine Z.aload_n (k := 0) dX9_tell_1 rfl ?_
  refine Y.getR (o := some 22) 2 dX9_tell_2 zl_X9_15 (rfl) (by decide) rfl (zX_0_6 hX).2.2 (zX_20_2 hX).1 ?_
  refine Y.alen 40 40 dX9_tell_5 (rfl) ((zX_20_2 hX).2.2) rfl ⟨by decide, by decide⟩ ?_
  refine Z.icmp_ge 48 dX9_tell_6 rfl ⟨fun c1 => ?_, fun c1 => ?_⟩
  · replace K := K.1 c1
    exact Z.vret dX9_tell_48 rfl K
  · replace K := K.2 c1
    refine Z.aload_n (k := 0) dX9_tell_9 rfl ?_
    refine Y.getI 4 dX9_tell_10 zl_X9_21 (rfl) (by decide) rfl (zX_0_6 hX).2.2 ?_
    refine Z.aload_n (k := 0) dX9_tell_13 rfl ?_
    refine Y.getR (o := some 23) 3 dX9_tell_14 zl_X9_18 (rfl) (by decide) rfl (zX_0_6 hX).2.2 (zX_20_3 hX).1 ?_
    refine Y.alen 40 40 dX9_tell_17 (rfl) ((zX_20_3 hX).2.2) rfl ⟨by decide, by decide⟩ ?_
    refine Z.icmp_ge 48 dX9_tell_18 rfl ⟨fun c2 => ?_, fun c2 => ?_⟩
    · replace K := K.1 c2
      exact Z.vret dX9_tell_48 rfl K
    · replace K := K.2 c2
      refine Z.aload_n (k := 0) dX9_tell_21 rfl ?_
      refine Y.getR (o := some 22) 2 dX9_tell_22 zl_X9_15 (rfl) (by decide) rfl (zX_0_6 hX).2.2 (zX_20_2 hX).1 ?_
      refine Z.iload_n (k := 1) dX9_tell_25 rfl ?_
      refine Z.iload_n (k := 2) dX9_tell_26 rfl ?_
      obtain ⟨z3, K⟩ := K
      refine Y.iast dX9_tell_27 (rfl) ((zX_20_2 hX).2.2) z3 ?_
      generalize eE4 : zuE E 22 v1 v2 = E4
      replace K := K E4 eE4.symm
      refine Z.aload_n (k := 0) dX9_tell_28 rfl ?_
      refine Y.getR (o := some 23) 3 dX9_tell_29 zl_X9_18 (rfl) (by decide) rfl (zX_0_6 hX).2.2 (zX_20_3 hX).1 ?_
      refine Z.aload_n (k := 0) dX9_tell_32 rfl ?_
      refine Y.getI 4 dX9_tell_33 zl_X9_21 (rfl) (by decide) rfl (zX_0_6 hX).2.2 ?_
      refine Z.iload_n (k := 1) dX9_tell_36 rfl ?_
      obtain ⟨z5, K⟩ := K
      refine Y.iast dX9_tell_37 (rfl) ((zX_20_3 hX).2.2) z5 ?_
      generalize eE6 : zuE E4 23 ((E4 20 4)) v1 = E6
      replace K := K E6 eE6.symm
      refine Z.aload_n (k := 0) dX9_tell_38 rfl ?_
      refine Z.dup_i dX9_tell_39 (fun _ => rfl) ?_
      refine Y.getI 4 dX9_tell_40 zl_X9_21 (rfl) (by decide) rfl (zX_0_6 hX).2.2 ?_
      refine Z.iconst (n := 1) dX9_tell_43 ⟨by decide, by decide⟩ ?_
      obtain ⟨z7, K⟩ := K
      refine Z.iadd dX9_tell_44 z7 ?_
      refine Y.putI 4 dX9_tell_45 zw_X9_21 (fun q => by cases q) (rfl) rfl (zX_0_6 hX).2.2 (Or.inl rfl) ?_
      generalize eE8 : zuE E6 20 4 (((E6 20 4) + 1)) = E8
      replace K := K E8 eE8.symm
      exact Z.vret dX9_tell_48 rfl K
set_option maxRecDepth 20000 in
theorem X9_meet_0 {kz : Nat × Nat} {Q : Option zV → zH → Prop} {d : List Nat} {G : Nat → Int → Option Nat} {E : Nat → Int → Int} {v1 : Int} {v2 : Int} (hX : zK zXt d G) (K : ((0 : Int) ≤ v1 ∧ v1 < 360) ∧ ((0 : Int) ≤ v2 ∧ v2 < 360) ∧ ((E 21 v1) ≠ (E 21 v2) → ((0 : Int) ≤ v1 ∧ v1 < 360) ∧ (0 ≤ (E 21 v1) → Z zm_X9_meet kz Q 31 [(0, zR 20), (1, zI v1), (2, zI v2)] [zI 0] (d, G, E)) ∧ (¬ (0 ≤ (E 21 v1)) → Z zm_X9_meet kz Q 31 [(0, zR 20), (1, zI v1), (2, zI v2)] [zI 1] (d, G, E))) ∧ (¬ ((E 21 v1) ≠ (E 21 v2)) → Q (some (zI 1)) (d, G, E))) : Z zm_X9_meet kz Q 0 [(0, zR 20), (1, zI v1), (2, zI v2)] [] (d, G, E) := by
  refine Z.aload_n (k := 0) dX9_meet_0 rfl ?_
  refine Y.getR (o := some 21) 1 dX9_meet_1 zl_X9_9 (rfl) (by decide) rfl (zX_0_6 hX).2.2 (zX_20_1 hX).1 ?_
  refine Z.iload_n (k := 1) dX9_meet_4 rfl ?_
  obtain ⟨z1, K⟩ := K
  refine Y.iald dX9_meet_5 (rfl) ((zX_20_1 hX).2.2) z1 ?_
  refine Z.aload_n (k := 0) dX9_meet_6 rfl ?_
  refine Y.getR (o := some 21) 1 dX9_meet_7 zl_X9_9 (rfl) (by decide) rfl (zX_0_6 hX).2.2 (zX_20_1 hX).1 ?_
  refine Z.iload_n (k := 2) dX9_meet_10 rfl ?_
  obtain ⟨z2, K⟩ := K
  refine Y.iald dX9_meet_11 (rfl) ((zX_20_1 hX).2.2) z2 ?_
  refine Z.icmp_ne 17 dX9_meet_12 rfl ⟨fun c3 => ?_, fun c3 => ?_⟩
  · replace K := K.1 c3
    refine Z.aload_n (k := 0) dX9_meet_17 rfl ?_
    refine Y.getR (o := some 21) 1 dX9_meet_18 zl_X9_9 (rfl) (by decide) rfl (zX_0_6 hX).2.2 (zX_20_1 hX).1 ?_
    refine Z.iload_n (k := 1) dX9_meet_21 rfl ?_
    obtain ⟨z4, K⟩ := K
    refine Y.iald dX9_meet_22 (rfl) ((zX_20_1 hX).2.2) z4 ?_
    refine Z.if_ge 30 dX9_meet_23 rfl ⟨fun c5 => ?_, fun c5 => ?_⟩
    · replace K := K.1 c5
      refine Z.iconst (n := 0) dX9_meet_30 ⟨by decide, by decide⟩ ?_
      exact K
    · replace K := K.2 c5
      refine Z.iconst (n := 1) dX9_meet_26 ⟨by decide, by decide⟩ ?_
      refine Z.goto 31 dX9_meet_27 rfl ?_
      exact K
  · replace K := K.2 c3
    refine Z.iconst (n := 1) dX9_meet_15 ⟨by decide, by decide⟩ ?_
    exact Z.iret (ty := .boolean) dX9_meet_16 rfl rfl K
set_option maxRecDepth 20000 in
theorem X9_meet_31 {kz : Nat × Nat} {Q : Option zV → zH → Prop} {d : List Nat} {G : Nat → Int → Option Nat} {E : Nat → Int → Int} {v1 : Int} {v2 : Int} {s0 : Int} (hX : zK zXt d G) (K : (s0 = 0 → ((0 : Int) ≤ v2 ∧ v2 < 360) ∧ zin ((-1) - (E 21 v2)) ∧ (s0 = 0 → ∃ x5 E6, zM zm_X9_isIn [zR 20, zI (((-1) - (E 21 v2))), zI v1] (d, G, E) (some (zI x5)) (d, G, E6) ∧ (x5 = 0 → ∃ E10, zM zm_X9_tell [zR 20, zI (((-1) - (E 21 v2))), zI v1] (d, G, E6) none (d, G, E10) ∧ Q (some (zI 1)) (d, G, E10)) ∧ (¬ (x5 = 0) → Q (some (zI 0)) (d, G, E6))) ∧ (¬ (s0 = 0) → ∃ x13 E14, zM zm_X9_isIn [zR 20, zI (((-1) - (E 21 v2))), zI v2] (d, G, E) (some (zI x13)) (d, G, E14) ∧ (x13 = 0 → ∃ E18, zM zm_X9_tell [zR 20, zI (((-1) - (E 21 v2))), zI v2] (d, G, E14) none (d, G, E18) ∧ Q (some (zI 1)) (d, G, E18)) ∧ (¬ (x13 = 0) → Q (some (zI 0)) (d, G, E14)))) ∧ (¬ (s0 = 0) → ((0 : Int) ≤ v1 ∧ v1 < 360) ∧ zin ((-1) - (E 21 v1)) ∧ (s0 = 0 → ∃ x24 E25, zM zm_X9_isIn [zR 20, zI (((-1) - (E 21 v1))), zI v1] (d, G, E) (some (zI x24)) (d, G, E25) ∧ (x24 = 0 → ∃ E29, zM zm_X9_tell [zR 20, zI (((-1) - (E 21 v1))), zI v1] (d, G, E25) none (d, G, E29) ∧ Q (some (zI 1)) (d, G, E29)) ∧ (¬ (x24 = 0) → Q (some (zI 0)) (d, G, E25))) ∧ (¬ (s0 = 0) → ∃ x32 E33, zM zm_X9_isIn [zR 20, zI (((-1) - (E 21 v1))), zI v2] (d, G, E) (some (zI x32)) (d, G, E33) ∧ (x32 = 0 → ∃ E37, zM zm_X9_tell [zR 20, zI (((-1) - (E 21 v1))), zI v2] (d, G, E33) none (d, G, E37) ∧ Q (some (zI 1)) (d, G, E37)) ∧ (¬ (x32 = 0) → Q (some (zI 0)) (d, G, E33))))) : Z zm_X9_meet kz Q 31 [(0, zR 20), (1, zI v1), (2, zI v2)] [zI s0] (d, G, E) := by
  refine Z.istore_n (ls' := [(3, zI s0), (0, zR 20), (1, zI v1), (2, zI v2)]) dX9_meet_31 (by decide) rfl ?_
  refine Z.iconst (n := -1) dX9_meet_32 ⟨by decide, by decide⟩ ?_
  refine Z.aload_n (k := 1) dX9_meet_33 rfl ?_
  refine Y.getR (o := some 21) 1 dX9_meet_34 zl_X9_9 (rfl) (by decide) rfl (zX_0_6 hX).2.2 (zX_20_1 hX).1 ?_
  refine Z.iload_n (k := 0) dX9_meet_37 rfl ?_
  refine Z.if_eq 45 dX9_meet_38 rfl ⟨fun c1 => ?_, fun c1 => ?_⟩
  · replace K := K.1 c1
    refine Z.iload_n (k := 3) dX9_meet_45 rfl ?_
    obtain ⟨z2, K⟩ := K
    refine Y.iald dX9_meet_46 (rfl) ((zX_20_1 hX).2.2) z2 ?_
    obtain ⟨z3, K⟩ := K
    refine Z.isub dX9_meet_47 z3 ?_
    refine Z.istore (ls' := [(4, zI (((-1) - (E 21 v2)))), (3, zI s0), (0, zR 20), (1, zI v1), (2, zI v2)]) dX9_meet_48 (by decide) rfl ?_
    refine Z.iload_n (k := 1) dX9_meet_50 rfl ?_
    refine Z.if_eq 58 dX9_meet_51 rfl ⟨fun c4 => ?_, fun c4 => ?_⟩
    · replace K := K.1 c4
      refine Z.iload_n (k := 3) dX9_meet_58 rfl ?_
      refine Z.istore (ls' := [(5, zI v1), (4, zI (((-1) - (E 21 v2)))), (3, zI s0), (0, zR 20), (1, zI v1), (2, zI v2)]) dX9_meet_59 (by decide) rfl ?_
      refine Z.aload_n (k := 3) dX9_meet_61 rfl ?_
      refine Z.iload (k := 1) dX9_meet_62 rfl ?_
      refine Z.iload (k := 0) dX9_meet_64 rfl ?_
      obtain ⟨x5, E6, m7, K⟩ := K
      refine Y.callV (g := zm_X9_isIn) (vs := [zI (((-1) - (E 21 v2))), zI v1]) (st := []) dX9_meet_66 ⟨zg_X9_isIn.1, zg_X9_isIn.2.1, zg_X9_isIn.2.2, by decide⟩ ⟨zk_X9_104, zv_X9_isIn⟩ (ci := 9) (rfl) rfl ((zX_0_6 hX).2.2) rfl rfl (Nat.le_of_ble_eq_true rfl) m7 (Or.inl rfl) ?_
      show Z zm_X9_meet kz Q 69 [(5, zI v1), (4, zI (((-1) - (E 21 v2)))), (3, zI s0), (0, zR 20), (1, zI v1), (2, zI v2)] [zI x5] (d, G, E6)
      refine Z.if_eq 74 dX9_meet_69 rfl ⟨fun c9 => ?_, fun c9 => ?_⟩
      · replace K := K.1 c9
        refine Z.aload_n (k := 3) dX9_meet_74 rfl ?_
        refine Z.iload (k := 1) dX9_meet_75 rfl ?_
        refine Z.iload (k := 0) dX9_meet_77 rfl ?_
        obtain ⟨E10, m11, K⟩ := K
        refine Y.callV (g := zm_X9_tell) (vs := [zI (((-1) - (E 21 v2))), zI v1]) (st := []) dX9_meet_79 ⟨zg_X9_tell.1, zg_X9_tell.2.1, zg_X9_tell.2.2, by decide⟩ ⟨zk_X9_107, zv_X9_tell⟩ (ci := 9) (rfl) rfl ((zX_0_6 hX).2.2) rfl rfl (Nat.le_of_ble_eq_true rfl) m11 (Or.inl rfl) ?_
        show Z zm_X9_meet kz Q 82 [(5, zI v1), (4, zI (((-1) - (E 21 v2)))), (3, zI s0), (0, zR 20), (1, zI v1), (2, zI v2)] [] (d, G, E10)
        refine Z.iconst (n := 1) dX9_meet_82 ⟨by decide, by decide⟩ ?_
        exact Z.iret (ty := .boolean) dX9_meet_83 rfl rfl K
      · replace K := K.2 c9
        refine Z.iconst (n := 0) dX9_meet_72 ⟨by decide, by decide⟩ ?_
        exact Z.iret (ty := .boolean) dX9_meet_73 rfl rfl K
    · replace K := K.2 c4
      refine Z.iload_n (k := 4) dX9_meet_54 rfl ?_
      refine Z.goto 59 dX9_meet_55 rfl ?_
      refine Z.istore (ls' := [(5, zI v2), (4, zI (((-1) - (E 21 v2)))), (3, zI s0), (0, zR 20), (1, zI v1), (2, zI v2)]) dX9_meet_59 (by decide) rfl ?_
      refine Z.aload_n (k := 3) dX9_meet_61 rfl ?_
      refine Z.iload (k := 1) dX9_meet_62 rfl ?_
      refine Z.iload (k := 0) dX9_meet_64 rfl ?_
      obtain ⟨x13, E14, m15, K⟩ := K
      refine Y.callV (g := zm_X9_isIn) (vs := [zI (((-1) - (E 21 v2))), zI v2]) (st := []) dX9_meet_66 ⟨zg_X9_isIn.1, zg_X9_isIn.2.1, zg_X9_isIn.2.2, by decide⟩ ⟨zk_X9_104, zv_X9_isIn⟩ (ci := 9) (rfl) rfl ((zX_0_6 hX).2.2) rfl rfl (Nat.le_of_ble_eq_true rfl) m15 (Or.inl rfl) ?_
      show Z zm_X9_meet kz Q 69 [(5, zI v2), (4, zI (((-1) - (E 21 v2)))), (3, zI s0), (0, zR 20), (1, zI v1), (2, zI v2)] [zI x13] (d, G, E14)
      refine Z.if_eq 74 dX9_meet_69 rfl ⟨fun c17 => ?_, fun c17 => ?_⟩
      · replace K := K.1 c17
        refine Z.aload_n (k := 3) dX9_meet_74 rfl ?_
        refine Z.iload (k := 1) dX9_meet_75 rfl ?_
        refine Z.iload (k := 0) dX9_meet_77 rfl ?_
        obtain ⟨E18, m19, K⟩ := K
        refine Y.callV (g := zm_X9_tell) (vs := [zI (((-1) - (E 21 v2))), zI v2]) (st := []) dX9_meet_79 ⟨zg_X9_tell.1, zg_X9_tell.2.1, zg_X9_tell.2.2, by decide⟩ ⟨zk_X9_107, zv_X9_tell⟩ (ci := 9) (rfl) rfl ((zX_0_6 hX).2.2) rfl rfl (Nat.le_of_ble_eq_true rfl) m19 (Or.inl rfl) ?_
        show Z zm_X9_meet kz Q 82 [(5, zI v2), (4, zI (((-1) - (E 21 v2)))), (3, zI s0), (0, zR 20), (1, zI v1), (2, zI v2)] [] (d, G, E18)
        refine Z.iconst (n := 1) dX9_meet_82 ⟨by decide, by decide⟩ ?_
        exact Z.iret (ty := .boolean) dX9_meet_83 rfl rfl K
      · replace K := K.2 c17
        refine Z.iconst (n := 0) dX9_meet_72 ⟨by decide, by decide⟩ ?_
        exact Z.iret (ty := .boolean) dX9_meet_73 rfl rfl K
  · replace K := K.2 c1
    refine Z.iload_n (k := 2) dX9_meet_41 rfl ?_
    refine Z.goto 46 dX9_meet_42 rfl ?_
    obtain ⟨z21, K⟩ := K
    refine Y.iald dX9_meet_46 (rfl) ((zX_20_1 hX).2.2) z21 ?_
    obtain ⟨z22, K⟩ := K
    refine Z.isub dX9_meet_47 z22 ?_
    refine Z.istore (ls' := [(4, zI (((-1) - (E 21 v1)))), (3, zI s0), (0, zR 20), (1, zI v1), (2, zI v2)]) dX9_meet_48 (by decide) rfl ?_
    refine Z.iload_n (k := 1) dX9_meet_50 rfl ?_
    refine Z.if_eq 58 dX9_meet_51 rfl ⟨fun c23 => ?_, fun c23 => ?_⟩
    · replace K := K.1 c23
      refine Z.iload_n (k := 3) dX9_meet_58 rfl ?_
      refine Z.istore (ls' := [(5, zI v1), (4, zI (((-1) - (E 21 v1)))), (3, zI s0), (0, zR 20), (1, zI v1), (2, zI v2)]) dX9_meet_59 (by decide) rfl ?_
      refine Z.aload_n (k := 3) dX9_meet_61 rfl ?_
      refine Z.iload (k := 1) dX9_meet_62 rfl ?_
      refine Z.iload (k := 0) dX9_meet_64 rfl ?_
      obtain ⟨x24, E25, m26, K⟩ := K
      refine Y.callV (g := zm_X9_isIn) (vs := [zI (((-1) - (E 21 v1))), zI v1]) (st := []) dX9_meet_66 ⟨zg_X9_isIn.1, zg_X9_isIn.2.1, zg_X9_isIn.2.2, by decide⟩ ⟨zk_X9_104, zv_X9_isIn⟩ (ci := 9) (rfl) rfl ((zX_0_6 hX).2.2) rfl rfl (Nat.le_of_ble_eq_true rfl) m26 (Or.inl rfl) ?_
      show Z zm_X9_meet kz Q 69 [(5, zI v1), (4, zI (((-1) - (E 21 v1)))), (3, zI s0), (0, zR 20), (1, zI v1), (2, zI v2)] [zI x24] (d, G, E25)
      refine Z.if_eq 74 dX9_meet_69 rfl ⟨fun c28 => ?_, fun c28 => ?_⟩
      · replace K := K.1 c28
        refine Z.aload_n (k := 3) dX9_meet_74 rfl ?_
        refine Z.iload (k := 1) dX9_meet_75 rfl ?_
        refine Z.iload (k := 0) dX9_meet_77 rfl ?_
        obtain ⟨E29, m30, K⟩ := K
        refine Y.callV (g := zm_X9_tell) (vs := [zI (((-1) - (E 21 v1))), zI v1]) (st := []) dX9_meet_79 ⟨zg_X9_tell.1, zg_X9_tell.2.1, zg_X9_tell.2.2, by decide⟩ ⟨zk_X9_107, zv_X9_tell⟩ (ci := 9) (rfl) rfl ((zX_0_6 hX).2.2) rfl rfl (Nat.le_of_ble_eq_true rfl) m30 (Or.inl rfl) ?_
        show Z zm_X9_meet kz Q 82 [(5, zI v1), (4, zI (((-1) - (E 21 v1)))), (3, zI s0), (0, zR 20), (1, zI v1), (2, zI v2)] [] (d, G, E29)
        refine Z.iconst (n := 1) dX9_meet_82 ⟨by decide, by decide⟩ ?_
        exact Z.iret (ty := .boolean) dX9_meet_83 rfl rfl K
      · replace K := K.2 c28
        refine Z.iconst (n := 0) dX9_meet_72 ⟨by decide, by decide⟩ ?_
        exact Z.iret (ty := .boolean) dX9_meet_73 rfl rfl K
    · replace K := K.2 c23
      refine Z.iload_n (k := 4) dX9_meet_54 rfl ?_
      refine Z.goto 59 dX9_meet_55 rfl ?_
      refine Z.istore (ls' := [(5, zI v2), (4, zI (((-1) - (E 21 v1)))), (3, zI s0), (0, zR 20), (1, zI v1), (2, zI v2)]) dX9_meet_59 (by decide) rfl ?_
      refine Z.aload_n (k := 3) dX9_meet_61 rfl ?_
      refine Z.iload (k := 1) dX9_meet_62 rfl ?_
      refine Z.iload (k := 0) dX9_meet_64 rfl ?_
      obtain ⟨x32, E33, m34, K⟩ := K
      refine Y.callV (g := zm_X9_isIn) (vs := [zI (((-1) - (E 21 v1))), zI v2]) (st := []) dX9_meet_66 ⟨zg_X9_isIn.1, zg_X9_isIn.2.1, zg_X9_isIn.2.2, by decide⟩ ⟨zk_X9_104, zv_X9_isIn⟩ (ci := 9) (rfl) rfl ((zX_0_6 hX).2.2) rfl rfl (Nat.le_of_ble_eq_true rfl) m34 (Or.inl rfl) ?_
      show Z zm_X9_meet kz Q 69 [(5, zI v2), (4, zI (((-1) - (E 21 v1)))), (3, zI s0), (0, zR 20), (1, zI v1), (2, zI v2)] [zI x32] (d, G, E33)
      refine Z.if_eq 74 dX9_meet_69 rfl ⟨fun c36 => ?_, fun c36 => ?_⟩
      · replace K := K.1 c36
        refine Z.aload_n (k := 3) dX9_meet_74 rfl ?_
        refine Z.iload (k := 1) dX9_meet_75 rfl ?_
        refine Z.iload (k := 0) dX9_meet_77 rfl ?_
        obtain ⟨E37, m38, K⟩ := K
        refine Y.callV (g := zm_X9_tell) (vs := [zI (((-1) - (E 21 v1))), zI v2]) (st := []) dX9_meet_79 ⟨zg_X9_tell.1, zg_X9_tell.2.1, zg_X9_tell.2.2, by decide⟩ ⟨zk_X9_107, zv_X9_tell⟩ (ci := 9) (rfl) rfl ((zX_0_6 hX).2.2) rfl rfl (Nat.le_of_ble_eq_true rfl) m38 (Or.inl rfl) ?_
        show Z zm_X9_meet kz Q 82 [(5, zI v2), (4, zI (((-1) - (E 21 v1)))), (3, zI s0), (0, zR 20), (1, zI v1), (2, zI v2)] [] (d, G, E37)
        refine Z.iconst (n := 1) dX9_meet_82 ⟨by decide, by decide⟩ ?_
        exact Z.iret (ty := .boolean) dX9_meet_83 rfl rfl K
      · replace K := K.2 c36
        refine Z.iconst (n := 0) dX9_meet_72 ⟨by decide, by decide⟩ ?_
        exact Z.iret (ty := .boolean) dX9_meet_73 rfl rfl K
set_option maxRecDepth 20000 in
theorem X9_widen_0 {kz : Nat × Nat} {Q : Option zV → zH → Prop} {d : List Nat} {G : Nat → Int → Option Nat} {E : Nat → Int → Int} {v1 : Int} {v2 : Int} (hX : zK zXt d G) (K : ∃ E1, zM zm_X9_forget [zR 20, zI 0] (d, G, E) none (d, G, E1) ∧ Z zm_X9_widen kz Q 19 [(0, zR 20), (3, zI v1), (4, zI v2), (5, zI 1), (6, zI 0), (7, zI 0)] [] (d, G, E1)) : Z zm_X9_widen kz Q 0 [(0, zR 20), (1, zI v1), (2, zI v2)] [] (d, G, E) := by
  refine Z.aload_n (k := 0) dX9_widen_0 rfl ?_
  refine Z.iconst (n := 0) dX9_widen_1 ⟨by decide, by decide⟩ ?_
  obtain ⟨E1, m2, K⟩ := K
  refine Y.callV (g := zm_X9_forget) (vs := [zI 0]) (st := []) dX9_widen_2 ⟨zg_X9_forget.1, zg_X9_forget.2.1, zg_X9_forget.2.2, by decide⟩ ⟨zk_X9_82, zv_X9_forget⟩ (ci := 9) (rfl) rfl ((zX_0_6 hX).2.2) rfl rfl (Nat.le_of_ble_eq_true rfl) m2 (Or.inl rfl) ?_
  show Z zm_X9_widen kz Q 5 [(0, zR 20), (1, zI v1), (2, zI v2)] [] (d, G, E1)
  refine Z.iload_n (k := 1) dX9_widen_5 rfl ?_
  refine Z.istore_n (ls' := [(3, zI v1), (0, zR 20), (1, zI v1), (2, zI v2)]) dX9_widen_6 (by decide) rfl ?_
  refine Z.iload_n (k := 3) dX9_widen_7 rfl ?_
  refine Z.istore (ls' := [(4, zI v2), (3, zI v1), (0, zR 20), (1, zI v1), (2, zI v2)]) dX9_widen_8 (by decide) rfl ?_
  refine Z.iconst (n := 1) dX9_widen_10 ⟨by decide, by decide⟩ ?_
  refine Z.istore (ls' := [(5, zI 1), (4, zI v2), (3, zI v1), (0, zR 20), (1, zI v1), (2, zI v2)]) dX9_widen_11 (by decide) rfl ?_
  refine Z.iconst (n := 0) dX9_widen_13 ⟨by decide, by decide⟩ ?_
  refine Z.istore (ls' := [(6, zI 0), (5, zI 1), (4, zI v2), (3, zI v1), (0, zR 20), (1, zI v1), (2, zI v2)]) dX9_widen_14 (by decide) rfl ?_
  refine Z.iconst (n := 0) dX9_widen_16 ⟨by decide, by decide⟩ ?_
  refine Z.istore (ls' := [(7, zI 0), (6, zI 0), (5, zI 1), (4, zI v2), (3, zI v1), (0, zR 20), (1, zI v1), (2, zI v2)]) dX9_widen_17 (by decide) rfl ?_
  refine Z.pick (ls' := [(0, zR 20), (3, zI v1), (4, zI v2), (5, zI 1), (6, zI 0), (7, zI 0)]) [5, 4, 3, 2, 1, 0] rfl ?_
  exact K
set_option maxRecDepth 20000 in
theorem X9_widen_19 {kz : Nat × Nat} {Q : Option zV → zH → Prop} {d : List Nat} {G : Nat → Int → Option Nat} {E : Nat → Int → Int} {v3 : Int} {v4 : Int} {v5 : Int} {v6 : Int} {v7 : Int} (hX : zK zXt d G) (K : ((1000000) ≤ v7 → Q (some (zI 0)) (d, G, E)) ∧ (¬ ((1000000) ≤ v7) → (v5 ≠ 0 → ∃ x3, zM zm_X9_resting [zR 20, zI v3] (d, G, E) (some (zI x3)) (d, G, E) ∧ ∃ x6, zM zm_X9_resting [zR 20, zI v4] (d, G, E) (some (zI x6)) (d, G, E) ∧ ((0 : Int) ≤ x3 ∧ x3 < 360) ∧ ((E 21 x3) < 0 → Z zm_X9_widen kz Q 149 [(0, zR 20), (3, zI v3), (4, zI v4), (5, zI v5), (6, zI v6), (7, zI v7), (8, zI x3), (9, zI x6), (10, zI ((E 21 x3)))] [] (d, G, E)) ∧ (¬ ((E 21 x3) < 0) → (x3 ≠ v3 → Z zm_X9_widen kz Q 149 [(0, zR 20), (3, zI v3), (4, zI v4), (5, zI v5), (6, zI v6), (7, zI v7), (8, zI x3), (9, zI x6), (10, zI ((E 21 x3)))] [] (d, G, E)) ∧ (¬ (x3 ≠ v3) → (x6 ≠ v4 → Z zm_X9_widen kz Q 149 [(0, zR 20), (3, zI v3), (4, zI v4), (5, zI v5), (6, zI v6), (7, zI v7), (8, zI x3), (9, zI x6), (10, zI ((E 21 x3)))] [] (d, G, E)) ∧ (¬ (x6 ≠ v4) → ((0 : Int) ≤ x6 ∧ x6 < 360) ∧ ((E 21 x3) ≠ (E 21 x6) → Z zm_X9_widen kz Q 149 [(0, zR 20), (3, zI v3), (4, zI v4), (5, zI v5), (6, zI v6), (7, zI v7), (8, zI x3), (9, zI x6), (10, zI ((E 21 x3)))] [] (d, G, E)) ∧ (¬ ((E 21 x3) ≠ (E 21 x6)) → ∃ x15, zM zm_X8_partsOf [zR 1, zI ((E 21 x3))] (d, G, E) (some (zI x15)) (d, G, E) ∧ zin (x15 - 1) ∧ zin (v5 + (x15 - 1)) ∧ zin (v3 + 1) ∧ zin (v4 + 1) ∧ zin (v7 + 1) ∧ Z zm_X9_widen kz Q 19 [(0, zR 20), (3, zI ((v3 + 1))), (4, zI ((v4 + 1))), (5, zI ((v5 + (x15 - 1)))), (6, zI v6), (7, zI ((v7 + 1)))] [] (d, G, E)))))) ∧ (¬ (v5 ≠ 0) → (v6 ≠ 0 → zin (v6 + (-1)) ∧ ((0 : Int) ≤ (v6 + (-1)) ∧ (v6 + (-1)) < 128) ∧ ((0 : Int) ≤ (v6 + (-1)) ∧ (v6 + (-1)) < 128) ∧ ((0 : Int) ≤ (v6 + (-1)) ∧ (v6 + (-1)) < 128) ∧ zin (v7 + 1) ∧ Z zm_X9_widen kz Q 19 [(0, zR 20), (3, zI ((E 24 (v6 + (-1))))), (4, zI ((E 25 (v6 + (-1))))), (5, zI ((E 26 (v6 + (-1))))), (6, zI ((v6 + (-1)))), (7, zI ((v7 + 1)))] [] (d, G, E)) ∧ (¬ (v6 ≠ 0) → Q (some (zI 1)) (d, G, E))))) : Z zm_X9_widen kz Q 19 [(0, zR 20), (3, zI v3), (4, zI v4), (5, zI v5), (6, zI v6), (7, zI v7)] [] (d, G, E) := by
  refine Z.iload (k := 5) dX9_widen_19 rfl ?_
  refine Z.ldc (n := 1000000) dX9_widen_21 ⟨by decide, by decide⟩ zq_X9_86 ?_
  refine Z.icmp_ge 309 dX9_widen_23 rfl ⟨fun c1 => ?_, fun c1 => ?_⟩
  · replace K := K.1 c1
    refine Z.iconst (n := 0) dX9_widen_309 ⟨by decide, by decide⟩ ?_
    exact Z.iret (ty := .boolean) dX9_widen_310 rfl rfl K
  · replace K := K.2 c1
    refine Z.iload (k := 3) dX9_widen_26 rfl ?_
    refine Z.if_ne 70 dX9_widen_28 rfl ⟨fun c2 => ?_, fun c2 => ?_⟩
    · replace K := K.1 c2
      refine Z.aload_n (k := 0) dX9_widen_70 rfl ?_
      refine Z.iload_n (k := 1) dX9_widen_71 rfl ?_
      obtain ⟨x3, m4, K⟩ := K
      refine Y.callV (g := zm_X9_resting) (vs := [zI v3]) (st := []) dX9_widen_72 ⟨zg_X9_resting.1, zg_X9_resting.2.1, zg_X9_resting.2.2, by decide⟩ ⟨zk_X9_87, zv_X9_resting⟩ (ci := 9) (rfl) rfl ((zX_0_6 hX).2.2) rfl rfl (Nat.le_of_ble_eq_true rfl) m4 (Or.inl rfl) ?_
      show Z zm_X9_widen kz Q 75 [(0, zR 20), (3, zI v3), (4, zI v4), (5, zI v5), (6, zI v6), (7, zI v7)] [zI x3] (d, G, E)
      refine Z.istore (ls' := [(8, zI x3), (0, zR 20), (3, zI v3), (4, zI v4), (5, zI v5), (6, zI v6), (7, zI v7)]) dX9_widen_75 (by decide) rfl ?_
      refine Z.aload_n (k := 1) dX9_widen_77 rfl ?_
      refine Z.iload (k := 3) dX9_widen_78 rfl ?_
      obtain ⟨x6, m7, K⟩ := K
      refine Y.callV (g := zm_X9_resting) (vs := [zI v4]) (st := []) dX9_widen_80 ⟨zg_X9_resting.1, zg_X9_resting.2.1, zg_X9_resting.2.2, by decide⟩ ⟨zk_X9_87, zv_X9_resting⟩ (ci := 9) (rfl) rfl ((zX_0_6 hX).2.2) rfl rfl (Nat.le_of_ble_eq_true rfl) m7 (Or.inl rfl) ?_
      show Z zm_X9_widen kz Q 83 [(8, zI x3), (0, zR 20), (3, zI v3), (4, zI v4), (5, zI v5), (6, zI v6), (7, zI v7)] [zI x6] (d, G, E)
      refine Z.istore (ls' := [(9, zI x6), (8, zI x3), (0, zR 20), (3, zI v3), (4, zI v4), (5, zI v5), (6, zI v6), (7, zI v7)]) dX9_widen_83 (by decide) rfl ?_
      refine Z.aload_n (k := 2) dX9_widen_85 rfl ?_
      refine Y.getR (o := some 21) 1 dX9_widen_86 zl_X9_9 (rfl) (by decide) rfl (zX_0_6 hX).2.2 (zX_20_1 hX).1 ?_
      refine Z.iload (k := 1) dX9_widen_89 rfl ?_
      obtain ⟨z9, K⟩ := K
      refine Y.iald dX9_widen_91 (rfl) ((zX_20_1 hX).2.2) z9 ?_
      refine Z.istore (ls' := [(10, zI ((E 21 x3))), (9, zI x6), (8, zI x3), (0, zR 20), (3, zI v3), (4, zI v4), (5, zI v5), (6, zI v6), (7, zI v7)]) dX9_widen_92 (by decide) rfl ?_
      refine Z.iload (k := 0) dX9_widen_94 rfl ?_
      refine Z.if_lt 149 dX9_widen_96 rfl ⟨fun c10 => ?_, fun c10 => ?_⟩
      · replace K := K.1 c10
        refine Z.pick (ls' := [(0, zR 20), (3, zI v3), (4, zI v4), (5, zI v5), (6, zI v6), (7, zI v7), (8, zI x3), (9, zI x6), (10, zI ((E 21 x3)))]) [3, 4, 5, 6, 7, 8, 2, 1, 0] rfl ?_
        exact K
      · replace K := K.2 c10
        refine Z.iload (k := 2) dX9_widen_99 rfl ?_
        refine Z.iload_n (k := 4) dX9_widen_101 rfl ?_
        refine Z.icmp_ne 149 dX9_widen_102 rfl ⟨fun c11 => ?_, fun c11 => ?_⟩
        · replace K := K.1 c11
          refine Z.pick (ls' := [(0, zR 20), (3, zI v3), (4, zI v4), (5, zI v5), (6, zI v6), (7, zI v7), (8, zI x3), (9, zI x6), (10, zI ((E 21 x3)))]) [3, 4, 5, 6, 7, 8, 2, 1, 0] rfl ?_
          exact K
        · replace K := K.2 c11
          refine Z.iload (k := 1) dX9_widen_105 rfl ?_
          refine Z.iload (k := 5) dX9_widen_107 rfl ?_
          refine Z.icmp_ne 149 dX9_widen_109 rfl ⟨fun c12 => ?_, fun c12 => ?_⟩
          · replace K := K.1 c12
            refine Z.pick (ls' := [(0, zR 20), (3, zI v3), (4, zI v4), (5, zI v5), (6, zI v6), (7, zI v7), (8, zI x3), (9, zI x6), (10, zI ((E 21 x3)))]) [3, 4, 5, 6, 7, 8, 2, 1, 0] rfl ?_
            exact K
          · replace K := K.2 c12
            refine Z.iload (k := 0) dX9_widen_112 rfl ?_
            refine Z.aload_n (k := 3) dX9_widen_114 rfl ?_
            refine Y.getR (o := some 21) 1 dX9_widen_115 zl_X9_9 (rfl) (by decide) rfl (zX_0_6 hX).2.2 (zX_20_1 hX).1 ?_
            refine Z.iload (k := 1) dX9_widen_118 rfl ?_
            obtain ⟨z13, K⟩ := K
            refine Y.iald dX9_widen_120 (rfl) ((zX_20_1 hX).2.2) z13 ?_
            refine Z.icmp_ne 149 dX9_widen_121 rfl ⟨fun c14 => ?_, fun c14 => ?_⟩
            · replace K := K.1 c14
              refine Z.pick (ls' := [(0, zR 20), (3, zI v3), (4, zI v4), (5, zI v5), (6, zI v6), (7, zI v7), (8, zI x3), (9, zI x6), (10, zI ((E 21 x3)))]) [3, 4, 5, 6, 7, 8, 2, 1, 0] rfl ?_
              exact K
            · replace K := K.2 c14
              refine Z.iload (k := 6) dX9_widen_124 rfl ?_
              refine Z.aload_n (k := 3) dX9_widen_126 rfl ?_
              refine Y.getR (o := some 1) 0 dX9_widen_127 zl_X9_55 (rfl) (by decide) rfl (zX_0_6 hX).2.2 (zX_20_0 hX).1 ?_
              refine Z.iload (k := 0) dX9_widen_130 rfl ?_
              obtain ⟨x15, m16, K⟩ := K
              refine Y.callV (g := zm_X8_partsOf) (vs := [zI ((E 21 x3))]) (st := [zI v5]) dX9_widen_132 ⟨zg_X8_partsOf.1, zg_X8_partsOf.2.1, zg_X8_partsOf.2.2, by decide⟩ ⟨zk_X9_91, zv_X8_partsOf⟩ (ci := 8) (rfl) rfl ((zX_0_0 hX).2.2) rfl rfl (Nat.le_of_ble_eq_true rfl) m16 (Or.inl rfl) ?_
              show Z zm_X9_widen kz Q 135 [(10, zI ((E 21 x3))), (9, zI x6), (8, zI x3), (0, zR 20), (3, zI v3), (4, zI v4), (5, zI v5), (6, zI v6), (7, zI v7)] [zI x15, zI v5] (d, G, E)
              refine Z.iconst (n := 1) dX9_widen_135 ⟨by decide, by decide⟩ ?_
              obtain ⟨z18, K⟩ := K
              refine Z.isub dX9_widen_136 z18 ?_
              obtain ⟨z19, K⟩ := K
              refine Z.iadd dX9_widen_137 z19 ?_
              refine Z.istore (ls' := [(5, zI ((v5 + (x15 - 1)))), (10, zI ((E 21 x3))), (9, zI x6), (8, zI x3), (0, zR 20), (3, zI v3), (4, zI v4), (6, zI v6), (7, zI v7)]) dX9_widen_138 (by decide) rfl ?_
              obtain ⟨z20, K⟩ := K
              refine Z.iinc (k := 5) (ls' := [(3, zI ((v3 + 1))), (5, zI ((v5 + (x15 - 1)))), (10, zI ((E 21 x3))), (9, zI x6), (8, zI x3), (0, zR 20), (4, zI v4), (6, zI v6), (7, zI v7)]) dX9_widen_140 rfl (by decide) z20 rfl ?_
              obtain ⟨z21, K⟩ := K
              refine Z.iinc (k := 6) (ls' := [(4, zI ((v4 + 1))), (3, zI ((v3 + 1))), (5, zI ((v5 + (x15 - 1)))), (10, zI ((E 21 x3))), (9, zI x6), (8, zI x3), (0, zR 20), (6, zI v6), (7, zI v7)]) dX9_widen_143 rfl (by decide) z21 rfl ?_
              refine Z.goto 303 dX9_widen_146 rfl ?_
              obtain ⟨z22, K⟩ := K
              refine Z.iinc (k := 8) (ls' := [(7, zI ((v7 + 1))), (4, zI ((v4 + 1))), (3, zI ((v3 + 1))), (5, zI ((v5 + (x15 - 1)))), (10, zI ((E 21 x3))), (9, zI x6), (8, zI x3), (0, zR 20), (6, zI v6)]) dX9_widen_303 rfl (by decide) z22 rfl ?_
              refine Z.goto 19 dX9_widen_306 rfl ?_
              refine Z.pick (ls' := [(0, zR 20), (3, zI ((v3 + 1))), (4, zI ((v4 + 1))), (5, zI ((v5 + (x15 - 1)))), (6, zI v6), (7, zI ((v7 + 1)))]) [7, 2, 1, 3, 8, 0] rfl ?_
              exact K
    · replace K := K.2 c2
      refine Z.iload (k := 4) dX9_widen_31 rfl ?_
      refine Z.if_ne 38 dX9_widen_33 rfl ⟨fun c23 => ?_, fun c23 => ?_⟩
      · replace K := K.1 c23
        obtain ⟨z24, K⟩ := K
        refine Z.iinc (k := 4) (ls' := [(6, zI ((v6 + (-1)))), (0, zR 20), (3, zI v3), (4, zI v4), (5, zI v5), (7, zI v7)]) dX9_widen_38 rfl (by decide) z24 rfl ?_
        refine Z.aload_n (k := 1) dX9_widen_41 rfl ?_
        refine Y.getR (o := some 24) 5 dX9_widen_42 zl_X9_25 (rfl) (by decide) rfl (zX_0_6 hX).2.2 (zX_20_5 hX).1 ?_
        refine Z.iload (k := 0) dX9_widen_45 rfl ?_
        obtain ⟨z25, K⟩ := K
        refine Y.iald dX9_widen_47 (rfl) ((zX_20_5 hX).2.2) z25 ?_
        refine Z.istore_n (ls' := [(3, zI ((E 24 (v6 + (-1))))), (6, zI ((v6 + (-1)))), (0, zR 20), (4, zI v4), (5, zI v5), (7, zI v7)]) dX9_widen_48 (by decide) rfl ?_
        refine Z.aload_n (k := 2) dX9_widen_49 rfl ?_
        refine Y.getR (o := some 25) 6 dX9_widen_50 zl_X9_28 (rfl) (by decide) rfl (zX_0_6 hX).2.2 (zX_20_6 hX).1 ?_
        refine Z.iload (k := 1) dX9_widen_53 rfl ?_
        obtain ⟨z26, K⟩ := K
        refine Y.iald dX9_widen_55 (rfl) ((zX_20_6 hX).2.2) z26 ?_
        refine Z.istore (ls' := [(4, zI ((E 25 (v6 + (-1))))), (3, zI ((E 24 (v6 + (-1))))), (6, zI ((v6 + (-1)))), (0, zR 20), (5, zI v5), (7, zI v7)]) dX9_widen_56 (by decide) rfl ?_
        refine Z.aload_n (k := 3) dX9_widen_58 rfl ?_
        refine Y.getR (o := some 26) 7 dX9_widen_59 zl_X9_31 (rfl) (by decide) rfl (zX_0_6 hX).2.2 (zX_20_7 hX).1 ?_
        refine Z.iload (k := 2) dX9_widen_62 rfl ?_
        obtain ⟨z27, K⟩ := K
        refine Y.iald dX9_widen_64 (rfl) ((zX_20_7 hX).2.2) z27 ?_
        refine Z.istore (ls' := [(5, zI ((E 26 (v6 + (-1))))), (4, zI ((E 25 (v6 + (-1))))), (3, zI ((E 24 (v6 + (-1))))), (6, zI ((v6 + (-1)))), (0, zR 20), (7, zI v7)]) dX9_widen_65 (by decide) rfl ?_
        refine Z.goto 303 dX9_widen_67 rfl ?_
        obtain ⟨z28, K⟩ := K
        refine Z.iinc (k := 5) (ls' := [(7, zI ((v7 + 1))), (5, zI ((E 26 (v6 + (-1))))), (4, zI ((E 25 (v6 + (-1))))), (3, zI ((E 24 (v6 + (-1))))), (6, zI ((v6 + (-1)))), (0, zR 20)]) dX9_widen_303 rfl (by decide) z28 rfl ?_
        refine Z.goto 19 dX9_widen_306 rfl ?_
        refine Z.pick (ls' := [(0, zR 20), (3, zI ((E 24 (v6 + (-1))))), (4, zI ((E 25 (v6 + (-1))))), (5, zI ((E 26 (v6 + (-1))))), (6, zI ((v6 + (-1)))), (7, zI ((v7 + 1)))]) [5, 3, 2, 1, 4, 0] rfl ?_
        exact K
      · replace K := K.2 c23
        refine Z.iconst (n := 1) dX9_widen_36 ⟨by decide, by decide⟩ ?_
        exact Z.iret (ty := .boolean) dX9_widen_37 rfl rfl K
set_option maxRecDepth 20000 in
theorem X9_widen_149 {kz : Nat × Nat} {Q : Option zV → zH → Prop} {d : List Nat} {G : Nat → Int → Option Nat} {E : Nat → Int → Int} {v3 : Int} {v4 : Int} {v5 : Int} {v6 : Int} {v7 : Int} {v8 : Int} {v9 : Int} {v10 : Int} (hX : zK zXt d G) (K : (v10 < 0 → ∃ x2 E3, zM zm_X9_meet [zR 20, zI v8, zI v9] (d, G, E) (some (zI x2)) (d, G, E3) ∧ (x2 ≠ 0 → ∃ x7, zM zm_X8_after [zR 1, zR 21, zI v3] (d, G, E3) (some (zI x7)) (d, G, E3) ∧ ∃ x10, zM zm_X8_after [zR 1, zR 21, zI v4] (d, G, E3) (some (zI x10)) (d, G, E3) ∧ zin (v5 + (-1)) ∧ zin (v7 + 1) ∧ Z zm_X9_widen kz Q 19 [(0, zR 20), (3, zI x7), (4, zI x10), (5, zI ((v5 + (-1)))), (6, zI v6), (7, zI ((v7 + 1)))] [] (d, G, E3)) ∧ (¬ (x2 ≠ 0) → Q (some (zI 0)) (d, G, E3))) ∧ (¬ (v10 < 0) → ((0 : Int) ≤ v9 ∧ v9 < 360) ∧ ((E 21 v9) < 0 → ∃ x17 E18, zM zm_X9_meet [zR 20, zI v8, zI v9] (d, G, E) (some (zI x17)) (d, G, E18) ∧ (x17 ≠ 0 → ∃ x22, zM zm_X8_after [zR 1, zR 21, zI v3] (d, G, E18) (some (zI x22)) (d, G, E18) ∧ ∃ x25, zM zm_X8_after [zR 1, zR 21, zI v4] (d, G, E18) (some (zI x25)) (d, G, E18) ∧ zin (v5 + (-1)) ∧ zin (v7 + 1) ∧ Z zm_X9_widen kz Q 19 [(0, zR 20), (3, zI x22), (4, zI x25), (5, zI ((v5 + (-1)))), (6, zI v6), (7, zI ((v7 + 1)))] [] (d, G, E18)) ∧ (¬ (x17 ≠ 0) → Q (some (zI 0)) (d, G, E18))) ∧ (¬ ((E 21 v9) < 0) → (v8 = v9 → ∃ x31 E32, zM zm_X9_meet [zR 20, zI v8, zI v9] (d, G, E) (some (zI x31)) (d, G, E32) ∧ (x31 ≠ 0 → ∃ x36, zM zm_X8_after [zR 1, zR 21, zI v3] (d, G, E32) (some (zI x36)) (d, G, E32) ∧ ∃ x39, zM zm_X8_after [zR 1, zR 21, zI v4] (d, G, E32) (some (zI x39)) (d, G, E32) ∧ zin (v5 + (-1)) ∧ zin (v7 + 1) ∧ Z zm_X9_widen kz Q 19 [(0, zR 20), (3, zI x36), (4, zI x39), (5, zI ((v5 + (-1)))), (6, zI v6), (7, zI ((v7 + 1)))] [] (d, G, E32)) ∧ (¬ (x31 ≠ 0) → Q (some (zI 0)) (d, G, E32))) ∧ (¬ (v8 = v9) → ((0 : Int) ≤ v9 ∧ v9 < 360) ∧ (v10 ≠ (E 21 v9) → Q (some (zI 0)) (d, G, E)) ∧ (¬ (v10 ≠ (E 21 v9)) → (v6 < 128 → ∃ x47, zM zm_X8_after [zR 1, zR 21, zI v3] (d, G, E) (some (zI x47)) (d, G, E) ∧ ((0 : Int) ≤ v6 ∧ v6 < 128) ∧ ∀ E51, E51 = zuE E 24 v6 x47 → ∃ x52, zM zm_X8_after [zR 1, zR 21, zI v4] (d, G, E51) (some (zI x52)) (d, G, E51) ∧ ((0 : Int) ≤ v6 ∧ v6 < 128) ∧ ∀ E56, E56 = zuE E51 25 v6 x52 → zin (v5 - 1) ∧ ((0 : Int) ≤ v6 ∧ v6 < 128) ∧ ∀ E59, E59 = zuE E56 26 v6 ((v5 - 1)) → zin (v6 + 1) ∧ zin (v7 + 1) ∧ Z zm_X9_widen kz Q 19 [(0, zR 20), (3, zI v8), (4, zI v9), (5, zI 1), (6, zI ((v6 + 1))), (7, zI ((v7 + 1)))] [] (d, G, E59)) ∧ (¬ (v6 < 128) → Q (some (zI 0)) (d, G, E))))))) : Z zm_X9_widen kz Q 149 [(0, zR 20), (3, zI v3), (4, zI v4), (5, zI v5), (6, zI v6), (7, zI v7), (8, zI v8), (9, zI v9), (10, zI v10)] [] (d, G, E) := by
  refine Z.iload (k := 8) dX9_widen_149 rfl ?_
  refine Z.if_lt 259 dX9_widen_151 rfl ⟨fun c1 => ?_, fun c1 => ?_⟩
  · replace K := K.1 c1
    refine Z.aload_n (k := 0) dX9_widen_259 rfl ?_
    refine Z.iload (k := 6) dX9_widen_260 rfl ?_
    refine Z.iload (k := 7) dX9_widen_262 rfl ?_
    obtain ⟨x2, E3, m4, K⟩ := K
    refine Y.callV (g := zm_X9_meet) (vs := [zI v8, zI v9]) (st := []) dX9_widen_264 ⟨zg_X9_meet.1, zg_X9_meet.2.1, zg_X9_meet.2.2, by decide⟩ ⟨zk_X9_100, zv_X9_meet⟩ (ci := 9) (rfl) rfl ((zX_0_6 hX).2.2) rfl rfl (Nat.le_of_ble_eq_true rfl) m4 (Or.inl rfl) ?_
    show Z zm_X9_widen kz Q 267 [(0, zR 20), (3, zI v3), (4, zI v4), (5, zI v5), (6, zI v6), (7, zI v7), (8, zI v8), (9, zI v9), (10, zI v10)] [zI x2] (d, G, E3)
    refine Z.if_ne 272 dX9_widen_267 rfl ⟨fun c6 => ?_, fun c6 => ?_⟩
    · replace K := K.1 c6
      refine Z.aload_n (k := 0) dX9_widen_272 rfl ?_
      refine Y.getR (o := some 1) 0 dX9_widen_273 zl_X9_55 (rfl) (by decide) rfl (zX_0_6 hX).2.2 (zX_20_0 hX).1 ?_
      refine Z.aload_n (k := 0) dX9_widen_276 rfl ?_
      refine Y.getR (o := some 21) 1 dX9_widen_277 zl_X9_9 (rfl) (by decide) rfl (zX_0_6 hX).2.2 (zX_20_1 hX).1 ?_
      refine Z.iload_n (k := 1) dX9_widen_280 rfl ?_
      obtain ⟨x7, m8, K⟩ := K
      refine Y.callV (g := zm_X8_after) (vs := [zR 21, zI v3]) (st := []) dX9_widen_281 ⟨zg_X8_after.1, zg_X8_after.2.1, zg_X8_after.2.2, by decide⟩ ⟨zk_X9_96, zv_X8_after⟩ (ci := 8) (rfl) rfl ((zX_0_0 hX).2.2) rfl rfl (Nat.le_of_ble_eq_true rfl) m8 (Or.inl rfl) ?_
      show Z zm_X9_widen kz Q 284 [(0, zR 20), (3, zI v3), (4, zI v4), (5, zI v5), (6, zI v6), (7, zI v7), (8, zI v8), (9, zI v9), (10, zI v10)] [zI x7] (d, G, E3)
      refine Z.istore_n (ls' := [(3, zI x7), (0, zR 20), (4, zI v4), (5, zI v5), (6, zI v6), (7, zI v7), (8, zI v8), (9, zI v9), (10, zI v10)]) dX9_widen_284 (by decide) rfl ?_
      refine Z.aload_n (k := 1) dX9_widen_285 rfl ?_
      refine Y.getR (o := some 1) 0 dX9_widen_286 zl_X9_55 (rfl) (by decide) rfl (zX_0_6 hX).2.2 (zX_20_0 hX).1 ?_
      refine Z.aload_n (k := 1) dX9_widen_289 rfl ?_
      refine Y.getR (o := some 21) 1 dX9_widen_290 zl_X9_9 (rfl) (by decide) rfl (zX_0_6 hX).2.2 (zX_20_1 hX).1 ?_
      refine Z.iload (k := 2) dX9_widen_293 rfl ?_
      obtain ⟨x10, m11, K⟩ := K
      refine Y.callV (g := zm_X8_after) (vs := [zR 21, zI v4]) (st := []) dX9_widen_295 ⟨zg_X8_after.1, zg_X8_after.2.1, zg_X8_after.2.2, by decide⟩ ⟨zk_X9_96, zv_X8_after⟩ (ci := 8) (rfl) rfl ((zX_0_0 hX).2.2) rfl rfl (Nat.le_of_ble_eq_true rfl) m11 (Or.inl rfl) ?_
      show Z zm_X9_widen kz Q 298 [(3, zI x7), (0, zR 20), (4, zI v4), (5, zI v5), (6, zI v6), (7, zI v7), (8, zI v8), (9, zI v9), (10, zI v10)] [zI x10] (d, G, E3)
      refine Z.istore (ls' := [(4, zI x10), (3, zI x7), (0, zR 20), (5, zI v5), (6, zI v6), (7, zI v7), (8, zI v8), (9, zI v9), (10, zI v10)]) dX9_widen_298 (by decide) rfl ?_
      obtain ⟨z13, K⟩ := K
      refine Z.iinc (k := 3) (ls' := [(5, zI ((v5 + (-1)))), (4, zI x10), (3, zI x7), (0, zR 20), (6, zI v6), (7, zI v7), (8, zI v8), (9, zI v9), (10, zI v10)]) dX9_widen_300 rfl (by decide) z13 rfl ?_
      obtain ⟨z14, K⟩ := K
      refine Z.iinc (k := 5) (ls' := [(7, zI ((v7 + 1))), (5, zI ((v5 + (-1)))), (4, zI x10), (3, zI x7), (0, zR 20), (6, zI v6), (8, zI v8), (9, zI v9), (10, zI v10)]) dX9_widen_303 rfl (by decide) z14 rfl ?_
      refine Z.goto 19 dX9_widen_306 rfl ?_
      refine Z.pick (ls' := [(0, zR 20), (3, zI x7), (4, zI x10), (5, zI ((v5 + (-1)))), (6, zI v6), (7, zI ((v7 + 1)))]) [4, 3, 2, 1, 5, 0] rfl ?_
      exact K
    · replace K := K.2 c6
      refine Z.iconst (n := 0) dX9_widen_270 ⟨by decide, by decide⟩ ?_
      exact Z.iret (ty := .boolean) dX9_widen_271 rfl rfl K
  · replace K := K.2 c1
    refine Z.aload_n (k := 0) dX9_widen_154 rfl ?_
    refine Y.getR (o := some 21) 1 dX9_widen_155 zl_X9_9 (rfl) (by decide) rfl (zX_0_6 hX).2.2 (zX_20_1 hX).1 ?_
    refine Z.iload (k := 7) dX9_widen_158 rfl ?_
    obtain ⟨z15, K⟩ := K
    refine Y.iald dX9_widen_160 (rfl) ((zX_20_1 hX).2.2) z15 ?_
    refine Z.if_lt 259 dX9_widen_161 rfl ⟨fun c16 => ?_, fun c16 => ?_⟩
    · replace K := K.1 c16
      refine Z.aload_n (k := 0) dX9_widen_259 rfl ?_
      refine Z.iload (k := 6) dX9_widen_260 rfl ?_
      refine Z.iload (k := 7) dX9_widen_262 rfl ?_
      obtain ⟨x17, E18, m19, K⟩ := K
      refine Y.callV (g := zm_X9_meet) (vs := [zI v8, zI v9]) (st := []) dX9_widen_264 ⟨zg_X9_meet.1, zg_X9_meet.2.1, zg_X9_meet.2.2, by decide⟩ ⟨zk_X9_100, zv_X9_meet⟩ (ci := 9) (rfl) rfl ((zX_0_6 hX).2.2) rfl rfl (Nat.le_of_ble_eq_true rfl) m19 (Or.inl rfl) ?_
      show Z zm_X9_widen kz Q 267 [(0, zR 20), (3, zI v3), (4, zI v4), (5, zI v5), (6, zI v6), (7, zI v7), (8, zI v8), (9, zI v9), (10, zI v10)] [zI x17] (d, G, E18)
      refine Z.if_ne 272 dX9_widen_267 rfl ⟨fun c21 => ?_, fun c21 => ?_⟩
      · replace K := K.1 c21
        refine Z.aload_n (k := 0) dX9_widen_272 rfl ?_
        refine Y.getR (o := some 1) 0 dX9_widen_273 zl_X9_55 (rfl) (by decide) rfl (zX_0_6 hX).2.2 (zX_20_0 hX).1 ?_
        refine Z.aload_n (k := 0) dX9_widen_276 rfl ?_
        refine Y.getR (o := some 21) 1 dX9_widen_277 zl_X9_9 (rfl) (by decide) rfl (zX_0_6 hX).2.2 (zX_20_1 hX).1 ?_
        refine Z.iload_n (k := 1) dX9_widen_280 rfl ?_
        obtain ⟨x22, m23, K⟩ := K
        refine Y.callV (g := zm_X8_after) (vs := [zR 21, zI v3]) (st := []) dX9_widen_281 ⟨zg_X8_after.1, zg_X8_after.2.1, zg_X8_after.2.2, by decide⟩ ⟨zk_X9_96, zv_X8_after⟩ (ci := 8) (rfl) rfl ((zX_0_0 hX).2.2) rfl rfl (Nat.le_of_ble_eq_true rfl) m23 (Or.inl rfl) ?_
        show Z zm_X9_widen kz Q 284 [(0, zR 20), (3, zI v3), (4, zI v4), (5, zI v5), (6, zI v6), (7, zI v7), (8, zI v8), (9, zI v9), (10, zI v10)] [zI x22] (d, G, E18)
        refine Z.istore_n (ls' := [(3, zI x22), (0, zR 20), (4, zI v4), (5, zI v5), (6, zI v6), (7, zI v7), (8, zI v8), (9, zI v9), (10, zI v10)]) dX9_widen_284 (by decide) rfl ?_
        refine Z.aload_n (k := 1) dX9_widen_285 rfl ?_
        refine Y.getR (o := some 1) 0 dX9_widen_286 zl_X9_55 (rfl) (by decide) rfl (zX_0_6 hX).2.2 (zX_20_0 hX).1 ?_
        refine Z.aload_n (k := 1) dX9_widen_289 rfl ?_
        refine Y.getR (o := some 21) 1 dX9_widen_290 zl_X9_9 (rfl) (by decide) rfl (zX_0_6 hX).2.2 (zX_20_1 hX).1 ?_
        refine Z.iload (k := 2) dX9_widen_293 rfl ?_
        obtain ⟨x25, m26, K⟩ := K
        refine Y.callV (g := zm_X8_after) (vs := [zR 21, zI v4]) (st := []) dX9_widen_295 ⟨zg_X8_after.1, zg_X8_after.2.1, zg_X8_after.2.2, by decide⟩ ⟨zk_X9_96, zv_X8_after⟩ (ci := 8) (rfl) rfl ((zX_0_0 hX).2.2) rfl rfl (Nat.le_of_ble_eq_true rfl) m26 (Or.inl rfl) ?_
        show Z zm_X9_widen kz Q 298 [(3, zI x22), (0, zR 20), (4, zI v4), (5, zI v5), (6, zI v6), (7, zI v7), (8, zI v8), (9, zI v9), (10, zI v10)] [zI x25] (d, G, E18)
        refine Z.istore (ls' := [(4, zI x25), (3, zI x22), (0, zR 20), (5, zI v5), (6, zI v6), (7, zI v7), (8, zI v8), (9, zI v9), (10, zI v10)]) dX9_widen_298 (by decide) rfl ?_
        obtain ⟨z28, K⟩ := K
        refine Z.iinc (k := 3) (ls' := [(5, zI ((v5 + (-1)))), (4, zI x25), (3, zI x22), (0, zR 20), (6, zI v6), (7, zI v7), (8, zI v8), (9, zI v9), (10, zI v10)]) dX9_widen_300 rfl (by decide) z28 rfl ?_
        obtain ⟨z29, K⟩ := K
        refine Z.iinc (k := 5) (ls' := [(7, zI ((v7 + 1))), (5, zI ((v5 + (-1)))), (4, zI x25), (3, zI x22), (0, zR 20), (6, zI v6), (8, zI v8), (9, zI v9), (10, zI v10)]) dX9_widen_303 rfl (by decide) z29 rfl ?_
        refine Z.goto 19 dX9_widen_306 rfl ?_
        refine Z.pick (ls' := [(0, zR 20), (3, zI x22), (4, zI x25), (5, zI ((v5 + (-1)))), (6, zI v6), (7, zI ((v7 + 1)))]) [4, 3, 2, 1, 5, 0] rfl ?_
        exact K
      · replace K := K.2 c21
        refine Z.iconst (n := 0) dX9_widen_270 ⟨by decide, by decide⟩ ?_
        exact Z.iret (ty := .boolean) dX9_widen_271 rfl rfl K
    · replace K := K.2 c16
      refine Z.iload (k := 6) dX9_widen_164 rfl ?_
      refine Z.iload (k := 7) dX9_widen_166 rfl ?_
      refine Z.icmp_eq 259 dX9_widen_168 rfl ⟨fun c30 => ?_, fun c30 => ?_⟩
      · replace K := K.1 c30
        refine Z.aload_n (k := 0) dX9_widen_259 rfl ?_
        refine Z.iload (k := 6) dX9_widen_260 rfl ?_
        refine Z.iload (k := 7) dX9_widen_262 rfl ?_
        obtain ⟨x31, E32, m33, K⟩ := K
        refine Y.callV (g := zm_X9_meet) (vs := [zI v8, zI v9]) (st := []) dX9_widen_264 ⟨zg_X9_meet.1, zg_X9_meet.2.1, zg_X9_meet.2.2, by decide⟩ ⟨zk_X9_100, zv_X9_meet⟩ (ci := 9) (rfl) rfl ((zX_0_6 hX).2.2) rfl rfl (Nat.le_of_ble_eq_true rfl) m33 (Or.inl rfl) ?_
        show Z zm_X9_widen kz Q 267 [(0, zR 20), (3, zI v3), (4, zI v4), (5, zI v5), (6, zI v6), (7, zI v7), (8, zI v8), (9, zI v9), (10, zI v10)] [zI x31] (d, G, E32)
        refine Z.if_ne 272 dX9_widen_267 rfl ⟨fun c35 => ?_, fun c35 => ?_⟩
        · replace K := K.1 c35
          refine Z.aload_n (k := 0) dX9_widen_272 rfl ?_
          refine Y.getR (o := some 1) 0 dX9_widen_273 zl_X9_55 (rfl) (by decide) rfl (zX_0_6 hX).2.2 (zX_20_0 hX).1 ?_
          refine Z.aload_n (k := 0) dX9_widen_276 rfl ?_
          refine Y.getR (o := some 21) 1 dX9_widen_277 zl_X9_9 (rfl) (by decide) rfl (zX_0_6 hX).2.2 (zX_20_1 hX).1 ?_
          refine Z.iload_n (k := 1) dX9_widen_280 rfl ?_
          obtain ⟨x36, m37, K⟩ := K
          refine Y.callV (g := zm_X8_after) (vs := [zR 21, zI v3]) (st := []) dX9_widen_281 ⟨zg_X8_after.1, zg_X8_after.2.1, zg_X8_after.2.2, by decide⟩ ⟨zk_X9_96, zv_X8_after⟩ (ci := 8) (rfl) rfl ((zX_0_0 hX).2.2) rfl rfl (Nat.le_of_ble_eq_true rfl) m37 (Or.inl rfl) ?_
          show Z zm_X9_widen kz Q 284 [(0, zR 20), (3, zI v3), (4, zI v4), (5, zI v5), (6, zI v6), (7, zI v7), (8, zI v8), (9, zI v9), (10, zI v10)] [zI x36] (d, G, E32)
          refine Z.istore_n (ls' := [(3, zI x36), (0, zR 20), (4, zI v4), (5, zI v5), (6, zI v6), (7, zI v7), (8, zI v8), (9, zI v9), (10, zI v10)]) dX9_widen_284 (by decide) rfl ?_
          refine Z.aload_n (k := 1) dX9_widen_285 rfl ?_
          refine Y.getR (o := some 1) 0 dX9_widen_286 zl_X9_55 (rfl) (by decide) rfl (zX_0_6 hX).2.2 (zX_20_0 hX).1 ?_
          refine Z.aload_n (k := 1) dX9_widen_289 rfl ?_
          refine Y.getR (o := some 21) 1 dX9_widen_290 zl_X9_9 (rfl) (by decide) rfl (zX_0_6 hX).2.2 (zX_20_1 hX).1 ?_
          refine Z.iload (k := 2) dX9_widen_293 rfl ?_
          obtain ⟨x39, m40, K⟩ := K
          refine Y.callV (g := zm_X8_after) (vs := [zR 21, zI v4]) (st := []) dX9_widen_295 ⟨zg_X8_after.1, zg_X8_after.2.1, zg_X8_after.2.2, by decide⟩ ⟨zk_X9_96, zv_X8_after⟩ (ci := 8) (rfl) rfl ((zX_0_0 hX).2.2) rfl rfl (Nat.le_of_ble_eq_true rfl) m40 (Or.inl rfl) ?_
          show Z zm_X9_widen kz Q 298 [(3, zI x36), (0, zR 20), (4, zI v4), (5, zI v5), (6, zI v6), (7, zI v7), (8, zI v8), (9, zI v9), (10, zI v10)] [zI x39] (d, G, E32)
          refine Z.istore (ls' := [(4, zI x39), (3, zI x36), (0, zR 20), (5, zI v5), (6, zI v6), (7, zI v7), (8, zI v8), (9, zI v9), (10, zI v10)]) dX9_widen_298 (by decide) rfl ?_
          obtain ⟨z42, K⟩ := K
          refine Z.iinc (k := 3) (ls' := [(5, zI ((v5 + (-1)))), (4, zI x39), (3, zI x36), (0, zR 20), (6, zI v6), (7, zI v7), (8, zI v8), (9, zI v9), (10, zI v10)]) dX9_widen_300 rfl (by decide) z42 rfl ?_
          obtain ⟨z43, K⟩ := K
          refine Z.iinc (k := 5) (ls' := [(7, zI ((v7 + 1))), (5, zI ((v5 + (-1)))), (4, zI x39), (3, zI x36), (0, zR 20), (6, zI v6), (8, zI v8), (9, zI v9), (10, zI v10)]) dX9_widen_303 rfl (by decide) z43 rfl ?_
          refine Z.goto 19 dX9_widen_306 rfl ?_
          refine Z.pick (ls' := [(0, zR 20), (3, zI x36), (4, zI x39), (5, zI ((v5 + (-1)))), (6, zI v6), (7, zI ((v7 + 1)))]) [4, 3, 2, 1, 5, 0] rfl ?_
          exact K
        · replace K := K.2 c35
          refine Z.iconst (n := 0) dX9_widen_270 ⟨by decide, by decide⟩ ?_
          exact Z.iret (ty := .boolean) dX9_widen_271 rfl rfl K
      · replace K := K.2 c30
        refine Z.iload (k := 8) dX9_widen_171 rfl ?_
        refine Z.aload_n (k := 0) dX9_widen_173 rfl ?_
        refine Y.getR (o := some 21) 1 dX9_widen_174 zl_X9_9 (rfl) (by decide) rfl (zX_0_6 hX).2.2 (zX_20_1 hX).1 ?_
        refine Z.iload (k := 7) dX9_widen_177 rfl ?_
        obtain ⟨z44, K⟩ := K
        refine Y.iald dX9_widen_179 (rfl) ((zX_20_1 hX).2.2) z44 ?_
        refine Z.icmp_ne 191 dX9_widen_180 rfl ⟨fun c45 => ?_, fun c45 => ?_⟩
        · replace K := K.1 c45
          refine Z.iconst (n := 0) dX9_widen_191 ⟨by decide, by decide⟩ ?_
          exact Z.iret (ty := .boolean) dX9_widen_192 rfl rfl K
        · replace K := K.2 c45
          refine Z.iload (k := 4) dX9_widen_183 rfl ?_
          refine Z.sipush (n := 128) dX9_widen_185 ⟨by decide, by decide⟩ (by decide) ?_
          refine Z.icmp_lt 193 dX9_widen_188 rfl ⟨fun c46 => ?_, fun c46 => ?_⟩
          · replace K := K.1 c46
            refine Z.aload_n (k := 0) dX9_widen_193 rfl ?_
            refine Y.getR (o := some 24) 5 dX9_widen_194 zl_X9_25 (rfl) (by decide) rfl (zX_0_6 hX).2.2 (zX_20_5 hX).1 ?_
            refine Z.iload (k := 4) dX9_widen_197 rfl ?_
            refine Z.aload_n (k := 0) dX9_widen_199 rfl ?_
            refine Y.getR (o := some 1) 0 dX9_widen_200 zl_X9_55 (rfl) (by decide) rfl (zX_0_6 hX).2.2 (zX_20_0 hX).1 ?_
            refine Z.aload_n (k := 0) dX9_widen_203 rfl ?_
            refine Y.getR (o := some 21) 1 dX9_widen_204 zl_X9_9 (rfl) (by decide) rfl (zX_0_6 hX).2.2 (zX_20_1 hX).1 ?_
            refine Z.iload_n (k := 1) dX9_widen_207 rfl ?_
            obtain ⟨x47, m48, K⟩ := K
            refine Y.callV (g := zm_X8_after) (vs := [zR 21, zI v3]) (st := [zI v6, zR 24]) dX9_widen_208 ⟨zg_X8_after.1, zg_X8_after.2.1, zg_X8_after.2.2, by decide⟩ ⟨zk_X9_96, zv_X8_after⟩ (ci := 8) (rfl) rfl ((zX_0_0 hX).2.2) rfl rfl (Nat.le_of_ble_eq_true rfl) m48 (Or.inl rfl) ?_
            show Z zm_X9_widen kz Q 211 [(0, zR 20), (3, zI v3), (4, zI v4), (5, zI v5), (6, zI v6), (7, zI v7), (8, zI v8), (9, zI v9), (10, zI v10)] [zI x47, zI v6, zR 24] (d, G, E)
            obtain ⟨z50, K⟩ := K
            refine Y.iast dX9_widen_211 (rfl) ((zX_20_5 hX).2.2) z50 ?_
            generalize eE51 : zuE E 24 v6 x47 = E51
            replace K := K E51 eE51.symm
            refine Z.aload_n (k := 0) dX9_widen_212 rfl ?_
            refine Y.getR (o := some 25) 6 dX9_widen_213 zl_X9_28 (rfl) (by decide) rfl (zX_0_6 hX).2.2 (zX_20_6 hX).1 ?_
            refine Z.iload (k := 4) dX9_widen_216 rfl ?_
            refine Z.aload_n (k := 0) dX9_widen_218 rfl ?_
            refine Y.getR (o := some 1) 0 dX9_widen_219 zl_X9_55 (rfl) (by decide) rfl (zX_0_6 hX).2.2 (zX_20_0 hX).1 ?_
            refine Z.aload_n (k := 0) dX9_widen_222 rfl ?_
            refine Y.getR (o := some 21) 1 dX9_widen_223 zl_X9_9 (rfl) (by decide) rfl (zX_0_6 hX).2.2 (zX_20_1 hX).1 ?_
            refine Z.iload (k := 2) dX9_widen_226 rfl ?_
            obtain ⟨x52, m53, K⟩ := K
            refine Y.callV (g := zm_X8_after) (vs := [zR 21, zI v4]) (st := [zI v6, zR 25]) dX9_widen_228 ⟨zg_X8_after.1, zg_X8_after.2.1, zg_X8_after.2.2, by decide⟩ ⟨zk_X9_96, zv_X8_after⟩ (ci := 8) (rfl) rfl ((zX_0_0 hX).2.2) rfl rfl (Nat.le_of_ble_eq_true rfl) m53 (Or.inl rfl) ?_
            show Z zm_X9_widen kz Q 231 [(0, zR 20), (3, zI v3), (4, zI v4), (5, zI v5), (6, zI v6), (7, zI v7), (8, zI v8), (9, zI v9), (10, zI v10)] [zI x52, zI v6, zR 25] (d, G, E51)
            obtain ⟨z55, K⟩ := K
            refine Y.iast dX9_widen_231 (rfl) ((zX_20_6 hX).2.2) z55 ?_
            generalize eE56 : zuE E51 25 v6 x52 = E56
            replace K := K E56 eE56.symm
            refine Z.aload_n (k := 0) dX9_widen_232 rfl ?_
            refine Y.getR (o := some 26) 7 dX9_widen_233 zl_X9_31 (rfl) (by decide) rfl (zX_0_6 hX).2.2 (zX_20_7 hX).1 ?_
            refine Z.iload (k := 4) dX9_widen_236 rfl ?_
            refine Z.iload (k := 3) dX9_widen_238 rfl ?_
            refine Z.iconst (n := 1) dX9_widen_240 ⟨by decide, by decide⟩ ?_
            obtain ⟨z57, K⟩ := K
            refine Z.isub dX9_widen_241 z57 ?_
            obtain ⟨z58, K⟩ := K
            refine Y.iast dX9_widen_242 (rfl) ((zX_20_7 hX).2.2) z58 ?_
            generalize eE59 : zuE E56 26 v6 ((v5 - 1)) = E59
            replace K := K E59 eE59.symm
            obtain ⟨z60, K⟩ := K
            refine Z.iinc (k := 4) (ls' := [(6, zI ((v6 + 1))), (0, zR 20), (3, zI v3), (4, zI v4), (5, zI v5), (7, zI v7), (8, zI v8), (9, zI v9), (10, zI v10)]) dX9_widen_243 rfl (by decide) z60 rfl ?_
            refine Z.iload (k := 6) dX9_widen_246 rfl ?_
            refine Z.istore_n (ls' := [(3, zI v8), (6, zI ((v6 + 1))), (0, zR 20), (4, zI v4), (5, zI v5), (7, zI v7), (8, zI v8), (9, zI v9), (10, zI v10)]) dX9_widen_248 (by decide) rfl ?_
            refine Z.iload (k := 7) dX9_widen_249 rfl ?_
            refine Z.istore (ls' := [(4, zI v9), (3, zI v8), (6, zI ((v6 + 1))), (0, zR 20), (5, zI v5), (7, zI v7), (8, zI v8), (9, zI v9), (10, zI v10)]) dX9_widen_251 (by decide) rfl ?_
            refine Z.iconst (n := 1) dX9_widen_253 ⟨by decide, by decide⟩ ?_
            refine Z.istore (ls' := [(5, zI 1), (4, zI v9), (3, zI v8), (6, zI ((v6 + 1))), (0, zR 20), (7, zI v7), (8, zI v8), (9, zI v9), (10, zI v10)]) dX9_widen_254 (by decide) rfl ?_
            refine Z.goto 303 dX9_widen_256 rfl ?_
            obtain ⟨z61, K⟩ := K
            refine Z.iinc (k := 5) (ls' := [(7, zI ((v7 + 1))), (5, zI 1), (4, zI v9), (3, zI v8), (6, zI ((v6 + 1))), (0, zR 20), (8, zI v8), (9, zI v9), (10, zI v10)]) dX9_widen_303 rfl (by decide) z61 rfl ?_
            refine Z.goto 19 dX9_widen_306 rfl ?_
            refine Z.pick (ls' := [(0, zR 20), (3, zI v8), (4, zI v9), (5, zI 1), (6, zI ((v6 + 1))), (7, zI ((v7 + 1)))]) [5, 3, 2, 1, 4, 0] rfl ?_
            exact K
          · replace K := K.2 c46
            refine Z.iconst (n := 0) dX9_widen_191 ⟨by decide, by decide⟩ ?_
            exact Z.iret (ty := .boolean) dX9_widen_192 rfl rfl K
set_option maxRecDepth 20000 in
theorem X9_write_0 {kz : Nat × Nat} {Q : Option zV → zH → Prop} {d : List Nat} {G : Nat → Int → Option Nat} {E : Nat → Int → Int} {v1 : Int} {v2 : Int} {v3 : Int} (hX : zK zXt d G) (K : ∃ E1, zM zm_X9_beginWay [zR 20, zI v1, zI v2] (d, G, E) none (d, G, E1) ∧ Z zm_X9_write kz Q 9 [(0, zR 20), (3, zI v3), (4, zI 0)] [] (d, G, E1)) : Z zm_X9_write kz Q 0 [(0, zR 20), (1, zI v1), (2, zI v2), (3, zI v3)] [] (d, G, E) := by
  refine Z.aload_n (k := 0) dX9_write_0 rfl ?_
  refine Z.iload_n (k := 1) dX9_write_1 rfl ?_
  refine Z.iload_n (k := 2) dX9_write_2 rfl ?_
  obtain ⟨E1, m2, K⟩ := K
  refine Y.callV (g := zm_X9_beginWay) (vs := [zI v1, zI v2]) (st := []) dX9_write_3 ⟨zg_X9_beginWay.1, zg_X9_beginWay.2.1, zg_X9_beginWay.2.2, by decide⟩ ⟨zk_X9_111, zv_X9_beginWay⟩ (ci := 9) (rfl) rfl ((zX_0_6 hX).2.2) rfl rfl (Nat.le_of_ble_eq_true rfl) m2 (Or.inl rfl) ?_
  show Z zm_X9_write kz Q 6 [(0, zR 20), (1, zI v1), (2, zI v2), (3, zI v3)] [] (d, G, E1)
  refine Z.iconst (n := 0) dX9_write_6 ⟨by decide, by decide⟩ ?_
  refine Z.istore (ls' := [(4, zI 0), (0, zR 20), (1, zI v1), (2, zI v2), (3, zI v3)]) dX9_write_7 (by decide) rfl ?_
  refine Z.pick (ls' := [(0, zR 20), (3, zI v3), (4, zI 0)]) [1, 4, 0] rfl ?_
  exact K
set_option maxRecDepth 20000 in
theorem X9_write_9 {kz : Nat × Nat} {Q : Option zV → zH → Prop} {d : List Nat} {G : Nat → Int → Option Nat} {E : Nat → Int → Int} {v3 : Int} {v4 : Int} (hX : zK zXt d G) (K : ((1000000) ≤ v4 → Q (some (zI 0)) (d, G, E)) ∧ (¬ ((1000000) ≤ v4) → ∃ x2 E3, zM zm_X9_nextOnWay [zR 20] (d, G, E) (some (zI x2)) (d, G, E3) ∧ (x2 ≠ (-1) → (v3 ≤ (E3 20 14) → Q (some (zI 0)) (d, G, E3)) ∧ (¬ (v3 ≤ (E3 20 14)) → ((E3 20 14) < 1000 → ((0 : Int) ≤ x2 ∧ x2 < 360) ∧ ((0 : Int) ≤ (E3 20 14) ∧ (E3 20 14) < 1000) ∧ ∀ E11, E11 = zuE E3 29 ((E3 20 14)) ((E3 21 x2)) → zin ((E11 20 14) + 1) ∧ ∀ E13, E13 = zuE E11 20 14 (((E11 20 14) + 1)) → zin (v4 + 1) ∧ Z zm_X9_write kz Q 9 [(0, zR 20), (3, zI v3), (4, zI ((v4 + 1)))] [] (d, G, E13)) ∧ (¬ ((E3 20 14) < 1000) → Q (some (zI 0)) (d, G, E3)))) ∧ (¬ (x2 ≠ (-1)) → Q (some (zI 1)) (d, G, E3)))) : Z zm_X9_write kz Q 9 [(0, zR 20), (3, zI v3), (4, zI v4)] [] (d, G, E) := by
  refine Z.iload (k := 2) dX9_write_9 rfl ?_
  refine Z.ldc (n := 1000000) dX9_write_11 ⟨by decide, by decide⟩ zq_X9_86 ?_
  refine Z.icmp_ge 82 dX9_write_13 rfl ⟨fun c1 => ?_, fun c1 => ?_⟩
  · replace K := K.1 c1
    refine Z.iconst (n := 0) dX9_write_82 ⟨by decide, by decide⟩ ?_
    exact Z.iret (ty := .boolean) dX9_write_83 rfl rfl K
  · replace K := K.2 c1
    refine Z.aload_n (k := 0) dX9_write_16 rfl ?_
    obtain ⟨x2, E3, m4, K⟩ := K
    refine Y.callV (g := zm_X9_nextOnWay) (vs := []) (st := []) dX9_write_17 ⟨zg_X9_nextOnWay.1, zg_X9_nextOnWay.2.1, zg_X9_nextOnWay.2.2, by decide⟩ ⟨zk_X9_114, zv_X9_nextOnWay⟩ (ci := 9) (rfl) rfl ((zX_0_6 hX).2.2) rfl rfl (Nat.le_of_ble_eq_true rfl) m4 (Or.inl rfl) ?_
    show Z zm_X9_write kz Q 20 [(0, zR 20), (3, zI v3), (4, zI v4)] [zI x2] (d, G, E3)
    refine Z.istore (ls' := [(5, zI x2), (0, zR 20), (3, zI v3), (4, zI v4)]) dX9_write_20 (by decide) rfl ?_
    refine Z.iload (k := 0) dX9_write_22 rfl ?_
    refine Z.iconst (n := -1) dX9_write_24 ⟨by decide, by decide⟩ ?_
    refine Z.icmp_ne 30 dX9_write_25 rfl ⟨fun c6 => ?_, fun c6 => ?_⟩
    · replace K := K.1 c6
      refine Z.aload_n (k := 1) dX9_write_30 rfl ?_
      refine Y.getI 14 dX9_write_31 zl_X9_52 (rfl) (by decide) rfl (zX_0_6 hX).2.2 ?_
      refine Z.iload_n (k := 2) dX9_write_34 rfl ?_
      refine Z.icmp_ge 48 dX9_write_35 rfl ⟨fun c7 => ?_, fun c7 => ?_⟩
      · replace K := K.1 c7
        refine Z.iconst (n := 0) dX9_write_48 ⟨by decide, by decide⟩ ?_
        exact Z.iret (ty := .boolean) dX9_write_49 rfl rfl K
      · replace K := K.2 c7
        refine Z.aload_n (k := 1) dX9_write_38 rfl ?_
        refine Y.getI 14 dX9_write_39 zl_X9_52 (rfl) (by decide) rfl (zX_0_6 hX).2.2 ?_
        refine Z.sipush (n := 1000) dX9_write_42 ⟨by decide, by decide⟩ (by decide) ?_
        refine Z.icmp_lt 50 dX9_write_45 rfl ⟨fun c8 => ?_, fun c8 => ?_⟩
        · replace K := K.1 c8
          refine Z.aload_n (k := 1) dX9_write_50 rfl ?_
          refine Y.getR (o := some 29) 13 dX9_write_51 zl_X9_49 (rfl) (by decide) rfl (zX_0_6 hX).2.2 (zX_20_13 hX).1 ?_
          refine Z.aload_n (k := 1) dX9_write_54 rfl ?_
          refine Y.getI 14 dX9_write_55 zl_X9_52 (rfl) (by decide) rfl (zX_0_6 hX).2.2 ?_
          refine Z.aload_n (k := 1) dX9_write_58 rfl ?_
          refine Y.getR (o := some 21) 1 dX9_write_59 zl_X9_9 (rfl) (by decide) rfl (zX_0_6 hX).2.2 (zX_20_1 hX).1 ?_
          refine Z.iload (k := 0) dX9_write_62 rfl ?_
          obtain ⟨z9, K⟩ := K
          refine Y.iald dX9_write_64 (rfl) ((zX_20_1 hX).2.2) z9 ?_
          obtain ⟨z10, K⟩ := K
          refine Y.iast dX9_write_65 (rfl) ((zX_20_13 hX).2.2) z10 ?_
          generalize eE11 : zuE E3 29 ((E3 20 14)) ((E3 21 x2)) = E11
          replace K := K E11 eE11.symm
          refine Z.aload_n (k := 1) dX9_write_66 rfl ?_
          refine Z.dup_i dX9_write_67 (fun _ => rfl) ?_
          refine Y.getI 14 dX9_write_68 zl_X9_52 (rfl) (by decide) rfl (zX_0_6 hX).2.2 ?_
          refine Z.iconst (n := 1) dX9_write_71 ⟨by decide, by decide⟩ ?_
          obtain ⟨z12, K⟩ := K
          refine Z.iadd dX9_write_72 z12 ?_
          refine Y.putI 14 dX9_write_73 zw_X9_52 (fun q => by cases q) (rfl) rfl (zX_0_6 hX).2.2 (Or.inl rfl) ?_
          generalize eE13 : zuE E11 20 14 (((E11 20 14) + 1)) = E13
          replace K := K E13 eE13.symm
          obtain ⟨z14, K⟩ := K
          refine Z.iinc (k := 3) (ls' := [(4, zI ((v4 + 1))), (5, zI x2), (0, zR 20), (3, zI v3)]) dX9_write_76 rfl (by decide) z14 rfl ?_
          refine Z.goto 9 dX9_write_79 rfl ?_
          refine Z.pick (ls' := [(0, zR 20), (3, zI v3), (4, zI ((v4 + 1)))]) [2, 3, 0] rfl ?_
          exact K
        · replace K := K.2 c8
          refine Z.iconst (n := 0) dX9_write_48 ⟨by decide, by decide⟩ ?_
          exact Z.iret (ty := .boolean) dX9_write_49 rfl rfl K
    · replace K := K.2 c6
      refine Z.iconst (n := 1) dX9_write_28 ⟨by decide, by decide⟩ ?_
      exact Z.iret (ty := .boolean) dX9_write_29 rfl rfl K
set_option maxRecDepth 20000 in
theorem X9_matches_0 {kz : Nat × Nat} {Q : Option zV → zH → Prop} {d : List Nat} {G : Nat → Int → Option Nat} {E : Nat → Int → Int} {a1 n1 : Nat} {v2 : Int} {a3 n3 : Nat} {v4 : Int} (hX : zK zXt d G) (ha1 : a1 ∈ d) (hk1 : zkd a1 = (0, n1)) (ha3 : a3 ∈ d) (hk3 : zkd a3 = (0, n3)) (K : Z zm_X9_matches kz Q 10 [(0, zR 20), (1, zR a1), (3, zR a3), (5, zI v2), (6, zI v4), (7, zI 1)] [] (d, G, E)) : Z zm_X9_matches kz Q 0 [(0, zR 20), (1, zR a1), (2, zI v2), (3, zR a3), (4, zI v4)] [] (d, G, E) := by
  refine Z.iload_n (k := 2) dX9_matches_0 rfl ?_
  refine Z.istore (ls' := [(5, zI v2), (0, zR 20), (1, zR a1), (2, zI v2), (3, zR a3), (4, zI v4)]) dX9_matches_1 (by decide) rfl ?_
  refine Z.iload (k := 5) dX9_matches_3 rfl ?_
  refine Z.istore (ls' := [(6, zI v4), (5, zI v2), (0, zR 20), (1, zR a1), (2, zI v2), (3, zR a3), (4, zI v4)]) dX9_matches_5 (by decide) rfl ?_
  refine Z.iconst (n := 1) dX9_matches_7 ⟨by decide, by decide⟩ ?_
  refine Z.istore (ls' := [(7, zI 1), (6, zI v4), (5, zI v2), (0, zR 20), (1, zR a1), (2, zI v2), (3, zR a3), (4, zI v4)]) dX9_matches_8 (by decide) rfl ?_
  refine Z.pick (ls' := [(0, zR 20), (1, zR a1), (3, zR a3), (5, zI v2), (6, zI v4), (7, zI 1)]) [3, 4, 6, 2, 1, 0] rfl ?_
  exact K
set_option maxRecDepth 20000 in
theorem X9_matches_10 {kz : Nat × Nat} {Q : Option zV → zH → Prop} {d : List Nat} {G : Nat → Int → Option Nat} {E : Nat → Int → Int} {a1 n1 : Nat} {a3 n3 : Nat} {v5 : Int} {v6 : Int} {v7 : Int} (hX : zK zXt d G) (ha1 : a1 ∈ d) (hk1 : zkd a1 = (0, n1)) (ha3 : a3 ∈ d) (hk3 : zkd a3 = (0, n3)) (K : (v7 ≤ 0 → (v7 ≠ 0 → Q (some (zI 0)) (d, G, E)) ∧ (¬ (v7 ≠ 0) → Q (some (zI 1)) (d, G, E))) ∧ (¬ (v7 ≤ 0) → zin (n1 : Int) ∧ ((n1 : Int) ≤ v5 → (v7 ≠ 0 → Q (some (zI 0)) (d, G, E)) ∧ (¬ (v7 ≠ 0) → Q (some (zI 1)) (d, G, E))) ∧ (¬ ((n1 : Int) ≤ v5) → zin (n3 : Int) ∧ ((n3 : Int) ≤ v6 → (v7 ≠ 0 → Q (some (zI 0)) (d, G, E)) ∧ (¬ (v7 ≠ 0) → Q (some (zI 1)) (d, G, E))) ∧ (¬ ((n3 : Int) ≤ v6) → ((0 : Int) ≤ v5 ∧ v5 < n1) ∧ ((E a1 v5) < 0 → ∃ x11, zM zm_X8_after [zR 1, zR a3, zI v6] (d, G, E) (some (zI x11)) (d, G, E) ∧ zin (19 - (E a1 v5)) ∧ ((0 : Int) ≤ (19 - (E a1 v5)) ∧ (19 - (E a1 v5)) < 40) ∧ ((E 22 (19 - (E a1 v5))) ≠ (-1) → zin (x11 - v6) ∧ ∃ x18, zM zm_X11_alike [zR a3, zI ((E 22 (19 - (E a1 v5)))), zR a3, zI v6, zI ((x11 - v6))] (d, G, E) (some (zI x18)) (d, G, E) ∧ (x18 ≠ 0 → zin (v7 + (-1)) ∧ zin (v5 + 1) ∧ Z zm_X9_matches kz Q 10 [(0, zR 20), (1, zR a1), (3, zR a3), (5, zI ((v5 + 1))), (6, zI x11), (7, zI ((v7 + (-1))))] [] (d, G, E)) ∧ (¬ (x18 ≠ 0) → Q (some (zI 0)) (d, G, E))) ∧ (¬ ((E 22 (19 - (E a1 v5))) ≠ (-1)) → ∃ E24, zM zm_X9_tell [zR 20, zI ((19 - (E a1 v5))), zI v6] (d, G, E) none (d, G, E24) ∧ zin (v7 + (-1)) ∧ zin (v5 + 1) ∧ Z zm_X9_matches kz Q 10 [(0, zR 20), (1, zR a1), (3, zR a3), (5, zI ((v5 + 1))), (6, zI x11), (7, zI ((v7 + (-1))))] [] (d, G, E24))) ∧ (¬ ((E a1 v5) < 0) → ((0 : Int) ≤ v6 ∧ v6 < n3) ∧ ((E a1 v5) = (E a3 v6) → ∃ x31, zM zm_X8_partsOf [zR 1, zI ((E a1 v5))] (d, G, E) (some (zI x31)) (d, G, E) ∧ zin (x31 - 1) ∧ zin (v7 + (x31 - 1)) ∧ zin (v6 + 1) ∧ zin (v5 + 1) ∧ Z zm_X9_matches kz Q 10 [(0, zR 20), (1, zR a1), (3, zR a3), (5, zI ((v5 + 1))), (6, zI ((v6 + 1))), (7, zI ((v7 + (x31 - 1))))] [] (d, G, E)) ∧ (¬ ((E a1 v5) = (E a3 v6)) → Q (some (zI 0)) (d, G, E))))))) : Z zm_X9_matches kz Q 10 [(0, zR 20), (1, zR a1), (3, zR a3), (5, zI v5), (6, zI v6), (7, zI v7)] [] (d, G, E) := by
  refine Z.iload (k := 5) dX9_matches_10 rfl ?_
  refine Z.if_le 150 dX9_matches_12 rfl ⟨fun c1 => ?_, fun c1 => ?_⟩
  · replace K := K.1 c1
    refine Z.iload (k := 5) dX9_matches_150 rfl ?_
    refine Z.if_ne 159 dX9_matches_152 rfl ⟨fun c2 => ?_, fun c2 => ?_⟩
    · replace K := K.1 c2
      refine Z.iconst (n := 0) dX9_matches_159 ⟨by decide, by decide⟩ ?_
      exact Z.iret (ty := .boolean) dX9_matches_160 rfl rfl K
    · replace K := K.2 c2
      refine Z.iconst (n := 1) dX9_matches_155 ⟨by decide, by decide⟩ ?_
      refine Z.goto 160 dX9_matches_156 rfl ?_
      exact Z.iret (ty := .boolean) dX9_matches_160 rfl rfl K
  · replace K := K.2 c1
    refine Z.iload (k := 3) dX9_matches_15 rfl ?_
    refine Z.aload_n (k := 1) dX9_matches_17 rfl ?_
    obtain ⟨z3, K⟩ := K
    refine Y.alen n1 (n1 : Int) dX9_matches_18 (hk1) (ha1) rfl z3 ?_
    refine Z.icmp_ge 150 dX9_matches_19 rfl ⟨fun c4 => ?_, fun c4 => ?_⟩
    · replace K := K.1 c4
      refine Z.iload (k := 5) dX9_matches_150 rfl ?_
      refine Z.if_ne 159 dX9_matches_152 rfl ⟨fun c5 => ?_, fun c5 => ?_⟩
      · replace K := K.1 c5
        refine Z.iconst (n := 0) dX9_matches_159 ⟨by decide, by decide⟩ ?_
        exact Z.iret (ty := .boolean) dX9_matches_160 rfl rfl K
      · replace K := K.2 c5
        refine Z.iconst (n := 1) dX9_matches_155 ⟨by decide, by decide⟩ ?_
        refine Z.goto 160 dX9_matches_156 rfl ?_
        exact Z.iret (ty := .boolean) dX9_matches_160 rfl rfl K
    · replace K := K.2 c4
      refine Z.iload (k := 4) dX9_matches_22 rfl ?_
      refine Z.aload_n (k := 2) dX9_matches_24 rfl ?_
      obtain ⟨z6, K⟩ := K
      refine Y.alen n3 (n3 : Int) dX9_matches_25 (hk3) (ha3) rfl z6 ?_
      refine Z.icmp_ge 150 dX9_matches_26 rfl ⟨fun c7 => ?_, fun c7 => ?_⟩
      · replace K := K.1 c7
        refine Z.iload (k := 5) dX9_matches_150 rfl ?_
        refine Z.if_ne 159 dX9_matches_152 rfl ⟨fun c8 => ?_, fun c8 => ?_⟩
        · replace K := K.1 c8
          refine Z.iconst (n := 0) dX9_matches_159 ⟨by decide, by decide⟩ ?_
          exact Z.iret (ty := .boolean) dX9_matches_160 rfl rfl K
        · replace K := K.2 c8
          refine Z.iconst (n := 1) dX9_matches_155 ⟨by decide, by decide⟩ ?_
          refine Z.goto 160 dX9_matches_156 rfl ?_
          exact Z.iret (ty := .boolean) dX9_matches_160 rfl rfl K
      · replace K := K.2 c7
        refine Z.aload_n (k := 1) dX9_matches_29 rfl ?_
        refine Z.iload (k := 3) dX9_matches_30 rfl ?_
        obtain ⟨z9, K⟩ := K
        refine Y.iald dX9_matches_32 (hk1) (ha1) z9 ?_
        refine Z.istore (ls' := [(8, zI ((E a1 v5))), (0, zR 20), (1, zR a1), (3, zR a3), (5, zI v5), (6, zI v6), (7, zI v7)]) dX9_matches_33 (by decide) rfl ?_
        refine Z.iload (k := 0) dX9_matches_35 rfl ?_
        refine Z.if_lt 73 dX9_matches_37 rfl ⟨fun c10 => ?_, fun c10 => ?_⟩
        · replace K := K.1 c10
          refine Z.aload_n (k := 1) dX9_matches_73 rfl ?_
          refine Y.getR (o := some 1) 0 dX9_matches_74 zl_X9_55 (rfl) (by decide) rfl (zX_0_6 hX).2.2 (zX_20_0 hX).1 ?_
          refine Z.aload_n (k := 3) dX9_matches_77 rfl ?_
          refine Z.iload (k := 5) dX9_matches_78 rfl ?_
          obtain ⟨x11, m12, K⟩ := K
          refine Y.callV (g := zm_X8_after) (vs := [zR a3, zI v6]) (st := []) dX9_matches_80 ⟨zg_X8_after.1, zg_X8_after.2.1, zg_X8_after.2.2, by decide⟩ ⟨zk_X9_96, zv_X8_after⟩ (ci := 8) (rfl) rfl ((zX_0_0 hX).2.2) rfl rfl (Nat.le_of_ble_eq_true rfl) m12 (Or.inl rfl) ?_
          show Z zm_X9_matches kz Q 83 [(8, zI ((E a1 v5))), (0, zR 20), (1, zR a1), (3, zR a3), (5, zI v5), (6, zI v6), (7, zI v7)] [zI x11] (d, G, E)
          refine Z.istore (ls' := [(9, zI x11), (8, zI ((E a1 v5))), (0, zR 20), (1, zR a1), (3, zR a3), (5, zI v5), (6, zI v6), (7, zI v7)]) dX9_matches_83 (by decide) rfl ?_
          refine Z.bipush (n := 19) dX9_matches_85 ⟨by decide, by decide⟩ (by decide) ?_
          refine Z.iload (k := 1) dX9_matches_87 rfl ?_
          obtain ⟨z14, K⟩ := K
          refine Z.isub dX9_matches_89 z14 ?_
          refine Z.istore (ls' := [(10, zI ((19 - (E a1 v5)))), (9, zI x11), (8, zI ((E a1 v5))), (0, zR 20), (1, zR a1), (3, zR a3), (5, zI v5), (6, zI v6), (7, zI v7)]) dX9_matches_90 (by decide) rfl ?_
          refine Z.aload_n (k := 3) dX9_matches_92 rfl ?_
          refine Y.getR (o := some 22) 2 dX9_matches_93 zl_X9_15 (rfl) (by decide) rfl (zX_0_6 hX).2.2 (zX_20_2 hX).1 ?_
          refine Z.iload (k := 0) dX9_matches_96 rfl ?_
          obtain ⟨z15, K⟩ := K
          refine Y.iald dX9_matches_98 (rfl) ((zX_20_2 hX).2.2) z15 ?_
          refine Z.istore (ls' := [(11, zI ((E 22 (19 - (E a1 v5))))), (10, zI ((19 - (E a1 v5)))), (9, zI x11), (8, zI ((E a1 v5))), (0, zR 20), (1, zR a1), (3, zR a3), (5, zI v5), (6, zI v6), (7, zI v7)]) dX9_matches_99 (by decide) rfl ?_
          refine Z.iload (k := 0) dX9_matches_101 rfl ?_
          refine Z.iconst (n := -1) dX9_matches_103 ⟨by decide, by decide⟩ ?_
          refine Z.icmp_ne 118 dX9_matches_104 rfl ⟨fun c16 => ?_, fun c16 => ?_⟩
          · replace K := K.1 c16
            refine Z.aload_n (k := 6) dX9_matches_118 rfl ?_
            refine Z.iload (k := 0) dX9_matches_119 rfl ?_
            refine Z.aload_n (k := 6) dX9_matches_121 rfl ?_
            refine Z.iload (k := 8) dX9_matches_122 rfl ?_
            refine Z.iload (k := 2) dX9_matches_124 rfl ?_
            refine Z.iload (k := 8) dX9_matches_126 rfl ?_
            obtain ⟨z17, K⟩ := K
            refine Z.isub dX9_matches_128 z17 ?_
            obtain ⟨x18, m19, K⟩ := K
            refine Y.callS (g := zm_X11_alike) (vs := [zR a3, zI ((E 22 (19 - (E a1 v5)))), zR a3, zI v6, zI ((x11 - v6))]) (st := []) dX9_matches_129 ⟨zg_X11_alike.1, zg_X11_alike.2.1, zg_X11_alike.2.2, by decide⟩ ⟨Or.inr zk_X9_118, zs_X11_alike⟩ rfl rfl (Nat.le_of_ble_eq_true rfl) m19 (Or.inl rfl) ?_
            show Z zm_X9_matches kz Q 132 [(11, zI ((E 22 (19 - (E a1 v5))))), (10, zI ((19 - (E a1 v5)))), (9, zI x11), (8, zI ((E a1 v5))), (0, zR 20), (1, zR a1), (3, zR a3), (5, zI v5), (6, zI v6), (7, zI v7)] [zI x18] (d, G, E)
            refine Z.if_ne 137 dX9_matches_132 rfl ⟨fun c21 => ?_, fun c21 => ?_⟩
            · replace K := K.1 c21
              refine Z.iload (k := 2) dX9_matches_137 rfl ?_
              refine Z.istore (ls' := [(6, zI x11), (11, zI ((E 22 (19 - (E a1 v5))))), (10, zI ((19 - (E a1 v5)))), (9, zI x11), (8, zI ((E a1 v5))), (0, zR 20), (1, zR a1), (3, zR a3), (5, zI v5), (7, zI v7)]) dX9_matches_139 (by decide) rfl ?_
              obtain ⟨z22, K⟩ := K
              refine Z.iinc (k := 9) (ls' := [(7, zI ((v7 + (-1)))), (6, zI x11), (11, zI ((E 22 (19 - (E a1 v5))))), (10, zI ((19 - (E a1 v5)))), (9, zI x11), (8, zI ((E a1 v5))), (0, zR 20), (1, zR a1), (3, zR a3), (5, zI v5)]) dX9_matches_141 rfl (by decide) z22 rfl ?_
              obtain ⟨z23, K⟩ := K
              refine Z.iinc (k := 9) (ls' := [(5, zI ((v5 + 1))), (7, zI ((v7 + (-1)))), (6, zI x11), (11, zI ((E 22 (19 - (E a1 v5))))), (10, zI ((19 - (E a1 v5)))), (9, zI x11), (8, zI ((E a1 v5))), (0, zR 20), (1, zR a1), (3, zR a3)]) dX9_matches_144 rfl (by decide) z23 rfl ?_
              refine Z.goto 10 dX9_matches_147 rfl ?_
              refine Z.pick (ls' := [(0, zR 20), (1, zR a1), (3, zR a3), (5, zI ((v5 + 1))), (6, zI x11), (7, zI ((v7 + (-1))))]) [7, 8, 9, 0, 2, 1] rfl ?_
              exact K
            · replace K := K.2 c21
              refine Z.iconst (n := 0) dX9_matches_135 ⟨by decide, by decide⟩ ?_
              exact Z.iret (ty := .boolean) dX9_matches_136 rfl rfl K
          · replace K := K.2 c16
            refine Z.aload_n (k := 4) dX9_matches_107 rfl ?_
            refine Z.iload (k := 1) dX9_matches_108 rfl ?_
            refine Z.iload (k := 8) dX9_matches_110 rfl ?_
            obtain ⟨E24, m25, K⟩ := K
            refine Y.callV (g := zm_X9_tell) (vs := [zI ((19 - (E a1 v5))), zI v6]) (st := []) dX9_matches_112 ⟨zg_X9_tell.1, zg_X9_tell.2.1, zg_X9_tell.2.2, by decide⟩ ⟨zk_X9_107, zv_X9_tell⟩ (ci := 9) (rfl) rfl ((zX_0_6 hX).2.2) rfl rfl (Nat.le_of_ble_eq_true rfl) m25 (Or.inl rfl) ?_
            show Z zm_X9_matches kz Q 115 [(11, zI ((E 22 (19 - (E a1 v5))))), (10, zI ((19 - (E a1 v5)))), (9, zI x11), (8, zI ((E a1 v5))), (0, zR 20), (1, zR a1), (3, zR a3), (5, zI v5), (6, zI v6), (7, zI v7)] [] (d, G, E24)
            refine Z.goto 137 dX9_matches_115 rfl ?_
            refine Z.iload (k := 2) dX9_matches_137 rfl ?_
            refine Z.istore (ls' := [(6, zI x11), (11, zI ((E 22 (19 - (E a1 v5))))), (10, zI ((19 - (E a1 v5)))), (9, zI x11), (8, zI ((E a1 v5))), (0, zR 20), (1, zR a1), (3, zR a3), (5, zI v5), (7, zI v7)]) dX9_matches_139 (by decide) rfl ?_
            obtain ⟨z27, K⟩ := K
            refine Z.iinc (k := 9) (ls' := [(7, zI ((v7 + (-1)))), (6, zI x11), (11, zI ((E 22 (19 - (E a1 v5))))), (10, zI ((19 - (E a1 v5)))), (9, zI x11), (8, zI ((E a1 v5))), (0, zR 20), (1, zR a1), (3, zR a3), (5, zI v5)]) dX9_matches_141 rfl (by decide) z27 rfl ?_
            obtain ⟨z28, K⟩ := K
            refine Z.iinc (k := 9) (ls' := [(5, zI ((v5 + 1))), (7, zI ((v7 + (-1)))), (6, zI x11), (11, zI ((E 22 (19 - (E a1 v5))))), (10, zI ((19 - (E a1 v5)))), (9, zI x11), (8, zI ((E a1 v5))), (0, zR 20), (1, zR a1), (3, zR a3)]) dX9_matches_144 rfl (by decide) z28 rfl ?_
            refine Z.goto 10 dX9_matches_147 rfl ?_
            refine Z.pick (ls' := [(0, zR 20), (1, zR a1), (3, zR a3), (5, zI ((v5 + 1))), (6, zI x11), (7, zI ((v7 + (-1))))]) [7, 8, 9, 0, 2, 1] rfl ?_
            exact K
        · replace K := K.2 c10
          refine Z.iload (k := 0) dX9_matches_40 rfl ?_
          refine Z.aload_n (k := 3) dX9_matches_42 rfl ?_
          refine Z.iload (k := 5) dX9_matches_43 rfl ?_
          obtain ⟨z29, K⟩ := K
          refine Y.iald dX9_matches_45 (hk3) (ha3) z29 ?_
          refine Z.icmp_eq 51 dX9_matches_46 rfl ⟨fun c30 => ?_, fun c30 => ?_⟩
          · replace K := K.1 c30
            refine Z.iload (k := 6) dX9_matches_51 rfl ?_
            refine Z.aload_n (k := 1) dX9_matches_53 rfl ?_
            refine Y.getR (o := some 1) 0 dX9_matches_54 zl_X9_55 (rfl) (by decide) rfl (zX_0_6 hX).2.2 (zX_20_0 hX).1 ?_
            refine Z.iload (k := 0) dX9_matches_57 rfl ?_
            obtain ⟨x31, m32, K⟩ := K
            refine Y.callV (g := zm_X8_partsOf) (vs := [zI ((E a1 v5))]) (st := [zI v7]) dX9_matches_59 ⟨zg_X8_partsOf.1, zg_X8_partsOf.2.1, zg_X8_partsOf.2.2, by decide⟩ ⟨zk_X9_91, zv_X8_partsOf⟩ (ci := 8) (rfl) rfl ((zX_0_0 hX).2.2) rfl rfl (Nat.le_of_ble_eq_true rfl) m32 (Or.inl rfl) ?_
            show Z zm_X9_matches kz Q 62 [(8, zI ((E a1 v5))), (0, zR 20), (1, zR a1), (3, zR a3), (5, zI v5), (6, zI v6), (7, zI v7)] [zI x31, zI v7] (d, G, E)
            refine Z.iconst (n := 1) dX9_matches_62 ⟨by decide, by decide⟩ ?_
            obtain ⟨z34, K⟩ := K
            refine Z.isub dX9_matches_63 z34 ?_
            obtain ⟨z35, K⟩ := K
            refine Z.iadd dX9_matches_64 z35 ?_
            refine Z.istore (ls' := [(7, zI ((v7 + (x31 - 1)))), (8, zI ((E a1 v5))), (0, zR 20), (1, zR a1), (3, zR a3), (5, zI v5), (6, zI v6)]) dX9_matches_65 (by decide) rfl ?_
            obtain ⟨z36, K⟩ := K
            refine Z.iinc (k := 6) (ls' := [(6, zI ((v6 + 1))), (7, zI ((v7 + (x31 - 1)))), (8, zI ((E a1 v5))), (0, zR 20), (1, zR a1), (3, zR a3), (5, zI v5)]) dX9_matches_67 rfl (by decide) z36 rfl ?_
            refine Z.goto 144 dX9_matches_70 rfl ?_
            obtain ⟨z37, K⟩ := K
            refine Z.iinc (k := 6) (ls' := [(5, zI ((v5 + 1))), (6, zI ((v6 + 1))), (7, zI ((v7 + (x31 - 1)))), (8, zI ((E a1 v5))), (0, zR 20), (1, zR a1), (3, zR a3)]) dX9_matches_144 rfl (by decide) z37 rfl ?_
            refine Z.goto 10 dX9_matches_147 rfl ?_
            refine Z.pick (ls' := [(0, zR 20), (1, zR a1), (3, zR a3), (5, zI ((v5 + 1))), (6, zI ((v6 + 1))), (7, zI ((v7 + (x31 - 1))))]) [4, 5, 6, 0, 1, 2] rfl ?_
            exact K
          · replace K := K.2 c30
            refine Z.iconst (n := 0) dX9_matches_49 ⟨by decide, by decide⟩ ?_
            exact Z.iret (ty := .boolean) dX9_matches_50 rfl rfl K
set_option maxRecDepth 20000 in
theorem X9_isTold_0 {kz : Nat × Nat} {Q : Option zV → zH → Prop} {d : List Nat} {G : Nat → Int → Option Nat} {E : Nat → Int → Int} {a1 n1 : Nat} {v2 : Int} {v3 : Int} (hX : zK zXt d G) (ha1 : a1 ∈ d) (hk1 : zkd a1 = (0, n1)) (K : Z zm_X9_isTold kz Q 3 [(0, zR 20), (1, zR a1), (3, zI v3), (4, zI v2)] [] (d, G, E)) : Z zm_X9_isTold kz Q 0 [(0, zR 20), (1, zR a1), (2, zI v2), (3, zI v3)] [] (d, G, E) := by
  refine Z.iload_n (k := 2) dX9_isTold_0 rfl ?_
  refine Z.istore (ls' := [(4, zI v2), (0, zR 20), (1, zR a1), (2, zI v2), (3, zI v3)]) dX9_isTold_1 (by decide) rfl ?_
  refine Z.pick (ls' := [(0, zR 20), (1, zR a1), (3, zI v3), (4, zI v2)]) [1, 2, 4, 0] rfl ?_
  exact K
set_option maxRecDepth 20000 in
theorem X9_isTold_3 {kz : Nat × Nat} {Q : Option zV → zH → Prop} {d : List Nat} {G : Nat → Int → Option Nat} {E : Nat → Int → Int} {a1 n1 : Nat} {v3 : Int} {v4 : Int} (hX : zK zXt d G) (ha1 : a1 ∈ d) (hk1 : zkd a1 = (0, n1)) (K : (v3 ≤ v4 → Q (some (zI 1)) (d, G, E)) ∧ (¬ (v3 ≤ v4) → ((0 : Int) ≤ v4 ∧ v4 < n1) ∧ (0 ≤ (E a1 v4) → zin (v4 + 1) ∧ Z zm_X9_isTold kz Q 3 [(0, zR 20), (1, zR a1), (3, zI v3), (4, zI ((v4 + 1)))] [] (d, G, E)) ∧ (¬ (0 ≤ (E a1 v4)) → ((0 : Int) ≤ v4 ∧ v4 < n1) ∧ zin (19 - (E a1 v4)) ∧ ((0 : Int) ≤ (19 - (E a1 v4)) ∧ (19 - (E a1 v4)) < 40) ∧ ((E 22 (19 - (E a1 v4))) ≠ (-1) → zin (v4 + 1) ∧ Z zm_X9_isTold kz Q 3 [(0, zR 20), (1, zR a1), (3, zI v3), (4, zI ((v4 + 1)))] [] (d, G, E)) ∧ (¬ ((E 22 (19 - (E a1 v4))) ≠ (-1)) → Q (some (zI 0)) (d, G, E))))) : Z zm_X9_isTold kz Q 3 [(0, zR 20), (1, zR a1), (3, zI v3), (4, zI v4)] [] (d, G, E) := by
  refine Z.iload (k := 3) dX9_isTold_3 rfl ?_
  refine Z.iload_n (k := 2) dX9_isTold_5 rfl ?_
  refine Z.icmp_ge 40 dX9_isTold_6 rfl ⟨fun c1 => ?_, fun c1 => ?_⟩
  · replace K := K.1 c1
    refine Z.iconst (n := 1) dX9_isTold_40 ⟨by decide, by decide⟩ ?_
    exact Z.iret (ty := .boolean) dX9_isTold_41 rfl rfl K
  · replace K := K.2 c1
    refine Z.aload_n (k := 1) dX9_isTold_9 rfl ?_
    refine Z.iload (k := 3) dX9_isTold_10 rfl ?_
    obtain ⟨z2, K⟩ := K
    refine Y.iald dX9_isTold_12 (hk1) (ha1) z2 ?_
    refine Z.if_ge 34 dX9_isTold_13 rfl ⟨fun c3 => ?_, fun c3 => ?_⟩
    · replace K := K.1 c3
      obtain ⟨z4, K⟩ := K
      refine Z.iinc (k := 3) (ls' := [(4, zI ((v4 + 1))), (0, zR 20), (1, zR a1), (3, zI v3)]) dX9_isTold_34 rfl (by decide) z4 rfl ?_
      refine Z.goto 3 dX9_isTold_37 rfl ?_
      refine Z.pick (ls' := [(0, zR 20), (1, zR a1), (3, zI v3), (4, zI ((v4 + 1)))]) [1, 2, 3, 0] rfl ?_
      exact K
    · replace K := K.2 c3
      refine Z.aload_n (k := 0) dX9_isTold_16 rfl ?_
      refine Y.getR (o := some 22) 2 dX9_isTold_17 zl_X9_15 (rfl) (by decide) rfl (zX_0_6 hX).2.2 (zX_20_2 hX).1 ?_
      refine Z.bipush (n := 19) dX9_isTold_20 ⟨by decide, by decide⟩ (by decide) ?_
      refine Z.aload_n (k := 1) dX9_isTold_22 rfl ?_
      refine Z.iload (k := 3) dX9_isTold_23 rfl ?_
      obtain ⟨z5, K⟩ := K
      refine Y.iald dX9_isTold_25 (hk1) (ha1) z5 ?_
      obtain ⟨z6, K⟩ := K
      refine Z.isub dX9_isTold_26 z6 ?_
      obtain ⟨z7, K⟩ := K
      refine Y.iald dX9_isTold_27 (rfl) ((zX_20_2 hX).2.2) z7 ?_
      refine Z.iconst (n := -1) dX9_isTold_28 ⟨by decide, by decide⟩ ?_
      refine Z.icmp_ne 34 dX9_isTold_29 rfl ⟨fun c8 => ?_, fun c8 => ?_⟩
      · replace K := K.1 c8
        obtain ⟨z9, K⟩ := K
        refine Z.iinc (k := 3) (ls' := [(4, zI ((v4 + 1))), (0, zR 20), (1, zR a1), (3, zI v3)]) dX9_isTold_34 rfl (by decide) z9 rfl ?_
        refine Z.goto 3 dX9_isTold_37 rfl ?_
        refine Z.pick (ls' := [(0, zR 20), (1, zR a1), (3, zI v3), (4, zI ((v4 + 1)))]) [1, 2, 3, 0] rfl ?_
        exact K
      · replace K := K.2 c8
        refine Z.iconst (n := 0) dX9_isTold_32 ⟨by decide, by decide⟩ ?_
        exact Z.iret (ty := .boolean) dX9_isTold_33 rfl rfl K
set_option maxRecDepth 20000 in
theorem X9_init_0 {kz : Nat × Nat} {Q : Option zV → zH → Prop} {d : List Nat} {G : Nat → Int → Option Nat} {E : Nat → Int → Int}  (hm20 : 20 ∈ d) (hm1 : 1 ∈ d) (K : ∃ a1, zkd a1 = (0, (360 : Int).toNat) ∧ (0 : Int) ≤ 360 ∧ 360 ≤ (100000 : Int) ∧ a1 ∉ d ∧ ¬ zst3 a1 ∧ d.length + 1 ≤ kz.1 ∧ zsl d + (zkd a1).2 ≤ kz.2 ∧ ∀ d9 G10 E11, d9 = d ++ [a1] → G10 = zclG G a1 → E11 = zclE E a1 → (∀ G12, G12 = zuG G10 20 1 (some a1) → ∃ a13, zkd a13 = (0, (40 : Int).toNat) ∧ (0 : Int) ≤ 40 ∧ 40 ≤ (100000 : Int) ∧ a13 ∉ d9 ∧ ¬ zst3 a13 ∧ d9.length + 1 ≤ kz.1 ∧ zsl d9 + (zkd a13).2 ≤ kz.2 ∧ ∀ d21 G22 E23, d21 = d9 ++ [a13] → G22 = zclG G12 a13 → E23 = zclE E11 a13 → (∀ G24, G24 = zuG G22 20 2 (some a13) → ∃ a25, zkd a25 = (0, (40 : Int).toNat) ∧ (0 : Int) ≤ 40 ∧ 40 ≤ (100000 : Int) ∧ a25 ∉ d21 ∧ ¬ zst3 a25 ∧ d21.length + 1 ≤ kz.1 ∧ zsl d21 + (zkd a25).2 ≤ kz.2 ∧ ∀ d33 G34 E35, d33 = d21 ++ [a25] → G34 = zclG G24 a25 → E35 = zclE E23 a25 → (∀ G36, G36 = zuG G34 20 3 (some a25) → ∀ E37, E37 = zuE E35 20 4 0 → ∃ a38, zkd a38 = (0, (128 : Int).toNat) ∧ (0 : Int) ≤ 128 ∧ 128 ≤ (100000 : Int) ∧ a38 ∉ d33 ∧ ¬ zst3 a38 ∧ d33.length + 1 ≤ kz.1 ∧ zsl d33 + (zkd a38).2 ≤ kz.2 ∧ ∀ d46 G47 E48, d46 = d33 ++ [a38] → G47 = zclG G36 a38 → E48 = zclE E37 a38 → (∀ G49, G49 = zuG G47 20 5 (some a38) → ∃ a50, zkd a50 = (0, (128 : Int).toNat) ∧ (0 : Int) ≤ 128 ∧ 128 ≤ (100000 : Int) ∧ a50 ∉ d46 ∧ ¬ zst3 a50 ∧ d46.length + 1 ≤ kz.1 ∧ zsl d46 + (zkd a50).2 ≤ kz.2 ∧ ∀ d58 G59 E60, d58 = d46 ++ [a50] → G59 = zclG G49 a50 → E60 = zclE E48 a50 → (∀ G61, G61 = zuG G59 20 6 (some a50) → ∃ a62, zkd a62 = (0, (128 : Int).toNat) ∧ (0 : Int) ≤ 128 ∧ 128 ≤ (100000 : Int) ∧ a62 ∉ d58 ∧ ¬ zst3 a62 ∧ d58.length + 1 ≤ kz.1 ∧ zsl d58 + (zkd a62).2 ≤ kz.2 ∧ ∀ d70 G71 E72, d70 = d58 ++ [a62] → G71 = zclG G61 a62 → E72 = zclE E60 a62 → (∀ G73, G73 = zuG G71 20 7 (some a62) → ∃ a74, zkd a74 = (0, (128 : Int).toNat) ∧ (0 : Int) ≤ 128 ∧ 128 ≤ (100000 : Int) ∧ a74 ∉ d70 ∧ ¬ zst3 a74 ∧ d70.length + 1 ≤ kz.1 ∧ zsl d70 + (zkd a74).2 ≤ kz.2 ∧ ∀ d82 G83 E84, d82 = d70 ++ [a74] → G83 = zclG G73 a74 → E84 = zclE E72 a74 → (∀ G85, G85 = zuG G83 20 8 (some a74) → ∃ a86, zkd a86 = (0, (128 : Int).toNat) ∧ (0 : Int) ≤ 128 ∧ 128 ≤ (100000 : Int) ∧ a86 ∉ d82 ∧ ¬ zst3 a86 ∧ d82.length + 1 ≤ kz.1 ∧ zsl d82 + (zkd a86).2 ≤ kz.2 ∧ ∀ d94 G95 E96, d94 = d82 ++ [a86] → G95 = zclG G85 a86 → E96 = zclE E84 a86 → (∀ G97, G97 = zuG G95 20 9 (some a86) → ∀ E98, E98 = zuE E96 20 10 0 → ∀ E99, E99 = zuE E98 20 11 0 → ∀ E100, E100 = zuE E99 20 12 0 → ∃ a101, zkd a101 = (0, (1000 : Int).toNat) ∧ (0 : Int) ≤ 1000 ∧ 1000 ≤ (100000 : Int) ∧ a101 ∉ d94 ∧ ¬ zst3 a101 ∧ d94.length + 1 ≤ kz.1 ∧ zsl d94 + (zkd a101).2 ≤ kz.2 ∧ ∀ d109 G110 E111, d109 = d94 ++ [a101] → G110 = zclG G97 a101 → E111 = zclE E100 a101 → (∀ G112, G112 = zuG G110 20 13 (some a101) → ∀ E113, E113 = zuE E111 20 14 0 → ∀ G114, G114 = zuG G112 20 0 (some 1) → ∃ E115, zM zm_J7_fill_53178 [zO ((G114 20 2)), zI ((-1))] (d109, G114, E113) none (d109, G114, E115) ∧ Q none (d109, G114, E115))))))))))) : Z zm_X9_init kz Q 0 [(0, zR 20), (1, zR 1)] [] (d, G, E) := by
  refine Z.aload_n (k := 0) dX9_init_0 rfl ?_
  refine Z.objInit (a := 20) dX9_init_1 zk_X9_3 ⟨by decide, by decide⟩ (Nat.le_of_ble_eq_true rfl) ?_
  refine Z.aload_n (k := 0) dX9_init_4 rfl ?_
  refine Z.sipush (n := 360) dX9_init_5 ⟨by decide, by decide⟩ (by decide) ?_
  obtain ⟨a1, z2, z3, z4, z5, z6, z7, z8, K⟩ := K
  refine Y.newI a1 dX9_init_8 z2 z3 z4 zai z5 z6 z7 z8 ?_
  generalize ed9 : d ++ [a1] = d9
  generalize eG10 : zclG G a1 = G10
  generalize eE11 : zclE E a1 = E11
  replace K := K d9 G10 E11 ed9.symm eG10.symm eE11.symm
  refine Y.putR 1 dX9_init_10 zw_X9_9 (fun _ => ⟨rfl, rfl⟩) (rfl) rfl (by rw [← ed9]; exact List.mem_append_left _ (hm20)) (fun b hb => by cases hb; exact (by rw [← ed9]; exact List.mem_append_right _ List.mem_cons_self)) ?_
  generalize eG12 : zuG G10 20 1 (some a1) = G12
  replace K := K G12 eG12.symm
  refine Z.aload_n (k := 0) dX9_init_13 rfl ?_
  refine Z.bipush (n := 40) dX9_init_14 ⟨by decide, by decide⟩ (by decide) ?_
  obtain ⟨a13, z14, z15, z16, z17, z18, z19, z20, K⟩ := K
  refine Y.newI a13 dX9_init_16 z14 z15 z16 zai z17 z18 z19 z20 ?_
  generalize ed21 : d9 ++ [a13] = d21
  generalize eG22 : zclG G12 a13 = G22
  generalize eE23 : zclE E11 a13 = E23
  replace K := K d21 G22 E23 ed21.symm eG22.symm eE23.symm
  refine Y.putR 2 dX9_init_18 zw_X9_15 (fun _ => ⟨rfl, rfl⟩) (rfl) rfl (by rw [← ed21]; exact List.mem_append_left _ ((by rw [← ed9]; exact List.mem_append_left _ (hm20)))) (fun b hb => by cases hb; exact (by rw [← ed21]; exact List.mem_append_right _ List.mem_cons_self)) ?_
  generalize eG24 : zuG G22 20 2 (some a13) = G24
  replace K := K G24 eG24.symm
  refine Z.aload_n (k := 0) dX9_init_21 rfl ?_
  refine Z.bipush (n := 40) dX9_init_22 ⟨by decide, by decide⟩ (by decide) ?_
  obtain ⟨a25, z26, z27, z28, z29, z30, z31, z32, K⟩ := K
  refine Y.newI a25 dX9_init_24 z26 z27 z28 zai z29 z30 z31 z32 ?_
  generalize ed33 : d21 ++ [a25] = d33
  generalize eG34 : zclG G24 a25 = G34
  generalize eE35 : zclE E23 a25 = E35
  replace K := K d33 G34 E35 ed33.symm eG34.symm eE35.symm
  refine Y.putR 3 dX9_init_26 zw_X9_18 (fun _ => ⟨rfl, rfl⟩) (rfl) rfl (by rw [← ed33]; exact List.mem_append_left _ ((by rw [← ed21]; exact List.mem_append_left _ ((by rw [← ed9]; exact List.mem_append_left _ (hm20)))))) (fun b hb => by cases hb; exact (by rw [← ed33]; exact List.mem_append_right _ List.mem_cons_self)) ?_
  generalize eG36 : zuG G34 20 3 (some a25) = G36
  replace K := K G36 eG36.symm
  refine Z.aload_n (k := 0) dX9_init_29 rfl ?_
  refine Z.iconst (n := 0) dX9_init_30 ⟨by decide, by decide⟩ ?_
  refine Y.putI 4 dX9_init_31 zw_X9_21 (fun q => by cases q) (rfl) rfl (by rw [← ed33]; exact List.mem_append_left _ ((by rw [← ed21]; exact List.mem_append_left _ ((by rw [← ed9]; exact List.mem_append_left _ (hm20)))))) (Or.inl rfl) ?_
  generalize eE37 : zuE E35 20 4 0 = E37
  replace K := K E37 eE37.symm
  refine Z.aload_n (k := 0) dX9_init_34 rfl ?_
  refine Z.sipush (n := 128) dX9_init_35 ⟨by decide, by decide⟩ (by decide) ?_
  obtain ⟨a38, z39, z40, z41, z42, z43, z44, z45, K⟩ := K
  refine Y.newI a38 dX9_init_38 z39 z40 z41 zai z42 z43 z44 z45 ?_
  generalize ed46 : d33 ++ [a38] = d46
  generalize eG47 : zclG G36 a38 = G47
  generalize eE48 : zclE E37 a38 = E48
  replace K := K d46 G47 E48 ed46.symm eG47.symm eE48.symm
  refine Y.putR 5 dX9_init_40 zw_X9_25 (fun _ => ⟨rfl, rfl⟩) (rfl) rfl (by rw [← ed46]; exact List.mem_append_left _ ((by rw [← ed33]; exact List.mem_append_left _ ((by rw [← ed21]; exact List.mem_append_left _ ((by rw [← ed9]; exact List.mem_append_left _ (hm20)))))))) (fun b hb => by cases hb; exact (by rw [← ed46]; exact List.mem_append_right _ List.mem_cons_self)) ?_
  generalize eG49 : zuG G47 20 5 (some a38) = G49
  replace K := K G49 eG49.symm
  refine Z.aload_n (k := 0) dX9_init_43 rfl ?_
  refine Z.sipush (n := 128) dX9_init_44 ⟨by decide, by decide⟩ (by decide) ?_
  obtain ⟨a50, z51, z52, z53, z54, z55, z56, z57, K⟩ := K
  refine Y.newI a50 dX9_init_47 z51 z52 z53 zai z54 z55 z56 z57 ?_
  generalize ed58 : d46 ++ [a50] = d58
  generalize eG59 : zclG G49 a50 = G59
  generalize eE60 : zclE E48 a50 = E60
  replace K := K d58 G59 E60 ed58.symm eG59.symm eE60.symm
  refine Y.putR 6 dX9_init_49 zw_X9_28 (fun _ => ⟨rfl, rfl⟩) (rfl) rfl (by rw [← ed58]; exact List.mem_append_left _ ((by rw [← ed46]; exact List.mem_append_left _ ((by rw [← ed33]; exact List.mem_append_left _ ((by rw [← ed21]; exact List.mem_append_left _ ((by rw [← ed9]; exact List.mem_append_left _ (hm20)))))))))) (fun b hb => by cases hb; exact (by rw [← ed58]; exact List.mem_append_right _ List.mem_cons_self)) ?_
  generalize eG61 : zuG G59 20 6 (some a50) = G61
  replace K := K G61 eG61.symm
  refine Z.aload_n (k := 0) dX9_init_52 rfl ?_
  refine Z.sipush (n := 128) dX9_init_53 ⟨by decide, by decide⟩ (by decide) ?_
  obtain ⟨a62, z63, z64, z65, z66, z67, z68, z69, K⟩ := K
  refine Y.newI a62 dX9_init_56 z63 z64 z65 zai z66 z67 z68 z69 ?_
  generalize ed70 : d58 ++ [a62] = d70
  generalize eG71 : zclG G61 a62 = G71
  generalize eE72 : zclE E60 a62 = E72
  replace K := K d70 G71 E72 ed70.symm eG71.symm eE72.symm
  refine Y.putR 7 dX9_init_58 zw_X9_31 (fun _ => ⟨rfl, rfl⟩) (rfl) rfl (by rw [← ed70]; exact List.mem_append_left _ ((by rw [← ed58]; exact List.mem_append_left _ ((by rw [← ed46]; exact List.mem_append_left _ ((by rw [← ed33]; exact List.mem_append_left _ ((by rw [← ed21]; exact List.mem_append_left _ ((by rw [← ed9]; exact List.mem_append_left _ (hm20)))))))))))) (fun b hb => by cases hb; exact (by rw [← ed70]; exact List.mem_append_right _ List.mem_cons_self)) ?_
  generalize eG73 : zuG G71 20 7 (some a62) = G73
  replace K := K G73 eG73.symm
  refine Z.aload_n (k := 0) dX9_init_61 rfl ?_
  refine Z.sipush (n := 128) dX9_init_62 ⟨by decide, by decide⟩ (by decide) ?_
  obtain ⟨a74, z75, z76, z77, z78, z79, z80, z81, K⟩ := K
  refine Y.newI a74 dX9_init_65 z75 z76 z77 zai z78 z79 z80 z81 ?_
  generalize ed82 : d70 ++ [a74] = d82
  generalize eG83 : zclG G73 a74 = G83
  generalize eE84 : zclE E72 a74 = E84
  replace K := K d82 G83 E84 ed82.symm eG83.symm eE84.symm
  refine Y.putR 8 dX9_init_67 zw_X9_34 (fun _ => ⟨rfl, rfl⟩) (rfl) rfl (by rw [← ed82]; exact List.mem_append_left _ ((by rw [← ed70]; exact List.mem_append_left _ ((by rw [← ed58]; exact List.mem_append_left _ ((by rw [← ed46]; exact List.mem_append_left _ ((by rw [← ed33]; exact List.mem_append_left _ ((by rw [← ed21]; exact List.mem_append_left _ ((by rw [← ed9]; exact List.mem_append_left _ (hm20)))))))))))))) (fun b hb => by cases hb; exact (by rw [← ed82]; exact List.mem_append_right _ List.mem_cons_self)) ?_
  generalize eG85 : zuG G83 20 8 (some a74) = G85
  replace K := K G85 eG85.symm
  refine Z.aload_n (k := 0) dX9_init_70 rfl ?_
  refine Z.sipush (n := 128) dX9_init_71 ⟨by decide, by decide⟩ (by decide) ?_
  obtain ⟨a86, z87, z88, z89, z90, z91, z92, z93, K⟩ := K
  refine Y.newI a86 dX9_init_74 z87 z88 z89 zai z90 z91 z92 z93 ?_
  generalize ed94 : d82 ++ [a86] = d94
  generalize eG95 : zclG G85 a86 = G95
  generalize eE96 : zclE E84 a86 = E96
  replace K := K d94 G95 E96 ed94.symm eG95.symm eE96.symm
  refine Y.putR 9 dX9_init_76 zw_X9_37 (fun _ => ⟨rfl, rfl⟩) (rfl) rfl (by rw [← ed94]; exact List.mem_append_left _ ((by rw [← ed82]; exact List.mem_append_left _ ((by rw [← ed70]; exact List.mem_append_left _ ((by rw [← ed58]; exact List.mem_append_left _ ((by rw [← ed46]; exact List.mem_append_left _ ((by rw [← ed33]; exact List.mem_append_left _ ((by rw [← ed21]; exact List.mem_append_left _ ((by rw [← ed9]; exact List.mem_append_left _ (hm20)))))))))))))))) (fun b hb => by cases hb; exact (by rw [← ed94]; exact List.mem_append_right _ List.mem_cons_self)) ?_
  generalize eG97 : zuG G95 20 9 (some a86) = G97
  replace K := K G97 eG97.symm
  refine Z.aload_n (k := 0) dX9_init_79 rfl ?_
  refine Z.iconst (n := 0) dX9_init_80 ⟨by decide, by decide⟩ ?_
  refine Y.putI 10 dX9_init_81 zw_X9_40 (fun q => by cases q) (rfl) rfl (by rw [← ed94]; exact List.mem_append_left _ ((by rw [← ed82]; exact List.mem_append_left _ ((by rw [← ed70]; exact List.mem_append_left _ ((by rw [← ed58]; exact List.mem_append_left _ ((by rw [← ed46]; exact List.mem_append_left _ ((by rw [← ed33]; exact List.mem_append_left _ ((by rw [← ed21]; exact List.mem_append_left _ ((by rw [← ed9]; exact List.mem_append_left _ (hm20)))))))))))))))) (Or.inl rfl) ?_
  generalize eE98 : zuE E96 20 10 0 = E98
  replace K := K E98 eE98.symm
  refine Z.aload_n (k := 0) dX9_init_84 rfl ?_
  refine Z.iconst (n := 0) dX9_init_85 ⟨by decide, by decide⟩ ?_
  refine Y.putI 11 dX9_init_86 zw_X9_43 (fun q => by cases q) (rfl) rfl (by rw [← ed94]; exact List.mem_append_left _ ((by rw [← ed82]; exact List.mem_append_left _ ((by rw [← ed70]; exact List.mem_append_left _ ((by rw [← ed58]; exact List.mem_append_left _ ((by rw [← ed46]; exact List.mem_append_left _ ((by rw [← ed33]; exact List.mem_append_left _ ((by rw [← ed21]; exact List.mem_append_left _ ((by rw [← ed9]; exact List.mem_append_left _ (hm20)))))))))))))))) (Or.inl rfl) ?_
  generalize eE99 : zuE E98 20 11 0 = E99
  replace K := K E99 eE99.symm
  refine Z.aload_n (k := 0) dX9_init_89 rfl ?_
  refine Z.iconst (n := 0) dX9_init_90 ⟨by decide, by decide⟩ ?_
  refine Y.putI 12 dX9_init_91 zw_X9_46 (fun q => by cases q) (rfl) rfl (by rw [← ed94]; exact List.mem_append_left _ ((by rw [← ed82]; exact List.mem_append_left _ ((by rw [← ed70]; exact List.mem_append_left _ ((by rw [← ed58]; exact List.mem_append_left _ ((by rw [← ed46]; exact List.mem_append_left _ ((by rw [← ed33]; exact List.mem_append_left _ ((by rw [← ed21]; exact List.mem_append_left _ ((by rw [← ed9]; exact List.mem_append_left _ (hm20)))))))))))))))) (Or.inl rfl) ?_
  generalize eE100 : zuE E99 20 12 0 = E100
  replace K := K E100 eE100.symm
  refine Z.aload_n (k := 0) dX9_init_94 rfl ?_
  refine Z.sipush (n := 1000) dX9_init_95 ⟨by decide, by decide⟩ (by decide) ?_
  obtain ⟨a101, z102, z103, z104, z105, z106, z107, z108, K⟩ := K
  refine Y.newI a101 dX9_init_98 z102 z103 z104 zai z105 z106 z107 z108 ?_
  generalize ed109 : d94 ++ [a101] = d109
  generalize eG110 : zclG G97 a101 = G110
  generalize eE111 : zclE E100 a101 = E111
  replace K := K d109 G110 E111 ed109.symm eG110.symm eE111.symm
  refine Y.putR 13 dX9_init_100 zw_X9_49 (fun _ => ⟨rfl, rfl⟩) (rfl) rfl (by rw [← ed109]; exact List.mem_append_left _ ((by rw [← ed94]; exact List.mem_append_left _ ((by rw [← ed82]; exact List.mem_append_left _ ((by rw [← ed70]; exact List.mem_append_left _ ((by rw [← ed58]; exact List.mem_append_left _ ((by rw [← ed46]; exact List.mem_append_left _ ((by rw [← ed33]; exact List.mem_append_left _ ((by rw [← ed21]; exact List.mem_append_left _ ((by rw [← ed9]; exact List.mem_append_left _ (hm20)))))))))))))))))) (fun b hb => by cases hb; exact (by rw [← ed109]; exact List.mem_append_right _ List.mem_cons_self)) ?_
  generalize eG112 : zuG G110 20 13 (some a101) = G112
  replace K := K G112 eG112.symm
  refine Z.aload_n (k := 0) dX9_init_103 rfl ?_
  refine Z.iconst (n := 0) dX9_init_104 ⟨by decide, by decide⟩ ?_
  refine Y.putI 14 dX9_init_105 zw_X9_52 (fun q => by cases q) (rfl) rfl (by rw [← ed109]; exact List.mem_append_left _ ((by rw [← ed94]; exact List.mem_append_left _ ((by rw [← ed82]; exact List.mem_append_left _ ((by rw [← ed70]; exact List.mem_append_left _ ((by rw [← ed58]; exact List.mem_append_left _ ((by rw [← ed46]; exact List.mem_append_left _ ((by rw [← ed33]; exact List.mem_append_left _ ((by rw [← ed21]; exact List.mem_append_left _ ((by rw [← ed9]; exact List.mem_append_left _ (hm20)))))))))))))))))) (Or.inl rfl) ?_
  generalize eE113 : zuE E111 20 14 0 = E113
  replace K := K E113 eE113.symm
  refine Z.aload_n (k := 0) dX9_init_108 rfl ?_
  refine Z.aload_n (k := 1) dX9_init_109 rfl ?_
  refine Y.putR 0 dX9_init_110 zw_X9_55 (fun _ => ⟨rfl, rfl⟩) (rfl) rfl (by rw [← ed109]; exact List.mem_append_left _ ((by rw [← ed94]; exact List.mem_append_left _ ((by rw [← ed82]; exact List.mem_append_left _ ((by rw [← ed70]; exact List.mem_append_left _ ((by rw [← ed58]; exact List.mem_append_left _ ((by rw [← ed46]; exact List.mem_append_left _ ((by rw [← ed33]; exact List.mem_append_left _ ((by rw [← ed21]; exact List.mem_append_left _ ((by rw [← ed9]; exact List.mem_append_left _ (hm20)))))))))))))))))) (fun b hb => by cases hb; exact (by rw [← ed109]; exact List.mem_append_left _ ((by rw [← ed94]; exact List.mem_append_left _ ((by rw [← ed82]; exact List.mem_append_left _ ((by rw [← ed70]; exact List.mem_append_left _ ((by rw [← ed58]; exact List.mem_append_left _ ((by rw [← ed46]; exact List.mem_append_left _ ((by rw [← ed33]; exact List.mem_append_left _ ((by rw [← ed21]; exact List.mem_append_left _ ((by rw [← ed9]; exact List.mem_append_left _ (hm1))))))))))))))))))) ?_
  generalize eG114 : zuG G112 20 0 (some 1) = G114
  replace K := K G114 eG114.symm
  refine Z.aload_n (k := 0) dX9_init_113 rfl ?_
  refine Y.getR (o := (G114 20 2)) 2 dX9_init_114 zl_X9_15 (rfl) (by decide) rfl (by rw [← ed109]; exact List.mem_append_left _ ((by rw [← ed94]; exact List.mem_append_left _ ((by rw [← ed82]; exact List.mem_append_left _ ((by rw [← ed70]; exact List.mem_append_left _ ((by rw [← ed58]; exact List.mem_append_left _ ((by rw [← ed46]; exact List.mem_append_left _ ((by rw [← ed33]; exact List.mem_append_left _ ((by rw [← ed21]; exact List.mem_append_left _ ((by rw [← ed9]; exact List.mem_append_left _ (hm20)))))))))))))))))) rfl ?_
  refine Z.iconst (n := -1) dX9_init_117 ⟨by decide, by decide⟩ ?_
  obtain ⟨E115, m116, K⟩ := K
  refine Y.callS (g := zm_J7_fill_53178) (vs := [zO ((G114 20 2)), zI ((-1))]) (st := []) dX9_init_118 ⟨zg_J7_fill_53178.1, zg_J7_fill_53178.2.1, zg_J7_fill_53178.2.2, by decide⟩ ⟨Or.inl zk_X9_59, zs_J7_fill_53178⟩ rfl rfl (Nat.le_of_ble_eq_true rfl) m116 (Or.inl rfl) ?_
  show Z zm_X9_init kz Q 121 [(0, zR 20), (1, zR 1)] [] (d109, G114, E115)
  exact Z.vret dX9_init_121 rfl K
