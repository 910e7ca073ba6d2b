abbrev zm_L_law : zF := (yL_law, cL_law, 4, some .boolean, 13, 562)
theorem zk_L_9 : Cond.methodLink RL 9 zm_X11_init.1 ∈ zT := zTm 123 (by decide +kernel) rfl
theorem zk_L_12 : Cond.methodLink RL 12 zm_X12_init.1 ∈ zT := zTm 1133 (by decide +kernel) rfl
theorem zk_L_13 : Cond.methodLink RL 13 zm_X11_sign.1 ∈ zT := zTm 530 (by decide +kernel) rfl
theorem zk_L_17 : Cond.methodLink RL 17 zm_X12_sign.1 ∈ zT := zTm 1321 (by decide +kernel) rfl
theorem zk_L_18 : Cond.methodLink RL 18 zm_X11_draft.1 ∈ zT := zTm 538 (by decide +kernel) rfl
theorem zk_L_22 : Cond.methodLink RL 22 zm_X12_draft.1 ∈ zT := zTm 1328 (by decide +kernel) rfl
theorem zk_L_23 : Cond.methodLink RL 23 zm_X11_given.1 ∈ zT := zTm 542 (by decide +kernel) rfl
theorem zk_L_27 : Cond.methodLink RL 27 zm_X12_given.1 ∈ zT := zTm 1336 (by decide +kernel) rfl
theorem zk_L_28 : Cond.methodLink RL 28 zm_X11_wipe.1 ∈ zT := zTm 902 (by decide +kernel) rfl
theorem zk_L_31 : Cond.methodLink RL 31 zm_X12_wipe.1 ∈ zT := zTm 1332 (by decide +kernel) rfl
theorem zk_L_32 : Cond.methodLink RL 32 zm_X11_turns.1 ∈ zT := zTm 906 (by decide +kernel) rfl
theorem zk_L_35 : Cond.methodLink RL 35 zm_X12_turns.1 ∈ zT := zTm 1455 (by decide +kernel) rfl
theorem zk_L_36 : Cond.methodLink RL 36 zm_X11_fuel.1 ∈ zT := zTm 910 (by decide +kernel) rfl
theorem zk_L_39 : Cond.methodLink RL 39 zm_X12_fuel.1 ∈ zT := zTm 1459 (by decide +kernel) rfl
theorem zk_L_40 : Cond.methodLink RL 40 zm_X11_run.1 ∈ zT := zTm 914 (by decide +kernel) rfl
theorem zk_L_43 : Cond.methodLink RL 43 zm_X12_run.1 ∈ zT := zTm 1463 (by decide +kernel) rfl
theorem zk_L_44 : Cond.methodLink RL 44 zm_X11_clear.1 ∈ zT := zTm 1031 (by decide +kernel) rfl
theorem zk_L_47 : Cond.methodLink RL 47 zm_X12_clear.1 ∈ zT := zTm 1571 (by decide +kernel) rfl
theorem zk_L_48 : Cond.methodLink RL 48 zm_X11_claim.1 ∈ zT := zTm 1035 (by decide +kernel) rfl
theorem zk_L_52 : Cond.methodLink RL 52 zm_X12_claim.1 ∈ zT := zTm 1619 (by decide +kernel) rfl
theorem zk_L_53 : Cond.methodLink RL 53 zm_X11_literal.1 ∈ zT := zTm 1039 (by decide +kernel) rfl
theorem zk_L_57 : Cond.methodLink RL 57 zm_X12_literal.1 ∈ zT := zTm 1627 (by decide +kernel) rfl
theorem zk_L_58 : Cond.methodLink RL 58 zm_X11_step.1 ∈ zT := zTm 1046 (by decide +kernel) rfl
theorem zk_L_61 : Cond.methodLink RL 61 zm_X12_step.1 ∈ zT := zTm 1575 (by decide +kernel) rfl
theorem zk_L_62 : Cond.methodLink RL 62 zm_X11_forge.1 ∈ zT := zTm 1054 (by decide +kernel) rfl
theorem zk_L_65 : Cond.methodLink RL 65 zm_X12_forge.1 ∈ zT := zTm 1587 (by decide +kernel) rfl
theorem zk_L_66 : Cond.methodLink RL 66 zm_X11_judge.1 ∈ zT := zTm 1061 (by decide +kernel) rfl
theorem zk_L_69 : Cond.methodLink RL 69 zm_X12_judge.1 ∈ zT := zTm 1591 (by decide +kernel) rfl
theorem zk_L_70 : Cond.methodLink RL 70 zm_X11_proof.1 ∈ zT := zTm 1075 (by decide +kernel) rfl
theorem zk_L_73 : Cond.methodLink RL 73 zm_X12_proof.1 ∈ zT := zTm 1611 (by decide +kernel) rfl
theorem zk_L_74 : Cond.methodLink RL 74 zm_X11_order.1 ∈ zT := zTm 1095 (by decide +kernel) rfl
theorem zk_L_78 : Cond.methodLink RL 78 zm_X12_order.1 ∈ zT := zTm 1631 (by decide +kernel) rfl
theorem zk_L_79 : Cond.methodLink RL 79 zm_X11_takesIn.1 ∈ zT := zTm 1100 (by decide +kernel) rfl
theorem zk_L_82 : Cond.methodLink RL 82 zm_X12_takesIn.1 ∈ zT := zTm 1635 (by decide +kernel) rfl
theorem zk_L_83 : Cond.methodLink RL 83 zm_X11_count.1 ∈ zT := zTm 1105 (by decide +kernel) rfl
theorem zk_L_86 : Cond.methodLink RL 86 zm_X12_count.1 ∈ zT := zTm 1639 (by decide +kernel) rfl
theorem zk_L_87 : Cond.methodLink RL 87 zm_X11_digest.1 ∈ zT := zTm 1113 (by decide +kernel) rfl
theorem zk_L_91 : Cond.methodLink RL 91 zm_X12_digest.1 ∈ zT := zTm 1647 (by decide +kernel) rfl
theorem zc_L_7 : znw RL 7 11 := ⟨(RX11, TX11, 21), rfl, zTm 121 (by decide +kernel) rfl, zTm 122 (by decide +kernel) rfl, zTm 105 (by decide +kernel) rfl⟩
theorem zc_L_10 : znw RL 10 12 := ⟨(RX12, TX12, 61), rfl, zTm 1131 (by decide +kernel) rfl, zTm 1132 (by decide +kernel) rfl, zTm 117 (by decide +kernel) rfl⟩
set_option maxRecDepth 20000 in
theorem L_law_0 {kz : Nat × Nat} {Q : Option zV → zH → Prop} {d : List Nat} {G : Nat → Int → Option Nat} {E : Nat → Int → Int}   (K : 0 ∉ d ∧ ¬ zst3 0 ∧ d.length + 1 ≤ kz.1 ∧ zsl d + (zkd 0).2 ≤ kz.2 ∧ ∀ d_7 G_8 E_9, d_7 = d ++ [0] → G_8 = zclG G 0 → E_9 = zclE E 0 → (∃ d_10 G_11 E_12, zM zm_X11_init [zR 0] (d_7, G_8, E_9) none (d_10, G_11, E_12) ∧ (d_10 = d_7 ∨ d_10.length ≤ kz.1 ∧ zsl d_10 ≤ kz.2) ∧ 0 ∈ d_10 ∧ 50 ∉ d_10 ∧ ¬ zst3 50 ∧ d_10.length + 1 ≤ kz.1 ∧ zsl d_10 + (zkd 50).2 ≤ kz.2 ∧ ∀ d_22 G_23 E_24, d_22 = d_10 ++ [50] → G_23 = zclG G_11 50 → E_24 = zclE E_12 50 → (∃ d_25 G_26 E_27, zM zm_X12_init [zR 50] (d_22, G_23, E_24) none (d_25, G_26, E_27) ∧ (d_25 = d_22 ∨ d_25.length ≤ kz.1 ∧ zsl d_25 ≤ kz.2) ∧ 0 ∈ d_25 ∧ 50 ∈ d_25 ∧ Z zm_L_law kz Q 18 [(0, zR 193), (1, zR 0), (2, zR 50), (3, zI 0)] [] (d_25, G_26, E_27)))) : Z zm_L_law kz Q 0 [(0, zR 193)] [] (d, G, E) := by
  obtain ⟨z_3, z_4, z_5, z_6, K⟩ := K
  refine Y.new 0 dL_law_0 zc_L_7 rfl z_3 z_4 z_5 z_6 ?_
  generalize ed_7 : d ++ [0] = d_7
  generalize eG_8 : zclG G 0 = G_8
  generalize eE_9 : zclE E 0 = E_9
  replace K := K d_7 G_8 E_9 ed_7.symm eG_8.symm eE_9.symm
  refine Z.dup_i dL_law_3 (fun _ => rfl) ?_
  obtain ⟨d_10, G_11, E_12, m_13, z_14, K⟩ := K
  refine Y.callI (g := zm_X11_init) (vs := []) (st := [zR 0]) dL_law_4 ⟨zg_X11_init.1, zg_X11_init.2.1, zg_X11_init.2.2, by decide⟩ ⟨Or.inl zk_L_9, zi_X11_init⟩ rfl rfl rfl rfl (Nat.le_of_ble_eq_true rfl) m_13 z_14 ?_
  show Z zm_L_law kz Q 7 [(0, zR 193)] [zR 0] (d_10, G_11, E_12)
  obtain ⟨hm_15, K⟩ := K
  refine Z.astore_n (ls' := [(1, zR 0), (0, zR 193)]) dL_law_7 (by decide) rfl ?_
  obtain ⟨z_18, z_19, z_20, z_21, K⟩ := K
  refine Y.new 50 dL_law_8 zc_L_10 rfl z_18 z_19 z_20 z_21 ?_
  generalize ed_22 : d_10 ++ [50] = d_22
  generalize eG_23 : zclG G_11 50 = G_23
  generalize eE_24 : zclE E_12 50 = E_24
  replace K := K d_22 G_23 E_24 ed_22.symm eG_23.symm eE_24.symm
  refine Z.dup_i dL_law_11 (fun _ => rfl) ?_
  obtain ⟨d_25, G_26, E_27, m_28, z_29, K⟩ := K
  refine Y.callI (g := zm_X12_init) (vs := []) (st := [zR 50]) dL_law_12 ⟨zg_X12_init.1, zg_X12_init.2.1, zg_X12_init.2.2, by decide⟩ ⟨Or.inl zk_L_12, zi_X12_init⟩ rfl rfl rfl rfl (Nat.le_of_ble_eq_true rfl) m_28 z_29 ?_
  show Z zm_L_law kz Q 15 [(1, zR 0), (0, zR 193)] [zR 50] (d_25, G_26, E_27)
  obtain ⟨hm_30, hm_31, K⟩ := K
  refine Z.astore_n (ls' := [(2, zR 50), (1, zR 0), (0, zR 193)]) dL_law_15 (by decide) rfl ?_
  refine Z.iconst (n := 0) dL_law_16 ⟨by decide, by decide⟩ ?_
  refine Z.istore_n (ls' := [(3, zI 0), (2, zR 50), (1, zR 0), (0, zR 193)]) dL_law_17 (by decide) rfl ?_
  refine Z.pick (ls' := [(0, zR 193), (1, zR 0), (2, zR 50), (3, zI 0)]) [3, 2, 1, 0] rfl ?_
  exact K
set_option maxRecDepth 20000 in
theorem L_law_18 {kz : Nat × Nat} {Q : Option zV → zH → Prop} {d : List Nat} {G : Nat → Int → Option Nat} {E : Nat → Int → Int} {v3 : Int} (hm0 : 0 ∈ d) (hm50 : 50 ∈ d) (K : zin ((E 194 0) - 5) ∧ (((E 194 0) - 5) < v3 → Q (some (zI 1)) (d, G, E)) ∧ (¬ (((E 194 0) - 5) < v3) → ((0 : Int) ≤ v3 ∧ v3 < E 194 0) ∧ ((zand (E 193 v3) 31) = 0 → zin (v3 + 1) ∧ ((0 : Int) ≤ (v3 + 1) ∧ (v3 + 1) < E 194 0) ∧ ((E 193 (v3 + 1)) = 0 → zin (v3 + 2) ∧ ((0 : Int) ≤ (v3 + 2) ∧ (v3 + 2) < E 194 0) ∧ zin (v3 + 3) ∧ ((0 : Int) ≤ (v3 + 3) ∧ (v3 + 3) < E 194 0) ∧ ∃ x_12 E_13, zM zm_X11_sign [zR 0, zI 0, zI ((E 193 (v3 + 2))), zI ((E 193 (v3 + 3)))] (d, G, E) (some (zI x_12)) (d, G, E_13) ∧ zin (v3 + 1) ∧ ((0 : Int) ≤ (v3 + 1) ∧ (v3 + 1) < E_13 194 0) ∧ ((E_13 193 (v3 + 1)) = 0 → zin (v3 + 2) ∧ ((0 : Int) ≤ (v3 + 2) ∧ (v3 + 2) < E_13 194 0) ∧ zin (v3 + 3) ∧ ((0 : Int) ≤ (v3 + 3) ∧ (v3 + 3) < E_13 194 0) ∧ ∃ x_23 E_24, zM zm_X12_sign [zR 50, zI 0, zI ((E_13 193 (v3 + 2))), zI ((E_13 193 (v3 + 3)))] (d, G, E_13) (some (zI x_23)) (d, G, E_24) ∧ (x_12 = x_23 → zin (v3 + 5) ∧ Z zm_L_law kz Q 18 [(0, zR 193), (1, zR 0), (2, zR 50), (3, zI ((v3 + 5)))] [] (d, G, E_24)) ∧ (¬ (x_12 = x_23) → Q (some (zI 0)) (d, G, E_24))) ∧ (¬ ((E_13 193 (v3 + 1)) = 0) → zin (v3 + 2) ∧ ((0 : Int) ≤ (v3 + 2) ∧ (v3 + 2) < E_13 194 0) ∧ zin (v3 + 3) ∧ ((0 : Int) ≤ (v3 + 3) ∧ (v3 + 3) < E_13 194 0) ∧ ∃ x_33 E_34, zM zm_X12_sign [zR 50, zI 1, zI ((E_13 193 (v3 + 2))), zI ((E_13 193 (v3 + 3)))] (d, G, E_13) (some (zI x_33)) (d, G, E_34) ∧ (x_12 = x_33 → zin (v3 + 5) ∧ Z zm_L_law kz Q 18 [(0, zR 193), (1, zR 0), (2, zR 50), (3, zI ((v3 + 5)))] [] (d, G, E_34)) ∧ (¬ (x_12 = x_33) → Q (some (zI 0)) (d, G, E_34)))) ∧ (¬ ((E 193 (v3 + 1)) = 0) → zin (v3 + 2) ∧ ((0 : Int) ≤ (v3 + 2) ∧ (v3 + 2) < E 194 0) ∧ zin (v3 + 3) ∧ ((0 : Int) ≤ (v3 + 3) ∧ (v3 + 3) < E 194 0) ∧ ∃ x_43 E_44, zM zm_X11_sign [zR 0, zI 1, zI ((E 193 (v3 + 2))), zI ((E 193 (v3 + 3)))] (d, G, E) (some (zI x_43)) (d, G, E_44) ∧ zin (v3 + 1) ∧ ((0 : Int) ≤ (v3 + 1) ∧ (v3 + 1) < E_44 194 0) ∧ ((E_44 193 (v3 + 1)) = 0 → zin (v3 + 2) ∧ ((0 : Int) ≤ (v3 + 2) ∧ (v3 + 2) < E_44 194 0) ∧ zin (v3 + 3) ∧ ((0 : Int) ≤ (v3 + 3) ∧ (v3 + 3) < E_44 194 0) ∧ ∃ x_54 E_55, zM zm_X12_sign [zR 50, zI 0, zI ((E_44 193 (v3 + 2))), zI ((E_44 193 (v3 + 3)))] (d, G, E_44) (some (zI x_54)) (d, G, E_55) ∧ (x_43 = x_54 → zin (v3 + 5) ∧ Z zm_L_law kz Q 18 [(0, zR 193), (1, zR 0), (2, zR 50), (3, zI ((v3 + 5)))] [] (d, G, E_55)) ∧ (¬ (x_43 = x_54) → Q (some (zI 0)) (d, G, E_55))) ∧ (¬ ((E_44 193 (v3 + 1)) = 0) → zin (v3 + 2) ∧ ((0 : Int) ≤ (v3 + 2) ∧ (v3 + 2) < E_44 194 0) ∧ zin (v3 + 3) ∧ ((0 : Int) ≤ (v3 + 3) ∧ (v3 + 3) < E_44 194 0) ∧ ∃ x_64 E_65, zM zm_X12_sign [zR 50, zI 1, zI ((E_44 193 (v3 + 2))), zI ((E_44 193 (v3 + 3)))] (d, G, E_44) (some (zI x_64)) (d, G, E_65) ∧ (x_43 = x_64 → zin (v3 + 5) ∧ Z zm_L_law kz Q 18 [(0, zR 193), (1, zR 0), (2, zR 50), (3, zI ((v3 + 5)))] [] (d, G, E_65)) ∧ (¬ (x_43 = x_64) → Q (some (zI 0)) (d, G, E_65))))) ∧ ((zand (E 193 v3) 31) = 1 → zin (v3 + 1) ∧ ((0 : Int) ≤ (v3 + 1) ∧ (v3 + 1) < E 194 0) ∧ ∃ x_73 E_74, zM zm_X11_draft [zR 0, zI ((E 193 (v3 + 1)))] (d, G, E) (some (zI x_73)) (d, G, E_74) ∧ zin (v3 + 1) ∧ ((0 : Int) ≤ (v3 + 1) ∧ (v3 + 1) < E_74 194 0) ∧ ∃ x_79 E_80, zM zm_X12_draft [zR 50, zI ((E_74 193 (v3 + 1)))] (d, G, E_74) (some (zI x_79)) (d, G, E_80) ∧ (x_73 = x_79 → zin (v3 + 5) ∧ Z zm_L_law kz Q 18 [(0, zR 193), (1, zR 0), (2, zR 50), (3, zI ((v3 + 5)))] [] (d, G, E_80)) ∧ (¬ (x_73 = x_79) → Q (some (zI 0)) (d, G, E_80))) ∧ ((zand (E 193 v3) 31) = 2 → ∃ x_86 d_87 G_88 E_89, zM zm_X11_given [zR 0] (d, G, E) (some (zI x_86)) (d_87, G_88, E_89) ∧ (d_87 = d ∨ d_87.length ≤ kz.1 ∧ zsl d_87 ≤ kz.2) ∧ 0 ∈ d_87 ∧ 50 ∈ d_87 ∧ ∃ x_94 E_95, zM zm_X12_given [zR 50] (d_87, G_88, E_89) (some (zI x_94)) (d_87, G_88, E_95) ∧ (x_86 = x_94 → zin (v3 + 5) ∧ Z zm_L_law kz Q 18 [(0, zR 193), (1, zR 0), (2, zR 50), (3, zI ((v3 + 5)))] [] (d_87, G_88, E_95)) ∧ (¬ (x_86 = x_94) → Q (some (zI 0)) (d_87, G_88, E_95))) ∧ ((zand (E 193 v3) 31) = 3 → ∃ x_101 E_102, zM zm_X11_wipe [zR 0] (d, G, E) (some (zI x_101)) (d, G, E_102) ∧ ∃ x_105 E_106, zM zm_X12_wipe [zR 50] (d, G, E_102) (some (zI x_105)) (d, G, E_106) ∧ (x_101 = x_105 → zin (v3 + 5) ∧ Z zm_L_law kz Q 18 [(0, zR 193), (1, zR 0), (2, zR 50), (3, zI ((v3 + 5)))] [] (d, G, E_106)) ∧ (¬ (x_101 = x_105) → Q (some (zI 0)) (d, G, E_106))) ∧ ((zand (E 193 v3) 31) = 4 → zin (v3 + 1) ∧ ((0 : Int) ≤ (v3 + 1) ∧ (v3 + 1) < E 194 0) ∧ ∃ x_114 E_115, zM zm_X11_turns [zR 0, zI ((E 193 (v3 + 1)))] (d, G, E) (some (zI x_114)) (d, G, E_115) ∧ zin (v3 + 1) ∧ ((0 : Int) ≤ (v3 + 1) ∧ (v3 + 1) < E_115 194 0) ∧ ∃ x_120 E_121, zM zm_X12_turns [zR 50, zI ((E_115 193 (v3 + 1)))] (d, G, E_115) (some (zI x_120)) (d, G, E_121) ∧ (x_114 = x_120 → zin (v3 + 5) ∧ Z zm_L_law kz Q 18 [(0, zR 193), (1, zR 0), (2, zR 50), (3, zI ((v3 + 5)))] [] (d, G, E_121)) ∧ (¬ (x_114 = x_120) → Q (some (zI 0)) (d, G, E_121))) ∧ ((zand (E 193 v3) 31) = 5 → zin (v3 + 1) ∧ ((0 : Int) ≤ (v3 + 1) ∧ (v3 + 1) < E 194 0) ∧ ∃ x_129 E_130, zM zm_X11_fuel [zR 0, zI ((E 193 (v3 + 1)))] (d, G, E) (some (zI x_129)) (d, G, E_130) ∧ zin (v3 + 1) ∧ ((0 : Int) ≤ (v3 + 1) ∧ (v3 + 1) < E_130 194 0) ∧ ∃ x_135 E_136, zM zm_X12_fuel [zR 50, zI ((E_130 193 (v3 + 1)))] (d, G, E_130) (some (zI x_135)) (d, G, E_136) ∧ (x_129 = x_135 → zin (v3 + 5) ∧ Z zm_L_law kz Q 18 [(0, zR 193), (1, zR 0), (2, zR 50), (3, zI ((v3 + 5)))] [] (d, G, E_136)) ∧ (¬ (x_129 = x_135) → Q (some (zI 0)) (d, G, E_136))) ∧ ((zand (E 193 v3) 31) = 6 → zin (v3 + 1) ∧ ((0 : Int) ≤ (v3 + 1) ∧ (v3 + 1) < E 194 0) ∧ ∃ x_144 d_145 G_146 E_147, zM zm_X11_run [zR 0, zI ((E 193 (v3 + 1)))] (d, G, E) (some (zI x_144)) (d_145, G_146, E_147) ∧ (d_145 = d ∨ d_145.length ≤ kz.1 ∧ zsl d_145 ≤ kz.2) ∧ 0 ∈ d_145 ∧ 50 ∈ d_145 ∧ zin (v3 + 1) ∧ ((0 : Int) ≤ (v3 + 1) ∧ (v3 + 1) < E_147 194 0) ∧ ∃ x_154 E_155, zM zm_X12_run [zR 50, zI ((E_147 193 (v3 + 1)))] (d_145, G_146, E_147) (some (zI x_154)) (d_145, G_146, E_155) ∧ (x_144 = x_154 → zin (v3 + 5) ∧ Z zm_L_law kz Q 18 [(0, zR 193), (1, zR 0), (2, zR 50), (3, zI ((v3 + 5)))] [] (d_145, G_146, E_155)) ∧ (¬ (x_144 = x_154) → Q (some (zI 0)) (d_145, G_146, E_155))) ∧ ((zand (E 193 v3) 31) = 7 → ∃ x_161 E_162, zM zm_X11_clear [zR 0] (d, G, E) (some (zI x_161)) (d, G, E_162) ∧ ∃ x_165 E_166, zM zm_X12_clear [zR 50] (d, G, E_162) (some (zI x_165)) (d, G, E_166) ∧ (x_161 = x_165 → zin (v3 + 5) ∧ Z zm_L_law kz Q 18 [(0, zR 193), (1, zR 0), (2, zR 50), (3, zI ((v3 + 5)))] [] (d, G, E_166)) ∧ (¬ (x_161 = x_165) → Q (some (zI 0)) (d, G, E_166))) ∧ ((zand (E 193 v3) 31) = 8 → zin (v3 + 1) ∧ ((0 : Int) ≤ (v3 + 1) ∧ (v3 + 1) < E 194 0) ∧ zin (v3 + 2) ∧ ((0 : Int) ≤ (v3 + 2) ∧ (v3 + 2) < E 194 0) ∧ ∃ x_176, zM zm_X11_claim [zR 0, zI ((E 193 (v3 + 1))), zI ((E 193 (v3 + 2)))] (d, G, E) (some (zI x_176)) (d, G, E) ∧ zin (v3 + 1) ∧ ((0 : Int) ≤ (v3 + 1) ∧ (v3 + 1) < E 194 0) ∧ zin (v3 + 2) ∧ ((0 : Int) ≤ (v3 + 2) ∧ (v3 + 2) < E 194 0) ∧ ∃ x_183, zM zm_X12_claim [zR 50, zI ((E 193 (v3 + 1))), zI ((E 193 (v3 + 2)))] (d, G, E) (some (zI x_183)) (d, G, E) ∧ (x_176 = x_183 → zin (v3 + 5) ∧ Z zm_L_law kz Q 18 [(0, zR 193), (1, zR 0), (2, zR 50), (3, zI ((v3 + 5)))] [] (d, G, E)) ∧ (¬ (x_176 = x_183) → Q (some (zI 0)) (d, G, E))) ∧ ((zand (E 193 v3) 31) = 9 → zin (v3 + 1) ∧ ((0 : Int) ≤ (v3 + 1) ∧ (v3 + 1) < E 194 0) ∧ zin (v3 + 2) ∧ ((0 : Int) ≤ (v3 + 2) ∧ (v3 + 2) < E 194 0) ∧ zin (v3 + 3) ∧ ((0 : Int) ≤ (v3 + 3) ∧ (v3 + 3) < E 194 0) ∧ ∃ x_195, zM zm_X11_literal [zR 0, zI ((E 193 (v3 + 1))), zI ((E 193 (v3 + 2))), zI ((E 193 (v3 + 3)))] (d, G, E) (some (zI x_195)) (d, G, E) ∧ zin (v3 + 1) ∧ ((0 : Int) ≤ (v3 + 1) ∧ (v3 + 1) < E 194 0) ∧ zin (v3 + 2) ∧ ((0 : Int) ≤ (v3 + 2) ∧ (v3 + 2) < E 194 0) ∧ zin (v3 + 3) ∧ ((0 : Int) ≤ (v3 + 3) ∧ (v3 + 3) < E 194 0) ∧ ∃ x_204, zM zm_X12_literal [zR 50, zI ((E 193 (v3 + 1))), zI ((E 193 (v3 + 2))), zI ((E 193 (v3 + 3)))] (d, G, E) (some (zI x_204)) (d, G, E) ∧ (x_195 = x_204 → zin (v3 + 5) ∧ Z zm_L_law kz Q 18 [(0, zR 193), (1, zR 0), (2, zR 50), (3, zI ((v3 + 5)))] [] (d, G, E)) ∧ (¬ (x_195 = x_204) → Q (some (zI 0)) (d, G, E))) ∧ ((zand (E 193 v3) 31) = 10 → zin (v3 + 1) ∧ ((0 : Int) ≤ (v3 + 1) ∧ (v3 + 1) < E 194 0) ∧ zin (v3 + 2) ∧ ((0 : Int) ≤ (v3 + 2) ∧ (v3 + 2) < E 194 0) ∧ ∃ x_214, zM zm_X11_step [zR 0, zI ((E 193 (v3 + 1))), zI ((E 193 (v3 + 2)))] (d, G, E) (some (zI x_214)) (d, G, E) ∧ zin (v3 + 1) ∧ ((0 : Int) ≤ (v3 + 1) ∧ (v3 + 1) < E 194 0) ∧ zin (v3 + 2) ∧ ((0 : Int) ≤ (v3 + 2) ∧ (v3 + 2) < E 194 0) ∧ ∃ x_221, zM zm_X12_step [zR 50, zI ((E 193 (v3 + 1))), zI ((E 193 (v3 + 2)))] (d, G, E) (some (zI x_221)) (d, G, E) ∧ (x_214 = x_221 → zin (v3 + 5) ∧ Z zm_L_law kz Q 18 [(0, zR 193), (1, zR 0), (2, zR 50), (3, zI ((v3 + 5)))] [] (d, G, E)) ∧ (¬ (x_214 = x_221) → Q (some (zI 0)) (d, G, E))) ∧ ((zand (E 193 v3) 31) = 11 → zin (v3 + 1) ∧ ((0 : Int) ≤ (v3 + 1) ∧ (v3 + 1) < E 194 0) ∧ zin (v3 + 2) ∧ ((0 : Int) ≤ (v3 + 2) ∧ (v3 + 2) < E 194 0) ∧ zin (v3 + 3) ∧ ((0 : Int) ≤ (v3 + 3) ∧ (v3 + 3) < E 194 0) ∧ ∃ x_233 E_234, zM zm_X11_forge [zR 0, zI ((E 193 (v3 + 1))), zI ((E 193 (v3 + 2))), zI ((E 193 (v3 + 3)))] (d, G, E) (some (zI x_233)) (d, G, E_234) ∧ zin (v3 + 1) ∧ ((0 : Int) ≤ (v3 + 1) ∧ (v3 + 1) < E_234 194 0) ∧ zin (v3 + 2) ∧ ((0 : Int) ≤ (v3 + 2) ∧ (v3 + 2) < E_234 194 0) ∧ zin (v3 + 3) ∧ ((0 : Int) ≤ (v3 + 3) ∧ (v3 + 3) < E_234 194 0) ∧ ∃ x_243 E_244, zM zm_X12_forge [zR 50, zI ((E_234 193 (v3 + 1))), zI ((E_234 193 (v3 + 2))), zI ((E_234 193 (v3 + 3)))] (d, G, E_234) (some (zI x_243)) (d, G, E_244) ∧ (x_233 = x_243 → zin (v3 + 5) ∧ Z zm_L_law kz Q 18 [(0, zR 193), (1, zR 0), (2, zR 50), (3, zI ((v3 + 5)))] [] (d, G, E_244)) ∧ (¬ (x_233 = x_243) → Q (some (zI 0)) (d, G, E_244))) ∧ ((zand (E 193 v3) 31) = 12 → zin (v3 + 1) ∧ ((0 : Int) ≤ (v3 + 1) ∧ (v3 + 1) < E 194 0) ∧ ∃ x_252 E_253, zM zm_X11_judge [zR 0, zI ((E 193 (v3 + 1)))] (d, G, E) (some (zI x_252)) (d, G, E_253) ∧ zin (v3 + 1) ∧ ((0 : Int) ≤ (v3 + 1) ∧ (v3 + 1) < E_253 194 0) ∧ ∃ x_258 E_259, zM zm_X12_judge [zR 50, zI ((E_253 193 (v3 + 1)))] (d, G, E_253) (some (zI x_258)) (d, G, E_259) ∧ (x_252 = x_258 → zin (v3 + 5) ∧ Z zm_L_law kz Q 18 [(0, zR 193), (1, zR 0), (2, zR 50), (3, zI ((v3 + 5)))] [] (d, G, E_259)) ∧ (¬ (x_252 = x_258) → Q (some (zI 0)) (d, G, E_259))) ∧ ((zand (E 193 v3) 31) = 13 → zin (v3 + 1) ∧ ((0 : Int) ≤ (v3 + 1) ∧ (v3 + 1) < E 194 0) ∧ ∃ x_267 E_268, zM zm_X11_proof [zR 0, zI ((E 193 (v3 + 1)))] (d, G, E) (some (zI x_267)) (d, G, E_268) ∧ zin (v3 + 1) ∧ ((0 : Int) ≤ (v3 + 1) ∧ (v3 + 1) < E_268 194 0) ∧ ∃ x_273 E_274, zM zm_X12_proof [zR 50, zI ((E_268 193 (v3 + 1)))] (d, G, E_268) (some (zI x_273)) (d, G, E_274) ∧ (x_267 = x_273 → zin (v3 + 5) ∧ Z zm_L_law kz Q 18 [(0, zR 193), (1, zR 0), (2, zR 50), (3, zI ((v3 + 5)))] [] (d, G, E_274)) ∧ (¬ (x_267 = x_273) → Q (some (zI 0)) (d, G, E_274))) ∧ ((zand (E 193 v3) 31) = 14 → zin (v3 + 1) ∧ ((0 : Int) ≤ (v3 + 1) ∧ (v3 + 1) < E 194 0) ∧ zin (v3 + 2) ∧ ((0 : Int) ≤ (v3 + 2) ∧ (v3 + 2) < E 194 0) ∧ zin (v3 + 3) ∧ ((0 : Int) ≤ (v3 + 3) ∧ (v3 + 3) < E 194 0) ∧ zin (v3 + 4) ∧ ((0 : Int) ≤ (v3 + 4) ∧ (v3 + 4) < E 194 0) ∧ ∃ x_288 E_289, zM zm_X11_order [zR 0, zI ((E 193 (v3 + 1))), zI ((E 193 (v3 + 2))), zI ((E 193 (v3 + 3))), zI ((E 193 (v3 + 4)))] (d, G, E) (some (zI x_288)) (d, G, E_289) ∧ zin (v3 + 1) ∧ ((0 : Int) ≤ (v3 + 1) ∧ (v3 + 1) < E_289 194 0) ∧ zin (v3 + 2) ∧ ((0 : Int) ≤ (v3 + 2) ∧ (v3 + 2) < E_289 194 0) ∧ zin (v3 + 3) ∧ ((0 : Int) ≤ (v3 + 3) ∧ (v3 + 3) < E_289 194 0) ∧ zin (v3 + 4) ∧ ((0 : Int) ≤ (v3 + 4) ∧ (v3 + 4) < E_289 194 0) ∧ ∃ x_300 E_301, zM zm_X12_order [zR 50, zI ((E_289 193 (v3 + 1))), zI ((E_289 193 (v3 + 2))), zI ((E_289 193 (v3 + 3))), zI ((E_289 193 (v3 + 4)))] (d, G, E_289) (some (zI x_300)) (d, G, E_301) ∧ (x_288 = x_300 → zin (v3 + 5) ∧ Z zm_L_law kz Q 18 [(0, zR 193), (1, zR 0), (2, zR 50), (3, zI ((v3 + 5)))] [] (d, G, E_301)) ∧ (¬ (x_288 = x_300) → Q (some (zI 0)) (d, G, E_301))) ∧ ((zand (E 193 v3) 31) = 15 → zin (v3 + 1) ∧ ((0 : Int) ≤ (v3 + 1) ∧ (v3 + 1) < E 194 0) ∧ zin (v3 + 2) ∧ ((0 : Int) ≤ (v3 + 2) ∧ (v3 + 2) < E 194 0) ∧ ∃ x_311 E_312, zM zm_X11_takesIn [zR 0, zI ((E 193 (v3 + 1))), zI ((E 193 (v3 + 2)))] (d, G, E) (some (zI x_311)) (d, G, E_312) ∧ zin (v3 + 1) ∧ ((0 : Int) ≤ (v3 + 1) ∧ (v3 + 1) < E_312 194 0) ∧ zin (v3 + 2) ∧ ((0 : Int) ≤ (v3 + 2) ∧ (v3 + 2) < E_312 194 0) ∧ ∃ x_319 E_320, zM zm_X12_takesIn [zR 50, zI ((E_312 193 (v3 + 1))), zI ((E_312 193 (v3 + 2)))] (d, G, E_312) (some (zI x_319)) (d, G, E_320) ∧ (x_311 = x_319 → zin (v3 + 5) ∧ Z zm_L_law kz Q 18 [(0, zR 193), (1, zR 0), (2, zR 50), (3, zI ((v3 + 5)))] [] (d, G, E_320)) ∧ (¬ (x_311 = x_319) → Q (some (zI 0)) (d, G, E_320))) ∧ ((zand (E 193 v3) 31) = 16 → zin (v3 + 1) ∧ ((0 : Int) ≤ (v3 + 1) ∧ (v3 + 1) < E 194 0) ∧ ∃ x_328, zM zm_X11_count [zR 0, zI ((E 193 (v3 + 1)))] (d, G, E) (some (zI x_328)) (d, G, E) ∧ zin (v3 + 1) ∧ ((0 : Int) ≤ (v3 + 1) ∧ (v3 + 1) < E 194 0) ∧ ∃ x_333, zM zm_X12_count [zR 50, zI ((E 193 (v3 + 1)))] (d, G, E) (some (zI x_333)) (d, G, E) ∧ (x_328 = x_333 → zin (v3 + 5) ∧ Z zm_L_law kz Q 18 [(0, zR 193), (1, zR 0), (2, zR 50), (3, zI ((v3 + 5)))] [] (d, G, E)) ∧ (¬ (x_328 = x_333) → Q (some (zI 0)) (d, G, E))) ∧ ((zand (E 193 v3) 31) = 17 → ∃ x_339, zM zm_X11_digest [zR 0] (d, G, E) (some (zL x_339)) (d, G, E) ∧ ∃ x_342, zM zm_X12_digest [zR 50] (d, G, E) (some (zL x_342)) (d, G, E) ∧ ((zlcmp x_339 x_342) = 0 → zin (v3 + 5) ∧ Z zm_L_law kz Q 18 [(0, zR 193), (1, zR 0), (2, zR 50), (3, zI ((v3 + 5)))] [] (d, G, E)) ∧ (¬ ((zlcmp x_339 x_342) = 0) → Q (some (zI 0)) (d, G, E))) ∧ (((zand (E 193 v3) 31) < 0 ∨ 17 < (zand (E 193 v3) 31)) → zin (v3 + 5) ∧ Z zm_L_law kz Q 18 [(0, zR 193), (1, zR 0), (2, zR 50), (3, zI ((v3 + 5)))] [] (d, G, E)))) : Z zm_L_law kz Q 18 [(0, zR 193), (1, zR 0), (2, zR 50), (3, zI v3)] [] (d, G, E) := by
  refine Z.iload_n (k := 3) dL_law_18 rfl ?_
  refine Z.aload_n (k := 0) dL_law_19 rfl ?_
  refine Y.slen dL_law_20 ?_
  refine Z.iconst (n := 5) dL_law_21 ⟨by decide, by decide⟩ ?_
  obtain ⟨z_1, K⟩ := K
  refine Z.isub dL_law_22 z_1 ?_
  refine Z.icmp_gt 637 dL_law_23 rfl ⟨fun c_2 => ?_, fun c_2 => ?_⟩
  · replace K := K.1 c_2
    refine Z.iconst (n := 1) dL_law_637 ⟨by decide, by decide⟩ ?_
    exact Z.iret (ty := .boolean) dL_law_638 rfl rfl K
  · replace K := K.2 c_2
    refine Z.aload_n (k := 0) dL_law_26 rfl ?_
    refine Z.iload_n (k := 3) dL_law_27 rfl ?_
    obtain ⟨z_3, K⟩ := K
    refine Y.sld dL_law_28 z_3 ?_
    refine Z.bipush (n := 31) dL_law_29 ⟨by decide, by decide⟩ (by decide) ?_
    refine Z.iand dL_law_31 ?_
    by_cases c_4 : (zand (E 193 v3) 31) = 0
    · replace K := K.1 c_4
      refine Z.tableIn (off := 88) 120 dL_law_32 (by omega) (by omega) (by rw [c_4]; rfl) rfl ?_
      refine Z.aload_n (k := 1) dL_law_120 rfl ?_
      refine Z.aload_n (k := 0) dL_law_121 rfl ?_
      refine Z.iload_n (k := 3) dL_law_122 rfl ?_
      refine Z.iconst (n := 1) dL_law_123 ⟨by decide, by decide⟩ ?_
      obtain ⟨z_5, K⟩ := K
      refine Z.iadd dL_law_124 z_5 ?_
      obtain ⟨z_6, K⟩ := K
      refine Y.sld dL_law_125 z_6 ?_
      refine Z.if_eq 133 dL_law_126 rfl ⟨fun c_7 => ?_, fun c_7 => ?_⟩
      · replace K := K.1 c_7
        refine Z.iconst (n := 0) dL_law_133 ⟨by decide, by decide⟩ ?_
        refine Z.aload_n (k := 0) dL_law_134 rfl ?_
        refine Z.iload_n (k := 3) dL_law_135 rfl ?_
        refine Z.iconst (n := 2) dL_law_136 ⟨by decide, by decide⟩ ?_
        obtain ⟨z_8, K⟩ := K
        refine Z.iadd dL_law_137 z_8 ?_
        obtain ⟨z_9, K⟩ := K
        refine Y.sld dL_law_138 z_9 ?_
        refine Z.aload_n (k := 0) dL_law_139 rfl ?_
        refine Z.iload_n (k := 3) dL_law_140 rfl ?_
        refine Z.iconst (n := 3) dL_law_141 ⟨by decide, by decide⟩ ?_
        obtain ⟨z_10, K⟩ := K
        refine Z.iadd dL_law_142 z_10 ?_
        obtain ⟨z_11, K⟩ := K
        refine Y.sld dL_law_143 z_11 ?_
        obtain ⟨x_12, E_13, m_14, K⟩ := K
        refine Y.callV (g := zm_X11_sign) (vs := [zI 0, zI ((E 193 (v3 + 2))), zI ((E 193 (v3 + 3)))]) (st := []) dL_law_144 ⟨zg_X11_sign.1, zg_X11_sign.2.1, zg_X11_sign.2.2, by decide⟩ ⟨zk_L_13, zv_X11_sign⟩ (ci := 11) (rfl) rfl (hm0) rfl rfl (Nat.le_of_ble_eq_true rfl) m_14 (Or.inl rfl) ?_
        show Z zm_L_law kz Q 147 [(0, zR 193), (1, zR 0), (2, zR 50), (3, zI v3)] [zI x_12] (d, G, E_13)
        refine Z.aload_n (k := 2) dL_law_147 rfl ?_
        refine Z.aload_n (k := 0) dL_law_148 rfl ?_
        refine Z.iload_n (k := 3) dL_law_149 rfl ?_
        refine Z.iconst (n := 1) dL_law_150 ⟨by decide, by decide⟩ ?_
        obtain ⟨z_16, K⟩ := K
        refine Z.iadd dL_law_151 z_16 ?_
        obtain ⟨z_17, K⟩ := K
        refine Y.sld dL_law_152 z_17 ?_
        refine Z.if_eq 160 dL_law_153 rfl ⟨fun c_18 => ?_, fun c_18 => ?_⟩
        · replace K := K.1 c_18
          refine Z.iconst (n := 0) dL_law_160 ⟨by decide, by decide⟩ ?_
          refine Z.aload_n (k := 0) dL_law_161 rfl ?_
          refine Z.iload_n (k := 3) dL_law_162 rfl ?_
          refine Z.iconst (n := 2) dL_law_163 ⟨by decide, by decide⟩ ?_
          obtain ⟨z_19, K⟩ := K
          refine Z.iadd dL_law_164 z_19 ?_
          obtain ⟨z_20, K⟩ := K
          refine Y.sld dL_law_165 z_20 ?_
          refine Z.aload_n (k := 0) dL_law_166 rfl ?_
          refine Z.iload_n (k := 3) dL_law_167 rfl ?_
          refine Z.iconst (n := 3) dL_law_168 ⟨by decide, by decide⟩ ?_
          obtain ⟨z_21, K⟩ := K
          refine Z.iadd dL_law_169 z_21 ?_
          obtain ⟨z_22, K⟩ := K
          refine Y.sld dL_law_170 z_22 ?_
          obtain ⟨x_23, E_24, m_25, K⟩ := K
          refine Y.callV (g := zm_X12_sign) (vs := [zI 0, zI ((E_13 193 (v3 + 2))), zI ((E_13 193 (v3 + 3)))]) (st := [zI x_12]) dL_law_171 ⟨zg_X12_sign.1, zg_X12_sign.2.1, zg_X12_sign.2.2, by decide⟩ ⟨zk_L_17, zv_X12_sign⟩ (ci := 12) (rfl) rfl (hm50) rfl rfl (Nat.le_of_ble_eq_true rfl) m_25 (Or.inl rfl) ?_
          show Z zm_L_law kz Q 174 [(0, zR 193), (1, zR 0), (2, zR 50), (3, zI v3)] [zI x_23, zI x_12] (d, G, E_24)
          refine Z.icmp_eq 631 dL_law_174 rfl ⟨fun c_27 => ?_, fun c_27 => ?_⟩
          · replace K := K.1 c_27
            obtain ⟨z_28, K⟩ := K
            refine Z.iinc (k := 3) (ls' := [(3, zI ((v3 + 5))), (0, zR 193), (1, zR 0), (2, zR 50)]) dL_law_631 rfl (by decide) z_28 rfl ?_
            refine Z.goto 18 dL_law_634 rfl ?_
            refine Z.pick (ls' := [(0, zR 193), (1, zR 0), (2, zR 50), (3, zI ((v3 + 5)))]) [1, 2, 3, 0] rfl ?_
            exact K
          · replace K := K.2 c_27
            refine Z.iconst (n := 0) dL_law_177 ⟨by decide, by decide⟩ ?_
            exact Z.iret (ty := .boolean) dL_law_178 rfl rfl K
        · replace K := K.2 c_18
          refine Z.iconst (n := 1) dL_law_156 ⟨by decide, by decide⟩ ?_
          refine Z.goto 161 dL_law_157 rfl ?_
          refine Z.aload_n (k := 0) dL_law_161 rfl ?_
          refine Z.iload_n (k := 3) dL_law_162 rfl ?_
          refine Z.iconst (n := 2) dL_law_163 ⟨by decide, by decide⟩ ?_
          obtain ⟨z_29, K⟩ := K
          refine Z.iadd dL_law_164 z_29 ?_
          obtain ⟨z_30, K⟩ := K
          refine Y.sld dL_law_165 z_30 ?_
          refine Z.aload_n (k := 0) dL_law_166 rfl ?_
          refine Z.iload_n (k := 3) dL_law_167 rfl ?_
          refine Z.iconst (n := 3) dL_law_168 ⟨by decide, by decide⟩ ?_
          obtain ⟨z_31, K⟩ := K
          refine Z.iadd dL_law_169 z_31 ?_
          obtain ⟨z_32, K⟩ := K
          refine Y.sld dL_law_170 z_32 ?_
          obtain ⟨x_33, E_34, m_35, K⟩ := K
          refine Y.callV (g := zm_X12_sign) (vs := [zI 1, zI ((E_13 193 (v3 + 2))), zI ((E_13 193 (v3 + 3)))]) (st := [zI x_12]) dL_law_171 ⟨zg_X12_sign.1, zg_X12_sign.2.1, zg_X12_sign.2.2, by decide⟩ ⟨zk_L_17, zv_X12_sign⟩ (ci := 12) (rfl) rfl (hm50) rfl rfl (Nat.le_of_ble_eq_true rfl) m_35 (Or.inl rfl) ?_
          show Z zm_L_law kz Q 174 [(0, zR 193), (1, zR 0), (2, zR 50), (3, zI v3)] [zI x_33, zI x_12] (d, G, E_34)
          refine Z.icmp_eq 631 dL_law_174 rfl ⟨fun c_37 => ?_, fun c_37 => ?_⟩
          · replace K := K.1 c_37
            obtain ⟨z_38, K⟩ := K
            refine Z.iinc (k := 3) (ls' := [(3, zI ((v3 + 5))), (0, zR 193), (1, zR 0), (2, zR 50)]) dL_law_631 rfl (by decide) z_38 rfl ?_
            refine Z.goto 18 dL_law_634 rfl ?_
            refine Z.pick (ls' := [(0, zR 193), (1, zR 0), (2, zR 50), (3, zI ((v3 + 5)))]) [1, 2, 3, 0] rfl ?_
            exact K
          · replace K := K.2 c_37
            refine Z.iconst (n := 0) dL_law_177 ⟨by decide, by decide⟩ ?_
            exact Z.iret (ty := .boolean) dL_law_178 rfl rfl K
      · replace K := K.2 c_7
        refine Z.iconst (n := 1) dL_law_129 ⟨by decide, by decide⟩ ?_
        refine Z.goto 134 dL_law_130 rfl ?_
        refine Z.aload_n (k := 0) dL_law_134 rfl ?_
        refine Z.iload_n (k := 3) dL_law_135 rfl ?_
        refine Z.iconst (n := 2) dL_law_136 ⟨by decide, by decide⟩ ?_
        obtain ⟨z_39, K⟩ := K
        refine Z.iadd dL_law_137 z_39 ?_
        obtain ⟨z_40, K⟩ := K
        refine Y.sld dL_law_138 z_40 ?_
        refine Z.aload_n (k := 0) dL_law_139 rfl ?_
        refine Z.iload_n (k := 3) dL_law_140 rfl ?_
        refine Z.iconst (n := 3) dL_law_141 ⟨by decide, by decide⟩ ?_
        obtain ⟨z_41, K⟩ := K
        refine Z.iadd dL_law_142 z_41 ?_
        obtain ⟨z_42, K⟩ := K
        refine Y.sld dL_law_143 z_42 ?_
        obtain ⟨x_43, E_44, m_45, K⟩ := K
        refine Y.callV (g := zm_X11_sign) (vs := [zI 1, zI ((E 193 (v3 + 2))), zI ((E 193 (v3 + 3)))]) (st := []) dL_law_144 ⟨zg_X11_sign.1, zg_X11_sign.2.1, zg_X11_sign.2.2, by decide⟩ ⟨zk_L_13, zv_X11_sign⟩ (ci := 11) (rfl) rfl (hm0) rfl rfl (Nat.le_of_ble_eq_true rfl) m_45 (Or.inl rfl) ?_
        show Z zm_L_law kz Q 147 [(0, zR 193), (1, zR 0), (2, zR 50), (3, zI v3)] [zI x_43] (d, G, E_44)
        refine Z.aload_n (k := 2) dL_law_147 rfl ?_
        refine Z.aload_n (k := 0) dL_law_148 rfl ?_
        refine Z.iload_n (k := 3) dL_law_149 rfl ?_
        refine Z.iconst (n := 1) dL_law_150 ⟨by decide, by decide⟩ ?_
        obtain ⟨z_47, K⟩ := K
        refine Z.iadd dL_law_151 z_47 ?_
        obtain ⟨z_48, K⟩ := K
        refine Y.sld dL_law_152 z_48 ?_
        refine Z.if_eq 160 dL_law_153 rfl ⟨fun c_49 => ?_, fun c_49 => ?_⟩
        · replace K := K.1 c_49
          refine Z.iconst (n := 0) dL_law_160 ⟨by decide, by decide⟩ ?_
          refine Z.aload_n (k := 0) dL_law_161 rfl ?_
          refine Z.iload_n (k := 3) dL_law_162 rfl ?_
          refine Z.iconst (n := 2) dL_law_163 ⟨by decide, by decide⟩ ?_
          obtain ⟨z_50, K⟩ := K
          refine Z.iadd dL_law_164 z_50 ?_
          obtain ⟨z_51, K⟩ := K
          refine Y.sld dL_law_165 z_51 ?_
          refine Z.aload_n (k := 0) dL_law_166 rfl ?_
          refine Z.iload_n (k := 3) dL_law_167 rfl ?_
          refine Z.iconst (n := 3) dL_law_168 ⟨by decide, by decide⟩ ?_
          obtain ⟨z_52, K⟩ := K
          refine Z.iadd dL_law_169 z_52 ?_
          obtain ⟨z_53, K⟩ := K
          refine Y.sld dL_law_170 z_53 ?_
          obtain ⟨x_54, E_55, m_56, K⟩ := K
          refine Y.callV (g := zm_X12_sign) (vs := [zI 0, zI ((E_44 193 (v3 + 2))), zI ((E_44 193 (v3 + 3)))]) (st := [zI x_43]) dL_law_171 ⟨zg_X12_sign.1, zg_X12_sign.2.1, zg_X12_sign.2.2, by decide⟩ ⟨zk_L_17, zv_X12_sign⟩ (ci := 12) (rfl) rfl (hm50) rfl rfl (Nat.le_of_ble_eq_true rfl) m_56 (Or.inl rfl) ?_
          show Z zm_L_law kz Q 174 [(0, zR 193), (1, zR 0), (2, zR 50), (3, zI v3)] [zI x_54, zI x_43] (d, G, E_55)
          refine Z.icmp_eq 631 dL_law_174 rfl ⟨fun c_58 => ?_, fun c_58 => ?_⟩
          · replace K := K.1 c_58
            obtain ⟨z_59, K⟩ := K
            refine Z.iinc (k := 3) (ls' := [(3, zI ((v3 + 5))), (0, zR 193), (1, zR 0), (2, zR 50)]) dL_law_631 rfl (by decide) z_59 rfl ?_
            refine Z.goto 18 dL_law_634 rfl ?_
            refine Z.pick (ls' := [(0, zR 193), (1, zR 0), (2, zR 50), (3, zI ((v3 + 5)))]) [1, 2, 3, 0] rfl ?_
            exact K
          · replace K := K.2 c_58
            refine Z.iconst (n := 0) dL_law_177 ⟨by decide, by decide⟩ ?_
            exact Z.iret (ty := .boolean) dL_law_178 rfl rfl K
        · replace K := K.2 c_49
          refine Z.iconst (n := 1) dL_law_156 ⟨by decide, by decide⟩ ?_
          refine Z.goto 161 dL_law_157 rfl ?_
          refine Z.aload_n (k := 0) dL_law_161 rfl ?_
          refine Z.iload_n (k := 3) dL_law_162 rfl ?_
          refine Z.iconst (n := 2) dL_law_163 ⟨by decide, by decide⟩ ?_
          obtain ⟨z_60, K⟩ := K
          refine Z.iadd dL_law_164 z_60 ?_
          obtain ⟨z_61, K⟩ := K
          refine Y.sld dL_law_165 z_61 ?_
          refine Z.aload_n (k := 0) dL_law_166 rfl ?_
          refine Z.iload_n (k := 3) dL_law_167 rfl ?_
          refine Z.iconst (n := 3) dL_law_168 ⟨by decide, by decide⟩ ?_
          obtain ⟨z_62, K⟩ := K
          refine Z.iadd dL_law_169 z_62 ?_
          obtain ⟨z_63, K⟩ := K
          refine Y.sld dL_law_170 z_63 ?_
          obtain ⟨x_64, E_65, m_66, K⟩ := K
          refine Y.callV (g := zm_X12_sign) (vs := [zI 1, zI ((E_44 193 (v3 + 2))), zI ((E_44 193 (v3 + 3)))]) (st := [zI x_43]) dL_law_171 ⟨zg_X12_sign.1, zg_X12_sign.2.1, zg_X12_sign.2.2, by decide⟩ ⟨zk_L_17, zv_X12_sign⟩ (ci := 12) (rfl) rfl (hm50) rfl rfl (Nat.le_of_ble_eq_true rfl) m_66 (Or.inl rfl) ?_
          show Z zm_L_law kz Q 174 [(0, zR 193), (1, zR 0), (2, zR 50), (3, zI v3)] [zI x_64, zI x_43] (d, G, E_65)
          refine Z.icmp_eq 631 dL_law_174 rfl ⟨fun c_68 => ?_, fun c_68 => ?_⟩
          · replace K := K.1 c_68
            obtain ⟨z_69, K⟩ := K
            refine Z.iinc (k := 3) (ls' := [(3, zI ((v3 + 5))), (0, zR 193), (1, zR 0), (2, zR 50)]) dL_law_631 rfl (by decide) z_69 rfl ?_
            refine Z.goto 18 dL_law_634 rfl ?_
            refine Z.pick (ls' := [(0, zR 193), (1, zR 0), (2, zR 50), (3, zI ((v3 + 5)))]) [1, 2, 3, 0] rfl ?_
            exact K
          · replace K := K.2 c_68
            refine Z.iconst (n := 0) dL_law_177 ⟨by decide, by decide⟩ ?_
            exact Z.iret (ty := .boolean) dL_law_178 rfl rfl K
    replace K := K.2
    by_cases c_70 : (zand (E 193 v3) 31) = 1
    · replace K := K.1 c_70
      refine Z.tableIn (off := 147) 179 dL_law_32 (by omega) (by omega) (by rw [c_70]; rfl) rfl ?_
      refine Z.aload_n (k := 1) dL_law_179 rfl ?_
      refine Z.aload_n (k := 0) dL_law_180 rfl ?_
      refine Z.iload_n (k := 3) dL_law_181 rfl ?_
      refine Z.iconst (n := 1) dL_law_182 ⟨by decide, by decide⟩ ?_
      obtain ⟨z_71, K⟩ := K
      refine Z.iadd dL_law_183 z_71 ?_
      obtain ⟨z_72, K⟩ := K
      refine Y.sld dL_law_184 z_72 ?_
      obtain ⟨x_73, E_74, m_75, K⟩ := K
      refine Y.callV (g := zm_X11_draft) (vs := [zI ((E 193 (v3 + 1)))]) (st := []) dL_law_185 ⟨zg_X11_draft.1, zg_X11_draft.2.1, zg_X11_draft.2.2, by decide⟩ ⟨zk_L_18, zv_X11_draft⟩ (ci := 11) (rfl) rfl (hm0) rfl rfl (Nat.le_of_ble_eq_true rfl) m_75 (Or.inl rfl) ?_
      show Z zm_L_law kz Q 188 [(0, zR 193), (1, zR 0), (2, zR 50), (3, zI v3)] [zI x_73] (d, G, E_74)
      refine Z.aload_n (k := 2) dL_law_188 rfl ?_
      refine Z.aload_n (k := 0) dL_law_189 rfl ?_
      refine Z.iload_n (k := 3) dL_law_190 rfl ?_
      refine Z.iconst (n := 1) dL_law_191 ⟨by decide, by decide⟩ ?_
      obtain ⟨z_77, K⟩ := K
      refine Z.iadd dL_law_192 z_77 ?_
      obtain ⟨z_78, K⟩ := K
      refine Y.sld dL_law_193 z_78 ?_
      obtain ⟨x_79, E_80, m_81, K⟩ := K
      refine Y.callV (g := zm_X12_draft) (vs := [zI ((E_74 193 (v3 + 1)))]) (st := [zI x_73]) dL_law_194 ⟨zg_X12_draft.1, zg_X12_draft.2.1, zg_X12_draft.2.2, by decide⟩ ⟨zk_L_22, zv_X12_draft⟩ (ci := 12) (rfl) rfl (hm50) rfl rfl (Nat.le_of_ble_eq_true rfl) m_81 (Or.inl rfl) ?_
      show Z zm_L_law kz Q 197 [(0, zR 193), (1, zR 0), (2, zR 50), (3, zI v3)] [zI x_79, zI x_73] (d, G, E_80)
      refine Z.icmp_eq 631 dL_law_197 rfl ⟨fun c_83 => ?_, fun c_83 => ?_⟩
      · replace K := K.1 c_83
        obtain ⟨z_84, K⟩ := K
        refine Z.iinc (k := 3) (ls' := [(3, zI ((v3 + 5))), (0, zR 193), (1, zR 0), (2, zR 50)]) dL_law_631 rfl (by decide) z_84 rfl ?_
        refine Z.goto 18 dL_law_634 rfl ?_
        refine Z.pick (ls' := [(0, zR 193), (1, zR 0), (2, zR 50), (3, zI ((v3 + 5)))]) [1, 2, 3, 0] rfl ?_
        exact K
      · replace K := K.2 c_83
        refine Z.iconst (n := 0) dL_law_200 ⟨by decide, by decide⟩ ?_
        exact Z.iret (ty := .boolean) dL_law_201 rfl rfl K
    replace K := K.2
    by_cases c_85 : (zand (E 193 v3) 31) = 2
    · replace K := K.1 c_85
      refine Z.tableIn (off := 170) 202 dL_law_32 (by omega) (by omega) (by rw [c_85]; rfl) rfl ?_
      refine Z.aload_n (k := 1) dL_law_202 rfl ?_
      obtain ⟨x_86, d_87, G_88, E_89, m_90, z_91, K⟩ := K
      refine Y.callV (g := zm_X11_given) (vs := []) (st := []) dL_law_203 ⟨zg_X11_given.1, zg_X11_given.2.1, zg_X11_given.2.2, by decide⟩ ⟨zk_L_23, zv_X11_given⟩ (ci := 11) (rfl) rfl (hm0) rfl rfl (Nat.le_of_ble_eq_true rfl) m_90 z_91 ?_
      show Z zm_L_law kz Q 206 [(0, zR 193), (1, zR 0), (2, zR 50), (3, zI v3)] [zI x_86] (d_87, G_88, E_89)
      obtain ⟨hm_92, hm_93, K⟩ := K
      refine Z.aload_n (k := 2) dL_law_206 rfl ?_
      obtain ⟨x_94, E_95, m_96, K⟩ := K
      refine Y.callV (g := zm_X12_given) (vs := []) (st := [zI x_86]) dL_law_207 ⟨zg_X12_given.1, zg_X12_given.2.1, zg_X12_given.2.2, by decide⟩ ⟨zk_L_27, zv_X12_given⟩ (ci := 12) (rfl) rfl (hm_93) rfl rfl (Nat.le_of_ble_eq_true rfl) m_96 (Or.inl rfl) ?_
      show Z zm_L_law kz Q 210 [(0, zR 193), (1, zR 0), (2, zR 50), (3, zI v3)] [zI x_94, zI x_86] (d_87, G_88, E_95)
      refine Z.icmp_eq 631 dL_law_210 rfl ⟨fun c_98 => ?_, fun c_98 => ?_⟩
      · replace K := K.1 c_98
        obtain ⟨z_99, K⟩ := K
        refine Z.iinc (k := 3) (ls' := [(3, zI ((v3 + 5))), (0, zR 193), (1, zR 0), (2, zR 50)]) dL_law_631 rfl (by decide) z_99 rfl ?_
        refine Z.goto 18 dL_law_634 rfl ?_
        refine Z.pick (ls' := [(0, zR 193), (1, zR 0), (2, zR 50), (3, zI ((v3 + 5)))]) [1, 2, 3, 0] rfl ?_
        exact K
      · replace K := K.2 c_98
        refine Z.iconst (n := 0) dL_law_213 ⟨by decide, by decide⟩ ?_
        exact Z.iret (ty := .boolean) dL_law_214 rfl rfl K
    replace K := K.2
    by_cases c_100 : (zand (E 193 v3) 31) = 3
    · replace K := K.1 c_100
      refine Z.tableIn (off := 183) 215 dL_law_32 (by omega) (by omega) (by rw [c_100]; rfl) rfl ?_
      refine Z.aload_n (k := 1) dL_law_215 rfl ?_
      obtain ⟨x_101, E_102, m_103, K⟩ := K
      refine Y.callV (g := zm_X11_wipe) (vs := []) (st := []) dL_law_216 ⟨zg_X11_wipe.1, zg_X11_wipe.2.1, zg_X11_wipe.2.2, by decide⟩ ⟨zk_L_28, zv_X11_wipe⟩ (ci := 11) (rfl) rfl (hm0) rfl rfl (Nat.le_of_ble_eq_true rfl) m_103 (Or.inl rfl) ?_
      show Z zm_L_law kz Q 219 [(0, zR 193), (1, zR 0), (2, zR 50), (3, zI v3)] [zI x_101] (d, G, E_102)
      refine Z.aload_n (k := 2) dL_law_219 rfl ?_
      obtain ⟨x_105, E_106, m_107, K⟩ := K
      refine Y.callV (g := zm_X12_wipe) (vs := []) (st := [zI x_101]) dL_law_220 ⟨zg_X12_wipe.1, zg_X12_wipe.2.1, zg_X12_wipe.2.2, by decide⟩ ⟨zk_L_31, zv_X12_wipe⟩ (ci := 12) (rfl) rfl (hm50) rfl rfl (Nat.le_of_ble_eq_true rfl) m_107 (Or.inl rfl) ?_
      show Z zm_L_law kz Q 223 [(0, zR 193), (1, zR 0), (2, zR 50), (3, zI v3)] [zI x_105, zI x_101] (d, G, E_106)
      refine Z.icmp_eq 631 dL_law_223 rfl ⟨fun c_109 => ?_, fun c_109 => ?_⟩
      · replace K := K.1 c_109
        obtain ⟨z_110, K⟩ := K
        refine Z.iinc (k := 3) (ls' := [(3, zI ((v3 + 5))), (0, zR 193), (1, zR 0), (2, zR 50)]) dL_law_631 rfl (by decide) z_110 rfl ?_
        refine Z.goto 18 dL_law_634 rfl ?_
        refine Z.pick (ls' := [(0, zR 193), (1, zR 0), (2, zR 50), (3, zI ((v3 + 5)))]) [1, 2, 3, 0] rfl ?_
        exact K
      · replace K := K.2 c_109
        refine Z.iconst (n := 0) dL_law_226 ⟨by decide, by decide⟩ ?_
        exact Z.iret (ty := .boolean) dL_law_227 rfl rfl K
    replace K := K.2
    by_cases c_111 : (zand (E 193 v3) 31) = 4
    · replace K := K.1 c_111
      refine Z.tableIn (off := 196) 228 dL_law_32 (by omega) (by omega) (by rw [c_111]; rfl) rfl ?_
      refine Z.aload_n (k := 1) dL_law_228 rfl ?_
      refine Z.aload_n (k := 0) dL_law_229 rfl ?_
      refine Z.iload_n (k := 3) dL_law_230 rfl ?_
      refine Z.iconst (n := 1) dL_law_231 ⟨by decide, by decide⟩ ?_
      obtain ⟨z_112, K⟩ := K
      refine Z.iadd dL_law_232 z_112 ?_
      obtain ⟨z_113, K⟩ := K
      refine Y.sld dL_law_233 z_113 ?_
      obtain ⟨x_114, E_115, m_116, K⟩ := K
      refine Y.callV (g := zm_X11_turns) (vs := [zI ((E 193 (v3 + 1)))]) (st := []) dL_law_234 ⟨zg_X11_turns.1, zg_X11_turns.2.1, zg_X11_turns.2.2, by decide⟩ ⟨zk_L_32, zv_X11_turns⟩ (ci := 11) (rfl) rfl (hm0) rfl rfl (Nat.le_of_ble_eq_true rfl) m_116 (Or.inl rfl) ?_
      show Z zm_L_law kz Q 237 [(0, zR 193), (1, zR 0), (2, zR 50), (3, zI v3)] [zI x_114] (d, G, E_115)
      refine Z.aload_n (k := 2) dL_law_237 rfl ?_
      refine Z.aload_n (k := 0) dL_law_238 rfl ?_
      refine Z.iload_n (k := 3) dL_law_239 rfl ?_
      refine Z.iconst (n := 1) dL_law_240 ⟨by decide, by decide⟩ ?_
      obtain ⟨z_118, K⟩ := K
      refine Z.iadd dL_law_241 z_118 ?_
      obtain ⟨z_119, K⟩ := K
      refine Y.sld dL_law_242 z_119 ?_
      obtain ⟨x_120, E_121, m_122, K⟩ := K
      refine Y.callV (g := zm_X12_turns) (vs := [zI ((E_115 193 (v3 + 1)))]) (st := [zI x_114]) dL_law_243 ⟨zg_X12_turns.1, zg_X12_turns.2.1, zg_X12_turns.2.2, by decide⟩ ⟨zk_L_35, zv_X12_turns⟩ (ci := 12) (rfl) rfl (hm50) rfl rfl (Nat.le_of_ble_eq_true rfl) m_122 (Or.inl rfl) ?_
      show Z zm_L_law kz Q 246 [(0, zR 193), (1, zR 0), (2, zR 50), (3, zI v3)] [zI x_120, zI x_114] (d, G, E_121)
      refine Z.icmp_eq 631 dL_law_246 rfl ⟨fun c_124 => ?_, fun c_124 => ?_⟩
      · replace K := K.1 c_124
        obtain ⟨z_125, K⟩ := K
        refine Z.iinc (k := 3) (ls' := [(3, zI ((v3 + 5))), (0, zR 193), (1, zR 0), (2, zR 50)]) dL_law_631 rfl (by decide) z_125 rfl ?_
        refine Z.goto 18 dL_law_634 rfl ?_
        refine Z.pick (ls' := [(0, zR 193), (1, zR 0), (2, zR 50), (3, zI ((v3 + 5)))]) [1, 2, 3, 0] rfl ?_
        exact K
      · replace K := K.2 c_124
        refine Z.iconst (n := 0) dL_law_249 ⟨by decide, by decide⟩ ?_
        exact Z.iret (ty := .boolean) dL_law_250 rfl rfl K
    replace K := K.2
    by_cases c_126 : (zand (E 193 v3) 31) = 5
    · replace K := K.1 c_126
      refine Z.tableIn (off := 219) 251 dL_law_32 (by omega) (by omega) (by rw [c_126]; rfl) rfl ?_
      refine Z.aload_n (k := 1) dL_law_251 rfl ?_
      refine Z.aload_n (k := 0) dL_law_252 rfl ?_
      refine Z.iload_n (k := 3) dL_law_253 rfl ?_
      refine Z.iconst (n := 1) dL_law_254 ⟨by decide, by decide⟩ ?_
      obtain ⟨z_127, K⟩ := K
      refine Z.iadd dL_law_255 z_127 ?_
      obtain ⟨z_128, K⟩ := K
      refine Y.sld dL_law_256 z_128 ?_
      obtain ⟨x_129, E_130, m_131, K⟩ := K
      refine Y.callV (g := zm_X11_fuel) (vs := [zI ((E 193 (v3 + 1)))]) (st := []) dL_law_257 ⟨zg_X11_fuel.1, zg_X11_fuel.2.1, zg_X11_fuel.2.2, by decide⟩ ⟨zk_L_36, zv_X11_fuel⟩ (ci := 11) (rfl) rfl (hm0) rfl rfl (Nat.le_of_ble_eq_true rfl) m_131 (Or.inl rfl) ?_
      show Z zm_L_law kz Q 260 [(0, zR 193), (1, zR 0), (2, zR 50), (3, zI v3)] [zI x_129] (d, G, E_130)
      refine Z.aload_n (k := 2) dL_law_260 rfl ?_
      refine Z.aload_n (k := 0) dL_law_261 rfl ?_
      refine Z.iload_n (k := 3) dL_law_262 rfl ?_
      refine Z.iconst (n := 1) dL_law_263 ⟨by decide, by decide⟩ ?_
      obtain ⟨z_133, K⟩ := K
      refine Z.iadd dL_law_264 z_133 ?_
      obtain ⟨z_134, K⟩ := K
      refine Y.sld dL_law_265 z_134 ?_
      obtain ⟨x_135, E_136, m_137, K⟩ := K
      refine Y.callV (g := zm_X12_fuel) (vs := [zI ((E_130 193 (v3 + 1)))]) (st := [zI x_129]) dL_law_266 ⟨zg_X12_fuel.1, zg_X12_fuel.2.1, zg_X12_fuel.2.2, by decide⟩ ⟨zk_L_39, zv_X12_fuel⟩ (ci := 12) (rfl) rfl (hm50) rfl rfl (Nat.le_of_ble_eq_true rfl) m_137 (Or.inl rfl) ?_
      show Z zm_L_law kz Q 269 [(0, zR 193), (1, zR 0), (2, zR 50), (3, zI v3)] [zI x_135, zI x_129] (d, G, E_136)
      refine Z.icmp_eq 631 dL_law_269 rfl ⟨fun c_139 => ?_, fun c_139 => ?_⟩
      · replace K := K.1 c_139
        obtain ⟨z_140, K⟩ := K
        refine Z.iinc (k := 3) (ls' := [(3, zI ((v3 + 5))), (0, zR 193), (1, zR 0), (2, zR 50)]) dL_law_631 rfl (by decide) z_140 rfl ?_
        refine Z.goto 18 dL_law_634 rfl ?_
        refine Z.pick (ls' := [(0, zR 193), (1, zR 0), (2, zR 50), (3, zI ((v3 + 5)))]) [1, 2, 3, 0] rfl ?_
        exact K
      · replace K := K.2 c_139
        refine Z.iconst (n := 0) dL_law_272 ⟨by decide, by decide⟩ ?_
        exact Z.iret (ty := .boolean) dL_law_273 rfl rfl K
    replace K := K.2
    by_cases c_141 : (zand (E 193 v3) 31) = 6
    · replace K := K.1 c_141
      refine Z.tableIn (off := 242) 274 dL_law_32 (by omega) (by omega) (by rw [c_141]; rfl) rfl ?_
      refine Z.aload_n (k := 1) dL_law_274 rfl ?_
      refine Z.aload_n (k := 0) dL_law_275 rfl ?_
      refine Z.iload_n (k := 3) dL_law_276 rfl ?_
      refine Z.iconst (n := 1) dL_law_277 ⟨by decide, by decide⟩ ?_
      obtain ⟨z_142, K⟩ := K
      refine Z.iadd dL_law_278 z_142 ?_
      obtain ⟨z_143, K⟩ := K
      refine Y.sld dL_law_279 z_143 ?_
      obtain ⟨x_144, d_145, G_146, E_147, m_148, z_149, K⟩ := K
      refine Y.callV (g := zm_X11_run) (vs := [zI ((E 193 (v3 + 1)))]) (st := []) dL_law_280 ⟨zg_X11_run.1, zg_X11_run.2.1, zg_X11_run.2.2, by decide⟩ ⟨zk_L_40, zv_X11_run⟩ (ci := 11) (rfl) rfl (hm0) rfl rfl (Nat.le_of_ble_eq_true rfl) m_148 z_149 ?_
      show Z zm_L_law kz Q 283 [(0, zR 193), (1, zR 0), (2, zR 50), (3, zI v3)] [zI x_144] (d_145, G_146, E_147)
      obtain ⟨hm_150, hm_151, K⟩ := K
      refine Z.aload_n (k := 2) dL_law_283 rfl ?_
      refine Z.aload_n (k := 0) dL_law_284 rfl ?_
      refine Z.iload_n (k := 3) dL_law_285 rfl ?_
      refine Z.iconst (n := 1) dL_law_286 ⟨by decide, by decide⟩ ?_
      obtain ⟨z_152, K⟩ := K
      refine Z.iadd dL_law_287 z_152 ?_
      obtain ⟨z_153, K⟩ := K
      refine Y.sld dL_law_288 z_153 ?_
      obtain ⟨x_154, E_155, m_156, K⟩ := K
      refine Y.callV (g := zm_X12_run) (vs := [zI ((E_147 193 (v3 + 1)))]) (st := [zI x_144]) dL_law_289 ⟨zg_X12_run.1, zg_X12_run.2.1, zg_X12_run.2.2, by decide⟩ ⟨zk_L_43, zv_X12_run⟩ (ci := 12) (rfl) rfl (hm_151) rfl rfl (Nat.le_of_ble_eq_true rfl) m_156 (Or.inl rfl) ?_
      show Z zm_L_law kz Q 292 [(0, zR 193), (1, zR 0), (2, zR 50), (3, zI v3)] [zI x_154, zI x_144] (d_145, G_146, E_155)
      refine Z.icmp_eq 631 dL_law_292 rfl ⟨fun c_158 => ?_, fun c_158 => ?_⟩
      · replace K := K.1 c_158
        obtain ⟨z_159, K⟩ := K
        refine Z.iinc (k := 3) (ls' := [(3, zI ((v3 + 5))), (0, zR 193), (1, zR 0), (2, zR 50)]) dL_law_631 rfl (by decide) z_159 rfl ?_
        refine Z.goto 18 dL_law_634 rfl ?_
        refine Z.pick (ls' := [(0, zR 193), (1, zR 0), (2, zR 50), (3, zI ((v3 + 5)))]) [1, 2, 3, 0] rfl ?_
        exact K
      · replace K := K.2 c_158
        refine Z.iconst (n := 0) dL_law_295 ⟨by decide, by decide⟩ ?_
        exact Z.iret (ty := .boolean) dL_law_296 rfl rfl K
    replace K := K.2
    by_cases c_160 : (zand (E 193 v3) 31) = 7
    · replace K := K.1 c_160
      refine Z.tableIn (off := 265) 297 dL_law_32 (by omega) (by omega) (by rw [c_160]; rfl) rfl ?_
      refine Z.aload_n (k := 1) dL_law_297 rfl ?_
      obtain ⟨x_161, E_162, m_163, K⟩ := K
      refine Y.callV (g := zm_X11_clear) (vs := []) (st := []) dL_law_298 ⟨zg_X11_clear.1, zg_X11_clear.2.1, zg_X11_clear.2.2, by decide⟩ ⟨zk_L_44, zv_X11_clear⟩ (ci := 11) (rfl) rfl (hm0) rfl rfl (Nat.le_of_ble_eq_true rfl) m_163 (Or.inl rfl) ?_
      show Z zm_L_law kz Q 301 [(0, zR 193), (1, zR 0), (2, zR 50), (3, zI v3)] [zI x_161] (d, G, E_162)
      refine Z.aload_n (k := 2) dL_law_301 rfl ?_
      obtain ⟨x_165, E_166, m_167, K⟩ := K
      refine Y.callV (g := zm_X12_clear) (vs := []) (st := [zI x_161]) dL_law_302 ⟨zg_X12_clear.1, zg_X12_clear.2.1, zg_X12_clear.2.2, by decide⟩ ⟨zk_L_47, zv_X12_clear⟩ (ci := 12) (rfl) rfl (hm50) rfl rfl (Nat.le_of_ble_eq_true rfl) m_167 (Or.inl rfl) ?_
      show Z zm_L_law kz Q 305 [(0, zR 193), (1, zR 0), (2, zR 50), (3, zI v3)] [zI x_165, zI x_161] (d, G, E_166)
      refine Z.icmp_eq 631 dL_law_305 rfl ⟨fun c_169 => ?_, fun c_169 => ?_⟩
      · replace K := K.1 c_169
        obtain ⟨z_170, K⟩ := K
        refine Z.iinc (k := 3) (ls' := [(3, zI ((v3 + 5))), (0, zR 193), (1, zR 0), (2, zR 50)]) dL_law_631 rfl (by decide) z_170 rfl ?_
        refine Z.goto 18 dL_law_634 rfl ?_
        refine Z.pick (ls' := [(0, zR 193), (1, zR 0), (2, zR 50), (3, zI ((v3 + 5)))]) [1, 2, 3, 0] rfl ?_
        exact K
      · replace K := K.2 c_169
        refine Z.iconst (n := 0) dL_law_308 ⟨by decide, by decide⟩ ?_
        exact Z.iret (ty := .boolean) dL_law_309 rfl rfl K
    replace K := K.2
    by_cases c_171 : (zand (E 193 v3) 31) = 8
    · replace K := K.1 c_171
      refine Z.tableIn (off := 278) 310 dL_law_32 (by omega) (by omega) (by rw [c_171]; rfl) rfl ?_
      refine Z.aload_n (k := 1) dL_law_310 rfl ?_
      refine Z.aload_n (k := 0) dL_law_311 rfl ?_
      refine Z.iload_n (k := 3) dL_law_312 rfl ?_
      refine Z.iconst (n := 1) dL_law_313 ⟨by decide, by decide⟩ ?_
      obtain ⟨z_172, K⟩ := K
      refine Z.iadd dL_law_314 z_172 ?_
      obtain ⟨z_173, K⟩ := K
      refine Y.sld dL_law_315 z_173 ?_
      refine Z.aload_n (k := 0) dL_law_316 rfl ?_
      refine Z.iload_n (k := 3) dL_law_317 rfl ?_
      refine Z.iconst (n := 2) dL_law_318 ⟨by decide, by decide⟩ ?_
      obtain ⟨z_174, K⟩ := K
      refine Z.iadd dL_law_319 z_174 ?_
      obtain ⟨z_175, K⟩ := K
      refine Y.sld dL_law_320 z_175 ?_
      obtain ⟨x_176, m_177, K⟩ := K
      refine Y.callV (g := zm_X11_claim) (vs := [zI ((E 193 (v3 + 1))), zI ((E 193 (v3 + 2)))]) (st := []) dL_law_321 ⟨zg_X11_claim.1, zg_X11_claim.2.1, zg_X11_claim.2.2, by decide⟩ ⟨zk_L_48, zv_X11_claim⟩ (ci := 11) (rfl) rfl (hm0) rfl rfl (Nat.le_of_ble_eq_true rfl) m_177 (Or.inl rfl) ?_
      show Z zm_L_law kz Q 324 [(0, zR 193), (1, zR 0), (2, zR 50), (3, zI v3)] [zI x_176] (d, G, E)
      refine Z.aload_n (k := 2) dL_law_324 rfl ?_
      refine Z.aload_n (k := 0) dL_law_325 rfl ?_
      refine Z.iload_n (k := 3) dL_law_326 rfl ?_
      refine Z.iconst (n := 1) dL_law_327 ⟨by decide, by decide⟩ ?_
      obtain ⟨z_179, K⟩ := K
      refine Z.iadd dL_law_328 z_179 ?_
      obtain ⟨z_180, K⟩ := K
      refine Y.sld dL_law_329 z_180 ?_
      refine Z.aload_n (k := 0) dL_law_330 rfl ?_
      refine Z.iload_n (k := 3) dL_law_331 rfl ?_
      refine Z.iconst (n := 2) dL_law_332 ⟨by decide, by decide⟩ ?_
      obtain ⟨z_181, K⟩ := K
      refine Z.iadd dL_law_333 z_181 ?_
      obtain ⟨z_182, K⟩ := K
      refine Y.sld dL_law_334 z_182 ?_
      obtain ⟨x_183, m_184, K⟩ := K
      refine Y.callV (g := zm_X12_claim) (vs := [zI ((E 193 (v3 + 1))), zI ((E 193 (v3 + 2)))]) (st := [zI x_176]) dL_law_335 ⟨zg_X12_claim.1, zg_X12_claim.2.1, zg_X12_claim.2.2, by decide⟩ ⟨zk_L_52, zv_X12_claim⟩ (ci := 12) (rfl) rfl (hm50) rfl rfl (Nat.le_of_ble_eq_true rfl) m_184 (Or.inl rfl) ?_
      show Z zm_L_law kz Q 338 [(0, zR 193), (1, zR 0), (2, zR 50), (3, zI v3)] [zI x_183, zI x_176] (d, G, E)
      refine Z.icmp_eq 631 dL_law_338 rfl ⟨fun c_186 => ?_, fun c_186 => ?_⟩
      · replace K := K.1 c_186
        obtain ⟨z_187, K⟩ := K
        refine Z.iinc (k := 3) (ls' := [(3, zI ((v3 + 5))), (0, zR 193), (1, zR 0), (2, zR 50)]) dL_law_631 rfl (by decide) z_187 rfl ?_
        refine Z.goto 18 dL_law_634 rfl ?_
        refine Z.pick (ls' := [(0, zR 193), (1, zR 0), (2, zR 50), (3, zI ((v3 + 5)))]) [1, 2, 3, 0] rfl ?_
        exact K
      · replace K := K.2 c_186
        refine Z.iconst (n := 0) dL_law_341 ⟨by decide, by decide⟩ ?_
        exact Z.iret (ty := .boolean) dL_law_342 rfl rfl K
    replace K := K.2
    by_cases c_188 : (zand (E 193 v3) 31) = 9
    · replace K := K.1 c_188
      refine Z.tableIn (off := 311) 343 dL_law_32 (by omega) (by omega) (by rw [c_188]; rfl) rfl ?_
      refine Z.aload_n (k := 1) dL_law_343 rfl ?_
      refine Z.aload_n (k := 0) dL_law_344 rfl ?_
      refine Z.iload_n (k := 3) dL_law_345 rfl ?_
      refine Z.iconst (n := 1) dL_law_346 ⟨by decide, by decide⟩ ?_
      obtain ⟨z_189, K⟩ := K
      refine Z.iadd dL_law_347 z_189 ?_
      obtain ⟨z_190, K⟩ := K
      refine Y.sld dL_law_348 z_190 ?_
      refine Z.aload_n (k := 0) dL_law_349 rfl ?_
      refine Z.iload_n (k := 3) dL_law_350 rfl ?_
      refine Z.iconst (n := 2) dL_law_351 ⟨by decide, by decide⟩ ?_
      obtain ⟨z_191, K⟩ := K
      refine Z.iadd dL_law_352 z_191 ?_
      obtain ⟨z_192, K⟩ := K
      refine Y.sld dL_law_353 z_192 ?_
      refine Z.aload_n (k := 0) dL_law_354 rfl ?_
      refine Z.iload_n (k := 3) dL_law_355 rfl ?_
      refine Z.iconst (n := 3) dL_law_356 ⟨by decide, by decide⟩ ?_
      obtain ⟨z_193, K⟩ := K
      refine Z.iadd dL_law_357 z_193 ?_
      obtain ⟨z_194, K⟩ := K
      refine Y.sld dL_law_358 z_194 ?_
      obtain ⟨x_195, m_196, K⟩ := K
      refine Y.callV (g := zm_X11_literal) (vs := [zI ((E 193 (v3 + 1))), zI ((E 193 (v3 + 2))), zI ((E 193 (v3 + 3)))]) (st := []) dL_law_359 ⟨zg_X11_literal.1, zg_X11_literal.2.1, zg_X11_literal.2.2, by decide⟩ ⟨zk_L_53, zv_X11_literal⟩ (ci := 11) (rfl) rfl (hm0) rfl rfl (Nat.le_of_ble_eq_true rfl) m_196 (Or.inl rfl) ?_
      show Z zm_L_law kz Q 362 [(0, zR 193), (1, zR 0), (2, zR 50), (3, zI v3)] [zI x_195] (d, G, E)
      refine Z.aload_n (k := 2) dL_law_362 rfl ?_
      refine Z.aload_n (k := 0) dL_law_363 rfl ?_
      refine Z.iload_n (k := 3) dL_law_364 rfl ?_
      refine Z.iconst (n := 1) dL_law_365 ⟨by decide, by decide⟩ ?_
      obtain ⟨z_198, K⟩ := K
      refine Z.iadd dL_law_366 z_198 ?_
      obtain ⟨z_199, K⟩ := K
      refine Y.sld dL_law_367 z_199 ?_
      refine Z.aload_n (k := 0) dL_law_368 rfl ?_
      refine Z.iload_n (k := 3) dL_law_369 rfl ?_
      refine Z.iconst (n := 2) dL_law_370 ⟨by decide, by decide⟩ ?_
      obtain ⟨z_200, K⟩ := K
      refine Z.iadd dL_law_371 z_200 ?_
      obtain ⟨z_201, K⟩ := K
      refine Y.sld dL_law_372 z_201 ?_
      refine Z.aload_n (k := 0) dL_law_373 rfl ?_
      refine Z.iload_n (k := 3) dL_law_374 rfl ?_
      refine Z.iconst (n := 3) dL_law_375 ⟨by decide, by decide⟩ ?_
      obtain ⟨z_202, K⟩ := K
      refine Z.iadd dL_law_376 z_202 ?_
      obtain ⟨z_203, K⟩ := K
      refine Y.sld dL_law_377 z_203 ?_
      obtain ⟨x_204, m_205, K⟩ := K
      refine Y.callV (g := zm_X12_literal) (vs := [zI ((E 193 (v3 + 1))), zI ((E 193 (v3 + 2))), zI ((E 193 (v3 + 3)))]) (st := [zI x_195]) dL_law_378 ⟨zg_X12_literal.1, zg_X12_literal.2.1, zg_X12_literal.2.2, by decide⟩ ⟨zk_L_57, zv_X12_literal⟩ (ci := 12) (rfl) rfl (hm50) rfl rfl (Nat.le_of_ble_eq_true rfl) m_205 (Or.inl rfl) ?_
      show Z zm_L_law kz Q 381 [(0, zR 193), (1, zR 0), (2, zR 50), (3, zI v3)] [zI x_204, zI x_195] (d, G, E)
      refine Z.icmp_eq 631 dL_law_381 rfl ⟨fun c_207 => ?_, fun c_207 => ?_⟩
      · replace K := K.1 c_207
        obtain ⟨z_208, K⟩ := K
        refine Z.iinc (k := 3) (ls' := [(3, zI ((v3 + 5))), (0, zR 193), (1, zR 0), (2, zR 50)]) dL_law_631 rfl (by decide) z_208 rfl ?_
        refine Z.goto 18 dL_law_634 rfl ?_
        refine Z.pick (ls' := [(0, zR 193), (1, zR 0), (2, zR 50), (3, zI ((v3 + 5)))]) [1, 2, 3, 0] rfl ?_
        exact K
      · replace K := K.2 c_207
        refine Z.iconst (n := 0) dL_law_384 ⟨by decide, by decide⟩ ?_
        exact Z.iret (ty := .boolean) dL_law_385 rfl rfl K
    replace K := K.2
    by_cases c_209 : (zand (E 193 v3) 31) = 10
    · replace K := K.1 c_209
      refine Z.tableIn (off := 354) 386 dL_law_32 (by omega) (by omega) (by rw [c_209]; rfl) rfl ?_
      refine Z.aload_n (k := 1) dL_law_386 rfl ?_
      refine Z.aload_n (k := 0) dL_law_387 rfl ?_
      refine Z.iload_n (k := 3) dL_law_388 rfl ?_
      refine Z.iconst (n := 1) dL_law_389 ⟨by decide, by decide⟩ ?_
      obtain ⟨z_210, K⟩ := K
      refine Z.iadd dL_law_390 z_210 ?_
      obtain ⟨z_211, K⟩ := K
      refine Y.sld dL_law_391 z_211 ?_
      refine Z.aload_n (k := 0) dL_law_392 rfl ?_
      refine Z.iload_n (k := 3) dL_law_393 rfl ?_
      refine Z.iconst (n := 2) dL_law_394 ⟨by decide, by decide⟩ ?_
      obtain ⟨z_212, K⟩ := K
      refine Z.iadd dL_law_395 z_212 ?_
      obtain ⟨z_213, K⟩ := K
      refine Y.sld dL_law_396 z_213 ?_
      obtain ⟨x_214, m_215, K⟩ := K
      refine Y.callV (g := zm_X11_step) (vs := [zI ((E 193 (v3 + 1))), zI ((E 193 (v3 + 2)))]) (st := []) dL_law_397 ⟨zg_X11_step.1, zg_X11_step.2.1, zg_X11_step.2.2, by decide⟩ ⟨zk_L_58, zv_X11_step⟩ (ci := 11) (rfl) rfl (hm0) rfl rfl (Nat.le_of_ble_eq_true rfl) m_215 (Or.inl rfl) ?_
      show Z zm_L_law kz Q 400 [(0, zR 193), (1, zR 0), (2, zR 50), (3, zI v3)] [zI x_214] (d, G, E)
      refine Z.aload_n (k := 2) dL_law_400 rfl ?_
      refine Z.aload_n (k := 0) dL_law_401 rfl ?_
      refine Z.iload_n (k := 3) dL_law_402 rfl ?_
      refine Z.iconst (n := 1) dL_law_403 ⟨by decide, by decide⟩ ?_
      obtain ⟨z_217, K⟩ := K
      refine Z.iadd dL_law_404 z_217 ?_
      obtain ⟨z_218, K⟩ := K
      refine Y.sld dL_law_405 z_218 ?_
      refine Z.aload_n (k := 0) dL_law_406 rfl ?_
      refine Z.iload_n (k := 3) dL_law_407 rfl ?_
      refine Z.iconst (n := 2) dL_law_408 ⟨by decide, by decide⟩ ?_
      obtain ⟨z_219, K⟩ := K
      refine Z.iadd dL_law_409 z_219 ?_
      obtain ⟨z_220, K⟩ := K
      refine Y.sld dL_law_410 z_220 ?_
      obtain ⟨x_221, m_222, K⟩ := K
      refine Y.callV (g := zm_X12_step) (vs := [zI ((E 193 (v3 + 1))), zI ((E 193 (v3 + 2)))]) (st := [zI x_214]) dL_law_411 ⟨zg_X12_step.1, zg_X12_step.2.1, zg_X12_step.2.2, by decide⟩ ⟨zk_L_61, zv_X12_step⟩ (ci := 12) (rfl) rfl (hm50) rfl rfl (Nat.le_of_ble_eq_true rfl) m_222 (Or.inl rfl) ?_
      show Z zm_L_law kz Q 414 [(0, zR 193), (1, zR 0), (2, zR 50), (3, zI v3)] [zI x_221, zI x_214] (d, G, E)
      refine Z.icmp_eq 631 dL_law_414 rfl ⟨fun c_224 => ?_, fun c_224 => ?_⟩
      · replace K := K.1 c_224
        obtain ⟨z_225, K⟩ := K
        refine Z.iinc (k := 3) (ls' := [(3, zI ((v3 + 5))), (0, zR 193), (1, zR 0), (2, zR 50)]) dL_law_631 rfl (by decide) z_225 rfl ?_
        refine Z.goto 18 dL_law_634 rfl ?_
        refine Z.pick (ls' := [(0, zR 193), (1, zR 0), (2, zR 50), (3, zI ((v3 + 5)))]) [1, 2, 3, 0] rfl ?_
        exact K
      · replace K := K.2 c_224
        refine Z.iconst (n := 0) dL_law_417 ⟨by decide, by decide⟩ ?_
        exact Z.iret (ty := .boolean) dL_law_418 rfl rfl K
    replace K := K.2
    by_cases c_226 : (zand (E 193 v3) 31) = 11
    · replace K := K.1 c_226
      refine Z.tableIn (off := 387) 419 dL_law_32 (by omega) (by omega) (by rw [c_226]; rfl) rfl ?_
      refine Z.aload_n (k := 1) dL_law_419 rfl ?_
      refine Z.aload_n (k := 0) dL_law_420 rfl ?_
      refine Z.iload_n (k := 3) dL_law_421 rfl ?_
      refine Z.iconst (n := 1) dL_law_422 ⟨by decide, by decide⟩ ?_
      obtain ⟨z_227, K⟩ := K
      refine Z.iadd dL_law_423 z_227 ?_
      obtain ⟨z_228, K⟩ := K
      refine Y.sld dL_law_424 z_228 ?_
      refine Z.aload_n (k := 0) dL_law_425 rfl ?_
      refine Z.iload_n (k := 3) dL_law_426 rfl ?_
      refine Z.iconst (n := 2) dL_law_427 ⟨by decide, by decide⟩ ?_
      obtain ⟨z_229, K⟩ := K
      refine Z.iadd dL_law_428 z_229 ?_
      obtain ⟨z_230, K⟩ := K
      refine Y.sld dL_law_429 z_230 ?_
      refine Z.aload_n (k := 0) dL_law_430 rfl ?_
      refine Z.iload_n (k := 3) dL_law_431 rfl ?_
      refine Z.iconst (n := 3) dL_law_432 ⟨by decide, by decide⟩ ?_
      obtain ⟨z_231, K⟩ := K
      refine Z.iadd dL_law_433 z_231 ?_
      obtain ⟨z_232, K⟩ := K
      refine Y.sld dL_law_434 z_232 ?_
      obtain ⟨x_233, E_234, m_235, K⟩ := K
      refine Y.callV (g := zm_X11_forge) (vs := [zI ((E 193 (v3 + 1))), zI ((E 193 (v3 + 2))), zI ((E 193 (v3 + 3)))]) (st := []) dL_law_435 ⟨zg_X11_forge.1, zg_X11_forge.2.1, zg_X11_forge.2.2, by decide⟩ ⟨zk_L_62, zv_X11_forge⟩ (ci := 11) (rfl) rfl (hm0) rfl rfl (Nat.le_of_ble_eq_true rfl) m_235 (Or.inl rfl) ?_
      show Z zm_L_law kz Q 438 [(0, zR 193), (1, zR 0), (2, zR 50), (3, zI v3)] [zI x_233] (d, G, E_234)
      refine Z.aload_n (k := 2) dL_law_438 rfl ?_
      refine Z.aload_n (k := 0) dL_law_439 rfl ?_
      refine Z.iload_n (k := 3) dL_law_440 rfl ?_
      refine Z.iconst (n := 1) dL_law_441 ⟨by decide, by decide⟩ ?_
      obtain ⟨z_237, K⟩ := K
      refine Z.iadd dL_law_442 z_237 ?_
      obtain ⟨z_238, K⟩ := K
      refine Y.sld dL_law_443 z_238 ?_
      refine Z.aload_n (k := 0) dL_law_444 rfl ?_
      refine Z.iload_n (k := 3) dL_law_445 rfl ?_
      refine Z.iconst (n := 2) dL_law_446 ⟨by decide, by decide⟩ ?_
      obtain ⟨z_239, K⟩ := K
      refine Z.iadd dL_law_447 z_239 ?_
      obtain ⟨z_240, K⟩ := K
      refine Y.sld dL_law_448 z_240 ?_
      refine Z.aload_n (k := 0) dL_law_449 rfl ?_
      refine Z.iload_n (k := 3) dL_law_450 rfl ?_
      refine Z.iconst (n := 3) dL_law_451 ⟨by decide, by decide⟩ ?_
      obtain ⟨z_241, K⟩ := K
      refine Z.iadd dL_law_452 z_241 ?_
      obtain ⟨z_242, K⟩ := K
      refine Y.sld dL_law_453 z_242 ?_
      obtain ⟨x_243, E_244, m_245, K⟩ := K
      refine Y.callV (g := zm_X12_forge) (vs := [zI ((E_234 193 (v3 + 1))), zI ((E_234 193 (v3 + 2))), zI ((E_234 193 (v3 + 3)))]) (st := [zI x_233]) dL_law_454 ⟨zg_X12_forge.1, zg_X12_forge.2.1, zg_X12_forge.2.2, by decide⟩ ⟨zk_L_65, zv_X12_forge⟩ (ci := 12) (rfl) rfl (hm50) rfl rfl (Nat.le_of_ble_eq_true rfl) m_245 (Or.inl rfl) ?_
      show Z zm_L_law kz Q 457 [(0, zR 193), (1, zR 0), (2, zR 50), (3, zI v3)] [zI x_243, zI x_233] (d, G, E_244)
      refine Z.icmp_eq 631 dL_law_457 rfl ⟨fun c_247 => ?_, fun c_247 => ?_⟩
      · replace K := K.1 c_247
        obtain ⟨z_248, K⟩ := K
        refine Z.iinc (k := 3) (ls' := [(3, zI ((v3 + 5))), (0, zR 193), (1, zR 0), (2, zR 50)]) dL_law_631 rfl (by decide) z_248 rfl ?_
        refine Z.goto 18 dL_law_634 rfl ?_
        refine Z.pick (ls' := [(0, zR 193), (1, zR 0), (2, zR 50), (3, zI ((v3 + 5)))]) [1, 2, 3, 0] rfl ?_
        exact K
      · replace K := K.2 c_247
        refine Z.iconst (n := 0) dL_law_460 ⟨by decide, by decide⟩ ?_
        exact Z.iret (ty := .boolean) dL_law_461 rfl rfl K
    replace K := K.2
    by_cases c_249 : (zand (E 193 v3) 31) = 12
    · replace K := K.1 c_249
      refine Z.tableIn (off := 430) 462 dL_law_32 (by omega) (by omega) (by rw [c_249]; rfl) rfl ?_
      refine Z.aload_n (k := 1) dL_law_462 rfl ?_
      refine Z.aload_n (k := 0) dL_law_463 rfl ?_
      refine Z.iload_n (k := 3) dL_law_464 rfl ?_
      refine Z.iconst (n := 1) dL_law_465 ⟨by decide, by decide⟩ ?_
      obtain ⟨z_250, K⟩ := K
      refine Z.iadd dL_law_466 z_250 ?_
      obtain ⟨z_251, K⟩ := K
      refine Y.sld dL_law_467 z_251 ?_
      obtain ⟨x_252, E_253, m_254, K⟩ := K
      refine Y.callV (g := zm_X11_judge) (vs := [zI ((E 193 (v3 + 1)))]) (st := []) dL_law_468 ⟨zg_X11_judge.1, zg_X11_judge.2.1, zg_X11_judge.2.2, by decide⟩ ⟨zk_L_66, zv_X11_judge⟩ (ci := 11) (rfl) rfl (hm0) rfl rfl (Nat.le_of_ble_eq_true rfl) m_254 (Or.inl rfl) ?_
      show Z zm_L_law kz Q 471 [(0, zR 193), (1, zR 0), (2, zR 50), (3, zI v3)] [zI x_252] (d, G, E_253)
      refine Z.aload_n (k := 2) dL_law_471 rfl ?_
      refine Z.aload_n (k := 0) dL_law_472 rfl ?_
      refine Z.iload_n (k := 3) dL_law_473 rfl ?_
      refine Z.iconst (n := 1) dL_law_474 ⟨by decide, by decide⟩ ?_
      obtain ⟨z_256, K⟩ := K
      refine Z.iadd dL_law_475 z_256 ?_
      obtain ⟨z_257, K⟩ := K
      refine Y.sld dL_law_476 z_257 ?_
      obtain ⟨x_258, E_259, m_260, K⟩ := K
      refine Y.callV (g := zm_X12_judge) (vs := [zI ((E_253 193 (v3 + 1)))]) (st := [zI x_252]) dL_law_477 ⟨zg_X12_judge.1, zg_X12_judge.2.1, zg_X12_judge.2.2, by decide⟩ ⟨zk_L_69, zv_X12_judge⟩ (ci := 12) (rfl) rfl (hm50) rfl rfl (Nat.le_of_ble_eq_true rfl) m_260 (Or.inl rfl) ?_
      show Z zm_L_law kz Q 480 [(0, zR 193), (1, zR 0), (2, zR 50), (3, zI v3)] [zI x_258, zI x_252] (d, G, E_259)
      refine Z.icmp_eq 631 dL_law_480 rfl ⟨fun c_262 => ?_, fun c_262 => ?_⟩
      · replace K := K.1 c_262
        obtain ⟨z_263, K⟩ := K
        refine Z.iinc (k := 3) (ls' := [(3, zI ((v3 + 5))), (0, zR 193), (1, zR 0), (2, zR 50)]) dL_law_631 rfl (by decide) z_263 rfl ?_
        refine Z.goto 18 dL_law_634 rfl ?_
        refine Z.pick (ls' := [(0, zR 193), (1, zR 0), (2, zR 50), (3, zI ((v3 + 5)))]) [1, 2, 3, 0] rfl ?_
        exact K
      · replace K := K.2 c_262
        refine Z.iconst (n := 0) dL_law_483 ⟨by decide, by decide⟩ ?_
        exact Z.iret (ty := .boolean) dL_law_484 rfl rfl K
    replace K := K.2
    by_cases c_264 : (zand (E 193 v3) 31) = 13
    · replace K := K.1 c_264
      refine Z.tableIn (off := 453) 485 dL_law_32 (by omega) (by omega) (by rw [c_264]; rfl) rfl ?_
      refine Z.aload_n (k := 1) dL_law_485 rfl ?_
      refine Z.aload_n (k := 0) dL_law_486 rfl ?_
      refine Z.iload_n (k := 3) dL_law_487 rfl ?_
      refine Z.iconst (n := 1) dL_law_488 ⟨by decide, by decide⟩ ?_
      obtain ⟨z_265, K⟩ := K
      refine Z.iadd dL_law_489 z_265 ?_
      obtain ⟨z_266, K⟩ := K
      refine Y.sld dL_law_490 z_266 ?_
      obtain ⟨x_267, E_268, m_269, K⟩ := K
      refine Y.callV (g := zm_X11_proof) (vs := [zI ((E 193 (v3 + 1)))]) (st := []) dL_law_491 ⟨zg_X11_proof.1, zg_X11_proof.2.1, zg_X11_proof.2.2, by decide⟩ ⟨zk_L_70, zv_X11_proof⟩ (ci := 11) (rfl) rfl (hm0) rfl rfl (Nat.le_of_ble_eq_true rfl) m_269 (Or.inl rfl) ?_
      show Z zm_L_law kz Q 494 [(0, zR 193), (1, zR 0), (2, zR 50), (3, zI v3)] [zI x_267] (d, G, E_268)
      refine Z.aload_n (k := 2) dL_law_494 rfl ?_
      refine Z.aload_n (k := 0) dL_law_495 rfl ?_
      refine Z.iload_n (k := 3) dL_law_496 rfl ?_
      refine Z.iconst (n := 1) dL_law_497 ⟨by decide, by decide⟩ ?_
      obtain ⟨z_271, K⟩ := K
      refine Z.iadd dL_law_498 z_271 ?_
      obtain ⟨z_272, K⟩ := K
      refine Y.sld dL_law_499 z_272 ?_
      obtain ⟨x_273, E_274, m_275, K⟩ := K
      refine Y.callV (g := zm_X12_proof) (vs := [zI ((E_268 193 (v3 + 1)))]) (st := [zI x_267]) dL_law_500 ⟨zg_X12_proof.1, zg_X12_proof.2.1, zg_X12_proof.2.2, by decide⟩ ⟨zk_L_73, zv_X12_proof⟩ (ci := 12) (rfl) rfl (hm50) rfl rfl (Nat.le_of_ble_eq_true rfl) m_275 (Or.inl rfl) ?_
      show Z zm_L_law kz Q 503 [(0, zR 193), (1, zR 0), (2, zR 50), (3, zI v3)] [zI x_273, zI x_267] (d, G, E_274)
      refine Z.icmp_eq 631 dL_law_503 rfl ⟨fun c_277 => ?_, fun c_277 => ?_⟩
      · replace K := K.1 c_277
        obtain ⟨z_278, K⟩ := K
        refine Z.iinc (k := 3) (ls' := [(3, zI ((v3 + 5))), (0, zR 193), (1, zR 0), (2, zR 50)]) dL_law_631 rfl (by decide) z_278 rfl ?_
        refine Z.goto 18 dL_law_634 rfl ?_
        refine Z.pick (ls' := [(0, zR 193), (1, zR 0), (2, zR 50), (3, zI ((v3 + 5)))]) [1, 2, 3, 0] rfl ?_
        exact K
      · replace K := K.2 c_277
        refine Z.iconst (n := 0) dL_law_506 ⟨by decide, by decide⟩ ?_
        exact Z.iret (ty := .boolean) dL_law_507 rfl rfl K
    replace K := K.2
    by_cases c_279 : (zand (E 193 v3) 31) = 14
    · replace K := K.1 c_279
      refine Z.tableIn (off := 476) 508 dL_law_32 (by omega) (by omega) (by rw [c_279]; rfl) rfl ?_
      refine Z.aload_n (k := 1) dL_law_508 rfl ?_
      refine Z.aload_n (k := 0) dL_law_509 rfl ?_
      refine Z.iload_n (k := 3) dL_law_510 rfl ?_
      refine Z.iconst (n := 1) dL_law_511 ⟨by decide, by decide⟩ ?_
      obtain ⟨z_280, K⟩ := K
      refine Z.iadd dL_law_512 z_280 ?_
      obtain ⟨z_281, K⟩ := K
      refine Y.sld dL_law_513 z_281 ?_
      refine Z.aload_n (k := 0) dL_law_514 rfl ?_
      refine Z.iload_n (k := 3) dL_law_515 rfl ?_
      refine Z.iconst (n := 2) dL_law_516 ⟨by decide, by decide⟩ ?_
      obtain ⟨z_282, K⟩ := K
      refine Z.iadd dL_law_517 z_282 ?_
      obtain ⟨z_283, K⟩ := K
      refine Y.sld dL_law_518 z_283 ?_
      refine Z.aload_n (k := 0) dL_law_519 rfl ?_
      refine Z.iload_n (k := 3) dL_law_520 rfl ?_
      refine Z.iconst (n := 3) dL_law_521 ⟨by decide, by decide⟩ ?_
      obtain ⟨z_284, K⟩ := K
      refine Z.iadd dL_law_522 z_284 ?_
      obtain ⟨z_285, K⟩ := K
      refine Y.sld dL_law_523 z_285 ?_
      refine Z.aload_n (k := 0) dL_law_524 rfl ?_
      refine Z.iload_n (k := 3) dL_law_525 rfl ?_
      refine Z.iconst (n := 4) dL_law_526 ⟨by decide, by decide⟩ ?_
      obtain ⟨z_286, K⟩ := K
      refine Z.iadd dL_law_527 z_286 ?_
      obtain ⟨z_287, K⟩ := K
      refine Y.sld dL_law_528 z_287 ?_
      obtain ⟨x_288, E_289, m_290, K⟩ := K
      refine Y.callV (g := zm_X11_order) (vs := [zI ((E 193 (v3 + 1))), zI ((E 193 (v3 + 2))), zI ((E 193 (v3 + 3))), zI ((E 193 (v3 + 4)))]) (st := []) dL_law_529 ⟨zg_X11_order.1, zg_X11_order.2.1, zg_X11_order.2.2, by decide⟩ ⟨zk_L_74, zv_X11_order⟩ (ci := 11) (rfl) rfl (hm0) rfl rfl (Nat.le_of_ble_eq_true rfl) m_290 (Or.inl rfl) ?_
      show Z zm_L_law kz Q 532 [(0, zR 193), (1, zR 0), (2, zR 50), (3, zI v3)] [zI x_288] (d, G, E_289)
      refine Z.aload_n (k := 2) dL_law_532 rfl ?_
      refine Z.aload_n (k := 0) dL_law_533 rfl ?_
      refine Z.iload_n (k := 3) dL_law_534 rfl ?_
      refine Z.iconst (n := 1) dL_law_535 ⟨by decide, by decide⟩ ?_
      obtain ⟨z_292, K⟩ := K
      refine Z.iadd dL_law_536 z_292 ?_
      obtain ⟨z_293, K⟩ := K
      refine Y.sld dL_law_537 z_293 ?_
      refine Z.aload_n (k := 0) dL_law_538 rfl ?_
      refine Z.iload_n (k := 3) dL_law_539 rfl ?_
      refine Z.iconst (n := 2) dL_law_540 ⟨by decide, by decide⟩ ?_
      obtain ⟨z_294, K⟩ := K
      refine Z.iadd dL_law_541 z_294 ?_
      obtain ⟨z_295, K⟩ := K
      refine Y.sld dL_law_542 z_295 ?_
      refine Z.aload_n (k := 0) dL_law_543 rfl ?_
      refine Z.iload_n (k := 3) dL_law_544 rfl ?_
      refine Z.iconst (n := 3) dL_law_545 ⟨by decide, by decide⟩ ?_
      obtain ⟨z_296, K⟩ := K
      refine Z.iadd dL_law_546 z_296 ?_
      obtain ⟨z_297, K⟩ := K
      refine Y.sld dL_law_547 z_297 ?_
      refine Z.aload_n (k := 0) dL_law_548 rfl ?_
      refine Z.iload_n (k := 3) dL_law_549 rfl ?_
      refine Z.iconst (n := 4) dL_law_550 ⟨by decide, by decide⟩ ?_
      obtain ⟨z_298, K⟩ := K
      refine Z.iadd dL_law_551 z_298 ?_
      obtain ⟨z_299, K⟩ := K
      refine Y.sld dL_law_552 z_299 ?_
      obtain ⟨x_300, E_301, m_302, K⟩ := K
      refine Y.callV (g := zm_X12_order) (vs := [zI ((E_289 193 (v3 + 1))), zI ((E_289 193 (v3 + 2))), zI ((E_289 193 (v3 + 3))), zI ((E_289 193 (v3 + 4)))]) (st := [zI x_288]) dL_law_553 ⟨zg_X12_order.1, zg_X12_order.2.1, zg_X12_order.2.2, by decide⟩ ⟨zk_L_78, zv_X12_order⟩ (ci := 12) (rfl) rfl (hm50) rfl rfl (Nat.le_of_ble_eq_true rfl) m_302 (Or.inl rfl) ?_
      show Z zm_L_law kz Q 556 [(0, zR 193), (1, zR 0), (2, zR 50), (3, zI v3)] [zI x_300, zI x_288] (d, G, E_301)
      refine Z.icmp_eq 631 dL_law_556 rfl ⟨fun c_304 => ?_, fun c_304 => ?_⟩
      · replace K := K.1 c_304
        obtain ⟨z_305, K⟩ := K
        refine Z.iinc (k := 3) (ls' := [(3, zI ((v3 + 5))), (0, zR 193), (1, zR 0), (2, zR 50)]) dL_law_631 rfl (by decide) z_305 rfl ?_
        refine Z.goto 18 dL_law_634 rfl ?_
        refine Z.pick (ls' := [(0, zR 193), (1, zR 0), (2, zR 50), (3, zI ((v3 + 5)))]) [1, 2, 3, 0] rfl ?_
        exact K
      · replace K := K.2 c_304
        refine Z.iconst (n := 0) dL_law_559 ⟨by decide, by decide⟩ ?_
        exact Z.iret (ty := .boolean) dL_law_560 rfl rfl K
    replace K := K.2
    by_cases c_306 : (zand (E 193 v3) 31) = 15
    · replace K := K.1 c_306
      refine Z.tableIn (off := 529) 561 dL_law_32 (by omega) (by omega) (by rw [c_306]; rfl) rfl ?_
      refine Z.aload_n (k := 1) dL_law_561 rfl ?_
      refine Z.aload_n (k := 0) dL_law_562 rfl ?_
      refine Z.iload_n (k := 3) dL_law_563 rfl ?_
      refine Z.iconst (n := 1) dL_law_564 ⟨by decide, by decide⟩ ?_
      obtain ⟨z_307, K⟩ := K
      refine Z.iadd dL_law_565 z_307 ?_
      obtain ⟨z_308, K⟩ := K
      refine Y.sld dL_law_566 z_308 ?_
      refine Z.aload_n (k := 0) dL_law_567 rfl ?_
      refine Z.iload_n (k := 3) dL_law_568 rfl ?_
      refine Z.iconst (n := 2) dL_law_569 ⟨by decide, by decide⟩ ?_
      obtain ⟨z_309, K⟩ := K
      refine Z.iadd dL_law_570 z_309 ?_
      obtain ⟨z_310, K⟩ := K
      refine Y.sld dL_law_571 z_310 ?_
      obtain ⟨x_311, E_312, m_313, K⟩ := K
      refine Y.callV (g := zm_X11_takesIn) (vs := [zI ((E 193 (v3 + 1))), zI ((E 193 (v3 + 2)))]) (st := []) dL_law_572 ⟨zg_X11_takesIn.1, zg_X11_takesIn.2.1, zg_X11_takesIn.2.2, by decide⟩ ⟨zk_L_79, zv_X11_takesIn⟩ (ci := 11) (rfl) rfl (hm0) rfl rfl (Nat.le_of_ble_eq_true rfl) m_313 (Or.inl rfl) ?_
      show Z zm_L_law kz Q 575 [(0, zR 193), (1, zR 0), (2, zR 50), (3, zI v3)] [zI x_311] (d, G, E_312)
      refine Z.aload_n (k := 2) dL_law_575 rfl ?_
      refine Z.aload_n (k := 0) dL_law_576 rfl ?_
      refine Z.iload_n (k := 3) dL_law_577 rfl ?_
      refine Z.iconst (n := 1) dL_law_578 ⟨by decide, by decide⟩ ?_
      obtain ⟨z_315, K⟩ := K
      refine Z.iadd dL_law_579 z_315 ?_
      obtain ⟨z_316, K⟩ := K
      refine Y.sld dL_law_580 z_316 ?_
      refine Z.aload_n (k := 0) dL_law_581 rfl ?_
      refine Z.iload_n (k := 3) dL_law_582 rfl ?_
      refine Z.iconst (n := 2) dL_law_583 ⟨by decide, by decide⟩ ?_
      obtain ⟨z_317, K⟩ := K
      refine Z.iadd dL_law_584 z_317 ?_
      obtain ⟨z_318, K⟩ := K
      refine Y.sld dL_law_585 z_318 ?_
      obtain ⟨x_319, E_320, m_321, K⟩ := K
      refine Y.callV (g := zm_X12_takesIn) (vs := [zI ((E_312 193 (v3 + 1))), zI ((E_312 193 (v3 + 2)))]) (st := [zI x_311]) dL_law_586 ⟨zg_X12_takesIn.1, zg_X12_takesIn.2.1, zg_X12_takesIn.2.2, by decide⟩ ⟨zk_L_82, zv_X12_takesIn⟩ (ci := 12) (rfl) rfl (hm50) rfl rfl (Nat.le_of_ble_eq_true rfl) m_321 (Or.inl rfl) ?_
      show Z zm_L_law kz Q 589 [(0, zR 193), (1, zR 0), (2, zR 50), (3, zI v3)] [zI x_319, zI x_311] (d, G, E_320)
      refine Z.icmp_eq 631 dL_law_589 rfl ⟨fun c_323 => ?_, fun c_323 => ?_⟩
      · replace K := K.1 c_323
        obtain ⟨z_324, K⟩ := K
        refine Z.iinc (k := 3) (ls' := [(3, zI ((v3 + 5))), (0, zR 193), (1, zR 0), (2, zR 50)]) dL_law_631 rfl (by decide) z_324 rfl ?_
        refine Z.goto 18 dL_law_634 rfl ?_
        refine Z.pick (ls' := [(0, zR 193), (1, zR 0), (2, zR 50), (3, zI ((v3 + 5)))]) [1, 2, 3, 0] rfl ?_
        exact K
      · replace K := K.2 c_323
        refine Z.iconst (n := 0) dL_law_592 ⟨by decide, by decide⟩ ?_
        exact Z.iret (ty := .boolean) dL_law_593 rfl rfl K
    replace K := K.2
    by_cases c_325 : (zand (E 193 v3) 31) = 16
    · replace K := K.1 c_325
      refine Z.tableIn (off := 562) 594 dL_law_32 (by omega) (by omega) (by rw [c_325]; rfl) rfl ?_
      refine Z.aload_n (k := 1) dL_law_594 rfl ?_
      refine Z.aload_n (k := 0) dL_law_595 rfl ?_
      refine Z.iload_n (k := 3) dL_law_596 rfl ?_
      refine Z.iconst (n := 1) dL_law_597 ⟨by decide, by decide⟩ ?_
      obtain ⟨z_326, K⟩ := K
      refine Z.iadd dL_law_598 z_326 ?_
      obtain ⟨z_327, K⟩ := K
      refine Y.sld dL_law_599 z_327 ?_
      obtain ⟨x_328, m_329, K⟩ := K
      refine Y.callV (g := zm_X11_count) (vs := [zI ((E 193 (v3 + 1)))]) (st := []) dL_law_600 ⟨zg_X11_count.1, zg_X11_count.2.1, zg_X11_count.2.2, by decide⟩ ⟨zk_L_83, zv_X11_count⟩ (ci := 11) (rfl) rfl (hm0) rfl rfl (Nat.le_of_ble_eq_true rfl) m_329 (Or.inl rfl) ?_
      show Z zm_L_law kz Q 603 [(0, zR 193), (1, zR 0), (2, zR 50), (3, zI v3)] [zI x_328] (d, G, E)
      refine Z.aload_n (k := 2) dL_law_603 rfl ?_
      refine Z.aload_n (k := 0) dL_law_604 rfl ?_
      refine Z.iload_n (k := 3) dL_law_605 rfl ?_
      refine Z.iconst (n := 1) dL_law_606 ⟨by decide, by decide⟩ ?_
      obtain ⟨z_331, K⟩ := K
      refine Z.iadd dL_law_607 z_331 ?_
      obtain ⟨z_332, K⟩ := K
      refine Y.sld dL_law_608 z_332 ?_
      obtain ⟨x_333, m_334, K⟩ := K
      refine Y.callV (g := zm_X12_count) (vs := [zI ((E 193 (v3 + 1)))]) (st := [zI x_328]) dL_law_609 ⟨zg_X12_count.1, zg_X12_count.2.1, zg_X12_count.2.2, by decide⟩ ⟨zk_L_86, zv_X12_count⟩ (ci := 12) (rfl) rfl (hm50) rfl rfl (Nat.le_of_ble_eq_true rfl) m_334 (Or.inl rfl) ?_
      show Z zm_L_law kz Q 612 [(0, zR 193), (1, zR 0), (2, zR 50), (3, zI v3)] [zI x_333, zI x_328] (d, G, E)
      refine Z.icmp_eq 631 dL_law_612 rfl ⟨fun c_336 => ?_, fun c_336 => ?_⟩
      · replace K := K.1 c_336
        obtain ⟨z_337, K⟩ := K
        refine Z.iinc (k := 3) (ls' := [(3, zI ((v3 + 5))), (0, zR 193), (1, zR 0), (2, zR 50)]) dL_law_631 rfl (by decide) z_337 rfl ?_
        refine Z.goto 18 dL_law_634 rfl ?_
        refine Z.pick (ls' := [(0, zR 193), (1, zR 0), (2, zR 50), (3, zI ((v3 + 5)))]) [1, 2, 3, 0] rfl ?_
        exact K
      · replace K := K.2 c_336
        refine Z.iconst (n := 0) dL_law_615 ⟨by decide, by decide⟩ ?_
        exact Z.iret (ty := .boolean) dL_law_616 rfl rfl K
    replace K := K.2
    by_cases c_338 : (zand (E 193 v3) 31) = 17
    · replace K := K.1 c_338
      refine Z.tableIn (off := 585) 617 dL_law_32 (by omega) (by omega) (by rw [c_338]; rfl) rfl ?_
      refine Z.aload_n (k := 1) dL_law_617 rfl ?_
      obtain ⟨x_339, m_340, K⟩ := K
      refine Y.callV (g := zm_X11_digest) (vs := []) (st := []) dL_law_618 ⟨zg_X11_digest.1, zg_X11_digest.2.1, zg_X11_digest.2.2, by decide⟩ ⟨zk_L_87, zv_X11_digest⟩ (ci := 11) (rfl) rfl (hm0) rfl rfl (Nat.le_of_ble_eq_true rfl) m_340 (Or.inl rfl) ?_
      show Z zm_L_law kz Q 621 [(0, zR 193), (1, zR 0), (2, zR 50), (3, zI v3)] [zL x_339] (d, G, E)
      refine Z.aload_n (k := 2) dL_law_621 rfl ?_
      obtain ⟨x_342, m_343, K⟩ := K
      refine Y.callV (g := zm_X12_digest) (vs := []) (st := [zL x_339]) dL_law_622 ⟨zg_X12_digest.1, zg_X12_digest.2.1, zg_X12_digest.2.2, by decide⟩ ⟨zk_L_91, zv_X12_digest⟩ (ci := 12) (rfl) rfl (hm50) rfl rfl (Nat.le_of_ble_eq_true rfl) m_343 (Or.inl rfl) ?_
      show Z zm_L_law kz Q 625 [(0, zR 193), (1, zR 0), (2, zR 50), (3, zI v3)] [zL x_342, zL x_339] (d, G, E)
      refine Z.lcmp dL_law_625 ?_
      refine Z.if_eq 631 dL_law_626 rfl ⟨fun c_345 => ?_, fun c_345 => ?_⟩
      · replace K := K.1 c_345
        obtain ⟨z_346, K⟩ := K
        refine Z.iinc (k := 3) (ls' := [(3, zI ((v3 + 5))), (0, zR 193), (1, zR 0), (2, zR 50)]) dL_law_631 rfl (by decide) z_346 rfl ?_
        refine Z.goto 18 dL_law_634 rfl ?_
        refine Z.pick (ls' := [(0, zR 193), (1, zR 0), (2, zR 50), (3, zI ((v3 + 5)))]) [1, 2, 3, 0] rfl ?_
        exact K
      · replace K := K.2 c_345
        refine Z.iconst (n := 0) dL_law_629 ⟨by decide, by decide⟩ ?_
        exact Z.iret (ty := .boolean) dL_law_630 rfl rfl K
    replace K := K.2
    have hd0 : (zand (E 193 v3) 31) < 0 ∨ 17 < (zand (E 193 v3) 31) := by omega
    replace K := K hd0
    refine Z.tableOut 631 dL_law_32 hd0 rfl ?_
    obtain ⟨z_347, K⟩ := K
    refine Z.iinc (k := 3) (ls' := [(3, zI ((v3 + 5))), (0, zR 193), (1, zR 0), (2, zR 50)]) dL_law_631 rfl (by decide) z_347 rfl ?_
    refine Z.goto 18 dL_law_634 rfl ?_
    refine Z.pick (ls' := [(0, zR 193), (1, zR 0), (2, zR 50), (3, zI ((v3 + 5)))]) [1, 2, 3, 0] rfl ?_
    exact K
