set_option maxRecDepth 20000 in
theorem X11_alike_0 {kz : Nat × Nat} {Q : Option zV → zH → Prop} {d : List Nat} {G : Nat → Int → Option Nat} {E : Nat → Int → Int} {a0 n0 : Nat} {v1 : Int} {a2 n2 : Nat} {v3 : Int} {v4 : Int} (hX : zK zXt d G) (ha0 : a0 ∈ d) (hk0 : zkd a0 = (0, n0)) (ha2 : a2 ∈ d) (hk2 : zkd a2 = (0, n2)) (K : (v1 < 0 → Q (some (zI 0)) (d, G, E)) ∧ (¬ (v1 < 0) → (v3 < 0 → Q (some (zI 0)) (d, G, E)) ∧ (¬ (v3 < 0) → zin (v1 + v4) ∧ zin (n0 : Int) ∧ ((n0 : Int) < (v1 + v4) → Q (some (zI 0)) (d, G, E)) ∧ (¬ ((n0 : Int) < (v1 + v4)) → zin (v3 + v4) ∧ zin (n2 : Int) ∧ ((v3 + v4) ≤ (n2 : Int) → Z zm_X11_alike kz Q 31 [(0, zR a0), (1, zI v1), (2, zR a2), (3, zI v3), (4, zI v4), (5, zI 0)] [] (d, G, E)) ∧ (¬ ((v3 + v4) ≤ (n2 : Int)) → Q (some (zI 0)) (d, G, E)))))) : Z zm_X11_alike kz Q 0 [(0, zR a0), (1, zI v1), (2, zR a2), (3, zI v3), (4, zI v4)] [] (d, G, E) := by
  refine Z.iload_n (k := 1) dX11_alike_0 rfl ?_
  refine Z.if_lt 26 dX11_alike_1 rfl ⟨fun c_1 => ?_, fun c_1 => ?_⟩
  · replace K := K.1 c_1
    refine Z.iconst (n := 0) dX11_alike_26 ⟨by decide, by decide⟩ ?_
    exact Z.iret (ty := .boolean) dX11_alike_27 rfl rfl K
  · replace K := K.2 c_1
    refine Z.iload_n (k := 3) dX11_alike_4 rfl ?_
    refine Z.if_lt 26 dX11_alike_5 rfl ⟨fun c_2 => ?_, fun c_2 => ?_⟩
    · replace K := K.1 c_2
      refine Z.iconst (n := 0) dX11_alike_26 ⟨by decide, by decide⟩ ?_
      exact Z.iret (ty := .boolean) dX11_alike_27 rfl rfl K
    · replace K := K.2 c_2
      refine Z.iload_n (k := 1) dX11_alike_8 rfl ?_
      refine Z.iload (k := 4) dX11_alike_9 rfl ?_
      obtain ⟨z_3, K⟩ := K
      refine Z.iadd dX11_alike_11 z_3 ?_
      refine Z.aload_n (k := 0) dX11_alike_12 rfl ?_
      obtain ⟨z_4, K⟩ := K
      refine Y.alen n0 (n0 : Int) dX11_alike_13 (hk0) (ha0) rfl z_4 ?_
      refine Z.icmp_gt 26 dX11_alike_14 rfl ⟨fun c_5 => ?_, fun c_5 => ?_⟩
      · replace K := K.1 c_5
        refine Z.iconst (n := 0) dX11_alike_26 ⟨by decide, by decide⟩ ?_
        exact Z.iret (ty := .boolean) dX11_alike_27 rfl rfl K
      · replace K := K.2 c_5
        refine Z.iload_n (k := 3) dX11_alike_17 rfl ?_
        refine Z.iload (k := 4) dX11_alike_18 rfl ?_
        obtain ⟨z_6, K⟩ := K
        refine Z.iadd dX11_alike_20 z_6 ?_
        refine Z.aload_n (k := 2) dX11_alike_21 rfl ?_
        obtain ⟨z_7, K⟩ := K
        refine Y.alen n2 (n2 : Int) dX11_alike_22 (hk2) (ha2) rfl z_7 ?_
        refine Z.icmp_le 28 dX11_alike_23 rfl ⟨fun c_8 => ?_, fun c_8 => ?_⟩
        · replace K := K.1 c_8
          refine Z.iconst (n := 0) dX11_alike_28 ⟨by decide, by decide⟩ ?_
          refine Z.istore (ls' := [(5, zI 0), (0, zR a0), (1, zI v1), (2, zR a2), (3, zI v3), (4, zI v4)]) dX11_alike_29 (by decide) rfl ?_
          refine Z.pick (ls' := [(0, zR a0), (1, zI v1), (2, zR a2), (3, zI v3), (4, zI v4), (5, zI 0)]) [1, 2, 3, 4, 5, 0] rfl ?_
          exact K
        · replace K := K.2 c_8
          refine Z.iconst (n := 0) dX11_alike_26 ⟨by decide, by decide⟩ ?_
          exact Z.iret (ty := .boolean) dX11_alike_27 rfl rfl K
set_option maxRecDepth 20000 in
theorem X11_alike_31 {kz : Nat × Nat} {Q : Option zV → zH → Prop} {d : List Nat} {G : Nat → Int → Option Nat} {E : Nat → Int → Int} {a0 n0 : Nat} {v1 : Int} {a2 n2 : Nat} {v3 : Int} {v4 : Int} {v5 : Int} (hX : zK zXt d G) (ha0 : a0 ∈ d) (hk0 : zkd a0 = (0, n0)) (ha2 : a2 ∈ d) (hk2 : zkd a2 = (0, n2)) (K : (v4 ≤ v5 → Q (some (zI 1)) (d, G, E)) ∧ (¬ (v4 ≤ v5) → zin (v1 + v5) ∧ ((0 : Int) ≤ (v1 + v5) ∧ (v1 + v5) < (n0 : Int)) ∧ zin (v3 + v5) ∧ ((0 : Int) ≤ (v3 + v5) ∧ (v3 + v5) < (n2 : Int)) ∧ ((E a0 (v1 + v5)) = (E a2 (v3 + v5)) → zin (v5 + 1) ∧ Z zm_X11_alike kz Q 31 [(0, zR a0), (1, zI v1), (2, zR a2), (3, zI v3), (4, zI v4), (5, zI ((v5 + 1)))] [] (d, G, E)) ∧ (¬ ((E a0 (v1 + v5)) = (E a2 (v3 + v5))) → Q (some (zI 0)) (d, G, E)))) : Z zm_X11_alike kz Q 31 [(0, zR a0), (1, zI v1), (2, zR a2), (3, zI v3), (4, zI v4), (5, zI v5)] [] (d, G, E) := by
  refine Z.iload (k := 5) dX11_alike_31 rfl ?_
  refine Z.iload (k := 4) dX11_alike_33 rfl ?_
  refine Z.icmp_ge 61 dX11_alike_35 rfl ⟨fun c_1 => ?_, fun c_1 => ?_⟩
  · replace K := K.1 c_1
    refine Z.iconst (n := 1) dX11_alike_61 ⟨by decide, by decide⟩ ?_
    exact Z.iret (ty := .boolean) dX11_alike_62 rfl rfl K
  · replace K := K.2 c_1
    refine Z.aload_n (k := 0) dX11_alike_38 rfl ?_
    refine Z.iload_n (k := 1) dX11_alike_39 rfl ?_
    refine Z.iload (k := 5) dX11_alike_40 rfl ?_
    obtain ⟨z_2, K⟩ := K
    refine Z.iadd dX11_alike_42 z_2 ?_
    obtain ⟨z_3, K⟩ := K
    refine Y.iald dX11_alike_43 (hk0) (ha0) z_3 ?_
    refine Z.aload_n (k := 2) dX11_alike_44 rfl ?_
    refine Z.iload_n (k := 3) dX11_alike_45 rfl ?_
    refine Z.iload (k := 5) dX11_alike_46 rfl ?_
    obtain ⟨z_4, K⟩ := K
    refine Z.iadd dX11_alike_48 z_4 ?_
    obtain ⟨z_5, K⟩ := K
    refine Y.iald dX11_alike_49 (hk2) (ha2) z_5 ?_
    refine Z.icmp_eq 55 dX11_alike_50 rfl ⟨fun c_6 => ?_, fun c_6 => ?_⟩
    · replace K := K.1 c_6
      obtain ⟨z_7, K⟩ := K
      refine Z.iinc (k := 5) (ls' := [(5, zI ((v5 + 1))), (0, zR a0), (1, zI v1), (2, zR a2), (3, zI v3), (4, zI v4)]) dX11_alike_55 rfl (by decide) z_7 rfl ?_
      refine Z.goto 31 dX11_alike_58 rfl ?_
      refine Z.pick (ls' := [(0, zR a0), (1, zI v1), (2, zR a2), (3, zI v3), (4, zI v4), (5, zI ((v5 + 1)))]) [1, 2, 3, 4, 5, 0] rfl ?_
      exact K
    · replace K := K.2 c_6
      refine Z.iconst (n := 0) dX11_alike_53 ⟨by decide, by decide⟩ ?_
      exact Z.iret (ty := .boolean) dX11_alike_54 rfl rfl K
set_option maxRecDepth 20000 in
theorem X11_init_0 {kz : Nat × Nat} {Q : Option zV → zH → Prop} {d : List Nat} {G : Nat → Int → Option Nat} {E : Nat → Int → Int}  (hm0 : 0 ∈ d) (K : ∃ a_1, (zkd a_1).1 = 8 + 3 ∧ a_1 ∉ d ∧ ¬ zst3 a_1 ∧ d.length + 1 ≤ kz.1 ∧ zsl d + (zkd a_1).2 ≤ kz.2 ∧ ∀ d_7 G_8 E_9, d_7 = d ++ [a_1] → G_8 = zclG G a_1 → E_9 = zclE E a_1 → (∃ d_10 G_11 E_12, zM zm_X8_init [zR a_1] (d_7, G_8, E_9) none (d_10, G_11, E_12) ∧ (d_10 = d_7 ∨ d_10.length ≤ kz.1 ∧ zsl d_10 ≤ kz.2) ∧ 0 ∈ d_10 ∧ a_1 ∈ d_10 ∧ ∀ G_17, G_17 = zuG G_11 0 0 (some a_1) → ∃ a_18, (zkd a_18).1 = 7 + 3 ∧ a_18 ∉ d_10 ∧ ¬ zst3 a_18 ∧ d_10.length + 1 ≤ kz.1 ∧ zsl d_10 + (zkd a_18).2 ≤ kz.2 ∧ ∀ d_24 G_25 E_26, d_24 = d_10 ++ [a_18] → G_25 = zclG G_17 a_18 → E_26 = zclE E_12 a_18 → (∃ d_27 G_28 E_29, zM zm_X7_init [zR a_18] (d_24, G_25, E_26) none (d_27, G_28, E_29) ∧ (d_27 = d_24 ∨ d_27.length ≤ kz.1 ∧ zsl d_27 ≤ kz.2) ∧ 0 ∈ d_27 ∧ a_18 ∈ d_27 ∧ ∀ G_34, G_34 = zuG G_28 0 1 (some a_18) → ∃ a_35, zkd a_35 = (0, (200 : Int).toNat) ∧ (0 : Int) ≤ 200 ∧ 200 ≤ (100000 : Int) ∧ a_35 ∉ d_27 ∧ ¬ zst3 a_35 ∧ d_27.length + 1 ≤ kz.1 ∧ zsl d_27 + (zkd a_35).2 ≤ kz.2 ∧ ∀ d_43 G_44 E_45, d_43 = d_27 ++ [a_35] → G_44 = zclG G_34 a_35 → E_45 = zclE E_29 a_35 → (∀ G_46, G_46 = zuG G_44 0 2 (some a_35) → ∃ a_47, (zkd a_47).1 = 5 + 3 ∧ a_47 ∉ d_43 ∧ ¬ zst3 a_47 ∧ d_43.length + 1 ≤ kz.1 ∧ zsl d_43 + (zkd a_47).2 ≤ kz.2 ∧ ∀ d_53 G_54 E_55, d_53 = d_43 ++ [a_47] → G_54 = zclG G_46 a_47 → E_55 = zclE E_45 a_47 → (∃ d_56 G_57 E_58, zM zm_X5_init [zR a_47] (d_53, G_54, E_55) none (d_56, G_57, E_58) ∧ (d_56 = d_53 ∨ d_56.length ≤ kz.1 ∧ zsl d_56 ≤ kz.2) ∧ 0 ∈ d_56 ∧ a_47 ∈ d_56 ∧ ∀ G_63, G_63 = zuG G_57 0 3 (some a_47) → ∃ a_64, (zkd a_64).1 = 5 + 3 ∧ a_64 ∉ d_56 ∧ ¬ zst3 a_64 ∧ d_56.length + 1 ≤ kz.1 ∧ zsl d_56 + (zkd a_64).2 ≤ kz.2 ∧ ∀ d_70 G_71 E_72, d_70 = d_56 ++ [a_64] → G_71 = zclG G_63 a_64 → E_72 = zclE E_58 a_64 → (∃ d_73 G_74 E_75, zM zm_X5_init [zR a_64] (d_70, G_71, E_72) none (d_73, G_74, E_75) ∧ (d_73 = d_70 ∨ d_73.length ≤ kz.1 ∧ zsl d_73 ≤ kz.2) ∧ 0 ∈ d_73 ∧ a_64 ∈ d_73 ∧ ∀ G_80, G_80 = zuG G_74 0 4 (some a_64) → ∃ a_81, (zkd a_81).1 = 6 + 3 ∧ a_81 ∉ d_73 ∧ ¬ zst3 a_81 ∧ d_73.length + 1 ≤ kz.1 ∧ zsl d_73 + (zkd a_81).2 ≤ kz.2 ∧ ∀ d_87 G_88 E_89, d_87 = d_73 ++ [a_81] → G_88 = zclG G_80 a_81 → E_89 = zclE E_75 a_81 → (∃ d_90 G_91 E_92, zM zm_X6_init [zR a_81, zO ((G_88 0 0))] (d_87, G_88, E_89) none (d_90, G_91, E_92) ∧ (d_90 = d_87 ∨ d_90.length ≤ kz.1 ∧ zsl d_90 ≤ kz.2) ∧ 0 ∈ d_90 ∧ a_81 ∈ d_90 ∧ ∀ G_97, G_97 = zuG G_91 0 5 (some a_81) → ∃ a_98, (zkd a_98).1 = 9 + 3 ∧ a_98 ∉ d_90 ∧ ¬ zst3 a_98 ∧ d_90.length + 1 ≤ kz.1 ∧ zsl d_90 + (zkd a_98).2 ≤ kz.2 ∧ ∀ d_104 G_105 E_106, d_104 = d_90 ++ [a_98] → G_105 = zclG G_97 a_98 → E_106 = zclE E_92 a_98 → (∃ d_107 G_108 E_109, zM zm_X9_init [zR a_98, zO ((G_105 0 0))] (d_104, G_105, E_106) none (d_107, G_108, E_109) ∧ (d_107 = d_104 ∨ d_107.length ≤ kz.1 ∧ zsl d_107 ≤ kz.2) ∧ 0 ∈ d_107 ∧ a_98 ∈ d_107 ∧ ∀ G_114, G_114 = zuG G_108 0 6 (some a_98) → ∃ a_115, (zkd a_115).1 = 2 + 3 ∧ a_115 ∉ d_107 ∧ ¬ zst3 a_115 ∧ d_107.length + 1 ≤ kz.1 ∧ zsl d_107 + (zkd a_115).2 ≤ kz.2 ∧ ∀ d_121 G_122 E_123, d_121 = d_107 ++ [a_115] → G_122 = zclG G_114 a_115 → E_123 = zclE E_109 a_115 → (∃ d_124 G_125 E_126, zM zm_X2_init [zR a_115, zO ((G_122 0 0)), zO ((G_122 0 5))] (d_121, G_122, E_123) none (d_124, G_125, E_126) ∧ (d_124 = d_121 ∨ d_124.length ≤ kz.1 ∧ zsl d_124 ≤ kz.2) ∧ 0 ∈ d_124 ∧ a_115 ∈ d_124 ∧ ∀ G_131, G_131 = zuG G_125 0 7 (some a_115) → ∃ a_132, (zkd a_132).1 = 10 + 3 ∧ a_132 ∉ d_124 ∧ ¬ zst3 a_132 ∧ d_124.length + 1 ≤ kz.1 ∧ zsl d_124 + (zkd a_132).2 ≤ kz.2 ∧ ∀ d_138 G_139 E_140, d_138 = d_124 ++ [a_132] → G_139 = zclG G_131 a_132 → E_140 = zclE E_126 a_132 → (∃ d_141 G_142 E_143, zM zm_X10_init [zR a_132, zO ((G_139 0 6)), zO ((G_139 0 1))] (d_138, G_139, E_140) none (d_141, G_142, E_143) ∧ (d_141 = d_138 ∨ d_141.length ≤ kz.1 ∧ zsl d_141 ≤ kz.2) ∧ 0 ∈ d_141 ∧ a_132 ∈ d_141 ∧ ∀ G_148, G_148 = zuG G_142 0 8 (some a_132) → ∃ a_149, (zkd a_149).1 = 4 + 3 ∧ a_149 ∉ d_141 ∧ ¬ zst3 a_149 ∧ d_141.length + 1 ≤ kz.1 ∧ zsl d_141 + (zkd a_149).2 ≤ kz.2 ∧ ∀ d_155 G_156 E_157, d_155 = d_141 ++ [a_149] → G_156 = zclG G_148 a_149 → E_157 = zclE E_143 a_149 → (∃ d_158 G_159 E_160, zM zm_X4_init [zR a_149, zO ((G_156 0 0)), zO ((G_156 0 5)), zO ((G_156 0 6)), zO ((G_156 0 1))] (d_155, G_156, E_157) none (d_158, G_159, E_160) ∧ (d_158 = d_155 ∨ d_158.length ≤ kz.1 ∧ zsl d_158 ≤ kz.2) ∧ 0 ∈ d_158 ∧ a_149 ∈ d_158 ∧ ∀ G_165, G_165 = zuG G_159 0 9 (some a_149) → ∃ a_166, (zkd a_166).1 = 3 + 3 ∧ a_166 ∉ d_158 ∧ ¬ zst3 a_166 ∧ d_158.length + 1 ≤ kz.1 ∧ zsl d_158 + (zkd a_166).2 ≤ kz.2 ∧ ∀ d_172 G_173 E_174, d_172 = d_158 ++ [a_166] → G_173 = zclG G_165 a_166 → E_174 = zclE E_160 a_166 → (∃ G_175, zM zm_X3_init [zR a_166, zO ((G_173 0 0)), zO ((G_173 0 5)), zO ((G_173 0 6)), zO ((G_173 0 1))] (d_172, G_173, E_174) none (d_172, G_175, E_174) ∧ 0 ∈ d_172 ∧ a_166 ∈ d_172 ∧ ∀ G_180, G_180 = zuG G_175 0 10 (some a_166) → ∃ a_181, (zkd a_181).1 = 0 + 3 ∧ a_181 ∉ d_172 ∧ ¬ zst3 a_181 ∧ d_172.length + 1 ≤ kz.1 ∧ zsl d_172 + (zkd a_181).2 ≤ kz.2 ∧ ∀ d_187 G_188 E_189, d_187 = d_172 ++ [a_181] → G_188 = zclG G_180 a_181 → E_189 = zclE E_174 a_181 → (∃ d_190 G_191 E_192, zM zm_X0_init [zR a_181, zO ((G_188 0 0)), zO ((G_188 0 1))] (d_187, G_188, E_189) none (d_190, G_191, E_192) ∧ (d_190 = d_187 ∨ d_190.length ≤ kz.1 ∧ zsl d_190 ≤ kz.2) ∧ 0 ∈ d_190 ∧ a_181 ∈ d_190 ∧ ∀ G_197, G_197 = zuG G_191 0 11 (some a_181) → ∀ E_198, E_198 = zuE E_192 0 12 0 → ∀ E_199, E_199 = zuE E_198 0 13 4 → ∀ E_200, E_200 = zuE E_199 0 14 2000 → ∀ E_201, E_201 = zuE E_200 0 15 0 → ∀ E_202, E_202 = zuE E_201 0 16 0 → ∀ E_203, E_203 = zuE E_202 0 17 0 → ∀ E_204, E_204 = zuE E_203 0 18 0 → ∀ E_205, E_205 = zuE E_204 0 19 0 → ∀ E_206, E_206 = zuE E_205 0 20 0 → Q none (d_190, G_197, E_206)))))))))))))) : Z zm_X11_init kz Q 0 [(0, zR 0)] [] (d, G, E) := by
  refine Z.aload_n (k := 0) dX11_init_0 rfl ?_
  refine Z.objInit (a := 0) dX11_init_1 zk_X11_3 ⟨by decide, by decide⟩ (Nat.le_of_ble_eq_true rfl) ?_
  refine Z.aload_n (k := 0) dX11_init_4 rfl ?_
  obtain ⟨a_1, z_2, z_3, z_4, z_5, z_6, K⟩ := K
  refine Y.new a_1 dX11_init_5 zc_X11_9 z_2 z_3 z_4 z_5 z_6 ?_
  generalize ed_7 : d ++ [a_1] = d_7
  generalize eG_8 : zclG G a_1 = G_8
  generalize eE_9 : zclE E a_1 = E_9
  replace K := K d_7 G_8 E_9 ed_7.symm eG_8.symm eE_9.symm
  refine Z.dup_i dX11_init_8 (fun _ => rfl) ?_
  obtain ⟨d_10, G_11, E_12, m_13, z_14, K⟩ := K
  refine Y.callI (g := zm_X8_init) (vs := []) (st := [zR a_1, zR 0]) dX11_init_9 ⟨zg_X8_init.1, zg_X8_init.2.1, zg_X8_init.2.2, by decide⟩ ⟨Or.inl zk_X11_11, zi_X8_init⟩ rfl rfl rfl rfl (Nat.le_of_ble_eq_true rfl) m_13 z_14 ?_
  show Z zm_X11_init kz Q 12 [(0, zR 0)] [zR a_1, zR 0] (d_10, G_11, E_12)
  obtain ⟨hm_15, hm_16, K⟩ := K
  refine Y.putR 0 dX11_init_12 zw_X11_12 (fun _ => ⟨rfl, rfl⟩) (rfl) rfl hm_15 (fun b hb => by cases hb; exact hm_16) ?_
  generalize eG_17 : zuG G_11 0 0 (some a_1) = G_17
  replace K := K G_17 eG_17.symm
  refine Z.aload_n (k := 0) dX11_init_15 rfl ?_
  obtain ⟨a_18, z_19, z_20, z_21, z_22, z_23, K⟩ := K
  refine Y.new a_18 dX11_init_16 zc_X11_16 z_19 z_20 z_21 z_22 z_23 ?_
  generalize ed_24 : d_10 ++ [a_18] = d_24
  generalize eG_25 : zclG G_17 a_18 = G_25
  generalize eE_26 : zclE E_12 a_18 = E_26
  replace K := K d_24 G_25 E_26 ed_24.symm eG_25.symm eE_26.symm
  refine Z.dup_i dX11_init_19 (fun _ => rfl) ?_
  obtain ⟨d_27, G_28, E_29, m_30, z_31, K⟩ := K
  refine Y.callI (g := zm_X7_init) (vs := []) (st := [zR a_18, zR 0]) dX11_init_20 ⟨zg_X7_init.1, zg_X7_init.2.1, zg_X7_init.2.2, by decide⟩ ⟨Or.inr zk_X11_18, zi_X7_init⟩ rfl rfl rfl rfl (Nat.le_of_ble_eq_true rfl) m_30 z_31 ?_
  show Z zm_X11_init kz Q 23 [(0, zR 0)] [zR a_18, zR 0] (d_27, G_28, E_29)
  obtain ⟨hm_32, hm_33, K⟩ := K
  refine Y.putR 1 dX11_init_23 zw_X11_19 (fun _ => ⟨rfl, rfl⟩) (rfl) rfl hm_32 (fun b hb => by cases hb; exact hm_33) ?_
  generalize eG_34 : zuG G_28 0 1 (some a_18) = G_34
  replace K := K G_34 eG_34.symm
  refine Z.aload_n (k := 0) dX11_init_26 rfl ?_
  refine Z.sipush (n := 200) dX11_init_27 ⟨by decide, by decide⟩ (by decide) ?_
  obtain ⟨a_35, z_36, z_37, z_38, z_39, z_40, z_41, z_42, K⟩ := K
  refine Y.newI a_35 dX11_init_30 z_36 z_37 z_38 zai z_39 z_40 z_41 z_42 ?_
  generalize ed_43 : d_27 ++ [a_35] = d_43
  generalize eG_44 : zclG G_34 a_35 = G_44
  generalize eE_45 : zclE E_29 a_35 = E_45
  replace K := K d_43 G_44 E_45 ed_43.symm eG_44.symm eE_45.symm
  refine Y.putR 2 dX11_init_32 zw_X11_23 (fun _ => ⟨rfl, rfl⟩) (rfl) rfl (by rw [← ed_43]; exact List.mem_append_left _ (hm_32)) (fun b hb => by cases hb; exact (by rw [← ed_43]; exact List.mem_append_right _ List.mem_cons_self)) ?_
  generalize eG_46 : zuG G_44 0 2 (some a_35) = G_46
  replace K := K G_46 eG_46.symm
  refine Z.aload_n (k := 0) dX11_init_35 rfl ?_
  obtain ⟨a_47, z_48, z_49, z_50, z_51, z_52, K⟩ := K
  refine Y.new a_47 dX11_init_36 zc_X11_27 z_48 z_49 z_50 z_51 z_52 ?_
  generalize ed_53 : d_43 ++ [a_47] = d_53
  generalize eG_54 : zclG G_46 a_47 = G_54
  generalize eE_55 : zclE E_45 a_47 = E_55
  replace K := K d_53 G_54 E_55 ed_53.symm eG_54.symm eE_55.symm
  refine Z.dup_i dX11_init_39 (fun _ => rfl) ?_
  obtain ⟨d_56, G_57, E_58, m_59, z_60, K⟩ := K
  refine Y.callI (g := zm_X5_init) (vs := []) (st := [zR a_47, zR 0]) dX11_init_40 ⟨zg_X5_init.1, zg_X5_init.2.1, zg_X5_init.2.2, by decide⟩ ⟨Or.inr zk_X11_29, zi_X5_init⟩ rfl rfl rfl rfl (Nat.le_of_ble_eq_true rfl) m_59 z_60 ?_
  show Z zm_X11_init kz Q 43 [(0, zR 0)] [zR a_47, zR 0] (d_56, G_57, E_58)
  obtain ⟨hm_61, hm_62, K⟩ := K
  refine Y.putR 3 dX11_init_43 zw_X11_30 (fun _ => ⟨rfl, rfl⟩) (rfl) rfl hm_61 (fun b hb => by cases hb; exact hm_62) ?_
  generalize eG_63 : zuG G_57 0 3 (some a_47) = G_63
  replace K := K G_63 eG_63.symm
  refine Z.aload_n (k := 0) dX11_init_46 rfl ?_
  obtain ⟨a_64, z_65, z_66, z_67, z_68, z_69, K⟩ := K
  refine Y.new a_64 dX11_init_47 zc_X11_27 z_65 z_66 z_67 z_68 z_69 ?_
  generalize ed_70 : d_56 ++ [a_64] = d_70
  generalize eG_71 : zclG G_63 a_64 = G_71
  generalize eE_72 : zclE E_58 a_64 = E_72
  replace K := K d_70 G_71 E_72 ed_70.symm eG_71.symm eE_72.symm
  refine Z.dup_i dX11_init_50 (fun _ => rfl) ?_
  obtain ⟨d_73, G_74, E_75, m_76, z_77, K⟩ := K
  refine Y.callI (g := zm_X5_init) (vs := []) (st := [zR a_64, zR 0]) dX11_init_51 ⟨zg_X5_init.1, zg_X5_init.2.1, zg_X5_init.2.2, by decide⟩ ⟨Or.inr zk_X11_29, zi_X5_init⟩ rfl rfl rfl rfl (Nat.le_of_ble_eq_true rfl) m_76 z_77 ?_
  show Z zm_X11_init kz Q 54 [(0, zR 0)] [zR a_64, zR 0] (d_73, G_74, E_75)
  obtain ⟨hm_78, hm_79, K⟩ := K
  refine Y.putR 4 dX11_init_54 zw_X11_34 (fun _ => ⟨rfl, rfl⟩) (rfl) rfl hm_78 (fun b hb => by cases hb; exact hm_79) ?_
  generalize eG_80 : zuG G_74 0 4 (some a_64) = G_80
  replace K := K G_80 eG_80.symm
  refine Z.aload_n (k := 0) dX11_init_57 rfl ?_
  obtain ⟨a_81, z_82, z_83, z_84, z_85, z_86, K⟩ := K
  refine Y.new a_81 dX11_init_58 zc_X11_37 z_82 z_83 z_84 z_85 z_86 ?_
  generalize ed_87 : d_73 ++ [a_81] = d_87
  generalize eG_88 : zclG G_80 a_81 = G_88
  generalize eE_89 : zclE E_75 a_81 = E_89
  replace K := K d_87 G_88 E_89 ed_87.symm eG_88.symm eE_89.symm
  refine Z.dup_i dX11_init_61 (fun _ => rfl) ?_
  refine Z.aload_n (k := 0) dX11_init_62 rfl ?_
  refine Y.getR (o := (G_88 0 0)) 0 dX11_init_63 zl_X11_12 (rfl) (by decide) rfl (by rw [← ed_87]; exact List.mem_append_left _ (hm_78)) rfl ?_
  obtain ⟨d_90, G_91, E_92, m_93, z_94, K⟩ := K
  refine Y.callI (g := zm_X6_init) (vs := [zO ((G_88 0 0))]) (st := [zR a_81, zR 0]) dX11_init_66 ⟨zg_X6_init.1, zg_X6_init.2.1, zg_X6_init.2.2, by decide⟩ ⟨Or.inl zk_X11_39, zi_X6_init⟩ rfl rfl rfl rfl (Nat.le_of_ble_eq_true rfl) m_93 z_94 ?_
  show Z zm_X11_init kz Q 69 [(0, zR 0)] [zR a_81, zR 0] (d_90, G_91, E_92)
  obtain ⟨hm_95, hm_96, K⟩ := K
  refine Y.putR 5 dX11_init_69 zw_X11_42 (fun _ => ⟨rfl, rfl⟩) (rfl) rfl hm_95 (fun b hb => by cases hb; exact hm_96) ?_
  generalize eG_97 : zuG G_91 0 5 (some a_81) = G_97
  replace K := K G_97 eG_97.symm
  refine Z.aload_n (k := 0) dX11_init_72 rfl ?_
  obtain ⟨a_98, z_99, z_100, z_101, z_102, z_103, K⟩ := K
  refine Y.new a_98 dX11_init_73 zc_X11_46 z_99 z_100 z_101 z_102 z_103 ?_
  generalize ed_104 : d_90 ++ [a_98] = d_104
  generalize eG_105 : zclG G_97 a_98 = G_105
  generalize eE_106 : zclE E_92 a_98 = E_106
  replace K := K d_104 G_105 E_106 ed_104.symm eG_105.symm eE_106.symm
  refine Z.dup_i dX11_init_76 (fun _ => rfl) ?_
  refine Z.aload_n (k := 0) dX11_init_77 rfl ?_
  refine Y.getR (o := (G_105 0 0)) 0 dX11_init_78 zl_X11_12 (rfl) (by decide) rfl (by rw [← ed_104]; exact List.mem_append_left _ (hm_95)) rfl ?_
  obtain ⟨d_107, G_108, E_109, m_110, z_111, K⟩ := K
  refine Y.callI (g := zm_X9_init) (vs := [zO ((G_105 0 0))]) (st := [zR a_98, zR 0]) dX11_init_81 ⟨zg_X9_init.1, zg_X9_init.2.1, zg_X9_init.2.2, by decide⟩ ⟨Or.inl zk_X11_48, zi_X9_init⟩ rfl rfl rfl rfl (Nat.le_of_ble_eq_true rfl) m_110 z_111 ?_
  show Z zm_X11_init kz Q 84 [(0, zR 0)] [zR a_98, zR 0] (d_107, G_108, E_109)
  obtain ⟨hm_112, hm_113, K⟩ := K
  refine Y.putR 6 dX11_init_84 zw_X11_49 (fun _ => ⟨rfl, rfl⟩) (rfl) rfl hm_112 (fun b hb => by cases hb; exact hm_113) ?_
  generalize eG_114 : zuG G_108 0 6 (some a_98) = G_114
  replace K := K G_114 eG_114.symm
  refine Z.aload_n (k := 0) dX11_init_87 rfl ?_
  obtain ⟨a_115, z_116, z_117, z_118, z_119, z_120, K⟩ := K
  refine Y.new a_115 dX11_init_88 zc_X11_53 z_116 z_117 z_118 z_119 z_120 ?_
  generalize ed_121 : d_107 ++ [a_115] = d_121
  generalize eG_122 : zclG G_114 a_115 = G_122
  generalize eE_123 : zclE E_109 a_115 = E_123
  replace K := K d_121 G_122 E_123 ed_121.symm eG_122.symm eE_123.symm
  refine Z.dup_i dX11_init_91 (fun _ => rfl) ?_
  refine Z.aload_n (k := 0) dX11_init_92 rfl ?_
  refine Y.getR (o := (G_122 0 0)) 0 dX11_init_93 zl_X11_12 (rfl) (by decide) rfl (by rw [← ed_121]; exact List.mem_append_left _ (hm_112)) rfl ?_
  refine Z.aload_n (k := 0) dX11_init_96 rfl ?_
  refine Y.getR (o := (G_122 0 5)) 5 dX11_init_97 zl_X11_42 (rfl) (by decide) rfl (by rw [← ed_121]; exact List.mem_append_left _ (hm_112)) rfl ?_
  obtain ⟨d_124, G_125, E_126, m_127, z_128, K⟩ := K
  refine Y.callI (g := zm_X2_init) (vs := [zO ((G_122 0 0)), zO ((G_122 0 5))]) (st := [zR a_115, zR 0]) dX11_init_100 ⟨zg_X2_init.1, zg_X2_init.2.1, zg_X2_init.2.2, by decide⟩ ⟨Or.inl zk_X11_55, zi_X2_init⟩ rfl rfl rfl rfl (Nat.le_of_ble_eq_true rfl) m_127 z_128 ?_
  show Z zm_X11_init kz Q 103 [(0, zR 0)] [zR a_115, zR 0] (d_124, G_125, E_126)
  obtain ⟨hm_129, hm_130, K⟩ := K
  refine Y.putR 7 dX11_init_103 zw_X11_58 (fun _ => ⟨rfl, rfl⟩) (rfl) rfl hm_129 (fun b hb => by cases hb; exact hm_130) ?_
  generalize eG_131 : zuG G_125 0 7 (some a_115) = G_131
  replace K := K G_131 eG_131.symm
  refine Z.aload_n (k := 0) dX11_init_106 rfl ?_
  obtain ⟨a_132, z_133, z_134, z_135, z_136, z_137, K⟩ := K
  refine Y.new a_132 dX11_init_107 zc_X11_62 z_133 z_134 z_135 z_136 z_137 ?_
  generalize ed_138 : d_124 ++ [a_132] = d_138
  generalize eG_139 : zclG G_131 a_132 = G_139
  generalize eE_140 : zclE E_126 a_132 = E_140
  replace K := K d_138 G_139 E_140 ed_138.symm eG_139.symm eE_140.symm
  refine Z.dup_i dX11_init_110 (fun _ => rfl) ?_
  refine Z.aload_n (k := 0) dX11_init_111 rfl ?_
  refine Y.getR (o := (G_139 0 6)) 6 dX11_init_112 zl_X11_49 (rfl) (by decide) rfl (by rw [← ed_138]; exact List.mem_append_left _ (hm_129)) rfl ?_
  refine Z.aload_n (k := 0) dX11_init_115 rfl ?_
  refine Y.getR (o := (G_139 0 1)) 1 dX11_init_116 zl_X11_19 (rfl) (by decide) rfl (by rw [← ed_138]; exact List.mem_append_left _ (hm_129)) rfl ?_
  obtain ⟨d_141, G_142, E_143, m_144, z_145, K⟩ := K
  refine Y.callI (g := zm_X10_init) (vs := [zO ((G_139 0 6)), zO ((G_139 0 1))]) (st := [zR a_132, zR 0]) dX11_init_119 ⟨zg_X10_init.1, zg_X10_init.2.1, zg_X10_init.2.2, by decide⟩ ⟨Or.inl zk_X11_64, zi_X10_init⟩ rfl rfl rfl rfl (Nat.le_of_ble_eq_true rfl) m_144 z_145 ?_
  show Z zm_X11_init kz Q 122 [(0, zR 0)] [zR a_132, zR 0] (d_141, G_142, E_143)
  obtain ⟨hm_146, hm_147, K⟩ := K
  refine Y.putR 8 dX11_init_122 zw_X11_67 (fun _ => ⟨rfl, rfl⟩) (rfl) rfl hm_146 (fun b hb => by cases hb; exact hm_147) ?_
  generalize eG_148 : zuG G_142 0 8 (some a_132) = G_148
  replace K := K G_148 eG_148.symm
  refine Z.aload_n (k := 0) dX11_init_125 rfl ?_
  obtain ⟨a_149, z_150, z_151, z_152, z_153, z_154, K⟩ := K
  refine Y.new a_149 dX11_init_126 zc_X11_71 z_150 z_151 z_152 z_153 z_154 ?_
  generalize ed_155 : d_141 ++ [a_149] = d_155
  generalize eG_156 : zclG G_148 a_149 = G_156
  generalize eE_157 : zclE E_143 a_149 = E_157
  replace K := K d_155 G_156 E_157 ed_155.symm eG_156.symm eE_157.symm
  refine Z.dup_i dX11_init_129 (fun _ => rfl) ?_
  refine Z.aload_n (k := 0) dX11_init_130 rfl ?_
  refine Y.getR (o := (G_156 0 0)) 0 dX11_init_131 zl_X11_12 (rfl) (by decide) rfl (by rw [← ed_155]; exact List.mem_append_left _ (hm_146)) rfl ?_
  refine Z.aload_n (k := 0) dX11_init_134 rfl ?_
  refine Y.getR (o := (G_156 0 5)) 5 dX11_init_135 zl_X11_42 (rfl) (by decide) rfl (by rw [← ed_155]; exact List.mem_append_left _ (hm_146)) rfl ?_
  refine Z.aload_n (k := 0) dX11_init_138 rfl ?_
  refine Y.getR (o := (G_156 0 6)) 6 dX11_init_139 zl_X11_49 (rfl) (by decide) rfl (by rw [← ed_155]; exact List.mem_append_left _ (hm_146)) rfl ?_
  refine Z.aload_n (k := 0) dX11_init_142 rfl ?_
  refine Y.getR (o := (G_156 0 1)) 1 dX11_init_143 zl_X11_19 (rfl) (by decide) rfl (by rw [← ed_155]; exact List.mem_append_left _ (hm_146)) rfl ?_
  obtain ⟨d_158, G_159, E_160, m_161, z_162, K⟩ := K
  refine Y.callI (g := zm_X4_init) (vs := [zO ((G_156 0 0)), zO ((G_156 0 5)), zO ((G_156 0 6)), zO ((G_156 0 1))]) (st := [zR a_149, zR 0]) dX11_init_146 ⟨zg_X4_init.1, zg_X4_init.2.1, zg_X4_init.2.2, by decide⟩ ⟨Or.inl zk_X11_73, zi_X4_init⟩ rfl rfl rfl rfl (Nat.le_of_ble_eq_true rfl) m_161 z_162 ?_
  show Z zm_X11_init kz Q 149 [(0, zR 0)] [zR a_149, zR 0] (d_158, G_159, E_160)
  obtain ⟨hm_163, hm_164, K⟩ := K
  refine Y.putR 9 dX11_init_149 zw_X11_76 (fun _ => ⟨rfl, rfl⟩) (rfl) rfl hm_163 (fun b hb => by cases hb; exact hm_164) ?_
  generalize eG_165 : zuG G_159 0 9 (some a_149) = G_165
  replace K := K G_165 eG_165.symm
  refine Z.aload_n (k := 0) dX11_init_152 rfl ?_
  obtain ⟨a_166, z_167, z_168, z_169, z_170, z_171, K⟩ := K
  refine Y.new a_166 dX11_init_153 zc_X11_80 z_167 z_168 z_169 z_170 z_171 ?_
  generalize ed_172 : d_158 ++ [a_166] = d_172
  generalize eG_173 : zclG G_165 a_166 = G_173
  generalize eE_174 : zclE E_160 a_166 = E_174
  replace K := K d_172 G_173 E_174 ed_172.symm eG_173.symm eE_174.symm
  refine Z.dup_i dX11_init_156 (fun _ => rfl) ?_
  refine Z.aload_n (k := 0) dX11_init_157 rfl ?_
  refine Y.getR (o := (G_173 0 0)) 0 dX11_init_158 zl_X11_12 (rfl) (by decide) rfl (by rw [← ed_172]; exact List.mem_append_left _ (hm_163)) rfl ?_
  refine Z.aload_n (k := 0) dX11_init_161 rfl ?_
  refine Y.getR (o := (G_173 0 5)) 5 dX11_init_162 zl_X11_42 (rfl) (by decide) rfl (by rw [← ed_172]; exact List.mem_append_left _ (hm_163)) rfl ?_
  refine Z.aload_n (k := 0) dX11_init_165 rfl ?_
  refine Y.getR (o := (G_173 0 6)) 6 dX11_init_166 zl_X11_49 (rfl) (by decide) rfl (by rw [← ed_172]; exact List.mem_append_left _ (hm_163)) rfl ?_
  refine Z.aload_n (k := 0) dX11_init_169 rfl ?_
  refine Y.getR (o := (G_173 0 1)) 1 dX11_init_170 zl_X11_19 (rfl) (by decide) rfl (by rw [← ed_172]; exact List.mem_append_left _ (hm_163)) rfl ?_
  obtain ⟨G_175, m_176, K⟩ := K
  refine Y.callI (g := zm_X3_init) (vs := [zO ((G_173 0 0)), zO ((G_173 0 5)), zO ((G_173 0 6)), zO ((G_173 0 1))]) (st := [zR a_166, zR 0]) dX11_init_173 ⟨zg_X3_init.1, zg_X3_init.2.1, zg_X3_init.2.2, by decide⟩ ⟨Or.inl zk_X11_82, zi_X3_init⟩ rfl rfl rfl rfl (Nat.le_of_ble_eq_true rfl) m_176 (Or.inl rfl) ?_
  show Z zm_X11_init kz Q 176 [(0, zR 0)] [zR a_166, zR 0] (d_172, G_175, E_174)
  obtain ⟨hm_178, hm_179, K⟩ := K
  refine Y.putR 10 dX11_init_176 zw_X11_83 (fun _ => ⟨rfl, rfl⟩) (rfl) rfl hm_178 (fun b hb => by cases hb; exact hm_179) ?_
  generalize eG_180 : zuG G_175 0 10 (some a_166) = G_180
  replace K := K G_180 eG_180.symm
  refine Z.aload_n (k := 0) dX11_init_179 rfl ?_
  obtain ⟨a_181, z_182, z_183, z_184, z_185, z_186, K⟩ := K
  refine Y.new a_181 dX11_init_180 zc_X11_87 z_182 z_183 z_184 z_185 z_186 ?_
  generalize ed_187 : d_172 ++ [a_181] = d_187
  generalize eG_188 : zclG G_180 a_181 = G_188
  generalize eE_189 : zclE E_174 a_181 = E_189
  replace K := K d_187 G_188 E_189 ed_187.symm eG_188.symm eE_189.symm
  refine Z.dup_i dX11_init_183 (fun _ => rfl) ?_
  refine Z.aload_n (k := 0) dX11_init_184 rfl ?_
  refine Y.getR (o := (G_188 0 0)) 0 dX11_init_185 zl_X11_12 (rfl) (by decide) rfl (by rw [← ed_187]; exact List.mem_append_left _ (hm_178)) rfl ?_
  refine Z.aload_n (k := 0) dX11_init_188 rfl ?_
  refine Y.getR (o := (G_188 0 1)) 1 dX11_init_189 zl_X11_19 (rfl) (by decide) rfl (by rw [← ed_187]; exact List.mem_append_left _ (hm_178)) rfl ?_
  obtain ⟨d_190, G_191, E_192, m_193, z_194, K⟩ := K
  refine Y.callI (g := zm_X0_init) (vs := [zO ((G_188 0 0)), zO ((G_188 0 1))]) (st := [zR a_181, zR 0]) dX11_init_192 ⟨zg_X0_init.1, zg_X0_init.2.1, zg_X0_init.2.2, by decide⟩ ⟨Or.inl zk_X11_89, zi_X0_init⟩ rfl rfl rfl rfl (Nat.le_of_ble_eq_true rfl) m_193 z_194 ?_
  show Z zm_X11_init kz Q 195 [(0, zR 0)] [zR a_181, zR 0] (d_190, G_191, E_192)
  obtain ⟨hm_195, hm_196, K⟩ := K
  refine Y.putR 11 dX11_init_195 zw_X11_92 (fun _ => ⟨rfl, rfl⟩) (rfl) rfl hm_195 (fun b hb => by cases hb; exact hm_196) ?_
  generalize eG_197 : zuG G_191 0 11 (some a_181) = G_197
  replace K := K G_197 eG_197.symm
  refine Z.aload_n (k := 0) dX11_init_198 rfl ?_
  refine Z.iconst (n := 0) dX11_init_199 ⟨by decide, by decide⟩ ?_
  refine Y.putI 12 dX11_init_200 zw_X11_96 (fun q => by cases q) (rfl) rfl hm_195 (Or.inl rfl) ?_
  generalize eE_198 : zuE E_192 0 12 0 = E_198
  replace K := K E_198 eE_198.symm
  refine Z.aload_n (k := 0) dX11_init_203 rfl ?_
  refine Z.iconst (n := 4) dX11_init_204 ⟨by decide, by decide⟩ ?_
  refine Y.putI 13 dX11_init_205 zw_X11_100 (fun q => by cases q) (rfl) rfl hm_195 (Or.inl rfl) ?_
  generalize eE_199 : zuE E_198 0 13 4 = E_199
  replace K := K E_199 eE_199.symm
  refine Z.aload_n (k := 0) dX11_init_208 rfl ?_
  refine Z.sipush (n := 2000) dX11_init_209 ⟨by decide, by decide⟩ (by decide) ?_
  refine Y.putI 14 dX11_init_212 zw_X11_103 (fun q => by cases q) (rfl) rfl hm_195 (Or.inl rfl) ?_
  generalize eE_200 : zuE E_199 0 14 2000 = E_200
  replace K := K E_200 eE_200.symm
  refine Z.aload_n (k := 0) dX11_init_215 rfl ?_
  refine Z.iconst (n := 0) dX11_init_216 ⟨by decide, by decide⟩ ?_
  refine Y.putI 15 dX11_init_217 zw_X11_106 (fun q => by cases q) (rfl) rfl hm_195 (Or.inl rfl) ?_
  generalize eE_201 : zuE E_200 0 15 0 = E_201
  replace K := K E_201 eE_201.symm
  refine Z.aload_n (k := 0) dX11_init_220 rfl ?_
  refine Z.iconst (n := 0) dX11_init_221 ⟨by decide, by decide⟩ ?_
  refine Y.putI 16 dX11_init_222 zw_X11_109 (fun q => by cases q) (rfl) rfl hm_195 (Or.inl rfl) ?_
  generalize eE_202 : zuE E_201 0 16 0 = E_202
  replace K := K E_202 eE_202.symm
  refine Z.aload_n (k := 0) dX11_init_225 rfl ?_
  refine Z.iconst (n := 0) dX11_init_226 ⟨by decide, by decide⟩ ?_
  refine Y.putI 17 dX11_init_227 zw_X11_112 (fun q => by cases q) (rfl) rfl hm_195 (Or.inl rfl) ?_
  generalize eE_203 : zuE E_202 0 17 0 = E_203
  replace K := K E_203 eE_203.symm
  refine Z.aload_n (k := 0) dX11_init_230 rfl ?_
  refine Z.iconst (n := 0) dX11_init_231 ⟨by decide, by decide⟩ ?_
  refine Y.putI 18 dX11_init_232 zw_X11_115 (fun q => by cases q) (rfl) rfl hm_195 (Or.inl rfl) ?_
  generalize eE_204 : zuE E_203 0 18 0 = E_204
  replace K := K E_204 eE_204.symm
  refine Z.aload_n (k := 0) dX11_init_235 rfl ?_
  refine Z.iconst (n := 0) dX11_init_236 ⟨by decide, by decide⟩ ?_
  refine Y.putI 19 dX11_init_237 zw_X11_118 (fun q => by cases q) (rfl) rfl hm_195 (Or.inl rfl) ?_
  generalize eE_205 : zuE E_204 0 19 0 = E_205
  replace K := K E_205 eE_205.symm
  refine Z.aload_n (k := 0) dX11_init_240 rfl ?_
  refine Z.iconst (n := 0) dX11_init_241 ⟨by decide, by decide⟩ ?_
  refine Y.putI 20 dX11_init_242 zw_X11_121 (fun q => by cases q) (rfl) rfl hm_195 (Or.inl rfl) ?_
  generalize eE_206 : zuE E_205 0 20 0 = E_206
  replace K := K E_206 eE_206.symm
  exact Z.vret dX11_init_245 rfl K
set_option maxRecDepth 20000 in
theorem X11_sign_0 {kz : Nat × Nat} {Q : Option zV → zH → Prop} {d : List Nat} {G : Nat → Int → Option Nat} {E : Nat → Int → Int} {v1 : Int} {v2 : Int} {v3 : Int} (hX : zK zXt d G) (K : (v2 < 0 → Q (some (zI ((-2)))) (d, G, E)) ∧ (¬ (v2 < 0) → (3 < v2 → Q (some (zI ((-2)))) (d, G, E)) ∧ (¬ (3 < v2) → (v3 < 1 → Q (some (zI ((-2)))) (d, G, E)) ∧ (¬ (v3 < 1) → (v3 ≤ 9 → ((E 5 4) ≤ 0 → ∃ x_6 E_7, zM zm_X8_add [zR 1, zI v1, zI v2, zI v3] (d, G, E) (some (zI x_6)) (d, G, E_7) ∧ Q (some (zI x_6)) (d, G, E_7)) ∧ (¬ ((E 5 4) ≤ 0) → Q (some (zI ((-3)))) (d, G, E))) ∧ (¬ (v3 ≤ 9) → Q (some (zI ((-2)))) (d, G, E)))))) : Z zm_X11_sign kz Q 0 [(0, zR 0), (1, zI v1), (2, zI v2), (3, zI v3)] [] (d, G, E) := by
  refine Z.iload_n (k := 2) dX11_sign_0 rfl ?_
  refine Z.if_lt 20 dX11_sign_1 rfl ⟨fun c_1 => ?_, fun c_1 => ?_⟩
  · replace K := K.1 c_1
    refine Z.bipush (n := -2) dX11_sign_20 ⟨by decide, by decide⟩ (by decide) ?_
    exact Z.iret (ty := .int) dX11_sign_22 rfl rfl K
  · replace K := K.2 c_1
    refine Z.iload_n (k := 2) dX11_sign_4 rfl ?_
    refine Z.iconst (n := 3) dX11_sign_5 ⟨by decide, by decide⟩ ?_
    refine Z.icmp_gt 20 dX11_sign_6 rfl ⟨fun c_2 => ?_, fun c_2 => ?_⟩
    · replace K := K.1 c_2
      refine Z.bipush (n := -2) dX11_sign_20 ⟨by decide, by decide⟩ (by decide) ?_
      exact Z.iret (ty := .int) dX11_sign_22 rfl rfl K
    · replace K := K.2 c_2
      refine Z.iload_n (k := 3) dX11_sign_9 rfl ?_
      refine Z.iconst (n := 1) dX11_sign_10 ⟨by decide, by decide⟩ ?_
      refine Z.icmp_lt 20 dX11_sign_11 rfl ⟨fun c_3 => ?_, fun c_3 => ?_⟩
      · replace K := K.1 c_3
        refine Z.bipush (n := -2) dX11_sign_20 ⟨by decide, by decide⟩ (by decide) ?_
        exact Z.iret (ty := .int) dX11_sign_22 rfl rfl K
      · replace K := K.2 c_3
        refine Z.iload_n (k := 3) dX11_sign_14 rfl ?_
        refine Z.bipush (n := 9) dX11_sign_15 ⟨by decide, by decide⟩ (by decide) ?_
        refine Z.icmp_le 23 dX11_sign_17 rfl ⟨fun c_4 => ?_, fun c_4 => ?_⟩
        · replace K := K.1 c_4
          refine Z.aload_n (k := 0) dX11_sign_23 rfl ?_
          refine Y.getR (o := some 5) 1 dX11_sign_24 zl_X11_19 (rfl) (by decide) rfl (zX_0_0 hX).2.1 (zX_0_1 hX).1 ?_
          refine Y.getI 4 dX11_sign_27 zl_X11_124 (rfl) (by decide) rfl (zX_0_1 hX).2.2 ?_
          refine Z.if_le 36 dX11_sign_30 rfl ⟨fun c_5 => ?_, fun c_5 => ?_⟩
          · replace K := K.1 c_5
            refine Z.aload_n (k := 0) dX11_sign_36 rfl ?_
            refine Y.getR (o := some 1) 0 dX11_sign_37 zl_X11_12 (rfl) (by decide) rfl (zX_0_0 hX).2.1 (zX_0_0 hX).1 ?_
            refine Z.iload_n (k := 1) dX11_sign_40 rfl ?_
            refine Z.iload_n (k := 2) dX11_sign_41 rfl ?_
            refine Z.iload_n (k := 3) dX11_sign_42 rfl ?_
            obtain ⟨x_6, E_7, m_8, K⟩ := K
            refine Y.callV (g := zm_X8_add) (vs := [zI v1, zI v2, zI v3]) (st := []) dX11_sign_43 ⟨zg_X8_add.1, zg_X8_add.2.1, zg_X8_add.2.2, by decide⟩ ⟨zk_X11_127, zv_X8_add⟩ (ci := 8) (rfl) rfl ((zX_0_0 hX).2.2) rfl rfl (Nat.le_of_ble_eq_true rfl) m_8 (Or.inl rfl) ?_
            show Z zm_X11_sign kz Q 46 [(0, zR 0), (1, zI v1), (2, zI v2), (3, zI v3)] [zI x_6] (d, G, E_7)
            exact Z.iret (ty := .int) dX11_sign_46 rfl rfl K
          · replace K := K.2 c_5
            refine Z.bipush (n := -3) dX11_sign_33 ⟨by decide, by decide⟩ (by decide) ?_
            exact Z.iret (ty := .int) dX11_sign_35 rfl rfl K
        · replace K := K.2 c_4
          refine Z.bipush (n := -2) dX11_sign_20 ⟨by decide, by decide⟩ (by decide) ?_
          exact Z.iret (ty := .int) dX11_sign_22 rfl rfl K
set_option maxRecDepth 20000 in
theorem X11_draft_0 {kz : Nat × Nat} {Q : Option zV → zH → Prop} {d : List Nat} {G : Nat → Int → Option Nat} {E : Nat → Int → Int} {v1 : Int} (hX : zK zXt d G) (K : (v1 < (-20) → Q (some (zI ((-2)))) (d, G, E)) ∧ (¬ (v1 < (-20)) → (v1 ≤ 3000 → ((E 0 12) < 200 → ((0 : Int) ≤ (E 0 12) ∧ (E 0 12) < (200 : Int)) ∧ ∀ E_5, E_5 = zuE E 9 ((E 0 12)) v1 → zin ((E_5 0 12) + 1) ∧ ∀ E_7, E_7 = zuE E_5 0 12 (((E_5 0 12) + 1)) → Q (some (zI ((E_7 0 12)))) (d, G, E_7)) ∧ (¬ ((E 0 12) < 200) → Q (some (zI ((-4)))) (d, G, E))) ∧ (¬ (v1 ≤ 3000) → Q (some (zI ((-2)))) (d, G, E)))) : Z zm_X11_draft kz Q 0 [(0, zR 0), (1, zI v1)] [] (d, G, E) := by
  refine Z.iload_n (k := 1) dX11_draft_0 rfl ?_
  refine Z.bipush (n := -20) dX11_draft_1 ⟨by decide, by decide⟩ (by decide) ?_
  refine Z.icmp_lt 13 dX11_draft_3 rfl ⟨fun c_1 => ?_, fun c_1 => ?_⟩
  · replace K := K.1 c_1
    refine Z.bipush (n := -2) dX11_draft_13 ⟨by decide, by decide⟩ (by decide) ?_
    exact Z.iret (ty := .int) dX11_draft_15 rfl rfl K
  · replace K := K.2 c_1
    refine Z.iload_n (k := 1) dX11_draft_6 rfl ?_
    refine Z.sipush (n := 3000) dX11_draft_7 ⟨by decide, by decide⟩ (by decide) ?_
    refine Z.icmp_le 16 dX11_draft_10 rfl ⟨fun c_2 => ?_, fun c_2 => ?_⟩
    · replace K := K.1 c_2
      refine Z.aload_n (k := 0) dX11_draft_16 rfl ?_
      refine Y.getI 12 dX11_draft_17 zl_X11_96 (rfl) (by decide) rfl (zX_0_0 hX).2.1 ?_
      refine Z.sipush (n := 200) dX11_draft_20 ⟨by decide, by decide⟩ (by decide) ?_
      refine Z.icmp_lt 29 dX11_draft_23 rfl ⟨fun c_3 => ?_, fun c_3 => ?_⟩
      · replace K := K.1 c_3
        refine Z.aload_n (k := 0) dX11_draft_29 rfl ?_
        refine Y.getR (o := some 9) 2 dX11_draft_30 zl_X11_23 (rfl) (by decide) rfl (zX_0_0 hX).2.1 (zX_0_2 hX).1 ?_
        refine Z.aload_n (k := 0) dX11_draft_33 rfl ?_
        refine Y.getI 12 dX11_draft_34 zl_X11_96 (rfl) (by decide) rfl (zX_0_0 hX).2.1 ?_
        refine Z.iload_n (k := 1) dX11_draft_37 rfl ?_
        obtain ⟨z_4, K⟩ := K
        refine Y.iast dX11_draft_38 (rfl) ((zX_0_2 hX).2.2) z_4 ?_
        generalize eE_5 : zuE E 9 ((E 0 12)) v1 = E_5
        replace K := K E_5 eE_5.symm
        refine Z.aload_n (k := 0) dX11_draft_39 rfl ?_
        refine Z.dup_i dX11_draft_40 (fun _ => rfl) ?_
        refine Y.getI 12 dX11_draft_41 zl_X11_96 (rfl) (by decide) rfl (zX_0_0 hX).2.1 ?_
        refine Z.iconst (n := 1) dX11_draft_44 ⟨by decide, by decide⟩ ?_
        obtain ⟨z_6, K⟩ := K
        refine Z.iadd dX11_draft_45 z_6 ?_
        refine Y.putI 12 dX11_draft_46 zw_X11_96 (fun q => by cases q) (rfl) rfl (zX_0_0 hX).2.1 (Or.inl rfl) ?_
        generalize eE_7 : zuE E_5 0 12 (((E_5 0 12) + 1)) = E_7
        replace K := K E_7 eE_7.symm
        refine Z.aload_n (k := 0) dX11_draft_49 rfl ?_
        refine Y.getI 12 dX11_draft_50 zl_X11_96 (rfl) (by decide) rfl (zX_0_0 hX).2.1 ?_
        exact Z.iret (ty := .int) dX11_draft_53 rfl rfl K
      · replace K := K.2 c_3
        refine Z.bipush (n := -4) dX11_draft_26 ⟨by decide, by decide⟩ (by decide) ?_
        exact Z.iret (ty := .int) dX11_draft_28 rfl rfl K
    · replace K := K.2 c_2
      refine Z.bipush (n := -2) dX11_draft_13 ⟨by decide, by decide⟩ (by decide) ?_
      exact Z.iret (ty := .int) dX11_draft_15 rfl rfl K
set_option maxRecDepth 20000 in
theorem X11_endOfParts_0 {kz : Nat × Nat} {Q : Option zV → zH → Prop} {d : List Nat} {G : Nat → Int → Option Nat} {E : Nat → Int → Int} {v1 : Int} {v2 : Int} (hX : zK zXt d G) (K : zin (v1 + 30) ∧ zin ((v1 + 30) - 1) ∧ ∃ x_3, zM zm_J9_min_7cf53 [zI ((E 0 12)), zI (((v1 + 30) - 1))] (d, G, E) (some (zI x_3)) (d, G, E) ∧ Z zm_X11_endOfParts kz Q 20 [(0, zR 0), (3, zI v2), (4, zI v1), (5, zI x_3)] [] (d, G, E)) : Z zm_X11_endOfParts kz Q 0 [(0, zR 0), (1, zI v1), (2, zI v2)] [] (d, G, E) := by
  refine Z.iload_n (k := 2) dX11_endOfParts_0 rfl ?_
  refine Z.istore_n (ls' := [(3, zI v2), (0, zR 0), (1, zI v1), (2, zI v2)]) dX11_endOfParts_1 (by decide) rfl ?_
  refine Z.iload_n (k := 2) dX11_endOfParts_2 rfl ?_
  refine Z.istore (ls' := [(4, zI v1), (3, zI v2), (0, zR 0), (1, zI v1), (2, zI v2)]) dX11_endOfParts_3 (by decide) rfl ?_
  refine Z.aload_n (k := 2) dX11_endOfParts_5 rfl ?_
  refine Y.getI 12 dX11_endOfParts_6 zl_X11_96 (rfl) (by decide) rfl (zX_0_0 hX).2.1 ?_
  refine Z.iload_n (k := 3) dX11_endOfParts_9 rfl ?_
  refine Z.bipush (n := 30) dX11_endOfParts_10 ⟨by decide, by decide⟩ (by decide) ?_
  obtain ⟨z_1, K⟩ := K
  refine Z.iadd dX11_endOfParts_12 z_1 ?_
  refine Z.iconst (n := 1) dX11_endOfParts_13 ⟨by decide, by decide⟩ ?_
  obtain ⟨z_2, K⟩ := K
  refine Z.isub dX11_endOfParts_14 z_2 ?_
  obtain ⟨x_3, m_4, K⟩ := K
  refine Y.callS (g := zm_J9_min_7cf53) (vs := [zI ((E 0 12)), zI (((v1 + 30) - 1))]) (st := []) dX11_endOfParts_15 ⟨zg_J9_min_7cf53.1, zg_J9_min_7cf53.2.1, zg_J9_min_7cf53.2.2, by decide⟩ ⟨Or.inl zk_X11_305, zs_J9_min_7cf53⟩ rfl rfl (Nat.le_of_ble_eq_true rfl) m_4 (Or.inl rfl) ?_
  show Z zm_X11_endOfParts kz Q 18 [(4, zI v1), (3, zI v2), (0, zR 0), (1, zI v1), (2, zI v2)] [zI x_3] (d, G, E)
  refine Z.istore (ls' := [(5, zI x_3), (4, zI v1), (3, zI v2), (0, zR 0), (1, zI v1), (2, zI v2)]) dX11_endOfParts_18 (by decide) rfl ?_
  refine Z.pick (ls' := [(0, zR 0), (3, zI v2), (4, zI v1), (5, zI x_3)]) [3, 2, 1, 0] rfl ?_
  exact K
set_option maxRecDepth 20000 in
theorem X11_endOfParts_20 {kz : Nat × Nat} {Q : Option zV → zH → Prop} {d : List Nat} {G : Nat → Int → Option Nat} {E : Nat → Int → Int} {v3 : Int} {v4 : Int} {v5 : Int} (hX : zK zXt d G) (K : (v3 ≤ 0 → (v3 ≤ 0 → Q (some (zI v4)) (d, G, E)) ∧ (¬ (v3 ≤ 0) → zin ((-1) - v4) ∧ Q (some (zI (((-1) - v4)))) (d, G, E))) ∧ (¬ (v3 ≤ 0) → (v5 ≤ v4 → (v3 ≤ 0 → Q (some (zI v4)) (d, G, E)) ∧ (¬ (v3 ≤ 0) → zin ((-1) - v4) ∧ Q (some (zI (((-1) - v4)))) (d, G, E))) ∧ (¬ (v5 ≤ v4) → ((0 : Int) ≤ v4 ∧ v4 < (200 : Int)) ∧ ((E 9 v4) < 0 → ∃ x_9, zM zm_X8_partsOf [zR 1, zI ((E 9 v4))] (d, G, E) (some (zI x_9)) (d, G, E) ∧ zin (x_9 - 1) ∧ zin (v3 + (x_9 - 1)) ∧ zin (v4 + 1) ∧ Z zm_X11_endOfParts kz Q 20 [(0, zR 0), (3, zI ((v3 + (x_9 - 1)))), (4, zI ((v4 + 1))), (5, zI v5)] [] (d, G, E)) ∧ (¬ ((E 9 v4) < 0) → ∃ x_15, zM zm_X8_isFunction [zR 1, zI ((E 9 v4))] (d, G, E) (some (zI x_15)) (d, G, E) ∧ (x_15 ≠ 0 → ∃ x_19, zM zm_X8_partsOf [zR 1, zI ((E 9 v4))] (d, G, E) (some (zI x_19)) (d, G, E) ∧ zin (x_19 - 1) ∧ zin (v3 + (x_19 - 1)) ∧ zin (v4 + 1) ∧ Z zm_X11_endOfParts kz Q 20 [(0, zR 0), (3, zI ((v3 + (x_19 - 1)))), (4, zI ((v4 + 1))), (5, zI v5)] [] (d, G, E)) ∧ (¬ (x_15 ≠ 0) → zin ((-1) - v4) ∧ Q (some (zI (((-1) - v4)))) (d, G, E)))))) : Z zm_X11_endOfParts kz Q 20 [(0, zR 0), (3, zI v3), (4, zI v4), (5, zI v5)] [] (d, G, E) := by
  refine Z.iload_n (k := 1) dX11_endOfParts_20 rfl ?_
  refine Z.if_le 82 dX11_endOfParts_21 rfl ⟨fun c_1 => ?_, fun c_1 => ?_⟩
  · replace K := K.1 c_1
    refine Z.iload_n (k := 1) dX11_endOfParts_82 rfl ?_
    refine Z.if_le 93 dX11_endOfParts_83 rfl ⟨fun c_2 => ?_, fun c_2 => ?_⟩
    · replace K := K.1 c_2
      refine Z.iload (k := 2) dX11_endOfParts_93 rfl ?_
      exact Z.iret (ty := .int) dX11_endOfParts_95 rfl rfl K
    · replace K := K.2 c_2
      refine Z.iconst (n := -1) dX11_endOfParts_86 ⟨by decide, by decide⟩ ?_
      refine Z.iload (k := 2) dX11_endOfParts_87 rfl ?_
      obtain ⟨z_3, K⟩ := K
      refine Z.isub dX11_endOfParts_89 z_3 ?_
      refine Z.goto 95 dX11_endOfParts_90 rfl ?_
      exact Z.iret (ty := .int) dX11_endOfParts_95 rfl rfl K
  · replace K := K.2 c_1
    refine Z.iload (k := 2) dX11_endOfParts_24 rfl ?_
    refine Z.iload (k := 3) dX11_endOfParts_26 rfl ?_
    refine Z.icmp_ge 82 dX11_endOfParts_28 rfl ⟨fun c_4 => ?_, fun c_4 => ?_⟩
    · replace K := K.1 c_4
      refine Z.iload_n (k := 1) dX11_endOfParts_82 rfl ?_
      refine Z.if_le 93 dX11_endOfParts_83 rfl ⟨fun c_5 => ?_, fun c_5 => ?_⟩
      · replace K := K.1 c_5
        refine Z.iload (k := 2) dX11_endOfParts_93 rfl ?_
        exact Z.iret (ty := .int) dX11_endOfParts_95 rfl rfl K
      · replace K := K.2 c_5
        refine Z.iconst (n := -1) dX11_endOfParts_86 ⟨by decide, by decide⟩ ?_
        refine Z.iload (k := 2) dX11_endOfParts_87 rfl ?_
        obtain ⟨z_6, K⟩ := K
        refine Z.isub dX11_endOfParts_89 z_6 ?_
        refine Z.goto 95 dX11_endOfParts_90 rfl ?_
        exact Z.iret (ty := .int) dX11_endOfParts_95 rfl rfl K
    · replace K := K.2 c_4
      refine Z.aload_n (k := 0) dX11_endOfParts_31 rfl ?_
      refine Y.getR (o := some 9) 2 dX11_endOfParts_32 zl_X11_23 (rfl) (by decide) rfl (zX_0_0 hX).2.1 (zX_0_2 hX).1 ?_
      refine Z.iload (k := 2) dX11_endOfParts_35 rfl ?_
      obtain ⟨z_7, K⟩ := K
      refine Y.iald dX11_endOfParts_37 (rfl) ((zX_0_2 hX).2.2) z_7 ?_
      refine Z.istore (ls' := [(6, zI ((E 9 v4))), (0, zR 0), (3, zI v3), (4, zI v4), (5, zI v5)]) dX11_endOfParts_38 (by decide) rfl ?_
      refine Z.iload (k := 0) dX11_endOfParts_40 rfl ?_
      refine Z.if_lt 62 dX11_endOfParts_42 rfl ⟨fun c_8 => ?_, fun c_8 => ?_⟩
      · replace K := K.1 c_8
        refine Z.iload_n (k := 2) dX11_endOfParts_62 rfl ?_
        refine Z.aload_n (k := 1) dX11_endOfParts_63 rfl ?_
        refine Y.getR (o := some 1) 0 dX11_endOfParts_64 zl_X11_12 (rfl) (by decide) rfl (zX_0_0 hX).2.1 (zX_0_0 hX).1 ?_
        refine Z.iload (k := 0) dX11_endOfParts_67 rfl ?_
        obtain ⟨x_9, m_10, K⟩ := K
        refine Y.callV (g := zm_X8_partsOf) (vs := [zI ((E 9 v4))]) (st := [zI v3]) dX11_endOfParts_69 ⟨zg_X8_partsOf.1, zg_X8_partsOf.2.1, zg_X8_partsOf.2.2, by decide⟩ ⟨zk_X11_250, zv_X8_partsOf⟩ (ci := 8) (rfl) rfl ((zX_0_0 hX).2.2) rfl rfl (Nat.le_of_ble_eq_true rfl) m_10 (Or.inl rfl) ?_
        show Z zm_X11_endOfParts kz Q 72 [(6, zI ((E 9 v4))), (0, zR 0), (3, zI v3), (4, zI v4), (5, zI v5)] [zI x_9, zI v3] (d, G, E)
        refine Z.iconst (n := 1) dX11_endOfParts_72 ⟨by decide, by decide⟩ ?_
        obtain ⟨z_12, K⟩ := K
        refine Z.isub dX11_endOfParts_73 z_12 ?_
        obtain ⟨z_13, K⟩ := K
        refine Z.iadd dX11_endOfParts_74 z_13 ?_
        refine Z.istore_n (ls' := [(3, zI ((v3 + (x_9 - 1)))), (6, zI ((E 9 v4))), (0, zR 0), (4, zI v4), (5, zI v5)]) dX11_endOfParts_75 (by decide) rfl ?_
        obtain ⟨z_14, K⟩ := K
        refine Z.iinc (k := 3) (ls' := [(4, zI ((v4 + 1))), (3, zI ((v3 + (x_9 - 1)))), (6, zI ((E 9 v4))), (0, zR 0), (5, zI v5)]) dX11_endOfParts_76 rfl (by decide) z_14 rfl ?_
        refine Z.goto 20 dX11_endOfParts_79 rfl ?_
        refine Z.pick (ls' := [(0, zR 0), (3, zI ((v3 + (x_9 - 1)))), (4, zI ((v4 + 1))), (5, zI v5)]) [3, 1, 0, 4] rfl ?_
        exact K
      · replace K := K.2 c_8
        refine Z.aload_n (k := 1) dX11_endOfParts_45 rfl ?_
        refine Y.getR (o := some 1) 0 dX11_endOfParts_46 zl_X11_12 (rfl) (by decide) rfl (zX_0_0 hX).2.1 (zX_0_0 hX).1 ?_
        refine Z.iload (k := 0) dX11_endOfParts_49 rfl ?_
        obtain ⟨x_15, m_16, K⟩ := K
        refine Y.callV (g := zm_X8_isFunction) (vs := [zI ((E 9 v4))]) (st := []) dX11_endOfParts_51 ⟨zg_X8_isFunction.1, zg_X8_isFunction.2.1, zg_X8_isFunction.2.2, by decide⟩ ⟨zk_X11_310, zv_X8_isFunction⟩ (ci := 8) (rfl) rfl ((zX_0_0 hX).2.2) rfl rfl (Nat.le_of_ble_eq_true rfl) m_16 (Or.inl rfl) ?_
        show Z zm_X11_endOfParts kz Q 54 [(6, zI ((E 9 v4))), (0, zR 0), (3, zI v3), (4, zI v4), (5, zI v5)] [zI x_15] (d, G, E)
        refine Z.if_ne 62 dX11_endOfParts_54 rfl ⟨fun c_18 => ?_, fun c_18 => ?_⟩
        · replace K := K.1 c_18
          refine Z.iload_n (k := 2) dX11_endOfParts_62 rfl ?_
          refine Z.aload_n (k := 1) dX11_endOfParts_63 rfl ?_
          refine Y.getR (o := some 1) 0 dX11_endOfParts_64 zl_X11_12 (rfl) (by decide) rfl (zX_0_0 hX).2.1 (zX_0_0 hX).1 ?_
          refine Z.iload (k := 0) dX11_endOfParts_67 rfl ?_
          obtain ⟨x_19, m_20, K⟩ := K
          refine Y.callV (g := zm_X8_partsOf) (vs := [zI ((E 9 v4))]) (st := [zI v3]) dX11_endOfParts_69 ⟨zg_X8_partsOf.1, zg_X8_partsOf.2.1, zg_X8_partsOf.2.2, by decide⟩ ⟨zk_X11_250, zv_X8_partsOf⟩ (ci := 8) (rfl) rfl ((zX_0_0 hX).2.2) rfl rfl (Nat.le_of_ble_eq_true rfl) m_20 (Or.inl rfl) ?_
          show Z zm_X11_endOfParts kz Q 72 [(6, zI ((E 9 v4))), (0, zR 0), (3, zI v3), (4, zI v4), (5, zI v5)] [zI x_19, zI v3] (d, G, E)
          refine Z.iconst (n := 1) dX11_endOfParts_72 ⟨by decide, by decide⟩ ?_
          obtain ⟨z_22, K⟩ := K
          refine Z.isub dX11_endOfParts_73 z_22 ?_
          obtain ⟨z_23, K⟩ := K
          refine Z.iadd dX11_endOfParts_74 z_23 ?_
          refine Z.istore_n (ls' := [(3, zI ((v3 + (x_19 - 1)))), (6, zI ((E 9 v4))), (0, zR 0), (4, zI v4), (5, zI v5)]) dX11_endOfParts_75 (by decide) rfl ?_
          obtain ⟨z_24, K⟩ := K
          refine Z.iinc (k := 3) (ls' := [(4, zI ((v4 + 1))), (3, zI ((v3 + (x_19 - 1)))), (6, zI ((E 9 v4))), (0, zR 0), (5, zI v5)]) dX11_endOfParts_76 rfl (by decide) z_24 rfl ?_
          refine Z.goto 20 dX11_endOfParts_79 rfl ?_
          refine Z.pick (ls' := [(0, zR 0), (3, zI ((v3 + (x_19 - 1)))), (4, zI ((v4 + 1))), (5, zI v5)]) [3, 1, 0, 4] rfl ?_
          exact K
        · replace K := K.2 c_18
          refine Z.iconst (n := -1) dX11_endOfParts_57 ⟨by decide, by decide⟩ ?_
          refine Z.iload (k := 3) dX11_endOfParts_58 rfl ?_
          obtain ⟨z_25, K⟩ := K
          refine Z.isub dX11_endOfParts_60 z_25 ?_
          exact Z.iret (ty := .int) dX11_endOfParts_61 rfl rfl K
set_option maxRecDepth 20000 in
theorem X11_readDraft_0 {kz : Nat × Nat} {Q : Option zV → zH → Prop} {d : List Nat} {G : Nat → Int → Option Nat} {E : Nat → Int → Int}  (hX : zK zXt d G) (K : ∃ E_1, zM zm_X5_empty [zR 10] (d, G, E) none (d, G, E_1) ∧ Z zm_X11_readDraft kz Q 11 [(0, zR 0), (1, zI 0), (2, zI 0)] [] (d, G, E_1)) : Z zm_X11_readDraft kz Q 0 [(0, zR 0)] [] (d, G, E) := by
  refine Z.aload_n (k := 0) dX11_readDraft_0 rfl ?_
  refine Y.getR (o := some 10) 3 dX11_readDraft_1 zl_X11_30 (rfl) (by decide) rfl (zX_0_0 hX).2.1 (zX_0_3 hX).1 ?_
  obtain ⟨E_1, m_2, K⟩ := K
  refine Y.callV (g := zm_X5_empty) (vs := []) (st := []) dX11_readDraft_4 ⟨zg_X5_empty.1, zg_X5_empty.2.1, zg_X5_empty.2.2, by decide⟩ ⟨zk_X11_292, zv_X5_empty⟩ (ci := 5) (rfl) rfl ((zX_0_3 hX).2.2) rfl rfl (Nat.le_of_ble_eq_true rfl) m_2 (Or.inl rfl) ?_
  show Z zm_X11_readDraft kz Q 7 [(0, zR 0)] [] (d, G, E_1)
  refine Z.iconst (n := 0) dX11_readDraft_7 ⟨by decide, by decide⟩ ?_
  refine Z.istore_n (ls' := [(1, zI 0), (0, zR 0)]) dX11_readDraft_8 (by decide) rfl ?_
  refine Z.iconst (n := 0) dX11_readDraft_9 ⟨by decide, by decide⟩ ?_
  refine Z.istore_n (ls' := [(2, zI 0), (1, zI 0), (0, zR 0)]) dX11_readDraft_10 (by decide) rfl ?_
  refine Z.pick (ls' := [(0, zR 0), (1, zI 0), (2, zI 0)]) [2, 1, 0] rfl ?_
  exact K
set_option maxRecDepth 20000 in
theorem X11_readDraft_11 {kz : Nat × Nat} {Q : Option zV → zH → Prop} {d : List Nat} {G : Nat → Int → Option Nat} {E : Nat → Int → Int} {v1 : Int} {v2 : Int} (hX : zK zXt d G) (K : (6 < v2 → Q (some (zI ((-1)))) (d, G, E)) ∧ (¬ (6 < v2) → ((E 0 12) ≤ v1 → Q (some (zI ((-1)))) (d, G, E)) ∧ (¬ ((E 0 12) ≤ v1) → ((0 : Int) ≤ v1 ∧ v1 < (200 : Int)) ∧ ((E 9 v1) < 2000 → Z zm_X11_readDraft kz Q 44 [(0, zR 0), (1, zI v1), (2, zI v2), (3, zI ((E 9 v1)))] [zI 0] (d, G, E)) ∧ (¬ ((E 9 v1) < 2000) → Z zm_X11_readDraft kz Q 44 [(0, zR 0), (1, zI v1), (2, zI v2), (3, zI ((E 9 v1)))] [zI 1] (d, G, E))))) : Z zm_X11_readDraft kz Q 11 [(0, zR 0), (1, zI v1), (2, zI v2)] [] (d, G, E) := by
  refine Z.iload_n (k := 2) dX11_readDraft_11 rfl ?_
  refine Z.bipush (n := 6) dX11_readDraft_12 ⟨by decide, by decide⟩ (by decide) ?_
  refine Z.icmp_gt 148 dX11_readDraft_14 rfl ⟨fun c_1 => ?_, fun c_1 => ?_⟩
  · replace K := K.1 c_1
    refine Z.iconst (n := -1) dX11_readDraft_148 ⟨by decide, by decide⟩ ?_
    exact Z.iret (ty := .int) dX11_readDraft_149 rfl rfl K
  · replace K := K.2 c_1
    refine Z.iload_n (k := 1) dX11_readDraft_17 rfl ?_
    refine Z.aload_n (k := 0) dX11_readDraft_18 rfl ?_
    refine Y.getI 12 dX11_readDraft_19 zl_X11_96 (rfl) (by decide) rfl (zX_0_0 hX).2.1 ?_
    refine Z.icmp_ge 148 dX11_readDraft_22 rfl ⟨fun c_2 => ?_, fun c_2 => ?_⟩
    · replace K := K.1 c_2
      refine Z.iconst (n := -1) dX11_readDraft_148 ⟨by decide, by decide⟩ ?_
      exact Z.iret (ty := .int) dX11_readDraft_149 rfl rfl K
    · replace K := K.2 c_2
      refine Z.aload_n (k := 0) dX11_readDraft_25 rfl ?_
      refine Y.getR (o := some 9) 2 dX11_readDraft_26 zl_X11_23 (rfl) (by decide) rfl (zX_0_0 hX).2.1 (zX_0_2 hX).1 ?_
      refine Z.iload_n (k := 1) dX11_readDraft_29 rfl ?_
      obtain ⟨z_3, K⟩ := K
      refine Y.iald dX11_readDraft_30 (rfl) ((zX_0_2 hX).2.2) z_3 ?_
      refine Z.istore_n (ls' := [(3, zI ((E 9 v1))), (0, zR 0), (1, zI v1), (2, zI v2)]) dX11_readDraft_31 (by decide) rfl ?_
      refine Z.iload_n (k := 0) dX11_readDraft_32 rfl ?_
      refine Z.sipush (n := 2000) dX11_readDraft_33 ⟨by decide, by decide⟩ (by decide) ?_
      refine Z.icmp_lt 43 dX11_readDraft_36 rfl ⟨fun c_4 => ?_, fun c_4 => ?_⟩
      · replace K := K.1 c_4
        refine Z.iconst (n := 0) dX11_readDraft_43 ⟨by decide, by decide⟩ ?_
        refine Z.pick (ls' := [(0, zR 0), (1, zI v1), (2, zI v2), (3, zI ((E 9 v1)))]) [1, 2, 3, 0] rfl ?_
        exact K
      · replace K := K.2 c_4
        refine Z.iconst (n := 1) dX11_readDraft_39 ⟨by decide, by decide⟩ ?_
        refine Z.goto 44 dX11_readDraft_40 rfl ?_
        refine Z.pick (ls' := [(0, zR 0), (1, zI v1), (2, zI v2), (3, zI ((E 9 v1)))]) [1, 2, 3, 0] rfl ?_
        exact K
set_option maxRecDepth 20000 in
theorem X11_readDraft_44 {kz : Nat × Nat} {Q : Option zV → zH → Prop} {d : List Nat} {G : Nat → Int → Option Nat} {E : Nat → Int → Int} {v1 : Int} {v2 : Int} {v3 : Int} {s0 : Int} (hX : zK zXt d G) (K : (s0 = 0 → zin (v3 - 1000) ∧ (v2 = 6 → Q (some (zI v1)) (d, G, E)) ∧ (¬ (v2 = 6) → ∃ x_4, zM zm_X8_isSaying [zR 1, zI ((v3 - 1000))] (d, G, E) (some (zI x_4)) (d, G, E) ∧ (x_4 ≠ 0 → zin (v1 + 1) ∧ ∃ x_9, zM zm_X8_partsOf [zR 1, zI ((v3 - 1000))] (d, G, E) (some (zI x_9)) (d, G, E) ∧ ∃ x_12, zM zm_X11_endOfParts [zR 0, zI ((v1 + 1)), zI x_9] (d, G, E) (some (zI x_12)) (d, G, E) ∧ (0 ≤ x_12 → ((0 : Int) ≤ v1 ∧ v1 < (200 : Int)) ∧ ∀ E_17, E_17 = zuE E 9 v1 ((v3 - 1000)) → zin (x_12 - v1) ∧ ∃ x_19 E_20, zM zm_X5_take [zR 10, zI s0, zR 9, zI v1, zI ((x_12 - v1))] (d, G, E_17) (some (zI x_19)) (d, G, E_20) ∧ zin (v2 + 1) ∧ Z zm_X11_readDraft kz Q 11 [(0, zR 0), (1, zI x_12), (2, zI ((v2 + 1)))] [] (d, G, E_20)) ∧ (¬ (0 ≤ x_12) → zin ((-1) - x_12) ∧ Q (some (zI (((-1) - x_12)))) (d, G, E))) ∧ (¬ (x_4 ≠ 0) → Q (some (zI v1)) (d, G, E)))) ∧ (¬ (s0 = 0) → zin (v3 - 2000) ∧ (v2 = 6 → Q (some (zI v1)) (d, G, E)) ∧ (¬ (v2 = 6) → ∃ x_27, zM zm_X8_isSaying [zR 1, zI ((v3 - 2000))] (d, G, E) (some (zI x_27)) (d, G, E) ∧ (x_27 ≠ 0 → zin (v1 + 1) ∧ ∃ x_32, zM zm_X8_partsOf [zR 1, zI ((v3 - 2000))] (d, G, E) (some (zI x_32)) (d, G, E) ∧ ∃ x_35, zM zm_X11_endOfParts [zR 0, zI ((v1 + 1)), zI x_32] (d, G, E) (some (zI x_35)) (d, G, E) ∧ (0 ≤ x_35 → ((0 : Int) ≤ v1 ∧ v1 < (200 : Int)) ∧ ∀ E_40, E_40 = zuE E 9 v1 ((v3 - 2000)) → zin (x_35 - v1) ∧ ∃ x_42 E_43, zM zm_X5_take [zR 10, zI s0, zR 9, zI v1, zI ((x_35 - v1))] (d, G, E_40) (some (zI x_42)) (d, G, E_43) ∧ zin (v2 + 1) ∧ Z zm_X11_readDraft kz Q 11 [(0, zR 0), (1, zI x_35), (2, zI ((v2 + 1)))] [] (d, G, E_43)) ∧ (¬ (0 ≤ x_35) → zin ((-1) - x_35) ∧ Q (some (zI (((-1) - x_35)))) (d, G, E))) ∧ (¬ (x_27 ≠ 0) → Q (some (zI v1)) (d, G, E))))) : Z zm_X11_readDraft kz Q 44 [(0, zR 0), (1, zI v1), (2, zI v2), (3, zI v3)] [zI s0] (d, G, E) := by
  refine Z.istore (ls' := [(4, zI s0), (0, zR 0), (1, zI v1), (2, zI v2), (3, zI v3)]) dX11_readDraft_44 (by decide) rfl ?_
  refine Z.iload_n (k := 4) dX11_readDraft_46 rfl ?_
  refine Z.iload (k := 0) dX11_readDraft_47 rfl ?_
  refine Z.if_eq 58 dX11_readDraft_49 rfl ⟨fun c_1 => ?_, fun c_1 => ?_⟩
  · replace K := K.1 c_1
    refine Z.sipush (n := 1000) dX11_readDraft_58 ⟨by decide, by decide⟩ (by decide) ?_
    obtain ⟨z_2, K⟩ := K
    refine Z.isub dX11_readDraft_61 z_2 ?_
    refine Z.istore (ls' := [(5, zI ((v3 - 1000))), (4, zI s0), (0, zR 0), (1, zI v1), (2, zI v2), (3, zI v3)]) dX11_readDraft_62 (by decide) rfl ?_
    refine Z.iload_n (k := 4) dX11_readDraft_64 rfl ?_
    refine Z.bipush (n := 6) dX11_readDraft_65 ⟨by decide, by decide⟩ (by decide) ?_
    refine Z.icmp_eq 82 dX11_readDraft_67 rfl ⟨fun c_3 => ?_, fun c_3 => ?_⟩
    · replace K := K.1 c_3
      refine Z.iload_n (k := 3) dX11_readDraft_82 rfl ?_
      exact Z.iret (ty := .int) dX11_readDraft_83 rfl rfl K
    · replace K := K.2 c_3
      refine Z.aload_n (k := 2) dX11_readDraft_70 rfl ?_
      refine Y.getR (o := some 1) 0 dX11_readDraft_71 zl_X11_12 (rfl) (by decide) rfl (zX_0_0 hX).2.1 (zX_0_0 hX).1 ?_
      refine Z.iload (k := 0) dX11_readDraft_74 rfl ?_
      obtain ⟨x_4, m_5, K⟩ := K
      refine Y.callV (g := zm_X8_isSaying) (vs := [zI ((v3 - 1000))]) (st := []) dX11_readDraft_76 ⟨zg_X8_isSaying.1, zg_X8_isSaying.2.1, zg_X8_isSaying.2.2, by decide⟩ ⟨zk_X11_295, zv_X8_isSaying⟩ (ci := 8) (rfl) rfl ((zX_0_0 hX).2.2) rfl rfl (Nat.le_of_ble_eq_true rfl) m_5 (Or.inl rfl) ?_
      show Z zm_X11_readDraft kz Q 79 [(5, zI ((v3 - 1000))), (4, zI s0), (0, zR 0), (1, zI v1), (2, zI v2), (3, zI v3)] [zI x_4] (d, G, E)
      refine Z.if_ne 84 dX11_readDraft_79 rfl ⟨fun c_7 => ?_, fun c_7 => ?_⟩
      · replace K := K.1 c_7
        refine Z.aload_n (k := 2) dX11_readDraft_84 rfl ?_
        refine Z.iload_n (k := 3) dX11_readDraft_85 rfl ?_
        refine Z.iconst (n := 1) dX11_readDraft_86 ⟨by decide, by decide⟩ ?_
        obtain ⟨z_8, K⟩ := K
        refine Z.iadd dX11_readDraft_87 z_8 ?_
        refine Z.aload_n (k := 2) dX11_readDraft_88 rfl ?_
        refine Y.getR (o := some 1) 0 dX11_readDraft_89 zl_X11_12 (rfl) (by decide) rfl (zX_0_0 hX).2.1 (zX_0_0 hX).1 ?_
        refine Z.iload (k := 0) dX11_readDraft_92 rfl ?_
        obtain ⟨x_9, m_10, K⟩ := K
        refine Y.callV (g := zm_X8_partsOf) (vs := [zI ((v3 - 1000))]) (st := [zI ((v1 + 1)), zR 0]) dX11_readDraft_94 ⟨zg_X8_partsOf.1, zg_X8_partsOf.2.1, zg_X8_partsOf.2.2, by decide⟩ ⟨zk_X11_250, zv_X8_partsOf⟩ (ci := 8) (rfl) rfl ((zX_0_0 hX).2.2) rfl rfl (Nat.le_of_ble_eq_true rfl) m_10 (Or.inl rfl) ?_
        show Z zm_X11_readDraft kz Q 97 [(5, zI ((v3 - 1000))), (4, zI s0), (0, zR 0), (1, zI v1), (2, zI v2), (3, zI v3)] [zI x_9, zI ((v1 + 1)), zR 0] (d, G, E)
        obtain ⟨x_12, m_13, K⟩ := K
        refine Y.callV (g := zm_X11_endOfParts) (vs := [zI ((v1 + 1)), zI x_9]) (st := []) dX11_readDraft_97 ⟨zg_X11_endOfParts.1, zg_X11_endOfParts.2.1, zg_X11_endOfParts.2.2, by decide⟩ ⟨zk_X11_298, zv_X11_endOfParts⟩ (ci := 11) (rfl) rfl ((zX_0_0 hX).2.1) rfl rfl (Nat.le_of_ble_eq_true rfl) m_13 (Or.inl rfl) ?_
        show Z zm_X11_readDraft kz Q 100 [(5, zI ((v3 - 1000))), (4, zI s0), (0, zR 0), (1, zI v1), (2, zI v2), (3, zI v3)] [zI x_12] (d, G, E)
        refine Z.istore (ls' := [(6, zI x_12), (5, zI ((v3 - 1000))), (4, zI s0), (0, zR 0), (1, zI v1), (2, zI v2), (3, zI v3)]) dX11_readDraft_100 (by decide) rfl ?_
        refine Z.iload (k := 0) dX11_readDraft_102 rfl ?_
        refine Z.if_ge 112 dX11_readDraft_104 rfl ⟨fun c_15 => ?_, fun c_15 => ?_⟩
        · replace K := K.1 c_15
          refine Z.aload_n (k := 3) dX11_readDraft_112 rfl ?_
          refine Y.getR (o := some 9) 2 dX11_readDraft_113 zl_X11_23 (rfl) (by decide) rfl (zX_0_0 hX).2.1 (zX_0_2 hX).1 ?_
          refine Z.iload_n (k := 4) dX11_readDraft_116 rfl ?_
          refine Z.iload (k := 1) dX11_readDraft_117 rfl ?_
          obtain ⟨z_16, K⟩ := K
          refine Y.iast dX11_readDraft_119 (rfl) ((zX_0_2 hX).2.2) z_16 ?_
          generalize eE_17 : zuE E 9 v1 ((v3 - 1000)) = E_17
          replace K := K E_17 eE_17.symm
          refine Z.aload_n (k := 3) dX11_readDraft_120 rfl ?_
          refine Y.getR (o := some 10) 3 dX11_readDraft_121 zl_X11_30 (rfl) (by decide) rfl (zX_0_0 hX).2.1 (zX_0_3 hX).1 ?_
          refine Z.iload (k := 2) dX11_readDraft_124 rfl ?_
          refine Z.aload_n (k := 3) dX11_readDraft_126 rfl ?_
          refine Y.getR (o := some 9) 2 dX11_readDraft_127 zl_X11_23 (rfl) (by decide) rfl (zX_0_0 hX).2.1 (zX_0_2 hX).1 ?_
          refine Z.iload_n (k := 4) dX11_readDraft_130 rfl ?_
          refine Z.iload (k := 0) dX11_readDraft_131 rfl ?_
          refine Z.iload_n (k := 4) dX11_readDraft_133 rfl ?_
          obtain ⟨z_18, K⟩ := K
          refine Z.isub dX11_readDraft_134 z_18 ?_
          obtain ⟨x_19, E_20, m_21, K⟩ := K
          refine Y.callV (g := zm_X5_take) (vs := [zI s0, zR 9, zI v1, zI ((x_12 - v1))]) (st := []) dX11_readDraft_135 ⟨zg_X5_take.1, zg_X5_take.2.1, zg_X5_take.2.2, by decide⟩ ⟨zk_X11_301, zv_X5_take⟩ (ci := 5) (rfl) rfl ((zX_0_3 hX).2.2) rfl rfl (Nat.le_of_ble_eq_true rfl) m_21 (Or.inl rfl) ?_
          show Z zm_X11_readDraft kz Q 138 [(6, zI x_12), (5, zI ((v3 - 1000))), (4, zI s0), (0, zR 0), (1, zI v1), (2, zI v2), (3, zI v3)] [zI x_19] (d, G, E_20)
          refine Z.pop_i dX11_readDraft_138 (fun _ => rfl) ?_
          refine Z.iload (k := 0) dX11_readDraft_139 rfl ?_
          refine Z.istore_n (ls' := [(1, zI x_12), (6, zI x_12), (5, zI ((v3 - 1000))), (4, zI s0), (0, zR 0), (2, zI v2), (3, zI v3)]) dX11_readDraft_141 (by decide) rfl ?_
          obtain ⟨z_23, K⟩ := K
          refine Z.iinc (k := 5) (ls' := [(2, zI ((v2 + 1))), (1, zI x_12), (6, zI x_12), (5, zI ((v3 - 1000))), (4, zI s0), (0, zR 0), (3, zI v3)]) dX11_readDraft_142 rfl (by decide) z_23 rfl ?_
          refine Z.goto 11 dX11_readDraft_145 rfl ?_
          refine Z.pick (ls' := [(0, zR 0), (1, zI x_12), (2, zI ((v2 + 1)))]) [5, 1, 0] rfl ?_
          exact K
        · replace K := K.2 c_15
          refine Z.iconst (n := -1) dX11_readDraft_107 ⟨by decide, by decide⟩ ?_
          refine Z.iload (k := 0) dX11_readDraft_108 rfl ?_
          obtain ⟨z_24, K⟩ := K
          refine Z.isub dX11_readDraft_110 z_24 ?_
          exact Z.iret (ty := .int) dX11_readDraft_111 rfl rfl K
      · replace K := K.2 c_7
        refine Z.iload_n (k := 3) dX11_readDraft_82 rfl ?_
        exact Z.iret (ty := .int) dX11_readDraft_83 rfl rfl K
  · replace K := K.2 c_1
    refine Z.sipush (n := 2000) dX11_readDraft_52 ⟨by decide, by decide⟩ (by decide) ?_
    refine Z.goto 61 dX11_readDraft_55 rfl ?_
    obtain ⟨z_25, K⟩ := K
    refine Z.isub dX11_readDraft_61 z_25 ?_
    refine Z.istore (ls' := [(5, zI ((v3 - 2000))), (4, zI s0), (0, zR 0), (1, zI v1), (2, zI v2), (3, zI v3)]) dX11_readDraft_62 (by decide) rfl ?_
    refine Z.iload_n (k := 4) dX11_readDraft_64 rfl ?_
    refine Z.bipush (n := 6) dX11_readDraft_65 ⟨by decide, by decide⟩ (by decide) ?_
    refine Z.icmp_eq 82 dX11_readDraft_67 rfl ⟨fun c_26 => ?_, fun c_26 => ?_⟩
    · replace K := K.1 c_26
      refine Z.iload_n (k := 3) dX11_readDraft_82 rfl ?_
      exact Z.iret (ty := .int) dX11_readDraft_83 rfl rfl K
    · replace K := K.2 c_26
      refine Z.aload_n (k := 2) dX11_readDraft_70 rfl ?_
      refine Y.getR (o := some 1) 0 dX11_readDraft_71 zl_X11_12 (rfl) (by decide) rfl (zX_0_0 hX).2.1 (zX_0_0 hX).1 ?_
      refine Z.iload (k := 0) dX11_readDraft_74 rfl ?_
      obtain ⟨x_27, m_28, K⟩ := K
      refine Y.callV (g := zm_X8_isSaying) (vs := [zI ((v3 - 2000))]) (st := []) dX11_readDraft_76 ⟨zg_X8_isSaying.1, zg_X8_isSaying.2.1, zg_X8_isSaying.2.2, by decide⟩ ⟨zk_X11_295, zv_X8_isSaying⟩ (ci := 8) (rfl) rfl ((zX_0_0 hX).2.2) rfl rfl (Nat.le_of_ble_eq_true rfl) m_28 (Or.inl rfl) ?_
      show Z zm_X11_readDraft kz Q 79 [(5, zI ((v3 - 2000))), (4, zI s0), (0, zR 0), (1, zI v1), (2, zI v2), (3, zI v3)] [zI x_27] (d, G, E)
      refine Z.if_ne 84 dX11_readDraft_79 rfl ⟨fun c_30 => ?_, fun c_30 => ?_⟩
      · replace K := K.1 c_30
        refine Z.aload_n (k := 2) dX11_readDraft_84 rfl ?_
        refine Z.iload_n (k := 3) dX11_readDraft_85 rfl ?_
        refine Z.iconst (n := 1) dX11_readDraft_86 ⟨by decide, by decide⟩ ?_
        obtain ⟨z_31, K⟩ := K
        refine Z.iadd dX11_readDraft_87 z_31 ?_
        refine Z.aload_n (k := 2) dX11_readDraft_88 rfl ?_
        refine Y.getR (o := some 1) 0 dX11_readDraft_89 zl_X11_12 (rfl) (by decide) rfl (zX_0_0 hX).2.1 (zX_0_0 hX).1 ?_
        refine Z.iload (k := 0) dX11_readDraft_92 rfl ?_
        obtain ⟨x_32, m_33, K⟩ := K
        refine Y.callV (g := zm_X8_partsOf) (vs := [zI ((v3 - 2000))]) (st := [zI ((v1 + 1)), zR 0]) dX11_readDraft_94 ⟨zg_X8_partsOf.1, zg_X8_partsOf.2.1, zg_X8_partsOf.2.2, by decide⟩ ⟨zk_X11_250, zv_X8_partsOf⟩ (ci := 8) (rfl) rfl ((zX_0_0 hX).2.2) rfl rfl (Nat.le_of_ble_eq_true rfl) m_33 (Or.inl rfl) ?_
        show Z zm_X11_readDraft kz Q 97 [(5, zI ((v3 - 2000))), (4, zI s0), (0, zR 0), (1, zI v1), (2, zI v2), (3, zI v3)] [zI x_32, zI ((v1 + 1)), zR 0] (d, G, E)
        obtain ⟨x_35, m_36, K⟩ := K
        refine Y.callV (g := zm_X11_endOfParts) (vs := [zI ((v1 + 1)), zI x_32]) (st := []) dX11_readDraft_97 ⟨zg_X11_endOfParts.1, zg_X11_endOfParts.2.1, zg_X11_endOfParts.2.2, by decide⟩ ⟨zk_X11_298, zv_X11_endOfParts⟩ (ci := 11) (rfl) rfl ((zX_0_0 hX).2.1) rfl rfl (Nat.le_of_ble_eq_true rfl) m_36 (Or.inl rfl) ?_
        show Z zm_X11_readDraft kz Q 100 [(5, zI ((v3 - 2000))), (4, zI s0), (0, zR 0), (1, zI v1), (2, zI v2), (3, zI v3)] [zI x_35] (d, G, E)
        refine Z.istore (ls' := [(6, zI x_35), (5, zI ((v3 - 2000))), (4, zI s0), (0, zR 0), (1, zI v1), (2, zI v2), (3, zI v3)]) dX11_readDraft_100 (by decide) rfl ?_
        refine Z.iload (k := 0) dX11_readDraft_102 rfl ?_
        refine Z.if_ge 112 dX11_readDraft_104 rfl ⟨fun c_38 => ?_, fun c_38 => ?_⟩
        · replace K := K.1 c_38
          refine Z.aload_n (k := 3) dX11_readDraft_112 rfl ?_
          refine Y.getR (o := some 9) 2 dX11_readDraft_113 zl_X11_23 (rfl) (by decide) rfl (zX_0_0 hX).2.1 (zX_0_2 hX).1 ?_
          refine Z.iload_n (k := 4) dX11_readDraft_116 rfl ?_
          refine Z.iload (k := 1) dX11_readDraft_117 rfl ?_
          obtain ⟨z_39, K⟩ := K
          refine Y.iast dX11_readDraft_119 (rfl) ((zX_0_2 hX).2.2) z_39 ?_
          generalize eE_40 : zuE E 9 v1 ((v3 - 2000)) = E_40
          replace K := K E_40 eE_40.symm
          refine Z.aload_n (k := 3) dX11_readDraft_120 rfl ?_
          refine Y.getR (o := some 10) 3 dX11_readDraft_121 zl_X11_30 (rfl) (by decide) rfl (zX_0_0 hX).2.1 (zX_0_3 hX).1 ?_
          refine Z.iload (k := 2) dX11_readDraft_124 rfl ?_
          refine Z.aload_n (k := 3) dX11_readDraft_126 rfl ?_
          refine Y.getR (o := some 9) 2 dX11_readDraft_127 zl_X11_23 (rfl) (by decide) rfl (zX_0_0 hX).2.1 (zX_0_2 hX).1 ?_
          refine Z.iload_n (k := 4) dX11_readDraft_130 rfl ?_
          refine Z.iload (k := 0) dX11_readDraft_131 rfl ?_
          refine Z.iload_n (k := 4) dX11_readDraft_133 rfl ?_
          obtain ⟨z_41, K⟩ := K
          refine Z.isub dX11_readDraft_134 z_41 ?_
          obtain ⟨x_42, E_43, m_44, K⟩ := K
          refine Y.callV (g := zm_X5_take) (vs := [zI s0, zR 9, zI v1, zI ((x_35 - v1))]) (st := []) dX11_readDraft_135 ⟨zg_X5_take.1, zg_X5_take.2.1, zg_X5_take.2.2, by decide⟩ ⟨zk_X11_301, zv_X5_take⟩ (ci := 5) (rfl) rfl ((zX_0_3 hX).2.2) rfl rfl (Nat.le_of_ble_eq_true rfl) m_44 (Or.inl rfl) ?_
          show Z zm_X11_readDraft kz Q 138 [(6, zI x_35), (5, zI ((v3 - 2000))), (4, zI s0), (0, zR 0), (1, zI v1), (2, zI v2), (3, zI v3)] [zI x_42] (d, G, E_43)
          refine Z.pop_i dX11_readDraft_138 (fun _ => rfl) ?_
          refine Z.iload (k := 0) dX11_readDraft_139 rfl ?_
          refine Z.istore_n (ls' := [(1, zI x_35), (6, zI x_35), (5, zI ((v3 - 2000))), (4, zI s0), (0, zR 0), (2, zI v2), (3, zI v3)]) dX11_readDraft_141 (by decide) rfl ?_
          obtain ⟨z_46, K⟩ := K
          refine Z.iinc (k := 5) (ls' := [(2, zI ((v2 + 1))), (1, zI x_35), (6, zI x_35), (5, zI ((v3 - 2000))), (4, zI s0), (0, zR 0), (3, zI v3)]) dX11_readDraft_142 rfl (by decide) z_46 rfl ?_
          refine Z.goto 11 dX11_readDraft_145 rfl ?_
          refine Z.pick (ls' := [(0, zR 0), (1, zI x_35), (2, zI ((v2 + 1)))]) [5, 1, 0] rfl ?_
          exact K
        · replace K := K.2 c_38
          refine Z.iconst (n := -1) dX11_readDraft_107 ⟨by decide, by decide⟩ ?_
          refine Z.iload (k := 0) dX11_readDraft_108 rfl ?_
          obtain ⟨z_47, K⟩ := K
          refine Z.isub dX11_readDraft_110 z_47 ?_
          exact Z.iret (ty := .int) dX11_readDraft_111 rfl rfl K
      · replace K := K.2 c_30
        refine Z.iload_n (k := 3) dX11_readDraft_82 rfl ?_
        exact Z.iret (ty := .int) dX11_readDraft_83 rfl rfl K
set_option maxRecDepth 20000 in
theorem X11_keep_0 {kz : Nat × Nat} {Q : Option zV → zH → Prop} {d : List Nat} {G : Nat → Int → Option Nat} {E : Nat → Int → Int} {a1 n1 : Nat} (hX : zK zXt d G) (ha1 : a1 ∈ d) (hk1 : zkd a1 = (0, n1)) (K : ∃ o_1 d_2 G_3 E_4, zM zm_X7_add [zR 5] (d, G, E) (some (zO o_1)) (d_2, G_3, E_4) ∧ (d_2 = d ∨ d_2.length ≤ kz.1 ∧ zsl d_2 ≤ kz.2) ∧ a1 ∈ d_2 ∧ zK zXt d_2 G_3 ∧ (o_1 ≠ none → ∃ b_10, o_1 = some b_10 ∧ zCk d_2 G_3 b_10 ∧ ∃ E_13, zM zm_X1_fill [zR b_10, zR 10, zI ((E_4 30 4)), zR 18] (d_2, G_3, E_4) none (d_2, G_3, E_13) ∧ ∃ E_16, zM zm_X1_tellRule [zR b_10, zR 1, zR 18] (d_2, G_3, E_13) none (d_2, G_3, E_16) ∧ ∃ d_19 G_20 E_21, zM zm_X1_tellStep [zR b_10, zR a1, zR 36, zR 14] (d_2, G_3, E_16) none (d_19, G_20, E_21) ∧ (d_19 = d_2 ∨ d_19.length ≤ kz.1 ∧ zsl d_19 ≤ kz.2) ∧ a1 ∈ d_19 ∧ zK zXt d_19 G_20 ∧ zCk d_19 G_20 b_10 ∧ ∃ E_27, zM zm_X10_putAway [zR 33, zR b_10] (d_19, G_20, E_21) none (d_19, G_20, E_27) ∧ ((E_27 (b_10 + 1) 3) ≠ 0 → ((E_27 5 4) < 150 → Q (some (zI ((E 5 4)))) (d_19, G_20, E_27)) ∧ (¬ ((E_27 5 4) < 150) → ∀ E_32, E_32 = zuE E_27 0 15 3 → Q (some (zI ((E 5 4)))) (d_19, G_20, E_32))) ∧ (¬ ((E_27 (b_10 + 1) 3) ≠ 0) → ∀ E_33, E_33 = zuE E_27 0 15 1 → Q (some (zI ((E 5 4)))) (d_19, G_20, E_33))) ∧ (¬ (o_1 ≠ none) → Q (some (zI ((-1)))) (d_2, G_3, E_4))) : Z zm_X11_keep kz Q 0 [(0, zR 0), (1, zR a1)] [] (d, G, E) := by
  refine Z.aload_n (k := 0) dX11_keep_0 rfl ?_
  refine Y.getR (o := some 5) 1 dX11_keep_1 zl_X11_19 (rfl) (by decide) rfl (zX_0_0 hX).2.1 (zX_0_1 hX).1 ?_
  refine Y.getI 4 dX11_keep_4 zl_X11_124 (rfl) (by decide) rfl (zX_0_1 hX).2.2 ?_
  refine Z.istore_n (ls' := [(2, zI ((E 5 4))), (0, zR 0), (1, zR a1)]) dX11_keep_7 (by decide) rfl ?_
  refine Z.aload_n (k := 1) dX11_keep_8 rfl ?_
  refine Y.getR (o := some 5) 1 dX11_keep_9 zl_X11_19 (rfl) (by decide) rfl (zX_0_0 hX).2.1 (zX_0_1 hX).1 ?_
  obtain ⟨o_1, d_2, G_3, E_4, m_5, z_6, K⟩ := K
  refine Y.callV (g := zm_X7_add) (vs := []) (st := []) dX11_keep_12 ⟨zg_X7_add.1, zg_X7_add.2.1, zg_X7_add.2.2, by decide⟩ ⟨zk_X11_334, zv_X7_add⟩ (ci := 7) (rfl) rfl ((zX_0_1 hX).2.2) rfl rfl (Nat.le_of_ble_eq_true rfl) m_5 z_6 ?_
  show Z zm_X11_keep kz Q 15 [(2, zI ((E 5 4))), (0, zR 0), (1, zR a1)] [zO o_1] (d_2, G_3, E_4)
  obtain ⟨hm_7, hX_8, K⟩ := K
  refine Z.astore_n (ls' := [(3, zO o_1), (2, zI ((E 5 4))), (0, zR 0), (1, zR a1)]) dX11_keep_15 (by decide) rfl ?_
  refine Z.aload_n (k := 0) dX11_keep_16 rfl ?_
  refine Z.ifnonnull 22 dX11_keep_17 rfl ⟨fun c_9 => ?_, fun c_9 => ?_⟩
  · replace K := K.1 c_9
    refine Z.aload_n (k := 0) dX11_keep_22 rfl ?_
    refine Z.aload_n (k := 2) dX11_keep_23 rfl ?_
    refine Y.getR (o := some 10) 3 dX11_keep_24 zl_X11_30 (rfl) (by decide) rfl (zX_0_0 hX_8).2.1 (zX_0_3 hX_8).1 ?_
    refine Z.aload_n (k := 2) dX11_keep_27 rfl ?_
    refine Y.getR (o := some 30) 7 dX11_keep_28 zl_X11_58 (rfl) (by decide) rfl (zX_0_0 hX_8).2.1 (zX_0_7 hX_8).1 ?_
    refine Y.getI 4 dX11_keep_31 zl_X11_336 (rfl) (by decide) rfl (zX_0_7 hX_8).2.2 ?_
    refine Z.aload_n (k := 2) dX11_keep_34 rfl ?_
    refine Y.getR (o := some 18) 5 dX11_keep_35 zl_X11_42 (rfl) (by decide) rfl (zX_0_0 hX_8).2.1 (zX_0_5 hX_8).1 ?_
    obtain ⟨b_10, e_11, hc_12, K⟩ := K
    rw [e_11]
    obtain ⟨E_13, m_14, K⟩ := K
    refine Y.callV (g := zm_X1_fill) (vs := [zR 10, zI ((E_4 30 4)), zR 18]) (st := []) dX11_keep_38 ⟨zg_X1_fill.1, zg_X1_fill.2.1, zg_X1_fill.2.2, by decide⟩ ⟨zk_X11_337, zv_X1_fill⟩ (ci := 1) (congrArg Prod.fst hc_12.1) rfl (hc_12.2.1) rfl rfl (Nat.le_of_ble_eq_true rfl) m_14 (Or.inl rfl) ?_
    show Z zm_X11_keep kz Q 41 [(3, zR b_10), (2, zI ((E 5 4))), (0, zR 0), (1, zR a1)] [] (d_2, G_3, E_13)
    refine Z.aload_n (k := 0) dX11_keep_41 rfl ?_
    refine Z.aload_n (k := 2) dX11_keep_42 rfl ?_
    refine Y.getR (o := some 1) 0 dX11_keep_43 zl_X11_12 (rfl) (by decide) rfl (zX_0_0 hX_8).2.1 (zX_0_0 hX_8).1 ?_
    refine Z.aload_n (k := 2) dX11_keep_46 rfl ?_
    refine Y.getR (o := some 18) 5 dX11_keep_47 zl_X11_42 (rfl) (by decide) rfl (zX_0_0 hX_8).2.1 (zX_0_5 hX_8).1 ?_
    obtain ⟨E_16, m_17, K⟩ := K
    refine Y.callV (g := zm_X1_tellRule) (vs := [zR 1, zR 18]) (st := []) dX11_keep_50 ⟨zg_X1_tellRule.1, zg_X1_tellRule.2.1, zg_X1_tellRule.2.2, by decide⟩ ⟨zk_X11_341, zv_X1_tellRule⟩ (ci := 1) (congrArg Prod.fst hc_12.1) rfl (hc_12.2.1) rfl rfl (Nat.le_of_ble_eq_true rfl) m_17 (Or.inl rfl) ?_
    show Z zm_X11_keep kz Q 53 [(3, zR b_10), (2, zI ((E 5 4))), (0, zR 0), (1, zR a1)] [] (d_2, G_3, E_16)
    refine Z.aload_n (k := 0) dX11_keep_53 rfl ?_
    refine Z.aload_n (k := 3) dX11_keep_54 rfl ?_
    refine Z.aload_n (k := 2) dX11_keep_55 rfl ?_
    refine Y.getR (o := some 36) 9 dX11_keep_56 zl_X11_76 (rfl) (by decide) rfl (zX_0_0 hX_8).2.1 (zX_0_9 hX_8).1 ?_
    refine Z.aload_n (k := 2) dX11_keep_59 rfl ?_
    refine Y.getR (o := some 14) 4 dX11_keep_60 zl_X11_34 (rfl) (by decide) rfl (zX_0_0 hX_8).2.1 (zX_0_4 hX_8).1 ?_
    obtain ⟨d_19, G_20, E_21, m_22, z_23, K⟩ := K
    refine Y.callV (g := zm_X1_tellStep) (vs := [zR a1, zR 36, zR 14]) (st := []) dX11_keep_63 ⟨zg_X1_tellStep.1, zg_X1_tellStep.2.1, zg_X1_tellStep.2.2, by decide⟩ ⟨zk_X11_344, zv_X1_tellStep⟩ (ci := 1) (congrArg Prod.fst hc_12.1) rfl (hc_12.2.1) rfl rfl (Nat.le_of_ble_eq_true rfl) m_22 z_23 ?_
    show Z zm_X11_keep kz Q 66 [(3, zR b_10), (2, zI ((E 5 4))), (0, zR 0), (1, zR a1)] [] (d_19, G_20, E_21)
    obtain ⟨hm_24, hX_25, hc_26, K⟩ := K
    refine Z.aload_n (k := 2) dX11_keep_66 rfl ?_
    refine Y.getR (o := some 33) 8 dX11_keep_67 zl_X11_67 (rfl) (by decide) rfl (zX_0_0 hX_25).2.1 (zX_0_8 hX_25).1 ?_
    refine Z.aload_n (k := 0) dX11_keep_70 rfl ?_
    obtain ⟨E_27, m_28, K⟩ := K
    refine Y.callV (g := zm_X10_putAway) (vs := [zR b_10]) (st := []) dX11_keep_71 ⟨zg_X10_putAway.1, zg_X10_putAway.2.1, zg_X10_putAway.2.2, by decide⟩ ⟨zk_X11_348, zv_X10_putAway⟩ (ci := 10) (rfl) rfl ((zX_0_8 hX_25).2.2) rfl rfl (Nat.le_of_ble_eq_true rfl) m_28 (Or.inl rfl) ?_
    show Z zm_X11_keep kz Q 74 [(3, zR b_10), (2, zI ((E 5 4))), (0, zR 0), (1, zR a1)] [] (d_19, G_20, E_27)
    refine Z.aload_n (k := 0) dX11_keep_74 rfl ?_
    refine Y.getR (o := some ((b_10 + 1))) 0 dX11_keep_75 zl_X11_174 (congrArg Prod.fst hc_26.1) (by decide) rfl hc_26.2.1 hc_26.2.2.2.1 ?_
    refine Y.getI 3 dX11_keep_78 zl_X11_179 (congrArg Prod.fst hc_26.2.2.1.1) (by decide) rfl hc_26.2.2.1.2.2.2.2.1 ?_
    refine Z.if_ne 92 dX11_keep_81 rfl ⟨fun c_30 => ?_, fun c_30 => ?_⟩
    · replace K := K.1 c_30
      refine Z.aload_n (k := 2) dX11_keep_92 rfl ?_
      refine Y.getR (o := some 5) 1 dX11_keep_93 zl_X11_19 (rfl) (by decide) rfl (zX_0_0 hX_25).2.1 (zX_0_1 hX_25).1 ?_
      refine Y.getI 4 dX11_keep_96 zl_X11_124 (rfl) (by decide) rfl (zX_0_1 hX_25).2.2 ?_
      refine Z.sipush (n := 150) dX11_keep_99 ⟨by decide, by decide⟩ (by decide) ?_
      refine Z.icmp_lt 110 dX11_keep_102 rfl ⟨fun c_31 => ?_, fun c_31 => ?_⟩
      · replace K := K.1 c_31
        refine Z.iload_n (k := 1) dX11_keep_110 rfl ?_
        exact Z.iret (ty := .int) dX11_keep_111 rfl rfl K
      · replace K := K.2 c_31
        refine Z.aload_n (k := 2) dX11_keep_105 rfl ?_
        refine Z.iconst (n := 3) dX11_keep_106 ⟨by decide, by decide⟩ ?_
        refine Y.putI 15 dX11_keep_107 zw_X11_106 (fun q => by cases q) (rfl) rfl (zX_0_0 hX_25).2.1 (Or.inl rfl) ?_
        generalize eE_32 : zuE E_27 0 15 3 = E_32
        replace K := K E_32 eE_32.symm
        refine Z.iload_n (k := 1) dX11_keep_110 rfl ?_
        exact Z.iret (ty := .int) dX11_keep_111 rfl rfl K
    · replace K := K.2 c_30
      refine Z.aload_n (k := 2) dX11_keep_84 rfl ?_
      refine Z.iconst (n := 1) dX11_keep_85 ⟨by decide, by decide⟩ ?_
      refine Y.putI 15 dX11_keep_86 zw_X11_106 (fun q => by cases q) (rfl) rfl (zX_0_0 hX_25).2.1 (Or.inl rfl) ?_
      generalize eE_33 : zuE E_27 0 15 1 = E_33
      replace K := K E_33 eE_33.symm
      refine Z.goto 110 dX11_keep_89 rfl ?_
      refine Z.iload_n (k := 1) dX11_keep_110 rfl ?_
      exact Z.iret (ty := .int) dX11_keep_111 rfl rfl K
  · replace K := K.2 c_9
    refine Z.iconst (n := -1) dX11_keep_20 ⟨by decide, by decide⟩ ?_
    exact Z.iret (ty := .int) dX11_keep_21 rfl rfl K
set_option maxRecDepth 20000 in
theorem X11_settle_0 {kz : Nat × Nat} {Q : Option zV → zH → Prop} {d : List Nat} {G : Nat → Int → Option Nat} {E : Nat → Int → Int} {v1 : Int} {a2 n2 : Nat} (hX : zK zXt d G) (ha2 : a2 ∈ d) (hk2 : zkd a2 = (0, n2)) (K : (v1 = 1 → Z zm_X11_settle kz Q 23 [(0, zR 0), (2, zR a2)] [] (d, G, E)) ∧ (¬ (v1 = 1) → ∃ x_2 E_3, zM zm_X2_clean [zR 30, zR 10] (d, G, E) (some (zI x_2)) (d, G, E_3) ∧ (x_2 = 0 → Z zm_X11_settle kz Q 23 [(0, zR 0), (2, zR a2)] [] (d, G, E_3)) ∧ (¬ (x_2 = 0) → ∃ x_8 E_9, zM zm_X4_rewrite [zR 36, zR 10, zR 30] (d, G, E_3) (some (zI x_8)) (d, G, E_9) ∧ zin ((E_9 0 20) + (E_9 36 11)) ∧ ∀ E_13, E_13 = zuE E_9 0 20 (((E_9 0 20) + (E_9 36 11))) → (x_8 ≠ 0 → ∃ E_15, zM zm_X5_mark [zR 10] (d, G, E_13) none (d, G, E_15) ∧ ∃ x_18, zM zm_X5_isTrivial [zR 10, zR 1] (d, G, E_15) (some (zI x_18)) (d, G, E_15) ∧ (x_18 ≠ 0 → zin ((E_15 0 17) + 1) ∧ ∀ E_23, E_23 = zuE E_15 0 17 (((E_15 0 17) + 1)) → Q (some (zI ((-1)))) (d, G, E_23)) ∧ (¬ (x_18 ≠ 0) → ∃ x_24 E_25, zM zm_X10_isTakenIn [zR 33, zR 10] (d, G, E_15) (some (zI x_24)) (d, G, E_25) ∧ (x_24 = 0 → ∃ x_29 d_30 G_31 E_32, zM zm_X11_keep [zR 0, zR a2] (d, G, E_25) (some (zI x_29)) (d_30, G_31, E_32) ∧ (d_30 = d ∨ d_30.length ≤ kz.1 ∧ zsl d_30 ≤ kz.2) ∧ a2 ∈ d_30 ∧ zK zXt d_30 G_31 ∧ Q (some (zI x_29)) (d_30, G_31, E_32)) ∧ (¬ (x_24 = 0) → zin ((E_25 0 17) + 1) ∧ ∀ E_38, E_38 = zuE E_25 0 17 (((E_25 0 17) + 1)) → Q (some (zI ((-1)))) (d, G, E_38)))) ∧ (¬ (x_8 ≠ 0) → zin ((E_13 0 18) + 1) ∧ ∀ E_40, E_40 = zuE E_13 0 18 (((E_13 0 18) + 1)) → Q (some (zI ((-99)))) (d, G, E_40))))) : Z zm_X11_settle kz Q 0 [(0, zR 0), (1, zI v1), (2, zR a2)] [] (d, G, E) := by
  refine Z.iload_n (k := 1) dX11_settle_0 rfl ?_
  refine Z.iconst (n := 1) dX11_settle_1 ⟨by decide, by decide⟩ ?_
  refine Z.icmp_eq 23 dX11_settle_2 rfl ⟨fun c_1 => ?_, fun c_1 => ?_⟩
  · replace K := K.1 c_1
    refine Z.pick (ls' := [(0, zR 0), (2, zR a2)]) [0, 2] rfl ?_
    exact K
  · replace K := K.2 c_1
    refine Z.aload_n (k := 0) dX11_settle_5 rfl ?_
    refine Y.getR (o := some 30) 7 dX11_settle_6 zl_X11_58 (rfl) (by decide) rfl (zX_0_0 hX).2.1 (zX_0_7 hX).1 ?_
    refine Z.aload_n (k := 0) dX11_settle_9 rfl ?_
    refine Y.getR (o := some 10) 3 dX11_settle_10 zl_X11_30 (rfl) (by decide) rfl (zX_0_0 hX).2.1 (zX_0_3 hX).1 ?_
    obtain ⟨x_2, E_3, m_4, K⟩ := K
    refine Y.callV (g := zm_X2_clean) (vs := [zR 10]) (st := []) dX11_settle_13 ⟨zg_X2_clean.1, zg_X2_clean.2.1, zg_X2_clean.2.2, by decide⟩ ⟨zk_X11_233, zv_X2_clean⟩ (ci := 2) (rfl) rfl ((zX_0_7 hX).2.2) rfl rfl (Nat.le_of_ble_eq_true rfl) m_4 (Or.inl rfl) ?_
    show Z zm_X11_settle kz Q 16 [(0, zR 0), (1, zI v1), (2, zR a2)] [zI x_2] (d, G, E_3)
    refine Z.if_eq 23 dX11_settle_16 rfl ⟨fun c_6 => ?_, fun c_6 => ?_⟩
    · replace K := K.1 c_6
      refine Z.pick (ls' := [(0, zR 0), (2, zR a2)]) [0, 2] rfl ?_
      exact K
    · replace K := K.2 c_6
      refine Z.iconst (n := 1) dX11_settle_19 ⟨by decide, by decide⟩ ?_
      refine Z.goto 24 dX11_settle_20 rfl ?_
      refine Z.istore_n (ls' := [(3, zI 1), (0, zR 0), (1, zI v1), (2, zR a2)]) dX11_settle_24 (by decide) rfl ?_
      refine Z.iload_n (k := 0) dX11_settle_25 rfl ?_
      refine Z.if_eq 61 dX11_settle_26 rfl ⟨fun c_7 => absurd c_7 (by decide), fun _ => ?_⟩
      refine Z.aload_n (k := 1) dX11_settle_29 rfl ?_
      refine Y.getR (o := some 36) 9 dX11_settle_30 zl_X11_76 (rfl) (by decide) rfl (zX_0_0 hX).2.1 (zX_0_9 hX).1 ?_
      refine Z.aload_n (k := 1) dX11_settle_33 rfl ?_
      refine Y.getR (o := some 10) 3 dX11_settle_34 zl_X11_30 (rfl) (by decide) rfl (zX_0_0 hX).2.1 (zX_0_3 hX).1 ?_
      refine Z.aload_n (k := 1) dX11_settle_37 rfl ?_
      refine Y.getR (o := some 30) 7 dX11_settle_38 zl_X11_58 (rfl) (by decide) rfl (zX_0_0 hX).2.1 (zX_0_7 hX).1 ?_
      obtain ⟨x_8, E_9, m_10, K⟩ := K
      refine Y.callV (g := zm_X4_rewrite) (vs := [zR 10, zR 30]) (st := []) dX11_settle_41 ⟨zg_X4_rewrite.1, zg_X4_rewrite.2.1, zg_X4_rewrite.2.2, by decide⟩ ⟨zk_X11_313, zv_X4_rewrite⟩ (ci := 4) (rfl) rfl ((zX_0_9 hX).2.2) rfl rfl (Nat.le_of_ble_eq_true rfl) m_10 (Or.inl rfl) ?_
      show Z zm_X11_settle kz Q 44 [(3, zI 1), (0, zR 0), (1, zI v1), (2, zR a2)] [zI x_8] (d, G, E_9)
      refine Z.istore_n (ls' := [(3, zI x_8), (0, zR 0), (1, zI v1), (2, zR a2)]) dX11_settle_44 (by decide) rfl ?_
      refine Z.aload_n (k := 1) dX11_settle_45 rfl ?_
      refine Z.dup_i dX11_settle_46 (fun _ => rfl) ?_
      refine Y.getI 20 dX11_settle_47 zl_X11_121 (rfl) (by decide) rfl (zX_0_0 hX).2.1 ?_
      refine Z.aload_n (k := 1) dX11_settle_50 rfl ?_
      refine Y.getR (o := some 36) 9 dX11_settle_51 zl_X11_76 (rfl) (by decide) rfl (zX_0_0 hX).2.1 (zX_0_9 hX).1 ?_
      refine Y.getI 11 dX11_settle_54 zl_X11_317 (rfl) (by decide) rfl (zX_0_9 hX).2.2 ?_
      obtain ⟨z_12, K⟩ := K
      refine Z.iadd dX11_settle_57 z_12 ?_
      refine Y.putI 20 dX11_settle_58 zw_X11_121 (fun q => by cases q) (rfl) rfl (zX_0_0 hX).2.1 (Or.inl rfl) ?_
      generalize eE_13 : zuE E_9 0 20 (((E_9 0 20) + (E_9 36 11))) = E_13
      replace K := K E_13 eE_13.symm
      refine Z.iload_n (k := 0) dX11_settle_61 rfl ?_
      refine Z.if_ne 78 dX11_settle_62 rfl ⟨fun c_14 => ?_, fun c_14 => ?_⟩
      · replace K := K.1 c_14
        refine Z.aload_n (k := 1) dX11_settle_78 rfl ?_
        refine Y.getR (o := some 10) 3 dX11_settle_79 zl_X11_30 (rfl) (by decide) rfl (zX_0_0 hX).2.1 (zX_0_3 hX).1 ?_
        obtain ⟨E_15, m_16, K⟩ := K
        refine Y.callV (g := zm_X5_mark) (vs := []) (st := []) dX11_settle_82 ⟨zg_X5_mark.1, zg_X5_mark.2.1, zg_X5_mark.2.2, by decide⟩ ⟨zk_X11_320, zv_X5_mark⟩ (ci := 5) (rfl) rfl ((zX_0_3 hX).2.2) rfl rfl (Nat.le_of_ble_eq_true rfl) m_16 (Or.inl rfl) ?_
        show Z zm_X11_settle kz Q 85 [(3, zI x_8), (0, zR 0), (1, zI v1), (2, zR a2)] [] (d, G, E_15)
        refine Z.aload_n (k := 1) dX11_settle_85 rfl ?_
        refine Y.getR (o := some 10) 3 dX11_settle_86 zl_X11_30 (rfl) (by decide) rfl (zX_0_0 hX).2.1 (zX_0_3 hX).1 ?_
        refine Z.aload_n (k := 1) dX11_settle_89 rfl ?_
        refine Y.getR (o := some 1) 0 dX11_settle_90 zl_X11_12 (rfl) (by decide) rfl (zX_0_0 hX).2.1 (zX_0_0 hX).1 ?_
        obtain ⟨x_18, m_19, K⟩ := K
        refine Y.callV (g := zm_X5_isTrivial) (vs := [zR 1]) (st := []) dX11_settle_93 ⟨zg_X5_isTrivial.1, zg_X5_isTrivial.2.1, zg_X5_isTrivial.2.2, by decide⟩ ⟨zk_X11_323, zv_X5_isTrivial⟩ (ci := 5) (rfl) rfl ((zX_0_3 hX).2.2) rfl rfl (Nat.le_of_ble_eq_true rfl) m_19 (Or.inl rfl) ?_
        show Z zm_X11_settle kz Q 96 [(3, zI x_8), (0, zR 0), (1, zI v1), (2, zR a2)] [zI x_18] (d, G, E_15)
        refine Z.if_ne 113 dX11_settle_96 rfl ⟨fun c_21 => ?_, fun c_21 => ?_⟩
        · replace K := K.1 c_21
          refine Z.aload_n (k := 1) dX11_settle_113 rfl ?_
          refine Z.dup_i dX11_settle_114 (fun _ => rfl) ?_
          refine Y.getI 17 dX11_settle_115 zl_X11_112 (rfl) (by decide) rfl (zX_0_0 hX).2.1 ?_
          refine Z.iconst (n := 1) dX11_settle_118 ⟨by decide, by decide⟩ ?_
          obtain ⟨z_22, K⟩ := K
          refine Z.iadd dX11_settle_119 z_22 ?_
          refine Y.putI 17 dX11_settle_120 zw_X11_112 (fun q => by cases q) (rfl) rfl (zX_0_0 hX).2.1 (Or.inl rfl) ?_
          generalize eE_23 : zuE E_15 0 17 (((E_15 0 17) + 1)) = E_23
          replace K := K E_23 eE_23.symm
          refine Z.iconst (n := -1) dX11_settle_123 ⟨by decide, by decide⟩ ?_
          exact Z.iret (ty := .int) dX11_settle_124 rfl rfl K
        · replace K := K.2 c_21
          refine Z.aload_n (k := 1) dX11_settle_99 rfl ?_
          refine Y.getR (o := some 33) 8 dX11_settle_100 zl_X11_67 (rfl) (by decide) rfl (zX_0_0 hX).2.1 (zX_0_8 hX).1 ?_
          refine Z.aload_n (k := 1) dX11_settle_103 rfl ?_
          refine Y.getR (o := some 10) 3 dX11_settle_104 zl_X11_30 (rfl) (by decide) rfl (zX_0_0 hX).2.1 (zX_0_3 hX).1 ?_
          obtain ⟨x_24, E_25, m_26, K⟩ := K
          refine Y.callV (g := zm_X10_isTakenIn) (vs := [zR 10]) (st := []) dX11_settle_107 ⟨zg_X10_isTakenIn.1, zg_X10_isTakenIn.2.1, zg_X10_isTakenIn.2.2, by decide⟩ ⟨zk_X11_327, zv_X10_isTakenIn⟩ (ci := 10) (rfl) rfl ((zX_0_8 hX).2.2) rfl rfl (Nat.le_of_ble_eq_true rfl) m_26 (Or.inl rfl) ?_
          show Z zm_X11_settle kz Q 110 [(3, zI x_8), (0, zR 0), (1, zI v1), (2, zR a2)] [zI x_24] (d, G, E_25)
          refine Z.if_eq 125 dX11_settle_110 rfl ⟨fun c_28 => ?_, fun c_28 => ?_⟩
          · replace K := K.1 c_28
            refine Z.aload_n (k := 1) dX11_settle_125 rfl ?_
            refine Z.aload_n (k := 3) dX11_settle_126 rfl ?_
            obtain ⟨x_29, d_30, G_31, E_32, m_33, z_34, K⟩ := K
            refine Y.callV (g := zm_X11_keep) (vs := [zR a2]) (st := []) dX11_settle_127 ⟨zg_X11_keep.1, zg_X11_keep.2.1, zg_X11_keep.2.2, by decide⟩ ⟨zk_X11_330, zv_X11_keep⟩ (ci := 11) (rfl) rfl ((zX_0_0 hX).2.1) rfl rfl (Nat.le_of_ble_eq_true rfl) m_33 z_34 ?_
            show Z zm_X11_settle kz Q 130 [(3, zI x_8), (0, zR 0), (1, zI v1), (2, zR a2)] [zI x_29] (d_30, G_31, E_32)
            obtain ⟨hm_35, hX_36, K⟩ := K
            exact Z.iret (ty := .int) dX11_settle_130 rfl rfl K
          · replace K := K.2 c_28
            refine Z.aload_n (k := 1) dX11_settle_113 rfl ?_
            refine Z.dup_i dX11_settle_114 (fun _ => rfl) ?_
            refine Y.getI 17 dX11_settle_115 zl_X11_112 (rfl) (by decide) rfl (zX_0_0 hX).2.1 ?_
            refine Z.iconst (n := 1) dX11_settle_118 ⟨by decide, by decide⟩ ?_
            obtain ⟨z_37, K⟩ := K
            refine Z.iadd dX11_settle_119 z_37 ?_
            refine Y.putI 17 dX11_settle_120 zw_X11_112 (fun q => by cases q) (rfl) rfl (zX_0_0 hX).2.1 (Or.inl rfl) ?_
            generalize eE_38 : zuE E_25 0 17 (((E_25 0 17) + 1)) = E_38
            replace K := K E_38 eE_38.symm
            refine Z.iconst (n := -1) dX11_settle_123 ⟨by decide, by decide⟩ ?_
            exact Z.iret (ty := .int) dX11_settle_124 rfl rfl K
      · replace K := K.2 c_14
        refine Z.aload_n (k := 1) dX11_settle_65 rfl ?_
        refine Z.dup_i dX11_settle_66 (fun _ => rfl) ?_
        refine Y.getI 18 dX11_settle_67 zl_X11_115 (rfl) (by decide) rfl (zX_0_0 hX).2.1 ?_
        refine Z.iconst (n := 1) dX11_settle_70 ⟨by decide, by decide⟩ ?_
        obtain ⟨z_39, K⟩ := K
        refine Z.iadd dX11_settle_71 z_39 ?_
        refine Y.putI 18 dX11_settle_72 zw_X11_115 (fun q => by cases q) (rfl) rfl (zX_0_0 hX).2.1 (Or.inl rfl) ?_
        generalize eE_40 : zuE E_13 0 18 (((E_13 0 18) + 1)) = E_40
        replace K := K E_40 eE_40.symm
        refine Z.bipush (n := -99) dX11_settle_75 ⟨by decide, by decide⟩ (by decide) ?_
        exact Z.iret (ty := .int) dX11_settle_77 rfl rfl K
set_option maxRecDepth 20000 in
theorem X11_settle_23 {kz : Nat × Nat} {Q : Option zV → zH → Prop} {d : List Nat} {G : Nat → Int → Option Nat} {E : Nat → Int → Int} {a2 n2 : Nat} (hX : zK zXt d G) (ha2 : a2 ∈ d) (hk2 : zkd a2 = (0, n2)) (K : zin ((E 0 18) + 1) ∧ ∀ E_4, E_4 = zuE E 0 18 (((E 0 18) + 1)) → Q (some (zI ((-99)))) (d, G, E_4)) : Z zm_X11_settle kz Q 23 [(0, zR 0), (2, zR a2)] [] (d, G, E) := by
  refine Z.iconst (n := 0) dX11_settle_23 ⟨by decide, by decide⟩ ?_
  refine Z.istore_n (ls' := [(3, zI 0), (0, zR 0), (2, zR a2)]) dX11_settle_24 (by decide) rfl ?_
  refine Z.iload_n (k := 0) dX11_settle_25 rfl ?_
  refine Z.if_eq 61 dX11_settle_26 rfl ⟨fun _ => ?_, fun c_1 => absurd (by decide) c_1⟩
  refine Z.iload_n (k := 0) dX11_settle_61 rfl ?_
  refine Z.if_ne 78 dX11_settle_62 rfl ⟨fun c_2 => absurd c_2 (by decide), fun _ => ?_⟩
  refine Z.aload_n (k := 1) dX11_settle_65 rfl ?_
  refine Z.dup_i dX11_settle_66 (fun _ => rfl) ?_
  refine Y.getI 18 dX11_settle_67 zl_X11_115 (rfl) (by decide) rfl (zX_0_0 hX).2.1 ?_
  refine Z.iconst (n := 1) dX11_settle_70 ⟨by decide, by decide⟩ ?_
  obtain ⟨z_3, K⟩ := K
  refine Z.iadd dX11_settle_71 z_3 ?_
  refine Y.putI 18 dX11_settle_72 zw_X11_115 (fun q => by cases q) (rfl) rfl (zX_0_0 hX).2.1 (Or.inl rfl) ?_
  generalize eE_4 : zuE E 0 18 (((E 0 18) + 1)) = E_4
  replace K := K E_4 eE_4.symm
  refine Z.bipush (n := -99) dX11_settle_75 ⟨by decide, by decide⟩ (by decide) ?_
  exact Z.iret (ty := .int) dX11_settle_77 rfl rfl K
set_option maxRecDepth 20000 in
theorem X11_given_0 {kz : Nat × Nat} {Q : Option zV → zH → Prop} {d : List Nat} {G : Nat → Int → Option Nat} {E : Nat → Int → Int}  (hX : zK zXt d G) (K : ((E 0 15) = 0 → ((E 5 4) < 150 → ∃ x_3 E_4, zM zm_X11_readDraft [zR 0] (d, G, E) (some (zI x_3)) (d, G, E_4) ∧ ∀ E_7, E_7 = zuE E_4 0 12 0 → (x_3 = (-1) → ∃ E_9, zM zm_X5_copy [zR 14, zR 10] (d, G, E_7) none (d, G, E_9) ∧ ∃ o_12 E_13, zM zm_X0_asGiven [zR 42] (d, G, E_9) (some (zO o_12)) (d, G, E_13) ∧ ∃ x_16 d_17 G_18 E_19, zM zm_X11_settle [zR 0, zI 2, zO o_12] (d, G, E_13) (some (zI x_16)) (d_17, G_18, E_19) ∧ (d_17 = d ∨ d_17.length ≤ kz.1 ∧ zsl d_17 ≤ kz.2) ∧ zK zXt d_17 G_18 ∧ Q (some (zI x_16)) (d_17, G_18, E_19)) ∧ (¬ (x_3 = (-1)) → zin ((-100) - x_3) ∧ Q (some (zI (((-100) - x_3)))) (d, G, E_7))) ∧ (¬ ((E 5 4) < 150) → Q (some (zI ((-4)))) (d, G, E))) ∧ (¬ ((E 0 15) = 0) → Q (some (zI ((-3)))) (d, G, E))) : Z zm_X11_given kz Q 0 [(0, zR 0)] [] (d, G, E) := by
  refine Z.aload_n (k := 0) dX11_given_0 rfl ?_
  refine Y.getI 15 dX11_given_1 zl_X11_106 (rfl) (by decide) rfl (zX_0_0 hX).2.1 ?_
  refine Z.if_eq 10 dX11_given_4 rfl ⟨fun c_1 => ?_, fun c_1 => ?_⟩
  · replace K := K.1 c_1
    refine Z.aload_n (k := 0) dX11_given_10 rfl ?_
    refine Y.getR (o := some 5) 1 dX11_given_11 zl_X11_19 (rfl) (by decide) rfl (zX_0_0 hX).2.1 (zX_0_1 hX).1 ?_
    refine Y.getI 4 dX11_given_14 zl_X11_124 (rfl) (by decide) rfl (zX_0_1 hX).2.2 ?_
    refine Z.sipush (n := 150) dX11_given_17 ⟨by decide, by decide⟩ (by decide) ?_
    refine Z.icmp_lt 26 dX11_given_20 rfl ⟨fun c_2 => ?_, fun c_2 => ?_⟩
    · replace K := K.1 c_2
      refine Z.aload_n (k := 0) dX11_given_26 rfl ?_
      obtain ⟨x_3, E_4, m_5, K⟩ := K
      refine Y.callV (g := zm_X11_readDraft) (vs := []) (st := []) dX11_given_27 ⟨zg_X11_readDraft.1, zg_X11_readDraft.2.1, zg_X11_readDraft.2.2, by decide⟩ ⟨zk_X11_131, zv_X11_readDraft⟩ (ci := 11) (rfl) rfl ((zX_0_0 hX).2.1) rfl rfl (Nat.le_of_ble_eq_true rfl) m_5 (Or.inl rfl) ?_
      show Z zm_X11_given kz Q 30 [(0, zR 0)] [zI x_3] (d, G, E_4)
      refine Z.istore_n (ls' := [(1, zI x_3), (0, zR 0)]) dX11_given_30 (by decide) rfl ?_
      refine Z.aload_n (k := 1) dX11_given_31 rfl ?_
      refine Z.iconst (n := 0) dX11_given_32 ⟨by decide, by decide⟩ ?_
      refine Y.putI 12 dX11_given_33 zw_X11_96 (fun q => by cases q) (rfl) rfl (zX_0_0 hX).2.1 (Or.inl rfl) ?_
      generalize eE_7 : zuE E_4 0 12 0 = E_7
      replace K := K E_7 eE_7.symm
      refine Z.iload_n (k := 0) dX11_given_36 rfl ?_
      refine Z.iconst (n := -1) dX11_given_37 ⟨by decide, by decide⟩ ?_
      refine Z.icmp_eq 46 dX11_given_38 rfl ⟨fun c_8 => ?_, fun c_8 => ?_⟩
      · replace K := K.1 c_8
        refine Z.aload_n (k := 1) dX11_given_46 rfl ?_
        refine Y.getR (o := some 14) 4 dX11_given_47 zl_X11_34 (rfl) (by decide) rfl (zX_0_0 hX).2.1 (zX_0_4 hX).1 ?_
        refine Z.aload_n (k := 1) dX11_given_50 rfl ?_
        refine Y.getR (o := some 10) 3 dX11_given_51 zl_X11_30 (rfl) (by decide) rfl (zX_0_0 hX).2.1 (zX_0_3 hX).1 ?_
        obtain ⟨E_9, m_10, K⟩ := K
        refine Y.callV (g := zm_X5_copy) (vs := [zR 10]) (st := []) dX11_given_54 ⟨zg_X5_copy.1, zg_X5_copy.2.1, zg_X5_copy.2.2, by decide⟩ ⟨zk_X11_135, zv_X5_copy⟩ (ci := 5) (rfl) rfl ((zX_0_4 hX).2.2) rfl rfl (Nat.le_of_ble_eq_true rfl) m_10 (Or.inl rfl) ?_
        show Z zm_X11_given kz Q 57 [(1, zI x_3), (0, zR 0)] [] (d, G, E_9)
        refine Z.aload_n (k := 1) dX11_given_57 rfl ?_
        refine Z.iconst (n := 2) dX11_given_58 ⟨by decide, by decide⟩ ?_
        refine Z.aload_n (k := 1) dX11_given_59 rfl ?_
        refine Y.getR (o := some 42) 11 dX11_given_60 zl_X11_92 (rfl) (by decide) rfl (zX_0_0 hX).2.1 (zX_0_11 hX).1 ?_
        obtain ⟨o_12, E_13, m_14, K⟩ := K
        refine Y.callV (g := zm_X0_asGiven) (vs := []) (st := [zI 2, zR 0]) dX11_given_63 ⟨zg_X0_asGiven.1, zg_X0_asGiven.2.1, zg_X0_asGiven.2.2, by decide⟩ ⟨zk_X11_139, zv_X0_asGiven⟩ (ci := 0) (rfl) rfl ((zX_0_11 hX).2.2) rfl rfl (Nat.le_of_ble_eq_true rfl) m_14 (Or.inl rfl) ?_
        show Z zm_X11_given kz Q 66 [(1, zI x_3), (0, zR 0)] [zO o_12, zI 2, zR 0] (d, G, E_13)
        obtain ⟨x_16, d_17, G_18, E_19, m_20, z_21, K⟩ := K
        refine Y.callV (g := zm_X11_settle) (vs := [zI 2, zO o_12]) (st := []) dX11_given_66 ⟨zg_X11_settle.1, zg_X11_settle.2.1, zg_X11_settle.2.2, by decide⟩ ⟨zk_X11_143, zv_X11_settle⟩ (ci := 11) (rfl) rfl ((zX_0_0 hX).2.1) rfl rfl (Nat.le_of_ble_eq_true rfl) m_20 z_21 ?_
        show Z zm_X11_given kz Q 69 [(1, zI x_3), (0, zR 0)] [zI x_16] (d_17, G_18, E_19)
        obtain ⟨hX_22, K⟩ := K
        exact Z.iret (ty := .int) dX11_given_69 rfl rfl K
      · replace K := K.2 c_8
        refine Z.bipush (n := -100) dX11_given_41 ⟨by decide, by decide⟩ (by decide) ?_
        refine Z.iload_n (k := 0) dX11_given_43 rfl ?_
        obtain ⟨z_23, K⟩ := K
        refine Z.isub dX11_given_44 z_23 ?_
        exact Z.iret (ty := .int) dX11_given_45 rfl rfl K
    · replace K := K.2 c_2
      refine Z.bipush (n := -4) dX11_given_23 ⟨by decide, by decide⟩ (by decide) ?_
      exact Z.iret (ty := .int) dX11_given_25 rfl rfl K
  · replace K := K.2 c_1
    refine Z.bipush (n := -3) dX11_given_7 ⟨by decide, by decide⟩ (by decide) ?_
    exact Z.iret (ty := .int) dX11_given_9 rfl rfl K
set_option maxRecDepth 20000 in
theorem X11_wipe_0 {kz : Nat × Nat} {Q : Option zV → zH → Prop} {d : List Nat} {G : Nat → Int → Option Nat} {E : Nat → Int → Int}  (hX : zK zXt d G) (K : ∀ E_1, E_1 = zuE E 0 12 0 → Q (some (zI ((E 0 12)))) (d, G, E_1)) : Z zm_X11_wipe kz Q 0 [(0, zR 0)] [] (d, G, E) := by
  refine Z.aload_n (k := 0) dX11_wipe_0 rfl ?_
  refine Y.getI 12 dX11_wipe_1 zl_X11_96 (rfl) (by decide) rfl (zX_0_0 hX).2.1 ?_
  refine Z.istore_n (ls' := [(1, zI ((E 0 12))), (0, zR 0)]) dX11_wipe_4 (by decide) rfl ?_
  refine Z.aload_n (k := 1) dX11_wipe_5 rfl ?_
  refine Z.iconst (n := 0) dX11_wipe_6 ⟨by decide, by decide⟩ ?_
  refine Y.putI 12 dX11_wipe_7 zw_X11_96 (fun q => by cases q) (rfl) rfl (zX_0_0 hX).2.1 (Or.inl rfl) ?_
  generalize eE_1 : zuE E 0 12 0 = E_1
  replace K := K E_1 eE_1.symm
  refine Z.iload_n (k := 0) dX11_wipe_10 rfl ?_
  exact Z.iret (ty := .int) dX11_wipe_11 rfl rfl K
set_option maxRecDepth 20000 in
theorem X11_turns_0 {kz : Nat × Nat} {Q : Option zV → zH → Prop} {d : List Nat} {G : Nat → Int → Option Nat} {E : Nat → Int → Int} {v1 : Int} (hX : zK zXt d G) (K : (v1 < 0 → Q (some (zI ((-2)))) (d, G, E)) ∧ (¬ (v1 < 0) → (v1 ≤ 20 → ∀ E_3, E_3 = zuE E 0 13 v1 → Q (some (zI ((E 0 13)))) (d, G, E_3)) ∧ (¬ (v1 ≤ 20) → Q (some (zI ((-2)))) (d, G, E)))) : Z zm_X11_turns kz Q 0 [(0, zR 0), (1, zI v1)] [] (d, G, E) := by
  refine Z.iload_n (k := 1) dX11_turns_0 rfl ?_
  refine Z.if_lt 10 dX11_turns_1 rfl ⟨fun c_1 => ?_, fun c_1 => ?_⟩
  · replace K := K.1 c_1
    refine Z.bipush (n := -2) dX11_turns_10 ⟨by decide, by decide⟩ (by decide) ?_
    exact Z.iret (ty := .int) dX11_turns_12 rfl rfl K
  · replace K := K.2 c_1
    refine Z.iload_n (k := 1) dX11_turns_4 rfl ?_
    refine Z.bipush (n := 20) dX11_turns_5 ⟨by decide, by decide⟩ (by decide) ?_
    refine Z.icmp_le 13 dX11_turns_7 rfl ⟨fun c_2 => ?_, fun c_2 => ?_⟩
    · replace K := K.1 c_2
      refine Z.aload_n (k := 0) dX11_turns_13 rfl ?_
      refine Y.getI 13 dX11_turns_14 zl_X11_100 (rfl) (by decide) rfl (zX_0_0 hX).2.1 ?_
      refine Z.istore_n (ls' := [(2, zI ((E 0 13))), (0, zR 0), (1, zI v1)]) dX11_turns_17 (by decide) rfl ?_
      refine Z.aload_n (k := 1) dX11_turns_18 rfl ?_
      refine Z.iload_n (k := 2) dX11_turns_19 rfl ?_
      refine Y.putI 13 dX11_turns_20 zw_X11_100 (fun q => by cases q) (rfl) rfl (zX_0_0 hX).2.1 (Or.inl rfl) ?_
      generalize eE_3 : zuE E 0 13 v1 = E_3
      replace K := K E_3 eE_3.symm
      refine Z.iload_n (k := 0) dX11_turns_23 rfl ?_
      exact Z.iret (ty := .int) dX11_turns_24 rfl rfl K
    · replace K := K.2 c_2
      refine Z.bipush (n := -2) dX11_turns_10 ⟨by decide, by decide⟩ (by decide) ?_
      exact Z.iret (ty := .int) dX11_turns_12 rfl rfl K
set_option maxRecDepth 20000 in
theorem X11_fuel_0 {kz : Nat × Nat} {Q : Option zV → zH → Prop} {d : List Nat} {G : Nat → Int → Option Nat} {E : Nat → Int → Int} {v1 : Int} (hX : zK zXt d G) (K : (v1 < 0 → Q (some (zI ((-2)))) (d, G, E)) ∧ (¬ (v1 < 0) → (v1 ≤ 4000 → ∀ E_3, E_3 = zuE E 0 14 v1 → Q (some (zI ((E 0 14)))) (d, G, E_3)) ∧ (¬ (v1 ≤ 4000) → Q (some (zI ((-2)))) (d, G, E)))) : Z zm_X11_fuel kz Q 0 [(0, zR 0), (1, zI v1)] [] (d, G, E) := by
  refine Z.iload_n (k := 1) dX11_fuel_0 rfl ?_
  refine Z.if_lt 11 dX11_fuel_1 rfl ⟨fun c_1 => ?_, fun c_1 => ?_⟩
  · replace K := K.1 c_1
    refine Z.bipush (n := -2) dX11_fuel_11 ⟨by decide, by decide⟩ (by decide) ?_
    exact Z.iret (ty := .int) dX11_fuel_13 rfl rfl K
  · replace K := K.2 c_1
    refine Z.iload_n (k := 1) dX11_fuel_4 rfl ?_
    refine Z.sipush (n := 4000) dX11_fuel_5 ⟨by decide, by decide⟩ (by decide) ?_
    refine Z.icmp_le 14 dX11_fuel_8 rfl ⟨fun c_2 => ?_, fun c_2 => ?_⟩
    · replace K := K.1 c_2
      refine Z.aload_n (k := 0) dX11_fuel_14 rfl ?_
      refine Y.getI 14 dX11_fuel_15 zl_X11_103 (rfl) (by decide) rfl (zX_0_0 hX).2.1 ?_
      refine Z.istore_n (ls' := [(2, zI ((E 0 14))), (0, zR 0), (1, zI v1)]) dX11_fuel_18 (by decide) rfl ?_
      refine Z.aload_n (k := 1) dX11_fuel_19 rfl ?_
      refine Z.iload_n (k := 2) dX11_fuel_20 rfl ?_
      refine Y.putI 14 dX11_fuel_21 zw_X11_103 (fun q => by cases q) (rfl) rfl (zX_0_0 hX).2.1 (Or.inl rfl) ?_
      generalize eE_3 : zuE E 0 14 v1 = E_3
      replace K := K E_3 eE_3.symm
      refine Z.iload_n (k := 0) dX11_fuel_24 rfl ?_
      exact Z.iret (ty := .int) dX11_fuel_25 rfl rfl K
    · replace K := K.2 c_2
      refine Z.bipush (n := -2) dX11_fuel_11 ⟨by decide, by decide⟩ (by decide) ?_
      exact Z.iret (ty := .int) dX11_fuel_13 rfl rfl K
set_option maxRecDepth 20000 in
theorem X11_pick_0 {kz : Nat × Nat} {Q : Option zV → zH → Prop} {d : List Nat} {G : Nat → Int → Option Nat} {E : Nat → Int → Int}  (hX : zK zXt d G) (K : zin ((E 0 16) + 1) ∧ zin ((E 0 13) + 1) ∧ (0 : Int) ≤ ((E 0 16) + 1) ∧ (0 : Int) < ((E 0 13) + 1) ∧ ((((E 0 16) + 1) % ((E 0 13) + 1)) ≠ 0 → Z zm_X11_pick kz Q 26 [(0, zR 0), (1, zI 0), (2, zO none), (3, zI 0)] [] (d, G, E)) ∧ (¬ ((((E 0 16) + 1) % ((E 0 13) + 1)) ≠ 0) → Z zm_X11_pick kz Q 26 [(0, zR 0), (1, zI 1), (2, zO none), (3, zI 0)] [] (d, G, E))) : Z zm_X11_pick kz Q 0 [(0, zR 0)] [] (d, G, E) := by
  refine Z.aload_n (k := 0) dX11_pick_0 rfl ?_
  refine Y.getI 16 dX11_pick_1 zl_X11_109 (rfl) (by decide) rfl (zX_0_0 hX).2.1 ?_
  refine Z.iconst (n := 1) dX11_pick_4 ⟨by decide, by decide⟩ ?_
  obtain ⟨z_1, K⟩ := K
  refine Z.iadd dX11_pick_5 z_1 ?_
  refine Z.aload_n (k := 0) dX11_pick_6 rfl ?_
  refine Y.getI 13 dX11_pick_7 zl_X11_100 (rfl) (by decide) rfl (zX_0_0 hX).2.1 ?_
  refine Z.iconst (n := 1) dX11_pick_10 ⟨by decide, by decide⟩ ?_
  obtain ⟨z_2, K⟩ := K
  refine Z.iadd dX11_pick_11 z_2 ?_
  obtain ⟨z_3, z_4, K⟩ := K
  refine Z.irem dX11_pick_12 z_3 z_4 ?_
  refine Z.if_ne 20 dX11_pick_13 rfl ⟨fun c_5 => ?_, fun c_5 => ?_⟩
  · replace K := K.1 c_5
    refine Z.iconst (n := 0) dX11_pick_20 ⟨by decide, by decide⟩ ?_
    refine Z.istore_n (ls' := [(1, zI 0), (0, zR 0)]) dX11_pick_21 (by decide) rfl ?_
    refine Z.null dX11_pick_22 ?_
    refine Z.astore_n (ls' := [(2, zO none), (1, zI 0), (0, zR 0)]) dX11_pick_23 (by decide) rfl ?_
    refine Z.iconst (n := 0) dX11_pick_24 ⟨by decide, by decide⟩ ?_
    refine Z.istore_n (ls' := [(3, zI 0), (2, zO none), (1, zI 0), (0, zR 0)]) dX11_pick_25 (by decide) rfl ?_
    refine Z.pick (ls' := [(0, zR 0), (1, zI 0), (2, zO none), (3, zI 0)]) [3, 2, 1, 0] rfl ?_
    exact K
  · replace K := K.2 c_5
    refine Z.iconst (n := 1) dX11_pick_16 ⟨by decide, by decide⟩ ?_
    refine Z.goto 21 dX11_pick_17 rfl ?_
    refine Z.istore_n (ls' := [(1, zI 1), (0, zR 0)]) dX11_pick_21 (by decide) rfl ?_
    refine Z.null dX11_pick_22 ?_
    refine Z.astore_n (ls' := [(2, zO none), (1, zI 1), (0, zR 0)]) dX11_pick_23 (by decide) rfl ?_
    refine Z.iconst (n := 0) dX11_pick_24 ⟨by decide, by decide⟩ ?_
    refine Z.istore_n (ls' := [(3, zI 0), (2, zO none), (1, zI 1), (0, zR 0)]) dX11_pick_25 (by decide) rfl ?_
    refine Z.pick (ls' := [(0, zR 0), (1, zI 1), (2, zO none), (3, zI 0)]) [3, 2, 1, 0] rfl ?_
    exact K
set_option maxRecDepth 20000 in
theorem X11_pick_26 {kz : Nat × Nat} {Q : Option zV → zH → Prop} {d : List Nat} {G : Nat → Int → Option Nat} {E : Nat → Int → Int} {v1 : Int} {o2 : Option Nat} {v3 : Int} (hX : zK zXt d G) (K : ((E 5 4) ≤ v3 → (o2 ≠ none → ∃ b_3, o2 = some b_3 ∧ zCk d G b_3 ∧ ∀ E_6, E_6 = zuE E b_3 6 1 → zin ((E_6 0 16) + 1) ∧ ∀ E_8, E_8 = zuE E_6 0 16 (((E_6 0 16) + 1)) → Q (some (zR b_3)) (d, G, E_8)) ∧ (¬ (o2 ≠ none) → ∀ E_9, E_9 = zuE E 0 15 2 → Q (some (zO o2)) (d, G, E_9))) ∧ (¬ ((E 5 4) ≤ v3) → ∃ o_10, zM zm_X7_at [zR 5, zI v3] (d, G, E) (some (zO o_10)) (d, G, E) ∧ (o_10 = none → zin (v3 + 1) ∧ Z zm_X11_pick kz Q 26 [(0, zR 0), (1, zI v1), (2, zO o2), (3, zI ((v3 + 1)))] [] (d, G, E)) ∧ (¬ (o_10 = none) → ∃ b_15, o_10 = some b_15 ∧ zCk d G b_15 ∧ ((E b_15 6) ≠ 0 → zin (v3 + 1) ∧ Z zm_X11_pick kz Q 26 [(0, zR 0), (1, zI v1), (2, zO o2), (3, zI ((v3 + 1)))] [] (d, G, E)) ∧ (¬ ((E b_15 6) ≠ 0) → (o2 = none → zin (v3 + 1) ∧ Z zm_X11_pick kz Q 26 [(0, zR 0), (1, zI v1), (2, zR b_15), (3, zI ((v3 + 1)))] [] (d, G, E)) ∧ (¬ (o2 = none) → (v1 ≠ 0 → zin (v3 + 1) ∧ Z zm_X11_pick kz Q 26 [(0, zR 0), (1, zI v1), (2, zO o2), (3, zI ((v3 + 1)))] [] (d, G, E)) ∧ (¬ (v1 ≠ 0) → ∃ b_24, o2 = some b_24 ∧ zCk d G b_24 ∧ ((E b_24 8) ≤ (E b_15 8) → zin (v3 + 1) ∧ Z zm_X11_pick kz Q 26 [(0, zR 0), (1, zI v1), (2, zR b_24), (3, zI ((v3 + 1)))] [] (d, G, E)) ∧ (¬ ((E b_24 8) ≤ (E b_15 8)) → zin (v3 + 1) ∧ Z zm_X11_pick kz Q 26 [(0, zR 0), (1, zI v1), (2, zR b_15), (3, zI ((v3 + 1)))] [] (d, G, E)))))))) : Z zm_X11_pick kz Q 26 [(0, zR 0), (1, zI v1), (2, zO o2), (3, zI v3)] [] (d, G, E) := by
  refine Z.iload_n (k := 3) dX11_pick_26 rfl ?_
  refine Z.aload_n (k := 0) dX11_pick_27 rfl ?_
  refine Y.getR (o := some 5) 1 dX11_pick_28 zl_X11_19 (rfl) (by decide) rfl (zX_0_0 hX).2.1 (zX_0_1 hX).1 ?_
  refine Y.getI 4 dX11_pick_31 zl_X11_124 (rfl) (by decide) rfl (zX_0_1 hX).2.2 ?_
  refine Z.icmp_ge 89 dX11_pick_34 rfl ⟨fun c_1 => ?_, fun c_1 => ?_⟩
  · replace K := K.1 c_1
    refine Z.aload_n (k := 2) dX11_pick_89 rfl ?_
    refine Z.ifnonnull 101 dX11_pick_90 rfl ⟨fun c_2 => ?_, fun c_2 => ?_⟩
    · replace K := K.1 c_2
      refine Z.aload_n (k := 2) dX11_pick_101 rfl ?_
      refine Z.iconst (n := 1) dX11_pick_102 ⟨by decide, by decide⟩ ?_
      obtain ⟨b_3, e_4, hc_5, K⟩ := K
      rw [e_4]
      refine Y.putI 6 dX11_pick_103 zw_X11_185 (fun q => by cases q) (congrArg Prod.fst hc_5.1) rfl hc_5.2.1 (Or.inl rfl) ?_
      generalize eE_6 : zuE E b_3 6 1 = E_6
      replace K := K E_6 eE_6.symm
      refine Z.aload_n (k := 0) dX11_pick_106 rfl ?_
      refine Z.dup_i dX11_pick_107 (fun _ => rfl) ?_
      refine Y.getI 16 dX11_pick_108 zl_X11_109 (rfl) (by decide) rfl (zX_0_0 hX).2.1 ?_
      refine Z.iconst (n := 1) dX11_pick_111 ⟨by decide, by decide⟩ ?_
      obtain ⟨z_7, K⟩ := K
      refine Z.iadd dX11_pick_112 z_7 ?_
      refine Y.putI 16 dX11_pick_113 zw_X11_109 (fun q => by cases q) (rfl) rfl (zX_0_0 hX).2.1 (Or.inl rfl) ?_
      generalize eE_8 : zuE E_6 0 16 (((E_6 0 16) + 1)) = E_8
      replace K := K E_8 eE_8.symm
      refine Z.aload_n (k := 2) dX11_pick_116 rfl ?_
      exact Z.aret dX11_pick_117 rfl (Or.inl ⟨_, rfl⟩) K
    · replace K := K.2 c_2
      refine Z.aload_n (k := 0) dX11_pick_93 rfl ?_
      refine Z.iconst (n := 2) dX11_pick_94 ⟨by decide, by decide⟩ ?_
      refine Y.putI 15 dX11_pick_95 zw_X11_106 (fun q => by cases q) (rfl) rfl (zX_0_0 hX).2.1 (Or.inl rfl) ?_
      generalize eE_9 : zuE E 0 15 2 = E_9
      replace K := K E_9 eE_9.symm
      refine Z.goto 116 dX11_pick_98 rfl ?_
      refine Z.aload_n (k := 2) dX11_pick_116 rfl ?_
      exact Z.aret dX11_pick_117 rfl (Or.inl ⟨_, rfl⟩) K
  · replace K := K.2 c_1
    refine Z.aload_n (k := 0) dX11_pick_37 rfl ?_
    refine Y.getR (o := some 5) 1 dX11_pick_38 zl_X11_19 (rfl) (by decide) rfl (zX_0_0 hX).2.1 (zX_0_1 hX).1 ?_
    refine Z.iload_n (k := 3) dX11_pick_41 rfl ?_
    obtain ⟨o_10, m_11, K⟩ := K
    refine Y.callV (g := zm_X7_at) (vs := [zI v3]) (st := []) dX11_pick_42 ⟨zg_X7_at.1, zg_X7_at.2.1, zg_X7_at.2.2, by decide⟩ ⟨zk_X11_170, zv_X7_at⟩ (ci := 7) (rfl) rfl ((zX_0_1 hX).2.2) rfl rfl (Nat.le_of_ble_eq_true rfl) m_11 (Or.inl rfl) ?_
    show Z zm_X11_pick kz Q 45 [(0, zR 0), (1, zI v1), (2, zO o2), (3, zI v3)] [zO o_10] (d, G, E)
    refine Z.astore (ls' := [(4, zO o_10), (0, zR 0), (1, zI v1), (2, zO o2), (3, zI v3)]) dX11_pick_45 (by decide) rfl ?_
    refine Z.aload (k := 0) dX11_pick_47 rfl ?_
    refine Z.ifnull 83 dX11_pick_49 rfl ⟨fun c_13 => ?_, fun c_13 => ?_⟩
    · replace K := K.1 c_13
      obtain ⟨z_14, K⟩ := K
      refine Z.iinc (k := 4) (ls' := [(3, zI ((v3 + 1))), (4, zO o_10), (0, zR 0), (1, zI v1), (2, zO o2)]) dX11_pick_83 rfl (by decide) z_14 rfl ?_
      refine Z.goto 26 dX11_pick_86 rfl ?_
      refine Z.pick (ls' := [(0, zR 0), (1, zI v1), (2, zO o2), (3, zI ((v3 + 1)))]) [2, 3, 4, 0] rfl ?_
      exact K
    · replace K := K.2 c_13
      refine Z.aload (k := 0) dX11_pick_52 rfl ?_
      obtain ⟨b_15, e_16, hc_17, K⟩ := K
      rw [e_16]
      refine Y.getI 6 dX11_pick_54 zl_X11_185 (congrArg Prod.fst hc_17.1) (by decide) rfl hc_17.2.1 ?_
      refine Z.if_ne 83 dX11_pick_57 rfl ⟨fun c_18 => ?_, fun c_18 => ?_⟩
      · replace K := K.1 c_18
        obtain ⟨z_19, K⟩ := K
        refine Z.iinc (k := 4) (ls' := [(3, zI ((v3 + 1))), (4, zR b_15), (0, zR 0), (1, zI v1), (2, zO o2)]) dX11_pick_83 rfl (by decide) z_19 rfl ?_
        refine Z.goto 26 dX11_pick_86 rfl ?_
        refine Z.pick (ls' := [(0, zR 0), (1, zI v1), (2, zO o2), (3, zI ((v3 + 1)))]) [2, 3, 4, 0] rfl ?_
        exact K
      · replace K := K.2 c_18
        refine Z.aload_n (k := 3) dX11_pick_60 rfl ?_
        refine Z.ifnull 80 dX11_pick_61 rfl ⟨fun c_20 => ?_, fun c_20 => ?_⟩
        · replace K := K.1 c_20
          refine Z.aload (k := 0) dX11_pick_80 rfl ?_
          refine Z.astore_n (ls' := [(2, zR b_15), (4, zR b_15), (0, zR 0), (1, zI v1), (3, zI v3)]) dX11_pick_82 (by decide) rfl ?_
          obtain ⟨z_21, K⟩ := K
          refine Z.iinc (k := 4) (ls' := [(3, zI ((v3 + 1))), (2, zR b_15), (4, zR b_15), (0, zR 0), (1, zI v1)]) dX11_pick_83 rfl (by decide) z_21 rfl ?_
          refine Z.goto 26 dX11_pick_86 rfl ?_
          refine Z.pick (ls' := [(0, zR 0), (1, zI v1), (2, zR b_15), (3, zI ((v3 + 1)))]) [3, 4, 1, 0] rfl ?_
          exact K
        · replace K := K.2 c_20
          refine Z.iload_n (k := 2) dX11_pick_64 rfl ?_
          refine Z.if_ne 83 dX11_pick_65 rfl ⟨fun c_22 => ?_, fun c_22 => ?_⟩
          · replace K := K.1 c_22
            obtain ⟨z_23, K⟩ := K
            refine Z.iinc (k := 4) (ls' := [(3, zI ((v3 + 1))), (4, zR b_15), (0, zR 0), (1, zI v1), (2, zO o2)]) dX11_pick_83 rfl (by decide) z_23 rfl ?_
            refine Z.goto 26 dX11_pick_86 rfl ?_
            refine Z.pick (ls' := [(0, zR 0), (1, zI v1), (2, zO o2), (3, zI ((v3 + 1)))]) [2, 3, 4, 0] rfl ?_
            exact K
          · replace K := K.2 c_22
            refine Z.aload (k := 0) dX11_pick_68 rfl ?_
            refine Y.getI 8 dX11_pick_70 zl_X11_182 (congrArg Prod.fst hc_17.1) (by decide) rfl hc_17.2.1 ?_
            refine Z.aload_n (k := 3) dX11_pick_73 rfl ?_
            obtain ⟨b_24, e_25, hc_26, K⟩ := K
            rw [e_25]
            refine Y.getI 8 dX11_pick_74 zl_X11_182 (congrArg Prod.fst hc_26.1) (by decide) rfl hc_26.2.1 ?_
            refine Z.icmp_ge 83 dX11_pick_77 rfl ⟨fun c_27 => ?_, fun c_27 => ?_⟩
            · replace K := K.1 c_27
              obtain ⟨z_28, K⟩ := K
              refine Z.iinc (k := 4) (ls' := [(3, zI ((v3 + 1))), (4, zR b_15), (0, zR 0), (1, zI v1), (2, zR b_24)]) dX11_pick_83 rfl (by decide) z_28 rfl ?_
              refine Z.goto 26 dX11_pick_86 rfl ?_
              refine Z.pick (ls' := [(0, zR 0), (1, zI v1), (2, zR b_24), (3, zI ((v3 + 1)))]) [2, 3, 4, 0] rfl ?_
              exact K
            · replace K := K.2 c_27
              refine Z.aload (k := 0) dX11_pick_80 rfl ?_
              refine Z.astore_n (ls' := [(2, zR b_15), (4, zR b_15), (0, zR 0), (1, zI v1), (3, zI v3)]) dX11_pick_82 (by decide) rfl ?_
              obtain ⟨z_29, K⟩ := K
              refine Z.iinc (k := 4) (ls' := [(3, zI ((v3 + 1))), (2, zR b_15), (4, zR b_15), (0, zR 0), (1, zI v1)]) dX11_pick_83 rfl (by decide) z_29 rfl ?_
              refine Z.goto 26 dX11_pick_86 rfl ?_
              refine Z.pick (ls' := [(0, zR 0), (1, zI v1), (2, zR b_15), (3, zI ((v3 + 1)))]) [3, 4, 1, 0] rfl ?_
              exact K
set_option maxRecDepth 20000 in
theorem X11_hasFuel_0 {kz : Nat × Nat} {Q : Option zV → zH → Prop} {d : List Nat} {G : Nat → Int → Option Nat} {E : Nat → Int → Int}  (hX : zK zXt d G) (K : zin ((E 0 19) + (E 0 20)) ∧ ((E 0 14) ≤ ((E 0 19) + (E 0 20)) → ∀ E_3, E_3 = zuE E 0 15 3 → Q (some (zI 0)) (d, G, E_3)) ∧ (¬ ((E 0 14) ≤ ((E 0 19) + (E 0 20))) → Q (some (zI 1)) (d, G, E))) : Z zm_X11_hasFuel kz Q 0 [(0, zR 0)] [] (d, G, E) := by
  refine Z.aload_n (k := 0) dX11_hasFuel_0 rfl ?_
  refine Y.getI 14 dX11_hasFuel_1 zl_X11_103 (rfl) (by decide) rfl (zX_0_0 hX).2.1 ?_
  refine Z.aload_n (k := 0) dX11_hasFuel_4 rfl ?_
  refine Y.getI 19 dX11_hasFuel_5 zl_X11_118 (rfl) (by decide) rfl (zX_0_0 hX).2.1 ?_
  refine Z.aload_n (k := 0) dX11_hasFuel_8 rfl ?_
  refine Y.getI 20 dX11_hasFuel_9 zl_X11_121 (rfl) (by decide) rfl (zX_0_0 hX).2.1 ?_
  obtain ⟨z_1, K⟩ := K
  refine Z.iadd dX11_hasFuel_12 z_1 ?_
  refine Z.icmp_le 18 dX11_hasFuel_13 rfl ⟨fun c_2 => ?_, fun c_2 => ?_⟩
  · replace K := K.1 c_2
    refine Z.aload_n (k := 0) dX11_hasFuel_18 rfl ?_
    refine Z.iconst (n := 3) dX11_hasFuel_19 ⟨by decide, by decide⟩ ?_
    refine Y.putI 15 dX11_hasFuel_20 zw_X11_106 (fun q => by cases q) (rfl) rfl (zX_0_0 hX).2.1 (Or.inl rfl) ?_
    generalize eE_3 : zuE E 0 15 3 = E_3
    replace K := K E_3 eE_3.symm
    refine Z.iconst (n := 0) dX11_hasFuel_23 ⟨by decide, by decide⟩ ?_
    exact Z.iret (ty := .boolean) dX11_hasFuel_24 rfl rfl K
  · replace K := K.2 c_2
    refine Z.iconst (n := 1) dX11_hasFuel_16 ⟨by decide, by decide⟩ ?_
    exact Z.iret (ty := .boolean) dX11_hasFuel_17 rfl rfl K
set_option maxRecDepth 20000 in
theorem X11_run_0 {kz : Nat × Nat} {Q : Option zV → zH → Prop} {d : List Nat} {G : Nat → Int → Option Nat} {E : Nat → Int → Int} {v1 : Int} (hX : zK zXt d G) (K : (v1 < 1 → Q (some (zI ((-2)))) (d, G, E)) ∧ (¬ (v1 < 1) → (v1 ≤ 200 → Z zm_X11_run kz Q 17 [(0, zR 0), (1, zI v1), (2, zI 0)] [] (d, G, E)) ∧ (¬ (v1 ≤ 200) → Q (some (zI ((-2)))) (d, G, E)))) : Z zm_X11_run kz Q 0 [(0, zR 0), (1, zI v1)] [] (d, G, E) := by
  refine Z.iload_n (k := 1) dX11_run_0 rfl ?_
  refine Z.iconst (n := 1) dX11_run_1 ⟨by decide, by decide⟩ ?_
  refine Z.icmp_lt 12 dX11_run_2 rfl ⟨fun c_1 => ?_, fun c_1 => ?_⟩
  · replace K := K.1 c_1
    refine Z.bipush (n := -2) dX11_run_12 ⟨by decide, by decide⟩ (by decide) ?_
    exact Z.iret (ty := .int) dX11_run_14 rfl rfl K
  · replace K := K.2 c_1
    refine Z.iload_n (k := 1) dX11_run_5 rfl ?_
    refine Z.sipush (n := 200) dX11_run_6 ⟨by decide, by decide⟩ (by decide) ?_
    refine Z.icmp_le 15 dX11_run_9 rfl ⟨fun c_2 => ?_, fun c_2 => ?_⟩
    · replace K := K.1 c_2
      refine Z.iconst (n := 0) dX11_run_15 ⟨by decide, by decide⟩ ?_
      refine Z.istore_n (ls' := [(2, zI 0), (0, zR 0), (1, zI v1)]) dX11_run_16 (by decide) rfl ?_
      refine Z.pick (ls' := [(0, zR 0), (1, zI v1), (2, zI 0)]) [1, 2, 0] rfl ?_
      exact K
    · replace K := K.2 c_2
      refine Z.bipush (n := -2) dX11_run_12 ⟨by decide, by decide⟩ (by decide) ?_
      exact Z.iret (ty := .int) dX11_run_14 rfl rfl K
set_option maxRecDepth 20000 in
theorem X11_run_17 {kz : Nat × Nat} {Q : Option zV → zH → Prop} {d : List Nat} {G : Nat → Int → Option Nat} {E : Nat → Int → Int} {v1 : Int} {v2 : Int} (hX : zK zXt d G) (K : (v1 ≤ v2 → Q (some (zI ((E 0 15)))) (d, G, E)) ∧ (¬ (v1 ≤ v2) → ((E 0 15) ≠ 0 → Q (some (zI ((E 0 15)))) (d, G, E)) ∧ (¬ ((E 0 15) ≠ 0) → ∃ o_3 E_4, zM zm_X11_pick [zR 0] (d, G, E) (some (zO o_3)) (d, G, E_4) ∧ ∃ G_7 E_8, zM zm_X0_begin [zR 42, zO o_3] (d, G, E_4) none (d, G_7, E_8) ∧ zK zXt d G_7 ∧ Z zm_X11_run kz Q 42 [(0, zR 0), (1, zI v1), (2, zI v2), (3, zI 0)] [] (d, G_7, E_8)))) : Z zm_X11_run kz Q 17 [(0, zR 0), (1, zI v1), (2, zI v2)] [] (d, G, E) := by
  refine Z.iload_n (k := 2) dX11_run_17 rfl ?_
  refine Z.iload_n (k := 1) dX11_run_18 rfl ?_
  refine Z.icmp_ge 140 dX11_run_19 rfl ⟨fun c_1 => ?_, fun c_1 => ?_⟩
  · replace K := K.1 c_1
    refine Z.aload_n (k := 0) dX11_run_140 rfl ?_
    refine Y.getI 15 dX11_run_141 zl_X11_106 (rfl) (by decide) rfl (zX_0_0 hX).2.1 ?_
    exact Z.iret (ty := .int) dX11_run_144 rfl rfl K
  · replace K := K.2 c_1
    refine Z.aload_n (k := 0) dX11_run_22 rfl ?_
    refine Y.getI 15 dX11_run_23 zl_X11_106 (rfl) (by decide) rfl (zX_0_0 hX).2.1 ?_
    refine Z.if_ne 140 dX11_run_26 rfl ⟨fun c_2 => ?_, fun c_2 => ?_⟩
    · replace K := K.1 c_2
      refine Z.aload_n (k := 0) dX11_run_140 rfl ?_
      refine Y.getI 15 dX11_run_141 zl_X11_106 (rfl) (by decide) rfl (zX_0_0 hX).2.1 ?_
      exact Z.iret (ty := .int) dX11_run_144 rfl rfl K
    · replace K := K.2 c_2
      refine Z.aload_n (k := 0) dX11_run_29 rfl ?_
      refine Y.getR (o := some 42) 11 dX11_run_30 zl_X11_92 (rfl) (by decide) rfl (zX_0_0 hX).2.1 (zX_0_11 hX).1 ?_
      refine Z.aload_n (k := 0) dX11_run_33 rfl ?_
      obtain ⟨o_3, E_4, m_5, K⟩ := K
      refine Y.callV (g := zm_X11_pick) (vs := []) (st := [zR 42]) dX11_run_34 ⟨zg_X11_pick.1, zg_X11_pick.2.1, zg_X11_pick.2.2, by decide⟩ ⟨zk_X11_147, zv_X11_pick⟩ (ci := 11) (rfl) rfl ((zX_0_0 hX).2.1) rfl rfl (Nat.le_of_ble_eq_true rfl) m_5 (Or.inl rfl) ?_
      show Z zm_X11_run kz Q 37 [(0, zR 0), (1, zI v1), (2, zI v2)] [zO o_3, zR 42] (d, G, E_4)
      obtain ⟨G_7, E_8, m_9, K⟩ := K
      refine Y.callV (g := zm_X0_begin) (vs := [zO o_3]) (st := []) dX11_run_37 ⟨zg_X0_begin.1, zg_X0_begin.2.1, zg_X0_begin.2.2, by decide⟩ ⟨zk_X11_151, zv_X0_begin⟩ (ci := 0) (rfl) rfl ((zX_0_11 hX).2.2) rfl rfl (Nat.le_of_ble_eq_true rfl) m_9 (Or.inl rfl) ?_
      show Z zm_X11_run kz Q 40 [(0, zR 0), (1, zI v1), (2, zI v2)] [] (d, G_7, E_8)
      obtain ⟨hX_11, K⟩ := K
      refine Z.iconst (n := 0) dX11_run_40 ⟨by decide, by decide⟩ ?_
      refine Z.istore_n (ls' := [(3, zI 0), (0, zR 0), (1, zI v1), (2, zI v2)]) dX11_run_41 (by decide) rfl ?_
      refine Z.pick (ls' := [(0, zR 0), (1, zI v1), (2, zI v2), (3, zI 0)]) [1, 2, 3, 0] rfl ?_
      exact K
set_option maxRecDepth 20000 in
theorem X11_run_42 {kz : Nat × Nat} {Q : Option zV → zH → Prop} {d : List Nat} {G : Nat → Int → Option Nat} {E : Nat → Int → Int} {v1 : Int} {v2 : Int} {v3 : Int} (hX : zK zXt d G) (K : ((1000000) ≤ v3 → zin (v2 + 1) ∧ Z zm_X11_run kz Q 17 [(0, zR 0), (1, zI v1), (2, zI ((v2 + 1)))] [] (d, G, E)) ∧ (¬ ((1000000) ≤ v3) → ((E 0 15) ≠ 0 → zin (v2 + 1) ∧ Z zm_X11_run kz Q 17 [(0, zR 0), (1, zI v1), (2, zI ((v2 + 1)))] [] (d, G, E)) ∧ (¬ ((E 0 15) ≠ 0) → ∃ x_5 G_6 E_7, zM zm_X0_next [zR 42] (d, G, E) (some (zI x_5)) (d, G_6, E_7) ∧ zK zXt d G_6 ∧ (x_5 = 0 → zin (v2 + 1) ∧ Z zm_X11_run kz Q 17 [(0, zR 0), (1, zI v1), (2, zI ((v2 + 1)))] [] (d, G_6, E_7)) ∧ (¬ (x_5 = 0) → ∃ x_13 E_14, zM zm_X3_make [zR 41, zR 43, zI ((E_7 5 4)), zR 10] (d, G_6, E_7) (some (zI x_13)) (d, G_6, E_14) ∧ (x_13 = 0 → zin (v3 + 1) ∧ Z zm_X11_run kz Q 42 [(0, zR 0), (1, zI v1), (2, zI v2), (3, zI ((v3 + 1)))] [] (d, G_6, E_14)) ∧ (¬ (x_13 = 0) → ∃ x_19 E_20, zM zm_X11_hasFuel [zR 0] (d, G_6, E_14) (some (zI x_19)) (d, G_6, E_20) ∧ (x_19 = 0 → zin (v3 + 1) ∧ Z zm_X11_run kz Q 42 [(0, zR 0), (1, zI v1), (2, zI v2), (3, zI ((v3 + 1)))] [] (d, G_6, E_20)) ∧ (¬ (x_19 = 0) → zin ((E_20 0 19) + 1) ∧ ∀ E_26, E_26 = zuE E_20 0 19 (((E_20 0 19) + 1)) → ∃ x_27 d_28 G_29 E_30, zM zm_X11_settle [zR 0, zI x_13, zR 43] (d, G_6, E_26) (some (zI x_27)) (d_28, G_29, E_30) ∧ (d_28 = d ∨ d_28.length ≤ kz.1 ∧ zsl d_28 ≤ kz.2) ∧ zK zXt d_28 G_29 ∧ zin (v3 + 1) ∧ Z zm_X11_run kz Q 42 [(0, zR 0), (1, zI v1), (2, zI v2), (3, zI ((v3 + 1)))] [] (d_28, G_29, E_30))))))) : Z zm_X11_run kz Q 42 [(0, zR 0), (1, zI v1), (2, zI v2), (3, zI v3)] [] (d, G, E) := by
  refine Z.iload_n (k := 3) dX11_run_42 rfl ?_
  refine Z.ldc (n := 1000000) dX11_run_43 ⟨by decide, by decide⟩ zq_X11_155 ?_
  refine Z.icmp_ge 134 dX11_run_45 rfl ⟨fun c_1 => ?_, fun c_1 => ?_⟩
  · replace K := K.1 c_1
    obtain ⟨z_2, K⟩ := K
    refine Z.iinc (k := 2) (ls' := [(2, zI ((v2 + 1))), (0, zR 0), (1, zI v1), (3, zI v3)]) dX11_run_134 rfl (by decide) z_2 rfl ?_
    refine Z.goto 17 dX11_run_137 rfl ?_
    refine Z.pick (ls' := [(0, zR 0), (1, zI v1), (2, zI ((v2 + 1)))]) [1, 2, 0] rfl ?_
    exact K
  · replace K := K.2 c_1
    refine Z.aload_n (k := 0) dX11_run_48 rfl ?_
    refine Y.getI 15 dX11_run_49 zl_X11_106 (rfl) (by decide) rfl (zX_0_0 hX).2.1 ?_
    refine Z.if_ne 134 dX11_run_52 rfl ⟨fun c_3 => ?_, fun c_3 => ?_⟩
    · replace K := K.1 c_3
      obtain ⟨z_4, K⟩ := K
      refine Z.iinc (k := 2) (ls' := [(2, zI ((v2 + 1))), (0, zR 0), (1, zI v1), (3, zI v3)]) dX11_run_134 rfl (by decide) z_4 rfl ?_
      refine Z.goto 17 dX11_run_137 rfl ?_
      refine Z.pick (ls' := [(0, zR 0), (1, zI v1), (2, zI ((v2 + 1)))]) [1, 2, 0] rfl ?_
      exact K
    · replace K := K.2 c_3
      refine Z.aload_n (k := 0) dX11_run_55 rfl ?_
      refine Y.getR (o := some 42) 11 dX11_run_56 zl_X11_92 (rfl) (by decide) rfl (zX_0_0 hX).2.1 (zX_0_11 hX).1 ?_
      obtain ⟨x_5, G_6, E_7, m_8, K⟩ := K
      refine Y.callV (g := zm_X0_next) (vs := []) (st := []) dX11_run_59 ⟨zg_X0_next.1, zg_X0_next.2.1, zg_X0_next.2.2, by decide⟩ ⟨zk_X11_156, zv_X0_next⟩ (ci := 0) (rfl) rfl ((zX_0_11 hX).2.2) rfl rfl (Nat.le_of_ble_eq_true rfl) m_8 (Or.inl rfl) ?_
      show Z zm_X11_run kz Q 62 [(0, zR 0), (1, zI v1), (2, zI v2), (3, zI v3)] [zI x_5] (d, G_6, E_7)
      obtain ⟨hX_10, K⟩ := K
      refine Z.if_eq 134 dX11_run_62 rfl ⟨fun c_11 => ?_, fun c_11 => ?_⟩
      · replace K := K.1 c_11
        obtain ⟨z_12, K⟩ := K
        refine Z.iinc (k := 2) (ls' := [(2, zI ((v2 + 1))), (0, zR 0), (1, zI v1), (3, zI v3)]) dX11_run_134 rfl (by decide) z_12 rfl ?_
        refine Z.goto 17 dX11_run_137 rfl ?_
        refine Z.pick (ls' := [(0, zR 0), (1, zI v1), (2, zI ((v2 + 1)))]) [1, 2, 0] rfl ?_
        exact K
      · replace K := K.2 c_11
        refine Z.aload_n (k := 0) dX11_run_65 rfl ?_
        refine Y.getR (o := some 41) 10 dX11_run_66 zl_X11_83 (rfl) (by decide) rfl (zX_0_0 hX_10).2.1 (zX_0_10 hX_10).1 ?_
        refine Z.aload_n (k := 0) dX11_run_69 rfl ?_
        refine Y.getR (o := some 42) 11 dX11_run_70 zl_X11_92 (rfl) (by decide) rfl (zX_0_0 hX_10).2.1 (zX_0_11 hX_10).1 ?_
        refine Y.getR (o := some 43) 2 dX11_run_73 zl_X11_160 (rfl) (by decide) rfl (zX_0_11 hX_10).2.2 (zX_42_2 hX_10).1 ?_
        refine Z.aload_n (k := 0) dX11_run_76 rfl ?_
        refine Y.getR (o := some 5) 1 dX11_run_77 zl_X11_19 (rfl) (by decide) rfl (zX_0_0 hX_10).2.1 (zX_0_1 hX_10).1 ?_
        refine Y.getI 4 dX11_run_80 zl_X11_124 (rfl) (by decide) rfl (zX_0_1 hX_10).2.2 ?_
        refine Z.aload_n (k := 0) dX11_run_83 rfl ?_
        refine Y.getR (o := some 10) 3 dX11_run_84 zl_X11_30 (rfl) (by decide) rfl (zX_0_0 hX_10).2.1 (zX_0_3 hX_10).1 ?_
        obtain ⟨x_13, E_14, m_15, K⟩ := K
        refine Y.callV (g := zm_X3_make) (vs := [zR 43, zI ((E_7 5 4)), zR 10]) (st := []) dX11_run_87 ⟨zg_X3_make.1, zg_X3_make.2.1, zg_X3_make.2.2, by decide⟩ ⟨zk_X11_163, zv_X3_make⟩ (ci := 3) (rfl) rfl ((zX_0_10 hX_10).2.2) rfl rfl (Nat.le_of_ble_eq_true rfl) m_15 (Or.inl rfl) ?_
        show Z zm_X11_run kz Q 90 [(0, zR 0), (1, zI v1), (2, zI v2), (3, zI v3)] [zI x_13] (d, G_6, E_14)
        refine Z.istore (ls' := [(4, zI x_13), (0, zR 0), (1, zI v1), (2, zI v2), (3, zI v3)]) dX11_run_90 (by decide) rfl ?_
        refine Z.iload (k := 0) dX11_run_92 rfl ?_
        refine Z.if_eq 128 dX11_run_94 rfl ⟨fun c_17 => ?_, fun c_17 => ?_⟩
        · replace K := K.1 c_17
          obtain ⟨z_18, K⟩ := K
          refine Z.iinc (k := 4) (ls' := [(3, zI ((v3 + 1))), (4, zI x_13), (0, zR 0), (1, zI v1), (2, zI v2)]) dX11_run_128 rfl (by decide) z_18 rfl ?_
          refine Z.goto 42 dX11_run_131 rfl ?_
          refine Z.pick (ls' := [(0, zR 0), (1, zI v1), (2, zI v2), (3, zI ((v3 + 1)))]) [2, 3, 4, 0] rfl ?_
          exact K
        · replace K := K.2 c_17
          refine Z.aload_n (k := 1) dX11_run_97 rfl ?_
          obtain ⟨x_19, E_20, m_21, K⟩ := K
          refine Y.callV (g := zm_X11_hasFuel) (vs := []) (st := []) dX11_run_98 ⟨zg_X11_hasFuel.1, zg_X11_hasFuel.2.1, zg_X11_hasFuel.2.2, by decide⟩ ⟨zk_X11_167, zv_X11_hasFuel⟩ (ci := 11) (rfl) rfl ((zX_0_0 hX_10).2.1) rfl rfl (Nat.le_of_ble_eq_true rfl) m_21 (Or.inl rfl) ?_
          show Z zm_X11_run kz Q 101 [(4, zI x_13), (0, zR 0), (1, zI v1), (2, zI v2), (3, zI v3)] [zI x_19] (d, G_6, E_20)
          refine Z.if_eq 128 dX11_run_101 rfl ⟨fun c_23 => ?_, fun c_23 => ?_⟩
          · replace K := K.1 c_23
            obtain ⟨z_24, K⟩ := K
            refine Z.iinc (k := 4) (ls' := [(3, zI ((v3 + 1))), (4, zI x_13), (0, zR 0), (1, zI v1), (2, zI v2)]) dX11_run_128 rfl (by decide) z_24 rfl ?_
            refine Z.goto 42 dX11_run_131 rfl ?_
            refine Z.pick (ls' := [(0, zR 0), (1, zI v1), (2, zI v2), (3, zI ((v3 + 1)))]) [2, 3, 4, 0] rfl ?_
            exact K
          · replace K := K.2 c_23
            refine Z.aload_n (k := 1) dX11_run_104 rfl ?_
            refine Z.dup_i dX11_run_105 (fun _ => rfl) ?_
            refine Y.getI 19 dX11_run_106 zl_X11_118 (rfl) (by decide) rfl (zX_0_0 hX_10).2.1 ?_
            refine Z.iconst (n := 1) dX11_run_109 ⟨by decide, by decide⟩ ?_
            obtain ⟨z_25, K⟩ := K
            refine Z.iadd dX11_run_110 z_25 ?_
            refine Y.putI 19 dX11_run_111 zw_X11_118 (fun q => by cases q) (rfl) rfl (zX_0_0 hX_10).2.1 (Or.inl rfl) ?_
            generalize eE_26 : zuE E_20 0 19 (((E_20 0 19) + 1)) = E_26
            replace K := K E_26 eE_26.symm
            refine Z.aload_n (k := 1) dX11_run_114 rfl ?_
            refine Z.iload (k := 0) dX11_run_115 rfl ?_
            refine Z.aload_n (k := 1) dX11_run_117 rfl ?_
            refine Y.getR (o := some 42) 11 dX11_run_118 zl_X11_92 (rfl) (by decide) rfl (zX_0_0 hX_10).2.1 (zX_0_11 hX_10).1 ?_
            refine Y.getR (o := some 43) 2 dX11_run_121 zl_X11_160 (rfl) (by decide) rfl (zX_0_11 hX_10).2.2 (zX_42_2 hX_10).1 ?_
            obtain ⟨x_27, d_28, G_29, E_30, m_31, z_32, K⟩ := K
            refine Y.callV (g := zm_X11_settle) (vs := [zI x_13, zR 43]) (st := []) dX11_run_124 ⟨zg_X11_settle.1, zg_X11_settle.2.1, zg_X11_settle.2.2, by decide⟩ ⟨zk_X11_143, zv_X11_settle⟩ (ci := 11) (rfl) rfl ((zX_0_0 hX_10).2.1) rfl rfl (Nat.le_of_ble_eq_true rfl) m_31 z_32 ?_
            show Z zm_X11_run kz Q 127 [(4, zI x_13), (0, zR 0), (1, zI v1), (2, zI v2), (3, zI v3)] [zI x_27] (d_28, G_29, E_30)
            obtain ⟨hX_33, K⟩ := K
            refine Z.pop_i dX11_run_127 (fun _ => rfl) ?_
            obtain ⟨z_34, K⟩ := K
            refine Z.iinc (k := 4) (ls' := [(3, zI ((v3 + 1))), (4, zI x_13), (0, zR 0), (1, zI v1), (2, zI v2)]) dX11_run_128 rfl (by decide) z_34 rfl ?_
            refine Z.goto 42 dX11_run_131 rfl ?_
            refine Z.pick (ls' := [(0, zR 0), (1, zI v1), (2, zI v2), (3, zI ((v3 + 1)))]) [2, 3, 4, 0] rfl ?_
            exact K
set_option maxRecDepth 20000 in
theorem X11_clear_0 {kz : Nat × Nat} {Q : Option zV → zH → Prop} {d : List Nat} {G : Nat → Int → Option Nat} {E : Nat → Int → Int}  (hX : zK zXt d G) (K : ∀ E_1, E_1 = zuE E 5 4 0 → ∀ E_2, E_2 = zuE E_1 0 15 0 → ∀ E_3, E_3 = zuE E_2 0 16 0 → Q (some (zI ((E 5 4)))) (d, G, E_3)) : Z zm_X11_clear kz Q 0 [(0, zR 0)] [] (d, G, E) := by
  refine Z.aload_n (k := 0) dX11_clear_0 rfl ?_
  refine Y.getR (o := some 5) 1 dX11_clear_1 zl_X11_19 (rfl) (by decide) rfl (zX_0_0 hX).2.1 (zX_0_1 hX).1 ?_
  refine Y.getI 4 dX11_clear_4 zl_X11_124 (rfl) (by decide) rfl (zX_0_1 hX).2.2 ?_
  refine Z.istore_n (ls' := [(1, zI ((E 5 4))), (0, zR 0)]) dX11_clear_7 (by decide) rfl ?_
  refine Z.aload_n (k := 1) dX11_clear_8 rfl ?_
  refine Y.getR (o := some 5) 1 dX11_clear_9 zl_X11_19 (rfl) (by decide) rfl (zX_0_0 hX).2.1 (zX_0_1 hX).1 ?_
  refine Z.iconst (n := 0) dX11_clear_12 ⟨by decide, by decide⟩ ?_
  refine Y.putI 4 dX11_clear_13 zw_X11_124 (fun q => by cases q) (rfl) rfl (zX_0_1 hX).2.2 (Or.inl rfl) ?_
  generalize eE_1 : zuE E 5 4 0 = E_1
  replace K := K E_1 eE_1.symm
  refine Z.aload_n (k := 1) dX11_clear_16 rfl ?_
  refine Z.iconst (n := 0) dX11_clear_17 ⟨by decide, by decide⟩ ?_
  refine Y.putI 15 dX11_clear_18 zw_X11_106 (fun q => by cases q) (rfl) rfl (zX_0_0 hX).2.1 (Or.inl rfl) ?_
  generalize eE_2 : zuE E_1 0 15 0 = E_2
  replace K := K E_2 eE_2.symm
  refine Z.aload_n (k := 1) dX11_clear_21 rfl ?_
  refine Z.iconst (n := 0) dX11_clear_22 ⟨by decide, by decide⟩ ?_
  refine Y.putI 16 dX11_clear_23 zw_X11_109 (fun q => by cases q) (rfl) rfl (zX_0_0 hX).2.1 (Or.inl rfl) ?_
  generalize eE_3 : zuE E_2 0 16 0 = E_3
  replace K := K E_3 eE_3.symm
  refine Z.iload_n (k := 0) dX11_clear_26 rfl ?_
  exact Z.iret (ty := .int) dX11_clear_27 rfl rfl K
set_option maxRecDepth 20000 in
theorem X11_claim_0 {kz : Nat × Nat} {Q : Option zV → zH → Prop} {d : List Nat} {G : Nat → Int → Option Nat} {E : Nat → Int → Int} {v1 : Int} {v2 : Int} (hX : zK zXt d G) (K : ∃ o_1, zM zm_X7_at [zR 5, zI v1] (d, G, E) (some (zO o_1)) (d, G, E) ∧ (o_1 ≠ none → (v2 = 0 → ∃ b_6, o_1 = some b_6 ∧ zCk d G b_6 ∧ Q (some (zI ((E (b_6 + 1) 3)))) (d, G, E)) ∧ (v2 = 1 → ∃ b_10, o_1 = some b_10 ∧ zCk d G b_10 ∧ Q (some (zI ((E b_10 8)))) (d, G, E)) ∧ (v2 = 2 → ∃ b_14, o_1 = some b_14 ∧ zCk d G b_14 ∧ Q (some (zI ((E b_14 6)))) (d, G, E)) ∧ (v2 = 3 → ∃ b_18, o_1 = some b_18 ∧ zCk d G b_18 ∧ Q (some (zI ((E b_18 7)))) (d, G, E)) ∧ (v2 = 4 → ∃ b_22, o_1 = some b_22 ∧ zCk d G b_22 ∧ Q (some (zI ((E b_22 9)))) (d, G, E)) ∧ (v2 = 5 → ∃ b_26, o_1 = some b_26 ∧ zCk d G b_26 ∧ Q (some (zI ((E b_26 10)))) (d, G, E)) ∧ ((v2 < 0 ∨ 5 < v2) → Q (some (zI ((-2)))) (d, G, E))) ∧ (¬ (o_1 ≠ none) → Q (some (zI ((-2)))) (d, G, E))) : Z zm_X11_claim kz Q 0 [(0, zR 0), (1, zI v1), (2, zI v2)] [] (d, G, E) := by
  refine Z.aload_n (k := 0) dX11_claim_0 rfl ?_
  refine Y.getR (o := some 5) 1 dX11_claim_1 zl_X11_19 (rfl) (by decide) rfl (zX_0_0 hX).2.1 (zX_0_1 hX).1 ?_
  refine Z.iload_n (k := 1) dX11_claim_4 rfl ?_
  obtain ⟨o_1, m_2, K⟩ := K
  refine Y.callV (g := zm_X7_at) (vs := [zI v1]) (st := []) dX11_claim_5 ⟨zg_X7_at.1, zg_X7_at.2.1, zg_X7_at.2.2, by decide⟩ ⟨zk_X11_170, zv_X7_at⟩ (ci := 7) (rfl) rfl ((zX_0_1 hX).2.2) rfl rfl (Nat.le_of_ble_eq_true rfl) m_2 (Or.inl rfl) ?_
  show Z zm_X11_claim kz Q 8 [(0, zR 0), (1, zI v1), (2, zI v2)] [zO o_1] (d, G, E)
  refine Z.astore_n (ls' := [(3, zO o_1), (0, zR 0), (1, zI v1), (2, zI v2)]) dX11_claim_8 (by decide) rfl ?_
  refine Z.aload_n (k := 0) dX11_claim_9 rfl ?_
  refine Z.ifnonnull 16 dX11_claim_10 rfl ⟨fun c_4 => ?_, fun c_4 => ?_⟩
  · replace K := K.1 c_4
    refine Z.iload_n (k := 3) dX11_claim_16 rfl ?_
    by_cases c_5 : v2 = 0
    · replace K := K.1 c_5
      refine Z.tableIn (off := 39) 56 dX11_claim_17 (by omega) (by omega) (by rw [c_5]; rfl) rfl ?_
      refine Z.aload_n (k := 0) dX11_claim_56 rfl ?_
      obtain ⟨b_6, e_7, hc_8, K⟩ := K
      rw [e_7]
      refine Y.getR (o := some ((b_6 + 1))) 0 dX11_claim_57 zl_X11_174 (congrArg Prod.fst hc_8.1) (by decide) rfl hc_8.2.1 hc_8.2.2.2.1 ?_
      refine Y.getI 3 dX11_claim_60 zl_X11_179 (congrArg Prod.fst hc_8.2.2.1.1) (by decide) rfl hc_8.2.2.1.2.2.2.2.1 ?_
      exact Z.iret (ty := .int) dX11_claim_63 rfl rfl K
    replace K := K.2
    by_cases c_9 : v2 = 1
    · replace K := K.1 c_9
      refine Z.tableIn (off := 47) 64 dX11_claim_17 (by omega) (by omega) (by rw [c_9]; rfl) rfl ?_
      refine Z.aload_n (k := 0) dX11_claim_64 rfl ?_
      obtain ⟨b_10, e_11, hc_12, K⟩ := K
      rw [e_11]
      refine Y.getI 8 dX11_claim_65 zl_X11_182 (congrArg Prod.fst hc_12.1) (by decide) rfl hc_12.2.1 ?_
      exact Z.iret (ty := .int) dX11_claim_68 rfl rfl K
    replace K := K.2
    by_cases c_13 : v2 = 2
    · replace K := K.1 c_13
      refine Z.tableIn (off := 52) 69 dX11_claim_17 (by omega) (by omega) (by rw [c_13]; rfl) rfl ?_
      refine Z.aload_n (k := 0) dX11_claim_69 rfl ?_
      obtain ⟨b_14, e_15, hc_16, K⟩ := K
      rw [e_15]
      refine Y.getI 6 dX11_claim_70 zl_X11_185 (congrArg Prod.fst hc_16.1) (by decide) rfl hc_16.2.1 ?_
      exact Z.iret (ty := .int) dX11_claim_73 rfl rfl K
    replace K := K.2
    by_cases c_17 : v2 = 3
    · replace K := K.1 c_17
      refine Z.tableIn (off := 57) 74 dX11_claim_17 (by omega) (by omega) (by rw [c_17]; rfl) rfl ?_
      refine Z.aload_n (k := 0) dX11_claim_74 rfl ?_
      obtain ⟨b_18, e_19, hc_20, K⟩ := K
      rw [e_19]
      refine Y.getI 7 dX11_claim_75 zl_X11_188 (congrArg Prod.fst hc_20.1) (by decide) rfl hc_20.2.1 ?_
      exact Z.iret (ty := .int) dX11_claim_78 rfl rfl K
    replace K := K.2
    by_cases c_21 : v2 = 4
    · replace K := K.1 c_21
      refine Z.tableIn (off := 62) 79 dX11_claim_17 (by omega) (by omega) (by rw [c_21]; rfl) rfl ?_
      refine Z.aload_n (k := 0) dX11_claim_79 rfl ?_
      obtain ⟨b_22, e_23, hc_24, K⟩ := K
      rw [e_23]
      refine Y.getI 9 dX11_claim_80 zl_X11_191 (congrArg Prod.fst hc_24.1) (by decide) rfl hc_24.2.1 ?_
      exact Z.iret (ty := .int) dX11_claim_83 rfl rfl K
    replace K := K.2
    by_cases c_25 : v2 = 5
    · replace K := K.1 c_25
      refine Z.tableIn (off := 67) 84 dX11_claim_17 (by omega) (by omega) (by rw [c_25]; rfl) rfl ?_
      refine Z.aload_n (k := 0) dX11_claim_84 rfl ?_
      obtain ⟨b_26, e_27, hc_28, K⟩ := K
      rw [e_27]
      refine Y.getI 10 dX11_claim_85 zl_X11_194 (congrArg Prod.fst hc_28.1) (by decide) rfl hc_28.2.1 ?_
      exact Z.iret (ty := .int) dX11_claim_88 rfl rfl K
    replace K := K.2
    have hd0 : v2 < 0 ∨ 5 < v2 := by omega
    replace K := K hd0
    refine Z.tableOut 89 dX11_claim_17 hd0 rfl ?_
    refine Z.bipush (n := -2) dX11_claim_89 ⟨by decide, by decide⟩ (by decide) ?_
    exact Z.iret (ty := .int) dX11_claim_91 rfl rfl K
  · replace K := K.2 c_4
    refine Z.bipush (n := -2) dX11_claim_13 ⟨by decide, by decide⟩ (by decide) ?_
    exact Z.iret (ty := .int) dX11_claim_15 rfl rfl K
set_option maxRecDepth 20000 in
theorem X11_literal_0 {kz : Nat × Nat} {Q : Option zV → zH → Prop} {d : List Nat} {G : Nat → Int → Option Nat} {E : Nat → Int → Int} {v1 : Int} {v2 : Int} {v3 : Int} (hX : zK zXt d G) (K : ∃ o_1, zM zm_X7_at [zR 5, zI v1] (d, G, E) (some (zO o_1)) (d, G, E) ∧ (o_1 = none → Q (some (zI ((-2147483648)))) (d, G, E)) ∧ (¬ (o_1 = none) → ∃ b_5, o_1 = some b_5 ∧ zCk d G b_5 ∧ ∃ x_8, zM zm_X5_has [zR ((b_5 + 1)), zI v2] (d, G, E) (some (zI x_8)) (d, G, E) ∧ (x_8 = 0 → Q (some (zI ((-2147483648)))) (d, G, E)) ∧ (¬ (x_8 = 0) → (0 ≤ v3 → (v3 ≠ 0 → ∃ x_14, zM zm_X5_length [zR ((b_5 + 1)), zI v2] (d, G, E) (some (zI x_14)) (d, G, E) ∧ (v3 ≠ 1 → zin (v3 - 2) ∧ (x_14 ≤ (v3 - 2) → Q (some (zI ((-2147483648)))) (d, G, E)) ∧ (¬ (x_14 ≤ (v3 - 2)) → ((0 : Int) ≤ v2 ∧ v2 < (7 : Int)) ∧ zin ((E ((b_5 + 1) + 2) v2) + v3) ∧ zin (((E ((b_5 + 1) + 2) v2) + v3) - 2) ∧ ((0 : Int) ≤ (((E ((b_5 + 1) + 2) v2) + v3) - 2) ∧ (((E ((b_5 + 1) + 2) v2) + v3) - 2) < (180 : Int)) ∧ Q (some (zI ((E ((b_5 + 1) + 1) (((E ((b_5 + 1) + 2) v2) + v3) - 2))))) (d, G, E))) ∧ (¬ (v3 ≠ 1) → Q (some (zI x_14)) (d, G, E))) ∧ (¬ (v3 ≠ 0) → ((0 : Int) ≤ v2 ∧ v2 < (6 : Int)) ∧ ((E ((b_5 + 1) + 3) v2) = 0 → Q (some (zI 0)) (d, G, E)) ∧ (¬ ((E ((b_5 + 1) + 3) v2) = 0) → Q (some (zI 1)) (d, G, E)))) ∧ (¬ (0 ≤ v3) → Q (some (zI ((-2147483648)))) (d, G, E))))) : Z zm_X11_literal kz Q 0 [(0, zR 0), (1, zI v1), (2, zI v2), (3, zI v3)] [] (d, G, E) := by
  refine Z.aload_n (k := 0) dX11_literal_0 rfl ?_
  refine Y.getR (o := some 5) 1 dX11_literal_1 zl_X11_19 (rfl) (by decide) rfl (zX_0_0 hX).2.1 (zX_0_1 hX).1 ?_
  refine Z.iload_n (k := 1) dX11_literal_4 rfl ?_
  obtain ⟨o_1, m_2, K⟩ := K
  refine Y.callV (g := zm_X7_at) (vs := [zI v1]) (st := []) dX11_literal_5 ⟨zg_X7_at.1, zg_X7_at.2.1, zg_X7_at.2.2, by decide⟩ ⟨zk_X11_170, zv_X7_at⟩ (ci := 7) (rfl) rfl ((zX_0_1 hX).2.2) rfl rfl (Nat.le_of_ble_eq_true rfl) m_2 (Or.inl rfl) ?_
  show Z zm_X11_literal kz Q 8 [(0, zR 0), (1, zI v1), (2, zI v2), (3, zI v3)] [zO o_1] (d, G, E)
  refine Z.astore (ls' := [(4, zO o_1), (0, zR 0), (1, zI v1), (2, zI v2), (3, zI v3)]) dX11_literal_8 (by decide) rfl ?_
  refine Z.aload (k := 0) dX11_literal_10 rfl ?_
  refine Z.ifnull 31 dX11_literal_12 rfl ⟨fun c_4 => ?_, fun c_4 => ?_⟩
  · replace K := K.1 c_4
    refine Z.ldc (n := -2147483648) dX11_literal_31 ⟨by decide, by decide⟩ zq_X11_201 ?_
    exact Z.iret (ty := .int) dX11_literal_33 rfl rfl K
  · replace K := K.2 c_4
    refine Z.aload (k := 0) dX11_literal_15 rfl ?_
    obtain ⟨b_5, e_6, hc_7, K⟩ := K
    rw [e_6]
    refine Y.getR (o := some ((b_5 + 1))) 0 dX11_literal_17 zl_X11_174 (congrArg Prod.fst hc_7.1) (by decide) rfl hc_7.2.1 hc_7.2.2.2.1 ?_
    refine Z.iload_n (k := 3) dX11_literal_20 rfl ?_
    obtain ⟨x_8, m_9, K⟩ := K
    refine Y.callV (g := zm_X5_has) (vs := [zI v2]) (st := []) dX11_literal_21 ⟨zg_X5_has.1, zg_X5_has.2.1, zg_X5_has.2.2, by decide⟩ ⟨zk_X11_197, zv_X5_has⟩ (ci := 5) (congrArg Prod.fst hc_7.2.2.1.1) rfl (hc_7.2.2.1.2.2.2.2.1) rfl rfl (Nat.le_of_ble_eq_true rfl) m_9 (Or.inl rfl) ?_
    show Z zm_X11_literal kz Q 24 [(4, zR b_5), (0, zR 0), (1, zI v1), (2, zI v2), (3, zI v3)] [zI x_8] (d, G, E)
    refine Z.if_eq 31 dX11_literal_24 rfl ⟨fun c_11 => ?_, fun c_11 => ?_⟩
    · replace K := K.1 c_11
      refine Z.ldc (n := -2147483648) dX11_literal_31 ⟨by decide, by decide⟩ zq_X11_201 ?_
      exact Z.iret (ty := .int) dX11_literal_33 rfl rfl K
    · replace K := K.2 c_11
      refine Z.iload_n (k := 4) dX11_literal_27 rfl ?_
      refine Z.if_ge 34 dX11_literal_28 rfl ⟨fun c_12 => ?_, fun c_12 => ?_⟩
      · replace K := K.1 c_12
        refine Z.iload_n (k := 4) dX11_literal_34 rfl ?_
        refine Z.if_ne 57 dX11_literal_35 rfl ⟨fun c_13 => ?_, fun c_13 => ?_⟩
        · replace K := K.1 c_13
          refine Z.aload (k := 0) dX11_literal_57 rfl ?_
          refine Y.getR (o := some ((b_5 + 1))) 0 dX11_literal_59 zl_X11_174 (congrArg Prod.fst hc_7.1) (by decide) rfl hc_7.2.1 hc_7.2.2.2.1 ?_
          refine Z.iload_n (k := 3) dX11_literal_62 rfl ?_
          obtain ⟨x_14, m_15, K⟩ := K
          refine Y.callV (g := zm_X5_length) (vs := [zI v2]) (st := []) dX11_literal_63 ⟨zg_X5_length.1, zg_X5_length.2.1, zg_X5_length.2.2, by decide⟩ ⟨zk_X11_206, zv_X5_length⟩ (ci := 5) (congrArg Prod.fst hc_7.2.2.1.1) rfl (hc_7.2.2.1.2.2.2.2.1) rfl rfl (Nat.le_of_ble_eq_true rfl) m_15 (Or.inl rfl) ?_
          show Z zm_X11_literal kz Q 66 [(4, zR b_5), (0, zR 0), (1, zI v1), (2, zI v2), (3, zI v3)] [zI x_14] (d, G, E)
          refine Z.istore (ls' := [(5, zI x_14), (4, zR b_5), (0, zR 0), (1, zI v1), (2, zI v2), (3, zI v3)]) dX11_literal_66 (by decide) rfl ?_
          refine Z.iload_n (k := 5) dX11_literal_68 rfl ?_
          refine Z.iconst (n := 1) dX11_literal_69 ⟨by decide, by decide⟩ ?_
          refine Z.icmp_ne 76 dX11_literal_70 rfl ⟨fun c_17 => ?_, fun c_17 => ?_⟩
          · replace K := K.1 c_17
            refine Z.iload_n (k := 5) dX11_literal_76 rfl ?_
            refine Z.iconst (n := 2) dX11_literal_77 ⟨by decide, by decide⟩ ?_
            obtain ⟨z_18, K⟩ := K
            refine Z.isub dX11_literal_78 z_18 ?_
            refine Z.iload (k := 0) dX11_literal_79 rfl ?_
            refine Z.icmp_ge 110 dX11_literal_81 rfl ⟨fun c_19 => ?_, fun c_19 => ?_⟩
            · replace K := K.1 c_19
              refine Z.ldc (n := -2147483648) dX11_literal_110 ⟨by decide, by decide⟩ zq_X11_201 ?_
              exact Z.iret (ty := .int) dX11_literal_112 rfl rfl K
            · replace K := K.2 c_19
              refine Z.aload (k := 1) dX11_literal_84 rfl ?_
              refine Y.getR (o := some ((b_5 + 1))) 0 dX11_literal_86 zl_X11_174 (congrArg Prod.fst hc_7.1) (by decide) rfl hc_7.2.1 hc_7.2.2.2.1 ?_
              refine Y.getR (o := some ((b_5 + 1) + 1)) 0 dX11_literal_89 zl_X11_210 (congrArg Prod.fst hc_7.2.2.1.1) (by decide) rfl hc_7.2.2.1.2.2.2.2.1 hc_7.2.2.1.2.2.2.2.2.2.2.2.1 ?_
              refine Z.aload (k := 1) dX11_literal_92 rfl ?_
              refine Y.getR (o := some ((b_5 + 1))) 0 dX11_literal_94 zl_X11_174 (congrArg Prod.fst hc_7.1) (by decide) rfl hc_7.2.1 hc_7.2.2.2.1 ?_
              refine Y.getR (o := some ((b_5 + 1) + 2)) 1 dX11_literal_97 zl_X11_213 (congrArg Prod.fst hc_7.2.2.1.1) (by decide) rfl hc_7.2.2.1.2.2.2.2.1 hc_7.2.2.1.2.2.2.2.2.2.2.2.2.1 ?_
              refine Z.iload_n (k := 4) dX11_literal_100 rfl ?_
              obtain ⟨z_20, K⟩ := K
              refine Y.iald dX11_literal_101 (hc_7.2.2.1.2.2.1) (hc_7.2.2.1.2.2.2.2.2.2.1) z_20 ?_
              refine Z.iload_n (k := 5) dX11_literal_102 rfl ?_
              obtain ⟨z_21, K⟩ := K
              refine Z.iadd dX11_literal_103 z_21 ?_
              refine Z.iconst (n := 2) dX11_literal_104 ⟨by decide, by decide⟩ ?_
              obtain ⟨z_22, K⟩ := K
              refine Z.isub dX11_literal_105 z_22 ?_
              obtain ⟨z_23, K⟩ := K
              refine Y.iald dX11_literal_106 (hc_7.2.2.1.2.1) (hc_7.2.2.1.2.2.2.2.2.1) z_23 ?_
              refine Z.goto 112 dX11_literal_107 rfl ?_
              exact Z.iret (ty := .int) dX11_literal_112 rfl rfl K
          · replace K := K.2 c_17
            refine Z.iload (k := 0) dX11_literal_73 rfl ?_
            exact Z.iret (ty := .int) dX11_literal_75 rfl rfl K
        · replace K := K.2 c_13
          refine Z.aload (k := 0) dX11_literal_38 rfl ?_
          refine Y.getR (o := some ((b_5 + 1))) 0 dX11_literal_40 zl_X11_174 (congrArg Prod.fst hc_7.1) (by decide) rfl hc_7.2.1 hc_7.2.2.2.1 ?_
          refine Y.getR (o := some ((b_5 + 1) + 3)) 2 dX11_literal_43 zl_X11_202 (congrArg Prod.fst hc_7.2.2.1.1) (by decide) rfl hc_7.2.2.1.2.2.2.2.1 hc_7.2.2.1.2.2.2.2.2.2.2.2.2.2 ?_
          refine Z.iload_n (k := 3) dX11_literal_46 rfl ?_
          obtain ⟨z_24, K⟩ := K
          refine Y.zald dX11_literal_47 (hc_7.2.2.1.2.2.2.1) (hc_7.2.2.1.2.2.2.2.2.2.2.1) z_24 ?_
          refine Z.if_eq 55 dX11_literal_48 rfl ⟨fun c_25 => ?_, fun c_25 => ?_⟩
          · replace K := K.1 c_25
            refine Z.iconst (n := 0) dX11_literal_55 ⟨by decide, by decide⟩ ?_
            exact Z.iret (ty := .int) dX11_literal_56 rfl rfl K
          · replace K := K.2 c_25
            refine Z.iconst (n := 1) dX11_literal_51 ⟨by decide, by decide⟩ ?_
            refine Z.goto 56 dX11_literal_52 rfl ?_
            exact Z.iret (ty := .int) dX11_literal_56 rfl rfl K
      · replace K := K.2 c_12
        refine Z.ldc (n := -2147483648) dX11_literal_31 ⟨by decide, by decide⟩ zq_X11_201 ?_
        exact Z.iret (ty := .int) dX11_literal_33 rfl rfl K
set_option maxRecDepth 20000 in
theorem X11_step_0 {kz : Nat × Nat} {Q : Option zV → zH → Prop} {d : List Nat} {G : Nat → Int → Option Nat} {E : Nat → Int → Int} {v1 : Int} {v2 : Int} (hX : zK zXt d G) (K : ∃ o_1, zM zm_X7_at [zR 5, zI v1] (d, G, E) (some (zO o_1)) (d, G, E) ∧ (o_1 = none → Q (some (zI ((-2147483648)))) (d, G, E)) ∧ (¬ (o_1 = none) → (0 ≤ v2 → (7 ≤ v2 → (v2 ≠ 10 → ∃ b_8, o_1 = some b_8 ∧ zCk d G b_8 ∧ ∃ x_11, zM zm_X1_hasRewritingNumber [zR b_8, zI v2] (d, G, E) (some (zI x_11)) (d, G, E) ∧ (x_11 = 0 → Q (some (zI ((-2147483648)))) (d, G, E)) ∧ (¬ (x_11 = 0) → zin (v2 - 11) ∧ ((0 : Int) ≤ (v2 - 11) ∧ (v2 - 11) < (32 : Int)) ∧ Q (some (zI ((E (b_8 + 6) (v2 - 11))))) (d, G, E))) ∧ (¬ (v2 ≠ 10) → ∃ b_17, o_1 = some b_17 ∧ zCk d G b_17 ∧ Q (some (zI ((E b_17 4)))) (d, G, E))) ∧ (¬ (7 ≤ v2) → ∃ b_20, o_1 = some b_20 ∧ zCk d G b_20 ∧ ((0 : Int) ≤ v2 ∧ v2 < (7 : Int)) ∧ Q (some (zI ((E (b_20 + 5) v2)))) (d, G, E))) ∧ (¬ (0 ≤ v2) → Q (some (zI ((-2147483648)))) (d, G, E)))) : Z zm_X11_step kz Q 0 [(0, zR 0), (1, zI v1), (2, zI v2)] [] (d, G, E) := by
  refine Z.aload_n (k := 0) dX11_step_0 rfl ?_
  refine Y.getR (o := some 5) 1 dX11_step_1 zl_X11_19 (rfl) (by decide) rfl (zX_0_0 hX).2.1 (zX_0_1 hX).1 ?_
  refine Z.iload_n (k := 1) dX11_step_4 rfl ?_
  obtain ⟨o_1, m_2, K⟩ := K
  refine Y.callV (g := zm_X7_at) (vs := [zI v1]) (st := []) dX11_step_5 ⟨zg_X7_at.1, zg_X7_at.2.1, zg_X7_at.2.2, by decide⟩ ⟨zk_X11_170, zv_X7_at⟩ (ci := 7) (rfl) rfl ((zX_0_1 hX).2.2) rfl rfl (Nat.le_of_ble_eq_true rfl) m_2 (Or.inl rfl) ?_
  show Z zm_X11_step kz Q 8 [(0, zR 0), (1, zI v1), (2, zI v2)] [zO o_1] (d, G, E)
  refine Z.astore_n (ls' := [(3, zO o_1), (0, zR 0), (1, zI v1), (2, zI v2)]) dX11_step_8 (by decide) rfl ?_
  refine Z.aload_n (k := 0) dX11_step_9 rfl ?_
  refine Z.ifnull 17 dX11_step_10 rfl ⟨fun c_4 => ?_, fun c_4 => ?_⟩
  · replace K := K.1 c_4
    refine Z.ldc (n := -2147483648) dX11_step_17 ⟨by decide, by decide⟩ zq_X11_201 ?_
    exact Z.iret (ty := .int) dX11_step_19 rfl rfl K
  · replace K := K.2 c_4
    refine Z.iload_n (k := 3) dX11_step_13 rfl ?_
    refine Z.if_ge 20 dX11_step_14 rfl ⟨fun c_5 => ?_, fun c_5 => ?_⟩
    · replace K := K.1 c_5
      refine Z.iload_n (k := 3) dX11_step_20 rfl ?_
      refine Z.bipush (n := 7) dX11_step_21 ⟨by decide, by decide⟩ (by decide) ?_
      refine Z.icmp_ge 33 dX11_step_23 rfl ⟨fun c_6 => ?_, fun c_6 => ?_⟩
      · replace K := K.1 c_6
        refine Z.iload_n (k := 3) dX11_step_33 rfl ?_
        refine Z.bipush (n := 10) dX11_step_34 ⟨by decide, by decide⟩ (by decide) ?_
        refine Z.icmp_ne 44 dX11_step_36 rfl ⟨fun c_7 => ?_, fun c_7 => ?_⟩
        · replace K := K.1 c_7
          refine Z.aload_n (k := 0) dX11_step_44 rfl ?_
          refine Z.iload_n (k := 3) dX11_step_45 rfl ?_
          obtain ⟨b_8, e_9, hc_10, K⟩ := K
          rw [e_9]
          obtain ⟨x_11, m_12, K⟩ := K
          refine Y.callV (g := zm_X1_hasRewritingNumber) (vs := [zI v2]) (st := []) dX11_step_46 ⟨zg_X1_hasRewritingNumber.1, zg_X1_hasRewritingNumber.2.1, zg_X1_hasRewritingNumber.2.2, by decide⟩ ⟨zk_X11_220, zv_X1_hasRewritingNumber⟩ (ci := 1) (congrArg Prod.fst hc_10.1) rfl (hc_10.2.1) rfl rfl (Nat.le_of_ble_eq_true rfl) m_12 (Or.inl rfl) ?_
          show Z zm_X11_step kz Q 49 [(3, zR b_8), (0, zR 0), (1, zI v1), (2, zI v2)] [zI x_11] (d, G, E)
          refine Z.if_eq 64 dX11_step_49 rfl ⟨fun c_14 => ?_, fun c_14 => ?_⟩
          · replace K := K.1 c_14
            refine Z.ldc (n := -2147483648) dX11_step_64 ⟨by decide, by decide⟩ zq_X11_201 ?_
            exact Z.iret (ty := .int) dX11_step_66 rfl rfl K
          · replace K := K.2 c_14
            refine Z.aload_n (k := 0) dX11_step_52 rfl ?_
            refine Y.getR (o := some (b_8 + 6)) 3 dX11_step_53 zl_X11_223 (congrArg Prod.fst hc_10.1) (by decide) rfl hc_10.2.1 hc_10.2.2.2.2.2.2.2.2.2 ?_
            refine Z.iload_n (k := 3) dX11_step_56 rfl ?_
            refine Z.bipush (n := 11) dX11_step_57 ⟨by decide, by decide⟩ (by decide) ?_
            obtain ⟨z_15, K⟩ := K
            refine Z.isub dX11_step_59 z_15 ?_
            obtain ⟨z_16, K⟩ := K
            refine Y.iald dX11_step_60 (hc_10.2.2.2.2.2.2.2.1) (hc_10.2.2.2.2.2.2.2.2.1) z_16 ?_
            refine Z.goto 66 dX11_step_61 rfl ?_
            exact Z.iret (ty := .int) dX11_step_66 rfl rfl K
        · replace K := K.2 c_7
          refine Z.aload_n (k := 0) dX11_step_39 rfl ?_
          obtain ⟨b_17, e_18, hc_19, K⟩ := K
          rw [e_18]
          refine Y.getI 4 dX11_step_40 zl_X11_217 (congrArg Prod.fst hc_19.1) (by decide) rfl hc_19.2.1 ?_
          exact Z.iret (ty := .int) dX11_step_43 rfl rfl K
      · replace K := K.2 c_6
        refine Z.aload_n (k := 0) dX11_step_26 rfl ?_
        obtain ⟨b_20, e_21, hc_22, K⟩ := K
        rw [e_21]
        refine Y.getR (o := some (b_20 + 5)) 2 dX11_step_27 zl_X11_216 (congrArg Prod.fst hc_22.1) (by decide) rfl hc_22.2.1 hc_22.2.2.2.2.2.2.1 ?_
        refine Z.iload_n (k := 3) dX11_step_30 rfl ?_
        obtain ⟨z_23, K⟩ := K
        refine Y.iald dX11_step_31 (hc_22.2.2.2.2.1) (hc_22.2.2.2.2.2.1) z_23 ?_
        exact Z.iret (ty := .int) dX11_step_32 rfl rfl K
    · replace K := K.2 c_5
      refine Z.ldc (n := -2147483648) dX11_step_17 ⟨by decide, by decide⟩ zq_X11_201 ?_
      exact Z.iret (ty := .int) dX11_step_19 rfl rfl K
set_option maxRecDepth 20000 in
theorem X11_forge_0 {kz : Nat × Nat} {Q : Option zV → zH → Prop} {d : List Nat} {G : Nat → Int → Option Nat} {E : Nat → Int → Int} {v1 : Int} {v2 : Int} {v3 : Int} (hX : zK zXt d G) (K : ∃ o_1, zM zm_X7_at [zR 5, zI v1] (d, G, E) (some (zO o_1)) (d, G, E) ∧ (o_1 ≠ none → (v2 < 1 → ∃ b_6, o_1 = some b_6 ∧ zCk d G b_6 ∧ ∃ x_9, zM zm_X1_hasRewritingNumber [zR b_6, zI v2] (d, G, E) (some (zI x_9)) (d, G, E) ∧ (x_9 = 0 → Q (some (zI ((-2)))) (d, G, E)) ∧ (¬ (x_9 = 0) → zin (v2 - 11) ∧ ((0 : Int) ≤ (v2 - 11) ∧ (v2 - 11) < (32 : Int)) ∧ ∀ E_15, E_15 = zuE E (b_6 + 6) ((v2 - 11)) v3 → Q (some (zI 1)) (d, G, E_15))) ∧ (¬ (v2 < 1) → ∃ b_16, o_1 = some b_16 ∧ zCk d G b_16 ∧ ∃ x_19, zM zm_X1_kind [zR b_16] (d, G, E) (some (zI x_19)) (d, G, E) ∧ ((0 : Int) ≤ x_19 ∧ x_19 < (5 : Int)) ∧ ((zsv 0 x_19) < v2 → ∃ x_24, zM zm_X1_hasRewritingNumber [zR b_16, zI v2] (d, G, E) (some (zI x_24)) (d, G, E) ∧ (x_24 = 0 → Q (some (zI ((-2)))) (d, G, E)) ∧ (¬ (x_24 = 0) → zin (v2 - 11) ∧ ((0 : Int) ≤ (v2 - 11) ∧ (v2 - 11) < (32 : Int)) ∧ ∀ E_30, E_30 = zuE E (b_16 + 6) ((v2 - 11)) v3 → Q (some (zI 1)) (d, G, E_30))) ∧ (¬ ((zsv 0 x_19) < v2) → ((0 : Int) ≤ v2 ∧ v2 < (7 : Int)) ∧ ∀ E_32, E_32 = zuE E (b_16 + 5) v2 v3 → Q (some (zI 1)) (d, G, E_32)))) ∧ (¬ (o_1 ≠ none) → Q (some (zI ((-2)))) (d, G, E))) : Z zm_X11_forge kz Q 0 [(0, zR 0), (1, zI v1), (2, zI v2), (3, zI v3)] [] (d, G, E) := by
  refine Z.aload_n (k := 0) dX11_forge_0 rfl ?_
  refine Y.getR (o := some 5) 1 dX11_forge_1 zl_X11_19 (rfl) (by decide) rfl (zX_0_0 hX).2.1 (zX_0_1 hX).1 ?_
  refine Z.iload_n (k := 1) dX11_forge_4 rfl ?_
  obtain ⟨o_1, m_2, K⟩ := K
  refine Y.callV (g := zm_X7_at) (vs := [zI v1]) (st := []) dX11_forge_5 ⟨zg_X7_at.1, zg_X7_at.2.1, zg_X7_at.2.2, by decide⟩ ⟨zk_X11_170, zv_X7_at⟩ (ci := 7) (rfl) rfl ((zX_0_1 hX).2.2) rfl rfl (Nat.le_of_ble_eq_true rfl) m_2 (Or.inl rfl) ?_
  show Z zm_X11_forge kz Q 8 [(0, zR 0), (1, zI v1), (2, zI v2), (3, zI v3)] [zO o_1] (d, G, E)
  refine Z.astore (ls' := [(4, zO o_1), (0, zR 0), (1, zI v1), (2, zI v2), (3, zI v3)]) dX11_forge_8 (by decide) rfl ?_
  refine Z.aload (k := 0) dX11_forge_10 rfl ?_
  refine Z.ifnonnull 18 dX11_forge_12 rfl ⟨fun c_4 => ?_, fun c_4 => ?_⟩
  · replace K := K.1 c_4
    refine Z.iload_n (k := 3) dX11_forge_18 rfl ?_
    refine Z.iconst (n := 1) dX11_forge_19 ⟨by decide, by decide⟩ ?_
    refine Z.icmp_lt 46 dX11_forge_20 rfl ⟨fun c_5 => ?_, fun c_5 => ?_⟩
    · replace K := K.1 c_5
      refine Z.aload (k := 0) dX11_forge_46 rfl ?_
      refine Z.iload_n (k := 3) dX11_forge_48 rfl ?_
      obtain ⟨b_6, e_7, hc_8, K⟩ := K
      rw [e_7]
      obtain ⟨x_9, m_10, K⟩ := K
      refine Y.callV (g := zm_X1_hasRewritingNumber) (vs := [zI v2]) (st := []) dX11_forge_49 ⟨zg_X1_hasRewritingNumber.1, zg_X1_hasRewritingNumber.2.1, zg_X1_hasRewritingNumber.2.2, by decide⟩ ⟨zk_X11_220, zv_X1_hasRewritingNumber⟩ (ci := 1) (congrArg Prod.fst hc_8.1) rfl (hc_8.2.1) rfl rfl (Nat.le_of_ble_eq_true rfl) m_10 (Or.inl rfl) ?_
      show Z zm_X11_forge kz Q 52 [(4, zR b_6), (0, zR 0), (1, zI v1), (2, zI v2), (3, zI v3)] [zI x_9] (d, G, E)
      refine Z.if_eq 68 dX11_forge_52 rfl ⟨fun c_12 => ?_, fun c_12 => ?_⟩
      · replace K := K.1 c_12
        refine Z.bipush (n := -2) dX11_forge_68 ⟨by decide, by decide⟩ (by decide) ?_
        exact Z.iret (ty := .int) dX11_forge_70 rfl rfl K
      · replace K := K.2 c_12
        refine Z.aload (k := 0) dX11_forge_55 rfl ?_
        refine Y.getR (o := some (b_6 + 6)) 3 dX11_forge_57 zl_X11_223 (congrArg Prod.fst hc_8.1) (by decide) rfl hc_8.2.1 hc_8.2.2.2.2.2.2.2.2.2 ?_
        refine Z.iload_n (k := 3) dX11_forge_60 rfl ?_
        refine Z.bipush (n := 11) dX11_forge_61 ⟨by decide, by decide⟩ (by decide) ?_
        obtain ⟨z_13, K⟩ := K
        refine Z.isub dX11_forge_63 z_13 ?_
        refine Z.iload_n (k := 4) dX11_forge_64 rfl ?_
        obtain ⟨z_14, K⟩ := K
        refine Y.iast dX11_forge_65 (hc_8.2.2.2.2.2.2.2.1) (hc_8.2.2.2.2.2.2.2.2.1) z_14 ?_
        generalize eE_15 : zuE E (b_6 + 6) ((v2 - 11)) v3 = E_15
        replace K := K E_15 eE_15.symm
        refine Z.iconst (n := 1) dX11_forge_66 ⟨by decide, by decide⟩ ?_
        exact Z.iret (ty := .int) dX11_forge_67 rfl rfl K
    · replace K := K.2 c_5
      refine Z.iload_n (k := 3) dX11_forge_23 rfl ?_
      refine Z.gets (j := 0) dX11_forge_24 (by decide) zt_X11_226 ?_
      refine Z.aload (k := 0) dX11_forge_27 rfl ?_
      obtain ⟨b_16, e_17, hc_18, K⟩ := K
      rw [e_17]
      obtain ⟨x_19, m_20, K⟩ := K
      refine Y.callV (g := zm_X1_kind) (vs := []) (st := [zR ((190 + 0)), zI v2]) dX11_forge_29 ⟨zg_X1_kind.1, zg_X1_kind.2.1, zg_X1_kind.2.2, by decide⟩ ⟨zk_X11_229, zv_X1_kind⟩ (ci := 1) (congrArg Prod.fst hc_18.1) rfl (hc_18.2.1) rfl rfl (Nat.le_of_ble_eq_true rfl) m_20 (Or.inl rfl) ?_
      show Z zm_X11_forge kz Q 32 [(4, zR b_16), (0, zR 0), (1, zI v1), (2, zI v2), (3, zI v3)] [zI x_19, zR ((190 + 0)), zI v2] (d, G, E)
      obtain ⟨z_22, K⟩ := K
      refine Z.sald (j := 0) dX11_forge_32 (by decide) z_22 ?_
      refine Z.icmp_gt 46 dX11_forge_33 rfl ⟨fun c_23 => ?_, fun c_23 => ?_⟩
      · replace K := K.1 c_23
        refine Z.aload (k := 0) dX11_forge_46 rfl ?_
        refine Z.iload_n (k := 3) dX11_forge_48 rfl ?_
        obtain ⟨x_24, m_25, K⟩ := K
        refine Y.callV (g := zm_X1_hasRewritingNumber) (vs := [zI v2]) (st := []) dX11_forge_49 ⟨zg_X1_hasRewritingNumber.1, zg_X1_hasRewritingNumber.2.1, zg_X1_hasRewritingNumber.2.2, by decide⟩ ⟨zk_X11_220, zv_X1_hasRewritingNumber⟩ (ci := 1) (congrArg Prod.fst hc_18.1) rfl (hc_18.2.1) rfl rfl (Nat.le_of_ble_eq_true rfl) m_25 (Or.inl rfl) ?_
        show Z zm_X11_forge kz Q 52 [(4, zR b_16), (0, zR 0), (1, zI v1), (2, zI v2), (3, zI v3)] [zI x_24] (d, G, E)
        refine Z.if_eq 68 dX11_forge_52 rfl ⟨fun c_27 => ?_, fun c_27 => ?_⟩
        · replace K := K.1 c_27
          refine Z.bipush (n := -2) dX11_forge_68 ⟨by decide, by decide⟩ (by decide) ?_
          exact Z.iret (ty := .int) dX11_forge_70 rfl rfl K
        · replace K := K.2 c_27
          refine Z.aload (k := 0) dX11_forge_55 rfl ?_
          refine Y.getR (o := some (b_16 + 6)) 3 dX11_forge_57 zl_X11_223 (congrArg Prod.fst hc_18.1) (by decide) rfl hc_18.2.1 hc_18.2.2.2.2.2.2.2.2.2 ?_
          refine Z.iload_n (k := 3) dX11_forge_60 rfl ?_
          refine Z.bipush (n := 11) dX11_forge_61 ⟨by decide, by decide⟩ (by decide) ?_
          obtain ⟨z_28, K⟩ := K
          refine Z.isub dX11_forge_63 z_28 ?_
          refine Z.iload_n (k := 4) dX11_forge_64 rfl ?_
          obtain ⟨z_29, K⟩ := K
          refine Y.iast dX11_forge_65 (hc_18.2.2.2.2.2.2.2.1) (hc_18.2.2.2.2.2.2.2.2.1) z_29 ?_
          generalize eE_30 : zuE E (b_16 + 6) ((v2 - 11)) v3 = E_30
          replace K := K E_30 eE_30.symm
          refine Z.iconst (n := 1) dX11_forge_66 ⟨by decide, by decide⟩ ?_
          exact Z.iret (ty := .int) dX11_forge_67 rfl rfl K
      · replace K := K.2 c_23
        refine Z.aload (k := 0) dX11_forge_36 rfl ?_
        refine Y.getR (o := some (b_16 + 5)) 2 dX11_forge_38 zl_X11_216 (congrArg Prod.fst hc_18.1) (by decide) rfl hc_18.2.1 hc_18.2.2.2.2.2.2.1 ?_
        refine Z.iload_n (k := 3) dX11_forge_41 rfl ?_
        refine Z.iload_n (k := 4) dX11_forge_42 rfl ?_
        obtain ⟨z_31, K⟩ := K
        refine Y.iast dX11_forge_43 (hc_18.2.2.2.2.1) (hc_18.2.2.2.2.2.1) z_31 ?_
        generalize eE_32 : zuE E (b_16 + 5) v2 v3 = E_32
        replace K := K E_32 eE_32.symm
        refine Z.iconst (n := 1) dX11_forge_44 ⟨by decide, by decide⟩ ?_
        exact Z.iret (ty := .int) dX11_forge_45 rfl rfl K
  · replace K := K.2 c_4
    refine Z.bipush (n := -2) dX11_forge_15 ⟨by decide, by decide⟩ (by decide) ?_
    exact Z.iret (ty := .int) dX11_forge_17 rfl rfl K
set_option maxRecDepth 20000 in
theorem X11_judge_0 {kz : Nat × Nat} {Q : Option zV → zH → Prop} {d : List Nat} {G : Nat → Int → Option Nat} {E : Nat → Int → Int} {v1 : Int} (hX : zK zXt d G) (K : ∃ o_1, zM zm_X7_at [zR 5, zI v1] (d, G, E) (some (zO o_1)) (d, G, E) ∧ (o_1 ≠ none → ∃ b_5, o_1 = some b_5 ∧ zCk d G b_5 ∧ ∃ x_8, zM zm_X1_kind [zR b_5] (d, G, E) (some (zI x_8)) (d, G, E) ∧ (x_8 ≠ 0 → ∃ x_12 E_13, zM zm_X3_make [zR 41, zR (b_5 + 5), zI v1, zR 10] (d, G, E) (some (zI x_12)) (d, G, E_13) ∧ (x_12 = 2 → ∃ x_17 E_18, zM zm_X2_clean [zR 30, zR 10] (d, G, E_13) (some (zI x_17)) (d, G, E_18) ∧ (x_17 ≠ 0 → Z zm_X11_judge kz Q 84 [(0, zR 0), (1, zI v1), (2, zR b_5), (3, zI 0)] [] (d, G, E_18)) ∧ (¬ (x_17 ≠ 0) → Q (some (zI 0)) (d, G, E_18))) ∧ (¬ (x_12 = 2) → Q (some (zI 0)) (d, G, E_13))) ∧ (¬ (x_8 ≠ 0) → ((G b_5 1) = none → ∃ x_23 E_24, zM zm_X3_make [zR 41, zR (b_5 + 5), zI v1, zR 10] (d, G, E) (some (zI x_23)) (d, G, E_24) ∧ (x_23 = 2 → ∃ x_28 E_29, zM zm_X2_clean [zR 30, zR 10] (d, G, E_24) (some (zI x_28)) (d, G, E_29) ∧ (x_28 ≠ 0 → Z zm_X11_judge kz Q 84 [(0, zR 0), (1, zI v1), (2, zR b_5), (3, zI 0)] [] (d, G, E_29)) ∧ (¬ (x_28 ≠ 0) → Q (some (zI 0)) (d, G, E_29))) ∧ (¬ (x_23 = 2) → Q (some (zI 0)) (d, G, E_24))) ∧ (¬ ((G b_5 1) = none) → ∃ E_33, zM zm_X5_copy [zR 10, zO ((G b_5 1))] (d, G, E) none (d, G, E_33) ∧ ∃ x_36 E_37, zM zm_X2_clean [zR 30, zR 10] (d, G, E_33) (some (zI x_36)) (d, G, E_37) ∧ (x_36 ≠ 0 → Z zm_X11_judge kz Q 84 [(0, zR 0), (1, zI v1), (2, zR b_5), (3, zI 0)] [] (d, G, E_37)) ∧ (¬ (x_36 ≠ 0) → Q (some (zI 0)) (d, G, E_37))))) ∧ (¬ (o_1 ≠ none) → Q (some (zI ((-2)))) (d, G, E))) : Z zm_X11_judge kz Q 0 [(0, zR 0), (1, zI v1)] [] (d, G, E) := by
  refine Z.aload_n (k := 0) dX11_judge_0 rfl ?_
  refine Y.getR (o := some 5) 1 dX11_judge_1 zl_X11_19 (rfl) (by decide) rfl (zX_0_0 hX).2.1 (zX_0_1 hX).1 ?_
  refine Z.iload_n (k := 1) dX11_judge_4 rfl ?_
  obtain ⟨o_1, m_2, K⟩ := K
  refine Y.callV (g := zm_X7_at) (vs := [zI v1]) (st := []) dX11_judge_5 ⟨zg_X7_at.1, zg_X7_at.2.1, zg_X7_at.2.2, by decide⟩ ⟨zk_X11_170, zv_X7_at⟩ (ci := 7) (rfl) rfl ((zX_0_1 hX).2.2) rfl rfl (Nat.le_of_ble_eq_true rfl) m_2 (Or.inl rfl) ?_
  show Z zm_X11_judge kz Q 8 [(0, zR 0), (1, zI v1)] [zO o_1] (d, G, E)
  refine Z.astore_n (ls' := [(2, zO o_1), (0, zR 0), (1, zI v1)]) dX11_judge_8 (by decide) rfl ?_
  refine Z.aload_n (k := 0) dX11_judge_9 rfl ?_
  refine Z.ifnonnull 16 dX11_judge_10 rfl ⟨fun c_4 => ?_, fun c_4 => ?_⟩
  · replace K := K.1 c_4
    refine Z.aload_n (k := 0) dX11_judge_16 rfl ?_
    obtain ⟨b_5, e_6, hc_7, K⟩ := K
    rw [e_6]
    obtain ⟨x_8, m_9, K⟩ := K
    refine Y.callV (g := zm_X1_kind) (vs := []) (st := []) dX11_judge_17 ⟨zg_X1_kind.1, zg_X1_kind.2.1, zg_X1_kind.2.2, by decide⟩ ⟨zk_X11_229, zv_X1_kind⟩ (ci := 1) (congrArg Prod.fst hc_7.1) rfl (hc_7.2.1) rfl rfl (Nat.le_of_ble_eq_true rfl) m_9 (Or.inl rfl) ?_
    show Z zm_X11_judge kz Q 20 [(2, zR b_5), (0, zR 0), (1, zI v1)] [zI x_8] (d, G, E)
    refine Z.if_ne 44 dX11_judge_20 rfl ⟨fun c_11 => ?_, fun c_11 => ?_⟩
    · replace K := K.1 c_11
      refine Z.aload_n (k := 1) dX11_judge_44 rfl ?_
      refine Y.getR (o := some 41) 10 dX11_judge_45 zl_X11_83 (rfl) (by decide) rfl (zX_0_0 hX).2.1 (zX_0_10 hX).1 ?_
      refine Z.aload_n (k := 0) dX11_judge_48 rfl ?_
      refine Y.getR (o := some (b_5 + 5)) 2 dX11_judge_49 zl_X11_216 (congrArg Prod.fst hc_7.1) (by decide) rfl hc_7.2.1 hc_7.2.2.2.2.2.2.1 ?_
      refine Z.iload_n (k := 2) dX11_judge_52 rfl ?_
      refine Z.aload_n (k := 1) dX11_judge_53 rfl ?_
      refine Y.getR (o := some 10) 3 dX11_judge_54 zl_X11_30 (rfl) (by decide) rfl (zX_0_0 hX).2.1 (zX_0_3 hX).1 ?_
      obtain ⟨x_12, E_13, m_14, K⟩ := K
      refine Y.callV (g := zm_X3_make) (vs := [zR (b_5 + 5), zI v1, zR 10]) (st := []) dX11_judge_57 ⟨zg_X3_make.1, zg_X3_make.2.1, zg_X3_make.2.2, by decide⟩ ⟨zk_X11_163, zv_X3_make⟩ (ci := 3) (rfl) rfl ((zX_0_10 hX).2.2) rfl rfl (Nat.le_of_ble_eq_true rfl) m_14 (Or.inl rfl) ?_
      show Z zm_X11_judge kz Q 60 [(2, zR b_5), (0, zR 0), (1, zI v1)] [zI x_12] (d, G, E_13)
      refine Z.iconst (n := 2) dX11_judge_60 ⟨by decide, by decide⟩ ?_
      refine Z.icmp_eq 66 dX11_judge_61 rfl ⟨fun c_16 => ?_, fun c_16 => ?_⟩
      · replace K := K.1 c_16
        refine Z.aload_n (k := 1) dX11_judge_66 rfl ?_
        refine Y.getR (o := some 30) 7 dX11_judge_67 zl_X11_58 (rfl) (by decide) rfl (zX_0_0 hX).2.1 (zX_0_7 hX).1 ?_
        refine Z.aload_n (k := 1) dX11_judge_70 rfl ?_
        refine Y.getR (o := some 10) 3 dX11_judge_71 zl_X11_30 (rfl) (by decide) rfl (zX_0_0 hX).2.1 (zX_0_3 hX).1 ?_
        obtain ⟨x_17, E_18, m_19, K⟩ := K
        refine Y.callV (g := zm_X2_clean) (vs := [zR 10]) (st := []) dX11_judge_74 ⟨zg_X2_clean.1, zg_X2_clean.2.1, zg_X2_clean.2.2, by decide⟩ ⟨zk_X11_233, zv_X2_clean⟩ (ci := 2) (rfl) rfl ((zX_0_7 hX).2.2) rfl rfl (Nat.le_of_ble_eq_true rfl) m_19 (Or.inl rfl) ?_
        show Z zm_X11_judge kz Q 77 [(2, zR b_5), (0, zR 0), (1, zI v1)] [zI x_17] (d, G, E_18)
        refine Z.if_ne 82 dX11_judge_77 rfl ⟨fun c_21 => ?_, fun c_21 => ?_⟩
        · replace K := K.1 c_21
          refine Z.iconst (n := 0) dX11_judge_82 ⟨by decide, by decide⟩ ?_
          refine Z.istore_n (ls' := [(3, zI 0), (2, zR b_5), (0, zR 0), (1, zI v1)]) dX11_judge_83 (by decide) rfl ?_
          refine Z.pick (ls' := [(0, zR 0), (1, zI v1), (2, zR b_5), (3, zI 0)]) [2, 3, 1, 0] rfl ?_
          exact K
        · replace K := K.2 c_21
          refine Z.iconst (n := 0) dX11_judge_80 ⟨by decide, by decide⟩ ?_
          exact Z.iret (ty := .int) dX11_judge_81 rfl rfl K
      · replace K := K.2 c_16
        refine Z.iconst (n := 0) dX11_judge_64 ⟨by decide, by decide⟩ ?_
        exact Z.iret (ty := .int) dX11_judge_65 rfl rfl K
    · replace K := K.2 c_11
      refine Z.aload_n (k := 0) dX11_judge_23 rfl ?_
      refine Y.getR (o := (G b_5 1)) 1 dX11_judge_24 zl_X11_232 (congrArg Prod.fst hc_7.1) (by decide) rfl hc_7.2.1 rfl ?_
      refine Z.ifnull 44 dX11_judge_27 rfl ⟨fun c_22 => ?_, fun c_22 => ?_⟩
      · replace K := K.1 c_22
        refine Z.aload_n (k := 1) dX11_judge_44 rfl ?_
        refine Y.getR (o := some 41) 10 dX11_judge_45 zl_X11_83 (rfl) (by decide) rfl (zX_0_0 hX).2.1 (zX_0_10 hX).1 ?_
        refine Z.aload_n (k := 0) dX11_judge_48 rfl ?_
        refine Y.getR (o := some (b_5 + 5)) 2 dX11_judge_49 zl_X11_216 (congrArg Prod.fst hc_7.1) (by decide) rfl hc_7.2.1 hc_7.2.2.2.2.2.2.1 ?_
        refine Z.iload_n (k := 2) dX11_judge_52 rfl ?_
        refine Z.aload_n (k := 1) dX11_judge_53 rfl ?_
        refine Y.getR (o := some 10) 3 dX11_judge_54 zl_X11_30 (rfl) (by decide) rfl (zX_0_0 hX).2.1 (zX_0_3 hX).1 ?_
        obtain ⟨x_23, E_24, m_25, K⟩ := K
        refine Y.callV (g := zm_X3_make) (vs := [zR (b_5 + 5), zI v1, zR 10]) (st := []) dX11_judge_57 ⟨zg_X3_make.1, zg_X3_make.2.1, zg_X3_make.2.2, by decide⟩ ⟨zk_X11_163, zv_X3_make⟩ (ci := 3) (rfl) rfl ((zX_0_10 hX).2.2) rfl rfl (Nat.le_of_ble_eq_true rfl) m_25 (Or.inl rfl) ?_
        show Z zm_X11_judge kz Q 60 [(2, zR b_5), (0, zR 0), (1, zI v1)] [zI x_23] (d, G, E_24)
        refine Z.iconst (n := 2) dX11_judge_60 ⟨by decide, by decide⟩ ?_
        refine Z.icmp_eq 66 dX11_judge_61 rfl ⟨fun c_27 => ?_, fun c_27 => ?_⟩
        · replace K := K.1 c_27
          refine Z.aload_n (k := 1) dX11_judge_66 rfl ?_
          refine Y.getR (o := some 30) 7 dX11_judge_67 zl_X11_58 (rfl) (by decide) rfl (zX_0_0 hX).2.1 (zX_0_7 hX).1 ?_
          refine Z.aload_n (k := 1) dX11_judge_70 rfl ?_
          refine Y.getR (o := some 10) 3 dX11_judge_71 zl_X11_30 (rfl) (by decide) rfl (zX_0_0 hX).2.1 (zX_0_3 hX).1 ?_
          obtain ⟨x_28, E_29, m_30, K⟩ := K
          refine Y.callV (g := zm_X2_clean) (vs := [zR 10]) (st := []) dX11_judge_74 ⟨zg_X2_clean.1, zg_X2_clean.2.1, zg_X2_clean.2.2, by decide⟩ ⟨zk_X11_233, zv_X2_clean⟩ (ci := 2) (rfl) rfl ((zX_0_7 hX).2.2) rfl rfl (Nat.le_of_ble_eq_true rfl) m_30 (Or.inl rfl) ?_
          show Z zm_X11_judge kz Q 77 [(2, zR b_5), (0, zR 0), (1, zI v1)] [zI x_28] (d, G, E_29)
          refine Z.if_ne 82 dX11_judge_77 rfl ⟨fun c_32 => ?_, fun c_32 => ?_⟩
          · replace K := K.1 c_32
            refine Z.iconst (n := 0) dX11_judge_82 ⟨by decide, by decide⟩ ?_
            refine Z.istore_n (ls' := [(3, zI 0), (2, zR b_5), (0, zR 0), (1, zI v1)]) dX11_judge_83 (by decide) rfl ?_
            refine Z.pick (ls' := [(0, zR 0), (1, zI v1), (2, zR b_5), (3, zI 0)]) [2, 3, 1, 0] rfl ?_
            exact K
          · replace K := K.2 c_32
            refine Z.iconst (n := 0) dX11_judge_80 ⟨by decide, by decide⟩ ?_
            exact Z.iret (ty := .int) dX11_judge_81 rfl rfl K
        · replace K := K.2 c_27
          refine Z.iconst (n := 0) dX11_judge_64 ⟨by decide, by decide⟩ ?_
          exact Z.iret (ty := .int) dX11_judge_65 rfl rfl K
      · replace K := K.2 c_22
        refine Z.aload_n (k := 1) dX11_judge_30 rfl ?_
        refine Y.getR (o := some 10) 3 dX11_judge_31 zl_X11_30 (rfl) (by decide) rfl (zX_0_0 hX).2.1 (zX_0_3 hX).1 ?_
        refine Z.aload_n (k := 0) dX11_judge_34 rfl ?_
        refine Y.getR (o := (G b_5 1)) 1 dX11_judge_35 zl_X11_232 (congrArg Prod.fst hc_7.1) (by decide) rfl hc_7.2.1 rfl ?_
        obtain ⟨E_33, m_34, K⟩ := K
        refine Y.callV (g := zm_X5_copy) (vs := [zO ((G b_5 1))]) (st := []) dX11_judge_38 ⟨zg_X5_copy.1, zg_X5_copy.2.1, zg_X5_copy.2.2, by decide⟩ ⟨zk_X11_135, zv_X5_copy⟩ (ci := 5) (rfl) rfl ((zX_0_3 hX).2.2) rfl rfl (Nat.le_of_ble_eq_true rfl) m_34 (Or.inl rfl) ?_
        show Z zm_X11_judge kz Q 41 [(2, zR b_5), (0, zR 0), (1, zI v1)] [] (d, G, E_33)
        refine Z.goto 66 dX11_judge_41 rfl ?_
        refine Z.aload_n (k := 1) dX11_judge_66 rfl ?_
        refine Y.getR (o := some 30) 7 dX11_judge_67 zl_X11_58 (rfl) (by decide) rfl (zX_0_0 hX).2.1 (zX_0_7 hX).1 ?_
        refine Z.aload_n (k := 1) dX11_judge_70 rfl ?_
        refine Y.getR (o := some 10) 3 dX11_judge_71 zl_X11_30 (rfl) (by decide) rfl (zX_0_0 hX).2.1 (zX_0_3 hX).1 ?_
        obtain ⟨x_36, E_37, m_38, K⟩ := K
        refine Y.callV (g := zm_X2_clean) (vs := [zR 10]) (st := []) dX11_judge_74 ⟨zg_X2_clean.1, zg_X2_clean.2.1, zg_X2_clean.2.2, by decide⟩ ⟨zk_X11_233, zv_X2_clean⟩ (ci := 2) (rfl) rfl ((zX_0_7 hX).2.2) rfl rfl (Nat.le_of_ble_eq_true rfl) m_38 (Or.inl rfl) ?_
        show Z zm_X11_judge kz Q 77 [(2, zR b_5), (0, zR 0), (1, zI v1)] [zI x_36] (d, G, E_37)
        refine Z.if_ne 82 dX11_judge_77 rfl ⟨fun c_40 => ?_, fun c_40 => ?_⟩
        · replace K := K.1 c_40
          refine Z.iconst (n := 0) dX11_judge_82 ⟨by decide, by decide⟩ ?_
          refine Z.istore_n (ls' := [(3, zI 0), (2, zR b_5), (0, zR 0), (1, zI v1)]) dX11_judge_83 (by decide) rfl ?_
          refine Z.pick (ls' := [(0, zR 0), (1, zI v1), (2, zR b_5), (3, zI 0)]) [2, 3, 1, 0] rfl ?_
          exact K
        · replace K := K.2 c_40
          refine Z.iconst (n := 0) dX11_judge_80 ⟨by decide, by decide⟩ ?_
          exact Z.iret (ty := .int) dX11_judge_81 rfl rfl K
  · replace K := K.2 c_4
    refine Z.bipush (n := -2) dX11_judge_13 ⟨by decide, by decide⟩ (by decide) ?_
    exact Z.iret (ty := .int) dX11_judge_15 rfl rfl K
set_option maxRecDepth 20000 in
theorem X11_judge_84 {kz : Nat × Nat} {Q : Option zV → zH → Prop} {d : List Nat} {G : Nat → Int → Option Nat} {E : Nat → Int → Int} {v1 : Int} {o2 : Option Nat} {v3 : Int} (hX : zK zXt d G) (K : ∃ b_1, o2 = some b_1 ∧ zCk d G b_1 ∧ ((E b_1 4) ≤ v3 → ∃ x_5, zM zm_X5_same [zR 10, zR ((b_1 + 1))] (d, G, E) (some (zI x_5)) (d, G, E) ∧ (x_5 = 0 → Q (some (zI 0)) (d, G, E)) ∧ (¬ (x_5 = 0) → Q (some (zI 1)) (d, G, E))) ∧ (¬ ((E b_1 4) ≤ v3) → ∃ x_9 E_10, zM zm_X4_again [zR 36, zR b_1, zI v3, zI v1, zR 10] (d, G, E) (some (zI x_9)) (d, G, E_10) ∧ (x_9 ≠ 0 → ∃ x_14 E_15, zM zm_X2_clean [zR 30, zR 10] (d, G, E_10) (some (zI x_14)) (d, G, E_15) ∧ zin (v3 + 1) ∧ Z zm_X11_judge kz Q 84 [(0, zR 0), (1, zI v1), (2, zR b_1), (3, zI ((v3 + 1)))] [] (d, G, E_15)) ∧ (¬ (x_9 ≠ 0) → Q (some (zI 0)) (d, G, E_10)))) : Z zm_X11_judge kz Q 84 [(0, zR 0), (1, zI v1), (2, zO o2), (3, zI v3)] [] (d, G, E) := by
  refine Z.iload_n (k := 3) dX11_judge_84 rfl ?_
  refine Z.aload_n (k := 2) dX11_judge_85 rfl ?_
  obtain ⟨b_1, e_2, hc_3, K⟩ := K
  rw [e_2]
  refine Y.getI 4 dX11_judge_86 zl_X11_217 (congrArg Prod.fst hc_3.1) (by decide) rfl hc_3.2.1 ?_
  refine Z.icmp_ge 129 dX11_judge_89 rfl ⟨fun c_4 => ?_, fun c_4 => ?_⟩
  · replace K := K.1 c_4
    refine Z.aload_n (k := 0) dX11_judge_129 rfl ?_
    refine Y.getR (o := some 10) 3 dX11_judge_130 zl_X11_30 (rfl) (by decide) rfl (zX_0_0 hX).2.1 (zX_0_3 hX).1 ?_
    refine Z.aload_n (k := 2) dX11_judge_133 rfl ?_
    refine Y.getR (o := some ((b_1 + 1))) 0 dX11_judge_134 zl_X11_174 (congrArg Prod.fst hc_3.1) (by decide) rfl hc_3.2.1 hc_3.2.2.2.1 ?_
    obtain ⟨x_5, m_6, K⟩ := K
    refine Y.callV (g := zm_X5_same) (vs := [zR ((b_1 + 1))]) (st := []) dX11_judge_137 ⟨zg_X5_same.1, zg_X5_same.2.1, zg_X5_same.2.2, by decide⟩ ⟨zk_X11_241, zv_X5_same⟩ (ci := 5) (rfl) rfl ((zX_0_3 hX).2.2) rfl rfl (Nat.le_of_ble_eq_true rfl) m_6 (Or.inl rfl) ?_
    show Z zm_X11_judge kz Q 140 [(0, zR 0), (1, zI v1), (2, zR b_1), (3, zI v3)] [zI x_5] (d, G, E)
    refine Z.if_eq 147 dX11_judge_140 rfl ⟨fun c_8 => ?_, fun c_8 => ?_⟩
    · replace K := K.1 c_8
      refine Z.iconst (n := 0) dX11_judge_147 ⟨by decide, by decide⟩ ?_
      exact Z.iret (ty := .int) dX11_judge_148 rfl rfl K
    · replace K := K.2 c_8
      refine Z.iconst (n := 1) dX11_judge_143 ⟨by decide, by decide⟩ ?_
      refine Z.goto 148 dX11_judge_144 rfl ?_
      exact Z.iret (ty := .int) dX11_judge_148 rfl rfl K
  · replace K := K.2 c_4
    refine Z.aload_n (k := 0) dX11_judge_92 rfl ?_
    refine Y.getR (o := some 36) 9 dX11_judge_93 zl_X11_76 (rfl) (by decide) rfl (zX_0_0 hX).2.1 (zX_0_9 hX).1 ?_
    refine Z.aload_n (k := 2) dX11_judge_96 rfl ?_
    refine Z.iload_n (k := 3) dX11_judge_97 rfl ?_
    refine Z.iload_n (k := 1) dX11_judge_98 rfl ?_
    refine Z.aload_n (k := 0) dX11_judge_99 rfl ?_
    refine Y.getR (o := some 10) 3 dX11_judge_100 zl_X11_30 (rfl) (by decide) rfl (zX_0_0 hX).2.1 (zX_0_3 hX).1 ?_
    obtain ⟨x_9, E_10, m_11, K⟩ := K
    refine Y.callV (g := zm_X4_again) (vs := [zR b_1, zI v3, zI v1, zR 10]) (st := []) dX11_judge_103 ⟨zg_X4_again.1, zg_X4_again.2.1, zg_X4_again.2.2, by decide⟩ ⟨zk_X11_237, zv_X4_again⟩ (ci := 4) (rfl) rfl ((zX_0_9 hX).2.2) rfl rfl (Nat.le_of_ble_eq_true rfl) m_11 (Or.inl rfl) ?_
    show Z zm_X11_judge kz Q 106 [(0, zR 0), (1, zI v1), (2, zR b_1), (3, zI v3)] [zI x_9] (d, G, E_10)
    refine Z.if_ne 111 dX11_judge_106 rfl ⟨fun c_13 => ?_, fun c_13 => ?_⟩
    · replace K := K.1 c_13
      refine Z.aload_n (k := 0) dX11_judge_111 rfl ?_
      refine Y.getR (o := some 30) 7 dX11_judge_112 zl_X11_58 (rfl) (by decide) rfl (zX_0_0 hX).2.1 (zX_0_7 hX).1 ?_
      refine Z.aload_n (k := 0) dX11_judge_115 rfl ?_
      refine Y.getR (o := some 10) 3 dX11_judge_116 zl_X11_30 (rfl) (by decide) rfl (zX_0_0 hX).2.1 (zX_0_3 hX).1 ?_
      obtain ⟨x_14, E_15, m_16, K⟩ := K
      refine Y.callV (g := zm_X2_clean) (vs := [zR 10]) (st := []) dX11_judge_119 ⟨zg_X2_clean.1, zg_X2_clean.2.1, zg_X2_clean.2.2, by decide⟩ ⟨zk_X11_233, zv_X2_clean⟩ (ci := 2) (rfl) rfl ((zX_0_7 hX).2.2) rfl rfl (Nat.le_of_ble_eq_true rfl) m_16 (Or.inl rfl) ?_
      show Z zm_X11_judge kz Q 122 [(0, zR 0), (1, zI v1), (2, zR b_1), (3, zI v3)] [zI x_14] (d, G, E_15)
      refine Z.pop_i dX11_judge_122 (fun _ => rfl) ?_
      obtain ⟨z_18, K⟩ := K
      refine Z.iinc (k := 3) (ls' := [(3, zI ((v3 + 1))), (0, zR 0), (1, zI v1), (2, zR b_1)]) dX11_judge_123 rfl (by decide) z_18 rfl ?_
      refine Z.goto 84 dX11_judge_126 rfl ?_
      refine Z.pick (ls' := [(0, zR 0), (1, zI v1), (2, zR b_1), (3, zI ((v3 + 1)))]) [1, 2, 3, 0] rfl ?_
      exact K
    · replace K := K.2 c_13
      refine Z.iconst (n := 0) dX11_judge_109 ⟨by decide, by decide⟩ ?_
      exact Z.iret (ty := .int) dX11_judge_110 rfl rfl K
set_option maxRecDepth 20000 in
theorem X11_proof_0 {kz : Nat × Nat} {Q : Option zV → zH → Prop} {d : List Nat} {G : Nat → Int → Option Nat} {E : Nat → Int → Int} {v1 : Int} (hX : zK zXt d G) (K : ((E 0 15) ≠ 1 → Q (some (zI ((-1)))) (d, G, E)) ∧ (¬ ((E 0 15) ≠ 1) → (0 ≤ v1 → ∃ E_3, zM zm_X7_markProof [zR 5] (d, G, E) none (d, G, E_3) ∧ Z zm_X11_proof kz Q 25 [(0, zR 0), (1, zI v1), (2, zI 0), (3, zI 0)] [] (d, G, E_3)) ∧ (¬ (0 ≤ v1) → Q (some (zI ((-1)))) (d, G, E)))) : Z zm_X11_proof kz Q 0 [(0, zR 0), (1, zI v1)] [] (d, G, E) := by
  refine Z.aload_n (k := 0) dX11_proof_0 rfl ?_
  refine Y.getI 15 dX11_proof_1 zl_X11_106 (rfl) (by decide) rfl (zX_0_0 hX).2.1 ?_
  refine Z.iconst (n := 1) dX11_proof_4 ⟨by decide, by decide⟩ ?_
  refine Z.icmp_ne 12 dX11_proof_5 rfl ⟨fun c_1 => ?_, fun c_1 => ?_⟩
  · replace K := K.1 c_1
    refine Z.iconst (n := -1) dX11_proof_12 ⟨by decide, by decide⟩ ?_
    exact Z.iret (ty := .int) dX11_proof_13 rfl rfl K
  · replace K := K.2 c_1
    refine Z.iload_n (k := 1) dX11_proof_8 rfl ?_
    refine Z.if_ge 14 dX11_proof_9 rfl ⟨fun c_2 => ?_, fun c_2 => ?_⟩
    · replace K := K.1 c_2
      refine Z.aload_n (k := 0) dX11_proof_14 rfl ?_
      refine Y.getR (o := some 5) 1 dX11_proof_15 zl_X11_19 (rfl) (by decide) rfl (zX_0_0 hX).2.1 (zX_0_1 hX).1 ?_
      obtain ⟨E_3, m_4, K⟩ := K
      refine Y.callV (g := zm_X7_markProof) (vs := []) (st := []) dX11_proof_18 ⟨zg_X7_markProof.1, zg_X7_markProof.2.1, zg_X7_markProof.2.2, by decide⟩ ⟨zk_X11_244, zv_X7_markProof⟩ (ci := 7) (rfl) rfl ((zX_0_1 hX).2.2) rfl rfl (Nat.le_of_ble_eq_true rfl) m_4 (Or.inl rfl) ?_
      show Z zm_X11_proof kz Q 21 [(0, zR 0), (1, zI v1)] [] (d, G, E_3)
      refine Z.iconst (n := 0) dX11_proof_21 ⟨by decide, by decide⟩ ?_
      refine Z.istore_n (ls' := [(2, zI 0), (0, zR 0), (1, zI v1)]) dX11_proof_22 (by decide) rfl ?_
      refine Z.iconst (n := 0) dX11_proof_23 ⟨by decide, by decide⟩ ?_
      refine Z.istore_n (ls' := [(3, zI 0), (2, zI 0), (0, zR 0), (1, zI v1)]) dX11_proof_24 (by decide) rfl ?_
      refine Z.pick (ls' := [(0, zR 0), (1, zI v1), (2, zI 0), (3, zI 0)]) [2, 3, 1, 0] rfl ?_
      exact K
    · replace K := K.2 c_2
      refine Z.iconst (n := -1) dX11_proof_12 ⟨by decide, by decide⟩ ?_
      exact Z.iret (ty := .int) dX11_proof_13 rfl rfl K
set_option maxRecDepth 20000 in
theorem X11_proof_25 {kz : Nat × Nat} {Q : Option zV → zH → Prop} {d : List Nat} {G : Nat → Int → Option Nat} {E : Nat → Int → Int} {v1 : Int} {v2 : Int} {v3 : Int} (hX : zK zXt d G) (K : ((E 5 4) ≤ v3 → Q (some (zI ((-1)))) (d, G, E)) ∧ (¬ ((E 5 4) ≤ v3) → ((0 : Int) ≤ v3 ∧ v3 < (150 : Int)) ∧ ((E 7 v3) = 0 → zin (v3 + 1) ∧ Z zm_X11_proof kz Q 25 [(0, zR 0), (1, zI v1), (2, zI v2), (3, zI ((v3 + 1)))] [] (d, G, E)) ∧ (¬ ((E 7 v3) = 0) → (v2 ≠ v1 → zin (v2 + 1) ∧ zin (v3 + 1) ∧ Z zm_X11_proof kz Q 25 [(0, zR 0), (1, zI v1), (2, zI ((v2 + 1))), (3, zI ((v3 + 1)))] [] (d, G, E)) ∧ (¬ (v2 ≠ v1) → Q (some (zI v3)) (d, G, E))))) : Z zm_X11_proof kz Q 25 [(0, zR 0), (1, zI v1), (2, zI v2), (3, zI v3)] [] (d, G, E) := by
  refine Z.iload_n (k := 3) dX11_proof_25 rfl ?_
  refine Z.aload_n (k := 0) dX11_proof_26 rfl ?_
  refine Y.getR (o := some 5) 1 dX11_proof_27 zl_X11_19 (rfl) (by decide) rfl (zX_0_0 hX).2.1 (zX_0_1 hX).1 ?_
  refine Y.getI 4 dX11_proof_30 zl_X11_124 (rfl) (by decide) rfl (zX_0_1 hX).2.2 ?_
  refine Z.icmp_ge 64 dX11_proof_33 rfl ⟨fun c_1 => ?_, fun c_1 => ?_⟩
  · replace K := K.1 c_1
    refine Z.iconst (n := -1) dX11_proof_64 ⟨by decide, by decide⟩ ?_
    exact Z.iret (ty := .int) dX11_proof_65 rfl rfl K
  · replace K := K.2 c_1
    refine Z.aload_n (k := 0) dX11_proof_36 rfl ?_
    refine Y.getR (o := some 5) 1 dX11_proof_37 zl_X11_19 (rfl) (by decide) rfl (zX_0_0 hX).2.1 (zX_0_1 hX).1 ?_
    refine Y.getR (o := some 7) 1 dX11_proof_40 zl_X11_247 (rfl) (by decide) rfl (zX_0_1 hX).2.2 (zX_5_1 hX).1 ?_
    refine Z.iload_n (k := 3) dX11_proof_43 rfl ?_
    obtain ⟨z_2, K⟩ := K
    refine Y.zald dX11_proof_44 (rfl) ((zX_5_1 hX).2.2) z_2 ?_
    refine Z.if_eq 58 dX11_proof_45 rfl ⟨fun c_3 => ?_, fun c_3 => ?_⟩
    · replace K := K.1 c_3
      obtain ⟨z_4, K⟩ := K
      refine Z.iinc (k := 3) (ls' := [(3, zI ((v3 + 1))), (0, zR 0), (1, zI v1), (2, zI v2)]) dX11_proof_58 rfl (by decide) z_4 rfl ?_
      refine Z.goto 25 dX11_proof_61 rfl ?_
      refine Z.pick (ls' := [(0, zR 0), (1, zI v1), (2, zI v2), (3, zI ((v3 + 1)))]) [1, 2, 3, 0] rfl ?_
      exact K
    · replace K := K.2 c_3
      refine Z.iload_n (k := 2) dX11_proof_48 rfl ?_
      refine Z.iload_n (k := 1) dX11_proof_49 rfl ?_
      refine Z.icmp_ne 55 dX11_proof_50 rfl ⟨fun c_5 => ?_, fun c_5 => ?_⟩
      · replace K := K.1 c_5
        obtain ⟨z_6, K⟩ := K
        refine Z.iinc (k := 2) (ls' := [(2, zI ((v2 + 1))), (0, zR 0), (1, zI v1), (3, zI v3)]) dX11_proof_55 rfl (by decide) z_6 rfl ?_
        obtain ⟨z_7, K⟩ := K
        refine Z.iinc (k := 3) (ls' := [(3, zI ((v3 + 1))), (2, zI ((v2 + 1))), (0, zR 0), (1, zI v1)]) dX11_proof_58 rfl (by decide) z_7 rfl ?_
        refine Z.goto 25 dX11_proof_61 rfl ?_
        refine Z.pick (ls' := [(0, zR 0), (1, zI v1), (2, zI ((v2 + 1))), (3, zI ((v3 + 1)))]) [2, 3, 1, 0] rfl ?_
        exact K
      · replace K := K.2 c_5
        refine Z.iload_n (k := 3) dX11_proof_53 rfl ?_
        exact Z.iret (ty := .int) dX11_proof_54 rfl rfl K
set_option maxRecDepth 20000 in
theorem X11_order_0 {kz : Nat × Nat} {Q : Option zV → zH → Prop} {d : List Nat} {G : Nat → Int → Option Nat} {E : Nat → Int → Int} {v1 : Int} {v2 : Int} {v3 : Int} {v4 : Int} (hX : zK zXt d G) (K : ∃ o_1, zM zm_X7_at [zR 5, zI v1] (d, G, E) (some (zO o_1)) (d, G, E) ∧ ∃ o_4, zM zm_X7_at [zR 5, zI v3] (d, G, E) (some (zO o_4)) (d, G, E) ∧ (o_1 = none → Q (some (zI ((-2)))) (d, G, E)) ∧ (¬ (o_1 = none) → (o_4 = none → Q (some (zI ((-2)))) (d, G, E)) ∧ (¬ (o_4 = none) → ∃ b_9, o_1 = some b_9 ∧ zCk d G b_9 ∧ ∃ x_12, zM zm_X5_has [zR ((b_9 + 1)), zI v2] (d, G, E) (some (zI x_12)) (d, G, E) ∧ (x_12 = 0 → Q (some (zI ((-2)))) (d, G, E)) ∧ (¬ (x_12 = 0) → ∃ b_16, o_4 = some b_16 ∧ zCk d G b_16 ∧ ∃ x_19, zM zm_X5_has [zR ((b_16 + 1)), zI v4] (d, G, E) (some (zI x_19)) (d, G, E) ∧ (x_19 ≠ 0 → ((0 : Int) ≤ v2 ∧ v2 < (7 : Int)) ∧ ((0 : Int) ≤ v4 ∧ v4 < (7 : Int)) ∧ ((0 : Int) ≤ (E ((b_9 + 1) + 2) v2) ∧ (E ((b_9 + 1) + 2) v2) < (180 : Int)) ∧ ∃ x_26, zM zm_X8_partsOf [zR 1, zI ((E ((b_9 + 1) + 1) (E ((b_9 + 1) + 2) v2)))] (d, G, E) (some (zI x_26)) (d, G, E) ∧ (x_26 = 0 → Q (some (zI ((-2)))) (d, G, E)) ∧ (¬ (x_26 = 0) → ((0 : Int) ≤ (E ((b_16 + 1) + 2) v4) ∧ (E ((b_16 + 1) + 2) v4) < (180 : Int)) ∧ ∃ x_31, zM zm_X8_partsOf [zR 1, zI ((E ((b_16 + 1) + 1) (E ((b_16 + 1) + 2) v4)))] (d, G, E) (some (zI x_31)) (d, G, E) ∧ (x_31 ≠ 0 → zin ((E ((b_9 + 1) + 2) v2) + 1) ∧ zin ((E ((b_16 + 1) + 2) v4) + 1) ∧ ∃ x_37 E_38, zM zm_X6_compare [zR 18, zR ((b_9 + 1) + 1), zI (((E ((b_9 + 1) + 2) v2) + 1)), zR ((b_16 + 1) + 1), zI (((E ((b_16 + 1) + 2) v4) + 1))] (d, G, E) (some (zI x_37)) (d, G, E_38) ∧ Q (some (zI x_37)) (d, G, E_38)) ∧ (¬ (x_31 ≠ 0) → Q (some (zI ((-2)))) (d, G, E)))) ∧ (¬ (x_19 ≠ 0) → Q (some (zI ((-2)))) (d, G, E)))))) : Z zm_X11_order kz Q 0 [(0, zR 0), (1, zI v1), (2, zI v2), (3, zI v3), (4, zI v4)] [] (d, G, E) := by
  refine Z.aload_n (k := 0) dX11_order_0 rfl ?_
  refine Y.getR (o := some 5) 1 dX11_order_1 zl_X11_19 (rfl) (by decide) rfl (zX_0_0 hX).2.1 (zX_0_1 hX).1 ?_
  refine Z.iload_n (k := 1) dX11_order_4 rfl ?_
  obtain ⟨o_1, m_2, K⟩ := K
  refine Y.callV (g := zm_X7_at) (vs := [zI v1]) (st := []) dX11_order_5 ⟨zg_X7_at.1, zg_X7_at.2.1, zg_X7_at.2.2, by decide⟩ ⟨zk_X11_170, zv_X7_at⟩ (ci := 7) (rfl) rfl ((zX_0_1 hX).2.2) rfl rfl (Nat.le_of_ble_eq_true rfl) m_2 (Or.inl rfl) ?_
  show Z zm_X11_order kz Q 8 [(0, zR 0), (1, zI v1), (2, zI v2), (3, zI v3), (4, zI v4)] [zO o_1] (d, G, E)
  refine Z.astore (ls' := [(5, zO o_1), (0, zR 0), (1, zI v1), (2, zI v2), (3, zI v3), (4, zI v4)]) dX11_order_8 (by decide) rfl ?_
  refine Z.aload_n (k := 1) dX11_order_10 rfl ?_
  refine Y.getR (o := some 5) 1 dX11_order_11 zl_X11_19 (rfl) (by decide) rfl (zX_0_0 hX).2.1 (zX_0_1 hX).1 ?_
  refine Z.iload_n (k := 4) dX11_order_14 rfl ?_
  obtain ⟨o_4, m_5, K⟩ := K
  refine Y.callV (g := zm_X7_at) (vs := [zI v3]) (st := []) dX11_order_15 ⟨zg_X7_at.1, zg_X7_at.2.1, zg_X7_at.2.2, by decide⟩ ⟨zk_X11_170, zv_X7_at⟩ (ci := 7) (rfl) rfl ((zX_0_1 hX).2.2) rfl rfl (Nat.le_of_ble_eq_true rfl) m_5 (Or.inl rfl) ?_
  show Z zm_X11_order kz Q 18 [(5, zO o_1), (0, zR 0), (1, zI v1), (2, zI v2), (3, zI v3), (4, zI v4)] [zO o_4] (d, G, E)
  refine Z.astore (ls' := [(6, zO o_4), (5, zO o_1), (0, zR 0), (1, zI v1), (2, zI v2), (3, zI v3), (4, zI v4)]) dX11_order_18 (by decide) rfl ?_
  refine Z.aload (k := 1) dX11_order_20 rfl ?_
  refine Z.ifnull 55 dX11_order_22 rfl ⟨fun c_7 => ?_, fun c_7 => ?_⟩
  · replace K := K.1 c_7
    refine Z.bipush (n := -2) dX11_order_55 ⟨by decide, by decide⟩ (by decide) ?_
    exact Z.iret (ty := .int) dX11_order_57 rfl rfl K
  · replace K := K.2 c_7
    refine Z.aload (k := 0) dX11_order_25 rfl ?_
    refine Z.ifnull 55 dX11_order_27 rfl ⟨fun c_8 => ?_, fun c_8 => ?_⟩
    · replace K := K.1 c_8
      refine Z.bipush (n := -2) dX11_order_55 ⟨by decide, by decide⟩ (by decide) ?_
      exact Z.iret (ty := .int) dX11_order_57 rfl rfl K
    · replace K := K.2 c_8
      refine Z.aload (k := 1) dX11_order_30 rfl ?_
      obtain ⟨b_9, e_10, hc_11, K⟩ := K
      rw [e_10]
      refine Y.getR (o := some ((b_9 + 1))) 0 dX11_order_32 zl_X11_174 (congrArg Prod.fst hc_11.1) (by decide) rfl hc_11.2.1 hc_11.2.2.2.1 ?_
      refine Z.iload_n (k := 4) dX11_order_35 rfl ?_
      obtain ⟨x_12, m_13, K⟩ := K
      refine Y.callV (g := zm_X5_has) (vs := [zI v2]) (st := []) dX11_order_36 ⟨zg_X5_has.1, zg_X5_has.2.1, zg_X5_has.2.2, by decide⟩ ⟨zk_X11_197, zv_X5_has⟩ (ci := 5) (congrArg Prod.fst hc_11.2.2.1.1) rfl (hc_11.2.2.1.2.2.2.2.1) rfl rfl (Nat.le_of_ble_eq_true rfl) m_13 (Or.inl rfl) ?_
      show Z zm_X11_order kz Q 39 [(6, zO o_4), (5, zR b_9), (0, zR 0), (1, zI v1), (2, zI v2), (3, zI v3), (4, zI v4)] [zI x_12] (d, G, E)
      refine Z.if_eq 55 dX11_order_39 rfl ⟨fun c_15 => ?_, fun c_15 => ?_⟩
      · replace K := K.1 c_15
        refine Z.bipush (n := -2) dX11_order_55 ⟨by decide, by decide⟩ (by decide) ?_
        exact Z.iret (ty := .int) dX11_order_57 rfl rfl K
      · replace K := K.2 c_15
        refine Z.aload (k := 0) dX11_order_42 rfl ?_
        obtain ⟨b_16, e_17, hc_18, K⟩ := K
        rw [e_17]
        refine Y.getR (o := some ((b_16 + 1))) 0 dX11_order_44 zl_X11_174 (congrArg Prod.fst hc_18.1) (by decide) rfl hc_18.2.1 hc_18.2.2.2.1 ?_
        refine Z.iload (k := 6) dX11_order_47 rfl ?_
        obtain ⟨x_19, m_20, K⟩ := K
        refine Y.callV (g := zm_X5_has) (vs := [zI v4]) (st := []) dX11_order_49 ⟨zg_X5_has.1, zg_X5_has.2.1, zg_X5_has.2.2, by decide⟩ ⟨zk_X11_197, zv_X5_has⟩ (ci := 5) (congrArg Prod.fst hc_18.2.2.1.1) rfl (hc_18.2.2.1.2.2.2.2.1) rfl rfl (Nat.le_of_ble_eq_true rfl) m_20 (Or.inl rfl) ?_
        show Z zm_X11_order kz Q 52 [(6, zR b_16), (5, zR b_9), (0, zR 0), (1, zI v1), (2, zI v2), (3, zI v3), (4, zI v4)] [zI x_19] (d, G, E)
        refine Z.if_ne 58 dX11_order_52 rfl ⟨fun c_22 => ?_, fun c_22 => ?_⟩
        · replace K := K.1 c_22
          refine Z.aload (k := 1) dX11_order_58 rfl ?_
          refine Y.getR (o := some ((b_9 + 1))) 0 dX11_order_60 zl_X11_174 (congrArg Prod.fst hc_11.1) (by decide) rfl hc_11.2.1 hc_11.2.2.2.1 ?_
          refine Y.getR (o := some ((b_9 + 1) + 2)) 1 dX11_order_63 zl_X11_213 (congrArg Prod.fst hc_11.2.2.1.1) (by decide) rfl hc_11.2.2.1.2.2.2.2.1 hc_11.2.2.1.2.2.2.2.2.2.2.2.2.1 ?_
          refine Z.iload_n (k := 4) dX11_order_66 rfl ?_
          obtain ⟨z_23, K⟩ := K
          refine Y.iald dX11_order_67 (hc_11.2.2.1.2.2.1) (hc_11.2.2.1.2.2.2.2.2.2.1) z_23 ?_
          refine Z.istore (ls' := [(7, zI ((E ((b_9 + 1) + 2) v2))), (6, zR b_16), (5, zR b_9), (0, zR 0), (1, zI v1), (2, zI v2), (3, zI v3), (4, zI v4)]) dX11_order_68 (by decide) rfl ?_
          refine Z.aload (k := 1) dX11_order_70 rfl ?_
          refine Y.getR (o := some ((b_16 + 1))) 0 dX11_order_72 zl_X11_174 (congrArg Prod.fst hc_18.1) (by decide) rfl hc_18.2.1 hc_18.2.2.2.1 ?_
          refine Y.getR (o := some ((b_16 + 1) + 2)) 1 dX11_order_75 zl_X11_213 (congrArg Prod.fst hc_18.2.2.1.1) (by decide) rfl hc_18.2.2.1.2.2.2.2.1 hc_18.2.2.1.2.2.2.2.2.2.2.2.2.1 ?_
          refine Z.iload (k := 7) dX11_order_78 rfl ?_
          obtain ⟨z_24, K⟩ := K
          refine Y.iald dX11_order_80 (hc_18.2.2.1.2.2.1) (hc_18.2.2.1.2.2.2.2.2.2.1) z_24 ?_
          refine Z.istore (ls' := [(8, zI ((E ((b_16 + 1) + 2) v4))), (7, zI ((E ((b_9 + 1) + 2) v2))), (6, zR b_16), (5, zR b_9), (0, zR 0), (1, zI v1), (2, zI v2), (3, zI v3), (4, zI v4)]) dX11_order_81 (by decide) rfl ?_
          refine Z.aload_n (k := 4) dX11_order_83 rfl ?_
          refine Y.getR (o := some 1) 0 dX11_order_84 zl_X11_12 (rfl) (by decide) rfl (zX_0_0 hX).2.1 (zX_0_0 hX).1 ?_
          refine Z.aload (k := 3) dX11_order_87 rfl ?_
          refine Y.getR (o := some ((b_9 + 1))) 0 dX11_order_89 zl_X11_174 (congrArg Prod.fst hc_11.1) (by decide) rfl hc_11.2.1 hc_11.2.2.2.1 ?_
          refine Y.getR (o := some ((b_9 + 1) + 1)) 0 dX11_order_92 zl_X11_210 (congrArg Prod.fst hc_11.2.2.1.1) (by decide) rfl hc_11.2.2.1.2.2.2.2.1 hc_11.2.2.1.2.2.2.2.2.2.2.2.1 ?_
          refine Z.iload (k := 1) dX11_order_95 rfl ?_
          obtain ⟨z_25, K⟩ := K
          refine Y.iald dX11_order_97 (hc_11.2.2.1.2.1) (hc_11.2.2.1.2.2.2.2.2.1) z_25 ?_
          obtain ⟨x_26, m_27, K⟩ := K
          refine Y.callV (g := zm_X8_partsOf) (vs := [zI ((E ((b_9 + 1) + 1) (E ((b_9 + 1) + 2) v2)))]) (st := []) dX11_order_98 ⟨zg_X8_partsOf.1, zg_X8_partsOf.2.1, zg_X8_partsOf.2.2, by decide⟩ ⟨zk_X11_250, zv_X8_partsOf⟩ (ci := 8) (rfl) rfl ((zX_0_0 hX).2.2) rfl rfl (Nat.le_of_ble_eq_true rfl) m_27 (Or.inl rfl) ?_
          show Z zm_X11_order kz Q 101 [(8, zI ((E ((b_16 + 1) + 2) v4))), (7, zI ((E ((b_9 + 1) + 2) v2))), (6, zR b_16), (5, zR b_9), (0, zR 0), (1, zI v1), (2, zI v2), (3, zI v3), (4, zI v4)] [zI x_26] (d, G, E)
          refine Z.if_eq 125 dX11_order_101 rfl ⟨fun c_29 => ?_, fun c_29 => ?_⟩
          · replace K := K.1 c_29
            refine Z.bipush (n := -2) dX11_order_125 ⟨by decide, by decide⟩ (by decide) ?_
            exact Z.iret (ty := .int) dX11_order_127 rfl rfl K
          · replace K := K.2 c_29
            refine Z.aload_n (k := 4) dX11_order_104 rfl ?_
            refine Y.getR (o := some 1) 0 dX11_order_105 zl_X11_12 (rfl) (by decide) rfl (zX_0_0 hX).2.1 (zX_0_0 hX).1 ?_
            refine Z.aload (k := 2) dX11_order_108 rfl ?_
            refine Y.getR (o := some ((b_16 + 1))) 0 dX11_order_110 zl_X11_174 (congrArg Prod.fst hc_18.1) (by decide) rfl hc_18.2.1 hc_18.2.2.2.1 ?_
            refine Y.getR (o := some ((b_16 + 1) + 1)) 0 dX11_order_113 zl_X11_210 (congrArg Prod.fst hc_18.2.2.1.1) (by decide) rfl hc_18.2.2.1.2.2.2.2.1 hc_18.2.2.1.2.2.2.2.2.2.2.2.1 ?_
            refine Z.iload (k := 0) dX11_order_116 rfl ?_
            obtain ⟨z_30, K⟩ := K
            refine Y.iald dX11_order_118 (hc_18.2.2.1.2.1) (hc_18.2.2.1.2.2.2.2.2.1) z_30 ?_
            obtain ⟨x_31, m_32, K⟩ := K
            refine Y.callV (g := zm_X8_partsOf) (vs := [zI ((E ((b_16 + 1) + 1) (E ((b_16 + 1) + 2) v4)))]) (st := []) dX11_order_119 ⟨zg_X8_partsOf.1, zg_X8_partsOf.2.1, zg_X8_partsOf.2.2, by decide⟩ ⟨zk_X11_250, zv_X8_partsOf⟩ (ci := 8) (rfl) rfl ((zX_0_0 hX).2.2) rfl rfl (Nat.le_of_ble_eq_true rfl) m_32 (Or.inl rfl) ?_
            show Z zm_X11_order kz Q 122 [(8, zI ((E ((b_16 + 1) + 2) v4))), (7, zI ((E ((b_9 + 1) + 2) v2))), (6, zR b_16), (5, zR b_9), (0, zR 0), (1, zI v1), (2, zI v2), (3, zI v3), (4, zI v4)] [zI x_31] (d, G, E)
            refine Z.if_ne 128 dX11_order_122 rfl ⟨fun c_34 => ?_, fun c_34 => ?_⟩
            · replace K := K.1 c_34
              refine Z.aload_n (k := 4) dX11_order_128 rfl ?_
              refine Y.getR (o := some 18) 5 dX11_order_129 zl_X11_42 (rfl) (by decide) rfl (zX_0_0 hX).2.1 (zX_0_5 hX).1 ?_
              refine Z.aload (k := 3) dX11_order_132 rfl ?_
              refine Y.getR (o := some ((b_9 + 1))) 0 dX11_order_134 zl_X11_174 (congrArg Prod.fst hc_11.1) (by decide) rfl hc_11.2.1 hc_11.2.2.2.1 ?_
              refine Y.getR (o := some ((b_9 + 1) + 1)) 0 dX11_order_137 zl_X11_210 (congrArg Prod.fst hc_11.2.2.1.1) (by decide) rfl hc_11.2.2.1.2.2.2.2.1 hc_11.2.2.1.2.2.2.2.2.2.2.2.1 ?_
              refine Z.iload (k := 1) dX11_order_140 rfl ?_
              refine Z.iconst (n := 1) dX11_order_142 ⟨by decide, by decide⟩ ?_
              obtain ⟨z_35, K⟩ := K
              refine Z.iadd dX11_order_143 z_35 ?_
              refine Z.aload (k := 2) dX11_order_144 rfl ?_
              refine Y.getR (o := some ((b_16 + 1))) 0 dX11_order_146 zl_X11_174 (congrArg Prod.fst hc_18.1) (by decide) rfl hc_18.2.1 hc_18.2.2.2.1 ?_
              refine Y.getR (o := some ((b_16 + 1) + 1)) 0 dX11_order_149 zl_X11_210 (congrArg Prod.fst hc_18.2.2.1.1) (by decide) rfl hc_18.2.2.1.2.2.2.2.1 hc_18.2.2.1.2.2.2.2.2.2.2.2.1 ?_
              refine Z.iload (k := 0) dX11_order_152 rfl ?_
              refine Z.iconst (n := 1) dX11_order_154 ⟨by decide, by decide⟩ ?_
              obtain ⟨z_36, K⟩ := K
              refine Z.iadd dX11_order_155 z_36 ?_
              obtain ⟨x_37, E_38, m_39, K⟩ := K
              refine Y.callV (g := zm_X6_compare) (vs := [zR ((b_9 + 1) + 1), zI (((E ((b_9 + 1) + 2) v2) + 1)), zR ((b_16 + 1) + 1), zI (((E ((b_16 + 1) + 2) v4) + 1))]) (st := []) dX11_order_156 ⟨zg_X6_compare.1, zg_X6_compare.2.1, zg_X6_compare.2.2, by decide⟩ ⟨zk_X11_253, zv_X6_compare⟩ (ci := 6) (rfl) rfl ((zX_0_5 hX).2.2) rfl rfl (Nat.le_of_ble_eq_true rfl) m_39 (Or.inl rfl) ?_
              show Z zm_X11_order kz Q 159 [(8, zI ((E ((b_16 + 1) + 2) v4))), (7, zI ((E ((b_9 + 1) + 2) v2))), (6, zR b_16), (5, zR b_9), (0, zR 0), (1, zI v1), (2, zI v2), (3, zI v3), (4, zI v4)] [zI x_37] (d, G, E_38)
              exact Z.iret (ty := .int) dX11_order_159 rfl rfl K
            · replace K := K.2 c_34
              refine Z.bipush (n := -2) dX11_order_125 ⟨by decide, by decide⟩ (by decide) ?_
              exact Z.iret (ty := .int) dX11_order_127 rfl rfl K
        · replace K := K.2 c_22
          refine Z.bipush (n := -2) dX11_order_55 ⟨by decide, by decide⟩ (by decide) ?_
          exact Z.iret (ty := .int) dX11_order_57 rfl rfl K
set_option maxRecDepth 20000 in
theorem X11_takesIn_0 {kz : Nat × Nat} {Q : Option zV → zH → Prop} {d : List Nat} {G : Nat → Int → Option Nat} {E : Nat → Int → Int} {v1 : Int} {v2 : Int} (hX : zK zXt d G) (K : ∃ o_1, zM zm_X7_at [zR 5, zI v1] (d, G, E) (some (zO o_1)) (d, G, E) ∧ ∃ o_4, zM zm_X7_at [zR 5, zI v2] (d, G, E) (some (zO o_4)) (d, G, E) ∧ (o_1 = none → Q (some (zI ((-2)))) (d, G, E)) ∧ (¬ (o_1 = none) → (o_4 ≠ none → ∃ b_9, o_1 = some b_9 ∧ zCk d G b_9 ∧ ∃ b_12, o_4 = some b_12 ∧ zCk d G b_12 ∧ ∃ x_15 E_16, zM zm_X10_takes [zR 33, zR ((b_9 + 1)), zR ((b_12 + 1))] (d, G, E) (some (zI x_15)) (d, G, E_16) ∧ (x_15 = 0 → Q (some (zI 0)) (d, G, E_16)) ∧ (¬ (x_15 = 0) → Q (some (zI 1)) (d, G, E_16))) ∧ (¬ (o_4 ≠ none) → Q (some (zI ((-2)))) (d, G, E)))) : Z zm_X11_takesIn kz Q 0 [(0, zR 0), (1, zI v1), (2, zI v2)] [] (d, G, E) := by
  refine Z.aload_n (k := 0) dX11_takesIn_0 rfl ?_
  refine Y.getR (o := some 5) 1 dX11_takesIn_1 zl_X11_19 (rfl) (by decide) rfl (zX_0_0 hX).2.1 (zX_0_1 hX).1 ?_
  refine Z.iload_n (k := 1) dX11_takesIn_4 rfl ?_
  obtain ⟨o_1, m_2, K⟩ := K
  refine Y.callV (g := zm_X7_at) (vs := [zI v1]) (st := []) dX11_takesIn_5 ⟨zg_X7_at.1, zg_X7_at.2.1, zg_X7_at.2.2, by decide⟩ ⟨zk_X11_170, zv_X7_at⟩ (ci := 7) (rfl) rfl ((zX_0_1 hX).2.2) rfl rfl (Nat.le_of_ble_eq_true rfl) m_2 (Or.inl rfl) ?_
  show Z zm_X11_takesIn kz Q 8 [(0, zR 0), (1, zI v1), (2, zI v2)] [zO o_1] (d, G, E)
  refine Z.astore_n (ls' := [(3, zO o_1), (0, zR 0), (1, zI v1), (2, zI v2)]) dX11_takesIn_8 (by decide) rfl ?_
  refine Z.aload_n (k := 1) dX11_takesIn_9 rfl ?_
  refine Y.getR (o := some 5) 1 dX11_takesIn_10 zl_X11_19 (rfl) (by decide) rfl (zX_0_0 hX).2.1 (zX_0_1 hX).1 ?_
  refine Z.iload_n (k := 3) dX11_takesIn_13 rfl ?_
  obtain ⟨o_4, m_5, K⟩ := K
  refine Y.callV (g := zm_X7_at) (vs := [zI v2]) (st := []) dX11_takesIn_14 ⟨zg_X7_at.1, zg_X7_at.2.1, zg_X7_at.2.2, by decide⟩ ⟨zk_X11_170, zv_X7_at⟩ (ci := 7) (rfl) rfl ((zX_0_1 hX).2.2) rfl rfl (Nat.le_of_ble_eq_true rfl) m_5 (Or.inl rfl) ?_
  show Z zm_X11_takesIn kz Q 17 [(3, zO o_1), (0, zR 0), (1, zI v1), (2, zI v2)] [zO o_4] (d, G, E)
  refine Z.astore (ls' := [(4, zO o_4), (3, zO o_1), (0, zR 0), (1, zI v1), (2, zI v2)]) dX11_takesIn_17 (by decide) rfl ?_
  refine Z.aload_n (k := 1) dX11_takesIn_19 rfl ?_
  refine Z.ifnull 28 dX11_takesIn_20 rfl ⟨fun c_7 => ?_, fun c_7 => ?_⟩
  · replace K := K.1 c_7
    refine Z.bipush (n := -2) dX11_takesIn_28 ⟨by decide, by decide⟩ (by decide) ?_
    exact Z.iret (ty := .int) dX11_takesIn_30 rfl rfl K
  · replace K := K.2 c_7
    refine Z.aload (k := 0) dX11_takesIn_23 rfl ?_
    refine Z.ifnonnull 31 dX11_takesIn_25 rfl ⟨fun c_8 => ?_, fun c_8 => ?_⟩
    · replace K := K.1 c_8
      refine Z.aload_n (k := 2) dX11_takesIn_31 rfl ?_
      refine Y.getR (o := some 33) 8 dX11_takesIn_32 zl_X11_67 (rfl) (by decide) rfl (zX_0_0 hX).2.1 (zX_0_8 hX).1 ?_
      refine Z.aload_n (k := 1) dX11_takesIn_35 rfl ?_
      obtain ⟨b_9, e_10, hc_11, K⟩ := K
      rw [e_10]
      refine Y.getR (o := some ((b_9 + 1))) 0 dX11_takesIn_36 zl_X11_174 (congrArg Prod.fst hc_11.1) (by decide) rfl hc_11.2.1 hc_11.2.2.2.1 ?_
      refine Z.aload (k := 0) dX11_takesIn_39 rfl ?_
      obtain ⟨b_12, e_13, hc_14, K⟩ := K
      rw [e_13]
      refine Y.getR (o := some ((b_12 + 1))) 0 dX11_takesIn_41 zl_X11_174 (congrArg Prod.fst hc_14.1) (by decide) rfl hc_14.2.1 hc_14.2.2.2.1 ?_
      obtain ⟨x_15, E_16, m_17, K⟩ := K
      refine Y.callV (g := zm_X10_takes) (vs := [zR ((b_9 + 1)), zR ((b_12 + 1))]) (st := []) dX11_takesIn_44 ⟨zg_X10_takes.1, zg_X10_takes.2.1, zg_X10_takes.2.2, by decide⟩ ⟨zk_X11_257, zv_X10_takes⟩ (ci := 10) (rfl) rfl ((zX_0_8 hX).2.2) rfl rfl (Nat.le_of_ble_eq_true rfl) m_17 (Or.inl rfl) ?_
      show Z zm_X11_takesIn kz Q 47 [(4, zR b_12), (3, zR b_9), (0, zR 0), (1, zI v1), (2, zI v2)] [zI x_15] (d, G, E_16)
      refine Z.if_eq 54 dX11_takesIn_47 rfl ⟨fun c_19 => ?_, fun c_19 => ?_⟩
      · replace K := K.1 c_19
        refine Z.iconst (n := 0) dX11_takesIn_54 ⟨by decide, by decide⟩ ?_
        exact Z.iret (ty := .int) dX11_takesIn_55 rfl rfl K
      · replace K := K.2 c_19
        refine Z.iconst (n := 1) dX11_takesIn_50 ⟨by decide, by decide⟩ ?_
        refine Z.goto 55 dX11_takesIn_51 rfl ?_
        exact Z.iret (ty := .int) dX11_takesIn_55 rfl rfl K
    · replace K := K.2 c_8
      refine Z.bipush (n := -2) dX11_takesIn_28 ⟨by decide, by decide⟩ (by decide) ?_
      exact Z.iret (ty := .int) dX11_takesIn_30 rfl rfl K
set_option maxRecDepth 20000 in
theorem X11_count_0 {kz : Nat × Nat} {Q : Option zV → zH → Prop} {d : List Nat} {G : Nat → Int → Option Nat} {E : Nat → Int → Int} {v1 : Int} (hX : zK zXt d G) (K : (v1 = 0 → Q (some (zI ((E 1 3)))) (d, G, E)) ∧ (v1 = 1 → Q (some (zI ((E 5 4)))) (d, G, E)) ∧ (v1 = 2 → ∃ x_4, zM zm_X7_inState [zR 5, zI 0] (d, G, E) (some (zI x_4)) (d, G, E) ∧ Q (some (zI x_4)) (d, G, E)) ∧ (v1 = 3 → ∃ x_8, zM zm_X7_inState [zR 5, zI 1] (d, G, E) (some (zI x_8)) (d, G, E) ∧ Q (some (zI x_8)) (d, G, E)) ∧ (v1 = 4 → ∃ x_12, zM zm_X7_inState [zR 5, zI 2] (d, G, E) (some (zI x_12)) (d, G, E) ∧ Q (some (zI x_12)) (d, G, E)) ∧ (v1 = 5 → Q (some (zI ((E 0 17)))) (d, G, E)) ∧ (v1 = 6 → Q (some (zI ((E 0 18)))) (d, G, E)) ∧ (v1 = 7 → Q (some (zI ((E 0 19)))) (d, G, E)) ∧ (v1 = 8 → Q (some (zI ((E 0 20)))) (d, G, E)) ∧ (v1 = 9 → Q (some (zI ((E 0 16)))) (d, G, E)) ∧ (v1 = 10 → Q (some (zI ((E 0 15)))) (d, G, E)) ∧ (v1 = 11 → Q (some (zI ((E 0 12)))) (d, G, E)) ∧ ((v1 < 0 ∨ 11 < v1) → Q (some (zI ((-2)))) (d, G, E))) : Z zm_X11_count kz Q 0 [(0, zR 0), (1, zI v1)] [] (d, G, E) := by
  refine Z.iload_n (k := 1) dX11_count_0 rfl ?_
  by_cases c_1 : v1 = 0
  · replace K := K.1 c_1
    refine Z.tableIn (off := 63) 64 dX11_count_1 (by omega) (by omega) (by rw [c_1]; rfl) rfl ?_
    refine Z.aload_n (k := 0) dX11_count_64 rfl ?_
    refine Y.getR (o := some 1) 0 dX11_count_65 zl_X11_12 (rfl) (by decide) rfl (zX_0_0 hX).2.1 (zX_0_0 hX).1 ?_
    refine Y.getI 3 dX11_count_68 zl_X11_261 (rfl) (by decide) rfl (zX_0_0 hX).2.2 ?_
    exact Z.iret (ty := .int) dX11_count_71 rfl rfl K
  replace K := K.2
  by_cases c_2 : v1 = 1
  · replace K := K.1 c_2
    refine Z.tableIn (off := 71) 72 dX11_count_1 (by omega) (by omega) (by rw [c_2]; rfl) rfl ?_
    refine Z.aload_n (k := 0) dX11_count_72 rfl ?_
    refine Y.getR (o := some 5) 1 dX11_count_73 zl_X11_19 (rfl) (by decide) rfl (zX_0_0 hX).2.1 (zX_0_1 hX).1 ?_
    refine Y.getI 4 dX11_count_76 zl_X11_124 (rfl) (by decide) rfl (zX_0_1 hX).2.2 ?_
    exact Z.iret (ty := .int) dX11_count_79 rfl rfl K
  replace K := K.2
  by_cases c_3 : v1 = 2
  · replace K := K.1 c_3
    refine Z.tableIn (off := 79) 80 dX11_count_1 (by omega) (by omega) (by rw [c_3]; rfl) rfl ?_
    refine Z.aload_n (k := 0) dX11_count_80 rfl ?_
    refine Y.getR (o := some 5) 1 dX11_count_81 zl_X11_19 (rfl) (by decide) rfl (zX_0_0 hX).2.1 (zX_0_1 hX).1 ?_
    refine Z.iconst (n := 0) dX11_count_84 ⟨by decide, by decide⟩ ?_
    obtain ⟨x_4, m_5, K⟩ := K
    refine Y.callV (g := zm_X7_inState) (vs := [zI 0]) (st := []) dX11_count_85 ⟨zg_X7_inState.1, zg_X7_inState.2.1, zg_X7_inState.2.2, by decide⟩ ⟨zk_X11_264, zv_X7_inState⟩ (ci := 7) (rfl) rfl ((zX_0_1 hX).2.2) rfl rfl (Nat.le_of_ble_eq_true rfl) m_5 (Or.inl rfl) ?_
    show Z zm_X11_count kz Q 88 [(0, zR 0), (1, zI v1)] [zI x_4] (d, G, E)
    exact Z.iret (ty := .int) dX11_count_88 rfl rfl K
  replace K := K.2
  by_cases c_7 : v1 = 3
  · replace K := K.1 c_7
    refine Z.tableIn (off := 88) 89 dX11_count_1 (by omega) (by omega) (by rw [c_7]; rfl) rfl ?_
    refine Z.aload_n (k := 0) dX11_count_89 rfl ?_
    refine Y.getR (o := some 5) 1 dX11_count_90 zl_X11_19 (rfl) (by decide) rfl (zX_0_0 hX).2.1 (zX_0_1 hX).1 ?_
    refine Z.iconst (n := 1) dX11_count_93 ⟨by decide, by decide⟩ ?_
    obtain ⟨x_8, m_9, K⟩ := K
    refine Y.callV (g := zm_X7_inState) (vs := [zI 1]) (st := []) dX11_count_94 ⟨zg_X7_inState.1, zg_X7_inState.2.1, zg_X7_inState.2.2, by decide⟩ ⟨zk_X11_264, zv_X7_inState⟩ (ci := 7) (rfl) rfl ((zX_0_1 hX).2.2) rfl rfl (Nat.le_of_ble_eq_true rfl) m_9 (Or.inl rfl) ?_
    show Z zm_X11_count kz Q 97 [(0, zR 0), (1, zI v1)] [zI x_8] (d, G, E)
    exact Z.iret (ty := .int) dX11_count_97 rfl rfl K
  replace K := K.2
  by_cases c_11 : v1 = 4
  · replace K := K.1 c_11
    refine Z.tableIn (off := 97) 98 dX11_count_1 (by omega) (by omega) (by rw [c_11]; rfl) rfl ?_
    refine Z.aload_n (k := 0) dX11_count_98 rfl ?_
    refine Y.getR (o := some 5) 1 dX11_count_99 zl_X11_19 (rfl) (by decide) rfl (zX_0_0 hX).2.1 (zX_0_1 hX).1 ?_
    refine Z.iconst (n := 2) dX11_count_102 ⟨by decide, by decide⟩ ?_
    obtain ⟨x_12, m_13, K⟩ := K
    refine Y.callV (g := zm_X7_inState) (vs := [zI 2]) (st := []) dX11_count_103 ⟨zg_X7_inState.1, zg_X7_inState.2.1, zg_X7_inState.2.2, by decide⟩ ⟨zk_X11_264, zv_X7_inState⟩ (ci := 7) (rfl) rfl ((zX_0_1 hX).2.2) rfl rfl (Nat.le_of_ble_eq_true rfl) m_13 (Or.inl rfl) ?_
    show Z zm_X11_count kz Q 106 [(0, zR 0), (1, zI v1)] [zI x_12] (d, G, E)
    exact Z.iret (ty := .int) dX11_count_106 rfl rfl K
  replace K := K.2
  by_cases c_15 : v1 = 5
  · replace K := K.1 c_15
    refine Z.tableIn (off := 106) 107 dX11_count_1 (by omega) (by omega) (by rw [c_15]; rfl) rfl ?_
    refine Z.aload_n (k := 0) dX11_count_107 rfl ?_
    refine Y.getI 17 dX11_count_108 zl_X11_112 (rfl) (by decide) rfl (zX_0_0 hX).2.1 ?_
    exact Z.iret (ty := .int) dX11_count_111 rfl rfl K
  replace K := K.2
  by_cases c_16 : v1 = 6
  · replace K := K.1 c_16
    refine Z.tableIn (off := 111) 112 dX11_count_1 (by omega) (by omega) (by rw [c_16]; rfl) rfl ?_
    refine Z.aload_n (k := 0) dX11_count_112 rfl ?_
    refine Y.getI 18 dX11_count_113 zl_X11_115 (rfl) (by decide) rfl (zX_0_0 hX).2.1 ?_
    exact Z.iret (ty := .int) dX11_count_116 rfl rfl K
  replace K := K.2
  by_cases c_17 : v1 = 7
  · replace K := K.1 c_17
    refine Z.tableIn (off := 116) 117 dX11_count_1 (by omega) (by omega) (by rw [c_17]; rfl) rfl ?_
    refine Z.aload_n (k := 0) dX11_count_117 rfl ?_
    refine Y.getI 19 dX11_count_118 zl_X11_118 (rfl) (by decide) rfl (zX_0_0 hX).2.1 ?_
    exact Z.iret (ty := .int) dX11_count_121 rfl rfl K
  replace K := K.2
  by_cases c_18 : v1 = 8
  · replace K := K.1 c_18
    refine Z.tableIn (off := 121) 122 dX11_count_1 (by omega) (by omega) (by rw [c_18]; rfl) rfl ?_
    refine Z.aload_n (k := 0) dX11_count_122 rfl ?_
    refine Y.getI 20 dX11_count_123 zl_X11_121 (rfl) (by decide) rfl (zX_0_0 hX).2.1 ?_
    exact Z.iret (ty := .int) dX11_count_126 rfl rfl K
  replace K := K.2
  by_cases c_19 : v1 = 9
  · replace K := K.1 c_19
    refine Z.tableIn (off := 126) 127 dX11_count_1 (by omega) (by omega) (by rw [c_19]; rfl) rfl ?_
    refine Z.aload_n (k := 0) dX11_count_127 rfl ?_
    refine Y.getI 16 dX11_count_128 zl_X11_109 (rfl) (by decide) rfl (zX_0_0 hX).2.1 ?_
    exact Z.iret (ty := .int) dX11_count_131 rfl rfl K
  replace K := K.2
  by_cases c_20 : v1 = 10
  · replace K := K.1 c_20
    refine Z.tableIn (off := 131) 132 dX11_count_1 (by omega) (by omega) (by rw [c_20]; rfl) rfl ?_
    refine Z.aload_n (k := 0) dX11_count_132 rfl ?_
    refine Y.getI 15 dX11_count_133 zl_X11_106 (rfl) (by decide) rfl (zX_0_0 hX).2.1 ?_
    exact Z.iret (ty := .int) dX11_count_136 rfl rfl K
  replace K := K.2
  by_cases c_21 : v1 = 11
  · replace K := K.1 c_21
    refine Z.tableIn (off := 136) 137 dX11_count_1 (by omega) (by omega) (by rw [c_21]; rfl) rfl ?_
    refine Z.aload_n (k := 0) dX11_count_137 rfl ?_
    refine Y.getI 12 dX11_count_138 zl_X11_96 (rfl) (by decide) rfl (zX_0_0 hX).2.1 ?_
    exact Z.iret (ty := .int) dX11_count_141 rfl rfl K
  replace K := K.2
  have hd0 : v1 < 0 ∨ 11 < v1 := by omega
  replace K := K hd0
  refine Z.tableOut 142 dX11_count_1 hd0 rfl ?_
  refine Z.bipush (n := -2) dX11_count_142 ⟨by decide, by decide⟩ (by decide) ?_
  exact Z.iret (ty := .int) dX11_count_144 rfl rfl K
set_option maxRecDepth 20000 in
theorem X11_digestLiterals_0 {kz : Nat × Nat} {Q : Option zV → zH → Prop} {d : List Nat} {G : Nat → Int → Option Nat} {E : Nat → Int → Int} {v1 : Int64} {v3 : Int} (hX : zK zXt d G) (K : ∃ x_1, zM zm_X11_claim [zR 0, zI v3, zI 0] (d, G, E) (some (zI x_1)) (d, G, E) ∧ Z zm_X11_digestLiterals kz Q 14 [(0, zR 0), (3, zI v3), (4, zL v1), (6, zI x_1), (7, zI 0)] [] (d, G, E)) : Z zm_X11_digestLiterals kz Q 0 [(0, zR 0), (1, zL v1), (3, zI v3)] [] (d, G, E) := by
  refine Z.lload_n (k := 1) dX11_digestLiterals_0 rfl ?_
  refine Z.lstore (ls' := [(4, zL v1), (0, zR 0), (1, zL v1), (3, zI v3)]) dX11_digestLiterals_1 (by decide) rfl ?_
  refine Z.aload_n (k := 1) dX11_digestLiterals_3 rfl ?_
  refine Z.iload_n (k := 3) dX11_digestLiterals_4 rfl ?_
  refine Z.iconst (n := 0) dX11_digestLiterals_5 ⟨by decide, by decide⟩ ?_
  obtain ⟨x_1, m_2, K⟩ := K
  refine Y.callV (g := zm_X11_claim) (vs := [zI v3, zI 0]) (st := []) dX11_digestLiterals_6 ⟨zg_X11_claim.1, zg_X11_claim.2.1, zg_X11_claim.2.2, by decide⟩ ⟨zk_X11_274, zv_X11_claim⟩ (ci := 11) (rfl) rfl ((zX_0_0 hX).2.1) rfl rfl (Nat.le_of_ble_eq_true rfl) m_2 (Or.inl rfl) ?_
  show Z zm_X11_digestLiterals kz Q 9 [(4, zL v1), (0, zR 0), (1, zL v1), (3, zI v3)] [zI x_1] (d, G, E)
  refine Z.istore (ls' := [(6, zI x_1), (4, zL v1), (0, zR 0), (1, zL v1), (3, zI v3)]) dX11_digestLiterals_9 (by decide) rfl ?_
  refine Z.iconst (n := 0) dX11_digestLiterals_11 ⟨by decide, by decide⟩ ?_
  refine Z.istore (ls' := [(7, zI 0), (6, zI x_1), (4, zL v1), (0, zR 0), (1, zL v1), (3, zI v3)]) dX11_digestLiterals_12 (by decide) rfl ?_
  refine Z.pick (ls' := [(0, zR 0), (3, zI v3), (4, zL v1), (6, zI x_1), (7, zI 0)]) [3, 5, 2, 1, 0] rfl ?_
  exact K
set_option maxRecDepth 20000 in
theorem X11_digestLiterals_14 {kz : Nat × Nat} {Q : Option zV → zH → Prop} {d : List Nat} {G : Nat → Int → Option Nat} {E : Nat → Int → Int} {v3 : Int} {v4 : Int64} {v6 : Int} {v7 : Int} (hX : zK zXt d G) (K : (v6 ≤ v7 → Q (some (zL v4)) (d, G, E)) ∧ (¬ (v6 ≤ v7) → ∃ x_2, zM zm_X11_literal [zR 0, zI v3, zI v7, zI 1] (d, G, E) (some (zI x_2)) (d, G, E) ∧ zin (1 + x_2) ∧ Z zm_X11_digestLiterals kz Q 36 [(0, zR 0), (3, zI v3), (4, zL v4), (6, zI v6), (7, zI v7), (8, zI ((1 + x_2))), (9, zI 0)] [] (d, G, E))) : Z zm_X11_digestLiterals kz Q 14 [(0, zR 0), (3, zI v3), (4, zL v4), (6, zI v6), (7, zI v7)] [] (d, G, E) := by
  refine Z.iload (k := 4) dX11_digestLiterals_14 rfl ?_
  refine Z.iload (k := 3) dX11_digestLiterals_16 rfl ?_
  refine Z.icmp_ge 74 dX11_digestLiterals_18 rfl ⟨fun c_1 => ?_, fun c_1 => ?_⟩
  · replace K := K.1 c_1
    refine Z.lload (k := 2) dX11_digestLiterals_74 rfl ?_
    exact Z.lret dX11_digestLiterals_76 rfl K
  · replace K := K.2 c_1
    refine Z.iconst (n := 1) dX11_digestLiterals_21 ⟨by decide, by decide⟩ ?_
    refine Z.aload_n (k := 0) dX11_digestLiterals_22 rfl ?_
    refine Z.iload_n (k := 1) dX11_digestLiterals_23 rfl ?_
    refine Z.iload (k := 4) dX11_digestLiterals_24 rfl ?_
    refine Z.iconst (n := 1) dX11_digestLiterals_26 ⟨by decide, by decide⟩ ?_
    obtain ⟨x_2, m_3, K⟩ := K
    refine Y.callV (g := zm_X11_literal) (vs := [zI v3, zI v7, zI 1]) (st := [zI 1]) dX11_digestLiterals_27 ⟨zg_X11_literal.1, zg_X11_literal.2.1, zg_X11_literal.2.2, by decide⟩ ⟨zk_X11_285, zv_X11_literal⟩ (ci := 11) (rfl) rfl ((zX_0_0 hX).2.1) rfl rfl (Nat.le_of_ble_eq_true rfl) m_3 (Or.inl rfl) ?_
    show Z zm_X11_digestLiterals kz Q 30 [(0, zR 0), (3, zI v3), (4, zL v4), (6, zI v6), (7, zI v7)] [zI x_2, zI 1] (d, G, E)
    obtain ⟨z_5, K⟩ := K
    refine Z.iadd dX11_digestLiterals_30 z_5 ?_
    refine Z.istore (ls' := [(8, zI ((1 + x_2))), (0, zR 0), (3, zI v3), (4, zL v4), (6, zI v6), (7, zI v7)]) dX11_digestLiterals_31 (by decide) rfl ?_
    refine Z.iconst (n := 0) dX11_digestLiterals_33 ⟨by decide, by decide⟩ ?_
    refine Z.istore (ls' := [(9, zI 0), (8, zI ((1 + x_2))), (0, zR 0), (3, zI v3), (4, zL v4), (6, zI v6), (7, zI v7)]) dX11_digestLiterals_34 (by decide) rfl ?_
    refine Z.pick (ls' := [(0, zR 0), (3, zI v3), (4, zL v4), (6, zI v6), (7, zI v7), (8, zI ((1 + x_2))), (9, zI 0)]) [2, 3, 4, 5, 6, 1, 0] rfl ?_
    exact K
set_option maxRecDepth 20000 in
theorem X11_digestLiterals_36 {kz : Nat × Nat} {Q : Option zV → zH → Prop} {d : List Nat} {G : Nat → Int → Option Nat} {E : Nat → Int → Int} {v3 : Int} {v4 : Int64} {v6 : Int} {v7 : Int} {v8 : Int} {v9 : Int} (hX : zK zXt d G) (K : (v8 < v9 → zin (v7 + 1) ∧ Z zm_X11_digestLiterals kz Q 14 [(0, zR 0), (3, zI v3), (4, zL v4), (6, zI v6), (7, zI ((v7 + 1)))] [] (d, G, E)) ∧ (¬ (v8 < v9) → ∃ x_3, zM zm_X11_literal [zR 0, zI v3, zI v7, zI v9] (d, G, E) (some (zI x_3)) (d, G, E) ∧ zin (v9 + 1) ∧ Z zm_X11_digestLiterals kz Q 36 [(0, zR 0), (3, zI v3), (4, zL (((31 * v4) + (Int64.ofInt x_3)))), (6, zI v6), (7, zI v7), (8, zI v8), (9, zI ((v9 + 1)))] [] (d, G, E))) : Z zm_X11_digestLiterals kz Q 36 [(0, zR 0), (3, zI v3), (4, zL v4), (6, zI v6), (7, zI v7), (8, zI v8), (9, zI v9)] [] (d, G, E) := by
  refine Z.iload (k := 6) dX11_digestLiterals_36 rfl ?_
  refine Z.iload (k := 5) dX11_digestLiterals_38 rfl ?_
  refine Z.icmp_gt 68 dX11_digestLiterals_40 rfl ⟨fun c_1 => ?_, fun c_1 => ?_⟩
  · replace K := K.1 c_1
    obtain ⟨z_2, K⟩ := K
    refine Z.iinc (k := 4) (ls' := [(7, zI ((v7 + 1))), (0, zR 0), (3, zI v3), (4, zL v4), (6, zI v6), (8, zI v8), (9, zI v9)]) dX11_digestLiterals_68 rfl (by decide) z_2 rfl ?_
    refine Z.goto 14 dX11_digestLiterals_71 rfl ?_
    refine Z.pick (ls' := [(0, zR 0), (3, zI v3), (4, zL v4), (6, zI v6), (7, zI ((v7 + 1)))]) [1, 2, 3, 4, 0] rfl ?_
    exact K
  · replace K := K.2 c_1
    refine Z.ldc2 (x := 31) dX11_digestLiterals_43 zq_X11_269 ?_
    refine Z.lload (k := 2) dX11_digestLiterals_46 rfl ?_
    refine Z.lmul dX11_digestLiterals_48 ?_
    refine Z.aload_n (k := 0) dX11_digestLiterals_49 rfl ?_
    refine Z.iload_n (k := 1) dX11_digestLiterals_50 rfl ?_
    refine Z.iload (k := 4) dX11_digestLiterals_51 rfl ?_
    refine Z.iload (k := 6) dX11_digestLiterals_53 rfl ?_
    obtain ⟨x_3, m_4, K⟩ := K
    refine Y.callV (g := zm_X11_literal) (vs := [zI v3, zI v7, zI v9]) (st := [zL ((31 * v4))]) dX11_digestLiterals_55 ⟨zg_X11_literal.1, zg_X11_literal.2.1, zg_X11_literal.2.2, by decide⟩ ⟨zk_X11_285, zv_X11_literal⟩ (ci := 11) (rfl) rfl ((zX_0_0 hX).2.1) rfl rfl (Nat.le_of_ble_eq_true rfl) m_4 (Or.inl rfl) ?_
    show Z zm_X11_digestLiterals kz Q 58 [(0, zR 0), (3, zI v3), (4, zL v4), (6, zI v6), (7, zI v7), (8, zI v8), (9, zI v9)] [zI x_3, zL ((31 * v4))] (d, G, E)
    refine Z.i2l dX11_digestLiterals_58 ?_
    refine Z.ladd dX11_digestLiterals_59 ?_
    refine Z.lstore (ls' := [(4, zL (((31 * v4) + (Int64.ofInt x_3)))), (0, zR 0), (3, zI v3), (6, zI v6), (7, zI v7), (8, zI v8), (9, zI v9)]) dX11_digestLiterals_60 (by decide) rfl ?_
    obtain ⟨z_6, K⟩ := K
    refine Z.iinc (k := 6) (ls' := [(9, zI ((v9 + 1))), (4, zL (((31 * v4) + (Int64.ofInt x_3)))), (0, zR 0), (3, zI v3), (6, zI v6), (7, zI v7), (8, zI v8)]) dX11_digestLiterals_62 rfl (by decide) z_6 rfl ?_
    refine Z.goto 36 dX11_digestLiterals_65 rfl ?_
    refine Z.pick (ls' := [(0, zR 0), (3, zI v3), (4, zL (((31 * v4) + (Int64.ofInt x_3)))), (6, zI v6), (7, zI v7), (8, zI v8), (9, zI ((v9 + 1)))]) [2, 3, 1, 4, 5, 6, 0] rfl ?_
    exact K
set_option maxRecDepth 20000 in
theorem X11_digestStep_0 {kz : Nat × Nat} {Q : Option zV → zH → Prop} {d : List Nat} {G : Nat → Int → Option Nat} {E : Nat → Int → Int} {v1 : Int64} {v3 : Int} (hX : zK zXt d G) (K : Z zm_X11_digestStep kz Q 6 [(0, zR 0), (3, zI v3), (4, zL v1), (6, zI 0)] [] (d, G, E)) : Z zm_X11_digestStep kz Q 0 [(0, zR 0), (1, zL v1), (3, zI v3)] [] (d, G, E) := by
  refine Z.lload_n (k := 1) dX11_digestStep_0 rfl ?_
  refine Z.lstore (ls' := [(4, zL v1), (0, zR 0), (1, zL v1), (3, zI v3)]) dX11_digestStep_1 (by decide) rfl ?_
  refine Z.iconst (n := 0) dX11_digestStep_3 ⟨by decide, by decide⟩ ?_
  refine Z.istore (ls' := [(6, zI 0), (4, zL v1), (0, zR 0), (1, zL v1), (3, zI v3)]) dX11_digestStep_4 (by decide) rfl ?_
  refine Z.pick (ls' := [(0, zR 0), (3, zI v3), (4, zL v1), (6, zI 0)]) [2, 4, 1, 0] rfl ?_
  exact K
set_option maxRecDepth 20000 in
theorem X11_digestStep_6 {kz : Nat × Nat} {Q : Option zV → zH → Prop} {d : List Nat} {G : Nat → Int → Option Nat} {E : Nat → Int → Int} {v3 : Int} {v4 : Int64} {v6 : Int} (hX : zK zXt d G) (K : (7 ≤ v6 → ∃ x_2, zM zm_X11_step [zR 0, zI v3, zI 10] (d, G, E) (some (zI x_2)) (d, G, E) ∧ zin (4 * x_2) ∧ zin (10 + (4 * x_2)) ∧ Z zm_X11_digestStep kz Q 54 [(0, zR 0), (3, zI v3), (4, zL v4), (6, zI ((10 + (4 * x_2)))), (7, zI 10)] [] (d, G, E)) ∧ (¬ (7 ≤ v6) → ∃ x_7, zM zm_X11_step [zR 0, zI v3, zI v6] (d, G, E) (some (zI x_7)) (d, G, E) ∧ zin (v6 + 1) ∧ Z zm_X11_digestStep kz Q 6 [(0, zR 0), (3, zI v3), (4, zL (((31 * v4) + (Int64.ofInt x_7)))), (6, zI ((v6 + 1)))] [] (d, G, E))) : Z zm_X11_digestStep kz Q 6 [(0, zR 0), (3, zI v3), (4, zL v4), (6, zI v6)] [] (d, G, E) := by
  refine Z.iload (k := 3) dX11_digestStep_6 rfl ?_
  refine Z.bipush (n := 7) dX11_digestStep_8 ⟨by decide, by decide⟩ (by decide) ?_
  refine Z.icmp_ge 36 dX11_digestStep_10 rfl ⟨fun c_1 => ?_, fun c_1 => ?_⟩
  · replace K := K.1 c_1
    refine Z.bipush (n := 10) dX11_digestStep_36 ⟨by decide, by decide⟩ (by decide) ?_
    refine Z.iconst (n := 4) dX11_digestStep_38 ⟨by decide, by decide⟩ ?_
    refine Z.aload_n (k := 0) dX11_digestStep_39 rfl ?_
    refine Z.iload_n (k := 1) dX11_digestStep_40 rfl ?_
    refine Z.bipush (n := 10) dX11_digestStep_41 ⟨by decide, by decide⟩ (by decide) ?_
    obtain ⟨x_2, m_3, K⟩ := K
    refine Y.callV (g := zm_X11_step) (vs := [zI v3, zI 10]) (st := [zI 4, zI 10]) dX11_digestStep_43 ⟨zg_X11_step.1, zg_X11_step.2.1, zg_X11_step.2.2, by decide⟩ ⟨zk_X11_289, zv_X11_step⟩ (ci := 11) (rfl) rfl ((zX_0_0 hX).2.1) rfl rfl (Nat.le_of_ble_eq_true rfl) m_3 (Or.inl rfl) ?_
    show Z zm_X11_digestStep kz Q 46 [(0, zR 0), (3, zI v3), (4, zL v4), (6, zI v6)] [zI x_2, zI 4, zI 10] (d, G, E)
    obtain ⟨z_5, K⟩ := K
    refine Z.imul dX11_digestStep_46 z_5 ?_
    obtain ⟨z_6, K⟩ := K
    refine Z.iadd dX11_digestStep_47 z_6 ?_
    refine Z.istore (ls' := [(6, zI ((10 + (4 * x_2)))), (0, zR 0), (3, zI v3), (4, zL v4)]) dX11_digestStep_48 (by decide) rfl ?_
    refine Z.bipush (n := 10) dX11_digestStep_50 ⟨by decide, by decide⟩ (by decide) ?_
    refine Z.istore (ls' := [(7, zI 10), (6, zI ((10 + (4 * x_2)))), (0, zR 0), (3, zI v3), (4, zL v4)]) dX11_digestStep_52 (by decide) rfl ?_
    refine Z.pick (ls' := [(0, zR 0), (3, zI v3), (4, zL v4), (6, zI ((10 + (4 * x_2)))), (7, zI 10)]) [2, 3, 4, 1, 0] rfl ?_
    exact K
  · replace K := K.2 c_1
    refine Z.ldc2 (x := 31) dX11_digestStep_13 zq_X11_269 ?_
    refine Z.lload (k := 2) dX11_digestStep_16 rfl ?_
    refine Z.lmul dX11_digestStep_18 ?_
    refine Z.aload_n (k := 0) dX11_digestStep_19 rfl ?_
    refine Z.iload_n (k := 1) dX11_digestStep_20 rfl ?_
    refine Z.iload (k := 3) dX11_digestStep_21 rfl ?_
    obtain ⟨x_7, m_8, K⟩ := K
    refine Y.callV (g := zm_X11_step) (vs := [zI v3, zI v6]) (st := [zL ((31 * v4))]) dX11_digestStep_23 ⟨zg_X11_step.1, zg_X11_step.2.1, zg_X11_step.2.2, by decide⟩ ⟨zk_X11_289, zv_X11_step⟩ (ci := 11) (rfl) rfl ((zX_0_0 hX).2.1) rfl rfl (Nat.le_of_ble_eq_true rfl) m_8 (Or.inl rfl) ?_
    show Z zm_X11_digestStep kz Q 26 [(0, zR 0), (3, zI v3), (4, zL v4), (6, zI v6)] [zI x_7, zL ((31 * v4))] (d, G, E)
    refine Z.i2l dX11_digestStep_26 ?_
    refine Z.ladd dX11_digestStep_27 ?_
    refine Z.lstore (ls' := [(4, zL (((31 * v4) + (Int64.ofInt x_7)))), (0, zR 0), (3, zI v3), (6, zI v6)]) dX11_digestStep_28 (by decide) rfl ?_
    obtain ⟨z_10, K⟩ := K
    refine Z.iinc (k := 3) (ls' := [(6, zI ((v6 + 1))), (4, zL (((31 * v4) + (Int64.ofInt x_7)))), (0, zR 0), (3, zI v3)]) dX11_digestStep_30 rfl (by decide) z_10 rfl ?_
    refine Z.goto 6 dX11_digestStep_33 rfl ?_
    refine Z.pick (ls' := [(0, zR 0), (3, zI v3), (4, zL (((31 * v4) + (Int64.ofInt x_7)))), (6, zI ((v6 + 1)))]) [2, 3, 1, 0] rfl ?_
    exact K
set_option maxRecDepth 20000 in
theorem X11_digestStep_54 {kz : Nat × Nat} {Q : Option zV → zH → Prop} {d : List Nat} {G : Nat → Int → Option Nat} {E : Nat → Int → Int} {v3 : Int} {v4 : Int64} {v6 : Int} {v7 : Int} (hX : zK zXt d G) (K : (v6 < v7 → Q (some (zL v4)) (d, G, E)) ∧ (¬ (v6 < v7) → ∃ x_2, zM zm_X11_step [zR 0, zI v3, zI v7] (d, G, E) (some (zI x_2)) (d, G, E) ∧ zin (v7 + 1) ∧ Z zm_X11_digestStep kz Q 54 [(0, zR 0), (3, zI v3), (4, zL (((31 * v4) + (Int64.ofInt x_2)))), (6, zI v6), (7, zI ((v7 + 1)))] [] (d, G, E))) : Z zm_X11_digestStep kz Q 54 [(0, zR 0), (3, zI v3), (4, zL v4), (6, zI v6), (7, zI v7)] [] (d, G, E) := by
  refine Z.iload (k := 4) dX11_digestStep_54 rfl ?_
  refine Z.iload (k := 3) dX11_digestStep_56 rfl ?_
  refine Z.icmp_gt 84 dX11_digestStep_58 rfl ⟨fun c_1 => ?_, fun c_1 => ?_⟩
  · replace K := K.1 c_1
    refine Z.lload (k := 2) dX11_digestStep_84 rfl ?_
    exact Z.lret dX11_digestStep_86 rfl K
  · replace K := K.2 c_1
    refine Z.ldc2 (x := 31) dX11_digestStep_61 zq_X11_269 ?_
    refine Z.lload (k := 2) dX11_digestStep_64 rfl ?_
    refine Z.lmul dX11_digestStep_66 ?_
    refine Z.aload_n (k := 0) dX11_digestStep_67 rfl ?_
    refine Z.iload_n (k := 1) dX11_digestStep_68 rfl ?_
    refine Z.iload (k := 4) dX11_digestStep_69 rfl ?_
    obtain ⟨x_2, m_3, K⟩ := K
    refine Y.callV (g := zm_X11_step) (vs := [zI v3, zI v7]) (st := [zL ((31 * v4))]) dX11_digestStep_71 ⟨zg_X11_step.1, zg_X11_step.2.1, zg_X11_step.2.2, by decide⟩ ⟨zk_X11_289, zv_X11_step⟩ (ci := 11) (rfl) rfl ((zX_0_0 hX).2.1) rfl rfl (Nat.le_of_ble_eq_true rfl) m_3 (Or.inl rfl) ?_
    show Z zm_X11_digestStep kz Q 74 [(0, zR 0), (3, zI v3), (4, zL v4), (6, zI v6), (7, zI v7)] [zI x_2, zL ((31 * v4))] (d, G, E)
    refine Z.i2l dX11_digestStep_74 ?_
    refine Z.ladd dX11_digestStep_75 ?_
    refine Z.lstore (ls' := [(4, zL (((31 * v4) + (Int64.ofInt x_2)))), (0, zR 0), (3, zI v3), (6, zI v6), (7, zI v7)]) dX11_digestStep_76 (by decide) rfl ?_
    obtain ⟨z_5, K⟩ := K
    refine Z.iinc (k := 4) (ls' := [(7, zI ((v7 + 1))), (4, zL (((31 * v4) + (Int64.ofInt x_2)))), (0, zR 0), (3, zI v3), (6, zI v6)]) dX11_digestStep_78 rfl (by decide) z_5 rfl ?_
    refine Z.goto 54 dX11_digestStep_81 rfl ?_
    refine Z.pick (ls' := [(0, zR 0), (3, zI v3), (4, zL (((31 * v4) + (Int64.ofInt x_2)))), (6, zI v6), (7, zI ((v7 + 1)))]) [2, 3, 1, 4, 0] rfl ?_
    exact K
set_option maxRecDepth 20000 in
theorem X11_digest_0 {kz : Nat × Nat} {Q : Option zV → zH → Prop} {d : List Nat} {G : Nat → Int → Option Nat} {E : Nat → Int → Int}  (hX : zK zXt d G) (K : Z zm_X11_digest kz Q 6 [(0, zR 0), (1, zL 17), (3, zI 0)] [] (d, G, E)) : Z zm_X11_digest kz Q 0 [(0, zR 0)] [] (d, G, E) := by
  refine Z.ldc2 (x := 17) dX11_digest_0 zq_X11_267 ?_
  refine Z.lstore_n (ls' := [(1, zL 17), (0, zR 0)]) dX11_digest_3 (by decide) rfl ?_
  refine Z.iconst (n := 0) dX11_digest_4 ⟨by decide, by decide⟩ ?_
  refine Z.istore_n (ls' := [(3, zI 0), (1, zL 17), (0, zR 0)]) dX11_digest_5 (by decide) rfl ?_
  refine Z.pick (ls' := [(0, zR 0), (1, zL 17), (3, zI 0)]) [2, 1, 0] rfl ?_
  exact K
set_option maxRecDepth 20000 in
theorem X11_digest_6 {kz : Nat × Nat} {Q : Option zV → zH → Prop} {d : List Nat} {G : Nat → Int → Option Nat} {E : Nat → Int → Int} {v1 : Int64} {v3 : Int} (hX : zK zXt d G) (K : (11 < v3 → Z zm_X11_digest kz Q 33 [(0, zR 0), (1, zL v1), (3, zI 0)] [] (d, G, E)) ∧ (¬ (11 < v3) → ∃ x_2, zM zm_X11_count [zR 0, zI v3] (d, G, E) (some (zI x_2)) (d, G, E) ∧ zin (v3 + 1) ∧ Z zm_X11_digest kz Q 6 [(0, zR 0), (1, zL (((31 * v1) + (Int64.ofInt x_2)))), (3, zI ((v3 + 1)))] [] (d, G, E))) : Z zm_X11_digest kz Q 6 [(0, zR 0), (1, zL v1), (3, zI v3)] [] (d, G, E) := by
  refine Z.iload_n (k := 2) dX11_digest_6 rfl ?_
  refine Z.bipush (n := 11) dX11_digest_7 ⟨by decide, by decide⟩ (by decide) ?_
  refine Z.icmp_gt 31 dX11_digest_9 rfl ⟨fun c_1 => ?_, fun c_1 => ?_⟩
  · replace K := K.1 c_1
    refine Z.iconst (n := 0) dX11_digest_31 ⟨by decide, by decide⟩ ?_
    refine Z.istore_n (ls' := [(3, zI 0), (0, zR 0), (1, zL v1)]) dX11_digest_32 (by decide) rfl ?_
    refine Z.pick (ls' := [(0, zR 0), (1, zL v1), (3, zI 0)]) [1, 2, 0] rfl ?_
    exact K
  · replace K := K.2 c_1
    refine Z.ldc2 (x := 31) dX11_digest_12 zq_X11_269 ?_
    refine Z.lload_n (k := 1) dX11_digest_15 rfl ?_
    refine Z.lmul dX11_digest_16 ?_
    refine Z.aload_n (k := 0) dX11_digest_17 rfl ?_
    refine Z.iload_n (k := 2) dX11_digest_18 rfl ?_
    obtain ⟨x_2, m_3, K⟩ := K
    refine Y.callV (g := zm_X11_count) (vs := [zI v3]) (st := [zL ((31 * v1))]) dX11_digest_19 ⟨zg_X11_count.1, zg_X11_count.2.1, zg_X11_count.2.2, by decide⟩ ⟨zk_X11_271, zv_X11_count⟩ (ci := 11) (rfl) rfl ((zX_0_0 hX).2.1) rfl rfl (Nat.le_of_ble_eq_true rfl) m_3 (Or.inl rfl) ?_
    show Z zm_X11_digest kz Q 22 [(0, zR 0), (1, zL v1), (3, zI v3)] [zI x_2, zL ((31 * v1))] (d, G, E)
    refine Z.i2l dX11_digest_22 ?_
    refine Z.ladd dX11_digest_23 ?_
    refine Z.lstore_n (ls' := [(1, zL (((31 * v1) + (Int64.ofInt x_2)))), (0, zR 0), (3, zI v3)]) dX11_digest_24 (by decide) rfl ?_
    obtain ⟨z_5, K⟩ := K
    refine Z.iinc (k := 2) (ls' := [(3, zI ((v3 + 1))), (1, zL (((31 * v1) + (Int64.ofInt x_2)))), (0, zR 0)]) dX11_digest_25 rfl (by decide) z_5 rfl ?_
    refine Z.goto 6 dX11_digest_28 rfl ?_
    refine Z.pick (ls' := [(0, zR 0), (1, zL (((31 * v1) + (Int64.ofInt x_2)))), (3, zI ((v3 + 1)))]) [2, 1, 0] rfl ?_
    exact K
set_option maxRecDepth 20000 in
theorem X11_digest_33 {kz : Nat × Nat} {Q : Option zV → zH → Prop} {d : List Nat} {G : Nat → Int → Option Nat} {E : Nat → Int → Int} {v1 : Int64} {v3 : Int} (hX : zK zXt d G) (K : ((E 5 4) ≤ v3 → Q (some (zL v1)) (d, G, E)) ∧ (¬ ((E 5 4) ≤ v3) → Z zm_X11_digest kz Q 47 [(0, zR 0), (1, zL v1), (3, zI v3), (4, zI 0)] [] (d, G, E))) : Z zm_X11_digest kz Q 33 [(0, zR 0), (1, zL v1), (3, zI v3)] [] (d, G, E) := by
  refine Z.iload_n (k := 2) dX11_digest_33 rfl ?_
  refine Z.aload_n (k := 0) dX11_digest_34 rfl ?_
  refine Y.getR (o := some 5) 1 dX11_digest_35 zl_X11_19 (rfl) (by decide) rfl (zX_0_0 hX).2.1 (zX_0_1 hX).1 ?_
  refine Y.getI 4 dX11_digest_38 zl_X11_124 (rfl) (by decide) rfl (zX_0_1 hX).2.2 ?_
  refine Z.icmp_ge 94 dX11_digest_41 rfl ⟨fun c_1 => ?_, fun c_1 => ?_⟩
  · replace K := K.1 c_1
    refine Z.lload_n (k := 1) dX11_digest_94 rfl ?_
    exact Z.lret dX11_digest_95 rfl K
  · replace K := K.2 c_1
    refine Z.iconst (n := 0) dX11_digest_44 ⟨by decide, by decide⟩ ?_
    refine Z.istore (ls' := [(4, zI 0), (0, zR 0), (1, zL v1), (3, zI v3)]) dX11_digest_45 (by decide) rfl ?_
    refine Z.pick (ls' := [(0, zR 0), (1, zL v1), (3, zI v3), (4, zI 0)]) [1, 2, 3, 0] rfl ?_
    exact K
set_option maxRecDepth 20000 in
theorem X11_digest_47 {kz : Nat × Nat} {Q : Option zV → zH → Prop} {d : List Nat} {G : Nat → Int → Option Nat} {E : Nat → Int → Int} {v1 : Int64} {v3 : Int} {v4 : Int} (hX : zK zXt d G) (K : (5 < v4 → ∃ x_2, zM zm_X11_digestLiterals [zR 0, zL v1, zI v3] (d, G, E) (some (zL x_2)) (d, G, E) ∧ ∃ x_5, zM zm_X11_digestStep [zR 0, zL x_2, zI v3] (d, G, E) (some (zL x_5)) (d, G, E) ∧ zin (v3 + 1) ∧ Z zm_X11_digest kz Q 33 [(0, zR 0), (1, zL x_5), (3, zI ((v3 + 1)))] [] (d, G, E)) ∧ (¬ (5 < v4) → ∃ x_9, zM zm_X11_claim [zR 0, zI v3, zI v4] (d, G, E) (some (zI x_9)) (d, G, E) ∧ zin (v4 + 1) ∧ Z zm_X11_digest kz Q 47 [(0, zR 0), (1, zL (((31 * v1) + (Int64.ofInt x_9)))), (3, zI v3), (4, zI ((v4 + 1)))] [] (d, G, E))) : Z zm_X11_digest kz Q 47 [(0, zR 0), (1, zL v1), (3, zI v3), (4, zI v4)] [] (d, G, E) := by
  refine Z.iload (k := 3) dX11_digest_47 rfl ?_
  refine Z.iconst (n := 5) dX11_digest_49 ⟨by decide, by decide⟩ ?_
  refine Z.icmp_gt 74 dX11_digest_50 rfl ⟨fun c_1 => ?_, fun c_1 => ?_⟩
  · replace K := K.1 c_1
    refine Z.aload_n (k := 0) dX11_digest_74 rfl ?_
    refine Z.lload_n (k := 1) dX11_digest_75 rfl ?_
    refine Z.iload_n (k := 2) dX11_digest_76 rfl ?_
    obtain ⟨x_2, m_3, K⟩ := K
    refine Y.callV (g := zm_X11_digestLiterals) (vs := [zL v1, zI v3]) (st := []) dX11_digest_77 ⟨zg_X11_digestLiterals.1, zg_X11_digestLiterals.2.1, zg_X11_digestLiterals.2.2, by decide⟩ ⟨zk_X11_278, zv_X11_digestLiterals⟩ (ci := 11) (rfl) rfl ((zX_0_0 hX).2.1) rfl rfl (Nat.le_of_ble_eq_true rfl) m_3 (Or.inl rfl) ?_
    show Z zm_X11_digest kz Q 80 [(0, zR 0), (1, zL v1), (3, zI v3), (4, zI v4)] [zL x_2] (d, G, E)
    refine Z.lstore_n (ls' := [(1, zL x_2), (0, zR 0), (3, zI v3), (4, zI v4)]) dX11_digest_80 (by decide) rfl ?_
    refine Z.aload_n (k := 1) dX11_digest_81 rfl ?_
    refine Z.lload_n (k := 0) dX11_digest_82 rfl ?_
    refine Z.iload_n (k := 2) dX11_digest_83 rfl ?_
    obtain ⟨x_5, m_6, K⟩ := K
    refine Y.callV (g := zm_X11_digestStep) (vs := [zL x_2, zI v3]) (st := []) dX11_digest_84 ⟨zg_X11_digestStep.1, zg_X11_digestStep.2.1, zg_X11_digestStep.2.2, by decide⟩ ⟨zk_X11_282, zv_X11_digestStep⟩ (ci := 11) (rfl) rfl ((zX_0_0 hX).2.1) rfl rfl (Nat.le_of_ble_eq_true rfl) m_6 (Or.inl rfl) ?_
    show Z zm_X11_digest kz Q 87 [(1, zL x_2), (0, zR 0), (3, zI v3), (4, zI v4)] [zL x_5] (d, G, E)
    refine Z.lstore_n (ls' := [(1, zL x_5), (0, zR 0), (3, zI v3), (4, zI v4)]) dX11_digest_87 (by decide) rfl ?_
    obtain ⟨z_8, K⟩ := K
    refine Z.iinc (k := 2) (ls' := [(3, zI ((v3 + 1))), (1, zL x_5), (0, zR 0), (4, zI v4)]) dX11_digest_88 rfl (by decide) z_8 rfl ?_
    refine Z.goto 33 dX11_digest_91 rfl ?_
    refine Z.pick (ls' := [(0, zR 0), (1, zL x_5), (3, zI ((v3 + 1)))]) [2, 1, 0] rfl ?_
    exact K
  · replace K := K.2 c_1
    refine Z.ldc2 (x := 31) dX11_digest_53 zq_X11_269 ?_
    refine Z.lload_n (k := 1) dX11_digest_56 rfl ?_
    refine Z.lmul dX11_digest_57 ?_
    refine Z.aload_n (k := 0) dX11_digest_58 rfl ?_
    refine Z.iload_n (k := 2) dX11_digest_59 rfl ?_
    refine Z.iload (k := 3) dX11_digest_60 rfl ?_
    obtain ⟨x_9, m_10, K⟩ := K
    refine Y.callV (g := zm_X11_claim) (vs := [zI v3, zI v4]) (st := [zL ((31 * v1))]) dX11_digest_62 ⟨zg_X11_claim.1, zg_X11_claim.2.1, zg_X11_claim.2.2, by decide⟩ ⟨zk_X11_274, zv_X11_claim⟩ (ci := 11) (rfl) rfl ((zX_0_0 hX).2.1) rfl rfl (Nat.le_of_ble_eq_true rfl) m_10 (Or.inl rfl) ?_
    show Z zm_X11_digest kz Q 65 [(0, zR 0), (1, zL v1), (3, zI v3), (4, zI v4)] [zI x_9, zL ((31 * v1))] (d, G, E)
    refine Z.i2l dX11_digest_65 ?_
    refine Z.ladd dX11_digest_66 ?_
    refine Z.lstore_n (ls' := [(1, zL (((31 * v1) + (Int64.ofInt x_9)))), (0, zR 0), (3, zI v3), (4, zI v4)]) dX11_digest_67 (by decide) rfl ?_
    obtain ⟨z_12, K⟩ := K
    refine Z.iinc (k := 3) (ls' := [(4, zI ((v4 + 1))), (1, zL (((31 * v1) + (Int64.ofInt x_9)))), (0, zR 0), (3, zI v3)]) dX11_digest_68 rfl (by decide) z_12 rfl ?_
    refine Z.goto 47 dX11_digest_71 rfl ?_
    refine Z.pick (ls' := [(0, zR 0), (1, zL (((31 * v1) + (Int64.ofInt x_9)))), (3, zI v3), (4, zI ((v4 + 1)))]) [2, 1, 3, 0] rfl ?_
    exact K
