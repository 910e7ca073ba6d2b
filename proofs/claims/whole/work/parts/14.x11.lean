set_option maxRecDepth 20000 in
theorem X11_alike_0 {kz : Nat × Nat} {Q : Option zV → zH → Prop} {d : List Nat} {G : Nat → Int → Option Nat} {E : Nat → Int → Int} {a0 n0 : Nat} {v1 : Int} {a2 n2 : Nat} {v3 : Int} {v4 : Int} (hX : zK zXt d G) (ha0 : a0 ∈ d) (hk0 : zkd a0 = (0, n0)) (ha2 : a2 ∈ d) (hk2 : zkd a2 = (0, n2)) (K : (v1 < 0 → Q (some (zI 0)) (d, G, E)) ∧ (¬ (v1 < 0) → (v3 < 0 → Q (some (zI 0)) (d, G, E)) ∧ (¬ (v3 < 0) → zin (v1 + v4) ∧ zin (n0 : Int) ∧ ((n0 : Int) < (v1 + v4) → Q (some (zI 0)) (d, G, E)) ∧ (¬ ((n0 : Int) < (v1 + v4)) → zin (v3 + v4) ∧ zin (n2 : Int) ∧ ((v3 + v4) ≤ (n2 : Int) → Z zm_X11_alike kz Q 31 [(0, zR a0), (1, zI v1), (2, zR a2), (3, zI v3), (4, zI v4), (5, zI 0)] [] (d, G, E)) ∧ (¬ ((v3 + v4) ≤ (n2 : Int)) → Q (some (zI 0)) (d, G, E)))))) : Z zm_X11_alike kz Q 0 [(0, zR a0), (1, zI v1), (2, zR a2), (3, zI v3), (4, zI v4)] [] (d, G, E) := by
  refine Z.iload_n (k := 1) dX11_alike_0 rfl ?_
  refine Z.if_lt 26 dX11_alike_1 rfl ⟨fun c1 => ?_, fun c1 => ?_⟩
  · replace K := K.1 c1
    refine Z.iconst (n := 0) dX11_alike_26 ⟨by decide, by decide⟩ ?_
    exact Z.iret (ty := .boolean) dX11_alike_27 rfl rfl K
  · replace K := K.2 c1
    refine Z.iload_n (k := 3) dX11_alike_4 rfl ?_
    refine Z.if_lt 26 dX11_alike_5 rfl ⟨fun c2 => ?_, fun c2 => ?_⟩
    · replace K := K.1 c2
      refine Z.iconst (n := 0) dX11_alike_26 ⟨by decide, by decide⟩ ?_
      exact Z.iret (ty := .boolean) dX11_alike_27 rfl rfl K
    · replace K := K.2 c2
      refine Z.iload_n (k := 1) dX11_alike_8 rfl ?_
      refine Z.iload (k := 4) dX11_alike_9 rfl ?_
      obtain ⟨z3, K⟩ := K
      refine Z.iadd dX11_alike_11 z3 ?_
      refine Z.aload_n (k := 0) dX11_alike_12 rfl ?_
      obtain ⟨z4, K⟩ := K
      refine Y.alen n0 (n0 : Int) dX11_alike_13 (hk0) (ha0) rfl z4 ?_
      refine Z.icmp_gt 26 dX11_alike_14 rfl ⟨fun c5 => ?_, fun c5 => ?_⟩
      · replace K := K.1 c5
        refine Z.iconst (n := 0) dX11_alike_26 ⟨by decide, by decide⟩ ?_
        exact Z.iret (ty := .boolean) dX11_alike_27 rfl rfl K
      · replace K := K.2 c5
        refine Z.iload_n (k := 3) dX11_alike_17 rfl ?_
        refine Z.iload (k := 4) dX11_alike_18 rfl ?_
        obtain ⟨z6, K⟩ := K
        refine Z.iadd dX11_alike_20 z6 ?_
        refine Z.aload_n (k := 2) dX11_alike_21 rfl ?_
        obtain ⟨z7, K⟩ := K
        refine Y.alen n2 (n2 : Int) dX11_alike_22 (hk2) (ha2) rfl z7 ?_
        refine Z.icmp_le 28 dX11_alike_23 rfl ⟨fun c8 => ?_, fun c8 => ?_⟩
        · replace K := K.1 c8
          refine Z.iconst (n := 0) dX11_alike_28 ⟨by decide, by decide⟩ ?_
          refine Z.istore (ls' := [(5, zI 0), (0, zR a0), (1, zI v1), (2, zR a2), (3, zI v3), (4, zI v4)]) dX11_alike_29 (by decide) rfl ?_
          refine Z.pick (ls' := [(0, zR a0), (1, zI v1), (2, zR a2), (3, zI v3), (4, zI v4), (5, zI 0)]) [1, 2, 3, 4, 5, 0] rfl ?_
          exact K
        · replace K := K.2 c8
          refine Z.iconst (n := 0) dX11_alike_26 ⟨by decide, by decide⟩ ?_
          exact Z.iret (ty := .boolean) dX11_alike_27 rfl rfl K
set_option maxRecDepth 20000 in
theorem X11_alike_31 {kz : Nat × Nat} {Q : Option zV → zH → Prop} {d : List Nat} {G : Nat → Int → Option Nat} {E : Nat → Int → Int} {a0 n0 : Nat} {v1 : Int} {a2 n2 : Nat} {v3 : Int} {v4 : Int} {v5 : Int} (hX : zK zXt d G) (ha0 : a0 ∈ d) (hk0 : zkd a0 = (0, n0)) (ha2 : a2 ∈ d) (hk2 : zkd a2 = (0, n2)) (K : (v4 ≤ v5 → Q (some (zI 1)) (d, G, E)) ∧ (¬ (v4 ≤ v5) → zin (v1 + v5) ∧ ((0 : Int) ≤ (v1 + v5) ∧ (v1 + v5) < n0) ∧ zin (v3 + v5) ∧ ((0 : Int) ≤ (v3 + v5) ∧ (v3 + v5) < n2) ∧ ((E a0 (v1 + v5)) = (E a2 (v3 + v5)) → zin (v5 + 1) ∧ Z zm_X11_alike kz Q 31 [(0, zR a0), (1, zI v1), (2, zR a2), (3, zI v3), (4, zI v4), (5, zI ((v5 + 1)))] [] (d, G, E)) ∧ (¬ ((E a0 (v1 + v5)) = (E a2 (v3 + v5))) → Q (some (zI 0)) (d, G, E)))) : Z zm_X11_alike kz Q 31 [(0, zR a0), (1, zI v1), (2, zR a2), (3, zI v3), (4, zI v4), (5, zI v5)] [] (d, G, E) := by
  refine Z.iload (k := 5) dX11_alike_31 rfl ?_
  refine Z.iload (k := 4) dX11_alike_33 rfl ?_
  refine Z.icmp_ge 61 dX11_alike_35 rfl ⟨fun c1 => ?_, fun c1 => ?_⟩
  · replace K := K.1 c1
    refine Z.iconst (n := 1) dX11_alike_61 ⟨by decide, by decide⟩ ?_
    exact Z.iret (ty := .boolean) dX11_alike_62 rfl rfl K
  · replace K := K.2 c1
    refine Z.aload_n (k := 0) dX11_alike_38 rfl ?_
    refine Z.iload_n (k := 1) dX11_alike_39 rfl ?_
    refine Z.iload (k := 5) dX11_alike_40 rfl ?_
    obtain ⟨z2, K⟩ := K
    refine Z.iadd dX11_alike_42 z2 ?_
    obtain ⟨z3, K⟩ := K
    refine Y.iald dX11_alike_43 (hk0) (ha0) z3 ?_
    refine Z.aload_n (k := 2) dX11_alike_44 rfl ?_
    refine Z.iload_n (k := 3) dX11_alike_45 rfl ?_
    refine Z.iload (k := 5) dX11_alike_46 rfl ?_
    obtain ⟨z4, K⟩ := K
    refine Z.iadd dX11_alike_48 z4 ?_
    obtain ⟨z5, K⟩ := K
    refine Y.iald dX11_alike_49 (hk2) (ha2) z5 ?_
    refine Z.icmp_eq 55 dX11_alike_50 rfl ⟨fun c6 => ?_, fun c6 => ?_⟩
    · replace K := K.1 c6
      obtain ⟨z7, K⟩ := K
      refine Z.iinc (k := 5) (ls' := [(5, zI ((v5 + 1))), (0, zR a0), (1, zI v1), (2, zR a2), (3, zI v3), (4, zI v4)]) dX11_alike_55 rfl (by decide) z7 rfl ?_
      refine Z.goto 31 dX11_alike_58 rfl ?_
      refine Z.pick (ls' := [(0, zR a0), (1, zI v1), (2, zR a2), (3, zI v3), (4, zI v4), (5, zI ((v5 + 1)))]) [1, 2, 3, 4, 5, 0] rfl ?_
      exact K
    · replace K := K.2 c6
      refine Z.iconst (n := 0) dX11_alike_53 ⟨by decide, by decide⟩ ?_
      exact Z.iret (ty := .boolean) dX11_alike_54 rfl rfl K
set_option maxRecDepth 20000 in
theorem X11_init_0 {kz : Nat × Nat} {Q : Option zV → zH → Prop} {d : List Nat} {G : Nat → Int → Option Nat} {E : Nat → Int → Int}  (hm0 : 0 ∈ d) (K : ∃ a1, (zkd a1).1 = 8 + 3 ∧ a1 ∉ d ∧ ¬ zst3 a1 ∧ d.length + 1 ≤ kz.1 ∧ zsl d + (zkd a1).2 ≤ kz.2 ∧ ∀ d7 G8 E9, d7 = d ++ [a1] → G8 = zclG G a1 → E9 = zclE E a1 → (∃ d10 G11 E12, zM zm_X8_init [zR a1] (d7, G8, E9) none (d10, G11, E12) ∧ (d10 = d7 ∨ d10.length ≤ kz.1 ∧ zsl d10 ≤ kz.2) ∧ 0 ∈ d10 ∧ a1 ∈ d10 ∧ ∀ G17, G17 = zuG G11 0 0 (some a1) → ∃ a18, (zkd a18).1 = 7 + 3 ∧ a18 ∉ d10 ∧ ¬ zst3 a18 ∧ d10.length + 1 ≤ kz.1 ∧ zsl d10 + (zkd a18).2 ≤ kz.2 ∧ ∀ d24 G25 E26, d24 = d10 ++ [a18] → G25 = zclG G17 a18 → E26 = zclE E12 a18 → (∃ d27 G28 E29, zM zm_X7_init [zR a18] (d24, G25, E26) none (d27, G28, E29) ∧ (d27 = d24 ∨ d27.length ≤ kz.1 ∧ zsl d27 ≤ kz.2) ∧ 0 ∈ d27 ∧ a18 ∈ d27 ∧ ∀ G34, G34 = zuG G28 0 1 (some a18) → ∃ a35, zkd a35 = (0, (200 : Int).toNat) ∧ (0 : Int) ≤ 200 ∧ 200 ≤ (100000 : Int) ∧ a35 ∉ d27 ∧ ¬ zst3 a35 ∧ d27.length + 1 ≤ kz.1 ∧ zsl d27 + (zkd a35).2 ≤ kz.2 ∧ ∀ d43 G44 E45, d43 = d27 ++ [a35] → G44 = zclG G34 a35 → E45 = zclE E29 a35 → (∀ G46, G46 = zuG G44 0 2 (some a35) → ∃ a47, (zkd a47).1 = 5 + 3 ∧ a47 ∉ d43 ∧ ¬ zst3 a47 ∧ d43.length + 1 ≤ kz.1 ∧ zsl d43 + (zkd a47).2 ≤ kz.2 ∧ ∀ d53 G54 E55, d53 = d43 ++ [a47] → G54 = zclG G46 a47 → E55 = zclE E45 a47 → (∃ d56 G57 E58, zM zm_X5_init [zR a47] (d53, G54, E55) none (d56, G57, E58) ∧ (d56 = d53 ∨ d56.length ≤ kz.1 ∧ zsl d56 ≤ kz.2) ∧ 0 ∈ d56 ∧ a47 ∈ d56 ∧ ∀ G63, G63 = zuG G57 0 3 (some a47) → ∃ a64, (zkd a64).1 = 5 + 3 ∧ a64 ∉ d56 ∧ ¬ zst3 a64 ∧ d56.length + 1 ≤ kz.1 ∧ zsl d56 + (zkd a64).2 ≤ kz.2 ∧ ∀ d70 G71 E72, d70 = d56 ++ [a64] → G71 = zclG G63 a64 → E72 = zclE E58 a64 → (∃ d73 G74 E75, zM zm_X5_init [zR a64] (d70, G71, E72) none (d73, G74, E75) ∧ (d73 = d70 ∨ d73.length ≤ kz.1 ∧ zsl d73 ≤ kz.2) ∧ 0 ∈ d73 ∧ a64 ∈ d73 ∧ ∀ G80, G80 = zuG G74 0 4 (some a64) → ∃ a81, (zkd a81).1 = 6 + 3 ∧ a81 ∉ d73 ∧ ¬ zst3 a81 ∧ d73.length + 1 ≤ kz.1 ∧ zsl d73 + (zkd a81).2 ≤ kz.2 ∧ ∀ d87 G88 E89, d87 = d73 ++ [a81] → G88 = zclG G80 a81 → E89 = zclE E75 a81 → (∃ d90 G91 E92, zM zm_X6_init [zR a81, zO ((G88 0 0))] (d87, G88, E89) none (d90, G91, E92) ∧ (d90 = d87 ∨ d90.length ≤ kz.1 ∧ zsl d90 ≤ kz.2) ∧ 0 ∈ d90 ∧ a81 ∈ d90 ∧ ∀ G97, G97 = zuG G91 0 5 (some a81) → ∃ a98, (zkd a98).1 = 9 + 3 ∧ a98 ∉ d90 ∧ ¬ zst3 a98 ∧ d90.length + 1 ≤ kz.1 ∧ zsl d90 + (zkd a98).2 ≤ kz.2 ∧ ∀ d104 G105 E106, d104 = d90 ++ [a98] → G105 = zclG G97 a98 → E106 = zclE E92 a98 → (∃ d107 G108 E109, zM zm_X9_init [zR a98, zO ((G105 0 0))] (d104, G105, E106) none (d107, G108, E109) ∧ (d107 = d104 ∨ d107.length ≤ kz.1 ∧ zsl d107 ≤ kz.2) ∧ 0 ∈ d107 ∧ a98 ∈ d107 ∧ ∀ G114, G114 = zuG G108 0 6 (some a98) → ∃ a115, (zkd a115).1 = 2 + 3 ∧ a115 ∉ d107 ∧ ¬ zst3 a115 ∧ d107.length + 1 ≤ kz.1 ∧ zsl d107 + (zkd a115).2 ≤ kz.2 ∧ ∀ d121 G122 E123, d121 = d107 ++ [a115] → G122 = zclG G114 a115 → E123 = zclE E109 a115 → (∃ d124 G125 E126, zM zm_X2_init [zR a115, zO ((G122 0 0)), zO ((G122 0 5))] (d121, G122, E123) none (d124, G125, E126) ∧ (d124 = d121 ∨ d124.length ≤ kz.1 ∧ zsl d124 ≤ kz.2) ∧ 0 ∈ d124 ∧ a115 ∈ d124 ∧ ∀ G131, G131 = zuG G125 0 7 (some a115) → ∃ a132, (zkd a132).1 = 10 + 3 ∧ a132 ∉ d124 ∧ ¬ zst3 a132 ∧ d124.length + 1 ≤ kz.1 ∧ zsl d124 + (zkd a132).2 ≤ kz.2 ∧ ∀ d138 G139 E140, d138 = d124 ++ [a132] → G139 = zclG G131 a132 → E140 = zclE E126 a132 → (∃ d141 G142 E143, zM zm_X10_init [zR a132, zO ((G139 0 6)), zO ((G139 0 1))] (d138, G139, E140) none (d141, G142, E143) ∧ (d141 = d138 ∨ d141.length ≤ kz.1 ∧ zsl d141 ≤ kz.2) ∧ 0 ∈ d141 ∧ a132 ∈ d141 ∧ ∀ G148, G148 = zuG G142 0 8 (some a132) → ∃ a149, (zkd a149).1 = 4 + 3 ∧ a149 ∉ d141 ∧ ¬ zst3 a149 ∧ d141.length + 1 ≤ kz.1 ∧ zsl d141 + (zkd a149).2 ≤ kz.2 ∧ ∀ d155 G156 E157, d155 = d141 ++ [a149] → G156 = zclG G148 a149 → E157 = zclE E143 a149 → (∃ d158 G159 E160, zM zm_X4_init [zR a149, zO ((G156 0 0)), zO ((G156 0 5)), zO ((G156 0 6)), zO ((G156 0 1))] (d155, G156, E157) none (d158, G159, E160) ∧ (d158 = d155 ∨ d158.length ≤ kz.1 ∧ zsl d158 ≤ kz.2) ∧ 0 ∈ d158 ∧ a149 ∈ d158 ∧ ∀ G165, G165 = zuG G159 0 9 (some a149) → ∃ a166, (zkd a166).1 = 3 + 3 ∧ a166 ∉ d158 ∧ ¬ zst3 a166 ∧ d158.length + 1 ≤ kz.1 ∧ zsl d158 + (zkd a166).2 ≤ kz.2 ∧ ∀ d172 G173 E174, d172 = d158 ++ [a166] → G173 = zclG G165 a166 → E174 = zclE E160 a166 → (∃ G175, zM zm_X3_init [zR a166, zO ((G173 0 0)), zO ((G173 0 5)), zO ((G173 0 6)), zO ((G173 0 1))] (d172, G173, E174) none (d172, G175, E174) ∧ 0 ∈ d172 ∧ a166 ∈ d172 ∧ ∀ G180, G180 = zuG G175 0 10 (some a166) → ∃ a181, (zkd a181).1 = 0 + 3 ∧ a181 ∉ d172 ∧ ¬ zst3 a181 ∧ d172.length + 1 ≤ kz.1 ∧ zsl d172 + (zkd a181).2 ≤ kz.2 ∧ ∀ d187 G188 E189, d187 = d172 ++ [a181] → G188 = zclG G180 a181 → E189 = zclE E174 a181 → (∃ d190 G191 E192, zM zm_X0_init [zR a181, zO ((G188 0 0)), zO ((G188 0 1))] (d187, G188, E189) none (d190, G191, E192) ∧ (d190 = d187 ∨ d190.length ≤ kz.1 ∧ zsl d190 ≤ kz.2) ∧ 0 ∈ d190 ∧ a181 ∈ d190 ∧ ∀ G197, G197 = zuG G191 0 11 (some a181) → ∀ E198, E198 = zuE E192 0 12 0 → ∀ E199, E199 = zuE E198 0 13 4 → ∀ E200, E200 = zuE E199 0 14 2000 → ∀ E201, E201 = zuE E200 0 15 0 → ∀ E202, E202 = zuE E201 0 16 0 → ∀ E203, E203 = zuE E202 0 17 0 → ∀ E204, E204 = zuE E203 0 18 0 → ∀ E205, E205 = zuE E204 0 19 0 → ∀ E206, E206 = zuE E205 0 20 0 → Q none (d190, G197, E206)))))))))))))) : Z zm_X11_init kz Q 0 [(0, zR 0)] [] (d, G, E) := by
  refine Z.aload_n (k := 0) dX11_init_0 rfl ?_
  refine Z.objInit (a := 0) dX11_init_1 zk_X11_3 ⟨by decide, by decide⟩ (Nat.le_of_ble_eq_true rfl) ?_
  refine Z.aload_n (k := 0) dX11_init_4 rfl ?_
  obtain ⟨a1, z2, z3, z4, z5, z6, K⟩ := K
  refine Y.new a1 dX11_init_5 zc_X11_9 z2 z3 z4 z5 z6 ?_
  generalize ed7 : d ++ [a1] = d7
  generalize eG8 : zclG G a1 = G8
  generalize eE9 : zclE E a1 = E9
  replace K := K d7 G8 E9 ed7.symm eG8.symm eE9.symm
  refine Z.dup_i dX11_init_8 (fun _ => rfl) ?_
  obtain ⟨d10, G11, E12, m13, z14, K⟩ := K
  refine Y.callI (g := zm_X8_init) (vs := []) (st := [zR a1, zR 0]) dX11_init_9 ⟨zg_X8_init.1, zg_X8_init.2.1, zg_X8_init.2.2, by decide⟩ ⟨Or.inl zk_X11_11, zi_X8_init⟩ rfl rfl rfl rfl (Nat.le_of_ble_eq_true rfl) m13 z14 ?_
  show Z zm_X11_init kz Q 12 [(0, zR 0)] [zR a1, zR 0] (d10, G11, E12)
  obtain ⟨hm15, hm16, K⟩ := K
  refine Y.putR 0 dX11_init_12 zw_X11_12 (fun _ => ⟨rfl, rfl⟩) (rfl) rfl hm15 (fun b hb => by cases hb; exact hm16) ?_
  generalize eG17 : zuG G11 0 0 (some a1) = G17
  replace K := K G17 eG17.symm
  refine Z.aload_n (k := 0) dX11_init_15 rfl ?_
  obtain ⟨a18, z19, z20, z21, z22, z23, K⟩ := K
  refine Y.new a18 dX11_init_16 zc_X11_16 z19 z20 z21 z22 z23 ?_
  generalize ed24 : d10 ++ [a18] = d24
  generalize eG25 : zclG G17 a18 = G25
  generalize eE26 : zclE E12 a18 = E26
  replace K := K d24 G25 E26 ed24.symm eG25.symm eE26.symm
  refine Z.dup_i dX11_init_19 (fun _ => rfl) ?_
  obtain ⟨d27, G28, E29, m30, z31, K⟩ := K
  refine Y.callI (g := zm_X7_init) (vs := []) (st := [zR a18, zR 0]) dX11_init_20 ⟨zg_X7_init.1, zg_X7_init.2.1, zg_X7_init.2.2, by decide⟩ ⟨Or.inr zk_X11_18, zi_X7_init⟩ rfl rfl rfl rfl (Nat.le_of_ble_eq_true rfl) m30 z31 ?_
  show Z zm_X11_init kz Q 23 [(0, zR 0)] [zR a18, zR 0] (d27, G28, E29)
  obtain ⟨hm32, hm33, K⟩ := K
  refine Y.putR 1 dX11_init_23 zw_X11_19 (fun _ => ⟨rfl, rfl⟩) (rfl) rfl hm32 (fun b hb => by cases hb; exact hm33) ?_
  generalize eG34 : zuG G28 0 1 (some a18) = G34
  replace K := K G34 eG34.symm
  refine Z.aload_n (k := 0) dX11_init_26 rfl ?_
  refine Z.sipush (n := 200) dX11_init_27 ⟨by decide, by decide⟩ (by decide) ?_
  obtain ⟨a35, z36, z37, z38, z39, z40, z41, z42, K⟩ := K
  refine Y.newI a35 dX11_init_30 z36 z37 z38 zai z39 z40 z41 z42 ?_
  generalize ed43 : d27 ++ [a35] = d43
  generalize eG44 : zclG G34 a35 = G44
  generalize eE45 : zclE E29 a35 = E45
  replace K := K d43 G44 E45 ed43.symm eG44.symm eE45.symm
  refine Y.putR 2 dX11_init_32 zw_X11_23 (fun _ => ⟨rfl, rfl⟩) (rfl) rfl (by rw [← ed43]; exact List.mem_append_left _ (hm32)) (fun b hb => by cases hb; exact (by rw [← ed43]; exact List.mem_append_right _ List.mem_cons_self)) ?_
  generalize eG46 : zuG G44 0 2 (some a35) = G46
  replace K := K G46 eG46.symm
  refine Z.aload_n (k := 0) dX11_init_35 rfl ?_
  obtain ⟨a47, z48, z49, z50, z51, z52, K⟩ := K
  refine Y.new a47 dX11_init_36 zc_X11_27 z48 z49 z50 z51 z52 ?_
  generalize ed53 : d43 ++ [a47] = d53
  generalize eG54 : zclG G46 a47 = G54
  generalize eE55 : zclE E45 a47 = E55
  replace K := K d53 G54 E55 ed53.symm eG54.symm eE55.symm
  refine Z.dup_i dX11_init_39 (fun _ => rfl) ?_
  obtain ⟨d56, G57, E58, m59, z60, K⟩ := K
  refine Y.callI (g := zm_X5_init) (vs := []) (st := [zR a47, zR 0]) dX11_init_40 ⟨zg_X5_init.1, zg_X5_init.2.1, zg_X5_init.2.2, by decide⟩ ⟨Or.inr zk_X11_29, zi_X5_init⟩ rfl rfl rfl rfl (Nat.le_of_ble_eq_true rfl) m59 z60 ?_
  show Z zm_X11_init kz Q 43 [(0, zR 0)] [zR a47, zR 0] (d56, G57, E58)
  obtain ⟨hm61, hm62, K⟩ := K
  refine Y.putR 3 dX11_init_43 zw_X11_30 (fun _ => ⟨rfl, rfl⟩) (rfl) rfl hm61 (fun b hb => by cases hb; exact hm62) ?_
  generalize eG63 : zuG G57 0 3 (some a47) = G63
  replace K := K G63 eG63.symm
  refine Z.aload_n (k := 0) dX11_init_46 rfl ?_
  obtain ⟨a64, z65, z66, z67, z68, z69, K⟩ := K
  refine Y.new a64 dX11_init_47 zc_X11_27 z65 z66 z67 z68 z69 ?_
  generalize ed70 : d56 ++ [a64] = d70
  generalize eG71 : zclG G63 a64 = G71
  generalize eE72 : zclE E58 a64 = E72
  replace K := K d70 G71 E72 ed70.symm eG71.symm eE72.symm
  refine Z.dup_i dX11_init_50 (fun _ => rfl) ?_
  obtain ⟨d73, G74, E75, m76, z77, K⟩ := K
  refine Y.callI (g := zm_X5_init) (vs := []) (st := [zR a64, zR 0]) dX11_init_51 ⟨zg_X5_init.1, zg_X5_init.2.1, zg_X5_init.2.2, by decide⟩ ⟨Or.inr zk_X11_29, zi_X5_init⟩ rfl rfl rfl rfl (Nat.le_of_ble_eq_true rfl) m76 z77 ?_
  show Z zm_X11_init kz Q 54 [(0, zR 0)] [zR a64, zR 0] (d73, G74, E75)
  obtain ⟨hm78, hm79, K⟩ := K
  refine Y.putR 4 dX11_init_54 zw_X11_34 (fun _ => ⟨rfl, rfl⟩) (rfl) rfl hm78 (fun b hb => by cases hb; exact hm79) ?_
  generalize eG80 : zuG G74 0 4 (some a64) = G80
  replace K := K G80 eG80.symm
  refine Z.aload_n (k := 0) dX11_init_57 rfl ?_
  obtain ⟨a81, z82, z83, z84, z85, z86, K⟩ := K
  refine Y.new a81 dX11_init_58 zc_X11_37 z82 z83 z84 z85 z86 ?_
  generalize ed87 : d73 ++ [a81] = d87
  generalize eG88 : zclG G80 a81 = G88
  generalize eE89 : zclE E75 a81 = E89
  replace K := K d87 G88 E89 ed87.symm eG88.symm eE89.symm
  refine Z.dup_i dX11_init_61 (fun _ => rfl) ?_
  refine Z.aload_n (k := 0) dX11_init_62 rfl ?_
  refine Y.getR (o := (G88 0 0)) 0 dX11_init_63 zl_X11_12 (rfl) (by decide) rfl (by rw [← ed87]; exact List.mem_append_left _ (hm78)) rfl ?_
  obtain ⟨d90, G91, E92, m93, z94, K⟩ := K
  refine Y.callI (g := zm_X6_init) (vs := [zO ((G88 0 0))]) (st := [zR a81, zR 0]) dX11_init_66 ⟨zg_X6_init.1, zg_X6_init.2.1, zg_X6_init.2.2, by decide⟩ ⟨Or.inl zk_X11_39, zi_X6_init⟩ rfl rfl rfl rfl (Nat.le_of_ble_eq_true rfl) m93 z94 ?_
  show Z zm_X11_init kz Q 69 [(0, zR 0)] [zR a81, zR 0] (d90, G91, E92)
  obtain ⟨hm95, hm96, K⟩ := K
  refine Y.putR 5 dX11_init_69 zw_X11_42 (fun _ => ⟨rfl, rfl⟩) (rfl) rfl hm95 (fun b hb => by cases hb; exact hm96) ?_
  generalize eG97 : zuG G91 0 5 (some a81) = G97
  replace K := K G97 eG97.symm
  refine Z.aload_n (k := 0) dX11_init_72 rfl ?_
  obtain ⟨a98, z99, z100, z101, z102, z103, K⟩ := K
  refine Y.new a98 dX11_init_73 zc_X11_46 z99 z100 z101 z102 z103 ?_
  generalize ed104 : d90 ++ [a98] = d104
  generalize eG105 : zclG G97 a98 = G105
  generalize eE106 : zclE E92 a98 = E106
  replace K := K d104 G105 E106 ed104.symm eG105.symm eE106.symm
  refine Z.dup_i dX11_init_76 (fun _ => rfl) ?_
  refine Z.aload_n (k := 0) dX11_init_77 rfl ?_
  refine Y.getR (o := (G105 0 0)) 0 dX11_init_78 zl_X11_12 (rfl) (by decide) rfl (by rw [← ed104]; exact List.mem_append_left _ (hm95)) rfl ?_
  obtain ⟨d107, G108, E109, m110, z111, K⟩ := K
  refine Y.callI (g := zm_X9_init) (vs := [zO ((G105 0 0))]) (st := [zR a98, zR 0]) dX11_init_81 ⟨zg_X9_init.1, zg_X9_init.2.1, zg_X9_init.2.2, by decide⟩ ⟨Or.inl zk_X11_48, zi_X9_init⟩ rfl rfl rfl rfl (Nat.le_of_ble_eq_true rfl) m110 z111 ?_
  show Z zm_X11_init kz Q 84 [(0, zR 0)] [zR a98, zR 0] (d107, G108, E109)
  obtain ⟨hm112, hm113, K⟩ := K
  refine Y.putR 6 dX11_init_84 zw_X11_49 (fun _ => ⟨rfl, rfl⟩) (rfl) rfl hm112 (fun b hb => by cases hb; exact hm113) ?_
  generalize eG114 : zuG G108 0 6 (some a98) = G114
  replace K := K G114 eG114.symm
  refine Z.aload_n (k := 0) dX11_init_87 rfl ?_
  obtain ⟨a115, z116, z117, z118, z119, z120, K⟩ := K
  refine Y.new a115 dX11_init_88 zc_X11_53 z116 z117 z118 z119 z120 ?_
  generalize ed121 : d107 ++ [a115] = d121
  generalize eG122 : zclG G114 a115 = G122
  generalize eE123 : zclE E109 a115 = E123
  replace K := K d121 G122 E123 ed121.symm eG122.symm eE123.symm
  refine Z.dup_i dX11_init_91 (fun _ => rfl) ?_
  refine Z.aload_n (k := 0) dX11_init_92 rfl ?_
  refine Y.getR (o := (G122 0 0)) 0 dX11_init_93 zl_X11_12 (rfl) (by decide) rfl (by rw [← ed121]; exact List.mem_append_left _ (hm112)) rfl ?_
  refine Z.aload_n (k := 0) dX11_init_96 rfl ?_
  refine Y.getR (o := (G122 0 5)) 5 dX11_init_97 zl_X11_42 (rfl) (by decide) rfl (by rw [← ed121]; exact List.mem_append_left _ (hm112)) rfl ?_
  obtain ⟨d124, G125, E126, m127, z128, K⟩ := K
  refine Y.callI (g := zm_X2_init) (vs := [zO ((G122 0 0)), zO ((G122 0 5))]) (st := [zR a115, zR 0]) dX11_init_100 ⟨zg_X2_init.1, zg_X2_init.2.1, zg_X2_init.2.2, by decide⟩ ⟨Or.inl zk_X11_55, zi_X2_init⟩ rfl rfl rfl rfl (Nat.le_of_ble_eq_true rfl) m127 z128 ?_
  show Z zm_X11_init kz Q 103 [(0, zR 0)] [zR a115, zR 0] (d124, G125, E126)
  obtain ⟨hm129, hm130, K⟩ := K
  refine Y.putR 7 dX11_init_103 zw_X11_58 (fun _ => ⟨rfl, rfl⟩) (rfl) rfl hm129 (fun b hb => by cases hb; exact hm130) ?_
  generalize eG131 : zuG G125 0 7 (some a115) = G131
  replace K := K G131 eG131.symm
  refine Z.aload_n (k := 0) dX11_init_106 rfl ?_
  obtain ⟨a132, z133, z134, z135, z136, z137, K⟩ := K
  refine Y.new a132 dX11_init_107 zc_X11_62 z133 z134 z135 z136 z137 ?_
  generalize ed138 : d124 ++ [a132] = d138
  generalize eG139 : zclG G131 a132 = G139
  generalize eE140 : zclE E126 a132 = E140
  replace K := K d138 G139 E140 ed138.symm eG139.symm eE140.symm
  refine Z.dup_i dX11_init_110 (fun _ => rfl) ?_
  refine Z.aload_n (k := 0) dX11_init_111 rfl ?_
  refine Y.getR (o := (G139 0 6)) 6 dX11_init_112 zl_X11_49 (rfl) (by decide) rfl (by rw [← ed138]; exact List.mem_append_left _ (hm129)) rfl ?_
  refine Z.aload_n (k := 0) dX11_init_115 rfl ?_
  refine Y.getR (o := (G139 0 1)) 1 dX11_init_116 zl_X11_19 (rfl) (by decide) rfl (by rw [← ed138]; exact List.mem_append_left _ (hm129)) rfl ?_
  obtain ⟨d141, G142, E143, m144, z145, K⟩ := K
  refine Y.callI (g := zm_X10_init) (vs := [zO ((G139 0 6)), zO ((G139 0 1))]) (st := [zR a132, zR 0]) dX11_init_119 ⟨zg_X10_init.1, zg_X10_init.2.1, zg_X10_init.2.2, by decide⟩ ⟨Or.inl zk_X11_64, zi_X10_init⟩ rfl rfl rfl rfl (Nat.le_of_ble_eq_true rfl) m144 z145 ?_
  show Z zm_X11_init kz Q 122 [(0, zR 0)] [zR a132, zR 0] (d141, G142, E143)
  obtain ⟨hm146, hm147, K⟩ := K
  refine Y.putR 8 dX11_init_122 zw_X11_67 (fun _ => ⟨rfl, rfl⟩) (rfl) rfl hm146 (fun b hb => by cases hb; exact hm147) ?_
  generalize eG148 : zuG G142 0 8 (some a132) = G148
  replace K := K G148 eG148.symm
  refine Z.aload_n (k := 0) dX11_init_125 rfl ?_
  obtain ⟨a149, z150, z151, z152, z153, z154, K⟩ := K
  refine Y.new a149 dX11_init_126 zc_X11_71 z150 z151 z152 z153 z154 ?_
  generalize ed155 : d141 ++ [a149] = d155
  generalize eG156 : zclG G148 a149 = G156
  generalize eE157 : zclE E143 a149 = E157
  replace K := K d155 G156 E157 ed155.symm eG156.symm eE157.symm
  refine Z.dup_i dX11_init_129 (fun _ => rfl) ?_
  refine Z.aload_n (k := 0) dX11_init_130 rfl ?_
  refine Y.getR (o := (G156 0 0)) 0 dX11_init_131 zl_X11_12 (rfl) (by decide) rfl (by rw [← ed155]; exact List.mem_append_left _ (hm146)) rfl ?_
  refine Z.aload_n (k := 0) dX11_init_134 rfl ?_
  refine Y.getR (o := (G156 0 5)) 5 dX11_init_135 zl_X11_42 (rfl) (by decide) rfl (by rw [← ed155]; exact List.mem_append_left _ (hm146)) rfl ?_
  refine Z.aload_n (k := 0) dX11_init_138 rfl ?_
  refine Y.getR (o := (G156 0 6)) 6 dX11_init_139 zl_X11_49 (rfl) (by decide) rfl (by rw [← ed155]; exact List.mem_append_left _ (hm146)) rfl ?_
  refine Z.aload_n (k := 0) dX11_init_142 rfl ?_
  refine Y.getR (o := (G156 0 1)) 1 dX11_init_143 zl_X11_19 (rfl) (by decide) rfl (by rw [← ed155]; exact List.mem_append_left _ (hm146)) rfl ?_
  obtain ⟨d158, G159, E160, m161, z162, K⟩ := K
  refine Y.callI (g := zm_X4_init) (vs := [zO ((G156 0 0)), zO ((G156 0 5)), zO ((G156 0 6)), zO ((G156 0 1))]) (st := [zR a149, zR 0]) dX11_init_146 ⟨zg_X4_init.1, zg_X4_init.2.1, zg_X4_init.2.2, by decide⟩ ⟨Or.inl zk_X11_73, zi_X4_init⟩ rfl rfl rfl rfl (Nat.le_of_ble_eq_true rfl) m161 z162 ?_
  show Z zm_X11_init kz Q 149 [(0, zR 0)] [zR a149, zR 0] (d158, G159, E160)
  obtain ⟨hm163, hm164, K⟩ := K
  refine Y.putR 9 dX11_init_149 zw_X11_76 (fun _ => ⟨rfl, rfl⟩) (rfl) rfl hm163 (fun b hb => by cases hb; exact hm164) ?_
  generalize eG165 : zuG G159 0 9 (some a149) = G165
  replace K := K G165 eG165.symm
  refine Z.aload_n (k := 0) dX11_init_152 rfl ?_
  obtain ⟨a166, z167, z168, z169, z170, z171, K⟩ := K
  refine Y.new a166 dX11_init_153 zc_X11_80 z167 z168 z169 z170 z171 ?_
  generalize ed172 : d158 ++ [a166] = d172
  generalize eG173 : zclG G165 a166 = G173
  generalize eE174 : zclE E160 a166 = E174
  replace K := K d172 G173 E174 ed172.symm eG173.symm eE174.symm
  refine Z.dup_i dX11_init_156 (fun _ => rfl) ?_
  refine Z.aload_n (k := 0) dX11_init_157 rfl ?_
  refine Y.getR (o := (G173 0 0)) 0 dX11_init_158 zl_X11_12 (rfl) (by decide) rfl (by rw [← ed172]; exact List.mem_append_left _ (hm163)) rfl ?_
  refine Z.aload_n (k := 0) dX11_init_161 rfl ?_
  refine Y.getR (o := (G173 0 5)) 5 dX11_init_162 zl_X11_42 (rfl) (by decide) rfl (by rw [← ed172]; exact List.mem_append_left _ (hm163)) rfl ?_
  refine Z.aload_n (k := 0) dX11_init_165 rfl ?_
  refine Y.getR (o := (G173 0 6)) 6 dX11_init_166 zl_X11_49 (rfl) (by decide) rfl (by rw [← ed172]; exact List.mem_append_left _ (hm163)) rfl ?_
  refine Z.aload_n (k := 0) dX11_init_169 rfl ?_
  refine Y.getR (o := (G173 0 1)) 1 dX11_init_170 zl_X11_19 (rfl) (by decide) rfl (by rw [← ed172]; exact List.mem_append_left _ (hm163)) rfl ?_
  obtain ⟨G175, m176, K⟩ := K
  refine Y.callI (g := zm_X3_init) (vs := [zO ((G173 0 0)), zO ((G173 0 5)), zO ((G173 0 6)), zO ((G173 0 1))]) (st := [zR a166, zR 0]) dX11_init_173 ⟨zg_X3_init.1, zg_X3_init.2.1, zg_X3_init.2.2, by decide⟩ ⟨Or.inl zk_X11_82, zi_X3_init⟩ rfl rfl rfl rfl (Nat.le_of_ble_eq_true rfl) m176 (Or.inl rfl) ?_
  show Z zm_X11_init kz Q 176 [(0, zR 0)] [zR a166, zR 0] (d172, G175, E174)
  obtain ⟨hm178, hm179, K⟩ := K
  refine Y.putR 10 dX11_init_176 zw_X11_83 (fun _ => ⟨rfl, rfl⟩) (rfl) rfl hm178 (fun b hb => by cases hb; exact hm179) ?_
  generalize eG180 : zuG G175 0 10 (some a166) = G180
  replace K := K G180 eG180.symm
  refine Z.aload_n (k := 0) dX11_init_179 rfl ?_
  obtain ⟨a181, z182, z183, z184, z185, z186, K⟩ := K
  refine Y.new a181 dX11_init_180 zc_X11_87 z182 z183 z184 z185 z186 ?_
  generalize ed187 : d172 ++ [a181] = d187
  generalize eG188 : zclG G180 a181 = G188
  generalize eE189 : zclE E174 a181 = E189
  replace K := K d187 G188 E189 ed187.symm eG188.symm eE189.symm
  refine Z.dup_i dX11_init_183 (fun _ => rfl) ?_
  refine Z.aload_n (k := 0) dX11_init_184 rfl ?_
  refine Y.getR (o := (G188 0 0)) 0 dX11_init_185 zl_X11_12 (rfl) (by decide) rfl (by rw [← ed187]; exact List.mem_append_left _ (hm178)) rfl ?_
  refine Z.aload_n (k := 0) dX11_init_188 rfl ?_
  refine Y.getR (o := (G188 0 1)) 1 dX11_init_189 zl_X11_19 (rfl) (by decide) rfl (by rw [← ed187]; exact List.mem_append_left _ (hm178)) rfl ?_
  obtain ⟨d190, G191, E192, m193, z194, K⟩ := K
  refine Y.callI (g := zm_X0_init) (vs := [zO ((G188 0 0)), zO ((G188 0 1))]) (st := [zR a181, zR 0]) dX11_init_192 ⟨zg_X0_init.1, zg_X0_init.2.1, zg_X0_init.2.2, by decide⟩ ⟨Or.inl zk_X11_89, zi_X0_init⟩ rfl rfl rfl rfl (Nat.le_of_ble_eq_true rfl) m193 z194 ?_
  show Z zm_X11_init kz Q 195 [(0, zR 0)] [zR a181, zR 0] (d190, G191, E192)
  obtain ⟨hm195, hm196, K⟩ := K
  refine Y.putR 11 dX11_init_195 zw_X11_92 (fun _ => ⟨rfl, rfl⟩) (rfl) rfl hm195 (fun b hb => by cases hb; exact hm196) ?_
  generalize eG197 : zuG G191 0 11 (some a181) = G197
  replace K := K G197 eG197.symm
  refine Z.aload_n (k := 0) dX11_init_198 rfl ?_
  refine Z.iconst (n := 0) dX11_init_199 ⟨by decide, by decide⟩ ?_
  refine Y.putI 12 dX11_init_200 zw_X11_96 (fun q => by cases q) (rfl) rfl hm195 (Or.inl rfl) ?_
  generalize eE198 : zuE E192 0 12 0 = E198
  replace K := K E198 eE198.symm
  refine Z.aload_n (k := 0) dX11_init_203 rfl ?_
  refine Z.iconst (n := 4) dX11_init_204 ⟨by decide, by decide⟩ ?_
  refine Y.putI 13 dX11_init_205 zw_X11_100 (fun q => by cases q) (rfl) rfl hm195 (Or.inl rfl) ?_
  generalize eE199 : zuE E198 0 13 4 = E199
  replace K := K E199 eE199.symm
  refine Z.aload_n (k := 0) dX11_init_208 rfl ?_
  refine Z.sipush (n := 2000) dX11_init_209 ⟨by decide, by decide⟩ (by decide) ?_
  refine Y.putI 14 dX11_init_212 zw_X11_103 (fun q => by cases q) (rfl) rfl hm195 (Or.inl rfl) ?_
  generalize eE200 : zuE E199 0 14 2000 = E200
  replace K := K E200 eE200.symm
  refine Z.aload_n (k := 0) dX11_init_215 rfl ?_
  refine Z.iconst (n := 0) dX11_init_216 ⟨by decide, by decide⟩ ?_
  refine Y.putI 15 dX11_init_217 zw_X11_106 (fun q => by cases q) (rfl) rfl hm195 (Or.inl rfl) ?_
  generalize eE201 : zuE E200 0 15 0 = E201
  replace K := K E201 eE201.symm
  refine Z.aload_n (k := 0) dX11_init_220 rfl ?_
  refine Z.iconst (n := 0) dX11_init_221 ⟨by decide, by decide⟩ ?_
  refine Y.putI 16 dX11_init_222 zw_X11_109 (fun q => by cases q) (rfl) rfl hm195 (Or.inl rfl) ?_
  generalize eE202 : zuE E201 0 16 0 = E202
  replace K := K E202 eE202.symm
  refine Z.aload_n (k := 0) dX11_init_225 rfl ?_
  refine Z.iconst (n := 0) dX11_init_226 ⟨by decide, by decide⟩ ?_
  refine Y.putI 17 dX11_init_227 zw_X11_112 (fun q => by cases q) (rfl) rfl hm195 (Or.inl rfl) ?_
  generalize eE203 : zuE E202 0 17 0 = E203
  replace K := K E203 eE203.symm
  refine Z.aload_n (k := 0) dX11_init_230 rfl ?_
  refine Z.iconst (n := 0) dX11_init_231 ⟨by decide, by decide⟩ ?_
  refine Y.putI 18 dX11_init_232 zw_X11_115 (fun q => by cases q) (rfl) rfl hm195 (Or.inl rfl) ?_
  generalize eE204 : zuE E203 0 18 0 = E204
  replace K := K E204 eE204.symm
  refine Z.aload_n (k := 0) dX11_init_235 rfl ?_
  refine Z.iconst (n := 0) dX11_init_236 ⟨by decide, by decide⟩ ?_
  refine Y.putI 19 dX11_init_237 zw_X11_118 (fun q => by cases q) (rfl) rfl hm195 (Or.inl rfl) ?_
  generalize eE205 : zuE E204 0 19 0 = E205
  replace K := K E205 eE205.symm
  refine Z.aload_n (k := 0) dX11_init_240 rfl ?_
  refine Z.iconst (n := 0) dX11_init_241 ⟨by decide, by decide⟩ ?_
  refine Y.putI 20 dX11_init_242 zw_X11_121 (fun q => by cases q) (rfl) rfl hm195 (Or.inl rfl) ?_
  generalize eE206 : zuE E205 0 20 0 = E206
  replace K := K E206 eE206.symm
  exact Z.vret dX11_init_245 rfl K
set_option maxRecDepth 20000 in
theorem X11_sign_0 {kz : Nat × Nat} {Q : Option zV → zH → Prop} {d : List Nat} {G : Nat → Int → Option Nat} {E : Nat → Int → Int} {v1 : Int} {v2 : Int} {v3 : Int} (hX : zK zXt d G) (K : (v2 < 0 → Q (some (zI ((-2)))) (d, G, E)) ∧ (¬ (v2 < 0) → (3 < v2 → Q (some (zI ((-2)))) (d, G, E)) ∧ (¬ (3 < v2) → (v3 < 1 → Q (some (zI ((-2)))) (d, G, E)) ∧ (¬ (v3 < 1) → (v3 ≤ 9 → ((E 5 4) ≤ 0 → ∃ x6 E7, zM zm_X8_add [zR 1, zI v1, zI v2, zI v3] (d, G, E) (some (zI x6)) (d, G, E7) ∧ Q (some (zI x6)) (d, G, E7)) ∧ (¬ ((E 5 4) ≤ 0) → Q (some (zI ((-3)))) (d, G, E))) ∧ (¬ (v3 ≤ 9) → Q (some (zI ((-2)))) (d, G, E)))))) : Z zm_X11_sign kz Q 0 [(0, zR 0), (1, zI v1), (2, zI v2), (3, zI v3)] [] (d, G, E) := by
  refine Z.iload_n (k := 2) dX11_sign_0 rfl ?_
  refine Z.if_lt 20 dX11_sign_1 rfl ⟨fun c1 => ?_, fun c1 => ?_⟩
  · replace K := K.1 c1
    refine Z.bipush (n := -2) dX11_sign_20 ⟨by decide, by decide⟩ (by decide) ?_
    exact Z.iret (ty := .int) dX11_sign_22 rfl rfl K
  · replace K := K.2 c1
    refine Z.iload_n (k := 2) dX11_sign_4 rfl ?_
    refine Z.iconst (n := 3) dX11_sign_5 ⟨by decide, by decide⟩ ?_
    refine Z.icmp_gt 20 dX11_sign_6 rfl ⟨fun c2 => ?_, fun c2 => ?_⟩
    · replace K := K.1 c2
      refine Z.bipush (n := -2) dX11_sign_20 ⟨by decide, by decide⟩ (by decide) ?_
      exact Z.iret (ty := .int) dX11_sign_22 rfl rfl K
    · replace K := K.2 c2
      refine Z.iload_n (k := 3) dX11_sign_9 rfl ?_
      refine Z.iconst (n := 1) dX11_sign_10 ⟨by decide, by decide⟩ ?_
      refine Z.icmp_lt 20 dX11_sign_11 rfl ⟨fun c3 => ?_, fun c3 => ?_⟩
      · replace K := K.1 c3
        refine Z.bipush (n := -2) dX11_sign_20 ⟨by decide, by decide⟩ (by decide) ?_
        exact Z.iret (ty := .int) dX11_sign_22 rfl rfl K
      · replace K := K.2 c3
        refine Z.iload_n (k := 3) dX11_sign_14 rfl ?_
        refine Z.bipush (n := 9) dX11_sign_15 ⟨by decide, by decide⟩ (by decide) ?_
        refine Z.icmp_le 23 dX11_sign_17 rfl ⟨fun c4 => ?_, fun c4 => ?_⟩
        · replace K := K.1 c4
          refine Z.aload_n (k := 0) dX11_sign_23 rfl ?_
          refine Y.getR (o := some 5) 1 dX11_sign_24 zl_X11_19 (rfl) (by decide) rfl (zX_0_0 hX).2.1 (zX_0_1 hX).1 ?_
          refine Y.getI 4 dX11_sign_27 zl_X11_124 (rfl) (by decide) rfl (zX_0_1 hX).2.2 ?_
          refine Z.if_le 36 dX11_sign_30 rfl ⟨fun c5 => ?_, fun c5 => ?_⟩
          · replace K := K.1 c5
            refine Z.aload_n (k := 0) dX11_sign_36 rfl ?_
            refine Y.getR (o := some 1) 0 dX11_sign_37 zl_X11_12 (rfl) (by decide) rfl (zX_0_0 hX).2.1 (zX_0_0 hX).1 ?_
            refine Z.iload_n (k := 1) dX11_sign_40 rfl ?_
            refine Z.iload_n (k := 2) dX11_sign_41 rfl ?_
            refine Z.iload_n (k := 3) dX11_sign_42 rfl ?_
            obtain ⟨x6, E7, m8, K⟩ := K
            refine Y.callV (g := zm_X8_add) (vs := [zI v1, zI v2, zI v3]) (st := []) dX11_sign_43 ⟨zg_X8_add.1, zg_X8_add.2.1, zg_X8_add.2.2, by decide⟩ ⟨zk_X11_127, zv_X8_add⟩ (ci := 8) (rfl) rfl ((zX_0_0 hX).2.2) rfl rfl (Nat.le_of_ble_eq_true rfl) m8 (Or.inl rfl) ?_
            show Z zm_X11_sign kz Q 46 [(0, zR 0), (1, zI v1), (2, zI v2), (3, zI v3)] [zI x6] (d, G, E7)
            exact Z.iret (ty := .int) dX11_sign_46 rfl rfl K
          · replace K := K.2 c5
            refine Z.bipush (n := -3) dX11_sign_33 ⟨by decide, by decide⟩ (by decide) ?_
            exact Z.iret (ty := .int) dX11_sign_35 rfl rfl K
        · replace K := K.2 c4
          refine Z.bipush (n := -2) dX11_sign_20 ⟨by decide, by decide⟩ (by decide) ?_
          exact Z.iret (ty := .int) dX11_sign_22 rfl rfl K
set_option maxRecDepth 20000 in
theorem X11_draft_0 {kz : Nat × Nat} {Q : Option zV → zH → Prop} {d : List Nat} {G : Nat → Int → Option Nat} {E : Nat → Int → Int} {v1 : Int} (hX : zK zXt d G) (K : (v1 < (-20) → Q (some (zI ((-2)))) (d, G, E)) ∧ (¬ (v1 < (-20)) → (v1 ≤ 3000 → ((E 0 12) < 200 → ((0 : Int) ≤ (E 0 12) ∧ (E 0 12) < 200) ∧ ∀ E5, E5 = zuE E 9 ((E 0 12)) v1 → zin ((E5 0 12) + 1) ∧ ∀ E7, E7 = zuE E5 0 12 (((E5 0 12) + 1)) → Q (some (zI ((E7 0 12)))) (d, G, E7)) ∧ (¬ ((E 0 12) < 200) → Q (some (zI ((-4)))) (d, G, E))) ∧ (¬ (v1 ≤ 3000) → Q (some (zI ((-2)))) (d, G, E)))) : Z zm_X11_draft kz Q 0 [(0, zR 0), (1, zI v1)] [] (d, G, E) := by
  refine Z.iload_n (k := 1) dX11_draft_0 rfl ?_
  refine Z.bipush (n := -20) dX11_draft_1 ⟨by decide, by decide⟩ (by decide) ?_
  refine Z.icmp_lt 13 dX11_draft_3 rfl ⟨fun c1 => ?_, fun c1 => ?_⟩
  · replace K := K.1 c1
    refine Z.bipush (n := -2) dX11_draft_13 ⟨by decide, by decide⟩ (by decide) ?_
    exact Z.iret (ty := .int) dX11_draft_15 rfl rfl K
  · replace K := K.2 c1
    refine Z.iload_n (k := 1) dX11_draft_6 rfl ?_
    refine Z.sipush (n := 3000) dX11_draft_7 ⟨by decide, by decide⟩ (by decide) ?_
    refine Z.icmp_le 16 dX11_draft_10 rfl ⟨fun c2 => ?_, fun c2 => ?_⟩
    · replace K := K.1 c2
      refine Z.aload_n (k := 0) dX11_draft_16 rfl ?_
      refine Y.getI 12 dX11_draft_17 zl_X11_96 (rfl) (by decide) rfl (zX_0_0 hX).2.1 ?_
      refine Z.sipush (n := 200) dX11_draft_20 ⟨by decide, by decide⟩ (by decide) ?_
      refine Z.icmp_lt 29 dX11_draft_23 rfl ⟨fun c3 => ?_, fun c3 => ?_⟩
      · replace K := K.1 c3
        refine Z.aload_n (k := 0) dX11_draft_29 rfl ?_
        refine Y.getR (o := some 9) 2 dX11_draft_30 zl_X11_23 (rfl) (by decide) rfl (zX_0_0 hX).2.1 (zX_0_2 hX).1 ?_
        refine Z.aload_n (k := 0) dX11_draft_33 rfl ?_
        refine Y.getI 12 dX11_draft_34 zl_X11_96 (rfl) (by decide) rfl (zX_0_0 hX).2.1 ?_
        refine Z.iload_n (k := 1) dX11_draft_37 rfl ?_
        obtain ⟨z4, K⟩ := K
        refine Y.iast dX11_draft_38 (rfl) ((zX_0_2 hX).2.2) z4 ?_
        generalize eE5 : zuE E 9 ((E 0 12)) v1 = E5
        replace K := K E5 eE5.symm
        refine Z.aload_n (k := 0) dX11_draft_39 rfl ?_
        refine Z.dup_i dX11_draft_40 (fun _ => rfl) ?_
        refine Y.getI 12 dX11_draft_41 zl_X11_96 (rfl) (by decide) rfl (zX_0_0 hX).2.1 ?_
        refine Z.iconst (n := 1) dX11_draft_44 ⟨by decide, by decide⟩ ?_
        obtain ⟨z6, K⟩ := K
        refine Z.iadd dX11_draft_45 z6 ?_
        refine Y.putI 12 dX11_draft_46 zw_X11_96 (fun q => by cases q) (rfl) rfl (zX_0_0 hX).2.1 (Or.inl rfl) ?_
        generalize eE7 : zuE E5 0 12 (((E5 0 12) + 1)) = E7
        replace K := K E7 eE7.symm
        refine Z.aload_n (k := 0) dX11_draft_49 rfl ?_
        refine Y.getI 12 dX11_draft_50 zl_X11_96 (rfl) (by decide) rfl (zX_0_0 hX).2.1 ?_
        exact Z.iret (ty := .int) dX11_draft_53 rfl rfl K
      · replace K := K.2 c3
        refine Z.bipush (n := -4) dX11_draft_26 ⟨by decide, by decide⟩ (by decide) ?_
        exact Z.iret (ty := .int) dX11_draft_28 rfl rfl K
    · replace K := K.2 c2
      refine Z.bipush (n := -2) dX11_draft_13 ⟨by decide, by decide⟩ (by decide) ?_
      exact Z.iret (ty := .int) dX11_draft_15 rfl rfl K
set_option maxRecDepth 20000 in
theorem X11_endOfParts_0 {kz : Nat × Nat} {Q : Option zV → zH → Prop} {d : List Nat} {G : Nat → Int → Option Nat} {E : Nat → Int → Int} {v1 : Int} {v2 : Int} (hX : zK zXt d G) (K : zin (v1 + 30) ∧ zin ((v1 + 30) - 1) ∧ ∃ x3, zM zm_J9_min_7cf53 [zI ((E 0 12)), zI (((v1 + 30) - 1))] (d, G, E) (some (zI x3)) (d, G, E) ∧ Z zm_X11_endOfParts kz Q 20 [(0, zR 0), (3, zI v2), (4, zI v1), (5, zI x3)] [] (d, G, E)) : Z zm_X11_endOfParts kz Q 0 [(0, zR 0), (1, zI v1), (2, zI v2)] [] (d, G, E) := by
  refine Z.iload_n (k := 2) dX11_endOfParts_0 rfl ?_
  refine Z.istore_n (ls' := [(3, zI v2), (0, zR 0), (1, zI v1), (2, zI v2)]) dX11_endOfParts_1 (by decide) rfl ?_
  refine Z.iload_n (k := 2) dX11_endOfParts_2 rfl ?_
  refine Z.istore (ls' := [(4, zI v1), (3, zI v2), (0, zR 0), (1, zI v1), (2, zI v2)]) dX11_endOfParts_3 (by decide) rfl ?_
  refine Z.aload_n (k := 2) dX11_endOfParts_5 rfl ?_
  refine Y.getI 12 dX11_endOfParts_6 zl_X11_96 (rfl) (by decide) rfl (zX_0_0 hX).2.1 ?_
  refine Z.iload_n (k := 3) dX11_endOfParts_9 rfl ?_
  refine Z.bipush (n := 30) dX11_endOfParts_10 ⟨by decide, by decide⟩ (by decide) ?_
  obtain ⟨z1, K⟩ := K
  refine Z.iadd dX11_endOfParts_12 z1 ?_
  refine Z.iconst (n := 1) dX11_endOfParts_13 ⟨by decide, by decide⟩ ?_
  obtain ⟨z2, K⟩ := K
  refine Z.isub dX11_endOfParts_14 z2 ?_
  obtain ⟨x3, m4, K⟩ := K
  refine Y.callS (g := zm_J9_min_7cf53) (vs := [zI ((E 0 12)), zI (((v1 + 30) - 1))]) (st := []) dX11_endOfParts_15 ⟨zg_J9_min_7cf53.1, zg_J9_min_7cf53.2.1, zg_J9_min_7cf53.2.2, by decide⟩ ⟨Or.inl zk_X11_305, zs_J9_min_7cf53⟩ rfl rfl (Nat.le_of_ble_eq_true rfl) m4 (Or.inl rfl) ?_
  show Z zm_X11_endOfParts kz Q 18 [(4, zI v1), (3, zI v2), (0, zR 0), (1, zI v1), (2, zI v2)] [zI x3] (d, G, E)
  refine Z.istore (ls' := [(5, zI x3), (4, zI v1), (3, zI v2), (0, zR 0), (1, zI v1), (2, zI v2)]) dX11_endOfParts_18 (by decide) rfl ?_
  refine Z.pick (ls' := [(0, zR 0), (3, zI v2), (4, zI v1), (5, zI x3)]) [3, 2, 1, 0] rfl ?_
  exact K
set_option maxRecDepth 20000 in
theorem X11_endOfParts_20 {kz : Nat × Nat} {Q : Option zV → zH → Prop} {d : List Nat} {G : Nat → Int → Option Nat} {E : Nat → Int → Int} {v3 : Int} {v4 : Int} {v5 : Int} (hX : zK zXt d G) (K : (v3 ≤ 0 → (v3 ≤ 0 → Q (some (zI v4)) (d, G, E)) ∧ (¬ (v3 ≤ 0) → zin ((-1) - v4) ∧ Q (some (zI (((-1) - v4)))) (d, G, E))) ∧ (¬ (v3 ≤ 0) → (v5 ≤ v4 → (v3 ≤ 0 → Q (some (zI v4)) (d, G, E)) ∧ (¬ (v3 ≤ 0) → zin ((-1) - v4) ∧ Q (some (zI (((-1) - v4)))) (d, G, E))) ∧ (¬ (v5 ≤ v4) → ((0 : Int) ≤ v4 ∧ v4 < 200) ∧ ((E 9 v4) < 0 → ∃ x9, zM zm_X8_partsOf [zR 1, zI ((E 9 v4))] (d, G, E) (some (zI x9)) (d, G, E) ∧ zin (x9 - 1) ∧ zin (v3 + (x9 - 1)) ∧ zin (v4 + 1) ∧ Z zm_X11_endOfParts kz Q 20 [(0, zR 0), (3, zI ((v3 + (x9 - 1)))), (4, zI ((v4 + 1))), (5, zI v5)] [] (d, G, E)) ∧ (¬ ((E 9 v4) < 0) → ∃ x15, zM zm_X8_isFunction [zR 1, zI ((E 9 v4))] (d, G, E) (some (zI x15)) (d, G, E) ∧ (x15 ≠ 0 → ∃ x19, zM zm_X8_partsOf [zR 1, zI ((E 9 v4))] (d, G, E) (some (zI x19)) (d, G, E) ∧ zin (x19 - 1) ∧ zin (v3 + (x19 - 1)) ∧ zin (v4 + 1) ∧ Z zm_X11_endOfParts kz Q 20 [(0, zR 0), (3, zI ((v3 + (x19 - 1)))), (4, zI ((v4 + 1))), (5, zI v5)] [] (d, G, E)) ∧ (¬ (x15 ≠ 0) → zin ((-1) - v4) ∧ Q (some (zI (((-1) - v4)))) (d, G, E)))))) : Z zm_X11_endOfParts kz Q 20 [(0, zR 0), (3, zI v3), (4, zI v4), (5, zI v5)] [] (d, G, E) := by
  refine Z.iload_n (k := 1) dX11_endOfParts_20 rfl ?_
  refine Z.if_le 82 dX11_endOfParts_21 rfl ⟨fun c1 => ?_, fun c1 => ?_⟩
  · replace K := K.1 c1
    refine Z.iload_n (k := 1) dX11_endOfParts_82 rfl ?_
    refine Z.if_le 93 dX11_endOfParts_83 rfl ⟨fun c2 => ?_, fun c2 => ?_⟩
    · replace K := K.1 c2
      refine Z.iload (k := 2) dX11_endOfParts_93 rfl ?_
      exact Z.iret (ty := .int) dX11_endOfParts_95 rfl rfl K
    · replace K := K.2 c2
      refine Z.iconst (n := -1) dX11_endOfParts_86 ⟨by decide, by decide⟩ ?_
      refine Z.iload (k := 2) dX11_endOfParts_87 rfl ?_
      obtain ⟨z3, K⟩ := K
      refine Z.isub dX11_endOfParts_89 z3 ?_
      refine Z.goto 95 dX11_endOfParts_90 rfl ?_
      exact Z.iret (ty := .int) dX11_endOfParts_95 rfl rfl K
  · replace K := K.2 c1
    refine Z.iload (k := 2) dX11_endOfParts_24 rfl ?_
    refine Z.iload (k := 3) dX11_endOfParts_26 rfl ?_
    refine Z.icmp_ge 82 dX11_endOfParts_28 rfl ⟨fun c4 => ?_, fun c4 => ?_⟩
    · replace K := K.1 c4
      refine Z.iload_n (k := 1) dX11_endOfParts_82 rfl ?_
      refine Z.if_le 93 dX11_endOfParts_83 rfl ⟨fun c5 => ?_, fun c5 => ?_⟩
      · replace K := K.1 c5
        refine Z.iload (k := 2) dX11_endOfParts_93 rfl ?_
        exact Z.iret (ty := .int) dX11_endOfParts_95 rfl rfl K
      · replace K := K.2 c5
        refine Z.iconst (n := -1) dX11_endOfParts_86 ⟨by decide, by decide⟩ ?_
        refine Z.iload (k := 2) dX11_endOfParts_87 rfl ?_
        obtain ⟨z6, K⟩ := K
        refine Z.isub dX11_endOfParts_89 z6 ?_
        refine Z.goto 95 dX11_endOfParts_90 rfl ?_
        exact Z.iret (ty := .int) dX11_endOfParts_95 rfl rfl K
    · replace K := K.2 c4
      refine Z.aload_n (k := 0) dX11_endOfParts_31 rfl ?_
      refine Y.getR (o := some 9) 2 dX11_endOfParts_32 zl_X11_23 (rfl) (by decide) rfl (zX_0_0 hX).2.1 (zX_0_2 hX).1 ?_
      refine Z.iload (k := 2) dX11_endOfParts_35 rfl ?_
      obtain ⟨z7, K⟩ := K
      refine Y.iald dX11_endOfParts_37 (rfl) ((zX_0_2 hX).2.2) z7 ?_
      refine Z.istore (ls' := [(6, zI ((E 9 v4))), (0, zR 0), (3, zI v3), (4, zI v4), (5, zI v5)]) dX11_endOfParts_38 (by decide) rfl ?_
      refine Z.iload (k := 0) dX11_endOfParts_40 rfl ?_
      refine Z.if_lt 62 dX11_endOfParts_42 rfl ⟨fun c8 => ?_, fun c8 => ?_⟩
      · replace K := K.1 c8
        refine Z.iload_n (k := 2) dX11_endOfParts_62 rfl ?_
        refine Z.aload_n (k := 1) dX11_endOfParts_63 rfl ?_
        refine Y.getR (o := some 1) 0 dX11_endOfParts_64 zl_X11_12 (rfl) (by decide) rfl (zX_0_0 hX).2.1 (zX_0_0 hX).1 ?_
        refine Z.iload (k := 0) dX11_endOfParts_67 rfl ?_
        obtain ⟨x9, m10, K⟩ := K
        refine Y.callV (g := zm_X8_partsOf) (vs := [zI ((E 9 v4))]) (st := [zI v3]) dX11_endOfParts_69 ⟨zg_X8_partsOf.1, zg_X8_partsOf.2.1, zg_X8_partsOf.2.2, by decide⟩ ⟨zk_X11_250, zv_X8_partsOf⟩ (ci := 8) (rfl) rfl ((zX_0_0 hX).2.2) rfl rfl (Nat.le_of_ble_eq_true rfl) m10 (Or.inl rfl) ?_
        show Z zm_X11_endOfParts kz Q 72 [(6, zI ((E 9 v4))), (0, zR 0), (3, zI v3), (4, zI v4), (5, zI v5)] [zI x9, zI v3] (d, G, E)
        refine Z.iconst (n := 1) dX11_endOfParts_72 ⟨by decide, by decide⟩ ?_
        obtain ⟨z12, K⟩ := K
        refine Z.isub dX11_endOfParts_73 z12 ?_
        obtain ⟨z13, K⟩ := K
        refine Z.iadd dX11_endOfParts_74 z13 ?_
        refine Z.istore_n (ls' := [(3, zI ((v3 + (x9 - 1)))), (6, zI ((E 9 v4))), (0, zR 0), (4, zI v4), (5, zI v5)]) dX11_endOfParts_75 (by decide) rfl ?_
        obtain ⟨z14, K⟩ := K
        refine Z.iinc (k := 3) (ls' := [(4, zI ((v4 + 1))), (3, zI ((v3 + (x9 - 1)))), (6, zI ((E 9 v4))), (0, zR 0), (5, zI v5)]) dX11_endOfParts_76 rfl (by decide) z14 rfl ?_
        refine Z.goto 20 dX11_endOfParts_79 rfl ?_
        refine Z.pick (ls' := [(0, zR 0), (3, zI ((v3 + (x9 - 1)))), (4, zI ((v4 + 1))), (5, zI v5)]) [3, 1, 0, 4] rfl ?_
        exact K
      · replace K := K.2 c8
        refine Z.aload_n (k := 1) dX11_endOfParts_45 rfl ?_
        refine Y.getR (o := some 1) 0 dX11_endOfParts_46 zl_X11_12 (rfl) (by decide) rfl (zX_0_0 hX).2.1 (zX_0_0 hX).1 ?_
        refine Z.iload (k := 0) dX11_endOfParts_49 rfl ?_
        obtain ⟨x15, m16, K⟩ := K
        refine Y.callV (g := zm_X8_isFunction) (vs := [zI ((E 9 v4))]) (st := []) dX11_endOfParts_51 ⟨zg_X8_isFunction.1, zg_X8_isFunction.2.1, zg_X8_isFunction.2.2, by decide⟩ ⟨zk_X11_310, zv_X8_isFunction⟩ (ci := 8) (rfl) rfl ((zX_0_0 hX).2.2) rfl rfl (Nat.le_of_ble_eq_true rfl) m16 (Or.inl rfl) ?_
        show Z zm_X11_endOfParts kz Q 54 [(6, zI ((E 9 v4))), (0, zR 0), (3, zI v3), (4, zI v4), (5, zI v5)] [zI x15] (d, G, E)
        refine Z.if_ne 62 dX11_endOfParts_54 rfl ⟨fun c18 => ?_, fun c18 => ?_⟩
        · replace K := K.1 c18
          refine Z.iload_n (k := 2) dX11_endOfParts_62 rfl ?_
          refine Z.aload_n (k := 1) dX11_endOfParts_63 rfl ?_
          refine Y.getR (o := some 1) 0 dX11_endOfParts_64 zl_X11_12 (rfl) (by decide) rfl (zX_0_0 hX).2.1 (zX_0_0 hX).1 ?_
          refine Z.iload (k := 0) dX11_endOfParts_67 rfl ?_
          obtain ⟨x19, m20, K⟩ := K
          refine Y.callV (g := zm_X8_partsOf) (vs := [zI ((E 9 v4))]) (st := [zI v3]) dX11_endOfParts_69 ⟨zg_X8_partsOf.1, zg_X8_partsOf.2.1, zg_X8_partsOf.2.2, by decide⟩ ⟨zk_X11_250, zv_X8_partsOf⟩ (ci := 8) (rfl) rfl ((zX_0_0 hX).2.2) rfl rfl (Nat.le_of_ble_eq_true rfl) m20 (Or.inl rfl) ?_
          show Z zm_X11_endOfParts kz Q 72 [(6, zI ((E 9 v4))), (0, zR 0), (3, zI v3), (4, zI v4), (5, zI v5)] [zI x19, zI v3] (d, G, E)
          refine Z.iconst (n := 1) dX11_endOfParts_72 ⟨by decide, by decide⟩ ?_
          obtain ⟨z22, K⟩ := K
          refine Z.isub dX11_endOfParts_73 z22 ?_
          obtain ⟨z23, K⟩ := K
          refine Z.iadd dX11_endOfParts_74 z23 ?_
          refine Z.istore_n (ls' := [(3, zI ((v3 + (x19 - 1)))), (6, zI ((E 9 v4))), (0, zR 0), (4, zI v4), (5, zI v5)]) dX11_endOfParts_75 (by decide) rfl ?_
          obtain ⟨z24, K⟩ := K
          refine Z.iinc (k := 3) (ls' := [(4, zI ((v4 + 1))), (3, zI ((v3 + (x19 - 1)))), (6, zI ((E 9 v4))), (0, zR 0), (5, zI v5)]) dX11_endOfParts_76 rfl (by decide) z24 rfl ?_
          refine Z.goto 20 dX11_endOfParts_79 rfl ?_
          refine Z.pick (ls' := [(0, zR 0), (3, zI ((v3 + (x19 - 1)))), (4, zI ((v4 + 1))), (5, zI v5)]) [3, 1, 0, 4] rfl ?_
          exact K
        · replace K := K.2 c18
          refine Z.iconst (n := -1) dX11_endOfParts_57 ⟨by decide, by decide⟩ ?_
          refine Z.iload (k := 3) dX11_endOfParts_58 rfl ?_
          obtain ⟨z25, K⟩ := K
          refine Z.isub dX11_endOfParts_60 z25 ?_
          exact Z.iret (ty := .int) dX11_endOfParts_61 rfl rfl K
set_option maxRecDepth 20000 in
theorem X11_readDraft_0 {kz : Nat × Nat} {Q : Option zV → zH → Prop} {d : List Nat} {G : Nat → Int → Option Nat} {E : Nat → Int → Int}  (hX : zK zXt d G) (K : ∃ E1, zM zm_X5_empty [zR 10] (d, G, E) none (d, G, E1) ∧ Z zm_X11_readDraft kz Q 11 [(0, zR 0), (1, zI 0), (2, zI 0)] [] (d, G, E1)) : Z zm_X11_readDraft kz Q 0 [(0, zR 0)] [] (d, G, E) := by
  refine Z.aload_n (k := 0) dX11_readDraft_0 rfl ?_
  refine Y.getR (o := some 10) 3 dX11_readDraft_1 zl_X11_30 (rfl) (by decide) rfl (zX_0_0 hX).2.1 (zX_0_3 hX).1 ?_
  obtain ⟨E1, m2, K⟩ := K
  refine Y.callV (g := zm_X5_empty) (vs := []) (st := []) dX11_readDraft_4 ⟨zg_X5_empty.1, zg_X5_empty.2.1, zg_X5_empty.2.2, by decide⟩ ⟨zk_X11_292, zv_X5_empty⟩ (ci := 5) (rfl) rfl ((zX_0_3 hX).2.2) rfl rfl (Nat.le_of_ble_eq_true rfl) m2 (Or.inl rfl) ?_
  show Z zm_X11_readDraft kz Q 7 [(0, zR 0)] [] (d, G, E1)
  refine Z.iconst (n := 0) dX11_readDraft_7 ⟨by decide, by decide⟩ ?_
  refine Z.istore_n (ls' := [(1, zI 0), (0, zR 0)]) dX11_readDraft_8 (by decide) rfl ?_
  refine Z.iconst (n := 0) dX11_readDraft_9 ⟨by decide, by decide⟩ ?_
  refine Z.istore_n (ls' := [(2, zI 0), (1, zI 0), (0, zR 0)]) dX11_readDraft_10 (by decide) rfl ?_
  refine Z.pick (ls' := [(0, zR 0), (1, zI 0), (2, zI 0)]) [2, 1, 0] rfl ?_
  exact K
set_option maxRecDepth 20000 in
theorem X11_readDraft_11 {kz : Nat × Nat} {Q : Option zV → zH → Prop} {d : List Nat} {G : Nat → Int → Option Nat} {E : Nat → Int → Int} {v1 : Int} {v2 : Int} (hX : zK zXt d G) (K : (6 < v2 → Q (some (zI ((-1)))) (d, G, E)) ∧ (¬ (6 < v2) → ((E 0 12) ≤ v1 → Q (some (zI ((-1)))) (d, G, E)) ∧ (¬ ((E 0 12) ≤ v1) → ((0 : Int) ≤ v1 ∧ v1 < 200) ∧ ((E 9 v1) < 2000 → Z zm_X11_readDraft kz Q 44 [(0, zR 0), (1, zI v1), (2, zI v2), (3, zI ((E 9 v1)))] [zI 0] (d, G, E)) ∧ (¬ ((E 9 v1) < 2000) → Z zm_X11_readDraft kz Q 44 [(0, zR 0), (1, zI v1), (2, zI v2), (3, zI ((E 9 v1)))] [zI 1] (d, G, E))))) : Z zm_X11_readDraft kz Q 11 [(0, zR 0), (1, zI v1), (2, zI v2)] [] (d, G, E) := by
  refine Z.iload_n (k := 2) dX11_readDraft_11 rfl ?_
  refine Z.bipush (n := 6) dX11_readDraft_12 ⟨by decide, by decide⟩ (by decide) ?_
  refine Z.icmp_gt 148 dX11_readDraft_14 rfl ⟨fun c1 => ?_, fun c1 => ?_⟩
  · replace K := K.1 c1
    refine Z.iconst (n := -1) dX11_readDraft_148 ⟨by decide, by decide⟩ ?_
    exact Z.iret (ty := .int) dX11_readDraft_149 rfl rfl K
  · replace K := K.2 c1
    refine Z.iload_n (k := 1) dX11_readDraft_17 rfl ?_
    refine Z.aload_n (k := 0) dX11_readDraft_18 rfl ?_
    refine Y.getI 12 dX11_readDraft_19 zl_X11_96 (rfl) (by decide) rfl (zX_0_0 hX).2.1 ?_
    refine Z.icmp_ge 148 dX11_readDraft_22 rfl ⟨fun c2 => ?_, fun c2 => ?_⟩
    · replace K := K.1 c2
      refine Z.iconst (n := -1) dX11_readDraft_148 ⟨by decide, by decide⟩ ?_
      exact Z.iret (ty := .int) dX11_readDraft_149 rfl rfl K
    · replace K := K.2 c2
      refine Z.aload_n (k := 0) dX11_readDraft_25 rfl ?_
      refine Y.getR (o := some 9) 2 dX11_readDraft_26 zl_X11_23 (rfl) (by decide) rfl (zX_0_0 hX).2.1 (zX_0_2 hX).1 ?_
      refine Z.iload_n (k := 1) dX11_readDraft_29 rfl ?_
      obtain ⟨z3, K⟩ := K
      refine Y.iald dX11_readDraft_30 (rfl) ((zX_0_2 hX).2.2) z3 ?_
      refine Z.istore_n (ls' := [(3, zI ((E 9 v1))), (0, zR 0), (1, zI v1), (2, zI v2)]) dX11_readDraft_31 (by decide) rfl ?_
      refine Z.iload_n (k := 0) dX11_readDraft_32 rfl ?_
      refine Z.sipush (n := 2000) dX11_readDraft_33 ⟨by decide, by decide⟩ (by decide) ?_
      refine Z.icmp_lt 43 dX11_readDraft_36 rfl ⟨fun c4 => ?_, fun c4 => ?_⟩
      · replace K := K.1 c4
        refine Z.iconst (n := 0) dX11_readDraft_43 ⟨by decide, by decide⟩ ?_
        refine Z.pick (ls' := [(0, zR 0), (1, zI v1), (2, zI v2), (3, zI ((E 9 v1)))]) [1, 2, 3, 0] rfl ?_
        exact K
      · replace K := K.2 c4
        refine Z.iconst (n := 1) dX11_readDraft_39 ⟨by decide, by decide⟩ ?_
        refine Z.goto 44 dX11_readDraft_40 rfl ?_
        refine Z.pick (ls' := [(0, zR 0), (1, zI v1), (2, zI v2), (3, zI ((E 9 v1)))]) [1, 2, 3, 0] rfl ?_
        exact K
set_option maxRecDepth 20000 in
theorem X11_readDraft_44 {kz : Nat × Nat} {Q : Option zV → zH → Prop} {d : List Nat} {G : Nat → Int → Option Nat} {E : Nat → Int → Int} {v1 : Int} {v2 : Int} {v3 : Int} {s0 : Int} (hX : zK zXt d G) (K : (s0 = 0 → zin (v3 - 1000) ∧ (v2 = 6 → Q (some (zI v1)) (d, G, E)) ∧ (¬ (v2 = 6) → ∃ x4, zM zm_X8_isSaying [zR 1, zI ((v3 - 1000))] (d, G, E) (some (zI x4)) (d, G, E) ∧ (x4 ≠ 0 → zin (v1 + 1) ∧ ∃ x9, zM zm_X8_partsOf [zR 1, zI ((v3 - 1000))] (d, G, E) (some (zI x9)) (d, G, E) ∧ ∃ x12, zM zm_X11_endOfParts [zR 0, zI ((v1 + 1)), zI x9] (d, G, E) (some (zI x12)) (d, G, E) ∧ (0 ≤ x12 → ((0 : Int) ≤ v1 ∧ v1 < 200) ∧ ∀ E17, E17 = zuE E 9 v1 ((v3 - 1000)) → zin (x12 - v1) ∧ ∃ x19 E20, zM zm_X5_take [zR 10, zI s0, zR 9, zI v1, zI ((x12 - v1))] (d, G, E17) (some (zI x19)) (d, G, E20) ∧ zin (v2 + 1) ∧ Z zm_X11_readDraft kz Q 11 [(0, zR 0), (1, zI x12), (2, zI ((v2 + 1)))] [] (d, G, E20)) ∧ (¬ (0 ≤ x12) → zin ((-1) - x12) ∧ Q (some (zI (((-1) - x12)))) (d, G, E))) ∧ (¬ (x4 ≠ 0) → Q (some (zI v1)) (d, G, E)))) ∧ (¬ (s0 = 0) → zin (v3 - 2000) ∧ (v2 = 6 → Q (some (zI v1)) (d, G, E)) ∧ (¬ (v2 = 6) → ∃ x27, zM zm_X8_isSaying [zR 1, zI ((v3 - 2000))] (d, G, E) (some (zI x27)) (d, G, E) ∧ (x27 ≠ 0 → zin (v1 + 1) ∧ ∃ x32, zM zm_X8_partsOf [zR 1, zI ((v3 - 2000))] (d, G, E) (some (zI x32)) (d, G, E) ∧ ∃ x35, zM zm_X11_endOfParts [zR 0, zI ((v1 + 1)), zI x32] (d, G, E) (some (zI x35)) (d, G, E) ∧ (0 ≤ x35 → ((0 : Int) ≤ v1 ∧ v1 < 200) ∧ ∀ E40, E40 = zuE E 9 v1 ((v3 - 2000)) → zin (x35 - v1) ∧ ∃ x42 E43, zM zm_X5_take [zR 10, zI s0, zR 9, zI v1, zI ((x35 - v1))] (d, G, E40) (some (zI x42)) (d, G, E43) ∧ zin (v2 + 1) ∧ Z zm_X11_readDraft kz Q 11 [(0, zR 0), (1, zI x35), (2, zI ((v2 + 1)))] [] (d, G, E43)) ∧ (¬ (0 ≤ x35) → zin ((-1) - x35) ∧ Q (some (zI (((-1) - x35)))) (d, G, E))) ∧ (¬ (x27 ≠ 0) → Q (some (zI v1)) (d, G, E))))) : Z zm_X11_readDraft kz Q 44 [(0, zR 0), (1, zI v1), (2, zI v2), (3, zI v3)] [zI s0] (d, G, E) := by
  refine Z.istore (ls' := [(4, zI s0), (0, zR 0), (1, zI v1), (2, zI v2), (3, zI v3)]) dX11_readDraft_44 (by decide) rfl ?_
  refine Z.iload_n (k := 4) dX11_readDraft_46 rfl ?_
  refine Z.iload (k := 0) dX11_readDraft_47 rfl ?_
  refine Z.if_eq 58 dX11_readDraft_49 rfl ⟨fun c1 => ?_, fun c1 => ?_⟩
  · replace K := K.1 c1
    refine Z.sipush (n := 1000) dX11_readDraft_58 ⟨by decide, by decide⟩ (by decide) ?_
    obtain ⟨z2, K⟩ := K
    refine Z.isub dX11_readDraft_61 z2 ?_
    refine Z.istore (ls' := [(5, zI ((v3 - 1000))), (4, zI s0), (0, zR 0), (1, zI v1), (2, zI v2), (3, zI v3)]) dX11_readDraft_62 (by decide) rfl ?_
    refine Z.iload_n (k := 4) dX11_readDraft_64 rfl ?_
    refine Z.bipush (n := 6) dX11_readDraft_65 ⟨by decide, by decide⟩ (by decide) ?_
    refine Z.icmp_eq 82 dX11_readDraft_67 rfl ⟨fun c3 => ?_, fun c3 => ?_⟩
    · replace K := K.1 c3
      refine Z.iload_n (k := 3) dX11_readDraft_82 rfl ?_
      exact Z.iret (ty := .int) dX11_readDraft_83 rfl rfl K
    · replace K := K.2 c3
      refine Z.aload_n (k := 2) dX11_readDraft_70 rfl ?_
      refine Y.getR (o := some 1) 0 dX11_readDraft_71 zl_X11_12 (rfl) (by decide) rfl (zX_0_0 hX).2.1 (zX_0_0 hX).1 ?_
      refine Z.iload (k := 0) dX11_readDraft_74 rfl ?_
      obtain ⟨x4, m5, K⟩ := K
      refine Y.callV (g := zm_X8_isSaying) (vs := [zI ((v3 - 1000))]) (st := []) dX11_readDraft_76 ⟨zg_X8_isSaying.1, zg_X8_isSaying.2.1, zg_X8_isSaying.2.2, by decide⟩ ⟨zk_X11_295, zv_X8_isSaying⟩ (ci := 8) (rfl) rfl ((zX_0_0 hX).2.2) rfl rfl (Nat.le_of_ble_eq_true rfl) m5 (Or.inl rfl) ?_
      show Z zm_X11_readDraft kz Q 79 [(5, zI ((v3 - 1000))), (4, zI s0), (0, zR 0), (1, zI v1), (2, zI v2), (3, zI v3)] [zI x4] (d, G, E)
      refine Z.if_ne 84 dX11_readDraft_79 rfl ⟨fun c7 => ?_, fun c7 => ?_⟩
      · replace K := K.1 c7
        refine Z.aload_n (k := 2) dX11_readDraft_84 rfl ?_
        refine Z.iload_n (k := 3) dX11_readDraft_85 rfl ?_
        refine Z.iconst (n := 1) dX11_readDraft_86 ⟨by decide, by decide⟩ ?_
        obtain ⟨z8, K⟩ := K
        refine Z.iadd dX11_readDraft_87 z8 ?_
        refine Z.aload_n (k := 2) dX11_readDraft_88 rfl ?_
        refine Y.getR (o := some 1) 0 dX11_readDraft_89 zl_X11_12 (rfl) (by decide) rfl (zX_0_0 hX).2.1 (zX_0_0 hX).1 ?_
        refine Z.iload (k := 0) dX11_readDraft_92 rfl ?_
        obtain ⟨x9, m10, K⟩ := K
        refine Y.callV (g := zm_X8_partsOf) (vs := [zI ((v3 - 1000))]) (st := [zI ((v1 + 1)), zR 0]) dX11_readDraft_94 ⟨zg_X8_partsOf.1, zg_X8_partsOf.2.1, zg_X8_partsOf.2.2, by decide⟩ ⟨zk_X11_250, zv_X8_partsOf⟩ (ci := 8) (rfl) rfl ((zX_0_0 hX).2.2) rfl rfl (Nat.le_of_ble_eq_true rfl) m10 (Or.inl rfl) ?_
        show Z zm_X11_readDraft kz Q 97 [(5, zI ((v3 - 1000))), (4, zI s0), (0, zR 0), (1, zI v1), (2, zI v2), (3, zI v3)] [zI x9, zI ((v1 + 1)), zR 0] (d, G, E)
        obtain ⟨x12, m13, K⟩ := K
        refine Y.callV (g := zm_X11_endOfParts) (vs := [zI ((v1 + 1)), zI x9]) (st := []) dX11_readDraft_97 ⟨zg_X11_endOfParts.1, zg_X11_endOfParts.2.1, zg_X11_endOfParts.2.2, by decide⟩ ⟨zk_X11_298, zv_X11_endOfParts⟩ (ci := 11) (rfl) rfl ((zX_0_0 hX).2.1) rfl rfl (Nat.le_of_ble_eq_true rfl) m13 (Or.inl rfl) ?_
        show Z zm_X11_readDraft kz Q 100 [(5, zI ((v3 - 1000))), (4, zI s0), (0, zR 0), (1, zI v1), (2, zI v2), (3, zI v3)] [zI x12] (d, G, E)
        refine Z.istore (ls' := [(6, zI x12), (5, zI ((v3 - 1000))), (4, zI s0), (0, zR 0), (1, zI v1), (2, zI v2), (3, zI v3)]) dX11_readDraft_100 (by decide) rfl ?_
        refine Z.iload (k := 0) dX11_readDraft_102 rfl ?_
        refine Z.if_ge 112 dX11_readDraft_104 rfl ⟨fun c15 => ?_, fun c15 => ?_⟩
        · replace K := K.1 c15
          refine Z.aload_n (k := 3) dX11_readDraft_112 rfl ?_
          refine Y.getR (o := some 9) 2 dX11_readDraft_113 zl_X11_23 (rfl) (by decide) rfl (zX_0_0 hX).2.1 (zX_0_2 hX).1 ?_
          refine Z.iload_n (k := 4) dX11_readDraft_116 rfl ?_
          refine Z.iload (k := 1) dX11_readDraft_117 rfl ?_
          obtain ⟨z16, K⟩ := K
          refine Y.iast dX11_readDraft_119 (rfl) ((zX_0_2 hX).2.2) z16 ?_
          generalize eE17 : zuE E 9 v1 ((v3 - 1000)) = E17
          replace K := K E17 eE17.symm
          refine Z.aload_n (k := 3) dX11_readDraft_120 rfl ?_
          refine Y.getR (o := some 10) 3 dX11_readDraft_121 zl_X11_30 (rfl) (by decide) rfl (zX_0_0 hX).2.1 (zX_0_3 hX).1 ?_
          refine Z.iload (k := 2) dX11_readDraft_124 rfl ?_
          refine Z.aload_n (k := 3) dX11_readDraft_126 rfl ?_
          refine Y.getR (o := some 9) 2 dX11_readDraft_127 zl_X11_23 (rfl) (by decide) rfl (zX_0_0 hX).2.1 (zX_0_2 hX).1 ?_
          refine Z.iload_n (k := 4) dX11_readDraft_130 rfl ?_
          refine Z.iload (k := 0) dX11_readDraft_131 rfl ?_
          refine Z.iload_n (k := 4) dX11_readDraft_133 rfl ?_
          obtain ⟨z18, K⟩ := K
          refine Z.isub dX11_readDraft_134 z18 ?_
          obtain ⟨x19, E20, m21, K⟩ := K
          refine Y.callV (g := zm_X5_take) (vs := [zI s0, zR 9, zI v1, zI ((x12 - v1))]) (st := []) dX11_readDraft_135 ⟨zg_X5_take.1, zg_X5_take.2.1, zg_X5_take.2.2, by decide⟩ ⟨zk_X11_301, zv_X5_take⟩ (ci := 5) (rfl) rfl ((zX_0_3 hX).2.2) rfl rfl (Nat.le_of_ble_eq_true rfl) m21 (Or.inl rfl) ?_
          show Z zm_X11_readDraft kz Q 138 [(6, zI x12), (5, zI ((v3 - 1000))), (4, zI s0), (0, zR 0), (1, zI v1), (2, zI v2), (3, zI v3)] [zI x19] (d, G, E20)
          refine Z.pop_i dX11_readDraft_138 (fun _ => rfl) ?_
          refine Z.iload (k := 0) dX11_readDraft_139 rfl ?_
          refine Z.istore_n (ls' := [(1, zI x12), (6, zI x12), (5, zI ((v3 - 1000))), (4, zI s0), (0, zR 0), (2, zI v2), (3, zI v3)]) dX11_readDraft_141 (by decide) rfl ?_
          obtain ⟨z23, K⟩ := K
          refine Z.iinc (k := 5) (ls' := [(2, zI ((v2 + 1))), (1, zI x12), (6, zI x12), (5, zI ((v3 - 1000))), (4, zI s0), (0, zR 0), (3, zI v3)]) dX11_readDraft_142 rfl (by decide) z23 rfl ?_
          refine Z.goto 11 dX11_readDraft_145 rfl ?_
          refine Z.pick (ls' := [(0, zR 0), (1, zI x12), (2, zI ((v2 + 1)))]) [5, 1, 0] rfl ?_
          exact K
        · replace K := K.2 c15
          refine Z.iconst (n := -1) dX11_readDraft_107 ⟨by decide, by decide⟩ ?_
          refine Z.iload (k := 0) dX11_readDraft_108 rfl ?_
          obtain ⟨z24, K⟩ := K
          refine Z.isub dX11_readDraft_110 z24 ?_
          exact Z.iret (ty := .int) dX11_readDraft_111 rfl rfl K
      · replace K := K.2 c7
        refine Z.iload_n (k := 3) dX11_readDraft_82 rfl ?_
        exact Z.iret (ty := .int) dX11_readDraft_83 rfl rfl K
  · replace K := K.2 c1
    refine Z.sipush (n := 2000) dX11_readDraft_52 ⟨by decide, by decide⟩ (by decide) ?_
    refine Z.goto 61 dX11_readDraft_55 rfl ?_
    obtain ⟨z25, K⟩ := K
    refine Z.isub dX11_readDraft_61 z25 ?_
    refine Z.istore (ls' := [(5, zI ((v3 - 2000))), (4, zI s0), (0, zR 0), (1, zI v1), (2, zI v2), (3, zI v3)]) dX11_readDraft_62 (by decide) rfl ?_
    refine Z.iload_n (k := 4) dX11_readDraft_64 rfl ?_
    refine Z.bipush (n := 6) dX11_readDraft_65 ⟨by decide, by decide⟩ (by decide) ?_
    refine Z.icmp_eq 82 dX11_readDraft_67 rfl ⟨fun c26 => ?_, fun c26 => ?_⟩
    · replace K := K.1 c26
      refine Z.iload_n (k := 3) dX11_readDraft_82 rfl ?_
      exact Z.iret (ty := .int) dX11_readDraft_83 rfl rfl K
    · replace K := K.2 c26
      refine Z.aload_n (k := 2) dX11_readDraft_70 rfl ?_
      refine Y.getR (o := some 1) 0 dX11_readDraft_71 zl_X11_12 (rfl) (by decide) rfl (zX_0_0 hX).2.1 (zX_0_0 hX).1 ?_
      refine Z.iload (k := 0) dX11_readDraft_74 rfl ?_
      obtain ⟨x27, m28, K⟩ := K
      refine Y.callV (g := zm_X8_isSaying) (vs := [zI ((v3 - 2000))]) (st := []) dX11_readDraft_76 ⟨zg_X8_isSaying.1, zg_X8_isSaying.2.1, zg_X8_isSaying.2.2, by decide⟩ ⟨zk_X11_295, zv_X8_isSaying⟩ (ci := 8) (rfl) rfl ((zX_0_0 hX).2.2) rfl rfl (Nat.le_of_ble_eq_true rfl) m28 (Or.inl rfl) ?_
      show Z zm_X11_readDraft kz Q 79 [(5, zI ((v3 - 2000))), (4, zI s0), (0, zR 0), (1, zI v1), (2, zI v2), (3, zI v3)] [zI x27] (d, G, E)
      refine Z.if_ne 84 dX11_readDraft_79 rfl ⟨fun c30 => ?_, fun c30 => ?_⟩
      · replace K := K.1 c30
        refine Z.aload_n (k := 2) dX11_readDraft_84 rfl ?_
        refine Z.iload_n (k := 3) dX11_readDraft_85 rfl ?_
        refine Z.iconst (n := 1) dX11_readDraft_86 ⟨by decide, by decide⟩ ?_
        obtain ⟨z31, K⟩ := K
        refine Z.iadd dX11_readDraft_87 z31 ?_
        refine Z.aload_n (k := 2) dX11_readDraft_88 rfl ?_
        refine Y.getR (o := some 1) 0 dX11_readDraft_89 zl_X11_12 (rfl) (by decide) rfl (zX_0_0 hX).2.1 (zX_0_0 hX).1 ?_
        refine Z.iload (k := 0) dX11_readDraft_92 rfl ?_
        obtain ⟨x32, m33, K⟩ := K
        refine Y.callV (g := zm_X8_partsOf) (vs := [zI ((v3 - 2000))]) (st := [zI ((v1 + 1)), zR 0]) dX11_readDraft_94 ⟨zg_X8_partsOf.1, zg_X8_partsOf.2.1, zg_X8_partsOf.2.2, by decide⟩ ⟨zk_X11_250, zv_X8_partsOf⟩ (ci := 8) (rfl) rfl ((zX_0_0 hX).2.2) rfl rfl (Nat.le_of_ble_eq_true rfl) m33 (Or.inl rfl) ?_
        show Z zm_X11_readDraft kz Q 97 [(5, zI ((v3 - 2000))), (4, zI s0), (0, zR 0), (1, zI v1), (2, zI v2), (3, zI v3)] [zI x32, zI ((v1 + 1)), zR 0] (d, G, E)
        obtain ⟨x35, m36, K⟩ := K
        refine Y.callV (g := zm_X11_endOfParts) (vs := [zI ((v1 + 1)), zI x32]) (st := []) dX11_readDraft_97 ⟨zg_X11_endOfParts.1, zg_X11_endOfParts.2.1, zg_X11_endOfParts.2.2, by decide⟩ ⟨zk_X11_298, zv_X11_endOfParts⟩ (ci := 11) (rfl) rfl ((zX_0_0 hX).2.1) rfl rfl (Nat.le_of_ble_eq_true rfl) m36 (Or.inl rfl) ?_
        show Z zm_X11_readDraft kz Q 100 [(5, zI ((v3 - 2000))), (4, zI s0), (0, zR 0), (1, zI v1), (2, zI v2), (3, zI v3)] [zI x35] (d, G, E)
        refine Z.istore (ls' := [(6, zI x35), (5, zI ((v3 - 2000))), (4, zI s0), (0, zR 0), (1, zI v1), (2, zI v2), (3, zI v3)]) dX11_readDraft_100 (by decide) rfl ?_
        refine Z.iload (k := 0) dX11_readDraft_102 rfl ?_
        refine Z.if_ge 112 dX11_readDraft_104 rfl ⟨fun c38 => ?_, fun c38 => ?_⟩
        · replace K := K.1 c38
          refine Z.aload_n (k := 3) dX11_readDraft_112 rfl ?_
          refine Y.getR (o := some 9) 2 dX11_readDraft_113 zl_X11_23 (rfl) (by decide) rfl (zX_0_0 hX).2.1 (zX_0_2 hX).1 ?_
          refine Z.iload_n (k := 4) dX11_readDraft_116 rfl ?_
          refine Z.iload (k := 1) dX11_readDraft_117 rfl ?_
          obtain ⟨z39, K⟩ := K
          refine Y.iast dX11_readDraft_119 (rfl) ((zX_0_2 hX).2.2) z39 ?_
          generalize eE40 : zuE E 9 v1 ((v3 - 2000)) = E40
          replace K := K E40 eE40.symm
          refine Z.aload_n (k := 3) dX11_readDraft_120 rfl ?_
          refine Y.getR (o := some 10) 3 dX11_readDraft_121 zl_X11_30 (rfl) (by decide) rfl (zX_0_0 hX).2.1 (zX_0_3 hX).1 ?_
          refine Z.iload (k := 2) dX11_readDraft_124 rfl ?_
          refine Z.aload_n (k := 3) dX11_readDraft_126 rfl ?_
          refine Y.getR (o := some 9) 2 dX11_readDraft_127 zl_X11_23 (rfl) (by decide) rfl (zX_0_0 hX).2.1 (zX_0_2 hX).1 ?_
          refine Z.iload_n (k := 4) dX11_readDraft_130 rfl ?_
          refine Z.iload (k := 0) dX11_readDraft_131 rfl ?_
          refine Z.iload_n (k := 4) dX11_readDraft_133 rfl ?_
          obtain ⟨z41, K⟩ := K
          refine Z.isub dX11_readDraft_134 z41 ?_
          obtain ⟨x42, E43, m44, K⟩ := K
          refine Y.callV (g := zm_X5_take) (vs := [zI s0, zR 9, zI v1, zI ((x35 - v1))]) (st := []) dX11_readDraft_135 ⟨zg_X5_take.1, zg_X5_take.2.1, zg_X5_take.2.2, by decide⟩ ⟨zk_X11_301, zv_X5_take⟩ (ci := 5) (rfl) rfl ((zX_0_3 hX).2.2) rfl rfl (Nat.le_of_ble_eq_true rfl) m44 (Or.inl rfl) ?_
          show Z zm_X11_readDraft kz Q 138 [(6, zI x35), (5, zI ((v3 - 2000))), (4, zI s0), (0, zR 0), (1, zI v1), (2, zI v2), (3, zI v3)] [zI x42] (d, G, E43)
          refine Z.pop_i dX11_readDraft_138 (fun _ => rfl) ?_
          refine Z.iload (k := 0) dX11_readDraft_139 rfl ?_
          refine Z.istore_n (ls' := [(1, zI x35), (6, zI x35), (5, zI ((v3 - 2000))), (4, zI s0), (0, zR 0), (2, zI v2), (3, zI v3)]) dX11_readDraft_141 (by decide) rfl ?_
          obtain ⟨z46, K⟩ := K
          refine Z.iinc (k := 5) (ls' := [(2, zI ((v2 + 1))), (1, zI x35), (6, zI x35), (5, zI ((v3 - 2000))), (4, zI s0), (0, zR 0), (3, zI v3)]) dX11_readDraft_142 rfl (by decide) z46 rfl ?_
          refine Z.goto 11 dX11_readDraft_145 rfl ?_
          refine Z.pick (ls' := [(0, zR 0), (1, zI x35), (2, zI ((v2 + 1)))]) [5, 1, 0] rfl ?_
          exact K
        · replace K := K.2 c38
          refine Z.iconst (n := -1) dX11_readDraft_107 ⟨by decide, by decide⟩ ?_
          refine Z.iload (k := 0) dX11_readDraft_108 rfl ?_
          obtain ⟨z47, K⟩ := K
          refine Z.isub dX11_readDraft_110 z47 ?_
          exact Z.iret (ty := .int) dX11_readDraft_111 rfl rfl K
      · replace K := K.2 c30
        refine Z.iload_n (k := 3) dX11_readDraft_82 rfl ?_
        exact Z.iret (ty := .int) dX11_readDraft_83 rfl rfl K
set_option maxRecDepth 20000 in
theorem X11_keep_0 {kz : Nat × Nat} {Q : Option zV → zH → Prop} {d : List Nat} {G : Nat → Int → Option Nat} {E : Nat → Int → Int} {a1 n1 : Nat} (hX : zK zXt d G) (ha1 : a1 ∈ d) (hk1 : zkd a1 = (0, n1)) (K : ∃ o1 d2 G3 E4, zM zm_X7_add [zR 5] (d, G, E) (some (zO o1)) (d2, G3, E4) ∧ (d2 = d ∨ d2.length ≤ kz.1 ∧ zsl d2 ≤ kz.2) ∧ zK zXt d2 G3 ∧ (o1 ≠ none → ∃ b9, o1 = some b9 ∧ zCk d2 G3 b9 ∧ ∃ E12, zM zm_X1_fill [zR b9, zR 10, zI ((E4 30 4)), zR 18] (d2, G3, E4) none (d2, G3, E12) ∧ ∃ E15, zM zm_X1_tellRule [zR b9, zR 1, zR 18] (d2, G3, E12) none (d2, G3, E15) ∧ ∃ d18 G19 E20, zM zm_X1_tellStep [zR b9, zR a1, zR 36, zR 14] (d2, G3, E15) none (d18, G19, E20) ∧ (d18 = d2 ∨ d18.length ≤ kz.1 ∧ zsl d18 ≤ kz.2) ∧ zK zXt d18 G19 ∧ zCk d18 G19 b9 ∧ ∃ E25, zM zm_X10_putAway [zR 33, zR b9] (d18, G19, E20) none (d18, G19, E25) ∧ ((E25 (b9 + 1) 3) ≠ 0 → ((E25 5 4) < 150 → Q (some (zI ((E 5 4)))) (d18, G19, E25)) ∧ (¬ ((E25 5 4) < 150) → ∀ E30, E30 = zuE E25 0 15 3 → Q (some (zI ((E 5 4)))) (d18, G19, E30))) ∧ (¬ ((E25 (b9 + 1) 3) ≠ 0) → ∀ E31, E31 = zuE E25 0 15 1 → Q (some (zI ((E 5 4)))) (d18, G19, E31))) ∧ (¬ (o1 ≠ none) → Q (some (zI ((-1)))) (d2, G3, E4))) : Z zm_X11_keep kz Q 0 [(0, zR 0), (1, zR a1)] [] (d, G, E) := by
  refine Z.aload_n (k := 0) dX11_keep_0 rfl ?_
  refine Y.getR (o := some 5) 1 dX11_keep_1 zl_X11_19 (rfl) (by decide) rfl (zX_0_0 hX).2.1 (zX_0_1 hX).1 ?_
  refine Y.getI 4 dX11_keep_4 zl_X11_124 (rfl) (by decide) rfl (zX_0_1 hX).2.2 ?_
  refine Z.istore_n (ls' := [(2, zI ((E 5 4))), (0, zR 0), (1, zR a1)]) dX11_keep_7 (by decide) rfl ?_
  refine Z.aload_n (k := 1) dX11_keep_8 rfl ?_
  refine Y.getR (o := some 5) 1 dX11_keep_9 zl_X11_19 (rfl) (by decide) rfl (zX_0_0 hX).2.1 (zX_0_1 hX).1 ?_
  obtain ⟨o1, d2, G3, E4, m5, z6, K⟩ := K
  refine Y.callV (g := zm_X7_add) (vs := []) (st := []) dX11_keep_12 ⟨zg_X7_add.1, zg_X7_add.2.1, zg_X7_add.2.2, by decide⟩ ⟨zk_X11_334, zv_X7_add⟩ (ci := 7) (rfl) rfl ((zX_0_1 hX).2.2) rfl rfl (Nat.le_of_ble_eq_true rfl) m5 z6 ?_
  show Z zm_X11_keep kz Q 15 [(2, zI ((E 5 4))), (0, zR 0), (1, zR a1)] [zO o1] (d2, G3, E4)
  obtain ⟨hX7, K⟩ := K
  refine Z.astore_n (ls' := [(3, zO o1), (2, zI ((E 5 4))), (0, zR 0), (1, zR a1)]) dX11_keep_15 (by decide) rfl ?_
  refine Z.aload_n (k := 0) dX11_keep_16 rfl ?_
  refine Z.ifnonnull 22 dX11_keep_17 rfl ⟨fun c8 => ?_, fun c8 => ?_⟩
  · replace K := K.1 c8
    refine Z.aload_n (k := 0) dX11_keep_22 rfl ?_
    refine Z.aload_n (k := 2) dX11_keep_23 rfl ?_
    refine Y.getR (o := some 10) 3 dX11_keep_24 zl_X11_30 (rfl) (by decide) rfl (zX_0_0 hX7).2.1 (zX_0_3 hX7).1 ?_
    refine Z.aload_n (k := 2) dX11_keep_27 rfl ?_
    refine Y.getR (o := some 30) 7 dX11_keep_28 zl_X11_58 (rfl) (by decide) rfl (zX_0_0 hX7).2.1 (zX_0_7 hX7).1 ?_
    refine Y.getI 4 dX11_keep_31 zl_X11_336 (rfl) (by decide) rfl (zX_0_7 hX7).2.2 ?_
    refine Z.aload_n (k := 2) dX11_keep_34 rfl ?_
    refine Y.getR (o := some 18) 5 dX11_keep_35 zl_X11_42 (rfl) (by decide) rfl (zX_0_0 hX7).2.1 (zX_0_5 hX7).1 ?_
    obtain ⟨b9, e10, hc11, K⟩ := K
    rw [e10]
    obtain ⟨E12, m13, K⟩ := K
    refine Y.callV (g := zm_X1_fill) (vs := [zR 10, zI ((E4 30 4)), zR 18]) (st := []) dX11_keep_38 ⟨zg_X1_fill.1, zg_X1_fill.2.1, zg_X1_fill.2.2, by decide⟩ ⟨zk_X11_337, zv_X1_fill⟩ (ci := 1) (congrArg Prod.fst hc11.1) rfl (hc11.2.1) rfl rfl (Nat.le_of_ble_eq_true rfl) m13 (Or.inl rfl) ?_
    show Z zm_X11_keep kz Q 41 [(3, zR b9), (2, zI ((E 5 4))), (0, zR 0), (1, zR a1)] [] (d2, G3, E12)
    refine Z.aload_n (k := 0) dX11_keep_41 rfl ?_
    refine Z.aload_n (k := 2) dX11_keep_42 rfl ?_
    refine Y.getR (o := some 1) 0 dX11_keep_43 zl_X11_12 (rfl) (by decide) rfl (zX_0_0 hX7).2.1 (zX_0_0 hX7).1 ?_
    refine Z.aload_n (k := 2) dX11_keep_46 rfl ?_
    refine Y.getR (o := some 18) 5 dX11_keep_47 zl_X11_42 (rfl) (by decide) rfl (zX_0_0 hX7).2.1 (zX_0_5 hX7).1 ?_
    obtain ⟨E15, m16, K⟩ := K
    refine Y.callV (g := zm_X1_tellRule) (vs := [zR 1, zR 18]) (st := []) dX11_keep_50 ⟨zg_X1_tellRule.1, zg_X1_tellRule.2.1, zg_X1_tellRule.2.2, by decide⟩ ⟨zk_X11_341, zv_X1_tellRule⟩ (ci := 1) (congrArg Prod.fst hc11.1) rfl (hc11.2.1) rfl rfl (Nat.le_of_ble_eq_true rfl) m16 (Or.inl rfl) ?_
    show Z zm_X11_keep kz Q 53 [(3, zR b9), (2, zI ((E 5 4))), (0, zR 0), (1, zR a1)] [] (d2, G3, E15)
    refine Z.aload_n (k := 0) dX11_keep_53 rfl ?_
    refine Z.aload_n (k := 3) dX11_keep_54 rfl ?_
    refine Z.aload_n (k := 2) dX11_keep_55 rfl ?_
    refine Y.getR (o := some 36) 9 dX11_keep_56 zl_X11_76 (rfl) (by decide) rfl (zX_0_0 hX7).2.1 (zX_0_9 hX7).1 ?_
    refine Z.aload_n (k := 2) dX11_keep_59 rfl ?_
    refine Y.getR (o := some 14) 4 dX11_keep_60 zl_X11_34 (rfl) (by decide) rfl (zX_0_0 hX7).2.1 (zX_0_4 hX7).1 ?_
    obtain ⟨d18, G19, E20, m21, z22, K⟩ := K
    refine Y.callV (g := zm_X1_tellStep) (vs := [zR a1, zR 36, zR 14]) (st := []) dX11_keep_63 ⟨zg_X1_tellStep.1, zg_X1_tellStep.2.1, zg_X1_tellStep.2.2, by decide⟩ ⟨zk_X11_344, zv_X1_tellStep⟩ (ci := 1) (congrArg Prod.fst hc11.1) rfl (hc11.2.1) rfl rfl (Nat.le_of_ble_eq_true rfl) m21 z22 ?_
    show Z zm_X11_keep kz Q 66 [(3, zR b9), (2, zI ((E 5 4))), (0, zR 0), (1, zR a1)] [] (d18, G19, E20)
    obtain ⟨hX23, hc24, K⟩ := K
    refine Z.aload_n (k := 2) dX11_keep_66 rfl ?_
    refine Y.getR (o := some 33) 8 dX11_keep_67 zl_X11_67 (rfl) (by decide) rfl (zX_0_0 hX23).2.1 (zX_0_8 hX23).1 ?_
    refine Z.aload_n (k := 0) dX11_keep_70 rfl ?_
    obtain ⟨E25, m26, K⟩ := K
    refine Y.callV (g := zm_X10_putAway) (vs := [zR b9]) (st := []) dX11_keep_71 ⟨zg_X10_putAway.1, zg_X10_putAway.2.1, zg_X10_putAway.2.2, by decide⟩ ⟨zk_X11_348, zv_X10_putAway⟩ (ci := 10) (rfl) rfl ((zX_0_8 hX23).2.2) rfl rfl (Nat.le_of_ble_eq_true rfl) m26 (Or.inl rfl) ?_
    show Z zm_X11_keep kz Q 74 [(3, zR b9), (2, zI ((E 5 4))), (0, zR 0), (1, zR a1)] [] (d18, G19, E25)
    refine Z.aload_n (k := 0) dX11_keep_74 rfl ?_
    refine Y.getR (o := some ((b9 + 1))) 0 dX11_keep_75 zl_X11_174 (congrArg Prod.fst hc24.1) (by decide) rfl hc24.2.1 hc24.2.2.2.1 ?_
    refine Y.getI 3 dX11_keep_78 zl_X11_179 (congrArg Prod.fst hc24.2.2.1.1) (by decide) rfl hc24.2.2.1.2.2.2.2.1 ?_
    refine Z.if_ne 92 dX11_keep_81 rfl ⟨fun c28 => ?_, fun c28 => ?_⟩
    · replace K := K.1 c28
      refine Z.aload_n (k := 2) dX11_keep_92 rfl ?_
      refine Y.getR (o := some 5) 1 dX11_keep_93 zl_X11_19 (rfl) (by decide) rfl (zX_0_0 hX23).2.1 (zX_0_1 hX23).1 ?_
      refine Y.getI 4 dX11_keep_96 zl_X11_124 (rfl) (by decide) rfl (zX_0_1 hX23).2.2 ?_
      refine Z.sipush (n := 150) dX11_keep_99 ⟨by decide, by decide⟩ (by decide) ?_
      refine Z.icmp_lt 110 dX11_keep_102 rfl ⟨fun c29 => ?_, fun c29 => ?_⟩
      · replace K := K.1 c29
        refine Z.iload_n (k := 1) dX11_keep_110 rfl ?_
        exact Z.iret (ty := .int) dX11_keep_111 rfl rfl K
      · replace K := K.2 c29
        refine Z.aload_n (k := 2) dX11_keep_105 rfl ?_
        refine Z.iconst (n := 3) dX11_keep_106 ⟨by decide, by decide⟩ ?_
        refine Y.putI 15 dX11_keep_107 zw_X11_106 (fun q => by cases q) (rfl) rfl (zX_0_0 hX23).2.1 (Or.inl rfl) ?_
        generalize eE30 : zuE E25 0 15 3 = E30
        replace K := K E30 eE30.symm
        refine Z.iload_n (k := 1) dX11_keep_110 rfl ?_
        exact Z.iret (ty := .int) dX11_keep_111 rfl rfl K
    · replace K := K.2 c28
      refine Z.aload_n (k := 2) dX11_keep_84 rfl ?_
      refine Z.iconst (n := 1) dX11_keep_85 ⟨by decide, by decide⟩ ?_
      refine Y.putI 15 dX11_keep_86 zw_X11_106 (fun q => by cases q) (rfl) rfl (zX_0_0 hX23).2.1 (Or.inl rfl) ?_
      generalize eE31 : zuE E25 0 15 1 = E31
      replace K := K E31 eE31.symm
      refine Z.goto 110 dX11_keep_89 rfl ?_
      refine Z.iload_n (k := 1) dX11_keep_110 rfl ?_
      exact Z.iret (ty := .int) dX11_keep_111 rfl rfl K
  · replace K := K.2 c8
    refine Z.iconst (n := -1) dX11_keep_20 ⟨by decide, by decide⟩ ?_
    exact Z.iret (ty := .int) dX11_keep_21 rfl rfl K
set_option maxRecDepth 20000 in
theorem X11_settle_0 {kz : Nat × Nat} {Q : Option zV → zH → Prop} {d : List Nat} {G : Nat → Int → Option Nat} {E : Nat → Int → Int} {v1 : Int} {a2 n2 : Nat} (hX : zK zXt d G) (ha2 : a2 ∈ d) (hk2 : zkd a2 = (0, n2)) (K : (v1 = 1 → Z zm_X11_settle kz Q 23 [(0, zR 0), (2, zR a2)] [] (d, G, E)) ∧ (¬ (v1 = 1) → ∃ x2 E3, zM zm_X2_clean [zR 30, zR 10] (d, G, E) (some (zI x2)) (d, G, E3) ∧ (x2 = 0 → Z zm_X11_settle kz Q 23 [(0, zR 0), (2, zR a2)] [] (d, G, E3)) ∧ (¬ (x2 = 0) → (1 = 0 → (1 ≠ 0 → ∃ E9, zM zm_X5_mark [zR 10] (d, G, E3) none (d, G, E9) ∧ ∃ x12, zM zm_X5_isTrivial [zR 10, zR 1] (d, G, E9) (some (zI x12)) (d, G, E9) ∧ (x12 ≠ 0 → zin ((E9 0 17) + 1) ∧ ∀ E17, E17 = zuE E9 0 17 (((E9 0 17) + 1)) → Q (some (zI ((-1)))) (d, G, E17)) ∧ (¬ (x12 ≠ 0) → ∃ x18 E19, zM zm_X10_isTakenIn [zR 33, zR 10] (d, G, E9) (some (zI x18)) (d, G, E19) ∧ (x18 = 0 → ∃ x23 d24 G25 E26, zM zm_X11_keep [zR 0, zR a2] (d, G, E19) (some (zI x23)) (d24, G25, E26) ∧ (d24 = d ∨ d24.length ≤ kz.1 ∧ zsl d24 ≤ kz.2) ∧ zK zXt d24 G25 ∧ Q (some (zI x23)) (d24, G25, E26)) ∧ (¬ (x18 = 0) → zin ((E19 0 17) + 1) ∧ ∀ E31, E31 = zuE E19 0 17 (((E19 0 17) + 1)) → Q (some (zI ((-1)))) (d, G, E31)))) ∧ (¬ (1 ≠ 0) → zin ((E3 0 18) + 1) ∧ ∀ E33, E33 = zuE E3 0 18 (((E3 0 18) + 1)) → Q (some (zI ((-99)))) (d, G, E33))) ∧ (¬ (1 = 0) → ∃ x34 E35, zM zm_X4_rewrite [zR 36, zR 10, zR 30] (d, G, E3) (some (zI x34)) (d, G, E35) ∧ zin ((E35 0 20) + (E35 36 11)) ∧ ∀ E39, E39 = zuE E35 0 20 (((E35 0 20) + (E35 36 11))) → (x34 ≠ 0 → ∃ E41, zM zm_X5_mark [zR 10] (d, G, E39) none (d, G, E41) ∧ ∃ x44, zM zm_X5_isTrivial [zR 10, zR 1] (d, G, E41) (some (zI x44)) (d, G, E41) ∧ (x44 ≠ 0 → zin ((E41 0 17) + 1) ∧ ∀ E49, E49 = zuE E41 0 17 (((E41 0 17) + 1)) → Q (some (zI ((-1)))) (d, G, E49)) ∧ (¬ (x44 ≠ 0) → ∃ x50 E51, zM zm_X10_isTakenIn [zR 33, zR 10] (d, G, E41) (some (zI x50)) (d, G, E51) ∧ (x50 = 0 → ∃ x55 d56 G57 E58, zM zm_X11_keep [zR 0, zR a2] (d, G, E51) (some (zI x55)) (d56, G57, E58) ∧ (d56 = d ∨ d56.length ≤ kz.1 ∧ zsl d56 ≤ kz.2) ∧ zK zXt d56 G57 ∧ Q (some (zI x55)) (d56, G57, E58)) ∧ (¬ (x50 = 0) → zin ((E51 0 17) + 1) ∧ ∀ E63, E63 = zuE E51 0 17 (((E51 0 17) + 1)) → Q (some (zI ((-1)))) (d, G, E63)))) ∧ (¬ (x34 ≠ 0) → zin ((E39 0 18) + 1) ∧ ∀ E65, E65 = zuE E39 0 18 (((E39 0 18) + 1)) → Q (some (zI ((-99)))) (d, G, E65)))))) : Z zm_X11_settle kz Q 0 [(0, zR 0), (1, zI v1), (2, zR a2)] [] (d, G, E) := by
  refine Z.iload_n (k := 1) dX11_settle_0 rfl ?_
  refine Z.iconst (n := 1) dX11_settle_1 ⟨by decide, by decide⟩ ?_
  refine Z.icmp_eq 23 dX11_settle_2 rfl ⟨fun c1 => ?_, fun c1 => ?_⟩
  · replace K := K.1 c1
    refine Z.pick (ls' := [(0, zR 0), (2, zR a2)]) [0, 2] rfl ?_
    exact K
  · replace K := K.2 c1
    refine Z.aload_n (k := 0) dX11_settle_5 rfl ?_
    refine Y.getR (o := some 30) 7 dX11_settle_6 zl_X11_58 (rfl) (by decide) rfl (zX_0_0 hX).2.1 (zX_0_7 hX).1 ?_
    refine Z.aload_n (k := 0) dX11_settle_9 rfl ?_
    refine Y.getR (o := some 10) 3 dX11_settle_10 zl_X11_30 (rfl) (by decide) rfl (zX_0_0 hX).2.1 (zX_0_3 hX).1 ?_
    obtain ⟨x2, E3, m4, K⟩ := K
    refine Y.callV (g := zm_X2_clean) (vs := [zR 10]) (st := []) dX11_settle_13 ⟨zg_X2_clean.1, zg_X2_clean.2.1, zg_X2_clean.2.2, by decide⟩ ⟨zk_X11_233, zv_X2_clean⟩ (ci := 2) (rfl) rfl ((zX_0_7 hX).2.2) rfl rfl (Nat.le_of_ble_eq_true rfl) m4 (Or.inl rfl) ?_
    show Z zm_X11_settle kz Q 16 [(0, zR 0), (1, zI v1), (2, zR a2)] [zI x2] (d, G, E3)
    refine Z.if_eq 23 dX11_settle_16 rfl ⟨fun c6 => ?_, fun c6 => ?_⟩
    · replace K := K.1 c6
      refine Z.pick (ls' := [(0, zR 0), (2, zR a2)]) [0, 2] rfl ?_
      exact K
    · replace K := K.2 c6
      refine Z.iconst (n := 1) dX11_settle_19 ⟨by decide, by decide⟩ ?_
      refine Z.goto 24 dX11_settle_20 rfl ?_
      refine Z.istore_n (ls' := [(3, zI 1), (0, zR 0), (1, zI v1), (2, zR a2)]) dX11_settle_24 (by decide) rfl ?_
      refine Z.iload_n (k := 0) dX11_settle_25 rfl ?_
      refine Z.if_eq 61 dX11_settle_26 rfl ⟨fun c7 => ?_, fun c7 => ?_⟩
      · replace K := K.1 c7
        refine Z.iload_n (k := 0) dX11_settle_61 rfl ?_
        refine Z.if_ne 78 dX11_settle_62 rfl ⟨fun c8 => ?_, fun c8 => ?_⟩
        · replace K := K.1 c8
          refine Z.aload_n (k := 1) dX11_settle_78 rfl ?_
          refine Y.getR (o := some 10) 3 dX11_settle_79 zl_X11_30 (rfl) (by decide) rfl (zX_0_0 hX).2.1 (zX_0_3 hX).1 ?_
          obtain ⟨E9, m10, K⟩ := K
          refine Y.callV (g := zm_X5_mark) (vs := []) (st := []) dX11_settle_82 ⟨zg_X5_mark.1, zg_X5_mark.2.1, zg_X5_mark.2.2, by decide⟩ ⟨zk_X11_320, zv_X5_mark⟩ (ci := 5) (rfl) rfl ((zX_0_3 hX).2.2) rfl rfl (Nat.le_of_ble_eq_true rfl) m10 (Or.inl rfl) ?_
          show Z zm_X11_settle kz Q 85 [(3, zI 1), (0, zR 0), (1, zI v1), (2, zR a2)] [] (d, G, E9)
          refine Z.aload_n (k := 1) dX11_settle_85 rfl ?_
          refine Y.getR (o := some 10) 3 dX11_settle_86 zl_X11_30 (rfl) (by decide) rfl (zX_0_0 hX).2.1 (zX_0_3 hX).1 ?_
          refine Z.aload_n (k := 1) dX11_settle_89 rfl ?_
          refine Y.getR (o := some 1) 0 dX11_settle_90 zl_X11_12 (rfl) (by decide) rfl (zX_0_0 hX).2.1 (zX_0_0 hX).1 ?_
          obtain ⟨x12, m13, K⟩ := K
          refine Y.callV (g := zm_X5_isTrivial) (vs := [zR 1]) (st := []) dX11_settle_93 ⟨zg_X5_isTrivial.1, zg_X5_isTrivial.2.1, zg_X5_isTrivial.2.2, by decide⟩ ⟨zk_X11_323, zv_X5_isTrivial⟩ (ci := 5) (rfl) rfl ((zX_0_3 hX).2.2) rfl rfl (Nat.le_of_ble_eq_true rfl) m13 (Or.inl rfl) ?_
          show Z zm_X11_settle kz Q 96 [(3, zI 1), (0, zR 0), (1, zI v1), (2, zR a2)] [zI x12] (d, G, E9)
          refine Z.if_ne 113 dX11_settle_96 rfl ⟨fun c15 => ?_, fun c15 => ?_⟩
          · replace K := K.1 c15
            refine Z.aload_n (k := 1) dX11_settle_113 rfl ?_
            refine Z.dup_i dX11_settle_114 (fun _ => rfl) ?_
            refine Y.getI 17 dX11_settle_115 zl_X11_112 (rfl) (by decide) rfl (zX_0_0 hX).2.1 ?_
            refine Z.iconst (n := 1) dX11_settle_118 ⟨by decide, by decide⟩ ?_
            obtain ⟨z16, K⟩ := K
            refine Z.iadd dX11_settle_119 z16 ?_
            refine Y.putI 17 dX11_settle_120 zw_X11_112 (fun q => by cases q) (rfl) rfl (zX_0_0 hX).2.1 (Or.inl rfl) ?_
            generalize eE17 : zuE E9 0 17 (((E9 0 17) + 1)) = E17
            replace K := K E17 eE17.symm
            refine Z.iconst (n := -1) dX11_settle_123 ⟨by decide, by decide⟩ ?_
            exact Z.iret (ty := .int) dX11_settle_124 rfl rfl K
          · replace K := K.2 c15
            refine Z.aload_n (k := 1) dX11_settle_99 rfl ?_
            refine Y.getR (o := some 33) 8 dX11_settle_100 zl_X11_67 (rfl) (by decide) rfl (zX_0_0 hX).2.1 (zX_0_8 hX).1 ?_
            refine Z.aload_n (k := 1) dX11_settle_103 rfl ?_
            refine Y.getR (o := some 10) 3 dX11_settle_104 zl_X11_30 (rfl) (by decide) rfl (zX_0_0 hX).2.1 (zX_0_3 hX).1 ?_
            obtain ⟨x18, E19, m20, K⟩ := K
            refine Y.callV (g := zm_X10_isTakenIn) (vs := [zR 10]) (st := []) dX11_settle_107 ⟨zg_X10_isTakenIn.1, zg_X10_isTakenIn.2.1, zg_X10_isTakenIn.2.2, by decide⟩ ⟨zk_X11_327, zv_X10_isTakenIn⟩ (ci := 10) (rfl) rfl ((zX_0_8 hX).2.2) rfl rfl (Nat.le_of_ble_eq_true rfl) m20 (Or.inl rfl) ?_
            show Z zm_X11_settle kz Q 110 [(3, zI 1), (0, zR 0), (1, zI v1), (2, zR a2)] [zI x18] (d, G, E19)
            refine Z.if_eq 125 dX11_settle_110 rfl ⟨fun c22 => ?_, fun c22 => ?_⟩
            · replace K := K.1 c22
              refine Z.aload_n (k := 1) dX11_settle_125 rfl ?_
              refine Z.aload_n (k := 3) dX11_settle_126 rfl ?_
              obtain ⟨x23, d24, G25, E26, m27, z28, K⟩ := K
              refine Y.callV (g := zm_X11_keep) (vs := [zR a2]) (st := []) dX11_settle_127 ⟨zg_X11_keep.1, zg_X11_keep.2.1, zg_X11_keep.2.2, by decide⟩ ⟨zk_X11_330, zv_X11_keep⟩ (ci := 11) (rfl) rfl ((zX_0_0 hX).2.1) rfl rfl (Nat.le_of_ble_eq_true rfl) m27 z28 ?_
              show Z zm_X11_settle kz Q 130 [(3, zI 1), (0, zR 0), (1, zI v1), (2, zR a2)] [zI x23] (d24, G25, E26)
              obtain ⟨hX29, K⟩ := K
              exact Z.iret (ty := .int) dX11_settle_130 rfl rfl K
            · replace K := K.2 c22
              refine Z.aload_n (k := 1) dX11_settle_113 rfl ?_
              refine Z.dup_i dX11_settle_114 (fun _ => rfl) ?_
              refine Y.getI 17 dX11_settle_115 zl_X11_112 (rfl) (by decide) rfl (zX_0_0 hX).2.1 ?_
              refine Z.iconst (n := 1) dX11_settle_118 ⟨by decide, by decide⟩ ?_
              obtain ⟨z30, K⟩ := K
              refine Z.iadd dX11_settle_119 z30 ?_
              refine Y.putI 17 dX11_settle_120 zw_X11_112 (fun q => by cases q) (rfl) rfl (zX_0_0 hX).2.1 (Or.inl rfl) ?_
              generalize eE31 : zuE E19 0 17 (((E19 0 17) + 1)) = E31
              replace K := K E31 eE31.symm
              refine Z.iconst (n := -1) dX11_settle_123 ⟨by decide, by decide⟩ ?_
              exact Z.iret (ty := .int) dX11_settle_124 rfl rfl K
        · replace K := K.2 c8
          refine Z.aload_n (k := 1) dX11_settle_65 rfl ?_
          refine Z.dup_i dX11_settle_66 (fun _ => rfl) ?_
          refine Y.getI 18 dX11_settle_67 zl_X11_115 (rfl) (by decide) rfl (zX_0_0 hX).2.1 ?_
          refine Z.iconst (n := 1) dX11_settle_70 ⟨by decide, by decide⟩ ?_
          obtain ⟨z32, K⟩ := K
          refine Z.iadd dX11_settle_71 z32 ?_
          refine Y.putI 18 dX11_settle_72 zw_X11_115 (fun q => by cases q) (rfl) rfl (zX_0_0 hX).2.1 (Or.inl rfl) ?_
          generalize eE33 : zuE E3 0 18 (((E3 0 18) + 1)) = E33
          replace K := K E33 eE33.symm
          refine Z.bipush (n := -99) dX11_settle_75 ⟨by decide, by decide⟩ (by decide) ?_
          exact Z.iret (ty := .int) dX11_settle_77 rfl rfl K
      · replace K := K.2 c7
        refine Z.aload_n (k := 1) dX11_settle_29 rfl ?_
        refine Y.getR (o := some 36) 9 dX11_settle_30 zl_X11_76 (rfl) (by decide) rfl (zX_0_0 hX).2.1 (zX_0_9 hX).1 ?_
        refine Z.aload_n (k := 1) dX11_settle_33 rfl ?_
        refine Y.getR (o := some 10) 3 dX11_settle_34 zl_X11_30 (rfl) (by decide) rfl (zX_0_0 hX).2.1 (zX_0_3 hX).1 ?_
        refine Z.aload_n (k := 1) dX11_settle_37 rfl ?_
        refine Y.getR (o := some 30) 7 dX11_settle_38 zl_X11_58 (rfl) (by decide) rfl (zX_0_0 hX).2.1 (zX_0_7 hX).1 ?_
        obtain ⟨x34, E35, m36, K⟩ := K
        refine Y.callV (g := zm_X4_rewrite) (vs := [zR 10, zR 30]) (st := []) dX11_settle_41 ⟨zg_X4_rewrite.1, zg_X4_rewrite.2.1, zg_X4_rewrite.2.2, by decide⟩ ⟨zk_X11_313, zv_X4_rewrite⟩ (ci := 4) (rfl) rfl ((zX_0_9 hX).2.2) rfl rfl (Nat.le_of_ble_eq_true rfl) m36 (Or.inl rfl) ?_
        show Z zm_X11_settle kz Q 44 [(3, zI 1), (0, zR 0), (1, zI v1), (2, zR a2)] [zI x34] (d, G, E35)
        refine Z.istore_n (ls' := [(3, zI x34), (0, zR 0), (1, zI v1), (2, zR a2)]) dX11_settle_44 (by decide) rfl ?_
        refine Z.aload_n (k := 1) dX11_settle_45 rfl ?_
        refine Z.dup_i dX11_settle_46 (fun _ => rfl) ?_
        refine Y.getI 20 dX11_settle_47 zl_X11_121 (rfl) (by decide) rfl (zX_0_0 hX).2.1 ?_
        refine Z.aload_n (k := 1) dX11_settle_50 rfl ?_
        refine Y.getR (o := some 36) 9 dX11_settle_51 zl_X11_76 (rfl) (by decide) rfl (zX_0_0 hX).2.1 (zX_0_9 hX).1 ?_
        refine Y.getI 11 dX11_settle_54 zl_X11_317 (rfl) (by decide) rfl (zX_0_9 hX).2.2 ?_
        obtain ⟨z38, K⟩ := K
        refine Z.iadd dX11_settle_57 z38 ?_
        refine Y.putI 20 dX11_settle_58 zw_X11_121 (fun q => by cases q) (rfl) rfl (zX_0_0 hX).2.1 (Or.inl rfl) ?_
        generalize eE39 : zuE E35 0 20 (((E35 0 20) + (E35 36 11))) = E39
        replace K := K E39 eE39.symm
        refine Z.iload_n (k := 0) dX11_settle_61 rfl ?_
        refine Z.if_ne 78 dX11_settle_62 rfl ⟨fun c40 => ?_, fun c40 => ?_⟩
        · replace K := K.1 c40
          refine Z.aload_n (k := 1) dX11_settle_78 rfl ?_
          refine Y.getR (o := some 10) 3 dX11_settle_79 zl_X11_30 (rfl) (by decide) rfl (zX_0_0 hX).2.1 (zX_0_3 hX).1 ?_
          obtain ⟨E41, m42, K⟩ := K
          refine Y.callV (g := zm_X5_mark) (vs := []) (st := []) dX11_settle_82 ⟨zg_X5_mark.1, zg_X5_mark.2.1, zg_X5_mark.2.2, by decide⟩ ⟨zk_X11_320, zv_X5_mark⟩ (ci := 5) (rfl) rfl ((zX_0_3 hX).2.2) rfl rfl (Nat.le_of_ble_eq_true rfl) m42 (Or.inl rfl) ?_
          show Z zm_X11_settle kz Q 85 [(3, zI x34), (0, zR 0), (1, zI v1), (2, zR a2)] [] (d, G, E41)
          refine Z.aload_n (k := 1) dX11_settle_85 rfl ?_
          refine Y.getR (o := some 10) 3 dX11_settle_86 zl_X11_30 (rfl) (by decide) rfl (zX_0_0 hX).2.1 (zX_0_3 hX).1 ?_
          refine Z.aload_n (k := 1) dX11_settle_89 rfl ?_
          refine Y.getR (o := some 1) 0 dX11_settle_90 zl_X11_12 (rfl) (by decide) rfl (zX_0_0 hX).2.1 (zX_0_0 hX).1 ?_
          obtain ⟨x44, m45, K⟩ := K
          refine Y.callV (g := zm_X5_isTrivial) (vs := [zR 1]) (st := []) dX11_settle_93 ⟨zg_X5_isTrivial.1, zg_X5_isTrivial.2.1, zg_X5_isTrivial.2.2, by decide⟩ ⟨zk_X11_323, zv_X5_isTrivial⟩ (ci := 5) (rfl) rfl ((zX_0_3 hX).2.2) rfl rfl (Nat.le_of_ble_eq_true rfl) m45 (Or.inl rfl) ?_
          show Z zm_X11_settle kz Q 96 [(3, zI x34), (0, zR 0), (1, zI v1), (2, zR a2)] [zI x44] (d, G, E41)
          refine Z.if_ne 113 dX11_settle_96 rfl ⟨fun c47 => ?_, fun c47 => ?_⟩
          · replace K := K.1 c47
            refine Z.aload_n (k := 1) dX11_settle_113 rfl ?_
            refine Z.dup_i dX11_settle_114 (fun _ => rfl) ?_
            refine Y.getI 17 dX11_settle_115 zl_X11_112 (rfl) (by decide) rfl (zX_0_0 hX).2.1 ?_
            refine Z.iconst (n := 1) dX11_settle_118 ⟨by decide, by decide⟩ ?_
            obtain ⟨z48, K⟩ := K
            refine Z.iadd dX11_settle_119 z48 ?_
            refine Y.putI 17 dX11_settle_120 zw_X11_112 (fun q => by cases q) (rfl) rfl (zX_0_0 hX).2.1 (Or.inl rfl) ?_
            generalize eE49 : zuE E41 0 17 (((E41 0 17) + 1)) = E49
            replace K := K E49 eE49.symm
            refine Z.iconst (n := -1) dX11_settle_123 ⟨by decide, by decide⟩ ?_
            exact Z.iret (ty := .int) dX11_settle_124 rfl rfl K
          · replace K := K.2 c47
            refine Z.aload_n (k := 1) dX11_settle_99 rfl ?_
            refine Y.getR (o := some 33) 8 dX11_settle_100 zl_X11_67 (rfl) (by decide) rfl (zX_0_0 hX).2.1 (zX_0_8 hX).1 ?_
            refine Z.aload_n (k := 1) dX11_settle_103 rfl ?_
            refine Y.getR (o := some 10) 3 dX11_settle_104 zl_X11_30 (rfl) (by decide) rfl (zX_0_0 hX).2.1 (zX_0_3 hX).1 ?_
            obtain ⟨x50, E51, m52, K⟩ := K
            refine Y.callV (g := zm_X10_isTakenIn) (vs := [zR 10]) (st := []) dX11_settle_107 ⟨zg_X10_isTakenIn.1, zg_X10_isTakenIn.2.1, zg_X10_isTakenIn.2.2, by decide⟩ ⟨zk_X11_327, zv_X10_isTakenIn⟩ (ci := 10) (rfl) rfl ((zX_0_8 hX).2.2) rfl rfl (Nat.le_of_ble_eq_true rfl) m52 (Or.inl rfl) ?_
            show Z zm_X11_settle kz Q 110 [(3, zI x34), (0, zR 0), (1, zI v1), (2, zR a2)] [zI x50] (d, G, E51)
            refine Z.if_eq 125 dX11_settle_110 rfl ⟨fun c54 => ?_, fun c54 => ?_⟩
            · replace K := K.1 c54
              refine Z.aload_n (k := 1) dX11_settle_125 rfl ?_
              refine Z.aload_n (k := 3) dX11_settle_126 rfl ?_
              obtain ⟨x55, d56, G57, E58, m59, z60, K⟩ := K
              refine Y.callV (g := zm_X11_keep) (vs := [zR a2]) (st := []) dX11_settle_127 ⟨zg_X11_keep.1, zg_X11_keep.2.1, zg_X11_keep.2.2, by decide⟩ ⟨zk_X11_330, zv_X11_keep⟩ (ci := 11) (rfl) rfl ((zX_0_0 hX).2.1) rfl rfl (Nat.le_of_ble_eq_true rfl) m59 z60 ?_
              show Z zm_X11_settle kz Q 130 [(3, zI x34), (0, zR 0), (1, zI v1), (2, zR a2)] [zI x55] (d56, G57, E58)
              obtain ⟨hX61, K⟩ := K
              exact Z.iret (ty := .int) dX11_settle_130 rfl rfl K
            · replace K := K.2 c54
              refine Z.aload_n (k := 1) dX11_settle_113 rfl ?_
              refine Z.dup_i dX11_settle_114 (fun _ => rfl) ?_
              refine Y.getI 17 dX11_settle_115 zl_X11_112 (rfl) (by decide) rfl (zX_0_0 hX).2.1 ?_
              refine Z.iconst (n := 1) dX11_settle_118 ⟨by decide, by decide⟩ ?_
              obtain ⟨z62, K⟩ := K
              refine Z.iadd dX11_settle_119 z62 ?_
              refine Y.putI 17 dX11_settle_120 zw_X11_112 (fun q => by cases q) (rfl) rfl (zX_0_0 hX).2.1 (Or.inl rfl) ?_
              generalize eE63 : zuE E51 0 17 (((E51 0 17) + 1)) = E63
              replace K := K E63 eE63.symm
              refine Z.iconst (n := -1) dX11_settle_123 ⟨by decide, by decide⟩ ?_
              exact Z.iret (ty := .int) dX11_settle_124 rfl rfl K
        · replace K := K.2 c40
          refine Z.aload_n (k := 1) dX11_settle_65 rfl ?_
          refine Z.dup_i dX11_settle_66 (fun _ => rfl) ?_
          refine Y.getI 18 dX11_settle_67 zl_X11_115 (rfl) (by decide) rfl (zX_0_0 hX).2.1 ?_
          refine Z.iconst (n := 1) dX11_settle_70 ⟨by decide, by decide⟩ ?_
          obtain ⟨z64, K⟩ := K
          refine Z.iadd dX11_settle_71 z64 ?_
          refine Y.putI 18 dX11_settle_72 zw_X11_115 (fun q => by cases q) (rfl) rfl (zX_0_0 hX).2.1 (Or.inl rfl) ?_
          generalize eE65 : zuE E39 0 18 (((E39 0 18) + 1)) = E65
          replace K := K E65 eE65.symm
          refine Z.bipush (n := -99) dX11_settle_75 ⟨by decide, by decide⟩ (by decide) ?_
          exact Z.iret (ty := .int) dX11_settle_77 rfl rfl K
set_option maxRecDepth 20000 in
theorem X11_settle_23 {kz : Nat × Nat} {Q : Option zV → zH → Prop} {d : List Nat} {G : Nat → Int → Option Nat} {E : Nat → Int → Int} {a2 n2 : Nat} (hX : zK zXt d G) (ha2 : a2 ∈ d) (hk2 : zkd a2 = (0, n2)) (K : (0 = 0 → (0 ≠ 0 → ∃ E3, zM zm_X5_mark [zR 10] (d, G, E) none (d, G, E3) ∧ ∃ x6, zM zm_X5_isTrivial [zR 10, zR 1] (d, G, E3) (some (zI x6)) (d, G, E3) ∧ (x6 ≠ 0 → zin ((E3 0 17) + 1) ∧ ∀ E11, E11 = zuE E3 0 17 (((E3 0 17) + 1)) → Q (some (zI ((-1)))) (d, G, E11)) ∧ (¬ (x6 ≠ 0) → ∃ x12 E13, zM zm_X10_isTakenIn [zR 33, zR 10] (d, G, E3) (some (zI x12)) (d, G, E13) ∧ (x12 = 0 → ∃ x17 d18 G19 E20, zM zm_X11_keep [zR 0, zR a2] (d, G, E13) (some (zI x17)) (d18, G19, E20) ∧ (d18 = d ∨ d18.length ≤ kz.1 ∧ zsl d18 ≤ kz.2) ∧ zK zXt d18 G19 ∧ Q (some (zI x17)) (d18, G19, E20)) ∧ (¬ (x12 = 0) → zin ((E13 0 17) + 1) ∧ ∀ E25, E25 = zuE E13 0 17 (((E13 0 17) + 1)) → Q (some (zI ((-1)))) (d, G, E25)))) ∧ (¬ (0 ≠ 0) → zin ((E 0 18) + 1) ∧ ∀ E27, E27 = zuE E 0 18 (((E 0 18) + 1)) → Q (some (zI ((-99)))) (d, G, E27))) ∧ (¬ (0 = 0) → ∃ x28 E29, zM zm_X4_rewrite [zR 36, zR 10, zR 30] (d, G, E) (some (zI x28)) (d, G, E29) ∧ zin ((E29 0 20) + (E29 36 11)) ∧ ∀ E33, E33 = zuE E29 0 20 (((E29 0 20) + (E29 36 11))) → (x28 ≠ 0 → ∃ E35, zM zm_X5_mark [zR 10] (d, G, E33) none (d, G, E35) ∧ ∃ x38, zM zm_X5_isTrivial [zR 10, zR 1] (d, G, E35) (some (zI x38)) (d, G, E35) ∧ (x38 ≠ 0 → zin ((E35 0 17) + 1) ∧ ∀ E43, E43 = zuE E35 0 17 (((E35 0 17) + 1)) → Q (some (zI ((-1)))) (d, G, E43)) ∧ (¬ (x38 ≠ 0) → ∃ x44 E45, zM zm_X10_isTakenIn [zR 33, zR 10] (d, G, E35) (some (zI x44)) (d, G, E45) ∧ (x44 = 0 → ∃ x49 d50 G51 E52, zM zm_X11_keep [zR 0, zR a2] (d, G, E45) (some (zI x49)) (d50, G51, E52) ∧ (d50 = d ∨ d50.length ≤ kz.1 ∧ zsl d50 ≤ kz.2) ∧ zK zXt d50 G51 ∧ Q (some (zI x49)) (d50, G51, E52)) ∧ (¬ (x44 = 0) → zin ((E45 0 17) + 1) ∧ ∀ E57, E57 = zuE E45 0 17 (((E45 0 17) + 1)) → Q (some (zI ((-1)))) (d, G, E57)))) ∧ (¬ (x28 ≠ 0) → zin ((E33 0 18) + 1) ∧ ∀ E59, E59 = zuE E33 0 18 (((E33 0 18) + 1)) → Q (some (zI ((-99)))) (d, G, E59)))) : Z zm_X11_settle kz Q 23 [(0, zR 0), (2, zR a2)] [] (d, G, E) := by
  refine Z.iconst (n := 0) dX11_settle_23 ⟨by decide, by decide⟩ ?_
  refine Z.istore_n (ls' := [(3, zI 0), (0, zR 0), (2, zR a2)]) dX11_settle_24 (by decide) rfl ?_
  refine Z.iload_n (k := 0) dX11_settle_25 rfl ?_
  refine Z.if_eq 61 dX11_settle_26 rfl ⟨fun c1 => ?_, fun c1 => ?_⟩
  · replace K := K.1 c1
    refine Z.iload_n (k := 0) dX11_settle_61 rfl ?_
    refine Z.if_ne 78 dX11_settle_62 rfl ⟨fun c2 => ?_, fun c2 => ?_⟩
    · replace K := K.1 c2
      refine Z.aload_n (k := 1) dX11_settle_78 rfl ?_
      refine Y.getR (o := some 10) 3 dX11_settle_79 zl_X11_30 (rfl) (by decide) rfl (zX_0_0 hX).2.1 (zX_0_3 hX).1 ?_
      obtain ⟨E3, m4, K⟩ := K
      refine Y.callV (g := zm_X5_mark) (vs := []) (st := []) dX11_settle_82 ⟨zg_X5_mark.1, zg_X5_mark.2.1, zg_X5_mark.2.2, by decide⟩ ⟨zk_X11_320, zv_X5_mark⟩ (ci := 5) (rfl) rfl ((zX_0_3 hX).2.2) rfl rfl (Nat.le_of_ble_eq_true rfl) m4 (Or.inl rfl) ?_
      show Z zm_X11_settle kz Q 85 [(3, zI 0), (0, zR 0), (2, zR a2)] [] (d, G, E3)
      refine Z.aload_n (k := 1) dX11_settle_85 rfl ?_
      refine Y.getR (o := some 10) 3 dX11_settle_86 zl_X11_30 (rfl) (by decide) rfl (zX_0_0 hX).2.1 (zX_0_3 hX).1 ?_
      refine Z.aload_n (k := 1) dX11_settle_89 rfl ?_
      refine Y.getR (o := some 1) 0 dX11_settle_90 zl_X11_12 (rfl) (by decide) rfl (zX_0_0 hX).2.1 (zX_0_0 hX).1 ?_
      obtain ⟨x6, m7, K⟩ := K
      refine Y.callV (g := zm_X5_isTrivial) (vs := [zR 1]) (st := []) dX11_settle_93 ⟨zg_X5_isTrivial.1, zg_X5_isTrivial.2.1, zg_X5_isTrivial.2.2, by decide⟩ ⟨zk_X11_323, zv_X5_isTrivial⟩ (ci := 5) (rfl) rfl ((zX_0_3 hX).2.2) rfl rfl (Nat.le_of_ble_eq_true rfl) m7 (Or.inl rfl) ?_
      show Z zm_X11_settle kz Q 96 [(3, zI 0), (0, zR 0), (2, zR a2)] [zI x6] (d, G, E3)
      refine Z.if_ne 113 dX11_settle_96 rfl ⟨fun c9 => ?_, fun c9 => ?_⟩
      · replace K := K.1 c9
        refine Z.aload_n (k := 1) dX11_settle_113 rfl ?_
        refine Z.dup_i dX11_settle_114 (fun _ => rfl) ?_
        refine Y.getI 17 dX11_settle_115 zl_X11_112 (rfl) (by decide) rfl (zX_0_0 hX).2.1 ?_
        refine Z.iconst (n := 1) dX11_settle_118 ⟨by decide, by decide⟩ ?_
        obtain ⟨z10, K⟩ := K
        refine Z.iadd dX11_settle_119 z10 ?_
        refine Y.putI 17 dX11_settle_120 zw_X11_112 (fun q => by cases q) (rfl) rfl (zX_0_0 hX).2.1 (Or.inl rfl) ?_
        generalize eE11 : zuE E3 0 17 (((E3 0 17) + 1)) = E11
        replace K := K E11 eE11.symm
        refine Z.iconst (n := -1) dX11_settle_123 ⟨by decide, by decide⟩ ?_
        exact Z.iret (ty := .int) dX11_settle_124 rfl rfl K
      · replace K := K.2 c9
        refine Z.aload_n (k := 1) dX11_settle_99 rfl ?_
        refine Y.getR (o := some 33) 8 dX11_settle_100 zl_X11_67 (rfl) (by decide) rfl (zX_0_0 hX).2.1 (zX_0_8 hX).1 ?_
        refine Z.aload_n (k := 1) dX11_settle_103 rfl ?_
        refine Y.getR (o := some 10) 3 dX11_settle_104 zl_X11_30 (rfl) (by decide) rfl (zX_0_0 hX).2.1 (zX_0_3 hX).1 ?_
        obtain ⟨x12, E13, m14, K⟩ := K
        refine Y.callV (g := zm_X10_isTakenIn) (vs := [zR 10]) (st := []) dX11_settle_107 ⟨zg_X10_isTakenIn.1, zg_X10_isTakenIn.2.1, zg_X10_isTakenIn.2.2, by decide⟩ ⟨zk_X11_327, zv_X10_isTakenIn⟩ (ci := 10) (rfl) rfl ((zX_0_8 hX).2.2) rfl rfl (Nat.le_of_ble_eq_true rfl) m14 (Or.inl rfl) ?_
        show Z zm_X11_settle kz Q 110 [(3, zI 0), (0, zR 0), (2, zR a2)] [zI x12] (d, G, E13)
        refine Z.if_eq 125 dX11_settle_110 rfl ⟨fun c16 => ?_, fun c16 => ?_⟩
        · replace K := K.1 c16
          refine Z.aload_n (k := 1) dX11_settle_125 rfl ?_
          refine Z.aload_n (k := 2) dX11_settle_126 rfl ?_
          obtain ⟨x17, d18, G19, E20, m21, z22, K⟩ := K
          refine Y.callV (g := zm_X11_keep) (vs := [zR a2]) (st := []) dX11_settle_127 ⟨zg_X11_keep.1, zg_X11_keep.2.1, zg_X11_keep.2.2, by decide⟩ ⟨zk_X11_330, zv_X11_keep⟩ (ci := 11) (rfl) rfl ((zX_0_0 hX).2.1) rfl rfl (Nat.le_of_ble_eq_true rfl) m21 z22 ?_
          show Z zm_X11_settle kz Q 130 [(3, zI 0), (0, zR 0), (2, zR a2)] [zI x17] (d18, G19, E20)
          obtain ⟨hX23, K⟩ := K
          exact Z.iret (ty := .int) dX11_settle_130 rfl rfl K
        · replace K := K.2 c16
          refine Z.aload_n (k := 1) dX11_settle_113 rfl ?_
          refine Z.dup_i dX11_settle_114 (fun _ => rfl) ?_
          refine Y.getI 17 dX11_settle_115 zl_X11_112 (rfl) (by decide) rfl (zX_0_0 hX).2.1 ?_
          refine Z.iconst (n := 1) dX11_settle_118 ⟨by decide, by decide⟩ ?_
          obtain ⟨z24, K⟩ := K
          refine Z.iadd dX11_settle_119 z24 ?_
          refine Y.putI 17 dX11_settle_120 zw_X11_112 (fun q => by cases q) (rfl) rfl (zX_0_0 hX).2.1 (Or.inl rfl) ?_
          generalize eE25 : zuE E13 0 17 (((E13 0 17) + 1)) = E25
          replace K := K E25 eE25.symm
          refine Z.iconst (n := -1) dX11_settle_123 ⟨by decide, by decide⟩ ?_
          exact Z.iret (ty := .int) dX11_settle_124 rfl rfl K
    · replace K := K.2 c2
      refine Z.aload_n (k := 1) dX11_settle_65 rfl ?_
      refine Z.dup_i dX11_settle_66 (fun _ => rfl) ?_
      refine Y.getI 18 dX11_settle_67 zl_X11_115 (rfl) (by decide) rfl (zX_0_0 hX).2.1 ?_
      refine Z.iconst (n := 1) dX11_settle_70 ⟨by decide, by decide⟩ ?_
      obtain ⟨z26, K⟩ := K
      refine Z.iadd dX11_settle_71 z26 ?_
      refine Y.putI 18 dX11_settle_72 zw_X11_115 (fun q => by cases q) (rfl) rfl (zX_0_0 hX).2.1 (Or.inl rfl) ?_
      generalize eE27 : zuE E 0 18 (((E 0 18) + 1)) = E27
      replace K := K E27 eE27.symm
      refine Z.bipush (n := -99) dX11_settle_75 ⟨by decide, by decide⟩ (by decide) ?_
      exact Z.iret (ty := .int) dX11_settle_77 rfl rfl K
  · replace K := K.2 c1
    refine Z.aload_n (k := 1) dX11_settle_29 rfl ?_
    refine Y.getR (o := some 36) 9 dX11_settle_30 zl_X11_76 (rfl) (by decide) rfl (zX_0_0 hX).2.1 (zX_0_9 hX).1 ?_
    refine Z.aload_n (k := 1) dX11_settle_33 rfl ?_
    refine Y.getR (o := some 10) 3 dX11_settle_34 zl_X11_30 (rfl) (by decide) rfl (zX_0_0 hX).2.1 (zX_0_3 hX).1 ?_
    refine Z.aload_n (k := 1) dX11_settle_37 rfl ?_
    refine Y.getR (o := some 30) 7 dX11_settle_38 zl_X11_58 (rfl) (by decide) rfl (zX_0_0 hX).2.1 (zX_0_7 hX).1 ?_
    obtain ⟨x28, E29, m30, K⟩ := K
    refine Y.callV (g := zm_X4_rewrite) (vs := [zR 10, zR 30]) (st := []) dX11_settle_41 ⟨zg_X4_rewrite.1, zg_X4_rewrite.2.1, zg_X4_rewrite.2.2, by decide⟩ ⟨zk_X11_313, zv_X4_rewrite⟩ (ci := 4) (rfl) rfl ((zX_0_9 hX).2.2) rfl rfl (Nat.le_of_ble_eq_true rfl) m30 (Or.inl rfl) ?_
    show Z zm_X11_settle kz Q 44 [(3, zI 0), (0, zR 0), (2, zR a2)] [zI x28] (d, G, E29)
    refine Z.istore_n (ls' := [(3, zI x28), (0, zR 0), (2, zR a2)]) dX11_settle_44 (by decide) rfl ?_
    refine Z.aload_n (k := 1) dX11_settle_45 rfl ?_
    refine Z.dup_i dX11_settle_46 (fun _ => rfl) ?_
    refine Y.getI 20 dX11_settle_47 zl_X11_121 (rfl) (by decide) rfl (zX_0_0 hX).2.1 ?_
    refine Z.aload_n (k := 1) dX11_settle_50 rfl ?_
    refine Y.getR (o := some 36) 9 dX11_settle_51 zl_X11_76 (rfl) (by decide) rfl (zX_0_0 hX).2.1 (zX_0_9 hX).1 ?_
    refine Y.getI 11 dX11_settle_54 zl_X11_317 (rfl) (by decide) rfl (zX_0_9 hX).2.2 ?_
    obtain ⟨z32, K⟩ := K
    refine Z.iadd dX11_settle_57 z32 ?_
    refine Y.putI 20 dX11_settle_58 zw_X11_121 (fun q => by cases q) (rfl) rfl (zX_0_0 hX).2.1 (Or.inl rfl) ?_
    generalize eE33 : zuE E29 0 20 (((E29 0 20) + (E29 36 11))) = E33
    replace K := K E33 eE33.symm
    refine Z.iload_n (k := 0) dX11_settle_61 rfl ?_
    refine Z.if_ne 78 dX11_settle_62 rfl ⟨fun c34 => ?_, fun c34 => ?_⟩
    · replace K := K.1 c34
      refine Z.aload_n (k := 1) dX11_settle_78 rfl ?_
      refine Y.getR (o := some 10) 3 dX11_settle_79 zl_X11_30 (rfl) (by decide) rfl (zX_0_0 hX).2.1 (zX_0_3 hX).1 ?_
      obtain ⟨E35, m36, K⟩ := K
      refine Y.callV (g := zm_X5_mark) (vs := []) (st := []) dX11_settle_82 ⟨zg_X5_mark.1, zg_X5_mark.2.1, zg_X5_mark.2.2, by decide⟩ ⟨zk_X11_320, zv_X5_mark⟩ (ci := 5) (rfl) rfl ((zX_0_3 hX).2.2) rfl rfl (Nat.le_of_ble_eq_true rfl) m36 (Or.inl rfl) ?_
      show Z zm_X11_settle kz Q 85 [(3, zI x28), (0, zR 0), (2, zR a2)] [] (d, G, E35)
      refine Z.aload_n (k := 1) dX11_settle_85 rfl ?_
      refine Y.getR (o := some 10) 3 dX11_settle_86 zl_X11_30 (rfl) (by decide) rfl (zX_0_0 hX).2.1 (zX_0_3 hX).1 ?_
      refine Z.aload_n (k := 1) dX11_settle_89 rfl ?_
      refine Y.getR (o := some 1) 0 dX11_settle_90 zl_X11_12 (rfl) (by decide) rfl (zX_0_0 hX).2.1 (zX_0_0 hX).1 ?_
      obtain ⟨x38, m39, K⟩ := K
      refine Y.callV (g := zm_X5_isTrivial) (vs := [zR 1]) (st := []) dX11_settle_93 ⟨zg_X5_isTrivial.1, zg_X5_isTrivial.2.1, zg_X5_isTrivial.2.2, by decide⟩ ⟨zk_X11_323, zv_X5_isTrivial⟩ (ci := 5) (rfl) rfl ((zX_0_3 hX).2.2) rfl rfl (Nat.le_of_ble_eq_true rfl) m39 (Or.inl rfl) ?_
      show Z zm_X11_settle kz Q 96 [(3, zI x28), (0, zR 0), (2, zR a2)] [zI x38] (d, G, E35)
      refine Z.if_ne 113 dX11_settle_96 rfl ⟨fun c41 => ?_, fun c41 => ?_⟩
      · replace K := K.1 c41
        refine Z.aload_n (k := 1) dX11_settle_113 rfl ?_
        refine Z.dup_i dX11_settle_114 (fun _ => rfl) ?_
        refine Y.getI 17 dX11_settle_115 zl_X11_112 (rfl) (by decide) rfl (zX_0_0 hX).2.1 ?_
        refine Z.iconst (n := 1) dX11_settle_118 ⟨by decide, by decide⟩ ?_
        obtain ⟨z42, K⟩ := K
        refine Z.iadd dX11_settle_119 z42 ?_
        refine Y.putI 17 dX11_settle_120 zw_X11_112 (fun q => by cases q) (rfl) rfl (zX_0_0 hX).2.1 (Or.inl rfl) ?_
        generalize eE43 : zuE E35 0 17 (((E35 0 17) + 1)) = E43
        replace K := K E43 eE43.symm
        refine Z.iconst (n := -1) dX11_settle_123 ⟨by decide, by decide⟩ ?_
        exact Z.iret (ty := .int) dX11_settle_124 rfl rfl K
      · replace K := K.2 c41
        refine Z.aload_n (k := 1) dX11_settle_99 rfl ?_
        refine Y.getR (o := some 33) 8 dX11_settle_100 zl_X11_67 (rfl) (by decide) rfl (zX_0_0 hX).2.1 (zX_0_8 hX).1 ?_
        refine Z.aload_n (k := 1) dX11_settle_103 rfl ?_
        refine Y.getR (o := some 10) 3 dX11_settle_104 zl_X11_30 (rfl) (by decide) rfl (zX_0_0 hX).2.1 (zX_0_3 hX).1 ?_
        obtain ⟨x44, E45, m46, K⟩ := K
        refine Y.callV (g := zm_X10_isTakenIn) (vs := [zR 10]) (st := []) dX11_settle_107 ⟨zg_X10_isTakenIn.1, zg_X10_isTakenIn.2.1, zg_X10_isTakenIn.2.2, by decide⟩ ⟨zk_X11_327, zv_X10_isTakenIn⟩ (ci := 10) (rfl) rfl ((zX_0_8 hX).2.2) rfl rfl (Nat.le_of_ble_eq_true rfl) m46 (Or.inl rfl) ?_
        show Z zm_X11_settle kz Q 110 [(3, zI x28), (0, zR 0), (2, zR a2)] [zI x44] (d, G, E45)
        refine Z.if_eq 125 dX11_settle_110 rfl ⟨fun c48 => ?_, fun c48 => ?_⟩
        · replace K := K.1 c48
          refine Z.aload_n (k := 1) dX11_settle_125 rfl ?_
          refine Z.aload_n (k := 2) dX11_settle_126 rfl ?_
          obtain ⟨x49, d50, G51, E52, m53, z54, K⟩ := K
          refine Y.callV (g := zm_X11_keep) (vs := [zR a2]) (st := []) dX11_settle_127 ⟨zg_X11_keep.1, zg_X11_keep.2.1, zg_X11_keep.2.2, by decide⟩ ⟨zk_X11_330, zv_X11_keep⟩ (ci := 11) (rfl) rfl ((zX_0_0 hX).2.1) rfl rfl (Nat.le_of_ble_eq_true rfl) m53 z54 ?_
          show Z zm_X11_settle kz Q 130 [(3, zI x28), (0, zR 0), (2, zR a2)] [zI x49] (d50, G51, E52)
          obtain ⟨hX55, K⟩ := K
          exact Z.iret (ty := .int) dX11_settle_130 rfl rfl K
        · replace K := K.2 c48
          refine Z.aload_n (k := 1) dX11_settle_113 rfl ?_
          refine Z.dup_i dX11_settle_114 (fun _ => rfl) ?_
          refine Y.getI 17 dX11_settle_115 zl_X11_112 (rfl) (by decide) rfl (zX_0_0 hX).2.1 ?_
          refine Z.iconst (n := 1) dX11_settle_118 ⟨by decide, by decide⟩ ?_
          obtain ⟨z56, K⟩ := K
          refine Z.iadd dX11_settle_119 z56 ?_
          refine Y.putI 17 dX11_settle_120 zw_X11_112 (fun q => by cases q) (rfl) rfl (zX_0_0 hX).2.1 (Or.inl rfl) ?_
          generalize eE57 : zuE E45 0 17 (((E45 0 17) + 1)) = E57
          replace K := K E57 eE57.symm
          refine Z.iconst (n := -1) dX11_settle_123 ⟨by decide, by decide⟩ ?_
          exact Z.iret (ty := .int) dX11_settle_124 rfl rfl K
    · replace K := K.2 c34
      refine Z.aload_n (k := 1) dX11_settle_65 rfl ?_
      refine Z.dup_i dX11_settle_66 (fun _ => rfl) ?_
      refine Y.getI 18 dX11_settle_67 zl_X11_115 (rfl) (by decide) rfl (zX_0_0 hX).2.1 ?_
      refine Z.iconst (n := 1) dX11_settle_70 ⟨by decide, by decide⟩ ?_
      obtain ⟨z58, K⟩ := K
      refine Z.iadd dX11_settle_71 z58 ?_
      refine Y.putI 18 dX11_settle_72 zw_X11_115 (fun q => by cases q) (rfl) rfl (zX_0_0 hX).2.1 (Or.inl rfl) ?_
      generalize eE59 : zuE E33 0 18 (((E33 0 18) + 1)) = E59
      replace K := K E59 eE59.symm
      refine Z.bipush (n := -99) dX11_settle_75 ⟨by decide, by decide⟩ (by decide) ?_
      exact Z.iret (ty := .int) dX11_settle_77 rfl rfl K
set_option maxRecDepth 20000 in
theorem X11_given_0 {kz : Nat × Nat} {Q : Option zV → zH → Prop} {d : List Nat} {G : Nat → Int → Option Nat} {E : Nat → Int → Int}  (hX : zK zXt d G) (K : ((E 0 15) = 0 → ((E 5 4) < 150 → ∃ x3 E4, zM zm_X11_readDraft [zR 0] (d, G, E) (some (zI x3)) (d, G, E4) ∧ ∀ E7, E7 = zuE E4 0 12 0 → (x3 = (-1) → ∃ E9, zM zm_X5_copy [zR 14, zR 10] (d, G, E7) none (d, G, E9) ∧ ∃ o12 E13, zM zm_X0_asGiven [zR 42] (d, G, E9) (some (zO o12)) (d, G, E13) ∧ ∃ x16 d17 G18 E19, zM zm_X11_settle [zR 0, zI 2, zO o12] (d, G, E13) (some (zI x16)) (d17, G18, E19) ∧ (d17 = d ∨ d17.length ≤ kz.1 ∧ zsl d17 ≤ kz.2) ∧ zK zXt d17 G18 ∧ Q (some (zI x16)) (d17, G18, E19)) ∧ (¬ (x3 = (-1)) → zin ((-100) - x3) ∧ Q (some (zI (((-100) - x3)))) (d, G, E7))) ∧ (¬ ((E 5 4) < 150) → Q (some (zI ((-4)))) (d, G, E))) ∧ (¬ ((E 0 15) = 0) → Q (some (zI ((-3)))) (d, G, E))) : Z zm_X11_given kz Q 0 [(0, zR 0)] [] (d, G, E) := by
  refine Z.aload_n (k := 0) dX11_given_0 rfl ?_
  refine Y.getI 15 dX11_given_1 zl_X11_106 (rfl) (by decide) rfl (zX_0_0 hX).2.1 ?_
  refine Z.if_eq 10 dX11_given_4 rfl ⟨fun c1 => ?_, fun c1 => ?_⟩
  · replace K := K.1 c1
    refine Z.aload_n (k := 0) dX11_given_10 rfl ?_
    refine Y.getR (o := some 5) 1 dX11_given_11 zl_X11_19 (rfl) (by decide) rfl (zX_0_0 hX).2.1 (zX_0_1 hX).1 ?_
    refine Y.getI 4 dX11_given_14 zl_X11_124 (rfl) (by decide) rfl (zX_0_1 hX).2.2 ?_
    refine Z.sipush (n := 150) dX11_given_17 ⟨by decide, by decide⟩ (by decide) ?_
    refine Z.icmp_lt 26 dX11_given_20 rfl ⟨fun c2 => ?_, fun c2 => ?_⟩
    · replace K := K.1 c2
      refine Z.aload_n (k := 0) dX11_given_26 rfl ?_
      obtain ⟨x3, E4, m5, K⟩ := K
      refine Y.callV (g := zm_X11_readDraft) (vs := []) (st := []) dX11_given_27 ⟨zg_X11_readDraft.1, zg_X11_readDraft.2.1, zg_X11_readDraft.2.2, by decide⟩ ⟨zk_X11_131, zv_X11_readDraft⟩ (ci := 11) (rfl) rfl ((zX_0_0 hX).2.1) rfl rfl (Nat.le_of_ble_eq_true rfl) m5 (Or.inl rfl) ?_
      show Z zm_X11_given kz Q 30 [(0, zR 0)] [zI x3] (d, G, E4)
      refine Z.istore_n (ls' := [(1, zI x3), (0, zR 0)]) dX11_given_30 (by decide) rfl ?_
      refine Z.aload_n (k := 1) dX11_given_31 rfl ?_
      refine Z.iconst (n := 0) dX11_given_32 ⟨by decide, by decide⟩ ?_
      refine Y.putI 12 dX11_given_33 zw_X11_96 (fun q => by cases q) (rfl) rfl (zX_0_0 hX).2.1 (Or.inl rfl) ?_
      generalize eE7 : zuE E4 0 12 0 = E7
      replace K := K E7 eE7.symm
      refine Z.iload_n (k := 0) dX11_given_36 rfl ?_
      refine Z.iconst (n := -1) dX11_given_37 ⟨by decide, by decide⟩ ?_
      refine Z.icmp_eq 46 dX11_given_38 rfl ⟨fun c8 => ?_, fun c8 => ?_⟩
      · replace K := K.1 c8
        refine Z.aload_n (k := 1) dX11_given_46 rfl ?_
        refine Y.getR (o := some 14) 4 dX11_given_47 zl_X11_34 (rfl) (by decide) rfl (zX_0_0 hX).2.1 (zX_0_4 hX).1 ?_
        refine Z.aload_n (k := 1) dX11_given_50 rfl ?_
        refine Y.getR (o := some 10) 3 dX11_given_51 zl_X11_30 (rfl) (by decide) rfl (zX_0_0 hX).2.1 (zX_0_3 hX).1 ?_
        obtain ⟨E9, m10, K⟩ := K
        refine Y.callV (g := zm_X5_copy) (vs := [zR 10]) (st := []) dX11_given_54 ⟨zg_X5_copy.1, zg_X5_copy.2.1, zg_X5_copy.2.2, by decide⟩ ⟨zk_X11_135, zv_X5_copy⟩ (ci := 5) (rfl) rfl ((zX_0_4 hX).2.2) rfl rfl (Nat.le_of_ble_eq_true rfl) m10 (Or.inl rfl) ?_
        show Z zm_X11_given kz Q 57 [(1, zI x3), (0, zR 0)] [] (d, G, E9)
        refine Z.aload_n (k := 1) dX11_given_57 rfl ?_
        refine Z.iconst (n := 2) dX11_given_58 ⟨by decide, by decide⟩ ?_
        refine Z.aload_n (k := 1) dX11_given_59 rfl ?_
        refine Y.getR (o := some 42) 11 dX11_given_60 zl_X11_92 (rfl) (by decide) rfl (zX_0_0 hX).2.1 (zX_0_11 hX).1 ?_
        obtain ⟨o12, E13, m14, K⟩ := K
        refine Y.callV (g := zm_X0_asGiven) (vs := []) (st := [zI 2, zR 0]) dX11_given_63 ⟨zg_X0_asGiven.1, zg_X0_asGiven.2.1, zg_X0_asGiven.2.2, by decide⟩ ⟨zk_X11_139, zv_X0_asGiven⟩ (ci := 0) (rfl) rfl ((zX_0_11 hX).2.2) rfl rfl (Nat.le_of_ble_eq_true rfl) m14 (Or.inl rfl) ?_
        show Z zm_X11_given kz Q 66 [(1, zI x3), (0, zR 0)] [zO o12, zI 2, zR 0] (d, G, E13)
        obtain ⟨x16, d17, G18, E19, m20, z21, K⟩ := K
        refine Y.callV (g := zm_X11_settle) (vs := [zI 2, zO o12]) (st := []) dX11_given_66 ⟨zg_X11_settle.1, zg_X11_settle.2.1, zg_X11_settle.2.2, by decide⟩ ⟨zk_X11_143, zv_X11_settle⟩ (ci := 11) (rfl) rfl ((zX_0_0 hX).2.1) rfl rfl (Nat.le_of_ble_eq_true rfl) m20 z21 ?_
        show Z zm_X11_given kz Q 69 [(1, zI x3), (0, zR 0)] [zI x16] (d17, G18, E19)
        obtain ⟨hX22, K⟩ := K
        exact Z.iret (ty := .int) dX11_given_69 rfl rfl K
      · replace K := K.2 c8
        refine Z.bipush (n := -100) dX11_given_41 ⟨by decide, by decide⟩ (by decide) ?_
        refine Z.iload_n (k := 0) dX11_given_43 rfl ?_
        obtain ⟨z23, K⟩ := K
        refine Z.isub dX11_given_44 z23 ?_
        exact Z.iret (ty := .int) dX11_given_45 rfl rfl K
    · replace K := K.2 c2
      refine Z.bipush (n := -4) dX11_given_23 ⟨by decide, by decide⟩ (by decide) ?_
      exact Z.iret (ty := .int) dX11_given_25 rfl rfl K
  · replace K := K.2 c1
    refine Z.bipush (n := -3) dX11_given_7 ⟨by decide, by decide⟩ (by decide) ?_
    exact Z.iret (ty := .int) dX11_given_9 rfl rfl K
set_option maxRecDepth 20000 in
theorem X11_wipe_0 {kz : Nat × Nat} {Q : Option zV → zH → Prop} {d : List Nat} {G : Nat → Int → Option Nat} {E : Nat → Int → Int}  (hX : zK zXt d G) (K : ∀ E1, E1 = zuE E 0 12 0 → Q (some (zI ((E 0 12)))) (d, G, E1)) : Z zm_X11_wipe kz Q 0 [(0, zR 0)] [] (d, G, E) := by
  refine Z.aload_n (k := 0) dX11_wipe_0 rfl ?_
  refine Y.getI 12 dX11_wipe_1 zl_X11_96 (rfl) (by decide) rfl (zX_0_0 hX).2.1 ?_
  refine Z.istore_n (ls' := [(1, zI ((E 0 12))), (0, zR 0)]) dX11_wipe_4 (by decide) rfl ?_
  refine Z.aload_n (k := 1) dX11_wipe_5 rfl ?_
  refine Z.iconst (n := 0) dX11_wipe_6 ⟨by decide, by decide⟩ ?_
  refine Y.putI 12 dX11_wipe_7 zw_X11_96 (fun q => by cases q) (rfl) rfl (zX_0_0 hX).2.1 (Or.inl rfl) ?_
  generalize eE1 : zuE E 0 12 0 = E1
  replace K := K E1 eE1.symm
  refine Z.iload_n (k := 0) dX11_wipe_10 rfl ?_
  exact Z.iret (ty := .int) dX11_wipe_11 rfl rfl K
set_option maxRecDepth 20000 in
theorem X11_turns_0 {kz : Nat × Nat} {Q : Option zV → zH → Prop} {d : List Nat} {G : Nat → Int → Option Nat} {E : Nat → Int → Int} {v1 : Int} (hX : zK zXt d G) (K : (v1 < 0 → Q (some (zI ((-2)))) (d, G, E)) ∧ (¬ (v1 < 0) → (v1 ≤ 20 → ∀ E3, E3 = zuE E 0 13 v1 → Q (some (zI ((E 0 13)))) (d, G, E3)) ∧ (¬ (v1 ≤ 20) → Q (some (zI ((-2)))) (d, G, E)))) : Z zm_X11_turns kz Q 0 [(0, zR 0), (1, zI v1)] [] (d, G, E) := by
  refine Z.iload_n (k := 1) dX11_turns_0 rfl ?_
  refine Z.if_lt 10 dX11_turns_1 rfl ⟨fun c1 => ?_, fun c1 => ?_⟩
  · replace K := K.1 c1
    refine Z.bipush (n := -2) dX11_turns_10 ⟨by decide, by decide⟩ (by decide) ?_
    exact Z.iret (ty := .int) dX11_turns_12 rfl rfl K
  · replace K := K.2 c1
    refine Z.iload_n (k := 1) dX11_turns_4 rfl ?_
    refine Z.bipush (n := 20) dX11_turns_5 ⟨by decide, by decide⟩ (by decide) ?_
    refine Z.icmp_le 13 dX11_turns_7 rfl ⟨fun c2 => ?_, fun c2 => ?_⟩
    · replace K := K.1 c2
      refine Z.aload_n (k := 0) dX11_turns_13 rfl ?_
      refine Y.getI 13 dX11_turns_14 zl_X11_100 (rfl) (by decide) rfl (zX_0_0 hX).2.1 ?_
      refine Z.istore_n (ls' := [(2, zI ((E 0 13))), (0, zR 0), (1, zI v1)]) dX11_turns_17 (by decide) rfl ?_
      refine Z.aload_n (k := 1) dX11_turns_18 rfl ?_
      refine Z.iload_n (k := 2) dX11_turns_19 rfl ?_
      refine Y.putI 13 dX11_turns_20 zw_X11_100 (fun q => by cases q) (rfl) rfl (zX_0_0 hX).2.1 (Or.inl rfl) ?_
      generalize eE3 : zuE E 0 13 v1 = E3
      replace K := K E3 eE3.symm
      refine Z.iload_n (k := 0) dX11_turns_23 rfl ?_
      exact Z.iret (ty := .int) dX11_turns_24 rfl rfl K
    · replace K := K.2 c2
      refine Z.bipush (n := -2) dX11_turns_10 ⟨by decide, by decide⟩ (by decide) ?_
      exact Z.iret (ty := .int) dX11_turns_12 rfl rfl K
set_option maxRecDepth 20000 in
theorem X11_fuel_0 {kz : Nat × Nat} {Q : Option zV → zH → Prop} {d : List Nat} {G : Nat → Int → Option Nat} {E : Nat → Int → Int} {v1 : Int} (hX : zK zXt d G) (K : (v1 < 0 → Q (some (zI ((-2)))) (d, G, E)) ∧ (¬ (v1 < 0) → (v1 ≤ 4000 → ∀ E3, E3 = zuE E 0 14 v1 → Q (some (zI ((E 0 14)))) (d, G, E3)) ∧ (¬ (v1 ≤ 4000) → Q (some (zI ((-2)))) (d, G, E)))) : Z zm_X11_fuel kz Q 0 [(0, zR 0), (1, zI v1)] [] (d, G, E) := by
  refine Z.iload_n (k := 1) dX11_fuel_0 rfl ?_
  refine Z.if_lt 11 dX11_fuel_1 rfl ⟨fun c1 => ?_, fun c1 => ?_⟩
  · replace K := K.1 c1
    refine Z.bipush (n := -2) dX11_fuel_11 ⟨by decide, by decide⟩ (by decide) ?_
    exact Z.iret (ty := .int) dX11_fuel_13 rfl rfl K
  · replace K := K.2 c1
    refine Z.iload_n (k := 1) dX11_fuel_4 rfl ?_
    refine Z.sipush (n := 4000) dX11_fuel_5 ⟨by decide, by decide⟩ (by decide) ?_
    refine Z.icmp_le 14 dX11_fuel_8 rfl ⟨fun c2 => ?_, fun c2 => ?_⟩
    · replace K := K.1 c2
      refine Z.aload_n (k := 0) dX11_fuel_14 rfl ?_
      refine Y.getI 14 dX11_fuel_15 zl_X11_103 (rfl) (by decide) rfl (zX_0_0 hX).2.1 ?_
      refine Z.istore_n (ls' := [(2, zI ((E 0 14))), (0, zR 0), (1, zI v1)]) dX11_fuel_18 (by decide) rfl ?_
      refine Z.aload_n (k := 1) dX11_fuel_19 rfl ?_
      refine Z.iload_n (k := 2) dX11_fuel_20 rfl ?_
      refine Y.putI 14 dX11_fuel_21 zw_X11_103 (fun q => by cases q) (rfl) rfl (zX_0_0 hX).2.1 (Or.inl rfl) ?_
      generalize eE3 : zuE E 0 14 v1 = E3
      replace K := K E3 eE3.symm
      refine Z.iload_n (k := 0) dX11_fuel_24 rfl ?_
      exact Z.iret (ty := .int) dX11_fuel_25 rfl rfl K
    · replace K := K.2 c2
      refine Z.bipush (n := -2) dX11_fuel_11 ⟨by decide, by decide⟩ (by decide) ?_
      exact Z.iret (ty := .int) dX11_fuel_13 rfl rfl K
set_option maxRecDepth 20000 in
theorem X11_pick_0 {kz : Nat × Nat} {Q : Option zV → zH → Prop} {d : List Nat} {G : Nat → Int → Option Nat} {E : Nat → Int → Int}  (hX : zK zXt d G) (K : zin ((E 0 16) + 1) ∧ zin ((E 0 13) + 1) ∧ (0 : Int) ≤ ((E 0 16) + 1) ∧ (0 : Int) < ((E 0 13) + 1) ∧ ((((E 0 16) + 1) % ((E 0 13) + 1)) ≠ 0 → Z zm_X11_pick kz Q 26 [(0, zR 0), (1, zI 0), (2, zO none), (3, zI 0)] [] (d, G, E)) ∧ (¬ ((((E 0 16) + 1) % ((E 0 13) + 1)) ≠ 0) → Z zm_X11_pick kz Q 26 [(0, zR 0), (1, zI 1), (2, zO none), (3, zI 0)] [] (d, G, E))) : Z zm_X11_pick kz Q 0 [(0, zR 0)] [] (d, G, E) := by
  refine Z.aload_n (k := 0) dX11_pick_0 rfl ?_
  refine Y.getI 16 dX11_pick_1 zl_X11_109 (rfl) (by decide) rfl (zX_0_0 hX).2.1 ?_
  refine Z.iconst (n := 1) dX11_pick_4 ⟨by decide, by decide⟩ ?_
  obtain ⟨z1, K⟩ := K
  refine Z.iadd dX11_pick_5 z1 ?_
  refine Z.aload_n (k := 0) dX11_pick_6 rfl ?_
  refine Y.getI 13 dX11_pick_7 zl_X11_100 (rfl) (by decide) rfl (zX_0_0 hX).2.1 ?_
  refine Z.iconst (n := 1) dX11_pick_10 ⟨by decide, by decide⟩ ?_
  obtain ⟨z2, K⟩ := K
  refine Z.iadd dX11_pick_11 z2 ?_
  obtain ⟨z3, z4, K⟩ := K
  refine Z.irem dX11_pick_12 z3 z4 ?_
  refine Z.if_ne 20 dX11_pick_13 rfl ⟨fun c5 => ?_, fun c5 => ?_⟩
  · replace K := K.1 c5
    refine Z.iconst (n := 0) dX11_pick_20 ⟨by decide, by decide⟩ ?_
    refine Z.istore_n (ls' := [(1, zI 0), (0, zR 0)]) dX11_pick_21 (by decide) rfl ?_
    refine Z.null dX11_pick_22 ?_
    refine Z.astore_n (ls' := [(2, zO none), (1, zI 0), (0, zR 0)]) dX11_pick_23 (by decide) rfl ?_
    refine Z.iconst (n := 0) dX11_pick_24 ⟨by decide, by decide⟩ ?_
    refine Z.istore_n (ls' := [(3, zI 0), (2, zO none), (1, zI 0), (0, zR 0)]) dX11_pick_25 (by decide) rfl ?_
    refine Z.pick (ls' := [(0, zR 0), (1, zI 0), (2, zO none), (3, zI 0)]) [3, 2, 1, 0] rfl ?_
    exact K
  · replace K := K.2 c5
    refine Z.iconst (n := 1) dX11_pick_16 ⟨by decide, by decide⟩ ?_
    refine Z.goto 21 dX11_pick_17 rfl ?_
    refine Z.istore_n (ls' := [(1, zI 1), (0, zR 0)]) dX11_pick_21 (by decide) rfl ?_
    refine Z.null dX11_pick_22 ?_
    refine Z.astore_n (ls' := [(2, zO none), (1, zI 1), (0, zR 0)]) dX11_pick_23 (by decide) rfl ?_
    refine Z.iconst (n := 0) dX11_pick_24 ⟨by decide, by decide⟩ ?_
    refine Z.istore_n (ls' := [(3, zI 0), (2, zO none), (1, zI 1), (0, zR 0)]) dX11_pick_25 (by decide) rfl ?_
    refine Z.pick (ls' := [(0, zR 0), (1, zI 1), (2, zO none), (3, zI 0)]) [3, 2, 1, 0] rfl ?_
    exact K
set_option maxRecDepth 20000 in
theorem X11_pick_26 {kz : Nat × Nat} {Q : Option zV → zH → Prop} {d : List Nat} {G : Nat → Int → Option Nat} {E : Nat → Int → Int} {v1 : Int} {o2 : Option Nat} {v3 : Int} (hX : zK zXt d G) (K : ((E 5 4) ≤ v3 → (o2 ≠ none → ∃ b3, o2 = some b3 ∧ zCk d G b3 ∧ ∀ E6, E6 = zuE E b3 6 1 → zin ((E6 0 16) + 1) ∧ ∀ E8, E8 = zuE E6 0 16 (((E6 0 16) + 1)) → Q (some (zR b3)) (d, G, E8)) ∧ (¬ (o2 ≠ none) → ∀ E9, E9 = zuE E 0 15 2 → Q (some (zO o2)) (d, G, E9))) ∧ (¬ ((E 5 4) ≤ v3) → ∃ o10, zM zm_X7_at [zR 5, zI v3] (d, G, E) (some (zO o10)) (d, G, E) ∧ (o10 = none → zin (v3 + 1) ∧ Z zm_X11_pick kz Q 26 [(0, zR 0), (1, zI v1), (2, zO o2), (3, zI ((v3 + 1)))] [] (d, G, E)) ∧ (¬ (o10 = none) → ∃ b15, o10 = some b15 ∧ zCk d G b15 ∧ ((E b15 6) ≠ 0 → zin (v3 + 1) ∧ Z zm_X11_pick kz Q 26 [(0, zR 0), (1, zI v1), (2, zO o2), (3, zI ((v3 + 1)))] [] (d, G, E)) ∧ (¬ ((E b15 6) ≠ 0) → (o2 = none → zin (v3 + 1) ∧ Z zm_X11_pick kz Q 26 [(0, zR 0), (1, zI v1), (2, zR b15), (3, zI ((v3 + 1)))] [] (d, G, E)) ∧ (¬ (o2 = none) → (v1 ≠ 0 → zin (v3 + 1) ∧ Z zm_X11_pick kz Q 26 [(0, zR 0), (1, zI v1), (2, zO o2), (3, zI ((v3 + 1)))] [] (d, G, E)) ∧ (¬ (v1 ≠ 0) → ∃ b24, o2 = some b24 ∧ zCk d G b24 ∧ ((E b24 8) ≤ (E b15 8) → zin (v3 + 1) ∧ Z zm_X11_pick kz Q 26 [(0, zR 0), (1, zI v1), (2, zR b24), (3, zI ((v3 + 1)))] [] (d, G, E)) ∧ (¬ ((E b24 8) ≤ (E b15 8)) → zin (v3 + 1) ∧ Z zm_X11_pick kz Q 26 [(0, zR 0), (1, zI v1), (2, zR b15), (3, zI ((v3 + 1)))] [] (d, G, E)))))))) : Z zm_X11_pick kz Q 26 [(0, zR 0), (1, zI v1), (2, zO o2), (3, zI v3)] [] (d, G, E) := by
  refine Z.iload_n (k := 3) dX11_pick_26 rfl ?_
  refine Z.aload_n (k := 0) dX11_pick_27 rfl ?_
  refine Y.getR (o := some 5) 1 dX11_pick_28 zl_X11_19 (rfl) (by decide) rfl (zX_0_0 hX).2.1 (zX_0_1 hX).1 ?_
  refine Y.getI 4 dX11_pick_31 zl_X11_124 (rfl) (by decide) rfl (zX_0_1 hX).2.2 ?_
  refine Z.icmp_ge 89 dX11_pick_34 rfl ⟨fun c1 => ?_, fun c1 => ?_⟩
  · replace K := K.1 c1
    refine Z.aload_n (k := 2) dX11_pick_89 rfl ?_
    refine Z.ifnonnull 101 dX11_pick_90 rfl ⟨fun c2 => ?_, fun c2 => ?_⟩
    · replace K := K.1 c2
      refine Z.aload_n (k := 2) dX11_pick_101 rfl ?_
      refine Z.iconst (n := 1) dX11_pick_102 ⟨by decide, by decide⟩ ?_
      obtain ⟨b3, e4, hc5, K⟩ := K
      rw [e4]
      refine Y.putI 6 dX11_pick_103 zw_X11_185 (fun q => by cases q) (congrArg Prod.fst hc5.1) rfl hc5.2.1 (Or.inl rfl) ?_
      generalize eE6 : zuE E b3 6 1 = E6
      replace K := K E6 eE6.symm
      refine Z.aload_n (k := 0) dX11_pick_106 rfl ?_
      refine Z.dup_i dX11_pick_107 (fun _ => rfl) ?_
      refine Y.getI 16 dX11_pick_108 zl_X11_109 (rfl) (by decide) rfl (zX_0_0 hX).2.1 ?_
      refine Z.iconst (n := 1) dX11_pick_111 ⟨by decide, by decide⟩ ?_
      obtain ⟨z7, K⟩ := K
      refine Z.iadd dX11_pick_112 z7 ?_
      refine Y.putI 16 dX11_pick_113 zw_X11_109 (fun q => by cases q) (rfl) rfl (zX_0_0 hX).2.1 (Or.inl rfl) ?_
      generalize eE8 : zuE E6 0 16 (((E6 0 16) + 1)) = E8
      replace K := K E8 eE8.symm
      refine Z.aload_n (k := 2) dX11_pick_116 rfl ?_
      exact Z.aret dX11_pick_117 rfl (Or.inl ⟨_, rfl⟩) K
    · replace K := K.2 c2
      refine Z.aload_n (k := 0) dX11_pick_93 rfl ?_
      refine Z.iconst (n := 2) dX11_pick_94 ⟨by decide, by decide⟩ ?_
      refine Y.putI 15 dX11_pick_95 zw_X11_106 (fun q => by cases q) (rfl) rfl (zX_0_0 hX).2.1 (Or.inl rfl) ?_
      generalize eE9 : zuE E 0 15 2 = E9
      replace K := K E9 eE9.symm
      refine Z.goto 116 dX11_pick_98 rfl ?_
      refine Z.aload_n (k := 2) dX11_pick_116 rfl ?_
      exact Z.aret dX11_pick_117 rfl (Or.inl ⟨_, rfl⟩) K
  · replace K := K.2 c1
    refine Z.aload_n (k := 0) dX11_pick_37 rfl ?_
    refine Y.getR (o := some 5) 1 dX11_pick_38 zl_X11_19 (rfl) (by decide) rfl (zX_0_0 hX).2.1 (zX_0_1 hX).1 ?_
    refine Z.iload_n (k := 3) dX11_pick_41 rfl ?_
    obtain ⟨o10, m11, K⟩ := K
    refine Y.callV (g := zm_X7_at) (vs := [zI v3]) (st := []) dX11_pick_42 ⟨zg_X7_at.1, zg_X7_at.2.1, zg_X7_at.2.2, by decide⟩ ⟨zk_X11_170, zv_X7_at⟩ (ci := 7) (rfl) rfl ((zX_0_1 hX).2.2) rfl rfl (Nat.le_of_ble_eq_true rfl) m11 (Or.inl rfl) ?_
    show Z zm_X11_pick kz Q 45 [(0, zR 0), (1, zI v1), (2, zO o2), (3, zI v3)] [zO o10] (d, G, E)
    refine Z.astore (ls' := [(4, zO o10), (0, zR 0), (1, zI v1), (2, zO o2), (3, zI v3)]) dX11_pick_45 (by decide) rfl ?_
    refine Z.aload (k := 0) dX11_pick_47 rfl ?_
    refine Z.ifnull 83 dX11_pick_49 rfl ⟨fun c13 => ?_, fun c13 => ?_⟩
    · replace K := K.1 c13
      obtain ⟨z14, K⟩ := K
      refine Z.iinc (k := 4) (ls' := [(3, zI ((v3 + 1))), (4, zO o10), (0, zR 0), (1, zI v1), (2, zO o2)]) dX11_pick_83 rfl (by decide) z14 rfl ?_
      refine Z.goto 26 dX11_pick_86 rfl ?_
      refine Z.pick (ls' := [(0, zR 0), (1, zI v1), (2, zO o2), (3, zI ((v3 + 1)))]) [2, 3, 4, 0] rfl ?_
      exact K
    · replace K := K.2 c13
      refine Z.aload (k := 0) dX11_pick_52 rfl ?_
      obtain ⟨b15, e16, hc17, K⟩ := K
      rw [e16]
      refine Y.getI 6 dX11_pick_54 zl_X11_185 (congrArg Prod.fst hc17.1) (by decide) rfl hc17.2.1 ?_
      refine Z.if_ne 83 dX11_pick_57 rfl ⟨fun c18 => ?_, fun c18 => ?_⟩
      · replace K := K.1 c18
        obtain ⟨z19, K⟩ := K
        refine Z.iinc (k := 4) (ls' := [(3, zI ((v3 + 1))), (4, zR b15), (0, zR 0), (1, zI v1), (2, zO o2)]) dX11_pick_83 rfl (by decide) z19 rfl ?_
        refine Z.goto 26 dX11_pick_86 rfl ?_
        refine Z.pick (ls' := [(0, zR 0), (1, zI v1), (2, zO o2), (3, zI ((v3 + 1)))]) [2, 3, 4, 0] rfl ?_
        exact K
      · replace K := K.2 c18
        refine Z.aload_n (k := 3) dX11_pick_60 rfl ?_
        refine Z.ifnull 80 dX11_pick_61 rfl ⟨fun c20 => ?_, fun c20 => ?_⟩
        · replace K := K.1 c20
          refine Z.aload (k := 0) dX11_pick_80 rfl ?_
          refine Z.astore_n (ls' := [(2, zR b15), (4, zR b15), (0, zR 0), (1, zI v1), (3, zI v3)]) dX11_pick_82 (by decide) rfl ?_
          obtain ⟨z21, K⟩ := K
          refine Z.iinc (k := 4) (ls' := [(3, zI ((v3 + 1))), (2, zR b15), (4, zR b15), (0, zR 0), (1, zI v1)]) dX11_pick_83 rfl (by decide) z21 rfl ?_
          refine Z.goto 26 dX11_pick_86 rfl ?_
          refine Z.pick (ls' := [(0, zR 0), (1, zI v1), (2, zR b15), (3, zI ((v3 + 1)))]) [3, 4, 1, 0] rfl ?_
          exact K
        · replace K := K.2 c20
          refine Z.iload_n (k := 2) dX11_pick_64 rfl ?_
          refine Z.if_ne 83 dX11_pick_65 rfl ⟨fun c22 => ?_, fun c22 => ?_⟩
          · replace K := K.1 c22
            obtain ⟨z23, K⟩ := K
            refine Z.iinc (k := 4) (ls' := [(3, zI ((v3 + 1))), (4, zR b15), (0, zR 0), (1, zI v1), (2, zO o2)]) dX11_pick_83 rfl (by decide) z23 rfl ?_
            refine Z.goto 26 dX11_pick_86 rfl ?_
            refine Z.pick (ls' := [(0, zR 0), (1, zI v1), (2, zO o2), (3, zI ((v3 + 1)))]) [2, 3, 4, 0] rfl ?_
            exact K
          · replace K := K.2 c22
            refine Z.aload (k := 0) dX11_pick_68 rfl ?_
            refine Y.getI 8 dX11_pick_70 zl_X11_182 (congrArg Prod.fst hc17.1) (by decide) rfl hc17.2.1 ?_
            refine Z.aload_n (k := 3) dX11_pick_73 rfl ?_
            obtain ⟨b24, e25, hc26, K⟩ := K
            rw [e25]
            refine Y.getI 8 dX11_pick_74 zl_X11_182 (congrArg Prod.fst hc26.1) (by decide) rfl hc26.2.1 ?_
            refine Z.icmp_ge 83 dX11_pick_77 rfl ⟨fun c27 => ?_, fun c27 => ?_⟩
            · replace K := K.1 c27
              obtain ⟨z28, K⟩ := K
              refine Z.iinc (k := 4) (ls' := [(3, zI ((v3 + 1))), (4, zR b15), (0, zR 0), (1, zI v1), (2, zR b24)]) dX11_pick_83 rfl (by decide) z28 rfl ?_
              refine Z.goto 26 dX11_pick_86 rfl ?_
              refine Z.pick (ls' := [(0, zR 0), (1, zI v1), (2, zR b24), (3, zI ((v3 + 1)))]) [2, 3, 4, 0] rfl ?_
              exact K
            · replace K := K.2 c27
              refine Z.aload (k := 0) dX11_pick_80 rfl ?_
              refine Z.astore_n (ls' := [(2, zR b15), (4, zR b15), (0, zR 0), (1, zI v1), (3, zI v3)]) dX11_pick_82 (by decide) rfl ?_
              obtain ⟨z29, K⟩ := K
              refine Z.iinc (k := 4) (ls' := [(3, zI ((v3 + 1))), (2, zR b15), (4, zR b15), (0, zR 0), (1, zI v1)]) dX11_pick_83 rfl (by decide) z29 rfl ?_
              refine Z.goto 26 dX11_pick_86 rfl ?_
              refine Z.pick (ls' := [(0, zR 0), (1, zI v1), (2, zR b15), (3, zI ((v3 + 1)))]) [3, 4, 1, 0] rfl ?_
              exact K
set_option maxRecDepth 20000 in
theorem X11_hasFuel_0 {kz : Nat × Nat} {Q : Option zV → zH → Prop} {d : List Nat} {G : Nat → Int → Option Nat} {E : Nat → Int → Int}  (hX : zK zXt d G) (K : zin ((E 0 19) + (E 0 20)) ∧ ((E 0 14) ≤ ((E 0 19) + (E 0 20)) → ∀ E3, E3 = zuE E 0 15 3 → Q (some (zI 0)) (d, G, E3)) ∧ (¬ ((E 0 14) ≤ ((E 0 19) + (E 0 20))) → Q (some (zI 1)) (d, G, E))) : Z zm_X11_hasFuel kz Q 0 [(0, zR 0)] [] (d, G, E) := by
  refine Z.aload_n (k := 0) dX11_hasFuel_0 rfl ?_
  refine Y.getI 14 dX11_hasFuel_1 zl_X11_103 (rfl) (by decide) rfl (zX_0_0 hX).2.1 ?_
  refine Z.aload_n (k := 0) dX11_hasFuel_4 rfl ?_
  refine Y.getI 19 dX11_hasFuel_5 zl_X11_118 (rfl) (by decide) rfl (zX_0_0 hX).2.1 ?_
  refine Z.aload_n (k := 0) dX11_hasFuel_8 rfl ?_
  refine Y.getI 20 dX11_hasFuel_9 zl_X11_121 (rfl) (by decide) rfl (zX_0_0 hX).2.1 ?_
  obtain ⟨z1, K⟩ := K
  refine Z.iadd dX11_hasFuel_12 z1 ?_
  refine Z.icmp_le 18 dX11_hasFuel_13 rfl ⟨fun c2 => ?_, fun c2 => ?_⟩
  · replace K := K.1 c2
    refine Z.aload_n (k := 0) dX11_hasFuel_18 rfl ?_
    refine Z.iconst (n := 3) dX11_hasFuel_19 ⟨by decide, by decide⟩ ?_
    refine Y.putI 15 dX11_hasFuel_20 zw_X11_106 (fun q => by cases q) (rfl) rfl (zX_0_0 hX).2.1 (Or.inl rfl) ?_
    generalize eE3 : zuE E 0 15 3 = E3
    replace K := K E3 eE3.symm
    refine Z.iconst (n := 0) dX11_hasFuel_23 ⟨by decide, by decide⟩ ?_
    exact Z.iret (ty := .boolean) dX11_hasFuel_24 rfl rfl K
  · replace K := K.2 c2
    refine Z.iconst (n := 1) dX11_hasFuel_16 ⟨by decide, by decide⟩ ?_
    exact Z.iret (ty := .boolean) dX11_hasFuel_17 rfl rfl K
set_option maxRecDepth 20000 in
theorem X11_run_0 {kz : Nat × Nat} {Q : Option zV → zH → Prop} {d : List Nat} {G : Nat → Int → Option Nat} {E : Nat → Int → Int} {v1 : Int} (hX : zK zXt d G) (K : (v1 < 1 → Q (some (zI ((-2)))) (d, G, E)) ∧ (¬ (v1 < 1) → (v1 ≤ 200 → Z zm_X11_run kz Q 17 [(0, zR 0), (1, zI v1), (2, zI 0)] [] (d, G, E)) ∧ (¬ (v1 ≤ 200) → Q (some (zI ((-2)))) (d, G, E)))) : Z zm_X11_run kz Q 0 [(0, zR 0), (1, zI v1)] [] (d, G, E) := by
  refine Z.iload_n (k := 1) dX11_run_0 rfl ?_
  refine Z.iconst (n := 1) dX11_run_1 ⟨by decide, by decide⟩ ?_
  refine Z.icmp_lt 12 dX11_run_2 rfl ⟨fun c1 => ?_, fun c1 => ?_⟩
  · replace K := K.1 c1
    refine Z.bipush (n := -2) dX11_run_12 ⟨by decide, by decide⟩ (by decide) ?_
    exact Z.iret (ty := .int) dX11_run_14 rfl rfl K
  · replace K := K.2 c1
    refine Z.iload_n (k := 1) dX11_run_5 rfl ?_
    refine Z.sipush (n := 200) dX11_run_6 ⟨by decide, by decide⟩ (by decide) ?_
    refine Z.icmp_le 15 dX11_run_9 rfl ⟨fun c2 => ?_, fun c2 => ?_⟩
    · replace K := K.1 c2
      refine Z.iconst (n := 0) dX11_run_15 ⟨by decide, by decide⟩ ?_
      refine Z.istore_n (ls' := [(2, zI 0), (0, zR 0), (1, zI v1)]) dX11_run_16 (by decide) rfl ?_
      refine Z.pick (ls' := [(0, zR 0), (1, zI v1), (2, zI 0)]) [1, 2, 0] rfl ?_
      exact K
    · replace K := K.2 c2
      refine Z.bipush (n := -2) dX11_run_12 ⟨by decide, by decide⟩ (by decide) ?_
      exact Z.iret (ty := .int) dX11_run_14 rfl rfl K
set_option maxRecDepth 20000 in
theorem X11_run_17 {kz : Nat × Nat} {Q : Option zV → zH → Prop} {d : List Nat} {G : Nat → Int → Option Nat} {E : Nat → Int → Int} {v1 : Int} {v2 : Int} (hX : zK zXt d G) (K : (v1 ≤ v2 → Q (some (zI ((E 0 15)))) (d, G, E)) ∧ (¬ (v1 ≤ v2) → ((E 0 15) ≠ 0 → Q (some (zI ((E 0 15)))) (d, G, E)) ∧ (¬ ((E 0 15) ≠ 0) → ∃ o3 E4, zM zm_X11_pick [zR 0] (d, G, E) (some (zO o3)) (d, G, E4) ∧ ∃ G7 E8, zM zm_X0_begin [zR 42, zO o3] (d, G, E4) none (d, G7, E8) ∧ zK zXt d G7 ∧ Z zm_X11_run kz Q 42 [(0, zR 0), (1, zI v1), (2, zI v2), (3, zI 0)] [] (d, G7, E8)))) : Z zm_X11_run kz Q 17 [(0, zR 0), (1, zI v1), (2, zI v2)] [] (d, G, E) := by
  refine Z.iload_n (k := 2) dX11_run_17 rfl ?_
  refine Z.iload_n (k := 1) dX11_run_18 rfl ?_
  refine Z.icmp_ge 140 dX11_run_19 rfl ⟨fun c1 => ?_, fun c1 => ?_⟩
  · replace K := K.1 c1
    refine Z.aload_n (k := 0) dX11_run_140 rfl ?_
    refine Y.getI 15 dX11_run_141 zl_X11_106 (rfl) (by decide) rfl (zX_0_0 hX).2.1 ?_
    exact Z.iret (ty := .int) dX11_run_144 rfl rfl K
  · replace K := K.2 c1
    refine Z.aload_n (k := 0) dX11_run_22 rfl ?_
    refine Y.getI 15 dX11_run_23 zl_X11_106 (rfl) (by decide) rfl (zX_0_0 hX).2.1 ?_
    refine Z.if_ne 140 dX11_run_26 rfl ⟨fun c2 => ?_, fun c2 => ?_⟩
    · replace K := K.1 c2
      refine Z.aload_n (k := 0) dX11_run_140 rfl ?_
      refine Y.getI 15 dX11_run_141 zl_X11_106 (rfl) (by decide) rfl (zX_0_0 hX).2.1 ?_
      exact Z.iret (ty := .int) dX11_run_144 rfl rfl K
    · replace K := K.2 c2
      refine Z.aload_n (k := 0) dX11_run_29 rfl ?_
      refine Y.getR (o := some 42) 11 dX11_run_30 zl_X11_92 (rfl) (by decide) rfl (zX_0_0 hX).2.1 (zX_0_11 hX).1 ?_
      refine Z.aload_n (k := 0) dX11_run_33 rfl ?_
      obtain ⟨o3, E4, m5, K⟩ := K
      refine Y.callV (g := zm_X11_pick) (vs := []) (st := [zR 42]) dX11_run_34 ⟨zg_X11_pick.1, zg_X11_pick.2.1, zg_X11_pick.2.2, by decide⟩ ⟨zk_X11_147, zv_X11_pick⟩ (ci := 11) (rfl) rfl ((zX_0_0 hX).2.1) rfl rfl (Nat.le_of_ble_eq_true rfl) m5 (Or.inl rfl) ?_
      show Z zm_X11_run kz Q 37 [(0, zR 0), (1, zI v1), (2, zI v2)] [zO o3, zR 42] (d, G, E4)
      obtain ⟨G7, E8, m9, K⟩ := K
      refine Y.callV (g := zm_X0_begin) (vs := [zO o3]) (st := []) dX11_run_37 ⟨zg_X0_begin.1, zg_X0_begin.2.1, zg_X0_begin.2.2, by decide⟩ ⟨zk_X11_151, zv_X0_begin⟩ (ci := 0) (rfl) rfl ((zX_0_11 hX).2.2) rfl rfl (Nat.le_of_ble_eq_true rfl) m9 (Or.inl rfl) ?_
      show Z zm_X11_run kz Q 40 [(0, zR 0), (1, zI v1), (2, zI v2)] [] (d, G7, E8)
      obtain ⟨hX11, K⟩ := K
      refine Z.iconst (n := 0) dX11_run_40 ⟨by decide, by decide⟩ ?_
      refine Z.istore_n (ls' := [(3, zI 0), (0, zR 0), (1, zI v1), (2, zI v2)]) dX11_run_41 (by decide) rfl ?_
      refine Z.pick (ls' := [(0, zR 0), (1, zI v1), (2, zI v2), (3, zI 0)]) [1, 2, 3, 0] rfl ?_
      exact K
set_option maxRecDepth 20000 in
theorem X11_run_42 {kz : Nat × Nat} {Q : Option zV → zH → Prop} {d : List Nat} {G : Nat → Int → Option Nat} {E : Nat → Int → Int} {v1 : Int} {v2 : Int} {v3 : Int} (hX : zK zXt d G) (K : ((1000000) ≤ v3 → zin (v2 + 1) ∧ Z zm_X11_run kz Q 17 [(0, zR 0), (1, zI v1), (2, zI ((v2 + 1)))] [] (d, G, E)) ∧ (¬ ((1000000) ≤ v3) → ((E 0 15) ≠ 0 → zin (v2 + 1) ∧ Z zm_X11_run kz Q 17 [(0, zR 0), (1, zI v1), (2, zI ((v2 + 1)))] [] (d, G, E)) ∧ (¬ ((E 0 15) ≠ 0) → ∃ x5 G6 E7, zM zm_X0_next [zR 42] (d, G, E) (some (zI x5)) (d, G6, E7) ∧ zK zXt d G6 ∧ (x5 = 0 → zin (v2 + 1) ∧ Z zm_X11_run kz Q 17 [(0, zR 0), (1, zI v1), (2, zI ((v2 + 1)))] [] (d, G6, E7)) ∧ (¬ (x5 = 0) → ∃ x13 E14, zM zm_X3_make [zR 41, zR 43, zI ((E7 5 4)), zR 10] (d, G6, E7) (some (zI x13)) (d, G6, E14) ∧ (x13 = 0 → zin (v3 + 1) ∧ Z zm_X11_run kz Q 42 [(0, zR 0), (1, zI v1), (2, zI v2), (3, zI ((v3 + 1)))] [] (d, G6, E14)) ∧ (¬ (x13 = 0) → ∃ x19 E20, zM zm_X11_hasFuel [zR 0] (d, G6, E14) (some (zI x19)) (d, G6, E20) ∧ (x19 = 0 → zin (v3 + 1) ∧ Z zm_X11_run kz Q 42 [(0, zR 0), (1, zI v1), (2, zI v2), (3, zI ((v3 + 1)))] [] (d, G6, E20)) ∧ (¬ (x19 = 0) → zin ((E20 0 19) + 1) ∧ ∀ E26, E26 = zuE E20 0 19 (((E20 0 19) + 1)) → ∃ x27 d28 G29 E30, zM zm_X11_settle [zR 0, zI x13, zR 43] (d, G6, E26) (some (zI x27)) (d28, G29, E30) ∧ (d28 = d ∨ d28.length ≤ kz.1 ∧ zsl d28 ≤ kz.2) ∧ zK zXt d28 G29 ∧ zin (v3 + 1) ∧ Z zm_X11_run kz Q 42 [(0, zR 0), (1, zI v1), (2, zI v2), (3, zI ((v3 + 1)))] [] (d28, G29, E30))))))) : Z zm_X11_run kz Q 42 [(0, zR 0), (1, zI v1), (2, zI v2), (3, zI v3)] [] (d, G, E) := by
  refine Z.iload_n (k := 3) dX11_run_42 rfl ?_
  refine Z.ldc (n := 1000000) dX11_run_43 ⟨by decide, by decide⟩ zq_X11_155 ?_
  refine Z.icmp_ge 134 dX11_run_45 rfl ⟨fun c1 => ?_, fun c1 => ?_⟩
  · replace K := K.1 c1
    obtain ⟨z2, K⟩ := K
    refine Z.iinc (k := 2) (ls' := [(2, zI ((v2 + 1))), (0, zR 0), (1, zI v1), (3, zI v3)]) dX11_run_134 rfl (by decide) z2 rfl ?_
    refine Z.goto 17 dX11_run_137 rfl ?_
    refine Z.pick (ls' := [(0, zR 0), (1, zI v1), (2, zI ((v2 + 1)))]) [1, 2, 0] rfl ?_
    exact K
  · replace K := K.2 c1
    refine Z.aload_n (k := 0) dX11_run_48 rfl ?_
    refine Y.getI 15 dX11_run_49 zl_X11_106 (rfl) (by decide) rfl (zX_0_0 hX).2.1 ?_
    refine Z.if_ne 134 dX11_run_52 rfl ⟨fun c3 => ?_, fun c3 => ?_⟩
    · replace K := K.1 c3
      obtain ⟨z4, K⟩ := K
      refine Z.iinc (k := 2) (ls' := [(2, zI ((v2 + 1))), (0, zR 0), (1, zI v1), (3, zI v3)]) dX11_run_134 rfl (by decide) z4 rfl ?_
      refine Z.goto 17 dX11_run_137 rfl ?_
      refine Z.pick (ls' := [(0, zR 0), (1, zI v1), (2, zI ((v2 + 1)))]) [1, 2, 0] rfl ?_
      exact K
    · replace K := K.2 c3
      refine Z.aload_n (k := 0) dX11_run_55 rfl ?_
      refine Y.getR (o := some 42) 11 dX11_run_56 zl_X11_92 (rfl) (by decide) rfl (zX_0_0 hX).2.1 (zX_0_11 hX).1 ?_
      obtain ⟨x5, G6, E7, m8, K⟩ := K
      refine Y.callV (g := zm_X0_next) (vs := []) (st := []) dX11_run_59 ⟨zg_X0_next.1, zg_X0_next.2.1, zg_X0_next.2.2, by decide⟩ ⟨zk_X11_156, zv_X0_next⟩ (ci := 0) (rfl) rfl ((zX_0_11 hX).2.2) rfl rfl (Nat.le_of_ble_eq_true rfl) m8 (Or.inl rfl) ?_
      show Z zm_X11_run kz Q 62 [(0, zR 0), (1, zI v1), (2, zI v2), (3, zI v3)] [zI x5] (d, G6, E7)
      obtain ⟨hX10, K⟩ := K
      refine Z.if_eq 134 dX11_run_62 rfl ⟨fun c11 => ?_, fun c11 => ?_⟩
      · replace K := K.1 c11
        obtain ⟨z12, K⟩ := K
        refine Z.iinc (k := 2) (ls' := [(2, zI ((v2 + 1))), (0, zR 0), (1, zI v1), (3, zI v3)]) dX11_run_134 rfl (by decide) z12 rfl ?_
        refine Z.goto 17 dX11_run_137 rfl ?_
        refine Z.pick (ls' := [(0, zR 0), (1, zI v1), (2, zI ((v2 + 1)))]) [1, 2, 0] rfl ?_
        exact K
      · replace K := K.2 c11
        refine Z.aload_n (k := 0) dX11_run_65 rfl ?_
        refine Y.getR (o := some 41) 10 dX11_run_66 zl_X11_83 (rfl) (by decide) rfl (zX_0_0 hX10).2.1 (zX_0_10 hX10).1 ?_
        refine Z.aload_n (k := 0) dX11_run_69 rfl ?_
        refine Y.getR (o := some 42) 11 dX11_run_70 zl_X11_92 (rfl) (by decide) rfl (zX_0_0 hX10).2.1 (zX_0_11 hX10).1 ?_
        refine Y.getR (o := some 43) 2 dX11_run_73 zl_X11_160 (rfl) (by decide) rfl (zX_0_11 hX10).2.2 (zX_42_2 hX10).1 ?_
        refine Z.aload_n (k := 0) dX11_run_76 rfl ?_
        refine Y.getR (o := some 5) 1 dX11_run_77 zl_X11_19 (rfl) (by decide) rfl (zX_0_0 hX10).2.1 (zX_0_1 hX10).1 ?_
        refine Y.getI 4 dX11_run_80 zl_X11_124 (rfl) (by decide) rfl (zX_0_1 hX10).2.2 ?_
        refine Z.aload_n (k := 0) dX11_run_83 rfl ?_
        refine Y.getR (o := some 10) 3 dX11_run_84 zl_X11_30 (rfl) (by decide) rfl (zX_0_0 hX10).2.1 (zX_0_3 hX10).1 ?_
        obtain ⟨x13, E14, m15, K⟩ := K
        refine Y.callV (g := zm_X3_make) (vs := [zR 43, zI ((E7 5 4)), zR 10]) (st := []) dX11_run_87 ⟨zg_X3_make.1, zg_X3_make.2.1, zg_X3_make.2.2, by decide⟩ ⟨zk_X11_163, zv_X3_make⟩ (ci := 3) (rfl) rfl ((zX_0_10 hX10).2.2) rfl rfl (Nat.le_of_ble_eq_true rfl) m15 (Or.inl rfl) ?_
        show Z zm_X11_run kz Q 90 [(0, zR 0), (1, zI v1), (2, zI v2), (3, zI v3)] [zI x13] (d, G6, E14)
        refine Z.istore (ls' := [(4, zI x13), (0, zR 0), (1, zI v1), (2, zI v2), (3, zI v3)]) dX11_run_90 (by decide) rfl ?_
        refine Z.iload (k := 0) dX11_run_92 rfl ?_
        refine Z.if_eq 128 dX11_run_94 rfl ⟨fun c17 => ?_, fun c17 => ?_⟩
        · replace K := K.1 c17
          obtain ⟨z18, K⟩ := K
          refine Z.iinc (k := 4) (ls' := [(3, zI ((v3 + 1))), (4, zI x13), (0, zR 0), (1, zI v1), (2, zI v2)]) dX11_run_128 rfl (by decide) z18 rfl ?_
          refine Z.goto 42 dX11_run_131 rfl ?_
          refine Z.pick (ls' := [(0, zR 0), (1, zI v1), (2, zI v2), (3, zI ((v3 + 1)))]) [2, 3, 4, 0] rfl ?_
          exact K
        · replace K := K.2 c17
          refine Z.aload_n (k := 1) dX11_run_97 rfl ?_
          obtain ⟨x19, E20, m21, K⟩ := K
          refine Y.callV (g := zm_X11_hasFuel) (vs := []) (st := []) dX11_run_98 ⟨zg_X11_hasFuel.1, zg_X11_hasFuel.2.1, zg_X11_hasFuel.2.2, by decide⟩ ⟨zk_X11_167, zv_X11_hasFuel⟩ (ci := 11) (rfl) rfl ((zX_0_0 hX10).2.1) rfl rfl (Nat.le_of_ble_eq_true rfl) m21 (Or.inl rfl) ?_
          show Z zm_X11_run kz Q 101 [(4, zI x13), (0, zR 0), (1, zI v1), (2, zI v2), (3, zI v3)] [zI x19] (d, G6, E20)
          refine Z.if_eq 128 dX11_run_101 rfl ⟨fun c23 => ?_, fun c23 => ?_⟩
          · replace K := K.1 c23
            obtain ⟨z24, K⟩ := K
            refine Z.iinc (k := 4) (ls' := [(3, zI ((v3 + 1))), (4, zI x13), (0, zR 0), (1, zI v1), (2, zI v2)]) dX11_run_128 rfl (by decide) z24 rfl ?_
            refine Z.goto 42 dX11_run_131 rfl ?_
            refine Z.pick (ls' := [(0, zR 0), (1, zI v1), (2, zI v2), (3, zI ((v3 + 1)))]) [2, 3, 4, 0] rfl ?_
            exact K
          · replace K := K.2 c23
            refine Z.aload_n (k := 1) dX11_run_104 rfl ?_
            refine Z.dup_i dX11_run_105 (fun _ => rfl) ?_
            refine Y.getI 19 dX11_run_106 zl_X11_118 (rfl) (by decide) rfl (zX_0_0 hX10).2.1 ?_
            refine Z.iconst (n := 1) dX11_run_109 ⟨by decide, by decide⟩ ?_
            obtain ⟨z25, K⟩ := K
            refine Z.iadd dX11_run_110 z25 ?_
            refine Y.putI 19 dX11_run_111 zw_X11_118 (fun q => by cases q) (rfl) rfl (zX_0_0 hX10).2.1 (Or.inl rfl) ?_
            generalize eE26 : zuE E20 0 19 (((E20 0 19) + 1)) = E26
            replace K := K E26 eE26.symm
            refine Z.aload_n (k := 1) dX11_run_114 rfl ?_
            refine Z.iload (k := 0) dX11_run_115 rfl ?_
            refine Z.aload_n (k := 1) dX11_run_117 rfl ?_
            refine Y.getR (o := some 42) 11 dX11_run_118 zl_X11_92 (rfl) (by decide) rfl (zX_0_0 hX10).2.1 (zX_0_11 hX10).1 ?_
            refine Y.getR (o := some 43) 2 dX11_run_121 zl_X11_160 (rfl) (by decide) rfl (zX_0_11 hX10).2.2 (zX_42_2 hX10).1 ?_
            obtain ⟨x27, d28, G29, E30, m31, z32, K⟩ := K
            refine Y.callV (g := zm_X11_settle) (vs := [zI x13, zR 43]) (st := []) dX11_run_124 ⟨zg_X11_settle.1, zg_X11_settle.2.1, zg_X11_settle.2.2, by decide⟩ ⟨zk_X11_143, zv_X11_settle⟩ (ci := 11) (rfl) rfl ((zX_0_0 hX10).2.1) rfl rfl (Nat.le_of_ble_eq_true rfl) m31 z32 ?_
            show Z zm_X11_run kz Q 127 [(4, zI x13), (0, zR 0), (1, zI v1), (2, zI v2), (3, zI v3)] [zI x27] (d28, G29, E30)
            obtain ⟨hX33, K⟩ := K
            refine Z.pop_i dX11_run_127 (fun _ => rfl) ?_
            obtain ⟨z34, K⟩ := K
            refine Z.iinc (k := 4) (ls' := [(3, zI ((v3 + 1))), (4, zI x13), (0, zR 0), (1, zI v1), (2, zI v2)]) dX11_run_128 rfl (by decide) z34 rfl ?_
            refine Z.goto 42 dX11_run_131 rfl ?_
            refine Z.pick (ls' := [(0, zR 0), (1, zI v1), (2, zI v2), (3, zI ((v3 + 1)))]) [2, 3, 4, 0] rfl ?_
            exact K
set_option maxRecDepth 20000 in
theorem X11_clear_0 {kz : Nat × Nat} {Q : Option zV → zH → Prop} {d : List Nat} {G : Nat → Int → Option Nat} {E : Nat → Int → Int}  (hX : zK zXt d G) (K : ∀ E1, E1 = zuE E 5 4 0 → ∀ E2, E2 = zuE E1 0 15 0 → ∀ E3, E3 = zuE E2 0 16 0 → Q (some (zI ((E 5 4)))) (d, G, E3)) : Z zm_X11_clear kz Q 0 [(0, zR 0)] [] (d, G, E) := by
  refine Z.aload_n (k := 0) dX11_clear_0 rfl ?_
  refine Y.getR (o := some 5) 1 dX11_clear_1 zl_X11_19 (rfl) (by decide) rfl (zX_0_0 hX).2.1 (zX_0_1 hX).1 ?_
  refine Y.getI 4 dX11_clear_4 zl_X11_124 (rfl) (by decide) rfl (zX_0_1 hX).2.2 ?_
  refine Z.istore_n (ls' := [(1, zI ((E 5 4))), (0, zR 0)]) dX11_clear_7 (by decide) rfl ?_
  refine Z.aload_n (k := 1) dX11_clear_8 rfl ?_
  refine Y.getR (o := some 5) 1 dX11_clear_9 zl_X11_19 (rfl) (by decide) rfl (zX_0_0 hX).2.1 (zX_0_1 hX).1 ?_
  refine Z.iconst (n := 0) dX11_clear_12 ⟨by decide, by decide⟩ ?_
  refine Y.putI 4 dX11_clear_13 zw_X11_124 (fun q => by cases q) (rfl) rfl (zX_0_1 hX).2.2 (Or.inl rfl) ?_
  generalize eE1 : zuE E 5 4 0 = E1
  replace K := K E1 eE1.symm
  refine Z.aload_n (k := 1) dX11_clear_16 rfl ?_
  refine Z.iconst (n := 0) dX11_clear_17 ⟨by decide, by decide⟩ ?_
  refine Y.putI 15 dX11_clear_18 zw_X11_106 (fun q => by cases q) (rfl) rfl (zX_0_0 hX).2.1 (Or.inl rfl) ?_
  generalize eE2 : zuE E1 0 15 0 = E2
  replace K := K E2 eE2.symm
  refine Z.aload_n (k := 1) dX11_clear_21 rfl ?_
  refine Z.iconst (n := 0) dX11_clear_22 ⟨by decide, by decide⟩ ?_
  refine Y.putI 16 dX11_clear_23 zw_X11_109 (fun q => by cases q) (rfl) rfl (zX_0_0 hX).2.1 (Or.inl rfl) ?_
  generalize eE3 : zuE E2 0 16 0 = E3
  replace K := K E3 eE3.symm
  refine Z.iload_n (k := 0) dX11_clear_26 rfl ?_
  exact Z.iret (ty := .int) dX11_clear_27 rfl rfl K
set_option maxRecDepth 20000 in
theorem X11_claim_0 {kz : Nat × Nat} {Q : Option zV → zH → Prop} {d : List Nat} {G : Nat → Int → Option Nat} {E : Nat → Int → Int} {v1 : Int} {v2 : Int} (hX : zK zXt d G) (K : ∃ o1, zM zm_X7_at [zR 5, zI v1] (d, G, E) (some (zO o1)) (d, G, E) ∧ (o1 ≠ none → (v2 = 0 → ∃ b6, o1 = some b6 ∧ zCk d G b6 ∧ Q (some (zI ((E (b6 + 1) 3)))) (d, G, E)) ∧ (v2 = 1 → ∃ b10, o1 = some b10 ∧ zCk d G b10 ∧ Q (some (zI ((E b10 8)))) (d, G, E)) ∧ (v2 = 2 → ∃ b14, o1 = some b14 ∧ zCk d G b14 ∧ Q (some (zI ((E b14 6)))) (d, G, E)) ∧ (v2 = 3 → ∃ b18, o1 = some b18 ∧ zCk d G b18 ∧ Q (some (zI ((E b18 7)))) (d, G, E)) ∧ (v2 = 4 → ∃ b22, o1 = some b22 ∧ zCk d G b22 ∧ Q (some (zI ((E b22 9)))) (d, G, E)) ∧ (v2 = 5 → ∃ b26, o1 = some b26 ∧ zCk d G b26 ∧ Q (some (zI ((E b26 10)))) (d, G, E)) ∧ ((v2 < 0 ∨ 5 < v2) → Q (some (zI ((-2)))) (d, G, E))) ∧ (¬ (o1 ≠ none) → Q (some (zI ((-2)))) (d, G, E))) : Z zm_X11_claim kz Q 0 [(0, zR 0), (1, zI v1), (2, zI v2)] [] (d, G, E) := by
  refine Z.aload_n (k := 0) dX11_claim_0 rfl ?_
  refine Y.getR (o := some 5) 1 dX11_claim_1 zl_X11_19 (rfl) (by decide) rfl (zX_0_0 hX).2.1 (zX_0_1 hX).1 ?_
  refine Z.iload_n (k := 1) dX11_claim_4 rfl ?_
  obtain ⟨o1, m2, K⟩ := K
  refine Y.callV (g := zm_X7_at) (vs := [zI v1]) (st := []) dX11_claim_5 ⟨zg_X7_at.1, zg_X7_at.2.1, zg_X7_at.2.2, by decide⟩ ⟨zk_X11_170, zv_X7_at⟩ (ci := 7) (rfl) rfl ((zX_0_1 hX).2.2) rfl rfl (Nat.le_of_ble_eq_true rfl) m2 (Or.inl rfl) ?_
  show Z zm_X11_claim kz Q 8 [(0, zR 0), (1, zI v1), (2, zI v2)] [zO o1] (d, G, E)
  refine Z.astore_n (ls' := [(3, zO o1), (0, zR 0), (1, zI v1), (2, zI v2)]) dX11_claim_8 (by decide) rfl ?_
  refine Z.aload_n (k := 0) dX11_claim_9 rfl ?_
  refine Z.ifnonnull 16 dX11_claim_10 rfl ⟨fun c4 => ?_, fun c4 => ?_⟩
  · replace K := K.1 c4
    refine Z.iload_n (k := 3) dX11_claim_16 rfl ?_
    by_cases c5 : v2 = 0
    · replace K := K.1 c5
      refine Z.tableIn (off := 39) 56 dX11_claim_17 (by omega) (by omega) (by rw [c5]; rfl) rfl ?_
      refine Z.aload_n (k := 0) dX11_claim_56 rfl ?_
      obtain ⟨b6, e7, hc8, K⟩ := K
      rw [e7]
      refine Y.getR (o := some ((b6 + 1))) 0 dX11_claim_57 zl_X11_174 (congrArg Prod.fst hc8.1) (by decide) rfl hc8.2.1 hc8.2.2.2.1 ?_
      refine Y.getI 3 dX11_claim_60 zl_X11_179 (congrArg Prod.fst hc8.2.2.1.1) (by decide) rfl hc8.2.2.1.2.2.2.2.1 ?_
      exact Z.iret (ty := .int) dX11_claim_63 rfl rfl K
    replace K := K.2
    by_cases c9 : v2 = 1
    · replace K := K.1 c9
      refine Z.tableIn (off := 47) 64 dX11_claim_17 (by omega) (by omega) (by rw [c9]; rfl) rfl ?_
      refine Z.aload_n (k := 0) dX11_claim_64 rfl ?_
      obtain ⟨b10, e11, hc12, K⟩ := K
      rw [e11]
      refine Y.getI 8 dX11_claim_65 zl_X11_182 (congrArg Prod.fst hc12.1) (by decide) rfl hc12.2.1 ?_
      exact Z.iret (ty := .int) dX11_claim_68 rfl rfl K
    replace K := K.2
    by_cases c13 : v2 = 2
    · replace K := K.1 c13
      refine Z.tableIn (off := 52) 69 dX11_claim_17 (by omega) (by omega) (by rw [c13]; rfl) rfl ?_
      refine Z.aload_n (k := 0) dX11_claim_69 rfl ?_
      obtain ⟨b14, e15, hc16, K⟩ := K
      rw [e15]
      refine Y.getI 6 dX11_claim_70 zl_X11_185 (congrArg Prod.fst hc16.1) (by decide) rfl hc16.2.1 ?_
      exact Z.iret (ty := .int) dX11_claim_73 rfl rfl K
    replace K := K.2
    by_cases c17 : v2 = 3
    · replace K := K.1 c17
      refine Z.tableIn (off := 57) 74 dX11_claim_17 (by omega) (by omega) (by rw [c17]; rfl) rfl ?_
      refine Z.aload_n (k := 0) dX11_claim_74 rfl ?_
      obtain ⟨b18, e19, hc20, K⟩ := K
      rw [e19]
      refine Y.getI 7 dX11_claim_75 zl_X11_188 (congrArg Prod.fst hc20.1) (by decide) rfl hc20.2.1 ?_
      exact Z.iret (ty := .int) dX11_claim_78 rfl rfl K
    replace K := K.2
    by_cases c21 : v2 = 4
    · replace K := K.1 c21
      refine Z.tableIn (off := 62) 79 dX11_claim_17 (by omega) (by omega) (by rw [c21]; rfl) rfl ?_
      refine Z.aload_n (k := 0) dX11_claim_79 rfl ?_
      obtain ⟨b22, e23, hc24, K⟩ := K
      rw [e23]
      refine Y.getI 9 dX11_claim_80 zl_X11_191 (congrArg Prod.fst hc24.1) (by decide) rfl hc24.2.1 ?_
      exact Z.iret (ty := .int) dX11_claim_83 rfl rfl K
    replace K := K.2
    by_cases c25 : v2 = 5
    · replace K := K.1 c25
      refine Z.tableIn (off := 67) 84 dX11_claim_17 (by omega) (by omega) (by rw [c25]; rfl) rfl ?_
      refine Z.aload_n (k := 0) dX11_claim_84 rfl ?_
      obtain ⟨b26, e27, hc28, K⟩ := K
      rw [e27]
      refine Y.getI 10 dX11_claim_85 zl_X11_194 (congrArg Prod.fst hc28.1) (by decide) rfl hc28.2.1 ?_
      exact Z.iret (ty := .int) dX11_claim_88 rfl rfl K
    replace K := K.2
    have hd0 : v2 < 0 ∨ 5 < v2 := by omega
    replace K := K hd0
    refine Z.tableOut 89 dX11_claim_17 hd0 rfl ?_
    refine Z.bipush (n := -2) dX11_claim_89 ⟨by decide, by decide⟩ (by decide) ?_
    exact Z.iret (ty := .int) dX11_claim_91 rfl rfl K
  · replace K := K.2 c4
    refine Z.bipush (n := -2) dX11_claim_13 ⟨by decide, by decide⟩ (by decide) ?_
    exact Z.iret (ty := .int) dX11_claim_15 rfl rfl K
set_option maxRecDepth 20000 in
theorem X11_literal_0 {kz : Nat × Nat} {Q : Option zV → zH → Prop} {d : List Nat} {G : Nat → Int → Option Nat} {E : Nat → Int → Int} {v1 : Int} {v2 : Int} {v3 : Int} (hX : zK zXt d G) (K : ∃ o1, zM zm_X7_at [zR 5, zI v1] (d, G, E) (some (zO o1)) (d, G, E) ∧ (o1 = none → Q (some (zI ((-2147483648)))) (d, G, E)) ∧ (¬ (o1 = none) → ∃ b5, o1 = some b5 ∧ zCk d G b5 ∧ ∃ x8, zM zm_X5_has [zR ((b5 + 1)), zI v2] (d, G, E) (some (zI x8)) (d, G, E) ∧ (x8 = 0 → Q (some (zI ((-2147483648)))) (d, G, E)) ∧ (¬ (x8 = 0) → (0 ≤ v3 → (v3 ≠ 0 → ∃ x14, zM zm_X5_length [zR ((b5 + 1)), zI v2] (d, G, E) (some (zI x14)) (d, G, E) ∧ (v3 ≠ 1 → zin (v3 - 2) ∧ (x14 ≤ (v3 - 2) → Q (some (zI ((-2147483648)))) (d, G, E)) ∧ (¬ (x14 ≤ (v3 - 2)) → ((0 : Int) ≤ v2 ∧ v2 < 7) ∧ zin ((E ((b5 + 1) + 2) v2) + v3) ∧ zin (((E ((b5 + 1) + 2) v2) + v3) - 2) ∧ ((0 : Int) ≤ (((E ((b5 + 1) + 2) v2) + v3) - 2) ∧ (((E ((b5 + 1) + 2) v2) + v3) - 2) < 180) ∧ Q (some (zI ((E ((b5 + 1) + 1) (((E ((b5 + 1) + 2) v2) + v3) - 2))))) (d, G, E))) ∧ (¬ (v3 ≠ 1) → Q (some (zI x14)) (d, G, E))) ∧ (¬ (v3 ≠ 0) → ((0 : Int) ≤ v2 ∧ v2 < 6) ∧ ((E ((b5 + 1) + 3) v2) = 0 → Q (some (zI 0)) (d, G, E)) ∧ (¬ ((E ((b5 + 1) + 3) v2) = 0) → Q (some (zI 1)) (d, G, E)))) ∧ (¬ (0 ≤ v3) → Q (some (zI ((-2147483648)))) (d, G, E))))) : Z zm_X11_literal kz Q 0 [(0, zR 0), (1, zI v1), (2, zI v2), (3, zI v3)] [] (d, G, E) := by
  refine Z.aload_n (k := 0) dX11_literal_0 rfl ?_
  refine Y.getR (o := some 5) 1 dX11_literal_1 zl_X11_19 (rfl) (by decide) rfl (zX_0_0 hX).2.1 (zX_0_1 hX).1 ?_
  refine Z.iload_n (k := 1) dX11_literal_4 rfl ?_
  obtain ⟨o1, m2, K⟩ := K
  refine Y.callV (g := zm_X7_at) (vs := [zI v1]) (st := []) dX11_literal_5 ⟨zg_X7_at.1, zg_X7_at.2.1, zg_X7_at.2.2, by decide⟩ ⟨zk_X11_170, zv_X7_at⟩ (ci := 7) (rfl) rfl ((zX_0_1 hX).2.2) rfl rfl (Nat.le_of_ble_eq_true rfl) m2 (Or.inl rfl) ?_
  show Z zm_X11_literal kz Q 8 [(0, zR 0), (1, zI v1), (2, zI v2), (3, zI v3)] [zO o1] (d, G, E)
  refine Z.astore (ls' := [(4, zO o1), (0, zR 0), (1, zI v1), (2, zI v2), (3, zI v3)]) dX11_literal_8 (by decide) rfl ?_
  refine Z.aload (k := 0) dX11_literal_10 rfl ?_
  refine Z.ifnull 31 dX11_literal_12 rfl ⟨fun c4 => ?_, fun c4 => ?_⟩
  · replace K := K.1 c4
    refine Z.ldc (n := -2147483648) dX11_literal_31 ⟨by decide, by decide⟩ zq_X11_201 ?_
    exact Z.iret (ty := .int) dX11_literal_33 rfl rfl K
  · replace K := K.2 c4
    refine Z.aload (k := 0) dX11_literal_15 rfl ?_
    obtain ⟨b5, e6, hc7, K⟩ := K
    rw [e6]
    refine Y.getR (o := some ((b5 + 1))) 0 dX11_literal_17 zl_X11_174 (congrArg Prod.fst hc7.1) (by decide) rfl hc7.2.1 hc7.2.2.2.1 ?_
    refine Z.iload_n (k := 3) dX11_literal_20 rfl ?_
    obtain ⟨x8, m9, K⟩ := K
    refine Y.callV (g := zm_X5_has) (vs := [zI v2]) (st := []) dX11_literal_21 ⟨zg_X5_has.1, zg_X5_has.2.1, zg_X5_has.2.2, by decide⟩ ⟨zk_X11_197, zv_X5_has⟩ (ci := 5) (congrArg Prod.fst hc7.2.2.1.1) rfl (hc7.2.2.1.2.2.2.2.1) rfl rfl (Nat.le_of_ble_eq_true rfl) m9 (Or.inl rfl) ?_
    show Z zm_X11_literal kz Q 24 [(4, zR b5), (0, zR 0), (1, zI v1), (2, zI v2), (3, zI v3)] [zI x8] (d, G, E)
    refine Z.if_eq 31 dX11_literal_24 rfl ⟨fun c11 => ?_, fun c11 => ?_⟩
    · replace K := K.1 c11
      refine Z.ldc (n := -2147483648) dX11_literal_31 ⟨by decide, by decide⟩ zq_X11_201 ?_
      exact Z.iret (ty := .int) dX11_literal_33 rfl rfl K
    · replace K := K.2 c11
      refine Z.iload_n (k := 4) dX11_literal_27 rfl ?_
      refine Z.if_ge 34 dX11_literal_28 rfl ⟨fun c12 => ?_, fun c12 => ?_⟩
      · replace K := K.1 c12
        refine Z.iload_n (k := 4) dX11_literal_34 rfl ?_
        refine Z.if_ne 57 dX11_literal_35 rfl ⟨fun c13 => ?_, fun c13 => ?_⟩
        · replace K := K.1 c13
          refine Z.aload (k := 0) dX11_literal_57 rfl ?_
          refine Y.getR (o := some ((b5 + 1))) 0 dX11_literal_59 zl_X11_174 (congrArg Prod.fst hc7.1) (by decide) rfl hc7.2.1 hc7.2.2.2.1 ?_
          refine Z.iload_n (k := 3) dX11_literal_62 rfl ?_
          obtain ⟨x14, m15, K⟩ := K
          refine Y.callV (g := zm_X5_length) (vs := [zI v2]) (st := []) dX11_literal_63 ⟨zg_X5_length.1, zg_X5_length.2.1, zg_X5_length.2.2, by decide⟩ ⟨zk_X11_206, zv_X5_length⟩ (ci := 5) (congrArg Prod.fst hc7.2.2.1.1) rfl (hc7.2.2.1.2.2.2.2.1) rfl rfl (Nat.le_of_ble_eq_true rfl) m15 (Or.inl rfl) ?_
          show Z zm_X11_literal kz Q 66 [(4, zR b5), (0, zR 0), (1, zI v1), (2, zI v2), (3, zI v3)] [zI x14] (d, G, E)
          refine Z.istore (ls' := [(5, zI x14), (4, zR b5), (0, zR 0), (1, zI v1), (2, zI v2), (3, zI v3)]) dX11_literal_66 (by decide) rfl ?_
          refine Z.iload_n (k := 5) dX11_literal_68 rfl ?_
          refine Z.iconst (n := 1) dX11_literal_69 ⟨by decide, by decide⟩ ?_
          refine Z.icmp_ne 76 dX11_literal_70 rfl ⟨fun c17 => ?_, fun c17 => ?_⟩
          · replace K := K.1 c17
            refine Z.iload_n (k := 5) dX11_literal_76 rfl ?_
            refine Z.iconst (n := 2) dX11_literal_77 ⟨by decide, by decide⟩ ?_
            obtain ⟨z18, K⟩ := K
            refine Z.isub dX11_literal_78 z18 ?_
            refine Z.iload (k := 0) dX11_literal_79 rfl ?_
            refine Z.icmp_ge 110 dX11_literal_81 rfl ⟨fun c19 => ?_, fun c19 => ?_⟩
            · replace K := K.1 c19
              refine Z.ldc (n := -2147483648) dX11_literal_110 ⟨by decide, by decide⟩ zq_X11_201 ?_
              exact Z.iret (ty := .int) dX11_literal_112 rfl rfl K
            · replace K := K.2 c19
              refine Z.aload (k := 1) dX11_literal_84 rfl ?_
              refine Y.getR (o := some ((b5 + 1))) 0 dX11_literal_86 zl_X11_174 (congrArg Prod.fst hc7.1) (by decide) rfl hc7.2.1 hc7.2.2.2.1 ?_
              refine Y.getR (o := some ((b5 + 1) + 1)) 0 dX11_literal_89 zl_X11_210 (congrArg Prod.fst hc7.2.2.1.1) (by decide) rfl hc7.2.2.1.2.2.2.2.1 hc7.2.2.1.2.2.2.2.2.2.2.2.1 ?_
              refine Z.aload (k := 1) dX11_literal_92 rfl ?_
              refine Y.getR (o := some ((b5 + 1))) 0 dX11_literal_94 zl_X11_174 (congrArg Prod.fst hc7.1) (by decide) rfl hc7.2.1 hc7.2.2.2.1 ?_
              refine Y.getR (o := some ((b5 + 1) + 2)) 1 dX11_literal_97 zl_X11_213 (congrArg Prod.fst hc7.2.2.1.1) (by decide) rfl hc7.2.2.1.2.2.2.2.1 hc7.2.2.1.2.2.2.2.2.2.2.2.2.1 ?_
              refine Z.iload_n (k := 4) dX11_literal_100 rfl ?_
              obtain ⟨z20, K⟩ := K
              refine Y.iald dX11_literal_101 (hc7.2.2.1.2.2.1) (hc7.2.2.1.2.2.2.2.2.2.1) z20 ?_
              refine Z.iload_n (k := 5) dX11_literal_102 rfl ?_
              obtain ⟨z21, K⟩ := K
              refine Z.iadd dX11_literal_103 z21 ?_
              refine Z.iconst (n := 2) dX11_literal_104 ⟨by decide, by decide⟩ ?_
              obtain ⟨z22, K⟩ := K
              refine Z.isub dX11_literal_105 z22 ?_
              obtain ⟨z23, K⟩ := K
              refine Y.iald dX11_literal_106 (hc7.2.2.1.2.1) (hc7.2.2.1.2.2.2.2.2.1) z23 ?_
              refine Z.goto 112 dX11_literal_107 rfl ?_
              exact Z.iret (ty := .int) dX11_literal_112 rfl rfl K
          · replace K := K.2 c17
            refine Z.iload (k := 0) dX11_literal_73 rfl ?_
            exact Z.iret (ty := .int) dX11_literal_75 rfl rfl K
        · replace K := K.2 c13
          refine Z.aload (k := 0) dX11_literal_38 rfl ?_
          refine Y.getR (o := some ((b5 + 1))) 0 dX11_literal_40 zl_X11_174 (congrArg Prod.fst hc7.1) (by decide) rfl hc7.2.1 hc7.2.2.2.1 ?_
          refine Y.getR (o := some ((b5 + 1) + 3)) 2 dX11_literal_43 zl_X11_202 (congrArg Prod.fst hc7.2.2.1.1) (by decide) rfl hc7.2.2.1.2.2.2.2.1 hc7.2.2.1.2.2.2.2.2.2.2.2.2.2 ?_
          refine Z.iload_n (k := 3) dX11_literal_46 rfl ?_
          obtain ⟨z24, K⟩ := K
          refine Y.zald dX11_literal_47 (hc7.2.2.1.2.2.2.1) (hc7.2.2.1.2.2.2.2.2.2.2.1) z24 ?_
          refine Z.if_eq 55 dX11_literal_48 rfl ⟨fun c25 => ?_, fun c25 => ?_⟩
          · replace K := K.1 c25
            refine Z.iconst (n := 0) dX11_literal_55 ⟨by decide, by decide⟩ ?_
            exact Z.iret (ty := .int) dX11_literal_56 rfl rfl K
          · replace K := K.2 c25
            refine Z.iconst (n := 1) dX11_literal_51 ⟨by decide, by decide⟩ ?_
            refine Z.goto 56 dX11_literal_52 rfl ?_
            exact Z.iret (ty := .int) dX11_literal_56 rfl rfl K
      · replace K := K.2 c12
        refine Z.ldc (n := -2147483648) dX11_literal_31 ⟨by decide, by decide⟩ zq_X11_201 ?_
        exact Z.iret (ty := .int) dX11_literal_33 rfl rfl K
set_option maxRecDepth 20000 in
theorem X11_step_0 {kz : Nat × Nat} {Q : Option zV → zH → Prop} {d : List Nat} {G : Nat → Int → Option Nat} {E : Nat → Int → Int} {v1 : Int} {v2 : Int} (hX : zK zXt d G) (K : ∃ o1, zM zm_X7_at [zR 5, zI v1] (d, G, E) (some (zO o1)) (d, G, E) ∧ (o1 = none → Q (some (zI ((-2147483648)))) (d, G, E)) ∧ (¬ (o1 = none) → (0 ≤ v2 → (7 ≤ v2 → (v2 ≠ 10 → ∃ b8, o1 = some b8 ∧ zCk d G b8 ∧ ∃ x11, zM zm_X1_hasRewritingNumber [zR b8, zI v2] (d, G, E) (some (zI x11)) (d, G, E) ∧ (x11 = 0 → Q (some (zI ((-2147483648)))) (d, G, E)) ∧ (¬ (x11 = 0) → zin (v2 - 11) ∧ ((0 : Int) ≤ (v2 - 11) ∧ (v2 - 11) < 32) ∧ Q (some (zI ((E (b8 + 6) (v2 - 11))))) (d, G, E))) ∧ (¬ (v2 ≠ 10) → ∃ b17, o1 = some b17 ∧ zCk d G b17 ∧ Q (some (zI ((E b17 4)))) (d, G, E))) ∧ (¬ (7 ≤ v2) → ∃ b20, o1 = some b20 ∧ zCk d G b20 ∧ ((0 : Int) ≤ v2 ∧ v2 < 7) ∧ Q (some (zI ((E (b20 + 5) v2)))) (d, G, E))) ∧ (¬ (0 ≤ v2) → Q (some (zI ((-2147483648)))) (d, G, E)))) : Z zm_X11_step kz Q 0 [(0, zR 0), (1, zI v1), (2, zI v2)] [] (d, G, E) := by
  refine Z.aload_n (k := 0) dX11_step_0 rfl ?_
  refine Y.getR (o := some 5) 1 dX11_step_1 zl_X11_19 (rfl) (by decide) rfl (zX_0_0 hX).2.1 (zX_0_1 hX).1 ?_
  refine Z.iload_n (k := 1) dX11_step_4 rfl ?_
  obtain ⟨o1, m2, K⟩ := K
  refine Y.callV (g := zm_X7_at) (vs := [zI v1]) (st := []) dX11_step_5 ⟨zg_X7_at.1, zg_X7_at.2.1, zg_X7_at.2.2, by decide⟩ ⟨zk_X11_170, zv_X7_at⟩ (ci := 7) (rfl) rfl ((zX_0_1 hX).2.2) rfl rfl (Nat.le_of_ble_eq_true rfl) m2 (Or.inl rfl) ?_
  show Z zm_X11_step kz Q 8 [(0, zR 0), (1, zI v1), (2, zI v2)] [zO o1] (d, G, E)
  refine Z.astore_n (ls' := [(3, zO o1), (0, zR 0), (1, zI v1), (2, zI v2)]) dX11_step_8 (by decide) rfl ?_
  refine Z.aload_n (k := 0) dX11_step_9 rfl ?_
  refine Z.ifnull 17 dX11_step_10 rfl ⟨fun c4 => ?_, fun c4 => ?_⟩
  · replace K := K.1 c4
    refine Z.ldc (n := -2147483648) dX11_step_17 ⟨by decide, by decide⟩ zq_X11_201 ?_
    exact Z.iret (ty := .int) dX11_step_19 rfl rfl K
  · replace K := K.2 c4
    refine Z.iload_n (k := 3) dX11_step_13 rfl ?_
    refine Z.if_ge 20 dX11_step_14 rfl ⟨fun c5 => ?_, fun c5 => ?_⟩
    · replace K := K.1 c5
      refine Z.iload_n (k := 3) dX11_step_20 rfl ?_
      refine Z.bipush (n := 7) dX11_step_21 ⟨by decide, by decide⟩ (by decide) ?_
      refine Z.icmp_ge 33 dX11_step_23 rfl ⟨fun c6 => ?_, fun c6 => ?_⟩
      · replace K := K.1 c6
        refine Z.iload_n (k := 3) dX11_step_33 rfl ?_
        refine Z.bipush (n := 10) dX11_step_34 ⟨by decide, by decide⟩ (by decide) ?_
        refine Z.icmp_ne 44 dX11_step_36 rfl ⟨fun c7 => ?_, fun c7 => ?_⟩
        · replace K := K.1 c7
          refine Z.aload_n (k := 0) dX11_step_44 rfl ?_
          refine Z.iload_n (k := 3) dX11_step_45 rfl ?_
          obtain ⟨b8, e9, hc10, K⟩ := K
          rw [e9]
          obtain ⟨x11, m12, K⟩ := K
          refine Y.callV (g := zm_X1_hasRewritingNumber) (vs := [zI v2]) (st := []) dX11_step_46 ⟨zg_X1_hasRewritingNumber.1, zg_X1_hasRewritingNumber.2.1, zg_X1_hasRewritingNumber.2.2, by decide⟩ ⟨zk_X11_220, zv_X1_hasRewritingNumber⟩ (ci := 1) (congrArg Prod.fst hc10.1) rfl (hc10.2.1) rfl rfl (Nat.le_of_ble_eq_true rfl) m12 (Or.inl rfl) ?_
          show Z zm_X11_step kz Q 49 [(3, zR b8), (0, zR 0), (1, zI v1), (2, zI v2)] [zI x11] (d, G, E)
          refine Z.if_eq 64 dX11_step_49 rfl ⟨fun c14 => ?_, fun c14 => ?_⟩
          · replace K := K.1 c14
            refine Z.ldc (n := -2147483648) dX11_step_64 ⟨by decide, by decide⟩ zq_X11_201 ?_
            exact Z.iret (ty := .int) dX11_step_66 rfl rfl K
          · replace K := K.2 c14
            refine Z.aload_n (k := 0) dX11_step_52 rfl ?_
            refine Y.getR (o := some (b8 + 6)) 3 dX11_step_53 zl_X11_223 (congrArg Prod.fst hc10.1) (by decide) rfl hc10.2.1 hc10.2.2.2.2.2.2.2.2.2 ?_
            refine Z.iload_n (k := 3) dX11_step_56 rfl ?_
            refine Z.bipush (n := 11) dX11_step_57 ⟨by decide, by decide⟩ (by decide) ?_
            obtain ⟨z15, K⟩ := K
            refine Z.isub dX11_step_59 z15 ?_
            obtain ⟨z16, K⟩ := K
            refine Y.iald dX11_step_60 (hc10.2.2.2.2.2.2.2.1) (hc10.2.2.2.2.2.2.2.2.1) z16 ?_
            refine Z.goto 66 dX11_step_61 rfl ?_
            exact Z.iret (ty := .int) dX11_step_66 rfl rfl K
        · replace K := K.2 c7
          refine Z.aload_n (k := 0) dX11_step_39 rfl ?_
          obtain ⟨b17, e18, hc19, K⟩ := K
          rw [e18]
          refine Y.getI 4 dX11_step_40 zl_X11_217 (congrArg Prod.fst hc19.1) (by decide) rfl hc19.2.1 ?_
          exact Z.iret (ty := .int) dX11_step_43 rfl rfl K
      · replace K := K.2 c6
        refine Z.aload_n (k := 0) dX11_step_26 rfl ?_
        obtain ⟨b20, e21, hc22, K⟩ := K
        rw [e21]
        refine Y.getR (o := some (b20 + 5)) 2 dX11_step_27 zl_X11_216 (congrArg Prod.fst hc22.1) (by decide) rfl hc22.2.1 hc22.2.2.2.2.2.2.1 ?_
        refine Z.iload_n (k := 3) dX11_step_30 rfl ?_
        obtain ⟨z23, K⟩ := K
        refine Y.iald dX11_step_31 (hc22.2.2.2.2.1) (hc22.2.2.2.2.2.1) z23 ?_
        exact Z.iret (ty := .int) dX11_step_32 rfl rfl K
    · replace K := K.2 c5
      refine Z.ldc (n := -2147483648) dX11_step_17 ⟨by decide, by decide⟩ zq_X11_201 ?_
      exact Z.iret (ty := .int) dX11_step_19 rfl rfl K
set_option maxRecDepth 20000 in
theorem X11_forge_0 {kz : Nat × Nat} {Q : Option zV → zH → Prop} {d : List Nat} {G : Nat → Int → Option Nat} {E : Nat → Int → Int} {v1 : Int} {v2 : Int} {v3 : Int} (hX : zK zXt d G) (K : ∃ o1, zM zm_X7_at [zR 5, zI v1] (d, G, E) (some (zO o1)) (d, G, E) ∧ (o1 ≠ none → (v2 < 1 → ∃ b6, o1 = some b6 ∧ zCk d G b6 ∧ ∃ x9, zM zm_X1_hasRewritingNumber [zR b6, zI v2] (d, G, E) (some (zI x9)) (d, G, E) ∧ (x9 = 0 → Q (some (zI ((-2)))) (d, G, E)) ∧ (¬ (x9 = 0) → zin (v2 - 11) ∧ ((0 : Int) ≤ (v2 - 11) ∧ (v2 - 11) < 32) ∧ ∀ E15, E15 = zuE E (b6 + 6) ((v2 - 11)) v3 → Q (some (zI 1)) (d, G, E15))) ∧ (¬ (v2 < 1) → ∃ b16, o1 = some b16 ∧ zCk d G b16 ∧ ∃ x19, zM zm_X1_kind [zR b16] (d, G, E) (some (zI x19)) (d, G, E) ∧ ((0 : Int) ≤ x19 ∧ x19 < 5) ∧ ((zsv 0 x19) < v2 → ∃ x24, zM zm_X1_hasRewritingNumber [zR b16, zI v2] (d, G, E) (some (zI x24)) (d, G, E) ∧ (x24 = 0 → Q (some (zI ((-2)))) (d, G, E)) ∧ (¬ (x24 = 0) → zin (v2 - 11) ∧ ((0 : Int) ≤ (v2 - 11) ∧ (v2 - 11) < 32) ∧ ∀ E30, E30 = zuE E (b16 + 6) ((v2 - 11)) v3 → Q (some (zI 1)) (d, G, E30))) ∧ (¬ ((zsv 0 x19) < v2) → ((0 : Int) ≤ v2 ∧ v2 < 7) ∧ ∀ E32, E32 = zuE E (b16 + 5) v2 v3 → Q (some (zI 1)) (d, G, E32)))) ∧ (¬ (o1 ≠ none) → Q (some (zI ((-2)))) (d, G, E))) : Z zm_X11_forge kz Q 0 [(0, zR 0), (1, zI v1), (2, zI v2), (3, zI v3)] [] (d, G, E) := by
  refine Z.aload_n (k := 0) dX11_forge_0 rfl ?_
  refine Y.getR (o := some 5) 1 dX11_forge_1 zl_X11_19 (rfl) (by decide) rfl (zX_0_0 hX).2.1 (zX_0_1 hX).1 ?_
  refine Z.iload_n (k := 1) dX11_forge_4 rfl ?_
  obtain ⟨o1, m2, K⟩ := K
  refine Y.callV (g := zm_X7_at) (vs := [zI v1]) (st := []) dX11_forge_5 ⟨zg_X7_at.1, zg_X7_at.2.1, zg_X7_at.2.2, by decide⟩ ⟨zk_X11_170, zv_X7_at⟩ (ci := 7) (rfl) rfl ((zX_0_1 hX).2.2) rfl rfl (Nat.le_of_ble_eq_true rfl) m2 (Or.inl rfl) ?_
  show Z zm_X11_forge kz Q 8 [(0, zR 0), (1, zI v1), (2, zI v2), (3, zI v3)] [zO o1] (d, G, E)
  refine Z.astore (ls' := [(4, zO o1), (0, zR 0), (1, zI v1), (2, zI v2), (3, zI v3)]) dX11_forge_8 (by decide) rfl ?_
  refine Z.aload (k := 0) dX11_forge_10 rfl ?_
  refine Z.ifnonnull 18 dX11_forge_12 rfl ⟨fun c4 => ?_, fun c4 => ?_⟩
  · replace K := K.1 c4
    refine Z.iload_n (k := 3) dX11_forge_18 rfl ?_
    refine Z.iconst (n := 1) dX11_forge_19 ⟨by decide, by decide⟩ ?_
    refine Z.icmp_lt 46 dX11_forge_20 rfl ⟨fun c5 => ?_, fun c5 => ?_⟩
    · replace K := K.1 c5
      refine Z.aload (k := 0) dX11_forge_46 rfl ?_
      refine Z.iload_n (k := 3) dX11_forge_48 rfl ?_
      obtain ⟨b6, e7, hc8, K⟩ := K
      rw [e7]
      obtain ⟨x9, m10, K⟩ := K
      refine Y.callV (g := zm_X1_hasRewritingNumber) (vs := [zI v2]) (st := []) dX11_forge_49 ⟨zg_X1_hasRewritingNumber.1, zg_X1_hasRewritingNumber.2.1, zg_X1_hasRewritingNumber.2.2, by decide⟩ ⟨zk_X11_220, zv_X1_hasRewritingNumber⟩ (ci := 1) (congrArg Prod.fst hc8.1) rfl (hc8.2.1) rfl rfl (Nat.le_of_ble_eq_true rfl) m10 (Or.inl rfl) ?_
      show Z zm_X11_forge kz Q 52 [(4, zR b6), (0, zR 0), (1, zI v1), (2, zI v2), (3, zI v3)] [zI x9] (d, G, E)
      refine Z.if_eq 68 dX11_forge_52 rfl ⟨fun c12 => ?_, fun c12 => ?_⟩
      · replace K := K.1 c12
        refine Z.bipush (n := -2) dX11_forge_68 ⟨by decide, by decide⟩ (by decide) ?_
        exact Z.iret (ty := .int) dX11_forge_70 rfl rfl K
      · replace K := K.2 c12
        refine Z.aload (k := 0) dX11_forge_55 rfl ?_
        refine Y.getR (o := some (b6 + 6)) 3 dX11_forge_57 zl_X11_223 (congrArg Prod.fst hc8.1) (by decide) rfl hc8.2.1 hc8.2.2.2.2.2.2.2.2.2 ?_
        refine Z.iload_n (k := 3) dX11_forge_60 rfl ?_
        refine Z.bipush (n := 11) dX11_forge_61 ⟨by decide, by decide⟩ (by decide) ?_
        obtain ⟨z13, K⟩ := K
        refine Z.isub dX11_forge_63 z13 ?_
        refine Z.iload_n (k := 4) dX11_forge_64 rfl ?_
        obtain ⟨z14, K⟩ := K
        refine Y.iast dX11_forge_65 (hc8.2.2.2.2.2.2.2.1) (hc8.2.2.2.2.2.2.2.2.1) z14 ?_
        generalize eE15 : zuE E (b6 + 6) ((v2 - 11)) v3 = E15
        replace K := K E15 eE15.symm
        refine Z.iconst (n := 1) dX11_forge_66 ⟨by decide, by decide⟩ ?_
        exact Z.iret (ty := .int) dX11_forge_67 rfl rfl K
    · replace K := K.2 c5
      refine Z.iload_n (k := 3) dX11_forge_23 rfl ?_
      refine Z.gets (j := 0) dX11_forge_24 (by decide) zt_X11_226 ?_
      refine Z.aload (k := 0) dX11_forge_27 rfl ?_
      obtain ⟨b16, e17, hc18, K⟩ := K
      rw [e17]
      obtain ⟨x19, m20, K⟩ := K
      refine Y.callV (g := zm_X1_kind) (vs := []) (st := [zR ((190 + 0)), zI v2]) dX11_forge_29 ⟨zg_X1_kind.1, zg_X1_kind.2.1, zg_X1_kind.2.2, by decide⟩ ⟨zk_X11_229, zv_X1_kind⟩ (ci := 1) (congrArg Prod.fst hc18.1) rfl (hc18.2.1) rfl rfl (Nat.le_of_ble_eq_true rfl) m20 (Or.inl rfl) ?_
      show Z zm_X11_forge kz Q 32 [(4, zR b16), (0, zR 0), (1, zI v1), (2, zI v2), (3, zI v3)] [zI x19, zR ((190 + 0)), zI v2] (d, G, E)
      obtain ⟨z22, K⟩ := K
      refine Z.sald (j := 0) dX11_forge_32 (by decide) z22 ?_
      refine Z.icmp_gt 46 dX11_forge_33 rfl ⟨fun c23 => ?_, fun c23 => ?_⟩
      · replace K := K.1 c23
        refine Z.aload (k := 0) dX11_forge_46 rfl ?_
        refine Z.iload_n (k := 3) dX11_forge_48 rfl ?_
        obtain ⟨x24, m25, K⟩ := K
        refine Y.callV (g := zm_X1_hasRewritingNumber) (vs := [zI v2]) (st := []) dX11_forge_49 ⟨zg_X1_hasRewritingNumber.1, zg_X1_hasRewritingNumber.2.1, zg_X1_hasRewritingNumber.2.2, by decide⟩ ⟨zk_X11_220, zv_X1_hasRewritingNumber⟩ (ci := 1) (congrArg Prod.fst hc18.1) rfl (hc18.2.1) rfl rfl (Nat.le_of_ble_eq_true rfl) m25 (Or.inl rfl) ?_
        show Z zm_X11_forge kz Q 52 [(4, zR b16), (0, zR 0), (1, zI v1), (2, zI v2), (3, zI v3)] [zI x24] (d, G, E)
        refine Z.if_eq 68 dX11_forge_52 rfl ⟨fun c27 => ?_, fun c27 => ?_⟩
        · replace K := K.1 c27
          refine Z.bipush (n := -2) dX11_forge_68 ⟨by decide, by decide⟩ (by decide) ?_
          exact Z.iret (ty := .int) dX11_forge_70 rfl rfl K
        · replace K := K.2 c27
          refine Z.aload (k := 0) dX11_forge_55 rfl ?_
          refine Y.getR (o := some (b16 + 6)) 3 dX11_forge_57 zl_X11_223 (congrArg Prod.fst hc18.1) (by decide) rfl hc18.2.1 hc18.2.2.2.2.2.2.2.2.2 ?_
          refine Z.iload_n (k := 3) dX11_forge_60 rfl ?_
          refine Z.bipush (n := 11) dX11_forge_61 ⟨by decide, by decide⟩ (by decide) ?_
          obtain ⟨z28, K⟩ := K
          refine Z.isub dX11_forge_63 z28 ?_
          refine Z.iload_n (k := 4) dX11_forge_64 rfl ?_
          obtain ⟨z29, K⟩ := K
          refine Y.iast dX11_forge_65 (hc18.2.2.2.2.2.2.2.1) (hc18.2.2.2.2.2.2.2.2.1) z29 ?_
          generalize eE30 : zuE E (b16 + 6) ((v2 - 11)) v3 = E30
          replace K := K E30 eE30.symm
          refine Z.iconst (n := 1) dX11_forge_66 ⟨by decide, by decide⟩ ?_
          exact Z.iret (ty := .int) dX11_forge_67 rfl rfl K
      · replace K := K.2 c23
        refine Z.aload (k := 0) dX11_forge_36 rfl ?_
        refine Y.getR (o := some (b16 + 5)) 2 dX11_forge_38 zl_X11_216 (congrArg Prod.fst hc18.1) (by decide) rfl hc18.2.1 hc18.2.2.2.2.2.2.1 ?_
        refine Z.iload_n (k := 3) dX11_forge_41 rfl ?_
        refine Z.iload_n (k := 4) dX11_forge_42 rfl ?_
        obtain ⟨z31, K⟩ := K
        refine Y.iast dX11_forge_43 (hc18.2.2.2.2.1) (hc18.2.2.2.2.2.1) z31 ?_
        generalize eE32 : zuE E (b16 + 5) v2 v3 = E32
        replace K := K E32 eE32.symm
        refine Z.iconst (n := 1) dX11_forge_44 ⟨by decide, by decide⟩ ?_
        exact Z.iret (ty := .int) dX11_forge_45 rfl rfl K
  · replace K := K.2 c4
    refine Z.bipush (n := -2) dX11_forge_15 ⟨by decide, by decide⟩ (by decide) ?_
    exact Z.iret (ty := .int) dX11_forge_17 rfl rfl K
set_option maxRecDepth 20000 in
theorem X11_judge_0 {kz : Nat × Nat} {Q : Option zV → zH → Prop} {d : List Nat} {G : Nat → Int → Option Nat} {E : Nat → Int → Int} {v1 : Int} (hX : zK zXt d G) (K : ∃ o1, zM zm_X7_at [zR 5, zI v1] (d, G, E) (some (zO o1)) (d, G, E) ∧ (o1 ≠ none → ∃ b5, o1 = some b5 ∧ zCk d G b5 ∧ ∃ x8, zM zm_X1_kind [zR b5] (d, G, E) (some (zI x8)) (d, G, E) ∧ (x8 ≠ 0 → ∃ x12 E13, zM zm_X3_make [zR 41, zR (b5 + 5), zI v1, zR 10] (d, G, E) (some (zI x12)) (d, G, E13) ∧ (x12 = 2 → ∃ x17 E18, zM zm_X2_clean [zR 30, zR 10] (d, G, E13) (some (zI x17)) (d, G, E18) ∧ (x17 ≠ 0 → Z zm_X11_judge kz Q 84 [(0, zR 0), (1, zI v1), (2, zR b5), (3, zI 0)] [] (d, G, E18)) ∧ (¬ (x17 ≠ 0) → Q (some (zI 0)) (d, G, E18))) ∧ (¬ (x12 = 2) → Q (some (zI 0)) (d, G, E13))) ∧ (¬ (x8 ≠ 0) → ((G b5 1) = none → ∃ x23 E24, zM zm_X3_make [zR 41, zR (b5 + 5), zI v1, zR 10] (d, G, E) (some (zI x23)) (d, G, E24) ∧ (x23 = 2 → ∃ x28 E29, zM zm_X2_clean [zR 30, zR 10] (d, G, E24) (some (zI x28)) (d, G, E29) ∧ (x28 ≠ 0 → Z zm_X11_judge kz Q 84 [(0, zR 0), (1, zI v1), (2, zR b5), (3, zI 0)] [] (d, G, E29)) ∧ (¬ (x28 ≠ 0) → Q (some (zI 0)) (d, G, E29))) ∧ (¬ (x23 = 2) → Q (some (zI 0)) (d, G, E24))) ∧ (¬ ((G b5 1) = none) → ∃ E33, zM zm_X5_copy [zR 10, zO ((G b5 1))] (d, G, E) none (d, G, E33) ∧ ∃ x36 E37, zM zm_X2_clean [zR 30, zR 10] (d, G, E33) (some (zI x36)) (d, G, E37) ∧ (x36 ≠ 0 → Z zm_X11_judge kz Q 84 [(0, zR 0), (1, zI v1), (2, zR b5), (3, zI 0)] [] (d, G, E37)) ∧ (¬ (x36 ≠ 0) → Q (some (zI 0)) (d, G, E37))))) ∧ (¬ (o1 ≠ none) → Q (some (zI ((-2)))) (d, G, E))) : Z zm_X11_judge kz Q 0 [(0, zR 0), (1, zI v1)] [] (d, G, E) := by
  refine Z.aload_n (k := 0) dX11_judge_0 rfl ?_
  refine Y.getR (o := some 5) 1 dX11_judge_1 zl_X11_19 (rfl) (by decide) rfl (zX_0_0 hX).2.1 (zX_0_1 hX).1 ?_
  refine Z.iload_n (k := 1) dX11_judge_4 rfl ?_
  obtain ⟨o1, m2, K⟩ := K
  refine Y.callV (g := zm_X7_at) (vs := [zI v1]) (st := []) dX11_judge_5 ⟨zg_X7_at.1, zg_X7_at.2.1, zg_X7_at.2.2, by decide⟩ ⟨zk_X11_170, zv_X7_at⟩ (ci := 7) (rfl) rfl ((zX_0_1 hX).2.2) rfl rfl (Nat.le_of_ble_eq_true rfl) m2 (Or.inl rfl) ?_
  show Z zm_X11_judge kz Q 8 [(0, zR 0), (1, zI v1)] [zO o1] (d, G, E)
  refine Z.astore_n (ls' := [(2, zO o1), (0, zR 0), (1, zI v1)]) dX11_judge_8 (by decide) rfl ?_
  refine Z.aload_n (k := 0) dX11_judge_9 rfl ?_
  refine Z.ifnonnull 16 dX11_judge_10 rfl ⟨fun c4 => ?_, fun c4 => ?_⟩
  · replace K := K.1 c4
    refine Z.aload_n (k := 0) dX11_judge_16 rfl ?_
    obtain ⟨b5, e6, hc7, K⟩ := K
    rw [e6]
    obtain ⟨x8, m9, K⟩ := K
    refine Y.callV (g := zm_X1_kind) (vs := []) (st := []) dX11_judge_17 ⟨zg_X1_kind.1, zg_X1_kind.2.1, zg_X1_kind.2.2, by decide⟩ ⟨zk_X11_229, zv_X1_kind⟩ (ci := 1) (congrArg Prod.fst hc7.1) rfl (hc7.2.1) rfl rfl (Nat.le_of_ble_eq_true rfl) m9 (Or.inl rfl) ?_
    show Z zm_X11_judge kz Q 20 [(2, zR b5), (0, zR 0), (1, zI v1)] [zI x8] (d, G, E)
    refine Z.if_ne 44 dX11_judge_20 rfl ⟨fun c11 => ?_, fun c11 => ?_⟩
    · replace K := K.1 c11
      refine Z.aload_n (k := 1) dX11_judge_44 rfl ?_
      refine Y.getR (o := some 41) 10 dX11_judge_45 zl_X11_83 (rfl) (by decide) rfl (zX_0_0 hX).2.1 (zX_0_10 hX).1 ?_
      refine Z.aload_n (k := 0) dX11_judge_48 rfl ?_
      refine Y.getR (o := some (b5 + 5)) 2 dX11_judge_49 zl_X11_216 (congrArg Prod.fst hc7.1) (by decide) rfl hc7.2.1 hc7.2.2.2.2.2.2.1 ?_
      refine Z.iload_n (k := 2) dX11_judge_52 rfl ?_
      refine Z.aload_n (k := 1) dX11_judge_53 rfl ?_
      refine Y.getR (o := some 10) 3 dX11_judge_54 zl_X11_30 (rfl) (by decide) rfl (zX_0_0 hX).2.1 (zX_0_3 hX).1 ?_
      obtain ⟨x12, E13, m14, K⟩ := K
      refine Y.callV (g := zm_X3_make) (vs := [zR (b5 + 5), zI v1, zR 10]) (st := []) dX11_judge_57 ⟨zg_X3_make.1, zg_X3_make.2.1, zg_X3_make.2.2, by decide⟩ ⟨zk_X11_163, zv_X3_make⟩ (ci := 3) (rfl) rfl ((zX_0_10 hX).2.2) rfl rfl (Nat.le_of_ble_eq_true rfl) m14 (Or.inl rfl) ?_
      show Z zm_X11_judge kz Q 60 [(2, zR b5), (0, zR 0), (1, zI v1)] [zI x12] (d, G, E13)
      refine Z.iconst (n := 2) dX11_judge_60 ⟨by decide, by decide⟩ ?_
      refine Z.icmp_eq 66 dX11_judge_61 rfl ⟨fun c16 => ?_, fun c16 => ?_⟩
      · replace K := K.1 c16
        refine Z.aload_n (k := 1) dX11_judge_66 rfl ?_
        refine Y.getR (o := some 30) 7 dX11_judge_67 zl_X11_58 (rfl) (by decide) rfl (zX_0_0 hX).2.1 (zX_0_7 hX).1 ?_
        refine Z.aload_n (k := 1) dX11_judge_70 rfl ?_
        refine Y.getR (o := some 10) 3 dX11_judge_71 zl_X11_30 (rfl) (by decide) rfl (zX_0_0 hX).2.1 (zX_0_3 hX).1 ?_
        obtain ⟨x17, E18, m19, K⟩ := K
        refine Y.callV (g := zm_X2_clean) (vs := [zR 10]) (st := []) dX11_judge_74 ⟨zg_X2_clean.1, zg_X2_clean.2.1, zg_X2_clean.2.2, by decide⟩ ⟨zk_X11_233, zv_X2_clean⟩ (ci := 2) (rfl) rfl ((zX_0_7 hX).2.2) rfl rfl (Nat.le_of_ble_eq_true rfl) m19 (Or.inl rfl) ?_
        show Z zm_X11_judge kz Q 77 [(2, zR b5), (0, zR 0), (1, zI v1)] [zI x17] (d, G, E18)
        refine Z.if_ne 82 dX11_judge_77 rfl ⟨fun c21 => ?_, fun c21 => ?_⟩
        · replace K := K.1 c21
          refine Z.iconst (n := 0) dX11_judge_82 ⟨by decide, by decide⟩ ?_
          refine Z.istore_n (ls' := [(3, zI 0), (2, zR b5), (0, zR 0), (1, zI v1)]) dX11_judge_83 (by decide) rfl ?_
          refine Z.pick (ls' := [(0, zR 0), (1, zI v1), (2, zR b5), (3, zI 0)]) [2, 3, 1, 0] rfl ?_
          exact K
        · replace K := K.2 c21
          refine Z.iconst (n := 0) dX11_judge_80 ⟨by decide, by decide⟩ ?_
          exact Z.iret (ty := .int) dX11_judge_81 rfl rfl K
      · replace K := K.2 c16
        refine Z.iconst (n := 0) dX11_judge_64 ⟨by decide, by decide⟩ ?_
        exact Z.iret (ty := .int) dX11_judge_65 rfl rfl K
    · replace K := K.2 c11
      refine Z.aload_n (k := 0) dX11_judge_23 rfl ?_
      refine Y.getR (o := (G b5 1)) 1 dX11_judge_24 zl_X11_232 (congrArg Prod.fst hc7.1) (by decide) rfl hc7.2.1 rfl ?_
      refine Z.ifnull 44 dX11_judge_27 rfl ⟨fun c22 => ?_, fun c22 => ?_⟩
      · replace K := K.1 c22
        refine Z.aload_n (k := 1) dX11_judge_44 rfl ?_
        refine Y.getR (o := some 41) 10 dX11_judge_45 zl_X11_83 (rfl) (by decide) rfl (zX_0_0 hX).2.1 (zX_0_10 hX).1 ?_
        refine Z.aload_n (k := 0) dX11_judge_48 rfl ?_
        refine Y.getR (o := some (b5 + 5)) 2 dX11_judge_49 zl_X11_216 (congrArg Prod.fst hc7.1) (by decide) rfl hc7.2.1 hc7.2.2.2.2.2.2.1 ?_
        refine Z.iload_n (k := 2) dX11_judge_52 rfl ?_
        refine Z.aload_n (k := 1) dX11_judge_53 rfl ?_
        refine Y.getR (o := some 10) 3 dX11_judge_54 zl_X11_30 (rfl) (by decide) rfl (zX_0_0 hX).2.1 (zX_0_3 hX).1 ?_
        obtain ⟨x23, E24, m25, K⟩ := K
        refine Y.callV (g := zm_X3_make) (vs := [zR (b5 + 5), zI v1, zR 10]) (st := []) dX11_judge_57 ⟨zg_X3_make.1, zg_X3_make.2.1, zg_X3_make.2.2, by decide⟩ ⟨zk_X11_163, zv_X3_make⟩ (ci := 3) (rfl) rfl ((zX_0_10 hX).2.2) rfl rfl (Nat.le_of_ble_eq_true rfl) m25 (Or.inl rfl) ?_
        show Z zm_X11_judge kz Q 60 [(2, zR b5), (0, zR 0), (1, zI v1)] [zI x23] (d, G, E24)
        refine Z.iconst (n := 2) dX11_judge_60 ⟨by decide, by decide⟩ ?_
        refine Z.icmp_eq 66 dX11_judge_61 rfl ⟨fun c27 => ?_, fun c27 => ?_⟩
        · replace K := K.1 c27
          refine Z.aload_n (k := 1) dX11_judge_66 rfl ?_
          refine Y.getR (o := some 30) 7 dX11_judge_67 zl_X11_58 (rfl) (by decide) rfl (zX_0_0 hX).2.1 (zX_0_7 hX).1 ?_
          refine Z.aload_n (k := 1) dX11_judge_70 rfl ?_
          refine Y.getR (o := some 10) 3 dX11_judge_71 zl_X11_30 (rfl) (by decide) rfl (zX_0_0 hX).2.1 (zX_0_3 hX).1 ?_
          obtain ⟨x28, E29, m30, K⟩ := K
          refine Y.callV (g := zm_X2_clean) (vs := [zR 10]) (st := []) dX11_judge_74 ⟨zg_X2_clean.1, zg_X2_clean.2.1, zg_X2_clean.2.2, by decide⟩ ⟨zk_X11_233, zv_X2_clean⟩ (ci := 2) (rfl) rfl ((zX_0_7 hX).2.2) rfl rfl (Nat.le_of_ble_eq_true rfl) m30 (Or.inl rfl) ?_
          show Z zm_X11_judge kz Q 77 [(2, zR b5), (0, zR 0), (1, zI v1)] [zI x28] (d, G, E29)
          refine Z.if_ne 82 dX11_judge_77 rfl ⟨fun c32 => ?_, fun c32 => ?_⟩
          · replace K := K.1 c32
            refine Z.iconst (n := 0) dX11_judge_82 ⟨by decide, by decide⟩ ?_
            refine Z.istore_n (ls' := [(3, zI 0), (2, zR b5), (0, zR 0), (1, zI v1)]) dX11_judge_83 (by decide) rfl ?_
            refine Z.pick (ls' := [(0, zR 0), (1, zI v1), (2, zR b5), (3, zI 0)]) [2, 3, 1, 0] rfl ?_
            exact K
          · replace K := K.2 c32
            refine Z.iconst (n := 0) dX11_judge_80 ⟨by decide, by decide⟩ ?_
            exact Z.iret (ty := .int) dX11_judge_81 rfl rfl K
        · replace K := K.2 c27
          refine Z.iconst (n := 0) dX11_judge_64 ⟨by decide, by decide⟩ ?_
          exact Z.iret (ty := .int) dX11_judge_65 rfl rfl K
      · replace K := K.2 c22
        refine Z.aload_n (k := 1) dX11_judge_30 rfl ?_
        refine Y.getR (o := some 10) 3 dX11_judge_31 zl_X11_30 (rfl) (by decide) rfl (zX_0_0 hX).2.1 (zX_0_3 hX).1 ?_
        refine Z.aload_n (k := 0) dX11_judge_34 rfl ?_
        refine Y.getR (o := (G b5 1)) 1 dX11_judge_35 zl_X11_232 (congrArg Prod.fst hc7.1) (by decide) rfl hc7.2.1 rfl ?_
        obtain ⟨E33, m34, K⟩ := K
        refine Y.callV (g := zm_X5_copy) (vs := [zO ((G b5 1))]) (st := []) dX11_judge_38 ⟨zg_X5_copy.1, zg_X5_copy.2.1, zg_X5_copy.2.2, by decide⟩ ⟨zk_X11_135, zv_X5_copy⟩ (ci := 5) (rfl) rfl ((zX_0_3 hX).2.2) rfl rfl (Nat.le_of_ble_eq_true rfl) m34 (Or.inl rfl) ?_
        show Z zm_X11_judge kz Q 41 [(2, zR b5), (0, zR 0), (1, zI v1)] [] (d, G, E33)
        refine Z.goto 66 dX11_judge_41 rfl ?_
        refine Z.aload_n (k := 1) dX11_judge_66 rfl ?_
        refine Y.getR (o := some 30) 7 dX11_judge_67 zl_X11_58 (rfl) (by decide) rfl (zX_0_0 hX).2.1 (zX_0_7 hX).1 ?_
        refine Z.aload_n (k := 1) dX11_judge_70 rfl ?_
        refine Y.getR (o := some 10) 3 dX11_judge_71 zl_X11_30 (rfl) (by decide) rfl (zX_0_0 hX).2.1 (zX_0_3 hX).1 ?_
        obtain ⟨x36, E37, m38, K⟩ := K
        refine Y.callV (g := zm_X2_clean) (vs := [zR 10]) (st := []) dX11_judge_74 ⟨zg_X2_clean.1, zg_X2_clean.2.1, zg_X2_clean.2.2, by decide⟩ ⟨zk_X11_233, zv_X2_clean⟩ (ci := 2) (rfl) rfl ((zX_0_7 hX).2.2) rfl rfl (Nat.le_of_ble_eq_true rfl) m38 (Or.inl rfl) ?_
        show Z zm_X11_judge kz Q 77 [(2, zR b5), (0, zR 0), (1, zI v1)] [zI x36] (d, G, E37)
        refine Z.if_ne 82 dX11_judge_77 rfl ⟨fun c40 => ?_, fun c40 => ?_⟩
        · replace K := K.1 c40
          refine Z.iconst (n := 0) dX11_judge_82 ⟨by decide, by decide⟩ ?_
          refine Z.istore_n (ls' := [(3, zI 0), (2, zR b5), (0, zR 0), (1, zI v1)]) dX11_judge_83 (by decide) rfl ?_
          refine Z.pick (ls' := [(0, zR 0), (1, zI v1), (2, zR b5), (3, zI 0)]) [2, 3, 1, 0] rfl ?_
          exact K
        · replace K := K.2 c40
          refine Z.iconst (n := 0) dX11_judge_80 ⟨by decide, by decide⟩ ?_
          exact Z.iret (ty := .int) dX11_judge_81 rfl rfl K
  · replace K := K.2 c4
    refine Z.bipush (n := -2) dX11_judge_13 ⟨by decide, by decide⟩ (by decide) ?_
    exact Z.iret (ty := .int) dX11_judge_15 rfl rfl K
set_option maxRecDepth 20000 in
theorem X11_judge_84 {kz : Nat × Nat} {Q : Option zV → zH → Prop} {d : List Nat} {G : Nat → Int → Option Nat} {E : Nat → Int → Int} {v1 : Int} {o2 : Option Nat} {v3 : Int} (hX : zK zXt d G) (K : ∃ b1, o2 = some b1 ∧ zCk d G b1 ∧ ((E b1 4) ≤ v3 → ∃ x5, zM zm_X5_same [zR 10, zR ((b1 + 1))] (d, G, E) (some (zI x5)) (d, G, E) ∧ (x5 = 0 → Q (some (zI 0)) (d, G, E)) ∧ (¬ (x5 = 0) → Q (some (zI 1)) (d, G, E))) ∧ (¬ ((E b1 4) ≤ v3) → ∃ x9 E10, zM zm_X4_again [zR 36, zR b1, zI v3, zI v1, zR 10] (d, G, E) (some (zI x9)) (d, G, E10) ∧ (x9 ≠ 0 → ∃ x14 E15, zM zm_X2_clean [zR 30, zR 10] (d, G, E10) (some (zI x14)) (d, G, E15) ∧ zin (v3 + 1) ∧ Z zm_X11_judge kz Q 84 [(0, zR 0), (1, zI v1), (2, zR b1), (3, zI ((v3 + 1)))] [] (d, G, E15)) ∧ (¬ (x9 ≠ 0) → Q (some (zI 0)) (d, G, E10)))) : Z zm_X11_judge kz Q 84 [(0, zR 0), (1, zI v1), (2, zO o2), (3, zI v3)] [] (d, G, E) := by
  refine Z.iload_n (k := 3) dX11_judge_84 rfl ?_
  refine Z.aload_n (k := 2) dX11_judge_85 rfl ?_
  obtain ⟨b1, e2, hc3, K⟩ := K
  rw [e2]
  refine Y.getI 4 dX11_judge_86 zl_X11_217 (congrArg Prod.fst hc3.1) (by decide) rfl hc3.2.1 ?_
  refine Z.icmp_ge 129 dX11_judge_89 rfl ⟨fun c4 => ?_, fun c4 => ?_⟩
  · replace K := K.1 c4
    refine Z.aload_n (k := 0) dX11_judge_129 rfl ?_
    refine Y.getR (o := some 10) 3 dX11_judge_130 zl_X11_30 (rfl) (by decide) rfl (zX_0_0 hX).2.1 (zX_0_3 hX).1 ?_
    refine Z.aload_n (k := 2) dX11_judge_133 rfl ?_
    refine Y.getR (o := some ((b1 + 1))) 0 dX11_judge_134 zl_X11_174 (congrArg Prod.fst hc3.1) (by decide) rfl hc3.2.1 hc3.2.2.2.1 ?_
    obtain ⟨x5, m6, K⟩ := K
    refine Y.callV (g := zm_X5_same) (vs := [zR ((b1 + 1))]) (st := []) dX11_judge_137 ⟨zg_X5_same.1, zg_X5_same.2.1, zg_X5_same.2.2, by decide⟩ ⟨zk_X11_241, zv_X5_same⟩ (ci := 5) (rfl) rfl ((zX_0_3 hX).2.2) rfl rfl (Nat.le_of_ble_eq_true rfl) m6 (Or.inl rfl) ?_
    show Z zm_X11_judge kz Q 140 [(0, zR 0), (1, zI v1), (2, zR b1), (3, zI v3)] [zI x5] (d, G, E)
    refine Z.if_eq 147 dX11_judge_140 rfl ⟨fun c8 => ?_, fun c8 => ?_⟩
    · replace K := K.1 c8
      refine Z.iconst (n := 0) dX11_judge_147 ⟨by decide, by decide⟩ ?_
      exact Z.iret (ty := .int) dX11_judge_148 rfl rfl K
    · replace K := K.2 c8
      refine Z.iconst (n := 1) dX11_judge_143 ⟨by decide, by decide⟩ ?_
      refine Z.goto 148 dX11_judge_144 rfl ?_
      exact Z.iret (ty := .int) dX11_judge_148 rfl rfl K
  · replace K := K.2 c4
    refine Z.aload_n (k := 0) dX11_judge_92 rfl ?_
    refine Y.getR (o := some 36) 9 dX11_judge_93 zl_X11_76 (rfl) (by decide) rfl (zX_0_0 hX).2.1 (zX_0_9 hX).1 ?_
    refine Z.aload_n (k := 2) dX11_judge_96 rfl ?_
    refine Z.iload_n (k := 3) dX11_judge_97 rfl ?_
    refine Z.iload_n (k := 1) dX11_judge_98 rfl ?_
    refine Z.aload_n (k := 0) dX11_judge_99 rfl ?_
    refine Y.getR (o := some 10) 3 dX11_judge_100 zl_X11_30 (rfl) (by decide) rfl (zX_0_0 hX).2.1 (zX_0_3 hX).1 ?_
    obtain ⟨x9, E10, m11, K⟩ := K
    refine Y.callV (g := zm_X4_again) (vs := [zR b1, zI v3, zI v1, zR 10]) (st := []) dX11_judge_103 ⟨zg_X4_again.1, zg_X4_again.2.1, zg_X4_again.2.2, by decide⟩ ⟨zk_X11_237, zv_X4_again⟩ (ci := 4) (rfl) rfl ((zX_0_9 hX).2.2) rfl rfl (Nat.le_of_ble_eq_true rfl) m11 (Or.inl rfl) ?_
    show Z zm_X11_judge kz Q 106 [(0, zR 0), (1, zI v1), (2, zR b1), (3, zI v3)] [zI x9] (d, G, E10)
    refine Z.if_ne 111 dX11_judge_106 rfl ⟨fun c13 => ?_, fun c13 => ?_⟩
    · replace K := K.1 c13
      refine Z.aload_n (k := 0) dX11_judge_111 rfl ?_
      refine Y.getR (o := some 30) 7 dX11_judge_112 zl_X11_58 (rfl) (by decide) rfl (zX_0_0 hX).2.1 (zX_0_7 hX).1 ?_
      refine Z.aload_n (k := 0) dX11_judge_115 rfl ?_
      refine Y.getR (o := some 10) 3 dX11_judge_116 zl_X11_30 (rfl) (by decide) rfl (zX_0_0 hX).2.1 (zX_0_3 hX).1 ?_
      obtain ⟨x14, E15, m16, K⟩ := K
      refine Y.callV (g := zm_X2_clean) (vs := [zR 10]) (st := []) dX11_judge_119 ⟨zg_X2_clean.1, zg_X2_clean.2.1, zg_X2_clean.2.2, by decide⟩ ⟨zk_X11_233, zv_X2_clean⟩ (ci := 2) (rfl) rfl ((zX_0_7 hX).2.2) rfl rfl (Nat.le_of_ble_eq_true rfl) m16 (Or.inl rfl) ?_
      show Z zm_X11_judge kz Q 122 [(0, zR 0), (1, zI v1), (2, zR b1), (3, zI v3)] [zI x14] (d, G, E15)
      refine Z.pop_i dX11_judge_122 (fun _ => rfl) ?_
      obtain ⟨z18, K⟩ := K
      refine Z.iinc (k := 3) (ls' := [(3, zI ((v3 + 1))), (0, zR 0), (1, zI v1), (2, zR b1)]) dX11_judge_123 rfl (by decide) z18 rfl ?_
      refine Z.goto 84 dX11_judge_126 rfl ?_
      refine Z.pick (ls' := [(0, zR 0), (1, zI v1), (2, zR b1), (3, zI ((v3 + 1)))]) [1, 2, 3, 0] rfl ?_
      exact K
    · replace K := K.2 c13
      refine Z.iconst (n := 0) dX11_judge_109 ⟨by decide, by decide⟩ ?_
      exact Z.iret (ty := .int) dX11_judge_110 rfl rfl K
set_option maxRecDepth 20000 in
theorem X11_proof_0 {kz : Nat × Nat} {Q : Option zV → zH → Prop} {d : List Nat} {G : Nat → Int → Option Nat} {E : Nat → Int → Int} {v1 : Int} (hX : zK zXt d G) (K : ((E 0 15) ≠ 1 → Q (some (zI ((-1)))) (d, G, E)) ∧ (¬ ((E 0 15) ≠ 1) → (0 ≤ v1 → ∃ E3, zM zm_X7_markProof [zR 5] (d, G, E) none (d, G, E3) ∧ Z zm_X11_proof kz Q 25 [(0, zR 0), (1, zI v1), (2, zI 0), (3, zI 0)] [] (d, G, E3)) ∧ (¬ (0 ≤ v1) → Q (some (zI ((-1)))) (d, G, E)))) : Z zm_X11_proof kz Q 0 [(0, zR 0), (1, zI v1)] [] (d, G, E) := by
  refine Z.aload_n (k := 0) dX11_proof_0 rfl ?_
  refine Y.getI 15 dX11_proof_1 zl_X11_106 (rfl) (by decide) rfl (zX_0_0 hX).2.1 ?_
  refine Z.iconst (n := 1) dX11_proof_4 ⟨by decide, by decide⟩ ?_
  refine Z.icmp_ne 12 dX11_proof_5 rfl ⟨fun c1 => ?_, fun c1 => ?_⟩
  · replace K := K.1 c1
    refine Z.iconst (n := -1) dX11_proof_12 ⟨by decide, by decide⟩ ?_
    exact Z.iret (ty := .int) dX11_proof_13 rfl rfl K
  · replace K := K.2 c1
    refine Z.iload_n (k := 1) dX11_proof_8 rfl ?_
    refine Z.if_ge 14 dX11_proof_9 rfl ⟨fun c2 => ?_, fun c2 => ?_⟩
    · replace K := K.1 c2
      refine Z.aload_n (k := 0) dX11_proof_14 rfl ?_
      refine Y.getR (o := some 5) 1 dX11_proof_15 zl_X11_19 (rfl) (by decide) rfl (zX_0_0 hX).2.1 (zX_0_1 hX).1 ?_
      obtain ⟨E3, m4, K⟩ := K
      refine Y.callV (g := zm_X7_markProof) (vs := []) (st := []) dX11_proof_18 ⟨zg_X7_markProof.1, zg_X7_markProof.2.1, zg_X7_markProof.2.2, by decide⟩ ⟨zk_X11_244, zv_X7_markProof⟩ (ci := 7) (rfl) rfl ((zX_0_1 hX).2.2) rfl rfl (Nat.le_of_ble_eq_true rfl) m4 (Or.inl rfl) ?_
      show Z zm_X11_proof kz Q 21 [(0, zR 0), (1, zI v1)] [] (d, G, E3)
      refine Z.iconst (n := 0) dX11_proof_21 ⟨by decide, by decide⟩ ?_
      refine Z.istore_n (ls' := [(2, zI 0), (0, zR 0), (1, zI v1)]) dX11_proof_22 (by decide) rfl ?_
      refine Z.iconst (n := 0) dX11_proof_23 ⟨by decide, by decide⟩ ?_
      refine Z.istore_n (ls' := [(3, zI 0), (2, zI 0), (0, zR 0), (1, zI v1)]) dX11_proof_24 (by decide) rfl ?_
      refine Z.pick (ls' := [(0, zR 0), (1, zI v1), (2, zI 0), (3, zI 0)]) [2, 3, 1, 0] rfl ?_
      exact K
    · replace K := K.2 c2
      refine Z.iconst (n := -1) dX11_proof_12 ⟨by decide, by decide⟩ ?_
      exact Z.iret (ty := .int) dX11_proof_13 rfl rfl K
set_option maxRecDepth 20000 in
theorem X11_proof_25 {kz : Nat × Nat} {Q : Option zV → zH → Prop} {d : List Nat} {G : Nat → Int → Option Nat} {E : Nat → Int → Int} {v1 : Int} {v2 : Int} {v3 : Int} (hX : zK zXt d G) (K : ((E 5 4) ≤ v3 → Q (some (zI ((-1)))) (d, G, E)) ∧ (¬ ((E 5 4) ≤ v3) → ((0 : Int) ≤ v3 ∧ v3 < 150) ∧ ((E 7 v3) = 0 → zin (v3 + 1) ∧ Z zm_X11_proof kz Q 25 [(0, zR 0), (1, zI v1), (2, zI v2), (3, zI ((v3 + 1)))] [] (d, G, E)) ∧ (¬ ((E 7 v3) = 0) → (v2 ≠ v1 → zin (v2 + 1) ∧ zin (v3 + 1) ∧ Z zm_X11_proof kz Q 25 [(0, zR 0), (1, zI v1), (2, zI ((v2 + 1))), (3, zI ((v3 + 1)))] [] (d, G, E)) ∧ (¬ (v2 ≠ v1) → Q (some (zI v3)) (d, G, E))))) : Z zm_X11_proof kz Q 25 [(0, zR 0), (1, zI v1), (2, zI v2), (3, zI v3)] [] (d, G, E) := by
  refine Z.iload_n (k := 3) dX11_proof_25 rfl ?_
  refine Z.aload_n (k := 0) dX11_proof_26 rfl ?_
  refine Y.getR (o := some 5) 1 dX11_proof_27 zl_X11_19 (rfl) (by decide) rfl (zX_0_0 hX).2.1 (zX_0_1 hX).1 ?_
  refine Y.getI 4 dX11_proof_30 zl_X11_124 (rfl) (by decide) rfl (zX_0_1 hX).2.2 ?_
  refine Z.icmp_ge 64 dX11_proof_33 rfl ⟨fun c1 => ?_, fun c1 => ?_⟩
  · replace K := K.1 c1
    refine Z.iconst (n := -1) dX11_proof_64 ⟨by decide, by decide⟩ ?_
    exact Z.iret (ty := .int) dX11_proof_65 rfl rfl K
  · replace K := K.2 c1
    refine Z.aload_n (k := 0) dX11_proof_36 rfl ?_
    refine Y.getR (o := some 5) 1 dX11_proof_37 zl_X11_19 (rfl) (by decide) rfl (zX_0_0 hX).2.1 (zX_0_1 hX).1 ?_
    refine Y.getR (o := some 7) 1 dX11_proof_40 zl_X11_247 (rfl) (by decide) rfl (zX_0_1 hX).2.2 (zX_5_1 hX).1 ?_
    refine Z.iload_n (k := 3) dX11_proof_43 rfl ?_
    obtain ⟨z2, K⟩ := K
    refine Y.zald dX11_proof_44 (rfl) ((zX_5_1 hX).2.2) z2 ?_
    refine Z.if_eq 58 dX11_proof_45 rfl ⟨fun c3 => ?_, fun c3 => ?_⟩
    · replace K := K.1 c3
      obtain ⟨z4, K⟩ := K
      refine Z.iinc (k := 3) (ls' := [(3, zI ((v3 + 1))), (0, zR 0), (1, zI v1), (2, zI v2)]) dX11_proof_58 rfl (by decide) z4 rfl ?_
      refine Z.goto 25 dX11_proof_61 rfl ?_
      refine Z.pick (ls' := [(0, zR 0), (1, zI v1), (2, zI v2), (3, zI ((v3 + 1)))]) [1, 2, 3, 0] rfl ?_
      exact K
    · replace K := K.2 c3
      refine Z.iload_n (k := 2) dX11_proof_48 rfl ?_
      refine Z.iload_n (k := 1) dX11_proof_49 rfl ?_
      refine Z.icmp_ne 55 dX11_proof_50 rfl ⟨fun c5 => ?_, fun c5 => ?_⟩
      · replace K := K.1 c5
        obtain ⟨z6, K⟩ := K
        refine Z.iinc (k := 2) (ls' := [(2, zI ((v2 + 1))), (0, zR 0), (1, zI v1), (3, zI v3)]) dX11_proof_55 rfl (by decide) z6 rfl ?_
        obtain ⟨z7, K⟩ := K
        refine Z.iinc (k := 3) (ls' := [(3, zI ((v3 + 1))), (2, zI ((v2 + 1))), (0, zR 0), (1, zI v1)]) dX11_proof_58 rfl (by decide) z7 rfl ?_
        refine Z.goto 25 dX11_proof_61 rfl ?_
        refine Z.pick (ls' := [(0, zR 0), (1, zI v1), (2, zI ((v2 + 1))), (3, zI ((v3 + 1)))]) [2, 3, 1, 0] rfl ?_
        exact K
      · replace K := K.2 c5
        refine Z.iload_n (k := 3) dX11_proof_53 rfl ?_
        exact Z.iret (ty := .int) dX11_proof_54 rfl rfl K
set_option maxRecDepth 20000 in
theorem X11_order_0 {kz : Nat × Nat} {Q : Option zV → zH → Prop} {d : List Nat} {G : Nat → Int → Option Nat} {E : Nat → Int → Int} {v1 : Int} {v2 : Int} {v3 : Int} {v4 : Int} (hX : zK zXt d G) (K : ∃ o1, zM zm_X7_at [zR 5, zI v1] (d, G, E) (some (zO o1)) (d, G, E) ∧ ∃ o4, zM zm_X7_at [zR 5, zI v3] (d, G, E) (some (zO o4)) (d, G, E) ∧ (o1 = none → Q (some (zI ((-2)))) (d, G, E)) ∧ (¬ (o1 = none) → (o4 = none → Q (some (zI ((-2)))) (d, G, E)) ∧ (¬ (o4 = none) → ∃ b9, o1 = some b9 ∧ zCk d G b9 ∧ ∃ x12, zM zm_X5_has [zR ((b9 + 1)), zI v2] (d, G, E) (some (zI x12)) (d, G, E) ∧ (x12 = 0 → Q (some (zI ((-2)))) (d, G, E)) ∧ (¬ (x12 = 0) → ∃ b16, o4 = some b16 ∧ zCk d G b16 ∧ ∃ x19, zM zm_X5_has [zR ((b16 + 1)), zI v4] (d, G, E) (some (zI x19)) (d, G, E) ∧ (x19 ≠ 0 → ((0 : Int) ≤ v2 ∧ v2 < 7) ∧ ((0 : Int) ≤ v4 ∧ v4 < 7) ∧ ((0 : Int) ≤ (E ((b9 + 1) + 2) v2) ∧ (E ((b9 + 1) + 2) v2) < 180) ∧ ∃ x26, zM zm_X8_partsOf [zR 1, zI ((E ((b9 + 1) + 1) (E ((b9 + 1) + 2) v2)))] (d, G, E) (some (zI x26)) (d, G, E) ∧ (x26 = 0 → Q (some (zI ((-2)))) (d, G, E)) ∧ (¬ (x26 = 0) → ((0 : Int) ≤ (E ((b16 + 1) + 2) v4) ∧ (E ((b16 + 1) + 2) v4) < 180) ∧ ∃ x31, zM zm_X8_partsOf [zR 1, zI ((E ((b16 + 1) + 1) (E ((b16 + 1) + 2) v4)))] (d, G, E) (some (zI x31)) (d, G, E) ∧ (x31 ≠ 0 → zin ((E ((b9 + 1) + 2) v2) + 1) ∧ zin ((E ((b16 + 1) + 2) v4) + 1) ∧ ∃ x37 E38, zM zm_X6_compare [zR 18, zR ((b9 + 1) + 1), zI (((E ((b9 + 1) + 2) v2) + 1)), zR ((b16 + 1) + 1), zI (((E ((b16 + 1) + 2) v4) + 1))] (d, G, E) (some (zI x37)) (d, G, E38) ∧ Q (some (zI x37)) (d, G, E38)) ∧ (¬ (x31 ≠ 0) → Q (some (zI ((-2)))) (d, G, E)))) ∧ (¬ (x19 ≠ 0) → Q (some (zI ((-2)))) (d, G, E)))))) : Z zm_X11_order kz Q 0 [(0, zR 0), (1, zI v1), (2, zI v2), (3, zI v3), (4, zI v4)] [] (d, G, E) := by
  refine Z.aload_n (k := 0) dX11_order_0 rfl ?_
  refine Y.getR (o := some 5) 1 dX11_order_1 zl_X11_19 (rfl) (by decide) rfl (zX_0_0 hX).2.1 (zX_0_1 hX).1 ?_
  refine Z.iload_n (k := 1) dX11_order_4 rfl ?_
  obtain ⟨o1, m2, K⟩ := K
  refine Y.callV (g := zm_X7_at) (vs := [zI v1]) (st := []) dX11_order_5 ⟨zg_X7_at.1, zg_X7_at.2.1, zg_X7_at.2.2, by decide⟩ ⟨zk_X11_170, zv_X7_at⟩ (ci := 7) (rfl) rfl ((zX_0_1 hX).2.2) rfl rfl (Nat.le_of_ble_eq_true rfl) m2 (Or.inl rfl) ?_
  show Z zm_X11_order kz Q 8 [(0, zR 0), (1, zI v1), (2, zI v2), (3, zI v3), (4, zI v4)] [zO o1] (d, G, E)
  refine Z.astore (ls' := [(5, zO o1), (0, zR 0), (1, zI v1), (2, zI v2), (3, zI v3), (4, zI v4)]) dX11_order_8 (by decide) rfl ?_
  refine Z.aload_n (k := 1) dX11_order_10 rfl ?_
  refine Y.getR (o := some 5) 1 dX11_order_11 zl_X11_19 (rfl) (by decide) rfl (zX_0_0 hX).2.1 (zX_0_1 hX).1 ?_
  refine Z.iload_n (k := 4) dX11_order_14 rfl ?_
  obtain ⟨o4, m5, K⟩ := K
  refine Y.callV (g := zm_X7_at) (vs := [zI v3]) (st := []) dX11_order_15 ⟨zg_X7_at.1, zg_X7_at.2.1, zg_X7_at.2.2, by decide⟩ ⟨zk_X11_170, zv_X7_at⟩ (ci := 7) (rfl) rfl ((zX_0_1 hX).2.2) rfl rfl (Nat.le_of_ble_eq_true rfl) m5 (Or.inl rfl) ?_
  show Z zm_X11_order kz Q 18 [(5, zO o1), (0, zR 0), (1, zI v1), (2, zI v2), (3, zI v3), (4, zI v4)] [zO o4] (d, G, E)
  refine Z.astore (ls' := [(6, zO o4), (5, zO o1), (0, zR 0), (1, zI v1), (2, zI v2), (3, zI v3), (4, zI v4)]) dX11_order_18 (by decide) rfl ?_
  refine Z.aload (k := 1) dX11_order_20 rfl ?_
  refine Z.ifnull 55 dX11_order_22 rfl ⟨fun c7 => ?_, fun c7 => ?_⟩
  · replace K := K.1 c7
    refine Z.bipush (n := -2) dX11_order_55 ⟨by decide, by decide⟩ (by decide) ?_
    exact Z.iret (ty := .int) dX11_order_57 rfl rfl K
  · replace K := K.2 c7
    refine Z.aload (k := 0) dX11_order_25 rfl ?_
    refine Z.ifnull 55 dX11_order_27 rfl ⟨fun c8 => ?_, fun c8 => ?_⟩
    · replace K := K.1 c8
      refine Z.bipush (n := -2) dX11_order_55 ⟨by decide, by decide⟩ (by decide) ?_
      exact Z.iret (ty := .int) dX11_order_57 rfl rfl K
    · replace K := K.2 c8
      refine Z.aload (k := 1) dX11_order_30 rfl ?_
      obtain ⟨b9, e10, hc11, K⟩ := K
      rw [e10]
      refine Y.getR (o := some ((b9 + 1))) 0 dX11_order_32 zl_X11_174 (congrArg Prod.fst hc11.1) (by decide) rfl hc11.2.1 hc11.2.2.2.1 ?_
      refine Z.iload_n (k := 4) dX11_order_35 rfl ?_
      obtain ⟨x12, m13, K⟩ := K
      refine Y.callV (g := zm_X5_has) (vs := [zI v2]) (st := []) dX11_order_36 ⟨zg_X5_has.1, zg_X5_has.2.1, zg_X5_has.2.2, by decide⟩ ⟨zk_X11_197, zv_X5_has⟩ (ci := 5) (congrArg Prod.fst hc11.2.2.1.1) rfl (hc11.2.2.1.2.2.2.2.1) rfl rfl (Nat.le_of_ble_eq_true rfl) m13 (Or.inl rfl) ?_
      show Z zm_X11_order kz Q 39 [(6, zO o4), (5, zR b9), (0, zR 0), (1, zI v1), (2, zI v2), (3, zI v3), (4, zI v4)] [zI x12] (d, G, E)
      refine Z.if_eq 55 dX11_order_39 rfl ⟨fun c15 => ?_, fun c15 => ?_⟩
      · replace K := K.1 c15
        refine Z.bipush (n := -2) dX11_order_55 ⟨by decide, by decide⟩ (by decide) ?_
        exact Z.iret (ty := .int) dX11_order_57 rfl rfl K
      · replace K := K.2 c15
        refine Z.aload (k := 0) dX11_order_42 rfl ?_
        obtain ⟨b16, e17, hc18, K⟩ := K
        rw [e17]
        refine Y.getR (o := some ((b16 + 1))) 0 dX11_order_44 zl_X11_174 (congrArg Prod.fst hc18.1) (by decide) rfl hc18.2.1 hc18.2.2.2.1 ?_
        refine Z.iload (k := 6) dX11_order_47 rfl ?_
        obtain ⟨x19, m20, K⟩ := K
        refine Y.callV (g := zm_X5_has) (vs := [zI v4]) (st := []) dX11_order_49 ⟨zg_X5_has.1, zg_X5_has.2.1, zg_X5_has.2.2, by decide⟩ ⟨zk_X11_197, zv_X5_has⟩ (ci := 5) (congrArg Prod.fst hc18.2.2.1.1) rfl (hc18.2.2.1.2.2.2.2.1) rfl rfl (Nat.le_of_ble_eq_true rfl) m20 (Or.inl rfl) ?_
        show Z zm_X11_order kz Q 52 [(6, zR b16), (5, zR b9), (0, zR 0), (1, zI v1), (2, zI v2), (3, zI v3), (4, zI v4)] [zI x19] (d, G, E)
        refine Z.if_ne 58 dX11_order_52 rfl ⟨fun c22 => ?_, fun c22 => ?_⟩
        · replace K := K.1 c22
          refine Z.aload (k := 1) dX11_order_58 rfl ?_
          refine Y.getR (o := some ((b9 + 1))) 0 dX11_order_60 zl_X11_174 (congrArg Prod.fst hc11.1) (by decide) rfl hc11.2.1 hc11.2.2.2.1 ?_
          refine Y.getR (o := some ((b9 + 1) + 2)) 1 dX11_order_63 zl_X11_213 (congrArg Prod.fst hc11.2.2.1.1) (by decide) rfl hc11.2.2.1.2.2.2.2.1 hc11.2.2.1.2.2.2.2.2.2.2.2.2.1 ?_
          refine Z.iload_n (k := 4) dX11_order_66 rfl ?_
          obtain ⟨z23, K⟩ := K
          refine Y.iald dX11_order_67 (hc11.2.2.1.2.2.1) (hc11.2.2.1.2.2.2.2.2.2.1) z23 ?_
          refine Z.istore (ls' := [(7, zI ((E ((b9 + 1) + 2) v2))), (6, zR b16), (5, zR b9), (0, zR 0), (1, zI v1), (2, zI v2), (3, zI v3), (4, zI v4)]) dX11_order_68 (by decide) rfl ?_
          refine Z.aload (k := 1) dX11_order_70 rfl ?_
          refine Y.getR (o := some ((b16 + 1))) 0 dX11_order_72 zl_X11_174 (congrArg Prod.fst hc18.1) (by decide) rfl hc18.2.1 hc18.2.2.2.1 ?_
          refine Y.getR (o := some ((b16 + 1) + 2)) 1 dX11_order_75 zl_X11_213 (congrArg Prod.fst hc18.2.2.1.1) (by decide) rfl hc18.2.2.1.2.2.2.2.1 hc18.2.2.1.2.2.2.2.2.2.2.2.2.1 ?_
          refine Z.iload (k := 7) dX11_order_78 rfl ?_
          obtain ⟨z24, K⟩ := K
          refine Y.iald dX11_order_80 (hc18.2.2.1.2.2.1) (hc18.2.2.1.2.2.2.2.2.2.1) z24 ?_
          refine Z.istore (ls' := [(8, zI ((E ((b16 + 1) + 2) v4))), (7, zI ((E ((b9 + 1) + 2) v2))), (6, zR b16), (5, zR b9), (0, zR 0), (1, zI v1), (2, zI v2), (3, zI v3), (4, zI v4)]) dX11_order_81 (by decide) rfl ?_
          refine Z.aload_n (k := 4) dX11_order_83 rfl ?_
          refine Y.getR (o := some 1) 0 dX11_order_84 zl_X11_12 (rfl) (by decide) rfl (zX_0_0 hX).2.1 (zX_0_0 hX).1 ?_
          refine Z.aload (k := 3) dX11_order_87 rfl ?_
          refine Y.getR (o := some ((b9 + 1))) 0 dX11_order_89 zl_X11_174 (congrArg Prod.fst hc11.1) (by decide) rfl hc11.2.1 hc11.2.2.2.1 ?_
          refine Y.getR (o := some ((b9 + 1) + 1)) 0 dX11_order_92 zl_X11_210 (congrArg Prod.fst hc11.2.2.1.1) (by decide) rfl hc11.2.2.1.2.2.2.2.1 hc11.2.2.1.2.2.2.2.2.2.2.2.1 ?_
          refine Z.iload (k := 1) dX11_order_95 rfl ?_
          obtain ⟨z25, K⟩ := K
          refine Y.iald dX11_order_97 (hc11.2.2.1.2.1) (hc11.2.2.1.2.2.2.2.2.1) z25 ?_
          obtain ⟨x26, m27, K⟩ := K
          refine Y.callV (g := zm_X8_partsOf) (vs := [zI ((E ((b9 + 1) + 1) (E ((b9 + 1) + 2) v2)))]) (st := []) dX11_order_98 ⟨zg_X8_partsOf.1, zg_X8_partsOf.2.1, zg_X8_partsOf.2.2, by decide⟩ ⟨zk_X11_250, zv_X8_partsOf⟩ (ci := 8) (rfl) rfl ((zX_0_0 hX).2.2) rfl rfl (Nat.le_of_ble_eq_true rfl) m27 (Or.inl rfl) ?_
          show Z zm_X11_order kz Q 101 [(8, zI ((E ((b16 + 1) + 2) v4))), (7, zI ((E ((b9 + 1) + 2) v2))), (6, zR b16), (5, zR b9), (0, zR 0), (1, zI v1), (2, zI v2), (3, zI v3), (4, zI v4)] [zI x26] (d, G, E)
          refine Z.if_eq 125 dX11_order_101 rfl ⟨fun c29 => ?_, fun c29 => ?_⟩
          · replace K := K.1 c29
            refine Z.bipush (n := -2) dX11_order_125 ⟨by decide, by decide⟩ (by decide) ?_
            exact Z.iret (ty := .int) dX11_order_127 rfl rfl K
          · replace K := K.2 c29
            refine Z.aload_n (k := 4) dX11_order_104 rfl ?_
            refine Y.getR (o := some 1) 0 dX11_order_105 zl_X11_12 (rfl) (by decide) rfl (zX_0_0 hX).2.1 (zX_0_0 hX).1 ?_
            refine Z.aload (k := 2) dX11_order_108 rfl ?_
            refine Y.getR (o := some ((b16 + 1))) 0 dX11_order_110 zl_X11_174 (congrArg Prod.fst hc18.1) (by decide) rfl hc18.2.1 hc18.2.2.2.1 ?_
            refine Y.getR (o := some ((b16 + 1) + 1)) 0 dX11_order_113 zl_X11_210 (congrArg Prod.fst hc18.2.2.1.1) (by decide) rfl hc18.2.2.1.2.2.2.2.1 hc18.2.2.1.2.2.2.2.2.2.2.2.1 ?_
            refine Z.iload (k := 0) dX11_order_116 rfl ?_
            obtain ⟨z30, K⟩ := K
            refine Y.iald dX11_order_118 (hc18.2.2.1.2.1) (hc18.2.2.1.2.2.2.2.2.1) z30 ?_
            obtain ⟨x31, m32, K⟩ := K
            refine Y.callV (g := zm_X8_partsOf) (vs := [zI ((E ((b16 + 1) + 1) (E ((b16 + 1) + 2) v4)))]) (st := []) dX11_order_119 ⟨zg_X8_partsOf.1, zg_X8_partsOf.2.1, zg_X8_partsOf.2.2, by decide⟩ ⟨zk_X11_250, zv_X8_partsOf⟩ (ci := 8) (rfl) rfl ((zX_0_0 hX).2.2) rfl rfl (Nat.le_of_ble_eq_true rfl) m32 (Or.inl rfl) ?_
            show Z zm_X11_order kz Q 122 [(8, zI ((E ((b16 + 1) + 2) v4))), (7, zI ((E ((b9 + 1) + 2) v2))), (6, zR b16), (5, zR b9), (0, zR 0), (1, zI v1), (2, zI v2), (3, zI v3), (4, zI v4)] [zI x31] (d, G, E)
            refine Z.if_ne 128 dX11_order_122 rfl ⟨fun c34 => ?_, fun c34 => ?_⟩
            · replace K := K.1 c34
              refine Z.aload_n (k := 4) dX11_order_128 rfl ?_
              refine Y.getR (o := some 18) 5 dX11_order_129 zl_X11_42 (rfl) (by decide) rfl (zX_0_0 hX).2.1 (zX_0_5 hX).1 ?_
              refine Z.aload (k := 3) dX11_order_132 rfl ?_
              refine Y.getR (o := some ((b9 + 1))) 0 dX11_order_134 zl_X11_174 (congrArg Prod.fst hc11.1) (by decide) rfl hc11.2.1 hc11.2.2.2.1 ?_
              refine Y.getR (o := some ((b9 + 1) + 1)) 0 dX11_order_137 zl_X11_210 (congrArg Prod.fst hc11.2.2.1.1) (by decide) rfl hc11.2.2.1.2.2.2.2.1 hc11.2.2.1.2.2.2.2.2.2.2.2.1 ?_
              refine Z.iload (k := 1) dX11_order_140 rfl ?_
              refine Z.iconst (n := 1) dX11_order_142 ⟨by decide, by decide⟩ ?_
              obtain ⟨z35, K⟩ := K
              refine Z.iadd dX11_order_143 z35 ?_
              refine Z.aload (k := 2) dX11_order_144 rfl ?_
              refine Y.getR (o := some ((b16 + 1))) 0 dX11_order_146 zl_X11_174 (congrArg Prod.fst hc18.1) (by decide) rfl hc18.2.1 hc18.2.2.2.1 ?_
              refine Y.getR (o := some ((b16 + 1) + 1)) 0 dX11_order_149 zl_X11_210 (congrArg Prod.fst hc18.2.2.1.1) (by decide) rfl hc18.2.2.1.2.2.2.2.1 hc18.2.2.1.2.2.2.2.2.2.2.2.1 ?_
              refine Z.iload (k := 0) dX11_order_152 rfl ?_
              refine Z.iconst (n := 1) dX11_order_154 ⟨by decide, by decide⟩ ?_
              obtain ⟨z36, K⟩ := K
              refine Z.iadd dX11_order_155 z36 ?_
              obtain ⟨x37, E38, m39, K⟩ := K
              refine Y.callV (g := zm_X6_compare) (vs := [zR ((b9 + 1) + 1), zI (((E ((b9 + 1) + 2) v2) + 1)), zR ((b16 + 1) + 1), zI (((E ((b16 + 1) + 2) v4) + 1))]) (st := []) dX11_order_156 ⟨zg_X6_compare.1, zg_X6_compare.2.1, zg_X6_compare.2.2, by decide⟩ ⟨zk_X11_253, zv_X6_compare⟩ (ci := 6) (rfl) rfl ((zX_0_5 hX).2.2) rfl rfl (Nat.le_of_ble_eq_true rfl) m39 (Or.inl rfl) ?_
              show Z zm_X11_order kz Q 159 [(8, zI ((E ((b16 + 1) + 2) v4))), (7, zI ((E ((b9 + 1) + 2) v2))), (6, zR b16), (5, zR b9), (0, zR 0), (1, zI v1), (2, zI v2), (3, zI v3), (4, zI v4)] [zI x37] (d, G, E38)
              exact Z.iret (ty := .int) dX11_order_159 rfl rfl K
            · replace K := K.2 c34
              refine Z.bipush (n := -2) dX11_order_125 ⟨by decide, by decide⟩ (by decide) ?_
              exact Z.iret (ty := .int) dX11_order_127 rfl rfl K
        · replace K := K.2 c22
          refine Z.bipush (n := -2) dX11_order_55 ⟨by decide, by decide⟩ (by decide) ?_
          exact Z.iret (ty := .int) dX11_order_57 rfl rfl K
set_option maxRecDepth 20000 in
theorem X11_takesIn_0 {kz : Nat × Nat} {Q : Option zV → zH → Prop} {d : List Nat} {G : Nat → Int → Option Nat} {E : Nat → Int → Int} {v1 : Int} {v2 : Int} (hX : zK zXt d G) (K : ∃ o1, zM zm_X7_at [zR 5, zI v1] (d, G, E) (some (zO o1)) (d, G, E) ∧ ∃ o4, zM zm_X7_at [zR 5, zI v2] (d, G, E) (some (zO o4)) (d, G, E) ∧ (o1 = none → Q (some (zI ((-2)))) (d, G, E)) ∧ (¬ (o1 = none) → (o4 ≠ none → ∃ b9, o1 = some b9 ∧ zCk d G b9 ∧ ∃ b12, o4 = some b12 ∧ zCk d G b12 ∧ ∃ x15 E16, zM zm_X10_takes [zR 33, zR ((b9 + 1)), zR ((b12 + 1))] (d, G, E) (some (zI x15)) (d, G, E16) ∧ (x15 = 0 → Q (some (zI 0)) (d, G, E16)) ∧ (¬ (x15 = 0) → Q (some (zI 1)) (d, G, E16))) ∧ (¬ (o4 ≠ none) → Q (some (zI ((-2)))) (d, G, E)))) : Z zm_X11_takesIn kz Q 0 [(0, zR 0), (1, zI v1), (2, zI v2)] [] (d, G, E) := by
  refine Z.aload_n (k := 0) dX11_takesIn_0 rfl ?_
  refine Y.getR (o := some 5) 1 dX11_takesIn_1 zl_X11_19 (rfl) (by decide) rfl (zX_0_0 hX).2.1 (zX_0_1 hX).1 ?_
  refine Z.iload_n (k := 1) dX11_takesIn_4 rfl ?_
  obtain ⟨o1, m2, K⟩ := K
  refine Y.callV (g := zm_X7_at) (vs := [zI v1]) (st := []) dX11_takesIn_5 ⟨zg_X7_at.1, zg_X7_at.2.1, zg_X7_at.2.2, by decide⟩ ⟨zk_X11_170, zv_X7_at⟩ (ci := 7) (rfl) rfl ((zX_0_1 hX).2.2) rfl rfl (Nat.le_of_ble_eq_true rfl) m2 (Or.inl rfl) ?_
  show Z zm_X11_takesIn kz Q 8 [(0, zR 0), (1, zI v1), (2, zI v2)] [zO o1] (d, G, E)
  refine Z.astore_n (ls' := [(3, zO o1), (0, zR 0), (1, zI v1), (2, zI v2)]) dX11_takesIn_8 (by decide) rfl ?_
  refine Z.aload_n (k := 1) dX11_takesIn_9 rfl ?_
  refine Y.getR (o := some 5) 1 dX11_takesIn_10 zl_X11_19 (rfl) (by decide) rfl (zX_0_0 hX).2.1 (zX_0_1 hX).1 ?_
  refine Z.iload_n (k := 3) dX11_takesIn_13 rfl ?_
  obtain ⟨o4, m5, K⟩ := K
  refine Y.callV (g := zm_X7_at) (vs := [zI v2]) (st := []) dX11_takesIn_14 ⟨zg_X7_at.1, zg_X7_at.2.1, zg_X7_at.2.2, by decide⟩ ⟨zk_X11_170, zv_X7_at⟩ (ci := 7) (rfl) rfl ((zX_0_1 hX).2.2) rfl rfl (Nat.le_of_ble_eq_true rfl) m5 (Or.inl rfl) ?_
  show Z zm_X11_takesIn kz Q 17 [(3, zO o1), (0, zR 0), (1, zI v1), (2, zI v2)] [zO o4] (d, G, E)
  refine Z.astore (ls' := [(4, zO o4), (3, zO o1), (0, zR 0), (1, zI v1), (2, zI v2)]) dX11_takesIn_17 (by decide) rfl ?_
  refine Z.aload_n (k := 1) dX11_takesIn_19 rfl ?_
  refine Z.ifnull 28 dX11_takesIn_20 rfl ⟨fun c7 => ?_, fun c7 => ?_⟩
  · replace K := K.1 c7
    refine Z.bipush (n := -2) dX11_takesIn_28 ⟨by decide, by decide⟩ (by decide) ?_
    exact Z.iret (ty := .int) dX11_takesIn_30 rfl rfl K
  · replace K := K.2 c7
    refine Z.aload (k := 0) dX11_takesIn_23 rfl ?_
    refine Z.ifnonnull 31 dX11_takesIn_25 rfl ⟨fun c8 => ?_, fun c8 => ?_⟩
    · replace K := K.1 c8
      refine Z.aload_n (k := 2) dX11_takesIn_31 rfl ?_
      refine Y.getR (o := some 33) 8 dX11_takesIn_32 zl_X11_67 (rfl) (by decide) rfl (zX_0_0 hX).2.1 (zX_0_8 hX).1 ?_
      refine Z.aload_n (k := 1) dX11_takesIn_35 rfl ?_
      obtain ⟨b9, e10, hc11, K⟩ := K
      rw [e10]
      refine Y.getR (o := some ((b9 + 1))) 0 dX11_takesIn_36 zl_X11_174 (congrArg Prod.fst hc11.1) (by decide) rfl hc11.2.1 hc11.2.2.2.1 ?_
      refine Z.aload (k := 0) dX11_takesIn_39 rfl ?_
      obtain ⟨b12, e13, hc14, K⟩ := K
      rw [e13]
      refine Y.getR (o := some ((b12 + 1))) 0 dX11_takesIn_41 zl_X11_174 (congrArg Prod.fst hc14.1) (by decide) rfl hc14.2.1 hc14.2.2.2.1 ?_
      obtain ⟨x15, E16, m17, K⟩ := K
      refine Y.callV (g := zm_X10_takes) (vs := [zR ((b9 + 1)), zR ((b12 + 1))]) (st := []) dX11_takesIn_44 ⟨zg_X10_takes.1, zg_X10_takes.2.1, zg_X10_takes.2.2, by decide⟩ ⟨zk_X11_257, zv_X10_takes⟩ (ci := 10) (rfl) rfl ((zX_0_8 hX).2.2) rfl rfl (Nat.le_of_ble_eq_true rfl) m17 (Or.inl rfl) ?_
      show Z zm_X11_takesIn kz Q 47 [(4, zR b12), (3, zR b9), (0, zR 0), (1, zI v1), (2, zI v2)] [zI x15] (d, G, E16)
      refine Z.if_eq 54 dX11_takesIn_47 rfl ⟨fun c19 => ?_, fun c19 => ?_⟩
      · replace K := K.1 c19
        refine Z.iconst (n := 0) dX11_takesIn_54 ⟨by decide, by decide⟩ ?_
        exact Z.iret (ty := .int) dX11_takesIn_55 rfl rfl K
      · replace K := K.2 c19
        refine Z.iconst (n := 1) dX11_takesIn_50 ⟨by decide, by decide⟩ ?_
        refine Z.goto 55 dX11_takesIn_51 rfl ?_
        exact Z.iret (ty := .int) dX11_takesIn_55 rfl rfl K
    · replace K := K.2 c8
      refine Z.bipush (n := -2) dX11_takesIn_28 ⟨by decide, by decide⟩ (by decide) ?_
      exact Z.iret (ty := .int) dX11_takesIn_30 rfl rfl K
set_option maxRecDepth 20000 in
theorem X11_count_0 {kz : Nat × Nat} {Q : Option zV → zH → Prop} {d : List Nat} {G : Nat → Int → Option Nat} {E : Nat → Int → Int} {v1 : Int} (hX : zK zXt d G) (K : (v1 = 0 → Q (some (zI ((E 1 3)))) (d, G, E)) ∧ (v1 = 1 → Q (some (zI ((E 5 4)))) (d, G, E)) ∧ (v1 = 2 → ∃ x4, zM zm_X7_inState [zR 5, zI 0] (d, G, E) (some (zI x4)) (d, G, E) ∧ Q (some (zI x4)) (d, G, E)) ∧ (v1 = 3 → ∃ x8, zM zm_X7_inState [zR 5, zI 1] (d, G, E) (some (zI x8)) (d, G, E) ∧ Q (some (zI x8)) (d, G, E)) ∧ (v1 = 4 → ∃ x12, zM zm_X7_inState [zR 5, zI 2] (d, G, E) (some (zI x12)) (d, G, E) ∧ Q (some (zI x12)) (d, G, E)) ∧ (v1 = 5 → Q (some (zI ((E 0 17)))) (d, G, E)) ∧ (v1 = 6 → Q (some (zI ((E 0 18)))) (d, G, E)) ∧ (v1 = 7 → Q (some (zI ((E 0 19)))) (d, G, E)) ∧ (v1 = 8 → Q (some (zI ((E 0 20)))) (d, G, E)) ∧ (v1 = 9 → Q (some (zI ((E 0 16)))) (d, G, E)) ∧ (v1 = 10 → Q (some (zI ((E 0 15)))) (d, G, E)) ∧ (v1 = 11 → Q (some (zI ((E 0 12)))) (d, G, E)) ∧ ((v1 < 0 ∨ 11 < v1) → Q (some (zI ((-2)))) (d, G, E))) : Z zm_X11_count kz Q 0 [(0, zR 0), (1, zI v1)] [] (d, G, E) := by
  refine Z.iload_n (k := 1) dX11_count_0 rfl ?_
  by_cases c1 : v1 = 0
  · replace K := K.1 c1
    refine Z.tableIn (off := 63) 64 dX11_count_1 (by omega) (by omega) (by rw [c1]; rfl) rfl ?_
    refine Z.aload_n (k := 0) dX11_count_64 rfl ?_
    refine Y.getR (o := some 1) 0 dX11_count_65 zl_X11_12 (rfl) (by decide) rfl (zX_0_0 hX).2.1 (zX_0_0 hX).1 ?_
    refine Y.getI 3 dX11_count_68 zl_X11_261 (rfl) (by decide) rfl (zX_0_0 hX).2.2 ?_
    exact Z.iret (ty := .int) dX11_count_71 rfl rfl K
  replace K := K.2
  by_cases c2 : v1 = 1
  · replace K := K.1 c2
    refine Z.tableIn (off := 71) 72 dX11_count_1 (by omega) (by omega) (by rw [c2]; rfl) rfl ?_
    refine Z.aload_n (k := 0) dX11_count_72 rfl ?_
    refine Y.getR (o := some 5) 1 dX11_count_73 zl_X11_19 (rfl) (by decide) rfl (zX_0_0 hX).2.1 (zX_0_1 hX).1 ?_
    refine Y.getI 4 dX11_count_76 zl_X11_124 (rfl) (by decide) rfl (zX_0_1 hX).2.2 ?_
    exact Z.iret (ty := .int) dX11_count_79 rfl rfl K
  replace K := K.2
  by_cases c3 : v1 = 2
  · replace K := K.1 c3
    refine Z.tableIn (off := 79) 80 dX11_count_1 (by omega) (by omega) (by rw [c3]; rfl) rfl ?_
    refine Z.aload_n (k := 0) dX11_count_80 rfl ?_
    refine Y.getR (o := some 5) 1 dX11_count_81 zl_X11_19 (rfl) (by decide) rfl (zX_0_0 hX).2.1 (zX_0_1 hX).1 ?_
    refine Z.iconst (n := 0) dX11_count_84 ⟨by decide, by decide⟩ ?_
    obtain ⟨x4, m5, K⟩ := K
    refine Y.callV (g := zm_X7_inState) (vs := [zI 0]) (st := []) dX11_count_85 ⟨zg_X7_inState.1, zg_X7_inState.2.1, zg_X7_inState.2.2, by decide⟩ ⟨zk_X11_264, zv_X7_inState⟩ (ci := 7) (rfl) rfl ((zX_0_1 hX).2.2) rfl rfl (Nat.le_of_ble_eq_true rfl) m5 (Or.inl rfl) ?_
    show Z zm_X11_count kz Q 88 [(0, zR 0), (1, zI v1)] [zI x4] (d, G, E)
    exact Z.iret (ty := .int) dX11_count_88 rfl rfl K
  replace K := K.2
  by_cases c7 : v1 = 3
  · replace K := K.1 c7
    refine Z.tableIn (off := 88) 89 dX11_count_1 (by omega) (by omega) (by rw [c7]; rfl) rfl ?_
    refine Z.aload_n (k := 0) dX11_count_89 rfl ?_
    refine Y.getR (o := some 5) 1 dX11_count_90 zl_X11_19 (rfl) (by decide) rfl (zX_0_0 hX).2.1 (zX_0_1 hX).1 ?_
    refine Z.iconst (n := 1) dX11_count_93 ⟨by decide, by decide⟩ ?_
    obtain ⟨x8, m9, K⟩ := K
    refine Y.callV (g := zm_X7_inState) (vs := [zI 1]) (st := []) dX11_count_94 ⟨zg_X7_inState.1, zg_X7_inState.2.1, zg_X7_inState.2.2, by decide⟩ ⟨zk_X11_264, zv_X7_inState⟩ (ci := 7) (rfl) rfl ((zX_0_1 hX).2.2) rfl rfl (Nat.le_of_ble_eq_true rfl) m9 (Or.inl rfl) ?_
    show Z zm_X11_count kz Q 97 [(0, zR 0), (1, zI v1)] [zI x8] (d, G, E)
    exact Z.iret (ty := .int) dX11_count_97 rfl rfl K
  replace K := K.2
  by_cases c11 : v1 = 4
  · replace K := K.1 c11
    refine Z.tableIn (off := 97) 98 dX11_count_1 (by omega) (by omega) (by rw [c11]; rfl) rfl ?_
    refine Z.aload_n (k := 0) dX11_count_98 rfl ?_
    refine Y.getR (o := some 5) 1 dX11_count_99 zl_X11_19 (rfl) (by decide) rfl (zX_0_0 hX).2.1 (zX_0_1 hX).1 ?_
    refine Z.iconst (n := 2) dX11_count_102 ⟨by decide, by decide⟩ ?_
    obtain ⟨x12, m13, K⟩ := K
    refine Y.callV (g := zm_X7_inState) (vs := [zI 2]) (st := []) dX11_count_103 ⟨zg_X7_inState.1, zg_X7_inState.2.1, zg_X7_inState.2.2, by decide⟩ ⟨zk_X11_264, zv_X7_inState⟩ (ci := 7) (rfl) rfl ((zX_0_1 hX).2.2) rfl rfl (Nat.le_of_ble_eq_true rfl) m13 (Or.inl rfl) ?_
    show Z zm_X11_count kz Q 106 [(0, zR 0), (1, zI v1)] [zI x12] (d, G, E)
    exact Z.iret (ty := .int) dX11_count_106 rfl rfl K
  replace K := K.2
  by_cases c15 : v1 = 5
  · replace K := K.1 c15
    refine Z.tableIn (off := 106) 107 dX11_count_1 (by omega) (by omega) (by rw [c15]; rfl) rfl ?_
    refine Z.aload_n (k := 0) dX11_count_107 rfl ?_
    refine Y.getI 17 dX11_count_108 zl_X11_112 (rfl) (by decide) rfl (zX_0_0 hX).2.1 ?_
    exact Z.iret (ty := .int) dX11_count_111 rfl rfl K
  replace K := K.2
  by_cases c16 : v1 = 6
  · replace K := K.1 c16
    refine Z.tableIn (off := 111) 112 dX11_count_1 (by omega) (by omega) (by rw [c16]; rfl) rfl ?_
    refine Z.aload_n (k := 0) dX11_count_112 rfl ?_
    refine Y.getI 18 dX11_count_113 zl_X11_115 (rfl) (by decide) rfl (zX_0_0 hX).2.1 ?_
    exact Z.iret (ty := .int) dX11_count_116 rfl rfl K
  replace K := K.2
  by_cases c17 : v1 = 7
  · replace K := K.1 c17
    refine Z.tableIn (off := 116) 117 dX11_count_1 (by omega) (by omega) (by rw [c17]; rfl) rfl ?_
    refine Z.aload_n (k := 0) dX11_count_117 rfl ?_
    refine Y.getI 19 dX11_count_118 zl_X11_118 (rfl) (by decide) rfl (zX_0_0 hX).2.1 ?_
    exact Z.iret (ty := .int) dX11_count_121 rfl rfl K
  replace K := K.2
  by_cases c18 : v1 = 8
  · replace K := K.1 c18
    refine Z.tableIn (off := 121) 122 dX11_count_1 (by omega) (by omega) (by rw [c18]; rfl) rfl ?_
    refine Z.aload_n (k := 0) dX11_count_122 rfl ?_
    refine Y.getI 20 dX11_count_123 zl_X11_121 (rfl) (by decide) rfl (zX_0_0 hX).2.1 ?_
    exact Z.iret (ty := .int) dX11_count_126 rfl rfl K
  replace K := K.2
  by_cases c19 : v1 = 9
  · replace K := K.1 c19
    refine Z.tableIn (off := 126) 127 dX11_count_1 (by omega) (by omega) (by rw [c19]; rfl) rfl ?_
    refine Z.aload_n (k := 0) dX11_count_127 rfl ?_
    refine Y.getI 16 dX11_count_128 zl_X11_109 (rfl) (by decide) rfl (zX_0_0 hX).2.1 ?_
    exact Z.iret (ty := .int) dX11_count_131 rfl rfl K
  replace K := K.2
  by_cases c20 : v1 = 10
  · replace K := K.1 c20
    refine Z.tableIn (off := 131) 132 dX11_count_1 (by omega) (by omega) (by rw [c20]; rfl) rfl ?_
    refine Z.aload_n (k := 0) dX11_count_132 rfl ?_
    refine Y.getI 15 dX11_count_133 zl_X11_106 (rfl) (by decide) rfl (zX_0_0 hX).2.1 ?_
    exact Z.iret (ty := .int) dX11_count_136 rfl rfl K
  replace K := K.2
  by_cases c21 : v1 = 11
  · replace K := K.1 c21
    refine Z.tableIn (off := 136) 137 dX11_count_1 (by omega) (by omega) (by rw [c21]; rfl) rfl ?_
    refine Z.aload_n (k := 0) dX11_count_137 rfl ?_
    refine Y.getI 12 dX11_count_138 zl_X11_96 (rfl) (by decide) rfl (zX_0_0 hX).2.1 ?_
    exact Z.iret (ty := .int) dX11_count_141 rfl rfl K
  replace K := K.2
  have hd0 : v1 < 0 ∨ 11 < v1 := by omega
  replace K := K hd0
  refine Z.tableOut 142 dX11_count_1 hd0 rfl ?_
  refine Z.bipush (n := -2) dX11_count_142 ⟨by decide, by decide⟩ (by decide) ?_
  exact Z.iret (ty := .int) dX11_count_144 rfl rfl K
set_option maxRecDepth 20000 in
theorem X11_digestLiterals_0 {kz : Nat × Nat} {Q : Option zV → zH → Prop} {d : List Nat} {G : Nat → Int → Option Nat} {E : Nat → Int → Int} {v1 : Int64} {v3 : Int} (hX : zK zXt d G) (K : ∃ x1, zM zm_X11_claim [zR 0, zI v3, zI 0] (d, G, E) (some (zI x1)) (d, G, E) ∧ Z zm_X11_digestLiterals kz Q 14 [(0, zR 0), (3, zI v3), (4, zL v1), (6, zI x1), (7, zI 0)] [] (d, G, E)) : Z zm_X11_digestLiterals kz Q 0 [(0, zR 0), (1, zL v1), (3, zI v3)] [] (d, G, E) := by
  refine Z.lload_n (k := 1) dX11_digestLiterals_0 rfl ?_
  refine Z.lstore (ls' := [(4, zL v1), (0, zR 0), (1, zL v1), (3, zI v3)]) dX11_digestLiterals_1 (by decide) rfl ?_
  refine Z.aload_n (k := 1) dX11_digestLiterals_3 rfl ?_
  refine Z.iload_n (k := 3) dX11_digestLiterals_4 rfl ?_
  refine Z.iconst (n := 0) dX11_digestLiterals_5 ⟨by decide, by decide⟩ ?_
  obtain ⟨x1, m2, K⟩ := K
  refine Y.callV (g := zm_X11_claim) (vs := [zI v3, zI 0]) (st := []) dX11_digestLiterals_6 ⟨zg_X11_claim.1, zg_X11_claim.2.1, zg_X11_claim.2.2, by decide⟩ ⟨zk_X11_274, zv_X11_claim⟩ (ci := 11) (rfl) rfl ((zX_0_0 hX).2.1) rfl rfl (Nat.le_of_ble_eq_true rfl) m2 (Or.inl rfl) ?_
  show Z zm_X11_digestLiterals kz Q 9 [(4, zL v1), (0, zR 0), (1, zL v1), (3, zI v3)] [zI x1] (d, G, E)
  refine Z.istore (ls' := [(6, zI x1), (4, zL v1), (0, zR 0), (1, zL v1), (3, zI v3)]) dX11_digestLiterals_9 (by decide) rfl ?_
  refine Z.iconst (n := 0) dX11_digestLiterals_11 ⟨by decide, by decide⟩ ?_
  refine Z.istore (ls' := [(7, zI 0), (6, zI x1), (4, zL v1), (0, zR 0), (1, zL v1), (3, zI v3)]) dX11_digestLiterals_12 (by decide) rfl ?_
  refine Z.pick (ls' := [(0, zR 0), (3, zI v3), (4, zL v1), (6, zI x1), (7, zI 0)]) [3, 5, 2, 1, 0] rfl ?_
  exact K
set_option maxRecDepth 20000 in
theorem X11_digestLiterals_14 {kz : Nat × Nat} {Q : Option zV → zH → Prop} {d : List Nat} {G : Nat → Int → Option Nat} {E : Nat → Int → Int} {v3 : Int} {v4 : Int64} {v6 : Int} {v7 : Int} (hX : zK zXt d G) (K : (v6 ≤ v7 → Q (some (zL v4)) (d, G, E)) ∧ (¬ (v6 ≤ v7) → ∃ x2, zM zm_X11_literal [zR 0, zI v3, zI v7, zI 1] (d, G, E) (some (zI x2)) (d, G, E) ∧ zin (1 + x2) ∧ Z zm_X11_digestLiterals kz Q 36 [(0, zR 0), (3, zI v3), (4, zL v4), (6, zI v6), (7, zI v7), (8, zI ((1 + x2))), (9, zI 0)] [] (d, G, E))) : Z zm_X11_digestLiterals kz Q 14 [(0, zR 0), (3, zI v3), (4, zL v4), (6, zI v6), (7, zI v7)] [] (d, G, E) := by
  refine Z.iload (k := 4) dX11_digestLiterals_14 rfl ?_
  refine Z.iload (k := 3) dX11_digestLiterals_16 rfl ?_
  refine Z.icmp_ge 74 dX11_digestLiterals_18 rfl ⟨fun c1 => ?_, fun c1 => ?_⟩
  · replace K := K.1 c1
    refine Z.lload (k := 2) dX11_digestLiterals_74 rfl ?_
    exact Z.lret dX11_digestLiterals_76 rfl K
  · replace K := K.2 c1
    refine Z.iconst (n := 1) dX11_digestLiterals_21 ⟨by decide, by decide⟩ ?_
    refine Z.aload_n (k := 0) dX11_digestLiterals_22 rfl ?_
    refine Z.iload_n (k := 1) dX11_digestLiterals_23 rfl ?_
    refine Z.iload (k := 4) dX11_digestLiterals_24 rfl ?_
    refine Z.iconst (n := 1) dX11_digestLiterals_26 ⟨by decide, by decide⟩ ?_
    obtain ⟨x2, m3, K⟩ := K
    refine Y.callV (g := zm_X11_literal) (vs := [zI v3, zI v7, zI 1]) (st := [zI 1]) dX11_digestLiterals_27 ⟨zg_X11_literal.1, zg_X11_literal.2.1, zg_X11_literal.2.2, by decide⟩ ⟨zk_X11_285, zv_X11_literal⟩ (ci := 11) (rfl) rfl ((zX_0_0 hX).2.1) rfl rfl (Nat.le_of_ble_eq_true rfl) m3 (Or.inl rfl) ?_
    show Z zm_X11_digestLiterals kz Q 30 [(0, zR 0), (3, zI v3), (4, zL v4), (6, zI v6), (7, zI v7)] [zI x2, zI 1] (d, G, E)
    obtain ⟨z5, K⟩ := K
    refine Z.iadd dX11_digestLiterals_30 z5 ?_
    refine Z.istore (ls' := [(8, zI ((1 + x2))), (0, zR 0), (3, zI v3), (4, zL v4), (6, zI v6), (7, zI v7)]) dX11_digestLiterals_31 (by decide) rfl ?_
    refine Z.iconst (n := 0) dX11_digestLiterals_33 ⟨by decide, by decide⟩ ?_
    refine Z.istore (ls' := [(9, zI 0), (8, zI ((1 + x2))), (0, zR 0), (3, zI v3), (4, zL v4), (6, zI v6), (7, zI v7)]) dX11_digestLiterals_34 (by decide) rfl ?_
    refine Z.pick (ls' := [(0, zR 0), (3, zI v3), (4, zL v4), (6, zI v6), (7, zI v7), (8, zI ((1 + x2))), (9, zI 0)]) [2, 3, 4, 5, 6, 1, 0] rfl ?_
    exact K
set_option maxRecDepth 20000 in
theorem X11_digestLiterals_36 {kz : Nat × Nat} {Q : Option zV → zH → Prop} {d : List Nat} {G : Nat → Int → Option Nat} {E : Nat → Int → Int} {v3 : Int} {v4 : Int64} {v6 : Int} {v7 : Int} {v8 : Int} {v9 : Int} (hX : zK zXt d G) (K : (v8 < v9 → zin (v7 + 1) ∧ Z zm_X11_digestLiterals kz Q 14 [(0, zR 0), (3, zI v3), (4, zL v4), (6, zI v6), (7, zI ((v7 + 1)))] [] (d, G, E)) ∧ (¬ (v8 < v9) → ∃ x3, zM zm_X11_literal [zR 0, zI v3, zI v7, zI v9] (d, G, E) (some (zI x3)) (d, G, E) ∧ zin (v9 + 1) ∧ Z zm_X11_digestLiterals kz Q 36 [(0, zR 0), (3, zI v3), (4, zL (((31 * v4) + (Int64.ofInt x3)))), (6, zI v6), (7, zI v7), (8, zI v8), (9, zI ((v9 + 1)))] [] (d, G, E))) : Z zm_X11_digestLiterals kz Q 36 [(0, zR 0), (3, zI v3), (4, zL v4), (6, zI v6), (7, zI v7), (8, zI v8), (9, zI v9)] [] (d, G, E) := by
  refine Z.iload (k := 6) dX11_digestLiterals_36 rfl ?_
  refine Z.iload (k := 5) dX11_digestLiterals_38 rfl ?_
  refine Z.icmp_gt 68 dX11_digestLiterals_40 rfl ⟨fun c1 => ?_, fun c1 => ?_⟩
  · replace K := K.1 c1
    obtain ⟨z2, K⟩ := K
    refine Z.iinc (k := 4) (ls' := [(7, zI ((v7 + 1))), (0, zR 0), (3, zI v3), (4, zL v4), (6, zI v6), (8, zI v8), (9, zI v9)]) dX11_digestLiterals_68 rfl (by decide) z2 rfl ?_
    refine Z.goto 14 dX11_digestLiterals_71 rfl ?_
    refine Z.pick (ls' := [(0, zR 0), (3, zI v3), (4, zL v4), (6, zI v6), (7, zI ((v7 + 1)))]) [1, 2, 3, 4, 0] rfl ?_
    exact K
  · replace K := K.2 c1
    refine Z.ldc2 (x := 31) dX11_digestLiterals_43 zq_X11_269 ?_
    refine Z.lload (k := 2) dX11_digestLiterals_46 rfl ?_
    refine Z.lmul dX11_digestLiterals_48 ?_
    refine Z.aload_n (k := 0) dX11_digestLiterals_49 rfl ?_
    refine Z.iload_n (k := 1) dX11_digestLiterals_50 rfl ?_
    refine Z.iload (k := 4) dX11_digestLiterals_51 rfl ?_
    refine Z.iload (k := 6) dX11_digestLiterals_53 rfl ?_
    obtain ⟨x3, m4, K⟩ := K
    refine Y.callV (g := zm_X11_literal) (vs := [zI v3, zI v7, zI v9]) (st := [zL ((31 * v4))]) dX11_digestLiterals_55 ⟨zg_X11_literal.1, zg_X11_literal.2.1, zg_X11_literal.2.2, by decide⟩ ⟨zk_X11_285, zv_X11_literal⟩ (ci := 11) (rfl) rfl ((zX_0_0 hX).2.1) rfl rfl (Nat.le_of_ble_eq_true rfl) m4 (Or.inl rfl) ?_
    show Z zm_X11_digestLiterals kz Q 58 [(0, zR 0), (3, zI v3), (4, zL v4), (6, zI v6), (7, zI v7), (8, zI v8), (9, zI v9)] [zI x3, zL ((31 * v4))] (d, G, E)
    refine Z.i2l dX11_digestLiterals_58 ?_
    refine Z.ladd dX11_digestLiterals_59 ?_
    refine Z.lstore (ls' := [(4, zL (((31 * v4) + (Int64.ofInt x3)))), (0, zR 0), (3, zI v3), (6, zI v6), (7, zI v7), (8, zI v8), (9, zI v9)]) dX11_digestLiterals_60 (by decide) rfl ?_
    obtain ⟨z6, K⟩ := K
    refine Z.iinc (k := 6) (ls' := [(9, zI ((v9 + 1))), (4, zL (((31 * v4) + (Int64.ofInt x3)))), (0, zR 0), (3, zI v3), (6, zI v6), (7, zI v7), (8, zI v8)]) dX11_digestLiterals_62 rfl (by decide) z6 rfl ?_
    refine Z.goto 36 dX11_digestLiterals_65 rfl ?_
    refine Z.pick (ls' := [(0, zR 0), (3, zI v3), (4, zL (((31 * v4) + (Int64.ofInt x3)))), (6, zI v6), (7, zI v7), (8, zI v8), (9, zI ((v9 + 1)))]) [2, 3, 1, 4, 5, 6, 0] rfl ?_
    exact K
set_option maxRecDepth 20000 in
theorem X11_digestStep_0 {kz : Nat × Nat} {Q : Option zV → zH → Prop} {d : List Nat} {G : Nat → Int → Option Nat} {E : Nat → Int → Int} {v1 : Int64} {v3 : Int} (hX : zK zXt d G) (K : Z zm_X11_digestStep kz Q 6 [(0, zR 0), (3, zI v3), (4, zL v1), (6, zI 0)] [] (d, G, E)) : Z zm_X11_digestStep kz Q 0 [(0, zR 0), (1, zL v1), (3, zI v3)] [] (d, G, E) := by
  refine Z.lload_n (k := 1) dX11_digestStep_0 rfl ?_
  refine Z.lstore (ls' := [(4, zL v1), (0, zR 0), (1, zL v1), (3, zI v3)]) dX11_digestStep_1 (by decide) rfl ?_
  refine Z.iconst (n := 0) dX11_digestStep_3 ⟨by decide, by decide⟩ ?_
  refine Z.istore (ls' := [(6, zI 0), (4, zL v1), (0, zR 0), (1, zL v1), (3, zI v3)]) dX11_digestStep_4 (by decide) rfl ?_
  refine Z.pick (ls' := [(0, zR 0), (3, zI v3), (4, zL v1), (6, zI 0)]) [2, 4, 1, 0] rfl ?_
  exact K
set_option maxRecDepth 20000 in
theorem X11_digestStep_6 {kz : Nat × Nat} {Q : Option zV → zH → Prop} {d : List Nat} {G : Nat → Int → Option Nat} {E : Nat → Int → Int} {v3 : Int} {v4 : Int64} {v6 : Int} (hX : zK zXt d G) (K : (7 ≤ v6 → ∃ x2, zM zm_X11_step [zR 0, zI v3, zI 10] (d, G, E) (some (zI x2)) (d, G, E) ∧ zin (4 * x2) ∧ zin (10 + (4 * x2)) ∧ Z zm_X11_digestStep kz Q 54 [(0, zR 0), (3, zI v3), (4, zL v4), (6, zI ((10 + (4 * x2)))), (7, zI 10)] [] (d, G, E)) ∧ (¬ (7 ≤ v6) → ∃ x7, zM zm_X11_step [zR 0, zI v3, zI v6] (d, G, E) (some (zI x7)) (d, G, E) ∧ zin (v6 + 1) ∧ Z zm_X11_digestStep kz Q 6 [(0, zR 0), (3, zI v3), (4, zL (((31 * v4) + (Int64.ofInt x7)))), (6, zI ((v6 + 1)))] [] (d, G, E))) : Z zm_X11_digestStep kz Q 6 [(0, zR 0), (3, zI v3), (4, zL v4), (6, zI v6)] [] (d, G, E) := by
  refine Z.iload (k := 3) dX11_digestStep_6 rfl ?_
  refine Z.bipush (n := 7) dX11_digestStep_8 ⟨by decide, by decide⟩ (by decide) ?_
  refine Z.icmp_ge 36 dX11_digestStep_10 rfl ⟨fun c1 => ?_, fun c1 => ?_⟩
  · replace K := K.1 c1
    refine Z.bipush (n := 10) dX11_digestStep_36 ⟨by decide, by decide⟩ (by decide) ?_
    refine Z.iconst (n := 4) dX11_digestStep_38 ⟨by decide, by decide⟩ ?_
    refine Z.aload_n (k := 0) dX11_digestStep_39 rfl ?_
    refine Z.iload_n (k := 1) dX11_digestStep_40 rfl ?_
    refine Z.bipush (n := 10) dX11_digestStep_41 ⟨by decide, by decide⟩ (by decide) ?_
    obtain ⟨x2, m3, K⟩ := K
    refine Y.callV (g := zm_X11_step) (vs := [zI v3, zI 10]) (st := [zI 4, zI 10]) dX11_digestStep_43 ⟨zg_X11_step.1, zg_X11_step.2.1, zg_X11_step.2.2, by decide⟩ ⟨zk_X11_289, zv_X11_step⟩ (ci := 11) (rfl) rfl ((zX_0_0 hX).2.1) rfl rfl (Nat.le_of_ble_eq_true rfl) m3 (Or.inl rfl) ?_
    show Z zm_X11_digestStep kz Q 46 [(0, zR 0), (3, zI v3), (4, zL v4), (6, zI v6)] [zI x2, zI 4, zI 10] (d, G, E)
    obtain ⟨z5, K⟩ := K
    refine Z.imul dX11_digestStep_46 z5 ?_
    obtain ⟨z6, K⟩ := K
    refine Z.iadd dX11_digestStep_47 z6 ?_
    refine Z.istore (ls' := [(6, zI ((10 + (4 * x2)))), (0, zR 0), (3, zI v3), (4, zL v4)]) dX11_digestStep_48 (by decide) rfl ?_
    refine Z.bipush (n := 10) dX11_digestStep_50 ⟨by decide, by decide⟩ (by decide) ?_
    refine Z.istore (ls' := [(7, zI 10), (6, zI ((10 + (4 * x2)))), (0, zR 0), (3, zI v3), (4, zL v4)]) dX11_digestStep_52 (by decide) rfl ?_
    refine Z.pick (ls' := [(0, zR 0), (3, zI v3), (4, zL v4), (6, zI ((10 + (4 * x2)))), (7, zI 10)]) [2, 3, 4, 1, 0] rfl ?_
    exact K
  · replace K := K.2 c1
    refine Z.ldc2 (x := 31) dX11_digestStep_13 zq_X11_269 ?_
    refine Z.lload (k := 2) dX11_digestStep_16 rfl ?_
    refine Z.lmul dX11_digestStep_18 ?_
    refine Z.aload_n (k := 0) dX11_digestStep_19 rfl ?_
    refine Z.iload_n (k := 1) dX11_digestStep_20 rfl ?_
    refine Z.iload (k := 3) dX11_digestStep_21 rfl ?_
    obtain ⟨x7, m8, K⟩ := K
    refine Y.callV (g := zm_X11_step) (vs := [zI v3, zI v6]) (st := [zL ((31 * v4))]) dX11_digestStep_23 ⟨zg_X11_step.1, zg_X11_step.2.1, zg_X11_step.2.2, by decide⟩ ⟨zk_X11_289, zv_X11_step⟩ (ci := 11) (rfl) rfl ((zX_0_0 hX).2.1) rfl rfl (Nat.le_of_ble_eq_true rfl) m8 (Or.inl rfl) ?_
    show Z zm_X11_digestStep kz Q 26 [(0, zR 0), (3, zI v3), (4, zL v4), (6, zI v6)] [zI x7, zL ((31 * v4))] (d, G, E)
    refine Z.i2l dX11_digestStep_26 ?_
    refine Z.ladd dX11_digestStep_27 ?_
    refine Z.lstore (ls' := [(4, zL (((31 * v4) + (Int64.ofInt x7)))), (0, zR 0), (3, zI v3), (6, zI v6)]) dX11_digestStep_28 (by decide) rfl ?_
    obtain ⟨z10, K⟩ := K
    refine Z.iinc (k := 3) (ls' := [(6, zI ((v6 + 1))), (4, zL (((31 * v4) + (Int64.ofInt x7)))), (0, zR 0), (3, zI v3)]) dX11_digestStep_30 rfl (by decide) z10 rfl ?_
    refine Z.goto 6 dX11_digestStep_33 rfl ?_
    refine Z.pick (ls' := [(0, zR 0), (3, zI v3), (4, zL (((31 * v4) + (Int64.ofInt x7)))), (6, zI ((v6 + 1)))]) [2, 3, 1, 0] rfl ?_
    exact K
set_option maxRecDepth 20000 in
theorem X11_digestStep_54 {kz : Nat × Nat} {Q : Option zV → zH → Prop} {d : List Nat} {G : Nat → Int → Option Nat} {E : Nat → Int → Int} {v3 : Int} {v4 : Int64} {v6 : Int} {v7 : Int} (hX : zK zXt d G) (K : (v6 < v7 → Q (some (zL v4)) (d, G, E)) ∧ (¬ (v6 < v7) → ∃ x2, zM zm_X11_step [zR 0, zI v3, zI v7] (d, G, E) (some (zI x2)) (d, G, E) ∧ zin (v7 + 1) ∧ Z zm_X11_digestStep kz Q 54 [(0, zR 0), (3, zI v3), (4, zL (((31 * v4) + (Int64.ofInt x2)))), (6, zI v6), (7, zI ((v7 + 1)))] [] (d, G, E))) : Z zm_X11_digestStep kz Q 54 [(0, zR 0), (3, zI v3), (4, zL v4), (6, zI v6), (7, zI v7)] [] (d, G, E) := by
  refine Z.iload (k := 4) dX11_digestStep_54 rfl ?_
  refine Z.iload (k := 3) dX11_digestStep_56 rfl ?_
  refine Z.icmp_gt 84 dX11_digestStep_58 rfl ⟨fun c1 => ?_, fun c1 => ?_⟩
  · replace K := K.1 c1
    refine Z.lload (k := 2) dX11_digestStep_84 rfl ?_
    exact Z.lret dX11_digestStep_86 rfl K
  · replace K := K.2 c1
    refine Z.ldc2 (x := 31) dX11_digestStep_61 zq_X11_269 ?_
    refine Z.lload (k := 2) dX11_digestStep_64 rfl ?_
    refine Z.lmul dX11_digestStep_66 ?_
    refine Z.aload_n (k := 0) dX11_digestStep_67 rfl ?_
    refine Z.iload_n (k := 1) dX11_digestStep_68 rfl ?_
    refine Z.iload (k := 4) dX11_digestStep_69 rfl ?_
    obtain ⟨x2, m3, K⟩ := K
    refine Y.callV (g := zm_X11_step) (vs := [zI v3, zI v7]) (st := [zL ((31 * v4))]) dX11_digestStep_71 ⟨zg_X11_step.1, zg_X11_step.2.1, zg_X11_step.2.2, by decide⟩ ⟨zk_X11_289, zv_X11_step⟩ (ci := 11) (rfl) rfl ((zX_0_0 hX).2.1) rfl rfl (Nat.le_of_ble_eq_true rfl) m3 (Or.inl rfl) ?_
    show Z zm_X11_digestStep kz Q 74 [(0, zR 0), (3, zI v3), (4, zL v4), (6, zI v6), (7, zI v7)] [zI x2, zL ((31 * v4))] (d, G, E)
    refine Z.i2l dX11_digestStep_74 ?_
    refine Z.ladd dX11_digestStep_75 ?_
    refine Z.lstore (ls' := [(4, zL (((31 * v4) + (Int64.ofInt x2)))), (0, zR 0), (3, zI v3), (6, zI v6), (7, zI v7)]) dX11_digestStep_76 (by decide) rfl ?_
    obtain ⟨z5, K⟩ := K
    refine Z.iinc (k := 4) (ls' := [(7, zI ((v7 + 1))), (4, zL (((31 * v4) + (Int64.ofInt x2)))), (0, zR 0), (3, zI v3), (6, zI v6)]) dX11_digestStep_78 rfl (by decide) z5 rfl ?_
    refine Z.goto 54 dX11_digestStep_81 rfl ?_
    refine Z.pick (ls' := [(0, zR 0), (3, zI v3), (4, zL (((31 * v4) + (Int64.ofInt x2)))), (6, zI v6), (7, zI ((v7 + 1)))]) [2, 3, 1, 4, 0] rfl ?_
    exact K
set_option maxRecDepth 20000 in
theorem X11_digest_0 {kz : Nat × Nat} {Q : Option zV → zH → Prop} {d : List Nat} {G : Nat → Int → Option Nat} {E : Nat → Int → Int}  (hX : zK zXt d G) (K : Z zm_X11_digest kz Q 6 [(0, zR 0), (1, zL 17), (3, zI 0)] [] (d, G, E)) : Z zm_X11_digest kz Q 0 [(0, zR 0)] [] (d, G, E) := by
  refine Z.ldc2 (x := 17) dX11_digest_0 zq_X11_267 ?_
  refine Z.lstore_n (ls' := [(1, zL 17), (0, zR 0)]) dX11_digest_3 (by decide) rfl ?_
  refine Z.iconst (n := 0) dX11_digest_4 ⟨by decide, by decide⟩ ?_
  refine Z.istore_n (ls' := [(3, zI 0), (1, zL 17), (0, zR 0)]) dX11_digest_5 (by decide) rfl ?_
  refine Z.pick (ls' := [(0, zR 0), (1, zL 17), (3, zI 0)]) [2, 1, 0] rfl ?_
  exact K
set_option maxRecDepth 20000 in
theorem X11_digest_6 {kz : Nat × Nat} {Q : Option zV → zH → Prop} {d : List Nat} {G : Nat → Int → Option Nat} {E : Nat → Int → Int} {v1 : Int64} {v3 : Int} (hX : zK zXt d G) (K : (11 < v3 → Z zm_X11_digest kz Q 33 [(0, zR 0), (1, zL v1), (3, zI 0)] [] (d, G, E)) ∧ (¬ (11 < v3) → ∃ x2, zM zm_X11_count [zR 0, zI v3] (d, G, E) (some (zI x2)) (d, G, E) ∧ zin (v3 + 1) ∧ Z zm_X11_digest kz Q 6 [(0, zR 0), (1, zL (((31 * v1) + (Int64.ofInt x2)))), (3, zI ((v3 + 1)))] [] (d, G, E))) : Z zm_X11_digest kz Q 6 [(0, zR 0), (1, zL v1), (3, zI v3)] [] (d, G, E) := by
  refine Z.iload_n (k := 2) dX11_digest_6 rfl ?_
  refine Z.bipush (n := 11) dX11_digest_7 ⟨by decide, by decide⟩ (by decide) ?_
  refine Z.icmp_gt 31 dX11_digest_9 rfl ⟨fun c1 => ?_, fun c1 => ?_⟩
  · replace K := K.1 c1
    refine Z.iconst (n := 0) dX11_digest_31 ⟨by decide, by decide⟩ ?_
    refine Z.istore_n (ls' := [(3, zI 0), (0, zR 0), (1, zL v1)]) dX11_digest_32 (by decide) rfl ?_
    refine Z.pick (ls' := [(0, zR 0), (1, zL v1), (3, zI 0)]) [1, 2, 0] rfl ?_
    exact K
  · replace K := K.2 c1
    refine Z.ldc2 (x := 31) dX11_digest_12 zq_X11_269 ?_
    refine Z.lload_n (k := 1) dX11_digest_15 rfl ?_
    refine Z.lmul dX11_digest_16 ?_
    refine Z.aload_n (k := 0) dX11_digest_17 rfl ?_
    refine Z.iload_n (k := 2) dX11_digest_18 rfl ?_
    obtain ⟨x2, m3, K⟩ := K
    refine Y.callV (g := zm_X11_count) (vs := [zI v3]) (st := [zL ((31 * v1))]) dX11_digest_19 ⟨zg_X11_count.1, zg_X11_count.2.1, zg_X11_count.2.2, by decide⟩ ⟨zk_X11_271, zv_X11_count⟩ (ci := 11) (rfl) rfl ((zX_0_0 hX).2.1) rfl rfl (Nat.le_of_ble_eq_true rfl) m3 (Or.inl rfl) ?_
    show Z zm_X11_digest kz Q 22 [(0, zR 0), (1, zL v1), (3, zI v3)] [zI x2, zL ((31 * v1))] (d, G, E)
    refine Z.i2l dX11_digest_22 ?_
    refine Z.ladd dX11_digest_23 ?_
    refine Z.lstore_n (ls' := [(1, zL (((31 * v1) + (Int64.ofInt x2)))), (0, zR 0), (3, zI v3)]) dX11_digest_24 (by decide) rfl ?_
    obtain ⟨z5, K⟩ := K
    refine Z.iinc (k := 2) (ls' := [(3, zI ((v3 + 1))), (1, zL (((31 * v1) + (Int64.ofInt x2)))), (0, zR 0)]) dX11_digest_25 rfl (by decide) z5 rfl ?_
    refine Z.goto 6 dX11_digest_28 rfl ?_
    refine Z.pick (ls' := [(0, zR 0), (1, zL (((31 * v1) + (Int64.ofInt x2)))), (3, zI ((v3 + 1)))]) [2, 1, 0] rfl ?_
    exact K
set_option maxRecDepth 20000 in
theorem X11_digest_33 {kz : Nat × Nat} {Q : Option zV → zH → Prop} {d : List Nat} {G : Nat → Int → Option Nat} {E : Nat → Int → Int} {v1 : Int64} {v3 : Int} (hX : zK zXt d G) (K : ((E 5 4) ≤ v3 → Q (some (zL v1)) (d, G, E)) ∧ (¬ ((E 5 4) ≤ v3) → Z zm_X11_digest kz Q 47 [(0, zR 0), (1, zL v1), (3, zI v3), (4, zI 0)] [] (d, G, E))) : Z zm_X11_digest kz Q 33 [(0, zR 0), (1, zL v1), (3, zI v3)] [] (d, G, E) := by
  refine Z.iload_n (k := 2) dX11_digest_33 rfl ?_
  refine Z.aload_n (k := 0) dX11_digest_34 rfl ?_
  refine Y.getR (o := some 5) 1 dX11_digest_35 zl_X11_19 (rfl) (by decide) rfl (zX_0_0 hX).2.1 (zX_0_1 hX).1 ?_
  refine Y.getI 4 dX11_digest_38 zl_X11_124 (rfl) (by decide) rfl (zX_0_1 hX).2.2 ?_
  refine Z.icmp_ge 94 dX11_digest_41 rfl ⟨fun c1 => ?_, fun c1 => ?_⟩
  · replace K := K.1 c1
    refine Z.lload_n (k := 1) dX11_digest_94 rfl ?_
    exact Z.lret dX11_digest_95 rfl K
  · replace K := K.2 c1
    refine Z.iconst (n := 0) dX11_digest_44 ⟨by decide, by decide⟩ ?_
    refine Z.istore (ls' := [(4, zI 0), (0, zR 0), (1, zL v1), (3, zI v3)]) dX11_digest_45 (by decide) rfl ?_
    refine Z.pick (ls' := [(0, zR 0), (1, zL v1), (3, zI v3), (4, zI 0)]) [1, 2, 3, 0] rfl ?_
    exact K
set_option maxRecDepth 20000 in
theorem X11_digest_47 {kz : Nat × Nat} {Q : Option zV → zH → Prop} {d : List Nat} {G : Nat → Int → Option Nat} {E : Nat → Int → Int} {v1 : Int64} {v3 : Int} {v4 : Int} (hX : zK zXt d G) (K : (5 < v4 → ∃ x2, zM zm_X11_digestLiterals [zR 0, zL v1, zI v3] (d, G, E) (some (zL x2)) (d, G, E) ∧ ∃ x5, zM zm_X11_digestStep [zR 0, zL x2, zI v3] (d, G, E) (some (zL x5)) (d, G, E) ∧ zin (v3 + 1) ∧ Z zm_X11_digest kz Q 33 [(0, zR 0), (1, zL x5), (3, zI ((v3 + 1)))] [] (d, G, E)) ∧ (¬ (5 < v4) → ∃ x9, zM zm_X11_claim [zR 0, zI v3, zI v4] (d, G, E) (some (zI x9)) (d, G, E) ∧ zin (v4 + 1) ∧ Z zm_X11_digest kz Q 47 [(0, zR 0), (1, zL (((31 * v1) + (Int64.ofInt x9)))), (3, zI v3), (4, zI ((v4 + 1)))] [] (d, G, E))) : Z zm_X11_digest kz Q 47 [(0, zR 0), (1, zL v1), (3, zI v3), (4, zI v4)] [] (d, G, E) := by
  refine Z.iload (k := 3) dX11_digest_47 rfl ?_
  refine Z.iconst (n := 5) dX11_digest_49 ⟨by decide, by decide⟩ ?_
  refine Z.icmp_gt 74 dX11_digest_50 rfl ⟨fun c1 => ?_, fun c1 => ?_⟩
  · replace K := K.1 c1
    refine Z.aload_n (k := 0) dX11_digest_74 rfl ?_
    refine Z.lload_n (k := 1) dX11_digest_75 rfl ?_
    refine Z.iload_n (k := 2) dX11_digest_76 rfl ?_
    obtain ⟨x2, m3, K⟩ := K
    refine Y.callV (g := zm_X11_digestLiterals) (vs := [zL v1, zI v3]) (st := []) dX11_digest_77 ⟨zg_X11_digestLiterals.1, zg_X11_digestLiterals.2.1, zg_X11_digestLiterals.2.2, by decide⟩ ⟨zk_X11_278, zv_X11_digestLiterals⟩ (ci := 11) (rfl) rfl ((zX_0_0 hX).2.1) rfl rfl (Nat.le_of_ble_eq_true rfl) m3 (Or.inl rfl) ?_
    show Z zm_X11_digest kz Q 80 [(0, zR 0), (1, zL v1), (3, zI v3), (4, zI v4)] [zL x2] (d, G, E)
    refine Z.lstore_n (ls' := [(1, zL x2), (0, zR 0), (3, zI v3), (4, zI v4)]) dX11_digest_80 (by decide) rfl ?_
    refine Z.aload_n (k := 1) dX11_digest_81 rfl ?_
    refine Z.lload_n (k := 0) dX11_digest_82 rfl ?_
    refine Z.iload_n (k := 2) dX11_digest_83 rfl ?_
    obtain ⟨x5, m6, K⟩ := K
    refine Y.callV (g := zm_X11_digestStep) (vs := [zL x2, zI v3]) (st := []) dX11_digest_84 ⟨zg_X11_digestStep.1, zg_X11_digestStep.2.1, zg_X11_digestStep.2.2, by decide⟩ ⟨zk_X11_282, zv_X11_digestStep⟩ (ci := 11) (rfl) rfl ((zX_0_0 hX).2.1) rfl rfl (Nat.le_of_ble_eq_true rfl) m6 (Or.inl rfl) ?_
    show Z zm_X11_digest kz Q 87 [(1, zL x2), (0, zR 0), (3, zI v3), (4, zI v4)] [zL x5] (d, G, E)
    refine Z.lstore_n (ls' := [(1, zL x5), (0, zR 0), (3, zI v3), (4, zI v4)]) dX11_digest_87 (by decide) rfl ?_
    obtain ⟨z8, K⟩ := K
    refine Z.iinc (k := 2) (ls' := [(3, zI ((v3 + 1))), (1, zL x5), (0, zR 0), (4, zI v4)]) dX11_digest_88 rfl (by decide) z8 rfl ?_
    refine Z.goto 33 dX11_digest_91 rfl ?_
    refine Z.pick (ls' := [(0, zR 0), (1, zL x5), (3, zI ((v3 + 1)))]) [2, 1, 0] rfl ?_
    exact K
  · replace K := K.2 c1
    refine Z.ldc2 (x := 31) dX11_digest_53 zq_X11_269 ?_
    refine Z.lload_n (k := 1) dX11_digest_56 rfl ?_
    refine Z.lmul dX11_digest_57 ?_
    refine Z.aload_n (k := 0) dX11_digest_58 rfl ?_
    refine Z.iload_n (k := 2) dX11_digest_59 rfl ?_
    refine Z.iload (k := 3) dX11_digest_60 rfl ?_
    obtain ⟨x9, m10, K⟩ := K
    refine Y.callV (g := zm_X11_claim) (vs := [zI v3, zI v4]) (st := [zL ((31 * v1))]) dX11_digest_62 ⟨zg_X11_claim.1, zg_X11_claim.2.1, zg_X11_claim.2.2, by decide⟩ ⟨zk_X11_274, zv_X11_claim⟩ (ci := 11) (rfl) rfl ((zX_0_0 hX).2.1) rfl rfl (Nat.le_of_ble_eq_true rfl) m10 (Or.inl rfl) ?_
    show Z zm_X11_digest kz Q 65 [(0, zR 0), (1, zL v1), (3, zI v3), (4, zI v4)] [zI x9, zL ((31 * v1))] (d, G, E)
    refine Z.i2l dX11_digest_65 ?_
    refine Z.ladd dX11_digest_66 ?_
    refine Z.lstore_n (ls' := [(1, zL (((31 * v1) + (Int64.ofInt x9)))), (0, zR 0), (3, zI v3), (4, zI v4)]) dX11_digest_67 (by decide) rfl ?_
    obtain ⟨z12, K⟩ := K
    refine Z.iinc (k := 3) (ls' := [(4, zI ((v4 + 1))), (1, zL (((31 * v1) + (Int64.ofInt x9)))), (0, zR 0), (3, zI v3)]) dX11_digest_68 rfl (by decide) z12 rfl ?_
    refine Z.goto 47 dX11_digest_71 rfl ?_
    refine Z.pick (ls' := [(0, zR 0), (1, zL (((31 * v1) + (Int64.ofInt x9)))), (3, zI v3), (4, zI ((v4 + 1)))]) [2, 1, 3, 0] rfl ?_
    exact K
