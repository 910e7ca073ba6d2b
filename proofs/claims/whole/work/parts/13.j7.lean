set_option maxRecDepth 20000 in
theorem J7_fill_53178_0 {kz : Nat × Nat} {Q : Option zV → zH → Prop} {d : List Nat} {G : Nat → Int → Option Nat} {E : Nat → Int → Int} {a0 n0 : Nat} {v1 : Int} (ha0 : a0 ∈ d) (hk0 : zkd a0 = (0, n0)) (K : zin (n0 : Int) ∧ Z zm_J7_fill_53178 kz Q 5 [(0, zR a0), (1, zI v1), (2, zI 0), (3, zI ((n0 : Int)))] [] (d, G, E)) : Z zm_J7_fill_53178 kz Q 0 [(0, zR a0), (1, zI v1)] [] (d, G, E) := by
  refine Z.iconst (n := 0) dJ7_fill_53178_0 ⟨by decide, by decide⟩ ?_
  refine Z.istore_n (ls' := [(2, zI 0), (0, zR a0), (1, zI v1)]) dJ7_fill_53178_1 (by decide) rfl ?_
  refine Z.aload_n (k := 1) dJ7_fill_53178_2 rfl ?_
  obtain ⟨z_1, K⟩ := K
  refine Y.alen n0 (n0 : Int) dJ7_fill_53178_3 (hk0) (ha0) rfl z_1 ?_
  refine Z.istore_n (ls' := [(3, zI ((n0 : Int))), (2, zI 0), (0, zR a0), (1, zI v1)]) dJ7_fill_53178_4 (by decide) rfl ?_
  refine Z.pick (ls' := [(0, zR a0), (1, zI v1), (2, zI 0), (3, zI ((n0 : Int)))]) [2, 3, 1, 0] rfl ?_
  exact K
set_option maxRecDepth 20000 in
theorem J7_fill_53178_5 {kz : Nat × Nat} {Q : Option zV → zH → Prop} {d : List Nat} {G : Nat → Int → Option Nat} {E : Nat → Int → Int} {a0 n0 : Nat} {v1 : Int} {v2 : Int} {v3 : Int} (ha0 : a0 ∈ d) (hk0 : zkd a0 = (0, n0)) (K : (v3 ≤ v2 → Q none (d, G, E)) ∧ (¬ (v3 ≤ v2) → ((0 : Int) ≤ v2 ∧ v2 < (n0 : Int)) ∧ ∀ E_3, E_3 = zuE E a0 v2 v1 → zin (v2 + 1) ∧ Z zm_J7_fill_53178 kz Q 5 [(0, zR a0), (1, zI v1), (2, zI ((v2 + 1))), (3, zI v3)] [] (d, G, E_3))) : Z zm_J7_fill_53178 kz Q 5 [(0, zR a0), (1, zI v1), (2, zI v2), (3, zI v3)] [] (d, G, E) := by
  refine Z.iload_n (k := 2) dJ7_fill_53178_5 rfl ?_
  refine Z.iload_n (k := 3) dJ7_fill_53178_6 rfl ?_
  refine Z.icmp_ge 20 dJ7_fill_53178_7 rfl ⟨fun c_1 => ?_, fun c_1 => ?_⟩
  · replace K := K.1 c_1
    exact Z.vret dJ7_fill_53178_20 rfl K
  · replace K := K.2 c_1
    refine Z.aload_n (k := 0) dJ7_fill_53178_10 rfl ?_
    refine Z.iload_n (k := 2) dJ7_fill_53178_11 rfl ?_
    refine Z.iload_n (k := 1) dJ7_fill_53178_12 rfl ?_
    obtain ⟨z_2, K⟩ := K
    refine Y.iast dJ7_fill_53178_13 (hk0) (ha0) z_2 ?_
    generalize eE_3 : zuE E a0 v2 v1 = E_3
    replace K := K E_3 eE_3.symm
    obtain ⟨z_4, K⟩ := K
    refine Z.iinc (k := 2) (ls' := [(2, zI ((v2 + 1))), (0, zR a0), (1, zI v1), (3, zI v3)]) dJ7_fill_53178_14 rfl (by decide) z_4 rfl ?_
    refine Z.goto 5 dJ7_fill_53178_17 rfl ?_
    refine Z.pick (ls' := [(0, zR a0), (1, zI v1), (2, zI ((v2 + 1))), (3, zI v3)]) [1, 2, 0, 3] rfl ?_
    exact K
