set_option maxRecDepth 20000 in
theorem J9_min_7cf53_0 {kz : Nat × Nat} {Q : Option zV → zH → Prop} {d : List Nat} {G : Nat → Int → Option Nat} {E : Nat → Int → Int} {v0 : Int} {v1 : Int}  (K : (v1 < v0 → Q (some (zI v1)) (d, G, E)) ∧ (¬ (v1 < v0) → Q (some (zI v0)) (d, G, E))) : Z zm_J9_min_7cf53 kz Q 0 [(0, zI v0), (1, zI v1)] [] (d, G, E) := by
  refine Z.iload_n (k := 0) dJ9_min_7cf53_0 rfl ?_
  refine Z.iload_n (k := 1) dJ9_min_7cf53_1 rfl ?_
  refine Z.icmp_gt 9 dJ9_min_7cf53_2 rfl ⟨fun c_1 => ?_, fun c_1 => ?_⟩
  · replace K := K.1 c_1
    refine Z.iload_n (k := 1) dJ9_min_7cf53_9 rfl ?_
    exact Z.iret (ty := .int) dJ9_min_7cf53_10 rfl rfl K
  · replace K := K.2 c_1
    refine Z.iload_n (k := 0) dJ9_min_7cf53_5 rfl ?_
    refine Z.goto 10 dJ9_min_7cf53_6 rfl ?_
    exact Z.iret (ty := .int) dJ9_min_7cf53_10 rfl rfl K
