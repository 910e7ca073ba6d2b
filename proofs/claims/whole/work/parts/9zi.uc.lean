/-! ===== the tables hold ===== -/
theorem lchk_0_0 : lchk 0 0 = true := by decide +kernel
theorem lchk_0_1 : lchk 0 1 = true := by decide +kernel
theorem lchk_0_2 : lchk 0 2 = true := by decide +kernel
theorem lchk_0_3 : lchk 0 3 = true := by decide +kernel
theorem lchk_0_4 : lchk 0 4 = true := by decide +kernel
theorem lchk_1_0 : lchk 1 0 = true := by decide +kernel
theorem lchk_1_1 : lchk 1 1 = true := by decide +kernel
theorem lchk_1_2 : lchk 1 2 = true := by decide +kernel
theorem lchk_1_3 : lchk 1 3 = true := by decide +kernel
theorem lchk_1_4 : lchk 1 4 = true := by decide +kernel
theorem lchk_2_0 : lchk 2 0 = true := by decide +kernel
theorem lchk_2_1 : lchk 2 1 = true := by decide +kernel
theorem lchk_2_2 : lchk 2 2 = true := by decide +kernel
theorem lchk_2_3 : lchk 2 3 = true := by decide +kernel
theorem lchk_2_4 : lchk 2 4 = true := by decide +kernel
theorem lchk_3_0 : lchk 3 0 = true := by decide +kernel
theorem lchk_3_1 : lchk 3 1 = true := by decide +kernel
theorem lchk_3_2 : lchk 3 2 = true := by decide +kernel
theorem lchk_3_3 : lchk 3 3 = true := by decide +kernel
theorem lchk_3_4 : lchk 3 4 = true := by decide +kernel
theorem lchk_4_0 : lchk 4 0 = true := by decide +kernel
theorem lchk_4_1 : lchk 4 1 = true := by decide +kernel
theorem lchk_4_2 : lchk 4 2 = true := by decide +kernel
theorem lchk_4_3 : lchk 4 3 = true := by decide +kernel
theorem lchk_4_4 : lchk 4 4 = true := by decide +kernel
theorem lchk_5_0 : lchk 5 0 = true := by decide +kernel
theorem lchk_5_1 : lchk 5 1 = true := by decide +kernel
theorem lchk_5_2 : lchk 5 2 = true := by decide +kernel
theorem lchk_5_3 : lchk 5 3 = true := by decide +kernel
theorem lchk_5_4 : lchk 5 4 = true := by decide +kernel
theorem lchk_6_0 : lchk 6 0 = true := by decide +kernel
theorem lchk_6_1 : lchk 6 1 = true := by decide +kernel
theorem lchk_6_2 : lchk 6 2 = true := by decide +kernel
theorem lchk_6_3 : lchk 6 3 = true := by decide +kernel
theorem lchk_6_4 : lchk 6 4 = true := by decide +kernel
theorem lchk_7_0 : lchk 7 0 = true := by decide +kernel
theorem lchk_7_1 : lchk 7 1 = true := by decide +kernel
theorem lchk_7_2 : lchk 7 2 = true := by decide +kernel
theorem lchk_7_3 : lchk 7 3 = true := by decide +kernel
theorem lchk_7_4 : lchk 7 4 = true := by decide +kernel
theorem lchk_8_0 : lchk 8 0 = true := by decide +kernel
theorem lchk_8_1 : lchk 8 1 = true := by decide +kernel
theorem lchk_8_2 : lchk 8 2 = true := by decide +kernel
theorem lchk_8_3 : lchk 8 3 = true := by decide +kernel
theorem lchk_8_4 : lchk 8 4 = true := by decide +kernel
theorem lchk_9_0 : lchk 9 0 = true := by decide +kernel
theorem lchk_9_1 : lchk 9 1 = true := by decide +kernel
theorem lchk_9_2 : lchk 9 2 = true := by decide +kernel
theorem lchk_9_3 : lchk 9 3 = true := by decide +kernel
theorem lchk_9_4 : lchk 9 4 = true := by decide +kernel
theorem lchk_10_0 : lchk 10 0 = true := by decide +kernel
theorem lchk_10_1 : lchk 10 1 = true := by decide +kernel
theorem lchk_10_2 : lchk 10 2 = true := by decide +kernel
theorem lchk_10_3 : lchk 10 3 = true := by decide +kernel
theorem lchk_10_4 : lchk 10 4 = true := by decide +kernel
theorem lchk_11_0 : lchk 11 0 = true := by decide +kernel
theorem lchk_11_1 : lchk 11 1 = true := by decide +kernel
theorem lchk_11_2 : lchk 11 2 = true := by decide +kernel
theorem lchk_11_3 : lchk 11 3 = true := by decide +kernel
theorem lchk_11_4 : lchk 11 4 = true := by decide +kernel
theorem lchk_12_0 : lchk 12 0 = true := by decide +kernel
theorem lchk_12_1 : lchk 12 1 = true := by decide +kernel
theorem lchk_12_2 : lchk 12 2 = true := by decide +kernel
theorem lchk_12_3 : lchk 12 3 = true := by decide +kernel
theorem lchk_12_4 : lchk 12 4 = true := by decide +kernel
theorem lchk_all : ∀ S e, S ≤ 12 → e ≤ 4 → lchk S e = true
  | 0, 0, _, _ => lchk_0_0
  | 0, 1, _, _ => lchk_0_1
  | 0, 2, _, _ => lchk_0_2
  | 0, 3, _, _ => lchk_0_3
  | 0, 4, _, _ => lchk_0_4
  | 1, 0, _, _ => lchk_1_0
  | 1, 1, _, _ => lchk_1_1
  | 1, 2, _, _ => lchk_1_2
  | 1, 3, _, _ => lchk_1_3
  | 1, 4, _, _ => lchk_1_4
  | 2, 0, _, _ => lchk_2_0
  | 2, 1, _, _ => lchk_2_1
  | 2, 2, _, _ => lchk_2_2
  | 2, 3, _, _ => lchk_2_3
  | 2, 4, _, _ => lchk_2_4
  | 3, 0, _, _ => lchk_3_0
  | 3, 1, _, _ => lchk_3_1
  | 3, 2, _, _ => lchk_3_2
  | 3, 3, _, _ => lchk_3_3
  | 3, 4, _, _ => lchk_3_4
  | 4, 0, _, _ => lchk_4_0
  | 4, 1, _, _ => lchk_4_1
  | 4, 2, _, _ => lchk_4_2
  | 4, 3, _, _ => lchk_4_3
  | 4, 4, _, _ => lchk_4_4
  | 5, 0, _, _ => lchk_5_0
  | 5, 1, _, _ => lchk_5_1
  | 5, 2, _, _ => lchk_5_2
  | 5, 3, _, _ => lchk_5_3
  | 5, 4, _, _ => lchk_5_4
  | 6, 0, _, _ => lchk_6_0
  | 6, 1, _, _ => lchk_6_1
  | 6, 2, _, _ => lchk_6_2
  | 6, 3, _, _ => lchk_6_3
  | 6, 4, _, _ => lchk_6_4
  | 7, 0, _, _ => lchk_7_0
  | 7, 1, _, _ => lchk_7_1
  | 7, 2, _, _ => lchk_7_2
  | 7, 3, _, _ => lchk_7_3
  | 7, 4, _, _ => lchk_7_4
  | 8, 0, _, _ => lchk_8_0
  | 8, 1, _, _ => lchk_8_1
  | 8, 2, _, _ => lchk_8_2
  | 8, 3, _, _ => lchk_8_3
  | 8, 4, _, _ => lchk_8_4
  | 9, 0, _, _ => lchk_9_0
  | 9, 1, _, _ => lchk_9_1
  | 9, 2, _, _ => lchk_9_2
  | 9, 3, _, _ => lchk_9_3
  | 9, 4, _, _ => lchk_9_4
  | 10, 0, _, _ => lchk_10_0
  | 10, 1, _, _ => lchk_10_1
  | 10, 2, _, _ => lchk_10_2
  | 10, 3, _, _ => lchk_10_3
  | 10, 4, _, _ => lchk_10_4
  | 11, 0, _, _ => lchk_11_0
  | 11, 1, _, _ => lchk_11_1
  | 11, 2, _, _ => lchk_11_2
  | 11, 3, _, _ => lchk_11_3
  | 11, 4, _, _ => lchk_11_4
  | 12, 0, _, _ => lchk_12_0
  | 12, 1, _, _ => lchk_12_1
  | 12, 2, _, _ => lchk_12_2
  | 12, 3, _, _ => lchk_12_3
  | 12, 4, _, _ => lchk_12_4
  | S + 13, e, h, _ => absurd h (by omega)
  | 0, e + 5, _, h => absurd h (by omega)
  | 1, e + 5, _, h => absurd h (by omega)
  | 2, e + 5, _, h => absurd h (by omega)
  | 3, e + 5, _, h => absurd h (by omega)
  | 4, e + 5, _, h => absurd h (by omega)
  | 5, e + 5, _, h => absurd h (by omega)
  | 6, e + 5, _, h => absurd h (by omega)
  | 7, e + 5, _, h => absurd h (by omega)
  | 8, e + 5, _, h => absurd h (by omega)
  | 9, e + 5, _, h => absurd h (by omega)
  | 10, e + 5, _, h => absurd h (by omega)
  | 11, e + 5, _, h => absurd h (by omega)
  | 12, e + 5, _, h => absurd h (by omega)
