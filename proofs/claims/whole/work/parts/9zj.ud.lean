/-! ===== the tables bound ===== -/
theorem tab_T {S e : Nat} (hS : S ≤ 12) (he : e ≤ 4) : (lget tTT (S * 5 + e)).length = 59 ∧ (lget tYY (S * 5 + e)).length = 59 := by
  have h := allb_ok tab_len (S * 5 + e) (by omega)
  simp only [Bool.and_eq_true, beq_iff_eq] at h
  exact h
theorem uTb : Tb uTT uYY := by
  refine ⟨fun R S e => ?_, fun R => ?_, fun R S e hR hS he h1 => ?_, fun R S e hR hS he h1 => ?_, fun R S e hR hS he h1 => ?_, fun R S e p a c hR hS he hp ha hc hl hk => ?_⟩
  · by_cases h : S * 5 + e < 65
    · by_cases hR : R < 59
      · have q := allb_ok (allb_ok tab_one _ h) R hR
        simp only [Bool.and_eq_true] at q
        exact ⟨Nat.le_of_ble_eq_true q.1, Nat.le_of_ble_eq_true q.2⟩
      · have q := allb_ok tab_len _ h
        simp only [Bool.and_eq_true, beq_iff_eq] at q
        exact ⟨Nat.le_of_eq (lgt_one (by omega)).symm, Nat.le_of_eq (lgt_one (by omega)).symm⟩
    · have q1 : lget tTT (S * 5 + e) = [] := lget_nil (by show 65 ≤ _; omega)
      have q2 : lget tYY (S * 5 + e) = [] := lget_nil (by show 65 ≤ _; omega)
      unfold uTT uYY
      rw [q1, q2]
      exact ⟨Nat.le_refl 1, Nat.le_refl 1⟩
  · by_cases hR : R < 59
    · have q := allb_ok tab_zero R hR
      simp only [Bool.and_eq_true, beq_iff_eq] at q
      exact q
    · have q := tab_T (S := 0) (e := 0) (by omega) (by omega)
      exact ⟨lgt_one (by omega), lgt_one (by omega)⟩
  · have q := allb_ok (allb_ok tab_lin (S * 5 + e - 1) (by omega)) R (by omega)
    rw [show Nat.succ (S * 5 + e - 1) = S * 5 + e by omega] at q
    exact Nat.le_of_ble_eq_true q
  · have q := allb_ok (allb_ok tab_incT (S * 5 + e - 1) (by omega)) R (by omega)
    rw [show Nat.succ (S * 5 + e - 1) = S * 5 + e by omega] at q
    exact Nat.le_of_ble_eq_true q
  · have q := allb_ok (allb_ok tab_incY (S * 5 + e) (by omega)) R (by omega)
    simp only [Bool.or_eq_true] at q
    rcases q with q | q
    · have := Nat.le_of_ble_eq_true q
      unfold uYY at h1
      omega
    · exact Nat.le_of_ble_eq_true q
  · have hb : a + tmn a - 1 ≤ R := mul_sub1 hp hk
    have tp := tmn_pos (a := a)
    have pk : p ≤ R := by
      have : p * 1 ≤ p * (a + tmn a - 1) := Nat.mul_le_mul_left p (by omega)
      omega
    have pa : p * a ≤ R := Nat.le_trans (Nat.mul_le_mul_left p (by omega)) hk
    have q := allb_ok (lchk_all S e hS he) (p - 1) (by
      rw [bsel_eq, bsel_eq, nmin_eq]
      unfold uLm at hl
      simp only [Nat.beq_eq]
      by_cases s1 : S = 12
      · rw [if_pos s1]; omega
      · rw [if_neg s1]
        by_cases s2 : e = 4
        · rw [if_pos s2]; omega
        · rw [if_neg s2]
          show p - 1 < min 58 (e + S)
          omega)
    rw [show Nat.succ (p - 1) = p by omega] at q
    have q2 := allb_ok q (a - 1) (by
      show a - 1 < 58 / p
      have : a ≤ 58 / p := (Nat.le_div_iff_mul_le (by omega)).mpr (by rw [Nat.mul_comm]; omega)
      omega)
    rw [show Nat.succ (a - 1) = a by omega] at q2
    have et : bsel (Nat.ble (Nat.div a 2) 1) 1 (Nat.div a 2) = tmn a := by
      rw [bsel_eq]
      unfold tmn
      show (if Nat.ble (a / 2) 1 = true then 1 else a / 2) = _
      by_cases w : a / 2 ≤ 1
      · rw [if_pos (Nat.ble_eq_true_of_le w)]; omega
      · rw [if_neg (fun z => w (Nat.le_of_ble_eq_true z))]; omega
    have es : bsel (Nat.beq S 12) 12 (bsel (Nat.beq e 4) S (Nat.sub S (Nat.sub p e))) = uS1 S e p := by
      rw [bsel_eq, bsel_eq]
      unfold uS1
      simp only [Nat.beq_eq]
      rfl
    rw [et, es] at q2
    have q3 := allb_ok (n := Nat.succ a) (f := fun c => lcmp (tmn a) c (a - c) (lget tTT (nmin 12 (uS1 S e p + (a - c) * (p - 1)) * 5 + nmin 4 (c * (p - 1)))) (lget tYY (nmin 12 (uS1 S e p + (a - c) * (p - 1)) * 5 + nmin 4 (c * (p - 1)))) (ldr (lget tTT (S * 5 + e)) (p * (a + tmn a - 1))) (ldr (lget tYY (S * 5 + e)) (p * (a + tmn a - 1)))) q2 c (by show c < a + 1; omega)
    rw [nmin_eq, nmin_eq, ldr_eq, ldr_eq] at q3
    have q4 : lcmp (tmn a) c (a - c) (lget tTT (uS2 S e p a c * 5 + uE2 p c)) (lget tYY (uS2 S e p a c * 5 + uE2 p c)) ((lget tTT (S * 5 + e)).drop (p * (a + tmn a - 1))) ((lget tYY (S * 5 + e)).drop (p * (a + tmn a - 1))) = true := q3
    obtain ⟨l1, l2⟩ := tab_T (S := uS2 S e p a c) (e := uE2 p c) (by unfold uS2; omega) (by unfold uE2; omega)
    obtain ⟨l3, l4⟩ := tab_T hS he
    have q5 := lcmp_ok q4 (R - p * (a + tmn a - 1)) (by omega) (by omega) (by rw [List.length_drop]; omega) (by rw [List.length_drop]; omega)
    rw [lgt_drop, lgt_drop, show p * (a + tmn a - 1) + (R - p * (a + tmn a - 1)) = R by omega] at q5
    exact q5
theorem tab_s : (allb 40 fun a0 => Nat.ble 59 (Nat.mul 2 (Nat.add a0 (bsel (Nat.ble (Nat.div (Nat.succ a0) 2) 1) 1 (Nat.div (Nat.succ a0) 2)))) || Nat.ble (lgt (lget tTT (Nat.mul (nmin 12 (Nat.succ a0)) 5)) (Nat.sub 58 (Nat.mul 2 (Nat.add a0 (bsel (Nat.ble (Nat.div (Nat.succ a0) 2) 1) 1 (Nat.div (Nat.succ a0) 2)))))) 999999) = true := by decide +kernel
/-- from the heads' region -/
theorem uTT_s {a : Nat} (ha : 1 ≤ a) (hk : 2 * (a + tmn a - 1) ≤ 58) : uTT (58 - 2 * (a + tmn a - 1)) (min 12 a) 0 ≤ 999999 := by
  have tp := tmn_pos (a := a)
  have q := allb_ok tab_s (a - 1) (by omega)
  rw [show Nat.succ (a - 1) = a by omega] at q
  have et : bsel (Nat.ble (Nat.div a 2) 1) 1 (Nat.div a 2) = tmn a := by
    rw [bsel_eq]
    unfold tmn
    show (if Nat.ble (a / 2) 1 = true then 1 else a / 2) = _
    by_cases w : a / 2 ≤ 1
    · rw [if_pos (Nat.ble_eq_true_of_le w)]; omega
    · rw [if_neg (fun z => w (Nat.le_of_ble_eq_true z))]; omega
  rw [et, nmin_eq] at q
  have e1 : Nat.add (a - 1) (tmn a) = a + tmn a - 1 := by show a - 1 + tmn a = _; omega
  rw [e1] at q
  simp only [Bool.or_eq_true] at q
  rcases q with q | q
  · have : 59 ≤ 2 * (a + tmn a - 1) := Nat.le_of_ble_eq_true q
    omega
  · exact Nat.le_of_ble_eq_true q
