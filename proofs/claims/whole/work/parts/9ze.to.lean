/-! ===== the constructor of the reference ===== -/
section TO
variable {d : List Nat} {G : Nat → Int → Option Nat} {E : Nat → Int → Int}
set_option maxRecDepth 20000 in
theorem modelI : ∃ (G' : Nat → Int → Option Nat) (E' : Nat → Int → Int), zM zm_X12_init [zR 50] (dM0, G, E) none (dM1, G', E') ∧ zK zMt dM1 G' ∧ (∀ y : Nat, y ∉ [50, 52, 53, 54, 56, 58, 59, 60, 61, 62, 63, 64, 65, 66, 67, 68, 69, 70, 71, 72, 73, 74, 76, 77, 78, 80, 81, 82, 83, 84, 85, 92, 97, 98, 99, 100, 101, 102, 104, 110] → G' y = G y) ∧ (∀ y : Nat, y ∉ [50, 52, 53, 54, 56, 58, 59, 60, 61, 62, 63, 64, 65, 66, 67, 68, 69, 70, 71, 72, 73, 74, 76, 77, 78, 80, 81, 82, 83, 84, 85, 92, 97, 98, 99, 100, 101, 102, 104, 110] → E' y = E y) ∧ E' 50 0 = 1 ∧ E' 50 57 = 4 ∧ E' 50 58 = 2000 ∧ (∀ j : Int, j ≠ 0 → j ≠ 57 → j ≠ 58 → E' 50 j = E 50 j) ∧ E' 52 = dl 1 ∧ E' 53 = dl 2 ∧ E' 54 = dl 1 ∧ E' 58 = (fun _ => 0) := by
  refine ⟨(zuG (zclG (zuG (zclG (zuG (zclG (zuG (zclG (zuG (zclG (zuG (zclG (zuG (zclG (zuG (zclG (zuG (zclG (zuG (zclG (zuG (zclG (zuG (zclG (zuG (zclG (zuG (zclG (zuG (zclG (zuG (zclG (zuG (zclG (zuG (zclG (zuG (zclG (zuG (zclG (zuG (zclG (zuG (zclG (zuG (zclG (zuG (zclG (zuG (zclG (zuG (zclG (zuG (zclG (zuG (zclG (zuG (zclG (zuG (zclG (zuG (zclG (zuG (zclG (zuG (zclG (zuG (zclG (zuG (zclG (zuG (zclG (zuG (zclG (zuG (zclG (zuG (zclG G 52) 50 1 (some 52)) 53) 50 2 (some 53)) 54) 50 3 (some 54)) 56) 50 5 (some 56)) 58) 50 7 (some 58)) 59) 50 8 (some 59)) 60) 50 9 (some 60)) 61) 50 10 (some 61)) 62) 50 11 (some 62)) 63) 50 12 (some 63)) 64) 50 13 (some 64)) 65) 50 14 (some 65)) 66) 50 15 (some 66)) 67) 50 16 (some 67)) 68) 50 17 (some 68)) 69) 50 18 (some 69)) 70) 50 19 (some 70)) 71) 50 20 (some 71)) 72) 50 21 (some 72)) 73) 50 22 (some 73)) 74) 50 23 (some 74)) 76) 50 25 (some 76)) 77) 50 26 (some 77)) 78) 50 27 (some 78)) 80) 50 29 (some 80)) 81) 50 30 (some 81)) 82) 50 31 (some 82)) 83) 50 32 (some 83)) 84) 50 33 (some 84)) 85) 50 34 (some 85)) 92) 50 41 (some 92)) 97) 50 46 (some 97)) 98) 50 47 (some 98)) 99) 50 48 (some 99)) 100) 50 49 (some 100)) 101) 50 50 (some 101)) 102) 50 51 (some 102)) 104) 50 53 (some 104)) 110) 50 59 (some 110)), (zuE (zuE (zuE (zclE (zuE (zuE (zclE (zclE (zclE (zclE (zclE (zclE (zclE (zclE (zclE (zclE (zclE (zclE (zclE (zclE (zclE (zclE (zclE (zclE (zclE (zclE (zclE (zclE (zclE (zclE (zclE (zclE (zclE (zclE (zclE (zclE (zclE (zclE (zclE (zclE (zclE (zclE (zclE (zclE (zuE E 50 0 1) 52) 53) 54) 56) 58) 59) 60) 61) 62) 63) 64) 65) 66) 67) 68) 69) 70) 71) 72) 73) 74) 76) 77) 78) 80) 81) 82) 83) 84) 85) 92) 97) 98) 99) 100) 101) 102) 104) 50 57 4) 50 58 2000) 110) 52 0 1) 53 0 2) 54 0 1), zM_of rfl (Nat.le_of_ble_eq_true rfl) ⟨Nat.le_of_ble_eq_true rfl, by show zsl dM0 ≤ zsl dM1; decide +kernel⟩ ?_, ?_, fun y hy => ?_, fun y hy => ?_, ?_, ?_, ?_, fun j j0 j1 j2 => ?_, ?_, ?_, ?_, ?_⟩
  · refine X12_init_0 (by decide) ?_
    intro _ e; subst e
    refine ⟨52, rfl, by decide, by decide, by decide, by unfold zst3; decide, Nat.le_of_ble_eq_true rfl, by show zsl _ + _ ≤ zsl dM1; decide +kernel, fun _ _ _ e1 e2 e3 => ?_⟩
    subst e1; subst e2; subst e3
    intro _ e; subst e
    refine ⟨53, rfl, by decide, by decide, by decide, by unfold zst3; decide, Nat.le_of_ble_eq_true rfl, by show zsl _ + _ ≤ zsl dM1; decide +kernel, fun _ _ _ e1 e2 e3 => ?_⟩
    subst e1; subst e2; subst e3
    intro _ e; subst e
    refine ⟨54, rfl, by decide, by decide, by decide, by unfold zst3; decide, Nat.le_of_ble_eq_true rfl, by show zsl _ + _ ≤ zsl dM1; decide +kernel, fun _ _ _ e1 e2 e3 => ?_⟩
    subst e1; subst e2; subst e3
    intro _ e; subst e
    refine ⟨56, rfl, by decide, by decide, by decide, by unfold zst3; decide, Nat.le_of_ble_eq_true rfl, by show zsl _ + _ ≤ zsl dM1; decide +kernel, fun _ _ _ e1 e2 e3 => ?_⟩
    subst e1; subst e2; subst e3
    intro _ e; subst e
    refine ⟨58, rfl, by decide, by decide, by decide, by unfold zst3; decide, Nat.le_of_ble_eq_true rfl, by show zsl _ + _ ≤ zsl dM1; decide +kernel, fun _ _ _ e1 e2 e3 => ?_⟩
    subst e1; subst e2; subst e3
    intro _ e; subst e
    refine ⟨59, rfl, by decide, by decide, by decide, by unfold zst3; decide, Nat.le_of_ble_eq_true rfl, by show zsl _ + _ ≤ zsl dM1; decide +kernel, fun _ _ _ e1 e2 e3 => ?_⟩
    subst e1; subst e2; subst e3
    intro _ e; subst e
    refine ⟨60, rfl, by decide, by decide, by decide, by unfold zst3; decide, Nat.le_of_ble_eq_true rfl, by show zsl _ + _ ≤ zsl dM1; decide +kernel, fun _ _ _ e1 e2 e3 => ?_⟩
    subst e1; subst e2; subst e3
    intro _ e; subst e
    refine ⟨61, rfl, by decide, by decide, by decide, by unfold zst3; decide, Nat.le_of_ble_eq_true rfl, by show zsl _ + _ ≤ zsl dM1; decide +kernel, fun _ _ _ e1 e2 e3 => ?_⟩
    subst e1; subst e2; subst e3
    intro _ e; subst e
    refine ⟨62, rfl, by decide, by decide, by decide, by unfold zst3; decide, Nat.le_of_ble_eq_true rfl, by show zsl _ + _ ≤ zsl dM1; decide +kernel, fun _ _ _ e1 e2 e3 => ?_⟩
    subst e1; subst e2; subst e3
    intro _ e; subst e
    refine ⟨63, rfl, by decide, by decide, by decide, by unfold zst3; decide, Nat.le_of_ble_eq_true rfl, by show zsl _ + _ ≤ zsl dM1; decide +kernel, fun _ _ _ e1 e2 e3 => ?_⟩
    subst e1; subst e2; subst e3
    intro _ e; subst e
    refine ⟨64, rfl, by decide, by decide, by decide, by unfold zst3; decide, Nat.le_of_ble_eq_true rfl, by show zsl _ + _ ≤ zsl dM1; decide +kernel, fun _ _ _ e1 e2 e3 => ?_⟩
    subst e1; subst e2; subst e3
    intro _ e; subst e
    refine ⟨65, rfl, by decide, by decide, by decide, by unfold zst3; decide, Nat.le_of_ble_eq_true rfl, by show zsl _ + _ ≤ zsl dM1; decide +kernel, fun _ _ _ e1 e2 e3 => ?_⟩
    subst e1; subst e2; subst e3
    intro _ e; subst e
    refine ⟨66, rfl, by decide, by decide, by decide, by unfold zst3; decide, Nat.le_of_ble_eq_true rfl, by show zsl _ + _ ≤ zsl dM1; decide +kernel, fun _ _ _ e1 e2 e3 => ?_⟩
    subst e1; subst e2; subst e3
    intro _ e; subst e
    refine ⟨67, rfl, by decide, by decide, by decide, by unfold zst3; decide, Nat.le_of_ble_eq_true rfl, by show zsl _ + _ ≤ zsl dM1; decide +kernel, fun _ _ _ e1 e2 e3 => ?_⟩
    subst e1; subst e2; subst e3
    intro _ e; subst e
    refine ⟨68, rfl, by decide, by decide, by decide, by unfold zst3; decide, Nat.le_of_ble_eq_true rfl, by show zsl _ + _ ≤ zsl dM1; decide +kernel, fun _ _ _ e1 e2 e3 => ?_⟩
    subst e1; subst e2; subst e3
    intro _ e; subst e
    refine ⟨69, rfl, by decide, by decide, by decide, by unfold zst3; decide, Nat.le_of_ble_eq_true rfl, by show zsl _ + _ ≤ zsl dM1; decide +kernel, fun _ _ _ e1 e2 e3 => ?_⟩
    subst e1; subst e2; subst e3
    intro _ e; subst e
    refine ⟨70, rfl, by decide, by decide, by decide, by unfold zst3; decide, Nat.le_of_ble_eq_true rfl, by show zsl _ + _ ≤ zsl dM1; decide +kernel, fun _ _ _ e1 e2 e3 => ?_⟩
    subst e1; subst e2; subst e3
    intro _ e; subst e
    refine ⟨71, rfl, by decide, by decide, by decide, by unfold zst3; decide, Nat.le_of_ble_eq_true rfl, by show zsl _ + _ ≤ zsl dM1; decide +kernel, fun _ _ _ e1 e2 e3 => ?_⟩
    subst e1; subst e2; subst e3
    intro _ e; subst e
    refine ⟨72, rfl, by decide, by decide, by decide, by unfold zst3; decide, Nat.le_of_ble_eq_true rfl, by show zsl _ + _ ≤ zsl dM1; decide +kernel, fun _ _ _ e1 e2 e3 => ?_⟩
    subst e1; subst e2; subst e3
    intro _ e; subst e
    refine ⟨73, rfl, by decide, by decide, by decide, by unfold zst3; decide, Nat.le_of_ble_eq_true rfl, by show zsl _ + _ ≤ zsl dM1; decide +kernel, fun _ _ _ e1 e2 e3 => ?_⟩
    subst e1; subst e2; subst e3
    intro _ e; subst e
    refine ⟨74, rfl, by decide, by decide, by decide, by unfold zst3; decide, Nat.le_of_ble_eq_true rfl, by show zsl _ + _ ≤ zsl dM1; decide +kernel, fun _ _ _ e1 e2 e3 => ?_⟩
    subst e1; subst e2; subst e3
    intro _ e; subst e
    refine ⟨76, rfl, by decide, by decide, by decide, by unfold zst3; decide, Nat.le_of_ble_eq_true rfl, by show zsl _ + _ ≤ zsl dM1; decide +kernel, fun _ _ _ e1 e2 e3 => ?_⟩
    subst e1; subst e2; subst e3
    intro _ e; subst e
    refine ⟨77, rfl, by decide, by decide, by decide, by unfold zst3; decide, Nat.le_of_ble_eq_true rfl, by show zsl _ + _ ≤ zsl dM1; decide +kernel, fun _ _ _ e1 e2 e3 => ?_⟩
    subst e1; subst e2; subst e3
    intro _ e; subst e
    refine ⟨78, rfl, by decide, by decide, by decide, by unfold zst3; decide, Nat.le_of_ble_eq_true rfl, by show zsl _ + _ ≤ zsl dM1; decide +kernel, fun _ _ _ e1 e2 e3 => ?_⟩
    subst e1; subst e2; subst e3
    intro _ e; subst e
    refine ⟨80, rfl, by decide, by decide, by decide, by unfold zst3; decide, Nat.le_of_ble_eq_true rfl, by show zsl _ + _ ≤ zsl dM1; decide +kernel, fun _ _ _ e1 e2 e3 => ?_⟩
    subst e1; subst e2; subst e3
    intro _ e; subst e
    refine ⟨81, rfl, by decide, by decide, by decide, by unfold zst3; decide, Nat.le_of_ble_eq_true rfl, by show zsl _ + _ ≤ zsl dM1; decide +kernel, fun _ _ _ e1 e2 e3 => ?_⟩
    subst e1; subst e2; subst e3
    intro _ e; subst e
    refine ⟨82, rfl, by decide, by decide, by decide, by unfold zst3; decide, Nat.le_of_ble_eq_true rfl, by show zsl _ + _ ≤ zsl dM1; decide +kernel, fun _ _ _ e1 e2 e3 => ?_⟩
    subst e1; subst e2; subst e3
    intro _ e; subst e
    refine ⟨83, rfl, by decide, by decide, by decide, by unfold zst3; decide, Nat.le_of_ble_eq_true rfl, by show zsl _ + _ ≤ zsl dM1; decide +kernel, fun _ _ _ e1 e2 e3 => ?_⟩
    subst e1; subst e2; subst e3
    intro _ e; subst e
    refine ⟨84, rfl, by decide, by decide, by decide, by unfold zst3; decide, Nat.le_of_ble_eq_true rfl, by show zsl _ + _ ≤ zsl dM1; decide +kernel, fun _ _ _ e1 e2 e3 => ?_⟩
    subst e1; subst e2; subst e3
    intro _ e; subst e
    refine ⟨85, rfl, by decide, by decide, by decide, by unfold zst3; decide, Nat.le_of_ble_eq_true rfl, by show zsl _ + _ ≤ zsl dM1; decide +kernel, fun _ _ _ e1 e2 e3 => ?_⟩
    subst e1; subst e2; subst e3
    intro _ e; subst e
    refine ⟨92, rfl, by decide, by decide, by decide, by unfold zst3; decide, Nat.le_of_ble_eq_true rfl, by show zsl _ + _ ≤ zsl dM1; decide +kernel, fun _ _ _ e1 e2 e3 => ?_⟩
    subst e1; subst e2; subst e3
    intro _ e; subst e
    refine ⟨97, rfl, by decide, by decide, by decide, by unfold zst3; decide, Nat.le_of_ble_eq_true rfl, by show zsl _ + _ ≤ zsl dM1; decide +kernel, fun _ _ _ e1 e2 e3 => ?_⟩
    subst e1; subst e2; subst e3
    intro _ e; subst e
    refine ⟨98, rfl, by decide, by decide, by decide, by unfold zst3; decide, Nat.le_of_ble_eq_true rfl, by show zsl _ + _ ≤ zsl dM1; decide +kernel, fun _ _ _ e1 e2 e3 => ?_⟩
    subst e1; subst e2; subst e3
    intro _ e; subst e
    refine ⟨99, rfl, by decide, by decide, by decide, by unfold zst3; decide, Nat.le_of_ble_eq_true rfl, by show zsl _ + _ ≤ zsl dM1; decide +kernel, fun _ _ _ e1 e2 e3 => ?_⟩
    subst e1; subst e2; subst e3
    intro _ e; subst e
    refine ⟨100, rfl, by decide, by decide, by decide, by unfold zst3; decide, Nat.le_of_ble_eq_true rfl, by show zsl _ + _ ≤ zsl dM1; decide +kernel, fun _ _ _ e1 e2 e3 => ?_⟩
    subst e1; subst e2; subst e3
    intro _ e; subst e
    refine ⟨101, rfl, by decide, by decide, by decide, by unfold zst3; decide, Nat.le_of_ble_eq_true rfl, by show zsl _ + _ ≤ zsl dM1; decide +kernel, fun _ _ _ e1 e2 e3 => ?_⟩
    subst e1; subst e2; subst e3
    intro _ e; subst e
    refine ⟨102, rfl, by decide, by decide, by decide, by unfold zst3; decide, Nat.le_of_ble_eq_true rfl, by show zsl _ + _ ≤ zsl dM1; decide +kernel, fun _ _ _ e1 e2 e3 => ?_⟩
    subst e1; subst e2; subst e3
    intro _ e; subst e
    refine ⟨104, rfl, by decide, by decide, by decide, by unfold zst3; decide, Nat.le_of_ble_eq_true rfl, by show zsl _ + _ ≤ zsl dM1; decide +kernel, fun _ _ _ e1 e2 e3 => ?_⟩
    subst e1; subst e2; subst e3
    intro _ e; subst e
    intro _ e; subst e
    intro _ e; subst e
    refine ⟨110, rfl, by decide, by decide, by decide, by unfold zst3; decide, Nat.le_of_ble_eq_true rfl, by show zsl _ + _ ≤ zsl dM1; decide +kernel, fun _ _ _ e1 e2 e3 => ?_⟩
    subst e1; subst e2; subst e3
    intro _ e; subst e
    refine ⟨52, 16, rfl, rfl, by decide, by decide, fun _ e => ?_⟩
    subst e
    refine ⟨53, 16, rfl, rfl, by decide, by decide, fun _ e => ?_⟩
    subst e
    refine ⟨54, 16, rfl, rfl, by decide, by decide, fun _ e => ?_⟩
    subst e
    exact ⟨rfl, rfl⟩
  · intro x hx
    simp only [zMt, List.mem_cons, List.not_mem_nil, or_false] at hx
    rcases hx with e | e | e | e | e | e | e | e | e | e | e | e | e | e | e | e | e | e | e | e | e | e | e | e | e | e | e | e | e | e | e | e | e | e | e | e | e | e | e <;> subst e <;> exact ⟨rfl, by decide, by decide⟩
  · simp only [List.mem_cons, List.not_mem_nil, or_false, not_or] at hy
    funext k
    simp [zuG, zclG, hy]
  · simp only [List.mem_cons, List.not_mem_nil, or_false, not_or] at hy
    funext k
    simp [zuE, zclE, hy]
  · rfl
  · rfl
  · rfl
  · simp [zuE, zclE, j0, j1, j2]
  · funext k
    by_cases q : k = 0
    · subst q; simp [zuE, zclE, dl]
    · simp [zuE, zclE, dl, q]
  · funext k
    by_cases q : k = 0
    · subst q; simp [zuE, zclE, dl]
    · simp [zuE, zclE, dl, q]
  · funext k
    by_cases q : k = 0
    · subst q; simp [zuE, zclE, dl]
    · simp [zuE, zclE, dl, q]
  · funext k
    simp [zuE, zclE]
end TO
