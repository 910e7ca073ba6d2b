/-! ===== both sides: wipe, turns, fuel, as calls ===== -/
section SV
variable {d : List Nat} {G : Nat → Int → Option Nat} {E : Nat → Int → Int}
theorem JI_wipe {s : zS} {g : Nat} (h : JI d G E s g) : ∃ (r : Int) (E1 E2 : Nat → Int → Int), zM zm_X11_wipe [zR 0] (d, G, E) (some (zI r)) (d, G, E1) ∧ zM zm_X12_wipe [zR 50] (d, G, E1) (some (zI r)) (d, G, E2) ∧ sc E E1 ∧ sc E E2 ∧ JI d G E2 s (g + 1) := by
  have hX : zK zXt d G := h.1.2.2.2.2.2.2.2.2.1
  have hM : zK zMt d G := h.1.2.2.2.2.2.2.2.2.2
  have q4 := h.2.2.2.2.2.1.1
  refine ⟨E 0 12, zuE E 0 12 0, zuE (zuE E 0 12 0) 50 4 0, zM_e rfl (Nat.le_of_ble_eq_true rfl) (fun kz Q hQ => X11_wipe_0 hX (fun H e => by rw [e]; exact hQ)), zM_e rfl (Nat.le_of_ble_eq_true rfl) (fun kz Q hQ => X12_wipe_0 hM (fun H e => ?_)), sc_p sc_r (by decide) (by decide), sc_p (sc_p sc_r (by decide) (by decide)) (by decide) (by decide), JI_2 h (Or.inl ⟨rfl, rfl, rfl⟩)⟩
  have e4 : zuE E 0 12 0 50 4 = E 0 12 := (zuE_ne (by decide) _).trans q4
  rw [e, e4]
  exact hQ
theorem JI_turns {s : zS} {g : Nat} {v : Int} (h : JI d G E s g) : ∃ (r : Int) (E1 E2 : Nat → Int → Int), zM zm_X11_turns [zR 0, zI v] (d, G, E) (some (zI r)) (d, G, E1) ∧ zM zm_X12_turns [zR 50, zI v] (d, G, E1) (some (zI r)) (d, G, E2) ∧ sc E E1 ∧ sc E E2 ∧ (JI d G E2 s (g + 1)) := by
  have hX : zK zXt d G := h.1.2.2.2.2.2.2.2.2.1
  have hM : zK zMt d G := h.1.2.2.2.2.2.2.2.2.2
  have q := h.2.2.2.2.2.2.1.1
  have up : JI d G E s (g + 1) := ⟨h.1, h.2.1, okS_g h.2.2.1 (by omega), h.2.2.2.1, h.2.2.2.2.1, h.2.2.2.2.2.1, h.2.2.2.2.2.2.1, h.2.2.2.2.2.2.2.1, ⟨h.2.2.2.2.2.2.2.2.1.1, h.2.2.2.2.2.2.2.2.1.2.1, by have := h.2.2.2.2.2.2.2.2.1.2.2; omega⟩, h.2.2.2.2.2.2.2.2.2⟩
  by_cases c : 0 ≤ v ∧ v ≤ 20
  · have hin := fun F => in3_ok (E := F) (d := d) (G := G) (v := v) (a := 0) (b := 20) hM
    refine ⟨E 0 13, zuE E 0 13 v, zuE (zuE E 0 13 v) 50 57 v, zM_e rfl (Nat.le_of_ble_eq_true rfl) (fun kz Q hQ => X11_turns_0 hX ⟨fun y => absurd y (by omega), fun _ => ⟨fun _ H e => by rw [e]; exact hQ, fun y => absurd c.2 y⟩⟩), zM_e rfl (Nat.le_of_ble_eq_true rfl) (fun kz Q hQ => X12_turns_0 hM ⟨_, hin _, fun _ H e => ?_, fun y => ?_⟩), sc_p sc_r (by decide) (by decide), sc_p (sc_p sc_r (by decide) (by decide)) (by decide) (by decide), JI_2 h (Or.inr (Or.inl ⟨rfl, rfl, c⟩))⟩
    · have e4 : zuE E 0 13 v 50 57 = E 0 13 := (zuE_ne (by decide) _).trans q
      rw [e, e4]
      exact hQ
    · rw [if_neg (by omega), if_neg (by omega)] at y
      exact absurd (by decide) y
  · have hin := in3_ok (E := E) (d := d) (G := G) (v := v) (a := 0) (b := 20) hM
    have e0 : (if v < 0 then (0 : Int) else if 20 < v then 0 else 1) = 0 := by
      by_cases w : v < 0
      · rw [if_pos w]
      · rw [if_neg w, if_pos (by omega)]
    rw [e0] at hin
    exact ⟨-2, E, E, zM_e rfl (Nat.le_of_ble_eq_true rfl) (fun kz Q hQ => X11_turns_0 hX ⟨fun _ => hQ, fun y => ⟨fun y2 => absurd ⟨by omega, y2⟩ c, fun _ => hQ⟩⟩), zM_e rfl (Nat.le_of_ble_eq_true rfl) (fun kz Q hQ => X12_turns_0 hM ⟨0, hin, fun y => absurd rfl y, fun _ => hQ⟩), sc_r, sc_r, up⟩
theorem JI_fuel {s : zS} {g : Nat} {v : Int} (h : JI d G E s g) : ∃ (r : Int) (E1 E2 : Nat → Int → Int), zM zm_X11_fuel [zR 0, zI v] (d, G, E) (some (zI r)) (d, G, E1) ∧ zM zm_X12_fuel [zR 50, zI v] (d, G, E1) (some (zI r)) (d, G, E2) ∧ sc E E1 ∧ sc E E2 ∧ (JI d G E2 s (g + 1)) := by
  have hX : zK zXt d G := h.1.2.2.2.2.2.2.2.2.1
  have hM : zK zMt d G := h.1.2.2.2.2.2.2.2.2.2
  have q := h.2.2.2.2.2.2.2.1.1
  have up : JI d G E s (g + 1) := ⟨h.1, h.2.1, okS_g h.2.2.1 (by omega), h.2.2.2.1, h.2.2.2.2.1, h.2.2.2.2.2.1, h.2.2.2.2.2.2.1, h.2.2.2.2.2.2.2.1, ⟨h.2.2.2.2.2.2.2.2.1.1, h.2.2.2.2.2.2.2.2.1.2.1, by have := h.2.2.2.2.2.2.2.2.1.2.2; omega⟩, h.2.2.2.2.2.2.2.2.2⟩
  by_cases c : 0 ≤ v ∧ v ≤ 4000
  · have hin := fun F => in3_ok (E := F) (d := d) (G := G) (v := v) (a := 0) (b := 4000) hM
    refine ⟨E 0 14, zuE E 0 14 v, zuE (zuE E 0 14 v) 50 58 v, zM_e rfl (Nat.le_of_ble_eq_true rfl) (fun kz Q hQ => X11_fuel_0 hX ⟨fun y => absurd y (by omega), fun _ => ⟨fun _ H e => by rw [e]; exact hQ, fun y => absurd c.2 y⟩⟩), zM_e rfl (Nat.le_of_ble_eq_true rfl) (fun kz Q hQ => X12_fuel_0 hM ⟨_, hin _, fun _ H e => ?_, fun y => ?_⟩), sc_p sc_r (by decide) (by decide), sc_p (sc_p sc_r (by decide) (by decide)) (by decide) (by decide), JI_2 h (Or.inr (Or.inr ⟨rfl, rfl, c⟩))⟩
    · have e4 : zuE E 0 14 v 50 58 = E 0 14 := (zuE_ne (by decide) _).trans q
      rw [e, e4]
      exact hQ
    · rw [if_neg (by omega), if_neg (by omega)] at y
      exact absurd (by decide) y
  · have hin := in3_ok (E := E) (d := d) (G := G) (v := v) (a := 0) (b := 4000) hM
    have e0 : (if v < 0 then (0 : Int) else if 4000 < v then 0 else 1) = 0 := by
      by_cases w : v < 0
      · rw [if_pos w]
      · rw [if_neg w, if_pos (by omega)]
    rw [e0] at hin
    exact ⟨-2, E, E, zM_e rfl (Nat.le_of_ble_eq_true rfl) (fun kz Q hQ => X11_fuel_0 hX ⟨fun _ => hQ, fun y => ⟨fun y2 => absurd ⟨by omega, y2⟩ c, fun _ => hQ⟩⟩), zM_e rfl (Nat.le_of_ble_eq_true rfl) (fun kz Q hQ => X12_fuel_0 hM ⟨0, hin, fun y => absurd rfl y, fun _ => hQ⟩), sc_r, sc_r, up⟩
end SV
