/-! ===== both sides: draft ===== -/
theorem JI_up {d : List Nat} {G : Nat → Int → Option Nat} {E : Nat → Int → Int} {s : zS} {g : Nat} (h : JI d G E s g) : JI d G E s (g + 1) := ⟨h.1, h.2.1, okS_g h.2.2.1 (by omega), h.2.2.2.1, h.2.2.2.2.1, h.2.2.2.2.2.1, h.2.2.2.2.2.2.1, h.2.2.2.2.2.2.2.1, ⟨h.2.2.2.2.2.2.2.2.1.1, h.2.2.2.2.2.2.2.2.1.2.1, by have := h.2.2.2.2.2.2.2.2.1.2.2; omega⟩, h.2.2.2.2.2.2.2.2.2⟩
section SX
variable {d : List Nat} {G : Nat → Int → Option Nat} {E : Nat → Int → Int}
theorem JI_draft {s : zS} {g : Nat} {v : Int} (h : JI d G E s g) : ∃ (r : Int) (E1 E2 : Nat → Int → Int), zM zm_X11_draft [zR 0, zI v] (d, G, E) (some (zI r)) (d, G, E1) ∧ zM zm_X12_draft [zR 50, zI v] (d, G, E1) (some (zI r)) (d, G, E2) ∧ sc E E1 ∧ sc E E2 ∧ JI d G E2 s (g + 1) := by
  have hX : zK zXt d G := h.1.2.2.2.2.2.2.2.2.1
  have hM : zK zMt d G := h.1.2.2.2.2.2.2.2.2.2
  have up := JI_up h
  have hin := fun F => in3_ok (E := F) (d := d) (G := G) (v := v) (a := -20) (b := 3000) hM
  obtain ⟨hc, hm, ho, ⟨q52, q53, q54⟩, q0, ⟨q4, d0, d2, dd⟩, ⟨q57, t0, t2⟩, ⟨q58, f0, f2⟩, ⟨q55, p0, p2⟩, sg⟩ := h
  by_cases c : -20 ≤ v ∧ v ≤ 3000
  case neg =>
    have e0 : (if v < -20 then (0 : Int) else if 3000 < v then 0 else 1) = 0 := by
      by_cases w : v < -20
      · rw [if_pos w]
      · rw [if_neg w, if_pos (by omega)]
    have hi := hin E
    rw [e0] at hi
    exact ⟨-2, E, E, zM_e rfl (Nat.le_of_ble_eq_true rfl) (fun kz Q hQ => X11_draft_0 hX ⟨fun _ => hQ, fun y => ⟨fun y2 => absurd ⟨by omega, y2⟩ c, fun _ => hQ⟩⟩), zM_e rfl (Nat.le_of_ble_eq_true rfl) (fun kz Q hQ => X12_draft_0 hM ⟨0, hi, fun y => absurd rfl y, fun _ => hQ⟩), sc_r, sc_r, up⟩
  have e1 : (if v < -20 then (0 : Int) else if 3000 < v then 0 else 1) = 1 := by rw [if_neg (by omega), if_neg (by omega)]
  rw [e1] at hin
  by_cases c2 : E 0 12 < 200
  case neg =>
    exact ⟨-4, E, E, zM_e rfl (Nat.le_of_ble_eq_true rfl) (fun kz Q hQ => X11_draft_0 hX ⟨fun y => absurd y (by omega), fun _ => ⟨fun _ => ⟨fun y => absurd y c2, fun _ => hQ⟩, fun y => absurd c.2 y⟩⟩), zM_e rfl (Nat.le_of_ble_eq_true rfl) (fun kz Q hQ => X12_draft_0 hM ⟨1, hin E, fun _ => ⟨fun y => absurd (by rw [q4]; omega) y, fun _ => hQ⟩, fun y => absurd (by decide) y⟩), sc_r, sc_r, up⟩
  let A1 := zuE E 9 (E 0 12) v
  let E1 := zuE A1 0 12 (E 0 12 + 1)
  let A2 := zuE E1 56 (E 0 12) v
  let E2 := zuE A2 50 4 (E 0 12 + 1)
  have a12 : A1 0 12 = E 0 12 := zuE_ne (by decide) _
  have b12 : E1 0 12 = E 0 12 + 1 := zuE_same
  have b4 : E1 50 4 = E 0 12 := (zuE_ne (by decide) _).trans ((zuE_ne (by decide) _).trans q4)
  have c4 : A2 50 4 = E 0 12 := (zuE_ne (by decide) _).trans b4
  have y4 : E2 50 4 = E 0 12 + 1 := zuE_same
  have n : ∀ y : Nat, y ≠ 0 → y ≠ 9 → y ≠ 50 → y ≠ 56 → E2 y = E y := fun y h0 h9 h5 h6 => (zuE_nf h5).trans ((zuE_nf h6).trans ((zuE_nf h0).trans (zuE_nf h9)))
  have z0 : ∀ k : Int, k ≠ 12 → E2 0 k = E 0 k := fun k hk => (zuE_ne (by decide) _).trans ((zuE_ne (by decide) _).trans ((zuE_ix hk).trans (zuE_ne (by decide) _)))
  have z12 : E2 0 12 = E 0 12 + 1 := (zuE_ne (by decide) _).trans ((zuE_ne (by decide) _).trans b12)
  have z5 : ∀ k : Int, k ≠ 4 → E2 50 k = E 50 k := fun k hk => (zuE_ix hk).trans ((zuE_ne (by decide) _).trans ((zuE_ne (by decide) _).trans (zuE_ne (by decide) _)))
  have cA : CIv d G A1 s := CIv_fz hc (S := [9]) (fz_put fz_rfl (by simp)) (by simp) (by
    have hI := hc.2.2.2.2.2.2.1
    unfold stI at *
    rw [show A1 20 = E 20 from zuE_nf (by decide), show A1 22 = E 22 from zuE_nf (by decide), show A1 23 = E 23 from zuE_nf (by decide)]; exact hI) (by rw [show A1 19 = E 19 from zuE_nf (by decide)]; exact hc.2.2.2.2.2.2.2.1)
  have cE : CIv d G E2 s := CIv_m (CIv_0 cA (Or.inl (by decide))) (S := [50, 56]) (fz_put (fz_put fz_rfl (by simp)) (by simp)) (by simp)
  have mA : MIv A2 s := by
    have m1 := MIv_k (E' := E1) hm (fun y y1 _ => (zuE_nf (by omega)).trans (zuE_nf (by omega)))
    obtain ⟨hC, e44, e43, e45, e42, e54, hlo⟩ := m1
    have f : fz [56] E1 A2 := fz_put fz_rfl (by simp)
    have a50 : A2 50 = E1 50 := f 50 (by simp)
    refine ⟨?_, by rw [a50]; exact e44, by rw [a50]; exact e43, by rw [a50]; exact e45, by rw [a50]; exact e42, by rw [a50]; exact e54, by rw [f 58 (by simp)]; exact hlo⟩
    rw [f 53 (by simp), f 54 (by simp)]
    exact MI_fz hC f (by simp) (by rw [a50])
  have m2 : MIv E2 s := MIv_50 mA (Or.inl (by decide))
  have sg2 : sgs E2 := by
    unfold sgs at *
    rw [n 1 (by decide) (by decide) (by decide) (by decide), n 2 (by decide) (by decide) (by decide) (by decide), n 3 (by decide) (by decide) (by decide) (by decide), n 4 (by decide) (by decide) (by decide) (by decide)]; exact sg
  have r9 : ∀ i : Int, E2 9 i = zuE E 9 (E 0 12) v 9 i := fun i => (zuE_ne (by decide) _).trans ((zuE_ne (by decide) _).trans (zuE_ne (by decide) _))
  have r56 : ∀ i : Int, i ≠ E 0 12 → E2 56 i = E 56 i := fun i hi => (zuE_ne (by decide) _).trans ((zuE_ix hi).trans ((zuE_ne (by decide) _).trans (zuE_ne (by decide) _)))
  have r56e : E2 56 (E 0 12) = v := (zuE_ne (by decide) _).trans zuE_same
  refine ⟨E 0 12 + 1, E1, E2, zM_e rfl (Nat.le_of_ble_eq_true rfl) (fun kz Q hQ => X11_draft_0 hX ⟨fun y => absurd y (by omega), fun _ => ⟨fun _ => ⟨fun _ => ⟨⟨d0, c2⟩, fun H1 h1 => ?_⟩, fun y => absurd c2 y⟩, fun y => absurd c.2 y⟩⟩), zM_e rfl (Nat.le_of_ble_eq_true rfl) (fun kz Q hQ => X12_draft_0 hM ⟨1, hin E1, fun _ => ⟨fun _ => ⟨by rw [b4]; exact ⟨d0, c2⟩, fun H1 h1 => ?_⟩, fun y => absurd (by rw [b4]; omega) y⟩, fun y => absurd (by decide) y⟩), sc_p (sc_p sc_r (by decide) (by decide)) (by decide) (by decide), ⟨n 193 (by decide) (by decide) (by decide) (by decide), n 194 (by decide) (by decide) (by decide) (by decide)⟩, cE, m2, okS_g ho (by omega), ⟨by rw [n 52 (by decide) (by decide) (by decide) (by decide), n 2 (by decide) (by decide) (by decide) (by decide)]; exact q52, by rw [n 53 (by decide) (by decide) (by decide) (by decide), n 3 (by decide) (by decide) (by decide) (by decide)]; exact q53, by rw [n 54 (by decide) (by decide) (by decide) (by decide), n 4 (by decide) (by decide) (by decide) (by decide)]; exact q54⟩, by rw [z5 0 (by decide), n 1 (by decide) (by decide) (by decide) (by decide)]; exact q0, ⟨by rw [y4, z12], by rw [z12]; omega, by rw [z12]; omega, fun i i0 i1 => ?_⟩, ⟨by rw [z5 57 (by decide), z0 13 (by decide)]; exact q57, by rw [z0 13 (by decide)]; exact t0, by rw [z0 13 (by decide)]; exact t2⟩, ⟨by rw [z5 58 (by decide), z0 14 (by decide)]; exact q58, by rw [z0 14 (by decide)]; exact f0, by rw [z0 14 (by decide)]; exact f2⟩, ⟨by rw [z5 55 (by decide), z0 16 (by decide)]; exact q55, by rw [z0 16 (by decide)]; exact p0, by rw [z0 16 (by decide)]; omega⟩, sg2⟩
  · have eH : H1 = A1 := h1
    rw [eH, a12]
    refine ⟨zin_of (by omega) (by omega), fun H2 h2 => ?_⟩
    have eH2 : H2 = E1 := h2
    rw [eH2, b12]; exact hQ
  · rw [b4] at h1
    have eH : H1 = A2 := h1
    rw [eH, c4]
    refine ⟨zin_of (by omega) (by omega), fun H2 h2 => ?_⟩
    have eH2 : H2 = E2 := h2
    rw [eH2, y4]; exact hQ
  · rw [z12] at i1
    by_cases e : i = E 0 12
    · subst e
      rw [r56e, r9, zuE_same]
      exact ⟨rfl, c.1, c.2⟩
    · rw [r56 i e, r9, zuE_ix e]
      exact dd i i0 (by omega)
end SX
