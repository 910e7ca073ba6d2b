/-! ===== both sides: clear ===== -/
def sClr (s : zS) : zS := (0, sR s, sT s, sB s, sN s, sW s, sS s, sAo s, sLo s, sMa s, sRw s, 0)
section SW
variable {d : List Nat} {G : Nat → Int → Option Nat} {E : Nat → Int → Int}
theorem JI_clear {s : zS} {g : Nat} (h : JI d G E s g) : ∃ (r : Int) (E1 E2 : Nat → Int → Int), zM zm_X11_clear [zR 0] (d, G, E) (some (zI r)) (d, G, E1) ∧ zM zm_X12_clear [zR 50] (d, G, E1) (some (zI r)) (d, G, E2) ∧ sc E E1 ∧ sc E E2 ∧ JI d G E2 (sClr s) (g + 1) := by
  obtain ⟨hc, hm, ho, ⟨q52, q53, q54⟩, q0, ⟨q4, d0, d2, dd⟩, ⟨q57, t0, t2⟩, ⟨q58, f0, f2⟩, ⟨q55, p0, p2⟩, sg⟩ := h
  obtain ⟨⟨M, ha, hK, h5, hcl⟩, e17, e18, e19, e20, e15, hI, h19, hX, hM⟩ := hc
  obtain ⟨hC, e44, e43, e45, e42, e54, hlo⟩ := hm
  let E1 := zuE (zuE (zuE E 5 4 0) 0 15 0) 0 16 0
  let E2 := zuE (zuE (zuE E1 50 6 0) 50 54 0) 50 55 0
  have n1 : ∀ y : Nat, y ≠ 0 → y ≠ 5 → E1 y = E y := fun y h1 h2 => (zuE_nf h1).trans ((zuE_nf h1).trans (zuE_nf h2))
  have n2 : ∀ y : Nat, y ≠ 0 → y ≠ 5 → y ≠ 50 → E2 y = E y := fun y h1 h2 h3 => (zuE_nf h3).trans ((zuE_nf h3).trans ((zuE_nf h3).trans (n1 y h1 h2)))
  have z0 : ∀ k : Int, k ≠ 15 → k ≠ 16 → E2 0 k = E 0 k := fun k k1 k2 => (zuE_ne (by decide) _).trans ((zuE_ne (by decide) _).trans ((zuE_ne (by decide) _).trans ((zuE_ix k2).trans ((zuE_ix k1).trans (zuE_ne (by decide) _)))))
  have z15 : E2 0 15 = 0 := (zuE_ne (by decide) _).trans ((zuE_ne (by decide) _).trans ((zuE_ne (by decide) _).trans ((zuE_ix (by decide)).trans zuE_same)))
  have z16 : E2 0 16 = 0 := (zuE_ne (by decide) _).trans ((zuE_ne (by decide) _).trans ((zuE_ne (by decide) _).trans zuE_same))
  have z54 : E2 5 4 = 0 := (zuE_ne (by decide) _).trans ((zuE_ne (by decide) _).trans ((zuE_ne (by decide) _).trans ((zuE_ne (by decide) _).trans ((zuE_ne (by decide) _).trans zuE_same))))
  have w : ∀ k : Int, k ≠ 6 → k ≠ 54 → k ≠ 55 → E2 50 k = E 50 k := fun k k1 k2 k3 => (zuE_ix k3).trans ((zuE_ix k2).trans ((zuE_ix k1).trans (by rw [n1 50 (by decide) (by decide)])))
  have w6 : E2 50 6 = 0 := (zuE_ix (by decide)).trans ((zuE_ix (by decide)).trans zuE_same)
  have w54 : E2 50 54 = 0 := (zuE_ix (by decide)).trans zuE_same
  have w55 : E2 50 55 = 0 := zuE_same
  have a6 : E1 50 6 = E 5 4 := by
    rw [n1 50 (by decide) (by decide), hC.1, h5]
  have c2 : CIv d G E2 (sClr s) := ⟨⟨M, ha, Nat.zero_le _, z54, fun c hc => absurd hc (Nat.not_lt_zero _)⟩, (z0 17 (by decide) (by decide)).trans e17, (z0 18 (by decide) (by decide)).trans e18, (z0 19 (by decide) (by decide)).trans e19, (z0 20 (by decide) (by decide)).trans e20, z15, by
    unfold stI at *
    rw [n2 20 (by decide) (by decide) (by decide), n2 22 (by decide) (by decide) (by decide), n2 23 (by decide) (by decide) (by decide)]; exact hI, by rw [n2 19 (by decide) (by decide) (by decide)]; exact h19, hX, hM⟩
  have m2 : MIv E2 (sClr s) := ⟨⟨w6, Nat.zero_le _, fun c hc => absurd hc (Nat.not_lt_zero _)⟩, (w 44 (by decide) (by decide) (by decide)).trans e44, (w 43 (by decide) (by decide) (by decide)).trans e43, (w 45 (by decide) (by decide) (by decide)).trans e45, (w 42 (by decide) (by decide) (by decide)).trans e42, w54, by rw [n2 58 (by decide) (by decide) (by decide)]; exact hlo⟩
  have sg2 : sgs E2 := by
    unfold sgs at *
    rw [n2 1 (by decide) (by decide) (by decide), n2 2 (by decide) (by decide) (by decide), n2 3 (by decide) (by decide) (by decide), n2 4 (by decide) (by decide) (by decide)]; exact sg
  have o2 : okS (g + 1) (sClr s) := by
    obtain ⟨o1, o2, o3, o4, o5, o6, o7, o8⟩ := okS_g ho (Nat.le_succ g)
    exact ⟨Nat.zero_le _, fun _ => by show (0 : Nat) < 150; decide, o3, o4, o5, o6, o7, by show (0 : Int) ≤ 0 ∧ (0 : Int) ≤ 3; decide⟩
  refine ⟨E 5 4, E1, E2, zM_e rfl (Nat.le_of_ble_eq_true rfl) (fun kz Q hQ => X11_clear_0 hX (fun H1 h1 H2 h2 H3 h3 => ?_)), zM_e rfl (Nat.le_of_ble_eq_true rfl) (fun kz Q hQ => X12_clear_0 hM (fun H1 h1 H2 h2 H3 h3 => ?_)), ⟨n1 193 (by decide) (by decide), n1 194 (by decide) (by decide)⟩, ⟨n2 193 (by decide) (by decide) (by decide), n2 194 (by decide) (by decide) (by decide)⟩, c2, m2, o2, ⟨by rw [n2 52 (by decide) (by decide) (by decide), n2 2 (by decide) (by decide) (by decide)]; exact q52, by rw [n2 53 (by decide) (by decide) (by decide), n2 3 (by decide) (by decide) (by decide)]; exact q53, by rw [n2 54 (by decide) (by decide) (by decide), n2 4 (by decide) (by decide) (by decide)]; exact q54⟩, ?_, ⟨?_, ?_, ?_, ?_⟩, ⟨?_, ?_, ?_⟩, ⟨?_, ?_, ?_⟩, ⟨by rw [w55, z16], by rw [z16]; decide, by rw [z16]; omega⟩, sg2⟩
  · subst h1; subst h2; subst h3; exact hQ
  · rw [a6]
    subst h1; subst h2; subst h3; exact hQ
  · rw [w 0 (by decide) (by decide) (by decide), n2 1 (by decide) (by decide) (by decide)]; exact q0
  · rw [w 4 (by decide) (by decide) (by decide), z0 12 (by decide) (by decide)]; exact q4
  · rw [z0 12 (by decide) (by decide)]; exact d0
  · rw [z0 12 (by decide) (by decide)]; exact d2
  · rw [z0 12 (by decide) (by decide), n2 56 (by decide) (by decide) (by decide), n2 9 (by decide) (by decide) (by decide)]; exact dd
  · rw [w 57 (by decide) (by decide) (by decide), z0 13 (by decide) (by decide)]; exact q57
  · rw [z0 13 (by decide) (by decide)]; exact t0
  · rw [z0 13 (by decide) (by decide)]; exact t2
  · rw [w 58 (by decide) (by decide) (by decide), z0 14 (by decide) (by decide)]; exact q58
  · rw [z0 14 (by decide) (by decide)]; exact f0
  · rw [z0 14 (by decide) (by decide)]; exact f2
end SW
