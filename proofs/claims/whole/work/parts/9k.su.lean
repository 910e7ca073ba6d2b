/-! ===== both sides: wipe, turns, fuel ===== -/
theorem CIv_0 {d : List Nat} {G : Nat → Int → Option Nat} {E : Nat → Int → Int} {s : zS} {i v : Int} (h : CIv d G E s) (hi : i < 15 ∨ i = 16) : CIv d G (zuE E 0 i v) s := by
  obtain ⟨⟨M, hC⟩, e17, e18, e19, e20, e15, hI, h19, hX, hMt⟩ := h
  have n : ∀ y : Nat, y ≠ 0 → zuE E 0 i v y = E y := fun y hy => zuE_nf hy
  have z : ∀ k : Int, k = 15 ∨ 17 ≤ k → zuE E 0 i v 0 k = E 0 k := fun k hk => zuE_ix (by omega)
  refine ⟨⟨M, ?_⟩, (z 17 (by decide)).trans e17, (z 18 (by decide)).trans e18, (z 19 (by decide)).trans e19, (z 20 (by decide)).trans e20, (z 15 (by decide)).trans e15, ?_, ?_, hX, hMt⟩
  · rw [n 3 (by decide), n 4 (by decide)]
    exact CI_fz hC (S := [0]) (fun y hy => n y (by simpa using hy)) (by simp) (by rw [n 5 (by decide)])
  · unfold stI at *
    rw [n 20 (by decide), n 22 (by decide), n 23 (by decide)]; exact hI
  · rw [n 19 (by decide)]; exact h19
theorem MIv_50 {E : Nat → Int → Int} {s : zS} {j v : Int} (h : MIv E s) (hj : j < 6 ∨ 55 ≤ j) : MIv (zuE E 50 j v) s := by
  obtain ⟨hC, e44, e43, e45, e42, e54, hlo⟩ := h
  have f : fz [50] E (zuE E 50 j v) := fz_put fz_rfl (by simp)
  have z : ∀ k : Int, 6 ≤ k → k < 55 → zuE E 50 j v 50 k = E 50 k := fun k k1 k2 => zuE_ix (by omega)
  refine ⟨?_, (z 44 (by decide) (by decide)).trans e44, (z 43 (by decide) (by decide)).trans e43, (z 45 (by decide) (by decide)).trans e45, (z 42 (by decide) (by decide)).trans e42, (z 54 (by decide) (by decide)).trans e54, by rw [f 58 (by simp)]; exact hlo⟩
  rw [f 53 (by simp), f 54 (by simp)]
  exact MI_fz hC f (by simp) (z 6 (by decide) (by decide))
/-- a number each, told to both -/
theorem JI_2 {d : List Nat} {G : Nat → Int → Option Nat} {E : Nat → Int → Int} {s : zS} {g : Nat} {i j v : Int} (h : JI d G E s g) (hi : i = 12 ∧ j = 4 ∧ v = 0 ∨ i = 13 ∧ j = 57 ∧ 0 ≤ v ∧ v ≤ 20 ∨ i = 14 ∧ j = 58 ∧ 0 ≤ v ∧ v ≤ 4000) : JI d G (zuE (zuE E 0 i v) 50 j v) s (g + 1) := by
  obtain ⟨hc, hm, ho, ⟨q52, q53, q54⟩, q0, ⟨q4, d0, d2, dd⟩, ⟨q57, t0, t2⟩, ⟨q58, f0, f2⟩, ⟨q55, p0, p2⟩, sg⟩ := h
  let E2 := zuE (zuE E 0 i v) 50 j v
  have n : ∀ y : Nat, y ≠ 0 → y ≠ 50 → E2 y = E y := fun y h1 h2 => (zuE_nf h2).trans (zuE_nf h1)
  have z0 : ∀ k : Int, k ≠ i → E2 0 k = E 0 k := fun k hk => (zuE_ne (by decide) _).trans (zuE_ix hk)
  have z5 : ∀ k : Int, k ≠ j → E2 50 k = E 50 k := fun k hk => (zuE_ix hk).trans (zuE_ne (by decide) _)
  have y0 : E2 0 i = v := (zuE_ne (by decide) _).trans zuE_same
  have y5 : E2 50 j = v := zuE_same
  have c2 : CIv d G E2 s := CIv_m (CIv_0 hc (by omega)) (S := [50]) (fz_put fz_rfl (by simp)) (by simp)
  have m2 : MIv E2 s := MIv_50 (MIv_k hm (fun y y1 _ => zuE_nf (by omega))) (by omega)
  have sg2 : sgs E2 := by
    unfold sgs at *
    rw [n 1 (by decide) (by decide), n 2 (by decide) (by decide), n 3 (by decide) (by decide), n 4 (by decide) (by decide)]; exact sg
  show JI d G E2 s (g + 1)
  refine ⟨c2, m2, okS_g ho (by omega), ⟨by rw [n 52 (by decide) (by decide), n 2 (by decide) (by decide)]; exact q52, by rw [n 53 (by decide) (by decide), n 3 (by decide) (by decide)]; exact q53, by rw [n 54 (by decide) (by decide), n 4 (by decide) (by decide)]; exact q54⟩, by rw [z5 0 (by omega), n 1 (by decide) (by decide)]; exact q0, ?_, ?_, ?_, ⟨by rw [z5 55 (by omega), z0 16 (by omega)]; exact q55, by rw [z0 16 (by omega)]; exact p0, by rw [z0 16 (by omega)]; omega⟩, sg2⟩
  · rw [n 56 (by decide) (by decide), n 9 (by decide) (by decide)]
    rcases hi with ⟨a, b, c⟩ | ⟨a, b, c⟩ | ⟨a, b, c⟩
    · subst a; subst b; subst c
      rw [y0, y5]
      exact ⟨rfl, by decide, by decide, fun i i0 i1 => by omega⟩
    · rw [z5 4 (by omega), z0 12 (by omega)]
      exact ⟨q4, d0, d2, dd⟩
    · rw [z5 4 (by omega), z0 12 (by omega)]
      exact ⟨q4, d0, d2, dd⟩
  · rcases hi with ⟨a, b, c⟩ | ⟨a, b, c⟩ | ⟨a, b, c⟩
    · rw [z5 57 (by omega), z0 13 (by omega)]; exact ⟨q57, t0, t2⟩
    · subst a; subst b
      rw [y0, y5]
      exact ⟨rfl, c⟩
    · rw [z5 57 (by omega), z0 13 (by omega)]; exact ⟨q57, t0, t2⟩
  · rcases hi with ⟨a, b, c⟩ | ⟨a, b, c⟩ | ⟨a, b, c⟩
    · rw [z5 58 (by omega), z0 14 (by omega)]; exact ⟨q58, f0, f2⟩
    · rw [z5 58 (by omega), z0 14 (by omega)]; exact ⟨q58, f0, f2⟩
    · subst a; subst b
      rw [y0, y5]
      exact ⟨rfl, c⟩
