/-! ===== both sides: sign ===== -/
theorem in01 {v a b : Int} : ((if v < a then (0 : Int) else if b < v then 0 else 1) = 1 ∧ a ≤ v ∧ v ≤ b) ∨ ((if v < a then (0 : Int) else if b < v then 0 else 1) = 0 ∧ ¬ (a ≤ v ∧ v ≤ b)) := by
  by_cases w : v < a
  · rw [if_pos w]; exact Or.inr ⟨rfl, by omega⟩
  · rw [if_neg w]
    by_cases w2 : b < v
    · rw [if_pos w2]; exact Or.inr ⟨rfl, by omega⟩
    · rw [if_neg w2]; exact Or.inl ⟨rfl, by omega, by omega⟩
section SY
variable {d : List Nat} {G : Nat → Int → Option Nat} {E : Nat → Int → Int}
/-- whether a number lies between two -/
theorem inY {v a b : Int} (hM : zK zMt d G) (h : a ≤ v ∧ v ≤ b) : zM zm_X12_in [zI v, zI a, zI b] (d, G, E) (some (zI 1)) (d, G, E) := by
  have := in3_ok (E := E) (v := v) (a := a) (b := b) hM
  rw [if_neg (by omega), if_neg (by omega)] at this
  exact this
theorem inN {v a b : Int} (hM : zK zMt d G) (h : ¬ (a ≤ v ∧ v ≤ b)) : zM zm_X12_in [zI v, zI a, zI b] (d, G, E) (some (zI 0)) (d, G, E) := by
  have := in3_ok (E := E) (v := v) (a := a) (b := b) hM
  rcases in01 (v := v) (a := a) (b := b) with ⟨_, q⟩ | ⟨q, _⟩
  · exact absurd q h
  · rw [q] at this; exact this
theorem JI_sign (hUB : ∀ P : Int → Int, pok P → UB P) {s : zS} {g : Nat} {v1 v2 v3 : Int} (h1 : v1 = 0 ∨ v1 = 1) (h : JI d G E s g) : ∃ (r : Int) (E1 E2 : Nat → Int → Int), zM zm_X11_sign [zR 0, zI v1, zI v2, zI v3] (d, G, E) (some (zI r)) (d, G, E1) ∧ zM zm_X12_sign [zR 50, zI v1, zI v2, zI v3] (d, G, E1) (some (zI r)) (d, G, E2) ∧ sc E E1 ∧ sc E E2 ∧ JI d G E2 s (g + 1) := by
  have hX : zK zXt d G := h.1.2.2.2.2.2.2.2.2.1
  have hM : zK zMt d G := h.1.2.2.2.2.2.2.2.2.2
  have up := JI_up h
  obtain ⟨hc, hm, ho, ⟨q52, q53, q54⟩, q0, ⟨q4, d0, d2, dd⟩, ⟨q57, t0, t2⟩, ⟨q58, f0, f2⟩, ⟨q55, p0, p2⟩, sg⟩ := h
  by_cases c2 : 0 ≤ v2 ∧ v2 ≤ 3
  case neg =>
    refine ⟨-2, E, E, zM_e rfl (Nat.le_of_ble_eq_true rfl) (fun kz Q hQ => X11_sign_0 hX ⟨fun _ => hQ, fun y => ⟨fun _ => hQ, fun y2 => absurd (by omega) c2⟩⟩), zM_e rfl (Nat.le_of_ble_eq_true rfl) (fun kz Q hQ => X12_sign_0 hM ⟨0, inN hM c2, fun _ => hQ, fun y => absurd rfl y⟩), sc_r, sc_r, up⟩
  by_cases c3 : 1 ≤ v3 ∧ v3 ≤ 9
  case neg =>
    refine ⟨-2, E, E, zM_e rfl (Nat.le_of_ble_eq_true rfl) (fun kz Q hQ => X11_sign_0 hX ⟨fun _ => hQ, fun y => ⟨fun _ => hQ, fun y2 => ⟨fun _ => hQ, fun y3 => ⟨fun y4 => absurd (by omega) c3, fun _ => hQ⟩⟩⟩⟩), zM_e rfl (Nat.le_of_ble_eq_true rfl) (fun kz Q hQ => X12_sign_0 hM ⟨1, inY hM c2, fun y => absurd y (by decide), fun _ => ⟨0, inN hM c3, fun y => absurd rfl y, fun _ => hQ⟩⟩), sc_r, sc_r, up⟩
  have x5 : E 5 4 = sK s := hc.1.choose_spec.2.2.1
  have x6 : E 50 6 = sK s := hm.1.1
  have cls : ∀ (kz : Nat × Nat) (Q : Option zV → zH → Prop), ((E 5 4) ≤ 0 → ∃ x_6 E_7, zM zm_X8_add [zR 1, zI v1, zI v2, zI v3] (d, G, E) (some (zI x_6)) (d, G, E_7) ∧ Q (some (zI x_6)) (d, G, E_7)) ∧ (¬ ((E 5 4) ≤ 0) → Q (some (zI ((-3)))) (d, G, E)) → Z zm_X11_sign kz Q 0 (zent 0 [zR 0, zI v1, zI v2, zI v3]) [] (d, G, E) := fun kz Q hQ => X11_sign_0 hX ⟨fun y => absurd y (by omega), fun _ => ⟨fun y => absurd y (by omega), fun _ => ⟨fun y => absurd y (by omega), fun _ => ⟨fun _ => hQ, fun y => absurd c3.2 y⟩⟩⟩⟩
  by_cases ck : sK s = 0
  case neg =>
    refine ⟨-3, E, E, zM_e rfl (Nat.le_of_ble_eq_true rfl) (fun kz Q hQ => cls kz Q ⟨fun y => absurd y (by omega), fun _ => hQ⟩), zM_e rfl (Nat.le_of_ble_eq_true rfl) (fun kz Q hQ => X12_sign_0 hM ⟨1, inY hM c2, fun y => absurd y (by decide), fun _ => ⟨1, inY hM c3, fun _ => ⟨fun y => absurd y (by omega), fun _ => hQ⟩, fun y => absurd (by decide) y⟩⟩), sc_r, sc_r, up⟩
  have hn : 1 ≤ E 1 3 ∧ E 1 3 ≤ 16 := sg.2.2.2.2.1
  by_cases cn : E 1 3 = 16
  case pos =>
    refine ⟨-4, E, E, zM_e rfl (Nat.le_of_ble_eq_true rfl) (fun kz Q hQ => cls kz Q ⟨fun _ => ⟨-4, E, zM_e rfl (Nat.le_of_ble_eq_true rfl) (fun kz Q hQ => X8_add_0 hX ⟨fun y => absurd y (by omega), fun _ => hQ⟩), hQ⟩, fun y => absurd (by omega) y⟩), zM_e rfl (Nat.le_of_ble_eq_true rfl) (fun kz Q hQ => X12_sign_0 hM ⟨1, inY hM c2, fun y => absurd y (by decide), fun _ => ⟨1, inY hM c3, fun _ => ⟨fun _ => ⟨fun y => absurd (q0.trans cn) y, fun _ => hQ⟩, fun y => absurd (by omega) y⟩, fun y => absurd (by decide) y⟩⟩), sc_r, sc_r, up⟩
  generalize en : E 1 3 = n at *
  have n0 : 0 ≤ n ∧ n < 16 := ⟨by omega, by omega⟩
  let A1 := zuE E 2 n v1
  let A2 := zuE A1 3 n v2
  let A3 := zuE A2 4 n v3
  let E1 := zuE A3 1 3 (n + 1)
  let B1 := zuE E1 52 n v1
  let B2 := zuE B1 53 n v2
  let B3 := zuE B2 54 n v3
  let E2 := zuE B3 50 0 (n + 1)
  have a1 : A1 1 3 = n := (zuE_ne (by decide) _).trans en
  have a2 : A2 1 3 = n := (zuE_ne (by decide) _).trans a1
  have a3 : A3 1 3 = n := (zuE_ne (by decide) _).trans a2
  have e1 : E1 1 3 = n + 1 := zuE_same
  have nE1 : ∀ y : Nat, 5 ≤ y → E1 y = E y := fun y hy => (zuE_nf (by omega)).trans ((zuE_nf (by omega)).trans ((zuE_nf (by omega)).trans (zuE_nf (by omega))))
  have z0 : E1 50 0 = n := by rw [nE1 50 (by decide)]; exact q0
  have b1 : B1 50 0 = n := (zuE_ne (by decide) _).trans z0
  have b2 : B2 50 0 = n := (zuE_ne (by decide) _).trans b1
  have b3 : B3 50 0 = n := (zuE_ne (by decide) _).trans b2
  have e2 : E2 50 0 = n + 1 := zuE_same
  have f12 : fz [50, 52, 53, 54] E1 E2 := fz_put (fz_put (fz_put (fz_put fz_rfl (by simp)) (by simp)) (by simp)) (by simp)
  have lo : ∀ y : Nat, y < 50 → E2 y = E1 y := fun y hy => f12 y (by simp only [List.mem_cons, List.not_mem_nil, or_false]; omega)
  have hi : ∀ y : Nat, 5 ≤ y → y ≠ 50 → y ≠ 52 → y ≠ 53 → y ≠ 54 → E2 y = E y := fun y hy a b c e => (f12 y (by simp only [List.mem_cons, List.not_mem_nil, or_false]; omega)).trans (nE1 y hy)
  have w5 : ∀ k : Int, k ≠ 0 → E2 50 k = E 50 k := fun k hk => (zuE_ix hk).trans ((zuE_ne (by decide) _).trans ((zuE_ne (by decide) _).trans ((zuE_ne (by decide) _).trans (by rw [nE1 50 (by decide)]))))
  have w1 : ∀ k : Int, E2 1 k = if k = 3 then n + 1 else E 1 k := fun k => by
    rw [lo 1 (by decide)]
    by_cases e : k = 3
    · rw [if_pos e, e]; exact e1
    · rw [if_neg e]; exact (zuE_ix e).trans ((zuE_ne (by decide) _).trans ((zuE_ne (by decide) _).trans (zuE_ne (by decide) _)))
  have r0 : E2 0 = E 0 := (lo 0 (by decide)).trans ((zuE_nf (by decide)).trans ((zuE_nf (by decide)).trans ((zuE_nf (by decide)).trans (zuE_nf (by decide)))))
  have r2 : ∀ k : Int, E2 2 k = if k = n then v1 else E 2 k := fun k => by
    rw [lo 2 (by decide)]
    have q : E1 2 k = A1 2 k := (zuE_ne (by decide) _).trans ((zuE_ne (by decide) _).trans (zuE_ne (by decide) _))
    rw [q]
    by_cases e : k = n
    · rw [if_pos e, e]; exact zuE_same
    · rw [if_neg e]; exact zuE_ix e
  have r3 : ∀ k : Int, E2 3 k = if k = n then v2 else E 3 k := fun k => by
    rw [lo 3 (by decide)]
    have q : E1 3 k = A2 3 k := (zuE_ne (by decide) _).trans (zuE_ne (by decide) _)
    rw [q]
    by_cases e : k = n
    · rw [if_pos e, e]; exact zuE_same
    · rw [if_neg e]; exact (zuE_ix e).trans (zuE_ne (by decide) _)
  have r4 : ∀ k : Int, E2 4 k = if k = n then v3 else E 4 k := fun k => by
    rw [lo 4 (by decide)]
    have q : E1 4 k = A3 4 k := (zuE_ne (by decide) _)
    rw [q]
    by_cases e : k = n
    · rw [if_pos e, e]; exact zuE_same
    · rw [if_neg e]; exact (zuE_ix e).trans ((zuE_ne (by decide) _).trans (zuE_ne (by decide) _))
  have r52 : ∀ k : Int, E2 52 k = if k = n then v1 else E 52 k := fun k => by
    have q : E2 52 k = B1 52 k := (zuE_ne (by decide) _).trans ((zuE_ne (by decide) _).trans (zuE_ne (by decide) _))
    rw [q]
    by_cases e : k = n
    · rw [if_pos e, e]; exact zuE_same
    · rw [if_neg e]; exact (zuE_ix e).trans (by rw [nE1 52 (by decide)])
  have r53 : ∀ k : Int, E2 53 k = if k = n then v2 else E 53 k := fun k => by
    have q : E2 53 k = B2 53 k := (zuE_ne (by decide) _).trans (zuE_ne (by decide) _)
    rw [q]
    by_cases e : k = n
    · rw [if_pos e, e]; exact zuE_same
    · rw [if_neg e]; exact (zuE_ix e).trans ((zuE_ne (by decide) _).trans (by rw [nE1 53 (by decide)]))
  have r54 : ∀ k : Int, E2 54 k = if k = n then v3 else E 54 k := fun k => by
    have q : E2 54 k = B3 54 k := (zuE_ne (by decide) _)
    rw [q]
    by_cases e : k = n
    · rw [if_pos e, e]; exact zuE_same
    · rw [if_neg e]; exact (zuE_ix e).trans ((zuE_ne (by decide) _).trans ((zuE_ne (by decide) _).trans (by rw [nE1 54 (by decide)])))
  obtain ⟨gP, gW, g2, gU, gn, gs, gw⟩ := sg
  have P2 : pok (E2 3) := fun k k0 k1 => by
    rw [r3]
    by_cases e : k = n
    · rw [if_pos e]; exact c2
    · rw [if_neg e]; exact gP k k0 k1
  have sg2 : sgs E2 := by
    refine ⟨P2, fun k k0 k1 => ?_, ?_, hUB _ P2, ?_, ?_, fun v y0 y1 => ?_⟩
    · rw [r4]
      by_cases e : k = n
      · rw [if_pos e]; omega
      · rw [if_neg e]; exact gW k k0 k1
    · rw [r3, if_neg (by omega)]; exact g2
    · rw [w1, if_pos rfl]; omega
    · rw [r2, if_neg (by omega)]; exact gs
    · rw [w1, if_pos rfl] at y1
      rw [r4]
      by_cases e : v = n
      · rw [if_pos e]; exact c3.1
      · rw [if_neg e]; exact gw v y0 (by omega)
  obtain ⟨⟨M, ha, hK, h5, hcl⟩, e17, e18, e19, e20, e15, hI, h19, _, _⟩ := hc
  obtain ⟨hC, e44, e43, e45, e42, e54, hlo⟩ := hm
  have cE : CIv d G E2 s := ⟨⟨M, ha, hK, by rw [hi 5 (by decide) (by decide) (by decide) (by decide) (by decide)]; exact h5, fun c hc => by omega⟩, by rw [r0]; exact e17, by rw [r0]; exact e18, by rw [r0]; exact e19, by rw [r0]; exact e20, by rw [r0]; exact e15, by
    unfold stI at *
    rw [hi 20 (by decide) (by decide) (by decide) (by decide) (by decide), hi 22 (by decide) (by decide) (by decide) (by decide) (by decide), hi 23 (by decide) (by decide) (by decide) (by decide) (by decide)]; exact hI, by rw [hi 19 (by decide) (by decide) (by decide) (by decide) (by decide)]; exact h19, hX, hM⟩
  have mE : MIv E2 s := ⟨⟨(w5 6 (by decide)).trans hC.1, hC.2.1, fun c hc => by omega⟩, (w5 44 (by decide)).trans e44, (w5 43 (by decide)).trans e43, (w5 45 (by decide)).trans e45, (w5 42 (by decide)).trans e42, (w5 54 (by decide)).trans e54, by rw [hi 58 (by decide) (by decide) (by decide) (by decide) (by decide)]; exact hlo⟩
  have mAdd : zM zm_X8_add [zR 1, zI v1, zI v2, zI v3] (d, G, E) (some (zI n)) (d, G, E1) := by
    refine zM_e rfl (Nat.le_of_ble_eq_true rfl) (fun kz Q hQ => X8_add_0 hX ⟨fun _ => ?_, fun y => absurd (by omega) y⟩)
    rw [en]
    refine ⟨n0, h1, fun F1 g1 => ?_⟩
    have g1' : F1 = A1 := g1
    rw [g1', a1]
    refine ⟨n0, fun F2 g2 => ?_⟩
    have g2' : F2 = A2 := g2
    rw [g2', a2]
    refine ⟨n0, fun F3 g3 => ?_⟩
    have g3' : F3 = A3 := g3
    rw [g3', a3]
    refine ⟨zin_of (by omega) (by omega), fun F4 g4 => ?_⟩
    have g4' : F4 = E1 := g4
    rw [g4', e1]
    refine ⟨zin_of (by omega) (by omega), ?_⟩
    rw [show n + 1 - 1 = n by omega]
    exact hQ
  refine ⟨n, E1, E2, zM_e rfl (Nat.le_of_ble_eq_true rfl) (fun kz Q hQ => cls kz Q ⟨fun _ => ⟨n, E1, mAdd, hQ⟩, fun y => absurd (by omega) y⟩), zM_e rfl (Nat.le_of_ble_eq_true rfl) (fun kz Q hQ => X12_sign_0 hM ⟨1, inY hM c2, fun y => absurd y (by decide), fun _ => ⟨1, inY hM c3, fun _ => ⟨fun _ => ⟨fun _ => ?_, fun y => absurd (by rw [z0]; exact cn) y⟩, fun y => absurd (by rw [nE1 50 (by decide)]; omega) y⟩, fun y => absurd (by decide) y⟩⟩), ⟨nE1 193 (by decide), nE1 194 (by decide)⟩, ⟨hi 193 (by decide) (by decide) (by decide) (by decide) (by decide), hi 194 (by decide) (by decide) (by decide) (by decide) (by decide)⟩, cE, mE, okS_g ho (by omega), ⟨?_, ?_, ?_⟩, ?_, ⟨?_, ?_, ?_, ?_⟩, ⟨?_, ?_, ?_⟩, ⟨?_, ?_, ?_⟩, ⟨?_, ?_, ?_⟩, sg2⟩
  · rw [z0]
    refine ⟨n0, h1, fun F1 g1 => ?_⟩
    have g1' : F1 = B1 := g1
    rw [g1', b1]
    refine ⟨n0, fun F2 g2 => ?_⟩
    have g2' : F2 = B2 := g2
    rw [g2', b2]
    refine ⟨n0, fun F3 g3 => ?_⟩
    have g3' : F3 = B3 := g3
    rw [g3', b3]
    refine ⟨zin_of (by omega) (by omega), fun F4 g4 => ?_⟩
    have g4' : F4 = E2 := g4
    rw [g4', e2]
    refine ⟨zin_of (by omega) (by omega), ?_⟩
    rw [show n + 1 - 1 = n by omega]
    exact hQ
  · funext k; rw [r52, r2, q52]
  · funext k; rw [r53, r3, q53]
  · funext k; rw [r54, r4, q54]
  · rw [e2, w1, if_pos rfl]
  · rw [w5 4 (by decide), r0]; exact q4
  · rw [r0]; exact d0
  · rw [r0]; exact d2
  · rw [r0, hi 56 (by decide) (by decide) (by decide) (by decide) (by decide), hi 9 (by decide) (by decide) (by decide) (by decide) (by decide)]; exact dd
  · rw [w5 57 (by decide), r0]; exact q57
  · rw [r0]; exact t0
  · rw [r0]; exact t2
  · rw [w5 58 (by decide), r0]; exact q58
  · rw [r0]; exact f0
  · rw [r0]; exact f2
  · rw [w5 55 (by decide), r0]; exact q55
  · rw [r0]; exact p0
  · rw [r0]; omega
end SY
