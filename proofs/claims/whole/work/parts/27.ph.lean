section PH
variable {d : List Nat} {G : Nat → Int → Option Nat} {E : Nat → Int → Int}
/-- what settling leaves -/
def stl (E E' : Nat → Int → Int) (f : Int → Int) (i : Int) (k : Nat) : Prop :=
  fz [18, 19] E E' ∧ (∀ j : Int, j ≠ 3 → j ≠ 4 → E' 18 j = E 18 j) ∧ (E' 18 3 = 0 ∨ E' 18 3 = 1) ∧ (E' 18 4 = 0 ∨ E' 18 4 = 1) ∧
  (E' 18 3 = 1 ↔ E 18 3 = 1 ∧ ∀ L : Int, 0 ≤ L → L < 40 → 0 < oc f i L k → 0 ≤ E 19 L) ∧
  (E' 18 4 = 1 ↔ E 18 4 = 1 ∧ ∀ L : Int, 0 ≤ L → L < 40 → 0 < oc f i L k → E 19 L ≤ 0) ∧
  ∀ L : Int, 0 ≤ L → L < 40 → E' 19 L = if 0 < oc f i L k then 0 else E 19 L
theorem stl_skip {E E1 : Nat → Int → Int} {f : Int → Int} {i : Int} {k : Nat} (h : stl E E1 f i k) (hp : 0 ≤ f (i + k)) : stl E E1 f i (k + 1) := by
  have e : ∀ L : Int, 0 ≤ L → oc f i L (k + 1) = oc f i L k := fun L hL => by
    simp only [oc]
    rw [if_neg (by omega)]
    omega
  obtain ⟨h1, h2, h3, h4, h5, h6, h7⟩ := h
  refine ⟨h1, h2, h3, h4, h5.trans ?_, h6.trans ?_, fun L q1 q2 => by rw [e L q1]; exact h7 L q1 q2⟩
  · constructor
    · exact fun q => ⟨q.1, fun L q1 q2 q3 => q.2 L q1 q2 (by rw [← e L q1]; exact q3)⟩
    · exact fun q => ⟨q.1, fun L q1 q2 q3 => q.2 L q1 q2 (by rw [e L q1]; exact q3)⟩
  · constructor
    · exact fun q => ⟨q.1, fun L q1 q2 q3 => q.2 L q1 q2 (by rw [← e L q1]; exact q3)⟩
    · exact fun q => ⟨q.1, fun L q1 q2 q3 => q.2 L q1 q2 (by rw [e L q1]; exact q3)⟩
theorem stl_step {E E1 : Nat → Int → Int} {f : Int → Int} {i x y : Int} {k : Nat} (h : stl E E1 f i k) (hp : f (i + k) < 0) (hp2 : -40 ≤ f (i + k)) (hx : x = 0 ∨ x = 1) (hy : y = 0 ∨ y = 1) (hx1 : x = 1 ↔ E1 18 3 = 1 ∧ 0 ≤ E1 19 (-1 - f (i + k))) (hy1 : y = 1 ↔ E1 18 4 = 1 ∧ E1 19 (-1 - f (i + k)) ≤ 0) : stl E (zuE (zuE (zuE E1 18 3 x) 18 4 y) 19 (-1 - f (i + k)) 0) f i (k + 1) := by
  obtain ⟨h1, h2, h3, h4, h5, h6, h7⟩ := h
  have e0 : oc f i (-1 - f (i + k)) (k + 1) = oc f i (-1 - f (i + k)) k + 1 := by
    simp only [oc]
    rw [if_pos (by omega)]
  have e : ∀ L : Int, L ≠ -1 - f (i + k) → oc f i L (k + 1) = oc f i L k := fun L hL => by
    simp only [oc]
    rw [if_neg (by omega)]
    omega
  have b0 := oc_le f i (-1 - f (i + k)) k
  have s0 := h7 (-1 - f (i + k)) (by omega) (by omega)
  have r3 : zuE (zuE (zuE E1 18 3 x) 18 4 y) 19 (-1 - f (i + k)) 0 18 3 = x := by
    rw [zuE_ne (by decide), zuE_ix (by decide), zuE_same]
  have r4 : zuE (zuE (zuE E1 18 3 x) 18 4 y) 19 (-1 - f (i + k)) 0 18 4 = y := by
    rw [zuE_ne (by decide), zuE_same]
  refine ⟨fz_put (fz_put (fz_put h1 (by simp)) (by simp)) (by simp), fun j q1 q2 => ?_, by rw [r3]; exact hx, by rw [r4]; exact hy, ?_, ?_, fun L q1 q2 => ?_⟩
  · rw [zuE_ne (by decide), zuE_ix q2, zuE_ix q1]
    exact h2 j q1 q2
  · rw [r3, hx1, h5]
    constructor
    · rintro ⟨⟨g1, g2⟩, g3⟩
      refine ⟨g1, fun L q1 q2 q3 => ?_⟩
      by_cases hL : L = -1 - f (i + k)
      · rw [hL]
        by_cases hz : 0 < oc f i (-1 - f (i + k)) k
        · exact g2 _ (by omega) (by omega) hz
        · rw [s0, if_neg hz] at g3
          exact g3
      · exact g2 L q1 q2 (by rw [← e L hL]; exact q3)
    · rintro ⟨g1, g2⟩
      refine ⟨⟨g1, fun L q1 q2 q3 => ?_⟩, ?_⟩
      · by_cases hL : L = -1 - f (i + k)
        · rw [hL]
          exact g2 _ (by omega) (by omega) (by omega)
        · exact g2 L q1 q2 (by rw [e L hL]; exact q3)
      · rw [s0]
        split
        · omega
        · exact g2 _ (by omega) (by omega) (by omega)
  · rw [r4, hy1, h6]
    constructor
    · rintro ⟨⟨g1, g2⟩, g3⟩
      refine ⟨g1, fun L q1 q2 q3 => ?_⟩
      by_cases hL : L = -1 - f (i + k)
      · rw [hL]
        by_cases hz : 0 < oc f i (-1 - f (i + k)) k
        · exact g2 _ (by omega) (by omega) hz
        · rw [s0, if_neg hz] at g3
          exact g3
      · exact g2 L q1 q2 (by rw [← e L hL]; exact q3)
    · rintro ⟨g1, g2⟩
      refine ⟨⟨g1, fun L q1 q2 q3 => ?_⟩, ?_⟩
      · by_cases hL : L = -1 - f (i + k)
        · rw [hL]
          exact g2 _ (by omega) (by omega) (by omega)
        · exact g2 L q1 q2 (by rw [e L hL]; exact q3)
      · rw [s0]
        split
        · omega
        · exact g2 _ (by omega) (by omega) (by omega)
  · by_cases hL : L = -1 - f (i + k)
    · rw [hL, zuE_same, if_pos (by omega)]
    · rw [zuE_ix hL, zuE_ne (by decide), zuE_ne (by decide), e L hL]
      exact h7 L q1 q2
theorem settleSurplus_ok {a n : Nat} {i : Int} {t : Nat} (hX : zK zXt d G) (ha : a ∈ d) (hk : zkd a = (0, n)) (hf : ∀ k : Nat, k < t → E a (i + k) < 16) (hla : ∀ k : Nat, k < t → -40 ≤ E a (i + k)) (h0 : 0 ≤ i) (hn : i + t ≤ n) (hn2 : n ≤ 100000) (ha1 : a ≠ 18) (ha2 : a ≠ 19) (hq3 : E 18 3 = 0 ∨ E 18 3 = 1) (hq4 : E 18 4 = 0 ∨ E 18 4 = 1) :
    ∃ E' : Nat → Int → Int, zM zm_X6_settleSurplus [zR 18, zR a, zI i, zI (i + t)] (d, G, E) none (d, G, E') ∧ stl E E' (E a) i t := by
  have hna : a ∉ [18, 19] := by simp [ha1, ha2]
  have loop : ∀ (m k : Nat) (E1 : Nat → Int → Int), k + m = t → stl E E1 (E a) i k → ∃ E' : Nat → Int → Int, zgo zm_X6_settleSurplus 3 [(0, zR 18), (1, zR a), (3, zI (i + t)), (4, zI (i + k))] [] (d, G, E1) none (d, G, E') ∧ stl E E' (E a) i t := by
    intro m
    induction m with
    | zero =>
      intro k E1 hkm hs
      have : k = t := by omega
      subst this
      exact ⟨E1, fun kz Q hQ => X6_settleSurplus_3 hX ha hk ⟨fun _ => hQ, fun c => by omega⟩, hs⟩
    | succ m ih =>
      intro k E1 hkm hs
      have ea : E1 a = E a := hs.1 a hna
      have h2 := hf k (by omega)
      have h5 := hla k (by omega)
      have e1 : i + ((k + 1 : Nat) : Int) = i + k + 1 := by omega
      by_cases hp : 0 ≤ E a (i + k)
      · obtain ⟨E', g1, g2⟩ := ih (k + 1) E1 (by omega) (stl_skip hs hp)
        refine ⟨E', fun kz Q hQ => ?_, g2⟩
        have h := g1 kz Q hQ
        rw [e1] at h
        refine X6_settleSurplus_3 hX ha hk ⟨fun c => by omega, fun _ => ⟨⟨by omega, by omega⟩, ?_⟩⟩
        rw [ea]
        exact ⟨zin_of (by omega) (by omega), fun _ => ⟨zin_of (by omega) (by omega), h⟩, fun c => by omega⟩
      · let L0 : Int := -1 - E a (i + k)
        let x : Int := if E1 18 3 = 0 ∨ E1 19 L0 < 0 then 0 else 1
        let y : Int := if E1 18 4 = 0 ∨ 0 < E1 19 L0 then 0 else 1
        have hx : x = 0 ∨ x = 1 := (Classical.em (E1 18 3 = 0 ∨ E1 19 L0 < 0)).elim (fun c => Or.inl (if_pos c)) (fun c => Or.inr (if_neg c))
        have hy : y = 0 ∨ y = 1 := (Classical.em (E1 18 4 = 0 ∨ 0 < E1 19 L0)).elim (fun c => Or.inl (if_pos c)) (fun c => Or.inr (if_neg c))
        have h13 := hs.2.2.1
        have h14 := hs.2.2.2.1
        have hx1 : x = 1 ↔ E1 18 3 = 1 ∧ 0 ≤ E1 19 L0 := by
          show (if E1 18 3 = 0 ∨ E1 19 L0 < 0 then (0 : Int) else 1) = 1 ↔ _
          split <;> omega
        have hy1 : y = 1 ↔ E1 18 4 = 1 ∧ E1 19 L0 ≤ 0 := by
          show (if E1 18 4 = 0 ∨ 0 < E1 19 L0 then (0 : Int) else 1) = 1 ↔ _
          split <;> omega
        obtain ⟨E', g1, g2⟩ := ih (k + 1) (zuE (zuE (zuE E1 18 3 x) 18 4 y) 19 L0 0) (by omega) (stl_step hs (by omega) h5 hx hy hx1 hy1)
        refine ⟨E', fun kz Q hQ => ?_, g2⟩
        have h := g1 kz Q hQ
        rw [e1] at h
        have z1 : zin (i + k + 1) := zin_of (by omega) (by omega)
        have zb : (0 : Int) ≤ L0 ∧ L0 < (40 : Int) := ⟨by show (0 : Int) ≤ -1 - E a (i + k); omega, by show -1 - E a (i + k) < (40 : Int); omega⟩
        -- the second flag, then the count
        have tail : ∀ (xx : Int), xx = x → ((zuE E1 18 3 xx 18 4 = 0 → ∀ E_3, E_3 = zuE (zuE E1 18 3 xx) 18 4 0 → ((0 : Int) ≤ L0 ∧ L0 < (40 : Int)) ∧ ∀ E_5, E_5 = zuE E_3 19 L0 0 → zin (i + k + 1) ∧ Z zm_X6_settleSurplus kz Q 3 [(0, zR 18), (1, zR a), (3, zI (i + t)), (4, zI (i + k + 1))] [] (d, G, E_5)) ∧ (¬ (zuE E1 18 3 xx 18 4 = 0) → ((0 : Int) ≤ L0 ∧ L0 < (40 : Int)) ∧ (0 < zuE E1 18 3 xx 19 L0 → ∀ E_9, E_9 = zuE (zuE E1 18 3 xx) 18 4 0 → ((0 : Int) ≤ L0 ∧ L0 < (40 : Int)) ∧ ∀ E_11, E_11 = zuE E_9 19 L0 0 → zin (i + k + 1) ∧ Z zm_X6_settleSurplus kz Q 3 [(0, zR 18), (1, zR a), (3, zI (i + t)), (4, zI (i + k + 1))] [] (d, G, E_11)) ∧ (¬ (0 < zuE E1 18 3 xx 19 L0) → ∀ E_13, E_13 = zuE (zuE E1 18 3 xx) 18 4 1 → ((0 : Int) ≤ L0 ∧ L0 < (40 : Int)) ∧ ∀ E_15, E_15 = zuE E_13 19 L0 0 → zin (i + k + 1) ∧ Z zm_X6_settleSurplus kz Q 3 [(0, zR 18), (1, zR a), (3, zI (i + t)), (4, zI (i + k + 1))] [] (d, G, E_15)))) := by
          intro xx hxx
          have r1 : zuE E1 18 3 xx 18 4 = E1 18 4 := zuE_ix (by decide)
          have r2 : zuE E1 18 3 xx 19 L0 = E1 19 L0 := zuE_ne (by decide) L0
          rw [r1, r2, hxx]
          refine ⟨fun c E3 h3 => ⟨zb, fun E5 h5 => ⟨z1, ?_⟩⟩, fun c => ⟨zb, fun c2 E3 h3 => ⟨zb, fun E5 h5 => ⟨z1, ?_⟩⟩, fun c2 E3 h3 => ⟨zb, fun E5 h5 => ⟨z1, ?_⟩⟩⟩⟩
          · have ey : y = 0 := if_pos (Or.inl c)
            rw [h5, h3]; rw [ey] at h; exact h
          · have ey : y = 0 := if_pos (Or.inr c2)
            rw [h5, h3]; rw [ey] at h; exact h
          · have ey : y = 1 := if_neg (fun q => by rcases q with q | q; exact c q; exact c2 q)
            rw [h5, h3]; rw [ey] at h; exact h
        have low : x = 0 → Z zm_X6_settleSurplus kz Q 54 [(0, zR 18), (1, zR a), (3, zI (i + t)), (4, zI (i + k)), (5, zI L0)] [zR 18] (d, G, E1) := fun ex => X6_settleSurplus_54 hX ha hk (fun E2 hE2 => by
          rw [hE2]
          exact tail 0 ex.symm)
        refine X6_settleSurplus_3 hX ha hk ⟨fun c => by omega, fun _ => ⟨⟨by omega, by omega⟩, ?_⟩⟩
        rw [ea]
        refine ⟨zin_of (by omega) (by omega), fun c => by omega, fun _ => ⟨fun c => by omega, fun _ => ⟨fun c => low (if_pos (Or.inl c)), fun c => ⟨zb, fun c2 => low (if_pos (Or.inr c2)), fun c2 E2 hE2 => ?_⟩⟩⟩⟩
        rw [hE2]
        exact tail 1 (if_neg (fun q => by rcases q with q | q; exact c q; exact c2 q)).symm
  have base : stl E E (E a) i 0 := ⟨fz_rfl, fun _ _ _ => rfl, hq3, hq4, ⟨fun q => ⟨q, fun L _ _ q => by simp [oc] at q⟩, fun q => q.1⟩, ⟨fun q => ⟨q, fun L _ _ q => by simp [oc] at q⟩, fun q => q.1⟩, fun L _ _ => by simp [oc]⟩
  obtain ⟨E', g1, g2⟩ := loop t 0 E (by omega) base
  refine ⟨E', zM_go rfl (Nat.le_of_ble_eq_true rfl) (fun kz Q hQ => X6_settleSurplus_0 hX ha hk ?_), g2⟩
  have h := g1 kz Q hQ
  have e : i + ((0 : Nat) : Int) = i := by omega
  rw [e] at h
  exact h
end PH
