section PE
variable {d : List Nat} {G : Nat → Int → Option Nat} {E : Nat → Int → Int}
theorem fdc_yes {P f g : Int → Int} {p : Nat} {x y : Int} (h : lk f x g y (tl P f x)) : fdc P f g (p + 1) x y = fdc P f g p (x + tl P f x) (y + tl P g y) := by
  simp only [fdc]
  rw [if_pos h]
theorem fdc_no {P f g : Int → Int} {p : Nat} {x y : Int} (h : ¬ lk f x g y (tl P f x)) : fdc P f g (p + 1) x y = some (x, y) := by
  simp only [fdc]
  rw [if_neg h]
/-- isGreater, at its head -/
theorem isGreater_go {a b n m : Nat} (hM : zK zMt d G) (ha : a ∈ d) (hk : zkd a = (0, n)) (hb : b ∈ d) (hkb : zkd b = (0, m)) (hP : pok (E 53)) (hW : wok (E 54)) (hn2 : n ≤ 100000) (hm2 : m ≤ 100000) (ha7 : a ≠ 76) (hb7 : b ≠ 76) : ∀ (N : Nat) (i j : Int) (t u : Nat) (E1 : Nat → Int → Int), t ≤ N → fz [76] E E1 → tm (E 53) (E a) i t → tm (E 53) (E b) j u → 0 ≤ i → i + t ≤ n → 0 ≤ j → j + u ≤ m → (∀ k : Nat, k < t → -40 ≤ E a (i + k)) → (∀ k : Nat, k < u → -40 ≤ E b (j + k)) →
    ∃ (r : Int) (E' : Nat → Int → Int), zgo zm_X12_isGreater 7 [(0, zR 50), (1, zR a), (3, zR b), (5, zI i), (6, zI j)] [] (d, G, E1) (some (zI r)) (d, G, E') ∧ fz [76] E E' ∧ (r = 1 ∧ kg (E 53) (E 54) (E a) (E b) N i j ∨ r = 0 ∧ ¬ kg (E 53) (E 54) (E a) (E b) N i j) := by
  intro N
  induction N with
  | zero =>
    intro i j t u E1 hN hf ht
    have := nd_ge ht
    omega
  | succ N ih =>
    intro i j t u E1 hN hf ht hu h0 hn h1 hm hla hlb
    have hna : a ∉ [76] := by simpa using ha7
    have hnb : b ∉ [76] := by simpa using hb7
    have ea : E1 a = E a := hf a hna
    have eb : E1 b = E b := hf b hnb
    have ep : E1 53 = E 53 := hf 53 (by simp)
    have ew : E1 54 = E 54 := hf 54 (by simp)
    have hti := tl_eq ht
    have htj := tl_eq hu
    have hn0 := nd_ge ht
    have hm0 := nd_ge hu
    have ei : i + ((0 : Nat) : Int) = i := by omega
    have ej : j + ((0 : Nat) : Int) = j := by omega
    have fi := (ht.2 0 hn0).2
    rw [ei] at fi
    have fj := (hu.2 0 hm0).2
    rw [ej] at fj
    obtain ⟨x1, E2, m1, f2, r1⟩ := hasLetters_ok (E := E1) (t := t) (u := u) hM ha hk hb hkb (by rw [ep]; exact hP) (by rw [ep, ea]; exact ht) (by rw [ep, eb]; exact hu) h0 hn hn2 h1 hm hm2 ha7 hb7 (by rw [ea]; exact hla) (by rw [eb]; exact hlb)
    rw [ea, eb] at r1
    have hf2 := fz_trans hf f2
    have ea2 : E2 a = E a := hf2 a hna
    have eb2 : E2 b = E b := hf2 b hnb
    have ep2 : E2 53 = E 53 := hf2 53 (by simp)
    have ew2 : E2 54 = E 54 := hf2 54 (by simp)
    have m2 := endOf_ok (E := E2) (t := t) hM ha hk (by rw [ep2]; exact hP) (by rw [ep2, ea2]; exact ht) h0 hn hn2
    have m3 := weightOf_ok (E := E2) (t := t) (i := i) hM ha hk (by rw [ew2]; exact hW) (by rw [ea2]; exact fun k hk => (ht.2 k hk).2) h0 hn hn2
    have m4 := endOf_ok (E := E2) (t := u) hM hb hkb (by rw [ep2]; exact hP) (by rw [ep2, eb2]; exact hu) h1 hm hm2
    have m5 := weightOf_ok (E := E2) (t := u) (i := j) hM hb hkb (by rw [ew2]; exact hW) (by rw [eb2]; exact fun k hk => (hu.2 k hk).2) h1 hm hm2
    rw [ew2, ea2] at m3
    rw [ew2, eb2] at m5
    -- what comes behind the letters
    have main : hl (E a) i t (E b) j u → ∃ (r : Int) (E' : Nat → Int → Int), (∀ (kz : Nat × Nat) (Q : Option zV → zH → Prop), Q (some (zI r)) (d, G, E') → (wt (E 54) (E a) i t = wt (E 54) (E b) j u → ((0 : Int) ≤ i ∧ i < (n : Int)) ∧ ((E2 a i) < 0 → Q (some (zI 0)) (d, G, E2)) ∧ (¬ ((E2 a i) < 0) → ((0 : Int) ≤ j ∧ j < (m : Int)) ∧ (0 ≤ (E2 b j) → ((0 : Int) ≤ i ∧ i < (n : Int)) ∧ ((0 : Int) ≤ j ∧ j < (m : Int)) ∧ ((E2 a i) = (E2 b j) → ((0 : Int) ≤ i ∧ i < (n : Int)) ∧ ((0 : Int) ≤ (E2 a i) ∧ (E2 a i) < (16 : Int)) ∧ zin (i + 1) ∧ zin (j + 1) ∧ Z zm_X12_isGreater kz Q 135 [(0, zR 50), (1, zR a), (3, zR b), (5, zI ((i + 1))), (6, zI ((j + 1))), (9, zI ((E2 53 (E2 a i))))] [] (d, G, E2)) ∧ (¬ ((E2 a i) = (E2 b j)) → ((0 : Int) ≤ i ∧ i < (n : Int)) ∧ ((0 : Int) ≤ j ∧ j < (m : Int)) ∧ ((E2 a i) ≤ (E2 b j) → Q (some (zI 0)) (d, G, E2)) ∧ (¬ ((E2 a i) ≤ (E2 b j)) → Q (some (zI 1)) (d, G, E2)))) ∧ (¬ (0 ≤ (E2 b j)) → Q (some (zI 0)) (d, G, E2)))) ∧ (¬ (wt (E 54) (E a) i t = wt (E 54) (E b) j u) → (wt (E 54) (E a) i t ≤ wt (E 54) (E b) j u → Q (some (zI 0)) (d, G, E2)) ∧ (¬ (wt (E 54) (E a) i t ≤ wt (E 54) (E b) j u) → Q (some (zI 1)) (d, G, E2)))) ∧ fz [76] E E' ∧ (r = 1 ∧ kg (E 53) (E 54) (E a) (E b) (N + 1) i j ∨ r = 0 ∧ ¬ kg (E 53) (E 54) (E a) (E b) (N + 1) i j) := by
      intro hh
      rw [ea2, eb2, ep2]
      have kgu : kg (E 53) (E 54) (E a) (E b) (N + 1) i j ↔ (wt (E 54) (E b) j u < wt (E 54) (E a) i t ∨ wt (E 54) (E b) j u = wt (E 54) (E a) i t ∧ 0 ≤ E a i ∧ 0 ≤ E b j ∧ (E b j < E a i ∨ E a i = E b j ∧ ∃ q : Int × Int, fdc (E 53) (E a) (E b) (E 53 (E a i)).toNat (i + 1) (j + 1) = some q ∧ kg (E 53) (E 54) (E a) (E b) N q.1 q.2)) := by
        simp only [kg]
        rw [hti, htj]
        exact ⟨fun q => q.2, fun q => ⟨hh, q⟩⟩
      by_cases hw : wt (E 54) (E a) i t = wt (E 54) (E b) j u
      · by_cases hi0 : E a i < 0
        · refine ⟨0, E2, fun kz Q hQ => ⟨fun _ => ⟨⟨by omega, by omega⟩, fun _ => hQ, fun c => absurd hi0 c⟩, fun c => absurd hw c⟩, hf2, Or.inr ⟨rfl, ?_⟩⟩
          rw [kgu]
          omega
        · by_cases hj0 : 0 ≤ E b j
          · by_cases he : E a i = E b j
            · -- the parts
              have hp := hP (E a i) (by omega) fi
              have inner : ∀ (p : Nat) (x y : Int) (nx ny : Nat) (v9 : Int), v9 = p → ts (E 53) (E a) x p nx → ts (E 53) (E b) y p ny → i + 1 ≤ x → x + nx ≤ i + t → j + 1 ≤ y → y + ny ≤ j + u → p ≤ 3 →
                  ∃ (r : Int) (E' : Nat → Int → Int), zgo zm_X12_isGreater 135 [(0, zR 50), (1, zR a), (3, zR b), (5, zI x), (6, zI y), (9, zI v9)] [] (d, G, E2) (some (zI r)) (d, G, E') ∧ fz [76] E E' ∧ (r = 1 ∧ (∃ q : Int × Int, fdc (E 53) (E a) (E b) p x y = some q ∧ kg (E 53) (E 54) (E a) (E b) N q.1 q.2) ∨ r = 0 ∧ ¬ ∃ q : Int × Int, fdc (E 53) (E a) (E b) p x y = some q ∧ kg (E 53) (E 54) (E a) (E b) N q.1 q.2) := by
                intro p
                induction p with
                | zero =>
                  intro x y nx ny v9 hv h1x h1y b1 b2 b3 b4 b5
                  refine ⟨0, E2, fun kz Q hQ => X12_isGreater_135 hM ha hk hb hkb ⟨fun _ => ⟨fun c => absurd (by omega) c, fun _ => hQ⟩, fun c => by omega⟩, hf2, Or.inr ⟨rfl, ?_⟩⟩
                  rintro ⟨q, hq, -⟩
                  simp [fdc] at hq
                | succ p ihp =>
                  intro x y nx ny v9 hv h1x h1y b1 b2 b3 b4 b5
                  obtain ⟨mx, c1, c2, tx, sx⟩ := ts_succ hP h1x
                  obtain ⟨my, e1, e2, ty, sy⟩ := ts_succ hP h1y
                  have htx := tl_eq tx
                  have hty := tl_eq ty
                  obtain ⟨x3, m6, r6⟩ := areLike_ok (E := E2) (t := mx) (u := my) hM ha hk hb hkb (by rw [ep2]; exact hP) (by rw [ep2, ea2]; exact tx) (by rw [ep2, eb2]; exact ty) (by omega) (by omega) hn2 (by omega) (by omega) hm2
                  rw [ea2, eb2] at r6
                  by_cases hlk : lk (E a) x (E b) y mx
                  · have hx3 : x3 = 1 := by rcases r6 with q | q; exact q.1; exact absurd hlk q.2
                    have m7 := endOf_ok (E := E2) (t := mx) hM ha hk (by rw [ep2]; exact hP) (by rw [ep2, ea2]; exact tx) (by omega) (by omega) hn2
                    have m8 := endOf_ok (E := E2) (t := my) hM hb hkb (by rw [ep2]; exact hP) (by rw [ep2, eb2]; exact ty) (by omega) (by omega) hm2
                    obtain ⟨r, E', g1, g2, g3⟩ := ihp (x + mx) (y + my) (nx - mx) (ny - my) (v9 + (-1)) (by omega) sx sy (by omega) (by omega) (by omega) (by omega) (by omega)
                    refine ⟨r, E', fun kz Q hQ => X12_isGreater_135 hM ha hk hb hkb ⟨fun c => by omega, fun _ => ⟨x3, m6, fun c => by omega, fun _ => ⟨_, m7, _, m8, zin_of (by omega) (by omega), g1 kz Q hQ⟩⟩⟩, g2, ?_⟩
                    rw [fdc_yes (by rw [htx]; exact hlk), htx, hty]
                    exact g3
                  · have hx3 : x3 = 0 := by rcases r6 with q | q; exact absurd q.2 hlk; exact q.1
                    obtain ⟨r, E', g1, g2, g3⟩ := ih x y mx my E2 (by omega) hf2 tx ty (by omega) (by omega) (by omega) (by omega) (fun k hk => by
                      have := hla (x - i + k).toNat (by omega)
                      rw [show i + (((x - i + k).toNat : Nat) : Int) = x + k by omega] at this
                      exact this) (fun k hk => by
                      have := hlb (y - j + k).toNat (by omega)
                      rw [show j + (((y - j + k).toNat : Nat) : Int) = y + k by omega] at this
                      exact this)
                    refine ⟨r, E', fun kz Q hQ => X12_isGreater_135 hM ha hk hb hkb ⟨fun c => by omega, fun _ => ⟨x3, m6, fun _ => ⟨fun _ => g1 kz Q hQ, fun c => absurd (by omega) c⟩, fun c => absurd hx3 c⟩⟩, g2, ?_⟩
                    rw [fdc_no (by rw [htx]; exact hlk)]
                    rcases g3 with q | q
                    · exact Or.inl ⟨q.1, (x, y), rfl, q.2⟩
                    · refine Or.inr ⟨q.1, ?_⟩
                      rintro ⟨z, hz, hz2⟩
                      cases hz
                      exact q.2 hz2
              have sx := tm_parts hP ht (by omega)
              have sy := tm_parts hP hu hj0
              rw [← he] at sy
              obtain ⟨r, E', g1, g2, g3⟩ := inner (E 53 (E a i)).toNat (i + 1) (j + 1) (t - 1) (u - 1) (E 53 (E a i)) (by omega) sx sy (by omega) (by omega) (by omega) (by omega) (by omega)
              refine ⟨r, E', fun kz Q hQ => ⟨fun _ => ⟨⟨by omega, by omega⟩, fun c => absurd c hi0, fun _ => ⟨⟨by omega, by omega⟩, fun _ => ⟨⟨by omega, by omega⟩, ⟨by omega, by omega⟩, fun _ => ⟨⟨by omega, by omega⟩, ⟨by omega, by omega⟩, zin_of (by omega) (by omega), zin_of (by omega) (by omega), g1 kz Q hQ⟩, fun c => absurd he c⟩, fun c => absurd hj0 c⟩⟩, fun c => absurd hw c⟩, g2, ?_⟩
              rw [kgu]
              rcases g3 with q | q
              · exact Or.inl ⟨q.1, Or.inr ⟨hw.symm, by omega, hj0, Or.inr ⟨he, q.2⟩⟩⟩
              · refine Or.inr ⟨q.1, ?_⟩
                rintro (z | ⟨z1, z2, z3, z4 | ⟨z4, z5⟩⟩)
                · omega
                · omega
                · exact q.2 z5
            · by_cases hg : E a i ≤ E b j
              · refine ⟨0, E2, fun kz Q hQ => ⟨fun _ => ⟨⟨by omega, by omega⟩, fun c => absurd c hi0, fun _ => ⟨⟨by omega, by omega⟩, fun _ => ⟨⟨by omega, by omega⟩, ⟨by omega, by omega⟩, fun c => absurd c he, fun _ => ⟨⟨by omega, by omega⟩, ⟨by omega, by omega⟩, fun _ => hQ, fun c => absurd hg c⟩⟩, fun c => absurd hj0 c⟩⟩, fun c => absurd hw c⟩, hf2, Or.inr ⟨rfl, ?_⟩⟩
                rw [kgu]
                rintro (z | ⟨z1, z2, z3, z4 | ⟨z4, z5⟩⟩) <;> omega
              · refine ⟨1, E2, fun kz Q hQ => ⟨fun _ => ⟨⟨by omega, by omega⟩, fun c => absurd c hi0, fun _ => ⟨⟨by omega, by omega⟩, fun _ => ⟨⟨by omega, by omega⟩, ⟨by omega, by omega⟩, fun c => absurd c he, fun _ => ⟨⟨by omega, by omega⟩, ⟨by omega, by omega⟩, fun c => absurd c hg, fun _ => hQ⟩⟩, fun c => absurd hj0 c⟩⟩, fun c => absurd hw c⟩, hf2, Or.inl ⟨rfl, ?_⟩⟩
                rw [kgu]
                exact Or.inr ⟨hw.symm, by omega, hj0, Or.inl (by omega)⟩
          · refine ⟨0, E2, fun kz Q hQ => ⟨fun _ => ⟨⟨by omega, by omega⟩, fun c => absurd c hi0, fun _ => ⟨⟨by omega, by omega⟩, fun c => absurd c hj0, fun _ => hQ⟩⟩, fun c => absurd hw c⟩, hf2, Or.inr ⟨rfl, ?_⟩⟩
            rw [kgu]
            omega
      · by_cases hg : wt (E 54) (E a) i t ≤ wt (E 54) (E b) j u
        · refine ⟨0, E2, fun kz Q hQ => ⟨fun c => absurd c hw, fun _ => ⟨fun _ => hQ, fun c => absurd hg c⟩⟩, hf2, Or.inr ⟨rfl, ?_⟩⟩
          rw [kgu]
          omega
        · refine ⟨1, E2, fun kz Q hQ => ⟨fun c => absurd c hw, fun _ => ⟨fun c => absurd c hg, fun _ => hQ⟩⟩, hf2, Or.inl ⟨rfl, ?_⟩⟩
          rw [kgu]
          exact Or.inl (by omega)
    rcases r1 with ⟨q1, q2⟩ | ⟨q1, q2⟩
    · obtain ⟨r, E', g1, g2, g3⟩ := main q2
      exact ⟨r, E', fun kz Q hQ => X12_isGreater_7 hM ha hk hb hkb ⟨x1, E2, m1, fun _ => ⟨_, m2, _, m3, _, m4, _, m5, g1 kz Q hQ⟩, fun c => absurd (by omega) c⟩, g2, g3⟩
    · refine ⟨0, E2, fun kz Q hQ => X12_isGreater_7 hM ha hk hb hkb ⟨x1, E2, m1, fun c => absurd q1 c, fun _ => hQ⟩, hf2, Or.inr ⟨rfl, ?_⟩⟩
      simp only [kg]
      rw [hti, htj]
      exact fun z => q2 z.1
theorem isGreater_ok {a b n m N : Nat} {i j : Int} {t u : Nat} (hM : zK zMt d G) (ha : a ∈ d) (hk : zkd a = (0, n)) (hb : b ∈ d) (hkb : zkd b = (0, m)) (hP : pok (E 53)) (hW : wok (E 54)) (hn2 : n ≤ 100000) (hm2 : m ≤ 100000) (ha7 : a ≠ 76) (hb7 : b ≠ 76) (hN : t ≤ N) (ht : tm (E 53) (E a) i t) (hu : tm (E 53) (E b) j u) (h0 : 0 ≤ i) (hn : i + t ≤ n) (h1 : 0 ≤ j) (hm : j + u ≤ m) (hla : ∀ k : Nat, k < t → -40 ≤ E a (i + k)) (hlb : ∀ k : Nat, k < u → -40 ≤ E b (j + k)) :
    ∃ (r : Int) (E' : Nat → Int → Int), zM zm_X12_isGreater [zR 50, zR a, zI i, zR b, zI j] (d, G, E) (some (zI r)) (d, G, E') ∧ fz [76] E E' ∧ (r = 1 ∧ kg (E 53) (E 54) (E a) (E b) N i j ∨ r = 0 ∧ ¬ kg (E 53) (E 54) (E a) (E b) N i j) := by
  obtain ⟨r, E', g1, g2⟩ := isGreater_go (E := E) hM ha hk hb hkb hP hW hn2 hm2 ha7 hb7 N i j t u E hN fz_rfl ht hu h0 hn h1 hm hla hlb
  exact ⟨r, E', zM_go rfl (Nat.le_of_ble_eq_true rfl) (fun kz Q hQ => X12_isGreater_0 hM ha hk hb hkb (g1 kz Q hQ)), g2⟩
end PE
