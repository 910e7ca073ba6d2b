section PJ
variable {d : List Nat} {G : Nat → Int → Option Nat} {E : Nat → Int → Int}
/-- what THE ORDER answers of two terms that are unlike -/
def cmpv (fm sm : Prop) (k1 k2 : Prop) (r : Int) : Prop := (r = 1 ↔ fm ∧ k1) ∧ (r = -1 ↔ sm ∧ k2) ∧ (r = 1 ∨ r = -1 ∨ r = 0)
theorem compare_go {a b n m : Nat} (hX : zK zXt d G) (ha : a ∈ d) (hk : zkd a = (0, n)) (hb : b ∈ d) (hkb : zkd b = (0, m)) (hP : pok (E 3)) (hW : wok (E 4)) (hn2 : n ≤ 100000) (hm2 : m ≤ 100000) (ha1 : a ≠ 18) (ha2 : a ≠ 19) (hb1 : b ≠ 18) (hb2 : b ≠ 19) : ∀ (N : Nat) (i j v7 : Int) (t u : Nat) (E1 : Nat → Int → Int), t ≤ N → 0 ≤ v7 → v7 + N ≤ 900000 → fz [18, 19] E E1 → (E1 18 3 = 0 ∨ E1 18 3 = 1) → (E1 18 4 = 0 ∨ E1 18 4 = 1) → (∀ L : Int, 0 ≤ L → L < 40 → E1 19 L = 0) → tm (E 3) (E a) i t → tm (E 3) (E b) j u → 0 ≤ i → i + t ≤ n → 0 ≤ j → j + u ≤ m → (∀ k : Nat, k < t → -40 ≤ E a (i + k)) → (∀ k : Nat, k < u → -40 ≤ E b (j + k)) →
    ∃ (r : Int) (E' : Nat → Int → Int), zgo zm_X6_compare 20 [(0, zR 18), (1, zR a), (3, zR b), (5, zI i), (6, zI j), (7, zI v7)] [] (d, G, E1) (some (zI r)) (d, G, E') ∧ fz [18, 19] E E' ∧ (∀ L : Int, 0 ≤ L → L < 40 → E' 19 L = 0) ∧ (lk (E a) i (E b) j t → r = 2) ∧ (¬ lk (E a) i (E b) j t → cmpv (E1 18 3 = 1) (E1 18 4 = 1) (kg (E 3) (E 4) (E a) (E b) N i j) (kg (E 3) (E 4) (E b) (E a) N j i) r) := by
  intro N
  induction N with
  | zero =>
    intro i j v7 t u E1 hN _ _ _ _ _ _ ht
    have := nd_ge ht
    omega
  | succ N ih =>
    intro i j v7 t u E1 hN hv0 hv1 hf q3 q4 q19 ht hu h0 hn h1 hm hla hlb
    have hna : a ∉ [18, 19] := by simp [ha1, ha2]
    have hnb : b ∉ [18, 19] := by simp [hb1, hb2]
    have ea : E1 a = E a := hf a hna
    have eb : E1 b = E b := hf b hnb
    have ep : E1 3 = E 3 := hf 3 (by simp)
    have hti := tl_eq ht
    have htj := tl_eq hu
    have hn0 := nd_ge ht
    have hm0 := nd_ge hu
    have ei : i + ((0 : Nat) : Int) = i := by omega
    have ej : j + ((0 : Nat) : Int) = j := by omega
    have fi := (ht.2 0 hn0).2
    rw [ei] at fi
    have fj := (hu.2 0 hm0).2
    rw [ej] at fj
    have m1 := after_ok (E := E1) (t := t) hX ha hk (by rw [ep]; exact hP) (by rw [ep, ea]; exact ht) h0 hn hn2
    have m2 := after_ok (E := E1) (t := u) hX hb hkb (by rw [ep]; exact hP) (by rw [ep, eb]; exact hu) h1 hm hm2
    have el : i + (t : Int) - i = t := by omega
    by_cases hlk : lk (E a) i (E b) j t
    · have htu := tm_uniq (tm_congr ht hlk) hu
      obtain ⟨r, m3, hr⟩ := alike_ok (E := E1) (t := t) hX ha hk hb hkb (i := i) (j := j) h0 hn hn2 h1 (by omega) hm2
      rw [ea, eb] at hr
      have hr1 : r = 1 := by rcases hr with z | z; exact z.1; exact absurd hlk z.2
      exact ⟨2, E1, fun kz Q hQ => X6_compare_20 hX ha hk hb hkb ⟨fun c => by omega, fun _ => ⟨_, m1, _, m2, zin_of (by omega) (by omega), zin_of (by omega) (by omega), fun c => absurd (by omega) c, fun _ => ⟨zin_of (by omega) (by omega), r, by rw [el]; exact m3, fun c => by omega, fun _ => hQ⟩⟩⟩, hf, q19, fun _ => rfl, fun c => absurd hlk c⟩
    · -- unlike: the weights and the letters
      let E2 := zuE E1 18 2 0
      have f2 : fz [18, 19] E E2 := fz_put hf (by simp)
      have hfa : ∀ k : Nat, k < t → E a (i + k) < 16 := fun k hk => (ht.2 k hk).2
      have hfb : ∀ k : Nat, k < u → E b (j + k) < 16 := fun k hk => (hu.2 k hk).2
      have s22 : E2 18 2 = 0 := zuE_same
      have s23 : ∀ x : Int, x ≠ 2 → E2 18 x = E1 18 x := fun x hx => zuE_ix hx
      have s29 : ∀ L : Int, 0 ≤ L → L < 40 → E2 19 L = 0 := fun L l1 l2 => by
        show zuE E1 18 2 0 19 L = 0
        rw [zuE_ne (by decide)]; exact q19 L l1 l2
      obtain ⟨E3, m4, f3, t32, t3x, t39⟩ := tally_ok (E := E2) (t := t) (i := i) (w := 1) hX ha hk (by rw [f2 4 (by simp)]; exact hW) (Or.inl rfl) (by rw [f2 a hna]; exact hfa) (by rw [f2 a hna]; exact hla) h0 hn hn2 ha1 ha2 (by rw [s22]; omega) (fun L l1 l2 => by rw [s29 L l1 l2]; omega)
      rw [f2 4 (by simp), f2 a hna, s22] at t32
      have f3' := fz_trans f2 f3
      have w1 := wt_le (i := i) hW t hfa
      have w2 := wt_le (i := j) hW u hfb
      have t39' : ∀ L : Int, 0 ≤ L → L < 40 → E3 19 L = oc (E a) i L t := fun L l1 l2 => by
        have := t39 L l1 l2
        rw [f2 a hna, s29 L l1 l2] at this
        omega
      obtain ⟨E4, m5, f4, t42, t4x, t49⟩ := tally_ok (E := E3) (t := u) (i := j) (w := -1) hX hb hkb (by rw [f3' 4 (by simp)]; exact hW) (Or.inr rfl) (by rw [f3' b hnb]; exact hfb) (by rw [f3' b hnb]; exact hlb) h1 hm hm2 hb1 hb2 (by rw [t32]; omega) (fun L l1 l2 => by rw [t39' L l1 l2]; have := oc_le (E a) i L t; omega)
      have f4' := fz_trans f3' f4
      rw [f3' 4 (by simp), f3' b hnb, t32] at t42
      have t49' : ∀ L : Int, 0 ≤ L → L < 40 → E4 19 L = oc (E a) i L t - oc (E b) j L u := fun L l1 l2 => by
        have := t49 L l1 l2
        rw [f3' b hnb, t39' L l1 l2] at this
        omega
      have u3 : E4 18 3 = E1 18 3 := by rw [t4x 3 (by decide), t3x 3 (by decide), s23 3 (by decide)]
      have u4 : E4 18 4 = E1 18 4 := by rw [t4x 4 (by decide), t3x 4 (by decide), s23 4 (by decide)]
      obtain ⟨E5, m6, st5⟩ := settleSurplus_ok (E := E4) (t := t) (i := i) hX ha hk (by rw [f4' a hna]; exact hfa) (by rw [f4' a hna]; exact hla) h0 hn hn2 ha1 ha2 (by rw [u3]; exact q3) (by rw [u4]; exact q4)
      rw [f4' a hna] at st5
      obtain ⟨f5, x5, c53, c54, d53, d54, g5⟩ := st5
      have f5' := fz_trans f4' f5
      obtain ⟨E6, m7, st6⟩ := settleSurplus_ok (E := E5) (t := u) (i := j) hX hb hkb (by rw [f5' b hnb]; exact hfb) (by rw [f5' b hnb]; exact hlb) h1 hm hm2 hb1 hb2 c53 c54
      rw [f5' b hnb] at st6
      obtain ⟨f6, x6, c63, c64, d63, d64, g6⟩ := st6
      have f6' := fz_trans f5' f6
      have e62 : E6 18 2 = wt (E 4) (E a) i t - wt (E 4) (E b) j u := by
        rw [x6 2 (by decide) (by decide), x5 2 (by decide) (by decide), t42]
        omega
      have e69 : ∀ L : Int, 0 ≤ L → L < 40 → E6 19 L = 0 := fun L l1 l2 => by
        rw [g6 L l1 l2, g5 L l1 l2, t49' L l1 l2]
        have o1 := oc_le (E a) i L t
        have o2 := oc_le (E b) j L u
        split
        · rfl
        · split
          · rfl
          · omega
      have e63 : E6 18 3 = 1 ↔ E1 18 3 = 1 ∧ hl (E a) i t (E b) j u := by
        rw [d63, d53, u3]
        constructor
        · rintro ⟨⟨z1, z2⟩, z3⟩
          refine ⟨z1, fun L l1 l2 => ?_⟩
          have o1 := oc_le (E a) i L t
          have o2 := oc_le (E b) j L u
          by_cases y1 : 0 < oc (E a) i L t
          · have := z2 L l1 l2 y1
            rw [t49' L l1 l2] at this
            omega
          · by_cases y2 : 0 < oc (E b) j L u
            · have := z3 L l1 l2 y2
              rw [g5 L l1 l2, if_neg y1, t49' L l1 l2] at this
              omega
            · omega
        · rintro ⟨z1, z2⟩
          refine ⟨⟨z1, fun L l1 l2 y1 => ?_⟩, fun L l1 l2 y2 => ?_⟩
          · have := z2 L l1 l2
            rw [t49' L l1 l2]
            omega
          · have := z2 L l1 l2
            rw [g5 L l1 l2, t49' L l1 l2]
            split <;> omega
      have e64 : E6 18 4 = 1 ↔ E1 18 4 = 1 ∧ hl (E b) j u (E a) i t := by
        rw [d64, d54, u4]
        constructor
        · rintro ⟨⟨z1, z2⟩, z3⟩
          refine ⟨z1, fun L l1 l2 => ?_⟩
          have o1 := oc_le (E a) i L t
          have o2 := oc_le (E b) j L u
          by_cases y1 : 0 < oc (E a) i L t
          · have := z2 L l1 l2 y1
            rw [t49' L l1 l2] at this
            omega
          · omega
        · rintro ⟨z1, z2⟩
          refine ⟨⟨z1, fun L l1 l2 y1 => ?_⟩, fun L l1 l2 y2 => ?_⟩
          · have := z2 L l1 l2
            rw [t49' L l1 l2]
            omega
          · have := z2 L l1 l2
            rw [g5 L l1 l2, t49' L l1 l2]
            split <;> omega
      have ea6 : E6 a = E a := f6' a hna
      have eb6 : E6 b = E b := f6' b hnb
      have ep6 : E6 3 = E 3 := f6' 3 (by simp)
      -- GREATER, one level down, both ways
      have k1 : kg (E 3) (E 4) (E a) (E b) (N + 1) i j ↔ hl (E a) i t (E b) j u ∧ (wt (E 4) (E b) j u < wt (E 4) (E a) i t ∨ wt (E 4) (E b) j u = wt (E 4) (E a) i t ∧ 0 ≤ E a i ∧ 0 ≤ E b j ∧ (E b j < E a i ∨ E a i = E b j ∧ ∃ q : Int × Int, fdc (E 3) (E a) (E b) (E 3 (E a i)).toNat (i + 1) (j + 1) = some q ∧ kg (E 3) (E 4) (E a) (E b) N q.1 q.2)) := by
        simp only [kg]
        rw [hti, htj]
      have k2 : kg (E 3) (E 4) (E b) (E a) (N + 1) j i ↔ hl (E b) j u (E a) i t ∧ (wt (E 4) (E a) i t < wt (E 4) (E b) j u ∨ wt (E 4) (E a) i t = wt (E 4) (E b) j u ∧ 0 ≤ E b j ∧ 0 ≤ E a i ∧ (E a i < E b j ∨ E b j = E a i ∧ ∃ q : Int × Int, fdc (E 3) (E b) (E a) (E 3 (E b j)).toNat (j + 1) (i + 1) = some q ∧ kg (E 3) (E 4) (E b) (E a) N q.1 q.2)) := by
        simp only [kg]
        rw [hti, htj]
      have mF := settled_ok (E := E6) hX 1
      rw [if_neg (by decide)] at mF
      have mS := settled_ok (E := E6) hX 0
      rw [if_pos rfl] at mS
      -- what comes at 83
      have at83 : ∃ (r : Int) (E' : Nat → Int → Int), zgo zm_X6_compare 83 [(0, zR 18), (1, zR a), (3, zR b), (5, zI i), (6, zI j), (7, zI v7), (8, zI (i + t)), (9, zI (j + u))] [] (d, G, E1) (some (zI r)) (d, G, E') ∧ fz [18, 19] E E' ∧ (∀ L : Int, 0 ≤ L → L < 40 → E' 19 L = 0) ∧ cmpv (E1 18 3 = 1) (E1 18 4 = 1) (kg (E 3) (E 4) (E a) (E b) (N + 1) i j) (kg (E 3) (E 4) (E b) (E a) (N + 1) j i) r := by
        have wrap : ∀ (r : Int) (E' : Nat → Int → Int), (∀ (kz : Nat × Nat) (Q : Option zV → zH → Prop), Q (some (zI r)) (d, G, E') → ((E6 18 2) = 0 → ((0 : Int) ≤ i ∧ i < (n : Int)) ∧ ((E6 a i) < 0 → Q (some (zI 0)) (d, G, E6)) ∧ (¬ ((E6 a i) < 0) → ((0 : Int) ≤ j ∧ j < (m : Int)) ∧ (0 ≤ (E6 b j) → ((0 : Int) ≤ i ∧ i < (n : Int)) ∧ ((0 : Int) ≤ j ∧ j < (m : Int)) ∧ ((E6 a i) = (E6 b j) → ∃ x_22, zM zm_X6_likeParts [zR 18, zR a, zI i, zR b, zI j] (d, G, E6) (some (zI x_22)) (d, G, E6) ∧ zin (i + x_22) ∧ zin (j + x_22) ∧ zin (v7 + 1) ∧ Z zm_X6_compare kz Q 20 [(0, zR 18), (1, zR a), (3, zR b), (5, zI ((i + x_22))), (6, zI ((j + x_22))), (7, zI ((v7 + 1)))] [] (d, G, E6)) ∧ (¬ ((E6 a i) = (E6 b j)) → ((0 : Int) ≤ i ∧ i < (n : Int)) ∧ ((0 : Int) ≤ j ∧ j < (m : Int)) ∧ ((E6 a i) ≤ (E6 b j) → ∃ x_31, zM zm_X6_settled [zR 18, zI 0] (d, G, E6) (some (zI x_31)) (d, G, E6) ∧ Q (some (zI x_31)) (d, G, E6)) ∧ (¬ ((E6 a i) ≤ (E6 b j)) → ∃ x_34, zM zm_X6_settled [zR 18, zI 1] (d, G, E6) (some (zI x_34)) (d, G, E6) ∧ Q (some (zI x_34)) (d, G, E6)))) ∧ (¬ (0 ≤ (E6 b j)) → Q (some (zI 0)) (d, G, E6)))) ∧ (¬ ((E6 18 2) = 0) → ((E6 18 2) ≤ 0 → ∃ x_38, zM zm_X6_settled [zR 18, zI 0] (d, G, E6) (some (zI x_38)) (d, G, E6) ∧ Q (some (zI x_38)) (d, G, E6)) ∧ (¬ ((E6 18 2) ≤ 0) → ∃ x_41, zM zm_X6_settled [zR 18, zI 1] (d, G, E6) (some (zI x_41)) (d, G, E6) ∧ Q (some (zI x_41)) (d, G, E6)))) → zgo zm_X6_compare 83 [(0, zR 18), (1, zR a), (3, zR b), (5, zI i), (6, zI j), (7, zI v7), (8, zI (i + t)), (9, zI (j + u))] [] (d, G, E1) (some (zI r)) (d, G, E') := by
          intro r E' hh kz Q hQ
          refine X6_compare_83 hX ha hk hb hkb (fun E7 hE7 => ?_)
          have e7 : E7 = E2 := hE7
          rw [e7]
          exact ⟨E3, m4, E4, m5, E5, m6, E6, m7, hh kz Q hQ⟩
        rw [ea6, eb6, e62] at wrap
        -- a side is settled
        have first : (¬ (wt (E 4) (E a) i t - wt (E 4) (E b) j u = 0) ∧ ¬ (wt (E 4) (E a) i t - wt (E 4) (E b) j u ≤ 0)) ∨ (wt (E 4) (E a) i t - wt (E 4) (E b) j u = 0 ∧ 0 ≤ E a i ∧ 0 ≤ E b j ∧ E b j < E a i) → cmpv (E1 18 3 = 1) (E1 18 4 = 1) (kg (E 3) (E 4) (E a) (E b) (N + 1) i j) (kg (E 3) (E 4) (E b) (E a) (N + 1) j i) (if E6 18 3 = 0 then 0 else 1) := by
          intro hc
          have g1 : kg (E 3) (E 4) (E a) (E b) (N + 1) i j ↔ hl (E a) i t (E b) j u := by
            rw [k1]
            constructor
            · exact fun z => z.1
            · exact fun z => ⟨z, by
                rcases hc with c | c
                · exact Or.inl (by omega)
                · exact Or.inr ⟨by omega, c.2.1, c.2.2.1, Or.inl c.2.2.2⟩⟩
          have g2 : ¬ kg (E 3) (E 4) (E b) (E a) (N + 1) j i := by
            rw [k2]
            rintro ⟨-, z | ⟨z1, z2, z3, z4 | ⟨z4, -⟩⟩⟩ <;> omega
          refine ⟨?_, ?_, ?_⟩
          · rw [g1, ← e63]
            split <;> omega
          · constructor
            · intro z
              split at z <;> omega
            · exact fun z => absurd z.2 g2
          · split
            · exact Or.inr (Or.inr rfl)
            · exact Or.inl rfl
        have second : (¬ (wt (E 4) (E a) i t - wt (E 4) (E b) j u = 0) ∧ wt (E 4) (E a) i t - wt (E 4) (E b) j u ≤ 0) ∨ (wt (E 4) (E a) i t - wt (E 4) (E b) j u = 0 ∧ 0 ≤ E a i ∧ 0 ≤ E b j ∧ E a i < E b j) → cmpv (E1 18 3 = 1) (E1 18 4 = 1) (kg (E 3) (E 4) (E a) (E b) (N + 1) i j) (kg (E 3) (E 4) (E b) (E a) (N + 1) j i) (if E6 18 4 = 0 then 0 else -1) := by
          intro hc
          have g1 : kg (E 3) (E 4) (E b) (E a) (N + 1) j i ↔ hl (E b) j u (E a) i t := by
            rw [k2]
            constructor
            · exact fun z => z.1
            · exact fun z => ⟨z, by
                rcases hc with c | c
                · exact Or.inl (by omega)
                · exact Or.inr ⟨by omega, c.2.2.1, c.2.1, Or.inl c.2.2.2⟩⟩
          have g2 : ¬ kg (E 3) (E 4) (E a) (E b) (N + 1) i j := by
            rw [k1]
            rintro ⟨-, z | ⟨z1, z2, z3, z4 | ⟨z4, -⟩⟩⟩ <;> omega
          refine ⟨?_, ?_, ?_⟩
          · constructor
            · intro z
              split at z <;> omega
            · exact fun z => absurd z.2 g2
          · rw [g1, ← e64]
            split <;> omega
          · split
            · exact Or.inr (Or.inr rfl)
            · exact Or.inr (Or.inl rfl)
        by_cases hw : wt (E 4) (E a) i t - wt (E 4) (E b) j u = 0
        · by_cases hi0 : E a i < 0
          · refine ⟨0, E6, wrap 0 E6 (fun kz Q hQ => ⟨fun _ => ⟨⟨by omega, by omega⟩, fun _ => hQ, fun c => absurd hi0 c⟩, fun c => absurd hw c⟩), f6', e69, ?_, ?_, Or.inr (Or.inr rfl)⟩
            · rw [k1]; omega
            · rw [k2]; omega
          · by_cases hj0 : 0 ≤ E b j
            · by_cases he : E a i = E b j
              · have hp := hP (E a i) (by omega) fi
                have sx := tm_parts hP ht (by omega)
                have sy := tm_parts hP hu hj0
                rw [← he] at sy
                cases hfd : fdc (E 3) (E a) (E b) (E 3 (E a i)).toNat (i + 1) (j + 1) with
                | none =>
                  refine absurd ?_ hlk
                  have hz := fdc_none hP _ _ _ _ _ sx sy hfd
                  intro k hk
                  rcases Nat.eq_zero_or_pos k with e | e
                  · rw [e, ei, ej]; exact he
                  · have := hz (k - 1) (by omega)
                    rw [show i + 1 + ((k - 1 : Nat) : Int) = i + k by omega, show j + 1 + ((k - 1 : Nat) : Int) = j + k by omega] at this
                    exact this
                | some q =>
                  obtain ⟨o, m8, hq, mx, my, tx, ty, o1, o2, o3, hnl⟩ := likeParts_ok (E := E6) (t := t) (u := u) hX ha hk hb hkb (by rw [ep6]; exact hP) (by rw [ep6, ea6]; exact ht) (by rw [ep6, eb6]; exact hu) h0 hn hn2 h1 hm hm2 (by rw [ea6]; omega) (by rw [ea6, eb6]; exact he) (q := q) (by rw [ep6, ea6, eb6]; exact hfd)
                  rw [ep6, ea6] at tx
                  rw [ep6, eb6] at ty
                  rw [ea6, eb6] at hnl
                  obtain ⟨r, E', g1, g2, g3, g4, g5'⟩ := ih (i + o) (j + o) (v7 + 1) mx my E6 (by omega) (by omega) (by omega) f6' c63 c64 e69 tx ty (by omega) (by omega) (by omega) (by omega) (fun k hk => by
                    have := hla (o + k).toNat (by omega)
                    rw [show i + (((o + k).toNat : Nat) : Int) = i + o + k by omega] at this
                    exact this) (fun k hk => by
                    have := hlb (o + k).toNat (by omega)
                    rw [show j + (((o + k).toNat : Nat) : Int) = j + o + k by omega] at this
                    exact this)
                  obtain ⟨v1, v2, v3⟩ := g5' hnl
                  refine ⟨r, E', wrap r E' (fun kz Q hQ => ⟨fun _ => ⟨⟨by omega, by omega⟩, fun c => absurd c hi0, fun _ => ⟨⟨by omega, by omega⟩, fun _ => ⟨⟨by omega, by omega⟩, ⟨by omega, by omega⟩, fun _ => ⟨o, m8, zin_of (by omega) (by omega), zin_of (by omega) (by omega), zin_of (by omega) (by omega), g1 kz Q hQ⟩, fun c => absurd he c⟩, fun c => absurd hj0 c⟩⟩, fun c => absurd hw c⟩), g2, g3, ?_, ?_, v3⟩
                  · rw [v1, k1, e63]
                    constructor
                    · rintro ⟨⟨z1, z2⟩, z3⟩
                      exact ⟨z1, z2, Or.inr ⟨by omega, by omega, hj0, Or.inr ⟨he, q, hfd, by rw [hq]; exact z3⟩⟩⟩
                    · rintro ⟨z1, z2, z | ⟨y1, y2, y3, y4 | ⟨y4, q', y5, y6⟩⟩⟩
                      · omega
                      · omega
                      · rw [hfd] at y5
                        cases y5
                        rw [hq] at y6
                        exact ⟨⟨z1, z2⟩, y6⟩
                  · have hfl := fdc_flip hP _ _ _ _ _ sx sy
                    rw [hfd] at hfl
                    rw [v2, k2, e64]
                    constructor
                    · rintro ⟨⟨z1, z2⟩, z3⟩
                      exact ⟨z1, z2, Or.inr ⟨by omega, hj0, by omega, Or.inr ⟨he.symm, (q.2, q.1), by rw [← he]; exact hfl, by rw [hq]; exact z3⟩⟩⟩
                    · rintro ⟨z1, z2, z | ⟨y1, y2, y3, y4 | ⟨y4, q', y5, y6⟩⟩⟩
                      · omega
                      · omega
                      · rw [← he, hfl] at y5
                        cases y5
                        rw [hq] at y6
                        exact ⟨⟨z1, z2⟩, y6⟩
              · by_cases hg : E a i ≤ E b j
                · exact ⟨_, E6, wrap _ E6 (fun kz Q hQ => ⟨fun _ => ⟨⟨by omega, by omega⟩, fun c => absurd c hi0, fun _ => ⟨⟨by omega, by omega⟩, fun _ => ⟨⟨by omega, by omega⟩, ⟨by omega, by omega⟩, fun c => absurd c he, fun _ => ⟨⟨by omega, by omega⟩, ⟨by omega, by omega⟩, fun _ => ⟨_, mS, hQ⟩, fun c => absurd hg c⟩⟩, fun c => absurd hj0 c⟩⟩, fun c => absurd hw c⟩), f6', e69, second (Or.inr ⟨hw, by omega, hj0, by omega⟩)⟩
                · exact ⟨_, E6, wrap _ E6 (fun kz Q hQ => ⟨fun _ => ⟨⟨by omega, by omega⟩, fun c => absurd c hi0, fun _ => ⟨⟨by omega, by omega⟩, fun _ => ⟨⟨by omega, by omega⟩, ⟨by omega, by omega⟩, fun c => absurd c he, fun _ => ⟨⟨by omega, by omega⟩, ⟨by omega, by omega⟩, fun c => absurd c hg, fun _ => ⟨_, mF, hQ⟩⟩⟩, fun c => absurd hj0 c⟩⟩, fun c => absurd hw c⟩), f6', e69, first (Or.inr ⟨hw, by omega, hj0, by omega⟩)⟩
            · refine ⟨0, E6, wrap 0 E6 (fun kz Q hQ => ⟨fun _ => ⟨⟨by omega, by omega⟩, fun c => absurd c hi0, fun _ => ⟨⟨by omega, by omega⟩, fun c => absurd c hj0, fun _ => hQ⟩⟩, fun c => absurd hw c⟩), f6', e69, ?_, ?_, Or.inr (Or.inr rfl)⟩
              · rw [k1]; omega
              · rw [k2]; omega
        · by_cases hg : wt (E 4) (E a) i t - wt (E 4) (E b) j u ≤ 0
          · exact ⟨_, E6, wrap _ E6 (fun kz Q hQ => ⟨fun c => absurd c hw, fun _ => ⟨fun _ => ⟨_, mS, hQ⟩, fun c => absurd hg c⟩⟩), f6', e69, second (Or.inl ⟨hw, hg⟩)⟩
          · exact ⟨_, E6, wrap _ E6 (fun kz Q hQ => ⟨fun c => absurd c hw, fun _ => ⟨fun c => absurd c hg, fun _ => ⟨_, mF, hQ⟩⟩⟩), f6', e69, first (Or.inl ⟨hw, hg⟩)⟩
      obtain ⟨r, E', g1, g2, g3, g4⟩ := at83
      refine ⟨r, E', fun kz Q hQ => ?_, g2, g3, fun c => absurd c hlk, fun _ => g4⟩
      have h83 := g1 kz Q hQ
      by_cases htu : t = u
      · obtain ⟨rr, m3, hr⟩ := alike_ok (E := E1) (t := t) hX ha hk hb hkb (i := i) (j := j) h0 hn hn2 h1 (by omega) hm2
        rw [ea, eb] at hr
        have hr1 : rr = 0 := by rcases hr with z | z; exact absurd z.2 hlk; exact z.1
        exact X6_compare_20 hX ha hk hb hkb ⟨fun c => by omega, fun _ => ⟨_, m1, _, m2, zin_of (by omega) (by omega), zin_of (by omega) (by omega), fun c => absurd (by omega) c, fun _ => ⟨zin_of (by omega) (by omega), rr, by rw [el]; exact m3, fun _ => h83, fun c => absurd hr1 c⟩⟩⟩
      · exact X6_compare_20 hX ha hk hb hkb ⟨fun c => by omega, fun _ => ⟨_, m1, _, m2, zin_of (by omega) (by omega), zin_of (by omega) (by omega), fun _ => h83, fun c => absurd (by omega) c⟩⟩
end PJ
