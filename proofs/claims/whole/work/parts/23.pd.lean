/-! ===== the reference's order: hasLetters, isGreater ===== -/
/-- a run that comes to its end with this answer and this heap -/
def zgo (f : zF) (pc : Nat) (ls : List (Nat × zV)) (st : List zV) (h : zH) (r : Option zV) (h' : zH) : Prop := ∀ (kz : Nat × Nat) (Q : Option zV → zH → Prop), Q r h' → Z f kz Q pc ls st h
theorem zM_go {f : zF} {vs : List zV} {d : List Nat} {G : Nat → Int → Option Nat} {E E' : Nat → Int → Int} {r : Option zV} (hy : plainName f.1.cls = true) (hw : zwid vs ≤ f.2.2.1) (h : zgo f 0 (zent 0 vs) [] (d, G, E) r (d, G, E')) : zM f vs (d, G, E) r (d, G, E') := zM_e hy hw h
section PD
variable {d : List Nat} {G : Nat → Int → Option Nat} {E : Nat → Int → Int}
theorem hasLetters_ok {a b n m : Nat} {i j : Int} {t u : Nat} (hM : zK zMt d G) (ha : a ∈ d) (hk : zkd a = (0, n)) (hb : b ∈ d) (hkb : zkd b = (0, m)) (hP : pok (E 53)) (ht : tm (E 53) (E a) i t) (hu : tm (E 53) (E b) j u) (h0 : 0 ≤ i) (hn : i + t ≤ n) (hn2 : n ≤ 100000) (h1 : 0 ≤ j) (hm : j + u ≤ m) (hm2 : m ≤ 100000) (ha7 : a ≠ 76) (hb7 : b ≠ 76) (hla : ∀ k : Nat, k < t → -40 ≤ E a (i + k)) (hlb : ∀ k : Nat, k < u → -40 ≤ E b (j + k)) :
    ∃ (r : Int) (E' : Nat → Int → Int), zM zm_X12_hasLetters [zR 50, zR a, zI i, zR b, zI j] (d, G, E) (some (zI r)) (d, G, E') ∧ fz [76] E E' ∧ (r = 1 ∧ hl (E a) i t (E b) j u ∨ r = 0 ∧ ¬ hl (E a) i t (E b) j u) := by
  have hna : a ∉ [76] := by simpa using ha7
  have hnb : b ∉ [76] := by simpa using hb7
  -- the last loop
  have L4 : ∀ (E1 : Nat → Int → Int) (mm k : Nat), k + mm = 40 → (∀ L : Int, 0 ≤ L → L < k → 0 ≤ E1 76 L) → ∃ r : Int, zgo zm_X12_hasLetters 117 [(0, zR 50), (5, zI (k : Int))] [] (d, G, E1) (some (zI r)) (d, G, E1) ∧ (r = 1 ∧ (∀ L : Int, 0 ≤ L → L < 40 → 0 ≤ E1 76 L) ∨ r = 0 ∧ ¬ ∀ L : Int, 0 ≤ L → L < 40 → 0 ≤ E1 76 L) := by
    intro E1 mm
    induction mm with
    | zero =>
      intro k hkm hp
      refine ⟨1, fun kz Q hQ => X12_hasLetters_117 hM ⟨fun _ => hQ, fun c => by omega⟩, Or.inl ⟨rfl, fun L q1 q2 => hp L q1 (by omega)⟩⟩
    | succ mm ih =>
      intro k hkm hp
      by_cases hc : 0 ≤ E1 76 k
      · obtain ⟨r, g1, g2⟩ := ih (k + 1) (by omega) (fun L q1 q2 => by
          by_cases e : L = k
          · rw [e]; exact hc
          · exact hp L q1 (by omega))
        refine ⟨r, fun kz Q hQ => ?_, g2⟩
        have hs := g1 kz Q hQ
        have e1 : ((k + 1 : Nat) : Int) = (k : Int) + 1 := by omega
        rw [e1] at hs
        exact X12_hasLetters_117 hM ⟨fun c => by omega, fun _ => ⟨⟨by omega, by omega⟩, fun _ => ⟨zin_of (by omega) (by omega), hs⟩, fun c => absurd hc c⟩⟩
      · refine ⟨0, fun kz Q hQ => ?_, Or.inr ⟨rfl, fun h => hc (h k (by omega) (by omega))⟩⟩
        exact X12_hasLetters_117 hM ⟨fun c => by omega, fun _ => ⟨⟨by omega, by omega⟩, fun c => absurd c hc, fun _ => hQ⟩⟩
  -- the second's letters
  have L3 : ∀ (s : Nat) (v5 : Int) (E1 : Nat → Int → Int), s ≤ u → v5 = j + s - 1 → fz [76] E E1 → (∀ L : Int, 0 ≤ L → L < 40 → E1 76 L = oc (E a) i L t - (oc (E b) j L u - oc (E b) j L s)) →
      ∃ (r : Int) (E' : Nat → Int → Int), zgo zm_X12_hasLetters 79 [(0, zR 50), (3, zR b), (4, zI j), (5, zI v5)] [] (d, G, E1) (some (zI r)) (d, G, E') ∧ fz [76] E E' ∧ (r = 1 ∧ hl (E a) i t (E b) j u ∨ r = 0 ∧ ¬ hl (E a) i t (E b) j u) := by
    intro s
    induction s with
    | zero =>
      intro v5 E1 hs hv hf hc
      obtain ⟨r, g1, g2⟩ := L4 E1 40 0 (by omega) (fun L q1 q2 => by omega)
      refine ⟨r, E1, fun kz Q hQ => X12_hasLetters_79 hM hb hkb ⟨fun _ => g1 kz Q hQ, fun c => by omega⟩, hf, ?_⟩
      have e : hl (E a) i t (E b) j u ↔ ∀ L : Int, 0 ≤ L → L < 40 → 0 ≤ E1 76 L := by
        unfold hl
        constructor
        · intro h L q1 q2
          have := h L q1 q2
          rw [hc L q1 q2]
          simp only [oc]
          omega
        · intro h L q1 q2
          have := h L q1 q2
          rw [hc L q1 q2] at this
          simp only [oc] at this
          omega
      rw [e]
      exact g2
    | succ s ih =>
      intro v5 E1 hs hv hf hc
      have eb : E1 b = E b := hf b hnb
      have ev : j + (s : Int) = v5 := by omega
      have hlt := (hu.2 s (by omega)).2
      have hge := hlb s (by omega)
      rw [ev] at hlt hge
      by_cases hl0 : 0 ≤ E b v5
      · obtain ⟨r, E', g1, g2⟩ := ih (v5 + (-1)) E1 (by omega) (by omega) hf (fun L q1 q2 => by
          rw [hc L q1 q2]
          have : oc (E b) j L (s + 1) = oc (E b) j L s := by
            simp only [oc]
            rw [ev, if_neg (by omega)]
            omega
          rw [this])
        refine ⟨r, E', fun kz Q hQ => X12_hasLetters_79 hM hb hkb ⟨fun c => by omega, fun _ => ⟨⟨by omega, by omega⟩, fun _ => ⟨zin_of (by omega) (by omega), g1 kz Q hQ⟩, fun c => ?_⟩⟩, g2⟩
        rw [eb] at c
        exact absurd hl0 c
      · have hr := hc (-1 - E b v5) (by omega) (by omega)
        have b1 := oc_le (E a) i (-1 - E b v5) t
        have b2 := oc_le (E b) j (-1 - E b v5) u
        have b3 := oc_le (E b) j (-1 - E b v5) (s + 1)
        obtain ⟨r, E', g1, g2⟩ := ih (v5 + (-1)) (zuE E1 76 (-1 - E b v5) (E1 76 (-1 - E b v5) - 1)) (by omega) (by omega) (fz_put hf (by simp)) (fun L q1 q2 => by
          by_cases e : L = -1 - E b v5
          · rw [e, zuE_same, hr]
            have : oc (E b) j (-1 - E b v5) (s + 1) = oc (E b) j (-1 - E b v5) s + 1 := by
              simp only [oc]
              rw [ev, if_pos (by omega)]
            omega
          · rw [zuE_ix e, hc L q1 q2]
            have : oc (E b) j L (s + 1) = oc (E b) j L s := by
              simp only [oc]
              rw [ev, if_neg (by omega)]
              omega
            omega)
        refine ⟨r, E', fun kz Q hQ => ?_, g2⟩
        refine X12_hasLetters_79 hM hb hkb ⟨fun c => by omega, fun _ => ⟨⟨by omega, by omega⟩, fun c => ?_, fun _ => ?_⟩⟩
        · rw [eb] at c
          exact absurd c hl0
        · rw [eb]
          refine ⟨⟨by omega, by omega⟩, zin_of (by omega) (by omega), ⟨by omega, by omega⟩, zin_of (by omega) (by omega), ⟨by omega, by omega⟩, ?_⟩
          intro E2 hE2
          rw [hE2]
          exact ⟨zin_of (by omega) (by omega), g1 kz Q hQ⟩
  -- the first's letters
  have L2 : ∀ (s : Nat) (v5 : Int) (E1 : Nat → Int → Int), s ≤ t → v5 = i + s - 1 → fz [76] E E1 → (∀ L : Int, 0 ≤ L → L < 40 → E1 76 L = oc (E a) i L t - oc (E a) i L s) →
      ∃ (r : Int) (E' : Nat → Int → Int), zgo zm_X12_hasLetters 34 [(0, zR 50), (1, zR a), (2, zI i), (3, zR b), (4, zI j), (5, zI v5)] [] (d, G, E1) (some (zI r)) (d, G, E') ∧ fz [76] E E' ∧ (r = 1 ∧ hl (E a) i t (E b) j u ∨ r = 0 ∧ ¬ hl (E a) i t (E b) j u) := by
    intro s
    induction s with
    | zero =>
      intro v5 E1 hs hv hf hc
      have eb : E1 b = E b := hf b hnb
      have ep : E1 53 = E 53 := hf 53 (by simp)
      have me := endOf_ok (E := E1) (t := u) hM hb hkb (by rw [ep]; exact hP) (by rw [ep, eb]; exact hu) h1 hm hm2
      obtain ⟨r, E', g1, g2⟩ := L3 u (j + u - 1) E1 (Nat.le_refl _) rfl hf (fun L q1 q2 => by
        rw [hc L q1 q2]
        simp only [oc]
        omega)
      exact ⟨r, E', fun kz Q hQ => X12_hasLetters_34 hM ha hk hb hkb ⟨fun _ => ⟨_, me, zin_of (by omega) (by omega), g1 kz Q hQ⟩, fun c => by omega⟩, g2⟩
    | succ s ih =>
      intro v5 E1 hs hv hf hc
      have ea : E1 a = E a := hf a hna
      have ev : i + (s : Int) = v5 := by omega
      have hlt := (ht.2 s (by omega)).2
      have hge := hla s (by omega)
      rw [ev] at hlt hge
      by_cases hl0 : 0 ≤ E a v5
      · obtain ⟨r, E', g1, g2⟩ := ih (v5 + (-1)) E1 (by omega) (by omega) hf (fun L q1 q2 => by
          rw [hc L q1 q2]
          have : oc (E a) i L (s + 1) = oc (E a) i L s := by
            simp only [oc]
            rw [ev, if_neg (by omega)]
            omega
          rw [this])
        refine ⟨r, E', fun kz Q hQ => X12_hasLetters_34 hM ha hk hb hkb ⟨fun c => by omega, fun _ => ⟨⟨by omega, by omega⟩, fun _ => ⟨zin_of (by omega) (by omega), g1 kz Q hQ⟩, fun c => ?_⟩⟩, g2⟩
        rw [ea] at c
        exact absurd hl0 c
      · have hr := hc (-1 - E a v5) (by omega) (by omega)
        have b1 := oc_le (E a) i (-1 - E a v5) t
        have b3 := oc_le (E a) i (-1 - E a v5) (s + 1)
        obtain ⟨r, E', g1, g2⟩ := ih (v5 + (-1)) (zuE E1 76 (-1 - E a v5) (E1 76 (-1 - E a v5) + 1)) (by omega) (by omega) (fz_put hf (by simp)) (fun L q1 q2 => by
          by_cases e : L = -1 - E a v5
          · rw [e, zuE_same, hr]
            have : oc (E a) i (-1 - E a v5) (s + 1) = oc (E a) i (-1 - E a v5) s + 1 := by
              simp only [oc]
              rw [ev, if_pos (by omega)]
            omega
          · rw [zuE_ix e, hc L q1 q2]
            have : oc (E a) i L (s + 1) = oc (E a) i L s := by
              simp only [oc]
              rw [ev, if_neg (by omega)]
              omega
            omega)
        refine ⟨r, E', fun kz Q hQ => ?_, g2⟩
        refine X12_hasLetters_34 hM ha hk hb hkb ⟨fun c => by omega, fun _ => ⟨⟨by omega, by omega⟩, fun c => ?_, fun _ => ?_⟩⟩
        · rw [ea] at c
          exact absurd c hl0
        · rw [ea]
          refine ⟨⟨by omega, by omega⟩, zin_of (by omega) (by omega), ⟨by omega, by omega⟩, zin_of (by omega) (by omega), ⟨by omega, by omega⟩, ?_⟩
          intro E2 hE2
          rw [hE2]
          exact ⟨zin_of (by omega) (by omega), g1 kz Q hQ⟩
  -- the counts cleared
  have L1 : ∀ (mm k : Nat) (E1 : Nat → Int → Int), k + mm = 40 → fz [76] E E1 → (∀ L : Int, 0 ≤ L → L < k → E1 76 L = 0) →
      ∃ (r : Int) (E' : Nat → Int → Int), zgo zm_X12_hasLetters 3 [(0, zR 50), (1, zR a), (2, zI i), (3, zR b), (4, zI j), (5, zI (k : Int))] [] (d, G, E1) (some (zI r)) (d, G, E') ∧ fz [76] E E' ∧ (r = 1 ∧ hl (E a) i t (E b) j u ∨ r = 0 ∧ ¬ hl (E a) i t (E b) j u) := by
    intro mm
    induction mm with
    | zero =>
      intro k E1 hkm hf hc
      have ea : E1 a = E a := hf a hna
      have ep : E1 53 = E 53 := hf 53 (by simp)
      have me := endOf_ok (E := E1) (t := t) hM ha hk (by rw [ep]; exact hP) (by rw [ep, ea]; exact ht) h0 hn hn2
      obtain ⟨r, E', g1, g2⟩ := L2 t (i + t - 1) E1 (Nat.le_refl _) rfl hf (fun L q1 q2 => by
        rw [hc L q1 (by omega)]
        omega)
      exact ⟨r, E', fun kz Q hQ => X12_hasLetters_3 hM ha hk hb hkb ⟨fun _ => ⟨_, me, zin_of (by omega) (by omega), g1 kz Q hQ⟩, fun c => by omega⟩, g2⟩
    | succ mm ih =>
      intro k E1 hkm hf hc
      obtain ⟨r, E', g1, g2⟩ := ih (k + 1) (zuE E1 76 k 0) (by omega) (fz_put hf (by simp)) (fun L q1 q2 => by
        by_cases e : L = k
        · rw [e, zuE_same]
        · rw [zuE_ix e]; exact hc L q1 (by omega))
      refine ⟨r, E', fun kz Q hQ => ?_, g2⟩
      have hs := g1 kz Q hQ
      have e1 : ((k + 1 : Nat) : Int) = (k : Int) + 1 := by omega
      rw [e1] at hs
      refine X12_hasLetters_3 hM ha hk hb hkb ⟨fun c => by omega, fun _ => ⟨⟨by omega, by omega⟩, fun E2 hE2 => ?_⟩⟩
      rw [hE2]
      exact ⟨zin_of (by omega) (by omega), hs⟩
  obtain ⟨r, E', g1, g2⟩ := L1 40 0 E (by omega) fz_rfl (fun L q1 q2 => by omega)
  exact ⟨r, E', zM_go rfl (Nat.le_of_ble_eq_true rfl) (fun kz Q hQ => X12_hasLetters_0 hM ha hk hb hkb (g1 kz Q hQ)), g2⟩
end PD
