/-! ===== small methods: weights, likeness, ends of terms ===== -/
def wt1 (W : Int → Int) (x : Int) : Int := if x < 0 then 1 else W x
def wt (W f : Int → Int) (i : Int) : Nat → Int
  | 0 => 0
  | k + 1 => wt W f i k + wt1 W (f (i + k))
/-- weights as they may be -/
def wok (W : Int → Int) : Prop := ∀ s, 0 ≤ s → s < 16 → 0 ≤ W s ∧ W s ≤ 9
theorem wt_le {W f : Int → Int} {i : Int} (hW : wok W) : ∀ n : Nat, (∀ k : Nat, k < n → f (i + k) < 16) → 0 ≤ wt W f i n ∧ wt W f i n ≤ 9 * n
  | 0, _ => by simp [wt]
  | n + 1, h => by
    have ih := wt_le hW n (fun k hk => h k (by omega))
    have h2 := h n (by omega)
    simp only [wt, wt1]
    split
    · omega
    · have := hW (f (i + n)) (by omega) h2
      omega
theorem wt_congr {W f g : Int → Int} {i j : Int} : ∀ n : Nat, (∀ k : Nat, k < n → f (i + k) = g (j + k)) → wt W f i n = wt W g j n
  | 0, _ => rfl
  | n + 1, h => by
    simp only [wt]
    rw [wt_congr n (fun k hk => h k (by omega)), h n (by omega)]
/-- two rows of n places say the same -/
def lk (f : Int → Int) (i : Int) (g : Int → Int) (j : Int) (n : Nat) : Prop := ∀ k : Nat, k < n → f (i + k) = g (j + k)
section PB
variable {d : List Nat} {G : Nat → Int → Option Nat} {E : Nat → Int → Int}
/-- a method that leaves the heap as it was -/
theorem zM_p {f : zF} {vs : List zV} {r : Option zV} (hy : plainName f.1.cls = true) (hw : zwid vs ≤ f.2.2.1) (K : ∀ (kz : Nat × Nat) (Q : Option zV → zH → Prop), Q r (d, G, E) → Z f kz Q 0 (zent 0 vs) [] (d, G, E)) : zM f vs (d, G, E) r (d, G, E) :=
  zM_of hy hw ⟨Nat.le_refl _, Nat.le_refl _⟩ (K _ _ ⟨rfl, rfl⟩)
/-- a method that writes ints alone -/
theorem zM_e {f : zF} {vs : List zV} {r : Option zV} {E' : Nat → Int → Int} (hy : plainName f.1.cls = true) (hw : zwid vs ≤ f.2.2.1) (K : ∀ (kz : Nat × Nat) (Q : Option zV → zH → Prop), Q r (d, G, E') → Z f kz Q 0 (zent 0 vs) [] (d, G, E)) : zM f vs (d, G, E) r (d, G, E') :=
  zM_of hy hw ⟨Nat.le_refl _, Nat.le_refl _⟩ (K _ _ ⟨rfl, rfl⟩)
theorem weightOf_ok {a n : Nat} {i : Int} {t : Nat} (hM : zK zMt d G) (ha : a ∈ d) (hk : zkd a = (0, n)) (hW : wok (E 54)) (hf : ∀ k : Nat, k < t → E a (i + k) < 16) (h0 : 0 ≤ i) (hn : i + t ≤ n) (hn2 : n ≤ 100000) : zM zm_X12_weightOf [zR 50, zR a, zI i, zI (i + t)] (d, G, E) (some (zI (wt (E 54) (E a) i t))) (d, G, E) := by
  refine zM_p rfl (Nat.le_of_ble_eq_true rfl) (fun kz Q hQ => ?_)
  have loop : ∀ (m k : Nat), k + m = t → Z zm_X12_weightOf kz Q 6 [(0, zR 50), (1, zR a), (3, zI (i + t)), (4, zI (wt (E 54) (E a) i k)), (5, zI (i + k))] [] (d, G, E) := by
    intro m
    induction m with
    | zero =>
      intro k hkm
      have : k = t := by omega
      subst this
      exact X12_weightOf_6 hM ha hk ⟨fun _ => hQ, fun c => by omega⟩
    | succ m ih =>
      intro k hkm
      have hs := ih (k + 1) (by omega)
      have h2 := hf k (by omega)
      have h3 := wt_le (i := i) hW k (fun j hj => hf j (by omega))
      have e1 : i + ((k + 1 : Nat) : Int) = i + k + 1 := by omega
      rw [e1] at hs
      refine X12_weightOf_6 hM ha hk ⟨fun c => by omega, fun _ => ⟨⟨by omega, by omega⟩, fun c => ?_, fun c => ?_⟩⟩
      · have h4 := hW (E a (i + k)) (by omega) h2
        have e2 : wt (E 54) (E a) i (k + 1) = wt (E 54) (E a) i k + E 54 (E a (i + k)) := by
          simp only [wt, wt1]
          rw [if_neg (by omega)]
        rw [e2] at hs
        exact ⟨⟨by omega, by omega⟩, ⟨by omega, by omega⟩, zin_of (by omega) (by omega), zin_of (by omega) (by omega), hs⟩
      · have e2 : wt (E 54) (E a) i (k + 1) = wt (E 54) (E a) i k + 1 := by
          simp only [wt, wt1]
          rw [if_pos (by omega)]
        rw [e2] at hs
        exact ⟨zin_of (by omega) (by omega), zin_of (by omega) (by omega), hs⟩
  refine X12_weightOf_0 hM ha hk ?_
  have h := loop t 0 (by omega)
  have e : i + ((0 : Nat) : Int) = i := by omega
  rw [e] at h
  exact h
end PB
section PB2
variable {d : List Nat} {G : Nat → Int → Option Nat} {E : Nat → Int → Int}
theorem isLike_ok {a b n m : Nat} {i j : Int} {t : Nat} (hM : zK zMt d G) (ha : a ∈ d) (hk : zkd a = (0, n)) (hb : b ∈ d) (hkb : zkd b = (0, m)) (h0 : 0 ≤ i) (hn : i + t ≤ n) (hn2 : n ≤ 100000) (h1 : 0 ≤ j) (hm : j + t ≤ m) (hm2 : m ≤ 100000) : ∃ r : Int, zM zm_X12_isLike [zR a, zI i, zR b, zI j, zI (t : Int)] (d, G, E) (some (zI r)) (d, G, E) ∧ (r = 1 ∧ lk (E a) i (E b) j t ∨ r = 0 ∧ ¬ lk (E a) i (E b) j t) := by
  have key : ∀ (mm k : Nat), k + mm = t → (∀ x : Nat, x < k → E a (i + x) = E b (j + x)) → ∃ r : Int, (∀ (kz : Nat × Nat) (Q : Option zV → zH → Prop), Q (some (zI r)) (d, G, E) → Z zm_X12_isLike kz Q 3 [(0, zR a), (1, zI i), (2, zR b), (3, zI j), (4, zI (t : Int)), (5, zI (k : Int))] [] (d, G, E)) ∧ (r = 1 ∧ lk (E a) i (E b) j t ∨ r = 0 ∧ ¬ lk (E a) i (E b) j t) := by
    intro mm
    induction mm with
    | zero =>
      intro k hkm hpre
      have : k = t := by omega
      subst this
      exact ⟨1, fun kz Q hQ => X12_isLike_3 hM ha hk hb hkb ⟨fun _ => hQ, fun c => by omega⟩, Or.inl ⟨rfl, hpre⟩⟩
    | succ mm ih =>
      intro k hkm hpre
      by_cases he : E a (i + k) = E b (j + k)
      · obtain ⟨r, h1', h2'⟩ := ih (k + 1) (by omega) (fun x hx => by
          rcases Nat.lt_succ_iff_lt_or_eq.mp hx with h | h
          · exact hpre x h
          · rw [h]; exact he)
        refine ⟨r, fun kz Q hQ => ?_, h2'⟩
        have hs := h1' kz Q hQ
        have e1 : ((k + 1 : Nat) : Int) = (k : Int) + 1 := by omega
        rw [e1] at hs
        exact X12_isLike_3 hM ha hk hb hkb ⟨fun c => by omega, fun _ => ⟨zin_of (by omega) (by omega), ⟨by omega, by omega⟩, zin_of (by omega) (by omega), ⟨by omega, by omega⟩, fun _ => ⟨zin_of (by omega) (by omega), hs⟩, fun c => absurd he c⟩⟩
      · refine ⟨0, fun kz Q hQ => ?_, Or.inr ⟨rfl, fun h => he (h k (by omega))⟩⟩
        exact X12_isLike_3 hM ha hk hb hkb ⟨fun c => by omega, fun _ => ⟨zin_of (by omega) (by omega), ⟨by omega, by omega⟩, zin_of (by omega) (by omega), ⟨by omega, by omega⟩, fun c => absurd c he, fun _ => hQ⟩⟩
  obtain ⟨r, h1', h2'⟩ := key t 0 (by omega) (fun x hx => by omega)
  exact ⟨r, zM_p rfl (Nat.le_of_ble_eq_true rfl) (fun kz Q hQ => X12_isLike_0 hM ha hk hb hkb (h1' kz Q hQ)), h2'⟩
/-- two terms are alike -/
theorem areLike_ok {a b n m : Nat} {i j : Int} {t u : Nat} (hM : zK zMt d G) (ha : a ∈ d) (hk : zkd a = (0, n)) (hb : b ∈ d) (hkb : zkd b = (0, m)) (hP : pok (E 53)) (ht : tm (E 53) (E a) i t) (hu : tm (E 53) (E b) j u) (h0 : 0 ≤ i) (hn : i + t ≤ n) (hn2 : n ≤ 100000) (h1 : 0 ≤ j) (hm : j + u ≤ m) (hm2 : m ≤ 100000) : ∃ r : Int, zM zm_X12_areLike [zR 50, zR a, zI i, zR b, zI j] (d, G, E) (some (zI r)) (d, G, E) ∧ (r = 1 ∧ lk (E a) i (E b) j t ∨ r = 0 ∧ ¬ lk (E a) i (E b) j t) := by
  have m1 := endOf_ok hM ha hk hP ht h0 hn hn2
  have m2 := endOf_ok hM hb hkb hP hu h1 hm hm2
  have e1 : i + (t : Int) - i = t := by omega
  by_cases htu : t = u
  · subst htu
    obtain ⟨r, m3, hr⟩ := isLike_ok (E := E) (t := t) hM ha hk hb hkb h0 hn hn2 h1 hm hm2
    refine ⟨r, zM_p rfl (Nat.le_of_ble_eq_true rfl) (fun kz Q hQ => X12_areLike_0 hM ha hk hb hkb ⟨_, m1, zin_of (by omega) (by omega), _, m2, zin_of (by omega) (by omega), fun c => absurd (by omega) c, fun _ => ⟨r, by rw [e1]; exact m3, fun c => ?_, fun c => ?_⟩⟩), hr⟩
    · rcases hr with h | h
      · omega
      · rw [← h.1]; exact hQ
    · rcases hr with h | h
      · rw [← h.1]; exact hQ
      · exact absurd h.1 c
  · refine ⟨0, zM_p rfl (Nat.le_of_ble_eq_true rfl) (fun kz Q hQ => X12_areLike_0 hM ha hk hb hkb ⟨_, m1, zin_of (by omega) (by omega), _, m2, zin_of (by omega) (by omega), fun _ => hQ, fun c => absurd (by omega) c⟩), Or.inr ⟨rfl, fun h => htu ?_⟩⟩
    exact tm_uniq (tm_congr ht h) hu
end PB2
