/-! ===== numbers: heaps written and read, terms as rows ===== -/
theorem zuE_same {E : Nat → Int → Int} {a : Nat} {k v : Int} : zuE E a k v a k = v := if_pos ⟨rfl, rfl⟩
theorem zuE_ix {E : Nat → Int → Int} {a b : Nat} {k j v : Int} (h : j ≠ k) : zuE E a k v b j = E b j := if_neg (fun q => h q.2)
theorem zuG_same {G : Nat → Int → Option Nat} {a : Nat} {k : Int} {v : Option Nat} : zuG G a k v a k = v := if_pos ⟨rfl, rfl⟩
theorem zuG_ix {G : Nat → Int → Option Nat} {a b : Nat} {k j : Int} {v : Option Nat} (h : j ≠ k) : zuG G a k v b j = G b j := if_neg (fun q => h q.2)
theorem zin_of {i : Int} (h1 : -2147483648 ≤ i) (h2 : i ≤ 2147483647) : zin i := ⟨h1, h2⟩
/-- how many terms are wanted behind k places from i on -/
def nd (P f : Int → Int) (i : Int) : Nat → Int
  | 0 => 1
  | k + 1 => nd P f i k + (if f (i + k) < 0 then -1 else P (f (i + k)) - 1)
/-- arities as they may be -/
def pok (P : Int → Int) : Prop := ∀ s, 0 ≤ s → s < 16 → 0 ≤ P s ∧ P s ≤ 3
/-- from i on a term of n places stands in f -/
def tm (P f : Int → Int) (i : Int) (n : Nat) : Prop := nd P f i n = 0 ∧ ∀ k : Nat, k < n → 0 < nd P f i k ∧ f (i + k) < 16
theorem nd_le {P f : Int → Int} {i : Int} (hP : pok P) : ∀ k : Nat, (∀ j : Nat, j < k → f (i + j) < 16) → nd P f i k ≤ 1 + 2 * k
  | 0, _ => by simp [nd]
  | k + 1, h => by
    have ih := nd_le hP k (fun j hj => h j (by omega))
    have h2 := h k (by omega)
    simp only [nd]
    split
    · omega
    · have := hP (f (i + k)) (by omega) h2
      omega
theorem nd_ge {P f : Int → Int} {i : Int} {n : Nat} (ht : tm P f i n) : 0 < n := by
  rcases Nat.eq_zero_or_pos n with h | h
  · subst h
    have := ht.1
    simp [nd] at this
  · exact h
theorem nd_congr {P f g : Int → Int} {i j : Int} : ∀ n : Nat, (∀ k : Nat, k < n → f (i + k) = g (j + k)) → nd P f i n = nd P g j n
  | 0, _ => rfl
  | n + 1, h => by
    simp only [nd]
    rw [nd_congr n (fun k hk => h k (by omega)), h n (by omega)]
theorem tm_congr {P f g : Int → Int} {i j : Int} {n : Nat} (ht : tm P f i n) (h : ∀ k : Nat, k < n → f (i + k) = g (j + k)) : tm P g j n :=
  ⟨by rw [← nd_congr n h]; exact ht.1, fun k hk => by rw [← nd_congr k (fun x hx => h x (by omega)), ← h k hk]; exact ht.2 k hk⟩
/-- a term's length is one -/
theorem tm_uniq {P f : Int → Int} {i : Int} {n m : Nat} (h1 : tm P f i n) (h2 : tm P f i m) : n = m := by
  rcases Nat.lt_trichotomy n m with h | h | h
  · have := (h2.2 n h).1; rw [h1.1] at this; omega
  · exact h
  · have := (h1.2 m h).1; rw [h2.1] at this; omega
/-! ===== the reference's small methods ===== -/
theorem in_ok {d : List Nat} {G : Nat → Int → Option Nat} {E : Nat → Int → Int} (hM : zK zMt d G) (v l h : Int) : zM zm_X12_in [zI v, zI l, zI h] (d, G, E) (some (zI (if l ≤ v ∧ v ≤ h then 1 else 0))) (d, G, E) := by
  refine zM_of rfl (Nat.le_of_ble_eq_true rfl) ⟨Nat.le_refl _, Nat.le_refl _⟩ ?_
  refine X12_in_0 hM ⟨fun c => ⟨?_, rfl⟩, fun c => ⟨fun c2 => ⟨?_, rfl⟩, fun c2 => ⟨?_, rfl⟩⟩⟩
  · rw [if_neg (by omega)]
  · rw [if_neg (by omega)]
  · rw [if_pos (by omega)]
theorem endOf_loop {d : List Nat} {G : Nat → Int → Option Nat} {E : Nat → Int → Int} {kz : Nat × Nat} {Q : Option zV → zH → Prop} {a n : Nat} {i : Int} {t : Nat} (hM : zK zMt d G) (ha : a ∈ d) (hk : zkd a = (0, n)) (hP : pok (E 53)) (ht : tm (E 53) (E a) i t) (h0 : 0 ≤ i) (hn : i + t ≤ n) (hn2 : n ≤ 100000) (hQ : Q (some (zI (i + t))) (d, G, E)) :
    ∀ (m k : Nat), k + m = t → Z zm_X12_endOf kz Q 5 [(0, zR 50), (1, zR a), (3, zI (nd (E 53) (E a) i k)), (4, zI (i + k))] [] (d, G, E) := by
  intro m
  induction m with
  | zero =>
    intro k hkm
    have : k = t := by omega
    subst this
    refine X12_endOf_5 hM ha hk ⟨fun _ => hQ, fun c => ?_⟩
    have := ht.1
    omega
  | succ m ih =>
    intro k hkm
    have h1 := (ht.2 k (by omega)).1
    have h2 := (ht.2 k (by omega)).2
    have h3 := nd_le hP k (fun j hj => (ht.2 j (by omega)).2)
    have hs := ih (k + 1) (by omega)
    have e1 : i + ((k + 1 : Nat) : Int) = i + k + 1 := by omega
    rw [e1] at hs
    refine X12_endOf_5 hM ha hk ⟨fun c => by omega, fun _ => ⟨⟨by omega, by omega⟩, fun c => ?_, fun c => ?_⟩⟩
    · have h4 := hP (E a (i + k)) (by omega) h2
      have e2 : nd (E 53) (E a) i (k + 1) = nd (E 53) (E a) i k + (E 53 (E a (i + k)) - 1) := by
        simp only [nd]
        rw [if_neg (by omega)]
      rw [e2] at hs
      exact ⟨⟨by omega, by omega⟩, ⟨by omega, by omega⟩, zin_of (by omega) (by omega), zin_of (by omega) (by omega), zin_of (by omega) (by omega), hs⟩
    · have e2 : nd (E 53) (E a) i (k + 1) = nd (E 53) (E a) i k + (-1) := by
        simp only [nd]
        rw [if_pos (by omega)]
      rw [e2] at hs
      exact ⟨zin_of (by omega) (by omega), zin_of (by omega) (by omega), hs⟩
theorem endOf_ok {d : List Nat} {G : Nat → Int → Option Nat} {E : Nat → Int → Int} {a n : Nat} {i : Int} {t : Nat} (hM : zK zMt d G) (ha : a ∈ d) (hk : zkd a = (0, n)) (hP : pok (E 53)) (ht : tm (E 53) (E a) i t) (h0 : 0 ≤ i) (hn : i + t ≤ n) (hn2 : n ≤ 100000) : zM zm_X12_endOf [zR 50, zR a, zI i] (d, G, E) (some (zI (i + t))) (d, G, E) := by
  refine zM_of rfl (Nat.le_of_ble_eq_true rfl) ⟨Nat.le_refl _, Nat.le_refl _⟩ ?_
  refine X12_endOf_0 hM ha hk ?_
  have h := endOf_loop hM ha hk hP ht h0 hn hn2 (Q := fun r1 h1 => r1 = some (zI (i + t)) ∧ h1 = (d, G, E)) (kz := (d.length, zsl d)) ⟨rfl, rfl⟩ t 0 (by omega)
  have e : i + ((0 : Nat) : Int) = i := by omega
  rw [e] at h
  exact h
