/-! ===== terms in a row, one behind the other ===== -/
theorem nd_shift {P f : Int → Int} {i : Int} {m : Nat} : ∀ k : Nat, nd P f (i + m) k = 1 + (nd P f i (m + k) - nd P f i m)
  | 0 => by simp [nd]
  | k + 1 => by
    have ih := nd_shift (P := P) (f := f) (i := i) (m := m) k
    have e1 : m + (k + 1) = (m + k) + 1 := by omega
    have e2 : i + (m : Int) + (k : Int) = i + ((m + k : Nat) : Int) := by omega
    rw [e1]
    simp only [nd]
    rw [ih, e2]
    omega
/-- p terms of n places in all stand from i on -/
def ts (P f : Int → Int) (i : Int) (p n : Nat) : Prop := (p : Int) - 1 + nd P f i n = 0 ∧ ∀ k : Nat, k < n → 0 < (p : Int) - 1 + nd P f i k ∧ f (i + k) < 16
theorem ts_1 {P f : Int → Int} {i : Int} {n : Nat} : ts P f i 1 n ↔ tm P f i n := by
  unfold ts tm
  constructor
  · rintro ⟨h1, h2⟩
    exact ⟨by omega, fun k hk => ⟨by have := (h2 k hk).1; omega, (h2 k hk).2⟩⟩
  · rintro ⟨h1, h2⟩
    exact ⟨by omega, fun k hk => ⟨by have := (h2 k hk).1; omega, (h2 k hk).2⟩⟩
theorem ts_0 {P f : Int → Int} {i : Int} {n : Nat} (h : ts P f i 0 n) : n = 0 := by
  rcases Nat.eq_zero_or_pos n with e | e
  · exact e
  · have := (h.2 0 e).1
    simp [nd] at this
theorem nd_step {P f : Int → Int} {i : Int} (hP : pok P) (k : Nat) (h : f (i + k) < 16) : nd P f i k - 1 ≤ nd P f i (k + 1) := by
  simp only [nd]
  split
  · omega
  · have := hP (f (i + k)) (by omega) h
    omega
theorem ts_succ {P f : Int → Int} {i : Int} {p n : Nat} (hP : pok P) (h : ts P f i (p + 1) n) : ∃ m : Nat, m ≤ n ∧ 0 < m ∧ tm P f i m ∧ ts P f (i + m) p (n - m) := by
  have hex : ∃ k : Nat, nd P f i k ≤ 0 := ⟨n, by have := h.1; omega⟩
  obtain ⟨m, hm, hlt⟩ := pk_least _ hex
  have hmn : m ≤ n := by
    rcases Nat.lt_or_ge n m with e | e
    · have := hlt n e
      have := h.1
      omega
    · exact e
  have hm0 : 0 < m := by
    rcases Nat.eq_zero_or_pos m with e | e
    · subst e
      simp [nd] at hm
    · exact e
  have hz : nd P f i m = 0 := by
    have h1 := hlt (m - 1) (by omega)
    have h2 := nd_step (f := f) (i := i) hP (m - 1) (h.2 (m - 1) (by omega)).2
    have e : m - 1 + 1 = m := by omega
    rw [e] at h2
    omega
  refine ⟨m, hmn, hm0, ⟨hz, fun k hk => ⟨by have := hlt k hk; omega, (h.2 k (by omega)).2⟩⟩, ?_, fun k hk => ?_⟩
  · rw [nd_shift, hz, show m + (n - m) = n by omega]
    have := h.1
    omega
  · have h3 := h.2 (m + k) (by omega)
    rw [nd_shift, hz]
    have e2 : i + (m : Int) + (k : Int) = i + ((m + k : Nat) : Int) := by omega
    rw [e2]
    exact ⟨by have := h3.1; omega, h3.2⟩
/-- behind the sign of a term its parts stand -/
theorem tm_parts {P f : Int → Int} {i : Int} {n : Nat} (hP : pok P) (h : tm P f i n) (h0 : 0 ≤ f i) : ts P f (i + 1) (P (f i)).toNat (n - 1) := by
  have hn := nd_ge h
  have hf := (h.2 0 hn).2
  have ei : i + ((0 : Nat) : Int) = i := by omega
  rw [ei] at hf
  have hp := hP (f i) h0 hf
  have e1 : nd P f i 1 = P (f i) := by
    simp only [nd]
    rw [ei, if_neg (by omega)]
    omega
  have e2 : ((P (f i)).toNat : Int) = P (f i) := Int.toNat_of_nonneg hp.1
  have sh := fun k => nd_shift (P := P) (f := f) (i := i) (m := 1) k
  refine ⟨?_, fun k hk => ?_⟩
  · have := sh (n - 1)
    rw [e1, show 1 + (n - 1) = n by omega, h.1] at this
    rw [e2]
    have e3 : i + 1 = i + ((1 : Nat) : Int) := rfl
    rw [e3, this]
    omega
  · have := sh k
    rw [e1] at this
    have h3 := h.2 (1 + k) (by omega)
    have e3 : i + 1 = i + ((1 : Nat) : Int) := rfl
    rw [e2]
    rw [e3, this]
    have e4 : i + ((1 : Nat) : Int) + (k : Int) = i + ((1 + k : Nat) : Int) := by omega
    rw [e4]
    exact ⟨by have := h3.1; omega, h3.2⟩
/-- a letter is a term -/
theorem tm_letter {P f : Int → Int} {i : Int} {n : Nat} (h : tm P f i n) (h0 : f i < 0) : n = 1 := by
  have hn := nd_ge h
  have ei : i + ((0 : Nat) : Int) = i := by omega
  have e1 : nd P f i 1 = 0 := by
    simp only [nd]
    rw [ei, if_pos h0]
    omega
  rcases Nat.lt_or_ge 1 n with e | e
  · have := (h.2 1 e).1
    omega
  · omega
/-- the length of the term that stands there -/
noncomputable def tl (P f : Int → Int) (i : Int) : Nat := @dite Nat (∃ n, tm P f i n) (Classical.propDecidable _) (fun h => Classical.choose h) (fun _ => 0)
theorem tl_eq {P f : Int → Int} {i : Int} {n : Nat} (h : tm P f i n) : tl P f i = n := by
  have hex : ∃ n, tm P f i n := ⟨n, h⟩
  unfold tl
  rw [dif_pos hex]
  exact tm_uniq (Classical.choose_spec hex) h
/-! ===== THE ORDER, as numbers have it ===== -/
def oc (f : Int → Int) (i L : Int) : Nat → Int
  | 0 => 0
  | k + 1 => oc f i L k + (if f (i + k) = -1 - L then 1 else 0)
theorem oc_le (f : Int → Int) (i L : Int) : ∀ n : Nat, 0 ≤ oc f i L n ∧ oc f i L n ≤ n
  | 0 => by simp [oc]
  | n + 1 => by
    have := oc_le f i L n
    simp only [oc]
    split <;> omega
theorem oc_mono (f : Int → Int) (i L : Int) {m n : Nat} (h : m ≤ n) : oc f i L m ≤ oc f i L n := by
  induction n with
  | zero => have : m = 0 := by omega
            subst this; omega
  | succ n ih =>
    rcases Nat.lt_or_ge n m with e | e
    · have : m = n + 1 := by omega
      subst this; omega
    · have := ih e
      simp only [oc]
      split <;> omega
theorem oc_congr {f g : Int → Int} {i j L : Int} : ∀ n : Nat, (∀ k : Nat, k < n → f (i + k) = g (j + k)) → oc f i L n = oc g j L n
  | 0, _ => rfl
  | n + 1, h => by
    simp only [oc]
    rw [oc_congr n (fun k hk => h k (by omega)), h n (by omega)]
/-- every letter stands in the first at least as often as in the second -/
def hl (f : Int → Int) (i : Int) (t : Nat) (g : Int → Int) (j : Int) (u : Nat) : Prop := ∀ L : Int, 0 ≤ L → L < 40 → oc g j L u ≤ oc f i L t
/-- the first parts that are unlike -/
noncomputable def fdc (P f g : Int → Int) : Nat → Int → Int → Option (Int × Int)
  | 0, _, _ => none
  | p + 1, x, y => @ite _ (lk f x g y (tl P f x)) (Classical.propDecidable _) (fdc P f g p (x + tl P f x) (y + tl P g y)) (some (x, y))
/-- GREATER -/
def kg (P W f g : Int → Int) : Nat → Int → Int → Prop
  | 0, _, _ => False
  | k + 1, x, y => hl f x (tl P f x) g y (tl P g y) ∧ (wt W g y (tl P g y) < wt W f x (tl P f x) ∨ wt W g y (tl P g y) = wt W f x (tl P f x) ∧ 0 ≤ f x ∧ 0 ≤ g y ∧ (g y < f x ∨ f x = g y ∧ ∃ q : Int × Int, fdc P f g (P (f x)).toNat (x + 1) (y + 1) = some q ∧ kg P W f g k q.1 q.2))
/-- the heap is as it was but for these names -/
def fz (S : List Nat) (E E' : Nat → Int → Int) : Prop := ∀ x, x ∉ S → E' x = E x
theorem fz_rfl {S : List Nat} {E : Nat → Int → Int} : fz S E E := fun _ _ => rfl
theorem fz_trans {S : List Nat} {E E1 E2 : Nat → Int → Int} (h1 : fz S E E1) (h2 : fz S E1 E2) : fz S E E2 := fun x hx => (h2 x hx).trans (h1 x hx)
theorem zuE_nf {E : Nat → Int → Int} {a b : Nat} {k v : Int} (h : b ≠ a) : zuE E a k v b = E b := funext fun j => zuE_ne h j
theorem fz_put {S : List Nat} {E E1 : Nat → Int → Int} {a : Nat} {k v : Int} (h : fz S E E1) (ha : a ∈ S) : fz S E (zuE E1 a k v) := fun x hx => (zuE_nf (a := a) (b := x) (fun e => hx (by rw [e]; exact ha))).trans (h x hx)
theorem fz_mono {S S' : List Nat} {E E1 : Nat → Int → Int} (h : fz S E E1) (hs : ∀ x, x ∈ S → x ∈ S') : fz S' E E1 := fun x hx => h x (fun e => hx (hs x e))
