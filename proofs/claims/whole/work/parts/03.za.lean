/-! ===== the flat machine: values, heaps, what a cell is ===== -/
/-- a value: a whole number that stands for an int, a long, a name or null -/
abbrev zV : Type := Int ⊕ Int64 ⊕ Option Nat
abbrev zI (i : Int) : zV := Sum.inl i
abbrev zL (x : Int64) : zV := Sum.inr (Sum.inl x)
abbrev zO (o : Option Nat) : zV := Sum.inr (Sum.inr o)
abbrev zR (a : Nat) : zV := Sum.inr (Sum.inr (some a))
abbrev zN : zV := Sum.inr (Sum.inr none)
/-- a heap: the names that are made, what references stand in name a at place k, what ints stand there -/
abbrev zH : Type := List Nat × (Nat → Int → Option Nat) × (Nat → Int → Int)
def zin (i : Int) : Prop := -2147483648 ≤ i ∧ i ≤ 2147483647
def zuE (E : Nat → Int → Int) (a : Nat) (k v : Int) : Nat → Int → Int := fun b j => if b = a ∧ j = k then v else E b j
def zuG (G : Nat → Int → Option Nat) (a : Nat) (k : Int) (v : Option Nat) : Nat → Int → Option Nat := fun b j => if b = a ∧ j = k then v else G b j
def zclE (E : Nat → Int → Int) (a : Nat) : Nat → Int → Int := fun b j => if b = a then 0 else E b j
def zclG (G : Nat → Int → Option Nat) (a : Nat) : Nat → Int → Option Nat := fun b j => if b = a then none else G b j
def zcpE (E : Nat → Int → Int) (s : Nat) (sp : Int) (a : Nat) (dp n : Int) : Nat → Int → Int := fun b j => if b = a ∧ dp ≤ j ∧ j < dp + n then E s (sp + (j - dp)) else E b j
def zval (ad : Nat → Nat) : zV → Value
  | .inl i => .int (Int32.ofInt i)
  | .inr (.inl x) => .long x
  | .inr (.inr o) => va_rf (o.map ad)
def zst3 (a : Nat) : Prop := a = 190 ∨ a = 191 ∨ a = 192 ∨ a = 193 ∨ a = 194
def zstr (a : Nat) : Prop := a = 190 ∨ a = 191 ∨ a = 192 ∨ a = 193
theorem zstr_3 {a : Nat} (h : zstr a) : zst3 a := by
  unfold zstr at h
  unfold zst3
  omega
def zok (d : List Nat) (v : zV) : Prop := match v with
  | .inl i => zin i
  | .inr (.inl _) => True
  | .inr (.inr o) => ∀ a, o = some a → a ∈ d ∨ zstr a
theorem zin_toInt {i : Int} (h : zin i) : (Int32.ofInt i).toInt = i := by
  rw [Int32.toInt_ofInt]
  obtain ⟨h1, h2⟩ := h
  rw [Int.bmod_eq_of_le_mul_two] <;> simp [Int32.size] <;> omega
theorem zlt {a b : Int} (ha : zin a) (hb : zin b) : Int32.ofInt a < Int32.ofInt b ↔ a < b := by
  rw [Int32.lt_iff_toInt_lt, zin_toInt ha, zin_toInt hb]
theorem zle {a b : Int} (ha : zin a) (hb : zin b) : Int32.ofInt a ≤ Int32.ofInt b ↔ a ≤ b := by
  rw [Int32.le_iff_toInt_le, zin_toInt ha, zin_toInt hb]
theorem zeq {a b : Int} (ha : zin a) (hb : zin b) : Int32.ofInt a = Int32.ofInt b ↔ a = b := by
  constructor
  · intro h
    rw [← zin_toInt ha, ← zin_toInt hb, h]
  · intro h
    rw [h]
theorem zin0 : zin 0 := by unfold zin; omega
theorem zz0 : Int32.ofInt 0 = 0 := rfl
theorem zneg {i : Int} (h : zin i) : ¬ Int32.ofInt i < 0 ↔ 0 ≤ i := by
  rw [← zz0, zlt h zin0]
  omega
theorem zclamp {i : Int} (h : zin i) : (Int32.ofInt i).toNatClampNeg = i.toNat := by
  show (Int32.ofInt i).toInt.toNat = i.toNat
  rw [zin_toInt h]
theorem zvin {i : Int} {n : Nat} (h : zin i) : vp_in (Int32.ofInt i) n ↔ 0 ≤ i ∧ i < n := by
  rw [vp_in_iff, zin_toInt h]
/-! the naming: what kind of thing a name is, how many places it has -/
/-- 0 int[], 1 boolean[], 2 Claim[], 3 + c an object of class c of vwCl; else nothing -/
def zfix : List (Nat × Nat) := [(14, 21), (11, 4), (1, 16), (0, 16), (0, 16), (10, 5), (2, 150), (1, 150), (0, 150), (0, 200), (8, 5), (0, 180), (0, 7), (1, 6), (8, 5), (0, 180), (0, 7), (1, 6), (9, 5), (0, 40), (12, 15), (0, 360), (0, 40), (0, 40), (0, 128), (0, 128), (0, 128), (0, 128), (0, 128), (0, 1000), (5, 5), (0, 30), (0, 40), (13, 4), (0, 7), (0, 7), (7, 12), (0, 300), (0, 300), (0, 300), (0, 32), (6, 4), (3, 12), (0, 7)]
def zclm : List (Nat × Nat) := [(4, 14), (8, 5), (0, 180), (0, 7), (1, 6), (0, 7), (0, 32), (8, 5), (0, 180), (0, 7), (1, 6)]
def zmod : List (Nat × Nat) := [(15, 61), (99, 0), (1, 16), (0, 16), (0, 16), (99, 0), (0, 200), (99, 0), (0, 27000), (0, 900), (1, 900), (0, 150), (0, 150), (0, 150), (1, 150), (0, 27000), (0, 900), (1, 900), (0, 150), (0, 1050), (0, 150), (0, 4800), (0, 180), (0, 6), (1, 6), (99, 0), (0, 40), (0, 30), (0, 40), (99, 0), (0, 20), (0, 20), (0, 7), (0, 140), (0, 140), (0, 1000), (99, 0), (99, 0), (99, 0), (99, 0), (99, 0), (99, 0), (0, 32), (99, 0), (99, 0), (99, 0), (99, 0), (0, 360), (0, 40), (0, 4000), (0, 4000), (0, 4000), (0, 31), (99, 0), (0, 31), (99, 0), (99, 0), (99, 0), (99, 0), (99, 0), (1, 150), (99, 0)]
def zno : Nat × Nat := (99, 0)
def zkd (a : Nat) : Nat × Nat :=
  if a < 50 then zfix.getD a zno
  else if a < 180 then zmod.getD (a - 50) zno
  else if a < 200 then zno
  else if a < 3200 then zclm.getD ((a - 200) % 20) zno
  else zno
/-- which fields hold references: class, place -/
def zfk : List (List Nat) := [[1, 1, 1, 1, 0, 0, 1, 1, 0, 0, 0, 0], [1, 1, 1, 1, 0, 0, 0, 0, 0, 0, 0, 2, 0, 2], [1, 1, 1, 1, 0], [1, 1, 1, 1], [1, 1, 1, 1, 1, 1, 1, 0, 0, 0, 1, 0], [1, 1, 1, 0, 0], [1, 1, 0, 2, 2], [1, 1, 1, 0, 0], [1, 1, 1, 0], [1, 1, 1, 1, 0, 1, 1, 1, 1, 1, 0, 0, 0, 1, 0], [1, 1, 1, 1], [1, 1, 1, 1, 1, 1, 1, 1, 1, 1, 1, 1, 0, 0, 0, 0, 0, 0, 0, 0, 0], [0, 1, 1, 1, 0, 1, 0, 1, 1, 1, 1, 1, 1, 1, 1, 1, 1, 1, 1, 1, 1, 1, 1, 1, 0, 1, 1, 1, 0, 1, 1, 1, 1, 1, 1, 0, 0, 0, 0, 0, 0, 1, 0, 0, 0, 0, 1, 1, 1, 1, 1, 1, 0, 1, 0, 0, 0, 0, 0, 1, 2]]
def zfkd (c k : Nat) : Nat := (zfk.getD c []).getD k 0
/-! the cells of the machine that a heap stands for -/
abbrev zWp : Type := va_G × ClassId × ClassId × ClassId × Nat × (Nat → Nat) × Nat × (Nat → Int32)
abbrev zA (w : zWp) : Nat → Prop := fun q => w.2.2.2.2.1 ≤ q
def zfv (ad : Nat → Nat) (G : Nat → Int → Option Nat) (E : Nat → Int → Int) (c a k : Nat) : Value := if zfkd c k = 1 then va_rf ((G a k).map ad) else .int (Int32.ofInt (E a k))
def zce (w : zWp) (ad : Nat → Nat) (G : Nat → Int → Option Nat) (E : Nat → Int → Int) (a : Nat) : va_E := match (zkd a).1 with
  | 0 => .inl (w.2.1, (zkd a).2, .inl (fun j : Nat => Int32.ofInt (E a j)))
  | 1 => .inl (w.2.2.1, (zkd a).2, .inl (fun j : Nat => Int32.ofInt (E a j)))
  | 2 => .inl (w.2.2.2.1, (zkd a).2, .inr (.inr (.inr (.inr (fun j : Nat => (G a j).map ad)))))
  | c + 3 => .inr (c, (List.range (zkd a).2).map (zfv ad G E c a))
def zws (w : zWp) (ad : Nat → Nat) (d : List Nat) (G : Nat → Int → Option Nat) (E : Nat → Int → Int) : va_W := d.map (fun a => (ad a, zce w ad G E a))
def zgood (d : List Nat) (G : Nat → Int → Option Nat) (E : Nat → Int → Int) : Prop := (∀ a k, zin (E a k)) ∧ (∀ a, a ∈ d → ∀ k b, G a k = some b → b ∈ d) ∧ d.Nodup ∧ ∀ a, a ∈ d → ¬ zst3 a
def zsl (d : List Nat) : Nat := (d.map (fun a => (zkd a).2)).sum
theorem zws_at {w : zWp} {ad : Nat → Nat} {d : List Nat} {G : Nat → Int → Option Nat} {E : Nat → Int → Int} {q a : Nat} (h : d[q]? = some a) : (zws w ad d G E)[q]? = some (ad a, zce w ad G E a) := by
  simp [zws, h]
theorem zset {d : List Nat} {g g' : Nat → Nat × va_E} {q a : Nat} (hn : d.Nodup) (hq : d[q]? = some a) (hne : ∀ b, b ≠ a → g' b = g b) {x : Nat × va_E} (hx : x = g' a) : (d.map g).set q x = d.map g' := by
  subst hx
  apply List.ext_getElem?
  intro i
  rw [List.getElem?_set]
  by_cases hi : q = i
  · subst hi
    have hlt : q < d.length := (List.getElem?_eq_some_iff.mp hq).1
    have hd : d[q] = a := (List.getElem?_eq_some_iff.mp hq).2
    simp [hlt, hd]
  · rw [if_neg hi, List.getElem?_map, List.getElem?_map]
    cases hb : d[i]? with
    | none => rfl
    | some b =>
      have hba : b ≠ a := by
        intro e
        subst e
        exact hi ((List.getElem?_inj (List.getElem?_eq_some_iff.mp hq).1 hn).mp (hq.trans hb.symm))
      simp [hne b hba]
theorem zce_E {w : zWp} {ad : Nat → Nat} {G : Nat → Int → Option Nat} {E E' : Nat → Int → Int} {b : Nat} (h : ∀ j, E' b j = E b j) : zce w ad G E' b = zce w ad G E b := by
  unfold zce
  have e1 : (fun j : Nat => Int32.ofInt (E' b j)) = fun j : Nat => Int32.ofInt (E b j) := funext fun j => by rw [h]
  split
  · rw [e1]
  · rw [e1]
  · rfl
  · congr 3
    funext k
    unfold zfv
    rw [h]
theorem zce_G {w : zWp} {ad : Nat → Nat} {G G' : Nat → Int → Option Nat} {E : Nat → Int → Int} {b : Nat} (h : ∀ j, G' b j = G b j) : zce w ad G' E b = zce w ad G E b := by
  have e2 : (fun j : Nat => (G' b j).map ad) = fun j : Nat => (G b j).map ad := funext fun j => by rw [h]
  unfold zce
  split
  · rfl
  · rfl
  · rw [e2]
  · congr 3
    funext k
    unfold zfv
    rw [h]
theorem zce_ad {w : zWp} {ad ad' : Nat → Nat} {G : Nat → Int → Option Nat} {E : Nat → Int → Int} {b : Nat} (h : ∀ j x, G b j = some x → ad' x = ad x) : zce w ad' G E b = zce w ad G E b := by
  have e : ∀ j : Int, (G b j).map ad' = (G b j).map ad := fun j => by
    cases hx : G b j with
    | none => rfl
    | some x => simp [h j x hx]
  have e2 : (fun j : Nat => (G b j).map ad') = fun j : Nat => (G b j).map ad := funext fun j => e j
  unfold zce
  split
  · rfl
  · rfl
  · rw [e2]
  · congr 3
    funext k
    unfold zfv
    rw [e]
