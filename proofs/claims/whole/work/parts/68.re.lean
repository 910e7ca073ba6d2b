/-! ===== unification: how many rounds; places of two terms ===== -/
def HH : Nat → Nat
  | 0 => 1
  | 1 => 2
  | 2 => 3
  | n + 3 => 1 + max (HH (n + 2)) (max (2 * HH (n + 1)) (3 * HH n))
theorem HH_1 : ∀ n : Nat, 1 + HH n ≤ HH (n + 1)
  | 0 => by decide
  | 1 => by decide
  | n + 2 => by
    show _ ≤ 1 + max (HH (n + 2)) _
    have := Nat.le_max_left (HH (n + 2)) (max (2 * HH (n + 1)) (3 * HH n))
    omega
theorem HH_2 : ∀ n : Nat, 1 + 2 * HH n ≤ HH (n + 2)
  | 0 => by decide
  | n + 1 => by
    show _ ≤ 1 + max (HH (n + 2)) _
    have h1 := Nat.le_max_right (HH (n + 2)) (max (2 * HH (n + 1)) (3 * HH n))
    have h2 := Nat.le_max_left (2 * HH (n + 1)) (3 * HH n)
    omega
theorem HH_3 (n : Nat) : 1 + 3 * HH n ≤ HH (n + 3) := by
  show _ ≤ 1 + max (HH (n + 2)) _
  have h1 := Nat.le_max_right (HH (n + 2)) (max (2 * HH (n + 1)) (3 * HH n))
  have h2 := Nat.le_max_right (2 * HH (n + 1)) (3 * HH n)
  omega
theorem HH_mono {n m : Nat} (h : n ≤ m) : HH n ≤ HH m := by
  induction h with
  | refl => exact Nat.le_refl _
  | step _ ih => exact Nat.le_trans ih (Nat.le_trans (by omega) (HH_1 _))
theorem HH_pos (n : Nat) : 1 ≤ HH n := HH_mono (n := 0) (Nat.zero_le n)
/-- a parts, each of them cheaper -/
theorem HH_a {n m a : Nat} (ha : a ≤ 3) (h : m + a ≤ n) : 1 + a * HH m ≤ HH n := by
  have hm := HH_mono h
  rcases (by omega : a = 0 ∨ a = 1 ∨ a = 2 ∨ a = 3) with e | e | e | e
  · subst e; have := HH_pos n; omega
  · subst e; have := HH_1 m; omega
  · subst e; have := HH_2 m; omega
  · subst e; have := HH_3 m; omega
theorem HH_29 : HH 29 ≤ 100000 := by decide +kernel
section RE
variable {P f : Int → Int} {T : Int → List Int}
/-- a term's length under T, at a place -/
noncomputable def tlT (P f : Int → Int) (T : Int → List Int) (i : Int) : Nat := (xcat (fun k => sb T [f k]) i (tl P f i)).length
theorem xcat_T {i : Int} {w : List Int} (h : lk f i (fw w) 0 w.length) : xcat (fun k => sb T [f k]) i w.length = sb T w := by
  refine xcat_sb (fun k hk => ?_)
  have e : f (i + k) = fw w k := by rw [h k hk, fw_0, fw_nat]
  rw [e]
  by_cases q : 0 ≤ fw w k
  · rw [if_pos q, sb_s q]; rfl
  · rw [if_neg q, sb_one (by omega)]
theorem tlT_eq {i : Int} {w : List Int} (hw : tw P w) (h : lk f i (fw w) 0 w.length) : tlT P f T i = (sb T w).length := by
  unfold tlT
  rw [tl_eq (tm_congr hw (fun k hk => (h k hk).symm)), xcat_T h]
noncomputable def gB (P f : Int → Int) (T : Int → List Int) (m : Nat) (i : Int) : Nat := @ite _ (0 ≤ f i ∧ tlT P f T i ≤ m) (Classical.propDecidable _) (P (f i)).toNat 0
def sumB (g : Int → Nat) : List Int → Nat
  | [] => 0
  | x :: l => g x + sumB g l
theorem sumB_mono {g h : Int → Nat} (e : ∀ i, g i ≤ h i) : ∀ l : List Int, sumB g l ≤ sumB h l
  | [] => Nat.le_refl _
  | x :: l => by
    have := sumB_mono e l
    have := e x
    simp only [sumB]; omega
theorem sumB_1 {g h : Int → Nat} (e : ∀ i, g i ≤ h i) {x : Int} (hx : g x = 0) : ∀ l : List Int, x ∈ l → sumB g l + h x ≤ sumB h l
  | [], m => absurd m (by simp)
  | y :: l, m => by
    simp only [sumB]
    have e1 := e y
    by_cases c : x = y
    · subst c
      have := sumB_mono e l
      omega
    · have := sumB_1 e hx l (by rcases List.mem_cons.1 m with z | z; exact absurd z c; exact z)
      omega
theorem sumB_2 {g h : Int → Nat} (e : ∀ i, g i ≤ h i) {x y : Int} (hx : g x = 0) (hy : g y = 0) (hxy : x ≠ y) : ∀ l : List Int, x ∈ l → y ∈ l → sumB g l + h x + h y ≤ sumB h l
  | [], m, _ => absurd m (by simp)
  | z :: l, mx, my => by
    simp only [sumB]
    have e1 := e z
    by_cases c : x = z
    · subst c
      have := sumB_1 e hy l (by rcases List.mem_cons.1 my with z | z; exact absurd z.symm hxy; exact z)
      omega
    · have mx' : x ∈ l := by rcases List.mem_cons.1 mx with z | z; exact absurd z c; exact z
      by_cases c2 : y = z
      · subst c2
        have := sumB_1 e hx l mx'
        omega
      · have := sumB_2 e hx hy hxy l mx' (by rcases List.mem_cons.1 my with z | z; exact absurd z c2; exact z)
        omega
noncomputable def Bud (P f : Int → Int) (T : Int → List Int) (reg : List Int) (m : Nat) : Nat := sumB (gB P f T m) reg
theorem gB_le {m n : Nat} (h : m ≤ n) (i : Int) : gB P f T m i ≤ gB P f T n i := by
  unfold gB
  by_cases c : 0 ≤ f i ∧ tlT P f T i ≤ m
  · rw [if_pos c, if_pos ⟨c.1, by omega⟩]; exact Nat.le_refl _
  · rw [if_neg c]; omega
theorem Bud_mono {reg : List Int} {m n : Nat} (h : m ≤ n) : Bud P f T reg m ≤ Bud P f T reg n := sumB_mono (gB_le h) reg
/-- two different places of the same length -/
theorem Bud_2 {reg : List Int} {x y : Int} {m M : Nat} (hx : x ∈ reg) (hy : y ∈ reg) (hxy : x ≠ y) (fx : 0 ≤ f x) (fy : 0 ≤ f y) (lx : tlT P f T x = M) (ly : tlT P f T y = M) (hm : m < M) : Bud P f T reg m + (P (f x)).toNat + (P (f y)).toNat ≤ Bud P f T reg M := by
  have zx : gB P f T m x = 0 := if_neg (fun z => by omega)
  have zy : gB P f T m y = 0 := if_neg (fun z => by omega)
  have ox : gB P f T M x = (P (f x)).toNat := if_pos ⟨fx, by omega⟩
  have oy : gB P f T M y = (P (f y)).toNat := if_pos ⟨fy, by omega⟩
  have := sumB_2 (gB_le (P := P) (f := f) (T := T) (Nat.le_of_lt hm)) zx zy hxy reg hx hy
  rw [ox, oy] at this
  exact this
/-- the places from a on -/
def plc (a : Int) : Nat → List Int
  | 0 => []
  | n + 1 => a :: plc (a + 1) n
theorem plc_mem : ∀ {n : Nat} {a x : Int}, x ∈ plc a n ↔ a ≤ x ∧ x < a + n
  | 0, a, x => by simp only [plc, List.not_mem_nil, false_iff]; omega
  | n + 1, a, x => by
    simp only [plc, List.mem_cons]
    rw [plc_mem]; omega
theorem sumB_app {g : Int → Nat} : ∀ {l k : List Int}, sumB g (l ++ k) = sumB g l + sumB g k
  | [], k => by simp [sumB]
  | x :: l, k => by
    rw [List.cons_append]
    simp only [sumB]
    rw [sumB_app]; omega
/-- the parts of all places of n: how many terms are wanted -/
theorem nd_sum (hP : pok P) {m : Nat} : ∀ (n : Nat) (i : Int), (∀ k : Nat, k < n → f (i + k) < 16) → (sumB (gB P f T m) (plc i n) : Int) ≤ nd P f i n - 1 + n
  | 0, i, _ => by simp [plc, sumB, nd]
  | n + 1, i, h => by
    have e1 := nd_shift (P := P) (f := f) (i := i) (m := 1) n
    have e2 : nd P f i 1 = 1 + (if f i < 0 then -1 else P (f i) - 1) := by
      simp only [nd]
      have : i + ((0 : Nat) : Int) = i := by omega
      rw [this]
    have e3 : (1 : Nat) + n = n + 1 := by omega
    rw [e3] at e1
    have ih := nd_sum hP (m := m) n (i + 1) (fun k hk => by
      have := h (k + 1) (by omega)
      have e : i + ((k + 1 : Nat) : Int) = i + 1 + k := by omega
      rw [e] at this; exact this)
    have h0 := h 0 (by omega)
    have e0 : i + ((0 : Nat) : Int) = i := by omega
    rw [e0] at h0
    have e4 : i + ((1 : Nat) : Int) = i + 1 := by omega
    rw [e4] at e1
    simp only [plc, sumB]
    have hg : (gB P f T m i : Int) ≤ if f i < 0 then 0 else P (f i) := by
      unfold gB
      by_cases c : f i < 0
      · rw [if_neg (fun z => by omega), if_pos c]; omega
      · rw [if_neg c]
        have := hP (f i) (by omega) h0
        split <;> omega
    by_cases c : f i < 0
    · rw [if_pos c] at hg e2
      omega
    · rw [if_neg c] at hg e2
      omega
theorem tm_sum (hP : pok P) {m : Nat} {n : Nat} {i : Int} (h : tm P f i n) : sumB (gB P f T m) (plc i n) + 1 ≤ n := by
  have := nd_sum (P := P) (f := f) (T := T) hP (m := m) n i (fun k hk => (h.2 k hk).2)
  have h1 := h.1
  omega
end RE
/-- terms at the beginning of two like words are alike -/
theorem tw_pre {P : Int → Int} {u v p q : List Int} (hu : tw P u) (hv : tw P v) (h : u ++ p = v ++ q) : u = v ∧ p = q := by
  have e : u.length = v.length := by
    have h1 : tm P (fw (u ++ p)) 0 u.length := tm_congr hu (fun k hk => by rw [fw_0, ← fw_nat, fw_al (i := 0 + (k : Int)) (k := k) (by omega) hk])
    have h2 : tm P (fw (v ++ q)) 0 v.length := tm_congr hv (fun k hk => by rw [fw_0, ← fw_nat, fw_al (i := 0 + (k : Int)) (k := k) (by omega) hk])
    rw [h] at h1
    exact tm_uniq h1 h2
  exact List.append_inj h e
