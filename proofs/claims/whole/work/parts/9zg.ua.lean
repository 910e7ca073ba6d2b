/-! ===== the bound: a table over what is left, and regions in order of size ===== -/
/-- how few classes a region with a open slots has -/
def tmn (a : Nat) : Nat := max 1 (a / 2)
def uS1 (S e p : Nat) : Nat := if S = 12 then 12 else if e = 4 then S else S - (p - e)
def uS2 (S e p a c : Nat) : Nat := min 12 (uS1 S e p + (a - c) * (p - 1))
def uE2 (p c : Nat) : Nat := min 4 (c * (p - 1))
def uLm (S e p : Nat) : Prop := S = 12 ∨ e = 4 ∨ p ≤ e + S
/-- such tables bound what can be made of R places -/
def Tb (T Y : Nat → Nat → Nat → Nat) : Prop :=
  (∀ R S e, 1 ≤ T R S e ∧ 1 ≤ Y R S e) ∧
  (∀ R, T R 0 0 = 1 ∧ Y R 0 0 = 1) ∧
  (∀ R S e, R ≤ 58 → S ≤ 12 → e ≤ 4 → 1 ≤ S + e → R + 1 ≤ T R S e) ∧
  (∀ R S e, R + 1 ≤ 58 → S ≤ 12 → e ≤ 4 → 1 ≤ S + e → T R S e + 1 ≤ T (R + 1) S e) ∧
  (∀ R S e, R + 1 ≤ 58 → S ≤ 12 → e ≤ 4 → 1 < Y R S e → Y R S e + 1 ≤ Y (R + 1) S e) ∧
  (∀ R S e p a c, R ≤ 58 → S ≤ 12 → e ≤ 4 → 1 ≤ p → 1 ≤ a → c ≤ a → uLm S e p → p * (a + tmn a - 1) ≤ R → tmn a + c * T (R - p * (a + tmn a - 1)) (uS2 S e p a c) (uE2 p c) + (a - c) * Y (R - p * (a + tmn a - 1)) (uS2 S e p a c) (uE2 p c) ≤ T R S e ∧ T (R - p * (a + tmn a - 1)) (uS2 S e p a c) (uE2 p c) ≤ Y R S e)
section UA
variable {T Y : Nat → Nat → Nat → Nat}
theorem Tb.one (h : Tb T Y) : ∀ R S e, 1 ≤ T R S e ∧ 1 ≤ Y R S e := h.1
theorem Tb.zero (h : Tb T Y) : ∀ R, T R 0 0 = 1 ∧ Y R 0 0 = 1 := h.2.1
theorem Tb.lin (h : Tb T Y) : ∀ R S e, R ≤ 58 → S ≤ 12 → e ≤ 4 → 1 ≤ S + e → R + 1 ≤ T R S e := h.2.2.1
theorem Tb.incT (h : Tb T Y) : ∀ R S e, R + 1 ≤ 58 → S ≤ 12 → e ≤ 4 → 1 ≤ S + e → T R S e + 1 ≤ T (R + 1) S e := h.2.2.2.1
theorem Tb.incY (h : Tb T Y) : ∀ R S e, R + 1 ≤ 58 → S ≤ 12 → e ≤ 4 → 1 < Y R S e → Y R S e + 1 ≤ Y (R + 1) S e := h.2.2.2.2.1
theorem Tb.main (h : Tb T Y) : ∀ R S e p a c, R ≤ 58 → S ≤ 12 → e ≤ 4 → 1 ≤ p → 1 ≤ a → c ≤ a → uLm S e p → p * (a + tmn a - 1) ≤ R → tmn a + c * T (R - p * (a + tmn a - 1)) (uS2 S e p a c) (uE2 p c) + (a - c) * Y (R - p * (a + tmn a - 1)) (uS2 S e p a c) (uE2 p c) ≤ T R S e ∧ T (R - p * (a + tmn a - 1)) (uS2 S e p a c) (uE2 p c) ≤ Y R S e := h.2.2.2.2.2
theorem Tb_T (h : Tb T Y) {S e : Nat} (hS : S ≤ 12) (he : e ≤ 4) (h1 : 1 ≤ S + e) : ∀ (x R : Nat), R + x ≤ 58 → T R S e + x ≤ T (R + x) S e
  | 0, R, _ => Nat.le_refl _
  | x + 1, R, hx => by
    have a := Tb_T h hS he h1 x R (by omega)
    have b := h.incT (R + x) S e (by omega) hS he h1
    rw [show R + (x + 1) = R + x + 1 by omega]
    omega
theorem Tb_Tm (h : Tb T Y) {S e : Nat} (hS : S ≤ 12) (he : e ≤ 4) {x R : Nat} (hx : R + x ≤ 58) : T R S e ≤ T (R + x) S e := by
  by_cases h1 : 1 ≤ S + e
  · have := Tb_T h hS he h1 x R hx
    omega
  · have e1 : S = 0 := by omega
    have e2 : e = 0 := by omega
    subst e1; subst e2
    rw [(h.zero R).1, (h.zero (R + x)).1]; omega
theorem Tb_Y (h : Tb T Y) {S e : Nat} (hS : S ≤ 12) (he : e ≤ 4) : ∀ (x R : Nat), R + x ≤ 58 → 1 < Y R S e → Y R S e + x ≤ Y (R + x) S e
  | 0, R, _, _ => Nat.le_refl _
  | x + 1, R, hx, h1 => by
    have a := Tb_Y h hS he x R (by omega) h1
    have b := h.incY (R + x) S e (by omega) hS he (by omega)
    rw [show R + (x + 1) = R + x + 1 by omega]
    omega
theorem tmn_le {a t : Nat} (h1 : 1 ≤ t) (h2 : a ≤ 2 * t + 1) : tmn a ≤ t := by unfold tmn; omega
theorem tmn_pos {a : Nat} : 1 ≤ tmn a := by unfold tmn; omega
theorem mul_sub1 {p n R : Nat} (hp : 1 ≤ p) (h : p * n ≤ R) : n ≤ R := Nat.le_trans (Nat.le_mul_of_pos_left n hp) h
/-- with more classes than needed -/
theorem Tb_main (h : Tb T Y) {R S e p t a c : Nat} (hR : R ≤ 58) (hS : S ≤ 12) (he : e ≤ 4) (hp : 1 ≤ p) (ht : 1 ≤ t) (ha : 1 ≤ a) (hat : a ≤ 2 * t + 1) (hc : c ≤ a) (hl : uLm S e p) (hk : p * (a + t - 1) ≤ R) : t + c * T (R - p * (a + t - 1)) (uS2 S e p a c) (uE2 p c) + (a - c) * Y (R - p * (a + t - 1)) (uS2 S e p a c) (uE2 p c) ≤ T R S e ∧ T (R - p * (a + t - 1)) (uS2 S e p a c) (uE2 p c) ≤ Y R S e := by
  have s2 : uS2 S e p a c ≤ 12 := by unfold uS2; omega
  have e2 : uE2 p c ≤ 4 := by unfold uE2; omega
  have hse : 1 ≤ S + e := by unfold uLm at hl; omega
  have tm := tmn_le ht hat
  obtain ⟨x, rfl⟩ : ∃ x, t = tmn a + x := ⟨t - tmn a, by omega⟩
  have tp := tmn_pos (a := a)
  have ek : p * (a + (tmn a + x) - 1) = p * (a + tmn a - 1) + p * x := by
    rw [← Nat.mul_add]
    congr 1
    omega
  have px : x ≤ p * x := Nat.le_mul_of_pos_left x hp
  obtain ⟨m1, m2⟩ := h.main R S e p a c hR hS he hp ha hc hl (by omega)
  have at1 : a + (tmn a + x) ≤ R + 1 := by
    have := mul_sub1 hp hk
    omega
  have ln := h.lin R S e hR hS he hse
  generalize uS2 S e p a c = S2 at *
  generalize uE2 p c = E2 at *
  have er : R - p * (a + tmn a - 1) = R - p * (a + (tmn a + x) - 1) + p * x := by omega
  generalize hR' : R - p * (a + (tmn a + x) - 1) = R' at *
  rw [er] at m1 m2
  have tmono := Tb_Tm h s2 e2 (x := p * x) (R := R') (by omega)
  refine ⟨?_, Nat.le_trans tmono m2⟩
  have o := h.one R' S2 E2
  have flat : T R' S2 E2 = 1 ∨ c = 0 → Y R' S2 E2 = 1 → tmn a + x + c * T R' S2 E2 + (a - c) * Y R' S2 E2 ≤ T R S e := fun q1 q2 => by
    rw [q2]
    rcases q1 with q | q
    · rw [q]; omega
    · rw [q]; omega
  by_cases z : 1 ≤ S2 + E2
  · have tx := Tb_T h s2 e2 z (p * x) R' (by omega)
    by_cases y1 : Y R' S2 E2 = 1
    · by_cases c0 : c = 0
      · exact flat (Or.inr c0) y1
      · -- one slot at least goes on
        have yy : Y R' S2 E2 ≤ Y (R' + p * x) S2 E2 := by rw [y1]; exact (h.one _ _ _).2
        have q1 : c * (T R' S2 E2 + p * x) ≤ c * T (R' + p * x) S2 E2 := Nat.mul_le_mul_left c tx
        have q2 : (a - c) * Y R' S2 E2 ≤ (a - c) * Y (R' + p * x) S2 E2 := Nat.mul_le_mul_left _ yy
        rw [Nat.mul_add] at q1
        have q3 : p * x ≤ c * (p * x) := Nat.le_mul_of_pos_left _ (by omega)
        omega
    · have yx := Tb_Y h s2 e2 (p * x) R' (by omega) (by omega)
      have q1 : c * (T R' S2 E2 + p * x) ≤ c * T (R' + p * x) S2 E2 := Nat.mul_le_mul_left c tx
      have q2 : (a - c) * (Y R' S2 E2 + p * x) ≤ (a - c) * Y (R' + p * x) S2 E2 := Nat.mul_le_mul_left _ yx
      rw [Nat.mul_add] at q1 q2
      have q3 : p * x ≤ c * (p * x) + (a - c) * (p * x) := by
        rw [← Nat.add_mul]
        exact Nat.le_mul_of_pos_left _ (by omega)
      omega
  · have z1 : S2 = 0 := by omega
    have z2 : E2 = 0 := by omega
    subst z1; subst z2
    exact flat (Or.inl (h.zero _).1) (h.zero _).2
/-- a sum over a list -/
def lsum (g : Nat → Nat) : List Nat → Nat
  | [] => 0
  | x :: l => g x + lsum g l
theorem lsum_le {g g' : Nat → Nat} : ∀ {l : List Nat}, (∀ x, x ∈ l → g x ≤ g' x) → lsum g l ≤ lsum g' l
  | [], _ => Nat.le_refl _
  | x :: l, h => Nat.add_le_add (h x List.mem_cons_self) (lsum_le (fun y hy => h y (List.mem_cons_of_mem _ hy)))
theorem lsum_add {g g' : Nat → Nat} : ∀ {l : List Nat}, lsum (fun x => g x + g' x) l = lsum g l + lsum g' l
  | [] => rfl
  | x :: l => by
    simp only [lsum]
    rw [lsum_add]; omega
theorem lsum_mul {g : Nat → Nat} {k : Nat} : ∀ {l : List Nat}, lsum (fun x => g x * k) l = lsum g l * k
  | [] => by simp [lsum]
  | x :: l => by
    simp only [lsum]
    rw [lsum_mul, Nat.add_mul]
theorem lsum_eq {g g' : Nat → Nat} {l : List Nat} (h : ∀ x, x ∈ l → g x = g' x) : lsum g l = lsum g' l := Nat.le_antisymm (lsum_le (fun x hx => Nat.le_of_eq (h x hx))) (lsum_le (fun x hx => Nat.le_of_eq (h x hx).symm))
theorem lsum_er {g : Nat → Nat} {z : Nat} : ∀ {l : List Nat}, z ∈ l → lsum g l = g z + lsum g (l.erase z)
  | [], h => absurd h List.not_mem_nil
  | x :: l, h => by
    by_cases e : x = z
    · subst e
      rw [List.erase_cons_head]; rfl
    · rw [List.erase_cons_tail (by simpa using e)]
      simp only [lsum]
      rcases List.mem_cons.mp h with q | q
      · exact absurd q.symm e
      · rw [lsum_er q]; omega
theorem ex_max {L : Nat → Nat} : ∀ {l : List Nat}, l ≠ [] → ∃ z, z ∈ l ∧ ∀ y, y ∈ l → L y ≤ L z
  | [], h => absurd rfl h
  | x :: l, _ => by
    by_cases e : l = []
    · subst e
      exact ⟨x, List.mem_cons_self, fun y hy => by
        rcases List.mem_cons.mp hy with q | q
        · rw [q]; exact Nat.le_refl _
        · exact absurd q List.not_mem_nil⟩
    · obtain ⟨z, z1, z2⟩ := ex_max (L := L) e
      by_cases c : L z ≤ L x
      · exact ⟨x, List.mem_cons_self, fun y hy => by
          rcases List.mem_cons.mp hy with q | q
          · rw [q]; exact Nat.le_refl _
          · exact Nat.le_trans (z2 y q) c⟩
      · exact ⟨z, List.mem_cons_of_mem _ z1, fun y hy => by
          rcases List.mem_cons.mp hy with q | q
          · rw [q]; omega
          · exact z2 y q⟩
/-- regions, the largest first -/
theorem Tb_go (h : Tb T Y) {L p t a : Nat → Nat} {cnt : Nat → Nat → Nat} : ∀ (n : Nat) (Z : List Nat), Z.length = n → ∀ (R S e : Nat) (Uo Ul : Nat → Nat) (z1 : Nat), Z.Nodup → z1 ∈ Z → (∀ y, y ∈ Z → L y ≤ L z1) → R ≤ 58 → S ≤ 12 → e ≤ 4 → lsum (fun z => p z * (a z + t z - 1)) Z ≤ R → (S = 12 ∨ lsum Uo Z + lsum Ul Z ≤ S + Ul z1) → (e = 4 ∨ Ul z1 ≤ e) → (∀ z, z ∈ Z → 1 ≤ p z ∧ 1 ≤ t z ∧ 1 ≤ a z ∧ a z ≤ 2 * t z + 1) → (∀ z, z ∈ Z → lsum (cnt z) Z ≤ a z ∧ L z ≤ t z + lsum (fun y => cnt z y * L y) Z + (a z - lsum (cnt z) Z)) → (∀ z y, z ∈ Z → y ∈ Z → 0 < cnt z y → L y < L z) → (∀ z, z ∈ Z → p z ≤ Uo z + Ul z + lsum (fun q => cnt q z * (p q - 1)) Z) → L z1 ≤ T R S e ∧ ∀ z, z ∈ Z → z ≠ z1 → L z ≤ Y R S e := by
  intro n
  induction n with
  | zero =>
    intro Z hn R S e Uo Ul z1 _ hz
    have : Z = [] := List.length_eq_zero_iff.mp hn
    rw [this] at hz
    exact absurd hz List.not_mem_nil
  | succ n ih =>
    intro Z hn R S e Uo Ul z1 nd hz hmax hR hS he hcost hpool hlast hok hL hdec hun
    obtain ⟨p1, t1, a1, at1⟩ := hok z1 hz
    obtain ⟨ca, hL1⟩ := hL z1 hz
    have c11 : cnt z1 z1 = 0 := by
      rcases Nat.eq_zero_or_pos (cnt z1 z1) with q | q
      · exact q
      · exact absurd (hdec z1 z1 hz hz q) (Nat.lt_irrefl _)
    have mem : ∀ y, y ∈ Z.erase z1 → y ∈ Z ∧ y ≠ z1 := fun y hy => by
      have := (List.Nodup.mem_erase_iff nd).mp hy
      exact ⟨this.2, this.1⟩
    have nd' : (Z.erase z1).Nodup := List.Nodup.erase z1 nd
    have ln' : (Z.erase z1).length = n := by rw [List.length_erase_of_mem hz, hn]; rfl
    -- nobody points at the largest
    have un1 : p z1 ≤ Uo z1 + Ul z1 := by
      have q := hun z1 hz
      have e0 : lsum (fun q => cnt q z1 * (p q - 1)) Z = 0 := by
        have : lsum (fun q => cnt q z1 * (p q - 1)) Z ≤ lsum (fun q => 0 * 0) Z := lsum_le (fun y hy => by
          have : cnt y z1 = 0 := by
            rcases Nat.eq_zero_or_pos (cnt y z1) with w | w
            · exact w
            · have := hdec y z1 hy hz w
              have := hmax y hy
              omega
          rw [this]; omega)
        rw [lsum_mul] at this
        omega
      omega
    have eO := lsum_er (g := Uo) hz
    have eU := lsum_er (g := Ul) hz
    have eC := lsum_er (g := fun z => p z * (a z + t z - 1)) hz
    have eN := lsum_er (g := cnt z1) hz
    have eL := lsum_er (g := fun y => cnt z1 y * L y) hz
    have lm : uLm S e (p z1) := by
      unfold uLm
      rcases hpool with q | q
      · exact Or.inl q
      · rcases hlast with w | w
        · exact Or.inr (Or.inl w)
        · exact Or.inr (Or.inr (by omega))
    have hk : p z1 * (a z1 + t z1 - 1) ≤ R := by omega
    have ln := h.lin R S e hR hS he (by unfold uLm at lm; omega)
    by_cases em : Z.erase z1 = []
    · rw [em] at eN eL
      simp only [lsum] at eN eL
      have b := mul_sub1 p1 hk
      rw [c11] at eL eN
      refine ⟨by omega, fun z hz' hne => ?_⟩
      have : z ∈ Z.erase z1 := (List.Nodup.mem_erase_iff nd).mpr ⟨hne, hz'⟩
      rw [em] at this
      exact absurd this List.not_mem_nil
    · obtain ⟨z2, z21, z22⟩ := ex_max (L := L) em
      have c2 : cnt z1 z2 ≤ a z1 := by
        have := lsum_er (g := cnt z1) z21
        omega
      have ep := lsum_er (g := fun z => cnt z1 z * (p z1 - 1)) z21
      have em2 := lsum_mul (g := cnt z1) (k := p z1 - 1) (l := Z.erase z1)
      have cN : lsum (cnt z1) (Z.erase z1) ≤ a z1 := by omega
      -- the pool behind it
      have pool' : uS2 S e (p z1) (a z1) (cnt z1 z2) = 12 ∨ lsum (fun z => Uo z + Ul z) (Z.erase z1) + lsum (fun z => cnt z1 z * (p z1 - 1)) (Z.erase z1) ≤ uS2 S e (p z1) (a z1) (cnt z1 z2) + cnt z1 z2 * (p z1 - 1) := by
        by_cases q12 : uS2 S e (p z1) (a z1) (cnt z1 z2) = 12
        · exact Or.inl q12
        · right
          have s12 : S ≠ 12 := fun q => by
            unfold uS2 uS1 at q12
            rw [if_pos q] at q12
            omega
          have hp' : lsum Uo Z + lsum Ul Z ≤ S + Ul z1 := by
            rcases hpool with q | q
            · exact absurd q s12
            · exact q
          have v1 : uS2 S e (p z1) (a z1) (cnt z1 z2) = uS1 S e (p z1) + (a z1 - cnt z1 z2) * (p z1 - 1) := by
            unfold uS2 at q12 ⊢
            omega
          have v2 : lsum (fun z => Uo z + Ul z) (Z.erase z1) ≤ uS1 S e (p z1) := by
            rw [lsum_add]
            unfold uS1
            rw [if_neg s12]
            by_cases q4 : e = 4
            · rw [if_pos q4]; omega
            · rw [if_neg q4]
              have : Ul z1 ≤ e := by
                rcases hlast with w | w
                · exact absurd w q4
                · exact w
              omega
          have v3 : lsum (fun z => cnt z1 z * (p z1 - 1)) (Z.erase z1) ≤ (a z1 - cnt z1 z2) * (p z1 - 1) + cnt z1 z2 * (p z1 - 1) := by
            rw [em2, ← Nat.add_mul]
            exact Nat.mul_le_mul_right _ (by omega)
          omega
      obtain ⟨r1, r2⟩ := ih (Z.erase z1) ln' (R - p z1 * (a z1 + t z1 - 1)) (uS2 S e (p z1) (a z1) (cnt z1 z2)) (uE2 (p z1) (cnt z1 z2)) (fun z => Uo z + Ul z) (fun z => cnt z1 z * (p z1 - 1)) z2 nd' z21 z22 (by omega) (by unfold uS2; omega) (by unfold uE2; omega) (by omega) pool' (by unfold uE2; omega) (fun z hz' => hok z (mem z hz').1) (fun z hz' => by
        obtain ⟨w1, w2⟩ := hL z (mem z hz').1
        have c0 : cnt z z1 = 0 := by
          rcases Nat.eq_zero_or_pos (cnt z z1) with q | q
          · exact q
          · have := hdec z z1 (mem z hz').1 hz q
            have := hmax z (mem z hz').1
            omega
        have f1 := lsum_er (g := cnt z) hz
        have f2 := lsum_er (g := fun y => cnt z y * L y) hz
        rw [c0] at f1 f2
        rw [Nat.zero_mul] at f2
        rw [f1] at w1 w2
        rw [f2] at w2
        exact ⟨by omega, by omega⟩) (fun z y hz' hy' => hdec z y (mem z hz').1 (mem y hy').1) (fun z hz' => by
        have q := hun z (mem z hz').1
        have f1 := lsum_er (g := fun q => cnt q z * (p q - 1)) hz
        omega)
      obtain ⟨b1, b2⟩ := Tb_main h hR hS he p1 t1 a1 at1 c2 lm hk
      refine ⟨Nat.le_trans ?_ b1, fun z hz' hne => ?_⟩
      · have f1 := lsum_er (g := cnt z1) z21
        have f2 := lsum_er (g := fun y => cnt z1 y * L y) z21
        have g1 : lsum (fun y => cnt z1 y * L y) ((Z.erase z1).erase z2) ≤ lsum (fun y => cnt z1 y * Y (R - p z1 * (a z1 + t z1 - 1)) (uS2 S e (p z1) (a z1) (cnt z1 z2)) (uE2 (p z1) (cnt z1 z2))) ((Z.erase z1).erase z2) := lsum_le (fun y hy => by
          have := (List.Nodup.mem_erase_iff nd').mp hy
          exact Nat.mul_le_mul_left _ (r2 y this.2 this.1))
        rw [lsum_mul] at g1
        have o := (h.one (R - p z1 * (a z1 + t z1 - 1)) (uS2 S e (p z1) (a z1) (cnt z1 z2)) (uE2 (p z1) (cnt z1 z2))).2
        generalize Y (R - p z1 * (a z1 + t z1 - 1)) (uS2 S e (p z1) (a z1) (cnt z1 z2)) (uE2 (p z1) (cnt z1 z2)) = y0 at *
        generalize T (R - p z1 * (a z1 + t z1 - 1)) (uS2 S e (p z1) (a z1) (cnt z1 z2)) (uE2 (p z1) (cnt z1 z2)) = x0 at *
        have g2 : cnt z1 z2 * L z2 ≤ cnt z1 z2 * x0 := Nat.mul_le_mul_left _ r1
        generalize hN : lsum (cnt z1) ((Z.erase z1).erase z2) = N at *
        have g3 : (a z1 - cnt z1 z2) * y0 = N * y0 + (a z1 - cnt z1 z2 - N) * y0 := by
          rw [← Nat.add_mul]
          congr 1
          omega
        have g4 : a z1 - cnt z1 z2 - N ≤ (a z1 - cnt z1 z2 - N) * y0 := Nat.le_mul_of_pos_right _ o
        rw [c11] at eL eN
        omega
      · have : z ∈ Z.erase z1 := (List.Nodup.mem_erase_iff nd).mpr ⟨hne, hz'⟩
        exact Nat.le_trans (z22 z this) (Nat.le_trans r1 b2)
end UA
