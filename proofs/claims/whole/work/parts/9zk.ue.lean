/-! ===== the bound: trees as rows of places ===== -/
/-- the k-th part of the place x, by lengths -/
def uch (sz : Nat → Nat) (x : Nat) : Nat → Nat
  | 0 => x + 1
  | k + 1 => uch sz x k + sz (uch sz x k)
/-- two trees one behind the other -/
def uT (N n1 : Nat) (ar sz : Nat → Nat) : Prop := (∀ x, 1 ≤ sz x) ∧ (∀ x, x < N → x + sz x ≤ N ∧ uch sz x (ar x) = x + sz x ∧ ar x ≤ 3) ∧ 0 < n1 ∧ n1 < N ∧ sz 0 = n1 ∧ n1 + sz n1 = N
section UE
variable {N n1 : Nat} {ar sz : Nat → Nat}
theorem uch_gt {x : Nat} : ∀ {k : Nat}, x < (uch sz) x k
  | 0 => Nat.lt_succ_self x
  | k + 1 => Nat.lt_of_lt_of_le (uch_gt (k := k)) (Nat.le_add_right _ _)
theorem uch_s (h : uT N n1 ar sz) {x k : Nat} : (uch sz) x k < (uch sz) x (k + 1) := by
  have := h.1 ((uch sz) x k)
  show (uch sz) x k < (uch sz) x k + sz ((uch sz) x k)
  omega
theorem uch_lt (h : uT N n1 ar sz) {x k : Nat} : ∀ {j : Nat}, k < j → (uch sz) x k < (uch sz) x j
  | 0, hj => absurd hj (Nat.not_lt_zero _)
  | j + 1, hj => by
    have := uch_s h (x := x) (k := j)
    rcases Nat.lt_or_ge k j with q | q
    · have := uch_lt h (x := x) q
      omega
    · rw [show k = j by omega]; exact this
theorem uch_le (h : uT N n1 ar sz) {x k j : Nat} (hj : k ≤ j) : (uch sz) x k ≤ (uch sz) x j := by
  rcases Nat.lt_or_ge k j with q | q
  · exact Nat.le_of_lt (uch_lt h q)
  · rw [show k = j by omega]; exact Nat.le_refl _
theorem uch_in (h : uT N n1 ar sz) {x k : Nat} (hx : x < N) (hk : k < ar x) : (uch sz) x k < x + sz x ∧ (uch sz) x k < N ∧ (uch sz) x k + sz ((uch sz) x k) ≤ x + sz x := by
  obtain ⟨a, b, c⟩ := h.2.1 x hx
  have q1 := uch_lt h (x := x) hk
  have q2 : (uch sz) x (k + 1) ≤ (uch sz) x (ar x) := uch_le h hk
  have q3 : (uch sz) x (k + 1) = (uch sz) x k + sz ((uch sz) x k) := rfl
  rw [b] at q1 q2
  exact ⟨q1, by omega, by omega⟩
theorem uch_find {x z : Nat} (hz : x < z) : ∀ {n : Nat}, z < (uch sz) x n → ∃ k, k < n ∧ (uch sz) x k ≤ z ∧ z < (uch sz) x (k + 1)
  | 0, hn => by
    have : (uch sz) x 0 = x + 1 := rfl
    omega
  | n + 1, hn => by
    rcases Nat.lt_or_ge z ((uch sz) x n) with q | q
    · obtain ⟨k, k1, k2, k3⟩ := uch_find hz q
      exact ⟨k, by omega, k2, k3⟩
    · exact ⟨n, Nat.lt_succ_self n, q, hn⟩
theorem uch_at (h : uT N n1 ar sz) {x z : Nat} (hx : x < N) (h1 : x < z) (h2 : z < x + sz x) : ∃ k, k < ar x ∧ (uch sz) x k ≤ z ∧ z < (uch sz) x k + sz ((uch sz) x k) := uch_find h1 (by rw [(h.2.1 x hx).2.1]; exact h2)
/-- one inside the other or apart -/
theorem uch_lam (h : uT N n1 ar sz) : ∀ (m x y : Nat), sz x ≤ m → x < N → x ≤ y → y < x + sz x → y + sz y ≤ x + sz x
  | 0, x, y, hm, _, _, _ => by
    have := h.1 x
    omega
  | m + 1, x, y, hm, hx, h1, h2 => by
    rcases Nat.lt_or_ge x y with q | q
    · obtain ⟨k, k1, k2, k3⟩ := uch_at h hx q h2
      obtain ⟨i1, i2, i3⟩ := uch_in h hx k1
      have g := uch_gt (sz := sz) (x := x) (k := k)
      have := uch_lam h m ((uch sz) x k) y (by omega) i2 k2 k3
      omega
    · rw [show y = x by omega]; exact Nat.le_refl _
theorem uch_par (h : uT N n1 ar sz) : ∀ (m x z : Nat), sz x ≤ m → x < N → x < z → z < x + sz x → ∃ y k, y < N ∧ k < ar y ∧ (uch sz) y k = z
  | 0, x, y, hm, _, _, _ => by
    have := h.1 x
    omega
  | m + 1, x, z, hm, hx, h1, h2 => by
    obtain ⟨k, k1, k2, k3⟩ := uch_at h hx h1 h2
    obtain ⟨i1, i2, i3⟩ := uch_in h hx k1
    have g := uch_gt (sz := sz) (x := x) (k := k)
    rcases Nat.lt_or_ge ((uch sz) x k) z with q | q
    · exact uch_par h m ((uch sz) x k) z (by omega) i2 q k3
    · exact ⟨x, k, hx, k1, by omega⟩
theorem uch_inj0 (h : uT N n1 ar sz) {x y k j : Nat} (hx : x < N) (hy : y < N) (hk : k < ar x) (hj : j < ar y) (e : (uch sz) x k = (uch sz) y j) : ¬ x < y := fun c => by
  obtain ⟨i1, i2, i3⟩ := uch_in h hx hk
  obtain ⟨j1, j2, j3⟩ := uch_in h hy hj
  have g := uch_gt (sz := sz) (x := y) (k := j)
  obtain ⟨i, i4, i5, i6⟩ := uch_at h hx c (by omega)
  obtain ⟨_, l2, _⟩ := uch_in h hx i4
  have lam := uch_lam h _ _ y (Nat.le_refl _) l2 i5 i6
  have e1 : (uch sz) x (i + 1) = (uch sz) x i + sz ((uch sz) x i) := rfl
  rcases Nat.lt_trichotomy k i with q | q | q
  · have := uch_lt h (x := x) q
    omega
  · subst q
    omega
  · have := uch_le h (x := x) (show i + 1 ≤ k from q)
    omega
theorem uch_inj (h : uT N n1 ar sz) {x y k j : Nat} (hx : x < N) (hy : y < N) (hk : k < ar x) (hj : j < ar y) (e : (uch sz) x k = (uch sz) y j) : x = y ∧ k = j := by
  have a := uch_inj0 h hx hy hk hj e
  have b := uch_inj0 h hy hx hj hk e.symm
  have c : x = y := by omega
  subst c
  refine ⟨rfl, ?_⟩
  rcases Nat.lt_trichotomy k j with q | q | q
  · have := uch_lt h (x := x) q
    omega
  · exact q
  · have := uch_lt h (x := x) q
    omega
theorem uch_root (h : uT N n1 ar sz) {x k : Nat} (hx : x < N) (hk : k < ar x) : (uch sz) x k ≠ 0 ∧ (uch sz) x k ≠ n1 := by
  have g := uch_gt (sz := sz) (x := x) (k := k)
  obtain ⟨i1, i2, i3⟩ := uch_in h hx hk
  obtain ⟨_, _, r1, r2, r3, r4⟩ := h
  refine ⟨by omega, fun e => ?_⟩
  rcases Nat.lt_or_ge x n1 with q | q
  · have := uch_lam ⟨‹_›, ‹_›, r1, r2, r3, r4⟩ _ 0 x (Nat.le_refl _) (by omega) (Nat.zero_le _) (by omega)
    omega
  · omega
theorem uch_nr (h : uT N n1 ar sz) {z : Nat} (hz : z < N) (z0 : z ≠ 0) (z1 : z ≠ n1) : ∃ y k, y < N ∧ k < ar y ∧ (uch sz) y k = z := by
  have h' := h
  obtain ⟨_, _, r1, r2, r3, r4⟩ := h'
  rcases Nat.lt_or_ge z n1 with q | q
  · exact uch_par h _ 0 z (Nat.le_refl _) (by omega) (by omega) (by omega)
  · exact uch_par h _ n1 z (Nat.le_refl _) r2 (by omega) (by omega)
end UE
/-! ===== sums ===== -/
def usum (g : Nat → Nat) : Nat → Nat
  | 0 => 0
  | n + 1 => usum g n + g n
theorem usum_le {g g' : Nat → Nat} : ∀ {n : Nat}, (∀ k, k < n → g k ≤ g' k) → usum g n ≤ usum g' n
  | 0, _ => Nat.le_refl _
  | n + 1, h => Nat.add_le_add (usum_le (fun k hk => h k (by omega))) (h n (by omega))
theorem usum_eq {g g' : Nat → Nat} {n : Nat} (h : ∀ k, k < n → g k = g' k) : usum g n = usum g' n := Nat.le_antisymm (usum_le (fun k hk => Nat.le_of_eq (h k hk))) (usum_le (fun k hk => Nat.le_of_eq (h k hk).symm))
theorem usum_add {g g' : Nat → Nat} : ∀ {n : Nat}, usum (fun k => g k + g' k) n = usum g n + usum g' n
  | 0 => rfl
  | n + 1 => by
    simp only [usum]
    rw [usum_add]; omega
theorem usum_mul {g : Nat → Nat} {c : Nat} : ∀ {n : Nat}, usum (fun k => g k * c) n = usum g n * c
  | 0 => by simp [usum]
  | n + 1 => by
    simp only [usum]
    rw [usum_mul, Nat.add_mul]
theorem usum_ge {g : Nat → Nat} {k : Nat} : ∀ {n : Nat}, k < n → g k ≤ usum g n
  | 0, h => absurd h (Nat.not_lt_zero _)
  | n + 1, h => by
    simp only [usum]
    rcases Nat.lt_or_ge k n with q | q
    · have := usum_ge (g := g) q
      omega
    · rw [show k = n by omega]; omega
theorem usum_mono {g : Nat → Nat} {m : Nat} : ∀ {n : Nat}, m ≤ n → usum g m ≤ usum g n
  | 0, h => by rw [show m = 0 by omega]; exact Nat.le_refl _
  | n + 1, h => by
    rcases Nat.lt_or_ge n m with q | q
    · rw [show m = n + 1 by omega]; exact Nat.le_refl _
    · have := usum_mono (g := g) q
      simp only [usum]; omega
theorem usum_const {c : Nat} : ∀ {n : Nat}, usum (fun _ => c) n = n * c
  | 0 => by simp [usum]
  | n + 1 => by
    simp only [usum]
    rw [usum_const, Nat.add_mul, Nat.one_mul]
theorem usum_zero {n : Nat} : usum (fun _ => 0) n = 0 := by rw [usum_const]; omega
/-- a sum over a list of sums -/
theorem usum_lsum {g : Nat → Nat → Nat} {n : Nat} : ∀ {l : List Nat}, lsum (fun y => usum (fun k => g k y) n) l = usum (fun k => lsum (g k) l) n
  | [] => by
    simp only [lsum]
    rw [usum_zero]
  | x :: l => by
    simp only [lsum]
    rw [usum_lsum, usum_add]
theorem lsum_swap {g : Nat → Nat → Nat} {m : List Nat} : ∀ {l : List Nat}, lsum (fun y => lsum (fun w => g w y) m) l = lsum (fun w => lsum (g w) l) m
  | [] => by
    simp only [lsum]
    have : ∀ {m : List Nat}, lsum (fun _ => 0) m = 0 := fun {m} => by
      induction m with
      | nil => rfl
      | cons x m ih => simp only [lsum]; rw [ih]
    rw [this]
  | x :: l => by
    simp only [lsum]
    rw [lsum_swap, lsum_add]
/-- one or none -/
noncomputable def uid (p : Prop) : Nat := @ite _ p (Classical.propDecidable _) 1 0
theorem uid_t {p : Prop} (h : p) : uid p = 1 := if_pos h
theorem uid_f {p : Prop} (h : ¬ p) : uid p = 0 := if_neg h
theorem uid_1 {p : Prop} : uid p ≤ 1 := by
  by_cases h : p
  · rw [uid_t h]; exact Nat.le_refl _
  · rw [uid_f h]; omega
theorem uid_m {p q : Prop} (h : p → q) : uid p ≤ uid q := by
  by_cases hp : p
  · rw [uid_t hp, uid_t (h hp)]; exact Nat.le_refl _
  · rw [uid_f hp]; omega
theorem uid_e {p q : Prop} (h : p ↔ q) : uid p = uid q := Nat.le_antisymm (uid_m h.1) (uid_m h.2)
theorem uid_p {p : Prop} (h : 0 < uid p) : p := Classical.byContradiction fun c => by rw [uid_f c] at h; omega
theorem lsum_c {g : Nat → Nat} {c : Nat} : ∀ {l : List Nat}, (∀ x, x ∈ l → g x ≤ c) → lsum g l ≤ c * l.length
  | [], _ => Nat.zero_le _
  | x :: l, h => by
    have a := lsum_c (g := g) (c := c) (l := l) (fun y hy => h y (List.mem_cons_of_mem _ hy))
    have b := h x List.mem_cons_self
    simp only [lsum, List.length_cons]
    rw [Nat.mul_add, Nat.mul_one]; omega
theorem lsum_len : ∀ {l : List Nat}, lsum (fun _ => 1) l = l.length
  | [] => rfl
  | x :: l => by
    simp only [lsum, List.length_cons]
    rw [lsum_len]; omega
theorem lsum_map {g f : Nat → Nat} : ∀ {l : List Nat}, lsum g (l.map f) = lsum (fun x => g (f x)) l
  | [] => rfl
  | x :: l => by
    simp only [List.map_cons, lsum]
    rw [lsum_map]
theorem lsum_app {g : Nat → Nat} : ∀ {l m : List Nat}, lsum g (l ++ m) = lsum g l + lsum g m
  | [], m => by simp [lsum]
  | x :: l, m => by
    simp only [List.cons_append, lsum]
    rw [lsum_app]; omega
theorem lsum_flat {g : Nat → Nat} {F : Nat → List Nat} : ∀ {l : List Nat}, lsum g (l.flatMap F) = lsum (fun q => lsum g (F q)) l
  | [] => rfl
  | x :: l => by
    rw [List.flatMap_cons, lsum_app, lsum_flat]
    rfl
theorem lsum_ge {g : Nat → Nat} {x : Nat} {l : List Nat} (h : x ∈ l) : g x ≤ lsum g l := by
  rw [lsum_er h]; omega
/-- names of a list, each once, among those of another -/
theorem lsum_sub {g : Nat → Nat} : ∀ {l m : List Nat}, l.Nodup → (∀ x, x ∈ l → x ∈ m) → lsum g l ≤ lsum g m
  | [], m, _, _ => Nat.zero_le _
  | x :: l, m, hn, hs => by
    have hn' := List.nodup_cons.mp hn
    rw [lsum_er (g := g) (hs x List.mem_cons_self)]
    refine Nat.add_le_add_left (lsum_sub hn'.2 (fun y hy => ?_)) _
    have : y ≠ x := fun e => hn'.1 (by rw [← e]; exact hy)
    exact (List.mem_erase_of_ne this).mpr (hs y (List.mem_cons_of_mem _ hy))
/-- at most one of a list -/
theorem lsum_uid {p : Nat → Prop} {l : List Nat} (hn : l.Nodup) (h : ∀ x y, x ∈ l → y ∈ l → p x → p y → x = y) : lsum (fun x => uid (p x)) l ≤ 1 := by
  by_cases c : ∃ x, x ∈ l ∧ p x
  · obtain ⟨x, hx, px⟩ := c
    rw [lsum_er hx, uid_t px]
    have : lsum (fun x => uid (p x)) (l.erase x) ≤ 0 * (l.erase x).length := lsum_c (fun y hy => by
      have hy' := (List.Nodup.mem_erase_iff hn).mp hy
      rw [uid_f (fun py => hy'.1 (h y x hy'.2 hx py px))]; exact Nat.le_refl _)
    omega
  · have : lsum (fun x => uid (p x)) l ≤ 0 * l.length := lsum_c (fun y hy => by
      rw [uid_f (fun py => c ⟨y, hy, py⟩)]; exact Nat.le_refl _)
    omega
/-- the places below N of which p holds -/
noncomputable def ufl (N : Nat) (p : Nat → Prop) : List Nat := (List.range N).filter (fun y => @decide (p y) (Classical.propDecidable _))
theorem ufl_mem {N : Nat} {p : Nat → Prop} {x : Nat} : x ∈ ufl N p ↔ x < N ∧ p x := by
  unfold ufl
  rw [List.mem_filter, List.mem_range]
  simp
theorem ufl_nd {N : Nat} {p : Nat → Prop} : (ufl N p).Nodup := List.Pairwise.filter _ List.nodup_range
