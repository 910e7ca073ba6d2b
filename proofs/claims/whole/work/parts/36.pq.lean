/-! ===== terms put together; GREATER moved from row to row ===== -/
theorem ts_cons {P f : Int → Int} {i : Int} {p m n : Nat} (h1 : tm P f i m) (h2 : ts P f (i + m) p n) : ts P f i (p + 1) (m + n) := by
  have e := h1.1
  refine ⟨?_, fun k hk => ?_⟩
  · have := nd_shift (P := P) (f := f) (i := i) (m := m) n
    have q := h2.1
    omega
  · rcases (by omega : k < m ∨ m ≤ k) with c | c
    · have := h1.2 k c
      exact ⟨by omega, this.2⟩
    · have s := nd_shift (P := P) (f := f) (i := i) (m := m) (k - m)
      have q := h2.2 (k - m) (by omega)
      have e1 : m + (k - m) = k := by omega
      rw [e1] at s
      have e2 : i + (m : Int) + ((k - m : Nat) : Int) = i + k := by omega
      rw [e2] at q
      exact ⟨by omega, q.2⟩
theorem tm_cons {P f : Int → Int} {i : Int} {n : Nat} (h0 : 0 ≤ f i) (h1 : f i < 16) (hP : pok P) (h2 : ts P f (i + 1) (P (f i)).toNat n) : tm P f i (1 + n) := by
  have hp := hP _ h0 h1
  have e0 : i + ((0 : Nat) : Int) = i := by omega
  have n1 : nd P f i 1 = P (f i) := by
    simp only [nd]
    rw [e0, if_neg (by omega)]
    omega
  refine ⟨?_, fun k hk => ?_⟩
  · have := nd_shift (P := P) (f := f) (i := i) (m := 1) n
    have e : i + ((1 : Nat) : Int) = i + 1 := by omega
    rw [e] at this
    have q := h2.1
    omega
  · rcases (by omega : k = 0 ∨ 1 ≤ k) with c | c
    · subst c
      rw [e0]
      exact ⟨by simp [nd], h1⟩
    · have s := nd_shift (P := P) (f := f) (i := i) (m := 1) (k - 1)
      have q := h2.2 (k - 1) (by omega)
      have e1 : 1 + (k - 1) = k := by omega
      rw [e1] at s
      have e2 : i + 1 + ((k - 1 : Nat) : Int) = i + k := by omega
      rw [e2] at q
      have e : i + ((1 : Nat) : Int) = i + 1 := by omega
      rw [e] at s
      exact ⟨by omega, q.2⟩
theorem ts_nil {P f : Int → Int} {i : Int} : ts P f i 0 0 := ⟨by simp [nd], fun k hk => by omega⟩
theorem tm_l1 {P f : Int → Int} {i : Int} (h : f i < 0) : tm P f i 1 := by
  have e0 : i + ((0 : Nat) : Int) = i := by omega
  refine ⟨?_, fun k hk => ?_⟩
  · simp only [nd]; rw [e0, if_pos h]; omega
  · have : k = 0 := by omega
    subst this
    rw [e0]
    exact ⟨by simp [nd], by omega⟩
theorem ts_congr {P f g : Int → Int} {i j : Int} {p n : Nat} (ht : ts P f i p n) (h : ∀ k : Nat, k < n → f (i + k) = g (j + k)) : ts P g j p n :=
  ⟨by rw [← nd_congr n h]; exact ht.1, fun k hk => by rw [← nd_congr k (fun x hx => h x (by omega)), ← h k hk]; exact ht.2 k hk⟩
/-- where the rows of parts are alike, no part is unlike -/
theorem fdc_alike {P f g : Int → Int} (hP : pok P) : ∀ (p : Nat) (x y : Int) (nx : Nat), ts P f x p nx → lk f x g y nx → fdc P f g p x y = none
  | 0, _, _, _, _, _ => rfl
  | p + 1, x, y, nx, hx, hl => by
    obtain ⟨m, c1, c2, tx, sx⟩ := ts_succ hP hx
    have ty : tm P g y m := tm_congr tx (fun k hk => hl k (by omega))
    have e1 := tl_eq tx
    have e2 := tl_eq ty
    rw [fdc_yes (by rw [e1]; exact fun k hk => hl k (by omega)), e1, e2]
    refine fdc_alike hP p _ _ _ sx (fun k hk => ?_)
    have := hl (m + k) (by omega)
    have q1 : x + ((m + k : Nat) : Int) = x + m + k := by omega
    have q2 : y + ((m + k : Nat) : Int) = y + m + k := by omega
    rw [q1, q2] at this
    exact this
/-- nothing is GREATER than its like -/
theorem kg_alike {P W f g : Int → Int} {x y : Int} {t : Nat} (hP : pok P) (ht : tm P f x t) (h : lk f x g y t) : ∀ N : Nat, ¬ kg P W f g N x y
  | 0 => id
  | N + 1 => by
    rintro ⟨_, h2⟩
    have ty : tm P g y t := tm_congr ht h
    have e1 := tl_eq ht
    have e2 := tl_eq ty
    rw [e1, e2] at h2
    have ew : wt W g y t = wt W f x t := (wt_congr t h).symm
    have e0 := h 0 (nd_ge ht)
    have q1 : x + ((0 : Nat) : Int) = x := by omega
    have q2 : y + ((0 : Nat) : Int) = y := by omega
    rw [q1, q2] at e0
    rcases h2 with c | ⟨_, c1, c2, c | ⟨_, q, c4, _⟩⟩
    · omega
    · omega
    · have tp := tm_parts hP ht c1
      rw [fdc_alike hP _ _ _ _ tp (fun k hk => by
        have := h (1 + k) (by omega)
        have q1 : x + ((1 + k : Nat) : Int) = x + 1 + k := by omega
        have q2 : y + ((1 + k : Nat) : Int) = y + 1 + k := by omega
        rw [q1, q2] at this
        exact this)] at c4
      exact absurd c4 (by simp)
/-- the first unlike parts, moved -/
theorem fdc_move {P f g f' g' : Int → Int} (hP : pok P) : ∀ (p : Nat) (x y x' y' : Int) (nx ny : Nat), ts P f x p nx → ts P g y p ny → lk f x f' x' nx → lk g y g' y' ny →
    (fdc P f g p x y = none ∧ fdc P f' g' p x' y' = none) ∨ ∃ a b mx my : Nat, fdc P f g p x y = some (x + a, y + b) ∧ fdc P f' g' p x' y' = some (x' + a, y' + b) ∧ tm P f (x + a) mx ∧ a + mx ≤ nx ∧ tm P g (y + b) my ∧ b + my ≤ ny
  | 0, _, _, _, _, _, _, _, _, _, _ => Or.inl ⟨rfl, rfl⟩
  | p + 1, x, y, x', y', nx, ny, hx, hy, lx, ly => by
    obtain ⟨m, c1, c2, tx, sx⟩ := ts_succ hP hx
    obtain ⟨m2, d1, d2, ty, sy⟩ := ts_succ hP hy
    have tx' : tm P f' x' m := tm_congr tx (fun k hk => lx k (by omega))
    have ty' : tm P g' y' m2 := tm_congr ty (fun k hk => ly k (by omega))
    have e1 := tl_eq tx
    have e2 := tl_eq ty
    have e3 := tl_eq tx'
    have e4 := tl_eq ty'
    by_cases hl : lk f x g y m
    · have em : m = m2 := tm_uniq (tm_congr tx hl) ty
      subst em
      have hl' : lk f' x' g' y' m := fun k hk => by rw [← lx k (by omega), ← ly k (by omega)]; exact hl k hk
      rw [fdc_yes (by rw [e1]; exact hl), fdc_yes (by rw [e3]; exact hl'), e1, e2, e3, e4]
      rcases fdc_move hP p (x + m) (y + m) (x' + m) (y' + m) _ _ sx sy (fun k hk => by
        have := lx (m + k) (by omega)
        have q1 : x + ((m + k : Nat) : Int) = x + m + k := by omega
        have q2 : x' + ((m + k : Nat) : Int) = x' + m + k := by omega
        rw [q1, q2] at this
        exact this) (fun k hk => by
        have := ly (m + k) (by omega)
        have q1 : y + ((m + k : Nat) : Int) = y + m + k := by omega
        have q2 : y' + ((m + k : Nat) : Int) = y' + m + k := by omega
        rw [q1, q2] at this
        exact this) with h | ⟨a, b, mx, my, h1, h2, h3, h4, h5, h6⟩
      · exact Or.inl h
      · have z1 : x + (m : Int) + a = x + ((m + a : Nat) : Int) := by omega
        have z2 : y + (m : Int) + b = y + ((m + b : Nat) : Int) := by omega
        have z3 : x' + (m : Int) + a = x' + ((m + a : Nat) : Int) := by omega
        have z4 : y' + (m : Int) + b = y' + ((m + b : Nat) : Int) := by omega
        rw [z1, z2] at h1
        rw [z3, z4] at h2
        rw [z1] at h3
        rw [z2] at h5
        exact Or.inr ⟨m + a, m + b, mx, my, h1, h2, h3, by omega, h5, by omega⟩
    · have hl' : ¬ lk f' x' g' y' m := fun q => hl (fun k hk => by
        rw [lx k (by omega), q k hk]
        rcases (by omega : k < m2 ∨ m2 ≤ k) with z | z
        · exact (ly k (by omega)).symm
        · exfalso
          have : tm P g' y' m := tm_congr tx' q
          have := tm_uniq this ty'
          omega)
      rw [fdc_no (by rw [e1]; exact hl), fdc_no (by rw [e3]; exact hl')]
      refine Or.inr ⟨0, 0, m, m2, by simp, by simp, by simpa using tx, by omega, by simpa using ty, by omega⟩
theorem kg_move {P W f g f' g' : Int → Int} (hP : pok P) : ∀ (N : Nat) (x y x' y' : Int) (t u : Nat), tm P f x t → tm P g y u → lk f x f' x' t → lk g y g' y' u → kg P W f g N x y → kg P W f' g' N x' y'
  | 0, _, _, _, _, _, _, _, _, _, _, h => h
  | N + 1, x, y, x', y', t, u, tx, ty, lx, ly, h => by
    have tx' : tm P f' x' t := tm_congr tx lx
    have ty' : tm P g' y' u := tm_congr ty ly
    have e1 := tl_eq tx
    have e2 := tl_eq ty
    have e3 := tl_eq tx'
    have e4 := tl_eq ty'
    obtain ⟨h1, h2⟩ := h
    rw [e1, e2] at h1 h2
    have p1 := lx 0 (nd_ge tx)
    have p2 := ly 0 (nd_ge ty)
    have z0 : ∀ q : Int, q + ((0 : Nat) : Int) = q := fun q => by omega
    rw [z0, z0] at p1 p2
    refine ⟨?_, ?_⟩
    · rw [e3, e4]
      intro L l1 l2
      rw [← oc_congr u ly, ← oc_congr t lx]
      exact h1 L l1 l2
    · rw [e3, e4, ← wt_congr u ly, ← wt_congr t lx, ← p1, ← p2]
      rcases h2 with c | ⟨c0, c1, c2, c | ⟨c3, q, c4, c5⟩⟩
      · exact Or.inl c
      · exact Or.inr ⟨c0, c1, c2, Or.inl c⟩
      · refine Or.inr ⟨c0, c1, c2, Or.inr ⟨c3, ?_⟩⟩
        have sx := tm_parts hP tx c1
        have sy := tm_parts hP ty c2
        rw [← c3] at sy
        rcases fdc_move hP _ _ _ (x' + 1) (y' + 1) _ _ sx sy (fun k hk => by
          have := lx (1 + k) (by omega)
          have q1 : x + ((1 + k : Nat) : Int) = x + 1 + k := by omega
          have q2 : x' + ((1 + k : Nat) : Int) = x' + 1 + k := by omega
          rw [q1, q2] at this
          exact this) (fun k hk => by
          have := ly (1 + k) (by omega)
          have q1 : y + ((1 + k : Nat) : Int) = y + 1 + k := by omega
          have q2 : y' + ((1 + k : Nat) : Int) = y' + 1 + k := by omega
          rw [q1, q2] at this
          exact this) with h | ⟨a, b, mx, my, h1, h2, h3, h4, h5, h6⟩
        · rw [h.1] at c4; exact absurd c4 (by simp)
        · rw [h1] at c4
          have eq : q = (x + 1 + a, y + 1 + b) := by simpa using c4.symm
          subst eq
          refine ⟨_, h2, kg_move hP N _ _ _ _ mx my h3 h5 (fun k hk => ?_) (fun k hk => ?_) c5⟩
          · have := lx (1 + a + k) (by omega)
            have q1 : x + ((1 + a + k : Nat) : Int) = x + 1 + a + k := by omega
            have q2 : x' + ((1 + a + k : Nat) : Int) = x' + 1 + a + k := by omega
            rw [q1, q2] at this
            exact this
          · have := ly (1 + b + k) (by omega)
            have q1 : y + ((1 + b + k : Nat) : Int) = y + 1 + b + k := by omega
            have q2 : y' + ((1 + b + k : Nat) : Int) = y' + 1 + b + k := by omega
            rw [q1, q2] at this
            exact this
theorem kg_iff {P W f g f' g' : Int → Int} (hP : pok P) {N : Nat} {x y x' y' : Int} {t u : Nat} (tx : tm P f x t) (ty : tm P g y u) (lx : lk f x f' x' t) (ly : lk g y g' y' u) : kg P W f g N x y ↔ kg P W f' g' N x' y' :=
  ⟨kg_move hP N _ _ _ _ t u tx ty lx ly, kg_move hP N _ _ _ _ t u (tm_congr tx lx) (tm_congr ty ly) (lk_sym lx) (lk_sym ly)⟩
section PQ
variable {d : List Nat} {G : Nat → Int → Option Nat} {E : Nat → Int → Int}
/-- compare, where only GREATER is asked for -/
theorem compare_gr {a b n m N : Nat} {i j : Int} {t u : Nat} (hX : zK zXt d G) (ha : a ∈ d) (hk : zkd a = (0, n)) (hb : b ∈ d) (hkb : zkd b = (0, m)) (hP : pok (E 3)) (hW : wok (E 4)) (hn2 : n ≤ 100000) (hm2 : m ≤ 100000) (ha1 : a ≠ 18) (ha2 : a ≠ 19) (hb1 : b ≠ 18) (hb2 : b ≠ 19) (hN : t ≤ N) (hN2 : N ≤ 900000) (h19 : ∀ L : Int, 0 ≤ L → L < 40 → E 19 L = 0) (ht : tm (E 3) (E a) i t) (hu : tm (E 3) (E b) j u) (h0 : 0 ≤ i) (hn : i + t ≤ n) (h1 : 0 ≤ j) (hm : j + u ≤ m) (hla : ∀ k : Nat, k < t → -40 ≤ E a (i + k)) (hlb : ∀ k : Nat, k < u → -40 ≤ E b (j + k)) :
    ∃ (r : Int) (E' : Nat → Int → Int), zM zm_X6_compare [zR 18, zR a, zI i, zR b, zI j] (d, G, E) (some (zI r)) (d, G, E') ∧ fz [18, 19] E E' ∧ (∀ L : Int, 0 ≤ L → L < 40 → E' 19 L = 0) ∧ (r = 1 ↔ kg (E 3) (E 4) (E a) (E b) N i j) := by
  obtain ⟨r, E', m1, m2, m3, m4, m5⟩ := compare_ok (E := E) hX ha hk hb hkb hP hW hn2 hm2 ha1 ha2 hb1 hb2 hN hN2 h19 ht hu h0 hn h1 hm hla hlb
  refine ⟨r, E', m1, m2, m3, ?_⟩
  by_cases hl : lk (E a) i (E b) j t
  · have := m4 hl
    exact ⟨fun c => by omega, fun c => absurd c (kg_alike hP ht hl N)⟩
  · have := (m5 hl).1
    simpa using this
end PQ
