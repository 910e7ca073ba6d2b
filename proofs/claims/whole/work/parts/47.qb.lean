/-! ===== what places are under a standing ===== -/
def xcat (g : Int → List Int) : Int → Nat → List Int
  | _, 0 => []
  | i, n + 1 => g i ++ xcat g (i + 1) n
theorem xcat_congr {g h : Int → List Int} : ∀ {n : Nat} {i j : Int}, (∀ k : Nat, k < n → g (i + k) = h (j + k)) → xcat g i n = xcat h j n
  | 0, _, _, _ => rfl
  | n + 1, i, j, e => by
    simp only [xcat]
    have e0 := e 0 (by omega)
    rw [Int.natCast_zero, Int.add_zero, Int.add_zero] at e0
    rw [e0, xcat_congr (n := n) (i := i + 1) (j := j + 1) (fun k hk => by
      have := e (k + 1) (by omega)
      have q1 : i + ((k + 1 : Nat) : Int) = i + 1 + k := by omega
      have q2 : j + ((k + 1 : Nat) : Int) = j + 1 + k := by omega
      rw [q1, q2] at this; exact this)]
theorem xcat_add {g : Int → List Int} : ∀ {n m : Nat} {i : Int}, xcat g i (n + m) = xcat g i n ++ xcat g (i + n) m
  | 0, m, i => by simp [xcat]
  | n + 1, m, i => by
    have e : n + 1 + m = (n + m) + 1 := by omega
    rw [e]
    simp only [xcat]
    rw [xcat_add (n := n), List.append_assoc]
    have q : i + 1 + (n : Int) = i + ((n + 1 : Nat) : Int) := by omega
    rw [q]
/-- something stands for what is at i -/
def bnd (f s : Int → Int) (i : Int) : Prop := f i < 0 ∧ s (-1 - f i) ≠ -1
noncomputable def xp (P f s : Int → Int) : Nat → Int → List Int
  | 0, i => [f i]
  | k + 1, i => @ite _ (bnd f s i) (Classical.propDecidable _) (xcat (xp P f s k) (s (-1 - f i)) (tl P f (s (-1 - f i)))) [f i]
/-- where that rests which is at i -/
noncomputable def rs (f s : Int → Int) : Nat → Int → Int
  | 0, i => i
  | k + 1, i => @ite _ (bnd f s i) (Classical.propDecidable _) (rs f s k (s (-1 - f i))) i
/-- a board with a standing on it that comes to an end -/
def bok (P f s : Int → Int) (N : Int) (rk : Int → Nat) : Prop := ∀ L : Int, 0 ≤ L → L < 40 → s L ≠ -1 → rk L < 40 ∧ 0 ≤ s L ∧ ∃ t : Nat, tm P f (s L) t ∧ s L + t ≤ N ∧ ∀ k : Nat, k < t → -40 ≤ f (s L + k) ∧ (bnd f s (s L + k) → rk (-1 - f (s L + k)) < rk L)
section QB0
variable {P f s : Int → Int} {N : Int} {rk : Int → Nat}
theorem xp_b {k : Nat} {i : Int} (h : bnd f s i) : xp P f s (k + 1) i = xcat (xp P f s k) (s (-1 - f i)) (tl P f (s (-1 - f i))) := by
  simp only [xp]; exact if_pos h
theorem xp_n {k : Nat} {i : Int} (h : ¬ bnd f s i) : xp P f s k i = [f i] := by
  cases k with
  | zero => rfl
  | succ k => simp only [xp]; exact if_neg h
theorem rs_b {k : Nat} {i : Int} (h : bnd f s i) : rs f s (k + 1) i = rs f s k (s (-1 - f i)) := by
  simp only [rs]; exact if_pos h
theorem rs_n {k : Nat} {i : Int} (h : ¬ bnd f s i) : rs f s k i = i := by
  cases k with
  | zero => rfl
  | succ k => simp only [rs]; exact if_neg h
/-- enough is enough -/
theorem xp_st (hb : bok P f s N rk) : ∀ (k m : Nat) (i : Int), -40 ≤ f i → (bnd f s i → rk (-1 - f i) < k) → k ≤ m → xp P f s m i = xp P f s k i
  | 0, m, i, hl, h, hm => by
    have nb : ¬ bnd f s i := fun c => by have := h c; omega
    rw [xp_n nb, xp_n nb]
  | k + 1, m, i, hl, h, hm => by
    by_cases c : bnd f s i
    · obtain ⟨m', rfl⟩ : ∃ m', m = m' + 1 := ⟨m - 1, by omega⟩
      have hr := h c
      have c1 := c.1
      obtain ⟨_, _, t, h3, h4, h5⟩ := hb (-1 - f i) (by omega) (by omega) c.2
      rw [xp_b c, xp_b c, tl_eq h3]
      refine xcat_congr (fun j hj => xp_st hb k m' _ (h5 j hj).1 (fun q => ?_) (by omega))
      have := (h5 j hj).2 q
      omega
    · rw [xp_n c, xp_n c]
noncomputable def xf (P f s : Int → Int) (i : Int) : List Int := xp P f s 40 i
theorem xf_b (hb : bok P f s N rk) {i : Int} (hl : -40 ≤ f i) (h : bnd f s i) : xf P f s i = xcat (xf P f s) (s (-1 - f i)) (tl P f (s (-1 - f i))) := by
  unfold xf
  have c1 := h.1
  obtain ⟨r40, _, t, h3, h4, h5⟩ := hb (-1 - f i) (by omega) (by omega) h.2
  rw [← xp_st hb 40 41 i hl (fun _ => r40) (by omega), xp_b h]
theorem xf_n {i : Int} (h : ¬ bnd f s i) : xf P f s i = [f i] := xp_n h
/-- the chain ends where it rests -/
theorem rs_spec (hb : bok P f s N rk) : ∀ (k : Nat) (i : Int), -40 ≤ f i → (bnd f s i → rk (-1 - f i) < k) → ¬ bnd f s (rs f s k i) ∧ -40 ≤ f (rs f s k i) ∧ (bnd f s i → 0 ≤ rs f s k i ∧ rs f s k i < N ∧ ∃ t : Nat, tm P f (rs f s k i) t ∧ rs f s k i + t ≤ N ∧ (∀ j : Nat, j < t → -40 ≤ f (rs f s k i + j) ∧ (bnd f s (rs f s k i + j) → rk (-1 - f (rs f s k i + j)) < rk (-1 - f i))) ∧ xf P f s i = xcat (xf P f s) (rs f s k i) t)
  | 0, i, hl, h => by
    have nb : ¬ bnd f s i := fun c => by have := h c; omega
    exact ⟨nb, hl, fun c => absurd c nb⟩
  | k + 1, i, hl, h => by
    by_cases c : bnd f s i
    · have c1 := c.1
      have hr := h c
      obtain ⟨r40, s0, t, h3, h4, h5⟩ := hb (-1 - f i) (by omega) (by omega) c.2
      have t0 := nd_ge h3
      rw [rs_b c]
      have e0 : s (-1 - f i) + ((0 : Nat) : Int) = s (-1 - f i) := by omega
      have h50 := h5 0 t0
      rw [e0] at h50
      have ih := rs_spec hb k (s (-1 - f i)) h50.1 (fun q => by have := h50.2 q; omega)
      refine ⟨ih.1, ih.2.1, fun _ => ?_⟩
      have ex := xf_b hb hl c
      by_cases q : bnd f s (s (-1 - f i))
      · obtain ⟨a1, a2, t', a3, a4, a5, a6⟩ := ih.2.2 q
        refine ⟨a1, a2, t', a3, a4, fun j hj => ⟨(a5 j hj).1, fun z => ?_⟩, ?_⟩
        · have z1 := (a5 j hj).2 z
          have z2 := h50.2 q
          omega
        · rw [ex, tl_eq h3, tm_letter h3 q.1]
          simp only [xcat, List.append_nil]
          exact a6
      · rw [rs_n q]
        exact ⟨s0, by omega, t, h3, h4, h5, by rw [ex, tl_eq h3]⟩
    · rw [rs_n c]
      exact ⟨c, hl, fun q => absurd q c⟩
theorem xf_ne (hb : bok P f s N rk) : ∀ (k : Nat) (i : Int), xp P f s k i ≠ [] ∨ ¬ -40 ≤ f i
  | 0, i => Or.inl (by simp [xp])
  | k + 1, i => by
    by_cases c : bnd f s i
    · by_cases hl : -40 ≤ f i
      · left
        have c1 := c.1
        obtain ⟨r40, s0, t, h3, h4, h5⟩ := hb (-1 - f i) (by omega) (by omega) c.2
        rw [xp_b c, tl_eq h3]
        have t0 := nd_ge h3
        obtain ⟨t', rfl⟩ : ∃ t', t = t' + 1 := ⟨t - 1, by omega⟩
        simp only [xcat]
        have e0 : s (-1 - f i) + ((0 : Nat) : Int) = s (-1 - f i) := by omega
        have h50 := h5 0 t0
        rw [e0] at h50
        rcases xf_ne hb k (s (-1 - f i)) with q | q
        · intro e; exact q (List.append_eq_nil_iff.1 e).1
        · exact absurd h50.1 q
      · exact Or.inr hl
    · left; rw [xp_n c]; simp
end QB0
section QB
variable {d : List Nat} {G : Nat → Int → Option Nat} {E : Nat → Int → Int}
/-- the class's board is in order -/
def stB (E : Nat → Int → Int) (rk : Int → Nat) : Prop := bok (E 3) (E 21) (E 22) 360 rk
theorem resting_ok {i : Int} {rk : Int → Nat} (hX : zK zXt d G) (hb : stB E rk) (h0 : 0 ≤ i) (h1 : i < 360) (hl : -40 ≤ E 21 i) : zM zm_X9_resting [zR 20, zI i] (d, G, E) (some (zI (rs (E 21) (E 22) 40 i))) (d, G, E) := by
  have loop : ∀ (m : Nat) (k i : Int), k + m = 40 → 0 ≤ k → 0 ≤ i → i < 360 → -40 ≤ E 21 i → (bnd (E 21) (E 22) i → rk (-1 - E 21 i) < m) → zgo zm_X9_resting 4 [(0, zR 20), (2, zI i), (3, zI k)] [] (d, G, E) (some (zI (rs (E 21) (E 22) m i))) (d, G, E) := by
    intro m
    induction m with
    | zero => exact fun k i hk k0 i0 i1 hl hr kz Q hQ => X9_resting_4 hX ⟨fun _ => hQ, fun c => absurd (by omega) c⟩
    | succ m ih =>
      intro k i hk k0 i0 i1 hl hr kz Q hQ
      by_cases c : bnd (E 21) (E 22) i
      · rw [rs_b c] at hQ
        have c1 := c.1
        obtain ⟨r40, s0, t, h3, h4, h5⟩ := hb (-1 - E 21 i) (by omega) (by omega) c.2
        have t0 := nd_ge h3
        have h50 := h5 0 t0
        have e0 : E 22 (-1 - E 21 i) + ((0 : Nat) : Int) = E 22 (-1 - E 21 i) := by omega
        rw [e0] at h50
        have hr' := hr c
        exact X9_resting_4 hX ⟨fun z => absurd z (by omega), fun _ => ⟨⟨by omega, by omega⟩, fun z => absurd z (by omega), fun _ => ⟨zin_of (by omega) (by omega), ⟨by omega, by omega⟩, fun _ => ⟨zin_of (by omega) (by omega), ⟨by omega, by omega⟩, zin_of (by omega) (by omega), ih (k + 1) _ (by omega) (by omega) s0 (by omega) h50.1 (fun q => by have := h50.2 q; omega) kz Q hQ⟩, fun z => absurd c.2 z⟩⟩⟩
      · rw [rs_n c] at hQ
        refine X9_resting_4 hX ⟨fun z => absurd z (by omega), fun _ => ⟨⟨by omega, by omega⟩, fun _ => hQ, fun z => ⟨zin_of (by omega) (by omega), ⟨by omega, by omega⟩, fun y => absurd ⟨by omega, y⟩ c, fun _ => hQ⟩⟩⟩
  refine zM_go rfl (Nat.le_of_ble_eq_true rfl) (fun kz Q hQ => X9_resting_0 hX (loop 40 0 i (by omega) (by omega) h0 h1 hl (fun q => ?_) kz Q hQ))
  have q1 := q.1
  exact (hb (-1 - E 21 i) (by omega) (by omega) q.2).1
/-- a stretch of the board, with letters of ranks below r -/
def seg (E : Nat → Int → Int) (rk : Int → Nat) (a : Int) (n r : Nat) : Prop := 0 ≤ a ∧ a + n ≤ 360 ∧ ∀ k : Nat, k < n → -40 ≤ E 21 (a + k) ∧ (bnd (E 21) (E 22) (a + k) → rk (-1 - E 21 (a + k)) < r)
noncomputable def sgx (E : Nat → Int → Int) (a : Int) (n : Nat) : List Int := xcat (xf (E 3) (E 21) (E 22)) a n
/-- the way: what it leads over still -/
def wyS (E : Nat → Int → Int) (rk : Int → Nat) : Nat → List Int → Prop
  | 0, D => D = []
  | k + 1, D => ∃ (n : Nat) (D' : List Int), E 28 k = E 27 k + n ∧ seg E rk (E 27 k) n (40 - k) ∧ D = sgx E (E 27 k) n ++ D' ∧ wyS E rk k D'
def way (E : Nat → Int → Int) (rk : Int → Nat) (D : List Int) : Prop := ∃ (c n : Nat) (D' : List Int), E 20 12 = c ∧ c ≤ 40 ∧ E 20 11 = E 20 10 + n ∧ seg E rk (E 20 10) n (40 - c) ∧ D = sgx E (E 20 10) n ++ D' ∧ wyS E rk c D'
/-- the standing is the same -/
def wsm (E E' : Nat → Int → Int) : Prop := E' 3 = E 3 ∧ E' 21 = E 21 ∧ E' 22 = E 22
theorem seg_sm {E' : Nat → Int → Int} {rk : Int → Nat} {a : Int} {n r : Nat} (h : seg E rk a n r) (w : wsm E E') : seg E' rk a n r := by
  unfold seg at *; rw [w.2.1, w.2.2]; exact h
theorem sgx_sm {E' : Nat → Int → Int} {a : Int} {n : Nat} (w : wsm E E') : sgx E' a n = sgx E a n := by
  unfold sgx; rw [w.1, w.2.1, w.2.2]
theorem wyS_sm {E' : Nat → Int → Int} {rk : Int → Nat} (w : wsm E E') : ∀ {c : Nat} {D : List Int}, wyS E rk c D → (∀ k : Int, k < c → E' 27 k = E 27 k ∧ E' 28 k = E 28 k) → wyS E' rk c D
  | 0, D, h, _ => h
  | c + 1, D, ⟨n, D', h1, h2, h3, h4⟩, hk => by
    have q := hk c (by omega)
    refine ⟨n, D', by rw [q.1, q.2]; exact h1, by rw [q.1]; exact seg_sm h2 w, by rw [q.1, sgx_sm w]; exact h3, wyS_sm w h4 (fun k hk' => hk k (by omega))⟩
theorem stB_sm {E' : Nat → Int → Int} {rk : Int → Nat} (h : stB E rk) (w : wsm E E') : stB E' rk := by
  unfold stB at *; rw [w.1, w.2.1, w.2.2]; exact h
theorem wsm_r {E : Nat → Int → Int} : wsm E E := ⟨rfl, rfl, rfl⟩
theorem wsm_t {E E1 E2 : Nat → Int → Int} (h : wsm E E1) (h' : wsm E1 E2) : wsm E E2 := ⟨h'.1.trans h.1, h'.2.1.trans h.2.1, h'.2.2.trans h.2.2⟩
theorem wsm_fz {E E' : Nat → Int → Int} {S : List Nat} (h : fz S E E') (h1 : 3 ∉ S) (h2 : 21 ∉ S) (h3 : 22 ∉ S) : wsm E E' := ⟨h 3 h1, h 21 h2, h 22 h3⟩
/-- one place on; the way's heap -/
theorem nextOnWay_go {rk : Int → Nat} (hX : zK zXt d G) (hP : pok (E 3)) (hb : stB E rk) : ∀ (m : Nat) (F : Nat → Int → Int) (v1 : Int) (c n : Nat) (D D' : List Int), fz [20, 27, 28] E F → (∀ j : Int, j ≠ 10 → j ≠ 11 → j ≠ 12 → F 20 j = E 20 j) → F 20 12 = c → c ≤ 40 → F 20 11 = F 20 10 + n → seg F rk (F 20 10) n (40 - c) → D = sgx F (F 20 10) n ++ D' → wyS F rk c D' → c < m → 0 ≤ v1 → v1 + m + 2 ≤ 1000 →
    ∃ (x : Int) (E' : Nat → Int → Int), zgo zm_X9_nextOnWay 2 [(0, zR 20), (1, zI v1)] [] (d, G, F) (some (zI x)) (d, G, E') ∧ fz [20, 27, 28] E E' ∧ (∀ j : Int, j ≠ 10 → j ≠ 11 → j ≠ 12 → E' 20 j = E 20 j) ∧ (x = -1 ∧ D = [] ∨ ∃ D2, 0 ≤ x ∧ x < 360 ∧ D = E 21 x :: D2 ∧ -40 ≤ E 21 x ∧ way E' rk D2) := by
  intro m
  induction m with
  | zero => intro F v1 c n D D' _ _ _ _ _ _ _ _ hcm; omega
  | succ m ih =>
    intro F v1 c n D D' hf hj h12 hc h11 hsg hD hw hcm v0 vm
    have wF : wsm E F := wsm_fz hf (by simp) (by simp) (by simp)
    have hbF : stB F rk := stB_sm hb wF
    obtain ⟨g0, g1, g2⟩ := hsg
    cases n with
    | zero =>
      have e11 : F 20 11 = F 20 10 := by rw [h11]; omega
      have hD2 : D = D' := by rw [hD]; simp [sgx, xcat]
      cases c with
      | zero =>
        have hw0 : D' = [] := hw
        exact ⟨-1, F, fun kz Q hQ => X9_nextOnWay_2 hX ⟨fun z => absurd z (by omega), fun _ => ⟨fun _ => ⟨fun z => absurd (by rw [h12]; rfl) z, fun _ => hQ⟩, fun z => absurd (by omega) z⟩⟩, hf, hj, Or.inl ⟨rfl, by rw [hD2, hw0]⟩⟩
      | succ c =>
        obtain ⟨n', D'', w1, w2, w3, w4⟩ := hw
        let F1 := zuE F 20 12 c
        let F2 := zuE F1 20 10 (F 27 c)
        let F3 := zuE F2 20 11 (F 28 c)
        have n3 : ∀ x : Nat, x ≠ 20 → F3 x = F x := fun x hx => (zuE_nf hx).trans ((zuE_nf hx).trans (zuE_nf hx))
        have w3F : wsm F F3 := ⟨n3 3 (by decide), n3 21 (by decide), n3 22 (by decide)⟩
        have a12 : F3 20 12 = c := (zuE_ix (by decide)).trans ((zuE_ix (by decide)).trans zuE_same)
        have a10 : F3 20 10 = F 27 c := (zuE_ix (by decide)).trans zuE_same
        have a11 : F3 20 11 = F 28 c := zuE_same
        have hj3 : ∀ j : Int, j ≠ 10 → j ≠ 11 → j ≠ 12 → F3 20 j = E 20 j := fun j j1 j2 j3 => (zuE_ix j2).trans ((zuE_ix j1).trans ((zuE_ix j3).trans (hj j j1 j2 j3)))
        obtain ⟨x, E', z, zr⟩ := ih F3 (v1 + 1) c n' D D'' (fz_put (fz_put (fz_put hf (by simp)) (by simp)) (by simp)) hj3 a12 (by omega) (by rw [a10, a11]; exact w1) (by rw [a10]; exact seg_sm w2 w3F) (by rw [a10, sgx_sm w3F, hD2]; exact w3) (wyS_sm w3F w4 (fun k _ => by rw [n3 27 (by decide), n3 28 (by decide)]; exact ⟨rfl, rfl⟩)) (by omega) (by omega) (by omega)
        refine ⟨x, E', fun kz Q hQ => X9_nextOnWay_2 hX ⟨fun z => absurd z (by omega), fun _ => ⟨fun _ => ⟨fun _ => ?_, fun z => absurd (by rw [h12]; omega) z⟩, fun z => absurd (by omega) z⟩⟩, zr⟩
        have ec : F 20 12 - 1 = c := by rw [h12]; omega
        rw [ec]
        refine ⟨zin_of (by omega) (by omega), fun H1 e1 => ?_⟩
        have eH1 : H1 = F1 := e1
        have q1 : F1 20 12 = c := zuE_same
        have q2 : F1 27 = F 27 := zuE_nf (by decide)
        rw [eH1, q1, q2]
        refine ⟨⟨by omega, by omega⟩, fun H2 e2 => ?_⟩
        have eH2 : H2 = F2 := e2
        have q3 : F2 20 12 = c := (zuE_ix (by decide)).trans q1
        have q4 : F2 28 = F 28 := (zuE_nf (by decide)).trans (zuE_nf (by decide))
        rw [eH2, q3, q4]
        exact ⟨⟨by omega, by omega⟩, fun H3 e3 => ⟨zin_of (by omega) (by omega), by rw [e3]; exact z kz Q hQ⟩⟩
    | succ n =>
      have e0 : F 20 10 + ((0 : Nat) : Int) = F 20 10 := by omega
      have g20 := g2 0 (by omega)
      rw [e0] at g20
      have mr := resting_ok (E := F) (G := G) (i := F 20 10) hX hbF g0 (by omega) g20.1
      have r40 : bnd (F 21) (F 22) (F 20 10) → rk (-1 - F 21 (F 20 10)) < 40 := fun q => by have := g20.2 q; omega
      obtain ⟨s1, s2, s3⟩ := rs_spec hbF 40 (F 20 10) g20.1 r40
      let F1 := zuE F 20 10 (F 20 10 + 1)
      have n1 : ∀ x : Nat, x ≠ 20 → F1 x = F x := fun x hx => zuE_nf hx
      have w1 : wsm F F1 := ⟨n1 3 (by decide), n1 21 (by decide), n1 22 (by decide)⟩
      have hf1 : fz [20, 27, 28] E F1 := fz_put hf (by simp)
      have hj1 : ∀ j : Int, j ≠ 10 → j ≠ 11 → j ≠ 12 → F1 20 j = E 20 j := fun j j1 j2 j3 => (zuE_ix j1).trans (hj j j1 j2 j3)
      have b10 : F1 20 10 = F 20 10 + 1 := zuE_same
      have b11 : F1 20 11 = F 20 10 + 1 + n := by
        refine (zuE_ix (by decide)).trans ?_
        rw [h11]; omega
      have b12 : F1 20 12 = c := (zuE_ix (by decide)).trans h12
      have ea : F 20 10 + 1 - 1 = F 20 10 := by omega
      have f21 : F 21 = E 21 := hf 21 (by simp)
      have sg1 : seg F rk (F 20 10 + 1) n (40 - c) := ⟨by omega, by omega, fun k hk => by
        have := g2 (k + 1) (by omega)
        have e : F 20 10 + ((k + 1 : Nat) : Int) = F 20 10 + 1 + k := by omega
        rw [e] at this; exact this⟩
      have wy1 : ∀ D2, D2 = sgx F (F 20 10 + 1) n ++ D' → way F1 rk D2 := fun D2 e => ⟨c, n, D', b12, hc, by rw [b10, b11], by rw [b10]; exact seg_sm sg1 w1, by rw [b10, sgx_sm w1]; exact e, wyS_sm w1 hw (fun k _ => by rw [n1 27 (by decide), n1 28 (by decide)]; exact ⟨rfl, rfl⟩)⟩
      have hDs : D = xf (F 3) (F 21) (F 22) (F 20 10) ++ (sgx F (F 20 10 + 1) n ++ D') := by
        rw [hD]
        simp only [sgx, xcat, List.append_assoc]
      have pre : ∀ kz Q, (∃ x_11, zM zm_X9_resting [zR 20, zI (F 20 10)] (d, G, F) (some (zI x_11)) (d, G, F) ∧ (x_11 = F 20 10 → Q (some (zI x_11)) (d, G, F1)) ∧ (¬ (x_11 = F 20 10) → ((0 : Int) ≤ x_11 ∧ x_11 < (360 : Int)) ∧ ((F1 21 x_11) < 0 → Q (some (zI x_11)) (d, G, F1)) ∧ (¬ ((F1 21 x_11) < 0) → ((F1 20 12) < 128 → ((0 : Int) ≤ (F1 20 12) ∧ (F1 20 12) < (128 : Int)) ∧ ∀ E_22, E_22 = zuE F1 27 ((F1 20 12)) ((F1 20 10)) → ((0 : Int) ≤ (E_22 20 12) ∧ (E_22 20 12) < (128 : Int)) ∧ ∀ E_24, E_24 = zuE E_22 28 ((E_22 20 12)) ((E_22 20 11)) → zin ((E_24 20 12) + 1) ∧ ∀ E_26, E_26 = zuE E_24 20 12 (((E_24 20 12) + 1)) → ∀ E_27, E_27 = zuE E_26 20 10 x_11 → ∃ x_28, zM zm_X8_after [zR 1, zR 21, zI x_11] (d, G, E_27) (some (zI x_28)) (d, G, E_27) ∧ ∀ E_31, E_31 = zuE E_27 20 11 x_28 → zin (v1 + 1) ∧ Z zm_X9_nextOnWay kz Q 2 [(0, zR 20), (1, zI ((v1 + 1)))] [] (d, G, E_31)) ∧ (¬ ((F1 20 12) < 128) → Q (some (zI x_11)) (d, G, F1))))) → Z zm_X9_nextOnWay kz Q 2 [(0, zR 20), (1, zI v1)] [] (d, G, F) := fun kz Q K => by
        obtain ⟨x, k1, k2⟩ := K
        refine X9_nextOnWay_2 hX ⟨fun z => absurd z (by omega), fun _ => ⟨fun z => absurd z (by omega), fun _ => ⟨x, k1, zin_of (by omega) (by omega), fun H1 e1 => ?_⟩⟩⟩
        have eH1 : H1 = F1 := e1
        rw [eH1, b10, ea]
        rw [b10] at k2
        exact ⟨zin_of (by omega) (by omega), k2⟩
      by_cases c1 : bnd (F 21) (F 22) (F 20 10)
      · obtain ⟨q1, q2, t, q3, q4, q5, q6⟩ := s3 c1
        have ne : rs (F 21) (F 22) 40 (F 20 10) ≠ F 20 10 := fun e => s1 (by rw [e]; exact c1)
        have e21 : F1 21 = F 21 := n1 21 (by decide)
        by_cases hneg : F 21 (rs (F 21) (F 22) 40 (F 20 10)) < 0
        · have t1 := tm_letter q3 hneg
          subst t1
          have hx : xf (F 3) (F 21) (F 22) (F 20 10) = [F 21 (rs (F 21) (F 22) 40 (F 20 10))] := by
            rw [q6]; simp only [xcat, List.append_nil]; exact xf_n s1
          exact ⟨_, F1, fun kz Q hQ => pre kz Q ⟨_, mr, fun z => absurd z ne, fun _ => ⟨⟨q1, q2⟩, fun _ => hQ, fun z => absurd (by rw [e21]; exact hneg) z⟩⟩, hf1, hj1, Or.inr ⟨_, q1, q2, by rw [hDs, hx, f21]; rfl, by rw [← f21]; exact s2, wy1 _ rfl⟩⟩
        · have rkd := g20.2 c1
          have hr := s1
          obtain ⟨t', rfl⟩ : ∃ t', t = t' + 1 := ⟨t - 1, by have := nd_ge q3; omega⟩
          let r := rs (F 21) (F 22) 40 (F 20 10)
          let F2 := zuE F1 27 c (F 20 10 + 1)
          let F3 := zuE F2 28 c (F 20 10 + 1 + n)
          let F4 := zuE F3 20 12 ((c : Int) + 1)
          let F5 := zuE F4 20 10 r
          let F6 := zuE F5 20 11 (r + (t' + 1 : Nat))
          have n6 : ∀ x : Nat, x ≠ 20 → x ≠ 27 → x ≠ 28 → F6 x = F x := fun x h1 h2 h3 => (zuE_nf h1).trans ((zuE_nf h1).trans ((zuE_nf h1).trans ((zuE_nf h3).trans ((zuE_nf h2).trans (zuE_nf h1)))))
          have n5 : ∀ x : Nat, x ≠ 20 → x ≠ 27 → x ≠ 28 → F5 x = F x := fun x h1 h2 h3 => (zuE_nf h1).trans ((zuE_nf h1).trans ((zuE_nf h3).trans ((zuE_nf h2).trans (zuE_nf h1))))
          have w6 : wsm F F6 := ⟨n6 3 (by decide) (by decide) (by decide), n6 21 (by decide) (by decide) (by decide), n6 22 (by decide) (by decide) (by decide)⟩
          have hf6 : fz [20, 27, 28] E F6 := fz_put (fz_put (fz_put (fz_put (fz_put hf1 (by simp)) (by simp)) (by simp)) (by simp)) (by simp)
          have d12 : F6 20 12 = (c : Int) + 1 := (zuE_ix (by decide)).trans ((zuE_ix (by decide)).trans zuE_same)
          have d10 : F6 20 10 = r := (zuE_ix (by decide)).trans zuE_same
          have d11 : F6 20 11 = r + (t' + 1 : Nat) := zuE_same
          have d27 : F6 27 c = F 20 10 + 1 := (zuE_ne (by decide) _).trans ((zuE_ne (by decide) _).trans ((zuE_ne (by decide) _).trans ((zuE_ne (by decide) _).trans zuE_same)))
          have d28 : F6 28 c = F 20 10 + 1 + n := (zuE_ne (by decide) _).trans ((zuE_ne (by decide) _).trans ((zuE_ne (by decide) _).trans zuE_same))
          have dlo : ∀ k : Int, k < c → F6 27 k = F 27 k ∧ F6 28 k = F 28 k := fun k hk => ⟨(zuE_ne (by decide) _).trans ((zuE_ne (by decide) _).trans ((zuE_ne (by decide) _).trans ((zuE_ne (by decide) _).trans ((zuE_ix (by omega)).trans (zuE_ne (by decide) _))))), (zuE_ne (by decide) _).trans ((zuE_ne (by decide) _).trans ((zuE_ne (by decide) _).trans ((zuE_ix (by omega)).trans ((zuE_ne (by decide) _).trans (zuE_ne (by decide) _)))))⟩
          have hj6 : ∀ j : Int, j ≠ 10 → j ≠ 11 → j ≠ 12 → F6 20 j = E 20 j := fun j j1 j2 j3 => (zuE_ix j2).trans ((zuE_ix j1).trans ((zuE_ix j3).trans ((zuE_ne (by decide) _).trans ((zuE_ne (by decide) _).trans (hj1 j j1 j2 j3)))))
          -- the next round gives the place itself
          have f3F : F 3 = E 3 := wF.1
          have m8 : zM zm_X8_after [zR 1, zR 21, zI r] (d, G, F5) (some (zI (r + (t' + 1 : Nat)))) (d, G, F5) := after_ok (E := F5) (a := 21) (n := 360) hX (zX_20_1 hX).2.2 rfl (by rw [n5 3 (by decide) (by decide) (by decide), f3F]; exact hP) (by rw [n5 3 (by decide) (by decide) (by decide), n5 21 (by decide) (by decide) (by decide)]; exact q3) q1 (by omega) (by omega)
          let F7 := zuE F6 20 10 (r + 1)
          have hb6 : stB F6 rk := stB_sm hbF w6
          have g6 : F6 21 r = F 21 r := by rw [w6.2.1]
          have mr6 := resting_ok (E := F6) (G := G) (i := r) hX hb6 q1 q2 (by rw [g6]; exact s2)
          have er : rs (F6 21) (F6 22) 40 r = r := rs_n (by rw [w6.2.1, w6.2.2]; exact s1)
          rw [er] at mr6
          have n7 : ∀ x : Nat, x ≠ 20 → F7 x = F6 x := fun x hx => zuE_nf hx
          have w7 : wsm F F7 := wsm_t w6 ⟨n7 3 (by decide), n7 21 (by decide), n7 22 (by decide)⟩
          have hj7 : ∀ j : Int, j ≠ 10 → j ≠ 11 → j ≠ 12 → F7 20 j = E 20 j := fun j j1 j2 j3 => (zuE_ix j1).trans (hj6 j j1 j2 j3)
          have sgt : seg F rk (r + 1) t' (40 - (c + 1)) := ⟨by omega, by omega, fun k hk => by
            have := q5 (k + 1) (by omega)
            have e : r + ((k + 1 : Nat) : Int) = r + 1 + k := by omega
            rw [e] at this
            exact ⟨this.1, fun z => by have := this.2 z; omega⟩⟩
          refine ⟨r, F7, fun kz Q hQ => pre kz Q ⟨_, mr, fun z => absurd z ne, fun _ => ⟨⟨q1, q2⟩, fun z => absurd (by rw [e21] at z; exact z) hneg, fun _ => ⟨fun _ => ?_, fun z => absurd (by rw [b12]; omega) z⟩⟩⟩, fz_put hf6 (by simp), hj7, Or.inr ⟨sgx F (r + 1) t' ++ (sgx F (F 20 10 + 1) n ++ D'), q1, q2, ?_, by rw [← f21]; exact s2, c + 1, t', sgx F (F 20 10 + 1) n ++ D', ?_, by omega, ?_, ?_, ?_, n, D', ?_, ?_, ?_, ?_⟩⟩
          · rw [b12, b10]
            refine ⟨⟨by omega, by omega⟩, fun H2 e2 => ?_⟩
            have eH2 : H2 = F2 := e2
            have x1 : F2 20 12 = c := (zuE_ne (by decide) _).trans b12
            have x2 : F2 20 11 = F 20 10 + 1 + n := (zuE_ne (by decide) _).trans b11
            rw [eH2, x1, x2]
            refine ⟨⟨by omega, by omega⟩, fun H3 e3 => ?_⟩
            have eH3 : H3 = F3 := e3
            have x3 : F3 20 12 = c := (zuE_ne (by decide) _).trans x1
            rw [eH3, x3]
            refine ⟨zin_of (by omega) (by omega), fun H4 e4 H5 e5 => ?_⟩
            have eH5 : H5 = F5 := by rw [e5, e4]
            rw [eH5]
            refine ⟨_, m8, fun H6 e6 => ⟨zin_of (by omega) (by omega), ?_⟩⟩
            have eH6 : H6 = F6 := e6
            rw [eH6]
            refine X9_nextOnWay_2 hX ⟨fun z => absurd z (by omega), fun _ => ⟨fun z => absurd z (by rw [d10, d11]; omega), fun _ => ?_⟩⟩
            rw [d10]
            refine ⟨r, mr6, zin_of (by omega) (by omega), fun H7 e7 => ?_⟩
            have eH7 : H7 = F7 := e7
            have y1 : F7 20 10 = r + 1 := zuE_same
            have y2 : r + 1 - 1 = r := by omega
            rw [eH7, y1, y2]
            exact ⟨zin_of (by omega) (by omega), fun _ => hQ, fun z => absurd rfl z⟩
          · rw [hDs, q6, ← f21]
            have := xf_n (P := F 3) s1
            simp only [xcat, sgx]
            rw [this]
            rfl
          · exact (zuE_ix (by decide)).trans d12
          · have y1 : F7 20 10 = r + 1 := zuE_same
            rw [y1]
            refine (zuE_ix (by decide)).trans ?_
            rw [d11]; omega
          · have y1 : F7 20 10 = r + 1 := zuE_same
            rw [y1]; exact seg_sm sgt w7
          · have y1 : F7 20 10 = r + 1 := zuE_same
            rw [y1, sgx_sm w7]
          · rw [n7 27 (by decide), n7 28 (by decide), d27, d28]
          · rw [n7 27 (by decide), d27]; exact seg_sm sg1 w7
          · rw [n7 27 (by decide), d27, sgx_sm w7]
          · refine wyS_sm w7 hw (fun k hk => ?_)
            rw [n7 27 (by decide), n7 28 (by decide)]; exact dlo k hk
      · have er : rs (F 21) (F 22) 40 (F 20 10) = F 20 10 := rs_n c1
        rw [er] at mr
        have hx : xf (F 3) (F 21) (F 22) (F 20 10) = [F 21 (F 20 10)] := xf_n c1
        exact ⟨F 20 10, F1, fun kz Q hQ => pre kz Q ⟨_, mr, fun _ => hQ, fun z => absurd rfl z⟩, hf1, hj1, Or.inr ⟨_, g0, by omega, by rw [hDs, hx, f21]; rfl, by rw [← f21]; exact g20.1, wy1 _ rfl⟩⟩
theorem nextOnWay_ok {rk : Int → Nat} {D : List Int} (hX : zK zXt d G) (hP : pok (E 3)) (hb : stB E rk) (hw : way E rk D) :
    ∃ (x : Int) (E' : Nat → Int → Int), zM zm_X9_nextOnWay [zR 20] (d, G, E) (some (zI x)) (d, G, E') ∧ fz [20, 27, 28] E E' ∧ (∀ j : Int, j ≠ 10 → j ≠ 11 → j ≠ 12 → E' 20 j = E 20 j) ∧ (x = -1 ∧ D = [] ∨ ∃ D2, 0 ≤ x ∧ x < 360 ∧ D = E 21 x :: D2 ∧ -40 ≤ E 21 x ∧ way E' rk D2) := by
  obtain ⟨c, n, D', h1, h2, h3, h4, h5, h6⟩ := hw
  obtain ⟨x, E', z, zr⟩ := nextOnWay_go (E := E) hX hP hb 41 E 0 c n D D' fz_rfl (fun j _ _ _ => rfl) h1 h2 h3 h4 h5 h6 (by omega) (by omega) (by omega)
  exact ⟨x, E', zM_go rfl (Nat.le_of_ble_eq_true rfl) (fun kz Q hQ => X9_nextOnWay_0 hX (z kz Q hQ)), zr⟩
theorem beginWay_ok {rk : Int → Nat} {a : Int} {n : Nat} (hX : zK zXt d G) (hs : seg E rk a n 40) : ∃ E' : Nat → Int → Int, zM zm_X9_beginWay [zR 20, zI a, zI (a + n)] (d, G, E) none (d, G, E') ∧ fz [20] E E' ∧ (∀ j : Int, j ≠ 10 → j ≠ 11 → j ≠ 12 → E' 20 j = E 20 j) ∧ way E' rk (sgx E a n) := by
  let F1 := zuE E 20 10 a
  let F2 := zuE F1 20 11 (a + n)
  let F3 := zuE F2 20 12 0
  have n3 : ∀ x : Nat, x ≠ 20 → F3 x = E x := fun x hx => (zuE_nf hx).trans ((zuE_nf hx).trans (zuE_nf hx))
  have w3 : wsm E F3 := ⟨n3 3 (by decide), n3 21 (by decide), n3 22 (by decide)⟩
  have a10 : F3 20 10 = a := (zuE_ix (by decide)).trans ((zuE_ix (by decide)).trans zuE_same)
  have a11 : F3 20 11 = a + n := (zuE_ix (by decide)).trans zuE_same
  refine ⟨F3, zM_e rfl (Nat.le_of_ble_eq_true rfl) (fun kz Q hQ => X9_beginWay_0 hX (fun H1 e1 H2 e2 H3 e3 => by rw [e3, e2, e1]; exact hQ)), fz_put (fz_put (fz_put fz_rfl (by simp)) (by simp)) (by simp), fun j j1 j2 j3 => (zuE_ix j3).trans ((zuE_ix j2).trans (zuE_ix j1)), 0, n, [], zuE_same, by omega, by rw [a10, a11], by rw [a10]; exact seg_sm hs w3, by rw [a10, sgx_sm w3, List.append_nil], rfl⟩
/-- writing what is on the way -/
theorem write_ok {rk : Int → Nat} {a : Int} {n : Nat} {most : Int} (hX : zK zXt d G) (hP : pok (E 3)) (hb : stB E rk) (hs : seg E rk a n 40) (hl0 : 0 ≤ E 20 14) (hm : most ≤ 2000) :
    ∃ (x : Int) (E' : Nat → Int → Int), zM zm_X9_write [zR 20, zI a, zI (a + n), zI most] (d, G, E) (some (zI x)) (d, G, E') ∧ fz [20, 27, 28, 29] E E' ∧ (∀ j : Int, j ≠ 10 → j ≠ 11 → j ≠ 12 → j ≠ 14 → E' 20 j = E 20 j) ∧ 0 ≤ E' 20 14 ∧ (∀ k : Int, k < E 20 14 → E' 29 k = E 29 k) ∧ (x = 1 ∧ (sgx E a n = [] ∨ E 20 14 + (sgx E a n).length ≤ most ∧ E 20 14 + (sgx E a n).length ≤ 1000) ∧ E' 20 14 = E 20 14 + (sgx E a n).length ∧ (∀ k : Nat, k < (sgx E a n).length → E' 29 (E 20 14 + k) = (sgx E a n).getD k 0) ∨ x = 0 ∧ (most < E 20 14 + (sgx E a n).length ∨ 1000 < E 20 14 + (sgx E a n).length) ∧ sgx E a n ≠ []) := by
  obtain ⟨E1, m1, f1, j1, w1⟩ := beginWay_ok (E := E) hX hs
  have e14 : E1 20 14 = E 20 14 := j1 14 (by decide) (by decide) (by decide)
  have loop : ∀ (D : List Int) (F : Nat → Int → Int) (v4 : Int), fz [20, 27, 28, 29] E F → (∀ j : Int, j ≠ 10 → j ≠ 11 → j ≠ 12 → j ≠ 14 → F 20 j = E 20 j) → E 20 14 ≤ F 20 14 → (F 20 14 = E 20 14 ∨ F 20 14 ≤ 1000) → way F rk D → 0 ≤ v4 → v4 = F 20 14 - E 20 14 →
      ∃ (x : Int) (E' : Nat → Int → Int), zgo zm_X9_write 9 [(0, zR 20), (3, zI most), (4, zI v4)] [] (d, G, F) (some (zI x)) (d, G, E') ∧ fz [20, 27, 28, 29] E E' ∧ (∀ j : Int, j ≠ 10 → j ≠ 11 → j ≠ 12 → j ≠ 14 → E' 20 j = E 20 j) ∧ E 20 14 ≤ E' 20 14 ∧ (∀ k : Int, k < F 20 14 → E' 29 k = F 29 k) ∧ (x = 1 ∧ (D = [] ∨ F 20 14 + D.length ≤ most ∧ F 20 14 + D.length ≤ 1000) ∧ E' 20 14 = F 20 14 + D.length ∧ (∀ k : Nat, k < D.length → E' 29 (F 20 14 + k) = D.getD k 0) ∨ x = 0 ∧ (most < F 20 14 + D.length ∨ 1000 < F 20 14 + D.length) ∧ D ≠ []) := by
    intro D
    induction D with
    | nil =>
      intro F v4 hf hj hl hl2 hw v0 ve
      have wF : wsm E F := wsm_fz hf (by simp) (by simp) (by simp)
      obtain ⟨x, F1, mx, fx, jx, hx⟩ := nextOnWay_ok (E := F) hX (by rw [wF.1]; exact hP) (stB_sm hb wF) hw
      rcases hx with ⟨x1, _⟩ | ⟨D2, _, _, q, _⟩
      · subst x1
        refine ⟨1, F1, fun kz Q hQ => X9_write_9 hX ⟨fun z => absurd z (by omega), fun _ => ⟨-1, F1, mx, fun z => absurd rfl z, fun _ => hQ⟩⟩, fz_trans hf (fz_mono fx (by simp)), fun j a b c e => (jx j a b c).trans (hj j a b c e), by rw [jx 14 (by decide) (by decide) (by decide)]; exact hl, fun k _ => by rw [fx 29 (by simp)], Or.inl ⟨rfl, Or.inl rfl, by rw [jx 14 (by decide) (by decide) (by decide)]; simp, fun k hk => by simp at hk⟩⟩
      · exact absurd q (by simp)
    | cons c D ih =>
      intro F v4 hf hj hl hl2 hw v0 ve
      have wF : wsm E F := wsm_fz hf (by simp) (by simp) (by simp)
      obtain ⟨x, F1, mx, fx, jx, hx⟩ := nextOnWay_ok (E := F) hX (by rw [wF.1]; exact hP) (stB_sm hb wF) hw
      have h14 : F1 20 14 = F 20 14 := jx 14 (by decide) (by decide) (by decide)
      rcases hx with ⟨_, q⟩ | ⟨D2, x0, x1, q, xl, w2⟩
      · exact absurd q (by simp)
      · have qc : c = F 21 x ∧ D = D2 := by simpa using q
        obtain ⟨qc1, qc2⟩ := qc
        subst qc2
        have xn : x ≠ -1 := by omega
        rcases (by omega : most ≤ F 20 14 ∨ 1000 ≤ F 20 14 ∨ (F 20 14 < most ∧ F 20 14 < 1000)) with z | z | z
        · refine ⟨0, F1, fun kz Q hQ => X9_write_9 hX ⟨fun y => absurd y (by omega), fun _ => ⟨x, F1, mx, fun _ => ⟨fun _ => hQ, fun y => absurd (by rw [h14]; exact z) y⟩, fun y => absurd xn y⟩⟩, fz_trans hf (fz_mono fx (by simp)), fun j a b c e => (jx j a b c).trans (hj j a b c e), by rw [h14]; exact hl, fun k _ => by rw [fx 29 (by simp)], Or.inr ⟨rfl, Or.inl (by simp; omega), by simp⟩⟩
        · rcases (by omega : most ≤ F 20 14 ∨ F 20 14 < most) with z2 | z2
          · refine ⟨0, F1, fun kz Q hQ => X9_write_9 hX ⟨fun y => absurd y (by omega), fun _ => ⟨x, F1, mx, fun _ => ⟨fun _ => hQ, fun y => absurd (by rw [h14]; exact z2) y⟩, fun y => absurd xn y⟩⟩, fz_trans hf (fz_mono fx (by simp)), fun j a b c e => (jx j a b c).trans (hj j a b c e), by rw [h14]; exact hl, fun k _ => by rw [fx 29 (by simp)], Or.inr ⟨rfl, Or.inl (by simp; omega), by simp⟩⟩
          · refine ⟨0, F1, fun kz Q hQ => X9_write_9 hX ⟨fun y => absurd y (by omega), fun _ => ⟨x, F1, mx, fun _ => ⟨fun y => absurd y (by rw [h14]; omega), fun _ => ⟨fun y => absurd y (by rw [h14]; omega), fun _ => hQ⟩⟩, fun y => absurd xn y⟩⟩, fz_trans hf (fz_mono fx (by simp)), fun j a b c e => (jx j a b c).trans (hj j a b c e), by rw [h14]; exact hl, fun k _ => by rw [fx 29 (by simp)], Or.inr ⟨rfl, Or.inr (by simp; omega), by simp⟩⟩
        · let F2 := zuE F1 29 (F 20 14) c
          let F3 := zuE F2 20 14 (F 20 14 + 1)
          have n3 : ∀ x : Nat, x ≠ 20 → x ≠ 29 → F3 x = F1 x := fun x h1 h2 => (zuE_nf h1).trans (zuE_nf h2)
          have w13 : wsm F1 F3 := ⟨n3 3 (by decide) (by decide), n3 21 (by decide) (by decide), n3 22 (by decide) (by decide)⟩
          have g14 : F3 20 14 = F 20 14 + 1 := zuE_same
          have gj : ∀ j : Int, j ≠ 14 → F3 20 j = F1 20 j := fun j hj' => (zuE_ix hj').trans (zuE_ne (by decide) _)
          have hw3 : way F3 rk D := by
            obtain ⟨cc, nn, DD, p1, p2, p3, p4, p5, p6⟩ := w2
            refine ⟨cc, nn, DD, by rw [gj 12 (by decide)]; exact p1, p2, by rw [gj 11 (by decide), gj 10 (by decide)]; exact p3, by rw [gj 10 (by decide)]; exact seg_sm p4 w13, by rw [gj 10 (by decide), sgx_sm w13]; exact p5, wyS_sm w13 p6 (fun k _ => by rw [n3 27 (by decide) (by decide), n3 28 (by decide) (by decide)]; exact ⟨rfl, rfl⟩)⟩
          have hf3 : fz [20, 27, 28, 29] E F3 := fz_put (fz_put (fz_trans hf (fz_mono fx (by simp))) (by simp)) (by simp)
          obtain ⟨y, E', go, r1, r2, r3, r4, r5⟩ := ih F3 (v4 + 1) hf3 (fun j a b c e => (gj j e).trans ((jx j a b c).trans (hj j a b c e))) (by rw [g14]; omega) (Or.inr (by rw [g14]; omega)) hw3 (by omega) (by rw [g14]; omega)
          refine ⟨y, E', fun kz Q hQ => X9_write_9 hX ⟨fun y => absurd y (by omega), fun _ => ⟨x, F1, mx, fun _ => ⟨fun y => absurd y (by rw [h14]; omega), fun _ => ⟨fun _ => ⟨⟨x0, x1⟩, by rw [h14]; exact ⟨by omega, by omega⟩, fun H1 e1 => ?_⟩, fun y => absurd (by rw [h14]; exact z.2) y⟩⟩, fun y => absurd xn y⟩⟩, r1, r2, r3, fun k hk => ?_, ?_⟩
          · have e21 : F1 21 = F 21 := fx 21 (by simp)
            have eH : H1 = F2 := by rw [e1, h14, e21, ← qc1]
            have g2 : F2 20 14 = F 20 14 := (zuE_ne (by decide) _).trans h14
            rw [eH, g2]
            exact ⟨zin_of (by omega) (by omega), fun H2 e2 => ⟨zin_of (by omega) (by omega), by rw [e2]; exact go kz Q hQ⟩⟩
          · rw [r4 k (by rw [g14]; omega)]
            refine (zuE_ne (by decide) _).trans ((zuE_ix (by omega)).trans ?_)
            rw [fx 29 (by simp)]
          · rw [g14] at r5
            rcases r5 with ⟨y1, y2, y3, y4⟩ | ⟨y1, y2, y3⟩
            · refine Or.inl ⟨y1, Or.inr ?_, by rw [y3]; simp; omega, fun k hk => ?_⟩
              · rcases y2 with y2 | y2
                · rw [y2]; simp; omega
                · simp; omega
              · rcases (by omega : k = 0 ∨ 1 ≤ k) with e | e
                · subst e
                  have := r4 (F 20 14) (by rw [g14]; omega)
                  have e0 : F 20 14 + ((0 : Nat) : Int) = F 20 14 := by omega
                  rw [e0, this]
                  refine (zuE_ne (by decide) _).trans ?_
                  exact zuE_same
                · have := y4 (k - 1) (by simp at hk; omega)
                  have e1 : F 20 14 + 1 + ((k - 1 : Nat) : Int) = F 20 14 + k := by omega
                  rw [e1] at this
                  rw [this]
                  obtain ⟨k', rfl⟩ : ∃ k', k = k' + 1 := ⟨k - 1, by omega⟩
                  simp
            · refine Or.inr ⟨y1, ?_, by simp⟩
              simp
              omega
  obtain ⟨x, E', go, r1, r2, r3, r4, r5⟩ := loop (sgx E a n) E1 0 (fz_mono f1 (by simp)) (fun j a b c _ => j1 j a b c) (by omega) (Or.inl e14) w1 (by omega) (by omega)
  rw [e14] at r4 r5
  refine ⟨x, E', zM_go rfl (Nat.le_of_ble_eq_true rfl) (fun kz Q hQ => X9_write_0 hX ⟨E1, m1, go kz Q hQ⟩), r1, r2, by omega, fun k hk => ?_, r5⟩
  rw [r4 k hk, f1 29 (by simp)]
end QB
