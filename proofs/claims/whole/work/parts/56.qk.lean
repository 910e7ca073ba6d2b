/-! ===== finishes; claims that take in ===== -/
theorem rwl_n {P W : Int → Int} {R : Nat → List zLt} {st : Nat → Int} {K m : Nat} {B : List zLt} {t : List Int} (h : fp P W R st K B (pq B B.length 0) = none) : rwl P W R st K (m + 1) B t = (1, B, t) := by
  simp only [rwl]; rw [h]
theorem rwl_s {P W : Int → Int} {R : Nat → List zLt} {st : Nat → Int} {K m j p c s : Nat} {B : List zLt} {t z : List Int} (h : fp P W R st K B (pq B B.length 0) = some (j, p, c, s, z)) (hl : (lit B j).2.length - tl P (fw (lit B j).2) p + z.length ≤ 30) : rwl P W R st K (m + 1) B t = rwl P W R st K m (cln P W (rpA P B j p z)) (t ++ [(c : Int), (s : Int), (j : Int), (p : Int)]) := by
  rw [show rwl P W R st K (m + 1) B t = (match fp P W R st K B (pq B B.length 0) with
    | none => (1, B, t)
    | some (j, p, c, s, z) => if (lit B j).2.length - tl P (fw (lit B j).2) p + z.length ≤ 30 then rwl P W R st K m (cln P W (rpA P B j p z)) (t ++ [(c : Int), (s : Int), (j : Int), (p : Int)]) else (0, B, t)) from rfl, h]
  dsimp only
  rw [if_pos hl]
theorem rwl_l {P W : Int → Int} {R : Nat → List zLt} {st : Nat → Int} {K m j p c s : Nat} {B : List zLt} {t z : List Int} (h : fp P W R st K B (pq B B.length 0) = some (j, p, c, s, z)) (hl : ¬ (lit B j).2.length - tl P (fw (lit B j).2) p + z.length ≤ 30) : rwl P W R st K (m + 1) B t = (0, B, t) := by
  rw [show rwl P W R st K (m + 1) B t = (match fp P W R st K B (pq B B.length 0) with
    | none => (1, B, t)
    | some (j, p, c, s, z) => if (lit B j).2.length - tl P (fw (lit B j).2) p + z.length ≤ 30 then rwl P W R st K m (cln P W (rpA P B j p z)) (t ++ [(c : Int), (s : Int), (j : Int), (p : Int)]) else (0, B, t)) from rfl, h]
  dsimp only
  rw [if_neg hl]
theorem rwl_len {P W : Int → Int} {R : Nat → List zLt} {st : Nat → Int} {K : Nat} : ∀ (m : Nat) (B : List zLt) (t : List Int) (x : Int) (B' : List zLt) (t' : List Int), rwl P W R st K m B t = (x, B', t') → t.length ≤ t'.length ∧ t'.length ≤ t.length + 4 * m
  | 0, B, t, x, B', t', h => by
    simp only [rwl, Prod.mk.injEq] at h
    rw [← h.2.2]; omega
  | m + 1, B, t, x, B', t', h => by
    cases e : fp P W R st K B (pq B B.length 0) with
    | none =>
      rw [rwl_n e] at h
      simp only [Prod.mk.injEq] at h
      rw [← h.2.2]; omega
    | some y =>
      obtain ⟨j, p, c, s, z⟩ := y
      by_cases hl : (lit B j).2.length - tl P (fw (lit B j).2) p + z.length ≤ 30
      · rw [rwl_s e hl] at h
        have := rwl_len m _ _ _ _ _ h
        rw [List.length_append] at this
        simp only [List.length_cons, List.length_nil] at this
        omega
      · rw [rwl_l e hl] at h
        simp only [Prod.mk.injEq] at h
        rw [← h.2.2]; omega
/-- the reference's fields that finishing changes -/
def fsf (i : Int) : Prop := i ≠ 24 ∧ i ≠ 28 ∧ i ≠ 35 ∧ i ≠ 36 ∧ i ≠ 37 ∧ i ≠ 38 ∧ i ≠ 39 ∧ i ≠ 40 ∧ i ≠ 42
section QK
variable {d : List Nat} {G : Nat → Int → Option Nat} {E : Nat → Int → Int}
theorem finishes_go {K : Nat} {R : Nat → List zLt} {st : Nat → Int} (hM : zK zMt d G) (hs : stM E (E 53) (E 54) K R) (hst : ∀ c : Nat, c < K → E 62 c = st c) (hP : pok (E 53)) (hW : wok (E 54)) (h2 : E 53 0 = 2) (h42 : 0 ≤ E 50 42 ∧ E 50 42 ≤ 1000000) : ∀ (m n : Nat) (B : List zLt) (t : List Int) (F : Nat → Int → Int), n + m = 8 → fz [50, 72, 73, 74, 76, 77, 78, 80, 81, 85, 92] E F → (∀ i : Int, fsf i → F 50 i = E 50 i) → F 50 40 = n → F 50 42 = E 50 42 + n → t.length = 4 * n → (∀ k : Nat, k < 4 * n → F 92 k = t.getD k 0) → rowW F B → rok (E 53) (E 54) B →
    ∃ (x : Int) (E' : Nat → Int → Int) (B' : List zLt) (t' : List Int) (n' : Nat), zgo zm_X12_finishes 20 [(0, zR 50)] [] (d, G, F) (some (zI x)) (d, G, E') ∧ rwl (E 53) (E 54) R st K m B t = (x, B', t') ∧ fz [50, 72, 73, 74, 76, 77, 78, 80, 81, 85, 92] E E' ∧ (∀ i : Int, fsf i → E' 50 i = E 50 i) ∧ E' 50 40 = n' ∧ n' ≤ 8 ∧ E' 50 42 = E 50 42 + n' ∧ t'.length = 4 * n' ∧ (∀ k : Nat, k < 4 * n' → E' 92 k = t'.getD k 0) ∧ rowW E' B' ∧ rok (E 53) (E 54) B' ∧ (x = 0 ∨ x = 1) := by
  have rokR : ∀ k : Nat, k < K → rok (E 53) (E 54) (R k) := fun k hk => (hs.2.2 k hk).2
  intro m
  induction m with
  | zero =>
    intro n B t F hn hf hj h40 h42' ht h92 hB rB
    exact ⟨1, F, B, t, n, fun kz Q hQ => X12_finishes_20 hM ⟨fun _ => hQ, fun z => absurd (by omega) z⟩, rfl, hf, hj, h40, by omega, h42', ht, h92, hB, rB, Or.inr rfl⟩
  | succ m ih =>
    intro n B t F hn hf hj h40 h42' ht h92 hB rB
    have e3 : F 53 = E 53 := hf 53 (by simp)
    have e4 : F 54 = E 54 := hf 54 (by simp)
    have stF : stM F (F 53) (F 54) K R := by
      rw [e3, e4]; exact stM_fz hs hf (by simp) (by simp) (by simp) (by simp) (hj 6 (by unfold fsf; omega))
    have ff' := findRewriting_ok (E := F) (st := st) (B := B) hM stF (fun c hc => by rw [hf 62 (by simp)]; exact hst c hc) (by rw [e3]; exact hP) (by rw [e4]; exact hW) (by rw [e3]; exact h2) hB (by rw [e3, e4]; exact rB)
    rw [e3, e4] at ff'
    obtain ⟨x, E1, m1, f1, j1, hx⟩ := ff'
    have hf1 : fz [50, 72, 73, 74, 76, 77, 78, 80, 81, 85, 92] E E1 := fz_trans hf (fz_mono f1 (by simp))
    have hj1 : ∀ i : Int, fsf i → E1 50 i = E 50 i := fun i hi => by
      rw [j1 i (by unfold fsf at hi; unfold nsf; omega)]; exact hj i hi
    have hB1 : rowW E1 B := rowW_fz hB f1 (by simp) (by simp) (by simp) (j1 24 (by unfold nsf; omega))
    have g40 : E1 50 40 = n := by rw [j1 40 (by unfold nsf; omega)]; exact h40
    have g42 : E1 50 42 = E 50 42 + n := by rw [j1 42 (by unfold nsf; omega)]; exact h42'
    rcases hx with ⟨x1, x2⟩ | ⟨x1, y, x2, x3⟩
    · subst x1
      exact ⟨1, E1, B, t, n, fun kz Q hQ => X12_finishes_20 hM ⟨fun z => absurd z (by omega), fun _ => ⟨0, E1, m1, fun _ => hQ, fun z => absurd rfl z⟩⟩, rwl_n x2, hf1, hj1, g40, by omega, g42, ht, fun k hk => by rw [f1 92 (by simp)]; exact h92 k hk, hB1, rB, Or.inr rfl⟩
    · subst x1
      obtain ⟨j, p, c, s, z⟩ := y
      obtain ⟨a1, a2, a3, a4, a5, a6⟩ := x3
      dsimp only at a1 a2 a3 a4 a5 a6
      obtain ⟨s1', s2', s3', s4', s5', s6', s7', s8', s9'⟩ := fp_spec x2
      obtain ⟨q1, q2, q3, q4, q5, q6⟩ := rpA_ok hP h2 rB rokR x2
      have e13 : E1 53 = E 53 := hf1 53 (by simp)
      have w30 := (hB1.2.2 j s1').2.2.2.1
      have z9 : z.length ≤ 900 := by
        obtain ⟨t0, u0, w1, w2, w3, w4, w5, w6, _⟩ := rule_parts hP h2 (rokR c s5').1 s8'
        obtain ⟨mm, _, mm1, mm2, _⟩ := tat_ok hP (v := (lit B j).2) (p := p) (rB.1 j s1').1 s3'
        have wr := ((hs.2.2 c s5').1.2.2 0 (by rw [s8'.1]; omega)).2.2.2.1
        have ol : (odw (E 53) (R c) s).length ≤ 30 := by unfold odw; split <;> omega
        have tl30 : tl (E 53) (fw (lit B j).2) p ≤ 30 := by omega
        have := Nat.mul_le_mul tl30 ol
        omega
      have rr := lays_ok (E := E1) (B := B) (j := j) (p := p) (z := z) hM (by rw [e13]; exact hP) hB1 (by rw [e13]; exact rB.1) s1' s3' a5 z9 a6
      rw [e13] at rr
      obtain ⟨v, E2, m2, f2, hv⟩ := rr
      rcases hv with ⟨v1, v2, v3⟩ | ⟨v1, v2, v3⟩
      · subst v1
        have g50 : E2 50 = E1 50 := f2 50 (by simp)
        let H1 := zuE E2 92 (4 * (n : Int)) c
        let H2 := zuE H1 92 (4 * (n : Int) + 1) s
        let H3 := zuE H2 92 (4 * (n : Int) + 2) j
        let H4 := zuE H3 92 (4 * (n : Int) + 3) p
        let H5 := zuE H4 50 40 ((n : Int) + 1)
        let H6 := zuE H5 50 42 (E 50 42 + n + 1)
        have n4 : ∀ y : Nat, y ≠ 92 → H4 y = E2 y := fun y hy => (zuE_nf hy).trans ((zuE_nf hy).trans ((zuE_nf hy).trans (zuE_nf hy)))
        have n6 : ∀ y : Nat, y ≠ 92 → y ≠ 50 → H6 y = E2 y := fun y h1 h2 => (zuE_nf h2).trans ((zuE_nf h2).trans (n4 y h1))
        have hf6 : fz [50, 72, 73, 74, 76, 77, 78, 80, 81, 85, 92] E H6 := fz_put (fz_put (fz_put (fz_put (fz_put (fz_put (fz_trans hf1 (fz_mono f2 (by simp))) (by simp)) (by simp)) (by simp)) (by simp)) (by simp)) (by simp)
        have j6 : ∀ i : Int, i ≠ 40 → i ≠ 42 → H6 50 i = E1 50 i := fun i i1 i2 => by
          refine (zuE_ix i2).trans ((zuE_ix i1).trans ?_)
          rw [n4 50 (by decide), g50]
        have hB6 : rowW H6 (rpA (E 53) B j p z) := by
          refine ⟨?_, v3.2.1, fun l hl => wl_congr (v3.2.2 l hl) (by rw [n6 73 (by decide) (by decide)]) (by rw [n6 74 (by decide) (by decide)]) (fun i _ _ => by rw [n6 72 (by decide) (by decide)])⟩
          rw [j6 24 (by decide) (by decide), ← g50]; exact v3.1
        have k63 : H6 53 = E 53 := hf6 53 (by simp)
        have k64 : H6 54 = E 54 := hf6 54 (by simp)
        have cl := cleanM_ok (E := H6) (A := rpA (E 53) B j p z) hM (by rw [k63]; exact hP) (by rw [k64]; exact hW) (by rw [k63]; exact h2) hB6 (by rw [k63]; exact q1)
        rw [k63, k64] at cl
        obtain ⟨E7, m7, f7, j7, hB7, l7⟩ := cl
        have hf7 : fz [50, 72, 73, 74, 76, 77, 78, 80, 81, 85, 92] E E7 := fz_trans hf6 (fz_mono f7 (by simp))
        have h640 : H6 50 40 = (n : Int) + 1 := (zuE_ix (by decide)).trans zuE_same
        have h642 : H6 50 42 = E 50 42 + n + 1 := zuE_same
        have rB' : rok (E 53) (E 54) (cln (E 53) (E 54) (rpA (E 53) B j p z)) := cln_rok hP h2 q1 q3 (cll_le q2)
        have tl4 : (t ++ [(c : Int), (s : Int), (j : Int), (p : Int)]).length = 4 * (n + 1) := by simp; omega
        have en : ((n + 1 : Nat) : Int) = (n : Int) + 1 := by omega
        have g92 : E7 92 = H4 92 := by
          rw [f7 92 (by simp)]
          exact (zuE_nf (by decide)).trans (zuE_nf (by decide))
        have tv : ∀ k : Nat, k < 4 * (n + 1) → E7 92 k = (t ++ [(c : Int), (s : Int), (j : Int), (p : Int)]).getD k 0 := fun k hk => by
          rw [g92]
          rcases (by omega : k < 4 * n ∨ k = 4 * n ∨ k = 4 * n + 1 ∨ k = 4 * n + 2 ∨ k = 4 * n + 3) with e | e | e | e | e
          · refine (zuE_ix (by omega)).trans ((zuE_ix (by omega)).trans ((zuE_ix (by omega)).trans ((zuE_ix (by omega)).trans ?_)))
            rw [f2 92 (by simp), f1 92 (by simp), h92 k e, List.getD_eq_getElem?_getD, List.getD_eq_getElem?_getD, List.getElem?_append_left (by omega)]
          · subst e
            rw [List.getD_eq_getElem?_getD, List.getElem?_append_right (by omega), ht]
            have x : ((4 * n : Nat) : Int) = 4 * (n : Int) := by omega
            have : H4 92 (4 * (n : Int)) = c := (zuE_ix (by omega)).trans ((zuE_ix (by omega)).trans ((zuE_ix (by omega)).trans zuE_same))
            rw [x, this]; simp
          · subst e
            rw [List.getD_eq_getElem?_getD, List.getElem?_append_right (by omega), ht]
            have x : ((4 * n + 1 : Nat) : Int) = 4 * (n : Int) + 1 := by omega
            have y : 4 * n + 1 - 4 * n = 1 := by omega
            have : H4 92 (4 * (n : Int) + 1) = s := (zuE_ix (by omega)).trans ((zuE_ix (by omega)).trans zuE_same)
            rw [x, this, y]; rfl
          · subst e
            rw [List.getD_eq_getElem?_getD, List.getElem?_append_right (by omega), ht]
            have x : ((4 * n + 2 : Nat) : Int) = 4 * (n : Int) + 2 := by omega
            have y : 4 * n + 2 - 4 * n = 2 := by omega
            have : H4 92 (4 * (n : Int) + 2) = j := (zuE_ix (by omega)).trans zuE_same
            rw [x, this, y]; rfl
          · subst e
            rw [List.getD_eq_getElem?_getD, List.getElem?_append_right (by omega), ht]
            have x : ((4 * n + 3 : Nat) : Int) = 4 * (n : Int) + 3 := by omega
            have y : 4 * n + 3 - 4 * n = 3 := by omega
            have : H4 92 (4 * (n : Int) + 3) = p := zuE_same
            rw [x, this, y]; rfl
        obtain ⟨x, E', B', t', n', go, r⟩ := ih (n + 1) (cln (E 53) (E 54) (rpA (E 53) B j p z)) (t ++ [(c : Int), (s : Int), (j : Int), (p : Int)]) E7 (by omega) hf7 (fun i hi => by
          unfold fsf at hi
          rw [j7 i (by omega) (by omega), j6 i (by omega) (by omega)]; exact hj1 i (by unfold fsf; omega)) (by rw [j7 40 (by decide) (by decide), en]; exact h640) (by rw [j7 42 (by decide) (by decide), h642]; omega) tl4 tv hB7 rB'
        refine ⟨x, E', B', t', n', fun kz Q hQ => X12_finishes_20 hM ⟨fun z => absurd z (by omega), fun _ => ⟨1, E1, m1, fun z => absurd z (by omega), fun _ => ?_⟩⟩, by rw [rwl_s x2 v2]; exact r⟩
        rw [a1, a2]
        refine ⟨1, E2, m2, fun _ => ?_, fun z => absurd (by decide) z⟩
        have y40 : E2 50 40 = n := by rw [g50]; exact g40
        have y36 : E2 50 36 = c := by rw [g50]; exact a3
        rw [y40, y36]
        refine ⟨zin_of (by omega) (by omega), ⟨by omega, by omega⟩, fun D1 d1 => ?_⟩
        have w1 : D1 50 = E2 50 := by rw [d1]; exact zuE_nf (by decide)
        have y37 : E2 50 37 = s := by rw [g50]; exact a4
        rw [w1, y40, y37]
        refine ⟨zin_of (by omega) (by omega), zin_of (by omega) (by omega), ⟨by omega, by omega⟩, fun D2 d2 => ?_⟩
        have w2 : D2 50 = E2 50 := by rw [d2]; exact (zuE_nf (by decide)).trans w1
        have y38 : E2 50 38 = j := by rw [g50]; exact a1
        rw [w2, y40, y38]
        refine ⟨zin_of (by omega) (by omega), zin_of (by omega) (by omega), ⟨by omega, by omega⟩, fun D3 d3 => ?_⟩
        have w3 : D3 50 = E2 50 := by rw [d3]; exact (zuE_nf (by decide)).trans w2
        have y39 : E2 50 39 = p := by rw [g50]; exact a2
        rw [w3, y40, y39]
        refine ⟨zin_of (by omega) (by omega), zin_of (by omega) (by omega), ⟨by omega, by omega⟩, fun D4 d4 => ?_⟩
        have w4 : D4 50 = E2 50 := by rw [d4]; exact (zuE_nf (by decide)).trans w3
        have e4' : D4 = H4 := by rw [d4, d3, d2, d1]
        rw [w4, y40]
        refine ⟨zin_of (by omega) (by omega), fun D5 d5 => ?_⟩
        have y42 : D5 50 42 = E 50 42 + n := by
          rw [d5]
          refine (zuE_ix (by decide)).trans ?_
          rw [w4, g50]; exact g42
        rw [y42]
        refine ⟨zin_of (by omega) (by omega), fun D6 d6 => ⟨E7, ?_, go kz Q hQ⟩⟩
        rw [d6, d5, e4']
        exact m7
      · subst v1
        subst v3
        refine ⟨0, E2, B, t, n, fun kz Q hQ => X12_finishes_20 hM ⟨fun z => absurd z (by omega), fun _ => ⟨1, E2, m1, fun z => absurd z (by omega), fun _ => ?_⟩⟩, rwl_l x2 v2, hf1, hj1, g40, by omega, g42, ht, fun k hk => by rw [f1 92 (by simp)]; exact h92 k hk, hB1, rB, Or.inl rfl⟩
        rw [a1, a2]
        exact ⟨0, E2, m2, fun z => absurd rfl z, fun _ => hQ⟩
theorem finishes_ok {K : Nat} {R : Nat → List zLt} {st : Nat → Int} {A : List zLt} (hM : zK zMt d G) (hs : stM E (E 53) (E 54) K R) (hst : ∀ c : Nat, c < K → E 62 c = st c) (hP : pok (E 53)) (hW : wok (E 54)) (h2 : E 53 0 = 2) (h42 : 0 ≤ E 50 42 ∧ E 50 42 ≤ 1000000) (hA : rowW E A) (aA : aok (E 53) A) (wA : ∀ x, pls A x → 0 ≤ x → 1 ≤ E 54 x) :
    ∃ (x : Int) (E' : Nat → Int → Int) (n' : Nat), zM zm_X12_finishes [zR 50] (d, G, E) (some (zI x)) (d, G, E') ∧ fz [50, 72, 73, 74, 76, 77, 78, 80, 81, 85, 92] E E' ∧ (∀ i : Int, fsf i → E' 50 i = E 50 i) ∧ E' 50 40 = n' ∧ n' ≤ 8 ∧ E' 50 42 = E 50 42 + n' ∧ (x = 0 ∨ x = 1) ∧ (20 < cll (E 53) (E 54) A ∧ x = 0 ∧ n' = 0 ∨ cll (E 53) (E 54) A ≤ 20 ∧ ∃ (B' : List zLt) (t' : List Int), rwl (E 53) (E 54) R st K 8 (cln (E 53) (E 54) A) [] = (x, B', t') ∧ t'.length = 4 * n' ∧ (∀ k : Nat, k < 4 * n' → E' 92 k = t'.getD k 0) ∧ rowW E' B' ∧ rok (E 53) (E 54) B') := by
  let E1 := zuE E 50 40 0
  have n1 : ∀ y : Nat, y ≠ 50 → E1 y = E y := fun y hy => zuE_nf hy
  have k13 : E1 53 = E 53 := n1 53 (by decide)
  have k14 : E1 54 = E 54 := n1 54 (by decide)
  have hA1 : rowW E1 A := rowW_fz hA (S := [50]) (fun y hy => n1 y (by simpa using hy)) (by simp) (by simp) (by simp) (zuE_ix (by decide))
  have cl := cleanM_ok (E := E1) (A := A) hM (by rw [k13]; exact hP) (by rw [k14]; exact hW) (by rw [k13]; exact h2) hA1 (by rw [k13]; exact aA)
  rw [k13, k14] at cl
  obtain ⟨E2, m2, f2, j2, hB2, l2⟩ := cl
  have hf2 : fz [50, 72, 73, 74, 76, 77, 78, 80, 81, 85, 92] E E2 := fz_trans (fz_put fz_rfl (by simp)) (fz_mono f2 (by simp))
  have j2' : ∀ i : Int, i ≠ 24 → i ≠ 28 → i ≠ 40 → E2 50 i = E 50 i := fun i i1 i2 i3 => by
    rw [j2 i i1 i2]; exact zuE_ix i3
  have g40 : E2 50 40 = 0 := by rw [j2 40 (by decide) (by decide)]; exact zuE_same
  by_cases h20 : cll (E 53) (E 54) A ≤ 20
  · have e3 : E2 53 = E 53 := hf2 53 (by simp)
    have e4 : E2 54 = E 54 := hf2 54 (by simp)
    have rB := cln_rok hP h2 aA wA h20
    have g := finishes_go (E := E2) (K := K) (R := R) (st := st) hM (by rw [e3, e4]; exact stM_fz hs hf2 (by simp) (by simp) (by simp) (by simp) (j2' 6 (by decide) (by decide) (by decide))) (fun c hc => by rw [hf2 62 (by simp)]; exact hst c hc) (by rw [e3]; exact hP) (by rw [e4]; exact hW) (by rw [e3]; exact h2) (by rw [j2' 42 (by decide) (by decide) (by decide)]; exact h42) 8 0 (cln (E 53) (E 54) A) [] E2 (by omega) fz_rfl (fun i _ => rfl) g40 (by omega) rfl (fun k hk => by omega) hB2 (by rw [e3, e4]; exact rB)
    rw [e3, e4] at g
    obtain ⟨x, E', B', t', n', go, r1, r2, r3, r4, r5, r6, r7, r8, r9, r10, r11⟩ := g
    refine ⟨x, E', n', zM_go rfl (Nat.le_of_ble_eq_true rfl) (fun kz Q hQ => X12_finishes_0 hM (fun H h => ⟨E2, by rw [h]; exact m2, fun _ => go kz Q hQ, fun z => absurd (by rw [l2]; exact h20) z⟩)), fz_trans hf2 r2, fun i hi => ?_, r4, r5, ?_, r11, Or.inr ⟨h20, B', t', r1, r7, r8, r9, r10⟩⟩
    · have := r3 i hi
      unfold fsf at hi
      rw [this]; exact j2' i (by omega) (by omega) (by omega)
    · rw [r6, j2' 42 (by decide) (by decide) (by decide)]
  · refine ⟨0, E2, 0, zM_go rfl (Nat.le_of_ble_eq_true rfl) (fun kz Q hQ => X12_finishes_0 hM (fun H h => ⟨E2, by rw [h]; exact m2, fun z => absurd (by rw [l2] at z; exact z) h20, fun _ => hQ⟩)), hf2, fun i hi => ?_, g40, by omega, ?_, Or.inl rfl, Or.inl ⟨by omega, rfl, rfl⟩⟩
    · unfold fsf at hi
      exact j2' i (by omega) (by omega) (by omega)
    · rw [j2' 42 (by decide) (by decide) (by decide)]; omega
/-! taking in among claims -/
theorem claimTakes_ok {K a b : Nat} {R : Nat → List zLt} (hM : zK zMt d G) (hs : stM E (E 53) (E 54) K R) (ha : a < K) (hb : b < K) (hP : pok (E 53)) : ∃ (x : Int) (E' : Nat → Int → Int), zM zm_X12_claimTakes [zR 50, zI (a : Int), zI (b : Int)] (d, G, E) (some (zI x)) (d, G, E') ∧ fz [80, 81, 82, 83, 84] E E' ∧ (x = 1 ∧ takesP (E 53) (R a) (R b) ∨ x = 0 ∧ ¬ takesP (E 53) (R a) (R b)) := by
  have h150 := hs.2.1
  obtain ⟨⟨a61, aF⟩, ra⟩ := hs.2.2 a ha
  obtain ⟨⟨b61, bF⟩, rb⟩ := hs.2.2 b hb
  obtain ⟨x, E', m1, f1, hx⟩ := takesM_ok (E := E) (a1 := 58) (a2 := 59) (a3 := 60) (a6 := 58) (a7 := 59) (a8 := 60) (n1 := 27000) (n2 := 900) (n3 := 900) (n6 := 27000) (n7 := 900) (n8 := 900) (o1 := 6 * (a : Int)) (o2 := 6 * (b : Int)) (C := R a) (D := R b) hM (zM_7 hM).2.2 rfl (zM_8 hM).2.2 rfl (zM_9 hM).2.2 rfl (zM_7 hM).2.2 rfl (zM_8 hM).2.2 rfl (zM_9 hM).2.2 rfl (by omega) (by omega) (by omega) (by omega) (by omega) (by omega) (by omega) (by omega) (by omega) (by omega) (by omega) (by omega) (by omega) (by omega) hP aF bF.1 (fun l hl => by obtain ⟨_, q2, _, q4, q5⟩ := bF.2 l hl; exact ⟨q2, q4, q5⟩) ra.1 rb.1 ra.2.1
  refine ⟨x, E', zM_e rfl (Nat.le_of_ble_eq_true rfl) (fun kz Q hQ => X12_claimTakes_0 hM ⟨zin_of (by omega) (by omega), ⟨by omega, by omega⟩, zin_of (by omega) (by omega), ⟨by omega, by omega⟩, x, E', by rw [a61, b61]; exact m1, by omega, hQ⟩), f1, hx⟩
theorem claimTakesWork_ok {K a : Nat} {R : Nat → List zLt} {B : List zLt} (hM : zK zMt d G) (hs : stM E (E 53) (E 54) K R) (ha : a < K) (hP : pok (E 53)) (hB : rowW E B) (aB : aok (E 53) B) : ∃ (x : Int) (E' : Nat → Int → Int), zM zm_X12_claimTakesWork [zR 50, zI (a : Int)] (d, G, E) (some (zI x)) (d, G, E') ∧ fz [80, 81, 82, 83, 84] E E' ∧ (x = 1 ∧ takesP (E 53) (R a) B ∨ x = 0 ∧ ¬ takesP (E 53) (R a) B) := by
  have h150 := hs.2.1
  obtain ⟨⟨a61, aF⟩, ra⟩ := hs.2.2 a ha
  have bF := rowW_F hB
  obtain ⟨x, E', m1, f1, hx⟩ := takesM_ok (E := E) (a1 := 58) (a2 := 59) (a3 := 60) (a6 := 72) (a7 := 73) (a8 := 74) (n1 := 27000) (n2 := 900) (n3 := 900) (n6 := 180) (n7 := 6) (n8 := 6) (o1 := 6 * (a : Int)) (o2 := 0) (C := R a) (D := B) hM (zM_7 hM).2.2 rfl (zM_8 hM).2.2 rfl (zM_9 hM).2.2 rfl (zM_21 hM).2.2 rfl (zM_22 hM).2.2 rfl (zM_23 hM).2.2 rfl (by omega) (by omega) (by omega) (by omega) (by omega) (by omega) (by omega) (by omega) (by omega) (by omega) (by omega) (by omega) (by omega) (by omega) hP aF bF.1 (fun l hl => by obtain ⟨_, q2, _, q4, q5⟩ := bF.2 l hl; exact ⟨q2, q4, q5⟩) ra.1 aB ra.2.1
  refine ⟨x, E', zM_e rfl (Nat.le_of_ble_eq_true rfl) (fun kz Q hQ => X12_claimTakesWork_0 hM ⟨zin_of (by omega) (by omega), ⟨by omega, by omega⟩, x, E', by rw [a61, hB.1]; exact m1, by omega, hQ⟩), f1, hx⟩
/-- some claim takes it in -/
def tkn (P : Int → Int) (R : Nat → List zLt) (st : Nat → Int) (K : Nat) (B : List zLt) : Prop := ∃ c : Nat, c < K ∧ st c ≠ 2 ∧ takesP P (R c) B
theorem isTakenInM_ok {K : Nat} {R : Nat → List zLt} {st : Nat → Int} {B : List zLt} (hM : zK zMt d G) (hs : stM E (E 53) (E 54) K R) (hst : ∀ c : Nat, c < K → E 62 c = st c) (hP : pok (E 53)) (hB : rowW E B) (aB : aok (E 53) B) : ∃ (x : Int) (E' : Nat → Int → Int), zM zm_X12_isTakenIn [zR 50] (d, G, E) (some (zI x)) (d, G, E') ∧ fz [80, 81, 82, 83, 84] E E' ∧ (x = 1 ∧ tkn (E 53) R st K B ∨ x = 0 ∧ ¬ tkn (E 53) R st K B) := by
  have h150 := hs.2.1
  have loop : ∀ (m c : Nat) (F : Nat → Int → Int), c + m = K → fz [80, 81, 82, 83, 84] E F → ∃ (x : Int) (E' : Nat → Int → Int), zgo zm_X12_isTakenIn 2 [(0, zR 50), (1, zI (c : Int))] [] (d, G, F) (some (zI x)) (d, G, E') ∧ fz [80, 81, 82, 83, 84] E E' ∧ (x = 1 ∧ tkn (E 53) R st K B ∨ x = 0 ∧ ∀ k : Nat, c ≤ k → k < K → ¬ (st k ≠ 2 ∧ takesP (E 53) (R k) B)) := by
    intro m
    induction m with
    | zero =>
      intro c F hc hf
      have f6 : F 50 6 = K := by rw [hf 50 (by simp)]; exact hs.1
      exact ⟨0, F, fun kz Q hQ => X12_isTakenIn_2 hM ⟨fun _ => hQ, fun z => absurd (by omega) z⟩, hf, Or.inr ⟨rfl, fun k k1 k2 => by omega⟩⟩
    | succ m ih =>
      intro c F hc hf
      have f6 : F 50 6 = K := by rw [hf 50 (by simp)]; exact hs.1
      have ec : ((c + 1 : Nat) : Int) = (c : Int) + 1 := by omega
      have e3 : F 53 = E 53 := hf 53 (by simp)
      have e4 : F 54 = E 54 := hf 54 (by simp)
      have f62 : F 62 c = st c := by rw [hf 62 (by simp)]; exact hst c (by omega)
      have nx : ∀ (F2 : Nat → Int → Int), fz [80, 81, 82, 83, 84] E F2 → ¬ (st c ≠ 2 ∧ takesP (E 53) (R c) B) → (∀ kz Q, Z zm_X12_isTakenIn kz Q 2 [(0, zR 50), (1, zI ((c : Int) + 1))] [] (d, G, F2) → Z zm_X12_isTakenIn kz Q 2 [(0, zR 50), (1, zI (c : Int))] [] (d, G, F)) → ∃ (x : Int) (E' : Nat → Int → Int), zgo zm_X12_isTakenIn 2 [(0, zR 50), (1, zI (c : Int))] [] (d, G, F) (some (zI x)) (d, G, E') ∧ fz [80, 81, 82, 83, 84] E E' ∧ (x = 1 ∧ tkn (E 53) R st K B ∨ x = 0 ∧ ∀ k : Nat, c ≤ k → k < K → ¬ (st k ≠ 2 ∧ takesP (E 53) (R k) B)) := by
        intro F2 hf2 nn go
        obtain ⟨x, E', z, z1, z2⟩ := ih (c + 1) F2 (by omega) hf2
        rw [ec] at z
        refine ⟨x, E', fun kz Q hQ => go kz Q (z kz Q hQ), z1, ?_⟩
        rcases z2 with z2 | ⟨z2, z3⟩
        · exact Or.inl z2
        · refine Or.inr ⟨z2, fun k k1 k2 => ?_⟩
          rcases (by omega : k = c ∨ c + 1 ≤ k) with e | e
          · subst e; exact nn
          · exact z3 k e k2
      by_cases q : st c = 2
      · refine nx F hf (fun z => z.1 q) (fun kz Q K' => X12_isTakenIn_2 hM ⟨fun z => absurd z (by omega), fun _ => ⟨⟨by omega, by omega⟩, fun _ => ⟨zin_of (by omega) (by omega), K'⟩, fun z => absurd (by rw [f62]; exact q) z⟩⟩)
      · have tk' := claimTakesWork_ok (E := F) (a := c) (B := B) hM (by rw [e3, e4]; exact stM_fz hs hf (by simp) (by simp) (by simp) (by simp) (by rw [hf 50 (by simp)])) (by omega) (by rw [e3]; exact hP) (rowW_fz hB hf (by simp) (by simp) (by simp) (by rw [hf 50 (by simp)])) (by rw [e3]; exact aB)
        rw [e3] at tk'
        obtain ⟨x, F2, m2, f2, hx⟩ := tk'
        have hf2 := fz_trans hf f2
        rcases hx with ⟨x1, x2⟩ | ⟨x1, x2⟩
        · subst x1
          exact ⟨1, F2, fun kz Q hQ => X12_isTakenIn_2 hM ⟨fun z => absurd z (by omega), fun _ => ⟨⟨by omega, by omega⟩, fun z => absurd (by rw [f62] at z; exact z) q, fun _ => ⟨1, F2, m2, fun z => absurd z (by omega), fun _ => hQ⟩⟩⟩, hf2, Or.inl ⟨rfl, c, by omega, q, x2⟩⟩
        · subst x1
          exact nx F2 hf2 (fun z => x2 z.2) (fun kz Q K' => X12_isTakenIn_2 hM ⟨fun z => absurd z (by omega), fun _ => ⟨⟨by omega, by omega⟩, fun z => absurd (by rw [f62] at z; exact z) q, fun _ => ⟨0, F2, m2, fun _ => ⟨zin_of (by omega) (by omega), K'⟩, fun z => absurd rfl z⟩⟩⟩)
  obtain ⟨x, E', z, z1, z2⟩ := loop K 0 E (by omega) fz_rfl
  refine ⟨x, E', zM_go rfl (Nat.le_of_ble_eq_true rfl) (fun kz Q hQ => X12_isTakenIn_0 hM (z kz Q hQ)), z1, ?_⟩
  rcases z2 with z2 | ⟨z2, z3⟩
  · exact Or.inl z2
  · exact Or.inr ⟨z2, fun ⟨k, k1, k2, k3⟩ => z3 k (Nat.zero_le _) k1 ⟨k2, k3⟩⟩
theorem isTakenIn_ok {K : Nat} {R : Nat → List zLt} {st : Nat → Int} {B : List zLt} (hX : zK zXt d G) (hs : stC d G E (E 3) (E 4) K R) (hst : ∀ c : Nat, c < K → E (qn c) 6 = st c) (hP : pok (E 3)) (hB : rowC E 10 B) (aB : aok (E 3) B) (mB : mkA (E 10 4) B) (hI : stI E) : ∃ (x : Int) (E' : Nat → Int → Int), zM zm_X10_isTakenIn [zR 33, zR 10] (d, G, E) (some (zI x)) (d, G, E') ∧ fz [20, 22, 23, 34, 35] E E' ∧ stI E' ∧ (x = 1 ∧ tkn (E 3) R st K B ∨ x = 0 ∧ ¬ tkn (E 3) R st K B) := by
  have h150 := hs.2.1
  have hr10 := zXr10 hX
  have loop : ∀ (m c : Nat) (F : Nat → Int → Int), c + m = K → fz [20, 22, 23, 34, 35] E F → stI F → ∃ (x : Int) (E' : Nat → Int → Int), zgo zm_X10_isTakenIn 2 [(0, zR 33), (1, zR 10), (2, zI (c : Int))] [] (d, G, F) (some (zI x)) (d, G, E') ∧ fz [20, 22, 23, 34, 35] E E' ∧ stI E' ∧ (x = 1 ∧ tkn (E 3) R st K B ∨ x = 0 ∧ ∀ k : Nat, c ≤ k → k < K → ¬ (st k ≠ 2 ∧ takesP (E 3) (R k) B)) := by
    intro m
    induction m with
    | zero =>
      intro c F hc hf hI
      have f5 : F 5 4 = K := by rw [hf 5 (by simp)]; exact hs.1
      exact ⟨0, F, fun kz Q hQ => X10_isTakenIn_2 hX hr10 ⟨fun _ => hQ, fun z => absurd (by omega) z⟩, hf, hI, Or.inr ⟨rfl, fun k k1 k2 => by omega⟩⟩
    | succ m ih =>
      intro c F hc hf hI
      have hcK : c < K := by omega
      have f5 : F 5 4 = K := by rw [hf 5 (by simp)]; exact hs.1
      have ec : ((c + 1 : Nat) : Int) = (c : Int) + 1 := by omega
      have e3 : F 3 = E 3 := hf 3 (by simp)
      have e4 : F 4 = E 4 := hf 4 (by simp)
      have sF : stC d G F (E 3) (E 4) K R := stC_fz hs hf (by simp) (by rw [hf 5 (by simp)])
      obtain ⟨g6, hck, ⟨hA, mA, _⟩, rk⟩ := sF.2.2 c hcK
      have q0 : 200 ≤ qn c := by unfold qn; omega
      have f6 : F (qn c) 6 = st c := by rw [hf _ (by simp; omega)]; exact hst c hcK
      have m0 := at_ok (E := F) hX sF hcK
      have m1 := isThere_ok (E := F) (q := qn c) hX hck
      have nx : ∀ (F2 : Nat → Int → Int), fz [20, 22, 23, 34, 35] E F2 → stI F2 → ¬ (st c ≠ 2 ∧ takesP (E 3) (R c) B) → (∀ kz Q, Z zm_X10_isTakenIn kz Q 2 [(0, zR 33), (1, zR 10), (2, zI ((c : Int) + 1))] [] (d, G, F2) → Z zm_X10_isTakenIn kz Q 2 [(0, zR 33), (1, zR 10), (2, zI (c : Int))] [] (d, G, F)) → ∃ (x : Int) (E' : Nat → Int → Int), zgo zm_X10_isTakenIn 2 [(0, zR 33), (1, zR 10), (2, zI (c : Int))] [] (d, G, F) (some (zI x)) (d, G, E') ∧ fz [20, 22, 23, 34, 35] E E' ∧ stI E' ∧ (x = 1 ∧ tkn (E 3) R st K B ∨ x = 0 ∧ ∀ k : Nat, c ≤ k → k < K → ¬ (st k ≠ 2 ∧ takesP (E 3) (R k) B)) := by
        intro F2 hf2 hI2 nn go
        obtain ⟨x, E', z, z1, zi, z2⟩ := ih (c + 1) F2 (by omega) hf2 hI2
        rw [ec] at z
        refine ⟨x, E', fun kz Q hQ => go kz Q (z kz Q hQ), z1, zi, ?_⟩
        rcases z2 with z2 | ⟨z2, z3⟩
        · exact Or.inl z2
        · refine Or.inr ⟨z2, fun k k1 k2 => ?_⟩
          rcases (by omega : k = c ∨ c + 1 ≤ k) with e | e
          · subst e; exact nn
          · exact z3 k e k2
      by_cases q : st c = 2
      · rw [if_pos (by rw [f6]; exact q)] at m1
        refine nx F hf hI (fun z => z.1 q) (fun kz Q K' => X10_isTakenIn_2 hX hr10 ⟨fun z => absurd z (by omega), fun _ => ⟨some (qn c), m0, fun z => absurd z (by simp), fun _ => ⟨qn c, rfl, hck, 0, m1, fun _ => ⟨zin_of (by omega) (by omega), K'⟩, fun z => absurd rfl z⟩⟩⟩)
      · rw [if_neg (by rw [f6]; exact q)] at m1
        have f10 : F 10 = E 10 := hf 10 (by simp)
        have tk' := takes_ok (E := F) (r1 := qn c + 1) (r2 := 10) (C := R c) (D := B) hX hck.2.2.1 hr10 (by unfold rz; omega) (by unfold rz; omega) (by rw [e3]; exact hP) hA (rowC_fz hB hf (by simp) (by simp) (by simp) (by simp)) (by rw [e3]; exact rk.1) (by rw [e3]; exact aB) rk.2.1 mA (by rw [f10]; exact mB) hI
        rw [e3] at tk'
        obtain ⟨x, F2, m2, f2, i2, hx⟩ := tk'
        have hf2 := fz_trans hf f2
        rcases hx with ⟨x1, x2⟩ | ⟨x1, x2⟩
        · subst x1
          exact ⟨1, F2, fun kz Q hQ => X10_isTakenIn_2 hX hr10 ⟨fun z => absurd z (by omega), fun _ => ⟨some (qn c), m0, fun z => absurd z (by simp), fun _ => ⟨qn c, rfl, hck, 1, m1, fun z => absurd z (by omega), fun _ => ⟨1, F2, m2, fun z => absurd z (by omega), fun _ => hQ⟩⟩⟩⟩, hf2, i2, Or.inl ⟨rfl, c, by omega, q, x2⟩⟩
        · subst x1
          exact nx F2 hf2 i2 (fun z => x2 z.2) (fun kz Q K' => X10_isTakenIn_2 hX hr10 ⟨fun z => absurd z (by omega), fun _ => ⟨some (qn c), m0, fun z => absurd z (by simp), fun _ => ⟨qn c, rfl, hck, 1, m1, fun z => absurd z (by omega), fun _ => ⟨0, F2, m2, fun _ => ⟨zin_of (by omega) (by omega), K'⟩, fun z => absurd rfl z⟩⟩⟩⟩)
  obtain ⟨x, E', z, z1, zi, z2⟩ := loop K 0 E (by omega) fz_rfl hI
  refine ⟨x, E', zM_go rfl (Nat.le_of_ble_eq_true rfl) (fun kz Q hQ => X10_isTakenIn_0 hX hr10 (z kz Q hQ)), z1, zi, ?_⟩
  rcases z2 with z2 | ⟨z2, z3⟩
  · exact Or.inl z2
  · exact Or.inr ⟨z2, fun ⟨k, k1, k2, k3⟩ => z3 k (Nat.zero_le _) k1 ⟨k2, k3⟩⟩
end QK
