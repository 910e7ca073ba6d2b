/-! ===== rewriting: the class, the search ===== -/
section QG0
variable {P W : Int → Int} {R : Nat → List zLt} {st : Nat → Int} {w : List Int}
theorem fr_mem : ∀ {L : List (Nat × Nat)} {y : (Nat × Nat) × List Int}, fr P W R st w L = some y → y.1 ∈ L ∧ st y.1.1 ≠ 2 ∧ ruleP (R y.1.1) ∧ rwz P W (sdw P (R y.1.1) y.1.2) (odw P (R y.1.1) y.1.2) w = some y.2
  | [], y, h => by simp [fr] at h
  | x :: L, y, h => by
    by_cases c : st x.1 ≠ 2 ∧ ruleP (R x.1)
    · cases e : rwz P W (sdw P (R x.1) x.2) (odw P (R x.1) x.2) w with
      | none =>
        rw [fr_no (fun _ _ => e)] at h
        obtain ⟨a, b⟩ := fr_mem h
        exact ⟨List.mem_cons_of_mem _ a, b⟩
      | some z =>
        rw [fr_yes c.1 c.2 e] at h
        have : y = (x, z) := by simpa using h.symm
        subst this
        exact ⟨List.mem_cons_self, c.1, c.2, e⟩
    · rw [fr_no (fun a b => absurd ⟨a, b⟩ c)] at h
      obtain ⟨a, b⟩ := fr_mem h
      exact ⟨List.mem_cons_of_mem _ a, b⟩
theorem al_mem : ∀ {m c : Nat} {x : Nat × Nat}, x ∈ al c m → c ≤ x.1 ∧ x.1 < c + m ∧ x.2 ≤ 1
  | 0, c, x, h => absurd h (by simp [al])
  | m + 1, c, x, h => by
    simp only [al] at h
    rcases List.mem_cons.1 h with e | h
    · subst e; exact ⟨by simp, by simp, by simp⟩
    · rcases List.mem_cons.1 h with e | h
      · subst e; exact ⟨by simp, by simp, by simp⟩
      · have := al_mem h; omega
theorem sq_mem : ∀ {m p j : Nat} {x : Nat × Nat}, x ∈ sq j p m → x.1 = j ∧ p ≤ x.2 ∧ x.2 < p + m
  | 0, p, j, x, h => absurd h (by simp [sq])
  | m + 1, p, j, x, h => by
    simp only [sq] at h
    rcases List.mem_cons.1 h with e | h
    · subst e; exact ⟨rfl, by simp, by simp⟩
    · have := sq_mem h; omega
theorem pq_mem {A : List zLt} : ∀ {r j : Nat} {x : Nat × Nat}, x ∈ pq A r j → j ≤ x.1 ∧ x.1 < j + r ∧ 1 ≤ x.2 ∧ x.2 < 1 + ((lit A x.1).2.length - 1)
  | 0, j, x, h => absurd h (by simp [pq])
  | r + 1, j, x, h => by
    simp only [pq] at h
    rcases List.mem_append.1 h with e | e
    · have := sq_mem e
      obtain ⟨a, b, c⟩ := this
      rw [a]
      exact ⟨Nat.le_refl _, by omega, b, c⟩
    · have := pq_mem e
      exact ⟨by omega, by omega, this.2.2⟩
theorem fp_mem {K : Nat} {A : List zLt} : ∀ {L : List (Nat × Nat)} {j p c s : Nat} {z : List Int}, fp P W R st K A L = some (j, p, c, s, z) → (j, p) ∈ L ∧ 0 ≤ fw (lit A j).2 p ∧ fr P W R st (tat P (lit A j).2 p) (al 0 K) = some ((c, s), z)
  | [], _, _, _, _, _, h => by simp [fp] at h
  | x :: L, j, p, c, s, z, h => by
    by_cases h0 : 0 ≤ fw (lit A x.1).2 x.2
    · cases e : fr P W R st (tat P (lit A x.1).2 x.2) (al 0 K) with
      | none =>
        rw [fp_no e] at h
        obtain ⟨a, b⟩ := fp_mem h
        exact ⟨List.mem_cons_of_mem _ a, b⟩
      | some y =>
        rw [fp_yes h0 e] at h
        obtain ⟨⟨y1, y2⟩, y3⟩ := y
        obtain ⟨x1, x2⟩ := x
        simp only [Option.some.injEq, Prod.mk.injEq] at h
        obtain ⟨q1, q2, q3, q4, q5⟩ := h
        subst q1; subst q2; subst q3; subst q4; subst q5
        exact ⟨List.mem_cons_self, h0, e⟩
    · rw [fp_neg h0] at h
      obtain ⟨a, b⟩ := fp_mem h
      exact ⟨List.mem_cons_of_mem _ a, b⟩
end QG0
/-- all that is known of a rewriting that was found -/
theorem fp_spec {P W : Int → Int} {R : Nat → List zLt} {st : Nat → Int} {K : Nat} {A : List zLt} {j p c s : Nat} {z : List Int} (h : fp P W R st K A (pq A A.length 0) = some (j, p, c, s, z)) : j < A.length ∧ 1 ≤ p ∧ p < (lit A j).2.length ∧ 0 ≤ fw (lit A j).2 p ∧ c < K ∧ s ≤ 1 ∧ st c ≠ 2 ∧ ruleP (R c) ∧ rwz P W (sdw P (R c) s) (odw P (R c) s) (tat P (lit A j).2 p) = some z := by
  obtain ⟨h1, h2, h3⟩ := fp_mem h
  obtain ⟨a1, a2, a3, a4⟩ := pq_mem h1
  obtain ⟨b1, b2, b3, b4⟩ := fr_mem h3
  have := al_mem b1
  dsimp only at this a1 a2 a3 a4 b2 b3 b4
  exact ⟨by omega, a3, by omega, h2, by omega, this.2.2, b2, b3, b4⟩
section QG
variable {d : List Nat} {G : Nat → Int → Option Nat} {E : Nat → Int → Int}
theorem fits_ok {K c s j p : Nat} {R : Nat → List zLt} {B : List zLt} (hX : zK zXt d G) (hs : stC d G E (E 3) (E 4) K R) (hc : c < K) (hr : ruleP (R c)) (hs1 : s ≤ 1) (hP : pok (E 3)) (hW : wok (E 4)) (h2 : E 3 0 = 2) (h19 : ∀ L : Int, 0 ≤ L → L < 40 → E 19 L = 0) (hst : stI E) (hB : rowC E 10 B) (rB : rok (E 3) (E 4) B) (hj : j < B.length) (hp : p < (lit B j).2.length) :
    ∃ (x : Int) (E' : Nat → Int → Int), zM zm_X4_fits [zR 36, zI (c : Int), zI (s : Int), zR 10, zI ((offs B j : Int) + p)] (d, G, E) (some (zI x)) (d, G, E') ∧ fz [18, 19, 20, 21, 22, 23, 27, 28, 29] E E' ∧ stI E' ∧ (∀ L : Int, 0 ≤ L → L < 40 → E' 19 L = 0) ∧ ((x = 1 ∧ ∃ z, rwz (E 3) (E 4) (sdw (E 3) (R c) s) (odw (E 3) (R c) s) (tat (E 3) (lit B j).2 p) = some z ∧ E' 20 14 = z.length ∧ ∀ k : Nat, k < z.length → E' 29 k = z.getD k 0) ∨ x = 0 ∧ rwz (E 3) (E 4) (sdw (E 3) (R c) s) (odw (E 3) (R c) s) (tat (E 3) (lit B j).2 p) = none) := by
  have hr10 := zXr10 hX
  obtain ⟨g6, hck, ⟨hA, _, c5, c11, c12, c13⟩, rk⟩ := hs.2.2 c hc
  have q0 : 200 ≤ qn c := by unfold qn; omega
  obtain ⟨t, u, e1, e2, e3, e4, e5, e6, t1, t2, l1, l2, i1, i2⟩ := rule_parts hP h2 rk.1 hr
  have c12' := c12 hr
  rw [e4] at c12'
  have w30 := (hA.2.2.2 0 (by rw [hr.1]; omega)).2.2.1
  have rl := rowC_lk hA (l := 0) (by rw [hr.1]; omega)
  have o0 : offs (R c) 0 = 0 := rfl
  have o1 : offs (R c) (R c).length = 1 + t + u := by rw [hr.1]; simp only [offs]; omega
  rw [o0] at rl
  have m0 := at_ok (E := E) hX hs hc
  have r11 : E (qn c) 11 ≠ 0 := by
    rcases c11 with z | z
    · omega
    · exact absurd hr z.2
  have lo := rk.2.1 0 (by rw [hr.1]; omega)
  have tv := (rB.1 j hj).1
  obtain ⟨m, m0', m1, m2, m3, m4, m5, m6⟩ := tat_ok hP (v := (lit B j).2) (p := p) tv hp
  have b30 := (hB.2.2.2 j hj).2.2.1
  have wat := lk_tat hP tv hp (rowC_lk hB hj)
  have tot : offs B j + (lit B j).2.length ≤ offs B B.length := by
    have : offs B (j + 1) ≤ offs B B.length := offs_mono (by omega)
    simp only [offs] at this; exact this
  have pl : lk (E (qn c + 1 + 1)) 1 (fw (lft (E 3) (R c))) 0 (lft (E 3) (R c)).length := fun k hk => by
    have a := rl (1 + k) (by omega)
    have z1 : ((0 : Nat) : Int) + ((1 + k : Nat) : Int) = 1 + k := by omega
    have z2 : (0 : Int) + ((1 + k : Nat) : Int) = 1 + k := by omega
    rw [z1, z2] at a
    rw [a, l1 k (by omega)]
  have pr : lk (E (qn c + 1 + 1)) (1 + t) (fw (rgt (E 3) (R c))) 0 (rgt (E 3) (R c)).length := fun k hk => by
    have a := rl (1 + t + k) (by omega)
    have z1 : ((0 : Nat) : Int) + ((1 + t + k : Nat) : Int) = 1 + t + k := by omega
    have z2 : (0 : Int) + ((1 + t + k : Nat) : Int) = 1 + t + k := by omega
    rw [z1, z2] at a
    rw [a, l2 k (by omega)]
  have st1 := hA.2.2.1 1 (by rw [hr.1]; omega)
  have eo1 : offs (R c) 1 = 1 + t + u := by simp only [offs]; omega
  rw [eo1] at st1
  rcases (by omega : s = 0 ∨ s = 1) with z | z
  · subst z
    have es : sdw (E 3) (R c) 0 = lft (E 3) (R c) := if_pos rfl
    have eo : odw (E 3) (R c) 0 = rgt (E 3) (R c) := if_pos rfl
    rw [es, eo]
    obtain ⟨x, E', go, r⟩ := fits_core (E := E) (q := qn c) (r := 10) (A := R c) (B := B) (w := tat (E 3) (lit B j).2 p) (p := lft (E 3) (R c)) (o := rgt (E 3) (R c)) (l := 1) (ot := 1 + t) (v2 := 0) (at' := (offs B j : Int) + p) hX hr10 (by omega) hck (by omega) hP hW h19 hst hA rk.1 rk.2.1 hB rB.1 rB.2.1 m5 t1 t2 wat (by omega) (by omega) (by omega) pl (by omega) (by omega) pr (by omega) (by omega) (by omega) (fun x hx => rB.2.1 j hj x (tat_mem hx)) (fun x hx => lo x (i1 x hx)) (fun x hx => lo x (i2 x hx)) (fun z _ => by
      rcases c13 with y | y
      · exact y.2.2
      · exact absurd y.1 z) (fun x hx => rB.2.2 j hj x (tat_mem hx))
    refine ⟨x, E', zM_go rfl (Nat.le_of_ble_eq_true rfl) (fun kz Q hQ => X4_fits_0 hX hr10 ⟨some (qn c), m0, fun z => absurd z (by simp), fun _ => ⟨qn c, rfl, hck, fun _ => ⟨fun z => absurd rfl z, fun _ => X4_fits_48 (o5 := some (qn c)) (o6 := some (qn c + 1 + 1)) hX hr10 ⟨fun z => absurd rfl z, fun _ => ⟨qn c, rfl, hck, X4_fits_63 (o5 := some (qn c)) (o6 := some (qn c + 1 + 1)) hX hr10 ⟨fun z => absurd rfl z, fun _ => ⟨qn c, rfl, hck, ⟨by omega, by omega⟩, ?_⟩⟩⟩⟩⟩, fun z => absurd r11 z⟩⟩), r⟩
    rw [c12']
    have ee : E (qn c + 1 + 2) 1 = 1 + t + ((rgt (E 3) (R c)).length : Int) := by
      rw [e6]
      have : E (qn c + 1 + 2) ((1 : Nat) : Int) = ((1 + t + u : Nat) : Int) := st1
      simp at this
      rw [this]
    rw [ee]
    exact go kz Q hQ
  · subst z
    have es : sdw (E 3) (R c) 1 = rgt (E 3) (R c) := if_neg (by omega)
    have eo : odw (E 3) (R c) 1 = lft (E 3) (R c) := if_neg (by omega)
    rw [es, eo]
    obtain ⟨x, E', go, r⟩ := fits_core (E := E) (q := qn c) (r := 10) (A := R c) (B := B) (w := tat (E 3) (lit B j).2 p) (p := rgt (E 3) (R c)) (o := lft (E 3) (R c)) (l := 1 + t) (ot := 1) (v2 := 1) (at' := (offs B j : Int) + p) hX hr10 (by omega) hck (by omega) hP hW h19 hst hA rk.1 rk.2.1 hB rB.1 rB.2.1 m5 t2 t1 wat (by omega) (by omega) (by omega) pr (by omega) (by omega) pl (by omega) (by omega) (by omega) (fun x hx => rB.2.1 j hj x (tat_mem hx)) (fun x hx => lo x (i2 x hx)) (fun x hx => lo x (i1 x hx)) (fun _ z => absurd z (by omega)) (fun x hx => rB.2.2 j hj x (tat_mem hx))
    refine ⟨x, E', zM_go rfl (Nat.le_of_ble_eq_true rfl) (fun kz Q hQ => X4_fits_0 hX hr10 ⟨some (qn c), m0, fun z => absurd z (by simp), fun _ => ⟨qn c, rfl, hck, fun _ => ⟨fun _ => ?_, fun z => absurd (by decide) z⟩, fun z => absurd r11 z⟩⟩), r⟩
    rw [c12']
    refine X4_fits_48 (o5 := some (qn c)) (o6 := some (qn c + 1 + 1)) hX hr10 ⟨fun _ => X4_fits_63 (o5 := some (qn c)) (o6 := some (qn c + 1 + 1)) hX hr10 ⟨fun _ => ⟨qn c, rfl, hck, ?_⟩, fun z => absurd (by decide) z⟩, fun z => absurd (by decide) z⟩
    rw [c12', ← e5]
    rw [← e5] at go
    exact go kz Q hQ
theorem note_ok {k j n : Nat} {v4 c s : Int} {B : List zLt} (hX : zK zXt d G) (hk : k < 300) (hj : j < B.length) (hB : rowC E 10 B) (hn : E 36 11 = n) (hn8 : n < 8) (hv : 0 ≤ v4 ∧ v4 < 200) (h37 : E 37 k = c) (h38 : E 38 k = s) :
    ∃ E' : Nat → Int → Int, zM zm_X4_note [zR 36, zI (k : Int), zR 10, zI (j : Int), zI v4] (d, G, E) none (d, G, E') ∧ fz [36, 40] E E' ∧ (∀ i : Int, i ≠ 8 → i ≠ 9 → E' 36 i = E 36 i) ∧ E' 36 8 = j ∧ E' 36 9 = v4 ∧ (∀ i : Int, i < 4 * (n : Int) → E' 40 i = E 40 i) ∧ E' 40 (4 * (n : Int)) = c ∧ E' 40 (4 * (n : Int) + 1) = s ∧ E' 40 (4 * (n : Int) + 2) = j ∧ E' 40 (4 * (n : Int) + 3) = v4 - offs B j := by
  have h6 := hB.2.1
  have o1 := hB.2.2.1 j (by omega)
  have ob := rowC_le hB (l := j) (by omega)
  let F1 := zuE E 36 8 j
  let F2 := zuE F1 36 9 v4
  let F3 := zuE F2 40 (4 * (n : Int)) c
  let F4 := zuE F3 40 (4 * (n : Int) + 1) s
  let F5 := zuE F4 40 (4 * (n : Int) + 2) j
  let F6 := zuE F5 40 (4 * (n : Int) + 3) (v4 - offs B j)
  have n2 : ∀ y : Nat, y ≠ 36 → F2 y = E y := fun y hy => (zuE_nf hy).trans (zuE_nf hy)
  have a11 : F2 36 11 = n := (zuE_ix (by decide)).trans ((zuE_ix (by decide)).trans hn)
  have a37 : F2 37 k = c := by rw [n2 37 (by decide)]; exact h37
  have a38 : F3 38 k = s := by
    have : F3 38 = F2 38 := zuE_nf (by decide)
    rw [this, n2 38 (by decide)]; exact h38
  have a12 : F5 (10 + 2) j = offs B j := by
    have : F5 (10 + 2) = E (10 + 2) := (zuE_nf (by decide)).trans ((zuE_nf (by decide)).trans ((zuE_nf (by decide)).trans (n2 _ (by decide))))
    rw [this]; exact o1
  refine ⟨F6, zM_e rfl (Nat.le_of_ble_eq_true rfl) (fun kz Q hQ => X4_note_0 hX (zXr10 hX) (fun H1 e1 H2 e2 => ?_)), fz_put (fz_put (fz_put (fz_put (fz_put (fz_put fz_rfl (by simp)) (by simp)) (by simp)) (by simp)) (by simp)) (by simp), fun i i1 i2 => ?_, ?_, ?_, fun i hi => ?_, ?_, ?_, ?_, zuE_same⟩
  · have eH2 : H2 = F2 := by rw [e2, e1]
    rw [eH2, a11, a37]
    refine ⟨zin_of (by omega) (by omega), zin_of (by omega) (by omega), fun z => absurd z (by omega), fun _ => ⟨⟨by omega, by omega⟩, ⟨by omega, by omega⟩, fun H3 e3 => ?_⟩⟩
    have eH3 : H3 = F3 := e3
    rw [eH3, a38]
    refine ⟨zin_of (by omega) (by omega), ⟨by omega, by omega⟩, ⟨by omega, by omega⟩, fun H4 e4 => ⟨zin_of (by omega) (by omega), ⟨by omega, by omega⟩, fun H5 e5 => ?_⟩⟩
    have eH5 : H5 = F5 := by rw [e5, e4]
    rw [eH5, a12]
    exact ⟨zin_of (by omega) (by omega), ⟨by omega, by omega⟩, zin_of (by omega) (by omega), ⟨by omega, by omega⟩, fun H6 e6 => by rw [e6]; exact hQ⟩
  · exact (zuE_ne (by decide) _).trans ((zuE_ne (by decide) _).trans ((zuE_ne (by decide) _).trans ((zuE_ne (by decide) _).trans ((zuE_ix i2).trans (zuE_ix i1)))))
  · exact (zuE_ne (by decide) _).trans ((zuE_ne (by decide) _).trans ((zuE_ne (by decide) _).trans ((zuE_ne (by decide) _).trans ((zuE_ix (by decide)).trans zuE_same))))
  · exact (zuE_ne (by decide) _).trans ((zuE_ne (by decide) _).trans ((zuE_ne (by decide) _).trans ((zuE_ne (by decide) _).trans zuE_same)))
  · refine (zuE_ix (by omega)).trans ((zuE_ix (by omega)).trans ((zuE_ix (by omega)).trans ((zuE_ix (by omega)).trans ?_)))
    rw [n2 40 (by decide)]
  · exact (zuE_ix (by omega)).trans ((zuE_ix (by omega)).trans ((zuE_ix (by omega)).trans zuE_same))
  · exact (zuE_ix (by omega)).trans ((zuE_ix (by omega)).trans zuE_same)
  · exact (zuE_ix (by omega)).trans zuE_same
/-- what the search leaves -/
def fnd (E E' : Nat → Int → Int) (B : List zLt) (n : Nat) (y : Nat × Nat × Nat × Nat × List Int) : Prop := E' 36 8 = y.1 ∧ E' 36 9 = (offs B y.1 : Int) + y.2.1 ∧ (∀ i : Int, i < 4 * (n : Int) → E' 40 i = E 40 i) ∧ E' 40 (4 * (n : Int)) = y.2.2.1 ∧ E' 40 (4 * (n : Int) + 1) = y.2.2.2.1 ∧ E' 40 (4 * (n : Int) + 2) = y.1 ∧ E' 40 (4 * (n : Int) + 3) = y.2.1 ∧ E' 20 14 = y.2.2.2.2.length ∧ ∀ k : Nat, k < y.2.2.2.2.length → E' 29 k = y.2.2.2.2.getD k 0
theorem findFirst_ok {K n : Nat} {R : Nat → List zLt} {st : Nat → Int} {B : List zLt} (hX : zK zXt d G) (hs : stC d G E (E 3) (E 4) K R) (hP : pok (E 3)) (hW : wok (E 4)) (h2 : E 3 0 = 2) (h19 : ∀ L : Int, 0 ≤ L → L < 40 → E 19 L = 0) (hst : stI E) (hB : rowC E 10 B) (rB : rok (E 3) (E 4) B) (hkl : klA E (E 3) R (kl (E 3) (E 4) R st 0 K)) (hl3 : (kl (E 3) (E 4) R st 0 K).length ≤ 300) (hn : E 36 11 = n) (hn8 : n < 8) :
    ∃ (x : Int) (E' : Nat → Int → Int), zM zm_X4_findFirst [zR 36, zR 10] (d, G, E) (some (zI x)) (d, G, E') ∧ fz [18, 19, 20, 21, 22, 23, 27, 28, 29, 36, 40] E E' ∧ stI E' ∧ (∀ L : Int, 0 ≤ L → L < 40 → E' 19 L = 0) ∧ (∀ i : Int, i ≠ 8 → i ≠ 9 → E' 36 i = E 36 i) ∧ ((x = 0 ∧ fp (E 3) (E 4) R st K B (pq B B.length 0) = none ∧ E' 40 = E 40) ∨ x = 1 ∧ ∃ y, fp (E 3) (E 4) R st K B (pq B B.length 0) = some y ∧ fnd E E' B n y) := by
  have hr10 := zXr10 hX
  have b6 := hB.2.1
  have rokR : ∀ k : Nat, 0 ≤ k → k < 0 + K → rok (E 3) (E 4) (R k) := fun k _ hk => (hs.2.2 k (by omega)).2.2.2
  -- what stays while looking
  have keepP : ∀ F : Nat → Int → Int, fz [18, 19, 20, 21, 22, 23, 27, 28, 29] E F → stC d G F (F 3) (F 4) K R ∧ F 3 = E 3 ∧ F 4 = E 4 ∧ rowC F 10 B ∧ F 36 = E 36 ∧ F 37 = E 37 ∧ F 38 = E 38 ∧ F 39 = E 39 ∧ F 40 = E 40 := fun F hf => by
    have e3 : F 3 = E 3 := hf 3 (by simp)
    have e4 : F 4 = E 4 := hf 4 (by simp)
    refine ⟨?_, e3, e4, rowC_fz hB hf (by simp) (by simp) (by simp) (by simp), hf 36 (by simp), hf 37 (by simp), hf 38 (by simp), hf 39 (by simp), hf 40 (by simp)⟩
    rw [e3, e4]
    exact stC_fz hs hf (by simp) (by rw [hf 5 (by simp)])
  have klm : ∀ m c : Nat, ∀ x : Nat × Nat, x ∈ kl (E 3) (E 4) R st c m → c ≤ x.1 ∧ x.1 < c + m ∧ x.2 ≤ 1 ∧ st x.1 ≠ 2 ∧ ruleP (R x.1) := by
    intro m
    induction m with
    | zero => intro c x hx; exact absurd hx (by simp [kl])
    | succ m ih =>
      intro c x hx
      simp only [kl] at hx
      split at hx
      · rename_i q
        rcases List.mem_cons.1 hx with e | hx
        · subst e; exact ⟨by simp, by simp, by simp, q.1, q.2⟩
        · split at hx
          · have := ih (c + 1) x hx; exact ⟨by omega, by omega, this.2.2⟩
          · rcases List.mem_cons.1 hx with e | hx
            · subst e; exact ⟨by simp, by simp, by simp, q.1, q.2⟩
            · have := ih (c + 1) x hx; exact ⟨by omega, by omega, this.2.2⟩
      · have := ih (c + 1) x hx; exact ⟨by omega, by omega, this.2.2⟩
  -- the rules at one place
  have rules : ∀ (j p : Nat), j < B.length → 1 ≤ p → p < (lit B j).2.length → 0 ≤ fw (lit B j).2 p → ∀ (m k : Nat) (F : Nat → Int → Int), k + m = (kl (E 3) (E 4) R st 0 K).length → fz [18, 19, 20, 21, 22, 23, 27, 28, 29] E F → stI F → (∀ L : Int, 0 ≤ L → L < 40 → F 19 L = 0) →
      (∃ F' : Nat → Int → Int, fr (E 3) (E 4) R st (tat (E 3) (lit B j).2 p) ((kl (E 3) (E 4) R st 0 K).drop k) = none ∧ fz [18, 19, 20, 21, 22, 23, 27, 28, 29] E F' ∧ stI F' ∧ (∀ L : Int, 0 ≤ L → L < 40 → F' 19 L = 0) ∧ ∀ kz Q, Z zm_X4_findFirst kz Q 26 [(0, zR 36), (1, zR 10), (2, zI (j : Int)), (3, zI ((offs B j : Int) + p + 1))] [] (d, G, F') → Z zm_X4_findFirst kz Q 49 [(0, zR 36), (1, zR 10), (2, zI (j : Int)), (3, zI ((offs B j : Int) + p)), (4, zI (fw (lit B j).2 p)), (5, zI (k : Int))] [] (d, G, F)) ∨
      (∃ (E' : Nat → Int → Int) (y : (Nat × Nat) × List Int), fr (E 3) (E 4) R st (tat (E 3) (lit B j).2 p) ((kl (E 3) (E 4) R st 0 K).drop k) = some y ∧ zgo zm_X4_findFirst 49 [(0, zR 36), (1, zR 10), (2, zI (j : Int)), (3, zI ((offs B j : Int) + p)), (4, zI (fw (lit B j).2 p)), (5, zI (k : Int))] [] (d, G, F) (some (zI 1)) (d, G, E') ∧ fz [18, 19, 20, 21, 22, 23, 27, 28, 29, 36, 40] E E' ∧ stI E' ∧ (∀ L : Int, 0 ≤ L → L < 40 → E' 19 L = 0) ∧ (∀ i : Int, i ≠ 8 → i ≠ 9 → E' 36 i = E 36 i) ∧ fnd E E' B n (j, p, y.1.1, y.1.2, y.2)) := by
    intro j p hj hp1 hp2 hp0 m
    have ob := rowC_le hB (l := j + 1) (by omega)
    simp only [offs] at ob
    have w30 := (hB.2.2.2 j hj).2.2.1
    induction m with
    | zero =>
      intro k F hk hf hsF h19F
      obtain ⟨_, _, _, _, f36, _⟩ := keepP F hf
      have dr : (kl (E 3) (E 4) R st 0 K).drop k = [] := List.drop_eq_nil_of_le (by omega)
      refine Or.inl ⟨F, by rw [dr]; rfl, hf, hsF, h19F, fun kz Q K' => X4_findFirst_49 hX hr10 ⟨fun _ => ⟨zin_of (by omega) (by omega), K'⟩, fun z => absurd (by rw [f36, hkl.1]; omega) z⟩⟩
    | succ m ih =>
      intro k F hk hf hsF h19F
      obtain ⟨stF, e3, e4, hBF, f36, f37, f38, f39, f40⟩ := keepP F hf
      have hkL : k < (kl (E 3) (E 4) R st 0 K).length := by omega
      let x := (kl (E 3) (E 4) R st 0 K)[k]
      have gx : (kl (E 3) (E 4) R st 0 K).getD k (0, 0) = x := by rw [List.getD_eq_getElem?_getD, List.getElem?_eq_getElem hkL]; rfl
      have dr : (kl (E 3) (E 4) R st 0 K).drop k = x :: (kl (E 3) (E 4) R st 0 K).drop (k + 1) := List.drop_eq_getElem_cons hkL
      obtain ⟨_, x2, x3, x4, x5⟩ := klm K 0 x (List.getElem_mem hkL)
      obtain ⟨k37, k38, k39⟩ := hkl.2 k hkL
      rw [gx] at k37 k38 k39
      have xK : x.1 < K := by omega
      have ek : ((k + 1 : Nat) : Int) = (k : Int) + 1 := by omega
      obtain ⟨v, E1, m1, f1, s1, z1, hv⟩ := fits_ok (E := F) (c := x.1) (s := x.2) (j := j) (p := p) hX stF xK x5 x3 (by rw [e3]; exact hP) (by rw [e4]; exact hW) (by rw [e3]; exact h2) h19F hsF hBF (by rw [e3, e4]; exact rB) hj hp2
      rw [e3, e4] at hv
      have hf1 : fz [18, 19, 20, 21, 22, 23, 27, 28, 29] E E1 := fz_trans hf f1
      -- past this rule
      have past : rwz (E 3) (E 4) (sdw (E 3) (R x.1) x.2) (odw (E 3) (R x.1) x.2) (tat (E 3) (lit B j).2 p) = none → ∀ F2 : Nat → Int → Int, fz [18, 19, 20, 21, 22, 23, 27, 28, 29] E F2 → stI F2 → (∀ L : Int, 0 ≤ L → L < 40 → F2 19 L = 0) → (∀ kz Q, Z zm_X4_findFirst kz Q 49 [(0, zR 36), (1, zR 10), (2, zI (j : Int)), (3, zI ((offs B j : Int) + p)), (4, zI (fw (lit B j).2 p)), (5, zI ((k : Int) + 1))] [] (d, G, F2) → Z zm_X4_findFirst kz Q 49 [(0, zR 36), (1, zR 10), (2, zI (j : Int)), (3, zI ((offs B j : Int) + p)), (4, zI (fw (lit B j).2 p)), (5, zI (k : Int))] [] (d, G, F)) →
          ((∃ F' : Nat → Int → Int, fr (E 3) (E 4) R st (tat (E 3) (lit B j).2 p) ((kl (E 3) (E 4) R st 0 K).drop k) = none ∧ fz [18, 19, 20, 21, 22, 23, 27, 28, 29] E F' ∧ stI F' ∧ (∀ L : Int, 0 ≤ L → L < 40 → F' 19 L = 0) ∧ ∀ kz Q, Z zm_X4_findFirst kz Q 26 [(0, zR 36), (1, zR 10), (2, zI (j : Int)), (3, zI ((offs B j : Int) + p + 1))] [] (d, G, F') → Z zm_X4_findFirst kz Q 49 [(0, zR 36), (1, zR 10), (2, zI (j : Int)), (3, zI ((offs B j : Int) + p)), (4, zI (fw (lit B j).2 p)), (5, zI (k : Int))] [] (d, G, F)) ∨
          (∃ (E' : Nat → Int → Int) (y : (Nat × Nat) × List Int), fr (E 3) (E 4) R st (tat (E 3) (lit B j).2 p) ((kl (E 3) (E 4) R st 0 K).drop k) = some y ∧ zgo zm_X4_findFirst 49 [(0, zR 36), (1, zR 10), (2, zI (j : Int)), (3, zI ((offs B j : Int) + p)), (4, zI (fw (lit B j).2 p)), (5, zI (k : Int))] [] (d, G, F) (some (zI 1)) (d, G, E') ∧ fz [18, 19, 20, 21, 22, 23, 27, 28, 29, 36, 40] E E' ∧ stI E' ∧ (∀ L : Int, 0 ≤ L → L < 40 → E' 19 L = 0) ∧ (∀ i : Int, i ≠ 8 → i ≠ 9 → E' 36 i = E 36 i) ∧ fnd E E' B n (j, p, y.1.1, y.1.2, y.2))) := by
        intro hno F2 hf2 s2 z2 go
        rw [dr, fr_no (fun _ _ => hno)]
        rcases ih (k + 1) F2 (by omega) hf2 s2 z2 with ⟨F', a1, a2, a3, a4, a5⟩ | ⟨E', y, a1, a2, a3⟩
        · rw [ek] at a5
          exact Or.inl ⟨F', a1, a2, a3, a4, fun kz Q K' => go kz Q (a5 kz Q K')⟩
        · rw [ek] at a2
          exact Or.inr ⟨E', y, a1, fun kz Q hQ => go kz Q (a2 kz Q hQ), a3⟩
      by_cases hh : fw (sdw (E 3) (R x.1) x.2) 0 < 0 ∨ fw (sdw (E 3) (R x.1) x.2) 0 = fw (lit B j).2 p
      · have step : ∀ kz Q, ((v = 0 → zin ((k : Int) + 1) ∧ Z zm_X4_findFirst kz Q 49 [(0, zR 36), (1, zR 10), (2, zI (j : Int)), (3, zI ((offs B j : Int) + p)), (4, zI (fw (lit B j).2 p)), (5, zI ((k : Int) + 1))] [] (d, G, E1)) ∧ (¬ (v = 0) → ∃ E_15, zM zm_X4_note [zR 36, zI (k : Int), zR 10, zI (j : Int), zI ((offs B j : Int) + p)] (d, G, E1) none (d, G, E_15) ∧ Q (some (zI 1)) (d, G, E_15))) → Z zm_X4_findFirst kz Q 49 [(0, zR 36), (1, zR 10), (2, zI (j : Int)), (3, zI ((offs B j : Int) + p)), (4, zI (fw (lit B j).2 p)), (5, zI (k : Int))] [] (d, G, F) := fun kz Q K' => by
          refine X4_findFirst_49 hX hr10 ⟨fun z => absurd z (by rw [f36, hkl.1]; omega), fun _ => ⟨fun z => absurd z (by omega), fun _ => ?_⟩⟩
          rw [f37, f38, f39, k37, k38, k39]
          refine ⟨⟨by omega, by omega⟩, fun _ => ⟨⟨by omega, by omega⟩, ⟨by omega, by omega⟩, v, E1, m1, K'⟩, fun z => ⟨⟨by omega, by omega⟩, fun z' => absurd (by rcases hh with h | h; exact absurd h z; exact h) z', fun _ => ⟨⟨by omega, by omega⟩, ⟨by omega, by omega⟩, v, E1, m1, K'⟩⟩⟩
        rcases hv with ⟨v1, zz, v2, v3, v4⟩ | ⟨v1, v2⟩
        · subst v1
          have e36 : E1 36 = E 36 := hf1 36 (by simp)
          obtain ⟨E2, n1, n2, n3, n4, n5, n6, n7, n8, n9, n10⟩ := note_ok (E := E1) (k := k) (j := j) (n := n) (v4 := (offs B j : Int) + p) (c := (x.1 : Int)) (s := (x.2 : Int)) (B := B) hX (by omega) hj (rowC_fz hB hf1 (by simp) (by simp) (by simp) (by simp)) (by rw [e36]; exact hn) hn8 (by omega) (by rw [hf1 37 (by simp)]; exact k37) (by rw [hf1 38 (by simp)]; exact k38)
          refine Or.inr ⟨E2, (x, zz), by rw [dr]; exact fr_yes x4 x5 v2, fun kz Q hQ => step kz Q ⟨fun z => absurd z (by omega), fun _ => ⟨E2, n1, hQ⟩⟩, fz_trans (fz_mono hf1 (by simp)) (fz_mono n2 (by simp)), ?_, fun L a b => by rw [n2 19 (by simp)]; exact z1 L a b, fun i i1 i2 => by rw [n3 i i1 i2, e36], n4, n5, fun i hi => by rw [n6 i hi, hf1 40 (by simp)], n7, n8, n9, by rw [n10]; dsimp only; omega, by rw [n2 20 (by simp)]; exact v3, fun k' hk' => by rw [n2 29 (by simp)]; exact v4 k' hk'⟩
          unfold stI at *
          rw [n2 20 (by simp), n2 22 (by simp), n2 23 (by simp)]; exact s1
        · subst v1
          exact past v2 E1 hf1 s1 z1 (fun kz Q K' => step kz Q ⟨fun _ => ⟨zin_of (by omega) (by omega), K'⟩, fun z => absurd rfl z⟩)
      · have hno : rwz (E 3) (E 4) (sdw (E 3) (R x.1) x.2) (odw (E 3) (R x.1) x.2) (tat (E 3) (lit B j).2 p) = none := by
          refine rwz_0 ?_
          obtain ⟨t, u, _, _, _, _, _, _, t1, t2, _⟩ := rule_parts hP h2 (rokR x.1 (Nat.zero_le _) (by omega)).1 x5
          have ts : tw (E 3) (sdw (E 3) (R x.1) x.2) := by unfold sdw; split; exact t1; exact t2
          obtain ⟨m', m0', _, _, _, m4', _, m6'⟩ := tat_ok hP (v := (lit B j).2) (p := p) (rB.1 j hj).1 hp2
          have w0 := m6' 0 m0'
          simp at w0
          cases hw : sdw (E 3) (R x.1) x.2 with
          | nil => rw [hw] at ts; have := nd_ge ts; simp at this
          | cons a pa =>
            rw [hw, fw_c0] at hh
            simp only [mt]
            rw [if_pos (by omega), if_neg (fun e => hh (Or.inr (by rw [← e, w0])))]
        refine past hno F hf hsF h19F (fun kz Q K' => X4_findFirst_49 hX hr10 ⟨fun z => absurd z (by rw [f36, hkl.1]; omega), fun _ => ⟨fun z => absurd z (by omega), fun _ => ?_⟩⟩)
        rw [f39, k39]
        exact ⟨⟨by omega, by omega⟩, fun z => absurd (Or.inl z) hh, fun _ => ⟨⟨by omega, by omega⟩, fun _ => ⟨zin_of (by omega) (by omega), K'⟩, fun z => absurd (Or.inr (by omega)) hh⟩⟩
  -- the places of one literal, then the rest
  have outer : ∀ (r j : Nat) (F : Nat → Int → Int), j + r = B.length → fz [18, 19, 20, 21, 22, 23, 27, 28, 29] E F → stI F → (∀ L : Int, 0 ≤ L → L < 40 → F 19 L = 0) → 0 < (kl (E 3) (E 4) R st 0 K).length →
      ∃ (x : Int) (E' : Nat → Int → Int), zgo zm_X4_findFirst 2 [(0, zR 36), (1, zR 10), (2, zI (j : Int))] [] (d, G, F) (some (zI x)) (d, G, E') ∧ fz [18, 19, 20, 21, 22, 23, 27, 28, 29, 36, 40] E E' ∧ stI E' ∧ (∀ L : Int, 0 ≤ L → L < 40 → E' 19 L = 0) ∧ (∀ i : Int, i ≠ 8 → i ≠ 9 → E' 36 i = E 36 i) ∧ ((x = 0 ∧ fp (E 3) (E 4) R st K B (pq B r j) = none ∧ E' 40 = E 40) ∨ x = 1 ∧ ∃ y, fp (E 3) (E 4) R st K B (pq B r j) = some y ∧ fnd E E' B n y) := by
    intro r
    induction r with
    | zero =>
      intro j F hj hf hsF h19F _
      obtain ⟨_, _, _, hBF, f36, _, _, _, f40⟩ := keepP F hf
      exact ⟨0, F, fun kz Q hQ => X4_findFirst_2 hX hr10 ⟨fun _ => hQ, fun z => absurd (by rw [hBF.1]; omega) z⟩, fz_mono hf (by simp), hsF, h19F, fun i _ _ => by rw [f36], Or.inl ⟨rfl, rfl, f40⟩⟩
    | succ r ih =>
      intro j F0 hj hf0 hsF0 h19F0 hpos
      have hjB : j < B.length := by omega
      have ob := rowC_le hB (l := j + 1) (by omega)
      have w30 := (hB.2.2.2 j hjB).2.2.1
      have wp := wok1_pos (rB.1 j hjB)
      have o1 := hB.2.2.1 j (by omega)
      have o2 := hB.2.2.1 (j + 1) (by omega)
      have ej : ((j + 1 : Nat) : Int) = (j : Int) + 1 := by omega
      rw [ej] at o2
      simp only [offs] at ob o2
      have inner : ∀ (m p : Nat) (F : Nat → Int → Int), p + m = (lit B j).2.length → 1 ≤ p → fz [18, 19, 20, 21, 22, 23, 27, 28, 29] E F → stI F → (∀ L : Int, 0 ≤ L → L < 40 → F 19 L = 0) →
          ∃ (x : Int) (E' : Nat → Int → Int), zgo zm_X4_findFirst 26 [(0, zR 36), (1, zR 10), (2, zI (j : Int)), (3, zI ((offs B j : Int) + p))] [] (d, G, F) (some (zI x)) (d, G, E') ∧ fz [18, 19, 20, 21, 22, 23, 27, 28, 29, 36, 40] E E' ∧ stI E' ∧ (∀ L : Int, 0 ≤ L → L < 40 → E' 19 L = 0) ∧ (∀ i : Int, i ≠ 8 → i ≠ 9 → E' 36 i = E 36 i) ∧ ((x = 0 ∧ fp (E 3) (E 4) R st K B (sq j p m ++ pq B r (j + 1)) = none ∧ E' 40 = E 40) ∨ x = 1 ∧ ∃ y, fp (E 3) (E 4) R st K B (sq j p m ++ pq B r (j + 1)) = some y ∧ fnd E E' B n y) := by
        intro m
        induction m with
        | zero =>
          intro p F hp hp1 hf hsF h19F
          obtain ⟨_, _, _, hBF, f36, _⟩ := keepP F hf
          obtain ⟨x, E', z, zr⟩ := ih (j + 1) F (by omega) hf hsF h19F hpos
          rw [ej] at z
          have f12 : F (10 + 2) = E (10 + 2) := hf _ (by simp)
          exact ⟨x, E', fun kz Q hQ => X4_findFirst_26 hX hr10 ⟨zin_of (by omega) (by omega), ⟨by omega, by omega⟩, fun _ => ⟨zin_of (by omega) (by omega), z kz Q hQ⟩, fun z => absurd (by rw [f12, o2]; omega) z⟩, zr⟩
        | succ m ihm =>
          intro p F hp hp1 hf hsF h19F
          obtain ⟨_, _, _, hBF, f36, _⟩ := keepP F hf
          have f12 : F (10 + 2) = E (10 + 2) := hf _ (by simp)
          have f11 : F (10 + 1) = E (10 + 1) := hf _ (by simp)
          have ep : (offs B j : Int) + ((p + 1 : Nat) : Int) = offs B j + p + 1 := by omega
          have pv : E (10 + 1) ((offs B j : Int) + p) = fw (lit B j).2 p := by
            rw [(hB.2.2.2 j hjB).2.2.2 p (by omega), fw_nat]
          have go26 : ∀ kz Q, Z zm_X4_findFirst kz Q 49 [(0, zR 36), (1, zR 10), (2, zI (j : Int)), (3, zI ((offs B j : Int) + p)), (4, zI (fw (lit B j).2 p)), (5, zI 0)] [] (d, G, F) → Z zm_X4_findFirst kz Q 26 [(0, zR 36), (1, zR 10), (2, zI (j : Int)), (3, zI ((offs B j : Int) + p))] [] (d, G, F) := fun kz Q K' => by
            refine X4_findFirst_26 hX hr10 ⟨zin_of (by omega) (by omega), ⟨by omega, by omega⟩, fun z => absurd z (by rw [f12, o2]; omega), fun _ => ⟨⟨by omega, by omega⟩, ?_⟩⟩
            rw [f11, pv]; exact K'
          simp only [sq, List.cons_append]
          by_cases h0 : 0 ≤ fw (lit B j).2 p
          · have frk := fr_kl (P := E 3) (W := E 4) (R := R) (st := st) (w := tat (E 3) (lit B j).2 p) hP hW h2 (by
              obtain ⟨_, _, _, _, _, _, q, _⟩ := tat_ok hP (v := (lit B j).2) (p := p) (rB.1 j hjB).1 (by omega)
              exact q) (fun x hx => rB.2.2 j hjB x (tat_mem hx)) K 0 rokR
            rcases rules j p hjB hp1 (by omega) h0 (kl (E 3) (E 4) R st 0 K).length 0 F (by omega) hf hsF h19F with ⟨F', a1, a2, a3, a4, a5⟩ | ⟨E', y, a1, a2, a3, a4, a5, a6, a7⟩
            · rw [List.drop_zero, frk] at a1
              obtain ⟨x, E', z, zr⟩ := ihm (p + 1) F' (by omega) (by omega) a2 a3 a4
              rw [ep] at z
              rw [fp_no (x := (j, p)) a1]
              exact ⟨x, E', fun kz Q hQ => go26 kz Q (a5 kz Q (z kz Q hQ)), zr⟩
            · rw [List.drop_zero, frk] at a1
              rw [fp_yes (x := (j, p)) h0 a1]
              exact ⟨1, E', fun kz Q hQ => go26 kz Q (a2 kz Q hQ), a3, a4, a5, a6, Or.inr ⟨rfl, _, rfl, a7⟩⟩
          · obtain ⟨x, E', z, zr⟩ := ihm (p + 1) F (by omega) (by omega) hf hsF h19F
            rw [ep] at z
            rw [fp_neg (x := (j, p)) h0]
            exact ⟨x, E', fun kz Q hQ => go26 kz Q (X4_findFirst_49 hX hr10 ⟨fun _ => ⟨zin_of (by omega) (by omega), z kz Q hQ⟩, fun _ => ⟨fun _ => ⟨zin_of (by omega) (by omega), z kz Q hQ⟩, fun y => absurd (by omega) y⟩⟩), zr⟩
      obtain ⟨_, _, _, hBF, f36, _⟩ := keepP F0 hf0
      have f12 : F0 (10 + 2) = E (10 + 2) := hf0 _ (by simp)
      obtain ⟨x, E', z, zr⟩ := inner ((lit B j).2.length - 1) 1 F0 (by omega) (by omega) hf0 hsF0 h19F0
      have e1 : (offs B j : Int) + ((1 : Nat) : Int) = offs B j + 1 := by omega
      rw [e1] at z
      refine ⟨x, E', fun kz Q hQ => X4_findFirst_2 hX hr10 ⟨fun z => absurd z (by rw [hBF.1]; omega), fun _ => ⟨fun z => absurd z (by rw [f36, hkl.1]; omega), fun _ => ?_⟩⟩, zr⟩
      rw [f12, o1]
      exact ⟨⟨by omega, by omega⟩, zin_of (by omega) (by omega), z kz Q hQ⟩
  by_cases hpos : 0 < (kl (E 3) (E 4) R st 0 K).length
  · obtain ⟨x, E', z, zr⟩ := outer B.length 0 E (by omega) fz_rfl hst h19 hpos
    exact ⟨x, E', zM_go rfl (Nat.le_of_ble_eq_true rfl) (fun kz Q hQ => X4_findFirst_0 hX hr10 (z kz Q hQ)), zr⟩
  · have kn : kl (E 3) (E 4) R st 0 K = [] := List.length_eq_zero_iff.1 (by omega)
    have none_all : ∀ L : List (Nat × Nat), (∀ x, x ∈ L → x.1 < B.length ∧ x.2 < (lit B x.1).2.length) → fp (E 3) (E 4) R st K B L = none := by
      intro L
      induction L with
      | nil => intro _; rfl
      | cons x L ih =>
        intro hx
        have hx1 := hx x List.mem_cons_self
        have frk := fr_kl (P := E 3) (W := E 4) (R := R) (st := st) (w := tat (E 3) (lit B x.1).2 x.2) hP hW h2 (by
              obtain ⟨_, _, _, _, _, _, q, _⟩ := tat_ok hP (v := (lit B x.1).2) (p := x.2) (rB.1 x.1 hx1.1).1 hx1.2
              exact q) (fun y hy => rB.2.2 x.1 hx1.1 y (tat_mem hy)) K 0 rokR
        rw [kn] at frk
        rw [fp_no frk.symm]
        exact ih (fun y hy => hx y (List.mem_cons_of_mem _ hy))
    refine ⟨0, E, zM_go rfl (Nat.le_of_ble_eq_true rfl) (fun kz Q hQ => X4_findFirst_0 hX hr10 (X4_findFirst_2 hX hr10 ⟨fun _ => hQ, fun _ => ⟨fun _ => hQ, fun z => absurd (by rw [hkl.1]; omega) z⟩⟩)), fz_rfl, hst, h19, fun i _ _ => rfl, Or.inl ⟨rfl, none_all _ (fun x hx => ?_), rfl⟩⟩
    have := pq_mem hx
    exact ⟨by omega, by omega⟩
end QG
