/-! ===== judge: what it asks; the class's side ===== -/
/-- a rewriting told by four numbers can be made: with claim rn, side sn, at place pn of literal jn, z for what stands there -/
def agQ (P W : Int → Int) (R : Nat → List zLt) (c : Nat) (B : List zLt) (r sd j pl : Int) (rn sn jn pn : Nat) (z : List Int) : Prop := (r = rn ∧ rn < c) ∧ ruleP (R rn) ∧ (sd = sn ∧ sn ≤ 1) ∧ (j = jn ∧ jn < B.length) ∧ (pl = pn ∧ 1 ≤ pn ∧ pn < (lit B jn).2.length) ∧ 0 ≤ fw (lit B jn).2 pn ∧ rwz P W (sdw P (R rn) sn) (odw P (R rn) sn) (tat P (lit B jn).2 pn) = some z ∧ (lit B jn).2.length - tl P (fw (lit B jn).2) pn + z.length ≤ 30
def AG (P W : Int → Int) (R : Nat → List zLt) (c : Nat) (B : List zLt) (r sd j pl : Int) (o : Option (List zLt)) : Prop := (∃ (rn sn jn pn : Nat) (z : List Int), agQ P W R c B r sd j pl rn sn jn pn z ∧ o = some (rpA P B jn pn z)) ∨ ((∀ (rn sn jn pn : Nat) (z : List Int), ¬ agQ P W R c B r sd j pl rn sn jn pn z) ∧ o = none)
theorem AG_det {P W : Int → Int} {R : Nat → List zLt} {c : Nat} {B : List zLt} {r sd j pl : Int} {o o' : Option (List zLt)} (h : AG P W R c B r sd j pl o) (h' : AG P W R c B r sd j pl o') : o = o' := by
  rcases h with ⟨rn, sn, jn, pn, z, q, e⟩ | ⟨q, e⟩ <;> rcases h' with ⟨rn', sn', jn', pn', z', q', e'⟩ | ⟨q', e'⟩
  · have q0 := q
    have q0' := q'
    obtain ⟨⟨a1, _⟩, _, ⟨a2, _⟩, ⟨a3, _⟩, ⟨a4, _, _⟩, _, a5, _⟩ := q
    obtain ⟨⟨b1, _⟩, _, ⟨b2, _⟩, ⟨b3, _⟩, ⟨b4, _, _⟩, _, b5, _⟩ := q'
    have e1 : rn = rn' := by omega
    have e2 : sn = sn' := by omega
    have e3 : jn = jn' := by omega
    have e4 : pn = pn' := by omega
    subst e1; subst e2; subst e3; subst e4
    have e5 : z = z' := by
      have := a5.symm.trans b5
      simpa using this
    rw [e, e', e5]
  · exact absurd q (q' _ _ _ _ _)
  · exact absurd q' (q _ _ _ _ _)
  · rw [e, e']
/-- rewritings, from the k-th on, and whether the row comes out -/
def JR (P W : Int → Int) (R : Nat → List zLt) (c : Nat) (tt : List Int) : Nat → Nat → List zLt → Int → Prop
  | 0, _, B, x => (x = 1 ∧ B = R c) ∨ (x = 0 ∧ B ≠ R c)
  | m + 1, k, B, x => ∃ o, AG P W R c B (tt.getD (4 * k) 0) (tt.getD (4 * k + 1) 0) (tt.getD (4 * k + 2) 0) (tt.getD (4 * k + 3) 0) o ∧ ((o = none ∧ x = 0) ∨ ∃ B', o = some B' ∧ JR P W R c tt m (k + 1) (cln P W B') x)
theorem JR_det {P W : Int → Int} {R : Nat → List zLt} {c : Nat} {tt : List Int} : ∀ {m k : Nat} {B : List zLt} {x x' : Int}, JR P W R c tt m k B x → JR P W R c tt m k B x' → x = x'
  | 0, k, B, x, x', h, h' => by
    rcases h with ⟨a, b⟩ | ⟨a, b⟩ <;> rcases h' with ⟨a', b'⟩ | ⟨a', b'⟩
    · omega
    · exact absurd b b'
    · exact absurd b' b
    · omega
  | m + 1, k, B, x, x', h, h' => by
    obtain ⟨o, a1, a2⟩ := h
    obtain ⟨o', b1, b2⟩ := h'
    have e := AG_det a1 b1
    subst e
    rcases a2 with ⟨c1, c2⟩ | ⟨B1, c1, c2⟩ <;> rcases b2 with ⟨d1, d2⟩ | ⟨B2, d1, d2⟩
    · omega
    · rw [c1] at d1; simp at d1
    · rw [c1] at d1; simp at d1
    · rw [c1] at d1
      have e2 : B1 = B2 := by simpa using d1
      subst e2
      exact JR_det c2 d2
/-- what judge answers of a claim -/
def JD (P W : Int → Int) (s : zS) (c : Nat) (x : Int) : Prop := ∃ r0 : Option (Option (List zLt)), (((sN s c).getD 0 0 = 0 ∧ r0 = some (some (sS s c))) ∨ ((sN s c).getD 0 0 ≠ 0 ∧ stR P W (sR s) (c : Int) (sN s c) r0)) ∧ ((∃ A', r0 = some (some A') ∧ ((20 < cll P W A' ∧ x = 0) ∨ (cll P W A' ≤ 20 ∧ JR P W (sR s) c (sW s c) ((sW s c).length / 4) 0 (cln P W A') x))) ∨ ((∀ A', r0 ≠ some (some A')) ∧ x = 0))
theorem JD_det {P W : Int → Int} {s : zS} {c : Nat} {x x' : Int} (h : JD P W s c x) (h' : JD P W s c x') : x = x' := by
  obtain ⟨r, a1, a2⟩ := h
  obtain ⟨r', b1, b2⟩ := h'
  have e : r = r' := by
    rcases a1 with ⟨p, q⟩ | ⟨p, q⟩ <;> rcases b1 with ⟨p', q'⟩ | ⟨p', q'⟩
    · rw [q, q']
    · exact absurd p p'
    · exact absurd p' p
    · exact stR_det q q'
  subst e
  rcases a2 with ⟨A, p1, p2⟩ | ⟨p1, p2⟩ <;> rcases b2 with ⟨A', q1, q2⟩ | ⟨q1, q2⟩
  · rw [p1] at q1
    have e : A = A' := by simpa using q1
    subst e
    rcases p2 with ⟨u1, u2⟩ | ⟨u1, u2⟩ <;> rcases q2 with ⟨v1, v2⟩ | ⟨v1, v2⟩
    · omega
    · omega
    · omega
    · exact JR_det u2 v2
  · exact absurd p1 (q1 A)
  · exact absurd q1 (p1 A')
  · omega
/-- a row behind a rewriting that was told -/
theorem rpA_ok2 {P W : Int → Int} (hP : pok P) (h2 : P 0 = 2) {R : Nat → List zLt} {A : List zLt} {j p c s : Nat} {z : List Int} (hA : rok P W A) (rc : rok P W (R c)) (s1 : j < A.length) (s2 : 1 ≤ p) (s3 : p < (lit A j).2.length) (s8 : ruleP (R c)) (s9 : rwz P W (sdw P (R c) s) (odw P (R c) s) (tat P (lit A j).2 p) = some z) : aok P (rpA P A j p z) ∧ (∀ x, pls (rpA P A j p z) x → -20 ≤ x) ∧ (∀ x, pls (rpA P A j p z) x → 0 ≤ x → 1 ≤ W x) ∧ z.length ≤ (tl P (fw (lit A j).2) p) * (odw P (R c) s).length := by
  rw [rok_iff] at hA
  obtain ⟨a1, a2, a3⟩ := hA
  obtain ⟨t, u, _, _, _, _, e5, e6, t1, t2, _, _, i1, i2⟩ := rule_parts hP h2 rc.1 s8
  have rc' := rok_iff.1 rc
  have l0 : 0 < (R c).length := by rw [s8.1]; omega
  have ts : tw P (sdw P (R c) s) := by unfold sdw; split; exact t1; exact t2
  have to : tw P (odw P (R c) s) := by unfold odw; split; exact t2; exact t1
  have oi : ∀ x, x ∈ odw P (R c) s → pls (R c) x := fun x hx => by
    unfold odw at hx
    split at hx
    · exact ⟨_, lit_mem l0, i2 x hx⟩
    · exact ⟨_, lit_mem l0, i1 x hx⟩
  obtain ⟨m, m0, m1, m2, m3, m4, m5, m6⟩ := tat_ok hP (v := (lit A j).2) (p := p) (a1 j s1).1 s3
  obtain ⟨z1, z2, z3⟩ := rwz_spec hP ts to m5 s9
  have zp : ∀ x, x ∈ z → (pls (R c) x ∧ 0 ≤ x) ∨ pls A x := fun x hx => by
    rcases z3 x hx with q | q
    · exact Or.inl ⟨oi x q.1, q.2⟩
    · exact Or.inr ⟨_, lit_mem s1, tat_mem q⟩
  have pl : ∀ x, pls (rpA P A j p z) x → pls A x ∨ (pls (R c) x ∧ 0 ≤ x) := fun x hx => by
    obtain ⟨y, y1, y2⟩ := hx
    rcases rpA_mem y1 with q | q
    · exact Or.inl ⟨y, q, y2⟩
    · rw [q] at y2
      rcases rpl_mem y2 with q | q
      · exact Or.inl ⟨_, lit_mem s1, q⟩
      · exact (zp x q).symm
  refine ⟨?_, fun x hx => ?_, fun x hx h0 => ?_, by rw [m1, ← m4]; exact z2⟩
  · rw [aok_iff]
    intro y hy
    rcases rpA_mem hy with q | q
    · exact aok_iff.1 a1 y q
    · rw [q]
      have w1 := a1 j s1
      refine ⟨tw_rpl hP w1.1 s3 z1, ?_, fun k hk => ?_⟩
      · dsimp only
        rw [m1]
        have e : ∀ v : List Int, fw v 0 = v.getD 0 0 := fun v => rfl
        rw [e, rpl_l (by omega) (by omega)]
        exact w1.2.1
      · dsimp only at hk ⊢
        rcases rpl_mem (fw_mem hk) with q | q
        · have := a2 _ ⟨_, lit_mem s1, q⟩
          omega
        · rcases zp _ q with q | q
          · omega
          · have := a2 _ q; omega
  · rcases pl x hx with q | q
    · exact a2 x q
    · omega
  · rcases pl x hx with q | q
    · exact a3 x q h0
    · exact rc'.2.2 x q.1 h0
theorem odw_le {P : Int → Int} (hP : pok P) (h2 : P 0 = 2) {A : List zLt} (ha : aok P A) (hr : ruleP A) (h30 : (lit A 0).2.length ≤ 30) (s : Nat) : (odw P A s).length ≤ 29 := by
  obtain ⟨t, u, e1, e2, e3, _, e5, e6, _⟩ := rule_parts hP h2 ha hr
  unfold odw
  split <;> omega
theorem mul_le {a b : Nat} (h1 : a ≤ 30) (h2 : b ≤ 29) : a * b ≤ 900 := Nat.le_trans (Nat.mul_le_mul h1 h2) (by decide)
section TK
variable {d : List Nat} {G : Nat → Int → Option Nat} {E : Nat → Int → Int}
theorem fits_no {K : Nat} {R : Nat → List zLt} {P W : Int → Int} {r v2 v4 : Int} (hX : zK zXt d G) (hs : stC d G E P W K R) (hr : ∀ n : Nat, r = n → n < K → ¬ ruleP (R n)) : zM zm_X4_fits [zR 36, zI r, zI v2, zR 10, zI v4] (d, G, E) (some (zI 0)) (d, G, E) := by
  by_cases h : 0 ≤ r ∧ r < K
  · obtain ⟨n, rfl⟩ : ∃ n : Nat, r = n := ⟨r.toNat, by omega⟩
    have hn : n < K := by omega
    obtain ⟨_, zc, cR, _⟩ := hs.2.2 n hn
    have e11 : E (qn n) 11 = 0 := by
      rcases cR.2.2.2.1 with ⟨_, q⟩ | ⟨q, _⟩
      · exact absurd q (hr n rfl hn)
      · exact q
    exact zM_e rfl (Nat.le_of_ble_eq_true rfl) (fun kz Q hQ => X4_fits_0 hX (zXr10 hX) ⟨_, at_ok hX hs hn, fun y => absurd y (by simp), fun _ => ⟨_, rfl, zc, fun y => absurd e11 y, fun _ => hQ⟩⟩)
  · exact zM_e rfl (Nat.le_of_ble_eq_true rfl) (fun kz Q hQ => X4_fits_0 hX (zXr10 hX) ⟨_, at_no hX hs h, fun _ => hQ, fun y => absurd rfl y⟩)
def aS : List Nat := [11, 12, 18, 19, 20, 21, 22, 23, 27, 28, 29]
theorem again_ok {K c k : Nat} {R : Nat → List zLt} {B : List zLt} {r sd j pl : Int} (hX : zK zXt d G) (hs : stC d G E (E 3) (E 4) K R) (hc : c < K) (hk : k < 8) (hP : pok (E 3)) (hW : wok (E 4)) (h2 : E 3 0 = 2) (h19 : ∀ L : Int, 0 ≤ L → L < 40 → E 19 L = 0) (hst : stI E) (hB : rowC E 10 B) (rB : rok (E 3) (E 4) B) (e0 : E (qn c + 6) (4 * (k : Int)) = r) (e1 : E (qn c + 6) (4 * (k : Int) + 1) = sd) (e2 : E (qn c + 6) (4 * (k : Int) + 2) = j) (e3 : E (qn c + 6) (4 * (k : Int) + 3) = pl) :
    ∃ (x : Int) (E' : Nat → Int → Int) (o : Option (List zLt)), zM zm_X4_again [zR 36, zR (qn c), zI (k : Int), zI (c : Int), zR 10] (d, G, E) (some (zI x)) (d, G, E') ∧ fz aS E E' ∧ stI E' ∧ (∀ L : Int, 0 ≤ L → L < 40 → E' 19 L = 0) ∧ AG (E 3) (E 4) R c B r sd j pl o ∧ ((o = none ∧ x = 0) ∨ ∃ B', o = some B' ∧ x = 1 ∧ rowC E' 10 B') := by
  have hr10 := zXr10 hX
  have zc := (hs.2.2 c hc).2.1
  have B6 := hB.2.1
  have pre : ∀ (kz : Nat × Nat) (Q : Option zV → zH → Prop), ((c : Int) ≤ r → Q (some (zI 0)) (d, G, E)) ∧ (¬ ((c : Int) ≤ r) → (sd < 0 → Q (some (zI 0)) (d, G, E)) ∧ (¬ (sd < 0) → (1 < sd → Q (some (zI 0)) (d, G, E)) ∧ (¬ (1 < sd) → ∃ x_15, zM zm_X5_has [zR 10, zI j] (d, G, E) (some (zI x_15)) (d, G, E) ∧ (x_15 = 0 → Q (some (zI 0)) (d, G, E)) ∧ (¬ (x_15 = 0) → (pl < 1 → Q (some (zI 0)) (d, G, E)) ∧ (¬ (pl < 1) → ∃ x_20, zM zm_X5_length [zR 10, zI j] (d, G, E) (some (zI x_20)) (d, G, E) ∧ (pl < x_20 → ((0 : Int) ≤ j ∧ j < (7 : Int)) ∧ zin ((E (10 + 2) j) + pl) ∧ ((0 : Int) ≤ ((E (10 + 2) j) + pl) ∧ ((E (10 + 2) j) + pl) < (180 : Int)) ∧ (0 ≤ (E (10 + 1) ((E (10 + 2) j) + pl)) → ∃ x_28 E_29, zM zm_X4_fits [zR 36, zI r, zI sd, zR 10, zI (((E (10 + 2) j) + pl))] (d, G, E) (some (zI x_28)) (d, G, E_29) ∧ (x_28 = 0 → Q (some (zI 0)) (d, G, E_29)) ∧ (¬ (x_28 = 0) → ∃ x_33 E_34, zM zm_X4_replace [zR 36, zR 10, zI j, zI (((E (10 + 2) j) + pl))] (d, G, E_29) (some (zI x_33)) (d, G, E_34) ∧ (x_33 = 0 → Q (some (zI 0)) (d, G, E_34)) ∧ (¬ (x_33 = 0) → Q (some (zI 1)) (d, G, E_34)))) ∧ (¬ (0 ≤ (E (10 + 1) ((E (10 + 2) j) + pl))) → Q (some (zI 0)) (d, G, E))) ∧ (¬ (pl < x_20) → Q (some (zI 0)) (d, G, E))))))) → Z zm_X4_again kz Q 0 (zent 0 [zR 36, zR (qn c), zI (k : Int), zI (c : Int), zR 10]) [] (d, G, E) := fun kz Q hz => by
    refine X4_again_0 hX zc hr10 ⟨zin_of (by omega) (by omega), fun y => absurd y (by omega), fun _ => ⟨zin_of (by omega) (by omega), fun _ => ⟨⟨by omega, by omega⟩, zin_of (by omega) (by omega), ⟨by omega, by omega⟩, zin_of (by omega) (by omega), ⟨by omega, by omega⟩, zin_of (by omega) (by omega), ⟨by omega, by omega⟩, ?_⟩, fun y => absurd (by omega) y⟩⟩
    rw [e0, e1, e2, e3]
    exact hz
  have no : (∀ (rn sn jn pn : Nat) (z : List Int), ¬ agQ (E 3) (E 4) R c B r sd j pl rn sn jn pn z) → (∀ (kz : Nat × Nat) (Q : Option zV → zH → Prop), Q (some (zI 0)) (d, G, E) → Z zm_X4_again kz Q 0 (zent 0 [zR 36, zR (qn c), zI (k : Int), zI (c : Int), zR 10]) [] (d, G, E)) → ∃ (x : Int) (E' : Nat → Int → Int) (o : Option (List zLt)), zM zm_X4_again [zR 36, zR (qn c), zI (k : Int), zI (c : Int), zR 10] (d, G, E) (some (zI x)) (d, G, E') ∧ fz aS E E' ∧ stI E' ∧ (∀ L : Int, 0 ≤ L → L < 40 → E' 19 L = 0) ∧ AG (E 3) (E 4) R c B r sd j pl o ∧ ((o = none ∧ x = 0) ∨ ∃ B', o = some B' ∧ x = 1 ∧ rowC E' 10 B') := fun hn hz => ⟨0, E, none, zM_e rfl (Nat.le_of_ble_eq_true rfl) hz, fz_rfl, hst, h19, Or.inr ⟨hn, rfl⟩, Or.inl ⟨rfl, rfl⟩⟩
  by_cases c1 : (c : Int) ≤ r
  · exact no (fun rn sn jn pn z q => by have := q.1; omega) (fun kz Q hQ => pre kz Q ⟨fun _ => hQ, fun y => absurd c1 y⟩)
  by_cases c2 : sd < 0
  · exact no (fun rn sn jn pn z q => by have := q.2.2.1; omega) (fun kz Q hQ => pre kz Q ⟨fun y => absurd y c1, fun _ => ⟨fun _ => hQ, fun y => absurd c2 y⟩⟩)
  by_cases c3 : 1 < sd
  · exact no (fun rn sn jn pn z q => by have := q.2.2.1; omega) (fun kz Q hQ => pre kz Q ⟨fun y => absurd y c1, fun _ => ⟨fun y => absurd y c2, fun _ => ⟨fun _ => hQ, fun y => absurd c3 y⟩⟩⟩)
  have hh := has_ok (E := E) hX hr10 hB j
  by_cases c4 : 0 ≤ j ∧ j < B.length
  case neg =>
    rw [if_neg c4] at hh
    exact no (fun rn sn jn pn z q => by have := q.2.2.2.1; omega) (fun kz Q hQ => pre kz Q ⟨fun y => absurd y c1, fun _ => ⟨fun y => absurd y c2, fun _ => ⟨fun y => absurd y c3, fun _ => ⟨0, hh, fun _ => hQ, fun y => absurd rfl y⟩⟩⟩⟩)
  rw [if_pos c4] at hh
  by_cases c5 : pl < 1
  · exact no (fun rn sn jn pn z q => by have := q.2.2.2.2.1; omega) (fun kz Q hQ => pre kz Q ⟨fun y => absurd y c1, fun _ => ⟨fun y => absurd y c2, fun _ => ⟨fun y => absurd y c3, fun _ => ⟨1, hh, fun y => absurd y (by decide), fun _ => ⟨fun _ => hQ, fun y => absurd c5 y⟩⟩⟩⟩⟩)
  obtain ⟨jn, rfl⟩ : ∃ n : Nat, j = n := ⟨j.toNat, by omega⟩
  obtain ⟨pn, rfl⟩ : ∃ n : Nat, pl = n := ⟨pl.toNat, by omega⟩
  obtain ⟨sn, rfl⟩ : ∃ n : Nat, sd = n := ⟨sd.toNat, by omega⟩
  have hj : jn < B.length := by omega
  have ln := length_ok (E := E) hX hr10 hB hj
  have jq : ∀ (rn sn' jn' pn' : Nat) (z : List Int), agQ (E 3) (E 4) R c B r (sn : Int) (jn : Int) (pn : Int) rn sn' jn' pn' z → r = rn ∧ jn' = jn ∧ pn' = pn ∧ sn' = sn := fun rn sn' jn' pn' z q => by
    obtain ⟨⟨a1, _⟩, _, ⟨a2, _⟩, ⟨a3, _⟩, ⟨a4, _, _⟩, _⟩ := q
    exact ⟨a1, by omega, by omega, by omega⟩
  by_cases c6 : pn < (lit B jn).2.length
  case neg =>
    refine no (fun rn sn' jn' pn' z q => ?_) (fun kz Q hQ => pre kz Q ⟨fun y => absurd y c1, fun _ => ⟨fun y => absurd y c2, fun _ => ⟨fun y => absurd y c3, fun _ => ⟨1, hh, fun y => absurd y (by decide), fun _ => ⟨fun y => absurd y c5, fun _ => ⟨_, ln, fun y => absurd y (by omega), fun _ => hQ⟩⟩⟩⟩⟩⟩)
    obtain ⟨_, e1', e2', _⟩ := jq _ _ _ _ _ q
    have := q.2.2.2.2.1
    rw [e1', e2'] at this
    omega
  have st := hB.2.2.1 jn (by omega)
  have so := rowC_le hB (l := jn + 1) (by omega)
  simp only [offs] at so
  obtain ⟨_, _, l30, vB⟩ := hB.2.2.2 jn hj
  have vp : E (10 + 1) ((offs B jn : Int) + (pn : Int)) = fw (lit B jn).2 pn := by rw [vB pn c6, fw_nat]
  have pre2 : ∀ (kz : Nat × Nat) (Q : Option zV → zH → Prop), (0 ≤ fw (lit B jn).2 pn → ∃ x_28 E_29, zM zm_X4_fits [zR 36, zI r, zI (sn : Int), zR 10, zI ((offs B jn : Int) + (pn : Int))] (d, G, E) (some (zI x_28)) (d, G, E_29) ∧ (x_28 = 0 → Q (some (zI 0)) (d, G, E_29)) ∧ (¬ (x_28 = 0) → ∃ x_33 E_34, zM zm_X4_replace [zR 36, zR 10, zI (jn : Int), zI ((offs B jn : Int) + (pn : Int))] (d, G, E_29) (some (zI x_33)) (d, G, E_34) ∧ (x_33 = 0 → Q (some (zI 0)) (d, G, E_34)) ∧ (¬ (x_33 = 0) → Q (some (zI 1)) (d, G, E_34)))) ∧ (¬ (0 ≤ fw (lit B jn).2 pn) → Q (some (zI 0)) (d, G, E)) → Z zm_X4_again kz Q 0 (zent 0 [zR 36, zR (qn c), zI (k : Int), zI (c : Int), zR 10]) [] (d, G, E) := fun kz Q hz => by
    refine pre kz Q ⟨fun y => absurd y c1, fun _ => ⟨fun y => absurd y c2, fun _ => ⟨fun y => absurd y c3, fun _ => ⟨1, hh, fun y => absurd y (by decide), fun _ => ⟨fun y => absurd y c5, fun _ => ⟨_, ln, fun _ => ?_, fun y => absurd (by omega) y⟩⟩⟩⟩⟩⟩
    rw [st, vp]
    exact ⟨⟨by omega, by omega⟩, zin_of (by omega) (by omega), ⟨by omega, by omega⟩, hz⟩
  by_cases c7 : 0 ≤ fw (lit B jn).2 pn
  case neg =>
    refine no (fun rn sn' jn' pn' z q => ?_) (fun kz Q hQ => pre2 kz Q ⟨fun y => absurd y c7, fun _ => hQ⟩)
    obtain ⟨_, e1', e2', _⟩ := jq _ _ _ _ _ q
    have := q.2.2.2.2.2.1
    rw [e1', e2'] at this
    exact c7 this
  by_cases c8 : ∃ n : Nat, r = n ∧ n < K ∧ ruleP (R n)
  case neg =>
    refine no (fun rn sn' jn' pn' z q => ?_) (fun kz Q hQ => pre2 kz Q ⟨fun _ => ⟨0, E, fits_no hX hs (fun n h1 h3 h4 => c8 ⟨n, h1, h3, h4⟩), fun _ => hQ, fun y => absurd rfl y⟩, fun y => absurd c7 y⟩)
    exact c8 ⟨rn, q.1.1, by have := q.1.2; omega, q.2.1⟩
  obtain ⟨rn, rfl, rK, rl⟩ := c8
  have rr := (hs.2.2 rn rK).2.2
  obtain ⟨x, E1, m1, f1, I1, z1, hx⟩ := fits_ok (E := E) hX hs rK rl (s := sn) (by omega) hP hW h2 h19 hst hB rB hj c6
  rcases hx with ⟨x1, z, hz, ez, vz⟩ | ⟨x0, hz⟩
  case inr =>
    refine ⟨0, E1, none, zM_e rfl (Nat.le_of_ble_eq_true rfl) (fun kz Q hQ => pre2 kz Q ⟨fun _ => ⟨x, E1, m1, fun _ => hQ, fun y => absurd x0 y⟩, fun y => absurd c7 y⟩), fz_mono f1 (by simp [aS]), I1, z1, Or.inr ⟨fun rn' sn' jn' pn' z' q => ?_, rfl⟩, Or.inl ⟨rfl, rfl⟩⟩
    obtain ⟨e1', e2', e3', e4'⟩ := jq _ _ _ _ _ q
    have e5' : rn' = rn := by omega
    have := q.2.2.2.2.2.2.1
    rw [e2', e3', e4', e5', hz] at this
    simp at this
  obtain ⟨ra, rlo, rwt, zl⟩ := rpA_ok2 hP h2 rB rr.2 hj (by omega) c6 rl hz
  obtain ⟨m, m0, mt1, mt2, _⟩ := tat_ok hP (v := (lit B jn).2) (p := pn) (rB.1 jn hj).1 c6
  have l30' := (rr.1.1.2.2.2 0 (by rw [rl.1]; decide)).2.2.1
  have z9 : z.length ≤ 900 := Nat.le_trans zl (mul_le (by rw [mt1]; omega) (odw_le hP h2 rr.2.1 rl l30' sn))
  have B1 : rowC E1 10 B := rowC_fz hB f1 (by simp) (by simp) (by simp) (by simp)
  have a3 : E1 3 = E 3 := f1 3 (by simp)
  have RP := replaceR_ok (E := E1) (d := d) (G := G) (j := jn) (p := pn) (z := z) hX (by rw [a3]; exact hP) B1 (by rw [a3]; exact rB.1) hj c6 ez z9 vz
  rw [a3] at RP
  obtain ⟨y, E2, m2, f2, hy⟩ := RP
  have ff : fz aS E E2 := fz_trans (fz_mono f1 (by simp [aS])) (fz_mono f2 (by simp [aS]))
  have I2 : stI E2 := by
    unfold stI at *
    rw [f2 20 (by simp), f2 22 (by simp), f2 23 (by simp)]; exact I1
  have z2 : ∀ L : Int, 0 ≤ L → L < 40 → E2 19 L = 0 := by rw [f2 19 (by simp)]; exact z1
  rcases hy with ⟨y1, y30, yr⟩ | ⟨y0, y30, _⟩
  · exact ⟨1, E2, some (rpA (E 3) B jn pn z), zM_e rfl (Nat.le_of_ble_eq_true rfl) (fun kz Q hQ => pre2 kz Q ⟨fun _ => ⟨x, E1, m1, fun q => absurd q (by omega), fun _ => ⟨y, E2, m2, fun q => absurd q (by omega), fun _ => hQ⟩⟩, fun y => absurd c7 y⟩), ff, I2, z2, Or.inl ⟨rn, sn, jn, pn, z, ⟨⟨rfl, by omega⟩, rl, ⟨rfl, by omega⟩, ⟨rfl, hj⟩, ⟨rfl, by omega, c6⟩, c7, hz, y30⟩, rfl⟩, Or.inr ⟨_, rfl, rfl, yr⟩⟩
  · refine ⟨0, E2, none, zM_e rfl (Nat.le_of_ble_eq_true rfl) (fun kz Q hQ => pre2 kz Q ⟨fun _ => ⟨x, E1, m1, fun q => absurd q (by omega), fun _ => ⟨y, E2, m2, fun _ => hQ, fun q => absurd y0 q⟩⟩, fun y => absurd c7 y⟩), ff, I2, z2, Or.inr ⟨fun rn' sn' jn' pn' z' q => ?_, rfl⟩, Or.inl ⟨rfl, rfl⟩⟩
    obtain ⟨e1', e2', e3', e4'⟩ := jq _ _ _ _ _ q
    have e5' : rn' = rn := by omega
    have q1 := q.2.2.2.2.2.2.1
    have q2 := q.2.2.2.2.2.2.2
    rw [e2', e3', e4', e5', hz] at q1
    have e6' : z = z' := by simpa using q1
    rw [e2', e3', ← e6'] at q2
    exact y30 q2
def jS : List Nat := [10, 11, 12, 13, 18, 19, 20, 21, 22, 23, 24, 25, 26, 27, 28, 29, 30, 31, 32]
theorem judge_go {K c : Nat} {R : Nat → List zLt} {tt : List Int} {n : Nat} (hX : zK zXt d G) (hs : stC d G E (E 3) (E 4) K R) (hc : c < K) (hP : pok (E 3)) (hW : wok (E 4)) (h2 : E 3 0 = 2) (hn : tt.length = 4 * n) (hn8 : n ≤ 8) (e4 : E (qn c) 4 = n) (hE : ∀ i : Nat, i < tt.length → E (qn c + 6) i = tt.getD i 0) : ∀ (m k : Nat) (F : Nat → Int → Int) (B : List zLt), k + m = n → fz jS E F → stI F → (∀ L : Int, 0 ≤ L → L < 40 → F 19 L = 0) → rowC F 10 B → rok (E 3) (E 4) B → ∃ (x : Int) (F' : Nat → Int → Int), zgo zm_X11_judge 84 [(0, zR 0), (1, zI (c : Int)), (2, zR (qn c)), (3, zI (k : Int))] [] (d, G, F) (some (zI x)) (d, G, F') ∧ fz jS E F' ∧ stI F' ∧ (∀ L : Int, 0 ≤ L → L < 40 → F' 19 L = 0) ∧ JR (E 3) (E 4) R c tt m k B x := by
  have zc := (hs.2.2 c hc).2.1
  have hr10 := zXr10 hX
  have q2 : 200 ≤ qn c := by unfold qn; omega
  intro m
  induction m with
  | zero =>
    intro k F B hk hf hI h19 hB rB
    have f4 : F (qn c) 4 = n := by rw [hf _ (by simp [jS]; omega)]; exact e4
    have sF : stC d G F (E 3) (E 4) K R := stC_fz hs hf (by simp [jS]) (by rw [hf 5 (by simp [jS])])
    have rc := (sF.2.2 c hc).2.2.1.1
    obtain ⟨x, mx, hx⟩ := same_ok (E := F) hX hr10 zc.2.2.1 hB rc
    have x01 : x = 0 ∨ x = 1 := by
      rcases hx with ⟨a, _⟩ | ⟨a, _⟩
      · exact Or.inr a
      · exact Or.inl a
    refine ⟨x, F, fun kz Q hQ => X11_judge_84 hX ⟨_, rfl, zc, fun _ => ⟨x, mx, fun y => ?_, fun y => ?_⟩, fun y => absurd (by omega) y⟩, hf, hI, h19, hx⟩
    · rw [y] at hQ; exact hQ
    · rw [show x = 1 by omega] at hQ; exact hQ
  | succ m ih =>
    intro k F B hk hf hI h19 hB rB
    have f4 : F (qn c) 4 = n := by rw [hf _ (by simp [jS]; omega)]; exact e4
    have sF : stC d G F (E 3) (E 4) K R := stC_fz hs hf (by simp [jS]) (by rw [hf 5 (by simp [jS])])
    have a3 : F 3 = E 3 := hf 3 (by simp [jS])
    have a4 : F 4 = E 4 := hf 4 (by simp [jS])
    have hv : ∀ i : Nat, i < 4 → F (qn c + 6) (4 * (k : Int) + (i : Int)) = tt.getD (4 * k + i) 0 := fun i hi => by
      rw [hf _ (by simp [jS]; omega)]
      have := hE (4 * k + i) (by omega)
      rw [← this]
      congr 1
    have v0 : F (qn c + 6) (4 * (k : Int)) = tt.getD (4 * k) 0 := by
      have := hv 0 (by decide)
      simpa using this
    have AA := again_ok (E := F) (d := d) (G := G) (k := k) hX (by rw [a3, a4]; exact sF) hc (by omega) (by rw [a3]; exact hP) (by rw [a4]; exact hW) (by rw [a3]; exact h2) h19 hI hB (by rw [a3, a4]; exact rB) v0 (hv 1 (by decide)) (hv 2 (by decide)) (hv 3 (by decide))
    rw [a3, a4] at AA
    obtain ⟨x, F1, o, m1, f1, I1, z1, ag, hx⟩ := AA
    have ff1 : fz jS E F1 := fz_trans hf (fz_mono f1 (by simp [aS, jS]))
    rcases hx with ⟨o0, x0⟩ | ⟨B', o1, x1, rB'⟩
    · exact ⟨0, F1, fun kz Q hQ => X11_judge_84 hX ⟨_, rfl, zc, fun y => absurd y (by omega), fun _ => ⟨x, F1, m1, fun y => absurd x0 y, fun _ => hQ⟩⟩, ff1, I1, z1, o, ag, Or.inl ⟨o0, rfl⟩⟩
    · have b3 : F1 3 = E 3 := ff1 3 (by simp [jS])
      have b4 : F1 4 = E 4 := ff1 4 (by simp [jS])
      have good : aok (E 3) B' ∧ (∀ x, pls B' x → -20 ≤ x) ∧ ∀ x, pls B' x → 0 ≤ x → 1 ≤ E 4 x := by
        rcases ag with ⟨rn, sn, jn, pn, z, q, e⟩ | ⟨_, e⟩
        · rw [o1] at e
          have e' : B' = rpA (E 3) B jn pn z := by simpa using e
          obtain ⟨⟨_, a1⟩, a2, _, ⟨_, a3⟩, ⟨_, a4, a5⟩, _, a6, _⟩ := q
          obtain ⟨g1, g2, g3, _⟩ := rpA_ok2 hP h2 rB (hs.2.2 rn (by omega)).2.2.2 a3 a4 a5 a2 a6
          rw [e']; exact ⟨g1, g2, g3⟩
        · rw [o1] at e; simp at e
      have CC := clean_ok (E := F1) (d := d) (G := G) (r := 10) (A := B') hX hr10 (Or.inl (by decide)) (by decide) (by rw [b3]; exact hP) (by rw [b4]; exact hW) (by rw [b3]; exact h2) z1 rB' (by rw [b3]; exact good.1)
      rw [b3, b4] at CC
      obtain ⟨y, F2, m2, f2, z2, r2, _, _⟩ := CC
      have ff2 : fz jS E F2 := fz_trans ff1 (fz_mono f2 (by simp [jS]))
      have I2 : stI F2 := by
        unfold stI at *
        rw [f2 20 (by simp), f2 22 (by simp), f2 23 (by simp)]; exact I1
      obtain ⟨x', F', z, zf, zI', z19, zj⟩ := ih (k + 1) F2 (cln (E 3) (E 4) B') (by omega) ff2 I2 z2 r2 (cln_rok hP h2 good.1 good.2.2 (cll_le good.2.1))
      rw [show ((k + 1 : Nat) : Int) = (k : Int) + 1 by omega] at z
      exact ⟨x', F', fun kz Q hQ => X11_judge_84 hX ⟨_, rfl, zc, fun y => absurd y (by omega), fun _ => ⟨x, F1, m1, fun _ => ⟨y, F2, m2, zin_of (by omega) (by omega), z kz Q hQ⟩, fun q => absurd (by omega) q⟩⟩, zf, zI', z19, o, ag, Or.inr ⟨B', o1, zj⟩⟩
end TK
