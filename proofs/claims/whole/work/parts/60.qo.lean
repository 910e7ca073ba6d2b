/-! ===== claims, whole; keeping one more: the class ===== -/
def zup {α : Type} (f : Nat → α) (k : Nat) (v : α) : Nat → α := fun x => if x = k then v else f x
theorem zup_s {α : Type} {f : Nat → α} {k : Nat} {v : α} : zup f k v k = v := if_pos rfl
theorem zup_n {α : Type} {f : Nat → α} {k x : Nat} {v : α} (h : x ≠ k) : zup f k v x = f x := if_neg h
/-- a row as given -/
def gok (P W : Int → Int) (S : List zLt) : Prop := aok P S ∧ ∀ x, pls S x → 0 ≤ x → 1 ≤ W x
/-- what else the class keeps of a claim -/
def clD (d : List Nat) (E : Nat → Int → Int) (P W : Int → Int) (c : Nat) (B : List zLt) (s a : Int) (nm tt : List Int) (S : List zLt) : Prop :=
  E (qn c) 6 = s ∧ E (qn c) 7 = a ∧ E (qn c) 8 = wtA W B B.length ∧ E (qn c) 9 = chs W B ∧ isNl B (E (qn c) 10) ∧ nm.length = 7 ∧ (∀ i : Nat, i < 7 → E (qn c + 5) i = nm.getD i 0) ∧ 0 ≤ nm.getD 0 0 ∧ nm.getD 0 0 ≤ 4 ∧ (∃ n : Nat, tt.length = 4 * n ∧ n ≤ 8 ∧ E (qn c) 4 = n) ∧ (∀ i : Nat, i < tt.length → E (qn c + 6) i = tt.getD i 0) ∧ (nm.getD 0 0 = 0 → qn c + 7 ∈ d ∧ rowC E (qn c + 7) S ∧ gok P W S)
def clA (d : List Nat) (E : Nat → Int → Int) (P W : Int → Int) (c : Nat) (B : List zLt) (s a : Int) (nm tt : List Int) (S : List zLt) : Prop := clR E P W c B ∧ rok P W B ∧ clD d E P W c B s a nm tt S
theorem clA_67 {d d' : List Nat} {E E' : Nat → Int → Int} {P W : Int → Int} {c : Nat} {B : List zLt} {s a s' a' : Int} {nm tt : List Int} {S : List zLt} (h : clA d E P W c B s a nm tt S) (hd : ∀ x, x ∈ d → x ∈ d') (h0 : ∀ i : Int, i ≠ 6 → i ≠ 7 → E' (qn c) i = E (qn c) i) (hj : ∀ j : Nat, 1 ≤ j → j < 11 → E' (qn c + j) = E (qn c + j)) (h6 : E' (qn c) 6 = s') (h7 : E' (qn c) 7 = a') : clA d' E' P W c B s' a' nm tt S := by
  obtain ⟨⟨b1, b2, b3, b4, b5, b6⟩, rk, d1, d2, d3, d4, d5, d6, d7, d8, d9, d10, d11, d12⟩ := h
  have rw1 : rowC E' (qn c + 1) B := by
    have e1 : E' (qn c + 1) = E (qn c + 1) := hj 1 (by omega) (by omega)
    have e2 : E' (qn c + 1 + 1) = E (qn c + 1 + 1) := hj 2 (by omega) (by omega)
    have e3 : E' (qn c + 1 + 2) = E (qn c + 1 + 2) := hj 3 (by omega) (by omega)
    have e4 : E' (qn c + 1 + 3) = E (qn c + 1 + 3) := hj 4 (by omega) (by omega)
    unfold rowC at *
    rw [e1, e2, e3, e4]; exact b1
  refine ⟨⟨rw1, by rw [hj 1 (by omega) (by omega)]; exact b2, by rw [h0 5 (by decide) (by decide)]; exact b3, by rw [h0 11 (by decide) (by decide)]; exact b4, by rw [h0 12 (by decide) (by decide)]; exact b5, by rw [h0 13 (by decide) (by decide)]; exact b6⟩, rk, h6, h7, by rw [h0 8 (by decide) (by decide)]; exact d3, by rw [h0 9 (by decide) (by decide)]; exact d4, by rw [h0 10 (by decide) (by decide)]; exact d5, d6, by rw [hj 5 (by omega) (by omega)]; exact d7, d8, d9, by rw [h0 4 (by decide) (by decide)]; exact d10, by rw [hj 6 (by omega) (by omega)]; exact d11, fun z => ?_⟩
  obtain ⟨w1, w2, w3⟩ := d12 z
  refine ⟨hd _ w1, ?_, w3⟩
  have e1 : E' (qn c + 7) = E (qn c + 7) := hj 7 (by omega) (by omega)
  have e2 : E' (qn c + 7 + 1) = E (qn c + 7 + 1) := hj 8 (by omega) (by omega)
  have e3 : E' (qn c + 7 + 2) = E (qn c + 7 + 2) := hj 9 (by omega) (by omega)
  have e4 : E' (qn c + 7 + 3) = E (qn c + 7 + 3) := hj 10 (by omega) (by omega)
  unfold rowC at *
  rw [e1, e2, e3, e4]; exact w2
theorem clA_up {d d' : List Nat} {E E' : Nat → Int → Int} {P W : Int → Int} {c : Nat} {B : List zLt} {s a : Int} {nm tt : List Int} {S : List zLt} (h : clA d E P W c B s a nm tt S) (hd : ∀ x, x ∈ d → x ∈ d') (hj : ∀ j : Nat, j < 11 → E' (qn c + j) = E (qn c + j)) : clA d' E' P W c B s a nm tt S :=
  clA_67 h hd (fun i _ _ => by rw [show E' (qn c) = E (qn c) from hj 0 (by omega)]) (fun j _ j2 => hj j j2) (by rw [show E' (qn c) = E (qn c) from hj 0 (by omega)]; exact h.2.2.1) (by rw [show E' (qn c) = E (qn c) from hj 0 (by omega)]; exact h.2.2.2.1)
/-- the class's claims -/
def CI (d : List Nat) (G : Nat → Int → Option Nat) (E : Nat → Int → Int) (P W : Int → Int) (M K : Nat) (R : Nat → List zLt) (st ab : Nat → Int) (nm tt : Nat → List Int) (sr : Nat → List zLt) : Prop := alo d G M ∧ K ≤ M ∧ E 5 4 = K ∧ ∀ c : Nat, c < K → clA d E P W c (R c) (st c) (ab c) (nm c) (tt c) (sr c)
section QO
variable {d : List Nat} {G : Nat → Int → Option Nat} {E : Nat → Int → Int}
theorem CI_st {P W : Int → Int} {M K : Nat} {R : Nat → List zLt} {st ab : Nat → Int} {nm tt : Nat → List Int} {sr : Nat → List zLt} (h : CI d G E P W M K R st ab nm tt sr) : stC d G E P W K R := by
  obtain ⟨⟨a1, a2, a3⟩, b, e, cl⟩ := h
  refine ⟨e, by omega, fun c hc => ?_⟩
  obtain ⟨w1, w2, _⟩ := a2 c (by omega)
  obtain ⟨v1, v2, _⟩ := cl c hc
  exact ⟨w1, w2, v1, v2⟩
theorem CI_fz {P W : Int → Int} {M K : Nat} {R : Nat → List zLt} {st ab : Nat → Int} {nm tt : Nat → List Int} {sr : Nat → List zLt} {E' : Nat → Int → Int} {S : List Nat} (h : CI d G E P W M K R st ab nm tt sr) (hf : fz S E E') (hS : ∀ x, x ∈ S → x < 200) (h5 : E' 5 4 = E 5 4) : CI d G E' P W M K R st ab nm tt sr :=
  ⟨h.1, h.2.1, by rw [h5]; exact h.2.2.1, fun c hc => clA_up (h.2.2.2 c hc) (fun x hx => hx) (fun j _ => hf _ (fun hm => by have := hS _ hm; unfold qn at this; omega))⟩
theorem keep_ok {M K n k : Nat} {R : Nat → List zLt} {st ab : Nat → Int} {nm tt : Nat → List Int} {sr : Nat → List zLt} {B S : List zLt} {nw t : List Int} (hX : zK zXt d G) (hM : zK zMt d G) (hC : CI d G E (E 3) (E 4) M K R st ab nm tt sr) (hK : K < 150) (hP : pok (E 3)) (hW : wok (E 4)) (h2 : E 3 0 = 2) (h19 : ∀ L : Int, 0 ≤ L → L < 40 → E 19 L = 0) (hI : stI E) (hB : rowC E 10 B) (rB : rok (E 3) (E 4) B) (mB : mkA (E 10 4) B) (nB : isNl B (E 30 4)) (hn : E 36 11 = n) (hn8 : n ≤ 8) (ht : t.length = 4 * n) (ht2 : ∀ i : Nat, i < 4 * n → E 40 i = t.getD i 0) (hnw : nw.length = 7) (hnw2 : ∀ i : Nat, i < 7 → E 43 i = nw.getD i 0) (hk : E 43 0 = k) (hk4 : k ≤ 4) (hS : k = 0 → rowC E 14 S ∧ gok (E 3) (E 4) S) :
    ∃ (d' : List Nat) (G' : Nat → Int → Option Nat) (E' : Nat → Int → Int) (M' : Nat), zM zm_X11_keep [zR 0, zR 43] (d, G, E) (some (zI (K : Int))) (d', G', E') ∧ d.length ≤ d'.length ∧ zsl d ≤ zsl d' ∧ sbs d d' ∧ zK zXt d' G' ∧ zK zMt d' G' ∧ CI d' G' E' (E 3) (E 4) M' (K + 1) (zup R K B) (zup (pst (E 3) R st B) K 0) (zup (pby (E 3) R st ab B K) K (-1)) (zup nm K nw) (zup tt K t) (zup sr K S) ∧ stI E' ∧ (∀ L : Int, 0 ≤ L → L < 40 → E' 19 L = 0) ∧ (∀ x : Nat, x < 200 → x ∉ [0, 5, 18, 19, 20, 22, 23, 34, 35] → E' x = E x) ∧ (∀ i : Int, i ≠ 15 → E' 0 i = E 0 i) ∧ E' 0 15 = (if B.length = 0 then 1 else if K + 1 = 150 then 3 else E 0 15) ∧ ∀ x : Nat, x < 200 → x ≠ 6 → G' x = G x := by
  obtain ⟨hal, hKM, h54, hcl⟩ := hC
  obtain ⟨d1, G1, E1, M1, m1, l1, s1, sub1, X1, Mm1, al1, KM1, MM1, e1, e15, e15', e1q, gg1⟩ := add_ok (E := E) hX hM hal h54 hKM hK
  have q0 : 200 ≤ qn K := by unfold qn; omega
  have nq : ∀ x : Nat, x < 200 → x ≠ 5 → E1 x = E x := fun x hx h5 => e1 x (by simp [qd]; omega)
  have ckK : zCk d1 G1 (qn K) := (al1.2.1 K KM1).2.1
  have e13 : E1 3 = E 3 := nq 3 (by omega) (by omega)
  have e14 : E1 4 = E 4 := nq 4 (by omega) (by omega)
  have hB1 : rowC E1 10 B := by
    unfold rowC at *
    rw [nq 10 (by omega) (by omega), nq (10 + 1) (by omega) (by omega), nq (10 + 2) (by omega) (by omega), nq (10 + 3) (by omega) (by omega)]; exact hB
  obtain ⟨E2, m2, f2, r2, k2, a10, a6, a7, a8, a9, ai⟩ := fill_ok2 (E := E1) (d := d1) (G := G1) (c := K) (B := B) (v := E1 30 4) X1 ckK (by rw [e14]; exact hW) hB1 (by rw [e13, e14]; exact rB)
  have n2 : ∀ x : Nat, x < 200 → E2 x = E1 x := fun x hx => f2 x (by simp; omega)
  have e23 : E2 3 = E 3 := by rw [n2 3 (by omega)]; exact e13
  have e24 : E2 4 = E 4 := by rw [n2 4 (by omega)]; exact e14
  have tr := tellRule_ok (E := E2) (d := d1) (G := G1) (c := K) (B := B) X1 ckK (by rw [e23]; exact hP) (by rw [e24]; exact hW) (by rw [e23]; exact h2) (fun L a b => by rw [n2 19 (by omega), nq 19 (by omega) (by omega)]; exact h19 L a b) r2 (by rw [e23, e24]; exact rB)
  rw [e23, e24] at tr
  obtain ⟨E3, m3, f3, z3, j3, u11, u12, u13⟩ := tr
  have n3 : ∀ x : Nat, x < 200 → x ≠ 18 → x ≠ 19 → E3 x = E2 x := fun x hx h18 h19' => f3 x (by simp; omega)
  have n3' : ∀ x : Nat, x < 200 → x ≠ 5 → x ≠ 18 → x ≠ 19 → E3 x = E x := fun x hx h5 h18 h19' => by rw [n3 x hx h18 h19', n2 x hx, nq x hx h5]
  obtain ⟨d4, G4, E4, m4, l4, s4, sub4, X4, Mm4, al4, f4, j4, v4, v5, v6, v7, gg4⟩ := tellStep_ok (E := E3) (d := d1) (G := G1) (K := K) (M := M1) (n := n) (k := k) (S := S) X1 Mm1 al1 KM1 (by rw [n3' 36 (by omega) (by omega) (by omega) (by omega)]; exact hn) hn8 (by rw [n3' 43 (by omega) (by omega) (by omega) (by omega)]; exact hk) hk4 (fun z => by
    have := (hS z).1
    unfold rowC at *
    rw [n3' 14 (by omega) (by omega) (by omega) (by omega), n3' (14 + 1) (by omega) (by omega) (by omega) (by omega), n3' (14 + 2) (by omega) (by omega) (by omega) (by omega), n3' (14 + 3) (by omega) (by omega) (by omega) (by omega)]; exact this)
  have n4 : ∀ x : Nat, x < 200 → E4 x = E3 x := fun x hx => f4 x (by simp; omega)
  have n4' : ∀ x : Nat, x < 200 → x ≠ 5 → x ≠ 18 → x ≠ 19 → E4 x = E x := fun x hx h5 h18 h19' => by rw [n4 x hx, n3' x hx h5 h18 h19']
  have e43 : E4 3 = E 3 := n4' 3 (by omega) (by omega) (by omega) (by omega)
  have e44 : E4 4 = E 4 := n4' 4 (by omega) (by omega) (by omega) (by omega)
  have e54 : E4 5 4 = ((K + 1 : Nat) : Int) := by
    rw [n4 5 (by omega), n3 5 (by omega) (by omega) (by omega), n2 5 (by omega), e15]; omega
  -- the claims that were there
  have old4 : ∀ c : Nat, c < K → ∀ j : Nat, j < 11 → E4 (qn c + j) = E (qn c + j) := fun c hc j hj => by
    have ne : ∀ i : Nat, i < 11 → qn c + j ≠ qn K + i := fun i hi => by unfold qn; omega
    have z0 := ne 0 (by omega)
    have z1 := ne 1 (by omega)
    have z2 := ne 2 (by omega)
    have z3 := ne 3 (by omega)
    have z4 := ne 4 (by omega)
    have z5 := ne 5 (by omega)
    have z6 := ne 6 (by omega)
    have z7 := ne 7 (by omega)
    have z8 := ne 8 (by omega)
    have z9 := ne 9 (by omega)
    have z10 := ne 10 (by omega)
    have qc : 200 ≤ qn c := by unfold qn; omega
    rw [f4 _ (by simp; omega), f3 _ (by simp; omega), f2 _ (by simp; omega), e1 _ (by simp [qd]; omega)]
  have sub : ∀ x, x ∈ d → x ∈ d4 := fun x hx => sub4.1 x (sub1.1 x hx)
  have cl4 : ∀ c : Nat, c < K → clA d4 E4 (E 3) (E 4) c (R c) (st c) (ab c) (nm c) (tt c) (sr c) := fun c hc => clA_up (hcl c hc) sub (old4 c hc)
  -- the new one
  have g31 : ∀ j : Nat, 1 ≤ j → j ≤ 4 → E4 (qn K + j) = E2 (qn K + j) := fun j j1 j2 => by
    rw [f4 _ (by simp; omega), f3 _ (by simp; omega)]
  have rB4 : rowC E4 (qn K + 1) B := by
    have e1' : E4 (qn K + 1) = E2 (qn K + 1) := g31 1 (by omega) (by omega)
    have e2' : E4 (qn K + 1 + 1) = E2 (qn K + 1 + 1) := g31 2 (by omega) (by omega)
    have e3' : E4 (qn K + 1 + 2) = E2 (qn K + 1 + 2) := g31 3 (by omega) (by omega)
    have e4' : E4 (qn K + 1 + 3) = E2 (qn K + 1 + 3) := g31 4 (by omega) (by omega)
    unfold rowC at *
    rw [e1', e2', e3', e4']; exact r2
  have i2 : ∀ i : Int, i ≠ 4 → i ≠ 11 → i ≠ 12 → i ≠ 13 → E4 (qn K) i = E2 (qn K) i := fun i a b c e => by rw [j4 i a, j3 i b c e]
  have nw0 : nw.getD 0 0 = k := by
    have : E 43 0 = nw.getD 0 0 := hnw2 0 (by omega)
    rw [← this]; exact hk
  have new4 : clA d4 E4 (E 3) (E 4) K B 0 (-1) nw t S := by
    refine ⟨⟨rB4, ?_, ?_, ?_, ?_, ?_⟩, rB, ?_, ?_, ?_, ?_, ?_, hnw, fun i hi => ?_, by omega, by omega, ⟨n, ht, hn8, v4⟩, fun i hi => ?_, fun z => ?_⟩
    · rw [g31 1 (by omega) (by omega), k2, nq 10 (by omega) (by omega)]; exact mB
    · rw [i2 5 (by decide) (by decide) (by decide) (by decide), ai 5 (by decide) (by decide) (by decide) (by decide) (by decide)]; exact e1q
    · rw [j4 11 (by decide)]; exact u11
    · rw [j4 12 (by decide)]; exact u12
    · rw [j4 13 (by decide)]; exact u13
    · rw [i2 6 (by decide) (by decide) (by decide) (by decide)]; exact a6
    · rw [i2 7 (by decide) (by decide) (by decide) (by decide)]; exact a7
    · rw [i2 8 (by decide) (by decide) (by decide) (by decide), a8, e14]
    · rw [i2 9 (by decide) (by decide) (by decide) (by decide), a9, e14]
    · rw [i2 10 (by decide) (by decide) (by decide) (by decide), a10, nq 30 (by omega) (by omega)]; exact nB
    · rw [v5 i hi, n3' 43 (by omega) (by omega) (by omega) (by omega)]; exact hnw2 i hi
    · rw [v6 i (by omega), n3' 40 (by omega) (by omega) (by omega) (by omega)]; exact ht2 i (by omega)
    · obtain ⟨w1, w2⟩ := v7 (by omega)
      refine ⟨?_, w2, (hS (by omega)).2⟩
      obtain ⟨_, _, x3⟩ := al4.2.1 K KM1
      rcases x3 with ⟨_, y⟩ | ⟨y, _⟩
      · exact y.2.2.2.2.1
      · rw [w1] at y; exact absurd y (by simp)
  have CI4 : CI d4 G4 E4 (E4 3) (E4 4) M1 (K + 1) (zup R K B) (zup st K 0) (zup ab K (-1)) (zup nm K nw) (zup tt K t) (zup sr K S) := by
    rw [e43, e44]
    refine ⟨al4, by omega, e54, fun c hc => ?_⟩
    rcases (by omega : c < K ∨ c = K) with e | e
    · have ne : c ≠ K := by omega
      rw [zup_n ne, zup_n ne, zup_n ne, zup_n ne, zup_n ne, zup_n ne]
      exact cl4 c e
    · subst e
      rw [zup_s, zup_s, zup_s, zup_s, zup_s, zup_s]
      exact new4
  have I4 : stI E4 := by
    unfold stI at *
    rw [n4' 20 (by omega) (by omega) (by omega) (by omega), n4' 22 (by omega) (by omega) (by omega) (by omega), n4' 23 (by omega) (by omega) (by omega) (by omega)]; exact hI
  have pa := putAway_ok (E := E4) (d := d4) (G := G4) (K := K) (R := zup R K B) (st := st) (ab := ab) (B := B) X4 (CI_st CI4) zup_s (fun c hc => ⟨(cl4 c hc).2.2.1, (cl4 c hc).2.2.2.1⟩) (by rw [e43]; exact hP) I4
  rw [e43] at pa
  obtain ⟨E5, m5, f5, I5, p5⟩ := pa
  have n5 : ∀ x : Nat, x < 200 → x ∉ [20, 22, 23, 34, 35] → E5 x = E4 x := fun x hx hn => f5 x hn (fun c _ => by unfold qn; omega)
  have stP : ∀ c : Nat, c < K → pst (E 3) (zup R K B) st B c = pst (E 3) R st B c := fun c hc => by unfold pst; rw [zup_n (by omega)]
  have byP : ∀ c : Nat, c < K → pby (E 3) (zup R K B) st ab B K c = pby (E 3) R st ab B K c := fun c hc => by unfold pby; rw [zup_n (by omega)]
  have all5 : ∀ c : Nat, c < K + 1 → clA d4 E5 (E 3) (E 4) c (zup R K B c) (zup (pst (E 3) R st B) K 0 c) (zup (pby (E 3) R st ab B K) K (-1) c) (zup nm K nw c) (zup tt K t c) (zup sr K S c) := fun c hc => by
    have hjj : ∀ j : Nat, 1 ≤ j → j < 11 → E5 (qn c + j) = E4 (qn c + j) := fun j j1 j2 => f5 _ (by simp; unfold qn; omega) (fun c' _ => qn_ne j1 (by omega))
    rcases (by omega : c < K ∨ c = K) with e | e
    · have ne : c ≠ K := by omega
      rw [zup_n ne, zup_n ne, zup_n ne, zup_n ne, zup_n ne, zup_n ne]
      obtain ⟨w6, w7, wi⟩ := p5 c e
      rw [stP c e] at w6
      rw [byP c e] at w7
      exact clA_67 (cl4 c e) (fun x hx => hx) wi hjj w6 w7
    · subst e
      rw [zup_s, zup_s, zup_s, zup_s, zup_s, zup_s]
      have eq : E5 (qn c) = E4 (qn c) := f5 _ (by simp; omega) (fun c' hc' z => by have := qn_inj z; omega)
      exact clA_up new4 (fun x hx => hx) (fun j hj => by
        rcases (by omega : j = 0 ∨ 1 ≤ j) with w | w
        · subst w; exact eq
        · exact hjj j w hj)
  have s35 : E5 (qn K + 1) 3 = B.length := by
    rw [f5 _ (by simp; omega) (fun c' _ => qn_ne (by omega) (by omega))]; exact rB4.1
  have k55 : E5 5 4 = ((K + 1 : Nat) : Int) := by rw [n5 5 (by omega) (by simp)]; exact e54
  have ll : d.length ≤ d4.length := by omega
  have sl : zsl d ≤ zsl d4 := by omega
  have pre : ∀ Q : Option zV → zH → Prop, (((E5 (qn K + 1) 3) ≠ 0 → ((E5 5 4) < 150 → Q (some (zI ((E 5 4)))) (d4, G4, E5)) ∧ (¬ ((E5 5 4) < 150) → ∀ E_32, E_32 = zuE E5 0 15 3 → Q (some (zI ((E 5 4)))) (d4, G4, E_32))) ∧ (¬ ((E5 (qn K + 1) 3) ≠ 0) → ∀ E_33, E_33 = zuE E5 0 15 1 → Q (some (zI ((E 5 4)))) (d4, G4, E_33))) → Z zm_X11_keep (d4.length, zsl d4) Q 0 (zent 0 [zR 0, zR 43]) [] (d, G, E) := fun Q K' =>
    X11_keep_0 hX (zX_42_2 hX).2.2 rfl ⟨some (qn K), d1, G1, E1, m1, Or.inr ⟨l4, s4⟩, sub1.1 _ (zX_42_2 hX).2.2, X1, fun _ => ⟨qn K, rfl, ckK, E2, m2, E3, m3, d4, G4, E4, m4, Or.inr ⟨Nat.le_refl _, Nat.le_refl _⟩, sub4.1 _ (sub1.1 _ (zX_42_2 hX).2.2), X4, (al4.2.1 K KM1).2.1, E5, m5, K'⟩, fun z => absurd (by simp) z⟩
  have fin : ∀ (v : Int) (E6 : Nat → Int → Int), E6 = zuE E5 0 15 v → CI d4 G4 E6 (E 3) (E 4) M1 (K + 1) (zup R K B) (zup (pst (E 3) R st B) K 0) (zup (pby (E 3) R st ab B K) K (-1)) (zup nm K nw) (zup tt K t) (zup sr K S) ∧ stI E6 ∧ (∀ L : Int, 0 ≤ L → L < 40 → E6 19 L = 0) ∧ (∀ x : Nat, x < 200 → x ∉ [0, 5, 18, 19, 20, 22, 23, 34, 35] → E6 x = E x) ∧ (∀ i : Int, i ≠ 15 → E6 0 i = E 0 i) := fun v E6 h6 => by
    have n6 : ∀ x : Nat, x ≠ 0 → E6 x = E5 x := fun x hx => by rw [h6]; exact zuE_nf hx
    refine ⟨⟨al4, by omega, by rw [n6 5 (by omega)]; exact k55, fun c hc => clA_up (all5 c hc) (fun x hx => hx) (fun j _ => n6 _ (by unfold qn; omega))⟩, ?_, fun L a b => ?_, fun x hx hn => ?_, fun i hi => ?_⟩
    · unfold stI at *
      rw [n6 20 (by omega), n6 22 (by omega), n6 23 (by omega)]; exact I5
    · rw [n6 19 (by omega), n5 19 (by omega) (by simp), n4 19 (by omega)]; exact z3 L a b
    · simp at hn
      rw [n6 x (by omega), n5 x hx (by simp; omega), n4' x hx (by omega) (by omega) (by omega)]
    · rw [h6, zuE_ix hi, n5 0 (by omega) (by simp), n4' 0 (by omega) (by omega) (by omega) (by omega)]
  have e015 : E5 0 15 = E 0 15 := by rw [n5 0 (by omega) (by simp), n4' 0 (by omega) (by omega) (by omega) (by omega)]
  by_cases b0 : B.length = 0
  · obtain ⟨w1, w2, w3, w4, w5⟩ := fin 1 (zuE E5 0 15 1) rfl
    exact ⟨d4, G4, zuE E5 0 15 1, M1, zM_of rfl (Nat.le_of_ble_eq_true rfl) ⟨ll, sl⟩ (pre _ ⟨fun z => absurd (by rw [s35]; omega) z, fun _ => fun H h => ⟨by rw [h54], by rw [h]⟩⟩), ll, sl, sbs_t sub1 sub4, X4, Mm4, w1, w2, w3, w4, w5, by rw [zuE_same, if_pos b0], fun x x1 x6 => (gg4 x x1).trans (gg1 x x1 x6)⟩
  · by_cases k150 : K + 1 = 150
    · obtain ⟨w1, w2, w3, w4, w5⟩ := fin 3 (zuE E5 0 15 3) rfl
      exact ⟨d4, G4, zuE E5 0 15 3, M1, zM_of rfl (Nat.le_of_ble_eq_true rfl) ⟨ll, sl⟩ (pre _ ⟨fun _ => ⟨fun z => absurd z (by rw [k55]; omega), fun _ => fun H h => ⟨by rw [h54], by rw [h]⟩⟩, fun z => absurd (by rw [s35]; omega) z⟩), ll, sl, sbs_t sub1 sub4, X4, Mm4, w1, w2, w3, w4, w5, by rw [zuE_same, if_neg b0, if_pos k150], fun x x1 x6 => (gg4 x x1).trans (gg1 x x1 x6)⟩
    · have self : E5 = zuE E5 0 15 (E5 0 15) := by
        funext x i
        unfold zuE
        split
        · rename_i z; rw [z.1, z.2]
        · rfl
      obtain ⟨w1, w2, w3, w4, w5⟩ := fin (E5 0 15) E5 self
      exact ⟨d4, G4, E5, M1, zM_of rfl (Nat.le_of_ble_eq_true rfl) ⟨ll, sl⟩ (pre _ ⟨fun _ => ⟨fun _ => ⟨by rw [h54], rfl⟩, fun z => absurd (by rw [k55]; omega) z⟩, fun z => absurd (by rw [s35]; omega) z⟩), ll, sl, sbs_t sub1 sub4, X4, Mm4, w1, w2, w3, w4, w5, (by rw [if_neg b0, if_neg k150]; exact e015), fun x x1 x6 => (gg4 x x1).trans (gg1 x x1 x6)⟩
end QO
