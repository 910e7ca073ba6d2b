/-! ===== words; rows of literals taken apart ===== -/
def fw (w : List Int) : Int → Int := fun k => w.getD k.toNat 0
theorem fw_nat {w : List Int} {k : Nat} : fw w (k : Int) = w.getD k 0 := by simp [fw]
theorem fw_0 {w : List Int} {k : Nat} : fw w (0 + (k : Int)) = w.getD k 0 := by
  have e : (0 : Int) + (k : Int) = (k : Int) := by omega
  rw [e, fw_nat]
theorem lit_l {A B : List zLt} {l : Nat} (h : l < A.length) : lit (A ++ B) l = lit A l := by
  unfold lit
  rw [List.getD_eq_getElem?_getD, List.getD_eq_getElem?_getD, List.getElem?_append_left h]
theorem lit_r {A B : List zLt} {j : Nat} : lit (A ++ B) (A.length + j) = lit B j := by
  unfold lit
  rw [List.getD_eq_getElem?_getD, List.getD_eq_getElem?_getD, List.getElem?_append_right (by omega)]
  congr 2
  omega
theorem lit_c0 {y : zLt} {B : List zLt} : lit (y :: B) 0 = y := rfl
theorem lit_cs {y : zLt} {B : List zLt} {j : Nat} : lit (y :: B) (j + 1) = lit B j := by
  unfold lit
  simp
theorem offs_l {A B : List zLt} : ∀ {l : Nat}, l ≤ A.length → offs (A ++ B) l = offs A l
  | 0, _ => rfl
  | l + 1, h => by
    simp only [offs]
    rw [offs_l (by omega), lit_l (by omega)]
theorem offs_r {A B : List zLt} : ∀ {j : Nat}, offs (A ++ B) (A.length + j) = offs A A.length + offs B j
  | 0 => by simp only [offs]; exact offs_l (Nat.le_refl _)
  | j + 1 => by
    have e : A.length + (j + 1) = (A.length + j) + 1 := by omega
    rw [e]
    simp only [offs]
    rw [offs_r (j := j), lit_r]
    omega
theorem offs_c {y : zLt} {B : List zLt} : ∀ {j : Nat}, offs (y :: B) (j + 1) = y.2.length + offs B j
  | 0 => by simp [offs, lit_c0]
  | j + 1 => by
    have h := offs_c (y := y) (B := B) (j := j)
    have e1 : offs (y :: B) (j + 1 + 1) = offs (y :: B) (j + 1) + (lit (y :: B) (j + 1)).2.length := rfl
    have e2 : offs B (j + 1) = offs B j + (lit B j).2.length := rfl
    rw [e1, e2, h, lit_cs]
    omega
/-- the literal in the middle -/
theorem lit_m {A B : List zLt} {y : zLt} : lit (A ++ y :: B) A.length = y := by
  have := lit_r (A := A) (B := y :: B) (j := 0)
  simpa [lit_c0] using this
theorem lit_m2 {A B : List zLt} {y : zLt} {j : Nat} : lit (A ++ y :: B) (A.length + 1 + j) = lit B j := by
  have := lit_r (A := A) (B := y :: B) (j := j + 1)
  rw [lit_cs] at this
  have e : A.length + (j + 1) = A.length + 1 + j := by omega
  rw [e] at this
  exact this
theorem offs_m {A B : List zLt} {y : zLt} : offs (A ++ y :: B) A.length = offs A A.length := offs_l (Nat.le_refl _)
theorem offs_m2 {A B : List zLt} {y : zLt} {j : Nat} : offs (A ++ y :: B) (A.length + 1 + j) = offs A A.length + y.2.length + offs B j := by
  have := offs_r (A := A) (B := y :: B) (j := j + 1)
  rw [offs_c] at this
  have e : A.length + (j + 1) = A.length + 1 + j := by omega
  rw [e] at this
  omega
theorem len_m {A B : List zLt} {y : zLt} : (A ++ y :: B).length = A.length + 1 + B.length := by
  rw [List.length_append, List.length_cons]; omega
/-- the word of literal l lies there -/
theorem rowC_lk {E : Nat → Int → Int} {r : Nat} {A : List zLt} (h : rowC E r A) {l : Nat} (hl : l < A.length) : lk (E (r + 1)) (offs A l) (fw (lit A l).2) 0 (lit A l).2.length := fun k hk => by
  rw [(h.2.2.2 l hl).2.2.2 k hk, fw_0]
section PL
variable {d : List Nat} {G : Nat → Int → Option Nat} {E : Nat → Int → Int}
theorem saysAlike_ok {r i j : Nat} {A : List zLt} (hX : zK zXt d G) (hr : zRk d G r) (hA : rowC E r A) (hi : i < A.length) (hj : j < A.length) :
    ∃ x : Int, zM zm_X5_saysAlike [zR r, zI (i : Int), zI (j : Int)] (d, G, E) (some (zI x)) (d, G, E) ∧ (x = 1 ∧ (lit A i).2 = (lit A j).2 ∨ x = 0 ∧ (lit A i).2 ≠ (lit A j).2) := by
  have h6 := hA.2.1
  have m1 := length_ok (E := E) hX hr hA hi
  have m2 := length_ok (E := E) hX hr hA hj
  have oi := hA.2.2.1 i (by omega)
  have oj := hA.2.2.1 j (by omega)
  have bi := rowC_le hA (l := i + 1) (by omega)
  have bj := rowC_le hA (l := j + 1) (by omega)
  simp only [offs] at bi bj
  have li := rowC_lk hA hi
  have lj := rowC_lk hA hj
  by_cases hlen : (lit A i).2.length = (lit A j).2.length
  · obtain ⟨x, m3, hx⟩ := alike_ok (E := E) (a := r + 1) (b := r + 1) (i := offs A i) (j := offs A j) (t := (lit A i).2.length) hX hr.2.2.2.2.2.1 hr.2.1 hr.2.2.2.2.2.1 hr.2.1 (by omega) (by omega) (by omega) (by omega) (by omega) (by omega)
    have eqv : lk (E (r + 1)) (offs A i) (E (r + 1)) (offs A j) (lit A i).2.length ↔ (lit A i).2 = (lit A j).2 := by
      constructor
      · intro h
        apply List.ext_getElem hlen
        intro k k1 k2
        have e1 := h k k1
        rw [li k k1, lj k k2, fw_0, fw_0] at e1
        simpa [List.getD_eq_getElem?_getD, k1, k2] using e1
      · intro h k hk
        rw [li k hk, lj k (by omega), h]
    rw [eqv] at hx
    refine ⟨x, zM_p rfl (Nat.le_of_ble_eq_true rfl) (fun kz Q hQ => X5_saysAlike_0 hX hr ⟨_, m1, _, m2, fun c => absurd (by omega) c, fun _ => ⟨⟨by omega, by omega⟩, ⟨by omega, by omega⟩, x, by rw [oi, oj]; exact m3, fun c => ?_, fun c => ?_⟩⟩), hx⟩
    · rw [c] at hQ; exact hQ
    · rcases hx with z | z
      · rw [z.1] at hQ; exact hQ
      · exact absurd z.1 c
  · refine ⟨0, zM_p rfl (Nat.le_of_ble_eq_true rfl) (fun kz Q hQ => X5_saysAlike_0 hX hr ⟨_, m1, _, m2, fun _ => hQ, fun c => absurd ?_ hlen⟩), Or.inr ⟨rfl, fun h => hlen (by rw [h])⟩⟩
    omega
/-- both sides of an EQUAL are alike -/
def lks (P : Int → Int) (w : List Int) : Prop := lk (fw w) 1 (fw w) (1 + tl P (fw w) 1) (tl P (fw w) 1)
/-- a word is a literal: a term, by the parts of its saying -/
def wok1 (P : Int → Int) (w : List Int) : Prop := tm P (fw w) 0 w.length ∧ 0 ≤ fw w 0 ∧ ∀ k : Nat, k < w.length → -40 ≤ fw w k
theorem wok1_pos {P : Int → Int} {w : List Int} (h : wok1 P w) : 0 < w.length := nd_ge h.1
/-- the two sides of an EQUAL -/
theorem wok1_eq {P : Int → Int} {w : List Int} (hP : pok P) (h2 : P 0 = 2) (h : wok1 P w) (h0 : fw w 0 = 0) : ∃ t u : Nat, tm P (fw w) 1 t ∧ tm P (fw w) (1 + t) u ∧ 1 + t + u = w.length ∧ tl P (fw w) 1 = t := by
  have h1 := tm_parts hP h.1 h.2.1
  rw [h0, h2] at h1
  have hp := wok1_pos h
  obtain ⟨t, t1, t2, t3, t4⟩ := ts_succ (p := 1) hP h1
  rw [ts_1] at t4
  exact ⟨t, w.length - 1 - t, t3, t4, by omega, tl_eq t3⟩
theorem hasLikeSides_ok {r i : Nat} {A : List zLt} (hX : zK zXt d G) (hr : zRk d G r) (hA : rowC E r A) (hi : i < A.length) (hP : pok (E 3)) (h2 : E 3 0 = 2) (hw : wok1 (E 3) (lit A i).2) (h0 : fw (lit A i).2 0 = 0) :
    ∃ x : Int, zM zm_X5_hasLikeSides [zR r, zI (i : Int), zR 1] (d, G, E) (some (zI x)) (d, G, E) ∧ (x = 1 ∧ lks (E 3) (lit A i).2 ∨ x = 0 ∧ ¬ lks (E 3) (lit A i).2) := by
  have h6 := hA.2.1
  have oi := hA.2.2.1 i (by omega)
  have oj := hA.2.2.1 (i + 1) (by omega)
  have e3 : ((i + 1 : Nat) : Int) = (i : Int) + 1 := by omega
  rw [e3] at oj
  have bi := rowC_le hA (l := i + 1) (by omega)
  have li := rowC_lk hA hi
  obtain ⟨t, u, ht, hu, htu, htl⟩ := wok1_eq hP h2 hw h0
  simp only [offs] at bi oj
  have c1 : ∀ k : Nat, k < t → fw (lit A i).2 (1 + k) = E (r + 1) (offs A i + 1 + k) := fun k hk => by
    have := li (1 + k) (by omega)
    have e4 : (0 : Int) + ((1 + k : Nat) : Int) = 1 + k := by omega
    have e5 : (offs A i : Int) + ((1 + k : Nat) : Int) = offs A i + 1 + k := by omega
    rw [e4, e5] at this
    exact this.symm
  have c2 : ∀ k : Nat, k < u → fw (lit A i).2 (1 + t + k) = E (r + 1) (offs A i + 1 + t + k) := fun k hk => by
    have := li (1 + t + k) (by omega)
    have e4 : (0 : Int) + ((1 + t + k : Nat) : Int) = 1 + t + k := by omega
    have e5 : (offs A i : Int) + ((1 + t + k : Nat) : Int) = offs A i + 1 + t + k := by omega
    rw [e4, e5] at this
    exact this.symm
  have ht' := tm_congr ht c1
  have hu' := tm_congr hu c2
  have m1 := after_ok (E := E) (a := r + 1) (i := offs A i + 1) (t := t) hX hr.2.2.2.2.2.1 hr.2.1 hP ht' (by omega) (by omega) (by omega)
  unfold lks
  rw [htl]
  by_cases hlen : t = u
  · subst hlen
    obtain ⟨x, m3, hx⟩ := alike_ok (E := E) (a := r + 1) (b := r + 1) (i := offs A i + 1) (j := offs A i + 1 + t) (t := t) hX hr.2.2.2.2.2.1 hr.2.1 hr.2.2.2.2.2.1 hr.2.1 (by omega) (by omega) (by omega) (by omega) (by omega) (by omega)
    have eqv : lk (E (r + 1)) (offs A i + 1) (E (r + 1)) (offs A i + 1 + t) t ↔ lk (fw (lit A i).2) 1 (fw (lit A i).2) (1 + t) t :=
      ⟨fun h k hk => by rw [c1 k hk, c2 k hk]; exact h k hk, fun h k hk => by rw [← c1 k hk, ← c2 k hk]; exact h k hk⟩
    rw [eqv] at hx
    have el : (offs A i : Int) + 1 + t - (offs A i + 1) = t := by omega
    refine ⟨x, zM_p rfl (Nat.le_of_ble_eq_true rfl) (fun kz Q hQ => X5_hasLikeSides_0 hX hr ⟨⟨by omega, by omega⟩, by rw [oi]; exact zin_of (by omega) (by omega), offs A i + 1 + t, by rw [oi]; exact m1, by rw [oi]; exact zin_of (by omega) (by omega), zin_of (by omega) (by omega), ⟨by omega, by omega⟩, by rw [oj]; exact zin_of (by omega) (by omega), fun c => ?_, fun _ => ⟨x, by rw [oi, el]; exact m3, fun c => ?_, fun c => ?_⟩⟩), hx⟩
    · rw [oi, oj] at c; omega
    · rw [c] at hQ; exact hQ
    · rcases hx with z | z
      · rw [z.1] at hQ; exact hQ
      · exact absurd z.1 c
  · refine ⟨0, zM_p rfl (Nat.le_of_ble_eq_true rfl) (fun kz Q hQ => X5_hasLikeSides_0 hX hr ⟨⟨by omega, by omega⟩, by rw [oi]; exact zin_of (by omega) (by omega), offs A i + 1 + t, by rw [oi]; exact m1, by rw [oi]; exact zin_of (by omega) (by omega), zin_of (by omega) (by omega), ⟨by omega, by omega⟩, by rw [oj]; exact zin_of (by omega) (by omega), fun c => hQ, fun c => ?_⟩), Or.inr ⟨rfl, fun h => hlen (tm_uniq (tm_congr ht h) hu)⟩⟩
    rw [oi, oj] at c; omega
end PL
