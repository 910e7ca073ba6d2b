/-! ===== compare, whole; rows of literals ===== -/
section PK
variable {d : List Nat} {G : Nat → Int → Option Nat} {E : Nat → Int → Int}
theorem compare_ok {a b n m N : Nat} {i j : Int} {t u : Nat} (hX : zK zXt d G) (ha : a ∈ d) (hk : zkd a = (0, n)) (hb : b ∈ d) (hkb : zkd b = (0, m)) (hP : pok (E 3)) (hW : wok (E 4)) (hn2 : n ≤ 100000) (hm2 : m ≤ 100000) (ha1 : a ≠ 18) (ha2 : a ≠ 19) (hb1 : b ≠ 18) (hb2 : b ≠ 19) (hN : t ≤ N) (hN2 : N ≤ 900000) (h19 : ∀ L : Int, 0 ≤ L → L < 40 → E 19 L = 0) (ht : tm (E 3) (E a) i t) (hu : tm (E 3) (E b) j u) (h0 : 0 ≤ i) (hn : i + t ≤ n) (h1 : 0 ≤ j) (hm : j + u ≤ m) (hla : ∀ k : Nat, k < t → -40 ≤ E a (i + k)) (hlb : ∀ k : Nat, k < u → -40 ≤ E b (j + k)) :
    ∃ (r : Int) (E' : Nat → Int → Int), zM zm_X6_compare [zR 18, zR a, zI i, zR b, zI j] (d, G, E) (some (zI r)) (d, G, E') ∧ fz [18, 19] E E' ∧ (∀ L : Int, 0 ≤ L → L < 40 → E' 19 L = 0) ∧ (lk (E a) i (E b) j t → r = 2) ∧ (¬ lk (E a) i (E b) j t → cmpv True True (kg (E 3) (E 4) (E a) (E b) N i j) (kg (E 3) (E 4) (E b) (E a) N j i) r) := by
  have r3 : zuE (zuE E 18 3 1) 18 4 1 18 3 = 1 := by rw [zuE_ix (by decide), zuE_same]
  have r4 : zuE (zuE E 18 3 1) 18 4 1 18 4 = 1 := zuE_same
  obtain ⟨r, E', g1, g2, g3, g4, g5⟩ := compare_go (E := E) hX ha hk hb hkb hP hW hn2 hm2 ha1 ha2 hb1 hb2 N i j 0 t u (zuE (zuE E 18 3 1) 18 4 1) hN (by omega) (by omega) (fz_put (fz_put fz_rfl (by simp)) (by simp)) (Or.inr r3) (Or.inr r4) (fun L l1 l2 => by rw [zuE_ne (by decide), zuE_ne (by decide)]; exact h19 L l1 l2) ht hu h0 hn h1 hm hla hlb
  refine ⟨r, E', zM_go rfl (Nat.le_of_ble_eq_true rfl) (fun kz Q hQ => X6_compare_0 hX ha hk hb hkb (fun E1 e1 E2 e2 => ?_)), g2, g3, g4, fun c => ?_⟩
  · rw [e2, e1]
    exact g1 kz Q hQ
  · have := g5 c
    rw [r3, r4] at this
    simpa [cmpv] using this
end PK
/-- a literal: 1 if it is denied, its places -/
abbrev zLt : Type := Int × List Int
def lit (A : List zLt) (l : Nat) : zLt := A.getD l (0, [])
def offs (A : List zLt) : Nat → Nat
  | 0 => 0
  | l + 1 => offs A l + (lit A l).2.length
theorem lit_app_l {A : List zLt} {x : zLt} {l : Nat} (h : l < A.length) : lit (A ++ [x]) l = lit A l := by
  unfold lit
  rw [List.getD_eq_getElem?_getD, List.getD_eq_getElem?_getD, List.getElem?_append_left h]
theorem lit_app_r {A : List zLt} {x : zLt} : lit (A ++ [x]) A.length = x := by
  unfold lit
  rw [List.getD_eq_getElem?_getD, List.getElem?_append_right (Nat.le_refl _)]
  simp
theorem offs_app {A : List zLt} {x : zLt} : ∀ l : Nat, l ≤ A.length → offs (A ++ [x]) l = offs A l
  | 0, _ => rfl
  | l + 1, h => by
    simp only [offs]
    rw [offs_app l (by omega), lit_app_l (by omega)]
theorem offs_mono {A : List zLt} {l k : Nat} (h : l ≤ k) : offs A l ≤ offs A k := by
  induction k with
  | zero => have : l = 0 := by omega
            subst this; exact Nat.le_refl _
  | succ k ih =>
    rcases Nat.lt_or_ge k l with e | e
    · have : l = k + 1 := by omega
      subst this; exact Nat.le_refl _
    · have := ih e
      simp only [offs]
      omega
theorem offs_le {A : List zLt} (h : ∀ l : Nat, l < A.length → (lit A l).2.length ≤ 30) : ∀ l : Nat, l ≤ A.length → offs A l ≤ 30 * l
  | 0, _ => by simp [offs]
  | l + 1, hl => by
    have := offs_le h l (by omega)
    have := h l (by omega)
    simp only [offs]
    omega
/-- Row r of the class holds these literals -/
def rowC (E : Nat → Int → Int) (r : Nat) (A : List zLt) : Prop :=
  E r 3 = A.length ∧ A.length ≤ 6 ∧ (∀ l : Nat, l ≤ A.length → E (r + 2) l = offs A l) ∧ ∀ l : Nat, l < A.length → E (r + 3) l = (lit A l).1 ∧ ((lit A l).1 = 0 ∨ (lit A l).1 = 1) ∧ (lit A l).2.length ≤ 30 ∧ ∀ k : Nat, k < (lit A l).2.length → E (r + 1) (offs A l + k) = (lit A l).2.getD k 0
theorem rowC_le {E : Nat → Int → Int} {r : Nat} {A : List zLt} (h : rowC E r A) {l : Nat} (hl : l ≤ A.length) : offs A l ≤ 180 := by
  have h1 := offs_le (fun x hx => (h.2.2.2 x hx).2.2.1) l hl
  have := h.2.1
  omega
theorem rowC_fz {E E' : Nat → Int → Int} {r : Nat} {A : List zLt} {S : List Nat} (h : rowC E r A) (hf : fz S E E') (h0 : r ∉ S) (h1 : r + 1 ∉ S) (h2 : r + 2 ∉ S) (h3 : r + 3 ∉ S) : rowC E' r A := by
  unfold rowC
  rw [hf r h0, hf _ h1, hf _ h2, hf _ h3]
  exact h
section PK2
variable {d : List Nat} {G : Nat → Int → Option Nat} {E : Nat → Int → Int}
theorem has_ok {r : Nat} {A : List zLt} (hX : zK zXt d G) (hr : zRk d G r) (hA : rowC E r A) (i : Int) : zM zm_X5_has [zR r, zI i] (d, G, E) (some (zI (if 0 ≤ i ∧ i < A.length then 1 else 0))) (d, G, E) := by
  have hs := hA.1
  refine zM_p rfl (Nat.le_of_ble_eq_true rfl) (fun kz Q hQ => X5_has_0 hX hr ⟨fun c => ?_, fun c => ⟨fun c2 => ?_, fun c2 => ?_⟩⟩)
  · rw [if_neg (by omega)] at hQ; exact hQ
  · rw [if_neg (by omega)] at hQ; exact hQ
  · rw [if_pos (by omega)] at hQ; exact hQ
theorem length_ok {r l : Nat} {A : List zLt} (hX : zK zXt d G) (hr : zRk d G r) (hA : rowC E r A) (hl : l < A.length) : zM zm_X5_length [zR r, zI (l : Int)] (d, G, E) (some (zI ((lit A l).2.length : Int))) (d, G, E) := by
  have h6 := hA.2.1
  have e1 := hA.2.2.1 l (by omega)
  have e2 := hA.2.2.1 (l + 1) (by omega)
  have e3 : ((l + 1 : Nat) : Int) = (l : Int) + 1 := by omega
  rw [e3] at e2
  have h3 := (hA.2.2.2 l hl).2.2.1
  refine zM_p rfl (Nat.le_of_ble_eq_true rfl) (fun kz Q hQ => X5_length_0 hX hr ⟨zin_of (by omega) (by omega), ⟨by omega, by omega⟩, ⟨by omega, by omega⟩, ?_⟩)
  have e4 : E (r + 2) ((l : Int) + 1) - E (r + 2) l = (lit A l).2.length := by
    rw [e1, e2]
    simp only [offs]
    omega
  rw [e4]
  exact ⟨zin_of (by omega) (by omega), hQ⟩
theorem isEqual_ok {r : Nat} {A : List zLt} (hX : zK zXt d G) (hr : zRk d G r) (hA : rowC E r A) (hp : ∀ l : Nat, l < A.length → 0 < (lit A l).2.length) (i : Int) : ∃ x : Int, zM zm_X5_isEqual [zR r, zI i] (d, G, E) (some (zI x)) (d, G, E) ∧ (x = 1 ∧ (0 ≤ i ∧ i < A.length ∧ (lit A i.toNat).2.getD 0 0 = 0) ∨ x = 0 ∧ ¬ (0 ≤ i ∧ i < A.length ∧ (lit A i.toNat).2.getD 0 0 = 0)) := by
  have h6 := hA.2.1
  have mh := has_ok (E := E) hX hr hA i
  by_cases hi : 0 ≤ i ∧ i < A.length
  · rw [if_pos hi] at mh
    have e1 := hA.2.2.1 i.toNat (by omega)
    have e2 := (hA.2.2.2 i.toNat (by omega)).2.2.2 0 (hp i.toNat (by omega))
    have eo := rowC_le hA (l := i.toNat + 1) (by omega)
    have hq := hp i.toNat (by omega)
    simp only [offs] at eo
    have ei : ((i.toNat : Nat) : Int) = i := Int.toNat_of_nonneg hi.1
    rw [ei] at e1
    have e3 : ((offs A i.toNat : Nat) : Int) + ((0 : Nat) : Int) = offs A i.toNat := by omega
    rw [e3] at e2
    by_cases hz : (lit A i.toNat).2.getD 0 0 = 0
    · refine ⟨1, zM_p rfl (Nat.le_of_ble_eq_true rfl) (fun kz Q hQ => X5_isEqual_0 hX hr ⟨_, mh, fun c => by omega, fun _ => ⟨⟨by omega, by omega⟩, ⟨by omega, by omega⟩, fun c => ?_, fun _ => hQ⟩⟩), Or.inl ⟨rfl, hi.1, hi.2, hz⟩⟩
      rw [e1, e2] at c
      exact absurd hz c
    · refine ⟨0, zM_p rfl (Nat.le_of_ble_eq_true rfl) (fun kz Q hQ => X5_isEqual_0 hX hr ⟨_, mh, fun c => by omega, fun _ => ⟨⟨by omega, by omega⟩, ⟨by omega, by omega⟩, fun _ => hQ, fun c => ?_⟩⟩), Or.inr ⟨rfl, fun q => hz q.2.2⟩⟩
      rw [e1, e2] at c
      exact absurd hz c
  · rw [if_neg hi] at mh
    exact ⟨0, zM_p rfl (Nat.le_of_ble_eq_true rfl) (fun kz Q hQ => X5_isEqual_0 hX hr ⟨_, mh, fun _ => hQ, fun c => absurd rfl c⟩), Or.inr ⟨rfl, fun q => hi ⟨q.1, q.2.1⟩⟩⟩
theorem empty_ok {r : Nat} (hX : zK zXt d G) (hr : zRk d G r) : ∃ E' : Nat → Int → Int, zM zm_X5_empty [zR r] (d, G, E) none (d, G, E') ∧ rowC E' r [] ∧ fz [r, r + 2] E E' ∧ E' r 4 = E r 4 := by
  refine ⟨zuE (zuE E r 3 0) (r + 2) 0 0, zM_e rfl (Nat.le_of_ble_eq_true rfl) (fun kz Q hQ => X5_empty_0 hX hr (fun E1 h1 => ⟨⟨by omega, by omega⟩, fun E2 h2 => by rw [h2, h1]; exact hQ⟩)), ⟨?_, by simp, fun l hl => ?_, fun l hl => by simp at hl⟩, fz_put (fz_put fz_rfl (by simp)) (by simp), ?_⟩
  · rw [zuE_ne (by omega), zuE_same]; rfl
  · have : l = 0 := by simpa using hl
    subst this
    exact zuE_same
  · rw [zuE_ne (by omega), zuE_ix (by decide)]
theorem take_ok {r a n : Nat} {A : List zLt} {dn i : Int} {w : List Int} (hX : zK zXt d G) (hr : zRk d G r) (ha : a ∈ d) (hk : zkd a = (0, n)) (hA : rowC E r A) (hl : A.length < 6) (hw : w.length ≤ 30) (hdn : dn = 0 ∨ dn = 1) (hi : 0 ≤ i) (hn : i + w.length ≤ n) (hv : ∀ k : Nat, k < w.length → E a (i + k) = w.getD k 0) :
    ∃ E' : Nat → Int → Int, zM zm_X5_take [zR r, zI dn, zR a, zI i, zI (w.length : Int)] (d, G, E) (some (zI 1)) (d, G, E') ∧ rowC E' r (A ++ [(dn, w)]) ∧ fz [r, r + 1, r + 2, r + 3] E E' ∧ E' r 4 = E r 4 := by
  have h6 := hA.2.1
  have es := hA.1
  have eo := hA.2.2.1 A.length (Nat.le_refl _)
  have ob := offs_le (fun x hx => (hA.2.2.2 x hx).2.2.1) A.length (Nat.le_refl _)
  let E1 := zcpE E a i (r + 1) (offs A A.length) w.length
  have c1 : ∀ x : Nat, x ≠ r + 1 → E1 x = E x := fun x hx => funext fun k => if_neg (fun q => hx q.1)
  have c2 : ∀ k : Int, ¬ ((offs A A.length : Int) ≤ k ∧ k < offs A A.length + w.length) → E1 (r + 1) k = E (r + 1) k := fun k hk => if_neg (fun q => hk q.2)
  have c3 : ∀ k : Nat, k < w.length → E1 (r + 1) (offs A A.length + k) = w.getD k 0 := fun k hk => by
    show zcpE _ _ _ _ _ _ _ _ = _
    unfold zcpE
    rw [if_pos ⟨rfl, by omega, by omega⟩, ← hv k hk]
    congr 1
    omega
  let E2 := zuE E1 (r + 3) A.length dn
  let E3 := zuE E2 (r + 2) ((A.length : Int) + 1) (offs A A.length + w.length)
  let E4 := zuE E3 r 3 ((A.length : Int) + 1)
  have z3 : E4 r 3 = (A.length : Int) + 1 := zuE_same
  have zst : ∀ k : Int, k ≠ (A.length : Int) + 1 → E4 (r + 2) k = E (r + 2) k := fun k hk => by
    show zuE E3 r 3 _ (r + 2) k = _
    rw [zuE_ne (by omega)]
    show zuE E2 (r + 2) _ _ (r + 2) k = _
    rw [zuE_ix hk]
    show zuE E1 (r + 3) _ _ (r + 2) k = _
    rw [zuE_ne (by omega), c1 (r + 2) (by omega)]
  have zst2 : E4 (r + 2) ((A.length : Int) + 1) = offs A A.length + w.length := by
    show zuE E3 r 3 _ (r + 2) _ = _
    rw [zuE_ne (by omega)]
    exact zuE_same
  have zdn : ∀ k : Int, k ≠ (A.length : Int) → E4 (r + 3) k = E (r + 3) k := fun k hk => by
    show zuE E3 r 3 _ (r + 3) k = _
    rw [zuE_ne (by omega)]
    show zuE E2 (r + 2) _ _ (r + 3) k = _
    rw [zuE_ne (by omega)]
    show zuE E1 (r + 3) _ _ (r + 3) k = _
    rw [zuE_ix hk, c1 (r + 3) (by omega)]
  have zdn2 : E4 (r + 3) (A.length : Int) = dn := by
    show zuE E3 r 3 _ (r + 3) _ = _
    rw [zuE_ne (by omega)]
    show zuE E2 (r + 2) _ _ (r + 3) _ = _
    rw [zuE_ne (by omega)]
    exact zuE_same
  have zpl : E4 (r + 1) = E1 (r + 1) := by
    show zuE E3 r 3 _ (r + 1) = _
    rw [zuE_nf (by omega)]
    show zuE E2 (r + 2) _ _ (r + 1) = _
    rw [zuE_nf (by omega)]
    show zuE E1 (r + 3) _ _ (r + 1) = _
    rw [zuE_nf (by omega)]
  have fr : fz [r, r + 1, r + 2, r + 3] E E4 := by
    refine fz_put (fz_put (fz_put (fun x hx => ?_) (by simp)) (by simp)) (by simp)
    exact c1 x (fun e => hx (by rw [e]; simp))
  refine ⟨E4, zM_e rfl (Nat.le_of_ble_eq_true rfl) (fun kz Q hQ => ?_), ⟨?_, ?_, ?_, ?_⟩, fr, ?_⟩
  · refine X5_take_0 hX hr ha hk ⟨fun c => by omega, fun _ => ⟨fun _ => ?_, fun c => by omega⟩⟩
    rw [es, eo]
    refine ⟨⟨by omega, by omega⟩, ⟨by omega, by omega, by omega, by omega, by omega⟩, fun F1 h1 => ?_⟩
    have g1 : F1 = E1 := h1
    rw [g1, c1 r (by omega), es]
    refine ⟨⟨by omega, by omega⟩, hdn, fun F2 h2 => ?_⟩
    have g2 : F2 = E2 := h2
    have s2 : E2 r 3 = A.length := by
      show zuE E1 (r + 3) _ _ r 3 = _
      rw [zuE_ne (by omega), c1 r (by omega), es]
    have s3 : E2 (r + 2) (A.length : Int) = offs A A.length := by
      show zuE E1 (r + 3) _ _ (r + 2) _ = _
      rw [zuE_ne (by omega), c1 (r + 2) (by omega), eo]
    rw [g2, s2, s3]
    refine ⟨zin_of (by omega) (by omega), ⟨by omega, by omega⟩, zin_of (by omega) (by omega), ⟨by omega, by omega⟩, fun F3 h3 => ?_⟩
    have g3 : F3 = E3 := h3
    have s4 : E3 r 3 = A.length := by
      show zuE E2 (r + 2) _ _ r 3 = _
      rw [zuE_ne (by omega), s2]
    rw [g3, s4]
    refine ⟨zin_of (by omega) (by omega), fun F4 h4 => ?_⟩
    have g4 : F4 = E4 := h4
    rw [g4]
    exact hQ
  · rw [z3, List.length_append]
    simp
  · rw [List.length_append]
    simp
    omega
  · intro l hl2
    rw [List.length_append] at hl2
    simp at hl2
    rcases Nat.lt_or_ge A.length l with e | e
    · have : l = A.length + 1 := by omega
      subst this
      have e3 : ((A.length + 1 : Nat) : Int) = (A.length : Int) + 1 := by omega
      rw [e3, zst2]
      simp only [offs]
      rw [offs_app A.length (Nat.le_refl _), lit_app_r]
      simp
    · rw [zst l (by omega), offs_app l e]
      exact hA.2.2.1 l e
  · intro l hl2
    rw [List.length_append] at hl2
    simp at hl2
    rcases Nat.lt_or_ge l A.length with e | e
    · obtain ⟨p1, p2, p3, p4⟩ := hA.2.2.2 l e
      rw [lit_app_l e, offs_app l (by omega), zdn l (by omega), zpl]
      refine ⟨p1, p2, p3, fun k hk => ?_⟩
      have om : offs A (l + 1) ≤ offs A A.length := offs_mono (by omega)
      simp only [offs] at om
      rw [c2 _ (by omega)]
      exact p4 k hk
    · have : l = A.length := by omega
      subst this
      rw [lit_app_r, offs_app A.length (Nat.le_refl _), zdn2, zpl]
      exact ⟨rfl, hdn, hw, c3⟩
  · show zuE E3 r 3 _ r 4 = _
    rw [zuE_ix (by decide)]
    show zuE E2 (r + 2) _ _ r 4 = _
    rw [zuE_ne (by omega)]
    show zuE E1 (r + 3) _ _ r 4 = _
    rw [zuE_ne (by omega), c1 r (by omega)]
/-- no room for it -/
theorem take_no {r a n : Nat} {A : List zLt} {dn i ln : Int} (hX : zK zXt d G) (hr : zRk d G r) (ha : a ∈ d) (hk : zkd a = (0, n)) (hA : rowC E r A) (h : A.length = 6 ∨ 30 < ln) : zM zm_X5_take [zR r, zI dn, zR a, zI i, zI ln] (d, G, E) (some (zI 0)) (d, G, E) := by
  have es := hA.1
  refine zM_p rfl (Nat.le_of_ble_eq_true rfl) (fun kz Q hQ => X5_take_0 hX hr ha hk ⟨fun _ => hQ, fun c => ⟨fun c2 => ?_, fun _ => hQ⟩⟩)
  omega
end PK2
