/-! ===== a word with other places in it ===== -/
def rpl (w : List Int) (p n : Nat) (v : List Int) : List Int := w.take p ++ (v ++ w.drop (p + n))
theorem rpl_len {w v : List Int} {p n : Nat} (h : p + n ≤ w.length) : (rpl w p n v).length = w.length - n + v.length := by
  unfold rpl
  rw [List.length_append, List.length_append, List.length_take, List.length_drop]
  omega
theorem rpl_l {w v : List Int} {p n k : Nat} (h : p + n ≤ w.length) (hk : k < p) : (rpl w p n v).getD k 0 = w.getD k 0 := by
  unfold rpl
  rw [List.getD_eq_getElem?_getD, List.getD_eq_getElem?_getD, List.getElem?_append_left (by rw [List.length_take]; omega), List.getElem?_take_of_lt hk]
theorem rpl_m {w v : List Int} {p n k : Nat} (h : p + n ≤ w.length) (hk : k < v.length) : (rpl w p n v).getD (p + k) 0 = v.getD k 0 := by
  unfold rpl
  rw [List.getD_eq_getElem?_getD, List.getD_eq_getElem?_getD, List.getElem?_append_right (by rw [List.length_take]; omega), List.length_take, List.getElem?_append_left (by omega)]
  congr 2
  omega
theorem rpl_r {w v : List Int} {p n k : Nat} (h : p + n ≤ w.length) : (rpl w p n v).getD (p + v.length + k) 0 = w.getD (p + n + k) 0 := by
  unfold rpl
  rw [List.getD_eq_getElem?_getD, List.getD_eq_getElem?_getD, List.getElem?_append_right (by rw [List.length_take]; omega), List.length_take, List.getElem?_append_right (by omega), List.getElem?_drop]
  congr 2
  omega
section PO
variable {d : List Nat} {G : Nat → Int → Option Nat} {E : Nat → Int → Int}
theorem replace_ok {r a na p n : Nat} {A B : List zLt} {dn : Int} {w v : List Int} (hX : zK zXt d G) (hr : zRk d G r) (ha : a ∈ d) (hk : zkd a = (0, na)) (har : a ≠ r + 1) (hA : rowC E r (A ++ (dn, w) :: B)) (hp : p + n ≤ w.length) (hv : ∀ k : Nat, k < v.length → E a k = v.getD k 0) (hvn : v.length ≤ na) (hvl : v.length ≤ 1000) (h30 : w.length - n + v.length ≤ 30) :
    ∃ E' : Nat → Int → Int, zM zm_X5_replace [zR r, zI (A.length : Int), zI ((offs A A.length : Int) + p), zI ((offs A A.length : Int) + p + n), zR a, zI (v.length : Int)] (d, G, E) (some (zI 1)) (d, G, E') ∧ rowC E' r (A ++ (dn, rpl w p n v) :: B) ∧ fz [r + 1, r + 2] E E' := by
  have h6 := hA.2.1
  rw [len_m] at h6
  have hs := hA.1
  rw [len_m] at hs
  have hs' : E r 3 = (A.length : Int) + 1 + B.length := by rw [hs]; omega
  have ml := length_ok (E := E) (l := A.length) hX hr hA (by rw [len_m]; omega)
  rw [lit_m] at ml
  dsimp only at ml
  have st : ∀ l : Nat, l ≤ A.length → E (r + 2) l = offs A l := fun l hl => by
    rw [hA.2.2.1 l (by rw [len_m]; omega), offs_l hl]
  have st2 : ∀ j : Nat, j ≤ B.length → E (r + 2) ((A.length : Int) + 1 + j) = offs A A.length + w.length + offs B j := fun j hj => by
    have := hA.2.2.1 (A.length + 1 + j) (by rw [len_m]; omega)
    rw [offs_m2] at this
    have e : ((A.length + 1 + j : Nat) : Int) = (A.length : Int) + 1 + j := by omega
    rw [e] at this
    rw [this]; simp only; omega
  have ob := rowC_le hA (l := A.length + 1 + B.length) (by rw [len_m]; omega)
  rw [offs_m2] at ob
  simp only at ob
  have stBn := st2 B.length (Nat.le_refl _)
  have dnA : ∀ l : Nat, l < A.length → E (r + 3) l = (lit A l).1 ∧ ((lit A l).1 = 0 ∨ (lit A l).1 = 1) ∧ (lit A l).2.length ≤ 30 ∧ ∀ k : Nat, k < (lit A l).2.length → E (r + 1) (offs A l + k) = (lit A l).2.getD k 0 := fun l hl => by
    have := hA.2.2.2 l (by rw [len_m]; omega)
    rw [lit_l hl, offs_l (by omega)] at this
    exact this
  have dnM := hA.2.2.2 A.length (by rw [len_m]; omega)
  rw [lit_m, offs_m] at dnM
  simp only at dnM
  have dnB : ∀ j : Nat, j < B.length → E (r + 3) ((A.length : Int) + 1 + j) = (lit B j).1 ∧ ((lit B j).1 = 0 ∨ (lit B j).1 = 1) ∧ (lit B j).2.length ≤ 30 ∧ ∀ k : Nat, k < (lit B j).2.length → E (r + 1) (offs A A.length + w.length + offs B j + k) = (lit B j).2.getD k 0 := fun j hj => by
    have := hA.2.2.2 (A.length + 1 + j) (by rw [len_m]; omega)
    rw [lit_m2, offs_m2] at this
    have e : ((A.length + 1 + j : Nat) : Int) = (A.length : Int) + 1 + j := by omega
    have e2 : ((offs A A.length + w.length + offs B j : Nat) : Int) = (offs A A.length : Int) + w.length + offs B j := by omega
    rw [e] at this
    refine ⟨this.1, this.2.1, this.2.2.1, fun k hk => ?_⟩
    have h := this.2.2.2 k hk
    simp only at h
    rw [e2] at h
    exact h
  have rl := rpl_len (v := v) hp
  have obA := offs_le (fun x hx => (dnA x hx).2.2.1) A.length (Nat.le_refl _)
  have obB := offs_le (fun x hx => (dnB x hx).2.2.1) B.length (Nat.le_refl _)
  have tot : offs A A.length + (w.length - n + v.length) + offs B B.length ≤ 180 := by omega
  let more : Int := (v.length : Int) - n
  let at0 : Int := (offs A A.length : Int) + p
  let E1 := zcpE E (r + 1) (at0 + n) (r + 1) (at0 + n + more) (((w.length : Int) - p - n) + offs B B.length)
  let E2 := zcpE E1 a 0 (r + 1) at0 v.length
  have c1 : ∀ x : Nat, x ≠ r + 1 → E2 x = E x := fun x hx => by
    show zcpE E1 _ _ _ _ _ x = _
    rw [zcpE_nf hx]
    exact zcpE_nf hx
  -- what lies in the places now
  have w1 : ∀ k : Int, k < at0 → E2 (r + 1) k = E (r + 1) k := fun k hk => (zcpE_out (by omega)).trans (zcpE_out (by omega))
  have w2 : ∀ k : Nat, k < v.length → E2 (r + 1) (at0 + k) = v.getD k 0 := fun k hk => by
    refine (zcpE_in (by omega) (by omega)).trans ?_
    have : E1 a = E a := zcpE_nf har
    rw [this, ← hv k hk]
    congr 1
    omega
  have w3 : ∀ k : Nat, (k : Int) < (w.length : Int) - p - n + offs B B.length → E2 (r + 1) (at0 + v.length + k) = E (r + 1) (at0 + n + k) := fun k hk => by
    refine (zcpE_out (by omega)).trans ?_
    refine (zcpE_in (by omega) (by omega)).trans ?_
    congr 1
    omega
  have loop : ∀ (m k : Nat) (F : Nat → Int → Int), A.length + 1 ≤ k → k + m = A.length + 2 + B.length → fz [r + 2] E2 F → (∀ j : Int, j ≤ A.length ∨ (k : Int) ≤ j → F (r + 2) j = E (r + 2) j) → (∀ j : Int, (A.length : Int) < j → j < k → F (r + 2) j = E (r + 2) j + more) →
      ∃ E' : Nat → Int → Int, zgo zm_X5_replace 68 [(0, zR r), (6, zI more), (7, zI (k : Int))] [] (d, G, F) (some (zI 1)) (d, G, E') ∧ fz [r + 2] E2 E' ∧ (∀ j : Int, j ≤ A.length → E' (r + 2) j = E (r + 2) j) ∧ (∀ j : Int, (A.length : Int) < j → j ≤ (A.length : Int) + 1 + B.length → E' (r + 2) j = E (r + 2) j + more) := by
    intro m
    induction m with
    | zero =>
      intro k F k1 k2 hf a1 a2
      have f3 : F r = E r := by rw [hf r (by simp), c1 r (by omega)]
      exact ⟨F, fun kz Q hQ => X5_replace_68 hX hr ⟨fun _ => hQ, fun c => absurd (by rw [f3, hs']; omega) c⟩, hf, fun j hj => a1 j (Or.inl hj), fun j h1 h2 => a2 j h1 (by omega)⟩
    | succ m ih =>
      intro k F k1 k2 hf a1 a2
      have f3 : F r = E r := by rw [hf r (by simp), c1 r (by omega)]
      have ak := a1 k (Or.inr (by omega))
      have s1 := st2 (k - A.length - 1) (by omega)
      have ek1 : (A.length : Int) + 1 + ((k - A.length - 1 : Nat) : Int) = (k : Int) := by omega
      rw [ek1] at s1
      have ob2 : offs B (k - A.length - 1) ≤ offs B B.length := offs_mono (by omega)
      obtain ⟨E', z, zr⟩ := ih (k + 1) (zuE F (r + 2) k (E (r + 2) k + more)) (by omega) (by omega) (fz_put hf (by simp))
        (fun j hj => by rw [zuE_ix (by omega)]; exact a1 j (by omega))
        (fun j h1 h2 => by
          rcases (by omega : j < (k : Int) ∨ (k : Int) ≤ j) with e | e
          · rw [zuE_ix (by omega)]; exact a2 j h1 e
          · have : j = k := by omega
            subst this
            exact zuE_same)
      refine ⟨E', fun kz Q hQ => ?_, zr⟩
      have hz := z kz Q hQ
      have e1 : ((k + 1 : Nat) : Int) = (k : Int) + 1 := by omega
      rw [e1] at hz
      refine X5_replace_68 hX hr ⟨fun c => ?_, fun _ => ⟨⟨by omega, by omega⟩, by rw [ak, s1]; exact zin_of (by show _ ≤ _ + ((v.length : Int) - n); omega) (by show _ + ((v.length : Int) - n) ≤ _; omega), ⟨by omega, by omega⟩, fun F1 h1 => ?_⟩⟩
      · rw [f3, hs'] at c; omega
      · rw [h1, ak]
        exact ⟨zin_of (by omega) (by omega), hz⟩
  obtain ⟨E', z, hf, a1, a2⟩ := loop (B.length + 1) (A.length + 1) E2 (Nat.le_refl _) (by omega) fz_rfl (fun j _ => by rw [c1 _ (by omega)]) (fun j h1 h2 => by omega)
  have f1 : E' (r + 1) = E2 (r + 1) := hf _ (by simp)
  refine ⟨E', zM_go rfl (Nat.le_of_ble_eq_true rfl) (fun kz Q hQ => ?_), ⟨?_, ?_, ?_, ?_⟩, fun x hx => ?_⟩
  · have hz := z kz Q hQ
    have e1 : ((A.length + 1 : Nat) : Int) = (A.length : Int) + 1 := by omega
    rw [e1] at hz
    rw [← hs'] at stBn
    have em : (v.length : Int) - ((offs A A.length : Int) + p + n - ((offs A A.length : Int) + p)) = more := by show _ = (v.length : Int) - n; omega
    have en : (offs A A.length : Int) + w.length + offs B B.length - ((offs A A.length : Int) + p + n) = ((w.length : Int) - p - n) + offs B B.length := by omega
    refine X5_replace_0 hX hr ha hk ⟨zin_of (by omega) (by omega), zin_of (by omega) (by omega), _, ml, ?_⟩
    rw [em, stBn, en]
    have hm : more = (v.length : Int) - n := rfl
    refine ⟨zin_of (by omega) (by omega), fun _ => ⟨zin_of (by omega) (by omega), by rw [hs']; exact ⟨by omega, by omega⟩, zin_of (by omega) (by omega), ⟨by omega, by omega, by omega, by omega, by omega⟩, fun F1 h1 => ⟨⟨by omega, by omega, by omega, by omega, by omega⟩, fun F2 h2 => ⟨zin_of (by omega) (by omega), ?_⟩⟩⟩, fun c => absurd (by omega) c⟩
    rw [h2, h1]
    exact hz
  · rw [hf r (by simp), c1 r (by omega), len_m, hs']; omega
  · rw [len_m]; omega
  · intro l hl
    rw [len_m] at hl
    rcases Nat.lt_or_ge A.length l with e | e
    · have hj := a2 l (by omega) (by omega)
      have hq := st2 (l - A.length - 1) (by omega)
      have el : (A.length : Int) + 1 + ((l - A.length - 1 : Nat) : Int) = (l : Int) := by omega
      rw [el] at hq
      have ho := offs_m2 (A := A) (B := B) (y := (dn, rpl w p n v)) (j := l - A.length - 1)
      have el2 : A.length + 1 + (l - A.length - 1) = l := by omega
      rw [el2] at ho
      simp only at ho
      rw [hj, hq, ho, rl]
      show _ + ((v.length : Int) - n) = _
      omega
    · rw [a1 l (by omega), st l e, offs_l e]
  · intro l hl
    rw [len_m] at hl
    rw [f1, hf (r + 3) (by simp), c1 (r + 3) (by omega)]
    rcases Nat.lt_trichotomy l A.length with e | e | e
    · obtain ⟨p1, p2, p3, p4⟩ := dnA l e
      rw [lit_l e, offs_l (by omega)]
      refine ⟨p1, p2, p3, fun k hk => ?_⟩
      have om : offs A (l + 1) ≤ offs A A.length := offs_mono (by omega)
      simp only [offs] at om
      exact (w1 _ (by show _ < (offs A A.length : Int) + p; omega)).trans (p4 k hk)
    · subst e
      rw [lit_m, offs_m]
      refine ⟨dnM.1, dnM.2.1, by simp only; omega, fun k hk => ?_⟩
      simp only at hk ⊢
      rw [rl] at hk
      rcases Nat.lt_or_ge k p with e1 | e1
      · rw [rpl_l hp e1, w1 _ (by show _ < (offs A A.length : Int) + p; omega)]
        exact dnM.2.2.2 k (by omega)
      · rcases Nat.lt_or_ge k (p + v.length) with e2 | e2
        · have := rpl_m (v := v) hp (k := k - p) (by omega)
          have ek : p + (k - p) = k := by omega
          rw [ek] at this
          rw [this, ← w2 (k - p) (by omega)]
          congr 1
          show _ = (offs A A.length : Int) + p + _
          omega
        · have := rpl_r (v := v) hp (k := k - p - v.length)
          have ek : p + v.length + (k - p - v.length) = k := by omega
          rw [ek] at this
          rw [this, ← dnM.2.2.2 _ (by omega)]
          have h3 := w3 (k - p - v.length) (by omega)
          have ek2 : at0 + v.length + ((k - p - v.length : Nat) : Int) = (offs A A.length : Int) + k := by
            show (offs A A.length : Int) + p + _ + _ = _
            omega
          rw [ek2] at h3
          rw [h3]
          congr 1
          show (offs A A.length : Int) + p + _ + _ = _
          omega
    · obtain ⟨p1, p2, p3, p4⟩ := dnB (l - A.length - 1) (by omega)
      have el : (A.length : Int) + 1 + ((l - A.length - 1 : Nat) : Int) = (l : Int) := by omega
      rw [el] at p1
      have el2 : A.length + 1 + (l - A.length - 1) = l := by omega
      have ho := offs_m2 (A := A) (B := B) (y := (dn, rpl w p n v)) (j := l - A.length - 1)
      have hl' := lit_m2 (A := A) (B := B) (y := (dn, rpl w p n v)) (j := l - A.length - 1)
      rw [el2] at ho hl'
      simp only at ho
      rw [hl', ho, rl]
      refine ⟨p1, p2, p3, fun k hk => ?_⟩
      have om : offs B (l - A.length - 1 + 1) ≤ offs B B.length := offs_mono (by omega)
      simp only [offs] at om
      rw [← p4 k hk]
      have h3 := w3 (w.length - p - n + offs B (l - A.length - 1) + k) (by omega)
      have ek2 : at0 + v.length + ((w.length - p - n + offs B (l - A.length - 1) + k : Nat) : Int) = ((offs A A.length + (w.length - n + v.length) + offs B (l - A.length - 1) : Nat) : Int) + k := by
        show (offs A A.length : Int) + p + _ + _ = _
        omega
      rw [ek2] at h3
      rw [h3]
      congr 1
      show (offs A A.length : Int) + p + _ + _ = _
      omega
  · rw [hf x (by simp at hx ⊢; omega), c1 x (by simp at hx; omega)]
theorem replace_no {r a na p n : Nat} {A B : List zLt} {dn : Int} {w : List Int} {m : Nat} (hX : zK zXt d G) (hr : zRk d G r) (ha : a ∈ d) (hk : zkd a = (0, na)) (hA : rowC E r (A ++ (dn, w) :: B)) (hp : p + n ≤ w.length) (hm : m ≤ 1000) (h30 : 30 < w.length - n + m) :
    zM zm_X5_replace [zR r, zI (A.length : Int), zI ((offs A A.length : Int) + p), zI ((offs A A.length : Int) + p + n), zR a, zI (m : Int)] (d, G, E) (some (zI 0)) (d, G, E) := by
  have h6 := hA.2.1
  rw [len_m] at h6
  have ml := length_ok (E := E) (l := A.length) hX hr hA (by rw [len_m]; omega)
  have w30 := (hA.2.2.2 A.length (by rw [len_m]; omega)).2.2.1
  rw [lit_m] at ml w30
  dsimp only at ml w30
  have ob := rowC_le hA (l := A.length) (by rw [len_m]; omega)
  rw [offs_m] at ob
  exact zM_p rfl (Nat.le_of_ble_eq_true rfl) (fun kz Q hQ => X5_replace_0 hX hr ha hk ⟨zin_of (by omega) (by omega), zin_of (by omega) (by omega), _, ml, zin_of (by omega) (by omega), fun c => absurd c (by omega), fun _ => hQ⟩)
end PO
