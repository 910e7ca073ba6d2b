/-! ===== a row without one of its literals; with another word in it ===== -/
theorem zcpE_nf {E : Nat → Int → Int} {a b x : Nat} {i j n : Int} (h : x ≠ b) : zcpE E a i b j n x = E x := funext fun k => if_neg (fun q => h q.1)
theorem zcpE_out {E : Nat → Int → Int} {a b : Nat} {i j n k : Int} (h : k < j ∨ j + n ≤ k) : zcpE E a i b j n b k = E b k := if_neg (fun q => by omega)
theorem zcpE_in {E : Nat → Int → Int} {a b : Nat} {i j n k : Int} (h0 : j ≤ k) (h1 : k < j + n) : zcpE E a i b j n b k = E a (i + (k - j)) := by
  unfold zcpE
  rw [if_pos ⟨rfl, h0, h1⟩]
section PM
variable {d : List Nat} {G : Nat → Int → Option Nat} {E : Nat → Int → Int}
theorem remove_ok {r : Nat} {A B : List zLt} {y : zLt} (hX : zK zXt d G) (hr : zRk d G r) (hA : rowC E r (A ++ y :: B)) :
    ∃ E' : Nat → Int → Int, zM zm_X5_remove [zR r, zI (A.length : Int)] (d, G, E) none (d, G, E') ∧ rowC E' r (A ++ B) ∧ fz [r, r + 1, r + 2, r + 3] E E' ∧ E' r 4 = E r 4 := by
  have h6 := hA.2.1
  rw [len_m] at h6
  have hs := hA.1
  rw [len_m] at hs
  have hs' : E r 3 = (A.length : Int) + 1 + B.length := by rw [hs]; omega
  have ml := length_ok (E := E) (l := A.length) hX hr hA (by rw [len_m]; omega)
  rw [lit_m] at ml
  have st : ∀ l : Nat, l ≤ A.length → E (r + 2) l = offs A l := fun l hl => by
    rw [hA.2.2.1 l (by rw [len_m]; omega), offs_l hl]
  have st2 : ∀ j : Nat, j ≤ B.length → E (r + 2) ((A.length : Int) + 1 + j) = offs A A.length + y.2.length + offs B j := fun j hj => by
    have := hA.2.2.1 (A.length + 1 + j) (by rw [len_m]; omega)
    rw [offs_m2] at this
    have e : ((A.length + 1 + j : Nat) : Int) = (A.length : Int) + 1 + j := by omega
    rw [e] at this
    rw [this]; omega
  have ob := rowC_le hA (l := A.length + 1 + B.length) (by rw [len_m]; omega)
  rw [offs_m2] at ob
  have stA := st A.length (Nat.le_refl _)
  have stB0 := st2 0 (by omega)
  have e0 : (A.length : Int) + 1 + ((0 : Nat) : Int) = A.length + 1 := by omega
  rw [e0] at stB0
  have eo0 : offs B 0 = 0 := rfl
  rw [eo0] at stB0
  have stBn := st2 B.length (Nat.le_refl _)
  have dnA : ∀ l : Nat, l < A.length → E (r + 3) l = (lit A l).1 ∧ ((lit A l).1 = 0 ∨ (lit A l).1 = 1) ∧ (lit A l).2.length ≤ 30 ∧ ∀ k : Nat, k < (lit A l).2.length → E (r + 1) (offs A l + k) = (lit A l).2.getD k 0 := fun l hl => by
    have := hA.2.2.2 l (by rw [len_m]; omega)
    rw [lit_l hl, offs_l (by omega)] at this
    exact this
  have dnB : ∀ j : Nat, j < B.length → E (r + 3) ((A.length : Int) + 1 + j) = (lit B j).1 ∧ ((lit B j).1 = 0 ∨ (lit B j).1 = 1) ∧ (lit B j).2.length ≤ 30 ∧ ∀ k : Nat, k < (lit B j).2.length → E (r + 1) (offs A A.length + y.2.length + offs B j + k) = (lit B j).2.getD k 0 := fun j hj => by
    have := hA.2.2.2 (A.length + 1 + j) (by rw [len_m]; omega)
    rw [lit_m2, offs_m2] at this
    have e : ((A.length + 1 + j : Nat) : Int) = (A.length : Int) + 1 + j := by omega
    have e2 : ((offs A A.length + y.2.length + offs B j : Nat) : Int) = (offs A A.length : Int) + y.2.length + offs B j := by omega
    rw [e] at this
    refine ⟨this.1, this.2.1, this.2.2.1, fun k hk => ?_⟩
    have h := this.2.2.2 k hk
    rw [e2] at h
    exact h
  let E1 := zcpE E (r + 1) (offs A A.length + y.2.length) (r + 1) (offs A A.length) (offs B B.length)
  have c1 : ∀ x : Nat, x ≠ r + 1 → E1 x = E x := fun x hx => zcpE_nf hx
  have loop : ∀ (m : Nat) (k : Nat) (F : Nat → Int → Int), A.length + 1 ≤ k → k + m = A.length + 1 + B.length → fz [r + 2, r + 3] E1 F → (∀ j : Int, j ≤ A.length ∨ (k : Int) ≤ j → F (r + 2) j = E (r + 2) j) → (∀ j : Int, (A.length : Int) < j → j < k → F (r + 2) j = E (r + 2) (j + 1) - y.2.length) → (∀ j : Int, j < A.length ∨ (k : Int) - 1 ≤ j → F (r + 3) j = E (r + 3) j) → (∀ j : Int, (A.length : Int) ≤ j → j < (k : Int) - 1 → F (r + 3) j = E (r + 3) (j + 1)) →
      ∃ E' : Nat → Int → Int, zgo zm_X5_remove 53 [(0, zR r), (2, zI (y.2.length : Int)), (3, zI (k : Int))] [] (d, G, F) none (d, G, E') ∧ fz [r, r + 2, r + 3] E1 E' ∧ E' r 3 = (A.length : Int) + B.length ∧ E' r 4 = E r 4 ∧ (∀ j : Int, j ≤ A.length → E' (r + 2) j = E (r + 2) j) ∧ (∀ j : Int, (A.length : Int) < j → j ≤ (A.length : Int) + B.length → E' (r + 2) j = E (r + 2) (j + 1) - y.2.length) ∧ (∀ j : Int, j < A.length → E' (r + 3) j = E (r + 3) j) ∧ (∀ j : Int, (A.length : Int) ≤ j → j < (A.length : Int) + B.length → E' (r + 3) j = E (r + 3) (j + 1)) := by
    intro m
    induction m with
    | zero =>
      intro k F k1 k2 hf a1 a2 b1 b2
      have f3 : F r = E r := by rw [hf r (by simp), c1 r (by omega)]
      refine ⟨zuE F r 3 ((A.length : Int) + B.length), fun kz Q hQ => X5_remove_53 hX hr ⟨fun _ => ⟨by rw [f3, hs']; exact zin_of (by omega) (by omega), fun F3 h3 => ?_⟩, fun c => ?_⟩, fz_put (fz_mono hf (by simp)) (by simp), zuE_same, ?_, ?_, ?_, ?_, ?_⟩
      · have e : E r 3 - 1 = (A.length : Int) + B.length := by omega
        rw [h3, f3, e]
        exact hQ
      · rw [f3, hs'] at c; omega
      · rw [zuE_ix (by decide), f3]
      · intro j hj; rw [zuE_ne (by omega)]; exact a1 j (Or.inl hj)
      · intro j h1 h2; rw [zuE_ne (by omega)]; exact a2 j h1 (by omega)
      · intro j hj; rw [zuE_ne (by omega)]; exact b1 j (Or.inl hj)
      · intro j h1 h2; rw [zuE_ne (by omega)]; exact b2 j h1 (by omega)
    | succ m ih =>
      intro k F k1 k2 hf a1 a2 b1 b2
      have f3 : F r = E r := by rw [hf r (by simp), c1 r (by omega)]
      have bk := b1 k (Or.inr (by omega))
      have q := dnB (k - A.length - 1) (by omega)
      have ek : (A.length : Int) + 1 + ((k - A.length - 1 : Nat) : Int) = k := by omega
      rw [ek] at q
      have s1 := st2 (k - A.length - 1 + 1) (by omega)
      have ek1 : (A.length : Int) + 1 + ((k - A.length - 1 + 1 : Nat) : Int) = (k : Int) + 1 := by omega
      rw [ek1] at s1
      have ob2 : offs B (k - A.length - 1 + 1) ≤ offs B B.length := offs_mono (by omega)
      let F1 := zuE F (r + 3) ((k : Int) - 1) (E (r + 3) k)
      let F2 := zuE F1 (r + 2) k (E (r + 2) ((k : Int) + 1) - y.2.length)
      have g1 : F1 (r + 2) = F (r + 2) := zuE_nf (by omega)
      have g2 : F2 (r + 3) = F1 (r + 3) := zuE_nf (by omega)
      obtain ⟨E', z, zr⟩ := ih (k + 1) F2 (by omega) (by omega) (fz_put (fz_put hf (by simp)) (by simp))
        (fun j hj => by
          show zuE F1 (r + 2) k _ (r + 2) j = _
          rw [zuE_ix (by omega), g1]; exact a1 j (by omega))
        (fun j h1 h2 => by
          show zuE F1 (r + 2) k _ (r + 2) j = _
          rcases (by omega : j < (k : Int) ∨ (k : Int) ≤ j) with e | e
          · rw [zuE_ix (by omega), g1]; exact a2 j h1 e
          · have : j = k := by omega
            subst this
            exact zuE_same)
        (fun j hj => by
          rw [g2]
          show zuE F (r + 3) _ _ (r + 3) j = _
          rw [zuE_ix (by omega)]; exact b1 j (by omega))
        (fun j h1 h2 => by
          rw [g2]
          show zuE F (r + 3) _ _ (r + 3) j = _
          rcases (by omega : j < (k : Int) - 1 ∨ (k : Int) - 1 ≤ j) with e | e
          · rw [zuE_ix (by omega)]; exact b2 j h1 e
          · have : j = (k : Int) - 1 := by omega
            subst this
            rw [zuE_same]
            congr 1
            omega)
      refine ⟨E', fun kz Q hQ => ?_, zr⟩
      have hz := z kz Q hQ
      have e1 : ((k + 1 : Nat) : Int) = (k : Int) + 1 := by omega
      rw [e1] at hz
      refine X5_remove_53 hX hr ⟨fun c => ?_, fun _ => ⟨zin_of (by omega) (by omega), ⟨by omega, by omega⟩, ⟨by omega, by omega⟩, by rw [bk, q.1]; exact q.2.1, fun G1 h1 => ?_⟩⟩
      · rw [f3, hs'] at c; omega
      · have hg : G1 = F1 := by rw [h1, bk]
        have hg2 : G1 (r + 2) ((k : Int) + 1) = E (r + 2) ((k : Int) + 1) := by rw [hg, g1]; exact a1 _ (by omega)
        rw [hg2]
        refine ⟨zin_of (by omega) (by omega), ⟨by omega, by omega⟩, by rw [s1]; exact zin_of (by omega) (by omega), ⟨by omega, by omega⟩, fun G2 h2 => ?_⟩
        have : G2 = F2 := by rw [h2, hg]
        rw [this]
        exact ⟨zin_of (by omega) (by omega), hz⟩
  obtain ⟨E', z, hf, s3, s4, a1, a2, b1, b2⟩ := loop B.length (A.length + 1) E1 (Nat.le_refl _) (by omega) fz_rfl (fun j _ => by rw [c1 _ (by omega)]) (fun j h1 h2 => by omega) (fun j _ => by rw [c1 _ (by omega)]) (fun j h1 h2 => by omega)
  have f1 : E' (r + 1) = E1 (r + 1) := hf _ (by simp)
  refine ⟨E', zM_go rfl (Nat.le_of_ble_eq_true rfl) (fun kz Q hQ => ?_), ⟨?_, ?_, ?_, ?_⟩, fun x hx => ?_, s4⟩
  · have hz := z kz Q hQ
    have e1 : ((A.length + 1 : Nat) : Int) = (A.length : Int) + 1 := by omega
    rw [e1] at hz
    rw [← hs'] at stBn
    refine X5_remove_0 hX hr ⟨_, ml, zin_of (by omega) (by omega), ⟨by omega, by omega⟩, ⟨by omega, by omega⟩, by rw [hs']; exact ⟨by omega, by omega⟩, zin_of (by omega) (by omega), ⟨by omega, by omega⟩, ?_⟩
    rw [stBn, stB0, stA]
    refine ⟨zin_of (by omega) (by omega), ⟨by omega, by omega, by omega, by omega, by omega⟩, fun F1 h1 => ⟨zin_of (by omega) (by omega), ?_⟩⟩
    have e2 : (offs A A.length : Int) + (y.2.length : Int) + (offs B B.length : Int) - ((offs A A.length : Int) + (y.2.length : Int) + ((0 : Nat) : Int)) = offs B B.length := by omega
    have e3 : (offs A A.length : Int) + (y.2.length : Int) + ((0 : Nat) : Int) = (offs A A.length : Int) + (y.2.length : Int) := by omega
    rw [e2, e3] at h1
    rw [h1]
    exact hz
  · rw [s3, List.length_append]; omega
  · rw [List.length_append]; omega
  · intro l hl
    rw [List.length_append] at hl
    rcases Nat.lt_or_ge A.length l with e | e
    · have hj := a2 l (by omega) (by omega)
      have hq := st2 (l - A.length) (by omega)
      have el : (A.length : Int) + 1 + ((l - A.length : Nat) : Int) = (l : Int) + 1 := by omega
      rw [el] at hq
      have ho := offs_r (A := A) (B := B) (j := l - A.length)
      have el2 : A.length + (l - A.length) = l := by omega
      rw [el2] at ho
      rw [hj, hq, ho]
      omega
    · rw [a1 l (by omega), st l e, offs_l e]
  · intro l hl
    rw [List.length_append] at hl
    rcases Nat.lt_or_ge l A.length with e | e
    · obtain ⟨p1, p2, p3, p4⟩ := dnA l e
      rw [lit_l e, offs_l (by omega), b1 l (by omega), f1]
      refine ⟨p1, p2, p3, fun k hk => ?_⟩
      have om : offs A (l + 1) ≤ offs A A.length := offs_mono (by omega)
      simp only [offs] at om
      exact (zcpE_out (by omega)).trans (p4 k hk)
    · obtain ⟨p1, p2, p3, p4⟩ := dnB (l - A.length) (by omega)
      have el : (A.length : Int) + 1 + ((l - A.length : Nat) : Int) = (l : Int) + 1 := by omega
      rw [el] at p1
      have el2 : A.length + (l - A.length) = l := by omega
      have ho := offs_r (A := A) (B := B) (j := l - A.length)
      have hl' := lit_r (A := A) (B := B) (j := l - A.length)
      rw [el2] at ho hl'
      rw [hl', ho, b2 l (by omega) (by omega), f1]
      refine ⟨p1, p2, p3, fun k hk => ?_⟩
      have om : offs B (l - A.length + 1) ≤ offs B B.length := offs_mono (by omega)
      simp only [offs] at om
      refine (zcpE_in (by omega) (by omega)).trans ?_
      rw [← p4 k hk]
      congr 1
      omega
  · rw [hf x (by simp at hx ⊢; omega), c1 x (by simp at hx; omega)]
end PM
