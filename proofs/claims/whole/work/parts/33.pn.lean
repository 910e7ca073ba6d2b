/-! ===== rows copied, compared, with another word for a term ===== -/
theorem lit_ext {A B : List zLt} (h : A.length = B.length) (h2 : ∀ l : Nat, l < A.length → lit A l = lit B l) : A = B := by
  apply List.ext_getElem h
  intro l l1 l2
  have := h2 l l1
  unfold lit at this
  simpa [List.getD_eq_getElem?_getD, l1, l2] using this
theorem offs_eq {A B : List zLt} : ∀ {l : Nat}, (∀ k : Nat, k < l → (lit A k).2.length = (lit B k).2.length) → offs A l = offs B l
  | 0, _ => rfl
  | l + 1, h => by
    simp only [offs]
    rw [offs_eq (fun k hk => h k (by omega)), h l (by omega)]
section PN
variable {d : List Nat} {G : Nat → Int → Option Nat} {E : Nat → Int → Int}
theorem copy_ok {r s : Nat} {A : List zLt} (hX : zK zXt d G) (hr : zRk d G r) (hs : zRk d G s) (hrs : r + 3 < s ∨ s + 3 < r) (hA : rowC E s A) :
    ∃ E' : Nat → Int → Int, zM zm_X5_copy [zR r, zR s] (d, G, E) none (d, G, E') ∧ rowC E' r A ∧ fz [r, r + 1, r + 2, r + 3] E E' ∧ E' r 4 = E s 4 := by
  have h6 := hA.2.1
  have e3 := hA.1
  have en := hA.2.2.1 A.length (Nat.le_refl _)
  have ob := rowC_le hA (l := A.length) (Nat.le_refl _)
  let E1 := zuE E r 3 (A.length : Int)
  let E2 := zuE E1 r 4 (E s 4)
  let E3 := zcpE E2 (s + 2) 0 (r + 2) 0 ((A.length : Int) + 1)
  let E4 := zcpE E3 (s + 1) 0 (r + 1) 0 (offs A A.length)
  have g1 : ∀ x : Nat, x ≠ r → E2 x = E x := fun x hx => by
    show zuE E1 r 4 _ x = _
    rw [zuE_nf hx]
    exact zuE_nf hx
  have g3 : ∀ x : Nat, x ≠ r → x ≠ r + 1 → x ≠ r + 2 → E4 x = E x := fun x h1 h2 h3 => by
    show zcpE E3 _ _ _ _ _ x = _
    rw [zcpE_nf h2]
    show zcpE E2 _ _ _ _ _ x = _
    rw [zcpE_nf h3, g1 x h1]
  have gr : E4 r = E2 r := by
    show zcpE E3 _ _ _ _ _ r = _
    rw [zcpE_nf (by omega)]
    exact zcpE_nf (by omega)
  have r3 : E2 r 3 = A.length := by
    show zuE E1 r 4 _ r 3 = _
    rw [zuE_ix (by decide)]
    exact zuE_same
  have gst : ∀ l : Nat, l ≤ A.length → E4 (r + 2) l = offs A l := fun l hl => by
    show zcpE E3 _ _ _ _ _ (r + 2) _ = _
    rw [zcpE_nf (by omega)]
    refine (zcpE_in (by omega) (by omega)).trans ?_
    rw [g1 _ (by omega), ← hA.2.2.1 l hl]
    congr 1
    omega
  have gpl : ∀ k : Int, 0 ≤ k → k < offs A A.length → E4 (r + 1) k = E (s + 1) k := fun k k0 k1 => by
    refine (zcpE_in (by omega) (by omega)).trans ?_
    have : E3 (s + 1) = E (s + 1) := by
      show zcpE E2 _ _ _ _ _ (s + 1) = _
      rw [zcpE_nf (by omega), g1 _ (by omega)]
    rw [this]
    congr 1
    omega
  have loop : ∀ (m k : Nat) (F : Nat → Int → Int), k + m = A.length → fz [r + 3] E4 F → (∀ j : Nat, j < k → F (r + 3) j = E (s + 3) j) → ∃ E' : Nat → Int → Int, zgo zm_X5_copy 59 [(0, zR r), (1, zR s), (2, zI (k : Int))] [] (d, G, F) none (d, G, E') ∧ fz [r + 3] E4 E' ∧ ∀ j : Nat, j < A.length → E' (r + 3) j = E (s + 3) j := by
    intro m
    induction m with
    | zero =>
      intro k F hk hf hj
      have fr : F r 3 = A.length := by rw [hf r (by simp), gr, r3]
      exact ⟨F, fun kz Q hQ => X5_copy_59 hX hr hs ⟨fun _ => hQ, fun c => absurd (by rw [fr]; omega) c⟩, hf, fun j q => hj j (by omega)⟩
    | succ m ih =>
      intro k F hk hf hj
      have fr : F r 3 = A.length := by rw [hf r (by simp), gr, r3]
      have fs : F (s + 3) = E (s + 3) := by rw [hf _ (by simp; omega), g3 _ (by omega) (by omega) (by omega)]
      have q := hA.2.2.2 k (by omega)
      obtain ⟨E', z, zr⟩ := ih (k + 1) (zuE F (r + 3) k (E (s + 3) k)) (by omega) (fz_put hf (by simp)) (fun j q => by
        rcases Nat.lt_or_ge j k with e | e
        · rw [zuE_ix (by omega)]; exact hj j e
        · have : j = k := by omega
          subst this
          exact zuE_same)
      refine ⟨E', fun kz Q hQ => X5_copy_59 hX hr hs ⟨fun c => ?_, fun _ => ⟨⟨by omega, by omega⟩, ⟨by omega, by omega⟩, by rw [fs, q.1]; exact q.2.1, fun F1 h1 => ⟨zin_of (by omega) (by omega), ?_⟩⟩⟩, zr⟩
      · rw [fr] at c; omega
      · rw [h1, fs]
        have hz := z kz Q hQ
        have e1 : ((k + 1 : Nat) : Int) = (k : Int) + 1 := by omega
        rw [e1] at hz
        exact hz
  obtain ⟨E', z, hf, hd⟩ := loop A.length 0 E4 (by omega) fz_rfl (fun j q => by omega)
  refine ⟨E', zM_go rfl (Nat.le_of_ble_eq_true rfl) (fun kz Q hQ => X5_copy_0 hX hr hs (fun F1 h1 F2 h2 => ?_)), ⟨?_, h6, fun l hl => ?_, fun l hl => ?_⟩, fun x hx => ?_, ?_⟩
  · have k1 : F1 = E1 := by rw [h1, e3]
    have k1s : F1 s 4 = E s 4 := by rw [k1]; exact zuE_ne (by omega) _
    have k2 : F2 = E2 := by rw [h2, k1s, k1]
    rw [k2, r3]
    refine ⟨zin_of (by omega) (by omega), ⟨by omega, by omega, by omega, by omega, by omega⟩, fun F3 h3 => ?_⟩
    have k3 : F3 = E3 := h3
    have r33 : E3 r 3 = A.length := by
      show zcpE E2 _ _ _ _ _ r 3 = _
      rw [zcpE_nf (by omega), r3]
    have r34 : E3 (r + 2) (A.length : Int) = offs A A.length := by
      refine (zcpE_in (by omega) (by omega)).trans ?_
      rw [g1 _ (by omega), ← en]
      congr 1
      omega
    rw [k3, r33, r34]
    refine ⟨⟨by omega, by omega⟩, ⟨by omega, by omega, by omega, by omega, by omega⟩, fun F4 h4 => ?_⟩
    have k4 : F4 = E4 := h4
    rw [k4]
    exact z kz Q hQ
  · rw [hf r (by simp), gr, r3]
  · rw [hf _ (by simp), gst l hl]
  · obtain ⟨p1, p2, p3, p4⟩ := hA.2.2.2 l hl
    rw [hd l hl, hf _ (by simp)]
    refine ⟨p1, p2, p3, fun k hk => ?_⟩
    have om : offs A (l + 1) ≤ offs A A.length := offs_mono (by omega)
    simp only [offs] at om
    rw [gpl _ (by omega) (by omega)]
    exact p4 k hk
  · rw [hf x (by simp at hx ⊢; omega), g3 x (by simp at hx; omega) (by simp at hx; omega) (by simp at hx; omega)]
  · rw [hf r (by simp), gr]
    exact zuE_same
theorem same_ok {r s : Nat} {A B : List zLt} (hX : zK zXt d G) (hr : zRk d G r) (hs : zRk d G s) (hA : rowC E r A) (hB : rowC E s B) :
    ∃ x : Int, zM zm_X5_same [zR r, zR s] (d, G, E) (some (zI x)) (d, G, E) ∧ (x = 1 ∧ A = B ∨ x = 0 ∧ A ≠ B) := by
  have h6 := hA.2.1
  have e1 := hA.1
  have e2 := hB.1
  by_cases hl : A.length = B.length
  · have ob := rowC_le hA (l := A.length) (Nat.le_refl _)
    have ob2 := rowC_le hB (l := A.length) (by omega)
    have en := hA.2.2.1 A.length (Nat.le_refl _)
    have loop : ∀ (m k : Nat), k + m = A.length → (∀ j : Nat, j < k → (lit A j).1 = (lit B j).1 ∧ (lit A j).2.length = (lit B j).2.length) → ∃ x : Int, zgo zm_X5_same 15 [(0, zR r), (1, zR s), (2, zI (k : Int))] [] (d, G, E) (some (zI x)) (d, G, E) ∧ (x = 1 ∧ A = B ∨ x = 0 ∧ A ≠ B) := by
      intro m
      induction m with
      | zero =>
        intro k hk hj
        have hk' : k = A.length := by omega
        have oe : offs A A.length = offs B A.length := offs_eq (fun j q => (hj j (by omega)).2)
        obtain ⟨x, m3, hx⟩ := alike_ok (E := E) (a := r + 1) (b := s + 1) (i := 0) (j := 0) (t := offs A A.length) hX hr.2.2.2.2.2.1 hr.2.1 hs.2.2.2.2.2.1 hs.2.1 (by omega) (by omega) (by omega) (by omega) (by omega) (by omega)
        have eqv : lk (E (r + 1)) 0 (E (s + 1)) 0 (offs A A.length) ↔ A = B := by
          constructor
          · intro h
            refine lit_ext hl (fun l hl1 => ?_)
            have hq := hj l (by omega)
            refine Prod.ext hq.1 (List.ext_getElem hq.2 (fun k k1 k2 => ?_))
            have om : offs A (l + 1) ≤ offs A A.length := offs_mono (by omega)
            simp only [offs] at om
            have w1 := (hA.2.2.2 l hl1).2.2.2 k k1
            have w2 := (hB.2.2.2 l (by omega)).2.2.2 k k2
            have ol : offs A l = offs B l := offs_eq (fun j q => (hj j (by omega)).2)
            have h1 := h (offs A l + k) (by omega)
            have e4 : (0 : Int) + ((offs A l + k : Nat) : Int) = (offs A l : Int) + k := by omega
            rw [e4, w1, ol, w2] at h1
            simpa [List.getD_eq_getElem?_getD, k1, k2] using h1
          · intro h k hk
            subst h
            -- every place lies in a literal
            have cover : ∀ (L : Nat), L ≤ A.length → k < offs A L → ∃ l j : Nat, l < A.length ∧ j < (lit A l).2.length ∧ k = offs A l + j := by
              intro L
              induction L with
              | zero => intro _ q; simp [offs] at q
              | succ L ih =>
                intro h1 q
                rcases Nat.lt_or_ge k (offs A L) with e | e
                · exact ih (by omega) e
                · simp only [offs] at q
                  exact ⟨L, k - offs A L, by omega, by omega, by omega⟩
            obtain ⟨l, j, l1, l2, l3⟩ := cover A.length (Nat.le_refl _) hk
            have w1 := (hA.2.2.2 l l1).2.2.2 j l2
            have w2 := (hB.2.2.2 l l1).2.2.2 j l2
            have e4 : (0 : Int) + (k : Int) = (offs A l : Int) + j := by omega
            rw [e4, w1, w2]
        rw [eqv] at hx
        refine ⟨x, fun kz Q hQ => X5_same_15 hX hr hs ⟨fun _ => ⟨by rw [e1]; exact ⟨by omega, by omega⟩, x, by rw [e1, en]; exact m3, by omega, hQ⟩, fun c => absurd (by rw [e1]; omega) c⟩, hx⟩
      | succ m ih =>
        intro k hk hj
        obtain ⟨p1, p2, p3, p4⟩ := hA.2.2.2 k (by omega)
        obtain ⟨q1, q2, q3, q4⟩ := hB.2.2.2 k (by omega)
        have o1 := hA.2.2.1 (k + 1) (by omega)
        have o2 := hB.2.2.1 (k + 1) (by omega)
        have ol : offs A k = offs B k := offs_eq (fun j q => (hj j (by omega)).2)
        have ek : ((k + 1 : Nat) : Int) = (k : Int) + 1 := by omega
        rw [ek] at o1 o2
        simp only [offs] at o1 o2
        by_cases hd : (lit A k).1 = (lit B k).1
        · by_cases hn : (lit A k).2.length = (lit B k).2.length
          · obtain ⟨x, z, hx⟩ := ih (k + 1) (by omega) (fun j q => by
              rcases Nat.lt_or_ge j k with e | e
              · exact hj j e
              · have : j = k := by omega
                subst this
                exact ⟨hd, hn⟩)
            refine ⟨x, fun kz Q hQ => ?_, hx⟩
            have hz := z kz Q hQ
            rw [ek] at hz
            exact X5_same_15 hX hr hs ⟨fun c => by omega, fun _ => ⟨⟨by omega, by omega⟩, ⟨by omega, by omega⟩, fun c => absurd (by rw [p1, q1]; exact hd) c, fun _ => ⟨zin_of (by omega) (by omega), ⟨by omega, by omega⟩, zin_of (by omega) (by omega), ⟨by omega, by omega⟩, fun _ => ⟨zin_of (by omega) (by omega), hz⟩, fun c => absurd (by rw [o1, o2]; omega) c⟩⟩⟩
          · exact ⟨0, fun kz Q hQ => X5_same_15 hX hr hs ⟨fun c => by omega, fun _ => ⟨⟨by omega, by omega⟩, ⟨by omega, by omega⟩, fun c => absurd (by rw [p1, q1]; exact hd) c, fun _ => ⟨zin_of (by omega) (by omega), ⟨by omega, by omega⟩, zin_of (by omega) (by omega), ⟨by omega, by omega⟩, fun c => by rw [o1, o2] at c; omega, fun _ => hQ⟩⟩⟩, Or.inr ⟨rfl, fun h => hn (by rw [h])⟩⟩
        · exact ⟨0, fun kz Q hQ => X5_same_15 hX hr hs ⟨fun c => by omega, fun _ => ⟨⟨by omega, by omega⟩, ⟨by omega, by omega⟩, fun _ => hQ, fun c => absurd (by rw [p1, q1]; exact hd) c⟩⟩, Or.inr ⟨rfl, fun h => hd (by rw [h])⟩⟩
    obtain ⟨x, z, hx⟩ := loop A.length 0 (by omega) (fun j q => by omega)
    exact ⟨x, zM_p rfl (Nat.le_of_ble_eq_true rfl) (fun kz Q hQ => X5_same_0 hX hr hs ⟨fun _ => z kz Q hQ, fun c => absurd (by rw [e1, e2]; omega) c⟩), hx⟩
  · exact ⟨0, zM_p rfl (Nat.le_of_ble_eq_true rfl) (fun kz Q hQ => X5_same_0 hX hr hs ⟨fun c => by omega, fun _ => hQ⟩), Or.inr ⟨rfl, fun h => hl (by rw [h])⟩⟩
end PN
