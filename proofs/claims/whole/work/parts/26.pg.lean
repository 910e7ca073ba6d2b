/-! ===== the class's scale ===== -/
section PG
variable {d : List Nat} {G : Nat → Int → Option Nat} {E : Nat → Int → Int}
theorem tally_ok {a n : Nat} {i w : Int} {t : Nat} (hX : zK zXt d G) (ha : a ∈ d) (hk : zkd a = (0, n)) (hW : wok (E 4)) (hw : w = 1 ∨ w = -1) (hf : ∀ k : Nat, k < t → E a (i + k) < 16) (hla : ∀ k : Nat, k < t → -40 ≤ E a (i + k)) (h0 : 0 ≤ i) (hn : i + t ≤ n) (hn2 : n ≤ 100000) (ha1 : a ≠ 18) (ha2 : a ≠ 19)
    (hb : -1000000 ≤ E 18 2 ∧ E 18 2 ≤ 1000000) (hb2 : ∀ L : Int, 0 ≤ L → L < 40 → -1000000 ≤ E 19 L ∧ E 19 L ≤ 1000000) :
    ∃ E' : Nat → Int → Int, zM zm_X6_tally [zR 18, zR a, zI i, zI (i + t), zI w] (d, G, E) none (d, G, E') ∧ fz [18, 19] E E' ∧ E' 18 2 = E 18 2 + w * wt (E 4) (E a) i t ∧ (∀ j : Int, j ≠ 2 → E' 18 j = E 18 j) ∧ ∀ L : Int, 0 ≤ L → L < 40 → E' 19 L = E 19 L + w * oc (E a) i L t := by
  have hna : a ∉ [18, 19] := by simp [ha1, ha2]
  have loop : ∀ (m k : Nat) (E1 : Nat → Int → Int), k + m = t → fz [18, 19] E E1 → E1 18 2 = E 18 2 + w * wt (E 4) (E a) i k → (∀ j : Int, j ≠ 2 → E1 18 j = E 18 j) → (∀ L : Int, 0 ≤ L → L < 40 → E1 19 L = E 19 L + w * oc (E a) i L k) →
      ∃ E' : Nat → Int → Int, zgo zm_X6_tally 3 [(0, zR 18), (1, zR a), (3, zI (i + t)), (4, zI w), (5, zI (i + k))] [] (d, G, E1) none (d, G, E') ∧ fz [18, 19] E E' ∧ E' 18 2 = E 18 2 + w * wt (E 4) (E a) i t ∧ (∀ j : Int, j ≠ 2 → E' 18 j = E 18 j) ∧ ∀ L : Int, 0 ≤ L → L < 40 → E' 19 L = E 19 L + w * oc (E a) i L t := by
    intro m
    induction m with
    | zero =>
      intro k E1 hkm hf1 q1 q2 q3
      have : k = t := by omega
      subst this
      exact ⟨E1, fun kz Q hQ => X6_tally_3 hX ha hk ⟨fun _ => hQ, fun c => by omega⟩, hf1, q1, q2, q3⟩
    | succ m ih =>
      intro k E1 hkm hf1 q1 q2 q3
      have ea : E1 a = E a := hf1 a hna
      have e4 : E1 4 = E 4 := hf1 4 (by simp)
      have h2 := hf k (by omega)
      have h5 := hla k (by omega)
      have h3 := wt_le (i := i) hW k (fun j hj => hf j (by omega))
      have h4 := wt_le (i := i) hW (k + 1) (fun j hj => hf j (by omega))
      have e2 : wt (E 4) (E a) i (k + 1) = wt (E 4) (E a) i k + wt1 (E 4) (E a (i + k)) := rfl
      have e1 : i + ((k + 1 : Nat) : Int) = i + k + 1 := by omega
      have mw := weightOfS_ok (E := E1) hX (E a (i + k)) h2
      rw [e4] at mw
      rw [e2] at h4
      -- the weight is laid
      let E2 := zuE E1 18 2 (E1 18 2 + w * wt1 (E 4) (E a (i + k)))
      have f2 : fz [18, 19] E E2 := fz_put hf1 (by simp)
      have p1 : E2 18 2 = E 18 2 + w * wt (E 4) (E a) i (k + 1) := by
        show zuE E1 18 2 _ 18 2 = _
        rw [zuE_same, q1, e2, Int.mul_add]
        omega
      have p2 : ∀ j : Int, j ≠ 2 → E2 18 j = E 18 j := fun j hj => by
        show zuE E1 18 2 _ 18 j = _
        rw [zuE_ix hj]; exact q2 j hj
      have p3 : ∀ L : Int, E2 19 L = E1 19 L := fun L => zuE_ne (by decide) L
      have hz1 : zin (w * wt1 (E 4) (E a (i + k))) := by rcases hw with e | e <;> rw [e] <;> exact zin_of (by omega) (by omega)
      have hz2 : zin (E1 18 2 + w * wt1 (E 4) (E a (i + k))) := by rw [q1]; rcases hw with e | e <;> rw [e] <;> exact zin_of (by omega) (by omega)
      by_cases hl0 : 0 ≤ E a (i + k)
      · obtain ⟨E', g1, g2⟩ := ih (k + 1) E2 (by omega) f2 p1 p2 (fun L r1 r2 => by
          rw [p3, q3 L r1 r2]
          have : oc (E a) i L (k + 1) = oc (E a) i L k := by
            simp only [oc]
            rw [if_neg (by omega)]
            omega
          rw [this])
        refine ⟨E', fun kz Q hQ => ?_, g2⟩
        have hs := g1 kz Q hQ
        rw [e1] at hs
        refine X6_tally_3 hX ha hk ⟨fun c => by omega, fun _ => ⟨⟨by omega, by omega⟩, ?_⟩⟩
        rw [ea]
        refine ⟨_, mw, hz1, hz2, fun E3 hE3 => ?_⟩
        rw [hE3]
        exact ⟨fun _ => ⟨zin_of (by omega) (by omega), hs⟩, fun c => absurd hl0 c⟩
      · have b1 := hb2 (-1 - E a (i + k)) (by omega) (by omega)
        have b2 := oc_le (E a) i (-1 - E a (i + k)) k
        have b3 := q3 (-1 - E a (i + k)) (by omega) (by omega)
        obtain ⟨E', g1, g2⟩ := ih (k + 1) (zuE E2 19 (-1 - E a (i + k)) (E2 19 (-1 - E a (i + k)) + w)) (by omega) (fz_put f2 (by simp)) (by rw [zuE_ne (by decide)]; exact p1) (fun j hj => by rw [zuE_ne (by decide)]; exact p2 j hj) (fun L r1 r2 => by
          by_cases e : L = -1 - E a (i + k)
          · rw [e, zuE_same, p3, b3]
            have : oc (E a) i (-1 - E a (i + k)) (k + 1) = oc (E a) i (-1 - E a (i + k)) k + 1 := by
              simp only [oc]
              rw [if_pos (by omega)]
            rw [this, Int.mul_add]
            omega
          · rw [zuE_ix e, p3, q3 L r1 r2]
            have : oc (E a) i L (k + 1) = oc (E a) i L k := by
              simp only [oc]
              rw [if_neg (by omega)]
              omega
            rw [this])
        refine ⟨E', fun kz Q hQ => ?_, g2⟩
        have hs := g1 kz Q hQ
        rw [e1] at hs
        refine X6_tally_3 hX ha hk ⟨fun c => by omega, fun _ => ⟨⟨by omega, by omega⟩, ?_⟩⟩
        rw [ea]
        refine ⟨_, mw, hz1, hz2, fun E3 hE3 => ?_⟩
        have hE4 : E3 = E2 := hE3
        rw [hE4]
        refine ⟨fun c => absurd c hl0, fun _ => ⟨zin_of (by omega) (by omega), fun c => by omega, fun _ => ⟨zin_of (by omega) (by omega), ⟨by omega, by omega⟩, ?_, ⟨by omega, by omega⟩, fun E5 hE5 => ?_⟩⟩⟩
        · rw [p3, b3]
          rcases hw with e | e <;> rw [e] <;> exact zin_of (by omega) (by omega)
        · rw [hE5]
          exact ⟨zin_of (by omega) (by omega), hs⟩
  obtain ⟨E', g1, g2⟩ := loop t 0 E (by omega) fz_rfl (by simp [wt]) (fun j _ => rfl) (fun L _ _ => by simp [oc])
  refine ⟨E', zM_go rfl (Nat.le_of_ble_eq_true rfl) (fun kz Q hQ => X6_tally_0 hX ha hk ?_), g2⟩
  have h := g1 kz Q hQ
  have e : i + ((0 : Nat) : Int) = i := by omega
  rw [e] at h
  exact h
theorem settled_ok (hX : zK zXt d G) (v : Int) : zM zm_X6_settled [zR 18, zI v] (d, G, E) (some (zI (if v = 0 then (if E 18 4 = 0 then 0 else -1) else (if E 18 3 = 0 then 0 else 1)))) (d, G, E) := by
  refine zM_p rfl (Nat.le_of_ble_eq_true rfl) (fun kz Q hQ => X6_settled_0 hX ⟨fun c => ⟨fun c2 => ?_, fun c2 => ?_⟩, fun c => ⟨fun c2 => ?_, fun c2 => ?_⟩⟩)
  · rw [if_pos c, if_pos c2] at hQ; exact hQ
  · rw [if_pos c, if_neg c2] at hQ; exact hQ
  · rw [if_neg c, if_pos c2] at hQ; exact hQ
  · rw [if_neg c, if_neg c2] at hQ; exact hQ
end PG
