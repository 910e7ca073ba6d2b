/-! ===== the class's signs; likeness; weights ===== -/
section PF
variable {d : List Nat} {G : Nat → Int → Option Nat} {E : Nat → Int → Int}
theorem partsOf_ok (hX : zK zXt d G) (s : Int) (h : s < 16) : zM zm_X8_partsOf [zR 1, zI s] (d, G, E) (some (zI (if s < 0 then 0 else E 3 s))) (d, G, E) := by
  refine zM_p rfl (Nat.le_of_ble_eq_true rfl) (fun kz Q hQ => X8_partsOf_0 hX ⟨fun c => ?_, fun c => ⟨fun c2 => by omega, fun _ => ⟨⟨by omega, by omega⟩, ?_⟩⟩⟩)
  · rw [if_pos c] at hQ; exact hQ
  · rw [if_neg c] at hQ; exact hQ
theorem weightOfS_ok (hX : zK zXt d G) (s : Int) (h : s < 16) : zM zm_X8_weightOf [zR 1, zI s] (d, G, E) (some (zI (wt1 (E 4) s))) (d, G, E) := by
  refine zM_p rfl (Nat.le_of_ble_eq_true rfl) (fun kz Q hQ => X8_weightOf_0 hX ⟨fun c => ?_, fun c => ⟨fun c2 => by omega, fun _ => ⟨⟨by omega, by omega⟩, ?_⟩⟩⟩)
  · unfold wt1 at hQ
    rw [if_pos c] at hQ; exact hQ
  · unfold wt1 at hQ
    rw [if_neg c] at hQ; exact hQ
theorem after_ok {a n : Nat} {i : Int} {t : Nat} (hX : zK zXt d G) (ha : a ∈ d) (hk : zkd a = (0, n)) (hP : pok (E 3)) (ht : tm (E 3) (E a) i t) (h0 : 0 ≤ i) (hn : i + t ≤ n) (hn2 : n ≤ 100000) : zM zm_X8_after [zR 1, zR a, zI i] (d, G, E) (some (zI (i + t))) (d, G, E) := by
  refine zM_p rfl (Nat.le_of_ble_eq_true rfl) (fun kz Q hQ => ?_)
  have loop : ∀ (m k : Nat), k + m = t → Z zm_X8_after kz Q 5 [(0, zR 1), (1, zR a), (3, zI (nd (E 3) (E a) i k)), (4, zI (i + k))] [] (d, G, E) := by
    intro m
    induction m with
    | zero =>
      intro k hkm
      have : k = t := by omega
      subst this
      refine X8_after_5 hX ha hk ⟨fun _ => hQ, fun c => ?_⟩
      have := ht.1
      omega
    | succ m ih =>
      intro k hkm
      have h1 := (ht.2 k (by omega)).1
      have h2 := (ht.2 k (by omega)).2
      have h3 := nd_le hP k (fun j hj => (ht.2 j (by omega)).2)
      have hs := ih (k + 1) (by omega)
      have e1 : i + ((k + 1 : Nat) : Int) = i + k + 1 := by omega
      rw [e1] at hs
      refine X8_after_5 hX ha hk ⟨fun c => by omega, fun _ => ⟨fun c => by omega, fun _ => ⟨zin_of (by omega) (by omega), fun c => by omega, fun _ => ⟨⟨by omega, by omega⟩, fun c => ?_, fun c => ⟨fun c2 => by omega, fun _ => ?_⟩⟩⟩⟩⟩
      · have e2 : nd (E 3) (E a) i (k + 1) = nd (E 3) (E a) i k + (-1) := by
          simp only [nd]
          rw [if_pos (by omega)]
        rw [e2] at hs
        exact ⟨zin_of (by omega) (by omega), zin_of (by omega) (by omega), hs⟩
      · have h4 := hP (E a (i + k)) (by omega) h2
        have e2 : nd (E 3) (E a) i (k + 1) = nd (E 3) (E a) i k + (E 3 (E a (i + k)) - 1) := by
          simp only [nd]
          rw [if_neg (by omega)]
        rw [e2] at hs
        exact ⟨⟨by omega, by omega⟩, zin_of (by omega) (by omega), zin_of (by omega) (by omega), zin_of (by omega) (by omega), hs⟩
  refine X8_after_0 hX ha hk ?_
  have h := loop t 0 (by omega)
  have e : i + ((0 : Nat) : Int) = i := by omega
  rw [e] at h
  exact h
/-- alike, where both rows lie in their arrays -/
theorem alike_ok {a b n m : Nat} {i j : Int} {t : Nat} (hX : zK zXt d G) (ha : a ∈ d) (hk : zkd a = (0, n)) (hb : b ∈ d) (hkb : zkd b = (0, m)) (h0 : 0 ≤ i) (hn : i + t ≤ n) (hn2 : n ≤ 100000) (h1 : 0 ≤ j) (hm : j + t ≤ m) (hm2 : m ≤ 100000) : ∃ r : Int, zM zm_X11_alike [zR a, zI i, zR b, zI j, zI (t : Int)] (d, G, E) (some (zI r)) (d, G, E) ∧ (r = 1 ∧ lk (E a) i (E b) j t ∨ r = 0 ∧ ¬ lk (E a) i (E b) j t) := by
  have key : ∀ (mm k : Nat), k + mm = t → (∀ x : Nat, x < k → E a (i + x) = E b (j + x)) → ∃ r : Int, (∀ (kz : Nat × Nat) (Q : Option zV → zH → Prop), Q (some (zI r)) (d, G, E) → Z zm_X11_alike kz Q 31 [(0, zR a), (1, zI i), (2, zR b), (3, zI j), (4, zI (t : Int)), (5, zI (k : Int))] [] (d, G, E)) ∧ (r = 1 ∧ lk (E a) i (E b) j t ∨ r = 0 ∧ ¬ lk (E a) i (E b) j t) := by
    intro mm
    induction mm with
    | zero =>
      intro k hkm hpre
      have : k = t := by omega
      subst this
      exact ⟨1, fun kz Q hQ => X11_alike_31 hX ha hk hb hkb ⟨fun _ => hQ, fun c => by omega⟩, Or.inl ⟨rfl, hpre⟩⟩
    | succ mm ih =>
      intro k hkm hpre
      by_cases he : E a (i + k) = E b (j + k)
      · obtain ⟨r, h1', h2'⟩ := ih (k + 1) (by omega) (fun x hx => by
          rcases Nat.lt_succ_iff_lt_or_eq.mp hx with h | h
          · exact hpre x h
          · rw [h]; exact he)
        refine ⟨r, fun kz Q hQ => ?_, h2'⟩
        have hs := h1' kz Q hQ
        have e1 : ((k + 1 : Nat) : Int) = (k : Int) + 1 := by omega
        rw [e1] at hs
        exact X11_alike_31 hX ha hk hb hkb ⟨fun c => by omega, fun _ => ⟨zin_of (by omega) (by omega), ⟨by omega, by omega⟩, zin_of (by omega) (by omega), ⟨by omega, by omega⟩, fun _ => ⟨zin_of (by omega) (by omega), hs⟩, fun c => absurd he c⟩⟩
      · refine ⟨0, fun kz Q hQ => ?_, Or.inr ⟨rfl, fun h => he (h k (by omega))⟩⟩
        exact X11_alike_31 hX ha hk hb hkb ⟨fun c => by omega, fun _ => ⟨zin_of (by omega) (by omega), ⟨by omega, by omega⟩, zin_of (by omega) (by omega), ⟨by omega, by omega⟩, fun c => absurd c he, fun _ => hQ⟩⟩
  obtain ⟨r, h1', h2'⟩ := key t 0 (by omega) (fun x hx => by omega)
  exact ⟨r, zM_p rfl (Nat.le_of_ble_eq_true rfl) (fun kz Q hQ => X11_alike_0 hX ha hk hb hkb ⟨fun c => by omega, fun _ => ⟨fun c => by omega, fun _ => ⟨zin_of (by omega) (by omega), zin_of (by omega) (by omega), fun c => by omega, fun _ => ⟨zin_of (by omega) (by omega), zin_of (by omega) (by omega), fun _ => h1' kz Q hQ, fun c => absurd hm c⟩⟩⟩⟩), h2'⟩
theorem weigh_ok {a n : Nat} {i : Int} {t : Nat} (hX : zK zXt d G) (ha : a ∈ d) (hk : zkd a = (0, n)) (hW : wok (E 4)) (hf : ∀ k : Nat, k < t → E a (i + k) < 16) (h0 : 0 ≤ i) (hn : i + t ≤ n) (hn2 : n ≤ 100000) : zM zm_X6_weigh [zR 18, zR a, zI i, zI (i + t)] (d, G, E) (some (zI (wt (E 4) (E a) i t))) (d, G, E) := by
  refine zM_p rfl (Nat.le_of_ble_eq_true rfl) (fun kz Q hQ => ?_)
  have loop : ∀ (m k : Nat), k + m = t → Z zm_X6_weigh kz Q 6 [(0, zR 18), (1, zR a), (3, zI (i + t)), (4, zI (wt (E 4) (E a) i k)), (5, zI (i + k))] [] (d, G, E) := by
    intro m
    induction m with
    | zero =>
      intro k hkm
      have : k = t := by omega
      subst this
      exact X6_weigh_6 hX ha hk ⟨fun _ => hQ, fun c => by omega⟩
    | succ m ih =>
      intro k hkm
      have hs := ih (k + 1) (by omega)
      have h2 := hf k (by omega)
      have h3 := wt_le (i := i) hW k (fun j hj => hf j (by omega))
      have h4 := wt_le (i := i) hW (k + 1) (fun j hj => hf j (by omega))
      have e1 : i + ((k + 1 : Nat) : Int) = i + k + 1 := by omega
      have e2 : wt (E 4) (E a) i (k + 1) = wt (E 4) (E a) i k + wt1 (E 4) (E a (i + k)) := rfl
      rw [e1, e2] at hs
      rw [e2] at h4
      exact X6_weigh_6 hX ha hk ⟨fun c => by omega, fun _ => ⟨⟨by omega, by omega⟩, _, weightOfS_ok hX _ h2, zin_of (by omega) (by omega), zin_of (by omega) (by omega), hs⟩⟩
  refine X6_weigh_0 hX ha hk ?_
  have h := loop t 0 (by omega)
  have e : i + ((0 : Nat) : Int) = i := by omega
  rw [e] at h
  exact h
end PF
