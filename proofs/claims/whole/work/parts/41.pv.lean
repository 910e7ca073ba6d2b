/-! ===== cleaning: the reference, whole ===== -/
theorem wl_congr {E E' : Nat → Int → Int} {l : Nat} {x : zLt} (h : wl E l x) (h1 : E' 73 l = E 73 l) (h2 : E' 74 l = E 74 l) (h3 : ∀ i : Int, 30 * (l : Int) ≤ i → i < 30 * (l : Int) + x.2.length → E' 72 i = E 72 i) : wl E' l x :=
  ⟨by rw [h1]; exact h.1, by rw [h2]; exact h.2.1, h.2.2.1, h.2.2.2.1, fun k hk => by rw [h3 _ (by omega) (by omega)]; exact h.2.2.2.2 k hk⟩
theorem wl_fz {E E' : Nat → Int → Int} {S : List Nat} {l : Nat} {x : zLt} (h : wl E l x) (hf : fz S E E') (h1 : 72 ∉ S) (h2 : 73 ∉ S) (h3 : 74 ∉ S) : wl E' l x :=
  wl_congr h (by rw [hf 73 h2]) (by rw [hf 74 h3]) (fun i _ _ => by rw [hf 72 h1])
theorem rowW_fz {E E' : Nat → Int → Int} {S : List Nat} {A : List zLt} (h : rowW E A) (hf : fz S E E') (h1 : 72 ∉ S) (h2 : 73 ∉ S) (h3 : 74 ∉ S) (h4 : E' 50 24 = E 50 24) : rowW E' A :=
  ⟨by rw [h4]; exact h.1, h.2.1, fun l hl => wl_fz (h.2.2 l hl) hf h1 h2 h3⟩
section PV
variable {d : List Nat} {G : Nat → Int → Option Nat} {E : Nat → Int → Int}
/-- goes or stays: behind the sorting -/
theorem cleanM_156 {acc : List zLt} {y : zLt} {l : Int} {F : Nat → Int → Int} (hM : zK zMt d G) (h6 : acc.length < 6) (hl0 : 0 ≤ l) (hl6 : l < 6) (ha : ∀ k : Nat, k < acc.length → wl F k (lit acc k)) (hy : wl F acc.length y) : ∀ (m k : Nat) (v : Int), k + m = acc.length → (v = 0 ∨ v = 1) → ∃ v' : Int, (v' = 0 ∨ v' = 1) ∧ (v' = 1 ↔ v = 1 ∨ ∃ j, k ≤ j ∧ j < acc.length ∧ lit acc j = y) ∧ ∀ kz Q, (v' = 0 → Z zm_X12_clean kz Q 4 [(0, zR 50), (1, zI ((acc.length : Int) + 1)), (2, zI (l + 1))] [] (d, G, F)) → (v' = 1 → Z zm_X12_clean kz Q 4 [(0, zR 50), (1, zI (acc.length : Int)), (2, zI (l + 1))] [] (d, G, F)) → Z zm_X12_clean kz Q 156 [(0, zR 50), (1, zI (acc.length : Int)), (2, zI l), (3, zI v), (4, zI (k : Int))] [] (d, G, F) := by
  intro m
  induction m with
  | zero =>
    intro k v hk hv
    refine ⟨v, hv, ⟨fun h => Or.inl h, fun h => ?_⟩, fun kz Q K0 K1 => X12_clean_156 hM ⟨fun _ => ⟨fun c => ⟨zin_of (by omega) (by omega), zin_of (by omega) (by omega), K0 c⟩, fun c => ⟨zin_of (by omega) (by omega), zin_of (by omega) (by omega), ?_⟩⟩, fun c => absurd (by omega) c⟩⟩
    · rcases h with h | ⟨j, j1, j2, _⟩
      · exact h
      · omega
    · have e : (acc.length : Int) + 0 = acc.length := by omega
      rw [e]
      exact K1 (by omega)
  | succ m ih =>
    intro k v hk hv
    have hkl : k < acc.length := by omega
    have wk := ha k hkl
    have ek : ((k + 1 : Nat) : Int) = (k : Int) + 1 := by omega
    have e00 : zor 0 0 = 0 := rfl
    have e10 : zor 1 0 = 1 := rfl
    have e01 : zor 0 1 = 1 := rfl
    have e11 : zor 1 1 = 1 := rfl
    have ez : zor v 0 = v := by rcases hv with h | h <;> rw [h]; exact e00; exact e10
    have eo : zor v 1 = 1 := by rcases hv with h | h <;> rw [h]; exact e01; exact e11
    have no : lit acc k ≠ y → ∀ v' : Int, (v' = 1 ↔ v = 1 ∨ ∃ j, k + 1 ≤ j ∧ j < acc.length ∧ lit acc j = y) → (v' = 1 ↔ v = 1 ∨ ∃ j, k ≤ j ∧ j < acc.length ∧ lit acc j = y) := fun ne v' h => by
      rw [h]
      constructor
      · rintro (c | ⟨j, j1, j2, j3⟩)
        · exact Or.inl c
        · exact Or.inr ⟨j, by omega, j2, j3⟩
      · rintro (c | ⟨j, j1, j2, j3⟩)
        · exact Or.inl c
        · rcases (by omega : j = k ∨ k + 1 ≤ j) with e | e
          · subst e; exact absurd j3 ne
          · exact Or.inr ⟨j, e, j2, j3⟩
    by_cases hd : (lit acc k).1 = y.1
    · obtain ⟨z, mz, hz⟩ := areAlike_ok (E := F) hM (show k < 6 by omega) h6 wk hy
      rcases hz with ⟨z1, z2⟩ | ⟨z1, z2⟩
      · subst z1
        obtain ⟨v', a, b, c⟩ := ih (k + 1) 1 (by omega) (Or.inr rfl)
        rw [ek] at c
        refine ⟨v', a, ⟨fun _ => Or.inr ⟨k, Nat.le_refl _, hkl, Prod.ext hd z2⟩, fun _ => b.2 (Or.inl rfl)⟩, fun kz Q K0 K1 => X12_clean_156 hM ⟨fun q => absurd q (by omega), fun _ => ⟨⟨by omega, by omega⟩, ⟨by omega, by omega⟩, fun q => absurd (by rw [wk.2.1, hy.2.1]; exact hd) q, fun _ => ⟨_, mz, fun q => absurd q (by omega), fun _ => ⟨zin_of (by omega) (by omega), by rw [eo]; exact c kz Q K0 K1⟩⟩⟩⟩⟩
      · subst z1
        obtain ⟨v', a, b, c⟩ := ih (k + 1) v (by omega) hv
        rw [ek] at c
        refine ⟨v', a, no (fun e => z2 (by rw [e])) v' b, fun kz Q K0 K1 => X12_clean_156 hM ⟨fun q => absurd q (by omega), fun _ => ⟨⟨by omega, by omega⟩, ⟨by omega, by omega⟩, fun q => absurd (by rw [wk.2.1, hy.2.1]; exact hd) q, fun _ => ⟨_, mz, fun _ => ⟨zin_of (by omega) (by omega), by rw [ez]; exact c kz Q K0 K1⟩, fun q => absurd rfl q⟩⟩⟩⟩
    · obtain ⟨v', a, b, c⟩ := ih (k + 1) v (by omega) hv
      rw [ek] at c
      refine ⟨v', a, no (fun e => hd (by rw [e])) v' b, fun kz Q K0 K1 => X12_clean_156 hM ⟨fun q => absurd q (by omega), fun _ => ⟨⟨by omega, by omega⟩, ⟨by omega, by omega⟩, fun _ => ⟨zin_of (by omega) (by omega), by rw [ez]; exact c kz Q K0 K1⟩, fun q => absurd (by rw [wk.2.1, hy.2.1]; exact hd) q⟩⟩⟩
/-- the sides in order, and whether a denied EQUAL goes -/
theorem cleanM_14 {a : Nat} {y : zLt} {l : Int} {F : Nat → Int → Int} (hM : zK zMt d G) (ha6 : a < 6) (hl0 : 0 ≤ l) (hl6 : l < 6) (hP : pok (F 53)) (hW : wok (F 54)) (h2 : F 53 0 = 2) (hw : wok1 (F 53) y.2) (hy30 : y.2.length ≤ 30) (hy1 : y.1 = 0 ∨ y.1 = 1) (s1 : F 73 l = y.2.length) (s2 : F 74 l = y.1) (s3 : lk (F 72) (30 * (a : Int)) (fw y.2) 0 y.2.length) :
    ∃ (v : Int) (F' : Nat → Int → Int), (v = 0 ∨ v = 1) ∧ (v = 1 ↔ y.1 = 1 ∧ fw (sw (F 53) (F 54) y.2) 0 = 0 ∧ lks (F 53) (sw (F 53) (F 54) y.2)) ∧ wl F' a (y.1, sw (F 53) (F 54) y.2) ∧ fz [72, 73, 74, 76, 77] F F' ∧ (∀ j : Int, j ≠ a → F' 73 j = F 73 j ∧ F' 74 j = F 74 j) ∧ (∀ i : Int, i < 30 * (a : Int) ∨ 30 * (a : Int) + 30 ≤ i → F' 72 i = F 72 i) ∧ ∀ kz Q, Z zm_X12_clean kz Q 156 [(0, zR 50), (1, zI (a : Int)), (2, zI l), (3, zI v), (4, zI 0)] [] (d, G, F') → Z zm_X12_clean kz Q 14 [(0, zR 50), (1, zI (a : Int)), (2, zI l), (3, zI (y.2.length : Int))] [] (d, G, F) := by
  let F1 := zuE F 73 a y.2.length
  let F2 := zuE F1 74 a y.1
  have g73 : F1 74 = F 74 := zuE_nf (by decide)
  have n2 : ∀ x : Nat, x ≠ 73 → x ≠ 74 → F2 x = F x := fun x x1 x2 => (zuE_nf x2).trans (zuE_nf x1)
  have w2 : wl F2 a y := by
    refine ⟨?_, zuE_same, hy1, hy30, by rw [n2 72 (by decide) (by decide)]; exact s3⟩
    exact (zuE_ne (by decide) _).trans zuE_same
  have j2 : ∀ j : Int, j ≠ a → F2 73 j = F 73 j ∧ F2 74 j = F 74 j := fun j hj => by
    refine ⟨(zuE_ne (by decide) _).trans (zuE_ix hj), ?_⟩
    refine (zuE_ix hj).trans ?_
    rw [g73]
  have hp := wok1_pos hw
  have e0 : F2 72 (30 * (a : Int)) = fw y.2 0 := by
    have := w2.2.2.2.2 0 hp
    simpa using this
  have f53 : F2 53 = F 53 := n2 53 (by decide) (by decide)
  have f54 : F2 54 = F 54 := n2 54 (by decide) (by decide)
  have fz2 : fz [72, 73, 74, 76, 77] F F2 := fun x hx => n2 x (by simp at hx; omega) (by simp at hx; omega)
  by_cases h0 : fw y.2 0 = 0
  · obtain ⟨t, u, ht, hu, ht', hu', htu, htl, hq⟩ := sides_at hP h2 hw h0 w2.2.2.2.2
    have kk : zkd 72 = (0, 180) := rfl
    have d72 := (zM_21 hM).2.2
    have m1 := endOf_ok (E := F2) hM d72 kk (by rw [f53]; exact hP) (by rw [f53]; exact ht') (by omega) (by omega) (by omega)
    have lo : ∀ k : Nat, k < y.2.length → -40 ≤ F2 72 (30 * (a : Int) + k) := fun k hk => by
      rw [w2.2.2.2.2 k hk, fw_0, ← fw_nat]; exact hw.2.2 k hk
    have c1 : ∀ k : Nat, k < t → F2 72 (30 * (a : Int) + 1 + k) = fw y.2 (1 + k) := fun k hk => by
      have := w2.2.2.2.2 (1 + k) (by omega)
      have e4 : (0 : Int) + ((1 + k : Nat) : Int) = 1 + k := by omega
      have e5 : 30 * (a : Int) + ((1 + k : Nat) : Int) = 30 * (a : Int) + 1 + k := by omega
      rw [e4, e5] at this
      exact this
    have c2 : ∀ k : Nat, k < u → F2 72 (30 * (a : Int) + 1 + t + k) = fw y.2 (1 + t + k) := fun k hk => by
      have := w2.2.2.2.2 (1 + t + k) (by omega)
      have e4 : (0 : Int) + ((1 + t + k : Nat) : Int) = 1 + t + k := by omega
      have e5 : 30 * (a : Int) + ((1 + t + k : Nat) : Int) = 30 * (a : Int) + 1 + t + k := by omega
      rw [e4, e5] at this
      exact this
    have hg := isGreater_ok (E := F2) (N := 1000) (t := u) (u := t) hM d72 kk d72 kk (by rw [f53]; exact hP) (by rw [f54]; exact hW) (by omega) (by omega) (by decide) (by decide) (by omega) (by rw [f53]; exact hu') (by rw [f53]; exact ht') (by omega) (by omega) (by omega) (by omega)
      (fun k hk => by have := lo (1 + t + k) (by omega); have e : 30 * (a : Int) + ((1 + t + k : Nat) : Int) = 30 * (a : Int) + 1 + t + k := by omega
                      rw [e] at this; exact this)
      (fun k hk => by have := lo (1 + k) (by omega); have e : 30 * (a : Int) + ((1 + k : Nat) : Int) = 30 * (a : Int) + 1 + k := by omega
                      rw [e] at this; exact this)
    obtain ⟨x, F3, m2, f3, hx⟩ := hg
    rw [f53, f54, kg_iff hP hu' ht' c2 c1] at hx
    have w3 : wl F3 a y := wl_fz w2 f3 (by simp) (by simp) (by simp)
    have f353 : F3 53 = F 53 := by rw [f3 53 (by simp)]; exact f53
    have fz3 : fz [72, 73, 74, 76, 77] F F3 := fz_trans fz2 (fz_mono f3 (by simp))
    have j3 : ∀ j : Int, j ≠ a → F3 73 j = F 73 j ∧ F3 74 j = F 74 j := fun j hj => by
      rw [f3 73 (by simp), f3 74 (by simp)]; exact j2 j hj
    have o3 : ∀ i : Int, F3 72 i = F 72 i := fun i => by rw [f3 72 (by simp), n2 72 (by decide) (by decide)]
    -- the sides in order
    have step : ∃ F4 : Nat → Int → Int, wl F4 a (y.1, sw (F 53) (F 54) y.2) ∧ fw (sw (F 53) (F 54) y.2) 0 = 0 ∧ fz [72, 73, 74, 76, 77] F F4 ∧ (∀ j : Int, j ≠ a → F4 73 j = F 73 j ∧ F4 74 j = F 74 j) ∧ (∀ i : Int, i < 30 * (a : Int) ∨ 30 * (a : Int) + 30 ≤ i → F4 72 i = F 72 i) ∧ ∀ kz Q, ((F4 74 a) = 0 → Z zm_X12_clean kz Q 156 [(0, zR 50), (1, zI (a : Int)), (2, zI l), (3, zI 0), (4, zI 0)] [] (d, G, F4)) ∧ (¬ ((F4 74 a) = 0) → ∃ x_25, zM zm_X12_hasLikeSides [zR 50, zI (a : Int)] (d, G, F4) (some (zI x_25)) (d, G, F4) ∧ (x_25 = 0 → Z zm_X12_clean kz Q 156 [(0, zR 50), (1, zI (a : Int)), (2, zI l), (3, zI 0), (4, zI 0)] [] (d, G, F4)) ∧ (¬ (x_25 = 0) → Z zm_X12_clean kz Q 156 [(0, zR 50), (1, zI (a : Int)), (2, zI l), (3, zI 1), (4, zI 0)] [] (d, G, F4))) → Z zm_X12_clean kz Q 14 [(0, zR 50), (1, zI (a : Int)), (2, zI l), (3, zI (y.2.length : Int))] [] (d, G, F) := by
      have base : ∀ kz Q, ((x = 0 → ((0 : Int) ≤ (a : Int) ∧ (a : Int) < (6 : Int)) ∧ ((F3 74 a) = 0 → Z zm_X12_clean kz Q 156 [(0, zR 50), (1, zI (a : Int)), (2, zI l), (3, zI 0), (4, zI 0)] [] (d, G, F3)) ∧ (¬ ((F3 74 a) = 0) → ∃ x_25, zM zm_X12_hasLikeSides [zR 50, zI (a : Int)] (d, G, F3) (some (zI x_25)) (d, G, F3) ∧ (x_25 = 0 → Z zm_X12_clean kz Q 156 [(0, zR 50), (1, zI (a : Int)), (2, zI l), (3, zI 0), (4, zI 0)] [] (d, G, F3)) ∧ (¬ (x_25 = 0) → Z zm_X12_clean kz Q 156 [(0, zR 50), (1, zI (a : Int)), (2, zI l), (3, zI 1), (4, zI 0)] [] (d, G, F3)))) ∧ (¬ (x = 0) → ∃ E_29, zM zm_X12_exchange [zR 50, zI (a : Int)] (d, G, F3) none (d, G, E_29) ∧ ((0 : Int) ≤ (a : Int) ∧ (a : Int) < (6 : Int)) ∧ ((E_29 74 a) = 0 → Z zm_X12_clean kz Q 156 [(0, zR 50), (1, zI (a : Int)), (2, zI l), (3, zI 0), (4, zI 0)] [] (d, G, E_29)) ∧ (¬ ((E_29 74 a) = 0) → ∃ x_34, zM zm_X12_hasLikeSides [zR 50, zI (a : Int)] (d, G, E_29) (some (zI x_34)) (d, G, E_29) ∧ (x_34 = 0 → Z zm_X12_clean kz Q 156 [(0, zR 50), (1, zI (a : Int)), (2, zI l), (3, zI 0), (4, zI 0)] [] (d, G, E_29)) ∧ (¬ (x_34 = 0) → Z zm_X12_clean kz Q 156 [(0, zR 50), (1, zI (a : Int)), (2, zI l), (3, zI 1), (4, zI 0)] [] (d, G, E_29))))) → Z zm_X12_clean kz Q 14 [(0, zR 50), (1, zI (a : Int)), (2, zI l), (3, zI (y.2.length : Int))] [] (d, G, F) := fun kz Q K => by
        refine X12_clean_14 hM ⟨⟨by omega, by omega⟩, fun _ => ⟨⟨by omega, by omega⟩, ⟨by omega, by omega⟩, fun H1 h1 => ⟨⟨by omega, by omega⟩, ⟨by omega, by omega⟩, ?_, fun H2 h2' => ?_⟩⟩, fun c => absurd (by rw [s1]; omega) c⟩
        · rw [h1, s1]
          show (F1 74 l = 0 ∨ F1 74 l = 1)
          rw [g73, s2]; exact hy1
        · have e2 : H2 = F2 := by
            rw [h2', h1, s1]
            show zuE F1 74 a (F1 74 l) = F2
            rw [g73, s2]
          rw [e2]
          exact ⟨zin_of (by omega) (by omega), ⟨by omega, by omega⟩, fun c => absurd (by rw [e0]; exact h0) c, fun _ => ⟨zin_of (by omega) (by omega), zin_of (by omega) (by omega), _, m1, x, F3, m2, K⟩⟩
      rcases hx with ⟨x1, x2⟩ | ⟨x1, x2⟩
      · subst x1
        have esw : sw (F 53) (F 54) y.2 = swp y.2 t := by
          unfold sw; rw [htl]; exact if_pos ⟨h0, x2⟩
        obtain ⟨F4, m4, w4, f4, o4⟩ := exchange_ok (E := F3) (t := t) (u := u) hM ha6 w3 (by rw [f353]; exact hP) (by rw [f353]; exact h2) (by rw [f353]; exact hw) h0 (by rw [f353]; exact ht) htu (nd_ge hu)
        refine ⟨F4, by rw [esw]; exact w4, ?_, fz_trans fz3 (fz_mono f4 (by simp)), fun j hj => ?_, fun i hi => ?_, fun kz Q K => base kz Q ⟨fun c => absurd c (by omega), fun _ => ⟨F4, m4, ⟨by omega, by omega⟩, K⟩⟩⟩
        · rw [esw]
          have := swp_0 (w := y.2) (t := t) (by omega)
          have e : fw (swp y.2 t) 0 = (swp y.2 t).getD 0 0 := rfl
          rw [e, this]; exact h0
        · rw [f4 73 (by simp), f4 74 (by simp)]; exact j3 j hj
        · rw [o4 i (by omega)]; exact o3 i
      · subst x1
        have esw : sw (F 53) (F 54) y.2 = y.2 := by
          unfold sw; rw [htl]; exact if_neg (fun q => x2 q.2)
        exact ⟨F3, by rw [esw]; exact w3, by rw [esw]; exact h0, fz3, j3, fun i _ => o3 i, fun kz Q K => base kz Q ⟨fun _ => ⟨⟨by omega, by omega⟩, K⟩, fun c => absurd rfl c⟩⟩
    obtain ⟨F4, w4, z4, fz4, j4, o4, go4⟩ := step
    have f453 : F4 53 = F 53 := fz4 53 (by simp)
    have d4 : F4 74 a = y.1 := w4.2.1
    rcases hy1 with y0 | y1
    · exact ⟨0, F4, Or.inl rfl, ⟨fun c => by omega, fun c => by omega⟩, w4, fz4, j4, o4, fun kz Q K => go4 kz Q ⟨fun _ => K, fun c => absurd (by rw [d4]; exact y0) c⟩⟩
    · have hz := hasLikeSidesM_ok (E := F4) hM ha6 w4 (by rw [f453]; exact hP) (by rw [f453]; exact h2) (by rw [f453]; exact sw_wok hP h2 hw) z4
      obtain ⟨z, mz, hz⟩ := hz
      rw [f453] at hz
      rcases hz with ⟨z1, z2⟩ | ⟨z1, z2⟩
      · subst z1
        exact ⟨1, F4, Or.inr rfl, ⟨fun _ => ⟨y1, z4, z2⟩, fun _ => rfl⟩, w4, fz4, j4, o4, fun kz Q K => go4 kz Q ⟨fun c => absurd c (by rw [d4]; omega), fun _ => ⟨_, mz, fun c => absurd c (by omega), fun _ => K⟩⟩⟩
      · subst z1
        exact ⟨0, F4, Or.inl rfl, ⟨fun c => by omega, fun c => absurd c.2.2 z2⟩, w4, fz4, j4, o4, fun kz Q K => go4 kz Q ⟨fun c => absurd c (by rw [d4]; omega), fun _ => ⟨_, mz, fun _ => K, fun c => absurd rfl c⟩⟩⟩
  · have esw : sw (F 53) (F 54) y.2 = y.2 := sw_no h0
    refine ⟨0, F2, Or.inl rfl, ⟨fun c => by omega, fun c => absurd (by rw [esw] at c; exact c.2.1) h0⟩, by rw [esw]; exact w2, fz2, j2, fun i _ => by rw [n2 72 (by decide) (by decide)], fun kz Q K => ?_⟩
    refine X12_clean_14 hM ⟨⟨by omega, by omega⟩, fun _ => ⟨⟨by omega, by omega⟩, ⟨by omega, by omega⟩, fun H1 h1 => ⟨⟨by omega, by omega⟩, ⟨by omega, by omega⟩, ?_, fun H2 h2' => ?_⟩⟩, fun c => absurd (by rw [s1]; omega) c⟩
    · rw [h1, s1]
      show (F1 74 l = 0 ∨ F1 74 l = 1)
      rw [g73, s2]; exact hy1
    · have e2 : H2 = F2 := by
        rw [h2', h1, s1]
        show zuE F1 74 a (F1 74 l) = F2
        rw [g73, s2]
      rw [e2]
      exact ⟨zin_of (by omega) (by omega), ⟨by omega, by omega⟩, fun _ => K, fun c => absurd (by rw [e0]; exact h0) c⟩
theorem cleanM_go (hM : zK zMt d G) (hP : pok (E 53)) (hW : wok (E 54)) (h2 : E 53 0 = 2) : ∀ (B acc : List zLt) (l : Nat) (F : Nat → Int → Int), fz [50, 72, 73, 74, 76, 77, 78] E F → (∀ j : Int, j ≠ 24 → j ≠ 28 → F 50 j = E 50 j) → F 50 24 = ((l + B.length : Nat) : Int) → l + B.length ≤ 6 → acc.length ≤ l → (∀ k : Nat, k < acc.length → wl F k (lit acc k)) → (∀ k : Nat, k < B.length → wl F (l + k) (lit B k)) → aok (E 53) acc → aok (E 53) B →
    ∃ E' : Nat → Int → Int, zgo zm_X12_clean 4 [(0, zR 50), (1, zI (acc.length : Int)), (2, zI (l : Int))] [] (d, G, F) none (d, G, E') ∧ fz [50, 72, 73, 74, 76, 77, 78] E E' ∧ (∀ j : Int, j ≠ 24 → j ≠ 28 → E' 50 j = E 50 j) ∧ rowW E' (ren (cl1 (E 53) (E 54) acc B)) ∧ E' 50 28 = lts (cl1 (E 53) (E 54) acc B) := by
  intro B
  induction B with
  | nil =>
    intro acc l F hf hj hn h6 hal ha _ hacc _
    simp only [List.length_nil, Nat.add_zero] at hn h6
    let F2 := zuE (zuE F 50 24 acc.length) 50 28 0
    have n2 : ∀ x : Nat, x ≠ 50 → F2 x = F x := fun x hx => (zuE_nf hx).trans (zuE_nf hx)
    have c24 : F2 50 24 = acc.length := (zuE_ix (by decide)).trans zuE_same
    obtain ⟨E', z, z1, z2, z3, z4⟩ := cleanM_tail (F0 := F2) (A := acc) hM (by omega) (fun k hk => wl_congr (ha k hk) (by rw [n2 73 (by decide)]) (by rw [n2 74 (by decide)]) (fun i _ _ => by rw [n2 72 (by decide)])) c24 zuE_same (aok_ff hacc)
    simp only [cl1]
    refine ⟨E', fun kz Q hQ => X12_clean_4 hM ⟨fun _ => fun H1 h1 H2 h2' => ?_, fun c => absurd (by rw [hn]; omega) c⟩, fun x hx => ?_, fun j j1 j2 => ?_, z3, z4⟩
    · rw [h2', h1]; exact z kz Q hQ
    · simp at hx
      rw [z1 x (by simp; omega), n2 x (by omega)]
      exact hf x (by simp; omega)
    · rw [z2 j j2]
      exact ((zuE_ix j2).trans (zuE_ix j1)).trans (hj j j1 j2)
  | cons y B ih =>
    intro acc l F hf hj hn h6 hal ha hB hacc haB
    rw [List.length_cons] at hn h6
    have wy : wl F l y := hB 0 (by simp)
    obtain ⟨sz, dn, dn2, y30, yk⟩ := wy
    have hw : wok1 (E 53) y.2 := aok_hd haB
    have e53 : F 53 = E 53 := hf 53 (by simp)
    have e54 : F 54 = E 54 := hf 54 (by simp)
    -- behind the copying
    have fin : ∀ F1 : Nat → Int → Int, fz [72] F F1 → (∀ i : Int, i < 30 * (acc.length : Int) ∨ 30 * (acc.length : Int) + y.2.length ≤ i → F1 72 i = F 72 i) → (∀ j : Nat, j < y.2.length → F1 72 (30 * (acc.length : Int) + j) = y.2.getD j 0) → ∃ E' : Nat → Int → Int, zgo zm_X12_clean 14 [(0, zR 50), (1, zI (acc.length : Int)), (2, zI (l : Int)), (3, zI (y.2.length : Int))] [] (d, G, F1) none (d, G, E') ∧ fz [50, 72, 73, 74, 76, 77, 78] E E' ∧ (∀ j : Int, j ≠ 24 → j ≠ 28 → E' 50 j = E 50 j) ∧ rowW E' (ren (cl1 (E 53) (E 54) acc (y :: B))) ∧ E' 50 28 = lts (cl1 (E 53) (E 54) acc (y :: B)) := by
      intro F1 f1 o1 p1
      have e153 : F1 53 = E 53 := by rw [f1 53 (by simp)]; exact e53
      have e154 : F1 54 = E 54 := by rw [f1 54 (by simp)]; exact e54
      have st := cleanM_14 (F := F1) (a := acc.length) (l := (l : Int)) (y := y) hM (by omega) (by omega) (by omega) (by rw [e153]; exact hP) (by rw [e154]; exact hW) (by rw [e153]; exact h2) (by rw [e153]; exact hw) y30 dn2 (by rw [f1 73 (by simp)]; exact sz) (by rw [f1 74 (by simp)]; exact dn) (fun k hk => by rw [p1 k hk, fw_0])
      rw [e153, e154] at st
      obtain ⟨v, F2, hv, hvi, w2, fz2, j2, o2, go2⟩ := st
      have acc2 : ∀ k : Nat, k < acc.length → wl F2 k (lit acc k) := fun k hk => by
        have b := (ha k hk).2.2.2.1
        refine wl_congr (ha k hk) ?_ ?_ (fun i i1 i2 => ?_)
        · rw [(j2 k (by omega)).1, f1 73 (by simp)]
        · rw [(j2 k (by omega)).2, f1 74 (by simp)]
        · rw [o2 i (by omega), o1 i (by omega)]
      have B2 : ∀ k : Nat, k < B.length → wl F2 (l + 1 + k) (lit B k) := fun k hk => by
        have q := hB (k + 1) (by simp; omega)
        rw [lit_cs] at q
        have e : l + (k + 1) = l + 1 + k := by omega
        rw [e] at q
        refine wl_congr q ?_ ?_ (fun i i1 i2 => ?_)
        · rw [(j2 _ (by omega)).1, f1 73 (by simp)]
        · rw [(j2 _ (by omega)).2, f1 74 (by simp)]
        · rw [o2 i (by omega), o1 i (by omega)]
      have hf2 : fz [50, 72, 73, 74, 76, 77, 78] E F2 := fz_trans hf (fz_trans (fz_mono f1 (by simp)) (fz_mono fz2 (by simp)))
      have hj2 : ∀ j : Int, j ≠ 24 → j ≠ 28 → F2 50 j = E 50 j := fun j a1 a2 => by rw [fz2 50 (by simp), f1 50 (by simp)]; exact hj j a1 a2
      have hn2 : F2 50 24 = ((l + 1 + B.length : Nat) : Int) := by
        rw [fz2 50 (by simp), f1 50 (by simp), hn]; omega
      obtain ⟨v', hv', hvi', go3⟩ := cleanM_156 (F := F2) (l := (l : Int)) hM (by omega) (by omega) (by omega) acc2 w2 acc.length 0 v (by omega) hv
      have gq : v' = 1 ↔ goesP (E 53) acc (y.1, sw (E 53) (E 54) y.2) := by
        rw [hvi', hvi]
        unfold goesP
        constructor
        · rintro (c | ⟨j, _, j1, j3⟩)
          · exact Or.inl c
          · exact Or.inr ⟨j, j1, j3⟩
        · rintro (c | ⟨j, j1, j3⟩)
          · exact Or.inl c
          · exact Or.inr ⟨j, Nat.zero_le _, j1, j3⟩
      have el : ((l + 1 : Nat) : Int) = (l : Int) + 1 := by omega
      rcases hv' with v0 | v1
      · have ng : ¬ goesP (E 53) acc (y.1, sw (E 53) (E 54) y.2) := fun q => by have := gq.2 q; omega
        have la : (acc ++ [(y.1, sw (E 53) (E 54) y.2)]).length = acc.length + 1 := by simp
        obtain ⟨E', z, zr⟩ := ih (acc ++ [(y.1, sw (E 53) (E 54) y.2)]) (l + 1) F2 hf2 hj2 hn2 (by omega) (by omega) (fun k hk => by
          rcases (by omega : k < acc.length ∨ k = acc.length) with c | c
          · rw [lit_app_l c]; exact acc2 k c
          · subst c; rw [lit_app_r]; exact w2) B2 (aok_app hacc (aok_cons (sw_wok hP h2 hw) aok_nil)) (aok_tl haB)
        have el2 : ((acc.length + 1 : Nat) : Int) = (acc.length : Int) + 1 := by omega
        rw [la, el, el2] at z
        rw [cl1_st ng]
        exact ⟨E', fun kz Q hQ => go2 kz Q (go3 kz Q (fun _ => z kz Q hQ) (fun c => by omega)), zr⟩
      · obtain ⟨E', z, zr⟩ := ih acc (l + 1) F2 hf2 hj2 hn2 (by omega) (by omega) acc2 B2 hacc (aok_tl haB)
        rw [el] at z
        rw [cl1_go (gq.1 v1)]
        exact ⟨E', fun kz Q hQ => go2 kz Q (go3 kz Q (fun c => by omega) (fun _ => z kz Q hQ)), zr⟩
    have copy : ∀ (m k : Nat) (F1 : Nat → Int → Int), k + m = y.2.length → fz [72] F F1 → (∀ i : Int, i < 30 * (acc.length : Int) ∨ 30 * (acc.length : Int) + k ≤ i → F1 72 i = F 72 i) → (∀ j : Nat, j < k → F1 72 (30 * (acc.length : Int) + j) = y.2.getD j 0) → ∃ E' : Nat → Int → Int, zgo zm_X12_clean 14 [(0, zR 50), (1, zI (acc.length : Int)), (2, zI (l : Int)), (3, zI (k : Int))] [] (d, G, F1) none (d, G, E') ∧ fz [50, 72, 73, 74, 76, 77, 78] E E' ∧ (∀ j : Int, j ≠ 24 → j ≠ 28 → E' 50 j = E 50 j) ∧ rowW E' (ren (cl1 (E 53) (E 54) acc (y :: B))) ∧ E' 50 28 = lts (cl1 (E 53) (E 54) acc (y :: B)) := by
      intro m
      induction m with
      | zero =>
        intro k F1 hk f1 o1 p1
        have e : k = y.2.length := by omega
        subst e
        exact fin F1 f1 o1 p1
      | succ m ih2 =>
        intro k F1 hk f1 o1 p1
        have rd : F1 72 (30 * (l : Int) + k) = y.2.getD k 0 := by
          rw [o1 _ (by omega), yk k (by omega), fw_0]
        obtain ⟨E', z, zr⟩ := ih2 (k + 1) (zuE F1 72 (30 * (acc.length : Int) + k) (y.2.getD k 0)) (by omega) (fz_put f1 (by simp)) (fun i hi => by rw [zuE_ix (by omega)]; exact o1 i (by omega)) (fun j hj' => by
          rcases (by omega : j = k ∨ j ≠ k) with e | e
          · subst e; exact zuE_same
          · rw [zuE_ix (by omega)]; exact p1 j (by omega))
        have ek : ((k + 1 : Nat) : Int) = (k : Int) + 1 := by omega
        rw [ek] at z
        have s1 : F1 73 l = y.2.length := by rw [f1 73 (by simp)]; exact sz
        exact ⟨E', fun kz Q hQ => X12_clean_14 hM ⟨⟨by omega, by omega⟩, fun c => absurd c (by rw [s1]; omega), fun _ => ⟨zin_of (by omega) (by omega), zin_of (by omega) (by omega), zin_of (by omega) (by omega), zin_of (by omega) (by omega), ⟨by omega, by omega⟩, ⟨by omega, by omega⟩, fun H1 h1 => ⟨zin_of (by omega) (by omega), by rw [h1, rd]; exact z kz Q hQ⟩⟩⟩, zr⟩
    obtain ⟨E', z, zr⟩ := copy y.2.length 0 F (by omega) fz_rfl (fun i _ => rfl) (fun j hj' => by omega)
    exact ⟨E', fun kz Q hQ => X12_clean_4 hM ⟨fun c => absurd c (by rw [hn]; omega), fun _ => z kz Q hQ⟩, zr⟩
theorem cleanM_ok {A : List zLt} (hM : zK zMt d G) (hP : pok (E 53)) (hW : wok (E 54)) (h2 : E 53 0 = 2) (hA : rowW E A) (ha : aok (E 53) A) :
    ∃ E' : Nat → Int → Int, zM zm_X12_clean [zR 50] (d, G, E) none (d, G, E') ∧ fz [50, 72, 73, 74, 76, 77, 78] E E' ∧ (∀ j : Int, j ≠ 24 → j ≠ 28 → E' 50 j = E 50 j) ∧ rowW E' (cln (E 53) (E 54) A) ∧ E' 50 28 = cll (E 53) (E 54) A := by
  obtain ⟨E', z, zr⟩ := cleanM_go (E := E) hM hP hW h2 A [] 0 E fz_rfl (fun j _ _ => rfl) (by rw [hA.1]; simp) (by have := hA.2.1; omega) (by simp) (fun k hk => absurd hk (by simp)) (fun k hk => by
    have := hA.2.2 k hk
    have e : 0 + k = k := by omega
    rw [e]; exact this) aok_nil ha
  exact ⟨E', zM_go rfl (Nat.le_of_ble_eq_true rfl) (fun kz Q hQ => X12_clean_0 hM (z kz Q hQ)), zr⟩
end PV
