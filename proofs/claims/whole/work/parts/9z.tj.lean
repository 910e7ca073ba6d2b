/-! ===== proof: the reference's marks; both ===== -/
/-- the reference's marks within a sweep that began with T -/
def rIv (s : zS) (E : Nat → Int → Int) (T : Nat → Int) (F : Nat → Int → Int) : Prop := fz [50, 110] E F ∧ (∀ j : Int, j ≠ 60 → F 50 j = E 50 j) ∧ (∀ c : Nat, c < sK s → F 110 c = 0 ∨ F 110 c = 1) ∧ (∀ c : Nat, c < sK s → F 110 c = 1 → inP s c) ∧ (∀ b : Nat, b < sK s → (sR s b).length = 0 → F 110 b = 1) ∧ (∀ c : Nat, c < sK s → T c = 1 → F 110 c = 1) ∧ (F 50 60 = 0 ∧ (∀ c : Nat, c < sK s → F 110 c = T c) ∨ F 50 60 = 1 ∧ cnS T 1 (sK s) < cnS (fun c => F 110 c) 1 (sK s))
section TJ
variable {d : List Nat} {G : Nat → Int → Option Nat} {E : Nat → Int → Int}
theorem names_ok {s : zS} {T : Nat → Int} {F : Nat → Int → Int} {v : Int} (hM : zK zMt d G) (h6 : E 50 6 = sK s) (hK : sK s ≤ 150) (h : rIv s E T F) (hv : ∀ c : Nat, v = c → c < sK s → inP s c) : ∃ F' : Nat → Int → Int, zM zm_X12_names [zR 50, zI v] (d, G, F) none (d, G, F') ∧ rIv s E T F' ∧ (F' 50 60 = 0 → F' = F ∧ ∀ c : Nat, v = c → c < sK s → F 110 c = 1) := by
  have h' := h
  obtain ⟨a1, a2, a3, a4, a5, a6, a7⟩ := h
  have f6 : F 50 6 = sK s := (a2 6 (by decide)).trans h6
  by_cases c1 : 0 ≤ v ∧ v < sK s
  case neg =>
    have hi : zM zm_X12_isClaim [zR 50, zI v] (d, G, F) (some (zI 0)) (d, G, F) := zM_e rfl (Nat.le_of_ble_eq_true rfl) (fun kz Q hQ => X12_isClaim_0 hM ⟨zin_of (by omega) (by omega), 0, inN hM (by omega), Or.inl rfl, hQ⟩)
    exact ⟨F, zM_e rfl (Nat.le_of_ble_eq_true rfl) (fun kz Q hQ => X12_names_0 hM ⟨0, hi, fun _ => hQ, fun y => absurd rfl y⟩), h', fun _ => ⟨rfl, fun c h1 h2 => absurd ⟨by omega, by omega⟩ c1⟩⟩
  obtain ⟨c, rfl⟩ : ∃ c : Nat, v = c := ⟨v.toNat, by omega⟩
  have cK : c < sK s := by omega
  have hi : zM zm_X12_isClaim [zR 50, zI (c : Int)] (d, G, F) (some (zI 1)) (d, G, F) := zM_e rfl (Nat.le_of_ble_eq_true rfl) (fun kz Q hQ => X12_isClaim_0 hM ⟨zin_of (by omega) (by omega), 1, inY hM ⟨by omega, by omega⟩, Or.inr rfl, hQ⟩)
  rcases a3 c cK with c0 | c0
  case inr =>
    refine ⟨F, zM_e rfl (Nat.le_of_ble_eq_true rfl) (fun kz Q hQ => X12_names_0 hM ⟨1, hi, fun y => absurd y (by decide), fun _ => ⟨⟨by omega, by omega⟩, fun _ => hQ, fun y => absurd (by rw [c0]; decide) y⟩⟩), h', fun _ => ⟨rfl, fun c' h1 _ => ?_⟩⟩
    rw [show c' = c by omega]; exact c0
  let F1 := zuE F 110 c 1
  let F2 := zuE F1 50 60 1
  have g1 : ∀ b : Nat, b ≠ c → F2 110 b = F 110 b := fun b hb => (zuE_ne (by decide) _).trans (zuE_ix (by omega))
  have gs : F2 110 c = 1 := (zuE_ne (by decide) _).trans zuE_same
  have g60 : F2 50 60 = 1 := zuE_same
  have cn : cnS (fun c => F2 110 c) 1 (sK s) = cnS (fun c => F 110 c) 1 (sK s) + 1 := cnS_up (T := fun c => F 110 c) (T' := fun c => F2 110 c) (c := c) gs (by show F 110 c ≠ 1; omega) g1 (sK s) cK
  refine ⟨F2, zM_e rfl (Nat.le_of_ble_eq_true rfl) (fun kz Q hQ => X12_names_0 hM ⟨1, hi, fun y => absurd y (by decide), fun _ => ⟨⟨by omega, by omega⟩, fun y => absurd c0 y, fun _ => ⟨⟨by omega, by omega⟩, fun H1 h1 H2 h2 => by rw [h2, h1]; exact hQ⟩⟩⟩), ⟨fz_put (fz_put a1 (by simp)) (by simp), fun j hj => (zuE_ix hj).trans ((zuE_ne (by decide) _).trans (a2 j hj)), fun b hb => ?_, fun b hb q => ?_, fun b hb b0 => ?_, fun b hb q => ?_, Or.inr ⟨g60, ?_⟩⟩, fun y => by omega⟩
  · by_cases e : b = c
    · rw [e]; exact Or.inr gs
    · rw [g1 b e]; exact a3 b hb
  · by_cases e : b = c
    · rw [e]; exact hv c rfl cK
    · rw [g1 b e] at q; exact a4 b hb q
  · by_cases e : b = c
    · rw [e]; exact gs
    · rw [g1 b e]; exact a5 b hb b0
  · by_cases e : b = c
    · rw [e]; exact gs
    · rw [g1 b e]; exact a6 b hb q
  · rw [cn]
    rcases a7 with ⟨_, q⟩ | ⟨_, q⟩
    · rw [cnS_cg (T := T) (T' := fun c => F 110 c) (sK s) (fun c hc => q c hc)]; omega
    · omega
theorem sweep_ok {s : zS} {T : Nat → Int} {v : Int} (hM : zK zMt d G) (hD : MI E (E 53) (E 54) (sK s) (sR s) (sT s) (sB s) (sN s) (sW s) (sS s)) : ∀ (n : Nat) (F : Nat → Int → Int), n ≤ sK s → rIv s E T F → (F 50 60 = 0 → ∀ c : Nat, n ≤ c → c < sK s → F 110 c = 1 → ∀ b : Nat, b < sK s → (b : Int) ∈ nmL (sN s c) (sW s c) → F 110 b = 1) → ∃ F' : Nat → Int → Int, rIv s E T F' ∧ (F' 50 60 = 0 → ∀ c : Nat, c < sK s → F' 110 c = 1 → ∀ b : Nat, b < sK s → (b : Int) ∈ nmL (sN s c) (sW s c) → F' 110 b = 1) ∧ ∀ (kz : Nat × Nat) (Q : Option zV → zH → Prop), Z zm_X12_proof kz Q 51 [(0, zR 50), (1, zI v)] [] (d, G, F') → Z zm_X12_proof kz Q 70 [(0, zR 50), (1, zI v), (2, zI ((n : Int) - 1))] [] (d, G, F) := by
  have h6 := hD.1
  have hK := hD.2.1
  intro n
  induction n with
  | zero =>
    intro F hn h hc
    exact ⟨F, h, fun y c hc' => hc y c (by omega) hc', fun kz Q hz => X12_proof_70 hM ⟨fun _ => hz, fun y => absurd (by omega) y⟩⟩
  | succ c ih =>
    intro F hn h hc
    have cK : c < sK s := by omega
    have md := hD.2.2 c cK
    obtain ⟨_, _, _, _, n7, mE, nk0, nk4, ⟨n, tl, n8, en⟩, tM, _, _⟩ := md
    have ec : ((c + 1 : Nat) : Int) - 1 = (c : Int) := by omega
    have ed : (c : Int) + -1 = (c : Int) - 1 := by omega
    have h3 := h.2.2.1
    by_cases c0 : F 110 c = 0
    · obtain ⟨F', r1, r2, r3⟩ := ih F (by omega) h (fun y b b1 b2 b3 => by
        by_cases e : b = c
        · rw [e] at b3; omega
        · exact hc y b (by omega) b2 b3)
      refine ⟨F', r1, r2, fun kz Q hz => ?_⟩
      rw [ec]
      exact X12_proof_70 hM ⟨fun y => absurd y (by omega), fun _ => ⟨zin_of (by omega) (by omega), ⟨by omega, by omega⟩, fun _ => ⟨zin_of (by omega) (by omega), by rw [ed]; exact r3 kz Q hz⟩, fun y => absurd c0 y⟩⟩
    have c1 : F 110 c = 1 := by
      rcases h3 c cK with q | q
      · exact absurd q c0
      · exact q
    have ci := h.2.2.2.1 c cK c1
    have hF : ∀ {F : Nat → Int → Int}, rIv s E T F → ∀ y : Nat, y ≠ 50 → y ≠ 110 → F y = E y := fun h y y1 y2 => h.1 y (by simp; omega)
    -- the rewritings, then those below
    have lp : ∀ (m j : Nat) (F : Nat → Int → Int), j + m = n → rIv s E T F → ((F 50 60 = 0 → ∀ c' : Nat, c + 1 ≤ c' → c' < sK s → F 110 c' = 1 → ∀ b : Nat, b < sK s → (b : Int) ∈ nmL (sN s c') (sW s c') → F 110 b = 1)) → (F 50 60 = 0 → ∀ b : Nat, b < sK s → (b : Int) ∈ nmL (sN s c) (sW s c) → (∃ k : Nat, j ≤ k ∧ k < n ∧ (sW s c).getD (4 * k) 0 = b) ∨ F 110 b = 1) → ∃ F' : Nat → Int → Int, rIv s E T F' ∧ (F' 50 60 = 0 → ∀ c : Nat, c < sK s → F' 110 c = 1 → ∀ b : Nat, b < sK s → (b : Int) ∈ nmL (sN s c) (sW s c) → F' 110 b = 1) ∧ ∀ (kz : Nat × Nat) (Q : Option zV → zH → Prop), Z zm_X12_proof kz Q 51 [(0, zR 50), (1, zI v)] [] (d, G, F') → Z zm_X12_proof kz Q 160 [(0, zR 50), (1, zI v), (2, zI (c : Int)), (4, zI (j : Int))] [] (d, G, F) := by
      intro m
      induction m with
      | zero =>
        intro j F hj h hc hb
        have e70 : F 70 c = n := by rw [hF h 70 (by decide) (by decide)]; exact en
        obtain ⟨F', r1, r2, r3⟩ := ih F (by omega) h (fun y b b1 b2 b3 => by
          by_cases e : b = c
          · subst e
            intro b' b'1 b'2
            rcases hb y b' b'1 b'2 with ⟨k, k1, k2, _⟩ | q
            · omega
            · exact q
          · exact hc y b (by omega) b2 b3)
        refine ⟨F', r1, r2, fun kz Q hz => X12_proof_160 hM ⟨⟨by omega, by omega⟩, fun _ => ⟨zin_of (by omega) (by omega), by rw [ed]; exact r3 kz Q hz⟩, fun y => absurd (by omega) y⟩⟩
      | succ m ih2 =>
        intro j F hj h hc hb
        have e70 : F 70 c = n := by rw [hF h 70 (by decide) (by decide)]; exact en
        have e71 : F 71 (32 * (c : Int) + 4 * (j : Int)) = (sW s c).getD (4 * j) 0 := by
          rw [hF h 71 (by decide) (by decide)]
          have := tM (4 * j) (by omega)
          rw [← this]
          congr 1
        obtain ⟨F1, m1, h1, k1⟩ := names_ok (E := E) (v := (sW s c).getD (4 * j) 0) hM h6 hK h (fun b hb hbK => inP_s cK hbK ci (by
          rw [nmL_mem]
          exact Or.inr (Or.inr (Or.inr ⟨j, by omega, hb⟩))))
        obtain ⟨F', r1, r2, r3⟩ := ih2 (j + 1) F1 (by omega) h1 (fun y => by
          obtain ⟨e, _⟩ := k1 y
          rw [e] at y ⊢
          exact hc y) (fun y b hbK hbn => by
          obtain ⟨e, e2⟩ := k1 y
          rw [e] at y ⊢
          rcases hb y b hbK hbn with ⟨k, k1, k2, k3⟩ | q
          · by_cases ek : k = j
            · subst ek
              exact Or.inr (e2 b k3 hbK)
            · exact Or.inl ⟨k, by omega, k2, k3⟩
          · exact Or.inr q)
        refine ⟨F', r1, r2, fun kz Q hz => X12_proof_160 hM ⟨⟨by omega, by omega⟩, fun y => absurd y (by omega), fun _ => ⟨zin_of (by omega) (by omega), zin_of (by omega) (by omega), zin_of (by omega) (by omega), ⟨by omega, by omega⟩, F1, by rw [e71]; exact m1, zin_of (by omega) (by omega), ?_⟩⟩⟩
        have := r3 kz Q hz
        rw [show ((j + 1 : Nat) : Int) = (j : Int) + 1 by omega] at this
        exact this
    obtain ⟨kk, hkk⟩ : ∃ k : Nat, (sN s c).getD 0 0 = k := ⟨((sN s c).getD 0 0).toNat, by omega⟩
    have mm : ∀ v : Int, v ∈ nmL (sN s c) (sW s c) ↔ (1 ≤ (kk : Int) ∧ v = (sN s c).getD 1 0) ∨ ((kk : Int) = 1 ∧ v = (sN s c).getD 3 0) ∨ ((kk : Int) = 4 ∧ v = (sN s c).getD 4 0) ∨ ∃ j : Nat, j < (sW s c).length / 4 ∧ (sW s c).getD (4 * j) 0 = v := fun v => by rw [nmL_mem, hkk]
    have k69 : ∀ {F : Nat → Int → Int}, rIv s E T F → F 69 (7 * (c : Int)) = kk := fun h => by
      rw [hF h 69 (by decide) (by decide), ← hkk]
      have := mE 0 (by decide)
      rw [show 7 * (c : Int) + ((0 : Nat) : Int) = 7 * (c : Int) by omega] at this
      exact this
    have hN := hasNumber_ok (E := F) (d := d) (G := G) (k := (kk : Int)) (v := 1) hM ⟨by omega, by omega⟩
    have fn : ∀ (F : Nat → Int → Int) (i : Nat), rIv s E T F → i < 7 → (sN s c).getD i 0 ∈ nmL (sN s c) (sW s c) → ∃ F' : Nat → Int → Int, zM zm_X12_names [zR 50, zI (F 69 (7 * (c : Int) + (i : Int)))] (d, G, F) none (d, G, F') ∧ rIv s E T F' ∧ (F' 50 60 = 0 → F' = F ∧ ∀ b : Nat, (sN s c).getD i 0 = b → b < sK s → F 110 b = 1) := fun F i h hi hm => by
      have e5 : F 69 (7 * (c : Int) + (i : Int)) = (sN s c).getD i 0 := by rw [hF h 69 (by decide) (by decide)]; exact mE i hi
      rw [e5]
      exact names_ok (E := E) hM h6 hK h (fun b hb hbK => inP_s cK hbK ci (by rw [← hb]; exact hm))
    have cs : kk = 0 ∨ kk = 1 ∨ (kk = 2 ∨ kk = 3) ∨ kk = 4 := by omega
    rcases cs with e | e | e | e
    · subst e
      obtain ⟨F', r1, r2, r3⟩ := lp n 0 F (by omega) h hc (fun y b hb hm => by
        rcases (mm b).mp hm with ⟨q, _⟩ | ⟨q, _⟩ | ⟨q, _⟩ | ⟨j, j1, j2⟩
        · omega
        · omega
        · omega
        · exact Or.inl ⟨j, by omega, by omega, j2⟩)
      rw [if_neg (by decide)] at hN
      have e0 := k69 h
      refine ⟨F', r1, r2, fun kz Q hz => ?_⟩
      rw [ec]
      refine X12_proof_70 hM ⟨fun y => absurd y (by omega), fun _ => ⟨zin_of (by omega) (by omega), ⟨by omega, by omega⟩, fun y => absurd y c0, fun _ => ⟨⟨by omega, by omega⟩, 0, by rw [e0]; exact hN, fun _ => ⟨⟨by omega, by omega⟩, fun _ => ⟨⟨by omega, by omega⟩, fun _ => r3 kz Q hz, fun y => absurd (by rw [e0]; decide) y⟩, fun y => absurd (by rw [e0]; decide) y⟩, fun y => absurd rfl y⟩⟩⟩
    · subst e
      rw [if_pos (by decide)] at hN
      obtain ⟨F1, m1, h1, k1⟩ := fn F 1 h (by decide) ((mm _).mpr (Or.inl ⟨by decide, rfl⟩))
      obtain ⟨F2, m2, h2, k2⟩ := fn F1 3 h1 (by decide) ((mm _).mpr (Or.inr (Or.inl ⟨by decide, rfl⟩)))
      obtain ⟨F', r1, r2, r3⟩ := lp n 0 F2 (by omega) h2 (fun y => by
        obtain ⟨q1, _⟩ := k2 y
        rw [q1] at y
        obtain ⟨q2, _⟩ := k1 y
        rw [q2] at y
        rw [q1, q2]; exact hc y) (fun y b hb hm => by
        obtain ⟨q1, q3⟩ := k2 y
        rw [q1] at y
        obtain ⟨q2, q4⟩ := k1 y
        rw [q1]
        rcases (mm b).mp hm with ⟨_, q⟩ | ⟨_, q⟩ | ⟨q, _⟩ | ⟨j, j1, j2⟩
        · rw [q2]; exact Or.inr (q4 b q.symm hb)
        · exact Or.inr (q3 b q.symm hb)
        · omega
        · exact Or.inl ⟨j, by omega, by omega, j2⟩)
      have e0 := k69 h
      have e1 := k69 h1
      have e2 := k69 h2
      refine ⟨F', r1, r2, fun kz Q hz => ?_⟩
      rw [ec]
      refine X12_proof_70 hM ⟨fun y => absurd y (by omega), fun _ => ⟨zin_of (by omega) (by omega), ⟨by omega, by omega⟩, fun y => absurd y c0, fun _ => ⟨⟨by omega, by omega⟩, 1, by rw [e0]; exact hN, fun y => absurd y (by decide), fun _ => ⟨zin_of (by omega) (by omega), ⟨by omega, by omega⟩, F1, m1, ⟨by omega, by omega⟩, fun y => absurd (by rw [e1]; decide) y, fun _ => ⟨zin_of (by omega) (by omega), ⟨by omega, by omega⟩, F2, m2, ⟨by omega, by omega⟩, fun _ => r3 kz Q hz, fun y => absurd (by rw [e2]; decide) y⟩⟩⟩⟩⟩
    · have k1' : 1 ≤ (kk : Int) := by omega
      have hN1 : zM zm_X12_hasNumber [zI (kk : Int), zI 1] (d, G, F) (some (zI 1)) (d, G, F) := by
        rcases e with e | e
        · subst e; rw [if_pos (by decide)] at hN; exact hN
        · subst e; rw [if_pos (by decide)] at hN; exact hN
      obtain ⟨F1, m1, h1, k1⟩ := fn F 1 h (by decide) ((mm _).mpr (Or.inl ⟨k1', rfl⟩))
      obtain ⟨F', r1, r2, r3⟩ := lp n 0 F1 (by omega) h1 (fun y => by
        obtain ⟨q2, _⟩ := k1 y
        rw [q2] at y ⊢
        exact hc y) (fun y b hb hm => by
        obtain ⟨q2, q4⟩ := k1 y
        rcases (mm b).mp hm with ⟨_, q⟩ | ⟨q, _⟩ | ⟨q, _⟩ | ⟨j, j1, j2⟩
        · rw [q2]; exact Or.inr (q4 b q.symm hb)
        · omega
        · omega
        · exact Or.inl ⟨j, by omega, by omega, j2⟩)
      have e0 := k69 h
      have e1 := k69 h1
      refine ⟨F', r1, r2, fun kz Q hz => ?_⟩
      rw [ec]
      refine X12_proof_70 hM ⟨fun y => absurd y (by omega), fun _ => ⟨zin_of (by omega) (by omega), ⟨by omega, by omega⟩, fun y => absurd y c0, fun _ => ⟨⟨by omega, by omega⟩, 1, by rw [e0]; exact hN1, fun y => absurd y (by decide), fun _ => ⟨zin_of (by omega) (by omega), ⟨by omega, by omega⟩, F1, m1, ⟨by omega, by omega⟩, fun _ => ⟨⟨by omega, by omega⟩, fun _ => r3 kz Q hz, fun y => absurd (by rw [e1]; omega) y⟩, fun y => absurd (by rw [e1]; omega) y⟩⟩⟩⟩
    · subst e
      rw [if_pos (by decide)] at hN
      obtain ⟨F1, m1, h1, k1⟩ := fn F 1 h (by decide) ((mm _).mpr (Or.inl ⟨by decide, rfl⟩))
      obtain ⟨F2, m2, h2, k2⟩ := fn F1 4 h1 (by decide) ((mm _).mpr (Or.inr (Or.inr (Or.inl ⟨by decide, rfl⟩))))
      obtain ⟨F', r1, r2, r3⟩ := lp n 0 F2 (by omega) h2 (fun y => by
        obtain ⟨q1, _⟩ := k2 y
        rw [q1] at y
        obtain ⟨q2, _⟩ := k1 y
        rw [q2] at y
        rw [q1, q2]; exact hc y) (fun y b hb hm => by
        obtain ⟨q1, q3⟩ := k2 y
        rw [q1] at y
        obtain ⟨q2, q4⟩ := k1 y
        rw [q1]
        rcases (mm b).mp hm with ⟨_, q⟩ | ⟨q, _⟩ | ⟨_, q⟩ | ⟨j, j1, j2⟩
        · rw [q2]; exact Or.inr (q4 b q.symm hb)
        · omega
        · exact Or.inr (q3 b q.symm hb)
        · exact Or.inl ⟨j, by omega, by omega, j2⟩)
      have e0 := k69 h
      have e1 := k69 h1
      have e2 := k69 h2
      refine ⟨F', r1, r2, fun kz Q hz => ?_⟩
      rw [ec]
      refine X12_proof_70 hM ⟨fun y => absurd y (by omega), fun _ => ⟨zin_of (by omega) (by omega), ⟨by omega, by omega⟩, fun y => absurd y c0, fun _ => ⟨⟨by omega, by omega⟩, 1, by rw [e0]; exact hN, fun y => absurd y (by decide), fun _ => ⟨zin_of (by omega) (by omega), ⟨by omega, by omega⟩, F1, m1, ⟨by omega, by omega⟩, fun _ => ⟨⟨by omega, by omega⟩, fun y => absurd (by rw [e1]; decide) y, fun _ => ⟨zin_of (by omega) (by omega), ⟨by omega, by omega⟩, F2, m2, r3 kz Q hz⟩⟩, fun y => absurd (by rw [e1]; decide) y⟩⟩⟩⟩
/-- the k-th of the marked ones -/
def kth (T : Nat → Int) (k : Int) : Nat → Nat → Int → Int
  | 0, _, _ => -1
  | m + 1, c, a => if T c = 0 then kth T k m (c + 1) a else if a ≠ k then kth T k m (c + 1) (a + 1) else c
theorem proofM_ok {s : zS} {v : Int} {T1 : Nat → Int} (hM : zK zMt d G) (hD : MI E (E 53) (E 54) (sK s) (sR s) (sT s) (sB s) (sN s) (sW s) (sS s)) (h54 : E 50 54 = 1) (hv : v ≤ 2147483647) (h1 : ∀ c : Nat, c < sK s → (T1 c = 1 ∧ inP s c ∨ T1 c = 0 ∧ ¬ inP s c)) : ∃ F : Nat → Int → Int, zM zm_X12_proof [zR 50, zI v] (d, G, E) (some (zI (if 0 ≤ v then kth T1 v (sK s) 0 0 else -1))) (d, G, F) ∧ fz [50, 110] E F ∧ ∀ j : Int, j ≠ 60 → F 50 j = E 50 j := by
  have h6 := hD.1
  have hK := hD.2.1
  -- the last loop
  have last : ∀ (F : Nat → Int → Int), (∀ j : Int, j ≠ 60 → F 50 j = E 50 j) → (∀ c : Nat, c < sK s → F 110 c = T1 c) → ∀ (m c : Nat) (a : Int), c + m = sK s → 0 ≤ a → a ≤ c → (0 ≤ v → a ≤ v) → zgo zm_X12_proof 208 [(0, zR 50), (1, zI v), (2, zI (v - a)), (3, zI (c : Int))] [] (d, G, F) (some (zI (if 0 ≤ v then kth T1 v m c a else -1))) (d, G, F) := by
    intro F g50 gT m
    have f6 : F 50 6 = sK s := (g50 6 (by decide)).trans h6
    induction m with
    | zero =>
      intro c a hc a0 a1 a2 kz Q hQ
      refine X12_proof_208 hM ⟨fun _ => ?_, fun y => absurd (by omega) y⟩
      split at hQ <;> exact hQ
    | succ m ih =>
      intro c a hc a0 a1 a2 kz Q hQ
      have cK : c < sK s := by omega
      refine X12_proof_208 hM ⟨fun y => absurd y (by omega), fun _ => ⟨fun y => ?_, fun y => ⟨⟨by omega, by omega⟩, fun y0 => ?_, fun y0 => ⟨fun y1 => ?_, fun y1 => ?_⟩⟩⟩⟩
      · rw [if_neg (by omega)] at hQ; exact hQ
      · rw [if_pos (by omega)] at hQ
        unfold kth at hQ
        rw [if_pos (by rw [← gT c cK]; exact y0)] at hQ
        have z := ih (c + 1) a (by omega) a0 (by omega) a2 kz Q (by rw [if_pos (by omega)]; exact hQ)
        rw [show ((c + 1 : Nat) : Int) = (c : Int) + 1 by omega] at z
        exact ⟨zin_of (by omega) (by omega), z⟩
      · rw [if_pos (by omega)] at hQ
        unfold kth at hQ
        rw [if_neg (by rw [← gT c cK]; exact y0), if_pos (by omega)] at hQ
        have z := ih (c + 1) (a + 1) (by omega) (by omega) (by omega) (fun q => by have := a2 q; omega) kz Q (by rw [if_pos (by omega)]; exact hQ)
        rw [show ((c + 1 : Nat) : Int) = (c : Int) + 1 by omega, show v - (a + 1) = v - a + -1 by omega] at z
        have := a2 (by omega)
        exact ⟨zin_of (by omega) (by omega), zin_of (by omega) (by omega), z⟩
      · rw [if_pos (by omega)] at hQ
        unfold kth at hQ
        rw [if_neg (by rw [← gT c cK]; exact y0), if_neg (by omega)] at hQ
        exact hQ
  -- sweeps
  have sw : ∀ (m : Nat) (F : Nat → Int → Int), rIv s E (fun c => F 110 c) F → F 50 60 = 0 → (sK s : Int) - cnS (fun c => F 110 c) 1 (sK s) ≤ m → ∃ F' : Nat → Int → Int, (fz [50, 110] E F' ∧ ∀ j : Int, j ≠ 60 → F' 50 j = E 50 j) ∧ zgo zm_X12_proof 70 [(0, zR 50), (1, zI v), (2, zI ((sK s : Int) - 1))] [] (d, G, F) (some (zI (if 0 ≤ v then kth T1 v (sK s) 0 0 else -1))) (d, G, F') := by
    intro m
    induction m with
    | zero =>
      intro F h h60 hm
      obtain ⟨F1, r1, r2, r3⟩ := sweep_ok (E := E) (v := v) (T := fun c => F 110 c) hM hD (sK s) F (Nat.le_refl _) h (fun _ c c1 c2 => by omega)
      have z0 : F1 50 60 = 0 := by
        rcases r1.2.2.2.2.2.2 with ⟨q, _⟩ | ⟨_, q⟩
        · exact q
        · have := (cnS_le (T := fun c => F1 110 c) (v := 1) (sK s)).2
          omega
      have gT : ∀ c : Nat, c < sK s → F1 110 c = T1 c := fun c hc => by
        have all : inP s c → F1 110 c = 1 := fun hi => (hi (fun b => b < sK s ∧ F1 110 b = 1) (fun b hb b0 => ⟨hb, r1.2.2.2.2.1 b hb b0⟩) (fun b b' hb hb' hs hn => ⟨hb', r2 z0 b hb hs.2 b' hb' hn⟩)).2
        rcases h1 c hc with ⟨q1, q2⟩ | ⟨q1, q2⟩
        · rw [q1]; exact all q2
        · rcases r1.2.2.1 c hc with q | q
          · rw [q1]; exact q
          · exact absurd (r1.2.2.2.1 c hc q) q2
      refine ⟨F1, ⟨r1.1, r1.2.1⟩, fun kz Q hQ => r3 kz Q (X12_proof_51 hM ⟨fun _ => ?_, fun y => absurd z0 y⟩)⟩
      have := last F1 r1.2.1 gT (sK s) 0 0 (by omega) (by omega) (by omega) (fun q => q) kz Q hQ
      rw [show v - 0 = v by omega] at this
      exact this
    | succ m ih =>
      intro F h h60 hm
      obtain ⟨F1, r1, r2, r3⟩ := sweep_ok (E := E) (v := v) (T := fun c => F 110 c) hM hD (sK s) F (Nat.le_refl _) h (fun _ c c1 c2 => by omega)
      rcases r1.2.2.2.2.2.2 with ⟨z0, _⟩ | ⟨z1, zc⟩
      · have gT : ∀ c : Nat, c < sK s → F1 110 c = T1 c := fun c hc => by
          have all : inP s c → F1 110 c = 1 := fun hi => (hi (fun b => b < sK s ∧ F1 110 b = 1) (fun b hb b0 => ⟨hb, r1.2.2.2.2.1 b hb b0⟩) (fun b b' hb hb' hs hn => ⟨hb', r2 z0 b hb hs.2 b' hb' hn⟩)).2
          rcases h1 c hc with ⟨q1, q2⟩ | ⟨q1, q2⟩
          · rw [q1]; exact all q2
          · rcases r1.2.2.1 c hc with q | q
            · rw [q1]; exact q
            · exact absurd (r1.2.2.2.1 c hc q) q2
        refine ⟨F1, ⟨r1.1, r1.2.1⟩, fun kz Q hQ => r3 kz Q (X12_proof_51 hM ⟨fun _ => ?_, fun y => absurd z0 y⟩)⟩
        have := last F1 r1.2.1 gT (sK s) 0 0 (by omega) (by omega) (by omega) (fun q => q) kz Q hQ
        rw [show v - 0 = v by omega] at this
        exact this
      · let F2 := zuE F1 50 60 0
        have e110 : F2 110 = F1 110 := zuE_nf (by decide)
        have f6 : F2 50 6 = sK s := (zuE_ix (by decide)).trans ((r1.2.1 6 (by decide)).trans h6)
        have r2' : rIv s E (fun c => F2 110 c) F2 := by
          obtain ⟨b1, b2, b3, b4, b5, _, _⟩ := r1
          refine ⟨fz_put b1 (by simp), fun j hj => (zuE_ix hj).trans (b2 j hj), ?_, ?_, ?_, fun c _ q => q, Or.inl ⟨zuE_same, fun c _ => rfl⟩⟩
          · rw [e110]; exact b3
          · rw [e110]; exact b4
          · rw [e110]; exact b5
        obtain ⟨F', k1, k2⟩ := ih F2 r2' zuE_same (by rw [e110]; omega)
        refine ⟨F', k1, fun kz Q hQ => r3 kz Q (X12_proof_51 hM ⟨fun y => absurd y (by omega), fun _ H hh => ?_⟩)⟩
        have eH : H = F2 := hh
        rw [eH, f6]
        exact ⟨zin_of (by omega) (by omega), k2 kz Q hQ⟩
  -- the beginning
  have first : ∀ (m c : Nat) (F : Nat → Int → Int), c + m = sK s → fz [50, 110] E F → (∀ j : Int, j ≠ 60 → F 50 j = E 50 j) → (∀ b : Nat, b < c → (F 110 b = 1 ∧ (sR s b).length = 0 ∨ F 110 b = 0 ∧ (sR s b).length ≠ 0)) → ∃ F' : Nat → Int → Int, zgo zm_X12_proof 12 [(0, zR 50), (1, zI v), (2, zI (c : Int))] [] (d, G, F) (some (zI (if 0 ≤ v then kth T1 v (sK s) 0 0 else -1))) (d, G, F') ∧ fz [50, 110] E F' ∧ ∀ j : Int, j ≠ 60 → F' 50 j = E 50 j := by
    intro m
    induction m with
    | zero =>
      intro c F hc hf h5 hb
      have e : c = sK s := by omega
      subst e
      have f6 : F 50 6 = sK s := (h5 6 (by decide)).trans h6
      let F2 := zuE (zuE F 50 60 1) 50 60 0
      have e110 : F2 110 = F 110 := (zuE_nf (by decide)).trans (zuE_nf (by decide))
      have g6 : F2 50 6 = sK s := (zuE_ix (by decide)).trans ((zuE_ix (by decide)).trans f6)
      have r2' : rIv s E (fun c => F2 110 c) F2 := by
        refine ⟨fz_put (fz_put hf (by simp)) (by simp), fun j hj => (zuE_ix hj).trans ((zuE_ix hj).trans (h5 j hj)), ?_, ?_, ?_, fun c _ q => q, Or.inl ⟨zuE_same, fun c _ => rfl⟩⟩
        · intro c hc
          rw [e110]
          rcases hb c hc with ⟨q, _⟩ | ⟨q, _⟩
          · exact Or.inr q
          · exact Or.inl q
        · intro c hc q
          rw [e110] at q
          rcases hb c hc with ⟨_, q2⟩ | ⟨q2, _⟩
          · exact inP_0 hc q2
          · omega
        · intro c hc q
          rw [e110]
          rcases hb c hc with ⟨q2, _⟩ | ⟨_, q2⟩
          · exact q2
          · exact absurd q q2
      obtain ⟨F', k1, k2⟩ := sw (sK s) F2 r2' zuE_same (by have := (cnS_le (T := fun c => F2 110 c) (v := 1) (sK s)).1; omega)
      refine ⟨F', fun kz Q hQ => X12_proof_12 hM ⟨fun _ H hh => X12_proof_51 hM ⟨fun y => ?_, fun _ H2 hh2 => ?_⟩, fun y => absurd (by omega) y⟩, k1.1, k1.2⟩
      · rw [hh, zuE_same] at y; omega
      · have eH : H2 = F2 := by rw [hh2, hh]
        rw [eH, g6]
        exact ⟨zin_of (by omega) (by omega), k2 kz Q hQ⟩
    | succ m ih =>
      intro c F hc hf h5 hb
      have cK : c < sK s := by omega
      have f6 : F 50 6 = sK s := (h5 6 (by decide)).trans h6
      have f61 : F 61 c = (sR s c).length := by rw [hf 61 (by simp)]; exact (hD.2.2 c cK).1.1
      have nx : ∀ x : Int, (x = 1 ∧ (sR s c).length = 0 ∨ x = 0 ∧ (sR s c).length ≠ 0) → ∃ F' : Nat → Int → Int, zgo zm_X12_proof 12 [(0, zR 50), (1, zI v), (2, zI ((c : Int) + 1))] [] (d, G, zuE F 110 c x) (some (zI (if 0 ≤ v then kth T1 v (sK s) 0 0 else -1))) (d, G, F') ∧ fz [50, 110] E F' ∧ ∀ j : Int, j ≠ 60 → F' 50 j = E 50 j := fun x hx => by
        have := ih (c + 1) (zuE F 110 c x) (by omega) (fz_put hf (by simp)) (fun j hj => (zuE_ne (by decide) _).trans (h5 j hj)) (fun b hb' => by
          by_cases e : b = c
          · subst e; rw [zuE_same]; exact hx
          · rw [zuE_ix (by omega)]; exact hb b (by omega))
        rw [show ((c + 1 : Nat) : Int) = (c : Int) + 1 by omega] at this
        exact this
      by_cases c0 : (sR s c).length = 0
      · obtain ⟨F', z, zr⟩ := nx 1 (Or.inl ⟨rfl, c0⟩)
        exact ⟨F', fun kz Q hQ => X12_proof_12 hM ⟨fun y => absurd y (by omega), fun _ => ⟨⟨by omega, by omega⟩, fun y => absurd (by rw [f61]; omega) y, fun _ => ⟨⟨by omega, by omega⟩, fun H hh => ⟨zin_of (by omega) (by omega), by rw [hh]; exact z kz Q hQ⟩⟩⟩⟩, zr⟩
      · obtain ⟨F', z, zr⟩ := nx 0 (Or.inr ⟨rfl, c0⟩)
        exact ⟨F', fun kz Q hQ => X12_proof_12 hM ⟨fun y => absurd y (by omega), fun _ => ⟨⟨by omega, by omega⟩, fun _ => ⟨⟨by omega, by omega⟩, fun H hh => ⟨zin_of (by omega) (by omega), by rw [hh]; exact z kz Q hQ⟩⟩, fun y => absurd (by rw [f61]; omega) y⟩⟩, zr⟩
  obtain ⟨F', z, z1, z2⟩ := first (sK s) 0 E (by omega) fz_rfl (fun _ _ => rfl) (fun b hb => by omega)
  exact ⟨F', zM_go rfl (Nat.le_of_ble_eq_true rfl) (fun kz Q hQ => X12_proof_0 hM ⟨fun _ => z kz Q hQ, fun y => absurd h54 y⟩), z1, z2⟩
theorem JI_proof {s : zS} {g : Nat} {v : Int} (hv : v ≤ 2147483647) (h : JI d G E s g) : ∃ (r : Int) (E1 E2 : Nat → Int → Int), zM zm_X11_proof [zR 0, zI v] (d, G, E) (some (zI r)) (d, G, E1) ∧ zM zm_X12_proof [zR 50, zI v] (d, G, E1) (some (zI r)) (d, G, E2) ∧ sc E E1 ∧ sc E E2 ∧ JI d G E2 s (g + 1) := by
  have hJ := h
  have up := JI_up h
  obtain ⟨hc, hm, ho, ⟨q52, q53, q54⟩, q0, _, _, _, _, sg⟩ := h
  obtain ⟨⟨M, hC⟩, e17, e18, e19, e20, e15, hI, h19, hX, hM⟩ := hc
  obtain ⟨hD, e44, e43, e45, e42, e54, hlo⟩ := hm
  have hK := hD.2.1
  by_cases h0 : sEn s = 1
  case neg =>
    exact ⟨-1, E, E, zM_e rfl (Nat.le_of_ble_eq_true rfl) (fun kz Q hQ => X11_proof_0 hX ⟨fun _ => hQ, fun y => absurd (by rw [e15]; exact h0) y⟩), zM_e rfl (Nat.le_of_ble_eq_true rfl) (fun kz Q hQ => X12_proof_0 hM ⟨fun y => absurd (by rw [← e54]; exact y) h0, fun _ => hQ⟩), sc_r, sc_r, up⟩
  obtain ⟨E1, m1, f1, j1, t1⟩ := markProof_ok (E := E) hX hC
  by_cases v0 : 0 ≤ v
  case neg =>
    obtain ⟨E2, m2, f2, j2⟩ := proofM_ok (E := E) (v := v) (T1 := fun c => E1 7 c) hM hD (by rw [e54]; exact h0) hv t1
    rw [if_neg v0] at m2
    exact ⟨-1, E, E2, zM_e rfl (Nat.le_of_ble_eq_true rfl) (fun kz Q hQ => X11_proof_0 hX ⟨fun _ => hQ, fun _ => ⟨fun y => absurd y v0, fun _ => hQ⟩⟩), m2, sc_r, sc_f f2 (by simp) (by simp), JI_sc hJ (S1 := []) fz_rfl (by simp) rfl hI h19 f2 (by simp) (fun j hj => j2 j (by omega))⟩
  have e7 : E1 5 4 = sK s := (j1 4 (by decide)).trans hC.2.2.1
  have k50 : ∀ y : Nat, 50 ≤ y → y < 200 → E1 y = E y := fun y y1 y2 => f1 y (by simp; omega)
  have m0 := MIv_k (E := E) (E' := E1) ⟨hD, e44, e43, e45, e42, e54, hlo⟩ k50
  obtain ⟨E2, m2, f2, j2⟩ := proofM_ok (E := E1) (v := v) (T1 := fun c => E1 7 c) hM m0.1 (by rw [k50 50 (by decide) (by decide), e54]; exact h0) hv t1
  rw [if_pos v0] at m2
  have lp : ∀ (m c : Nat) (a : Int), c + m = sK s → 0 ≤ a → a ≤ c → zgo zm_X11_proof 25 [(0, zR 0), (1, zI v), (2, zI a), (3, zI (c : Int))] [] (d, G, E1) (some (zI (kth (fun c => E1 7 c) v m c a))) (d, G, E1) := by
    intro m
    induction m with
    | zero => exact fun c a hc a0 a1 kz Q hQ => X11_proof_25 hX ⟨fun _ => hQ, fun y => absurd (by omega) y⟩
    | succ m ih =>
      intro c a hc a0 a1 kz Q hQ
      unfold kth at hQ
      refine X11_proof_25 hX ⟨fun y => absurd y (by omega), fun _ => ⟨⟨by omega, by omega⟩, fun y0 => ?_, fun y0 => ⟨fun y1 => ?_, fun y1 => ?_⟩⟩⟩
      · rw [if_pos y0] at hQ
        have z := ih (c + 1) a (by omega) a0 (by omega) kz Q hQ
        rw [show ((c + 1 : Nat) : Int) = (c : Int) + 1 by omega] at z
        exact ⟨zin_of (by omega) (by omega), z⟩
      · rw [if_neg y0, if_pos y1] at hQ
        have z := ih (c + 1) (a + 1) (by omega) (by omega) (by omega) kz Q hQ
        rw [show ((c + 1 : Nat) : Int) = (c : Int) + 1 by omega] at z
        exact ⟨zin_of (by omega) (by omega), zin_of (by omega) (by omega), z⟩
      · rw [if_neg y0, if_neg y1] at hQ
        exact hQ
  refine ⟨_, E1, E2, zM_e rfl (Nat.le_of_ble_eq_true rfl) (fun kz Q hQ => X11_proof_0 hX ⟨fun y => absurd (by rw [e15]; exact h0) y, fun _ => ⟨fun _ => ⟨E1, m1, lp (sK s) 0 0 (by omega) (by omega) (by omega) kz Q hQ⟩, fun y => absurd v0 y⟩⟩), m2, sc_f f1 (by simp) (by simp), sc_t (F := E1) (sc_f f1 (by simp) (by simp)) (sc_f f2 (by simp) (by simp)), JI_sc hJ f1 (by simp) (j1 4 (by decide)) ?_ ?_ f2 (by simp) (fun j hj => j2 j (by omega))⟩
  · unfold stI at *
    rw [f1 20 (by simp), f1 22 (by simp), f1 23 (by simp)]; exact hI
  · rw [f1 19 (by simp)]; exact h19
end TJ
