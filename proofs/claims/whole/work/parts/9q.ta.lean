/-! ===== reading a draft: the reference's side ===== -/
section TA
variable {d : List Nat} {G : Nat → Int → Option Nat} {E : Nat → Int → Int}
theorem reads_in (hM : zK zMt d G) (hP : pok (E 53)) (hN : E 50 0 ≤ 16 ∧ 1 ≤ E 50 0) (hS0 : E 52 0 ≠ 0) (hD : E 50 4 ≤ 200) (hl : ∀ j : Int, 0 ≤ j → j < E 50 4 → -20 ≤ E 56 j) {w : Nat} (hw : w < 6) {hh : Int} (h00 : 0 ≤ hh) : ∀ (m : Nat) (o i : Int) (F : Nat → Int → Int), hh < i → i + m = min (E 50 4) (hh + 30) → 0 ≤ o → o ≤ 3 + 2 * i → fz [50, 72, 73, 74] E F → (∀ j : Int, j ≠ 24 → F 50 j = E 50 j) → F 50 24 = w → ∃ F' : Nat → Int → Int, fz [50, 72, 73] F F' ∧ (∀ j : Int, j ≠ 24 → F' 50 j = F 50 j) ∧ (∀ j : Int, j < 30 * (w : Int) + (i - hh) → F' 72 j = F 72 j) ∧ (∀ l : Int, l ≠ w → F' 73 l = F 73 l) ∧ (0 ≤ eP (E 53) (E 52) (E 56) (E 50 0) m o i → F' 50 24 = (w : Int) + 1 ∧ F' 73 w = eP (E 53) (E 52) (E 56) (E 50 0) m o i - hh ∧ ∀ k : Int, i ≤ k → k < eP (E 53) (E 52) (E 56) (E 50 0) m o i → F' 72 (30 * (w : Int) + (k - hh)) = E 56 k) ∧ ∀ (kz : Nat × Nat) (Q : Option zV → zH → Prop), (0 ≤ eP (E 53) (E 52) (E 56) (E 50 0) m o i → Z zm_X12_reads kz Q 12 [(0, zR 50), (1, zI (eP (E 53) (E 52) (E 56) (E 50 0) m o i))] [] (d, G, F')) → (eP (E 53) (E 52) (E 56) (E 50 0) m o i < 0 → Q (some (zI 0)) (d, G, zuE F' 50 56 (-1 - eP (E 53) (E 52) (E 56) (E 50 0) m o i))) → Z zm_X12_reads kz Q 159 [(0, zR 50), (1, zI i), (3, zI (i - hh)), (4, zI o)] [] (d, G, F) := by
  have done : ∀ (m : Nat) (o i : Int) (F : Nat → Int → Int), hh < i → i + m = min (E 50 4) (hh + 30) → o ≤ 0 → F 50 24 = w → ∃ F' : Nat → Int → Int, fz [50, 72, 73] F F' ∧ (∀ j : Int, j ≠ 24 → F' 50 j = F 50 j) ∧ (∀ j : Int, j < 30 * (w : Int) + (i - hh) → F' 72 j = F 72 j) ∧ (∀ l : Int, l ≠ w → F' 73 l = F 73 l) ∧ (0 ≤ i → F' 50 24 = (w : Int) + 1 ∧ F' 73 w = i - hh ∧ ∀ k : Int, i ≤ k → k < i → F' 72 (30 * (w : Int) + (k - hh)) = E 56 k) ∧ ∀ (kz : Nat × Nat) (Q : Option zV → zH → Prop), (0 ≤ i → Z zm_X12_reads kz Q 12 [(0, zR 50), (1, zI i)] [] (d, G, F')) → (i < 0 → Q (some (zI 0)) (d, G, zuE F' 50 56 (-1 - i))) → Z zm_X12_reads kz Q 159 [(0, zR 50), (1, zI i), (3, zI (i - hh)), (4, zI o)] [] (d, G, F) := by
    intro m o i F hi hm ho h24
    let F1 := zuE F 73 w (i - hh)
    let F2 := zuE F1 50 24 ((w : Int) + 1)
    have q24 : F1 50 24 = w := (zuE_ne (by decide) _).trans h24
    refine ⟨F2, fz_put (fz_put fz_rfl (by simp)) (by simp), fun j hj => (zuE_ix hj).trans (zuE_ne (by decide) _), fun j _ => (zuE_ne (by decide) _).trans (zuE_ne (by decide) _), fun l hl => (zuE_ne (by decide) _).trans (zuE_ix hl), fun _ => ⟨zuE_same, (zuE_ne (by decide) _).trans zuE_same, fun k k1 k2 => by omega⟩, fun kz Q h1 _ => X12_reads_159 hM ⟨fun _ => ?_, fun y => absurd ho y⟩⟩
    rw [h24]
    refine ⟨⟨by omega, by omega⟩, fun H h => ?_⟩
    have eH : H = F1 := h
    rw [eH, q24]
    exact ⟨zin_of (by omega) (by omega), fun H2 h2 => by rw [h2]; exact h1 (by omega)⟩
  have stop : ∀ (i o : Int) (F : Nat → Int → Int), hh < i → (∀ (kz : Nat × Nat) (Q : Option zV → zH → Prop), Z zm_X12_reads kz Q 230 [(0, zR 50), (1, zI i), (3, zI (i - hh)), (4, zI o)] [] (d, G, F) → Z zm_X12_reads kz Q 159 [(0, zR 50), (1, zI i), (3, zI (i - hh)), (4, zI o)] [] (d, G, F)) → ∃ F' : Nat → Int → Int, fz [50, 72, 73] F F' ∧ (∀ j : Int, j ≠ 24 → F' 50 j = F 50 j) ∧ (∀ j : Int, j < 30 * (w : Int) + (i - hh) → F' 72 j = F 72 j) ∧ (∀ l : Int, l ≠ w → F' 73 l = F 73 l) ∧ (0 ≤ -1 - i → F' 50 24 = (w : Int) + 1 ∧ F' 73 w = -1 - i - hh ∧ ∀ k : Int, i ≤ k → k < -1 - i → F' 72 (30 * (w : Int) + (k - hh)) = E 56 k) ∧ ∀ (kz : Nat × Nat) (Q : Option zV → zH → Prop), (0 ≤ -1 - i → Z zm_X12_reads kz Q 12 [(0, zR 50), (1, zI (-1 - i))] [] (d, G, F')) → (-1 - i < 0 → Q (some (zI 0)) (d, G, zuE F' 50 56 (-1 - (-1 - i)))) → Z zm_X12_reads kz Q 159 [(0, zR 50), (1, zI i), (3, zI (i - hh)), (4, zI o)] [] (d, G, F) := by
    intro i o F hi hz
    refine ⟨F, fz_rfl, fun _ _ => rfl, fun _ _ => rfl, fun _ _ => rfl, fun z => by omega, fun kz Q _ h2 => hz kz Q (X12_reads_230 hM (fun H h => ?_))⟩
    have := h2 (by omega)
    rw [show -1 - (-1 - i) = i by omega] at this
    rw [h]; exact this
  intro m
  induction m with
  | zero =>
    intro o i F hi hm o0 o2 hf h5 h24
    unfold eP
    by_cases c : o ≤ 0
    · rw [if_pos c]; exact done 0 o i F hi hm c h24
    · rw [if_neg c]
      refine stop i o F hi (fun kz Q hz => X12_reads_159 hM ⟨fun y => absurd y c, fun _ => ⟨fun _ => hz, fun y => ⟨fun _ => hz, fun y2 => ?_⟩⟩⟩)
      rw [h5 4 (by decide)] at y
      omega
  | succ m ih =>
    intro o i F hi hm o0 o2 hf h5 h24
    unfold eP
    by_cases c : o ≤ 0
    · rw [if_pos c]; exact done (m + 1) o i F hi hm c h24
    rw [if_neg c]
    have f4 : F 50 4 = E 50 4 := h5 4 (by decide)
    have f0 : F 50 0 = E 50 0 := h5 0 (by decide)
    have f56 : F 56 = E 56 := hf 56 (by simp)
    have f52 : F 52 = E 52 := hf 52 (by simp)
    have f53 : F 53 = E 53 := hf 53 (by simp)
    have lw := hl i (by omega) (by omega)
    by_cases cf : fit (E 52) (E 50 0) (E 56 i)
    case neg =>
      rw [if_neg cf]
      refine stop i o F hi (fun kz Q hz => X12_reads_159 hM ⟨fun y => absurd y c, fun _ => ⟨fun _ => hz, fun y => ⟨fun _ => hz, fun y2 => ⟨⟨by omega, by omega⟩, 0, ?_, fun y => absurd rfl y, fun _ => ⟨⟨by omega, by omega⟩, by rw [f0]; exact zin_of (by omega) (by omega), ?_⟩⟩⟩⟩⟩)
      · rw [f56]; exact inN hM (fun z => cf (Or.inl (by omega)))
      · rw [f56, f0]
        by_cases c1 : 1 ≤ E 56 i ∧ E 56 i ≤ E 50 0 - 1
        · exact ⟨1, inY hM c1, fun y => absurd y (by decide), fun _ => ⟨⟨by omega, by omega⟩, ⟨by omega, by omega⟩, fun _ => hz, fun y => absurd (Or.inr ⟨by omega, by rw [f52] at y; omega⟩) cf⟩⟩
        · exact ⟨0, inN hM c1, fun _ => hz, fun y => absurd rfl y⟩
    rw [if_pos cf]
    -- to 226
    have up : ∀ (kz : Nat × Nat) (Q : Option zV → zH → Prop), Z zm_X12_reads kz Q 226 [(0, zR 50), (1, zI i), (3, zI (i - hh)), (4, zI o)] [] (d, G, F) → Z zm_X12_reads kz Q 159 [(0, zR 50), (1, zI i), (3, zI (i - hh)), (4, zI o)] [] (d, G, F) := fun kz Q hz => by
      refine X12_reads_159 hM ⟨fun y => absurd y c, fun _ => ⟨fun y => absurd (by rw [f4] at y; exact y) (by omega), fun _ => ⟨fun y => absurd y (by omega), fun _ => ⟨⟨by omega, by omega⟩, ?_⟩⟩⟩⟩
      rw [f56]
      by_cases cn : E 56 i < 0
      · exact ⟨1, inY hM ⟨lw, by omega⟩, fun _ => hz, fun y => absurd (by decide) y⟩
      · refine ⟨0, inN hM (by omega), fun y => absurd rfl y, fun _ => ⟨⟨by omega, by omega⟩, by rw [f0]; exact zin_of (by omega) (by omega), ?_⟩⟩
        rw [f0]
        have q : E 56 i < E 50 0 ∧ E 52 (E 56 i) = 0 := by
          rcases cf with a | a
          · exact absurd a cn
          · exact a
        have n0 : E 56 i ≠ 0 := fun z => by
          have := q.2
          rw [z] at this
          exact hS0 this
        exact ⟨1, inY hM ⟨by omega, by omega⟩, fun y => absurd y (by decide), fun _ => ⟨⟨by omega, by omega⟩, ⟨by omega, by omega⟩, fun y => absurd (by rw [f52]; exact q.2) y, fun _ => hz⟩⟩
    let F1 := zuE F 72 (30 * (w : Int) + (i - hh)) (E 56 i)
    have g1 : fz [50, 72, 73, 74] E F1 := fz_put hf (by simp)
    have g5 : ∀ j : Int, j ≠ 24 → F1 50 j = E 50 j := fun j hj => (zuE_ne (by decide) _).trans (h5 j hj)
    have g24 : F1 50 24 = w := (zuE_ne (by decide) _).trans h24
    have f56' : F1 56 = E 56 := g1 56 (by simp)
    have f53' : F1 53 = E 53 := g1 53 (by simp)
    have po : 0 ≤ o + (if E 56 i < 0 then (-1 : Int) else E 53 (E 56 i) - 1) ∧ o + (if E 56 i < 0 then (-1 : Int) else E 53 (E 56 i) - 1) ≤ 3 + 2 * (i + 1) := by
      by_cases cn : E 56 i < 0
      · rw [if_pos cn]; omega
      · rw [if_neg cn]
        have q : E 56 i < E 50 0 := by
          rcases cf with a | a
          · exact absurd a cn
          · exact a.1
        have := hP (E 56 i) (by omega) (by omega)
        omega
    obtain ⟨F', k1, k2, k3, k4, k5, k6⟩ := ih (o + (if E 56 i < 0 then -1 else E 53 (E 56 i) - 1)) (i + 1) F1 (by omega) (by omega) po.1 po.2 g1 g5 g24
    have rg := eP_rng (P := E 53) (S := E 52) (f := E 56) (N := E 50 0) m (o + (if E 56 i < 0 then -1 else E 53 (E 56 i) - 1)) (i + 1) (by omega)
    generalize ee : eP (E 53) (E 52) (E 56) (E 50 0) m (o + (if E 56 i < 0 then -1 else E 53 (E 56 i) - 1)) (i + 1) = e at *
    refine ⟨F', fz_trans (fz_put fz_rfl (by simp)) k1, fun j hj => (k2 j hj).trans (zuE_ne (by decide) _), fun j hj => (k3 j (by omega)).trans (zuE_ix (by omega)), fun l hl => (k4 l hl).trans (zuE_ne (by decide) _), fun z => ?_, fun kz Q h1 h2 => up kz Q ?_⟩
    · obtain ⟨a, b, c⟩ := k5 z
      refine ⟨a, b, fun k y1 y2 => ?_⟩
      by_cases ek : k = i
      · subst ek
        exact (k3 _ (by omega)).trans zuE_same
      · exact c k (by omega) y2
    · have z := k6 kz Q h1 h2
      rw [show i + 1 - hh = i - hh + 1 by omega] at z
      refine X12_reads_226 hM ⟨?_, ?_, ⟨by omega, by omega⟩, ?_, fun H h => ⟨⟨by omega, by omega⟩, fun y => ⟨⟨by omega, by omega⟩, ?_⟩, fun y => ?_⟩⟩
      · rw [h24]; exact zin_of (by omega) (by omega)
      · rw [h24]; exact zin_of (by omega) (by omega)
      · rw [h24]; exact ⟨by omega, by omega⟩
      · rw [h24, f56] at h
        have eH : H = F1 := h
        rw [eH, f56'] at y
        rw [eH, f56', f53']
        rw [if_neg (by omega)] at z
        have q : E 56 i < E 50 0 := by
          rcases cf with a | a
          · omega
          · exact a.1
        have := hP (E 56 i) (by omega) (by omega)
        exact ⟨⟨by omega, by omega⟩, zin_of (by omega) (by omega), zin_of (by omega) (by omega), zin_of (by omega) (by omega), zin_of (by omega) (by omega), z⟩
      · rw [h24, f56] at h
        have eH : H = F1 := h
        rw [eH, f56'] at y
        rw [eH]
        rw [if_pos (by omega)] at z
        exact ⟨zin_of (by omega) (by omega), zin_of (by omega) (by omega), zin_of (by omega) (by omega), z⟩
theorem reads_go (hM : zK zMt d G) (hP : pok (E 53)) (hN : E 50 0 ≤ 16 ∧ 1 ≤ E 50 0) (hS0 : E 52 0 ≠ 0) (hD : E 50 4 ≤ 200) (hl : ∀ j : Int, 0 ≤ j → j < E 50 4 → -20 ≤ E 56 j ∧ E 56 j ≤ 3000) : ∀ (m : Nat) (A : List zLt) (i : Int) (F : Nat → Int → Int), A.length + m = 7 → 0 ≤ i → fz [50, 72, 73, 74] E F → (∀ j : Int, j ≠ 24 → j ≠ 56 → F 50 j = E 50 j) → F 50 56 = -1 → rowW F A → ∃ F' : Nat → Int → Int, zgo zm_X12_reads 12 [(0, zR 50), (1, zI i)] [] (d, G, F) (some (zI (if (rD (E 53) (E 52) (E 56) (E 50 0) (E 50 4) m A i).1 = -1 then 1 else 0))) (d, G, F') ∧ fz [50, 72, 73, 74] E F' ∧ (∀ j : Int, j ≠ 24 → j ≠ 56 → F' 50 j = E 50 j) ∧ F' 50 56 = (rD (E 53) (E 52) (E 56) (E 50 0) (E 50 4) m A i).1 ∧ ((rD (E 53) (E 52) (E 56) (E 50 0) (E 50 4) m A i).1 = -1 → rowW F' (rD (E 53) (E 52) (E 56) (E 50 0) (E 50 4) m A i).2) := by
  intro m
  induction m with
  | zero =>
    intro A i F hm h0 hf h5 h56 hA
    have := hA.2.1
    omega
  | succ m ih =>
    intro A i F hm h0 hf h5 h56 hA
    have a6 := hA.2.1
    have f4 : F 50 4 = E 50 4 := h5 4 (by decide) (by decide)
    have f0 : F 50 0 = E 50 0 := h5 0 (by decide) (by decide)
    have f56 : F 56 = E 56 := hf 56 (by simp)
    have f52 : F 52 = E 52 := hf 52 (by simp)
    have f53 : F 53 = E 53 := hf 53 (by simp)
    have f24 : F 50 24 = A.length := hA.1
    unfold rD
    by_cases c1 : E 50 4 ≤ i
    · rw [if_pos c1]
      exact ⟨F, fun kz Q hQ => X12_reads_12 hM ⟨fun _ => hQ, fun y => absurd (by rw [f4]; exact c1) y⟩, hf, h5, h56, fun _ => hA⟩
    rw [if_neg c1]
    have hl1 := hl i h0 (by omega)
    have hd : ∀ (kz : Nat × Nat) (Q : Option zV → zH → Prop), Z zm_X12_reads kz Q 55 [(0, zR 50), (1, zI i)] [zI (hsy (E 56 i))] (d, G, F) → Z zm_X12_reads kz Q 12 [(0, zR 50), (1, zI i)] [] (d, G, F) := fun kz Q hz => by
      refine X12_reads_12 hM ⟨fun y => absurd (by rw [f4] at y; exact y) c1, fun _ => ⟨⟨by omega, by omega⟩, fun y => ⟨⟨by omega, by omega⟩, ?_, ?_⟩, fun y => ⟨⟨by omega, by omega⟩, ?_, ?_⟩⟩⟩
      · rw [f56]; exact zin_of (by omega) (by omega)
      · rw [f56] at y ⊢
        unfold hsy at hz
        rw [if_pos y] at hz; exact hz
      · rw [f56]; exact zin_of (by omega) (by omega)
      · rw [f56] at y ⊢
        unfold hsy at hz
        rw [if_neg y] at hz; exact hz
    let F1 := zuE F 50 56 i
    have out : (∀ (kz : Nat × Nat) (Q : Option zV → zH → Prop), (∀ E_3, E_3 = zuE F 50 56 i → Q (some (zI 0)) (d, G, E_3)) → Z zm_X12_reads kz Q 55 [(0, zR 50), (1, zI i)] [zI (hsy (E 56 i))] (d, G, F)) → ∃ F' : Nat → Int → Int, zgo zm_X12_reads 12 [(0, zR 50), (1, zI i)] [] (d, G, F) (some (zI (if (i, A).1 = -1 then 1 else 0))) (d, G, F') ∧ fz [50, 72, 73, 74] E F' ∧ (∀ j : Int, j ≠ 24 → j ≠ 56 → F' 50 j = E 50 j) ∧ F' 50 56 = (i, A).1 ∧ ((i, A).1 = -1 → rowW F' (i, A).2) := fun hz => by
      refine ⟨F1, fun kz Q hQ => hd kz Q (hz kz Q (fun H h => ?_)), fz_put hf (by simp), fun j j1 j2 => (zuE_ix j2).trans (h5 j j1 j2), zuE_same, fun z => ?_⟩
      · rw [if_neg (by show ¬ (i = -1); omega)] at hQ
        rw [h]; exact hQ
      · have z' : i = -1 := z
        omega
    by_cases cs : isS (E 52) (E 50 0) (hsy (E 56 i))
    case neg =>
      rw [if_pos (Or.inr cs)]
      refine out (fun kz Q hz => X12_reads_55 hM ⟨⟨by omega, by omega⟩, fun _ => hz, fun y => ⟨by rw [f0]; exact zin_of (by omega) (by omega), ?_⟩⟩)
      rw [f0]
      by_cases c2 : 0 ≤ hsy (E 56 i) ∧ hsy (E 56 i) ≤ E 50 0 - 1
      · refine ⟨1, inY hM c2, fun y => absurd y (by decide), fun _ => ⟨⟨by omega, by omega⟩, fun _ => hz, fun y => absurd ⟨c2.1, by omega, by rw [f52] at y; exact y⟩ cs⟩⟩
      · exact ⟨0, inN hM c2, fun _ => hz, fun y => absurd rfl y⟩
    have s0 := cs.1
    have s1 := cs.2.1
    have s2 := cs.2.2
    have hd1 : ¬ E 56 i < 1000 := fun z => by
      unfold hsy at s0
      rw [if_pos (by omega)] at s0
      omega
    by_cases c6 : A.length = 6
    · rw [if_pos (Or.inl c6)]
      refine out (fun kz Q hz => X12_reads_55 hM ⟨⟨by omega, by omega⟩, fun _ => hz, fun y => ⟨by rw [f0]; exact zin_of (by omega) (by omega), ?_⟩⟩)
      rw [f0]
      exact ⟨1, inY hM ⟨s0, by omega⟩, fun y => absurd y (by decide), fun _ => ⟨⟨by omega, by omega⟩, fun _ => hz, fun _ => ⟨fun y => absurd (by rw [f24, c6]; rfl) y, fun _ => hz⟩⟩⟩
    have nc : ¬ (A.length = 6 ∨ ¬ isS (E 52) (E 50 0) (hsy (E 56 i))) := fun z => by
      rcases z with a | a
      · exact c6 a
      · exact a cs
    rw [if_neg nc]
    -- the head is laid
    let H1 := zuE F 72 (30 * (A.length : Int)) (hsy (E 56 i))
    let H2 := zuE H1 74 (A.length : Int) (hdn (E 56 i))
    have e24 : H1 50 24 = A.length := (zuE_ne (by decide) _).trans f24
    have e24' : H2 50 24 = A.length := (zuE_ne (by decide) _).trans e24
    have e56 : H1 56 = E 56 := (zuE_nf (by decide)).trans f56
    have e53 : H2 53 = E 53 := (zuE_nf (by decide)).trans ((zuE_nf (by decide)).trans f53)
    have hz1 : ∀ (kz : Nat × Nat) (Q : Option zV → zH → Prop), Z zm_X12_reads kz Q 159 [(0, zR 50), (1, zI (i + 1)), (3, zI (i + 1 - i)), (4, zI (E 53 (hsy (E 56 i))))] [] (d, G, H2) → Z zm_X12_reads kz Q 12 [(0, zR 50), (1, zI i)] [] (d, G, F) := fun kz Q hz => hd kz Q (by
      rw [show i + 1 - i = 1 by omega] at hz
      refine X12_reads_55 hM ⟨⟨by omega, by omega⟩, fun y => absurd (by rw [f56] at y; exact y) hd1, fun _ => ⟨by rw [f0]; exact zin_of (by omega) (by omega), ?_⟩⟩
      rw [f0]
      refine ⟨1, inY hM ⟨s0, by omega⟩, fun y => absurd y (by decide), fun _ => ⟨⟨by omega, by omega⟩, fun y => absurd (by rw [f52] at y; exact y) s2, fun _ => ⟨fun _ => ?_, fun y => absurd (by rw [f24]; omega) y⟩⟩⟩
      rw [f24]
      refine ⟨zin_of (by omega) (by omega), ⟨by omega, by omega⟩, fun H h => ⟨⟨by omega, by omega⟩, fun y => ?_, fun y => ?_⟩⟩
      · have eH : H = H1 := h
        rw [eH, e56] at y
        rw [eH, e24]
        refine ⟨⟨by omega, by omega⟩, fun K k => ⟨zin_of (by omega) (by omega), ⟨by omega, by omega⟩, ?_⟩⟩
        have eK : K = H2 := by
          rw [k]
          show zuE H1 74 (A.length : Int) 0 = zuE H1 74 (A.length : Int) (hdn (E 56 i))
          unfold hdn
          rw [if_pos y]
        rw [eK, e53]; exact hz
      · have eH : H = H1 := h
        rw [eH, e56] at y
        rw [eH, e24]
        refine ⟨⟨by omega, by omega⟩, fun K k => ⟨zin_of (by omega) (by omega), ⟨by omega, by omega⟩, ?_⟩⟩
        have eK : K = H2 := by
          rw [k]
          show zuE H1 74 (A.length : Int) 1 = zuE H1 74 (A.length : Int) (hdn (E 56 i))
          unfold hdn
          rw [if_neg y]
        rw [eK, e53]; exact hz)
    have g1 : fz [50, 72, 73, 74] E H2 := fz_put (fz_put hf (by simp)) (by simp)
    have g5 : ∀ j : Int, j ≠ 24 → j ≠ 56 → H2 50 j = E 50 j := fun j j1 j2 => (zuE_ne (by decide) _).trans ((zuE_ne (by decide) _).trans (h5 j j1 j2))
    have g56 : H2 50 56 = -1 := (zuE_ne (by decide) _).trans ((zuE_ne (by decide) _).trans h56)
    have hp := hP (hsy (E 56 i)) s0 (by omega)
    -- the places behind it
    have q50 : H2 50 4 = E 50 4 := g5 4 (by decide) (by decide)
    have q0 : H2 50 0 = E 50 0 := g5 0 (by decide) (by decide)
    have q56 : H2 56 = E 56 := g1 56 (by simp)
    have q52 : H2 52 = E 52 := g1 52 (by simp)
    have RI := reads_in (E := H2) (d := d) (G := G) hM (by rw [e53]; exact hP) (by rw [q0]; exact hN) (by rw [q52]; exact hS0) (by rw [q50]; exact hD) (by rw [q50, q56]; exact fun j j0 j1 => (hl j j0 j1).1) (w := A.length) (by omega) (hh := i) h0 (min (E 50 4) (i + 30) - (i + 1)).toNat (E 53 (hsy (E 56 i))) (i + 1) H2 (by omega) (by rw [q50]; omega) hp.1 (by omega) fz_rfl (fun _ _ => rfl) e24'
    rw [e53, q52, q56, q0] at RI
    have ee : eP (E 53) (E 52) (E 56) (E 50 0) (min (E 50 4) (i + 30) - (i + 1)).toNat (E 53 (hsy (E 56 i))) (i + 1) = eD (E 53) (E 52) (E 56) (E 50 0) (E 50 4) i := rfl
    rw [ee] at RI
    have rg := eD_rng (P := E 53) (S := E 52) (f := E 56) (N := E 50 0) (D := E 50 4) h0 (by omega)
    obtain ⟨F', k1, k2, k3, k4, k5, k6⟩ := RI
    have kf : fz [50, 72, 73, 74] E F' := fz_trans g1 (fz_mono k1 (by simp))
    by_cases ce : eD (E 53) (E 52) (E 56) (E 50 0) (E 50 4) i < 0
    · rw [if_pos ce]
      have r2 := rg.2 ce
      refine ⟨zuE F' 50 56 (-1 - eD (E 53) (E 52) (E 56) (E 50 0) (E 50 4) i), fun kz Q hQ => hz1 kz Q (k6 kz Q (fun y => absurd y (by omega)) (fun _ => ?_)), fz_put kf (by simp), fun j j1 j2 => (zuE_ix j2).trans ((k2 j j1).trans (g5 j j1 j2)), zuE_same, fun z => ?_⟩
      · rw [if_neg (by show ¬ (-1 - eD (E 53) (E 52) (E 56) (E 50 0) (E 50 4) i = -1); omega)] at hQ
        exact hQ
      · have z' : -1 - eD (E 53) (E 52) (E 56) (E 50 0) (E 50 4) i = -1 := z
        omega
    rw [if_neg ce]
    obtain ⟨r1, r2, r3, _⟩ := rg.1 (by omega)
    obtain ⟨u1, u2, u3⟩ := k5 (by omega)
    generalize eD (E 53) (E 52) (E 56) (E 50 0) (E 50 4) i = en at *
    have len : (wdD (E 56) i (en - (i + 1)).toNat).length = (en - (i + 1)).toNat + 1 := wdD_len
    have rw' : rowW F' (A ++ [(hdn (E 56 i), wdD (E 56) i (en - (i + 1)).toNat)]) := by
      refine ⟨by rw [u1]; simp, by simp; omega, fun l hl => ?_⟩
      rw [List.length_append, List.length_singleton] at hl
      by_cases el : l < A.length
      · rw [lit_app_l el]
        obtain ⟨w1, w2, w3, w4, w5⟩ := hA.2.2 l el
        refine ⟨?_, ?_, w3, w4, fun k hk => ?_⟩
        · rw [k4 l (by omega)]
          exact (zuE_ne (by decide) _).trans ((zuE_ne (by decide) _).trans w1)
        · rw [k1 74 (by simp)]
          exact (zuE_ix (by omega)).trans ((zuE_ne (by decide) _).trans w2)
        · rw [k3 _ (by omega)]
          exact (zuE_ne (by decide) _).trans ((zuE_ix (by omega)).trans (w5 k hk))
      · have el2 : l = A.length := by omega
        subst el2
        rw [lit_app_r]
        refine ⟨?_, ?_, ?_, ?_, fun k hk => ?_⟩
        · rw [u2]
          show en - i = ((wdD (E 56) i (en - (i + 1)).toNat).length : Int)
          omega
        · rw [k1 74 (by simp)]
          exact zuE_same
        · show hdn (E 56 i) = 0 ∨ hdn (E 56 i) = 1
          unfold hdn
          split
          · exact Or.inl rfl
          · exact Or.inr rfl
        · show (wdD (E 56) i (en - (i + 1)).toNat).length ≤ 30
          omega
        · have hk' : k < (wdD (E 56) i (en - (i + 1)).toNat).length := hk
          rw [len] at hk'
          rw [fw_0]
          cases k with
          | zero =>
            rw [show 30 * (A.length : Int) + ((0 : Nat) : Int) = 30 * (A.length : Int) by omega, k3 _ (by omega)]
            exact (zuE_ne (by decide) _).trans zuE_same
          | succ k =>
            show F' 72 _ = (wdD (E 56) i (en - (i + 1)).toNat).getD (k + 1) 0
            rw [wdD_s (by omega)]
            have := u3 (i + 1 + (k : Int)) (by omega) (by omega)
            rw [show 30 * (A.length : Int) + (i + 1 + (k : Int) - i) = 30 * (A.length : Int) + ((k + 1 : Nat) : Int) by omega] at this
            exact this
    obtain ⟨F2, z, zf, z5, z56, zr⟩ := ih (A ++ [(hdn (E 56 i), wdD (E 56) i (en - (i + 1)).toNat)]) en F' (by simp; omega) (by omega) kf (fun j j1 j2 => (k2 j j1).trans (g5 j j1 j2)) ((k2 56 (by decide)).trans g56) rw'
    exact ⟨F2, fun kz Q hQ => hz1 kz Q (k6 kz Q (fun _ => z kz Q hQ) (fun y => absurd y ce)), zf, z5, z56, zr⟩
theorem reads_ok (hM : zK zMt d G) (hP : pok (E 53)) (hN : E 50 0 ≤ 16 ∧ 1 ≤ E 50 0) (hS0 : E 52 0 ≠ 0) (hD : E 50 4 ≤ 200) (hl : ∀ j : Int, 0 ≤ j → j < E 50 4 → -20 ≤ E 56 j ∧ E 56 j ≤ 3000) : ∃ F' : Nat → Int → Int, zM zm_X12_reads [zR 50] (d, G, E) (some (zI (if (rD (E 53) (E 52) (E 56) (E 50 0) (E 50 4) 7 [] 0).1 = -1 then 1 else 0))) (d, G, F') ∧ fz [50, 72, 73, 74] E F' ∧ (∀ j : Int, j ≠ 24 → j ≠ 56 → F' 50 j = E 50 j) ∧ F' 50 56 = (rD (E 53) (E 52) (E 56) (E 50 0) (E 50 4) 7 [] 0).1 ∧ ((rD (E 53) (E 52) (E 56) (E 50 0) (E 50 4) 7 [] 0).1 = -1 → rowW F' (rD (E 53) (E 52) (E 56) (E 50 0) (E 50 4) 7 [] 0).2) := by
  obtain ⟨F', z, zf, z5, z56, zr⟩ := reads_go (E := E) hM hP hN hS0 hD hl 7 [] 0 (zuE (zuE E 50 24 0) 50 56 (-1)) rfl (by omega) (fz_put (fz_put fz_rfl (by simp)) (by simp)) (fun j j1 j2 => (zuE_ix j2).trans (zuE_ix j1)) zuE_same ⟨(zuE_ix (by decide)).trans zuE_same, by simp, fun l hl => by simp at hl⟩
  exact ⟨F', zM_go rfl (Nat.le_of_ble_eq_true rfl) (fun kz Q hQ => X12_reads_0 hM (fun H1 h1 H2 h2 => by rw [h2, h1]; exact z kz Q hQ)), zf, z5, z56, zr⟩
end TA
