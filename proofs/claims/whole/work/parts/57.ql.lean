/-! ===== what is told of a claim: weight, chosen, letters, rule ===== -/
def lwt (W : Int → Int) (A : List zLt) (l : Nat) : Int := wl1 W (lit A l).2
def wtA (W : Int → Int) (A : List zLt) : Nat → Int
  | 0 => 0
  | n + 1 => wtA W A n + lwt W A n
/-- the chosen literal among the first n, and its weight -/
def chf (W : Int → Int) (A : List zLt) : Nat → Int × Int
  | 0 => (-1, 0)
  | n + 1 => if (lit A n).1 ≠ 0 ∧ (chf W A n).2 < lwt W A n then ((n : Int), lwt W A n) else chf W A n
def chs (W : Int → Int) (A : List zLt) : Int := (chf W A A.length).1
theorem lwt_b {P W : Int → Int} (hW : wok W) {A : List zLt} (h : rok P W A) {l : Nat} (hl : l < A.length) : 1 ≤ lwt W A l ∧ lwt W A l ≤ 9 * (lit A l).2.length := by
  have hp := wok1_pos (h.1 l hl)
  have ne : (lit A l).2 ≠ [] := fun e => by rw [e] at hp; simp at hp
  refine ⟨(wl_pos ne (fun v hv v0 => h.2.2 l hl v hv v0)).1, ?_⟩
  unfold lwt
  rw [← wt_wl]
  exact (wt_le hW _ (fun k hk => ((h.1 l hl).1.2 k hk).2)).2
theorem wtA_b {P W : Int → Int} (hW : wok W) {A : List zLt} (h : rok P W A) (h30 : ∀ l : Nat, l < A.length → (lit A l).2.length ≤ 30) : ∀ n : Nat, n ≤ A.length → 0 ≤ wtA W A n ∧ wtA W A n ≤ 270 * n
  | 0, _ => by simp [wtA]
  | n + 1, hn => by
    have ih := wtA_b hW h h30 n (by omega)
    have := lwt_b hW h (l := n) (by omega)
    have := h30 n (by omega)
    simp only [wtA]
    omega
theorem chf_b {P W : Int → Int} (hW : wok W) {A : List zLt} (h : rok P W A) : ∀ n : Nat, n ≤ A.length → ((chf W A n).1 = -1 ∧ (chf W A n).2 = 0 ∧ ∀ l : Nat, l < n → (lit A l).1 = 0) ∨ (0 ≤ (chf W A n).1 ∧ (chf W A n).1 < n ∧ 1 ≤ (chf W A n).2 ∧ (lit A (chf W A n).1.toNat).1 ≠ 0)
  | 0, _ => Or.inl ⟨rfl, rfl, fun l hl => by omega⟩
  | n + 1, hn => by
    have ih := chf_b hW h n (by omega)
    have hb := lwt_b hW h (l := n) (by omega)
    simp only [chf]
    split
    · rename_i c
      right
      refine ⟨by dsimp only; omega, by dsimp only; omega, hb.1, ?_⟩
      dsimp only
      have e : ((n : Int)).toNat = n := by omega
      rw [e]; exact c.1
    · rename_i c
      rcases ih with ⟨a, b, d⟩ | ⟨a, b, d⟩
      · left
        refine ⟨a, b, fun l hl => ?_⟩
        rcases (by omega : l < n ∨ l = n) with e | e
        · exact d l e
        · subst e
          rw [b] at c
          by_cases q : (lit A l).1 = 0
          · exact q
          · exact absurd ⟨q, by omega⟩ c
      · exact Or.inr ⟨a, by omega, d⟩
theorem isNl_u {A : List zLt} {n m : Int} (h : isNl A n) (h' : isNl A m) : n = m := by
  obtain ⟨a1, a2, a3⟩ := h
  obtain ⟨b1, b2, b3⟩ := h'
  have x1 : n ≤ m := by
    rcases a2 with z | z
    · omega
    · have := b1 _ z; omega
  have x2 : m ≤ n := by
    rcases b2 with z | z
    · omega
    · have := a1 _ z; omega
  omega
section QL
variable {d : List Nat} {G : Nat → Int → Option Nat} {E : Nat → Int → Int}
theorem fill_ok2 {c : Nat} {B : List zLt} {v : Int} (hX : zK zXt d G) (hc : zCk d G (qn c)) (hW : wok (E 4)) (hB : rowC E 10 B) (rB : rok (E 3) (E 4) B) :
    ∃ E' : Nat → Int → Int, zM zm_X1_fill [zR (qn c), zR 10, zI v, zR 18] (d, G, E) none (d, G, E') ∧ fz [qn c, qn c + 1, qn c + 2, qn c + 3, qn c + 4] E E' ∧ rowC E' (qn c + 1) B ∧ E' (qn c + 1) 4 = E 10 4 ∧ E' (qn c) 10 = v ∧ E' (qn c) 6 = 0 ∧ E' (qn c) 7 = -1 ∧ E' (qn c) 8 = wtA (E 4) B B.length ∧ E' (qn c) 9 = chs (E 4) B ∧ ∀ i : Int, i ≠ 6 → i ≠ 7 → i ≠ 8 → i ≠ 9 → i ≠ 10 → E' (qn c) i = E (qn c) i := by
  have q0 : 200 ≤ qn c := by unfold qn; omega
  have b6 := hB.2.1
  have h30 : ∀ l : Nat, l < B.length → (lit B l).2.length ≤ 30 := fun l hl => (hB.2.2.2 l hl).2.2.1
  obtain ⟨E1, m1, r1, f1, k1⟩ := copy_ok (E := E) (r := qn c + 1) (s := 10) (A := B) hX hc.2.2.1 (zXr10 hX) (Or.inr (by omega)) hB
  let E5 := zuE (zuE (zuE (zuE (zuE E1 (qn c) 10 v) (qn c) 6 0) (qn c) 7 (-1)) (qn c) 9 (-1)) (qn c) 8 0
  have n5 : ∀ y : Nat, y ≠ qn c → E5 y = E1 y := fun y hy => (zuE_nf hy).trans ((zuE_nf hy).trans ((zuE_nf hy).trans ((zuE_nf hy).trans (zuE_nf hy))))
  have loop : ∀ (m i : Nat) (F : Nat → Int → Int), i + m = B.length → fz [qn c] E5 F → F (qn c) 8 = wtA (E 4) B i → F (qn c) 9 = (chf (E 4) B i).1 → (∀ k : Int, k ≠ 8 → k ≠ 9 → F (qn c) k = E5 (qn c) k) →
      ∃ E' : Nat → Int → Int, zgo zm_X1_fill 39 [(0, zR (qn c)), (3, zR 18), (4, zI (chf (E 4) B i).2), (5, zI (i : Int))] [] (d, G, F) none (d, G, E') ∧ fz [qn c] E5 E' ∧ E' (qn c) 8 = wtA (E 4) B B.length ∧ E' (qn c) 9 = chs (E 4) B ∧ ∀ k : Int, k ≠ 8 → k ≠ 9 → E' (qn c) k = E5 (qn c) k := by
    intro m
    induction m with
    | zero =>
      intro i F hi hf h8 h9 hk
      have e : i = B.length := by omega
      subst e
      have s3 : F (qn c + 1) 3 = B.length := by rw [hf _ (by simp), n5 _ (by omega)]; exact r1.1
      exact ⟨F, fun kz Q hQ => X1_fill_39 hX hc ⟨fun _ => hQ, fun z => absurd (by rw [s3]; omega) z⟩, hf, h8, h9, hk⟩
    | succ m ih =>
      intro i F hi hf h8 h9 hk
      have hiB : i < B.length := by omega
      have g : ∀ y : Nat, y ≠ qn c → F y = E1 y := fun y hy => (hf y (by simpa using hy)).trans (n5 y hy)
      have s3 : F (qn c + 1) 3 = B.length := by rw [g _ (by omega)]; exact r1.1
      have o1 : F (qn c + 1 + 2) i = offs B i := by rw [g _ (by omega)]; exact r1.2.2.1 i (by omega)
      have ei : ((i + 1 : Nat) : Int) = (i : Int) + 1 := by omega
      have o2 : F (qn c + 1 + 2) ((i : Int) + 1) = offs B i + (lit B i).2.length := by
        rw [g _ (by omega), ← ei]
        have := r1.2.2.1 (i + 1) (by omega)
        simp only [offs] at this
        rw [this]; omega
      obtain ⟨dn, dn2, l30, pl⟩ := r1.2.2.2 i hiB
      have ob : offs B i + (lit B i).2.length ≤ 180 := by
        have := rowC_le r1 (l := i + 1) (by omega)
        simp only [offs] at this; exact this
      have e4 : F 4 = E 4 := by rw [g 4 (by omega)]; exact f1 4 (by simp; omega)
      have lkF : lk (F (qn c + 1 + 1)) (offs B i) (fw (lit B i).2) 0 (lit B i).2.length := by
        rw [g _ (by omega)]; exact rowC_lk r1 hiB
      have wv : wt (F 4) (F (qn c + 1 + 1)) (offs B i) (lit B i).2.length = lwt (E 4) B i := by
        rw [e4, wt_congr _ (fun k hk => lkF k hk), wt_wl]; rfl
      have mw := weigh_ok (E := F) (a := qn c + 1 + 1) (n := 180) (i := (offs B i : Int)) (t := (lit B i).2.length) hX hc.2.2.1.2.2.2.2.2.1 hc.2.2.1.2.1 (by rw [e4]; exact hW) (fun k hk => by rw [lkF k hk]; exact ((rB.1 i hiB).1.2 k hk).2) (by omega) (by omega) (by omega)
      rw [wv] at mw
      have lb := lwt_b hW rB hiB
      have wb := wtA_b hW rB h30 i (by omega)
      have d3 : F (qn c + 1 + 3) i = (lit B i).1 := by rw [g _ (by omega)]; exact dn
      let F1 := zuE F (qn c) 8 (wtA (E 4) B i + lwt (E 4) B i)
      have d3' : F1 (qn c + 1 + 3) i = (lit B i).1 := (zuE_ne (by omega) _).trans d3
      have eo : ((offs B i : Int) + ((lit B i).2.length : Int)) = offs B i + (lit B i).2.length := rfl
      have pre : ∀ kz Q, (((lit B i).1 = 0 → zin ((i : Int) + 1) ∧ Z zm_X1_fill kz Q 39 [(0, zR (qn c)), (3, zR 18), (4, zI (chf (E 4) B i).2), (5, zI ((i : Int) + 1))] [] (d, G, F1)) ∧ (¬ ((lit B i).1 = 0) → (lwt (E 4) B i ≤ (chf (E 4) B i).2 → zin ((i : Int) + 1) ∧ Z zm_X1_fill kz Q 39 [(0, zR (qn c)), (3, zR 18), (4, zI (chf (E 4) B i).2), (5, zI ((i : Int) + 1))] [] (d, G, F1)) ∧ (¬ (lwt (E 4) B i ≤ (chf (E 4) B i).2) → ∀ E_15, E_15 = zuE F1 (qn c) 9 (i : Int) → zin ((i : Int) + 1) ∧ Z zm_X1_fill kz Q 39 [(0, zR (qn c)), (3, zR 18), (4, zI (lwt (E 4) B i)), (5, zI ((i : Int) + 1))] [] (d, G, E_15)))) → Z zm_X1_fill kz Q 39 [(0, zR (qn c)), (3, zR 18), (4, zI (chf (E 4) B i).2), (5, zI (i : Int))] [] (d, G, F) := fun kz Q K => by
        refine X1_fill_39 hX hc ⟨fun z => absurd z (by rw [s3]; omega), fun _ => ?_⟩
        rw [o1, o2, h8]
        refine ⟨⟨by omega, by omega⟩, zin_of (by omega) (by omega), ⟨by omega, by omega⟩, _, mw, zin_of (by omega) (by omega), fun H h => ?_⟩
        have eH : H = F1 := h
        rw [eH, d3']
        exact ⟨⟨by omega, by omega⟩, K⟩
      by_cases cc : (lit B i).1 ≠ 0 ∧ (chf (E 4) B i).2 < lwt (E 4) B i
      · have ech : chf (E 4) B (i + 1) = ((i : Int), lwt (E 4) B i) := by simp only [chf]; rw [if_pos cc]
        obtain ⟨E', z, zr⟩ := ih (i + 1) (zuE F1 (qn c) 9 i) (by omega) (fz_put (fz_put hf (by simp)) (by simp)) (by rw [zuE_ix (by decide)]; exact zuE_same) (by rw [ech]; exact zuE_same) (fun k k1 k2 => by rw [zuE_ix k2]; exact (zuE_ix k1).trans (hk k k1 k2))
        rw [ei, ech] at z
        exact ⟨E', fun kz Q hQ => pre kz Q ⟨fun y => absurd y cc.1, fun _ => ⟨fun y => absurd y (by omega), fun _ => fun H h => ⟨zin_of (by omega) (by omega), by rw [h]; exact z kz Q hQ⟩⟩⟩, zr⟩
      · have ech : chf (E 4) B (i + 1) = chf (E 4) B i := by simp only [chf]; rw [if_neg cc]
        obtain ⟨E', z, zr⟩ := ih (i + 1) F1 (by omega) (fz_put hf (by simp)) zuE_same (by rw [ech]; exact (zuE_ix (by decide)).trans h9) (fun k k1 k2 => (zuE_ix k1).trans (hk k k1 k2))
        rw [ei, ech] at z
        exact ⟨E', fun kz Q hQ => pre kz Q ⟨fun _ => ⟨zin_of (by omega) (by omega), z kz Q hQ⟩, fun y => ⟨fun _ => ⟨zin_of (by omega) (by omega), z kz Q hQ⟩, fun y2 => absurd ⟨y, by omega⟩ cc⟩⟩, zr⟩
  obtain ⟨E', z, hf, h8, h9, hk⟩ := loop B.length 0 E5 (by omega) fz_rfl zuE_same ((zuE_ix (by decide)).trans zuE_same) (fun k _ _ => rfl)
  refine ⟨E', zM_go rfl (Nat.le_of_ble_eq_true rfl) (fun kz Q hQ => X1_fill_0 hX hc (zXr10 hX) ⟨E1, m1, fun H1 h1 H2 h2 H3 h3 H4 h4 H5 h5 => by rw [h5, h4, h3, h2, h1]; exact z kz Q hQ⟩), fun y hy => ?_, ?_, ?_, ?_, ?_, ?_, h8, h9, fun i i1 i2 i3 i4 i5 => ?_⟩
  · simp at hy
    rw [hf y (by simp; omega), n5 y (by omega)]
    exact f1 y (by simp; omega)
  · refine rowC_fz r1 (S := [qn c]) (fun y hy => ?_) (by simp) (by simp; omega) (by simp; omega) (by simp; omega)
    simp at hy
    rw [hf y (by simp; omega), n5 y (by omega)]
  · rw [hf _ (by simp), n5 _ (by omega)]; exact k1
  · rw [hk 10 (by decide) (by decide)]
    exact (zuE_ix (by decide)).trans ((zuE_ix (by decide)).trans ((zuE_ix (by decide)).trans ((zuE_ix (by decide)).trans zuE_same)))
  · rw [hk 6 (by decide) (by decide)]
    exact (zuE_ix (by decide)).trans ((zuE_ix (by decide)).trans ((zuE_ix (by decide)).trans zuE_same))
  · rw [hk 7 (by decide) (by decide)]
    exact (zuE_ix (by decide)).trans ((zuE_ix (by decide)).trans zuE_same)
  · rw [hk i i3 i4]
    refine (zuE_ix i3).trans ((zuE_ix i4).trans ((zuE_ix i2).trans ((zuE_ix i1).trans ((zuE_ix i5).trans ?_))))
    rw [f1 _ (by simp; omega)]
theorem tellRule_ok {c : Nat} {B : List zLt} (hX : zK zXt d G) (hc : zCk d G (qn c)) (hP : pok (E 3)) (hW : wok (E 4)) (h2 : E 3 0 = 2) (h19 : ∀ L : Int, 0 ≤ L → L < 40 → E 19 L = 0) (hB : rowC E (qn c + 1) B) (rB : rok (E 3) (E 4) B) :
    ∃ E' : Nat → Int → Int, zM zm_X1_tellRule [zR (qn c), zR 1, zR 18] (d, G, E) none (d, G, E') ∧ fz [18, 19, qn c] E E' ∧ (∀ L : Int, 0 ≤ L → L < 40 → E' 19 L = 0) ∧ (∀ i : Int, i ≠ 11 → i ≠ 12 → i ≠ 13 → E' (qn c) i = E (qn c) i) ∧ (E' (qn c) 11 = 1 ∧ ruleP B ∨ E' (qn c) 11 = 0 ∧ ¬ ruleP B) ∧ (ruleP B → E' (qn c) 12 = 1 + tl (E 3) (fw (lit B 0).2) 1) ∧ (E' (qn c) 13 = 1 ∧ srtd (E 3) (E 4) B ∨ E' (qn c) 13 = 0 ∧ ¬ srtd (E 3) (E 4) B) := by
  have q0 : 200 ≤ qn c := by unfold qn; omega
  have hrC : zRk d G (qn c + 1) := hc.2.2.1
  have h0 : ∀ l : Nat, l < B.length → 0 < (lit B l).2.length := fun l hl => wok1_pos (rB.1 l hl)
  -- no rule
  have no39 : ¬ ruleP B → ∃ E' : Nat → Int → Int, zgo zm_X1_tellRule 39 [(0, zR (qn c)), (1, zR 1), (2, zR 18)] [zR (qn c)] (d, G, E) none (d, G, E') ∧ fz [18, 19, qn c] E E' ∧ (∀ L : Int, 0 ≤ L → L < 40 → E' 19 L = 0) ∧ (∀ i : Int, i ≠ 11 → i ≠ 12 → i ≠ 13 → E' (qn c) i = E (qn c) i) ∧ (E' (qn c) 11 = 1 ∧ ruleP B ∨ E' (qn c) 11 = 0 ∧ ¬ ruleP B) ∧ (ruleP B → E' (qn c) 12 = 1 + tl (E 3) (fw (lit B 0).2) 1) ∧ (E' (qn c) 13 = 1 ∧ srtd (E 3) (E 4) B ∨ E' (qn c) 13 = 0 ∧ ¬ srtd (E 3) (E 4) B) := by
    intro nr
    let F1 := zuE E (qn c) 11 0
    let F2 := zuE F1 (qn c) 12 0
    let F3 := zuE F2 (qn c) 13 0
    have x1 : F1 (qn c) 11 = 0 := zuE_same
    have x2 : F2 (qn c) 11 = 0 := (zuE_ix (by decide)).trans x1
    refine ⟨F3, fun kz Q hQ => X1_tellRule_39 (t0 := some (qn c)) hX hc ⟨qn c, rfl, hc, fun H1 h1 => ?_⟩, fz_put (fz_put (fz_put fz_rfl (by simp)) (by simp)) (by simp), fun L a b => ?_, fun i i1 i2 i3 => ?_, Or.inr ⟨?_, nr⟩, fun z => absurd z nr, Or.inr ⟨zuE_same, fun z => nr z.1⟩⟩
    · have e1 : H1 = F1 := h1
      rw [e1]
      refine ⟨fun _ => fun H2 h2 => ?_, fun z => absurd x1 z⟩
      have e2 : H2 = F2 := h2
      rw [e2]
      exact ⟨fun _ => fun H3 h3 => by rw [h3]; exact hQ, fun z => absurd x2 z⟩
    · rw [show F3 19 = E 19 from (zuE_nf (by omega)).trans ((zuE_nf (by omega)).trans (zuE_nf (by omega)))]; exact h19 L a b
    · exact (zuE_ix i3).trans ((zuE_ix i2).trans (zuE_ix i1))
    · exact (zuE_ix (by decide)).trans x2
  by_cases hl1 : B.length = 1
  · obtain ⟨dn, dn2, l30, pl⟩ := hB.2.2.2 0 (by omega)
    have s3 : E (qn c + 1) 3 = 1 := by rw [hB.1, hl1]; rfl
    by_cases hd : (lit B 0).1 = 0
    · have dn0 : E (qn c + 1 + 3) 0 = 0 := by
        have : E (qn c + 1 + 3) ((0 : Nat) : Int) = (lit B 0).1 := dn
        simp at this
        rw [this, hd]
      obtain ⟨x, mx, hx⟩ := isEqual_ok (E := E) hX hrC hB h0 0
      have et : ((0 : Int)).toNat = 0 := rfl
      rw [et] at hx
      rcases hx with ⟨x1, x2⟩ | ⟨x1, x2⟩
      · subst x1
        have hr : ruleP B := ⟨hl1, hd, x2.2.2⟩
        obtain ⟨t, u, e1, e2, e3, e4, e5, e6, t1, t2, l1, l2, i1, i2⟩ := rule_parts hP h2 rB.1 hr
        let F1 := zuE E (qn c) 11 1
        let F2 := zuE F1 (qn c) 12 (1 + t)
        have y1 : F1 (qn c) 11 = 1 := zuE_same
        have y2 : F2 (qn c) 11 = 1 := (zuE_ix (by decide)).trans y1
        have y3 : F2 (qn c) 12 = 1 + t := zuE_same
        have g1 : ∀ y : Nat, y ≠ qn c → F1 y = E y := fun y hy => zuE_nf hy
        have g2 : ∀ y : Nat, y ≠ qn c → F2 y = E y := fun y hy => (zuE_nf hy).trans (g1 y hy)
        have rl := rowC_lk hB (l := 0) (by omega)
        have o0 : offs B 0 = 0 := rfl
        rw [o0] at rl
        have plL : lk (E (qn c + 1 + 1)) 1 (fw (lft (E 3) B)) 0 t := fun k hk => by
          have a := rl (1 + k) (by omega)
          have z1 : ((0 : Nat) : Int) + ((1 + k : Nat) : Int) = 1 + k := by omega
          have z2 : (0 : Int) + ((1 + k : Nat) : Int) = 1 + k := by omega
          rw [z1, z2] at a
          rw [a, l1 k (by omega)]
        have prL : lk (E (qn c + 1 + 1)) (1 + t) (fw (rgt (E 3) B)) 0 u := fun k hk => by
          have a := rl (1 + t + k) (by omega)
          have z1 : ((0 : Nat) : Int) + ((1 + t + k : Nat) : Int) = 1 + t + k := by omega
          have z2 : (0 : Int) + ((1 + t + k : Nat) : Int) = 1 + t + k := by omega
          rw [z1, z2] at a
          rw [a, l2 k (by omega)]
        have tL : tm (E 3) (E (qn c + 1 + 1)) 1 t := by
          unfold tw at t1; rw [e5] at t1
          exact tm_congr t1 (fun k hk => (plL k hk).symm)
        have tR : tm (E 3) (E (qn c + 1 + 1)) (1 + t) u := by
          unfold tw at t2; rw [e6] at t2
          exact tm_congr t2 (fun k hk => (prL k hk).symm)
        have ma := after_ok (E := F1) (a := qn c + 1 + 1) (n := 180) (i := 1) (t := t) hX hrC.2.2.2.2.2.1 hrC.2.1 (by rw [g1 3 (by omega)]; exact hP) (by rw [g1 3 (by omega), g1 _ (by omega)]; exact tL) (by omega) (by omega) (by omega)
        have lo := rB.2.1 0 (by omega)
        obtain ⟨rr, F3, mc, f3, s3', hrr⟩ := compare_gr (E := F2) (a := qn c + 1 + 1) (b := qn c + 1 + 1) (n := 180) (m := 180) (N := 1000) (i := 1) (j := 1 + t) (t := t) (u := u) hX hrC.2.2.2.2.2.1 hrC.2.1 hrC.2.2.2.2.2.1 hrC.2.1 (by rw [g2 3 (by omega)]; exact hP) (by rw [g2 4 (by omega)]; exact hW) (by omega) (by omega) (by omega) (by omega) (by omega) (by omega) (by omega) (by omega) (fun L a b => by rw [g2 19 (by omega)]; exact h19 L a b) (by rw [g2 3 (by omega), g2 _ (by omega)]; exact tL) (by rw [g2 3 (by omega), g2 _ (by omega)]; exact tR) (by omega) (by omega) (by omega) (by omega) (fun k hk => by
          rw [g2 _ (by omega), plL k hk, fw_0, ← fw_nat]
          have := lo _ (i1 _ (fw_mem (show k < (lft (E 3) B).length by omega))); omega) (fun k hk => by
          rw [g2 _ (by omega), prL k hk, fw_0, ← fw_nat]
          have := lo _ (i2 _ (fw_mem (show k < (rgt (E 3) B).length by omega))); omega)
        rw [g2 3 (by omega), g2 4 (by omega), g2 (qn c + 1 + 1) (by omega), kg_iff hP tL tR plL prL] at hrr
        have q3 : ∀ i : Int, F3 (qn c) i = F2 (qn c) i := fun i => by rw [f3 _ (by simp; omega)]
        have pre : ∀ kz Q, ((rr ≠ 1 → ∀ E_31, E_31 = zuE F3 (qn c) 13 0 → Q none (d, G, E_31)) ∧ (¬ (rr ≠ 1) → ∀ E_32, E_32 = zuE F3 (qn c) 13 1 → Q none (d, G, E_32))) → Z zm_X1_tellRule kz Q 0 [(0, zR (qn c)), (1, zR 1), (2, zR 18)] [] (d, G, E) := fun kz Q K => by
          refine X1_tellRule_0 hX hc ⟨fun z => absurd s3 z, fun _ => ⟨⟨by omega, by omega⟩, fun z => absurd dn0 z, fun _ => ⟨1, mx, fun z => absurd z (by omega), fun _ => fun H1 h1 => ?_⟩⟩⟩
          have e1' : H1 = F1 := h1
          rw [e1']
          refine ⟨fun z => absurd z (by rw [y1]; omega), fun _ => ⟨_, ma, fun H2 h2' => ?_⟩⟩
          have e2' : H2 = F2 := h2'
          rw [e2']
          refine ⟨fun z => absurd z (by rw [y2]; omega), fun _ => ?_⟩
          rw [y3]
          exact ⟨rr, F3, mc, K⟩
        have sq : srtd (E 3) (E 4) B ↔ rr = 1 := ⟨fun z => hrr.2 z.2, fun z => ⟨hr, hrr.1 z⟩⟩
        have fzq : ∀ v : Int, fz [18, 19, qn c] E (zuE F3 (qn c) 13 v) := fun v => fz_put (fz_trans (fz_put (fz_put fz_rfl (by simp)) (by simp)) (fz_mono f3 (by simp))) (by simp)
        have restq : ∀ v : Int, (∀ L : Int, 0 ≤ L → L < 40 → (zuE F3 (qn c) 13 v) 19 L = 0) ∧ (∀ i : Int, i ≠ 11 → i ≠ 12 → i ≠ 13 → (zuE F3 (qn c) 13 v) (qn c) i = E (qn c) i) ∧ (zuE F3 (qn c) 13 v) (qn c) 11 = 1 ∧ (zuE F3 (qn c) 13 v) (qn c) 12 = 1 + t := fun v => by
          refine ⟨fun L a b => ?_, fun i i1 i2 i3 => ?_, ?_, ?_⟩
          · rw [show (zuE F3 (qn c) 13 v) 19 = F3 19 from zuE_nf (by omega)]; exact s3' L a b
          · rw [zuE_ix i3, q3]; exact (zuE_ix i2).trans (zuE_ix i1)
          · rw [zuE_ix (by decide), q3]; exact y2
          · rw [zuE_ix (by decide), q3]; exact y3
        by_cases hk : rr = 1
        · obtain ⟨w1, w2, w3, w4⟩ := restq 1
          exact ⟨zuE F3 (qn c) 13 1, zM_go rfl (Nat.le_of_ble_eq_true rfl) (fun kz Q hQ => pre kz Q ⟨fun z => absurd hk z, fun _ => fun H h => by rw [h]; exact hQ⟩), fzq 1, w1, w2, Or.inl ⟨w3, hr⟩, fun _ => by rw [w4, e4], Or.inl ⟨zuE_same, sq.2 hk⟩⟩
        · obtain ⟨w1, w2, w3, w4⟩ := restq 0
          exact ⟨zuE F3 (qn c) 13 0, zM_go rfl (Nat.le_of_ble_eq_true rfl) (fun kz Q hQ => pre kz Q ⟨fun _ => fun H h => by rw [h]; exact hQ, fun z => absurd hk z⟩), fzq 0, w1, w2, Or.inl ⟨w3, hr⟩, fun _ => by rw [w4, e4], Or.inr ⟨zuE_same, fun z => hk (sq.1 z)⟩⟩
      · subst x1
        obtain ⟨E', z, zr⟩ := no39 (fun q => x2 ⟨by omega, by omega, q.2.2⟩)
        exact ⟨E', zM_go rfl (Nat.le_of_ble_eq_true rfl) (fun kz Q hQ => X1_tellRule_0 hX hc ⟨fun z => absurd s3 z, fun _ => ⟨⟨by omega, by omega⟩, fun z => absurd dn0 z, fun _ => ⟨0, mx, fun _ => z kz Q hQ, fun z => absurd rfl z⟩⟩⟩), zr⟩
    · have dn0 : E (qn c + 1 + 3) 0 ≠ 0 := by
        have : E (qn c + 1 + 3) ((0 : Nat) : Int) = (lit B 0).1 := dn
        simp at this
        rw [this]; exact hd
      obtain ⟨E', z, zr⟩ := no39 (fun q => hd q.2.1)
      exact ⟨E', zM_go rfl (Nat.le_of_ble_eq_true rfl) (fun kz Q hQ => X1_tellRule_0 hX hc ⟨fun z => absurd s3 z, fun _ => ⟨⟨by omega, by omega⟩, fun _ => z kz Q hQ, fun z => absurd dn0 z⟩⟩), zr⟩
  · have s3 : E (qn c + 1) 3 ≠ 1 := by rw [hB.1]; omega
    obtain ⟨E', z, zr⟩ := no39 (fun q => hl1 q.1)
    exact ⟨E', zM_go rfl (Nat.le_of_ble_eq_true rfl) (fun kz Q hQ => X1_tellRule_0 hX hc ⟨fun _ => z kz Q hQ, fun z => absurd s3 z⟩), zr⟩
/-! the same, asked of the reference -/
theorem lwtM {K c : Nat} {R : Nat → List zLt} {l : Nat} (hM : zK zMt d G) (hs : stM E (E 53) (E 54) K R) (hc : c < K) (hl : l < (R c).length) (hW : wok (E 54)) : zM zm_X12_weightOf [zR 50, zR 58, zI (30 * (6 * (c : Int) + l)), zI (30 * (6 * (c : Int) + l) + E 59 (6 * (c : Int) + l))] (d, G, E) (some (zI (lwt (E 54) (R c) l))) (d, G, E) := by
  have h150 := hs.2.1
  obtain ⟨⟨h61, hF⟩, rk⟩ := hs.2.2 c hc
  have r6 := hF.1
  obtain ⟨b1, b2, b3, b4, b5⟩ := hF.2 l hl
  have wv : wt (E 54) (E 58) (30 * (6 * (c : Int) + l)) (lit (R c) l).2.length = lwt (E 54) (R c) l := by
    rw [wt_congr _ (fun k hk => b5 k hk), wt_wl]; rfl
  have := weightOf_ok (E := E) (a := 58) (n := 27000) (i := 30 * (6 * (c : Int) + l)) (t := (lit (R c) l).2.length) hM (zM_7 hM).2.2 rfl hW (fun k hk => by rw [b5 k hk]; exact ((rk.1 l hl).1.2 k hk).2) (by omega) (by omega) (by omega)
  rw [wv] at this
  rw [b1]; exact this
theorem weightOfClaim_ok {K c : Nat} {R : Nat → List zLt} (hM : zK zMt d G) (hs : stM E (E 53) (E 54) K R) (hc : c < K) (hW : wok (E 54)) : zM zm_X12_weightOfClaim [zR 50, zI (c : Int)] (d, G, E) (some (zI (wtA (E 54) (R c) (R c).length))) (d, G, E) := by
  have h150 := hs.2.1
  obtain ⟨⟨h61, hF⟩, rk⟩ := hs.2.2 c hc
  have r6 := hF.1
  have h30 : ∀ l : Nat, l < (R c).length → (lit (R c) l).2.length ≤ 30 := fun l hl => (hF.2 l hl).2.2.2.1
  have loop : ∀ (m l : Nat), l + m = (R c).length → zgo zm_X12_weightOfClaim 4 [(0, zR 50), (1, zI (c : Int)), (2, zI (wtA (E 54) (R c) l)), (3, zI (l : Int))] [] (d, G, E) (some (zI (wtA (E 54) (R c) (R c).length))) (d, G, E) := by
    intro m
    induction m with
    | zero =>
      intro l hl kz Q hQ
      have e : l = (R c).length := by omega
      rw [e]
      exact X12_weightOfClaim_4 hM ⟨⟨by omega, by omega⟩, fun _ => hQ, fun z => absurd (by omega) z⟩
    | succ m ih =>
      intro l hl kz Q hQ
      have mw := lwtM (E := E) (l := l) hM hs hc (by omega) hW
      have el : ((l + 1 : Nat) : Int) = (l : Int) + 1 := by omega
      have z := ih (l + 1) (by omega) kz Q hQ
      rw [el] at z
      have b1 := (hF.2 l (by omega)).1
      have b4 := h30 l (by omega)
      have lb := lwt_b hW rk (l := l) (by omega)
      have wb := wtA_b hW rk h30 l (by omega)
      exact X12_weightOfClaim_4 hM ⟨⟨by omega, by omega⟩, fun y => absurd y (by omega), fun _ => ⟨zin_of (by omega) (by omega), zin_of (by omega) (by omega), zin_of (by omega) (by omega), zin_of (by omega) (by omega), zin_of (by omega) (by omega), ⟨by omega, by omega⟩, by rw [b1]; exact zin_of (by omega) (by omega), _, mw, zin_of (by omega) (by omega), zin_of (by omega) (by omega), z⟩⟩
  exact zM_go rfl (Nat.le_of_ble_eq_true rfl) (fun kz Q hQ => X12_weightOfClaim_0 hM (loop (R c).length 0 (by omega) kz Q hQ))
theorem chosenOf_ok {K c : Nat} {R : Nat → List zLt} (hM : zK zMt d G) (hs : stM E (E 53) (E 54) K R) (hc : c < K) (hW : wok (E 54)) : zM zm_X12_chosenOf [zR 50, zI (c : Int)] (d, G, E) (some (zI (chs (E 54) (R c)))) (d, G, E) := by
  have h150 := hs.2.1
  obtain ⟨⟨h61, hF⟩, rk⟩ := hs.2.2 c hc
  have r6 := hF.1
  have h30 : ∀ l : Nat, l < (R c).length → (lit (R c) l).2.length ≤ 30 := fun l hl => (hF.2 l hl).2.2.2.1
  have loop : ∀ (m l : Nat), l + m = (R c).length → zgo zm_X12_chosenOf 7 [(0, zR 50), (1, zI (c : Int)), (2, zI (chf (E 54) (R c) l).1), (3, zI (chf (E 54) (R c) l).2), (4, zI (l : Int))] [] (d, G, E) (some (zI (chs (E 54) (R c)))) (d, G, E) := by
    intro m
    induction m with
    | zero =>
      intro l hl kz Q hQ
      have e : l = (R c).length := by omega
      subst e
      exact X12_chosenOf_7 hM ⟨⟨by omega, by omega⟩, fun _ => hQ, fun z => absurd (by omega) z⟩
    | succ m ih =>
      intro l hl kz Q hQ
      have hlR : l < (R c).length := by omega
      have mw := lwtM (E := E) (l := l) hM hs hc hlR hW
      have el : ((l + 1 : Nat) : Int) = (l : Int) + 1 := by omega
      have z := ih (l + 1) (by omega) kz Q hQ
      rw [el] at z
      obtain ⟨b1, b2, b3, b4, b5⟩ := hF.2 l hlR
      have lb := lwt_b hW rk hlR
      have cb := chf_b hW rk l (by omega)
      by_cases cc : (lit (R c) l).1 ≠ 0 ∧ (chf (E 54) (R c) l).2 < lwt (E 54) (R c) l
      · have ech : chf (E 54) (R c) (l + 1) = ((l : Int), lwt (E 54) (R c) l) := by simp only [chf]; rw [if_pos cc]
        rw [ech] at z
        refine X12_chosenOf_7 hM ⟨⟨by omega, by omega⟩, fun y => absurd y (by omega), fun _ => ⟨zin_of (by omega) (by omega), zin_of (by omega) (by omega), zin_of (by omega) (by omega), zin_of (by omega) (by omega), zin_of (by omega) (by omega), ⟨by omega, by omega⟩, by rw [b1]; exact zin_of (by omega) (by omega), _, mw, zin_of (by omega) (by omega), zin_of (by omega) (by omega), ⟨by omega, by omega⟩, fun y => absurd (by rw [b2] at y; exact y) cc.1, fun _ => ⟨fun _ => ⟨zin_of (by omega) (by omega), z⟩, fun _ => ⟨fun y => absurd y (by omega), fun _ => ⟨zin_of (by omega) (by omega), z⟩⟩⟩⟩⟩
      · have ech : chf (E 54) (R c) (l + 1) = chf (E 54) (R c) l := by simp only [chf]; rw [if_neg cc]
        rw [ech] at z
        refine X12_chosenOf_7 hM ⟨⟨by omega, by omega⟩, fun y => absurd y (by omega), fun _ => ⟨zin_of (by omega) (by omega), zin_of (by omega) (by omega), zin_of (by omega) (by omega), zin_of (by omega) (by omega), zin_of (by omega) (by omega), ⟨by omega, by omega⟩, by rw [b1]; exact zin_of (by omega) (by omega), _, mw, zin_of (by omega) (by omega), zin_of (by omega) (by omega), ⟨by omega, by omega⟩, fun _ => ⟨zin_of (by omega) (by omega), z⟩, fun y => ⟨fun y2 => ?_, fun _ => ⟨fun _ => ⟨zin_of (by omega) (by omega), z⟩, fun y2 => absurd ⟨by rw [b2] at y; exact y, by omega⟩ cc⟩⟩⟩⟩
        exfalso
        rcases cb with w | w
        · exact cc ⟨by rw [b2] at y; exact y, by omega⟩
        · omega
  exact zM_go rfl (Nat.le_of_ble_eq_true rfl) (fun kz Q hQ => X12_chosenOf_0 hM (loop (R c).length 0 (by omega) kz Q hQ))
theorem lettersOf_ok {K c : Nat} {R : Nat → List zLt} {n : Int} (hM : zK zMt d G) (hs : stM E (E 53) (E 54) K R) (hc : c < K) (hn : isNl (R c) n) : zM zm_X12_lettersOf [zR 50, zI (c : Int)] (d, G, E) (some (zI n)) (d, G, E) := by
  have h150 := hs.2.1
  obtain ⟨⟨h61, hF⟩, rk⟩ := hs.2.2 c hc
  have r6 := hF.1
  -- v: the most so far
  have outer : ∀ (m l : Nat) (v : Int), l + m = (R c).length → 0 ≤ v → v ≤ n → (∀ l' : Nat, l' < l → ∀ x, x ∈ (lit (R c) l').2 → -v ≤ x) → zgo zm_X12_lettersOf 4 [(0, zR 50), (1, zI (c : Int)), (2, zI v), (3, zI (l : Int))] [] (d, G, E) (some (zI n)) (d, G, E) := by
    intro m
    induction m with
    | zero =>
      intro l v hl v0 vn hv kz Q hQ
      have e : v = n := by
        refine isNl_u ⟨fun x hx => ?_, ?_, v0⟩ hn
        · obtain ⟨y, y1, y2⟩ := hx
          obtain ⟨l', l1, l2⟩ := mem_lit y1
          subst l2
          exact hv l' (by omega) x y2
        · rcases hn.2.1 with z | z
          · left; omega
          · obtain ⟨y, y1, y2⟩ := z
            obtain ⟨l', l1, l2⟩ := mem_lit y1
            subst l2
            have := hv l' (by omega) _ y2
            have : v = n := by omega
            right
            rw [this]
            exact ⟨_, y1, y2⟩
      rw [e]
      exact X12_lettersOf_4 hM ⟨⟨by omega, by omega⟩, fun _ => hQ, fun z => absurd (by omega) z⟩
    | succ m ih =>
      intro l v hl v0 vn hv kz Q hQ
      have hlR : l < (R c).length := by omega
      obtain ⟨b1, b2, b3, b4, b5⟩ := hF.2 l hlR
      have el : ((l + 1 : Nat) : Int) = (l : Int) + 1 := by omega
      have inner : ∀ (q k : Nat) (v : Int), k + q = (lit (R c) l).2.length → 0 ≤ v → v ≤ n → (∀ l' : Nat, l' < l → ∀ x, x ∈ (lit (R c) l').2 → -v ≤ x) → (∀ i : Nat, i < k → -v ≤ fw (lit (R c) l).2 i) → Z zm_X12_lettersOf kz Q 29 [(0, zR 50), (1, zI (c : Int)), (2, zI v), (3, zI (l : Int)), (4, zI (30 * (6 * (c : Int) + l))), (5, zI (30 * (6 * (c : Int) + l) + k))] [] (d, G, E) := by
        intro q
        induction q with
        | zero =>
          intro k v hk v0 vn hv hi
          have z := ih (l + 1) v (by omega) v0 vn (fun l' hl' x hx => by
            rcases (by omega : l' < l ∨ l' = l) with e | e
            · exact hv l' e x hx
            · subst e
              obtain ⟨i, i1, i2⟩ := mem_fw hx
              subst i2
              exact hi i (by omega)) kz Q hQ
          rw [el] at z
          exact X12_lettersOf_29 hM ⟨zin_of (by omega) (by omega), zin_of (by omega) (by omega), ⟨by omega, by omega⟩, by rw [b1]; exact zin_of (by omega) (by omega), fun _ => ⟨zin_of (by omega) (by omega), z⟩, fun y => absurd (by rw [b1]; omega) y⟩
        | succ q ih2 =>
          intro k v hk v0 vn hv hi
          have pv : E 58 (30 * (6 * (c : Int) + l) + k) = fw (lit (R c) l).2 k := by rw [b5 k (by omega), fw_0, fw_nat]
          have lo := hn.1 _ ⟨_, lit_mem hlR, fw_mem (show k < (lit (R c) l).2.length by omega)⟩
          have up := ((rk.1 l hlR).1.2 k (by omega)).2
          rw [fw_0, ← fw_nat] at up
          have lo2 := rk.2.1 l hlR _ (fw_mem (show k < (lit (R c) l).2.length by omega))
          have ek : 30 * (6 * (c : Int) + l) + ((k + 1 : Nat) : Int) = 30 * (6 * (c : Int) + l) + k + 1 := by omega
          by_cases cc : -fw (lit (R c) l).2 k ≤ v
          · have z := ih2 (k + 1) v (by omega) v0 vn hv (fun i hi' => by
              rcases (by omega : i < k ∨ i = k) with e | e
              · exact hi i e
              · subst e; omega)
            rw [ek] at z
            refine X12_lettersOf_29 hM ⟨zin_of (by omega) (by omega), zin_of (by omega) (by omega), ⟨by omega, by omega⟩, by rw [b1]; exact zin_of (by omega) (by omega), fun y => absurd y (by rw [b1]; omega), fun _ => ?_⟩
            rw [pv]
            exact ⟨⟨by omega, by omega⟩, zin_of (by omega) (by omega), fun _ => ⟨zin_of (by omega) (by omega), z⟩, fun y => absurd cc y⟩
          · have z := ih2 (k + 1) (-fw (lit (R c) l).2 k) (by omega) (by omega) (by omega) (fun l' hl' x hx => by have := hv l' hl' x hx; omega) (fun i hi' => by
              rcases (by omega : i < k ∨ i = k) with e | e
              · have := hi i e; omega
              · subst e; omega)
            rw [ek] at z
            refine X12_lettersOf_29 hM ⟨zin_of (by omega) (by omega), zin_of (by omega) (by omega), ⟨by omega, by omega⟩, by rw [b1]; exact zin_of (by omega) (by omega), fun y => absurd y (by rw [b1]; omega), fun _ => ?_⟩
            rw [pv]
            exact ⟨⟨by omega, by omega⟩, zin_of (by omega) (by omega), fun y => absurd y cc, fun _ => ⟨⟨by omega, by omega⟩, zin_of (by omega) (by omega), zin_of (by omega) (by omega), z⟩⟩
      have z := inner (lit (R c) l).2.length 0 v (by omega) v0 vn hv (fun i hi => by omega)
      have e0 : 30 * (6 * (c : Int) + l) + ((0 : Nat) : Int) = 30 * (6 * (c : Int) + l) := by omega
      rw [e0] at z
      exact X12_lettersOf_4 hM ⟨⟨by omega, by omega⟩, fun y => absurd y (by omega), fun _ => ⟨zin_of (by omega) (by omega), zin_of (by omega) (by omega), zin_of (by omega) (by omega), z⟩⟩
  exact zM_go rfl (Nat.le_of_ble_eq_true rfl) (fun kz Q hQ => X12_lettersOf_0 hM (outer (R c).length 0 0 (by omega) (by omega) hn.2.2 (fun l' hl' => by omega) kz Q hQ))
end QL
