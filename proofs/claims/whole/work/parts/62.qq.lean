/-! ===== claims, whole; a step's end: the reference ===== -/
def MD (E : Nat → Int → Int) (P W : Int → Int) (c : Nat) (B : List zLt) (s a : Int) (nm tt : List Int) (S : List zLt) : Prop :=
  rwM E c B ∧ rok P W B ∧ E 62 c = s ∧ E 63 c = a ∧ nm.length = 7 ∧ (∀ i : Nat, i < 7 → E 69 (7 * (c : Int) + i) = nm.getD i 0) ∧ 0 ≤ nm.getD 0 0 ∧ nm.getD 0 0 ≤ 4 ∧ (∃ n : Nat, tt.length = 4 * n ∧ n ≤ 8 ∧ E 70 c = n) ∧ (∀ i : Nat, i < tt.length → E 71 (32 * (c : Int) + i) = tt.getD i 0) ∧ (E 64 c = if nm.getD 0 0 = 0 then 1 else 0) ∧ (nm.getD 0 0 = 0 → E 68 c = S.length ∧ rowF E 65 66 67 (6 * (c : Int)) S ∧ gok P W S)
def MI (E : Nat → Int → Int) (P W : Int → Int) (K : Nat) (R : Nat → List zLt) (st ab : Nat → Int) (nm tt : Nat → List Int) (sr : Nat → List zLt) : Prop := E 50 6 = K ∧ K ≤ 150 ∧ ∀ c : Nat, c < K → MD E P W c (R c) (st c) (ab c) (nm c) (tt c) (sr c)
/-- the reference's arrays are the same for claim c, but for its state -/
def agr (E E' : Nat → Int → Int) (c : Nat) : Prop := (∀ i : Int, 180 * (c : Int) ≤ i → i < 180 * (c : Int) + 180 → E' 58 i = E 58 i ∧ E' 65 i = E 65 i) ∧ (∀ i : Int, 6 * (c : Int) ≤ i → i < 6 * (c : Int) + 6 → E' 59 i = E 59 i ∧ E' 60 i = E 60 i ∧ E' 66 i = E 66 i ∧ E' 67 i = E 67 i) ∧ (∀ i : Int, 7 * (c : Int) ≤ i → i < 7 * (c : Int) + 7 → E' 69 i = E 69 i) ∧ (∀ i : Int, 32 * (c : Int) ≤ i → i < 32 * (c : Int) + 32 → E' 71 i = E 71 i) ∧ E' 61 c = E 61 c ∧ E' 64 c = E 64 c ∧ E' 68 c = E 68 c ∧ E' 70 c = E 70 c
theorem agr_fz {E E' : Nat → Int → Int} {S : List Nat} {c : Nat} (hf : fz S E E') (hS : ∀ x, x ∈ S → x < 58 ∨ 71 < x ∨ x = 62 ∨ x = 63) : agr E E' c := by
  have g : ∀ x : Nat, 58 ≤ x → x ≤ 71 → x ≠ 62 → x ≠ 63 → E' x = E x := fun x h1 h2 h3 h4 => hf x (fun hm => by have := hS x hm; omega)
  refine ⟨fun i _ _ => ?_, fun i _ _ => ?_, fun i _ _ => ?_, fun i _ _ => ?_, ?_, ?_, ?_, ?_⟩
  · rw [g 58 (by omega) (by omega) (by omega) (by omega), g 65 (by omega) (by omega) (by omega) (by omega)]; exact ⟨rfl, rfl⟩
  · rw [g 59 (by omega) (by omega) (by omega) (by omega), g 60 (by omega) (by omega) (by omega) (by omega), g 66 (by omega) (by omega) (by omega) (by omega), g 67 (by omega) (by omega) (by omega) (by omega)]; exact ⟨rfl, rfl, rfl, rfl⟩
  · rw [g 69 (by omega) (by omega) (by omega) (by omega)]
  · rw [g 71 (by omega) (by omega) (by omega) (by omega)]
  · rw [g 61 (by omega) (by omega) (by omega) (by omega)]
  · rw [g 64 (by omega) (by omega) (by omega) (by omega)]
  · rw [g 68 (by omega) (by omega) (by omega) (by omega)]
  · rw [g 70 (by omega) (by omega) (by omega) (by omega)]
theorem agr_t {E E1 E2 : Nat → Int → Int} {c : Nat} (h : agr E E1 c) (h' : agr E1 E2 c) : agr E E2 c := by
  obtain ⟨a1, a2, a3, a4, a5, a6, a7, a8⟩ := h
  obtain ⟨b1, b2, b3, b4, b5, b6, b7, b8⟩ := h'
  refine ⟨fun i i1 i2 => ?_, fun i i1 i2 => ?_, fun i i1 i2 => ?_, fun i i1 i2 => ?_, b5.trans a5, b6.trans a6, b7.trans a7, b8.trans a8⟩
  · exact ⟨(b1 i i1 i2).1.trans (a1 i i1 i2).1, (b1 i i1 i2).2.trans (a1 i i1 i2).2⟩
  · obtain ⟨x1, x2, x3, x4⟩ := a2 i i1 i2
    obtain ⟨y1, y2, y3, y4⟩ := b2 i i1 i2
    exact ⟨y1.trans x1, y2.trans x2, y3.trans x3, y4.trans x4⟩
  · exact (b3 i i1 i2).trans (a3 i i1 i2)
  · exact (b4 i i1 i2).trans (a4 i i1 i2)
theorem MD_agr {E E' : Nat → Int → Int} {P W : Int → Int} {c : Nat} {B : List zLt} {s a s' a' : Int} {nm tt : List Int} {S : List zLt} (h : MD E P W c B s a nm tt S) (g : agr E E' c) (h6 : E' 62 c = s') (h7 : E' 63 c = a') : MD E' P W c B s' a' nm tt S := by
  obtain ⟨⟨w1, w2⟩, rk, _, _, n1, n2, n3, n4, n5, n6, n7, n8⟩ := h
  obtain ⟨a1, a2, a3, a4, a5, a6, a7, a8⟩ := g
  obtain ⟨n, t1, t2, t3⟩ := n5
  refine ⟨⟨by rw [a5]; exact w1, w2.1, fun l hl => ?_⟩, rk, h6, h7, n1, fun i hi => by rw [a3 _ (by omega) (by omega)]; exact n2 i hi, n3, n4, ⟨n, t1, t2, by rw [a8]; exact t3⟩, fun i hi => by rw [a4 _ (by omega) (by omega)]; exact n6 i hi, by rw [a6]; exact n7, fun z => ?_⟩
  · have l6 := w2.1
    obtain ⟨v1, v2, v3, v4, v5⟩ := w2.2 l hl
    obtain ⟨x1, x2, _, _⟩ := a2 (6 * (c : Int) + l) (by omega) (by omega)
    exact ⟨by rw [x1]; exact v1, by rw [x2]; exact v2, v3, v4, fun k hk => by rw [(a1 _ (by omega) (by omega)).1]; exact v5 k hk⟩
  · obtain ⟨u1, u2, u3⟩ := n8 z
    refine ⟨by rw [a7]; exact u1, ⟨u2.1, fun l hl => ?_⟩, u3⟩
    have l6 := u2.1
    obtain ⟨v1, v2, v3, v4, v5⟩ := u2.2 l hl
    obtain ⟨_, _, x3, x4⟩ := a2 (6 * (c : Int) + l) (by omega) (by omega)
    exact ⟨by rw [x3]; exact v1, by rw [x4]; exact v2, v3, v4, fun k hk => by rw [(a1 _ (by omega) (by omega)).2]; exact v5 k hk⟩
theorem MI_st {E : Nat → Int → Int} {P W : Int → Int} {K : Nat} {R : Nat → List zLt} {st ab : Nat → Int} {nm tt : Nat → List Int} {sr : Nat → List zLt} (h : MI E P W K R st ab nm tt sr) : stM E P W K R := ⟨h.1, h.2.1, fun c hc => ⟨(h.2.2 c hc).1, (h.2.2 c hc).2.1⟩⟩
theorem MI_fz {E E' : Nat → Int → Int} {P W : Int → Int} {K : Nat} {R : Nat → List zLt} {st ab : Nat → Int} {nm tt : Nat → List Int} {sr : Nat → List zLt} {S : List Nat} (h : MI E P W K R st ab nm tt sr) (hf : fz S E E') (hS : ∀ x, x ∈ S → x < 58 ∨ 71 < x) (h6 : E' 50 6 = E 50 6) : MI E' P W K R st ab nm tt sr :=
  ⟨by rw [h6]; exact h.1, h.2.1, fun c hc => MD_agr (h.2.2 c hc) (agr_fz hf (fun x hx => by have := hS x hx; omega)) (by rw [hf 62 (fun hm => by have := hS _ hm; omega)]; exact (h.2.2 c hc).2.2.1) (by rw [hf 63 (fun hm => by have := hS _ hm; omega)]; exact (h.2.2 c hc).2.2.2.1)⟩
section QQ
variable {d : List Nat} {G : Nat → Int → Option Nat} {E : Nat → Int → Int}
theorem layWork_ok {K : Nat} {B : List zLt} (hM : zK zMt d G) (hK : K < 150) (hB : rowW E B) : ∃ E' : Nat → Int → Int, zM zm_X12_layWork [zR 50, zI (K : Int)] (d, G, E) none (d, G, E') ∧ fz [58, 59, 60, 61] E E' ∧ rwM E' K B ∧ (∀ c : Nat, c ≠ K → agr E E' c) ∧ ∀ i : Int, E' 58 i = E 58 i ∨ pls B (E' 58 i) := by
  have b6 := hB.2.1
  -- how far it is laid: literals below l, and k places of l
  let inv : (Nat → Int → Int) → Nat → Nat → Prop := fun F l k => fz [58, 59, 60, 61] E F ∧ F 61 K = B.length ∧ (∀ i : Int, i ≠ K → F 61 i = E 61 i) ∧ (∀ i : Int, i < 6 * (K : Int) ∨ 6 * (K : Int) + 6 ≤ i → F 59 i = E 59 i ∧ F 60 i = E 60 i) ∧ (∀ i : Int, i < 180 * (K : Int) ∨ 180 * (K : Int) + 180 ≤ i → F 58 i = E 58 i) ∧ (∀ l' : Nat, l' < l → l' < B.length → F 59 (6 * (K : Int) + l') = (lit B l').2.length ∧ F 60 (6 * (K : Int) + l') = (lit B l').1 ∧ ∀ k' : Nat, k' < (lit B l').2.length → F 58 (30 * (6 * (K : Int) + l') + k') = (lit B l').2.getD k' 0) ∧ (0 < k → F 59 (6 * (K : Int) + l) = (lit B l).2.length ∧ F 60 (6 * (K : Int) + l) = (lit B l).1) ∧ (∀ k' : Nat, k' + 1 < k → F 58 (30 * (6 * (K : Int) + l) + k') = (lit B l).2.getD k' 0) ∧ ∀ i : Int, F 58 i = E 58 i ∨ pls B (F 58 i)
  have outer : ∀ (m l : Nat) (F : Nat → Int → Int), l + m = B.length → inv F l 0 → ∃ E' : Nat → Int → Int, zgo zm_X12_layWork 12 [(0, zR 50), (1, zI (K : Int)), (2, zI (l : Int))] [] (d, G, F) none (d, G, E') ∧ inv E' B.length 0 := by
    intro m
    induction m with
    | zero =>
      intro l F hl hi
      have e : l = B.length := by omega
      subst e
      have f24 : F 50 24 = B.length := by rw [hi.1 50 (by simp)]; exact hB.1
      exact ⟨F, fun kz Q hQ => X12_layWork_12 hM ⟨fun _ => hQ, fun z => absurd (by omega) z⟩, hi⟩
    | succ m ih =>
      intro l F hl hi
      have hlB : l < B.length := by omega
      obtain ⟨w1, w2, w3, w4, w5⟩ := hB.2.2 l hlB
      have el : ((l + 1 : Nat) : Int) = (l : Int) + 1 := by omega
      have inner : ∀ (p k : Nat) (F : Nat → Int → Int), k + p = (lit B l).2.length → inv F l (k + 1) → ∃ E' : Nat → Int → Int, zgo zm_X12_layWork 56 [(0, zR 50), (1, zI (K : Int)), (2, zI (l : Int)), (3, zI (k : Int))] [] (d, G, F) none (d, G, E') ∧ inv E' B.length 0 := by
        intro p
        induction p with
        | zero =>
          intro k F hk hi
          obtain ⟨g0, g1, g2, g3, g4, g5, g6, g7, g8⟩ := hi
          have f73 : F 73 l = (lit B l).2.length := by rw [g0 73 (by simp)]; exact w1
          obtain ⟨E', z, zr⟩ := ih (l + 1) F (by omega) ⟨g0, g1, g2, g3, g4, fun l' h1 h2 => by
            rcases (by omega : l' < l ∨ l' = l) with e | e
            · exact g5 l' e h2
            · subst e
              exact ⟨(g6 (by omega)).1, (g6 (by omega)).2, fun k' hk' => g7 k' (by omega)⟩, fun z => absurd z (by omega), fun k' hk' => by omega, g8⟩
          rw [el] at z
          exact ⟨E', fun kz Q hQ => X12_layWork_56 hM ⟨⟨by omega, by omega⟩, fun _ => ⟨zin_of (by omega) (by omega), z kz Q hQ⟩, fun y => absurd (by omega) y⟩, zr⟩
        | succ p ih2 =>
          intro k F hk hi
          obtain ⟨g0, g1, g2, g3, g4, g5, g6, g7, g8⟩ := hi
          have f73 : F 73 l = (lit B l).2.length := by rw [g0 73 (by simp)]; exact w1
          have f72 : F 72 (30 * (l : Int) + k) = (lit B l).2.getD k 0 := by rw [g0 72 (by simp), w5 k (by omega), fw_0]
          obtain ⟨E', z, zr⟩ := ih2 (k + 1) (zuE F 58 (30 * (6 * (K : Int) + l) + k) ((lit B l).2.getD k 0)) (by omega) ⟨fz_put g0 (by simp), by rw [zuE_ne (by decide)]; exact g1, fun i hi => by rw [zuE_ne (by decide)]; exact g2 i hi, fun i hi => by rw [zuE_ne (by decide), zuE_ne (by decide)]; exact g3 i hi, fun i hi => by rw [zuE_ix (by omega)]; exact g4 i hi, fun l' h1 h2 => by
            obtain ⟨x1, x2, x3⟩ := g5 l' h1 h2
            have x30 := (hB.2.2 l' h2).2.2.2.1
            exact ⟨by rw [zuE_ne (by decide)]; exact x1, by rw [zuE_ne (by decide)]; exact x2, fun k' hk' => by rw [zuE_ix (by omega)]; exact x3 k' hk'⟩, fun _ => by rw [zuE_ne (by decide), zuE_ne (by decide)]; exact g6 (by omega), fun k' hk' => by
            rcases (by omega : k' = k ∨ k' + 1 < k + 1) with e | e
            · subst e; exact zuE_same
            · rw [zuE_ix (by omega)]; exact g7 k' e, fun i => by
            by_cases ci : i = 30 * (6 * (K : Int) + l) + k
            · right
              rw [ci, zuE_same, ← fw_nat]
              exact ⟨lit B l, lit_mem hlB, fw_mem (by omega)⟩
            · rw [zuE_ix ci]; exact g8 i⟩
          have ek : ((k + 1 : Nat) : Int) = (k : Int) + 1 := by omega
          rw [ek] at z
          exact ⟨E', fun kz Q hQ => X12_layWork_56 hM ⟨⟨by omega, by omega⟩, fun y => absurd y (by omega), fun _ => ⟨zin_of (by omega) (by omega), zin_of (by omega) (by omega), zin_of (by omega) (by omega), zin_of (by omega) (by omega), zin_of (by omega) (by omega), zin_of (by omega) (by omega), ⟨by omega, by omega⟩, ⟨by omega, by omega⟩, fun H h => ⟨zin_of (by omega) (by omega), by rw [h, f72]; exact z kz Q hQ⟩⟩⟩, zr⟩
      obtain ⟨g0, g1, g2, g3, g4, g5, g6, g7, g8⟩ := hi
      have f24 : F 50 24 = B.length := by rw [g0 50 (by simp)]; exact hB.1
      have f73 : F 73 l = (lit B l).2.length := by rw [g0 73 (by simp)]; exact w1
      have f74 : F 74 l = (lit B l).1 := by rw [g0 74 (by simp)]; exact w2
      obtain ⟨E', z, zr⟩ := inner (lit B l).2.length 0 (zuE (zuE F 59 (6 * (K : Int) + l) ((lit B l).2.length)) 60 (6 * (K : Int) + l) ((lit B l).1)) (by omega) ⟨fz_put (fz_put g0 (by simp)) (by simp), by rw [zuE_ne (by decide), zuE_ne (by decide)]; exact g1, fun i hi => by rw [zuE_ne (by decide), zuE_ne (by decide)]; exact g2 i hi, fun i hi => ⟨(zuE_ne (by decide) _).trans ((zuE_ix (by omega)).trans (g3 i hi).1), (zuE_ix (by omega)).trans ((zuE_ne (by decide) _).trans (g3 i hi).2)⟩, fun i hi => by rw [zuE_ne (by decide), zuE_ne (by decide)]; exact g4 i hi, fun l' h1 h2 => by
        obtain ⟨x1, x2, x3⟩ := g5 l' h1 h2
        exact ⟨(zuE_ne (by decide) _).trans ((zuE_ix (by omega)).trans x1), (zuE_ix (by omega)).trans ((zuE_ne (by decide) _).trans x2), fun k' hk' => by rw [zuE_ne (by decide), zuE_ne (by decide)]; exact x3 k' hk'⟩, fun _ => ⟨(zuE_ne (by decide) _).trans zuE_same, zuE_same⟩, fun k' hk' => by omega, fun i => by rw [zuE_ne (by decide), zuE_ne (by decide)]; exact g8 i⟩
      refine ⟨E', fun kz Q hQ => X12_layWork_12 hM ⟨fun y => absurd y (by omega), fun _ => ⟨zin_of (by omega) (by omega), zin_of (by omega) (by omega), ⟨by omega, by omega⟩, ⟨by omega, by omega⟩, fun H h => ?_⟩⟩, zr⟩
      have h74 : H 74 l = (lit B l).1 := by rw [h]; exact (zuE_ne (by decide) _).trans f74
      rw [h74]
      refine ⟨zin_of (by omega) (by omega), zin_of (by omega) (by omega), ⟨by omega, by omega⟩, ⟨by omega, by omega⟩, w3, fun H2 h2 => ?_⟩
      rw [h2, h, f73]
      exact z kz Q hQ
  obtain ⟨E', z, g0, g1, g2, g3, g4, g5, _, _, g8⟩ := outer B.length 0 (zuE E 61 K B.length) (by omega) ⟨fz_put fz_rfl (by simp), zuE_same, fun i hi => zuE_ix hi, fun i _ => by rw [zuE_ne (by decide), zuE_ne (by decide)]; exact ⟨rfl, rfl⟩, fun i _ => by rw [zuE_ne (by decide)], fun l' h1 => by omega, fun z => absurd z (by omega), fun k' hk' => by omega, fun i => Or.inl (zuE_ne (by decide) _)⟩
  refine ⟨E', zM_go rfl (Nat.le_of_ble_eq_true rfl) (fun kz Q hQ => X12_layWork_0 hM ⟨⟨by omega, by omega⟩, fun H h => by rw [h, hB.1]; exact z kz Q hQ⟩), g0, ⟨g1, b6, fun l hl => ?_⟩, fun c hc => ?_, g8⟩
  · obtain ⟨x1, x2, x3⟩ := g5 l hl hl
    obtain ⟨w1, w2, w3, w4, w5⟩ := hB.2.2 l hl
    exact ⟨x1, x2, w3, w4, fun k hk => by rw [x3 k hk, fw_0]⟩
  · have e65 : E' 65 = E 65 := g0 65 (by simp)
    have e66 : E' 66 = E 66 := g0 66 (by simp)
    have e67 : E' 67 = E 67 := g0 67 (by simp)
    refine ⟨fun i i1 i2 => ⟨g4 i (by omega), by rw [e65]⟩, fun i i1 i2 => ?_, fun i _ _ => by rw [g0 69 (by simp)], fun i _ _ => by rw [g0 71 (by simp)], g2 c (by omega), by rw [g0 64 (by simp)], by rw [g0 68 (by simp)], by rw [g0 70 (by simp)]⟩
    obtain ⟨y1, y2⟩ := g3 i (by omega)
    exact ⟨y1, y2, by rw [e66], by rw [e67]⟩
end QQ
