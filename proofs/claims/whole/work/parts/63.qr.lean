/-! ===== a step's end: the reference, whole ===== -/
section QR
variable {d : List Nat} {G : Nat → Int → Option Nat} {E : Nat → Int → Int}
/-- the new claim puts others away -/
theorem ends_248 {K : Nat} {R : Nat → List zLt} {st ab : Nat → Int} {nm tt : Nat → List Int} {sr : Nat → List zLt} {B : List zLt} {stK abK : Int} {nmK ttK : List Int} {srK : List zLt} (hM : zK zMt d G) (hK : K < 150) (hP : pok (E 53)) (hold : ∀ c : Nat, c < K → MD E (E 53) (E 54) c (R c) (st c) (ab c) (nm c) (tt c) (sr c)) (hnew : MD E (E 53) (E 54) K B stK abK nmK ttK srK) (h6 : E 50 6 = ((K + 1 : Nat) : Int)) (h24 : E 50 24 = B.length) :
    ∃ E' : Nat → Int → Int, zgo zm_X12_ends 248 [(0, zR 50), (8, zI (K : Int)), (9, zI 0)] [] (d, G, E) (some (zI (K : Int))) (d, G, E') ∧ fz [50, 62, 63, 80, 81, 82, 83, 84] E E' ∧ (∀ i : Int, i ≠ 54 → E' 50 i = E 50 i) ∧ E' 50 54 = (if B.length = 0 then 1 else if K + 1 = 150 then 3 else E 50 54) ∧ (∀ c : Nat, c < K → E' 62 c = pst (E 53) R st B c ∧ E' 63 c = pby (E 53) R st ab B K c) ∧ E' 62 K = stK ∧ E' 63 K = abK := by
  have sM : stM E (E 53) (E 54) (K + 1) (zup R K B) := by
    refine ⟨h6, by omega, fun c hc => ?_⟩
    rcases (by omega : c < K ∨ c = K) with e | e
    · rw [zup_n (by omega)]; exact ⟨(hold c e).1, (hold c e).2.1⟩
    · subst e; rw [zup_s]; exact ⟨hnew.1, hnew.2.1⟩
  have loop : ∀ (m c : Nat) (F : Nat → Int → Int), c + m = K → fz [62, 63, 80, 81, 82, 83, 84] E F → (∀ k : Nat, k < K → (F 62 k = if k < c then pst (E 53) R st B k else st k) ∧ (F 63 k = if k < c then pby (E 53) R st ab B K k else ab k)) → F 62 K = stK → F 63 K = abK →
      ∃ E' : Nat → Int → Int, zgo zm_X12_ends 248 [(0, zR 50), (8, zI (K : Int)), (9, zI (c : Int))] [] (d, G, F) (some (zI (K : Int))) (d, G, E') ∧ fz [50, 62, 63, 80, 81, 82, 83, 84] E E' ∧ (∀ i : Int, i ≠ 54 → E' 50 i = E 50 i) ∧ E' 50 54 = (if B.length = 0 then 1 else if K + 1 = 150 then 3 else E 50 54) ∧ (∀ c : Nat, c < K → E' 62 c = pst (E 53) R st B c ∧ E' 63 c = pby (E 53) R st ab B K c) ∧ E' 62 K = stK ∧ E' 63 K = abK := by
    intro m
    induction m with
    | zero =>
      intro c F hc hf hk hK1 hK2
      have e : c = K := by omega
      subst e
      have f50 : F 50 = E 50 := hf 50 (by simp)
      have fin : ∀ v : Int, (∀ E' : Nat → Int → Int, E' = zuE F 50 54 v → fz [50, 62, 63, 80, 81, 82, 83, 84] E E' ∧ (∀ i : Int, i ≠ 54 → E' 50 i = E 50 i) ∧ E' 50 54 = v ∧ (∀ k : Nat, k < c → E' 62 k = pst (E 53) R st B k ∧ E' 63 k = pby (E 53) R st ab B c k) ∧ E' 62 c = stK ∧ E' 63 c = abK) := fun v E' h => by
        have n : ∀ x : Nat, x ≠ 50 → E' x = F x := fun x hx => by rw [h]; exact zuE_nf hx
        refine ⟨by rw [h]; exact fz_put (fz_mono hf (by simp)) (by simp), fun i hi => by rw [h, zuE_ix hi, f50], by rw [h]; exact zuE_same, fun k hk' => ?_, by rw [n 62 (by decide)]; exact hK1, by rw [n 63 (by decide)]; exact hK2⟩
        obtain ⟨a, b⟩ := hk k hk'
        rw [if_pos hk'] at a b
        rw [n 62 (by decide), n 63 (by decide)]
        exact ⟨a, b⟩
      by_cases b0 : B.length = 0
      · obtain ⟨w1, w2, w3, w4, w5, w6⟩ := fin 1 _ rfl
        refine ⟨zuE F 50 54 1, fun kz Q hQ => X12_ends_248 hM ⟨fun _ => ?_, fun z => absurd (by omega) z⟩, w1, w2, by rw [w3, if_pos b0], w4, w5, w6⟩
        rw [f50, h24, h6]
        exact ⟨fun z => absurd (by omega) z, fun _ => fun H h => by rw [h]; exact hQ⟩
      · by_cases k150 : c + 1 = 150
        · obtain ⟨w1, w2, w3, w4, w5, w6⟩ := fin 3 _ rfl
          refine ⟨zuE F 50 54 3, fun kz Q hQ => X12_ends_248 hM ⟨fun _ => ?_, fun z => absurd (by omega) z⟩, w1, w2, by rw [w3, if_neg b0, if_pos k150], w4, w5, w6⟩
          rw [f50, h24, h6]
          exact ⟨fun _ => ⟨fun z => absurd (by omega) z, fun _ => fun H h => by rw [h]; exact hQ⟩, fun z => absurd (by omega) z⟩
        · obtain ⟨w1, w2, w3, w4, w5, w6⟩ := fin (E 50 54) _ rfl
          refine ⟨zuE F 50 54 (E 50 54), fun kz Q hQ => X12_ends_248 hM ⟨fun _ => ?_, fun z => absurd (by omega) z⟩, w1, w2, by rw [w3, if_neg b0, if_neg k150], w4, w5, w6⟩
          rw [f50, h24, h6]
          exact ⟨fun _ => ⟨fun _ => fun H h => by rw [h]; exact hQ, fun z => absurd (by omega) z⟩, fun z => absurd (by omega) z⟩
    | succ m ih =>
      intro c F hc hf hk hK1 hK2
      have hcK : c < K := by omega
      have ec : ((c + 1 : Nat) : Int) = (c : Int) + 1 := by omega
      obtain ⟨a62, a63⟩ := hk c hcK
      rw [if_neg (by omega)] at a62 a63
      have nx : ∀ F2 : Nat → Int → Int, fz [62, 63, 80, 81, 82, 83, 84] E F2 → (∀ i : Int, i ≠ c → F2 62 i = F 62 i ∧ F2 63 i = F 63 i) → F2 62 c = pst (E 53) R st B c → F2 63 c = pby (E 53) R st ab B K c → (∀ kz Q, Z zm_X12_ends kz Q 248 [(0, zR 50), (8, zI (K : Int)), (9, zI ((c : Int) + 1))] [] (d, G, F2) → Z zm_X12_ends kz Q 248 [(0, zR 50), (8, zI (K : Int)), (9, zI (c : Int))] [] (d, G, F)) →
          ∃ E' : Nat → Int → Int, zgo zm_X12_ends 248 [(0, zR 50), (8, zI (K : Int)), (9, zI (c : Int))] [] (d, G, F) (some (zI (K : Int))) (d, G, E') ∧ fz [50, 62, 63, 80, 81, 82, 83, 84] E E' ∧ (∀ i : Int, i ≠ 54 → E' 50 i = E 50 i) ∧ E' 50 54 = (if B.length = 0 then 1 else if K + 1 = 150 then 3 else E 50 54) ∧ (∀ c : Nat, c < K → E' 62 c = pst (E 53) R st B c ∧ E' 63 c = pby (E 53) R st ab B K c) ∧ E' 62 K = stK ∧ E' 63 K = abK := by
        intro F2 hf2 hn h62 h63 go
        obtain ⟨E', z, zr⟩ := ih (c + 1) F2 (by omega) hf2 (fun k hk' => by
          rcases (by omega : k = c ∨ k ≠ c) with e | e
          · subst e
            rw [if_pos (by omega), if_pos (by omega)]
            exact ⟨h62, h63⟩
          · obtain ⟨x, y⟩ := hn k (by omega)
            obtain ⟨b1, b2⟩ := hk k hk'
            rw [x, y]
            rcases (by omega : k < c ∨ c < k) with w | w
            · rw [if_pos w] at b1 b2
              rw [if_pos (by omega), if_pos (by omega)]
              exact ⟨b1, b2⟩
            · rw [if_neg (by omega)] at b1 b2
              rw [if_neg (by omega), if_neg (by omega)]
              exact ⟨b1, b2⟩) (by rw [(hn K (by omega)).1]; exact hK1) (by rw [(hn K (by omega)).2]; exact hK2)
        rw [ec] at z
        exact ⟨E', fun kz Q hQ => go kz Q (z kz Q hQ), zr⟩
      by_cases q : st c = 2
      · refine nx F hf (fun i _ => ⟨rfl, rfl⟩) ?_ ?_ (fun kz Q K' => X12_ends_248 hM ⟨fun z => absurd z (by omega), fun _ => ⟨⟨by omega, by omega⟩, fun _ => ⟨zin_of (by omega) (by omega), K'⟩, fun z => absurd (by rw [a62]; exact q) z⟩⟩)
        · unfold pst; rw [if_neg (fun z => z.1 q)]; exact a62
        · unfold pby; rw [if_neg (fun z => z.1 q)]; exact a63
      · have e3 : F 53 = E 53 := hf 53 (by simp)
        have e4 : F 54 = E 54 := hf 54 (by simp)
        have tk' := claimTakes_ok (E := F) (K := K + 1) (a := K) (b := c) (R := zup R K B) hM (by rw [e3, e4]; exact stM_fz sM hf (by simp) (by simp) (by simp) (by simp) (by rw [hf 50 (by simp)])) (by omega) (by omega) (by rw [e3]; exact hP)
        rw [e3, zup_s, zup_n (by omega)] at tk'
        obtain ⟨x, F2, m2, f2, hx⟩ := tk'
        have hf2 : fz [62, 63, 80, 81, 82, 83, 84] E F2 := fz_trans hf (fz_mono f2 (by simp))
        have g62 : F2 62 = F 62 := f2 62 (by simp)
        have g63 : F2 63 = F 63 := f2 63 (by simp)
        rcases hx with ⟨x1, x2⟩ | ⟨x1, x2⟩
        · subst x1
          refine nx (zuE (zuE F2 62 c 2) 63 c K) (fz_put (fz_put hf2 (by simp)) (by simp)) (fun i hi => ⟨?_, ?_⟩) ?_ ?_ (fun kz Q K' => X12_ends_248 hM ⟨fun z => absurd z (by omega), fun _ => ⟨⟨by omega, by omega⟩, fun z => absurd (by rw [a62] at z; exact z) q, fun _ => ⟨1, F2, m2, fun z => absurd z (by omega), fun _ => ⟨⟨by omega, by omega⟩, fun H h => ⟨⟨by omega, by omega⟩, fun H2 h2 => ⟨zin_of (by omega) (by omega), by rw [h2, h]; exact K'⟩⟩⟩⟩⟩⟩)
          · rw [zuE_ne (by decide), zuE_ix hi, g62]
          · rw [zuE_ix hi, zuE_ne (by decide), g63]
          · unfold pst; rw [if_pos ⟨q, x2⟩, zuE_ne (by decide), zuE_same]
          · unfold pby; rw [if_pos ⟨q, x2⟩, zuE_same]
        · subst x1
          refine nx F2 hf2 (fun i _ => by rw [g62, g63]; exact ⟨rfl, rfl⟩) ?_ ?_ (fun kz Q K' => X12_ends_248 hM ⟨fun z => absurd z (by omega), fun _ => ⟨⟨by omega, by omega⟩, fun z => absurd (by rw [a62] at z; exact z) q, fun _ => ⟨0, F2, m2, fun _ => ⟨zin_of (by omega) (by omega), K'⟩, fun z => absurd rfl z⟩⟩⟩)
          · unfold pst; rw [if_neg (fun z => x2 z.2), g62]; exact a62
          · unfold pby; rw [if_neg (fun z => x2 z.2), g63]; exact a63
  obtain ⟨E', z, zr⟩ := loop K 0 E (by omega) fz_rfl (fun k hk => by
    rw [if_neg (by omega), if_neg (by omega)]
    exact ⟨(hold k hk).2.2.1, (hold k hk).2.2.2.1⟩) hnew.2.2.1 hnew.2.2.2.1
  exact ⟨E', z, zr⟩
/-- a list's places in an array -/
theorem ends_198 {K n : Nat} {t : List Int} (hM : zK zMt d G) (hK : K < 150) (hn : E 50 40 = n) (hn8 : n ≤ 8) (ht : t.length = 4 * n) (ht2 : ∀ i : Nat, i < 4 * n → E 92 i = t.getD i 0) (h6 : E 50 6 = K) : ∃ E' : Nat → Int → Int, fz [50, 71] E E' ∧ (∀ i : Int, i ≠ 6 → E' 50 i = E 50 i) ∧ E' 50 6 = (K : Int) + 1 ∧ (∀ i : Int, i < 32 * (K : Int) ∨ 32 * (K : Int) + 32 ≤ i → E' 71 i = E 71 i) ∧ (∀ i : Nat, i < t.length → E' 71 (32 * (K : Int) + i) = t.getD i 0) ∧ ∀ kz Q, Z zm_X12_ends kz Q 248 [(0, zR 50), (8, zI (K : Int)), (9, zI 0)] [] (d, G, E') → Z zm_X12_ends kz Q 198 [(0, zR 50), (8, zI (K : Int)), (9, zI 0)] [] (d, G, E) := by
  have loop : ∀ (m k : Nat) (F : Nat → Int → Int), k + m = 4 * n → fz [71] E F → (∀ i : Int, i < 32 * (K : Int) ∨ 32 * (K : Int) + 32 ≤ i → F 71 i = E 71 i) → (∀ i : Nat, i < k → F 71 (32 * (K : Int) + i) = t.getD i 0) → ∃ E' : Nat → Int → Int, fz [50, 71] E E' ∧ (∀ i : Int, i ≠ 6 → E' 50 i = E 50 i) ∧ E' 50 6 = (K : Int) + 1 ∧ (∀ i : Int, i < 32 * (K : Int) ∨ 32 * (K : Int) + 32 ≤ i → E' 71 i = E 71 i) ∧ (∀ i : Nat, i < t.length → E' 71 (32 * (K : Int) + i) = t.getD i 0) ∧ ∀ kz Q, Z zm_X12_ends kz Q 248 [(0, zR 50), (8, zI (K : Int)), (9, zI 0)] [] (d, G, E') → Z zm_X12_ends kz Q 198 [(0, zR 50), (8, zI (K : Int)), (9, zI (k : Int))] [] (d, G, F) := by
    intro m
    induction m with
    | zero =>
      intro k F hk hf h1 h2
      have f50 : F 50 = E 50 := hf 50 (by simp)
      refine ⟨zuE F 50 6 ((K : Int) + 1), fz_put (fz_mono hf (by simp)) (by simp), fun i hi => by rw [zuE_ix hi, f50], zuE_same, fun i hi => by rw [zuE_ne (by decide)]; exact h1 i hi, fun i hi => by rw [zuE_ne (by decide)]; exact h2 i (by omega), fun kz Q K' => X12_ends_198 hM ?_⟩
      rw [f50, hn, h6]
      exact ⟨zin_of (by omega) (by omega), fun _ => ⟨zin_of (by omega) (by omega), fun H h => by rw [h]; exact K'⟩, fun z => absurd (by omega) z⟩
    | succ m ih =>
      intro k F hk hf h1 h2
      have f50 : F 50 = E 50 := hf 50 (by simp)
      have f92 : F 92 k = t.getD k 0 := by rw [hf 92 (by simp)]; exact ht2 k (by omega)
      obtain ⟨E', a1, a2, a3, a4, a5, a6⟩ := ih (k + 1) (zuE F 71 (32 * (K : Int) + k) (t.getD k 0)) (by omega) (fz_put hf (by simp)) (fun i hi => by rw [zuE_ix (by omega)]; exact h1 i hi) (fun i hi => by
        rcases (by omega : i = k ∨ i < k) with e | e
        · subst e; exact zuE_same
        · rw [zuE_ix (by omega)]; exact h2 i e)
      have ek : ((k + 1 : Nat) : Int) = (k : Int) + 1 := by omega
      rw [ek] at a6
      refine ⟨E', a1, a2, a3, a4, a5, fun kz Q K' => X12_ends_198 hM ?_⟩
      rw [f50, hn]
      exact ⟨zin_of (by omega) (by omega), fun z => absurd z (by omega), fun _ => ⟨zin_of (by omega) (by omega), zin_of (by omega) (by omega), ⟨by omega, by omega⟩, ⟨by omega, by omega⟩, fun H h => ⟨zin_of (by omega) (by omega), by rw [h, f92]; exact a6 kz Q K'⟩⟩⟩
  obtain ⟨E', r⟩ := loop (4 * n) 0 E (by omega) fz_rfl (fun i _ => rfl) (fun i hi => by omega)
  exact ⟨E', r⟩
theorem ends_ok {K k : Nat} {R : Nat → List zLt} {st ab : Nat → Int} {nm tt : Nat → List Int} {sr : Nat → List zLt} {A S : List zLt} {v1 v2 v3 v4 v5 v6 v7 : Int} (hM : zK zMt d G) (hC : MI E (E 53) (E 54) K R st ab nm tt sr) (hK : K < 150) (hP : pok (E 53)) (hW : wok (E 54)) (h2 : E 53 0 = 2) (hA : rowW E A) (gA : gok (E 53) (E 54) A) (hk : v1 = k) (hk4 : k ≤ 4) (hS : k = 0 → E 68 K = S.length ∧ rowF E 65 66 67 (6 * (K : Int)) S ∧ gok (E 53) (E 54) S) (h42 : 0 ≤ E 50 42 ∧ E 50 42 ≤ 1000000) (h43 : -1000000 ≤ E 50 43 ∧ E 50 43 ≤ 1000000) (h44 : -1000000 ≤ E 50 44 ∧ E 50 44 ≤ 1000000) :
    ∃ (r x : Int) (B : List zLt) (t : List Int) (n : Nat) (E' : Nat → Int → Int), zM zm_X12_ends [zR 50, zI v1, zI v2, zI v3, zI v4, zI v5, zI v6, zI v7] (d, G, E) (some (zI r)) (d, G, E') ∧ fns (E 53) (E 54) R st K A = (x, B, t) ∧ t.length = 4 * n ∧ n ≤ 8 ∧ fz [50, 58, 59, 60, 61, 62, 63, 64, 69, 70, 71, 72, 73, 74, 76, 77, 78, 80, 81, 82, 83, 84, 85, 92] E E' ∧ (∀ i : Int, fsf i → i ≠ 6 → i ≠ 43 → i ≠ 44 → i ≠ 54 → E' 50 i = E 50 i) ∧ E' 50 42 = E 50 42 + n ∧ (∀ i : Int, E' 58 i = E 58 i ∨ -40 ≤ E' 58 i) ∧
      ((x = 0 ∧ r = -99 ∧ E' 50 43 = E 50 43 + 1 ∧ E' 50 44 = E 50 44 ∧ E' 50 54 = E 50 54 ∧ MI E' (E 53) (E 54) K R st ab nm tt sr) ∨
       (x ≠ 0 ∧ (triv (E 53) B ∨ tkn (E 53) R st K B) ∧ r = -1 ∧ E' 50 43 = E 50 43 ∧ E' 50 44 = E 50 44 + 1 ∧ E' 50 54 = E 50 54 ∧ MI E' (E 53) (E 54) K R st ab nm tt sr) ∨
       (x ≠ 0 ∧ ¬ (triv (E 53) B ∨ tkn (E 53) R st K B) ∧ r = K ∧ E' 50 43 = E 50 43 ∧ E' 50 44 = E 50 44 ∧ E' 50 54 = (if B.length = 0 then 1 else if K + 1 = 150 then 3 else E 50 54) ∧ rok (E 53) (E 54) B ∧ MI E' (E 53) (E 54) (K + 1) (zup R K B) (zup (pst (E 53) R st B) K 0) (zup (pby (E 53) R st ab B K) K (-1)) (zup nm K [v1, v2, v3, v4, v5, v6, v7]) (zup tt K t) (zup sr K S))) := by
  obtain ⟨x, E1, n, m1, f1, j1, n40, n8, n42, x01, hx⟩ := finishes_ok (E := E) (K := K) (R := R) (st := st) (A := A) hM (MI_st hC) (fun c hc => (hC.2.2 c hc).2.2.1) hP hW h2 h42 hA gA.1 gA.2
  have C1 : MI E1 (E 53) (E 54) K R st ab nm tt sr := MI_fz hC f1 (by simp) (j1 6 (by unfold fsf; omega))
  have lost : ∀ (B : List zLt) (t : List Int), x = 0 → fns (E 53) (E 54) R st K A = (x, B, t) → t.length = 4 * n →
      ∃ (r x : Int) (B : List zLt) (t : List Int) (n : Nat) (E' : Nat → Int → Int), zM zm_X12_ends [zR 50, zI v1, zI v2, zI v3, zI v4, zI v5, zI v6, zI v7] (d, G, E) (some (zI r)) (d, G, E') ∧ fns (E 53) (E 54) R st K A = (x, B, t) ∧ t.length = 4 * n ∧ n ≤ 8 ∧ fz [50, 58, 59, 60, 61, 62, 63, 64, 69, 70, 71, 72, 73, 74, 76, 77, 78, 80, 81, 82, 83, 84, 85, 92] E E' ∧ (∀ i : Int, fsf i → i ≠ 6 → i ≠ 43 → i ≠ 44 → i ≠ 54 → E' 50 i = E 50 i) ∧ E' 50 42 = E 50 42 + n ∧ (∀ i : Int, E' 58 i = E 58 i ∨ -40 ≤ E' 58 i) ∧
      ((x = 0 ∧ r = -99 ∧ E' 50 43 = E 50 43 + 1 ∧ E' 50 44 = E 50 44 ∧ E' 50 54 = E 50 54 ∧ MI E' (E 53) (E 54) K R st ab nm tt sr) ∨
       (x ≠ 0 ∧ (triv (E 53) B ∨ tkn (E 53) R st K B) ∧ r = -1 ∧ E' 50 43 = E 50 43 ∧ E' 50 44 = E 50 44 + 1 ∧ E' 50 54 = E 50 54 ∧ MI E' (E 53) (E 54) K R st ab nm tt sr) ∨
       (x ≠ 0 ∧ ¬ (triv (E 53) B ∨ tkn (E 53) R st K B) ∧ r = K ∧ E' 50 43 = E 50 43 ∧ E' 50 44 = E 50 44 ∧ E' 50 54 = (if B.length = 0 then 1 else if K + 1 = 150 then 3 else E 50 54) ∧ rok (E 53) (E 54) B ∧ MI E' (E 53) (E 54) (K + 1) (zup R K B) (zup (pst (E 53) R st B) K 0) (zup (pby (E 53) R st ab B K) K (-1)) (zup nm K [v1, v2, v3, v4, v5, v6, v7]) (zup tt K t) (zup sr K S))) := by
    intro B t x0 hfn ht
    have o43 : E1 50 43 = E 50 43 := j1 43 (by unfold fsf; omega)
    refine ⟨-99, 0, B, t, n, zuE E1 50 43 (E 50 43 + 1), zM_e rfl (Nat.le_of_ble_eq_true rfl) (fun kz Q hQ => X12_ends_0 hM ⟨x, E1, m1, fun z => absurd x0 z, fun _ => ?_⟩), by rw [hfn, x0], ht, n8, fz_put (fz_mono f1 (by simp)) (by simp), fun i hi i6 i43 i44 i54 => by rw [zuE_ix i43]; exact j1 i hi, by rw [zuE_ix (by decide)]; exact n42, fun i => Or.inl (by rw [zuE_ne (by decide), f1 58 (by simp)]), Or.inl ⟨rfl, rfl, zuE_same, by rw [zuE_ix (by decide)]; exact j1 44 (by unfold fsf; omega), by rw [zuE_ix (by decide)]; exact j1 54 (by unfold fsf; omega), MI_fz C1 (S := [50]) (fun y hy => zuE_nf (by simpa using hy)) (by simp) (zuE_ix (by decide))⟩⟩
    rw [o43]
    exact ⟨zin_of (by omega) (by omega), fun H h => by rw [h]; exact hQ⟩
  rcases hx with ⟨c1, c2, c3⟩ | ⟨c1, B, t, c2, c3, c4, c5, c6⟩
  · exact lost A [] c2 (by unfold fns; rw [if_neg (by omega), c2]) (by simp; omega)
  · have efn : fns (E 53) (E 54) R st K A = (x, B, t) := by unfold fns; rw [if_pos c1]; exact c2
    rcases x01 with x0 | x1
    · exact lost B t x0 efn c3
    · subst x1
      have e13 : E1 53 = E 53 := f1 53 (by simp)
      have e14 : E1 54 = E 54 := f1 54 (by simp)
      have tr := isTrivialM_ok (E := E1) (A := B) hM c5 (by rw [e13]; exact hP) (by rw [e13]; exact h2) (by rw [e13]; exact c6.1)
      rw [e13] at tr
      obtain ⟨y, my, hy⟩ := tr
      rcases hy with ⟨y1, y2⟩ | ⟨y1, y2⟩
      · subst y1
        have o44 : E1 50 44 = E 50 44 := j1 44 (by unfold fsf; omega)
        refine ⟨-1, 1, B, t, n, zuE E1 50 44 (E 50 44 + 1), zM_e rfl (Nat.le_of_ble_eq_true rfl) (fun kz Q hQ => X12_ends_0 hM ⟨1, E1, m1, fun _ => ⟨1, my, fun _ => ?_, fun z => absurd (by decide) z⟩, fun z => absurd (by decide) z⟩), efn, c3, n8, fz_put (fz_mono f1 (by simp)) (by simp), fun i hi i6 i43 i44 i54 => by rw [zuE_ix i44]; exact j1 i hi, by rw [zuE_ix (by decide)]; exact n42, fun i => Or.inl (by rw [zuE_ne (by decide), f1 58 (by simp)]), Or.inr (Or.inl ⟨by decide, Or.inl y2, rfl, by rw [zuE_ix (by decide)]; exact j1 43 (by unfold fsf; omega), zuE_same, by rw [zuE_ix (by decide)]; exact j1 54 (by unfold fsf; omega), MI_fz C1 (S := [50]) (fun y hy => zuE_nf (by simpa using hy)) (by simp) (zuE_ix (by decide))⟩)⟩
        rw [o44]
        exact ⟨zin_of (by omega) (by omega), fun H h => by rw [h]; exact hQ⟩
      · subst y1
        have tk' := isTakenInM_ok (E := E1) (K := K) (R := R) (st := st) (B := B) hM (by rw [e13, e14]; exact MI_st C1) (fun c hc => (C1.2.2 c hc).2.2.1) (by rw [e13]; exact hP) c5 (by rw [e13]; exact c6.1)
        rw [e13] at tk'
        obtain ⟨w, E2, m2, f2, hw⟩ := tk'
        have o2 : E2 50 = E1 50 := f2 50 (by simp)
        have C2 : MI E2 (E 53) (E 54) K R st ab nm tt sr := MI_fz C1 f2 (by simp) (by rw [o2])
        rcases hw with ⟨w1, w2⟩ | ⟨w1, w2⟩
        · subst w1
          have o44 : E2 50 44 = E 50 44 := by rw [o2]; exact j1 44 (by unfold fsf; omega)
          refine ⟨-1, 1, B, t, n, zuE E2 50 44 (E 50 44 + 1), zM_e rfl (Nat.le_of_ble_eq_true rfl) (fun kz Q hQ => X12_ends_0 hM ⟨1, E1, m1, fun _ => ⟨0, my, fun z => absurd rfl z, fun _ => ⟨1, E2, m2, fun z => absurd z (by omega), fun _ => ?_⟩⟩, fun z => absurd (by decide) z⟩), efn, c3, n8, fz_put (fz_trans (fz_mono f1 (by simp)) (fz_mono f2 (by simp))) (by simp), fun i hi i6 i43 i44 i54 => by rw [zuE_ix i44, o2]; exact j1 i hi, by rw [zuE_ix (by decide), o2]; exact n42, fun i => Or.inl (by rw [zuE_ne (by decide), f2 58 (by simp), f1 58 (by simp)]), Or.inr (Or.inl ⟨by decide, Or.inr w2, rfl, by rw [zuE_ix (by decide), o2]; exact j1 43 (by unfold fsf; omega), zuE_same, by rw [zuE_ix (by decide), o2]; exact j1 54 (by unfold fsf; omega), MI_fz C2 (S := [50]) (fun y hy => zuE_nf (by simpa using hy)) (by simp) (zuE_ix (by decide))⟩)⟩
          rw [o44]
          exact ⟨zin_of (by omega) (by omega), fun H h => by rw [h]; exact hQ⟩
        · subst w1
          have hB2 : rowW E2 B := rowW_fz c5 f2 (by simp) (by simp) (by simp) (by rw [o2])
          obtain ⟨E3, m3, f3, rw3, ag3, lo3⟩ := layWork_ok (E := E2) (K := K) (B := B) hM hK hB2
          have k6 : E2 50 6 = K := C2.1
          -- the step's numbers
          let w64 : Int := if v1 ≠ 0 then 0 else 1
          let A1 := zuE E3 62 K 0
          let A2 := zuE A1 63 K (-1)
          let A3 := zuE A2 64 K w64
          let A4 := zuE A3 69 (7 * (K : Int)) v1
          let A5 := zuE A4 69 (7 * (K : Int) + 1) v2
          let A6 := zuE A5 69 (7 * (K : Int) + 2) v3
          let A7 := zuE A6 69 (7 * (K : Int) + 3) v4
          let A8 := zuE A7 69 (7 * (K : Int) + 4) v5
          let A9 := zuE A8 69 (7 * (K : Int) + 5) v6
          let A10 := zuE A9 69 (7 * (K : Int) + 6) v7
          let A11 := zuE A10 70 K n
          have n10 : ∀ x : Nat, x ≠ 62 → x ≠ 63 → x ≠ 64 → x ≠ 69 → A10 x = E3 x := fun x h1 h2 h3 h4 => (zuE_nf h4).trans ((zuE_nf h4).trans ((zuE_nf h4).trans ((zuE_nf h4).trans ((zuE_nf h4).trans ((zuE_nf h4).trans ((zuE_nf h4).trans ((zuE_nf h3).trans ((zuE_nf h2).trans (zuE_nf h1)))))))))
          have n11 : ∀ x : Nat, x ≠ 62 → x ≠ 63 → x ≠ 64 → x ≠ 69 → x ≠ 70 → A11 x = E3 x := fun x h1 h2 h3 h4 h5 => (zuE_nf h5).trans (n10 x h1 h2 h3 h4)
          have o3 : E3 50 = E1 50 := by rw [f3 50 (by simp)]; exact o2
          have a40 : A10 50 40 = n := by rw [n10 50 (by decide) (by decide) (by decide) (by decide), o3]; exact n40
          have p50 : A11 50 = E1 50 := by rw [n11 50 (by decide) (by decide) (by decide) (by decide) (by decide)]; exact o3
          have p92 : A11 92 = E1 92 := by rw [n11 92 (by decide) (by decide) (by decide) (by decide) (by decide), f3 92 (by simp), f2 92 (by simp)]
          obtain ⟨E4, b1, b2, b3, b4, b5, b6⟩ := ends_198 (E := A11) (K := K) (n := n) (t := t) hM hK (by rw [p50]; exact n40) n8 c3 (fun i hi => by rw [p92]; exact c4 i hi) (by rw [p50, ← o2]; exact k6)
          have g4 : ∀ x : Nat, x ≠ 50 → x ≠ 71 → E4 x = A11 x := fun x h1 h2 => b1 x (by simp; omega)
          -- other claims
          have agc : ∀ c : Nat, c ≠ K → agr E2 E4 c ∧ E4 62 c = E2 62 c ∧ E4 63 c = E2 63 c := fun c hc => by
            have i62 : ∀ i : Int, i ≠ K → A11 62 i = E3 62 i := fun i hi => (zuE_ne (by decide) _).trans ((zuE_ne (by decide) _).trans ((zuE_ne (by decide) _).trans ((zuE_ne (by decide) _).trans ((zuE_ne (by decide) _).trans ((zuE_ne (by decide) _).trans ((zuE_ne (by decide) _).trans ((zuE_ne (by decide) _).trans ((zuE_ne (by decide) _).trans ((zuE_ne (by decide) _).trans (zuE_ix hi))))))))))
            have i63 : ∀ i : Int, i ≠ K → A11 63 i = E3 63 i := fun i hi => (zuE_ne (by decide) _).trans ((zuE_ne (by decide) _).trans ((zuE_ne (by decide) _).trans ((zuE_ne (by decide) _).trans ((zuE_ne (by decide) _).trans ((zuE_ne (by decide) _).trans ((zuE_ne (by decide) _).trans ((zuE_ne (by decide) _).trans ((zuE_ne (by decide) _).trans ((zuE_ix hi).trans (zuE_ne (by decide) _))))))))))
            have i64 : ∀ i : Int, i ≠ K → A11 64 i = E3 64 i := fun i hi => (zuE_ne (by decide) _).trans ((zuE_ne (by decide) _).trans ((zuE_ne (by decide) _).trans ((zuE_ne (by decide) _).trans ((zuE_ne (by decide) _).trans ((zuE_ne (by decide) _).trans ((zuE_ne (by decide) _).trans ((zuE_ne (by decide) _).trans ((zuE_ix hi).trans ((zuE_ne (by decide) _).trans (zuE_ne (by decide) _))))))))))
            have i69 : ∀ i : Int, i < 7 * (K : Int) ∨ 7 * (K : Int) + 7 ≤ i → A11 69 i = E3 69 i := fun i hi => (zuE_ne (by decide) _).trans ((zuE_ix (by omega)).trans ((zuE_ix (by omega)).trans ((zuE_ix (by omega)).trans ((zuE_ix (by omega)).trans ((zuE_ix (by omega)).trans ((zuE_ix (by omega)).trans ((zuE_ix (by omega)).trans ((zuE_ne (by decide) _).trans ((zuE_ne (by decide) _).trans (zuE_ne (by decide) _))))))))))
            have i70 : ∀ i : Int, i ≠ K → A11 70 i = E3 70 i := fun i hi => by
              refine (zuE_ix hi).trans ?_
              rw [n10 70 (by decide) (by decide) (by decide) (by decide)]
            obtain ⟨h1, h2', h3, h4, h5, h6, h7, h8⟩ := ag3 c hc
            have l1 : ∀ x : Nat, x ≠ 50 → x ≠ 71 → x ≠ 62 → x ≠ 63 → x ≠ 64 → x ≠ 69 → x ≠ 70 → E4 x = E3 x := fun x q1 q2 q3 q4 q5 q6 q7 => by rw [g4 x q1 q2, n11 x q3 q4 q5 q6 q7]
            refine ⟨⟨fun i i1 i2 => ?_, fun i i1 i2 => ?_, fun i i1 i2 => ?_, fun i i1 i2 => ?_, ?_, ?_, ?_, ?_⟩, ?_, ?_⟩
            · rw [l1 58 (by decide) (by decide) (by decide) (by decide) (by decide) (by decide) (by decide), l1 65 (by decide) (by decide) (by decide) (by decide) (by decide) (by decide) (by decide)]; exact h1 i i1 i2
            · rw [l1 59 (by decide) (by decide) (by decide) (by decide) (by decide) (by decide) (by decide), l1 60 (by decide) (by decide) (by decide) (by decide) (by decide) (by decide) (by decide), l1 66 (by decide) (by decide) (by decide) (by decide) (by decide) (by decide) (by decide), l1 67 (by decide) (by decide) (by decide) (by decide) (by decide) (by decide) (by decide)]; exact h2' i i1 i2
            · rw [g4 69 (by decide) (by decide), i69 i (by omega)]; exact h3 i i1 i2
            · rw [b4 i (by omega), n11 71 (by decide) (by decide) (by decide) (by decide) (by decide)]; exact h4 i i1 i2
            · rw [l1 61 (by decide) (by decide) (by decide) (by decide) (by decide) (by decide) (by decide)]; exact h5
            · rw [g4 64 (by decide) (by decide), i64 c (by omega)]; exact h6
            · rw [l1 68 (by decide) (by decide) (by decide) (by decide) (by decide) (by decide) (by decide)]; exact h7
            · rw [g4 70 (by decide) (by decide), i70 c (by omega)]; exact h8
            · rw [g4 62 (by decide) (by decide), i62 c (by omega), f3 62 (by simp)]
            · rw [g4 63 (by decide) (by decide), i63 c (by omega), f3 63 (by simp)]
          have old4 : ∀ c : Nat, c < K → MD E4 (E 53) (E 54) c (R c) (st c) (ab c) (nm c) (tt c) (sr c) := fun c hc => by
            obtain ⟨q1, q2, q3⟩ := agc c (by omega)
            exact MD_agr (C2.2.2 c hc) q1 (by rw [q2]; exact (C2.2.2 c hc).2.2.1) (by rw [q3]; exact (C2.2.2 c hc).2.2.2.1)
          have l1 : ∀ x : Nat, x ≠ 50 → x ≠ 71 → x ≠ 62 → x ≠ 63 → x ≠ 64 → x ≠ 69 → x ≠ 70 → E4 x = E3 x := fun x q1 q2 q3 q4 q5 q6 q7 => by rw [g4 x q1 q2, n11 x q3 q4 q5 q6 q7]
          have nums : ∀ i : Nat, i < 7 → E4 69 (7 * (K : Int) + i) = [v1, v2, v3, v4, v5, v6, v7].getD i 0 := fun i hi => by
            rw [g4 69 (by decide) (by decide)]
            have e70 : A11 69 = A10 69 := zuE_nf (by decide)
            rw [e70]
            rcases (by omega : i = 0 ∨ i = 1 ∨ i = 2 ∨ i = 3 ∨ i = 4 ∨ i = 5 ∨ i = 6) with e | e | e | e | e | e | e
            · subst e
              have x : 7 * (K : Int) + ((0 : Nat) : Int) = 7 * (K : Int) := by omega
              rw [x]
              exact (zuE_ix (by omega)).trans ((zuE_ix (by omega)).trans ((zuE_ix (by omega)).trans ((zuE_ix (by omega)).trans ((zuE_ix (by omega)).trans ((zuE_ix (by omega)).trans zuE_same)))))
            · subst e
              exact (zuE_ix (by omega)).trans ((zuE_ix (by omega)).trans ((zuE_ix (by omega)).trans ((zuE_ix (by omega)).trans ((zuE_ix (by omega)).trans zuE_same))))
            · subst e
              exact (zuE_ix (by omega)).trans ((zuE_ix (by omega)).trans ((zuE_ix (by omega)).trans ((zuE_ix (by omega)).trans zuE_same)))
            · subst e
              exact (zuE_ix (by omega)).trans ((zuE_ix (by omega)).trans ((zuE_ix (by omega)).trans zuE_same))
            · subst e
              exact (zuE_ix (by omega)).trans ((zuE_ix (by omega)).trans zuE_same)
            · subst e
              exact (zuE_ix (by omega)).trans zuE_same
            · subst e
              exact zuE_same
          have v62 : E4 62 K = 0 := by
            rw [g4 62 (by decide) (by decide)]
            exact (zuE_ne (by decide) _).trans ((zuE_ne (by decide) _).trans ((zuE_ne (by decide) _).trans ((zuE_ne (by decide) _).trans ((zuE_ne (by decide) _).trans ((zuE_ne (by decide) _).trans ((zuE_ne (by decide) _).trans ((zuE_ne (by decide) _).trans ((zuE_ne (by decide) _).trans ((zuE_ne (by decide) _).trans zuE_same)))))))))
          have v63 : E4 63 K = -1 := by
            rw [g4 63 (by decide) (by decide)]
            exact (zuE_ne (by decide) _).trans ((zuE_ne (by decide) _).trans ((zuE_ne (by decide) _).trans ((zuE_ne (by decide) _).trans ((zuE_ne (by decide) _).trans ((zuE_ne (by decide) _).trans ((zuE_ne (by decide) _).trans ((zuE_ne (by decide) _).trans ((zuE_ne (by decide) _).trans zuE_same))))))))
          have v64 : E4 64 K = w64 := by
            rw [g4 64 (by decide) (by decide)]
            exact (zuE_ne (by decide) _).trans ((zuE_ne (by decide) _).trans ((zuE_ne (by decide) _).trans ((zuE_ne (by decide) _).trans ((zuE_ne (by decide) _).trans ((zuE_ne (by decide) _).trans ((zuE_ne (by decide) _).trans ((zuE_ne (by decide) _).trans zuE_same)))))))
          have v70 : E4 70 K = n := by
            rw [g4 70 (by decide) (by decide)]; exact zuE_same
          have keepE : ∀ x : Nat, x = 65 ∨ x = 66 ∨ x = 67 ∨ x = 68 → E4 x = E x := fun x hx => by
            rw [l1 x (by omega) (by omega) (by omega) (by omega) (by omega) (by omega) (by omega), f3 x (by simp; omega), f2 x (by simp; omega), f1 x (by simp; omega)]
          have new4 : MD E4 (E 53) (E 54) K B 0 (-1) [v1, v2, v3, v4, v5, v6, v7] t S := by
            refine ⟨⟨?_, ?_⟩, c6, v62, v63, rfl, nums, by show 0 ≤ v1; omega, by show v1 ≤ 4; omega, ⟨n, c3, n8, v70⟩, fun i hi => b5 i hi, ?_, fun z => ?_⟩
            · rw [l1 61 (by decide) (by decide) (by decide) (by decide) (by decide) (by decide) (by decide)]; exact rw3.1
            · unfold rowF
              rw [l1 58 (by decide) (by decide) (by decide) (by decide) (by decide) (by decide) (by decide), l1 59 (by decide) (by decide) (by decide) (by decide) (by decide) (by decide) (by decide), l1 60 (by decide) (by decide) (by decide) (by decide) (by decide) (by decide) (by decide)]
              exact rw3.2
            · rw [v64]
              show (if v1 ≠ 0 then (0 : Int) else 1) = if v1 = 0 then 1 else 0
              by_cases z : v1 = 0
              · rw [if_neg (fun q => q z), if_pos z]
              · rw [if_pos z, if_neg z]
            · have z' : v1 = 0 := z
              obtain ⟨q1, q2, q3⟩ := hS (by omega)
              refine ⟨by rw [keepE 68 (by omega)]; exact q1, ?_, q3⟩
              unfold rowF at *
              rw [keepE 65 (by omega), keepE 66 (by omega), keepE 67 (by omega)]; exact q2
          have e43 : E4 53 = E 53 := by rw [l1 53 (by decide) (by decide) (by decide) (by decide) (by decide) (by decide) (by decide), f3 53 (by simp), f2 53 (by simp)]; exact e13
          have e44 : E4 54 = E 54 := by rw [l1 54 (by decide) (by decide) (by decide) (by decide) (by decide) (by decide) (by decide), f3 54 (by simp), f2 54 (by simp)]; exact e14
          have en := ends_248 (E := E4) (K := K) (R := R) (st := st) (ab := ab) (nm := nm) (tt := tt) (sr := sr) (B := B) (stK := 0) (abK := -1) (nmK := [v1, v2, v3, v4, v5, v6, v7]) (ttK := t) (srK := S) hM hK (by rw [e43]; exact hP) (by rw [e43, e44]; exact old4) (by rw [e43, e44]; exact new4) (by rw [b3]; omega) (by rw [b2 24 (by decide), p50]; exact c5.1)
          rw [e43] at en
          obtain ⟨E5, z5, f5, j5, h54, h5c, h5K, h5K'⟩ := en
          have fzA : fz [50, 58, 59, 60, 61, 62, 63, 64, 69, 70, 71, 72, 73, 74, 76, 77, 78, 80, 81, 82, 83, 84, 85, 92] E E5 := by
            intro q hq
            simp at hq
            rw [f5 q (by simp; omega), l1 q (by omega) (by omega) (by omega) (by omega) (by omega) (by omega) (by omega), f3 q (by simp; omega), f2 q (by simp; omega), f1 q (by simp; omega)]
          have o5 : ∀ i : Int, i ≠ 54 → i ≠ 6 → E5 50 i = E1 50 i := fun i i1 i2 => by rw [j5 i i1, b2 i i2, p50]
          have lo5 : ∀ i : Int, E5 58 i = E 58 i ∨ -40 ≤ E5 58 i := fun i => by
            rw [f5 58 (by simp), l1 58 (by decide) (by decide) (by decide) (by decide) (by decide) (by decide) (by decide)]
            rcases lo3 i with z | ⟨y, y1, y2⟩
            · left; rw [z, f2 58 (by simp), f1 58 (by simp)]
            · right
              obtain ⟨l, l1, l2⟩ := mem_lit y1
              obtain ⟨k, k1, k2⟩ := mem_fw y2
              have := (c6.1 l l1).2.2 k (by rw [l2]; exact k1)
              rw [l2, k2] at this
              exact this
          refine ⟨K, 1, B, t, n, E5, zM_e rfl (Nat.le_of_ble_eq_true rfl) (fun kz Q hQ => X12_ends_0 hM ⟨1, E1, m1, fun _ => ⟨0, my, fun z => absurd rfl z, fun _ => ⟨0, E2, m2, fun _ => ?_, fun z => absurd rfl z⟩⟩, fun z => absurd (by decide) z⟩), efn, c3, n8, fzA, fun i hi i6 i43 i44 i54 => by rw [o5 i i54 i6]; exact j1 i hi, by rw [o5 42 (by decide) (by decide)]; exact n42, lo5, Or.inr (Or.inr ⟨by decide, fun z => ?_, rfl, by rw [o5 43 (by decide) (by decide)]; exact j1 43 (by unfold fsf; omega), by rw [o5 44 (by decide) (by decide)]; exact j1 44 (by unfold fsf; omega), ?_, c6, ?_⟩)⟩
          · rw [k6]
            refine ⟨E3, m3, ⟨by omega, by omega⟩, fun D1 d1 => ⟨⟨by omega, by omega⟩, fun D2 d2 => ?_⟩⟩
            have eD2 : D2 = A2 := by rw [d2, d1]
            rw [eD2]
            -- the flag, then the numbers
            have at89 : ∀ s0 : Int, s0 = w64 → (s0 = 0 ∨ s0 = 1) → Z zm_X12_ends kz Q 89 [(0, zR 50), (1, zI v1), (2, zI v2), (3, zI v3), (4, zI v4), (5, zI v5), (6, zI v6), (7, zI v7), (8, zI (K : Int))] [zI s0, zI (K : Int), zR 64] (d, G, A2) := fun s0 hs0 h01 => by
              refine X12_ends_89 (t2 := some 64) hM ⟨64, 150, rfl, rfl, (zM_13 hM).2.2, ⟨by omega, by omega⟩, h01, fun D3 d3 => ⟨zin_of (by omega) (by omega), ⟨by omega, by omega⟩, fun D4 d4 => ⟨zin_of (by omega) (by omega), zin_of (by omega) (by omega), ⟨by omega, by omega⟩, fun D5 d5 => ⟨zin_of (by omega) (by omega), zin_of (by omega) (by omega), ⟨by omega, by omega⟩, fun D6 d6 => ⟨zin_of (by omega) (by omega), zin_of (by omega) (by omega), ⟨by omega, by omega⟩, fun D7 d7 => ⟨zin_of (by omega) (by omega), zin_of (by omega) (by omega), ⟨by omega, by omega⟩, fun D8 d8 => ⟨zin_of (by omega) (by omega), zin_of (by omega) (by omega), ⟨by omega, by omega⟩, fun D9 d9 => ⟨zin_of (by omega) (by omega), zin_of (by omega) (by omega), ⟨by omega, by omega⟩, fun D10 d10 => ⟨⟨by omega, by omega⟩, fun D11 d11 => ?_⟩⟩⟩⟩⟩⟩⟩⟩⟩
              have eD10 : D10 = A10 := by rw [d10, d9, d8, d7, d6, d5, d4, d3, hs0]
              rw [d11, eD10, a40]
              exact b6 kz Q (z5 kz Q hQ)
            refine ⟨fun z => at89 0 ?_ (Or.inl rfl), fun z => at89 1 ?_ (Or.inr rfl)⟩
            · show (0 : Int) = if v1 ≠ 0 then 0 else 1
              rw [if_pos z]
            · show (1 : Int) = if v1 ≠ 0 then 0 else 1
              rw [if_neg z]
          · rcases z with z | z
            · exact y2 z
            · exact w2 z
          · rw [h54, b2 54 (by decide), p50, j1 54 (by unfold fsf; omega)]
          · refine ⟨by rw [j5 6 (by decide), b3]; omega, by omega, fun c hc => ?_⟩
            have ag5 : agr E4 E5 c := agr_fz f5 (by simp)
            rcases (by omega : c < K ∨ c = K) with e | e
            · have ne : c ≠ K := by omega
              rw [zup_n ne, zup_n ne, zup_n ne, zup_n ne, zup_n ne, zup_n ne]
              exact MD_agr (old4 c e) ag5 (h5c c e).1 (h5c c e).2
            · subst e
              rw [zup_s, zup_s, zup_s, zup_s, zup_s, zup_s]
              exact MD_agr new4 ag5 h5K h5K'
end QR
