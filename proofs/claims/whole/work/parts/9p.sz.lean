/-! ===== reading a draft: what comes out; the class's side ===== -/
/-- v may stand behind a literal's head -/
abbrev fit (S : Int → Int) (N v : Int) : Prop := v < 0 ∨ (v < N ∧ S v = 0)
/-- where o terms from i on end, m places being there; -1 less the place that does not fit -/
def eP (P S f : Int → Int) (N : Int) : Nat → Int → Int → Int
  | 0, o, i => if o ≤ 0 then i else -1 - i
  | m + 1, o, i => if o ≤ 0 then i else if fit S N (f i) then eP P S f N m (o + (if f i < 0 then -1 else P (f i) - 1)) (i + 1) else -1 - i
theorem eP_rng {P S f : Int → Int} {N : Int} : ∀ (m : Nat) (o i : Int), 0 ≤ i → (0 ≤ eP P S f N m o i → i ≤ eP P S f N m o i ∧ eP P S f N m o i ≤ i + m ∧ ∀ j : Int, i ≤ j → j < eP P S f N m o i → fit S N (f j)) ∧ (eP P S f N m o i < 0 → i ≤ -1 - eP P S f N m o i ∧ -1 - eP P S f N m o i ≤ i + m)
  | 0, o, i, h => by
    unfold eP
    by_cases c : o ≤ 0
    · rw [if_pos c]; exact ⟨fun _ => ⟨by omega, by omega, fun j j1 j2 => by omega⟩, fun z => by omega⟩
    · rw [if_neg c]; exact ⟨fun z => by omega, fun _ => by omega⟩
  | m + 1, o, i, h => by
    unfold eP
    by_cases c : o ≤ 0
    · rw [if_pos c]; exact ⟨fun _ => ⟨by omega, by omega, fun j j1 j2 => by omega⟩, fun z => by omega⟩
    · rw [if_neg c]
      by_cases c2 : fit S N (f i)
      · rw [if_pos c2]
        have ih := eP_rng (P := P) (S := S) (f := f) (N := N) m (o + (if f i < 0 then -1 else P (f i) - 1)) (i + 1) (by omega)
        refine ⟨fun z => ?_, fun z => ?_⟩
        · obtain ⟨a, b, c⟩ := ih.1 z
          refine ⟨by omega, by omega, fun j j1 j2 => ?_⟩
          by_cases e : j = i
          · rw [e]; exact c2
          · exact c j (by omega) j2
        · have := ih.2 z
          omega
      · rw [if_neg c2]; exact ⟨fun z => by omega, fun _ => by omega⟩
theorem eP_congr {P S f f' : Int → Int} {N : Int} : ∀ (m : Nat) (o i : Int), (∀ j : Int, i ≤ j → j < i + m → f' j = f j) → eP P S f' N m o i = eP P S f N m o i
  | 0, o, i, _ => rfl
  | m + 1, o, i, h => by
    unfold eP
    rw [h i (by omega) (by omega), eP_congr m _ (i + 1) (fun j j1 j2 => h j (by omega) (by omega))]
theorem eP_tm {P S f g : Int → Int} {N : Int} (hP : pok P) (hN : N ≤ 16) : ∀ (m : Nat) (o i : Int) (k0 : Nat), 0 ≤ i → (∀ j : Nat, g ((k0 : Int) + j) = f (i + j)) → o = nd P g 0 k0 → 0 ≤ o → 0 ≤ eP P S f N m o i → nd P g 0 (k0 + (eP P S f N m o i - i).toNat) = 0 ∧ ∀ k : Nat, k0 ≤ k → k < k0 + (eP P S f N m o i - i).toNat → 0 < nd P g 0 k ∧ g k < 16
  | 0, o, i, k0, h0, hg, ho, hp, he => by
    unfold eP at he ⊢
    by_cases c : o ≤ 0
    · rw [if_pos c] at *
      have e0 : (i - i).toNat = 0 := by omega
      rw [e0]
      exact ⟨by rw [Nat.add_zero]; omega, fun k k1 k2 => by omega⟩
    · rw [if_neg c] at he; omega
  | m + 1, o, i, k0, h0, hg, ho, hp, he => by
    unfold eP at he ⊢
    by_cases c : o ≤ 0
    · rw [if_pos c] at *
      have e0 : (i - i).toNat = 0 := by omega
      rw [e0]
      exact ⟨by rw [Nat.add_zero]; omega, fun k k1 k2 => by omega⟩
    · rw [if_neg c] at he ⊢
      by_cases c2 : fit S N (f i)
      · rw [if_pos c2] at he ⊢
        have gi : g ((k0 : Int)) = f i := by
          have := hg 0
          simpa using this
        have e1 : nd P g 0 (k0 + 1) = o + (if f i < 0 then -1 else P (f i) - 1) := by
          simp only [nd]
          rw [show (0 : Int) + (k0 : Int) = (k0 : Int) by omega, gi, ho]
        have p1 : 0 ≤ o + (if f i < 0 then (-1 : Int) else P (f i) - 1) := by
          by_cases c3 : f i < 0
          · rw [if_pos c3]; omega
          · rw [if_neg c3]
            have q1 : f i < N := by
              rcases c2 with a | a
              · omega
              · exact a.1
            have q2 := hP (f i) (by omega) (by omega)
            omega
        have r := eP_rng (P := P) (S := S) (f := f) (N := N) m (o + (if f i < 0 then -1 else P (f i) - 1)) (i + 1) (by omega)
        have ih := eP_tm (P := P) (S := S) (f := f) (g := g) (N := N) hP hN m (o + (if f i < 0 then -1 else P (f i) - 1)) (i + 1) (k0 + 1) (by omega) (fun j => by
          have := hg (j + 1)
          have a1 : ((k0 + 1 : Nat) : Int) + (j : Int) = (k0 : Int) + ((j + 1 : Nat) : Int) := by omega
          have a2 : i + 1 + (j : Int) = i + ((j + 1 : Nat) : Int) := by omega
          rw [a1, a2]; exact this) e1.symm p1 he
        have r1 := (r.1 he).1
        generalize eP P S f N m (o + (if f i < 0 then -1 else P (f i) - 1)) (i + 1) = e at *
        have a3 : k0 + (e - i).toNat = k0 + 1 + (e - (i + 1)).toNat := by omega
        rw [a3]
        refine ⟨ih.1, fun k k1 k2 => ?_⟩
        by_cases ek : k = k0
        · subst ek
          refine ⟨by omega, ?_⟩
          rw [gi]
          rcases c2 with a | a
          · omega
          · have := a.1; omega
        · exact ih.2 k (by omega) k2
      · rw [if_neg c2] at he; omega
/-- the saying of a head, and whether it is denied -/
def hsy (v : Int) : Int := if v < 2000 then v - 1000 else v - 2000
def hdn (v : Int) : Int := if v < 2000 then 0 else 1
abbrev isS (S : Int → Int) (N v : Int) : Prop := 0 ≤ v ∧ v < N ∧ S v ≠ 0
/-- the end of the literal that begins at i -/
def eD (P S f : Int → Int) (N D i : Int) : Int := eP P S f N (min D (i + 30) - (i + 1)).toNat (P (hsy (f i))) (i + 1)
def wdD (f : Int → Int) (i : Int) (n : Nat) : List Int := hsy (f i) :: (List.range n).map (fun (k : Nat) => f (i + 1 + (k : Int)))
theorem wdD_len {f : Int → Int} {i : Int} {n : Nat} : (wdD f i n).length = n + 1 := by simp [wdD]
theorem wdD_0 {f : Int → Int} {i : Int} {n : Nat} : fw (wdD f i n) 0 = hsy (f i) := rfl
theorem wdD_s {f : Int → Int} {i : Int} {n k : Nat} (h : k < n) : (wdD f i n).getD (k + 1) 0 = f (i + 1 + (k : Int)) := by
  unfold wdD
  rw [List.getD_cons_succ, List.getD_eq_getElem?_getD, List.getElem?_map, List.getElem?_range h]
  rfl
/-- the draft as a row: -1 and it, or the place that does not fit -/
def rD (P S f : Int → Int) (N D : Int) : Nat → List zLt → Int → Int × List zLt
  | 0, A, _ => (-1, A)
  | m + 1, A, i => if D ≤ i then (-1, A) else if A.length = 6 ∨ ¬ isS S N (hsy (f i)) then (i, A) else if eD P S f N D i < 0 then (-1 - eD P S f N D i, A) else rD P S f N D m (A ++ [(hdn (f i), wdD f i (eD P S f N D i - (i + 1)).toNat)]) (eD P S f N D i)
theorem eD_rng {P S f : Int → Int} {N D i : Int} (h0 : 0 ≤ i) (hD : i < D) : (0 ≤ eD P S f N D i → i + 1 ≤ eD P S f N D i ∧ eD P S f N D i ≤ D ∧ eD P S f N D i ≤ i + 30 ∧ ∀ j : Int, i + 1 ≤ j → j < eD P S f N D i → fit S N (f j)) ∧ (eD P S f N D i < 0 → 0 ≤ -1 - eD P S f N D i ∧ -1 - eD P S f N D i ≤ D) := by
  have r := eP_rng (P := P) (S := S) (f := f) (N := N) (min D (i + 30) - (i + 1)).toNat (P (hsy (f i))) (i + 1) (by omega)
  have e : eP P S f N (min D (i + 30) - (i + 1)).toNat (P (hsy (f i))) (i + 1) = eD P S f N D i := rfl
  rw [e] at r
  have q : (((min D (i + 30) - (i + 1)).toNat : Nat) : Int) ≤ D - (i + 1) ∧ (((min D (i + 30) - (i + 1)).toNat : Nat) : Int) ≤ 29 := by omega
  refine ⟨fun z => ?_, fun z => ?_⟩
  · obtain ⟨a, b, c⟩ := r.1 z
    exact ⟨a, by omega, by omega, c⟩
  · have := r.2 z
    omega
theorem eD_gok {P W S f : Int → Int} {N D i : Int} (hP : pok P) (hN : N ≤ 16) (hW : ∀ v : Int, 0 ≤ v → v < N → 1 ≤ W v) (hl : ∀ j : Int, 0 ≤ j → j < D → -20 ≤ f j) (h0 : 0 ≤ i) (hD : i < D) (hs : isS S N (hsy (f i))) (he : 0 ≤ eD P S f N D i) : wok1 P (wdD f i (eD P S f N D i - (i + 1)).toNat) ∧ ∀ x, x ∈ wdD f i (eD P S f N D i - (i + 1)).toNat → 0 ≤ x → 1 ≤ W x := by
  obtain ⟨r1, r2, r3, r4⟩ := (eD_rng (P := P) (S := S) (f := f) (N := N) h0 hD).1 he
  let g : Int → Int := fun k => if k ≤ 0 then hsy (f i) else f (i + k)
  have g0 : g 0 = hsy (f i) := rfl
  have p0 := hP (hsy (f i)) hs.1 (by have := hs.2.1; omega)
  have n1 : nd P g 0 1 = P (hsy (f i)) := by
    simp only [nd]
    rw [show (0 : Int) + ((0 : Nat) : Int) = 0 by omega, g0, if_neg (by have := hs.1; omega)]
    omega
  have t := eP_tm (P := P) (S := S) (f := f) (g := g) (N := N) hP hN (min D (i + 30) - (i + 1)).toNat (P (hsy (f i))) (i + 1) 1 (by omega) (fun j => by
    show (if ((1 : Nat) : Int) + (j : Int) ≤ 0 then hsy (f i) else f (i + (((1 : Nat) : Int) + (j : Int)))) = _
    rw [if_neg (by omega), show i + (((1 : Nat) : Int) + (j : Int)) = i + 1 + (j : Int) by omega]) n1.symm p0.1 he
  have e : eP P S f N (min D (i + 30) - (i + 1)).toNat (P (hsy (f i))) (i + 1) = eD P S f N D i := rfl
  rw [e] at t
  generalize eD P S f N D i = en at *
  have fg : ∀ k : Nat, k < 1 + (en - (i + 1)).toNat → g (0 + (k : Int)) = fw (wdD f i (en - (i + 1)).toNat) (0 + (k : Int)) := fun k hk => by
    cases k with
    | zero => rfl
    | succ k =>
      have a1 : (0 : Int) + ((k + 1 : Nat) : Int) = ((k + 1 : Nat) : Int) := by omega
      rw [a1, fw_nat, wdD_s (by omega)]
      show (if ((k + 1 : Nat) : Int) ≤ 0 then hsy (f i) else f (i + ((k + 1 : Nat) : Int))) = _
      rw [if_neg (by omega), show i + ((k + 1 : Nat) : Int) = i + 1 + (k : Int) by omega]
  have tg : tm P g 0 (1 + (en - (i + 1)).toNat) := by
    refine ⟨t.1, fun k hk => ?_⟩
    rw [show (0 : Int) + (k : Int) = (k : Int) by omega]
    by_cases ek : k = 0
    · subst ek
      refine ⟨by simp [nd], ?_⟩
      show g 0 < 16
      rw [g0]
      have := hs.2.1; omega
    · exact t.2 k (by omega) hk
  have len : (wdD f i (en - (i + 1)).toNat).length = 1 + (en - (i + 1)).toNat := by rw [wdD_len]; omega
  refine ⟨⟨?_, ?_, fun k hk => ?_⟩, fun x hx x0 => ?_⟩
  · rw [len]; exact tm_congr tg fg
  · rw [wdD_0]; exact hs.1
  · rw [len] at hk
    cases k with
    | zero =>
      show -40 ≤ fw (wdD f i (en - (i + 1)).toNat) 0
      rw [wdD_0]; have := hs.1; omega
    | succ k =>
      rw [fw_nat, wdD_s (by omega)]
      have := hl (i + 1 + (k : Int)) (by omega) (by omega)
      omega
  · unfold wdD at hx
    rcases List.mem_cons.mp hx with e | e
    · rw [e]; exact hW _ hs.1 hs.2.1
    · obtain ⟨k, k1, k2⟩ := List.mem_map.mp e
      rw [List.mem_range] at k1
      have fk := r4 (i + 1 + (k : Int)) (by omega) (by omega)
      rw [k2] at fk
      rcases fk with a | a
      · omega
      · exact hW x x0 a.1
theorem gok_snoc {P W : Int → Int} {A : List zLt} {x : zLt} (h : gok P W A) (h1 : wok1 P x.2) (h2 : ∀ v, v ∈ x.2 → 0 ≤ v → 1 ≤ W v) : gok P W (A ++ [x]) := by
  refine ⟨fun l hl => ?_, fun v hv => ?_⟩
  · rw [List.length_append, List.length_singleton] at hl
    by_cases e : l < A.length
    · rw [lit_app_l e]; exact h.1 l e
    · have e2 : l = A.length := by omega
      rw [e2, lit_app_r]; exact h1
  · obtain ⟨y, y1, y2⟩ := hv
    rcases List.mem_append.mp y1 with a | a
    · exact h.2 v ⟨y, a, y2⟩
    · have e : y = x := by simpa using a
      rw [e] at y2
      exact h2 v y2
theorem rD_ok {P W S f : Int → Int} {N D : Int} (hP : pok P) (hN : N ≤ 16) (hW : ∀ v : Int, 0 ≤ v → v < N → 1 ≤ W v) (hl : ∀ j : Int, 0 ≤ j → j < D → -20 ≤ f j) : ∀ (m : Nat) (A : List zLt) (i : Int), 0 ≤ i → gok P W A → ((rD P S f N D m A i).1 = -1 → gok P W (rD P S f N D m A i).2) ∧ -1 ≤ (rD P S f N D m A i).1 ∧ (0 ≤ D → (rD P S f N D m A i).1 ≤ D)
  | 0, A, i, _, h => ⟨fun _ => h, by show (-1 : Int) ≤ -1; omega, fun _ => by show (-1 : Int) ≤ D; omega⟩
  | m + 1, A, i, h0, h => by
    unfold rD
    by_cases c1 : D ≤ i
    · rw [if_pos c1]; exact ⟨fun _ => h, by show (-1 : Int) ≤ -1; omega, fun _ => by show (-1 : Int) ≤ D; omega⟩
    · rw [if_neg c1]
      by_cases c2 : A.length = 6 ∨ ¬ isS S N (hsy (f i))
      · rw [if_pos c2]; exact ⟨fun _ => h, by show (-1 : Int) ≤ i; omega, fun _ => by show i ≤ D; omega⟩
      · rw [if_neg c2]
        have r := eD_rng (P := P) (S := S) (f := f) (N := N) h0 (by omega : i < D)
        by_cases c3 : eD P S f N D i < 0
        · rw [if_pos c3]
          have := r.2 c3
          exact ⟨fun _ => h, by show (-1 : Int) ≤ -1 - eD P S f N D i; omega, fun _ => by show -1 - eD P S f N D i ≤ D; omega⟩
        · rw [if_neg c3]
          have hs : isS S N (hsy (f i)) := by
            by_cases q : isS S N (hsy (f i))
            · exact q
            · exact absurd (Or.inr q) c2
          obtain ⟨w1, w2⟩ := eD_gok (P := P) (W := W) (S := S) (f := f) (N := N) hP hN hW hl h0 (by omega) hs (by omega)
          have := (r.1 (by omega)).1
          exact rD_ok hP hN hW hl m _ _ (by omega) (gok_snoc h w1 w2)
section SZ
variable {d : List Nat} {G : Nat → Int → Option Nat} {E : Nat → Int → Int}
theorem isFunction_ok (hX : zK zXt d G) (hN : E 1 3 ≤ 16) (v : Int) : zM zm_X8_isFunction [zR 1, zI v] (d, G, E) (some (zI (if 0 ≤ v ∧ v < E 1 3 ∧ E 2 v = 0 then 1 else 0))) (d, G, E) := by
  refine zM_e rfl (Nat.le_of_ble_eq_true rfl) (fun kz Q hQ => X8_isFunction_0 hX ⟨fun y => ?_, fun y => ⟨fun y2 => ?_, fun y2 => ⟨⟨by omega, by omega⟩, fun y3 => ?_, fun y3 => ?_⟩⟩⟩)
  · rw [if_neg (fun z => by omega)] at hQ; exact hQ
  · rw [if_neg (fun z => by omega)] at hQ; exact hQ
  · rw [if_neg (fun z => y3 z.2.2)] at hQ; exact hQ
  · rw [if_pos ⟨by omega, by omega, by omega⟩] at hQ; exact hQ
theorem isSaying_ok (hX : zK zXt d G) (hN : E 1 3 ≤ 16) (v : Int) : zM zm_X8_isSaying [zR 1, zI v] (d, G, E) (some (zI (if isS (E 2) (E 1 3) v then 1 else 0))) (d, G, E) := by
  refine zM_e rfl (Nat.le_of_ble_eq_true rfl) (fun kz Q hQ => X8_isSaying_0 hX ⟨fun y => ?_, fun y => ⟨fun y2 => ?_, fun y2 => ⟨⟨by omega, by omega⟩, fun y3 => ?_, fun y3 => ?_⟩⟩⟩)
  · rw [if_neg (fun z => by have := z.1; omega)] at hQ; exact hQ
  · rw [if_neg (fun z => by have := z.2.1; omega)] at hQ; exact hQ
  · rw [if_neg (fun z => z.2.2 y3)] at hQ; exact hQ
  · rw [if_pos ⟨by omega, by omega, y3⟩] at hQ; exact hQ
theorem endOfParts_go (hX : zK zXt d G) (hP : pok (E 3)) (hN : E 1 3 ≤ 16) : ∀ (m : Nat) (o i : Int), 0 ≤ i → i + m ≤ 200 → 0 ≤ o → o ≤ 3 + 2 * i → zgo zm_X11_endOfParts 20 [(0, zR 0), (3, zI o), (4, zI i), (5, zI (i + m))] [] (d, G, E) (some (zI (eP (E 3) (E 2) (E 9) (E 1 3) m o i))) (d, G, E) := by
  intro m
  induction m with
  | zero =>
    intro o i h0 h2 o0 o2 kz Q hQ
    unfold eP at hQ
    by_cases c : o ≤ 0
    · rw [if_pos c] at hQ
      exact X11_endOfParts_20 hX ⟨fun _ => ⟨fun _ => hQ, fun y => absurd c y⟩, fun y => absurd c y⟩
    · rw [if_neg c] at hQ
      exact X11_endOfParts_20 hX ⟨fun y => absurd y c, fun _ => ⟨fun _ => ⟨fun y => absurd y c, fun _ => ⟨zin_of (by omega) (by omega), hQ⟩⟩, fun y => absurd (by omega) y⟩⟩
  | succ m ih =>
    intro o i h0 h2 o0 o2 kz Q hQ
    unfold eP at hQ
    by_cases c : o ≤ 0
    · rw [if_pos c] at hQ
      exact X11_endOfParts_20 hX ⟨fun _ => ⟨fun _ => hQ, fun y => absurd c y⟩, fun y => absurd c y⟩
    · rw [if_neg c] at hQ
      have el : i + ((m + 1 : Nat) : Int) = i + 1 + (m : Int) := by omega
      refine X11_endOfParts_20 hX ⟨fun y => absurd y c, fun _ => ⟨fun y => absurd y (by omega), fun _ => ⟨⟨by omega, by omega⟩, fun y => ?_, fun y => ?_⟩⟩⟩
      · rw [if_pos (Or.inl y), if_pos y] at hQ
        have mp := partsOf_ok (E := E) hX (E 9 i) (by omega)
        rw [if_pos y] at mp
        have z := ih (o + (-1)) (i + 1) (by omega) (by omega) (by omega) (by omega) kz Q hQ
        rw [← el] at z
        exact ⟨0, mp, zin_of (by omega) (by omega), zin_of (by omega) (by omega), zin_of (by omega) (by omega), z⟩
      · have mf := isFunction_ok (E := E) hX hN (E 9 i)
        by_cases cf : 0 ≤ E 9 i ∧ E 9 i < E 1 3 ∧ E 2 (E 9 i) = 0
        · rw [if_pos cf] at mf
          rw [if_pos (Or.inr cf.2), if_neg y] at hQ
          have p0 := hP (E 9 i) cf.1 (by omega)
          have mp := partsOf_ok (E := E) hX (E 9 i) (by omega)
          rw [if_neg y] at mp
          have z := ih (o + (E 3 (E 9 i) - 1)) (i + 1) (by omega) (by omega) (by omega) (by omega) kz Q hQ
          rw [← el] at z
          exact ⟨1, mf, fun _ => ⟨_, mp, zin_of (by omega) (by omega), zin_of (by omega) (by omega), zin_of (by omega) (by omega), z⟩, fun q => absurd (by decide) q⟩
        · rw [if_neg cf] at mf
          rw [if_neg (fun q => by
            rcases q with a | a
            · exact y a
            · exact cf ⟨by omega, a⟩)] at hQ
          exact ⟨0, mf, fun q => absurd rfl q, fun _ => ⟨zin_of (by omega) (by omega), hQ⟩⟩
theorem endOfParts_ok {i p : Int} (hX : zK zXt d G) (hP : pok (E 3)) (hN : E 1 3 ≤ 16) (h0 : 0 ≤ i) (hi : i < E 0 12) (hD : E 0 12 ≤ 200) (hp : 0 ≤ p ∧ p ≤ 3) : zM zm_X11_endOfParts [zR 0, zI (i + 1), zI p] (d, G, E) (some (zI (eP (E 3) (E 2) (E 9) (E 1 3) (min (E 0 12) (i + 30) - (i + 1)).toNat p (i + 1)))) (d, G, E) := by
  refine zM_e rfl (Nat.le_of_ble_eq_true rfl) (fun kz Q hQ => X11_endOfParts_0 hX ⟨zin_of (by omega) (by omega), zin_of (by omega) (by omega), min (E 0 12) (i + 30), ?_, ?_⟩)
  · rw [show i + 1 + 30 - 1 = i + 30 by omega]
    exact min_ok
  · have g := endOfParts_go (E := E) hX hP hN (min (E 0 12) (i + 30) - (i + 1)).toNat p (i + 1) (by omega) (by omega) (by omega) (by omega) kz Q hQ
    rw [show i + 1 + (((min (E 0 12) (i + 30) - (i + 1)).toNat : Nat) : Int) = min (E 0 12) (i + 30) by omega] at g
    exact g
theorem readDraft_go (hX : zK zXt d G) (hP : pok (E 3)) (hN : E 1 3 ≤ 16) (hD : E 0 12 ≤ 200) (hl : ∀ j : Int, 0 ≤ j → j < E 0 12 → -20 ≤ E 9 j ∧ E 9 j ≤ 3000) : ∀ (m : Nat) (A : List zLt) (i : Int) (F : Nat → Int → Int), A.length + m = 7 → 0 ≤ i → fz [9, 10, 11, 12, 13] E F → (∀ j : Int, i ≤ j → F 9 j = E 9 j) → rowC F 10 A → ∃ F' : Nat → Int → Int, zgo zm_X11_readDraft 11 [(0, zR 0), (1, zI i), (2, zI (A.length : Int))] [] (d, G, F) (some (zI (rD (E 3) (E 2) (E 9) (E 1 3) (E 0 12) m A i).1)) (d, G, F') ∧ fz [9, 10, 11, 12, 13] E F' ∧ ((rD (E 3) (E 2) (E 9) (E 1 3) (E 0 12) m A i).1 = -1 → rowC F' 10 (rD (E 3) (E 2) (E 9) (E 1 3) (E 0 12) m A i).2) := by
  intro m
  induction m with
  | zero =>
    intro A i F hm h0 hf h9 hA
    have := hA.2.1
    omega
  | succ m ih =>
    intro A i F hm h0 hf h9 hA
    have a6 := hA.2.1
    have a0 : F 0 = E 0 := hf 0 (by simp)
    have a1 : F 1 = E 1 := hf 1 (by simp)
    have a2 : F 2 = E 2 := hf 2 (by simp)
    have a3 : F 3 = E 3 := hf 3 (by simp)
    have a9 : F 9 i = E 9 i := h9 i (Int.le_refl _)
    unfold rD
    by_cases c1 : E 0 12 ≤ i
    · rw [if_pos c1]
      exact ⟨F, fun kz Q hQ => X11_readDraft_11 hX ⟨fun y => absurd y (by omega), fun _ => ⟨fun _ => hQ, fun y => absurd (by rw [a0]; exact c1) y⟩⟩, hf, fun _ => hA⟩
    rw [if_neg c1]
    have hl1 := hl i h0 (by omega)
    -- to the head's place
    have hd : ∀ (kz : Nat × Nat) (Q : Option zV → zH → Prop), Z zm_X11_readDraft kz Q 44 [(0, zR 0), (1, zI i), (2, zI (A.length : Int)), (3, zI (E 9 i))] [zI (hdn (E 9 i))] (d, G, F) → Z zm_X11_readDraft kz Q 11 [(0, zR 0), (1, zI i), (2, zI (A.length : Int))] [] (d, G, F) := fun kz Q hz => X11_readDraft_11 hX ⟨fun y => absurd y (by omega), fun _ => ⟨fun y => absurd (by rw [a0] at y; exact y) c1, fun _ => ⟨⟨by omega, by omega⟩, fun y => by
      rw [a9] at y ⊢
      unfold hdn at hz
      rw [if_pos y] at hz; exact hz, fun y => by
      rw [a9] at y ⊢
      unfold hdn at hz
      rw [if_neg y] at hz; exact hz⟩⟩⟩
    by_cases c6 : A.length = 6
    · rw [if_pos (Or.inl c6)]
      refine ⟨F, fun kz Q hQ => hd kz Q (X11_readDraft_44 hX ⟨fun _ => ⟨zin_of (by omega) (by omega), fun _ => hQ, fun y => absurd (by omega) y⟩, fun _ => ⟨zin_of (by omega) (by omega), fun _ => hQ, fun y => absurd (by omega) y⟩⟩), hf, fun z => ?_⟩
      exact hA
    have ms := isSaying_ok (E := F) (d := d) (G := G) hX (by rw [a1]; exact hN) (hsy (E 9 i))
    rw [a1, a2] at ms
    -- one of the two ways from 44 on
    have hw : ∀ (kz : Nat × Nat) (Q : Option zV → zH → Prop), (∃ x_4, zM zm_X8_isSaying [zR 1, zI (hsy (E 9 i))] (d, G, F) (some (zI x_4)) (d, G, F) ∧ (x_4 ≠ 0 → zin (i + 1) ∧ ∃ x_9, zM zm_X8_partsOf [zR 1, zI (hsy (E 9 i))] (d, G, F) (some (zI x_9)) (d, G, F) ∧ ∃ x_12, zM zm_X11_endOfParts [zR 0, zI ((i + 1)), zI x_9] (d, G, F) (some (zI x_12)) (d, G, F) ∧ (0 ≤ x_12 → ((0 : Int) ≤ i ∧ i < (200 : Int)) ∧ ∀ E_17, E_17 = zuE F 9 i (hsy (E 9 i)) → zin (x_12 - i) ∧ ∃ x_19 E_20, zM zm_X5_take [zR 10, zI (hdn (E 9 i)), zR 9, zI i, zI ((x_12 - i))] (d, G, E_17) (some (zI x_19)) (d, G, E_20) ∧ zin ((A.length : Int) + 1) ∧ Z zm_X11_readDraft kz Q 11 [(0, zR 0), (1, zI x_12), (2, zI (((A.length : Int) + 1)))] [] (d, G, E_20)) ∧ (¬ (0 ≤ x_12) → zin ((-1) - x_12) ∧ Q (some (zI (((-1) - x_12)))) (d, G, F))) ∧ (¬ (x_4 ≠ 0) → Q (some (zI i)) (d, G, F))) → Z zm_X11_readDraft kz Q 44 [(0, zR 0), (1, zI i), (2, zI (A.length : Int)), (3, zI (E 9 i))] [zI (hdn (E 9 i))] (d, G, F) := fun kz Q hz => X11_readDraft_44 hX ⟨fun y => ⟨zin_of (by omega) (by omega), fun y2 => absurd (by omega) c6, fun _ => by
      have e : hsy (E 9 i) = E 9 i - 1000 := by
        unfold hsy; unfold hdn at y
        by_cases q : E 9 i < 2000
        · rw [if_pos q]
        · rw [if_neg q] at y; omega
      rw [e] at hz; exact hz⟩, fun y => ⟨zin_of (by omega) (by omega), fun y2 => absurd (by omega) c6, fun _ => by
      have e : hsy (E 9 i) = E 9 i - 2000 := by
        unfold hsy; unfold hdn at y
        by_cases q : E 9 i < 2000
        · rw [if_pos q] at y; exact absurd rfl y
        · rw [if_neg q]
      rw [e] at hz; exact hz⟩⟩
    by_cases cs : isS (E 2) (E 1 3) (hsy (E 9 i))
    case neg =>
      rw [if_pos (Or.inr cs)]
      rw [if_neg cs] at ms
      exact ⟨F, fun kz Q hQ => hd kz Q (hw kz Q ⟨0, ms, fun y => absurd rfl y, fun _ => hQ⟩), hf, fun _ => hA⟩
    rw [if_pos cs] at ms
    rw [if_neg (fun z => by
      rcases z with a | a
      · exact c6 a
      · exact a cs)]
    have s16 : hsy (E 9 i) < 16 := by have := cs.2.1; omega
    have s0 := cs.1
    have mp := partsOf_ok (E := F) (d := d) (G := G) hX (hsy (E 9 i)) s16
    rw [if_neg (by omega), a3] at mp
    have hp := hP (hsy (E 9 i)) s0 s16
    have me := endOfParts_ok (E := F) (d := d) (G := G) (i := i) (p := E 3 (hsy (E 9 i))) hX (by rw [a3]; exact hP) (by rw [a1]; exact hN) h0 (by rw [a0]; omega) (by rw [a0]; exact hD) hp
    rw [a0, a1, a2, a3] at me
    have ec : eP (E 3) (E 2) (F 9) (E 1 3) (min (E 0 12) (i + 30) - (i + 1)).toNat (E 3 (hsy (E 9 i))) (i + 1) = eD (E 3) (E 2) (E 9) (E 1 3) (E 0 12) i := eP_congr _ _ _ (fun j j1 _ => h9 j (by omega))
    rw [ec] at me
    have rg := eD_rng (P := E 3) (S := E 2) (f := E 9) (N := E 1 3) (D := E 0 12) h0 (by omega)
    by_cases ce : eD (E 3) (E 2) (E 9) (E 1 3) (E 0 12) i < 0
    · rw [if_pos ce]
      have := rg.2 ce
      exact ⟨F, fun kz Q hQ => hd kz Q (hw kz Q ⟨1, ms, fun _ => ⟨zin_of (by omega) (by omega), _, mp, _, me, fun y => absurd y (by omega), fun _ => ⟨zin_of (by omega) (by omega), hQ⟩⟩, fun y => absurd (by decide) y⟩), hf, fun _ => hA⟩
    rw [if_neg ce]
    obtain ⟨q1, q2, q3, _⟩ := rg.1 (by omega)
    generalize eD (E 3) (E 2) (E 9) (E 1 3) (E 0 12) i = en at *
    let F1 := zuE F 9 i (hsy (E 9 i))
    have f1 : fz [9, 10, 11, 12, 13] E F1 := fz_put hf (by simp)
    have A1 : rowC F1 10 A := rowC_fz hA (S := [9]) (fz_put fz_rfl (by simp)) (by simp) (by simp) (by simp) (by simp)
    have len : (wdD (E 9) i (en - (i + 1)).toNat).length = (en - (i + 1)).toNat + 1 := wdD_len
    have hdn1 : hdn (E 9 i) = 0 ∨ hdn (E 9 i) = 1 := by
      unfold hdn
      split
      · exact Or.inl rfl
      · exact Or.inr rfl
    have h9d : 9 ∈ d := (zX_0_2 hX).2.2
    obtain ⟨F2, m2, r2, g2, _⟩ := take_ok (E := F1) (d := d) (G := G) (r := 10) (a := 9) (n := 200) (A := A) (dn := hdn (E 9 i)) (i := i) (w := wdD (E 9) i (en - (i + 1)).toNat) hX (zXr10 hX) h9d rfl A1 (by omega) (by omega) hdn1 h0 (by omega) (fun k hk => by
      cases k with
      | zero =>
        rw [show i + ((0 : Nat) : Int) = i by omega]
        exact zuE_same
      | succ k =>
        rw [wdD_s (by omega), show i + ((k + 1 : Nat) : Int) = i + 1 + (k : Int) by omega]
        exact (zuE_ix (by omega)).trans (h9 _ (by omega)))
    rw [show ((wdD (E 9) i (en - (i + 1)).toNat).length : Int) = en - i by omega] at m2
    obtain ⟨F', z, zf, zr⟩ := ih (A ++ [(hdn (E 9 i), wdD (E 9) i (en - (i + 1)).toNat)]) en F2 (by simp; omega) (by omega) (fz_trans f1 (fz_mono g2 (by simp))) (fun j hj => by
      rw [g2 9 (by simp)]
      exact (zuE_ix (by omega)).trans (h9 j (by omega))) r2
    rw [show (((A ++ [(hdn (E 9 i), wdD (E 9) i (en - (i + 1)).toNat)]).length : Nat) : Int) = (A.length : Int) + 1 by simp] at z
    exact ⟨F', fun kz Q hQ => hd kz Q (hw kz Q ⟨1, ms, fun _ => ⟨zin_of (by omega) (by omega), _, mp, _, me, fun _ => ⟨⟨by omega, by omega⟩, fun H h => by
      rw [h]
      exact ⟨zin_of (by omega) (by omega), _, _, m2, zin_of (by omega) (by omega), z kz Q hQ⟩⟩, fun y => absurd (by omega) y⟩, fun y => absurd (by decide) y⟩), zf, zr⟩
theorem readDraft_ok (hX : zK zXt d G) (hP : pok (E 3)) (hN : E 1 3 ≤ 16) (hD : E 0 12 ≤ 200) (hl : ∀ j : Int, 0 ≤ j → j < E 0 12 → -20 ≤ E 9 j ∧ E 9 j ≤ 3000) : ∃ F' : Nat → Int → Int, zM zm_X11_readDraft [zR 0] (d, G, E) (some (zI (rD (E 3) (E 2) (E 9) (E 1 3) (E 0 12) 7 [] 0).1)) (d, G, F') ∧ fz [9, 10, 11, 12, 13] E F' ∧ ((rD (E 3) (E 2) (E 9) (E 1 3) (E 0 12) 7 [] 0).1 = -1 → rowC F' 10 (rD (E 3) (E 2) (E 9) (E 1 3) (E 0 12) 7 [] 0).2) := by
  obtain ⟨F, m1, r1, f1, _⟩ := empty_ok (E := E) (d := d) (G := G) (r := 10) hX (zXr10 hX)
  obtain ⟨F', z, zf, zr⟩ := readDraft_go (E := E) hX hP hN hD hl 7 [] 0 F rfl (by omega) (fz_mono f1 (by simp)) (fun j _ => by rw [f1 9 (by simp)]) r1
  exact ⟨F', zM_go rfl (Nat.le_of_ble_eq_true rfl) (fun kz Q hQ => X11_readDraft_0 hX ⟨F, m1, z kz Q hQ⟩), zf, zr⟩
end SZ
