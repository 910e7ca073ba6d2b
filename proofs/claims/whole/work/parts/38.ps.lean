/-! ===== letters numbered anew ===== -/
def flat : List zLt → List Int
  | [] => []
  | x :: A => x.2 ++ flat A
theorem flat_at : ∀ {A : List zLt} {l k : Nat}, l < A.length → k < (lit A l).2.length → (flat A).getD (offs A l + k) 0 = (lit A l).2.getD k 0
  | [], l, k, h, _ => absurd h (by simp)
  | x :: A, 0, k, _, hk => by
    rw [lit_c0] at hk ⊢
    simp only [flat, offs, Nat.zero_add]
    rw [List.getD_eq_getElem?_getD, List.getD_eq_getElem?_getD, List.getElem?_append_left hk]
  | x :: A, l + 1, k, h, hk => by
    rw [lit_cs] at hk ⊢
    have h' : l < A.length := by simpa using h
    rw [offs_c, ← flat_at h' hk]
    simp only [flat]
    rw [List.getD_eq_getElem?_getD, List.getD_eq_getElem?_getD, List.getElem?_append_right (by omega)]
    congr 2
    omega
/-- the places one behind the other -/
def ff (A : List zLt) (i : Nat) : Int := (flat A).getD i 0
/-- the numbers of letters, behind k places -/
def nms (F : Nat → Int) : Nat → (Int → Int) × Int
  | 0 => (fun _ => -1, 0)
  | k + 1 => if F k < 0 ∧ (nms F k).1 (-1 - F k) = -1 then (fun L => if L = -1 - F k then (nms F k).2 else (nms F k).1 L, (nms F k).2 + 1) else nms F k
def nmv (F : Nat → Int) (k : Nat) : Int := if F k < 0 then -1 - (nms F (k + 1)).1 (-1 - F k) else F k
theorem nms_b (F : Nat → Int) : ∀ k : Nat, 0 ≤ (nms F k).2 ∧ (nms F k).2 ≤ k ∧ ∀ L : Int, -1 ≤ (nms F k).1 L ∧ (nms F k).1 L < (nms F k).2
  | 0 => ⟨by simp [nms], by simp [nms], fun L => by simp [nms]⟩
  | k + 1 => by
    obtain ⟨a, b, c⟩ := nms_b F k
    simp only [nms]
    split
    · refine ⟨by dsimp only; omega, by dsimp only; omega, fun L => ?_⟩
      dsimp only
      have := c L
      split <;> omega
    · exact ⟨a, by omega, c⟩
theorem nms_has (F : Nat → Int) {k : Nat} (h : F k < 0) : 0 ≤ (nms F (k + 1)).1 (-1 - F k) := by
  have b := nms_b F k
  have c := b.2.2 (-1 - F k)
  simp only [nms]
  split
  · dsimp only; rw [if_pos rfl]; exact b.1
  · rename_i q
    have : (nms F k).1 (-1 - F k) ≠ -1 := fun e => q ⟨h, e⟩
    omega
theorem nms_no {F : Nat → Int} {k : Nat} (h : ¬ F k < 0) : nms F (k + 1) = nms F k := by
  simp only [nms]; exact if_neg (fun q => h q.1)
theorem nms_old {F : Nat → Int} {k : Nat} (h : (nms F k).1 (-1 - F k) ≠ -1) : nms F (k + 1) = nms F k := by
  simp only [nms]; exact if_neg (fun q => h q.2)
theorem nms_new {F : Nat → Int} {k : Nat} (h0 : F k < 0) (h : (nms F k).1 (-1 - F k) = -1) : nms F (k + 1) = (fun L => if L = -1 - F k then (nms F k).2 else (nms F k).1 L, (nms F k).2 + 1) := by
  simp only [nms]; exact if_pos ⟨h0, h⟩
/-- the row with its letters numbered anew -/
def ren (A : List zLt) : List zLt := (List.range A.length).map (fun l => ((lit A l).1, (List.range (lit A l).2.length).map (fun k => nmv (ff A) (offs A l + k))))
def lts (A : List zLt) : Int := (nms (ff A) (offs A A.length)).2
theorem ren_len {A : List zLt} : (ren A).length = A.length := by simp [ren]
theorem ren_lit {A : List zLt} {l : Nat} (h : l < A.length) : lit (ren A) l = ((lit A l).1, (List.range (lit A l).2.length).map (fun k => nmv (ff A) (offs A l + k))) := by
  have e : ∀ B : List zLt, lit B l = (B[l]?).getD (0, []) := fun B => by unfold lit; rw [List.getD_eq_getElem?_getD]
  rw [e (ren A)]
  unfold ren
  rw [List.getElem?_map, List.getElem?_range h]
  rfl
theorem ren_wl {A : List zLt} {l : Nat} (h : l < A.length) : (lit (ren A) l).2.length = (lit A l).2.length := by rw [ren_lit h]; simp
theorem ren_w {A : List zLt} {l k : Nat} (h : l < A.length) (hk : k < (lit A l).2.length) : (lit (ren A) l).2.getD k 0 = nmv (ff A) (offs A l + k) := by
  rw [ren_lit h, List.getD_eq_getElem?_getD]
  dsimp only
  rw [List.getElem?_map, List.getElem?_range hk]
  rfl
theorem ren_offs {A : List zLt} {l : Nat} (h : l ≤ A.length) : offs (ren A) l = offs A l := offs_eq (fun k hk => ren_wl (by omega))
/-- where a place of the whole row lies -/
theorem offs_find : ∀ {A : List zLt} {n j : Nat}, n ≤ A.length → j < offs A n → ∃ l k : Nat, l < n ∧ k < (lit A l).2.length ∧ j = offs A l + k
  | A, 0, j, _, h => absurd h (by simp [offs])
  | A, n + 1, j, hn, h => by
    simp only [offs] at h
    rcases (by omega : j < offs A n ∨ offs A n ≤ j) with c | c
    · obtain ⟨l, k, a, b, e⟩ := offs_find (A := A) (by omega) c
      exact ⟨l, k, by omega, b, e⟩
    · exact ⟨n, j - offs A n, by omega, by omega, by omega⟩
theorem offs_lt {A : List zLt} {l k : Nat} (h : l < A.length) (hk : k < (lit A l).2.length) : offs A l + k < offs A A.length := by
  have : offs A (l + 1) ≤ offs A A.length := offs_mono (by omega)
  simp only [offs] at this
  omega
section PS
variable {d : List Nat} {G : Nat → Int → Option Nat} {E : Nat → Int → Int}
theorem fill_ok {a n : Nat} {v : Int} (ha : a ∈ d) (hk : zkd a = (0, n)) (hn : n ≤ 100000) : ∃ E' : Nat → Int → Int, zM zm_J7_fill_53178 [zR a, zI v] (d, G, E) none (d, G, E') ∧ fz [a] E E' ∧ ∀ j : Int, 0 ≤ j → j < n → E' a j = v := by
  have loop : ∀ (m k : Nat) (F : Nat → Int → Int), k + m = n → fz [a] E F → (∀ j : Int, 0 ≤ j → j < k → F a j = v) → ∃ E' : Nat → Int → Int, zgo zm_J7_fill_53178 5 [(0, zR a), (1, zI v), (2, zI (k : Int)), (3, zI (n : Int))] [] (d, G, F) none (d, G, E') ∧ fz [a] E E' ∧ ∀ j : Int, 0 ≤ j → j < n → E' a j = v := by
    intro m
    induction m with
    | zero => exact fun k F hk' hf hv => ⟨F, fun kz Q hQ => J7_fill_53178_5 ha hk ⟨fun _ => hQ, fun c => absurd (by omega) c⟩, hf, fun j j1 j2 => hv j j1 (by omega)⟩
    | succ m ih =>
      intro k F hk' hf hv
      obtain ⟨E', z, zr⟩ := ih (k + 1) (zuE F a k v) (by omega) (fz_put hf (by simp)) (fun j j1 j2 => by
        rcases (by omega : j = (k : Int) ∨ j ≠ (k : Int)) with e | e
        · subst e; exact zuE_same
        · rw [zuE_ix e]; exact hv j j1 (by omega))
      have ek : ((k + 1 : Nat) : Int) = (k : Int) + 1 := by omega
      rw [ek] at z
      exact ⟨E', fun kz Q hQ => J7_fill_53178_5 ha hk ⟨fun c => absurd c (by omega), fun _ => ⟨⟨by omega, by omega⟩, fun F1 h1 => by rw [h1]; exact ⟨zin_of (by omega) (by omega), z kz Q hQ⟩⟩⟩, zr⟩
  obtain ⟨E', z, zr⟩ := loop n 0 E (by omega) fz_rfl (fun j j1 j2 => by omega)
  exact ⟨E', zM_go rfl (Nat.le_of_ble_eq_true rfl) (fun kz Q hQ => J7_fill_53178_0 ha hk ⟨zin_of (by omega) (by omega), z kz Q hQ⟩), zr⟩
theorem numberLetters_ok {r : Nat} {A : List zLt} (hX : zK zXt d G) (hr : zRk d G r) (hr1 : r + 3 < 18 ∨ 40 < r) (hA : rowC E r A) (hl : ∀ i : Nat, i < offs A A.length → -40 ≤ ff A i ∧ ff A i < 16) :
    ∃ E' : Nat → Int → Int, zM zm_X2_numberLetters [zR 30, zR r] (d, G, E) none (d, G, E') ∧ rowC E' r (ren A) ∧ fz [30, 32, r + 1] E E' ∧ E' 30 4 = lts A := by
  have h6 := hA.2.1
  have tot := rowC_le hA (Nat.le_refl _)
  have pl : ∀ i : Nat, i < offs A A.length → E (r + 1) i = ff A i := fun i hi => by
    obtain ⟨l, k, a, b, e⟩ := offs_find (Nat.le_refl _) hi
    subst e
    have := (hA.2.2.2 l a).2.2.2 k b
    rw [← flat_at a b] at this
    have e2 : (offs A l : Int) + k = ((offs A l + k : Nat) : Int) := by omega
    rw [e2] at this
    exact this
  obtain ⟨E1, m1, f1, v1⟩ := fill_ok (E := E) (G := G) (a := 32) (n := 40) (v := -1) (zX_30_3 hX).2.2 rfl (by omega)
  let E2 := zuE E1 30 4 0
  have e2 : ∀ x : Nat, x ≠ 30 → x ≠ 32 → E2 x = E x := fun x x1 x2 => (zuE_nf x1).trans (f1 x (by simp; omega))
  have s0 : E2 r 3 = A.length := by rw [e2 r (by omega) (by omega)]; exact hA.1
  have s1 : E2 (r + 2) (A.length : Int) = offs A A.length := by rw [e2 _ (by omega) (by omega)]; exact hA.2.2.1 _ (Nat.le_refl _)
  have loop : ∀ (m k : Nat) (F : Nat → Int → Int), k + m = offs A A.length → fz [30, 32, r + 1] E F → F 30 4 = (nms (ff A) k).2 → (∀ L : Int, 0 ≤ L → L < 40 → F 32 L = (nms (ff A) k).1 L) → (∀ i : Nat, i < offs A A.length → F (r + 1) i = if i < k then nmv (ff A) i else ff A i) →
      ∃ E' : Nat → Int → Int, zgo zm_X2_numberLetters 25 [(0, zR 30), (1, zR r), (2, zI (offs A A.length : Int)), (3, zI (k : Int))] [] (d, G, F) none (d, G, E') ∧ fz [30, 32, r + 1] E E' ∧ E' 30 4 = lts A ∧ ∀ i : Nat, i < offs A A.length → E' (r + 1) i = nmv (ff A) i := by
    intro m
    induction m with
    | zero =>
      intro k F hk hf h4 h32 hp
      have ek : k = offs A A.length := by omega
      exact ⟨F, fun kz Q hQ => X2_numberLetters_25 hX hr ⟨fun _ => hQ, fun c => absurd (by omega) c⟩, hf, by rw [h4, ek]; rfl, fun i hi => by rw [hp i hi, if_pos (by omega)]⟩
    | succ m ih =>
      intro k F hk hf h4 h32 hp
      have ek : ((k + 1 : Nat) : Int) = (k : Int) + 1 := by omega
      have pk := hp k (by omega)
      rw [if_neg (by omega)] at pk
      have lk0 := hl k (by omega)
      have nb := nms_b (ff A) k
      by_cases hn : ff A k < 0
      · have nl := nb.2.2 (-1 - ff A k)
        have h32k := h32 (-1 - ff A k) (by omega) (by omega)
        by_cases hq : (nms (ff A) k).1 (-1 - ff A k) = -1
        · have en := nms_new hn hq
          have ev : nmv (ff A) k = -1 - (nms (ff A) k).2 := by
            unfold nmv; rw [if_pos hn, en]; dsimp only; rw [if_pos rfl]
          obtain ⟨E', z, zr⟩ := ih (k + 1) (zuE (zuE (zuE F 32 (-1 - ff A k) ((nms (ff A) k).2)) 30 4 ((nms (ff A) k).2 + 1)) (r + 1) k (-1 - (nms (ff A) k).2)) (by omega) (fz_put (fz_put (fz_put hf (by simp)) (by simp)) (by simp))
            (by rw [zuE_ne (by omega), zuE_same, en])
            (fun L l1 l2 => by
              rw [zuE_ne (by omega), zuE_ne (by decide), en]
              dsimp only
              rcases (by omega : L = -1 - ff A k ∨ L ≠ -1 - ff A k) with e | e
              · subst e; rw [zuE_same, if_pos rfl]
              · rw [zuE_ix e, if_neg e]; exact h32 L l1 l2)
            (fun i hi => by
              rcases (by omega : i = k ∨ i ≠ k) with e | e
              · subst e; rw [zuE_same, if_pos (by omega), ev]
              · rw [zuE_ix (by omega), zuE_ne (by omega), zuE_ne (by omega), hp i hi]
                rcases (by omega : i < k ∨ ¬ i < k) with c | c
                · rw [if_pos c, if_pos (by omega)]
                · rw [if_neg c, if_neg (by omega)])
          rw [ek] at z
          refine ⟨E', fun kz Q hQ => X2_numberLetters_25 hX hr ⟨fun c => absurd c (by omega), fun _ => ?_⟩, zr⟩
          rw [pk]
          refine ⟨⟨by omega, by omega⟩, zin_of (by omega) (by omega), fun c => absurd c (by omega), fun _ => ⟨fun c => absurd c (by omega), fun _ => ⟨⟨by omega, by omega⟩, fun c => absurd (by rw [h32k]; exact hq) c, fun _ => ⟨⟨by omega, by omega⟩, fun F1 h1 => ?_⟩⟩⟩⟩
          rw [h1, zuE_ne (by decide), h4]
          refine ⟨zin_of (by omega) (by omega), fun F2 h2 => ⟨⟨by omega, by omega⟩, ?_⟩⟩
          rw [h2, zuE_ne (by decide), zuE_same]
          refine ⟨zin_of (by omega) (by omega), ⟨by omega, by omega⟩, fun F3 h3 => ⟨zin_of (by omega) (by omega), ?_⟩⟩
          rw [h3]
          exact z kz Q hQ
        · have en := nms_old hq
          have ev : nmv (ff A) k = -1 - (nms (ff A) k).1 (-1 - ff A k) := by
            unfold nmv; rw [if_pos hn, en]
          obtain ⟨E', z, zr⟩ := ih (k + 1) (zuE F (r + 1) k (-1 - (nms (ff A) k).1 (-1 - ff A k))) (by omega) (fz_put hf (by simp))
            (by rw [zuE_ne (by omega), en]; exact h4)
            (fun L l1 l2 => by rw [zuE_ne (by omega), en]; exact h32 L l1 l2)
            (fun i hi => by
              rcases (by omega : i = k ∨ i ≠ k) with e | e
              · subst e; rw [zuE_same, if_pos (by omega), ev]
              · rw [zuE_ix (by omega), hp i hi]
                rcases (by omega : i < k ∨ ¬ i < k) with c | c
                · rw [if_pos c, if_pos (by omega)]
                · rw [if_neg c, if_neg (by omega)])
          rw [ek] at z
          refine ⟨E', fun kz Q hQ => X2_numberLetters_25 hX hr ⟨fun c => absurd c (by omega), fun _ => ?_⟩, zr⟩
          rw [pk, h32k]
          exact ⟨⟨by omega, by omega⟩, zin_of (by omega) (by omega), fun c => absurd c (by omega), fun _ => ⟨fun c => absurd c (by omega), fun _ => ⟨⟨by omega, by omega⟩, fun _ => ⟨⟨by omega, by omega⟩, zin_of (by omega) (by omega), ⟨by omega, by omega⟩, fun F1 h1 => ⟨zin_of (by omega) (by omega), by rw [h1]; exact z kz Q hQ⟩⟩, fun c => absurd hq c⟩⟩⟩
      · have en := nms_no (F := ff A) hn
        obtain ⟨E', z, zr⟩ := ih (k + 1) F (by omega) hf (by rw [en]; exact h4) (fun L l1 l2 => by rw [en]; exact h32 L l1 l2) (fun i hi => by
          rw [hp i hi]
          rcases (by omega : i = k ∨ i < k ∨ k < i) with e | e | e
          · subst e; rw [if_neg (by omega), if_pos (by omega)]; unfold nmv; rw [if_neg hn]
          · rw [if_pos e, if_pos (by omega)]
          · rw [if_neg (by omega), if_neg (by omega)])
        rw [ek] at z
        refine ⟨E', fun kz Q hQ => X2_numberLetters_25 hX hr ⟨fun c => absurd c (by omega), fun _ => ?_⟩, zr⟩
        rw [pk]
        exact ⟨⟨by omega, by omega⟩, zin_of (by omega) (by omega), fun _ => ⟨zin_of (by omega) (by omega), z kz Q hQ⟩, fun c => absurd (by omega) c⟩
  obtain ⟨E', z, hf, h4, hp⟩ := loop (offs A A.length) 0 E2 (by omega) (fun x hx => e2 x (by simp at hx; omega) (by simp at hx; omega)) zuE_same (fun L l1 l2 => (zuE_ne (by decide) _).trans (v1 L l1 l2)) (fun i hi => by rw [e2 _ (by omega) (by omega), if_neg (by omega)]; exact pl i hi)
  refine ⟨E', zM_go rfl (Nat.le_of_ble_eq_true rfl) (fun kz Q hQ => X2_numberLetters_0 hX hr ⟨E1, m1, fun F1 h1 => ?_⟩), ?_, hf, h4⟩
  · rw [h1]
    show (0 ≤ E2 r 3 ∧ E2 r 3 < 7) ∧ Z _ _ _ _ [_, _, (2, zI (E2 (r + 2) (E2 r 3))), _] _ (d, G, E2)
    rw [s0, s1]
    exact ⟨⟨by omega, by omega⟩, z kz Q hQ⟩
  · have f0 : E' r = E r := hf r (by simp; omega)
    have f2 : E' (r + 2) = E (r + 2) := hf _ (by simp; omega)
    have f3 : E' (r + 3) = E (r + 3) := hf _ (by simp; omega)
    refine ⟨by rw [f0, ren_len]; exact hA.1, by rw [ren_len]; exact h6, fun l hl => ?_, fun l hl => ?_⟩
    · rw [ren_len] at hl
      rw [f2, ren_offs hl]; exact hA.2.2.1 l hl
    · rw [ren_len] at hl
      obtain ⟨a1, a2, a3, a4⟩ := hA.2.2.2 l hl
      have e1 : (lit (ren A) l).1 = (lit A l).1 := by rw [ren_lit hl]
      rw [f3, e1, ren_wl hl, ren_offs (by omega)]
      refine ⟨a1, a2, a3, fun k hk => ?_⟩
      rw [ren_w hl hk, ← hp _ (offs_lt hl hk)]
      congr 1
end PS
