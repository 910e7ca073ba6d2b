/-! ===== proof: the class's marks ===== -/
/-- the claims that a claim's step names -/
def nmL (nm tt : List Int) : List Int := (if 1 ≤ nm.getD 0 0 then [nm.getD 1 0] else []) ++ ((if nm.getD 0 0 = 1 then [nm.getD 3 0] else if nm.getD 0 0 = 4 then [nm.getD 4 0] else []) ++ (List.range (tt.length / 4)).map (fun (j : Nat) => tt.getD (4 * j) 0))
/-- a claim of the proof -/
def inP (s : zS) (c : Nat) : Prop := ∀ S : Nat → Prop, (∀ b : Nat, b < sK s → (sR s b).length = 0 → S b) → (∀ b b' : Nat, b < sK s → b' < sK s → S b → (b' : Int) ∈ nmL (sN s b) (sW s b) → S b') → S c
theorem inP_0 {s : zS} {b : Nat} (hb : b < sK s) (h0 : (sR s b).length = 0) : inP s b := fun _ h1 _ => h1 b hb h0
theorem inP_s {s : zS} {b b' : Nat} (hb : b < sK s) (hb' : b' < sK s) (h : inP s b) (hn : (b' : Int) ∈ nmL (sN s b) (sW s b)) : inP s b' := fun S h1 h2 => h2 b b' hb hb' (h S h1 h2) hn
theorem cnS_cg {T T' : Nat → Int} {v : Int} : ∀ K : Nat, (∀ c : Nat, c < K → T' c = T c) → cnS T' v K = cnS T v K
  | 0, _ => rfl
  | K + 1, h => by
    simp only [cnS]
    rw [cnS_cg K (fun c hc => h c (by omega)), h K (by omega)]
theorem cnS_up {T T' : Nat → Int} {v : Int} {c : Nat} (h1 : T' c = v) (h2 : T c ≠ v) (h3 : ∀ b : Nat, b ≠ c → T' b = T b) : ∀ K : Nat, c < K → cnS T' v K = cnS T v K + 1
  | 0, h => by omega
  | K + 1, h => by
    simp only [cnS]
    by_cases e : c = K
    · subst e
      rw [cnS_cg c (fun b hb => h3 b (by omega)), if_pos h1, if_neg h2]; omega
    · rw [cnS_up h1 h2 h3 K (by omega), h3 K (fun q => e q.symm)]; omega
theorem cnS_lt {T : Nat → Int} {v : Int} {c : Nat} (h2 : T c ≠ v) : ∀ K : Nat, c < K → cnS T v K < K
  | 0, h => by omega
  | K + 1, h => by
    simp only [cnS]
    by_cases e : c = K
    · subst e
      have := (cnS_le (T := T) (v := v) c).2
      rw [if_neg h2]; omega
    · have := cnS_lt h2 K (by omega)
      split <;> omega
theorem nmL_mem {nm tt : List Int} {v : Int} : v ∈ nmL nm tt ↔ (1 ≤ nm.getD 0 0 ∧ v = nm.getD 1 0) ∨ (nm.getD 0 0 = 1 ∧ v = nm.getD 3 0) ∨ (nm.getD 0 0 = 4 ∧ v = nm.getD 4 0) ∨ ∃ j : Nat, j < tt.length / 4 ∧ tt.getD (4 * j) 0 = v := by
  unfold nmL
  rw [List.mem_append, List.mem_append, List.mem_map]
  generalize nm.getD 0 0 = k
  have m3 : (∃ a, a ∈ List.range (tt.length / 4) ∧ tt.getD (4 * a) 0 = v) ↔ ∃ j : Nat, j < tt.length / 4 ∧ tt.getD (4 * j) 0 = v := by simp only [List.mem_range]
  have m1 : v ∈ (if 1 ≤ k then [nm.getD 1 0] else []) ↔ (1 ≤ k ∧ v = nm.getD 1 0) := by
    by_cases q : 1 ≤ k
    · rw [if_pos q, List.mem_singleton]; exact ⟨fun h => ⟨q, h⟩, fun h => h.2⟩
    · rw [if_neg q]; exact ⟨fun h => absurd h List.not_mem_nil, fun h => absurd h.1 q⟩
  have m2 : v ∈ (if k = 1 then [nm.getD 3 0] else if k = 4 then [nm.getD 4 0] else []) ↔ (k = 1 ∧ v = nm.getD 3 0) ∨ (k = 4 ∧ v = nm.getD 4 0) := by
    by_cases q : k = 1
    · rw [if_pos q, List.mem_singleton]
      refine ⟨fun h => Or.inl ⟨q, h⟩, fun h => ?_⟩
      rcases h with ⟨_, h⟩ | ⟨h, _⟩
      · exact h
      · omega
    · rw [if_neg q]
      by_cases q4 : k = 4
      · rw [if_pos q4, List.mem_singleton]
        refine ⟨fun h => Or.inr ⟨q4, h⟩, fun h => ?_⟩
        rcases h with ⟨h, _⟩ | ⟨_, h⟩
        · omega
        · exact h
      · rw [if_neg q4]
        refine ⟨fun h => absurd h List.not_mem_nil, fun h => ?_⟩
        rcases h with ⟨h, _⟩ | ⟨h, _⟩
        · exact absurd h q
        · exact absurd h q4
  rw [m1, m2, m3, or_assoc]
def pIv (s : zS) (E F : Nat → Int → Int) (L : List Nat) (m : Nat) : Prop := fz [5, 7, 8] E F ∧ (∀ j : Int, j ≠ 3 → F 5 j = E 5 j) ∧ (∀ c : Nat, c < m → F 7 c = 0 ∨ F 7 c = 1) ∧ F 5 3 = L.length ∧ (∀ i : Nat, i < L.length → F 8 i = ((L.getD i 0 : Nat) : Int)) ∧ (∀ c : Nat, c ∈ L → c < sK s ∧ c < m ∧ F 7 c = 1 ∧ inP s c) ∧ (∀ c : Nat, c < m → F 7 c = 1 → c ∈ L) ∧ (L.length : Int) = cnS (fun c => F 7 c) 1 m
section TI
variable {d : List Nat} {G : Nat → Int → Option Nat} {E : Nat → Int → Int}
theorem find_ok {s : zS} {F : Nat → Int → Int} {L : List Nat} {m : Nat} {v : Int} (hX : zK zXt d G) (h5 : E 5 4 = sK s) (hK : sK s ≤ 150) (hm : m ≤ 150) (h : pIv s E F L m) (hv : ∀ c : Nat, v = c → c < sK s → c < m ∧ inP s c) : ∃ (F' : Nat → Int → Int) (X : List Nat), zM zm_X7_find [zR 5, zI v] (d, G, F) none (d, G, F') ∧ pIv s E F' (L ++ X) m ∧ ∀ c : Nat, v = c → c < sK s → c ∈ L ++ X := by
  have h' := h
  obtain ⟨a1, a2, a3, a4, a5, a6, a7, a8⟩ := h
  have f5 : F 5 4 = sK s := (a2 4 (by decide)).trans h5
  by_cases c1 : 0 ≤ v ∧ v < sK s
  case neg =>
    refine ⟨F, [], zM_e rfl (Nat.le_of_ble_eq_true rfl) (fun kz Q hQ => X7_find_0 hX ⟨fun _ => hQ, fun y => ⟨fun _ => hQ, fun y2 => absurd ⟨by omega, by omega⟩ c1⟩⟩), by rw [List.append_nil]; exact h', fun c h1 h2 => absurd ⟨by omega, by omega⟩ c1⟩
  obtain ⟨c, rfl⟩ : ∃ c : Nat, v = c := ⟨v.toNat, by omega⟩
  obtain ⟨cm, ci⟩ := hv c rfl (by omega)
  by_cases c2 : F 7 c = 1
  · refine ⟨F, [], zM_e rfl (Nat.le_of_ble_eq_true rfl) (fun kz Q hQ => X7_find_0 hX ⟨fun y => absurd y (by omega), fun _ => ⟨fun y => absurd y (by omega), fun _ => ⟨fun _ => hQ, fun _ => ⟨⟨by omega, by omega⟩, fun _ => hQ, fun y => absurd (by rw [c2]; decide) y⟩⟩⟩⟩), by rw [List.append_nil]; exact h', fun c' h1 _ => ?_⟩
    have e : c' = c := by omega
    rw [e, List.append_nil]
    exact a7 c cm c2
  have c0 : F 7 c = 0 := by
    rcases a3 c cm with q | q
    · exact q
    · exact absurd q c2
  have lt := cnS_lt (T := fun c => F 7 c) (v := 1) (c := c) c2 m cm
  let F1 := zuE F 7 c 1
  let F2 := zuE F1 8 (L.length : Int) c
  let F3 := zuE F2 5 3 ((L.length : Int) + 1)
  have b1 : F1 5 3 = L.length := (zuE_ne (by decide) _).trans a4
  have b2 : F2 5 3 = L.length := (zuE_ne (by decide) _).trans b1
  have g7 : ∀ j : Int, F3 7 j = F1 7 j := fun j => (zuE_ne (by decide) _).trans (zuE_ne (by decide) _)
  have g7n : ∀ b : Nat, b ≠ c → F3 7 b = F 7 b := fun b hb => (g7 b).trans (zuE_ix (by omega))
  have g7s : F3 7 c = 1 := (g7 c).trans zuE_same
  have g8 : ∀ j : Int, j ≠ L.length → F3 8 j = F 8 j := fun j hj => (zuE_ne (by decide) _).trans ((zuE_ix hj).trans (zuE_ne (by decide) _))
  have g8s : F3 8 (L.length : Int) = c := (zuE_ne (by decide) _).trans zuE_same
  refine ⟨F3, [c], zM_e rfl (Nat.le_of_ble_eq_true rfl) (fun kz Q hQ => X7_find_0 hX ⟨fun y => absurd y (by omega), fun _ => ⟨fun y => absurd y (by omega), fun _ => ⟨fun y => absurd y (by omega), fun _ => ⟨⟨by omega, by omega⟩, fun y => absurd c0 y, fun _ => ⟨⟨by omega, by omega⟩, fun H1 h1 => ?_⟩⟩⟩⟩⟩), ⟨?_, ?_, ?_, ?_, ?_, ?_, ?_, ?_⟩, fun c' h1 _ => ?_⟩
  · have e1 : H1 = F1 := h1
    rw [e1, b1]
    refine ⟨⟨by omega, by omega⟩, fun H2 h2 => ?_⟩
    have e2 : H2 = F2 := h2
    rw [e2, b2]
    exact ⟨zin_of (by omega) (by omega), fun H3 h3 => by rw [h3]; exact hQ⟩
  · exact fz_put (fz_put (fz_put a1 (by simp)) (by simp)) (by simp)
  · intro j hj
    exact (zuE_ix hj).trans ((zuE_ne (by decide) _).trans ((zuE_ne (by decide) _).trans (a2 j hj)))
  · intro b hb
    by_cases e : b = c
    · rw [e]; exact Or.inr g7s
    · rw [g7n b e]; exact a3 b hb
  · show zuE F2 5 3 ((L.length : Int) + 1) 5 3 = _
    rw [zuE_same]; simp
  · intro i hi
    rw [List.length_append, List.length_singleton] at hi
    by_cases e : i < L.length
    · rw [g8 i (by omega), a5 i e, List.getD_eq_getElem?_getD, List.getD_eq_getElem?_getD, List.getElem?_append_left e]
    · have e2 : i = L.length := by omega
      rw [e2, g8s, List.getD_eq_getElem?_getD, List.getElem?_append_right (Nat.le_refl _)]
      simp
  · intro b hb
    rcases List.mem_append.mp hb with q | q
    · obtain ⟨w1, w2, w3, w4⟩ := a6 b q
      have e : b ≠ c := fun e => by rw [e] at w3; exact c2 w3
      exact ⟨w1, w2, by rw [g7n b e]; exact w3, w4⟩
    · have e : b = c := by simpa using q
      rw [e]; exact ⟨by omega, cm, g7s, ci⟩
  · intro b hb q
    by_cases e : b = c
    · rw [e]; simp
    · rw [g7n b e] at q
      exact List.mem_append_left _ (a7 b hb q)
  · rw [cnS_up (T := fun c => F 7 c) (T' := fun c => F3 7 c) (v := 1) (c := c) g7s c2 g7n m cm, List.length_append, List.length_singleton]
    omega
  · have e : c' = c := by omega
    rw [e]; simp
theorem findNamed_ok {s : zS} {F : Nat → Int → Int} {L : List Nat} {c : Nat} {P W : Int → Int} {M : Nat} (hX : zK zXt d G) (hC : CI d G E P W M (sK s) (sR s) (sT s) (sB s) (sN s) (sW s) (sS s)) (h : pIv s E F L 150) (hc : c < sK s) (ci : inP s c) : ∃ (F' : Nat → Int → Int) (X : List Nat), zM zm_X7_findNamed [zR 5, zR (qn c)] (d, G, F) none (d, G, F') ∧ pIv s E F' (L ++ X) 150 ∧ ∀ b : Nat, b < sK s → (b : Int) ∈ nmL (sN s c) (sW s c) → b ∈ L ++ X := by
  have sC := CI_st hC
  have h5 := hC.2.2.1
  have hK : sK s ≤ 150 := by have := hC.1.1; have := hC.2.1; omega
  have zc := (sC.2.2 c hc).2.1
  obtain ⟨cR, rB, cD⟩ := hC.2.2.2 c hc
  obtain ⟨_, _, _, _, _, n7, nE, nk0, nk4, ⟨n, tl, n8, en⟩, tE, _⟩ := cD
  have q2 : 200 ≤ qn c := by unfold qn; omega
  have hF : ∀ {F : Nat → Int → Int} {L : List Nat}, pIv s E F L 150 → ∀ y : Nat, 200 ≤ y → F y = E y := fun h y hy => h.1 y (by simp; omega)
  -- the rewritings
  have lp : ∀ (m j : Nat) (F : Nat → Int → Int) (L : List Nat), j + m = n → pIv s E F L 150 → ∃ (F' : Nat → Int → Int) (X : List Nat), zgo zm_X7_findNamed 51 [(0, zR 5), (1, zR (qn c)), (3, zI (j : Int))] [] (d, G, F) none (d, G, F') ∧ pIv s E F' (L ++ X) 150 ∧ ∀ b : Nat, b < sK s → ∀ k : Nat, j ≤ k → k < n → (sW s c).getD (4 * k) 0 = b → b ∈ L ++ X := by
    intro m
    induction m with
    | zero =>
      intro j F L hj h
      have e4 : F (qn c) 4 = n := by rw [hF h _ q2]; exact en
      exact ⟨F, [], fun kz Q hQ => X7_findNamed_51 hX zc ⟨fun _ => hQ, fun y => absurd (by omega) y⟩, by rw [List.append_nil]; exact h, fun b _ k k1 k2 => by omega⟩
    | succ m ih =>
      intro j F L hj h
      have e4 : F (qn c) 4 = n := by rw [hF h _ q2]; exact en
      have e6 : F (qn c + 6) (4 * (j : Int)) = (sW s c).getD (4 * j) 0 := by
        rw [hF h _ (by omega)]
        have := tE (4 * j) (by omega)
        rw [← this]
        congr 1
      obtain ⟨F1, X1, m1, h1, k1⟩ := find_ok (E := E) (v := (sW s c).getD (4 * j) 0) hX h5 hK (Nat.le_refl _) h (fun b hb hbK => ⟨by omega, inP_s hc hbK ci (by
        rw [nmL_mem]
        exact Or.inr (Or.inr (Or.inr ⟨j, by omega, hb⟩)))⟩)
      obtain ⟨F', X, z, h2, k2⟩ := ih (j + 1) F1 (L ++ X1) (by omega) h1
      rw [show ((j + 1 : Nat) : Int) = (j : Int) + 1 by omega] at z
      refine ⟨F', X1 ++ X, fun kz Q hQ => X7_findNamed_51 hX zc ⟨fun y => absurd y (by omega), fun _ => ⟨zin_of (by omega) (by omega), ⟨by omega, by omega⟩, F1, by rw [e6]; exact m1, zin_of (by omega) (by omega), z kz Q hQ⟩⟩, by rw [← List.append_assoc]; exact h2, fun b hb k kj kn e => ?_⟩
      rw [← List.append_assoc]
      by_cases ek : k = j
      · subst ek
        exact List.mem_append_left _ (k1 b e hb)
      · exact k2 b hb k (by omega) kn e
  -- a name among the numbers
  have fn : ∀ (F : Nat → Int → Int) (L : List Nat) (i : Nat), pIv s E F L 150 → i < 7 → (sN s c).getD i 0 ∈ nmL (sN s c) (sW s c) → ∃ (F' : Nat → Int → Int) (X : List Nat), zM zm_X7_find [zR 5, zI (F (qn c + 5) (i : Int))] (d, G, F) none (d, G, F') ∧ pIv s E F' (L ++ X) 150 ∧ ∀ b : Nat, (sN s c).getD i 0 = b → b < sK s → b ∈ L ++ X := fun F L i h hi hm => by
    have e5 : F (qn c + 5) (i : Int) = (sN s c).getD i 0 := by rw [hF h _ (by omega)]; exact nE i hi
    rw [e5]
    exact find_ok (E := E) hX h5 hK (Nat.le_refl _) h (fun b hb hbK => ⟨by omega, inP_s hc hbK ci (by rw [← hb]; exact hm)⟩)
  obtain ⟨kk, hkk⟩ : ∃ k : Nat, (sN s c).getD 0 0 = k := ⟨((sN s c).getD 0 0).toNat, by omega⟩
  have kd : zM zm_X1_kind [zR (qn c)] (d, G, F) (some (zI (kk : Int))) (d, G, F) := kind_ok hX zc (by rw [hF h _ (by omega)]; have := nE 0 (by decide); rw [← hkk]; exact this) (by omega)
  have mm : ∀ v : Int, v ∈ nmL (sN s c) (sW s c) ↔ (1 ≤ (kk : Int) ∧ v = (sN s c).getD 1 0) ∨ ((kk : Int) = 1 ∧ v = (sN s c).getD 3 0) ∨ ((kk : Int) = 4 ∧ v = (sN s c).getD 4 0) ∨ ∃ j : Nat, j < (sW s c).length / 4 ∧ (sW s c).getD (4 * j) 0 = v := fun v => by rw [nmL_mem, hkk]
  have cs : kk = 0 ∨ kk = 1 ∨ kk = 2 ∨ kk = 3 ∨ kk = 4 := by omega
  rcases cs with e | e | e | e | e
  · subst e
    obtain ⟨F', X, z, h2, k2⟩ := lp n 0 F L (by omega) h
    refine ⟨F', X, zM_go rfl (Nat.le_of_ble_eq_true rfl) (fun kz Q hQ => X7_findNamed_0 hX zc ⟨_, kd, ⟨by omega, by omega⟩, fun _ => ⟨⟨by omega, by omega⟩, fun _ => z kz Q hQ, fun y => absurd (by decide) y⟩, fun y => absurd (by decide) y⟩), h2, fun b hb hm => ?_⟩
    rcases (mm b).mp hm with ⟨q, _⟩ | ⟨q, _⟩ | ⟨q, _⟩ | ⟨j, j1, j2⟩
    · omega
    · omega
    · omega
    · exact k2 b hb j (by omega) (by omega) j2
  · subst e
    obtain ⟨F1, X1, m1, h1, k1⟩ := fn F L 1 h (by decide) ((mm _).mpr (Or.inl ⟨by decide, rfl⟩))
    obtain ⟨F2, X2, m2, h2, k2⟩ := fn F1 (L ++ X1) 3 h1 (by decide) ((mm _).mpr (Or.inr (Or.inl ⟨by decide, rfl⟩)))
    obtain ⟨F', X, z, h3, k3⟩ := lp n 0 F2 (L ++ X1 ++ X2) (by omega) h2
    refine ⟨F', X1 ++ (X2 ++ X), zM_go rfl (Nat.le_of_ble_eq_true rfl) (fun kz Q hQ => X7_findNamed_0 hX zc ⟨_, kd, ⟨by omega, by omega⟩, fun y => absurd y (by decide), fun _ => ⟨⟨by omega, by omega⟩, by decide, F1, m1, ⟨by omega, by omega⟩, fun y => absurd y (by decide), fun _ => ⟨⟨by omega, by omega⟩, by decide, F2, m2, z kz Q hQ⟩⟩⟩), ?_, fun b hb hm => ?_⟩
    · rw [← List.append_assoc, ← List.append_assoc]; exact h3
    rw [← List.append_assoc, ← List.append_assoc]
    rcases (mm b).mp hm with ⟨q, q2⟩ | ⟨q, q2⟩ | ⟨q, _⟩ | ⟨j, j1, j2⟩
    · exact List.mem_append_left _ (List.mem_append_left _ (k1 b q2.symm hb))
    · exact List.mem_append_left _ (k2 b q2.symm hb)
    · omega
    · exact k3 b hb j (by omega) (by omega) j2
  · subst e
    obtain ⟨F1, X1, m1, h1, k1⟩ := fn F L 1 h (by decide) ((mm _).mpr (Or.inl ⟨by decide, rfl⟩))
    obtain ⟨F', X, z, h3, k3⟩ := lp n 0 F1 (L ++ X1) (by omega) h1
    refine ⟨F', X1 ++ X, zM_go rfl (Nat.le_of_ble_eq_true rfl) (fun kz Q hQ => X7_findNamed_0 hX zc ⟨_, kd, ⟨by omega, by omega⟩, fun y => absurd y (by decide), fun _ => ⟨⟨by omega, by omega⟩, by decide, F1, m1, ⟨by omega, by omega⟩, fun _ => z kz Q hQ, fun y => absurd (by decide) y⟩⟩), ?_, fun b hb hm => ?_⟩
    · rw [← List.append_assoc]; exact h3
    rw [← List.append_assoc]
    rcases (mm b).mp hm with ⟨q, q2⟩ | ⟨q, q2⟩ | ⟨q, _⟩ | ⟨j, j1, j2⟩
    · exact List.mem_append_left _ (k1 b q2.symm hb)
    · omega
    · omega
    · exact k3 b hb j (by omega) (by omega) j2
  · subst e
    obtain ⟨F1, X1, m1, h1, k1⟩ := fn F L 1 h (by decide) ((mm _).mpr (Or.inl ⟨by decide, rfl⟩))
    obtain ⟨F', X, z, h3, k3⟩ := lp n 0 F1 (L ++ X1) (by omega) h1
    refine ⟨F', X1 ++ X, zM_go rfl (Nat.le_of_ble_eq_true rfl) (fun kz Q hQ => X7_findNamed_0 hX zc ⟨_, kd, ⟨by omega, by omega⟩, fun y => absurd y (by decide), fun _ => ⟨⟨by omega, by omega⟩, by decide, F1, m1, ⟨by omega, by omega⟩, fun _ => z kz Q hQ, fun y => absurd (by decide) y⟩⟩), ?_, fun b hb hm => ?_⟩
    · rw [← List.append_assoc]; exact h3
    rw [← List.append_assoc]
    rcases (mm b).mp hm with ⟨q, q2⟩ | ⟨q, q2⟩ | ⟨q, _⟩ | ⟨j, j1, j2⟩
    · exact List.mem_append_left _ (k1 b q2.symm hb)
    · omega
    · omega
    · exact k3 b hb j (by omega) (by omega) j2
  · subst e
    obtain ⟨F1, X1, m1, h1, k1⟩ := fn F L 1 h (by decide) ((mm _).mpr (Or.inl ⟨by decide, rfl⟩))
    obtain ⟨F2, X2, m2, h2, k2⟩ := fn F1 (L ++ X1) 4 h1 (by decide) ((mm _).mpr (Or.inr (Or.inr (Or.inl ⟨by decide, rfl⟩))))
    obtain ⟨F', X, z, h3, k3⟩ := lp n 0 F2 (L ++ X1 ++ X2) (by omega) h2
    refine ⟨F', X1 ++ (X2 ++ X), zM_go rfl (Nat.le_of_ble_eq_true rfl) (fun kz Q hQ => X7_findNamed_0 hX zc ⟨_, kd, ⟨by omega, by omega⟩, fun y => absurd y (by decide), fun _ => ⟨⟨by omega, by omega⟩, by decide, F1, m1, ⟨by omega, by omega⟩, fun y => absurd y (by decide), fun _ => ⟨⟨by omega, by omega⟩, by decide, F2, m2, z kz Q hQ⟩⟩⟩), ?_, fun b hb hm => ?_⟩
    · rw [← List.append_assoc, ← List.append_assoc]; exact h3
    rw [← List.append_assoc, ← List.append_assoc]
    rcases (mm b).mp hm with ⟨q, q2⟩ | ⟨q, _⟩ | ⟨q, q2⟩ | ⟨j, j1, j2⟩
    · exact List.mem_append_left _ (List.mem_append_left _ (k1 b q2.symm hb))
    · omega
    · exact List.mem_append_left _ (k2 b q2.symm hb)
    · exact k3 b hb j (by omega) (by omega) j2
theorem markProof_ok {s : zS} {P W : Int → Int} {M : Nat} (hX : zK zXt d G) (hC : CI d G E P W M (sK s) (sR s) (sT s) (sB s) (sN s) (sW s) (sS s)) : ∃ F : Nat → Int → Int, zM zm_X7_markProof [zR 5] (d, G, E) none (d, G, F) ∧ fz [5, 7, 8] E F ∧ (∀ j : Int, j ≠ 3 → F 5 j = E 5 j) ∧ ∀ c : Nat, c < sK s → (F 7 c = 1 ∧ inP s c ∨ F 7 c = 0 ∧ ¬ inP s c) := by
  have sC := CI_st hC
  have h5 := hC.2.2.1
  have hK : sK s ≤ 150 := by have := hC.1.1; have := hC.2.1; omega
  have hF : ∀ {F : Nat → Int → Int} {L : List Nat} {m : Nat}, pIv s E F L m → ∀ y : Nat, 200 ≤ y → F y = E y := fun h y hy => h.1 y (by simp; omega)
  have stF : ∀ {F : Nat → Int → Int} {L : List Nat} {m : Nat}, pIv s E F L m → stC d G F P W (sK s) (sR s) := fun h => CI_st (CI_fz hC h.1 (by simp) (h.2.1 4 (by decide)))
  -- what is named by those that are worked off
  let cls : List Nat → Nat → Prop := fun L n => ∀ i : Nat, i < n → i < L.length → ∀ b : Nat, b < sK s → (b : Int) ∈ nmL (sN s (L.getD i 0)) (sW s (L.getD i 0)) → b ∈ L
  have second : ∀ (m n : Nat) (F : Nat → Int → Int) (L : List Nat), n + m = 150 → pIv s E F L 150 → cls L n → (∀ b : Nat, b < sK s → (sR s b).length = 0 → b ∈ L) → ∃ (F' : Nat → Int → Int) (L' : List Nat), zgo zm_X7_markProof 54 [(0, zR 5), (1, zI (n : Int))] [] (d, G, F) none (d, G, F') ∧ pIv s E F' L' 150 ∧ cls L' L'.length ∧ (∀ b : Nat, b < sK s → (sR s b).length = 0 → b ∈ L') := by
    intro m
    induction m with
    | zero =>
      intro n F L hn h hc hb
      have l150 := (cnS_le (T := fun c => F 7 c) (v := 1) 150).2
      have e3 := h.2.2.2.1
      have e8 := h.2.2.2.2.2.2.2
      exact ⟨F, L, fun kz Q hQ => X7_markProof_54 hX ⟨fun _ => hQ, fun y => absurd (by omega) y⟩, h, fun i i1 i2 => hc i (by omega) i2, hb⟩
    | succ m ih =>
      intro n F L hn h hc hb
      have e3 := h.2.2.2.1
      by_cases cl : L.length ≤ n
      · exact ⟨F, L, fun kz Q hQ => X7_markProof_54 hX ⟨fun _ => hQ, fun y => absurd (by omega) y⟩, h, fun i i1 i2 => hc i (by omega) i2, hb⟩
      · have e8 := h.2.2.2.2.1 n (by omega)
        have mem : L.getD n 0 ∈ L := by
          rw [List.getD_eq_getElem?_getD, List.getElem?_eq_getElem (by omega : n < L.length)]
          exact List.getElem_mem _
        obtain ⟨w1, w2, w3, w4⟩ := h.2.2.2.2.2.1 _ mem
        generalize ec : L.getD n 0 = c at *
        obtain ⟨F1, X, m1, h1, k1⟩ := findNamed_ok (E := E) hX hC h w1 w4
        obtain ⟨F', L', z, h2, k2, k3⟩ := ih (n + 1) F1 (L ++ X) (by omega) h1 (fun i i1 i2 b hbK hbn => by
          by_cases ei : i < L.length
          · have eg : (L ++ X).getD i 0 = L.getD i 0 := by rw [List.getD_eq_getElem?_getD, List.getD_eq_getElem?_getD, List.getElem?_append_left ei]
            rw [eg] at hbn
            by_cases en : i = n
            · subst en
              rw [ec] at hbn
              exact k1 b hbK hbn
            · exact List.mem_append_left _ (hc i (by omega) ei b hbK hbn)
          · omega) (fun b b1 b2 => List.mem_append_left _ (hb b b1 b2))
        rw [show ((n + 1 : Nat) : Int) = (n : Int) + 1 by omega] at z
        refine ⟨F', L', fun kz Q hQ => X7_markProof_54 hX ⟨fun y => absurd y (by omega), fun _ => ⟨fun y => absurd y (by omega), fun _ => ⟨⟨by omega, by omega⟩, some (qn c), ?_, fun y => absurd y (by simp), fun _ => ⟨F1, m1, zin_of (by omega) (by omega), z kz Q hQ⟩⟩⟩⟩, h2, k2, k3⟩
        rw [e8]
        exact at_ok hX (stF h) w1
  have first : ∀ (m n : Nat) (F : Nat → Int → Int) (L : List Nat), n + m = 150 → pIv s E F L n → (∀ b : Nat, b < sK s → b < n → (sR s b).length = 0 → b ∈ L) → ∃ (F' : Nat → Int → Int) (L' : List Nat), zgo zm_X7_markProof 7 [(0, zR 5), (1, zI (n : Int))] [] (d, G, F) none (d, G, F') ∧ pIv s E F' L' 150 ∧ cls L' L'.length ∧ (∀ b : Nat, b < sK s → (sR s b).length = 0 → b ∈ L') := by
    intro m
    induction m with
    | zero =>
      intro n F L hn h hb
      have e : n = 150 := by omega
      subst e
      obtain ⟨F', L', z, r⟩ := second 150 0 F L (by omega) h (fun i i1 => by omega) (fun b b1 b2 => hb b b1 (by omega) b2)
      exact ⟨F', L', fun kz Q hQ => X7_markProof_7 hX ⟨fun _ => z kz Q hQ, fun y => absurd (by omega) y⟩, r⟩
    | succ m ih =>
      intro n F L hn h hb
      let F1 := zuE F 7 n 0
      have h1 : pIv s E F1 L (n + 1) := by
        obtain ⟨a1, a2, a3, a4, a5, a6, a7, a8⟩ := h
        have g7 : ∀ b : Nat, b ≠ n → F1 7 b = F 7 b := fun b hb => zuE_ix (by omega)
        have g7s : F1 7 n = 0 := zuE_same
        refine ⟨fz_put a1 (by simp), fun j hj => (zuE_ne (by decide) _).trans (a2 j hj), fun c hc => ?_, (zuE_ne (by decide) _).trans a4, fun i hi => (zuE_ne (by decide) _).trans (a5 i hi), fun c hc => ?_, fun c hc q => ?_, ?_⟩
        · by_cases e : c = n
          · rw [e]; exact Or.inl g7s
          · rw [g7 c e]; exact a3 c (by omega)
        · obtain ⟨w1, w2, w3, w4⟩ := a6 c hc
          exact ⟨w1, by omega, by rw [g7 c (by omega)]; exact w3, w4⟩
        · by_cases e : c = n
          · rw [e, g7s] at q; omega
          · rw [g7 c e] at q
            exact a7 c (by omega) q
        · have e1 : cnS (fun c => F1 7 c) 1 (n + 1) = cnS (fun c => F1 7 c) 1 n + (if F1 7 n = 1 then 1 else 0) := rfl
          rw [e1, if_neg (by rw [g7s]; decide), cnS_cg (T := fun c => F 7 c) n (fun c hc => g7 c (by omega))]
          omega
      have en : ((n + 1 : Nat) : Int) = (n : Int) + 1 := by omega
      by_cases cK : n < sK s
      case neg =>
        obtain ⟨F', L', z, r⟩ := ih (n + 1) F1 L (by omega) h1 (fun b b1 b2 b3 => hb b b1 (by omega) b3)
        rw [en] at z
        exact ⟨F', L', fun kz Q hQ => X7_markProof_7 hX ⟨fun y => absurd y (by omega), fun _ => ⟨⟨by omega, by omega⟩, fun H hh => by rw [hh]; exact ⟨none, at_no hX (stF h1) (by omega), fun _ => ⟨zin_of (by omega) (by omega), z kz Q hQ⟩, fun y => absurd rfl y⟩⟩⟩, r⟩
      have zc := (sC.2.2 n cK).2.1
      have q2 : 200 ≤ qn n := by unfold qn; omega
      have l0 : F1 (qn n + 1) 3 = (sR s n).length := by rw [hF h1 _ (by omega)]; exact (hC.2.2.2 n cK).1.1.1
      by_cases c0 : (sR s n).length = 0
      case neg =>
        obtain ⟨F', L', z, r⟩ := ih (n + 1) F1 L (by omega) h1 (fun b b1 b2 b3 => by
          by_cases e : b = n
          · rw [e] at b3; exact absurd b3 c0
          · exact hb b b1 (by omega) b3)
        rw [en] at z
        exact ⟨F', L', fun kz Q hQ => X7_markProof_7 hX ⟨fun y => absurd y (by omega), fun _ => ⟨⟨by omega, by omega⟩, fun H hh => by rw [hh]; exact ⟨_, at_ok hX (stF h1) cK, fun y => absurd y (by simp), fun _ => ⟨_, rfl, zc, fun _ => ⟨zin_of (by omega) (by omega), z kz Q hQ⟩, fun y => absurd (by show F1 (qn n + 1) 3 ≠ 0; rw [l0]; omega) y⟩⟩⟩⟩, r⟩
      obtain ⟨F2, X, m2, h2, k2⟩ := find_ok (E := E) (v := (n : Int)) hX h5 hK (by omega) h1 (fun c hc hcK => by
        have e : c = n := by omega
        rw [e]; exact ⟨by omega, inP_0 cK c0⟩)
      obtain ⟨F', L', z, r⟩ := ih (n + 1) F2 (L ++ X) (by omega) h2 (fun b b1 b2 b3 => by
        by_cases e : b = n
        · rw [e]; exact k2 n rfl cK
        · exact List.mem_append_left _ (hb b b1 (by omega) b3))
      rw [en] at z
      exact ⟨F', L', fun kz Q hQ => X7_markProof_7 hX ⟨fun y => absurd y (by omega), fun _ => ⟨⟨by omega, by omega⟩, fun H hh => by rw [hh]; exact ⟨_, at_ok hX (stF h1) cK, fun y => absurd y (by simp), fun _ => ⟨_, rfl, zc, fun y => absurd (by show F1 (qn n + 1) 3 = 0; rw [l0]; omega) y, fun _ => ⟨F2, m2, zin_of (by omega) (by omega), z kz Q hQ⟩⟩⟩⟩⟩, r⟩
  obtain ⟨F', L', z, h', c', b'⟩ := first 150 0 (zuE E 5 3 0) [] (by omega) ⟨fz_put fz_rfl (by simp), fun j hj => zuE_ix hj, fun c hc => by omega, zuE_same, fun i hi => by simp at hi, fun c hc => by simp at hc, fun c hc => by omega, rfl⟩ (fun b _ hb => by omega)
  refine ⟨F', zM_go rfl (Nat.le_of_ble_eq_true rfl) (fun kz Q hQ => X7_markProof_0 hX (fun H hh => by rw [hh]; exact z kz Q hQ)), h'.1, h'.2.1, fun c hc => ?_⟩
  have all : inP s c → c ∈ L' := fun hi => hi (fun b => b ∈ L') b' (fun b b2 hb hb2 hm hn => by
    obtain ⟨i, i1, i2⟩ := List.mem_iff_getElem.mp hm
    refine c' i i1 i1 b2 hb2 ?_
    rw [List.getD_eq_getElem?_getD, List.getElem?_eq_getElem i1, Option.getD_some, i2]
    exact hn)
  rcases h'.2.2.1 c (by omega) with q | q
  · exact Or.inr ⟨q, fun hi => by have := (h'.2.2.2.2.2.1 c (all hi)).2.2.1; omega⟩
  · exact Or.inl ⟨q, (h'.2.2.2.2.2.1 c (h'.2.2.2.2.2.2.1 c (by omega) q)).2.2.2⟩
end TI
