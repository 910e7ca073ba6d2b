/-! ===== tries that make nothing ===== -/
def dead (P W : Int → Int) (R : Nat → List zLt) (K : Nat) (L : List (List Int)) : Prop := ∀ c, c ∈ L → stR P W R (K : Int) c none
section SH
variable {P W : Int → Int} {R : Nat → List zLt} {K : Nat}
theorem dead_nil : dead P W R K [] := fun c hc => absurd hc (by simp)
theorem dead_cons {c : List Int} {L : List (List Int)} (h : stR P W R (K : Int) c none) (hL : dead P W R K L) : dead P W R K (c :: L) := fun x hx => by
  rcases List.mem_cons.1 hx with e | e
  · rw [e]; exact h
  · exact hL x e
theorem dead_app {L L' : List (List Int)} (h : dead P W R K L) (h' : dead P W R K L') : dead P W R K (L ++ L') := fun x hx => by
  rcases List.mem_append.1 hx with e | e
  · exact h x e
  · exact h' x e
theorem RT_idle {fu : Int} {it a : Nat} {s : zS} : ∀ {L : List (List Int)}, dead P W (sR s) (sK s) L → RT P W fu it a L s s
  | [], _ => rfl
  | c :: L, h => by
    by_cases g : gon s it a
    · exact Or.inl ⟨g, s, ⟨none, h c (by simp), Or.inl ⟨rfl, rfl⟩⟩, RT_idle (fun x hx => h x (List.mem_cons_of_mem _ hx))⟩
    · exact Or.inr ⟨g, rfl⟩
theorem RT_dead {fu : Int} {it a : Nat} {s s' : zS} {L L' : List (List Int)} (hd : dead P W (sR s) (sK s) L) (h : RT P W fu it a L' s s') : RT P W fu it a (L ++ L') s s' := RT_app (RT_idle hd) h
/-- one try each -/
theorem dead_c {p n : Nat} {i : Int} (hp : p < K) (hn : n < K) (h : csR P W (R p) i (R n) none) : stR P W R (K : Int) [1, (p : Int), i, (n : Int), 0, 0, 0] none := by
  refine Or.inl ⟨rfl, Or.inr ⟨⟨⟨?_, ?_⟩, ⟨?_, ?_⟩⟩, ?_⟩⟩
  · show (0 : Int) ≤ p; omega
  · show (p : Int) < K; omega
  · show (0 : Int) ≤ n; omega
  · show (n : Int) < K; omega
  · exact h
theorem dead_f {p : Nat} {i j : Int} (hp : p < K) (h : faR P W (R p) i j none) : stR P W R (K : Int) [2, (p : Int), i, j, 0, 0, 0] none := by
  refine Or.inr (Or.inl ⟨rfl, Or.inr ⟨⟨?_, ?_⟩, ?_⟩⟩)
  · show (0 : Int) ≤ p; omega
  · show (p : Int) < K; omega
  · exact h
theorem dead_d {p : Nat} (hp : p < K) (h : drR P W (R p) none) : stR P W R (K : Int) [3, (p : Int), 0, 0, 0, 0, 0] none := by
  refine Or.inr (Or.inr (Or.inl ⟨rfl, Or.inr ⟨⟨?_, ?_⟩, ?_⟩⟩))
  · show (0 : Int) ≤ p; omega
  · show (p : Int) < K; omega
  · exact h
theorem dead_t {p n : Nat} {i s j q : Int} (hp : p < K) (hn : n < K) (h : tuRl P W (R p) i s (R n) j q none) : stR P W R (K : Int) [4, (p : Int), i, s, (n : Int), j, q] none := by
  refine Or.inr (Or.inr (Or.inr (Or.inl ⟨rfl, Or.inr ⟨⟨⟨?_, ?_⟩, ⟨?_, ?_⟩⟩, ?_⟩⟩)))
  · show (0 : Int) ≤ p; omega
  · show (p : Int) < K; omega
  · show (0 : Int) ≤ n; omega
  · show (n : Int) < K; omega
  · exact h
/-- clashes -/
theorem dead_cl {p n : Nat} (hp : p < K) (hn : n < K) (h : ¬ (chs W (R p) = -1 ∧ chs W (R n) ≠ -1)) : ∀ m i : Nat, dead P W R K (clL p n m i)
  | 0, _ => dead_nil
  | m + 1, i => dead_cons (dead_c hp hn (Or.inl ⟨fun q => h ⟨q.1, q.2.2.2⟩, rfl⟩)) (dead_cl hp hn h m (i + 1))
/-- factors, the drop -/
theorem dead_faJ {p : Nat} (hp : p < K) (h : chs W (R p) ≠ -1) (i : Nat) : ∀ m j : Nat, dead P W R K (faJ p i m j)
  | 0, _ => dead_nil
  | m + 1, j => dead_cons (dead_f hp (Or.inl ⟨fun q => h q.1, rfl⟩)) (dead_faJ hp h i m (j + 1))
theorem dead_fa {p n : Nat} (hp : p < K) (h : chs W (R p) ≠ -1) : ∀ m i : Nat, dead P W R K (faI p n m i)
  | 0, _ => dead_nil
  | m + 1, i => dead_app (dead_faJ hp h i _ _) (dead_fa hp h m (i + 1))
theorem dead_dr {p : Nat} (hp : p < K) (h : chs W (R p) = -1) : dead P W R K [[3, (p : Int), 0, 0, 0, 0, 0]] := dead_cons (dead_d hp (Or.inl ⟨fun q => q.1 h, rfl⟩)) dead_nil
/-- turns -/
theorem dead_tP {p n i s j : Nat} (hp : p < K) (hn : n < K) (h : ∀ q : Int, ¬ tuC W (R p) i s (R n) j q) : ∀ m q : Nat, dead P W R K (tuP p n i s j m q)
  | 0, _ => dead_nil
  | m + 1, q => dead_cons (dead_t hp hn (Or.inl ⟨h _, rfl⟩)) (dead_tP hp hn h m (q + 1))
theorem dead_tJ {p n i s : Nat} (hp : p < K) (hn : n < K) : ∀ m j : Nat, (∀ j' : Nat, j ≤ j' → j' < j + m → ∀ q : Int, ¬ tuC W (R p) i s (R n) j' q) → dead P W R K (tuJ p n (R n) i s m j)
  | 0, _, _ => dead_nil
  | m + 1, j, h => dead_app (dead_tP hp hn (h j (by omega) (by omega)) _ _) (dead_tJ hp hn m (j + 1) (fun j' h1 h2 => h j' (by omega) (by omega)))
theorem dead_tW {p n i : Nat} (hp : p < K) (hn : n < K) (h : ∀ s j : Nat, ∀ q : Int, ¬ tuC W (R p) i s (R n) j q) : ∀ m s : Nat, dead P W R K (tuW p n (R n) i m s)
  | 0, _ => dead_nil
  | m + 1, s => dead_app (dead_tJ hp hn _ _ (fun j' _ _ => h s j')) (dead_tW hp hn h m (s + 1))
theorem dead_tI {p n : Nat} (hp : p < K) (hn : n < K) (h : ∀ i s j : Nat, ∀ q : Int, ¬ tuC W (R p) i s (R n) j q) : ∀ m i : Nat, dead P W R K (tuI p n (R n) m i)
  | 0, _ => dead_nil
  | m + 1, i => dead_app (dead_tW hp hn (h i) _ _) (dead_tI hp hn h m (i + 1))
/-- a head that is another function -/
theorem tu_head (hP : pok P) (h2 : P 0 = 2) {A B : List zLt} {i s j p : Int} (hA : rok P W A) (hB : rok P W B) (hx : 0 ≤ fw (tuL P A i s) 0) (hy : fw (tuL P A i s) 0 ≠ fw (lit B j.toNat).2 p) : tuRl P W A i s B j p none := by
  by_cases c : tuC W A i s B j p
  case neg => exact Or.inl ⟨c, rfl⟩
  refine Or.inr ⟨c, Or.inl ⟨?_, rfl⟩⟩
  obtain ⟨c1, c2, c3, c4, c5, c6, c7, c8⟩ := c
  have tL : tw P (tuL P A i s) := by
    obtain ⟨q1, q2⟩ := sides_good hP h2 hA (l := i.toNat) (by omega) c3
    unfold tuL
    split
    · exact q1.1
    · exact q2.1
  obtain ⟨m, m0, _, _, _, m4, m5, m6⟩ := tat_ok hP (v := (lit B j.toNat).2) (p := p.toNat) (hB.1 j.toNat (by omega)).1 (by omega)
  have e0 := m6 0 m0
  have e1 : fw (tat P (lit B j.toNat).2 p.toNat) 0 = fw (lit B j.toNat).2 p := by
    have ep : (p.toNat : Int) + ((0 : Nat) : Int) = p := by omega
    have ez : (0 : Int) + ((0 : Nat) : Int) = 0 := by omega
    rw [ep, ez] at e0
    exact e0.symm
  obtain ⟨x, u, hu⟩ := List.exists_cons_of_ne_nil (tw_ne tL)
  obtain ⟨y, v, hv⟩ := List.exists_cons_of_ne_nil (tw_ne m5)
  unfold tuT
  rw [hu, hv, List.map_cons]
  rw [hu, fw_c0] at hx hy
  rw [hv, fw_c0] at e1
  have ey : shf y = y := if_neg (by rw [e1]; omega)
  rw [ey]
  exact UN_ne hx (by rw [e1]; exact c8) (by rw [e1]; exact hy)
end SH
/-- how many tries there are -/
theorem clL_len {p n : Nat} : ∀ m i : Nat, (clL p n m i).length = m
  | 0, _ => rfl
  | m + 1, i => by simp only [clL, List.length_cons]; rw [clL_len m (i + 1)]
theorem tuP_len {p n i s j : Nat} : ∀ m q : Nat, (tuP p n i s j m q).length = m
  | 0, _ => rfl
  | m + 1, q => by simp only [tuP, List.length_cons]; rw [tuP_len m (q + 1)]
theorem tuJ_len {p n i s : Nat} {B : List zLt} (hB : ∀ j : Nat, (lit B j).2.length ≤ 30) : ∀ m j : Nat, (tuJ p n B i s m j).length ≤ 29 * m
  | 0, _ => Nat.le_refl _
  | m + 1, j => by
    simp only [tuJ, List.length_append]
    have h1 := tuP_len (p := p) (n := n) (i := i) (s := s) (j := j) ((lit B j).2.length - 1) 1
    have h2 := tuJ_len (p := p) (n := n) (i := i) (s := s) hB m (j + 1)
    have := hB j
    omega
theorem tuW_len {p n i : Nat} {B : List zLt} (hB : ∀ j : Nat, (lit B j).2.length ≤ 30) (h6 : B.length ≤ 6) : ∀ m s : Nat, (tuW p n B i m s).length ≤ 174 * m
  | 0, _ => Nat.le_refl _
  | m + 1, s => by
    simp only [tuW, List.length_append]
    have h1 := tuJ_len (p := p) (n := n) (i := i) (s := s) hB B.length 0
    have h2 := tuW_len (p := p) (n := n) (i := i) hB h6 m (s + 1)
    omega
theorem tuI_len {p n : Nat} {B : List zLt} (hB : ∀ j : Nat, (lit B j).2.length ≤ 30) (h6 : B.length ≤ 6) : ∀ m i : Nat, (tuI p n B m i).length ≤ 348 * m
  | 0, _ => Nat.le_refl _
  | m + 1, i => by
    simp only [tuI, List.length_append]
    have h1 := tuW_len (p := p) (n := n) (i := i) hB h6 2 0
    have h2 := tuI_len (p := p) (n := n) hB h6 m (i + 1)
    omega
theorem faJ_len {p i : Nat} : ∀ m j : Nat, (faJ p i m j).length = m
  | 0, _ => rfl
  | m + 1, j => by simp only [faJ, List.length_cons]; rw [faJ_len m (j + 1)]
theorem faI_len {p n : Nat} (h6 : n ≤ 6) : ∀ m i : Nat, (faI p n m i).length ≤ 6 * m
  | 0, _ => Nat.le_refl _
  | m + 1, i => by
    simp only [faI, List.length_append]
    have h1 := faJ_len (p := p) (i := i) (n - (i + 1)) (i + 1)
    have h2 := faI_len (p := p) h6 m (i + 1)
    omega
