/-! ===== rows written under a standing: the reference ===== -/
/-- literals put one behind the other, as long as there is room -/
def adds : List zLt → List zLt → Option (List zLt)
  | acc, [] => some acc
  | acc, y :: ls => if y.2.length ≤ 30 ∧ acc.length < 6 then adds (acc ++ [y]) ls else none
theorem adds_app : ∀ {ls ks acc : List zLt}, adds acc (ls ++ ks) = (adds acc ls).bind (fun a => adds a ks)
  | [], ks, acc => rfl
  | y :: ls, ks, acc => by
    rw [List.cons_append]
    simp only [adds]
    split
    · exact adds_app
    · rfl
/-- the literals from l on but one, each with its word changed -/
def frm (A : List zLt) (but : Int) (h : List Int → List Int) : Nat → Nat → List zLt
  | 0, _ => []
  | m + 1, l => if (l : Int) = but then frm A but h m (l + 1) else ((lit A l).1, h (lit A l).2) :: frm A but h m (l + 1)
theorem nd_sgn {P f g : Int → Int} {i j : Int} : ∀ n : Nat, (∀ k : Nat, k < n → (f (i + k) < 0 ∧ g (j + k) < 0) ∨ f (i + k) = g (j + k)) → nd P f i n = nd P g j n
  | 0, _ => rfl
  | n + 1, h => by
    simp only [nd]
    rw [nd_sgn n (fun k hk => h k (by omega))]
    rcases h n (by omega) with ⟨a, c⟩ | e
    · rw [if_pos a, if_pos c]
    · rw [e]
theorem getD_shf {w : List Int} {k : Nat} (hk : k < w.length) : (w.map shf).getD k 0 = shf (w.getD k 0) := by
  rw [List.getD_eq_getElem?_getD, List.getD_eq_getElem?_getD, List.getElem?_map, List.getElem?_eq_getElem hk]
  rfl
theorem tw_shf {P : Int → Int} {w : List Int} (h : tw P w) : tw P (w.map shf) := by
  unfold tw at *
  rw [List.length_map]
  have hs : ∀ k : Nat, k < w.length → (fw w (0 + k) < 0 ∧ fw (w.map shf) (0 + k) < 0) ∨ fw w (0 + k) = fw (w.map shf) (0 + k) := fun k hk => by
    rw [fw_0, fw_0, getD_shf hk]
    unfold shf
    by_cases c : w.getD k 0 < 0
    · rw [if_pos c]; left; omega
    · rw [if_neg c]; right; rfl
  refine ⟨by rw [← nd_sgn _ hs]; exact h.1, fun k hk => ⟨by rw [← nd_sgn k (fun n hn => hs n (by omega))]; exact (h.2 k hk).1, ?_⟩⟩
  have := (h.2 k hk).2
  rcases hs k hk with z | z
  · omega
  · rw [← z]; exact this
theorem lo_shf {w : List Int} (h : ∀ v, v ∈ w → -20 ≤ v) : lo40 (w.map shf) := fun v hv => by
  obtain ⟨x, x1, x2⟩ := List.mem_map.1 hv
  have := h x x1
  unfold shf at x2
  split at x2 <;> omega
theorem lo_20 {w : List Int} (h : ∀ v, v ∈ w → -20 ≤ v) : lo40 w := fun v hv => by have := h v hv; omega
section RP
variable {d : List Nat} {G : Nat → Int → Option Nat} {E : Nat → Int → Int}
theorem comes_ok {A : List zLt} {O : List Int} {dn : Int} (hM : zK zMt d G) (hO : outO E O) (hA : rowW E A) (hdn : dn = 0 ∨ dn = 1) :
    ∃ (x : Int) (E' : Nat → Int → Int), zM zm_X12_comes [zR 50, zI dn] (d, G, E) (some (zI x)) (d, G, E') ∧ fz [50, 72, 73, 74] E E' ∧ (∀ j : Int, j ≠ 24 → E' 50 j = E 50 j) ∧ ((x = 1 ∧ (O.length ≤ 30 ∧ A.length < 6) ∧ rowW E' (A ++ [(dn, O)])) ∨ (x = 0 ∧ ¬ (O.length ≤ 30 ∧ A.length < 6) ∧ rowW E' A)) := by
  have h24 := hA.1
  have h6 := hA.2.1
  by_cases c1 : 30 < E 50 52
  · exact ⟨0, E, zM_e rfl (Nat.le_of_ble_eq_true rfl) (fun kz Q hQ => X12_comes_0 hM ⟨fun _ => hQ, fun z => absurd c1 z⟩), fz_rfl, fun _ _ => rfl, Or.inr ⟨rfl, fun z => by have := hO.1; omega, hA⟩⟩
  have o30 : O.length ≤ 30 := by have := hO.1; omega
  have e52 : E 50 52 = O.length := by rw [hO.1]; omega
  by_cases c2 : E 50 24 = 6
  · exact ⟨0, E, zM_e rfl (Nat.le_of_ble_eq_true rfl) (fun kz Q hQ => X12_comes_0 hM ⟨fun z => absurd z c1, fun _ => ⟨fun z => absurd c2 z, fun _ => hQ⟩⟩), fz_rfl, fun _ _ => rfl, Or.inr ⟨rfl, fun z => by omega, hA⟩⟩
  have a6 : A.length < 6 := by omega
  have loop : ∀ (m k : Nat) (F : Nat → Int → Int), k + m = O.length → fz [72] E F → (∀ i : Int, i < 30 * (A.length : Int) → F 72 i = E 72 i) → (∀ j : Nat, j < k → F 72 (30 * (A.length : Int) + j) = O.getD j 0) →
      ∃ F' : Nat → Int → Int, fz [72] E F' ∧ (∀ i : Int, i < 30 * (A.length : Int) → F' 72 i = E 72 i) ∧ (∀ j : Nat, j < O.length → F' 72 (30 * (A.length : Int) + j) = O.getD j 0) ∧ ∀ kz Q, Z zm_X12_comes kz Q 22 [(0, zR 50), (1, zI dn), (2, zI (O.length : Int))] [] (d, G, F') → Z zm_X12_comes kz Q 22 [(0, zR 50), (1, zI dn), (2, zI (k : Int))] [] (d, G, F) := by
    intro m
    induction m with
    | zero =>
      intro k F hk hf hlo hi
      have e : k = O.length := by omega
      subst e
      exact ⟨F, hf, hlo, hi, fun kz Q z => z⟩
    | succ m ih =>
      intro k F hk hf hlo hi
      have f50 : F 50 = E 50 := hf 50 (by simp)
      have f102 : F 102 k = O.getD k 0 := by rw [hf 102 (by simp)]; exact hO.2 k (by omega) (by omega)
      obtain ⟨F', a1, a2, a3, a4⟩ := ih (k + 1) (zuE F 72 (30 * (A.length : Int) + k) (O.getD k 0)) (by omega) (fz_put hf (by simp)) (fun i h => (zuE_ix (by omega)).trans (hlo i h)) (fun j hj => by
        rcases (by omega : j = k ∨ j < k) with e | e
        · subst e; exact zuE_same
        · exact (zuE_ix (by omega)).trans (hi j e))
      refine ⟨F', a1, a2, a3, fun kz Q z => X12_comes_22 hM ⟨fun y => absurd y (by rw [f50, e52]; omega), fun _ => ?_⟩⟩
      have ek : ((k + 1 : Nat) : Int) = (k : Int) + 1 := by omega
      have := a4 kz Q z
      rw [ek] at this
      rw [f50, h24, f102]
      exact ⟨zin_of (by omega) (by omega), zin_of (by omega) (by omega), ⟨by omega, by omega⟩, ⟨by omega, by omega⟩, fun H e => ⟨zin_of (by omega) (by omega), by rw [e]; exact this⟩⟩
  obtain ⟨F, g1, g2, g3, g4⟩ := loop O.length 0 E (by omega) fz_rfl (fun _ _ => rfl) (fun j hj => by omega)
  have f50 : F 50 = E 50 := g1 50 (by simp)
  let F1 := zuE F 73 A.length O.length
  let F2 := zuE F1 74 A.length dn
  let F3 := zuE F2 50 24 ((A.length : Int) + 1)
  have n72 : F3 72 = F 72 := (zuE_nf (by decide)).trans ((zuE_nf (by decide)).trans (zuE_nf (by decide)))
  have row3 : rowW F3 (A ++ [(dn, O)]) := by
    refine ⟨by rw [List.length_append, List.length_singleton]; exact zuE_same, by rw [List.length_append, List.length_singleton]; omega, fun l hl => ?_⟩
    rw [List.length_append, List.length_singleton] at hl
    rcases (by omega : l < A.length ∨ l = A.length) with e | e
    · rw [lit_app_l e]
      have w := hA.2.2 l e
      have w30 := w.2.2.2.1
      refine wl_congr w ?_ ?_ (fun i i1 i2 => by rw [n72]; exact g2 i (by omega))
      · exact (zuE_ne (by decide) _).trans ((zuE_ne (by decide) _).trans ((zuE_ix (by omega)).trans (by rw [g1 73 (by simp)])))
      · exact (zuE_ne (by decide) _).trans ((zuE_ix (by omega)).trans ((zuE_ne (by decide) _).trans (by rw [g1 74 (by simp)])))
    · subst e
      rw [lit_app_r]
      refine ⟨(zuE_ne (by decide) _).trans ((zuE_ne (by decide) _).trans zuE_same), (zuE_ne (by decide) _).trans zuE_same, hdn, o30, fun k hk => ?_⟩
      rw [n72, g3 k hk, fw_0]
  refine ⟨1, F3, zM_e rfl (Nat.le_of_ble_eq_true rfl) (fun kz Q hQ => X12_comes_0 hM ⟨fun z => absurd z c1, fun _ => ⟨fun _ => g4 kz Q (X12_comes_22 hM ⟨fun _ => ?_, fun z => absurd (by rw [f50, e52]; omega) z⟩), fun z => absurd c2 z⟩⟩), fz_put (fz_put (fz_put (fz_mono g1 (by simp)) (by simp)) (by simp)) (by simp), fun j hj => (zuE_ix hj).trans ((zuE_ne (by decide) _).trans ((zuE_ne (by decide) _).trans (by rw [f50]))), Or.inl ⟨rfl, ⟨o30, a6⟩, row3⟩⟩
  rw [f50, h24, e52]
  refine ⟨⟨by omega, by omega⟩, fun H1 e1 => ?_⟩
  have q1 : H1 50 24 = A.length := by rw [e1]; exact (zuE_ne (by decide) _).trans (by rw [f50, h24])
  rw [q1]
  refine ⟨⟨by omega, by omega⟩, hdn, fun H2 e2 => ?_⟩
  have q2 : H2 50 24 = A.length := by rw [e2]; exact (zuE_ne (by decide) _).trans q1
  rw [q2]
  exact ⟨zin_of (by omega) (by omega), fun H3 e3 => by rw [e3, e2, e1]; exact hQ⟩
theorem writesAll_ok {b : zBd} {rk : Int → Nat} {c : Nat} {R acc : List zLt} {base but : Int} {g : List Int → List Int} (hM : zK zMt d G) (hP : pok (E 53)) (hb : bw (E 53) b rk) (hU : bdW (E 97) (E 98) 360 b) (hc : c < 150) (hR : rwM E c R) (hbd : ∀ l : Nat, l < R.length → onM E (base + 30 * (l : Int)) (g (lit R l).2) ∧ tw (E 53) (g (lit R l).2)) (hA : rowW E acc) (hb0 : 0 ≤ base) (hb1 : base ≤ 1000) :
    ∃ (x : Int) (E' : Nat → Int → Int), zM zm_X12_writesAll [zR 50, zI (c : Int), zI base, zI but] (d, G, E) (some (zI x)) (d, G, E') ∧ fz [50, 72, 73, 74, 99, 101, 102] E E' ∧ (∀ j : Int, j ≠ 24 → j ≠ 52 → E' 50 j = E 50 j) ∧ ((x = 1 ∧ ∃ A', adds acc (frm R but (fun w => sb (th b) (g w)) R.length 0) = some A' ∧ rowW E' A') ∨ (x = 0 ∧ adds acc (frm R but (fun w => sb (th b) (g w)) R.length 0) = none)) := by
  have r6 := hR.2.1
  have loop : ∀ (m l : Nat) (F : Nat → Int → Int) (acc : List zLt), l + m = R.length → fz [50, 72, 73, 74, 99, 101, 102] E F → (∀ j : Int, j ≠ 24 → j ≠ 52 → F 50 j = E 50 j) → rowW F acc →
      ∃ (x : Int) (E' : Nat → Int → Int), zgo zm_X12_writesAll 3 [(0, zR 50), (1, zI (c : Int)), (2, zI base), (3, zI but), (4, zI (l : Int))] [] (d, G, F) (some (zI x)) (d, G, E') ∧ fz [50, 72, 73, 74, 99, 101, 102] E E' ∧ (∀ j : Int, j ≠ 24 → j ≠ 52 → E' 50 j = E 50 j) ∧ ((x = 1 ∧ ∃ A', adds acc (frm R but (fun w => sb (th b) (g w)) m l) = some A' ∧ rowW E' A') ∨ (x = 0 ∧ adds acc (frm R but (fun w => sb (th b) (g w)) m l) = none)) := by
    intro m
    induction m with
    | zero =>
      intro l F acc hl hf hj hA
      have f61 : F 61 c = R.length := by rw [hf 61 (by simp)]; exact hR.1
      exact ⟨1, F, fun kz Q hQ => X12_writesAll_3 hM ⟨⟨by omega, by omega⟩, fun _ => hQ, fun z => absurd (by omega) z⟩, hf, hj, Or.inl ⟨rfl, acc, rfl, hA⟩⟩
    | succ m ih =>
      intro l F acc hl hf hj hA
      have f61 : F 61 c = R.length := by rw [hf 61 (by simp)]; exact hR.1
      have hlR : l < R.length := by omega
      have el : ((l + 1 : Nat) : Int) = (l : Int) + 1 := by omega
      by_cases cb : (l : Int) = but
      · obtain ⟨x, E', z, z1, z2, z3⟩ := ih (l + 1) F acc (by omega) hf hj hA
        rw [el] at z
        refine ⟨x, E', fun kz Q hQ => X12_writesAll_3 hM ⟨⟨by omega, by omega⟩, fun y => absurd y (by omega), fun _ => ⟨fun _ => ⟨zin_of (by omega) (by omega), z kz Q hQ⟩, fun y => absurd cb y⟩⟩, z1, z2, ?_⟩
        simp only [frm]
        rw [if_pos cb]; exact z3
      · obtain ⟨r1, r2, r3, r4, r5⟩ := hR.2.2 l hlR
        let F1 := zuE F 50 52 0
        have n1 : ∀ x : Nat, x ≠ 50 → F1 x = F x := fun x hx => zuE_nf hx
        have o1 : outO F1 [] := ⟨zuE_same, fun k hk => absurd hk (by simp)⟩
        have e1x : ∀ x : Nat, x = 53 ∨ x = 97 ∨ x = 98 → F1 x = E x := fun x hx => by rw [n1 x (by omega)]; exact hf x (by simp; omega)
        obtain ⟨F2, m2, g1, g2, g3⟩ := writeM_ok (E := F1) (b := b) (rk := rk) (i := base + 30 * (l : Int)) (u := g (lit R l).2) hM (by rw [e1x 53 (by omega)]; exact hP) (by rw [e1x 53 (by omega)]; exact hb) (by rw [e1x 97 (by omega), e1x 98 (by omega)]; exact hU) (by rw [e1x 53 (by omega)]; exact (hbd l hlR).2) (onM_97 (hbd l hlR).1 (e1x 97 (by omega))) o1
        rw [List.nil_append] at g3
        have hA2 : rowW F2 acc := rowW_fz (E := F1) (rowW_fz hA (fz_put (S := [50]) fz_rfl (by simp)) (by simp) (by simp) (by simp) (zuE_ix (by decide))) g1 (by simp) (by simp) (by simp) (g2 24 (by decide))
        have f60 : F2 60 (6 * (c : Int) + l) = (lit R l).1 := by rw [g1 60 (by simp), n1 60 (by decide), hf 60 (by simp)]; exact r2
        obtain ⟨x, F3, m3, h1, h2, h3⟩ := comes_ok (E := F2) hM g3 hA2 r3
        have hf3 : fz [50, 72, 73, 74, 99, 101, 102] E F3 := fz_trans (fz_trans (fz_put hf (by simp)) (fz_mono g1 (by simp))) (fz_mono h1 (by simp))
        have hj3 : ∀ j : Int, j ≠ 24 → j ≠ 52 → F3 50 j = E 50 j := fun j j1 j2 => (h2 j j1).trans ((g2 j j2).trans ((zuE_ix j2).trans (hj j j1 j2)))
        have pre : ∀ kz (Q : Option zV → zH → Prop), (x ≠ 0 → Z zm_X12_writesAll kz Q 3 [(0, zR 50), (1, zI (c : Int)), (2, zI base), (3, zI but), (4, zI ((l : Int) + 1))] [] (d, G, F3)) → (¬ x ≠ 0 → Q (some (zI 0)) (d, G, F3)) → Z zm_X12_writesAll kz Q 3 [(0, zR 50), (1, zI (c : Int)), (2, zI base), (3, zI but), (4, zI (l : Int))] [] (d, G, F) := fun kz Q k1 k2 => by
          refine X12_writesAll_3 hM ⟨⟨by omega, by omega⟩, fun y => absurd y (by omega), fun _ => ⟨fun y => absurd y cb, fun _ H1 e1 => ?_⟩⟩
          rw [e1]
          refine ⟨zin_of (by omega) (by omega), zin_of (by omega) (by omega), F2, m2, zin_of (by omega) (by omega), zin_of (by omega) (by omega), ⟨by omega, by omega⟩, ?_⟩
          rw [f60]
          exact ⟨x, F3, m3, fun y => ⟨zin_of (by omega) (by omega), k1 y⟩, k2⟩
        simp only [frm]
        rw [if_neg cb]
        simp only [adds]
        rcases h3 with ⟨x1, hx1, hx2⟩ | ⟨x0, hx1, hx2⟩
        · obtain ⟨x', E', z, z1, z2, z3⟩ := ih (l + 1) F3 (acc ++ [((lit R l).1, sb (th b) (g (lit R l).2))]) (by omega) hf3 hj3 hx2
          rw [el] at z
          refine ⟨x', E', fun kz Q hQ => pre kz Q (fun _ => z kz Q hQ) (fun y => absurd (by omega) y), z1, z2, ?_⟩
          rw [if_pos hx1]; exact z3
        · refine ⟨0, F3, fun kz Q hQ => pre kz Q (fun y => absurd x0 y) (fun _ => hQ), hf3, hj3, Or.inr ⟨rfl, ?_⟩⟩
          rw [if_neg hx1]
  obtain ⟨x, E', z, zr⟩ := loop R.length 0 E acc (by omega) fz_rfl (fun _ _ _ => rfl) hA
  exact ⟨x, E', zM_go rfl (Nat.le_of_ble_eq_true rfl) (fun kz Q hQ => X12_writesAll_0 hM (z kz Q hQ)), zr⟩
/-- two claims laid side by side -/
theorem take2_ok {p n : Nat} (hM : zK zMt d G) (hp : p < 150) (hn : n < 150) (hlo : ∀ i : Int, -1000 ≤ E 58 i) :
    ∃ E' : Nat → Int → Int, zM zm_X12_take [zR 50, zI (p : Int), zI (n : Int)] (d, G, E) none (d, G, E') ∧ fz [97, 98] E E' ∧ (∀ L : Int, 0 ≤ L → L < 40 → E' 98 L = -1) ∧ ∀ k : Int, 0 ≤ k → k < 180 → E' 97 k = E 58 (180 * (p : Int) + k) ∧ E' 97 (180 + k) = shf (E 58 (180 * (n : Int) + k)) := by
  have loop2 : ∀ (m k : Nat) (F : Nat → Int → Int), k + m = 40 → fz [97, 98] E F → (∀ L : Int, 0 ≤ L → L < k → F 98 L = -1) → (∀ k : Int, 0 ≤ k → k < 180 → F 97 k = E 58 (180 * (p : Int) + k) ∧ F 97 (180 + k) = shf (E 58 (180 * (n : Int) + k))) →
      ∃ E' : Nat → Int → Int, zgo zm_X12_take 74 [(0, zR 50), (3, zI (k : Int))] [] (d, G, F) none (d, G, E') ∧ fz [97, 98] E E' ∧ (∀ L : Int, 0 ≤ L → L < 40 → E' 98 L = -1) ∧ ∀ k : Int, 0 ≤ k → k < 180 → E' 97 k = E 58 (180 * (p : Int) + k) ∧ E' 97 (180 + k) = shf (E 58 (180 * (n : Int) + k)) := by
    intro m
    induction m with
    | zero =>
      intro k F hk hf h98 h97
      have e : k = 40 := by omega
      subst e
      exact ⟨F, fun kz Q hQ => X12_take_74 hM ⟨fun _ => hQ, fun z => absurd (by omega) z⟩, hf, fun L l0 l1 => h98 L l0 (by omega), h97⟩
    | succ m ih =>
      intro k F hk hf h98 h97
      have ek : ((k + 1 : Nat) : Int) = (k : Int) + 1 := by omega
      obtain ⟨E', z, zr⟩ := ih (k + 1) (zuE F 98 k (-1)) (by omega) (fz_put hf (by simp)) (fun L l0 l1 => by
        by_cases c : L = k
        · subst c; exact zuE_same
        · rw [zuE_ix c]; exact h98 L l0 (by omega)) (fun j j0 j1 => by rw [zuE_nf (by decide)]; exact h97 j j0 j1)
      rw [ek] at z
      exact ⟨E', fun kz Q hQ => X12_take_74 hM ⟨fun y => absurd y (by omega), fun _ => ⟨⟨by omega, by omega⟩, fun H e => ⟨zin_of (by omega) (by omega), by rw [e]; exact z kz Q hQ⟩⟩⟩, zr⟩
  have loop1 : ∀ (m k : Nat) (F : Nat → Int → Int), k + m = 180 → fz [97, 98] E F → (∀ j : Int, 0 ≤ j → j < k → F 97 j = E 58 (180 * (p : Int) + j) ∧ F 97 (180 + j) = shf (E 58 (180 * (n : Int) + j))) →
      ∃ E' : Nat → Int → Int, zgo zm_X12_take 2 [(0, zR 50), (1, zI (p : Int)), (2, zI (n : Int)), (3, zI (k : Int))] [] (d, G, F) none (d, G, E') ∧ fz [97, 98] E E' ∧ (∀ L : Int, 0 ≤ L → L < 40 → E' 98 L = -1) ∧ ∀ k : Int, 0 ≤ k → k < 180 → E' 97 k = E 58 (180 * (p : Int) + k) ∧ E' 97 (180 + k) = shf (E 58 (180 * (n : Int) + k)) := by
    intro m
    induction m with
    | zero =>
      intro k F hk hf h97
      have e : k = 180 := by omega
      subst e
      obtain ⟨E', z, zr⟩ := loop2 40 0 F (by omega) hf (fun L l0 l1 => by omega) (fun j j0 j1 => h97 j j0 (by omega))
      exact ⟨E', fun kz Q hQ => X12_take_2 hM ⟨fun _ => z kz Q hQ, fun z => absurd (by omega) z⟩, zr⟩
    | succ m ih =>
      intro k F hk hf h97
      have ek : ((k + 1 : Nat) : Int) = (k : Int) + 1 := by omega
      have f58 : F 58 = E 58 := hf 58 (by simp)
      let F1 := zuE F 97 k (E 58 (180 * (p : Int) + k))
      let F2 := zuE F1 97 (180 + (k : Int)) (shf (E 58 (180 * (n : Int) + k)))
      have l58 := hlo (180 * (n : Int) + k)
      obtain ⟨E', z, zr⟩ := ih (k + 1) F2 (by omega) (fz_put (fz_put hf (by simp)) (by simp)) (fun j j0 j1 => by
        by_cases c : j = k
        · subst c; exact ⟨(zuE_ix (by omega)).trans zuE_same, zuE_same⟩
        · have h := h97 j j0 (by omega)
          exact ⟨((zuE_ix (by omega)).trans (zuE_ix c)).trans h.1, ((zuE_ix (by omega)).trans (zuE_ix (by omega))).trans h.2⟩)
      rw [ek] at z
      refine ⟨E', fun kz Q hQ => X12_take_2 hM ⟨fun y => absurd y (by omega), fun _ => ⟨zin_of (by omega) (by omega), zin_of (by omega) (by omega), ⟨by omega, by omega⟩, ⟨by omega, by omega⟩, fun H1 e1 => ?_⟩⟩, zr⟩
      have q58 : H1 58 = E 58 := by rw [e1]; exact (zuE_nf (by decide)).trans f58
      have eH1 : H1 = F1 := by rw [e1, f58]
      rw [q58]
      refine ⟨zin_of (by omega) (by omega), zin_of (by omega) (by omega), ⟨by omega, by omega⟩, zin_of (by omega) (by omega), fun y => ⟨⟨by omega, by omega⟩, fun H2 e2 => ⟨zin_of (by omega) (by omega), ?_⟩⟩, fun y => ⟨zin_of (by omega) (by omega), ⟨by omega, by omega⟩, fun H2 e2 => ⟨zin_of (by omega) (by omega), ?_⟩⟩⟩
      · have : shf (E 58 (180 * (n : Int) + k)) = E 58 (180 * (n : Int) + k) := if_neg (by omega)
        rw [e2, eH1, ← this]; exact z kz Q hQ
      · have : shf (E 58 (180 * (n : Int) + k)) = E 58 (180 * (n : Int) + k) - 20 := if_pos (by omega)
        rw [e2, eH1, ← this]; exact z kz Q hQ
  obtain ⟨E', z, zr⟩ := loop1 180 0 E (by omega) fz_rfl (fun j j0 j1 => by omega)
  exact ⟨E', zM_go rfl (Nat.le_of_ble_eq_true rfl) (fun kz Q hQ => X12_take_0 hM (z kz Q hQ)), zr⟩
end RP
