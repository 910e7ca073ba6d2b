/-! ===== matching: bindings, and the class ===== -/
abbrev zBd : Type := List (Int × List Int)
def lkp : zBd → Int → Option (List Int)
  | [], _ => none
  | q :: b, L => if q.1 = L then some q.2 else lkp b L
theorem lkp_none {b : zBd} {L : Int} : lkp b L = none ↔ ∀ q, q ∈ b → q.1 ≠ L := by
  induction b with
  | nil => simp [lkp]
  | cons q b ih =>
    simp only [lkp]
    by_cases h : q.1 = L
    · rw [if_pos h]; simp [h]
    · rw [if_neg h, ih]; simp [h]
theorem lkp_l {b c : zBd} {L : Int} {u : List Int} (h : lkp b L = some u) : lkp (b ++ c) L = some u := by
  induction b with
  | nil => simp [lkp] at h
  | cons q b ih =>
    simp only [lkp, List.cons_append] at h ⊢
    by_cases e : q.1 = L
    · rw [if_pos e] at h ⊢; exact h
    · rw [if_neg e] at h ⊢; exact ih h
theorem lkp_r {b c : zBd} {L : Int} (h : lkp b L = none) : lkp (b ++ c) L = lkp c L := by
  induction b with
  | nil => rfl
  | cons q b ih =>
    simp only [lkp, List.cons_append] at h ⊢
    by_cases e : q.1 = L
    · rw [if_pos e] at h; exact absurd h (by simp)
    · rw [if_neg e] at h ⊢; exact ih h
/-- matching a row of places against another, letters bound one after the other -/
noncomputable def mt (P : Int → Int) : List Int → zBd → List Int → Option zBd
  | [], b, _ => some b
  | v :: p, b, w => if 0 ≤ v then (if fw w 0 = v then mt P p b (w.drop 1) else none) else
      match lkp b (-1 - v) with
      | none => mt P p (b ++ [(-1 - v, w.take (tl P (fw w) 0))]) (w.drop (tl P (fw w) 0))
      | some u => if u = w.take (tl P (fw w) 0) then mt P p b (w.drop (tl P (fw w) 0)) else none
theorem fw_cs {v : Int} {p : List Int} {i : Int} {k : Nat} (h : i = 1 + k) : fw (v :: p) i = fw p k := by
  rw [fw_c (n := k + 1) (by omega), fw_nat]; simp
theorem fw_c0 {v : Int} {p : List Int} : fw (v :: p) 0 = v := by
  simp [fw]
theorem fw_dr {w : List Int} {n : Nat} {i : Int} {k : Nat} (h : i = k) : fw (w.drop n) i = fw w ((n : Int) + k) := by
  rw [fw_c h, fw_c (n := n + k) (by omega)]
  rw [List.getD_eq_getElem?_getD, List.getD_eq_getElem?_getD, List.getElem?_drop]
theorem fw_tk {w : List Int} {n : Nat} {i : Int} {k : Nat} (h : i = k) (hk : k < n) : fw (w.take n) i = fw w k := by
  rw [fw_c h, fw_nat, List.getD_eq_getElem?_getD, List.getD_eq_getElem?_getD, List.getElem?_take_of_lt hk]
/-- peeling a row of terms -/
theorem ts_pos {P f : Int → Int} {i : Int} {q n : Nat} (h : ts P f i q n) : q = 0 ↔ n = 0 := by
  constructor
  · intro e; subst e; exact ts_0 h
  · intro e
    subst e
    have := h.1
    simp only [nd] at this
    omega
theorem ts_let {P f : Int → Int} {i : Int} {q n : Nat} (h : ts P f i (q + 1) (n + 1)) (hv : f i < 0) : ts P f (i + 1) q n := by
  have e0 : i + ((0 : Nat) : Int) = i := by omega
  have n1 : nd P f i 1 = 0 := by simp only [nd]; rw [e0, if_pos hv]; omega
  have e1 : i + ((1 : Nat) : Int) = i + 1 := by omega
  have sh : ∀ k, nd P f (i + 1) k = 1 + nd P f i (1 + k) := fun k => by
    have := nd_shift (P := P) (f := f) (i := i) (m := 1) k
    rw [e1, n1] at this; omega
  refine ⟨?_, fun k hk => ?_⟩
  · have := h.1
    rw [sh, (by omega : 1 + n = n + 1)]; omega
  · have := h.2 (1 + k) (by omega)
    rw [sh]
    have e2 : i + ((1 + k : Nat) : Int) = i + 1 + k := by omega
    rw [e2] at this
    exact ⟨by omega, this.2⟩
theorem ts_sgn {P f : Int → Int} {i : Int} {q n : Nat} (hP : pok P) (h : ts P f i (q + 1) (n + 1)) (hv : 0 ≤ f i) : ts P f (i + 1) (q + (P (f i)).toNat) n := by
  have e0 : i + ((0 : Nat) : Int) = i := by omega
  have h16 := (h.2 0 (by omega)).2
  rw [e0] at h16
  have hp := hP _ hv h16
  have n1 : nd P f i 1 = P (f i) := by simp only [nd]; rw [e0, if_neg (by omega)]; omega
  have e1 : i + ((1 : Nat) : Int) = i + 1 := by omega
  have sh : ∀ k, nd P f (i + 1) k = 1 + (nd P f i (1 + k) - P (f i)) := fun k => by
    have := nd_shift (P := P) (f := f) (i := i) (m := 1) k
    rw [e1, n1] at this; omega
  have ec : ((P (f i)).toNat : Int) = P (f i) := by omega
  refine ⟨?_, fun k hk => ?_⟩
  · have := h.1
    rw [sh, (by omega : 1 + n = n + 1)]; omega
  · have := h.2 (1 + k) (by omega)
    rw [sh]
    have e2 : i + ((1 + k : Nat) : Int) = i + 1 + k := by omega
    rw [e2] at this
    exact ⟨by omega, this.2⟩
theorem ts_le {P f : Int → Int} {i : Int} (hP : pok P) : ∀ {q n : Nat}, ts P f i q n → q ≤ n
  | q, n, h => by
    have a := h.1
    have lo : ∀ k : Nat, k ≤ n → 1 - (k : Int) ≤ nd P f i k := fun k => by
      induction k with
      | zero => intro _; simp [nd]
      | succ k ih =>
        intro hk
        have := nd_step (P := P) (f := f) (i := i) hP k (h.2 k (by omega)).2
        have := ih (by omega)
        omega
    have := lo n (Nat.le_refl _)
    omega
theorem tsw_let {P : Int → Int} {q : Nat} {v : Int} {p : List Int} (h : ts P (fw (v :: p)) 0 (q + 1) (v :: p).length) (hv : v < 0) : ts P (fw p) 0 q p.length := by
  have := ts_let (n := p.length) h (by rw [fw_c0]; exact hv)
  exact ts_congr this (fun k hk => by rw [fw_cs (k := k) (by omega)]; congr 1; omega)
theorem tsw_sgn {P : Int → Int} {q : Nat} {v : Int} {p : List Int} (hP : pok P) (h : ts P (fw (v :: p)) 0 (q + 1) (v :: p).length) (hv : 0 ≤ v) : ts P (fw p) 0 (q + (P v).toNat) p.length := by
  have := ts_sgn (n := p.length) hP h (by rw [fw_c0]; exact hv)
  rw [fw_c0] at this
  exact ts_congr this (fun k hk => by rw [fw_cs (k := k) (by omega)]; congr 1; omega)
theorem tsw_trm {P : Int → Int} {q : Nat} {w : List Int} (hP : pok P) (h : ts P (fw w) 0 (q + 1) w.length) : ∃ n : Nat, 0 < n ∧ n ≤ w.length ∧ tl P (fw w) 0 = n ∧ tm P (fw w) 0 n ∧ ts P (fw (w.drop n)) 0 q (w.drop n).length := by
  obtain ⟨n, c1, c2, c3, c4⟩ := ts_succ hP h
  refine ⟨n, c2, c1, tl_eq c3, c3, ?_⟩
  rw [List.length_drop]
  exact ts_congr c4 (fun k hk => by rw [fw_dr (k := k) (by omega)]; congr 1; omega)
theorem tsw_lt {P : Int → Int} {q : Nat} {v : Int} {p : List Int} (h : ts P (fw (v :: p)) 0 q (v :: p).length) : v < 16 := by
  have := (h.2 0 (by simp)).2
  have e : (0 : Int) + ((0 : Nat) : Int) = 0 := by omega
  rw [e, fw_c0] at this; exact this
/-- what stands for letters of the second row, in the class's heap; the places lie in T -/
def bdC (E : Nat → Int → Int) (P : Int → Int) (T : Nat) (N : Int) (b : zBd) : Prop :=
  E 20 4 = b.length ∧ (∀ k : Nat, k < b.length → E 23 k = 20 + (b.getD k (0, [])).1) ∧ (∀ q, q ∈ b → 0 ≤ q.1 ∧ q.1 < 20) ∧ (b.map (·.1)).Nodup ∧
  (∀ L : Int, 0 ≤ L → L < 20 → E 22 L = -1) ∧ (∀ L : Int, 0 ≤ L → L < 20 → lkp b L = none → E 22 (20 + L) = -1) ∧
  ∀ (L : Int) (u : List Int), lkp b L = some u → 0 ≤ E 22 (20 + L) ∧ E 22 (20 + L) + u.length ≤ N ∧ lk (E T) (E 22 (20 + L)) (fw u) 0 u.length ∧ tm P (fw u) 0 u.length
theorem lkp_mem {b : zBd} {L : Int} {u : List Int} (h : lkp b L = some u) : (L, u) ∈ b := by
  induction b with
  | nil => simp [lkp] at h
  | cons q b ih =>
    simp only [lkp] at h
    by_cases e : q.1 = L
    · rw [if_pos e] at h
      have : q.2 = u := by simpa using h
      have : q = (L, u) := Prod.ext e this
      rw [this]; exact List.mem_cons_self
    · rw [if_neg e] at h
      exact List.mem_cons_of_mem _ (ih h)
theorem bd_len {b : zBd} (h : ∀ q, q ∈ b → 0 ≤ q.1 ∧ q.1 < 20) (hn : (b.map (·.1)).Nodup) : b.length ≤ 20 := by
  have hsub : (b.map (·.1)) ⊆ (List.range 20).map (fun n : Nat => (n : Int)) := by
    intro x hx
    obtain ⟨q, q1, q2⟩ := List.mem_map.1 hx
    have := h q q1
    refine List.mem_map.2 ⟨x.toNat, ?_, ?_⟩
    · rw [List.mem_range]; omega
    · show ((x.toNat : Nat) : Int) = x
      omega
  have := List.Nodup.length_le_of_subset hn hsub
  simpa using this
theorem getD_mem {b : zBd} {k : Nat} (h : k < b.length) : b.getD k (0, []) ∈ b := by
  rw [List.getD_eq_getElem?_getD, List.getElem?_eq_getElem h]
  exact List.getElem_mem h
theorem getD_l {b c : zBd} {k : Nat} (h : k < b.length) : (b ++ c).getD k (0, []) = b.getD k (0, []) := by
  rw [List.getD_eq_getElem?_getD, List.getD_eq_getElem?_getD, List.getElem?_append_left h]
theorem getD_r {b c : zBd} {k : Nat} : (b ++ c).getD (b.length + k) (0, []) = c.getD k (0, []) := by
  rw [List.getD_eq_getElem?_getD, List.getD_eq_getElem?_getD, List.getElem?_append_right (by omega)]
  congr 2; omega
theorem mem_getD {b : zBd} {q : Int × List Int} (h : q ∈ b) : ∃ k, k < b.length ∧ b.getD k (0, []) = q := by
  obtain ⟨k, hk, e⟩ := List.getElem_of_mem h
  exact ⟨k, hk, by rw [List.getD_eq_getElem?_getD, List.getElem?_eq_getElem hk, e]; rfl⟩
/-- the Standing as it may lie between uses -/
def stI (E : Nat → Int → Int) : Prop := 0 ≤ E 20 4 ∧ E 20 4 ≤ 40 ∧ (∀ k : Int, 0 ≤ k → k < E 20 4 → 0 ≤ E 23 k ∧ E 23 k < 40) ∧ ∀ L : Int, 0 ≤ L → L < 40 → E 22 L ≠ -1 → ∃ k : Int, 0 ≤ k ∧ k < E 20 4 ∧ E 23 k = L
section PW
variable {d : List Nat} {G : Nat → Int → Option Nat} {E : Nat → Int → Int}
theorem alike_no {a b n m : Nat} {i j : Int} {t : Nat} (hX : zK zXt d G) (ha : a ∈ d) (hk : zkd a = (0, n)) (hb : b ∈ d) (hkb : zkd b = (0, m)) (h0 : 0 ≤ i) (hi : i ≤ 100000) (ht : t ≤ 100000) (hn2 : n ≤ 100000) (hn : (n : Int) < i + t) (h1 : 0 ≤ j) : zM zm_X11_alike [zR a, zI i, zR b, zI j, zI (t : Int)] (d, G, E) (some (zI 0)) (d, G, E) :=
  zM_p rfl (Nat.le_of_ble_eq_true rfl) (fun kz Q hQ => X11_alike_0 hX ha hk hb hkb ⟨fun c => absurd c (by omega), fun _ => ⟨fun c => absurd c (by omega), fun _ => ⟨zin_of (by omega) (by omega), zin_of (by omega) (by omega), fun _ => hQ, fun c => absurd hn c⟩⟩⟩)
/-- taking back all but n -/
theorem forget_ok {n : Nat} (hX : zK zXt d G) (h0 : 0 ≤ E 20 4) (h40 : E 20 4 ≤ 40) (ht : ∀ k : Int, (n : Int) ≤ k → k < E 20 4 → 0 ≤ E 23 k ∧ E 23 k < 40) :
    ∃ E' : Nat → Int → Int, zM zm_X9_forget [zR 20, zI (n : Int)] (d, G, E) none (d, G, E') ∧ fz [20, 22] E E' ∧ (∀ j : Int, j ≠ 4 → E' 20 j = E 20 j) ∧ (E' 20 4 = if E 20 4 ≤ n then E 20 4 else n) ∧ (∀ L : Int, (∃ k : Int, (n : Int) ≤ k ∧ k < E 20 4 ∧ E 23 k = L) → E' 22 L = -1) ∧ ∀ L : Int, (∀ k : Int, (n : Int) ≤ k → k < E 20 4 → E 23 k ≠ L) → E' 22 L = E 22 L := by
  have loop : ∀ (m : Nat) (F : Nat → Int → Int), F 20 4 = E 20 4 - ((E 20 4 - n).toNat - m : Int) → (m : Int) ≤ E 20 4 - n → (n : Int) ≤ E 20 4 → fz [20, 22] E F → (∀ j : Int, j ≠ 4 → F 20 j = E 20 j) → (∀ L : Int, (∃ k : Int, F 20 4 ≤ k ∧ k < E 20 4 ∧ E 23 k = L) → F 22 L = -1) → (∀ L : Int, (∀ k : Int, F 20 4 ≤ k → k < E 20 4 → E 23 k ≠ L) → F 22 L = E 22 L) →
      ∃ E' : Nat → Int → Int, zgo zm_X9_forget 0 [(0, zR 20), (1, zI (n : Int))] [] (d, G, F) none (d, G, E') ∧ fz [20, 22] E E' ∧ (∀ j : Int, j ≠ 4 → E' 20 j = E 20 j) ∧ E' 20 4 = n ∧ (∀ L : Int, (∃ k : Int, (n : Int) ≤ k ∧ k < E 20 4 ∧ E 23 k = L) → E' 22 L = -1) ∧ ∀ L : Int, (∀ k : Int, (n : Int) ≤ k → k < E 20 4 → E 23 k ≠ L) → E' 22 L = E 22 L := by
    intro m
    induction m with
    | zero =>
      intro F f4 hm hn hf hj h1 h2
      have e : F 20 4 = n := by omega
      rw [e] at h1 h2
      exact ⟨F, fun kz Q hQ => X9_forget_0 hX ⟨fun _ => hQ, fun c => absurd (by omega) c⟩, hf, hj, e, h1, h2⟩
    | succ m ih =>
      intro F f4 hm hn hf hj h1 h2
      have e4 : F 20 4 = n + m + 1 := by omega
      have t23 : F 23 = E 23 := hf 23 (by simp)
      have tk := ht ((n : Int) + m) (by omega) (by omega)
      let F1 := zuE F 20 4 ((n : Int) + m)
      let F2 := zuE F1 22 (E 23 ((n : Int) + m)) (-1)
      have g4 : F2 20 4 = (n : Int) + m := (zuE_ne (by decide) _).trans zuE_same
      obtain ⟨E', z, zr⟩ := ih F2 (by rw [g4]; omega) (by omega) hn (fz_put (fz_put hf (by simp)) (by simp)) (fun j hj' => (zuE_ne (by decide) _).trans ((zuE_ix hj').trans (hj j hj'))) (fun L hL => by
        rw [g4] at hL
        obtain ⟨k, k1, k2, k3⟩ := hL
        rcases (by omega : L = E 23 ((n : Int) + m) ∨ L ≠ E 23 ((n : Int) + m)) with c | c
        · subst c; exact zuE_same
        · refine (zuE_ix c).trans ((zuE_ne (by decide) _).trans (h1 L ⟨k, ?_, k2, k3⟩))
          rcases (by omega : k = (n : Int) + m ∨ (n : Int) + m + 1 ≤ k) with q | q
          · subst q; exact absurd k3.symm c
          · omega) (fun L hL => by
        rw [g4] at hL
        have c : L ≠ E 23 ((n : Int) + m) := fun q => hL _ (by omega) (by omega) q.symm
        refine (zuE_ix c).trans ((zuE_ne (by decide) _).trans (h2 L (fun k k1 k2 => hL k (by omega) k2))))
      refine ⟨E', fun kz Q hQ => X9_forget_0 hX ⟨fun c => absurd c (by omega), fun _ => ⟨fun c => absurd c (by omega), fun _ => ⟨zin_of (by omega) (by omega), fun H1 g1 => ?_⟩⟩⟩, zr⟩
      have e5 : H1 = F1 := by
        rw [g1, e4]
        show zuE F 20 4 ((n : Int) + m + 1 - 1) = F1
        congr 1; omega
      have e6 : F1 20 4 = (n : Int) + m := zuE_same
      have e7 : F1 23 = E 23 := (zuE_nf (by decide)).trans t23
      rw [e5, e6, e7]
      exact ⟨⟨by omega, by omega⟩, ⟨by omega, by omega⟩, fun H2 g2 => by rw [g2]; exact z kz Q hQ⟩
  rcases (by omega : E 20 4 ≤ n ∨ (n : Int) < E 20 4) with c | c
  · refine ⟨E, zM_go rfl (Nat.le_of_ble_eq_true rfl) (fun kz Q hQ => X9_forget_0 hX ⟨fun _ => hQ, fun q => absurd c q⟩), fz_rfl, fun j _ => rfl, by rw [if_pos c], fun L hL => ?_, fun L _ => rfl⟩
    obtain ⟨k, k1, k2, _⟩ := hL
    omega
  · obtain ⟨E', z, a1, a2, a3, a4, a5⟩ := loop (E 20 4 - n).toNat E (by omega) (by omega) (by omega) fz_rfl (fun j _ => rfl) (fun L hL => by obtain ⟨k, k1, k2, _⟩ := hL; omega) (fun L _ => rfl)
    exact ⟨E', zM_go rfl (Nat.le_of_ble_eq_true rfl) z, a1, a2, by rw [if_neg (by omega)]; exact a3, a4, a5⟩
theorem forget0_ok (hX : zK zXt d G) (h : stI E) : ∃ E' : Nat → Int → Int, zM zm_X9_forget [zR 20, zI 0] (d, G, E) none (d, G, E') ∧ fz [20, 22] E E' ∧ (∀ j : Int, j ≠ 4 → E' 20 j = E 20 j) ∧ E' 20 4 = 0 ∧ ∀ L : Int, 0 ≤ L → L < 40 → E' 22 L = -1 := by
  obtain ⟨E', m, a1, a2, a3, a4, a5⟩ := forget_ok (E := E) (n := 0) hX h.1 h.2.1 (fun k k1 k2 => h.2.2.1 k (by omega) k2)
  refine ⟨E', m, a1, a2, ?_, fun L l1 l2 => ?_⟩
  · rw [a3]
    have := h.1
    split <;> omega
  · by_cases c : E 22 L = -1
    · by_cases q : ∃ k : Int, ((0 : Nat) : Int) ≤ k ∧ k < E 20 4 ∧ E 23 k = L
      · exact a4 L q
      · rw [a5 L (fun k k1 k2 k3 => q ⟨k, k1, k2, k3⟩)]; exact c
    · obtain ⟨k, k1, k2, k3⟩ := h.2.2.2 L l1 l2 c
      exact a4 L ⟨k, by omega, k2, k3⟩
theorem bdC_nil {P : Int → Int} {T : Nat} {N : Int} (h4 : E 20 4 = 0) (h : ∀ L : Int, 0 ≤ L → L < 40 → E 22 L = -1) : bdC E P T N [] :=
  ⟨by rw [h4]; rfl, fun k hk => absurd hk (by simp), fun q hq => absurd hq (by simp), by simp, fun L l1 l2 => h L l1 (by omega), fun L l1 l2 _ => h _ (by omega) (by omega), fun L u hq => by simp [lkp] at hq⟩
theorem bdC_stI {P : Int → Int} {T : Nat} {N : Int} {b : zBd} (h : bdC E P T N b) : stI E := by
  obtain ⟨h1, h2, h3, h4, h5, h6, h7⟩ := h
  have hl := bd_len h3 h4
  refine ⟨by omega, by omega, fun k k1 k2 => ?_, fun L l1 l2 hL => ?_⟩
  · have e : k = ((k.toNat : Nat) : Int) := by omega
    have hk : k.toNat < b.length := by omega
    have q := h3 _ (getD_mem hk)
    rw [e, h2 _ hk]
    omega
  · rcases (by omega : L < 20 ∨ 20 ≤ L) with c | c
    · exact absurd (h5 L l1 c) hL
    · have e : L = 20 + (L - 20) := by omega
      cases hq : lkp b (L - 20) with
      | none => rw [e] at hL; exact absurd (h6 (L - 20) (by omega) (by omega) hq) hL
      | some u =>
        obtain ⟨k, k1, k2⟩ := mem_getD (lkp_mem hq)
        exact ⟨k, by omega, by omega, by rw [h2 k k1, k2]; dsimp only; omega⟩
theorem bdC_fz {P : Int → Int} {T : Nat} {N : Int} {b : zBd} {E' : Nat → Int → Int} {S : List Nat} (h : bdC E P T N b) (hf : fz S E E') (h0 : 20 ∉ S) (h1 : 22 ∉ S) (h2 : 23 ∉ S) (h3 : T ∉ S) : bdC E' P T N b := by
  unfold bdC at *
  rw [hf 20 h0, hf 22 h1, hf 23 h2, hf T h3]
  exact h
/-- back to the first ones -/
theorem forgetB_ok {P : Int → Int} {T : Nat} {N : Int} {b c : zBd} (hX : zK zXt d G) (hT : T ≠ 20 ∧ T ≠ 22) (h : bdC E P T N (b ++ c)) : ∃ E' : Nat → Int → Int, zM zm_X9_forget [zR 20, zI (b.length : Int)] (d, G, E) none (d, G, E') ∧ fz [20, 22] E E' ∧ bdC E' P T N b := by
  have hs := bdC_stI h
  obtain ⟨h1, h2, h3, h4, h5, h6, h7⟩ := h
  have el : ((b ++ c).length : Int) = b.length + c.length := by simp
  rw [List.map_append, List.nodup_append] at h4
  obtain ⟨n1, n2, n3⟩ := h4
  obtain ⟨E', m, a1, a2, a3, a4, a5⟩ := forget_ok (E := E) (n := b.length) hX hs.1 hs.2.1 (fun k k1 k2 => hs.2.2.1 k (by omega) k2)
  have g23 : E' 23 = E 23 := a1 23 (by simp)
  have gT : E' T = E T := a1 T (by simp; omega)
  have key : ∀ L : Int, (∃ k : Int, ((b.length : Nat) : Int) ≤ k ∧ k < E 20 4 ∧ E 23 k = L) → ∃ q, q ∈ c ∧ L = 20 + q.1 := by
    rintro L ⟨k, k1, k2, k3⟩
    have e : k.toNat = b.length + (k.toNat - b.length) := by omega
    have hk := h2 k.toNat (by omega)
    have ek : ((k.toNat : Nat) : Int) = k := by omega
    rw [ek, k3, e, getD_r] at hk
    exact ⟨_, getD_mem (by omega), hk⟩
  have key2 : ∀ q, q ∈ c → ∃ k : Int, ((b.length : Nat) : Int) ≤ k ∧ k < E 20 4 ∧ E 23 k = 20 + q.1 := by
    intro q hq
    obtain ⟨k, k1, k2⟩ := mem_getD hq
    refine ⟨((b.length + k : Nat) : Int), by omega, by omega, ?_⟩
    have := h2 (b.length + k) (by omega)
    rw [getD_r, k2] at this
    exact this
  refine ⟨E', m, a1, ?_, fun k hk => ?_, fun q hq => h3 q (List.mem_append_left _ hq), n1, fun L l1 l2 => ?_, fun L l1 l2 hL => ?_, fun L u hL => ?_⟩
  · rw [a3]; split <;> omega
  · rw [g23]
    have := h2 k (by omega)
    rw [getD_l hk] at this
    exact this
  · rw [a5 L (fun k k1 k2 k3 => by
      obtain ⟨q, q1, q2⟩ := key L ⟨k, k1, k2, k3⟩
      have := h3 q (List.mem_append_right _ q1)
      omega)]
    exact h5 L l1 l2
  · by_cases q : ∃ k : Int, ((b.length : Nat) : Int) ≤ k ∧ k < E 20 4 ∧ E 23 k = 20 + L
    · exact a4 _ q
    · rw [a5 _ (fun k k1 k2 k3 => q ⟨k, k1, k2, k3⟩)]
      refine h6 L l1 l2 ?_
      rw [lkp_r hL, lkp_none]
      intro q' hq' e
      obtain ⟨k, k1, k2, k3⟩ := key2 q' hq'
      exact q ⟨k, k1, k2, by rw [k3, e]⟩
  · rw [a5 _ (fun k k1 k2 k3 => by
      obtain ⟨q, q1, q2⟩ := key _ ⟨k, k1, k2, k3⟩
      have e : L = q.1 := by omega
      exact n3 L (List.mem_map.2 ⟨_, lkp_mem hL, rfl⟩) q.1 (List.mem_map.2 ⟨q, q1, rfl⟩) e), gT]
    exact h7 L u (lkp_l hL)
/-- one more letter -/
theorem tell_ok {P : Int → Int} {T : Nat} {N : Int} {b : zBd} {L at' : Int} {u : List Int} (hX : zK zXt d G) (hT : T ≠ 20 ∧ T ≠ 22 ∧ T ≠ 23) (h : bdC E P T N b) (l0 : 0 ≤ L) (l1 : L < 20) (hL : lkp b L = none) (ha : 0 ≤ at') (hu : at' + u.length ≤ N) (hk : lk (E T) at' (fw u) 0 u.length) (ht : tm P (fw u) 0 u.length) :
    ∃ E' : Nat → Int → Int, zM zm_X9_tell [zR 20, zI (20 + L), zI at'] (d, G, E) none (d, G, E') ∧ fz [20, 22, 23] E E' ∧ bdC E' P T N (b ++ [(L, u)]) := by
  obtain ⟨h1, h2, h3, h4, h5, h6, h7⟩ := h
  have hl : (b ++ [(L, u)]).length ≤ 20 := by
    refine bd_len (fun q hq => ?_) ?_
    · rcases List.mem_append.1 hq with c | c
      · exact h3 q c
      · have : q = (L, u) := by simpa using c
        rw [this]; exact ⟨l0, l1⟩
    · rw [List.map_append, List.nodup_append]
      refine ⟨h4, by simp, fun x hx y hy e => ?_⟩
      obtain ⟨q, q1, q2⟩ := List.mem_map.1 hx
      have : y = L := by simpa using hy
      exact lkp_none.1 hL q q1 (by rw [q2, e, this])
  have hlen : (b ++ [(L, u)]).length = b.length + 1 := by simp
  let F1 := zuE E 22 (20 + L) at'
  let F2 := zuE F1 23 b.length (20 + L)
  let F3 := zuE F2 20 4 ((b.length : Int) + 1)
  have g1 : F1 20 4 = b.length := (zuE_ne (by decide) _).trans h1
  have g2 : F2 20 4 = b.length := (zuE_ne (by decide) _).trans g1
  have gT : F3 T = E T := (zuE_nf (by omega)).trans ((zuE_nf (by omega)).trans (zuE_nf (by omega)))
  have g22 : F3 22 = F1 22 := (zuE_nf (by decide)).trans (zuE_nf (by decide))
  have g23 : F3 23 = F2 23 := zuE_nf (by decide)
  refine ⟨F3, zM_e rfl (Nat.le_of_ble_eq_true rfl) (fun kz Q hQ => X9_tell_0 hX ⟨fun c => absurd c (by omega), fun _ => ⟨fun c => absurd c (by omega), fun _ => ⟨⟨by omega, by omega⟩, fun H1 e1 => ?_⟩⟩⟩), ?_, ?_, ?_, ?_, ?_, ?_, ?_, ?_⟩
  · rw [e1, show zuE E 22 (20 + L) at' 20 4 = b.length from g1]
    refine ⟨⟨by omega, by omega⟩, fun H2 e2 => ?_⟩
    rw [e2, show zuE (zuE E 22 (20 + L) at') 23 b.length (20 + L) 20 4 = b.length from g2]
    exact ⟨zin_of (by omega) (by omega), fun H3 e3 => by rw [e3]; exact hQ⟩
  · exact fz_put (fz_put (fz_put fz_rfl (by simp)) (by simp)) (by simp)
  · rw [hlen]; exact zuE_same
  · intro k hk'
    rw [g23]
    rcases (by omega : k < b.length ∨ k = b.length) with c | c
    · refine (zuE_ix (by omega)).trans ((zuE_ne (by decide) _).trans ?_)
      rw [getD_l c]; exact h2 k c
    · subst c
      have := getD_r (b := b) (c := [(L, u)]) (k := 0)
      rw [Nat.add_zero] at this
      rw [this]
      exact zuE_same
  · intro q hq
    rcases List.mem_append.1 hq with c | c
    · exact h3 q c
    · have : q = (L, u) := by simpa using c
      rw [this]; exact ⟨l0, l1⟩
  · rw [List.map_append, List.nodup_append]
    refine ⟨h4, by simp, fun x hx y hy e => ?_⟩
    obtain ⟨q, q1, q2⟩ := List.mem_map.1 hx
    have : y = L := by simpa using hy
    exact lkp_none.1 hL q q1 (by rw [q2, e, this])
  · intro M m0 m1
    rw [g22]
    exact (zuE_ix (by omega)).trans (h5 M m0 m1)
  · intro M m0 m1 hM
    rw [g22]
    have c1 : lkp b M = none := by
      cases hq : lkp b M with
      | none => rfl
      | some x => rw [lkp_l hq] at hM; exact absurd hM (by simp)
    rw [lkp_r c1] at hM
    have ne : L ≠ M := fun e => by simp [lkp, e] at hM
    exact (zuE_ix (by omega)).trans (h6 M m0 m1 c1)
  · intro M x hM
    rw [g22, gT]
    cases hq : lkp b M with
    | none =>
      rw [lkp_r hq] at hM
      have e : L = M ∧ u = x := by
        simp only [lkp] at hM
        by_cases c : L = M
        · rw [if_pos c] at hM; exact ⟨c, by simpa using hM⟩
        · rw [if_neg c] at hM; exact absurd hM (by simp)
      obtain ⟨e1, e2⟩ := e
      subst e1
      subst e2
      have v : F1 22 (20 + L) = at' := zuE_same
      rw [v]
      exact ⟨ha, hu, hk, ht⟩
    | some y =>
      rw [lkp_l hq] at hM
      have e : y = x := by simpa using hM
      subst e
      have ne : L ≠ M := fun e => by rw [e, hq] at hL; exact absurd hL (by simp)
      have v : F1 22 (20 + M) = E 22 (20 + M) := zuE_ix (by omega)
      rw [v]
      exact h7 M y hq
/-- what stands is like what comes -/
theorem lk_term {P f : Int → Int} {i j : Int} {u w : List Int} {n : Nat} (hu : tm P (fw u) 0 u.length) (hi : lk f i (fw u) 0 u.length) (hn : tm P (fw w) 0 n) (hnl : n ≤ w.length) (hj : lk f j (fw w) 0 w.length) : lk f i f j n ↔ u = w.take n := by
  have lt : (w.take n).length = n := by rw [List.length_take]; omega
  have hj' : lk f j (fw (w.take n)) 0 (w.take n).length := fun k hk => by
    rw [lt] at hk
    rw [hj k (by omega), fw_0, ← fw_nat, fw_tk (k := k) (by omega) hk]
  constructor
  · intro h
    have t1 : tm P f j n := tm_congr hn (fun k hk => by rw [hj k (by omega)])
    have t2 : tm P f i n := tm_congr t1 (fun k hk => (h k hk).symm)
    have t3 : tm P f i u.length := tm_congr hu (fun k hk => (hi k hk).symm)
    have e := tm_uniq t3 t2
    rw [← e] at h
    exact (lk_word (by rw [lt]; exact e) hi hj').1 h
  · intro h
    have e : u.length = n := by rw [h]; exact lt
    have := (lk_word (by rw [lt]; exact e) hi hj').2 h
    rw [e] at this; exact this
theorem matches_go {a1 n1 T : Nat} {N : Int} (hN : N ≤ 180) (hX : zK zXt d G) (ha1 : a1 ∈ d) (hk1 : zkd a1 = (0, n1)) (hT : T ∈ d) (hkT : zkd T = (0, 180)) (hn1 : n1 ≤ 100000) (ha1n : a1 ≠ 20 ∧ a1 ≠ 22 ∧ a1 ≠ 23) (hTn : T ≠ 20 ∧ T ≠ 22 ∧ T ≠ 23) (hP : pok (E 3)) : ∀ (p w : List Int) (q : Nat) (v5 v6 : Int) (b : zBd) (F : Nat → Int → Int), ts (E 3) (fw p) 0 q p.length → ts (E 3) (fw w) 0 q w.length → (∀ v, v ∈ p → -20 ≤ v) → lk (E a1) v5 (fw p) 0 p.length → lk (E T) v6 (fw w) 0 w.length → 0 ≤ v5 → v5 + p.length ≤ n1 → 0 ≤ v6 → v6 + w.length ≤ N → q ≤ 1000 → bdC F (E 3) T N b → fz [20, 22, 23] E F →
    ∃ (x : Int) (E' : Nat → Int → Int) (c : zBd), zgo zm_X9_matches 10 [(0, zR 20), (1, zR a1), (3, zR T), (5, zI v5), (6, zI v6), (7, zI (q : Int))] [] (d, G, F) (some (zI x)) (d, G, E') ∧ fz [20, 22, 23] E E' ∧ bdC E' (E 3) T N (b ++ c) ∧ (x = 1 ∧ mt (E 3) p b w = some (b ++ c) ∨ x = 0 ∧ mt (E 3) p b w = none) := by
  intro p
  induction p with
  | nil =>
    intro w q v5 v6 b F hp hw _ _ _ _ _ _ _ _ hb hf
    have q0 : q = 0 := (ts_pos hp).2 rfl
    subst q0
    exact ⟨1, F, [], fun kz Q hQ => X9_matches_10 hX ha1 hk1 hT hkT ⟨fun _ => ⟨fun c => absurd rfl c, fun _ => hQ⟩, fun c => absurd (by omega) c⟩, hf, by rw [List.append_nil]; exact hb, Or.inl ⟨rfl, by rw [List.append_nil]; rfl⟩⟩
  | cons v p ih =>
    intro w q v5 v6 b F hp hw hlo l5 l6 h5 h5n h6 h6n hq hb hf
    rw [List.length_cons] at h5n
    have q1 : q ≠ 0 := fun e => by have := (ts_pos hp).1 e; simp at this
    obtain ⟨q', rfl⟩ : ∃ q', q = q' + 1 := ⟨q - 1, by omega⟩
    have w0 : w ≠ [] := fun e => by subst e; have := (ts_pos hw).2 rfl; omega
    have wl0 : 0 < w.length := List.length_pos_iff.2 w0
    have v16 := tsw_lt hp
    have vlo := hlo v List.mem_cons_self
    have F1 : F a1 = E a1 := hf a1 (by simp; omega)
    have FT : F T = E T := hf T (by simp; omega)
    have F3 : F 3 = E 3 := hf 3 (by simp)
    have rv : E a1 v5 = v := by
      have := l5 0 (by simp)
      simpa [fw_c0] using this
    have rw0 : E T v6 = fw w 0 := by
      have := l6 0 wl0
      simpa using this
    have l5' : lk (E a1) (v5 + 1) (fw p) 0 p.length := fun k hk => by
      have := l5 (k + 1) (by simp; omega)
      have e1 : v5 + ((k + 1 : Nat) : Int) = v5 + 1 + k := by omega
      rw [e1, fw_cs (k := k) (by omega)] at this
      rw [this]; congr 1; omega
    have hlo' : ∀ x, x ∈ p → -20 ≤ x := fun x hx => hlo x (List.mem_cons_of_mem _ hx)
    have el : ((q' + 1 : Nat) : Int) = (q' : Int) + 1 := by omega
    by_cases hv : 0 ≤ v
    · by_cases he : fw w 0 = v
      · have hpp := hP v hv v16
        have hp' := tsw_sgn hP hp hv
        obtain ⟨c0, w', rfl⟩ := List.exists_cons_of_ne_nil w0
        rw [fw_c0] at he
        subst he
        have hw' := tsw_sgn hP hw hv
        have l6' : lk (E T) (v6 + 1) (fw w') 0 w'.length := fun k hk => by
          have := l6 (k + 1) (by simp; omega)
          have e1 : v6 + ((k + 1 : Nat) : Int) = v6 + 1 + k := by omega
          rw [e1, fw_cs (k := k) (by omega)] at this
          rw [this]; congr 1; omega
        rw [List.length_cons] at h6n
        have hq2 : q' + (E 3 c0).toNat ≤ 1000 := by
          have := hP c0 hv v16
          have b1 : q' + (E 3 c0).toNat ≤ p.length := by
            have := hp'.2
            rcases (by omega : q' + (E 3 c0).toNat = 0 ∨ 0 < q' + (E 3 c0).toNat) with z | z
            · omega
            · exact ts_le hP hp'
          have b2 : q' + (E 3 c0).toNat ≤ w'.length := ts_le hP hw'
          omega
        obtain ⟨x, E', c, go, r1, r2, r3⟩ := ih w' (q' + (E 3 c0).toNat) (v5 + 1) (v6 + 1) b F hp' hw' hlo' l5' l6' (by omega) (by omega) (by omega) (by omega) hq2 hb hf
        have m0 := partsOf_ok (E := F) (G := G) hX c0 v16
        rw [if_neg (by omega), F3] at m0
        have eq : ((q' + (E 3 c0).toNat : Nat) : Int) = (q' : Int) + 1 + (E 3 c0 - 1) := by omega
        rw [eq] at go
        refine ⟨x, E', c, fun kz Q hQ => X9_matches_10 hX ha1 hk1 hT hkT ?_, r1, r2, ?_⟩
        · rw [el, F1, FT, rv, rw0, fw_c0]
          exact ⟨fun z => absurd z (by omega), fun _ => ⟨zin_of (by omega) (by omega), fun z => absurd z (by omega), fun _ => ⟨zin_of (by omega) (by omega), fun z => absurd z (by omega), fun _ => ⟨⟨by omega, by omega⟩, fun z => absurd z (by omega), fun _ => ⟨⟨by omega, by omega⟩, fun _ => ⟨_, m0, zin_of (by omega) (by omega), zin_of (by omega) (by omega), zin_of (by omega) (by omega), zin_of (by omega) (by omega), go kz Q hQ⟩, fun z => absurd rfl z⟩⟩⟩⟩⟩
        · have em : mt (E 3) (c0 :: p) b (c0 :: w') = mt (E 3) p b w' := by
            simp only [mt]
            rw [if_pos hv, fw_c0, if_pos rfl]; rfl
          rw [em]; exact r3
      · refine ⟨0, F, [], fun kz Q hQ => X9_matches_10 hX ha1 hk1 hT hkT ?_, hf, by rw [List.append_nil]; exact hb, Or.inr ⟨rfl, ?_⟩⟩
        · rw [el, F1, FT, rv, rw0]
          exact ⟨fun z => absurd z (by omega), fun _ => ⟨zin_of (by omega) (by omega), fun z => absurd z (by omega), fun _ => ⟨zin_of (by omega) (by omega), fun z => absurd z (by omega), fun _ => ⟨⟨by omega, by omega⟩, fun z => absurd z (by omega), fun _ => ⟨⟨by omega, by omega⟩, fun z => absurd z.symm he, fun _ => hQ⟩⟩⟩⟩⟩
        · simp only [mt]; rw [if_pos hv, if_neg he]
    · have hp' := tsw_let hp (by omega)
      obtain ⟨n, n0, nl, ntl, ntm, hw'⟩ := tsw_trm hP hw
      have tT : tm (E 3) (E T) v6 n := tm_congr ntm (fun k hk => by rw [l6 k (by omega)])
      have m1 := after_ok (E := F) (a := T) (n := 180) (i := v6) (t := n) hX hT hkT (by rw [F3]; exact hP) (by rw [F3, FT]; exact tT) (by omega) (by omega) (by omega)
      have l6' : lk (E T) (v6 + n) (fw (w.drop n)) 0 (w.drop n).length := fun k hk => by
        rw [List.length_drop] at hk
        have := l6 (n + k) (by omega)
        have e1 : v6 + ((n + k : Nat) : Int) = v6 + n + k := by omega
        have e2 : (0 : Int) + ((n + k : Nat) : Int) = n + k := by omega
        rw [e1, e2] at this
        rw [this, fw_dr (k := k) (by omega)]
      have dl : ((w.drop n).length : Int) = w.length - n := by rw [List.length_drop]; omega
      have eL : (19 : Int) - v = 20 + (-1 - v) := by omega
      have ltk : (w.take n).length = n := by rw [List.length_take]; omega
      have ed : v6 + n - v6 = ((n : Nat) : Int) := by omega
      have eqd : ((q' : Int) + 1) + (-1) = q' := by omega
      cases hL : lkp b (-1 - v) with
      | none =>
        have r22 := hb.2.2.2.2.2.1 (-1 - v) (by omega) (by omega) hL
        obtain ⟨F2, mt1, f2, b2⟩ := tell_ok (E := F) (P := E 3) (T := T) (N := N) (L := -1 - v) (at' := v6) (u := w.take n) hX hTn hb (by omega) (by omega) hL (by omega) (by rw [ltk]; omega) (by
          rw [FT]
          intro k hk
          rw [ltk] at hk
          rw [l6 k (by omega), fw_0, ← fw_nat, fw_tk (k := k) (by omega) hk]) (by
          rw [ltk]
          exact tm_congr ntm (fun k hk => by rw [fw_0, ← fw_nat, fw_tk (k := k) (by omega) hk]))
        obtain ⟨x, E', c, go, r1, r2, r3⟩ := ih (w.drop n) q' (v5 + 1) (v6 + n) (b ++ [(-1 - v, w.take n)]) F2 hp' hw' hlo' l5' l6' (by omega) (by omega) (by omega) (by omega) (by omega) b2 (fz_trans hf f2)
        refine ⟨x, E', (-1 - v, w.take n) :: c, fun kz Q hQ => X9_matches_10 hX ha1 hk1 hT hkT ?_, r1, by simpa using r2, ?_⟩
        · rw [el, F1, rv, eL, r22, eqd]
          exact ⟨fun z => absurd z (by omega), fun _ => ⟨zin_of (by omega) (by omega), fun z => absurd z (by omega), fun _ => ⟨zin_of (by omega) (by omega), fun z => absurd z (by omega), fun _ => ⟨⟨by omega, by omega⟩, fun _ => ⟨_, m1, zin_of (by omega) (by omega), ⟨by omega, by omega⟩, fun z => absurd rfl z, fun _ => ⟨F2, mt1, zin_of (by omega) (by omega), zin_of (by omega) (by omega), go kz Q hQ⟩⟩, fun z => absurd (by omega) z⟩⟩⟩⟩
        · have em : mt (E 3) (v :: p) b w = mt (E 3) p (b ++ [(-1 - v, w.take n)]) (w.drop n) := by
            simp only [mt]
            rw [if_neg hv, hL, ntl]
          rw [em]
          simpa using r3
      | some u =>
        obtain ⟨s0, s1, s2, s3⟩ := hb.2.2.2.2.2.2 (-1 - v) u hL
        rw [FT] at s2
        have ne : F 22 (20 + (-1 - v)) ≠ -1 := by omega
        have em : mt (E 3) (v :: p) b w = if u = w.take n then mt (E 3) p b (w.drop n) else none := by
          simp only [mt]
          rw [if_neg hv, hL]
          dsimp only
          rw [ntl]
        have lt := lk_term s3 s2 ntm nl l6
        have alk : ∃ z : Int, zM zm_X11_alike [zR T, zI (F 22 (20 + (-1 - v))), zR T, zI v6, zI ((n : Nat) : Int)] (d, G, F) (some (zI z)) (d, G, F) ∧ (z = 1 ∧ u = w.take n ∨ z = 0 ∧ u ≠ w.take n) := by
          rcases (by omega : F 22 (20 + (-1 - v)) + n ≤ 180 ∨ 180 < F 22 (20 + (-1 - v)) + n) with c | c
          · obtain ⟨z, mz, hz⟩ := alike_ok (E := F) (a := T) (b := T) (i := F 22 (20 + (-1 - v))) (j := v6) (t := n) hX hT hkT hT hkT s0 (by omega) (by omega) (by omega) (by omega) (by omega)
            rw [FT, lt] at hz
            exact ⟨z, mz, hz⟩
          · refine ⟨0, alike_no hX hT hkT hT hkT s0 (by omega) (by omega) (by omega) (by omega) (by omega), Or.inr ⟨rfl, fun e => ?_⟩⟩
            have : u.length = n := by rw [e]; exact ltk
            omega
        obtain ⟨z, mz, hz⟩ := alk
        rcases hz with ⟨z1, z2⟩ | ⟨z1, z2⟩
        · subst z1
          obtain ⟨x, E', c, go, r1, r2, r3⟩ := ih (w.drop n) q' (v5 + 1) (v6 + n) b F hp' hw' hlo' l5' l6' (by omega) (by omega) (by omega) (by omega) (by omega) hb hf
          refine ⟨x, E', c, fun kz Q hQ => X9_matches_10 hX ha1 hk1 hT hkT ?_, r1, r2, by rw [em, if_pos z2]; exact r3⟩
          rw [el, F1, rv, eL, eqd]
          exact ⟨fun z => absurd z (by omega), fun _ => ⟨zin_of (by omega) (by omega), fun z => absurd z (by omega), fun _ => ⟨zin_of (by omega) (by omega), fun z => absurd z (by omega), fun _ => ⟨⟨by omega, by omega⟩, fun _ => ⟨_, m1, zin_of (by omega) (by omega), ⟨by omega, by omega⟩, fun _ => ⟨zin_of (by omega) (by omega), 1, by rw [ed]; exact mz, fun _ => ⟨zin_of (by omega) (by omega), zin_of (by omega) (by omega), go kz Q hQ⟩, fun z => absurd (by decide) z⟩, fun z => absurd ne z⟩, fun z => absurd (by omega) z⟩⟩⟩⟩
        · subst z1
          refine ⟨0, F, [], fun kz Q hQ => X9_matches_10 hX ha1 hk1 hT hkT ?_, hf, by rw [List.append_nil]; exact hb, Or.inr ⟨rfl, by rw [em, if_neg z2]⟩⟩
          rw [el, F1, rv, eL, eqd]
          exact ⟨fun z => absurd z (by omega), fun _ => ⟨zin_of (by omega) (by omega), fun z => absurd z (by omega), fun _ => ⟨zin_of (by omega) (by omega), fun z => absurd z (by omega), fun _ => ⟨⟨by omega, by omega⟩, fun _ => ⟨_, m1, zin_of (by omega) (by omega), ⟨by omega, by omega⟩, fun _ => ⟨zin_of (by omega) (by omega), 0, by rw [ed]; exact mz, fun z => absurd rfl z, fun _ => hQ⟩, fun z => absurd ne z⟩, fun z => absurd (by omega) z⟩⟩⟩⟩
theorem matches_ok {a1 n1 T : Nat} {N : Int} (hN : N ≤ 180) {p w : List Int} {s y : Int} {b : zBd} (hX : zK zXt d G) (ha1 : a1 ∈ d) (hk1 : zkd a1 = (0, n1)) (hT : T ∈ d) (hkT : zkd T = (0, 180)) (hn1 : n1 ≤ 100000) (ha1n : a1 ≠ 20 ∧ a1 ≠ 22 ∧ a1 ≠ 23) (hTn : T ≠ 20 ∧ T ≠ 22 ∧ T ≠ 23) (hP : pok (E 3)) (hp : tm (E 3) (fw p) 0 p.length) (hw : tm (E 3) (fw w) 0 w.length) (hlo : ∀ v, v ∈ p → -20 ≤ v) (l5 : lk (E a1) s (fw p) 0 p.length) (l6 : lk (E T) y (fw w) 0 w.length) (h5 : 0 ≤ s) (h5n : s + p.length ≤ n1) (h6 : 0 ≤ y) (h6n : y + w.length ≤ N) (hb : bdC E (E 3) T N b) :
    ∃ (x : Int) (E' : Nat → Int → Int) (c : zBd), zM zm_X9_matches [zR 20, zR a1, zI s, zR T, zI y] (d, G, E) (some (zI x)) (d, G, E') ∧ fz [20, 22, 23] E E' ∧ bdC E' (E 3) T N (b ++ c) ∧ (x = 1 ∧ mt (E 3) p b w = some (b ++ c) ∨ x = 0 ∧ mt (E 3) p b w = none) := by
  obtain ⟨x, E', c, go, r⟩ := matches_go (E := E) hN hX ha1 hk1 hT hkT hn1 ha1n hTn hP p w 1 s y b E (ts_1.2 hp) (ts_1.2 hw) hlo l5 l6 h5 h5n h6 h6n (by omega) hb fz_rfl
  exact ⟨x, E', c, zM_go rfl (Nat.le_of_ble_eq_true rfl) (fun kz Q hQ => X9_matches_0 hX ha1 hk1 hT hkT (go kz Q hQ)), r⟩
end PW
