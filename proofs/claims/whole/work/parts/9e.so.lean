/-! ===== the agenda: next ===== -/
/-- with whom, and what is left of the phase -/
def ps3 (W : Int → Int) (R : Nat → List zLt) (K it : Nat) (G : Nat → Int → Option Nat) (E : Nat → Int → Int) (ph pa : Int) (L : List (List Int)) : Prop :=
  (ph ≤ 3 ∧ L = [] ∧ G 42 6 = none ∧ G 42 7 = none) ∨ ph = 6 ∨ ∃ p n a : Nat, (ph ≤ 3 ∧ pa = a ∧ (p = it ∧ n = a ∨ p = a ∧ n = it) ∨ (ph = 4 ∨ ph = 5) ∧ a = it ∧ p = it ∧ n = it) ∧ p < K ∧ n < K ∧ a < K ∧ G 42 6 = some (qn p) ∧ G 42 7 = some (qn n) ∧ rmP W E R p n ph L
def psn (W : Int → Int) (R : Nat → List zLt) (K it : Nat) (G : Nat → Int → Option Nat) (E : Nat → Int → Int) (ph pa : Int) (L : List (List Int)) : Prop :=
  E 42 5 = ph ∧ E 42 4 = pa ∧ (0 ≤ ph ∧ ph ≤ 6) ∧ (-1 ≤ pa ∧ pa ≤ 150) ∧ (ph < 3 → 0 ≤ pa ∧ pa < K) ∧ (ph = 3 → pa < K) ∧ ps3 W R K it G E ph pa L
def cap (ph : Int) : Nat := if ph = 0 ∨ ph = 1 then 6 else if ph ≤ 3 then 2088 else if ph = 4 then 36 else if ph = 5 then 1 else 0
def lat (ph : Int) : Int := if ph = 0 then 4182 else if ph = 1 then 4176 else if ph = 2 then 2088 else 0
/-- how many tries can be left -/
def muL (ph pa : Int) (L : List (List Int)) : Int := if ph ≤ 3 then (L.length : Int) + lat ph + 4188 * (149 - pa) + 40 else if ph = 4 then (L.length : Int) + 1 else L.length
/-- how many phases are left -/
def phs (ph pa : Int) : Int := if ph ≤ 3 then 4 * (150 - pa) + (3 - ph) + 4 else 7 - ph
section SO
variable {d : List Nat} {G : Nat → Int → Option Nat} {E : Nat → Int → Int}
variable {P W : Int → Int} {K : Nat} {R : Nat → List zLt} {T : Nat → Int} {it : Nat}
theorem lit30 {a : Nat} (hs : stC d G E P W K R) (ha : a < K) : (R a).length ≤ 6 ∧ ∀ j : Nat, (lit (R a) j).2.length ≤ 30 := by
  obtain ⟨_, _, ⟨hR, _⟩, _⟩ := hs.2.2 a ha
  refine ⟨hR.2.1, fun j => ?_⟩
  by_cases c : j < (R a).length
  · exact (hR.2.2.2 j c).2.2.1
  · have e3 : lit (R a) j = (0, []) := by
      unfold lit
      rw [List.getD_eq_getElem?_getD, List.getElem?_eq_none (by omega)]
      rfl
    rw [e3]
    exact Nat.zero_le _
theorem beg_ps {G' : Nat → Int → Option Nat} {E' : Nat → Int → Int} {ph' pa' : Int} {o : Nat} (h : agB d G' E' P W K R T it) (hb : beg W R T K it G' E' ph' o) (hph : 0 ≤ ph' ∧ ph' ≤ 6) (ho : o < K) (hw : ph' < 4 ∧ pa' = o ∨ 4 ≤ ph' ∧ o = it) (hTi : T it = 1) :
    ∃ D L' : List (List Int), dead P W R K D ∧ (((¬ (T o = 1 ∧ ¬ (bak ph' ∧ o = it)) ∧ L' = [])) ∨ ((T o = 1 ∧ ¬ (bak ph' ∧ o = it)) ∧ ((ph' ≤ 3 ∧ phL R it o ph' = D ++ L') ∨ (ph' = 4 ∧ faI it (R it).length (R it).length 0 = D ++ L') ∨ (ph' = 5 ∧ [[3, (it : Int), 0, 0, 0, 0, 0]] = D ++ L') ∨ 6 ≤ ph'))) ∧ ps3 W R K it G' E' ph' pa' L' ∧ L'.length ≤ cap ph' := by
  obtain ⟨hX, hs, h9, h6, hi, g3, e3, hP, h2, hW⟩ := h
  have nb4 : 4 ≤ ph' → ¬ bak ph' := fun q => by unfold bak; omega
  rcases hb with ⟨b1, b2, b3⟩ | ⟨b1, p, n, pn, hp, hn, g6, g7, e8, e9, e10a, e10b, e11⟩
  · have l4 : ph' < 4 := Classical.byContradiction fun q => b1 ⟨by rw [(by omega : o = it)]; exact hTi, fun z => nb4 (by omega) z.1⟩
    exact ⟨[], [], dead_nil, Or.inl ⟨b1, rfl⟩, Or.inl ⟨by omega, rfl, b2, b3⟩, Nat.zero_le _⟩
  have lp := lit30 hs hp
  have ln := lit30 hs hn
  have jk : ∃ last, jOk W (R n) (fst1 W (R n)) last := by
    by_cases c : chs W (R n) = -1
    · exact ⟨_, Or.inl ⟨c, if_pos c, rfl⟩⟩
    · have cn := chs_nn hW (hs.2.2 n hn).2.2.2 c
      have ef : (fst1 W (R n) : Int) = chs W (R n) := by
        unfold fst1
        rw [if_neg c]; omega
      exact ⟨chs W (R n), Or.inr ⟨ef.symm, ef.symm, by omega⟩⟩
  obtain ⟨last, jk⟩ := jk
  -- turns
  have tu : (ph' = 2 ∨ ph' = 3) → ∃ D L', dead P W R K D ∧ tuI p n (R n) (R p).length 0 = D ++ L' ∧ rmP W E' R p n ph' L' := fun q => by
    obtain ⟨D, d1, d2⟩ := nxt_i (P := P) (i := 0) jk hp hn
    refine ⟨D, _, d1, d2, Or.inr (Or.inl ⟨q, 0, 0, fst1 W (R n), 0, ⟨?_, e9, e10b (by omega), e11⟩, by omega, Nat.le_refl _, by omega, rfl⟩)⟩
    rw [e8, if_neg (by omega)]; rfl
  have len : ∀ {X D L' : List (List Int)}, X = D ++ L' → L'.length ≤ X.length := fun e => by rw [e, List.length_append]; omega
  rcases (by omega : ph' = 0 ∨ ph' = 1 ∨ ph' = 2 ∨ ph' = 3 ∨ ph' = 4 ∨ ph' = 5 ∨ ph' = 6) with c | c | c | c | c | c | c
  · have nb : ¬ bak ph' := by unfold bak; omega
    obtain ⟨ep, en⟩ : p = it ∧ n = o := by
      rcases pn with q | q
      · exact absurd q.1 nb
      · exact q.2
    have e : phL R it o ph' = clL p n (R p).length 0 := by unfold phL; rw [if_pos c, ep, en]
    refine ⟨[], clL p n (R p).length 0, dead_nil, Or.inr ⟨b1, Or.inl ⟨by omega, e⟩⟩, Or.inr (Or.inr ⟨p, n, o, Or.inl ⟨by omega, by omega, Or.inl ⟨ep, en⟩⟩, hp, hn, ho, g6, g7, Or.inl ⟨Or.inl c, 0, by rw [e8, if_pos (Or.inl c)]; rfl, by omega, rfl⟩⟩), ?_⟩
    unfold cap
    rw [if_pos (Or.inl c), clL_len]; exact lp.1
  · have nb : bak ph' := Or.inl c
    obtain ⟨ep, en⟩ : p = o ∧ n = it := by
      rcases pn with q | q
      · exact q.2
      · exact absurd nb q.1
    have ne : ¬ o = it := fun q => b1.2 ⟨nb, q⟩
    have e : phL R it o ph' = clL p n (R p).length 0 := by unfold phL; rw [if_neg (by omega), if_pos c, if_neg ne, ep, en]
    refine ⟨[], clL p n (R p).length 0, dead_nil, Or.inr ⟨b1, Or.inl ⟨by omega, e⟩⟩, Or.inr (Or.inr ⟨p, n, o, Or.inl ⟨by omega, by omega, Or.inr ⟨ep, en⟩⟩, hp, hn, ho, g6, g7, Or.inl ⟨Or.inr c, 0, by rw [e8, if_pos (Or.inr c)]; rfl, by omega, rfl⟩⟩), ?_⟩
    unfold cap
    rw [if_pos (Or.inr c), clL_len]; exact lp.1
  · have nb : ¬ bak ph' := by unfold bak; omega
    obtain ⟨ep, en⟩ : p = it ∧ n = o := by
      rcases pn with q | q
      · exact absurd q.1 nb
      · exact q.2
    obtain ⟨D, L', d1, d2, d3⟩ := tu (Or.inl c)
    have e : phL R it o ph' = tuI p n (R n) (R p).length 0 := by unfold phL; rw [if_neg (by omega), if_neg (by omega), if_pos c, ep, en]
    refine ⟨D, L', d1, Or.inr ⟨b1, Or.inl ⟨by omega, e.trans d2⟩⟩, Or.inr (Or.inr ⟨p, n, o, Or.inl ⟨by omega, by omega, Or.inl ⟨ep, en⟩⟩, hp, hn, ho, g6, g7, d3⟩), ?_⟩
    unfold cap
    rw [if_neg (by omega), if_pos (by omega)]
    have l1 := len d2
    have l2 := tuI_len (p := p) (n := n) ln.2 ln.1 (R p).length 0
    have l3 := lp.1
    omega
  · have nb : bak ph' := Or.inr c
    obtain ⟨ep, en⟩ : p = o ∧ n = it := by
      rcases pn with q | q
      · exact q.2
      · exact absurd nb q.1
    have ne : ¬ o = it := fun q => b1.2 ⟨nb, q⟩
    obtain ⟨D, L', d1, d2, d3⟩ := tu (Or.inr c)
    have e : phL R it o ph' = tuI p n (R n) (R p).length 0 := by unfold phL; rw [if_neg (by omega), if_neg (by omega), if_neg (by omega), if_neg ne, ep, en]
    refine ⟨D, L', d1, Or.inr ⟨b1, Or.inl ⟨by omega, e.trans d2⟩⟩, Or.inr (Or.inr ⟨p, n, o, Or.inl ⟨by omega, by omega, Or.inr ⟨ep, en⟩⟩, hp, hn, ho, g6, g7, d3⟩), ?_⟩
    unfold cap
    rw [if_neg (by omega), if_pos (by omega)]
    have l1 := len d2
    have l2 := tuI_len (p := p) (n := n) ln.2 ln.1 (R p).length 0
    have l3 := lp.1
    omega
  · have nb : ¬ bak ph' := nb4 (by omega)
    obtain ⟨ep, en⟩ : p = it ∧ n = o := by
      rcases pn with q | q
      · exact absurd q.1 nb
      · exact q.2
    have eo : o = it := by omega
    have e : faI it (R it).length (R it).length 0 = [] ++ (faJ p 0 ((R p).length - (0 + 1)) (0 + 1) ++ faI p (R p).length ((R p).length - (0 + 1)) (0 + 1)) := by
      rw [List.nil_append, ep]
      cases (R it).length with
      | zero => rfl
      | succ m => rfl
    refine ⟨[], _, dead_nil, Or.inr ⟨b1, Or.inr (Or.inl ⟨c, e⟩)⟩, Or.inr (Or.inr ⟨p, n, o, Or.inr ⟨Or.inl c, eo, ep, by omega⟩, hp, hn, ho, g6, g7, Or.inr (Or.inr (Or.inl ⟨c, 0, 0, by rw [e8, if_neg (by omega)]; rfl, e10a c, by omega, by omega, rfl⟩))⟩), ?_⟩
    unfold cap
    rw [if_neg (by omega), if_neg (by omega), if_pos c]
    have l1 := len e
    have l2 := faI_len (p := it) (n := (R it).length) (by rw [← ep]; exact lp.1) (R it).length 0
    have l3 : (R it).length ≤ 6 := by rw [← ep]; exact lp.1
    omega
  · have nb : ¬ bak ph' := nb4 (by omega)
    obtain ⟨ep, en⟩ : p = it ∧ n = o := by
      rcases pn with q | q
      · exact absurd q.1 nb
      · exact q.2
    have eo : o = it := by omega
    refine ⟨[], [[3, (it : Int), 0, 0, 0, 0, 0]], dead_nil, Or.inr ⟨b1, Or.inr (Or.inr (Or.inl ⟨c, rfl⟩))⟩, Or.inr (Or.inr ⟨p, n, o, Or.inr ⟨Or.inr c, eo, ep, by omega⟩, hp, hn, ho, g6, g7, Or.inr (Or.inr (Or.inr ⟨c, 0, e11, by omega, by rw [ep]; rfl⟩))⟩), ?_⟩
    unfold cap
    rw [if_neg (by omega), if_neg (by omega), if_neg (by omega), if_pos c]
    exact Nat.le_refl _
  · exact ⟨[], [], dead_nil, Or.inr ⟨b1, Or.inr (Or.inr (Or.inr (by omega)))⟩, Or.inr (Or.inl c), Nat.zero_le _⟩
theorem mu_next {ph pa ph' pa' : Int} {L L' : List (List Int)} (hx : nxP K ph pa ph' pa') (h3 : ph = 3 → pa < K) (hK : K ≤ 150) (hph : 0 ≤ ph ∧ ph ≤ 5) (hl : L'.length ≤ cap ph') : muL ph' pa' L' ≤ muL ph pa L := by
  unfold muL lat
  unfold cap at hl
  rcases hx with ⟨x1, x2, x3⟩ | ⟨x1, x2, ⟨x3, x4⟩ | ⟨x3, x4⟩⟩
  · subst x2; subst x3
    rcases (by omega : ph = 0 ∨ ph = 1 ∨ ph = 2 ∨ ph = 4 ∨ ph = 5) with c | c | c | c | c
    · subst c; simp at hl ⊢; omega
    · subst c; simp at hl ⊢; omega
    · subst c; simp at hl ⊢; omega
    · subst c; simp at hl ⊢; omega
    · subst c
      have e : L' = [] := by simpa using hl
      subst e
      simp
  · subst x1; subst x2; subst x4
    simp at hl ⊢
    omega
  · subst x1; subst x2; subst x4
    have := h3 rfl
    simp at hl ⊢
    omega
end SO
