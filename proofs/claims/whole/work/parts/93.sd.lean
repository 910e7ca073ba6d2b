/-! ===== the state that both sides hold; what a try does ===== -/
/-- kept, rows, states, put away by, steps, rewritings, what was given; at once, lost, made, rewritten, the end -/
abbrev zS : Type := Nat × (Nat → List zLt) × (Nat → Int) × (Nat → Int) × (Nat → List Int) × (Nat → List Int) × (Nat → List zLt) × Int × Int × Int × Int × Int
abbrev sK (s : zS) : Nat := s.1
abbrev sR (s : zS) : Nat → List zLt := s.2.1
abbrev sT (s : zS) : Nat → Int := s.2.2.1
abbrev sB (s : zS) : Nat → Int := s.2.2.2.1
abbrev sN (s : zS) : Nat → List Int := s.2.2.2.2.1
abbrev sW (s : zS) : Nat → List Int := s.2.2.2.2.2.1
abbrev sS (s : zS) : Nat → List zLt := s.2.2.2.2.2.2.1
abbrev sAo (s : zS) : Int := s.2.2.2.2.2.2.2.1
abbrev sLo (s : zS) : Int := s.2.2.2.2.2.2.2.2.1
abbrev sMa (s : zS) : Int := s.2.2.2.2.2.2.2.2.2.1
abbrev sRw (s : zS) : Int := s.2.2.2.2.2.2.2.2.2.2.1
abbrev sEn (s : zS) : Int := s.2.2.2.2.2.2.2.2.2.2.2
/-- a step's END -/
def ED (P W : Int → Int) (s : zS) (c : List Int) (A src : List zLt) (s' : zS) (r : Int) : Prop :=
  ∃ (x : Int) (B : List zLt) (t : List Int) (n : Nat), fns P W (sR s) (sT s) (sK s) A = (x, B, t) ∧ t.length = 4 * n ∧ n ≤ 8 ∧
    ((x = 0 ∧ r = -99 ∧ s' = (sK s, sR s, sT s, sB s, sN s, sW s, sS s, sAo s, sLo s + 1, sMa s, sRw s + n, sEn s)) ∨
     (x ≠ 0 ∧ (triv P B ∨ tkn P (sR s) (sT s) (sK s) B) ∧ r = -1 ∧ s' = (sK s, sR s, sT s, sB s, sN s, sW s, sS s, sAo s + 1, sLo s, sMa s, sRw s + n, sEn s)) ∨
     (x ≠ 0 ∧ ¬ (triv P B ∨ tkn P (sR s) (sT s) (sK s) B) ∧ r = sK s ∧ s' = (sK s + 1, zup (sR s) (sK s) B, zup (pst P (sR s) (sT s) B) (sK s) 0, zup (pby P (sR s) (sT s) (sB s) B (sK s)) (sK s) (-1), zup (sN s) (sK s) c, zup (sW s) (sK s) t, zup (sS s) (sK s) src, sAo s, sLo s, sMa s, sRw s + n, if B.length = 0 then 1 else if sK s + 1 = 150 then 3 else sEn s)))
theorem ED_det {P W : Int → Int} {s s1 s2 : zS} {c : List Int} {A src : List zLt} {r1 r2 : Int} (h : ED P W s c A src s1 r1) (h' : ED P W s c A src s2 r2) : s1 = s2 ∧ r1 = r2 := by
  obtain ⟨x, B, t, n, a1, a2, a3, a4⟩ := h
  obtain ⟨x', B', t', n', b1, b2, b3, b4⟩ := h'
  have e := a1.symm.trans b1
  simp only [Prod.mk.injEq] at e
  obtain ⟨e1, e2, e3⟩ := e
  subst e1; subst e2; subst e3
  have en : n = n' := by omega
  subst en
  rcases a4 with ⟨p1, p2, p3⟩ | ⟨p1, p2, p3, p4⟩ | ⟨p1, p2, p3, p4⟩ <;> rcases b4 with ⟨q1, q2, q3⟩ | ⟨q1, q2, q3, q4⟩ | ⟨q1, q2, q3, q4⟩
  · exact ⟨by rw [p3, q3], by rw [p2, q2]⟩
  · exact absurd p1 q1
  · exact absurd p1 q1
  · exact absurd q1 p1
  · exact ⟨by rw [p4, q4], by rw [p3, q3]⟩
  · exact absurd p2 q2
  · exact absurd q1 p1
  · exact absurd q2 p2
  · exact ⟨by rw [p4, q4], by rw [p3, q3]⟩
/-- a try -/
def TR (P W : Int → Int) (fu : Int) (s : zS) (c : List Int) (s' : zS) : Prop :=
  ∃ r, stR P W (sR s) (sK s) c r ∧
    ((r = none ∧ s' = s) ∨
     (r ≠ none ∧ ¬ sMa s + sRw s < fu ∧ s' = (sK s, sR s, sT s, sB s, sN s, sW s, sS s, sAo s, sLo s, sMa s, sRw s, 3)) ∨
     (r = some none ∧ sMa s + sRw s < fu ∧ s' = (sK s, sR s, sT s, sB s, sN s, sW s, sS s, sAo s, sLo s + 1, sMa s + 1, sRw s, sEn s)) ∨
     ∃ A' v, r = some (some A') ∧ sMa s + sRw s < fu ∧ ED P W (sK s, sR s, sT s, sB s, sN s, sW s, sS s, sAo s, sLo s, sMa s + 1, sRw s, sEn s) c A' [] s' v)
theorem TR_det {P W : Int → Int} {fu : Int} {s s1 s2 : zS} {c : List Int} (h : TR P W fu s c s1) (h' : TR P W fu s c s2) : s1 = s2 := by
  obtain ⟨r, a1, a2⟩ := h
  obtain ⟨r', b1, b2⟩ := h'
  have e := stR_det a1 b1
  subst e
  rcases a2 with ⟨p1, p2⟩ | ⟨p1, p2, p3⟩ | ⟨p1, p2, p3⟩ | ⟨A, v, p1, p2, p3⟩ <;> rcases b2 with ⟨q1, q2⟩ | ⟨q1, q2, q3⟩ | ⟨q1, q2, q3⟩ | ⟨A', v', q1, q2, q3⟩
  · rw [p2, q2]
  · exact absurd p1 q1
  · rw [p1] at q1; simp at q1
  · rw [p1] at q1; simp at q1
  · exact absurd q1 p1
  · rw [p3, q3]
  · exact absurd q2 p2
  · exact absurd q2 p2
  · rw [p1] at q1; simp at q1
  · exact absurd p2 q2
  · rw [p3, q3]
  · rw [p1] at q1; simp at q1
  · rw [p1] at q1; simp at q1
  · exact absurd p2 q2
  · rw [p1] at q1; simp at q1
  · rw [p1] at q1
    have e : A = A' := by simpa using q1
    subst e
    exact (ED_det p3 q3).1
/-- what is kept goes on being so -/
def mon (s s' : zS) : Prop := sK s ≤ sK s' ∧ (∀ c : Nat, c < sK s → sR s' c = sR s c) ∧ ∀ c : Nat, c < sK s → (sT s' c = sT s c ∨ sT s' c = 2)
theorem mon_r (s : zS) : mon s s := ⟨Nat.le_refl _, fun _ _ => rfl, fun _ _ => Or.inl rfl⟩
theorem mon_t {s s1 s2 : zS} (h : mon s s1) (h' : mon s1 s2) : mon s s2 := ⟨Nat.le_trans h.1 h'.1, fun c hc => (h'.2.1 c (Nat.lt_of_lt_of_le hc h.1)).trans (h.2.1 c hc), fun c hc => by
  rcases h'.2.2 c (Nat.lt_of_lt_of_le hc h.1) with a | a
  · rw [a]; exact h.2.2 c hc
  · exact Or.inr a⟩
theorem ED_mon {P W : Int → Int} {s s' : zS} {c : List Int} {A src : List zLt} {r : Int} (h : ED P W s c A src s' r) : mon s s' := by
  obtain ⟨x, B, t, n, a1, a2, a3, a4⟩ := h
  rcases a4 with ⟨_, _, e⟩ | ⟨_, _, _, e⟩ | ⟨_, _, _, e⟩
  · subst e; exact ⟨Nat.le_refl _, fun _ _ => rfl, fun _ _ => Or.inl rfl⟩
  · subst e; exact ⟨Nat.le_refl _, fun _ _ => rfl, fun _ _ => Or.inl rfl⟩
  · subst e
    refine ⟨Nat.le_succ _, fun c hc => zup_n (Nat.ne_of_lt hc), fun c hc => ?_⟩
    have e1 : zup (pst P (sR s) (sT s) B) (sK s) 0 c = pst P (sR s) (sT s) B c := zup_n (Nat.ne_of_lt hc)
    show zup (pst P (sR s) (sT s) B) (sK s) 0 c = sT s c ∨ zup (pst P (sR s) (sT s) B) (sK s) 0 c = 2
    rw [e1]
    by_cases q : sT s c ≠ 2 ∧ takesP P B (sR s c)
    · exact Or.inr (if_pos q)
    · exact Or.inl (if_neg q)
theorem TR_mon {P W : Int → Int} {fu : Int} {s s' : zS} {c : List Int} (h : TR P W fu s c s') : mon s s' := by
  obtain ⟨r, a1, a2⟩ := h
  rcases a2 with ⟨_, e⟩ | ⟨_, _, e⟩ | ⟨_, _, e⟩ | ⟨A, v, _, _, e⟩
  · rw [e]; exact mon_r s
  · rw [e]; exact ⟨Nat.le_refl _, fun _ _ => rfl, fun _ _ => Or.inl rfl⟩
  · rw [e]; exact ⟨Nat.le_refl _, fun _ _ => rfl, fun _ _ => Or.inl rfl⟩
  · have := ED_mon e
    exact ⟨this.1, this.2.1, this.2.2⟩
/-- how far the counts go, by how often something was given -/
def okS (g : Nat) (s : zS) : Prop := sK s ≤ 150 ∧ (sEn s = 0 → sK s < 150) ∧ (0 ≤ sMa s ∧ sMa s ≤ 4000) ∧ (0 ≤ sRw s ∧ sRw s ≤ 4008 + 8 * (g : Int)) ∧ 0 ≤ sLo s ∧ 0 ≤ sAo s ∧ sLo s + sAo s ≤ sMa s + g ∧ (0 ≤ sEn s ∧ sEn s ≤ 3)
theorem TR_ok {P W : Int → Int} {fu : Int} {g : Nat} {s s' : zS} {c : List Int} (hs : okS g s) (h0 : sEn s = 0) (hf : fu ≤ 4000) (h : TR P W fu s c s') : okS g s' := by
  obtain ⟨o1, o2, o3, o4, o5, o6, o7, o8⟩ := hs
  obtain ⟨r, a1, a2⟩ := h
  have k150 := o2 h0
  rcases a2 with ⟨_, e⟩ | ⟨_, _, e⟩ | ⟨_, hm, e⟩ | ⟨A, v, _, hm, x, B, t, n, f1, f2, f3, f4⟩
  · rw [e]; exact ⟨o1, o2, o3, o4, o5, o6, o7, o8⟩
  · rw [e]; exact ⟨o1, fun z => absurd z (by show ¬ ((3 : Int) = 0); decide), o3, o4, o5, o6, o7, by show (0 : Int) ≤ 3 ∧ (3 : Int) ≤ 3; decide⟩
  · subst e
    exact ⟨o1, o2, ⟨by show 0 ≤ sMa s + 1; omega, by show sMa s + 1 ≤ 4000; omega⟩, o4, by show 0 ≤ sLo s + 1; omega, o6, by show sLo s + 1 + sAo s ≤ sMa s + 1 + g; omega, o8⟩
  · rcases f4 with ⟨_, _, e⟩ | ⟨_, _, _, e⟩ | ⟨_, _, _, e⟩
    · subst e
      exact ⟨o1, o2, ⟨by show 0 ≤ sMa s + 1; omega, by show sMa s + 1 ≤ 4000; omega⟩, ⟨by show 0 ≤ sRw s + n; omega, by show sRw s + n ≤ _; omega⟩, by show 0 ≤ sLo s + 1; omega, o6, by show sLo s + 1 + sAo s ≤ sMa s + 1 + g; omega, o8⟩
    · subst e
      exact ⟨o1, o2, ⟨by show 0 ≤ sMa s + 1; omega, by show sMa s + 1 ≤ 4000; omega⟩, ⟨by show 0 ≤ sRw s + n; omega, by show sRw s + n ≤ _; omega⟩, o5, by show 0 ≤ sAo s + 1; omega, by show sLo s + (sAo s + 1) ≤ sMa s + 1 + g; omega, o8⟩
    · subst e
      refine ⟨by show sK s + 1 ≤ 150; omega, fun z => ?_, ⟨by show 0 ≤ sMa s + 1; omega, by show sMa s + 1 ≤ 4000; omega⟩, ⟨by show 0 ≤ sRw s + n; omega, by show sRw s + n ≤ _; omega⟩, o5, o6, by show sLo s + sAo s ≤ sMa s + 1 + g; omega, ?_⟩
      · show sK s + 1 < 150
        have z' : (if B.length = 0 then (1 : Int) else if sK s + 1 = 150 then 3 else sEn s) = 0 := z
        by_cases b0 : B.length = 0
        · rw [if_pos b0] at z'; omega
        · rw [if_neg b0] at z'
          by_cases b1 : sK s + 1 = 150
          · rw [if_pos b1] at z'; omega
          · omega
      · show 0 ≤ (if B.length = 0 then (1 : Int) else if sK s + 1 = 150 then 3 else sEn s) ∧ (if B.length = 0 then (1 : Int) else if sK s + 1 = 150 then 3 else sEn s) ≤ 3
        split
        · omega
        · split <;> omega
/-- it goes on with it and a -/
def gon (s : zS) (it a : Nat) : Prop := sEn s = 0 ∧ sT s it ≠ 2 ∧ sT s a ≠ 2
/-- tries, one behind the other, as long as it goes on -/
def RT (P W : Int → Int) (fu : Int) (it a : Nat) : List (List Int) → zS → zS → Prop
  | [], s, s' => s' = s
  | c :: L, s, s' => (gon s it a ∧ ∃ s1, TR P W fu s c s1 ∧ RT P W fu it a L s1 s') ∨ (¬ gon s it a ∧ s' = s)
section SD
variable {P W : Int → Int} {fu : Int} {it a : Nat}
theorem RT_det : ∀ {L : List (List Int)} {s s1 s2 : zS}, RT P W fu it a L s s1 → RT P W fu it a L s s2 → s1 = s2
  | [], s, s1, s2, h, h' => by rw [h, h']
  | c :: L, s, s1, s2, h, h' => by
    rcases h with ⟨g, t, h1, h2⟩ | ⟨g, h1⟩ <;> rcases h' with ⟨g', t', h1', h2'⟩ | ⟨g', h1'⟩
    · have := TR_det h1 h1'
      subst this
      exact RT_det h2 h2'
    · exact absurd g g'
    · exact absurd g' g
    · rw [h1, h1']
theorem RT_stop {s : zS} (h : ¬ gon s it a) : ∀ L : List (List Int), RT P W fu it a L s s
  | [] => rfl
  | _ :: _ => Or.inr ⟨h, rfl⟩
theorem RT_app : ∀ {L L' : List (List Int)} {s s1 s2 : zS}, RT P W fu it a L s s1 → RT P W fu it a L' s1 s2 → RT P W fu it a (L ++ L') s s2
  | [], L', s, s1, s2, h, h' => by
    have e : s1 = s := h
    rw [e] at h'
    exact h'
  | c :: L, L', s, s1, s2, h, h' => by
    rcases h with ⟨g, t, h1, h2⟩ | ⟨g, h1⟩
    · exact Or.inl ⟨g, t, h1, RT_app h2 h'⟩
    · rw [h1] at h'
      have := RT_det h' (RT_stop g L')
      exact Or.inr ⟨g, this⟩
theorem RT_mon : ∀ {L : List (List Int)} {s s1 : zS}, RT P W fu it a L s s1 → mon s s1
  | [], s, s1, h => by
    have e : s1 = s := h
    rw [e]
    exact mon_r _
  | c :: L, s, s1, h => by
    rcases h with ⟨g, t, h1, h2⟩ | ⟨g, h1⟩
    · exact mon_t (TR_mon h1) (RT_mon h2)
    · rw [h1]; exact mon_r _
theorem RT_ok {g : Nat} (hf : fu ≤ 4000) : ∀ {L : List (List Int)} {s s1 : zS}, okS g s → RT P W fu it a L s s1 → okS g s1
  | [], s, s1, o, h => by
    have e : s1 = s := h
    rw [e]
    exact o
  | c :: L, s, s1, o, h => by
    rcases h with ⟨q, t, h1, h2⟩ | ⟨q, h1⟩
    · exact RT_ok hf (TR_ok o q.1 hf h1) h2
    · rw [h1]; exact o
end SD
/-- the tries of a pair -/
def clL (p n : Nat) : Nat → Nat → List (List Int)
  | 0, _ => []
  | m + 1, i => [1, (p : Int), (i : Int), (n : Int), 0, 0, 0] :: clL p n m (i + 1)
def tuP (p n : Nat) (i s j : Nat) : Nat → Nat → List (List Int)
  | 0, _ => []
  | m + 1, pl => [4, (p : Int), (i : Int), (s : Int), (n : Int), (j : Int), (pl : Int)] :: tuP p n i s j m (pl + 1)
def tuJ (p n : Nat) (B : List zLt) (i s : Nat) : Nat → Nat → List (List Int)
  | 0, _ => []
  | m + 1, j => tuP p n i s j ((lit B j).2.length - 1) 1 ++ tuJ p n B i s m (j + 1)
def tuW (p n : Nat) (B : List zLt) (i : Nat) : Nat → Nat → List (List Int)
  | 0, _ => []
  | m + 1, s => tuJ p n B i s B.length 0 ++ tuW p n B i m (s + 1)
def tuI (p n : Nat) (B : List zLt) : Nat → Nat → List (List Int)
  | 0, _ => []
  | m + 1, i => tuW p n B i 2 0 ++ tuI p n B m (i + 1)
def faJ (p : Nat) (i : Nat) : Nat → Nat → List (List Int)
  | 0, _ => []
  | m + 1, j => [2, (p : Int), (i : Int), (j : Int), 0, 0, 0] :: faJ p i m (j + 1)
def faI (p : Nat) (n : Nat) : Nat → Nat → List (List Int)
  | 0, _ => []
  | m + 1, i => faJ p i (n - (i + 1)) (i + 1) ++ faI p n m (i + 1)
