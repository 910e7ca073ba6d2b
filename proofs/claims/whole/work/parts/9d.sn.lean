/-! ===== picks: what is left to be tried, phase by phase ===== -/
/-- the tries of a phase -/
def phL (R : Nat → List zLt) (it a : Nat) (ph : Int) : List (List Int) := if ph = 0 then clL it a (R it).length 0 else if ph = 1 then (if a = it then [] else clL a it (R a).length 0) else if ph = 2 then tuI it a (R a) (R it).length 0 else if a = it then [] else tuI a it (R it) (R a).length 0
def gR (P W : Int → Int) (fu : Int) (it a : Nat) (L : List (List Int)) (s s1 : zS) : Prop := (sT s a = 1 ∧ RT P W fu it a L s s1) ∨ (sT s a ≠ 1 ∧ s1 = s)
/-- partners from b on, then factors and the drop -/
def fnR (P W : Int → Int) (fu : Int) (it b : Nat) (s s' : zS) : Prop := ∃ s2, WA P W fu it (151 - b) b s s2 ∧ RT P W fu it it (lsL (sR s2) it) s2 s'
/-- k phases more with a, then partners from b on -/
def aft (P W : Int → Int) (fu : Int) (it a b : Nat) : Nat → zS → zS → Prop
  | 0, s, s' => fnR P W fu it b s s'
  | k + 1, s, s' => ∃ s1, gR P W fu it a (phL (sR s) it a (3 - (k : Int))) s s1 ∧ aft P W fu it a b k s1 s'
/-- what is left, L of phase ph with partner pa -/
def RS (P W : Int → Int) (fu : Int) (it : Nat) (ph pa : Int) (L : List (List Int)) (s s' : zS) : Prop :=
  (ph ≤ 3 ∧ ∃ s1, RT P W fu it pa.toNat L s s1 ∧ aft P W fu it pa.toNat (pa + 1).toNat (3 - ph).toNat s1 s') ∨
  (ph = 4 ∧ RT P W fu it it (L ++ [[3, (it : Int), 0, 0, 0, 0, 0]]) s s') ∨
  (ph = 5 ∧ RT P W fu it it L s s') ∨ (6 ≤ ph ∧ s' = s)
section SN
variable {P W : Int → Int} {fu : Int} {it a b : Nat}
theorem phL_mon {s s1 : zS} {ph : Int} (h : mon s s1) (hi : it < sK s) (ha : a < sK s) : phL (sR s1) it a ph = phL (sR s) it a ph := by
  unfold phL
  rw [h.2.1 it hi, h.2.1 a ha]
theorem gR_RT {L : List (List Int)} {s s1 : zS} (h : gR P W fu it a L s s1) (h2 : sT s a = 1 ∨ sT s a = 2) : RT P W fu it a L s s1 := by
  rcases h with ⟨_, h⟩ | ⟨h, e⟩
  · exact h
  · rw [e]
    exact RT_stop (fun g => by rcases h2 with q | q; exact h q; exact g.2.2 q) L
theorem mon_12 {s s1 : zS} (h : mon s s1) (ha : a < sK s) (h2 : sT s a = 1 ∨ sT s a = 2) : sT s1 a = 1 ∨ sT s1 a = 2 := by
  rcases h.2.2 a ha with q | q
  · rw [q]; exact h2
  · exact Or.inr q
/-- with a partner: all phases -/
theorem aft3_pr {s s0 s' : zS} (hi : it < sK s) (ha : a < sK s) (hT : sT s a = 1) (h0 : RT P W fu it a (phL (sR s) it a 0) s s0) (h : aft P W fu it a b 3 s0 s') : ∃ s1, RT P W fu it a (prL (sR s) it a) s s1 ∧ fnR P W fu it b s1 s' := by
  obtain ⟨u1, g1, u2, g2, u3, g3, f⟩ := h
  have m0 := RT_mon h0
  have r1 := gR_RT g1 (mon_12 m0 ha (Or.inl hT))
  have m1 := mon_t m0 (RT_mon r1)
  have r2 := gR_RT g2 (mon_12 m1 ha (Or.inl hT))
  have m2 := mon_t m1 (RT_mon r2)
  have r3 := gR_RT g3 (mon_12 m2 ha (Or.inl hT))
  rw [phL_mon m0 hi ha] at r1
  rw [phL_mon m1 hi ha] at r2
  rw [phL_mon m2 hi ha] at r3
  refine ⟨u3, ?_, f⟩
  unfold prL
  exact RT_app h0 (RT_app r1 (RT_app r2 r3))
theorem aft3_no {s s' : zS} (hT : sT s a ≠ 1) (h : aft P W fu it a b 3 s s') : fnR P W fu it b s s' := by
  obtain ⟨u1, g1, u2, g2, u3, g3, f⟩ := h
  have e1 : u1 = s := by
    rcases g1 with ⟨q, _⟩ | ⟨_, q⟩
    · exact absurd q hT
    · exact q
  subst e1
  have e2 : u2 = u1 := by
    rcases g2 with ⟨q, _⟩ | ⟨_, q⟩
    · exact absurd q hT
    · exact q
  subst e2
  have e3 : u3 = u2 := by
    rcases g3 with ⟨q, _⟩ | ⟨_, q⟩
    · exact absurd q hT
    · exact q
  subst e3
  exact f
/-- nothing goes on: nothing is left -/
theorem fnR_stop {s : zS} (h : ¬ gon s it it) : fnR P W fu it b s s := by
  refine ⟨s, ?_, RT_stop h _⟩
  cases e : 151 - b with
  | zero => rfl
  | succ m => exact Or.inr ⟨fun q => h q.2, rfl⟩
theorem gon_a {s : zS} (h : ¬ gon s it it) : ¬ gon s it a := fun q => h ⟨q.1, q.2.1, q.2.1⟩
theorem aft_stop {s : zS} (h : ¬ gon s it it) : ∀ k : Nat, aft P W fu it a b k s s
  | 0 => fnR_stop h
  | k + 1 => by
    refine ⟨s, ?_, aft_stop h k⟩
    by_cases c : sT s a = 1
    · exact Or.inl ⟨c, RT_stop (gon_a h) _⟩
    · exact Or.inr ⟨c, rfl⟩
theorem RS_stop {s : zS} {ph pa : Int} {L : List (List Int)} (h : ¬ gon s it it) (hp : ph ≤ 6) : RS P W fu it ph pa L s s := by
  rcases (by omega : ph ≤ 3 ∨ ph = 4 ∨ ph = 5 ∨ 6 ≤ ph) with c | c | c | c
  · exact Or.inl ⟨c, s, RT_stop (gon_a h) _, aft_stop h _⟩
  · exact Or.inr (Or.inl ⟨c, RT_stop h _⟩)
  · exact Or.inr (Or.inr (Or.inl ⟨c, RT_stop h _⟩))
  · exact Or.inr (Or.inr (Or.inr ⟨c, rfl⟩))
/-- one that was told -/
theorem RS_told {s s1 s' : zS} {ph pa : Int} {a : Nat} {D L L' : List (List Int)} {c : List Int} (hw : ph ≤ 3 ∧ pa = a ∨ 4 ≤ ph ∧ a = it) (h5 : ph ≤ 5) (hd : dead P W (sR s) (sK s) D) (hL : L = D ++ (c :: L')) (hg : gon s it a) (ht : TR P W fu s c s1) (h : RS P W fu it ph pa L' s1 s') : RS P W fu it ph pa L s s' := by
  rcases h with ⟨c3, u, r, f⟩ | ⟨c4, r⟩ | ⟨c5, r⟩ | ⟨c6, _⟩
  · have ea : pa.toNat = a := by omega
    rw [ea] at r
    refine Or.inl ⟨c3, u, ?_, f⟩
    rw [ea, hL]
    exact RT_dead hd (Or.inl ⟨hg, s1, ht, r⟩)
  · have ea : a = it := by omega
    subst ea
    refine Or.inr (Or.inl ⟨c4, ?_⟩)
    rw [hL, List.append_assoc]
    exact RT_dead hd (Or.inl ⟨hg, s1, ht, r⟩)
  · have ea : a = it := by omega
    subst ea
    refine Or.inr (Or.inr (Or.inl ⟨c5, ?_⟩))
    rw [hL]
    exact RT_dead hd (Or.inl ⟨hg, s1, ht, r⟩)
  · exact absurd c6 (by omega)
/-- a phase that is over: the next one -/
theorem RS_next {s s' : zS} {ph pa ph' pa' : Int} {L D L' : List (List Int)} {o : Nat} (hi : it < sK s) (ho : o < sK s) (h150 : sK s ≤ 150) (hgo : gon s it it) (hTi : sT s it = 1) (hpa : -1 ≤ pa) (hph : 0 ≤ ph ∧ ph ≤ 5) (hlt : ph < 3 → 0 ≤ pa)
    (hL : ph ≤ 3 → RT P W fu it pa.toNat L s s) (hL4 : ph = 4 ∨ ph = 5 → dead P W (sR s) (sK s) L) (hx : nxP (sK s) ph pa ph' pa') (hw : ph' < 4 ∧ pa' = o ∨ 4 ≤ ph' ∧ o = it) (hd : dead P W (sR s) (sK s) D)
    (hb : ((¬ (sT s o = 1 ∧ ¬ (bak ph' ∧ o = it)) ∧ L' = [])) ∨ ((sT s o = 1 ∧ ¬ (bak ph' ∧ o = it)) ∧ ((ph' ≤ 3 ∧ phL (sR s) it o ph' = D ++ L') ∨ (ph' = 4 ∧ faI it (sR s it).length (sR s it).length 0 = D ++ L') ∨ (ph' = 5 ∧ [[3, (it : Int), 0, 0, 0, 0, 0]] = D ++ L') ∨ 6 ≤ ph')))
    (h : RS P W fu it ph' pa' L' s s') : RS P W fu it ph pa L s s' := by
  rcases hx with ⟨x1, x2, x3⟩ | ⟨x1, x2, ⟨x3, x4⟩ | ⟨x3, x4⟩⟩
  · by_cases c3 : ph < 3
    · -- the same partner
      have p0 := hlt c3
      obtain ⟨k, hk⟩ : ∃ k : Nat, (k : Int) = 2 - ph := ⟨(2 - ph).toNat, by omega⟩
      have eo : pa.toNat = o := by omega
      rcases h with ⟨c, u, r, f⟩ | ⟨c, _⟩ | ⟨c, _⟩ | ⟨c, _⟩
      · have ek : (3 - ph').toNat = k := by omega
        have ek1 : (3 - ph).toNat = k + 1 := by omega
        rw [ek, x3] at f
        rw [x3, eo] at r
        refine Or.inl ⟨by omega, s, hL (by omega), ?_⟩
        rw [ek1]
        refine ⟨u, ?_, f⟩
        rw [eo]
        have e3 : (3 : Int) - k = ph' := by omega
        rw [e3]
        rcases hb with ⟨b1, b2⟩ | ⟨b1, b2⟩
        · rw [b2] at r
          have eu : u = s := r
          by_cases t : sT s o = 1
          · have bb : bak ph' ∧ o = it := Classical.byContradiction fun q => b1 ⟨t, q⟩
            refine Or.inl ⟨t, ?_⟩
            have e : phL (sR s) it o ph' = [] := by
              unfold phL
              rcases bb.1 with q | q
              · rw [if_neg (by omega), if_pos q, if_pos bb.2]
              · rw [if_neg (by omega), if_neg (by omega), if_neg (by omega), if_pos bb.2]
            rw [e]
            exact eu
          · exact Or.inr ⟨t, eu⟩
        · refine Or.inl ⟨b1.1, ?_⟩
          rcases b2 with ⟨_, q⟩ | ⟨q, _⟩ | ⟨q, _⟩ | q
          · rw [q]; exact RT_dead hd r
          · exact absurd q (by omega)
          · exact absurd q (by omega)
          · exact absurd q (by omega)
      · exact absurd c (by omega)
      · exact absurd c (by omega)
      · exact absurd c (by omega)
    · -- factors, the drop, the end
      have eo : o = it := by omega
      subst eo
      have nb : ¬ bak ph' := by unfold bak; omega
      rcases (by omega : ph = 4 ∨ ph = 5) with c | c
      · refine Or.inr (Or.inl ⟨c, ?_⟩)
        refine RT_dead (hL4 (Or.inl c)) ?_
        rcases h with ⟨q, _⟩ | ⟨q, _⟩ | ⟨q, r⟩ | ⟨q, _⟩
        · exact absurd q (by omega)
        · exact absurd q (by omega)
        · rcases hb with ⟨b1, b2⟩ | ⟨b1, b2⟩
          · exact absurd ⟨hTi, fun z => nb z.1⟩ b1
          · rcases b2 with ⟨w, _⟩ | ⟨w, _⟩ | ⟨_, w⟩ | w
            · exact absurd w (by omega)
            · exact absurd w (by omega)
            · rw [w]; exact RT_dead hd r
            · exact absurd w (by omega)
        · exact absurd q (by omega)
      · refine Or.inr (Or.inr (Or.inl ⟨c, ?_⟩))
        rcases h with ⟨q, _⟩ | ⟨q, _⟩ | ⟨q, _⟩ | ⟨q, r⟩
        · exact absurd q (by omega)
        · exact absurd q (by omega)
        · exact absurd q (by omega)
        · rw [r]; exact RT_idle (hL4 (Or.inr c))
  · -- the next partner
    have eo : pa + 1 = o := by omega
    have eb : (pa + 1).toNat = o := by omega
    have eb1 : (pa' + 1).toNat = o + 1 := by omega
    have ep : pa'.toNat = o := by omega
    refine Or.inl ⟨by omega, s, hL (by omega), ?_⟩
    have e0 : (3 - ph).toNat = 0 := by omega
    rw [e0, eb]
    rcases h with ⟨c, u, r, f⟩ | ⟨c, _⟩ | ⟨c, _⟩ | ⟨c, _⟩
    · have e3 : (3 - ph').toNat = 3 := by omega
      rw [e3, ep, eb1] at f
      rw [ep] at r
      have nb : ¬ bak ph' := by unfold bak; omega
      have em : 151 - o = (151 - (o + 1)) + 1 := by omega
      show fnR P W fu it o s s'
      rcases hb with ⟨b1, b2⟩ | ⟨b1, b2⟩
      · have t : sT s o ≠ 1 := fun q => b1 ⟨q, fun z => nb z.1⟩
        rw [b2] at r
        have eu : u = s := r
        rw [eu] at f
        obtain ⟨s2, w, r2⟩ := aft3_no t f
        refine ⟨s2, ?_, r2⟩
        rw [em]
        exact Or.inl ⟨⟨ho, hgo⟩, Or.inr ⟨t, w⟩⟩
      · have r0 : RT P W fu it o (phL (sR s) it o 0) s u := by
          rcases b2 with ⟨_, q⟩ | ⟨q, _⟩ | ⟨q, _⟩ | q
          · rw [x4] at q
            rw [q]; exact RT_dead hd r
          · exact absurd q (by omega)
          · exact absurd q (by omega)
          · exact absurd q (by omega)
        obtain ⟨s1, pr, s2, w, r2⟩ := aft3_pr hi ho b1.1 r0 f
        refine ⟨s2, ?_, r2⟩
        rw [em]
        exact Or.inl ⟨⟨ho, hgo⟩, Or.inl ⟨b1.1, s1, pr, w⟩⟩
    · exact absurd c (by omega)
    · exact absurd c (by omega)
    · exact absurd c (by omega)
  · -- no partner more
    have eo : o = it := by omega
    subst eo
    have nb : ¬ bak ph' := by unfold bak; omega
    refine Or.inl ⟨by omega, s, hL (by omega), ?_⟩
    have e0 : (3 - ph).toNat = 0 := by omega
    rw [e0]
    refine ⟨s, ?_, ?_⟩
    · cases e : 151 - (pa + 1).toNat with
      | zero => rfl
      | succ m => exact Or.inr ⟨fun q => by have := q.1; omega, rfl⟩
    · rcases h with ⟨c, _⟩ | ⟨c, r⟩ | ⟨c, _⟩ | ⟨c, _⟩
      · exact absurd c (by omega)
      · rcases hb with ⟨b1, b2⟩ | ⟨b1, b2⟩
        · exact absurd ⟨hTi, fun z => nb z.1⟩ b1
        · rcases b2 with ⟨w, _⟩ | ⟨_, w⟩ | ⟨w, _⟩ | w
          · exact absurd w (by omega)
          · unfold lsL
            rw [w, List.append_assoc]
            exact RT_dead hd r
          · exact absurd w (by omega)
          · exact absurd w (by omega)
      · exact absurd c (by omega)
      · exact absurd c (by omega)
end SN
