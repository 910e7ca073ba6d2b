/-! ===== picks: the class, pick and run ===== -/
section SR0
variable {d : List Nat} {G : Nat → Int → Option Nat} {E : Nat → Int → Int}
/-- the best so far, on the class's side -/
def bst (W : Int → Int) (s : zS) (b w : Int) (o : Option Nat) : Prop := (b = -1 ∧ o = none) ∨ ∃ k : Nat, b = k ∧ k < sK s ∧ sT s k = 0 ∧ o = some (qn k) ∧ w = wtA W (sR s k) (sR s k).length
theorem pickC_ok {s : zS} (hs : CIv d G E s) (hp : 0 ≤ E 0 16 ∧ E 0 16 ≤ 1000000) (ht : 0 ≤ E 0 13 ∧ E 0 13 ≤ 1000) :
    (pkS (E 4) (E 0 16) (E 0 13) s = -1 ∧ zM zm_X11_pick [zR 0] (d, G, E) (some (zO none)) (d, G, zuE E 0 15 2)) ∨
    (∃ k : Nat, pkS (E 4) (E 0 16) (E 0 13) s = k ∧ k < sK s ∧ sT s k = 0 ∧ zM zm_X11_pick [zR 0] (d, G, E) (some (zO (some (qn k)))) (d, G, zuE (zuE E (qn k) 6 1) 0 16 (E 0 16 + 1))) := by
  obtain ⟨⟨M, hC⟩, e17, e18, e19, e20, e15, hI, h19, hX, hMt⟩ := hs
  have hst := CI_st hC
  have e54 : E 5 4 = sK s := hC.2.2.1
  have K150 := hst.2.1
  have hck : ∀ c : Nat, c < sK s → zCk d G (qn c) := fun c hc => (hst.2.2 c hc).2.1
  have h6 : ∀ c : Nat, c < sK s → E (qn c) 6 = sT s c := fun c hc => (hC.2.2.2 c hc).2.2.1
  have h8 : ∀ c : Nat, c < sK s → E (qn c) 8 = wtA (E 4) (sR s c) (sR s c).length := fun c hc => (hC.2.2.2 c hc).2.2.2.2.1
  let age := ageO (E 0 16) (E 0 13)
  -- what comes out
  let out : Int → (Option zV → zH → Prop) → Prop := fun r Q => (r = -1 → Q (some (zO none)) (d, G, zuE E 0 15 2)) ∧ ∀ k : Nat, r = k → Q (some (zO (some (qn k)))) (d, G, zuE (zuE E (qn k) 6 1) 0 16 (E 0 16 + 1))
  have loop : ∀ (m c : Nat) (b w : Int) (o : Option Nat), c + m = sK s → bst (E 4) s b w o → ∀ kz (Q : Option zV → zH → Prop), out (pkf (E 4) (sR s) (sT s) age m c b w) Q → Z zm_X11_pick kz Q 26 [(0, zR 0), (1, zI age), (2, zO o), (3, zI (c : Int))] [] (d, G, E) := by
    intro m
    induction m with
    | zero =>
      intro c b w o hc hb kz Q hQ
      refine X11_pick_26 hX ⟨fun _ => ⟨fun y => ?_, fun y => ?_⟩, fun y => absurd (by omega) y⟩
      · rcases hb with ⟨_, q⟩ | ⟨k, q1, q2, q3, q4, q5⟩
        · exact absurd q y
        · refine ⟨qn k, q4, hck k q2, fun H e => ?_⟩
          have ez : H 0 16 = E 0 16 := by rw [e]; exact zuE_ne (by unfold qn; omega) _
          rw [ez]
          refine ⟨zin_of (by omega) (by omega), fun H2 e2 => ?_⟩
          rw [e2, e]
          exact hQ.2 k q1
      · have on : o = none := Classical.byContradiction y
        intro H e
        rw [e, on]
        refine hQ.1 ?_
        rcases hb with ⟨q, _⟩ | ⟨k, _, _, _, q, _⟩
        · exact q
        · rw [on] at q; exact absurd q (by simp)
    | succ m ih =>
      intro c b w o hc hb kz Q hQ
      have hcK : c < sK s := by omega
      have ec : ((c + 1 : Nat) : Int) = (c : Int) + 1 := by omega
      have zc : zin ((c : Int) + 1) := zin_of (by omega) (by omega)
      have self : bst (E 4) s (c : Int) (wtA (E 4) (sR s c) (sR s c).length) (some (qn c)) ∨ sT s c ≠ 0 := by
        by_cases t : sT s c = 0
        · exact Or.inl (Or.inr ⟨c, rfl, hcK, t, rfl, rfl⟩)
        · exact Or.inr t
      have stay : out (pkf (E 4) (sR s) (sT s) age m (c + 1) b w) Q → Z zm_X11_pick kz Q 26 [(0, zR 0), (1, zI age), (2, zO o), (3, zI ((c : Int) + 1))] [] (d, G, E) := fun q => by
        have := ih (c + 1) b w o (by omega) hb kz Q q
        rw [ec] at this
        exact this
      have take : sT s c = 0 → out (pkf (E 4) (sR s) (sT s) age m (c + 1) c (wtA (E 4) (sR s c) (sR s c).length)) Q → Z zm_X11_pick kz Q 26 [(0, zR 0), (1, zI age), (2, zO (some (qn c))), (3, zI ((c : Int) + 1))] [] (d, G, E) := fun t q => by
        have := ih (c + 1) c _ (some (qn c)) (by omega) (Or.inr ⟨c, rfl, hcK, t, rfl, rfl⟩) kz Q q
        rw [ec] at this
        exact this
      unfold pkf at hQ
      have nk : ¬ E 5 4 ≤ (c : Int) := by rw [e54]; omega
      refine X11_pick_26 hX ⟨fun y => absurd y nk, fun _ => ⟨some (qn c), at_ok hX hst hcK, fun y => absurd y (by simp), fun _ => ⟨qn c, rfl, hck c hcK, ?_⟩⟩⟩
      rw [h6 c hcK]
      by_cases t : sT s c ≠ 0
      · rw [if_pos t] at hQ
        exact ⟨fun _ => ⟨zc, stay hQ⟩, fun y => absurd t y⟩
      · rw [if_neg t] at hQ
        have t0 : sT s c = 0 := Classical.byContradiction t
        refine ⟨fun y => absurd y t, fun _ => ?_⟩
        rcases hb with ⟨b1, b2⟩ | ⟨k, b1, b2, b3, b4, b5⟩
        · rw [if_pos b1] at hQ
          exact ⟨fun _ => ⟨zc, take t0 hQ⟩, fun y => absurd b2 y⟩
        · rw [if_neg (by rw [b1]; omega)] at hQ
          refine ⟨fun y => absurd (b4.symm.trans y) (by simp), fun _ => ⟨fun y => ?_, fun y => ⟨qn k, b4, hck k b2, ?_⟩⟩⟩
          · rw [if_pos y] at hQ
            exact ⟨zc, stay hQ⟩
          · rw [if_neg y] at hQ
            rw [h8 k b2, h8 c hcK, ← b5]
            refine ⟨fun z => ?_, fun z => ?_⟩
            · rw [if_pos z] at hQ
              rw [b4] at stay
              exact ⟨zc, stay hQ⟩
            · rw [if_neg z] at hQ
              exact ⟨zc, take t0 hQ⟩
  have top : ∀ kz (Q : Option zV → zH → Prop), out (pkS (E 4) (E 0 16) (E 0 13) s) Q → Z zm_X11_pick kz Q 0 [(0, zR 0)] [] (d, G, E) := fun kz Q hQ => by
    have l := loop (sK s) 0 (-1) 0 none (by omega) (Or.inl ⟨rfl, rfl⟩) kz Q hQ
    by_cases c : (E 0 16 + 1) % (E 0 13 + 1) ≠ 0
    · have ea : age = 0 := if_pos c
      rw [ea] at l
      exact X11_pick_0 hX ⟨zin_of (by omega) (by omega), zin_of (by omega) (by omega), by omega, by omega, fun _ => l, fun z => absurd c z⟩
    · have ea : age = 1 := if_neg c
      rw [ea] at l
      exact X11_pick_0 hX ⟨zin_of (by omega) (by omega), zin_of (by omega) (by omega), by omega, by omega, fun z => absurd z c, fun _ => l⟩
  rcases pkS_in (W := E 4) (pk := E 0 16) (tu := E 0 13) (s := s) with q | ⟨k, q, hk, hT⟩
  · refine Or.inl ⟨q, zM_e rfl (Nat.le_of_ble_eq_true rfl) (fun kz Q hQ => top kz Q ⟨fun _ => hQ, fun k hk => ?_⟩)⟩
    exact absurd (q.symm.trans hk) (by omega)
  · refine Or.inr ⟨k, q, hk, hT, zM_e rfl (Nat.le_of_ble_eq_true rfl) (fun kz Q hQ => top kz Q ⟨fun y => absurd (q.symm.trans y) (by omega), fun k' hk' => ?_⟩)⟩
    have ek : k' = k := by have := q.symm.trans hk'; omega
    rw [ek]; exact hQ
theorem begin_ok {o : Option Nat} (hX : zK zXt d G) (ho : ∀ b, o = some b → b ∈ d) :
    ∃ (G' : Nat → Int → Option Nat) (E' : Nat → Int → Int), zM zm_X0_begin [zR 42, zO o] (d, G, E) none (d, G', E') ∧ zK zXt d G' ∧ (∀ y : Nat, y ≠ 42 → G' y = G y) ∧ (∀ i : Int, i ≠ 3 → i ≠ 6 → i ≠ 7 → G' 42 i = G 42 i) ∧ G' 42 3 = o ∧ G' 42 6 = none ∧ G' 42 7 = none ∧ fz [42] E E' ∧ E' 42 4 = -1 ∧ E' 42 5 = 3 := by
  let G1 := zuG G 42 3 o
  let G2 := zuG G1 42 6 none
  let G3 := zuG G2 42 7 none
  have X1 : zK zXt d G1 := zK_X42 hX (Or.inl rfl)
  have X2 : zK zXt d G2 := zK_X42 X1 (Or.inr (Or.inl rfl))
  have X3 : zK zXt d G3 := zK_X42 X2 (Or.inr (Or.inr rfl))
  let E1 := zuE (zuE E 42 4 (-1)) 42 5 3
  refine ⟨G3, E1, zM_of rfl (Nat.le_of_ble_eq_true rfl) ⟨Nat.le_refl _, Nat.le_refl _⟩ (X0_begin_0 hX ⟨ho, fun H1 h1 => ?_⟩), X3, fun y hy => (zuG_nf hy).trans ((zuG_nf hy).trans (zuG_nf hy)), fun i a b c => (zuG_ix c).trans ((zuG_ix b).trans (zuG_ix a)), (zuG_ix (by decide)).trans ((zuG_ix (by decide)).trans zuG_same), (zuG_ix (by decide)).trans zuG_same, zuG_same, fz_put (fz_put fz_rfl (by simp)) (by simp), (zuE_ix (by decide)).trans zuE_same, zuE_same⟩
  have eH : H1 = G1 := h1
  rw [eH]
  refine ⟨X1, fun F1 f1 F2 f2 H2 h2 => ?_⟩
  have eH2 : H2 = G2 := h2
  rw [eH2]
  refine ⟨X2, fun H3 h3 => ?_⟩
  have eH3 : H3 = G3 := h3
  rw [eH3]
  refine ⟨X3, rfl, ?_⟩
  rw [f2, f1]
theorem CIv_act {s : zS} {k : Nat} {v : Int} (hs : CIv d G E s) (hk : k < sK s) : CIv d G (zuE (zuE E (qn k) 6 1) 0 16 v) (sAct s k) := by
  obtain ⟨⟨M, ha, hKM, h5, hcl⟩, e17, e18, e19, e20, e15, hI, h19, hX, hMt⟩ := hs
  have q0 : 200 ≤ qn k := by unfold qn; omega
  have n : ∀ y : Nat, y ≠ 0 → y ≠ qn k → zuE (zuE E (qn k) 6 1) 0 16 v y = E y := fun y h1 h2 => (zuE_nf h1).trans (zuE_nf h2)
  have z : ∀ i : Int, i ≠ 16 → zuE (zuE E (qn k) 6 1) 0 16 v 0 i = E 0 i := fun i hi => (zuE_ix hi).trans (zuE_ne (by omega) _)
  refine ⟨⟨M, ha, hKM, by rw [n 5 (by decide) (by omega)]; exact h5, fun c hc => ?_⟩, (z 17 (by decide)).trans e17, (z 18 (by decide)).trans e18, (z 19 (by decide)).trans e19, (z 20 (by decide)).trans e20, (z 15 (by decide)).trans e15, ?_, ?_, hX, hMt⟩
  · rw [n 3 (by decide) (by omega), n 4 (by decide) (by omega)]
    have qc : 200 ≤ qn c := by unfold qn; omega
    have hj : ∀ j : Nat, 1 ≤ j → j < 11 → zuE (zuE E (qn k) 6 1) 0 16 v (qn c + j) = E (qn c + j) := fun j j1 j2 => n _ (by omega) (qn_ne j1 (by omega))
    by_cases e : c = k
    · subst e
      refine clA_67 (hcl c hc) (fun _ q => q) (fun i i6 _ => ?_) hj ?_ ?_
      · exact (zuE_ne (by omega) _).trans (zuE_ix i6)
      · refine (zuE_ne (by omega) _).trans (zuE_same.trans ?_)
        exact (zup_s).symm
      · exact ((zuE_ne (by omega) _).trans (zuE_ix (by decide))).trans (hcl c hc).2.2.2.1
    · have ne : qn c ≠ qn k := fun q => e (qn_inj q)
      have ew : zuE (zuE E (qn k) 6 1) 0 16 v (qn c) = E (qn c) := n _ (by omega) ne
      have r := clA_up (E' := zuE (zuE E (qn k) 6 1) 0 16 v) (hcl c hc) (fun _ q => q) (fun j hj' => by
        rcases (by omega : j = 0 ∨ 1 ≤ j) with w | w
        · subst w; exact ew
        · exact hj j w hj')
      have et : sT (sAct s k) c = sT s c := zup_n e
      rw [et]
      exact r
  · unfold stI at *
    rw [n 20 (by decide) (by omega), n 22 (by decide) (by omega), n 23 (by decide) (by omega)]; exact hI
  · rw [n 19 (by decide) (by omega)]; exact h19
theorem WA_mon {P W : Int → Int} {fu : Int} {it : Nat} : ∀ {m a : Nat} {s s1 : zS}, WA P W fu it m a s s1 → mon s s1
  | 0, a, s, s1, h => by
    have e : s1 = s := h
    rw [e]
    exact mon_r s
  | m + 1, a, s, s1, h => by
    rcases h with ⟨g, ⟨t, u, r1, r2⟩ | ⟨t, r2⟩⟩ | ⟨g, r1⟩
    · exact mon_t (RT_mon r1) (WA_mon r2)
    · exact WA_mon r2
    · rw [r1]; exact mon_r s
theorem RS_WK {P W : Int → Int} {fu : Int} {it : Nat} {s s' : zS} (hi : it < sK s) (h : RS P W fu it 3 (-1) [] s s') : WK P W fu it s s' := by
  rcases h with ⟨_, u, r, s2, w, q⟩ | ⟨c, _⟩ | ⟨c, _⟩ | ⟨c, _⟩
  · have eu : u = s := r
    rw [eu] at w
    have w' : WA P W fu it 151 0 s s2 := w
    have em : lsL (sR s2) it = lsL (sR s) it := by
      unfold lsL
      rw [(WA_mon w').2.1 it hi]
    rw [em] at q
    exact ⟨s2, w', q⟩
  · exact absurd c (by omega)
  · exact absurd c (by omega)
  · exact absurd c (by omega)
end SR0
