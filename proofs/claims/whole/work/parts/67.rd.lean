/-! ===== unification: the class, isIn, tell, meet ===== -/
/-- the class's Standing holds these bindings -/
def bdU (E : Nat → Int → Int) (b : zBd) : Prop := E 20 4 = b.length ∧ (∀ k : Nat, k < b.length → E 23 k = (b.getD k (0, [])).1) ∧ bdW (E 21) (E 22) 360 b
theorem bdU_stI {E : Nat → Int → Int} {P : Int → Int} {b : zBd} {rk : Int → Nat} (hb : bw P b rk) (h : bdU E b) : stI E := by
  have l40 := bw_len hb
  have key : ∀ q, q ∈ b → 0 ≤ q.1 ∧ q.1 < 40 := fun q hq => by
    have : lkp b q.1 ≠ none := fun z => lkp_none.1 z q hq rfl
    obtain ⟨u, hu⟩ := Option.ne_none_iff_exists'.1 this
    have := hb.2 q.1 u hu
    exact ⟨this.1, this.2.1⟩
  refine ⟨by rw [h.1]; omega, by rw [h.1]; omega, fun k k0 k1 => ?_, fun L l0 l1 hs => ?_⟩
  · rw [h.1] at k1
    obtain ⟨n, rfl⟩ : ∃ n : Nat, k = n := ⟨k.toNat, by omega⟩
    have hn : n < b.length := by omega
    rw [h.2.1 n hn]
    exact key _ (getD_mem hn)
  · obtain ⟨u, hu⟩ := bdW_at h.2.2 l0 l1 hs
    obtain ⟨k, k1, k2⟩ := mem_getD (lkp_mem hu)
    exact ⟨k, by omega, by rw [h.1]; omega, by rw [h.2.1 k k1, k2]⟩
theorem bdU_fz {E E' : Nat → Int → Int} {b : zBd} {S : List Nat} (h : bdU E b) (hf : fz S E E') (h4 : E' 20 4 = E 20 4) (h1 : 21 ∉ S) (h2 : 22 ∉ S) (h3 : 23 ∉ S) : bdU E' b := by
  unfold bdU
  rw [h4, hf 21 h1, hf 22 h2, hf 23 h3]; exact h
/-- a word on the board -/
def onB (E : Nat → Int → Int) (i : Int) (w : List Int) : Prop := 0 ≤ i ∧ i + w.length ≤ 360 ∧ lk (E 21) i (fw w) 0 w.length ∧ lo40 w
theorem onB_fz {E E' : Nat → Int → Int} {i : Int} {w : List Int} {S : List Nat} (h : onB E i w) (hf : fz S E E') (h1 : 21 ∉ S) : onB E' i w := by
  unfold onB
  rw [hf 21 h1]; exact h
theorem onB_l {E : Nat → Int → Int} {i : Int} {v w : List Int} (h : onB E i (v ++ w)) : onB E i v := by
  obtain ⟨h0, h1, h2, h3⟩ := h
  rw [List.length_append] at h1 h2
  refine ⟨h0, by omega, fun k hk => ?_, (lo40_app.1 h3).1⟩
  rw [h2 k (by omega), fw_al (k := k) (by omega) hk, fw_0, fw_nat]
theorem onB_r {E : Nat → Int → Int} {i j : Int} {v w : List Int} (h : onB E i (v ++ w)) (hj : j = i + v.length) : onB E j w := by
  obtain ⟨h0, h1, h2, h3⟩ := h
  subst hj
  rw [List.length_append] at h1 h2
  refine ⟨by omega, by omega, fun k hk => ?_, (lo40_app.1 h3).2⟩
  have e : i + (v.length : Int) + (k : Int) = i + ((v.length + k : Nat) : Int) := by omega
  rw [e, h2 (v.length + k) (by omega), fw_ar (k := k) (by omega), fw_0, fw_nat]
theorem onB_hd {E : Nat → Int → Int} {i : Int} {w : List Int} (h : onB E i w) (h0 : w ≠ []) : E 21 i = fw w 0 ∧ -40 ≤ fw w 0 ∧ 0 ≤ i ∧ i < 360 := by
  have l : 0 < w.length := List.length_pos_iff.2 h0
  have := h.2.2.1 0 l
  rw [fw_0, ← fw_nat] at this
  refine ⟨by simpa using this, h.2.2.2 _ (fw_mem (k := 0) l), h.1, by have := h.2.1; omega⟩
section RD
variable {d : List Nat} {G : Nat → Int → Option Nat} {E : Nat → Int → Int}
theorem isIn_ok {b : zBd} {rk : Int → Nat} {L i : Int} {u : List Int} (hX : zK zXt d G) (hP : pok (E 3)) (hb : bw (E 3) b rk) (hU : bdU E b) (hu : tw (E 3) u) (hi : onB E i u) (l0 : 0 ≤ L) (l1 : L < 40) :
    ∃ (x : Int) (E' : Nat → Int → Int), zM zm_X9_isIn [zR 20, zI L, zI i] (d, G, E) (some (zI x)) (d, G, E') ∧ fz [20, 27, 28] E E' ∧ (∀ j : Int, j ≠ 10 → j ≠ 11 → j ≠ 12 → E' 20 j = E 20 j) ∧ (x = 0 ∨ x = 1) ∧ (x = 0 → (-1 - L) ∉ sb (th b) u) ∧ ((-1 - L) ∉ sb (th b) u → (sb (th b) u).length ≤ 999999 → x = 0) := by
  have hbk : stB E rk := bw_bok hb hU.2.2
  have hsg : seg E rk i u.length 40 := ⟨hi.1, hi.2.1, fun k hk => by
    have hm := hi.2.2.2 _ (lk_mem hi.2.2.1 hk)
    refine ⟨hm, fun z => ?_⟩
    have z1 := z.1
    exact (hbk _ (by omega) (by omega) z.2).1⟩
  have eD : sgx E i u.length = sb (th b) u := xf_sb hP hb hU.2.2 hi.2.2.1 hi.2.2.2
  obtain ⟨E1, m1, f1, j1, w1⟩ := beginWay_ok (E := E) hX hsg
  rw [eD] at w1
  have ht : tm (E 3) (E 21) i u.length := tm_congr hu (fun k hk => (hi.2.2.1 k hk).symm)
  have m0 : zM zm_X8_after [zR 1, zR 21, zI i] (d, G, E) (some (zI (i + u.length))) (d, G, E) := after_ok (a := 21) (n := 360) hX (zX_20_1 hX).2.2 rfl hP ht hi.1 hi.2.1 (by omega)
  have loop : ∀ (D : List Int) (F : Nat → Int → Int) (v3 : Int), fz [20, 27, 28] E F → (∀ j : Int, j ≠ 10 → j ≠ 11 → j ≠ 12 → F 20 j = E 20 j) → way F rk D → 0 ≤ v3 →
      ∃ (x : Int) (E' : Nat → Int → Int), zgo zm_X9_isIn 19 [(0, zR 20), (1, zI L), (3, zI v3)] [] (d, G, F) (some (zI x)) (d, G, E') ∧ fz [20, 27, 28] E E' ∧ (∀ j : Int, j ≠ 10 → j ≠ 11 → j ≠ 12 → E' 20 j = E 20 j) ∧ (x = 0 ∨ x = 1) ∧ (x = 0 → (-1 - L) ∉ D) ∧ ((-1 - L) ∉ D → v3 + D.length ≤ 999999 → x = 0) := by
    intro D
    induction D with
    | nil =>
      intro F v3 hf hj hw v0
      by_cases c : 1000000 ≤ v3
      · exact ⟨1, F, fun kz Q hQ => X9_isIn_19 hX ⟨fun _ => hQ, fun z => absurd c z⟩, hf, hj, Or.inr rfl, fun e => absurd e (by decide), fun _ e => by simp at e; omega⟩
      have wF : wsm E F := wsm_fz hf (by simp) (by simp) (by simp)
      obtain ⟨x, F1, mx, fx, jx, hx⟩ := nextOnWay_ok (E := F) hX (by rw [wF.1]; exact hP) (stB_sm hbk wF) hw
      rcases hx with ⟨x1, _⟩ | ⟨D2, _, _, q, _⟩
      · subst x1
        exact ⟨0, F1, fun kz Q hQ => X9_isIn_19 hX ⟨fun z => absurd z c, fun _ => ⟨-1, F1, mx, fun _ => ⟨fun _ => hQ, fun z => absurd rfl z⟩, fun z => absurd rfl z⟩⟩, fz_trans hf fx, fun j a b c => (jx j a b c).trans (hj j a b c), Or.inl rfl, fun _ => by simp, fun _ _ => rfl⟩
      · exact absurd q (by simp)
    | cons y D ih =>
      intro F v3 hf hj hw v0
      by_cases c : 1000000 ≤ v3
      · exact ⟨1, F, fun kz Q hQ => X9_isIn_19 hX ⟨fun _ => hQ, fun z => absurd c z⟩, hf, hj, Or.inr rfl, fun e => absurd e (by decide), fun _ e => by simp at e; omega⟩
      have wF : wsm E F := wsm_fz hf (by simp) (by simp) (by simp)
      obtain ⟨x, F1, mx, fx, jx, hx⟩ := nextOnWay_ok (E := F) hX (by rw [wF.1]; exact hP) (stB_sm hbk wF) hw
      rcases hx with ⟨_, q⟩ | ⟨D2, x0, x1, q, xl, w2⟩
      · exact absurd q (by simp)
      · have qc : y = F 21 x ∧ D = D2 := by simpa using q
        obtain ⟨qc1, qc2⟩ := qc
        subst qc2
        have xn : x ≠ -1 := by omega
        have e21 : F1 21 x = y := by rw [fx 21 (by simp), qc1]
        by_cases hy : y = -1 - L
        · exact ⟨1, F1, fun kz Q hQ => X9_isIn_19 hX ⟨fun z => absurd z c, fun _ => ⟨x, F1, mx, fun z => absurd z xn, fun _ => ⟨⟨x0, x1⟩, zin_of (by omega) (by omega), fun z => absurd (e21.trans hy) z, fun _ => ⟨fun z => absurd z xn, fun _ => hQ⟩⟩⟩⟩, fz_trans hf fx, fun j a b c => (jx j a b c).trans (hj j a b c), Or.inr rfl, fun e => absurd e (by decide), fun e => absurd (by rw [hy]; exact List.mem_cons_self) e⟩
        · obtain ⟨z, E', g, a1, a2, a3, a4, a5⟩ := ih F1 (v3 + 1) (fz_trans hf fx) (fun j a b c => (jx j a b c).trans (hj j a b c)) w2 (by omega)
          refine ⟨z, E', fun kz Q hQ => X9_isIn_19 hX ⟨fun z => absurd z c, fun _ => ⟨x, F1, mx, fun z => absurd z xn, fun _ => ⟨⟨x0, x1⟩, zin_of (by omega) (by omega), fun _ => ⟨zin_of (by omega) (by omega), g kz Q hQ⟩, fun z => absurd (by rw [e21]; exact hy) z⟩⟩⟩, a1, a2, a3, fun e m => ?_, fun e l => a5 (fun m => e (List.mem_cons_of_mem _ m)) (by rw [List.length_cons] at l; omega)⟩
          rcases List.mem_cons.1 m with k | k
          · exact hy k.symm
          · exact a4 e k
  obtain ⟨x, E', g, a1, a2, a3, a4, a5⟩ := loop (sb (th b) u) E1 0 (fz_mono f1 (by simp)) j1 w1 (by omega)
  exact ⟨x, E', zM_go rfl (Nat.le_of_ble_eq_true rfl) (fun kz Q hQ => X9_isIn_0 hX ⟨_, m0, E1, m1, g kz Q hQ⟩), a1, a2, a3, a4, fun e l => a5 e (by omega)⟩
/-- one letter more -/
theorem tellU_ok {b : zBd} {L at' : Int} {u : List Int} (hX : zK zXt d G) (hU : bdU E b) (hl : b.length < 40) (l0 : 0 ≤ L) (l1 : L < 40) (hL : lkp b L = none) (hi : onB E at' u) :
    ∃ E' : Nat → Int → Int, zM zm_X9_tell [zR 20, zI L, zI at'] (d, G, E) none (d, G, E') ∧ fz [20, 22, 23] E E' ∧ (∀ j : Int, j ≠ 4 → E' 20 j = E 20 j) ∧ bdU E' (b ++ [(L, u)]) ∧ E' 22 L = at' ∧ ∀ M : Int, M ≠ L → E' 22 M = E 22 M := by
  obtain ⟨h1, h2, h3⟩ := hU
  let F1 := zuE E 22 L at'
  let F2 := zuE F1 23 b.length L
  let F3 := zuE F2 20 4 ((b.length : Int) + 1)
  have g1 : F1 20 4 = b.length := (zuE_ne (by decide) _).trans h1
  have g2 : F2 20 4 = b.length := (zuE_ne (by decide) _).trans g1
  have g21 : F3 21 = E 21 := (zuE_nf (by decide)).trans ((zuE_nf (by decide)).trans (zuE_nf (by decide)))
  have g22 : F3 22 = F1 22 := (zuE_nf (by decide)).trans (zuE_nf (by decide))
  have g23 : F3 23 = F2 23 := zuE_nf (by decide)
  refine ⟨F3, zM_e rfl (Nat.le_of_ble_eq_true rfl) (fun kz Q hQ => X9_tell_0 hX ⟨fun c => absurd c (by omega), fun _ => ⟨fun c => absurd c (by omega), fun _ => ⟨⟨by omega, by omega⟩, fun H1 e1 => ?_⟩⟩⟩), ?_, ?_, ⟨?_, ?_, ?_⟩, by rw [g22]; exact zuE_same, fun M hM => by rw [g22]; exact zuE_ix hM⟩
  · rw [e1, show zuE E 22 L at' 20 4 = b.length from g1]
    refine ⟨⟨by omega, by omega⟩, fun H2 e2 => ?_⟩
    rw [e2, show zuE (zuE E 22 L at') 23 b.length L 20 4 = b.length from g2]
    exact ⟨zin_of (by omega) (by omega), fun H3 e3 => by rw [e3]; exact hQ⟩
  · exact fz_put (fz_put (fz_put fz_rfl (by simp)) (by simp)) (by simp)
  · exact fun j hj => (zuE_ix hj).trans ((zuE_ne (by decide) _).trans (zuE_ne (by decide) _))
  · rw [List.length_append, List.length_singleton]
    exact zuE_same
  · intro k hk
    rw [List.length_append, List.length_singleton] at hk
    rw [g23]
    by_cases c : k = b.length
    · subst c
      have e : (b ++ [(L, u)]).getD b.length (0, []) = (L, u) := by have := getD_r (b := b) (c := [(L, u)]) (k := 0); simpa using this
      rw [e]; exact zuE_same
    · rw [getD_l (by omega)]
      refine (zuE_ix (by omega)).trans ((zuE_ne (by decide) _).trans (h2 k (by omega)))
  · rw [g21, g22]
    exact bdW_add h3 hL zuE_same (fun M hM => zuE_ix hM) hi.1 hi.2.1 hi.2.2.1
/-- what a meeting of two places binds -/
def mtL (x : Int) (v : List Int) : Int := if x < 0 then -1 - x else -1 - fw v 0
def mtW (x : Int) (u v : List Int) : List Int := if x < 0 then v else u
theorem meet_ok {b : zBd} {rk : Int → Nat} {i j : Int} {u v : List Int} (hX : zK zXt d G) (hP : pok (E 3)) (hb : bw (E 3) b rk) (hU : bdU E b) (hu : tw (E 3) u) (hi : onB E i u) (hv : tw (E 3) v) (hj : onB E j v) (nu : ¬ (fw u 0 < 0 ∧ lkp b (-1 - fw u 0) ≠ none)) (nv : ¬ (fw v 0 < 0 ∧ lkp b (-1 - fw v 0) ≠ none)) (hl : fw u 0 = fw v 0 ∨ fw u 0 < 0 ∨ fw v 0 < 0) :
    ∃ (x : Int) (E' : Nat → Int → Int), zM zm_X9_meet [zR 20, zI i, zI j] (d, G, E) (some (zI x)) (d, G, E') ∧ fz [20, 22, 23, 27, 28] E E' ∧ (∀ k : Int, k ≠ 4 → k ≠ 10 → k ≠ 11 → k ≠ 12 → E' 20 k = E 20 k) ∧
      ((fw u 0 = fw v 0 ∧ x = 1 ∧ bdU E' b ∧ E' = E) ∨ (fw u 0 ≠ fw v 0 ∧ ∃ (L : Int) (w : List Int) (at' : Int), (fw u 0 < 0 ∧ L = -1 - fw u 0 ∧ w = v ∧ at' = j ∨ 0 ≤ fw u 0 ∧ fw v 0 < 0 ∧ L = -1 - fw v 0 ∧ w = u ∧ at' = i) ∧ 0 ≤ L ∧ L < 40 ∧ lkp b L = none ∧
        ((x = 1 ∧ (-1 - L) ∉ sb (th b) w ∧ (∃ rk', bw (E 3) (b ++ [(L, w)]) rk') ∧ bdU E' (b ++ [(L, w)]) ∧ E' 22 L = at' ∧ ∀ M : Int, M ≠ L → E' 22 M = E 22 M) ∨ (x = 0 ∧ ((-1 - L) ∈ sb (th b) w ∨ 999999 < (sb (th b) w).length) ∧ bdU E' b)))) := by
  obtain ⟨u1, u2, u3, u4⟩ := onB_hd hi (tw_ne hu)
  obtain ⟨v1, v2, v3, v4⟩ := onB_hd hj (tw_ne hv)
  by_cases ce : fw u 0 = fw v 0
  · exact ⟨1, E, zM_e rfl (Nat.le_of_ble_eq_true rfl) (fun kz Q hQ => X9_meet_0 hX ⟨⟨by omega, by omega⟩, ⟨by omega, by omega⟩, fun z => absurd (by rw [u1, v1]; exact ce) z, fun _ => hQ⟩), fz_rfl, fun _ _ _ _ _ => rfl, Or.inl ⟨ce, rfl, hU, rfl⟩⟩
  have core : ∀ (L at' : Int) (w : List Int), 0 ≤ L → L < 40 → lkp b L = none → tw (E 3) w → onB E at' w → ∃ (x : Int) (F : Nat → Int → Int), zM zm_X9_isIn [zR 20, zI L, zI at'] (d, G, E) (some (zI x)) (d, G, F) ∧
      ((x = 0 ∧ ∃ F', zM zm_X9_tell [zR 20, zI L, zI at'] (d, G, F) none (d, G, F') ∧ fz [20, 22, 23, 27, 28] E F' ∧ (∀ k : Int, k ≠ 4 → k ≠ 10 → k ≠ 11 → k ≠ 12 → F' 20 k = E 20 k) ∧ (-1 - L) ∉ sb (th b) w ∧ (∃ rk', bw (E 3) (b ++ [(L, w)]) rk') ∧ bdU F' (b ++ [(L, w)]) ∧ F' 22 L = at' ∧ ∀ M : Int, M ≠ L → F' 22 M = E 22 M) ∨
       (x ≠ 0 ∧ fz [20, 22, 23, 27, 28] E F ∧ (∀ k : Int, k ≠ 4 → k ≠ 10 → k ≠ 11 → k ≠ 12 → F 20 k = E 20 k) ∧ ((-1 - L) ∈ sb (th b) w ∨ 999999 < (sb (th b) w).length) ∧ bdU F b)) := by
    intro L at' w l0 l1 hL hw hat
    obtain ⟨x, F, m, f, jj, x01, a1, a2⟩ := isIn_ok (E := E) hX hP hb hU hw hat l0 l1
    have f2 : fz [20, 22, 23, 27, 28] E F := fz_mono f (by simp)
    have hUF : bdU F b := bdU_fz hU f (jj 4 (by decide) (by decide) (by decide)) (by simp) (by simp) (by simp)
    refine ⟨x, F, m, ?_⟩
    rcases x01 with e | e
    · subst e
      left
      have ho := a1 rfl
      obtain ⟨rk', hb'⟩ := bw_add hb l0 l1 hL hw hat.2.2.2 ho
      have l40 := bw_len hb'
      rw [List.length_append, List.length_singleton] at l40
      obtain ⟨F', m', f', j', hU', hU2, hU3⟩ := tellU_ok (E := F) hX hUF (by omega) l0 l1 hL (onB_fz hat f (by simp))
      exact ⟨rfl, F', m', fz_trans f2 (fz_mono f' (by simp)), fun k k1 k2 k3 k4 => (j' k k1).trans (jj k k2 k3 k4), ho, ⟨rk', hb'⟩, hU', hU2, fun M hM => (hU3 M hM).trans (by rw [f 22 (by simp)])⟩
    · subst e
      right
      refine ⟨by decide, f2, fun k k1 k2 k3 k4 => jj k k2 k3 k4, ?_, hUF⟩
      by_cases ho : (-1 - L) ∈ sb (th b) w
      · exact Or.inl ho
      · refine Or.inr (Nat.lt_of_not_le fun z => ?_)
        have := a2 ho z
        omega
  by_cases cu : fw u 0 < 0
  · have hL : lkp b (-1 - fw u 0) = none := Classical.byContradiction fun z => nu ⟨cu, z⟩
    obtain ⟨x, F, m, h⟩ := core (-1 - fw u 0) j v (by omega) (by omega) hL hv hj
    have pre : ∀ kz Q, (x = 0 → ∃ F', zM zm_X9_tell [zR 20, zI (-1 - fw u 0), zI j] (d, G, F) none (d, G, F') ∧ Q (some (zI 1)) (d, G, F')) → (¬ x = 0 → Q (some (zI 0)) (d, G, F)) → Z zm_X9_meet kz Q 0 [(0, zR 20), (1, zI i), (2, zI j)] [] (d, G, E) := fun kz Q k1 k2 => by
      refine X9_meet_0 hX ⟨⟨by omega, by omega⟩, ⟨by omega, by omega⟩, fun _ => ⟨⟨by omega, by omega⟩, fun z => absurd z (by rw [u1]; omega), fun _ => ?_⟩, fun z => absurd (by rw [u1, v1]; exact ce) z⟩
      refine X9_meet_31 hX ⟨fun z => absurd z (by decide), fun _ => ⟨⟨by omega, by omega⟩, by rw [u1]; exact zin_of (by omega) (by omega), fun z => absurd z (by decide), fun _ => ?_⟩⟩
      rw [u1]
      exact ⟨x, F, m, k1, k2⟩
    rcases h with ⟨x0, F', m', a1, a2, a3, a4, a5, a6⟩ | ⟨x0, a1, a2, a3, a4⟩
    · exact ⟨1, F', zM_e rfl (Nat.le_of_ble_eq_true rfl) (fun kz Q hQ => pre kz Q (fun _ => ⟨F', m', hQ⟩) (fun z => absurd x0 z)), a1, a2, Or.inr ⟨ce, _, v, j, Or.inl ⟨cu, rfl, rfl, rfl⟩, by omega, by omega, hL, Or.inl ⟨rfl, a3, a4, a5, a6⟩⟩⟩
    · exact ⟨0, F, zM_e rfl (Nat.le_of_ble_eq_true rfl) (fun kz Q hQ => pre kz Q (fun z => absurd z x0) (fun _ => hQ)), a1, a2, Or.inr ⟨ce, _, v, j, Or.inl ⟨cu, rfl, rfl, rfl⟩, by omega, by omega, hL, Or.inr ⟨rfl, a3, a4⟩⟩⟩
  · have cv : fw v 0 < 0 := by omega
    have hL : lkp b (-1 - fw v 0) = none := Classical.byContradiction fun z => nv ⟨cv, z⟩
    obtain ⟨x, F, m, h⟩ := core (-1 - fw v 0) i u (by omega) (by omega) hL hu hi
    have pre : ∀ kz Q, (x = 0 → ∃ F', zM zm_X9_tell [zR 20, zI (-1 - fw v 0), zI i] (d, G, F) none (d, G, F') ∧ Q (some (zI 1)) (d, G, F')) → (¬ x = 0 → Q (some (zI 0)) (d, G, F)) → Z zm_X9_meet kz Q 0 [(0, zR 20), (1, zI i), (2, zI j)] [] (d, G, E) := fun kz Q k1 k2 => by
      refine X9_meet_0 hX ⟨⟨by omega, by omega⟩, ⟨by omega, by omega⟩, fun _ => ⟨⟨by omega, by omega⟩, fun _ => ?_, fun z => absurd (by rw [u1]; omega) z⟩, fun z => absurd (by rw [u1, v1]; exact ce) z⟩
      refine X9_meet_31 hX ⟨fun _ => ⟨⟨by omega, by omega⟩, by rw [v1]; exact zin_of (by omega) (by omega), fun _ => ?_, fun z => absurd rfl z⟩, fun z => absurd rfl z⟩
      rw [v1]
      exact ⟨x, F, m, k1, k2⟩
    rcases h with ⟨x0, F', m', a1, a2, a3, a4, a5, a6⟩ | ⟨x0, a1, a2, a3, a4⟩
    · exact ⟨1, F', zM_e rfl (Nat.le_of_ble_eq_true rfl) (fun kz Q hQ => pre kz Q (fun _ => ⟨F', m', hQ⟩) (fun z => absurd x0 z)), a1, a2, Or.inr ⟨ce, _, u, i, Or.inr ⟨by omega, cv, rfl, rfl, rfl⟩, by omega, by omega, hL, Or.inl ⟨rfl, a3, a4, a5, a6⟩⟩⟩
    · exact ⟨0, F, zM_e rfl (Nat.le_of_ble_eq_true rfl) (fun kz Q hQ => pre kz Q (fun z => absurd z x0) (fun _ => hQ)), a1, a2, Or.inr ⟨ce, _, u, i, Or.inr ⟨by omega, cv, rfl, rfl, rfl⟩, by omega, by omega, hL, Or.inr ⟨rfl, a3, a4⟩⟩⟩
end RD
