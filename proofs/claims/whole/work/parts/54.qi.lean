/-! ===== rewriting: the reference, one rule at one place ===== -/
/-- a claim's row in the reference -/
def rwM (E : Nat → Int → Int) (c : Nat) (A : List zLt) : Prop := E 61 c = A.length ∧ rowF E 58 59 60 (6 * (c : Int)) A
def stM (E : Nat → Int → Int) (P W : Int → Int) (K : Nat) (R : Nat → List zLt) : Prop := E 50 6 = K ∧ K ≤ 150 ∧ ∀ c : Nat, c < K → rwM E c (R c) ∧ rok P W (R c)
theorem stM_fz {E E' : Nat → Int → Int} {P W : Int → Int} {K : Nat} {R : Nat → List zLt} {S : List Nat} (h : stM E P W K R) (hf : fz S E E') (h1 : 58 ∉ S) (h2 : 59 ∉ S) (h3 : 60 ∉ S) (h4 : 61 ∉ S) (h5 : E' 50 6 = E 50 6) : stM E' P W K R :=
  ⟨by rw [h5]; exact h.1, h.2.1, fun c hc => ⟨⟨by rw [hf 61 h4]; exact (h.2.2 c hc).1.1, rowF_fz (h.2.2 c hc).1.2 hf h1 h2 h3⟩, (h.2.2 c hc).2⟩⟩
section QI
variable {d : List Nat} {G : Nat → Int → Option Nat} {E : Nat → Int → Int}
theorem matchesTerm_go {s0 e0 : Int} (hM : zK zMt d G) (hP : pok (E 53)) : ∀ (p w : List Int) (q : Nat) (v6 v4 : Int) (b : zBd) (F : Nat → Int → Int), ts (E 53) (fw p) 0 q p.length → ts (E 53) (fw w) 0 q w.length → (∀ v, v ∈ p → -20 ≤ v) → lk (E 58) v6 (fw p) 0 p.length → lk (E 72) v4 (fw w) 0 w.length → 0 ≤ v6 → v6 + p.length ≤ 27000 → s0 = v6 + p.length → e0 = v4 + w.length → 0 ≤ v4 → v4 + w.length ≤ 180 → bdR (F 80) (F 81) (E 72) 180 b → fz [80, 81] E F →
    ∃ (x : Int) (E' : Nat → Int → Int), zgo zm_X12_matchesTerm 17 [(0, zR 50), (2, zI s0), (4, zI v4), (5, zI e0), (6, zI v6)] [] (d, G, F) (some (zI x)) (d, G, E') ∧ fz [80, 81] E E' ∧ ((x = 1 ∧ ∃ b', mt (E 53) p b w = some b' ∧ bdR (E' 80) (E' 81) (E 72) 180 b') ∨ x = 0 ∧ mt (E 53) p b w = none) := by
  have hT := (zM_21 hM).2.2
  have hkT : zkd 72 = (0, 180) := rfl
  intro p
  induction p with
  | nil =>
    intro w q v6 v4 b F hp hw _ _ _ _ _ hs he _ _ hb hf
    have q0 : q = 0 := (ts_pos hp).2 rfl
    subst q0
    have wl0 : w.length = 0 := (ts_pos hw).1 rfl
    exact ⟨1, F, fun kz Q hQ => X12_matchesTerm_17 hM ⟨fun _ => ⟨fun c => absurd (by omega) c, fun _ => hQ⟩, fun c => absurd (by simp at hs; omega) c⟩, hf, Or.inl ⟨rfl, b, rfl, hb⟩⟩
  | cons v p ih =>
    intro w q v6 v4 b F hp hw hlo l5 l6 h5 h5n hs he h6 h6n hb hf
    rw [List.length_cons] at h5n hs
    have q1 : q ≠ 0 := fun e => by have := (ts_pos hp).1 e; simp at this
    obtain ⟨q', rfl⟩ : ∃ q', q = q' + 1 := ⟨q - 1, by omega⟩
    have w0 : w ≠ [] := fun e => by subst e; have := (ts_pos hw).2 rfl; omega
    have wl0 : 0 < w.length := List.length_pos_iff.2 w0
    have v16 := tsw_lt hp
    have vlo := hlo v List.mem_cons_self
    have F1 : F 58 = E 58 := hf 58 (by simp)
    have FT : F 72 = E 72 := hf 72 (by simp)
    have F3 : F 53 = E 53 := hf 53 (by simp)
    have rv : E 58 v6 = v := by
      have := l5 0 (by simp)
      simpa [fw_c0] using this
    have rw0 : E 72 v4 = fw w 0 := by
      have := l6 0 wl0
      simpa using this
    have l5' : lk (E 58) (v6 + 1) (fw p) 0 p.length := fun k hk => by
      have := l5 (k + 1) (by simp; omega)
      have e1 : v6 + ((k + 1 : Nat) : Int) = v6 + 1 + k := by omega
      rw [e1, fw_cs (k := k) (by omega)] at this
      rw [this]; congr 1; omega
    have hlo' : ∀ x, x ∈ p → -20 ≤ x := fun x hx => hlo x (List.mem_cons_of_mem _ hx)
    by_cases hv : 0 ≤ v
    · by_cases hq : fw w 0 = v
      · have hp' := tsw_sgn hP hp hv
        obtain ⟨c0, w', rfl⟩ := List.exists_cons_of_ne_nil w0
        rw [fw_c0] at hq
        subst hq
        have hw' := tsw_sgn hP hw hv
        have l6' : lk (E 72) (v4 + 1) (fw w') 0 w'.length := fun k hk => by
          have := l6 (k + 1) (by simp; omega)
          have e1 : v4 + ((k + 1 : Nat) : Int) = v4 + 1 + k := by omega
          rw [e1, fw_cs (k := k) (by omega)] at this
          rw [this]; congr 1; omega
        rw [List.length_cons] at h6n he
        obtain ⟨x, E', go, r1, r2⟩ := ih w' _ (v6 + 1) (v4 + 1) b F hp' hw' hlo' l5' l6' (by omega) (by omega) (by omega) (by omega) (by omega) (by omega) hb hf
        refine ⟨x, E', fun kz Q hQ => X12_matchesTerm_17 hM ?_, r1, ?_⟩
        · rw [F1, FT, rv, rw0, fw_c0]
          exact ⟨fun z => absurd z (by omega), fun _ => ⟨⟨by omega, by omega⟩, fun z => absurd z (by omega), fun _ => ⟨fun z => absurd z (by omega), fun _ => ⟨⟨by omega, by omega⟩, ⟨by omega, by omega⟩, fun _ => ⟨zin_of (by omega) (by omega), zin_of (by omega) (by omega), go kz Q hQ⟩, fun z => absurd rfl z⟩⟩⟩⟩
        · have em : mt (E 53) (c0 :: p) b (c0 :: w') = mt (E 53) p b w' := by
            simp only [mt]
            rw [if_pos hv, fw_c0, if_pos rfl]; rfl
          rw [em]; exact r2
      · refine ⟨0, F, fun kz Q hQ => X12_matchesTerm_17 hM ?_, hf, Or.inr ⟨rfl, ?_⟩⟩
        · rw [F1, FT, rv, rw0]
          exact ⟨fun z => absurd z (by omega), fun _ => ⟨⟨by omega, by omega⟩, fun z => absurd z (by omega), fun _ => ⟨fun z => absurd z (by omega), fun _ => ⟨⟨by omega, by omega⟩, ⟨by omega, by omega⟩, fun z => absurd z.symm hq, fun _ => hQ⟩⟩⟩⟩
        · simp only [mt]; rw [if_pos hv, if_neg hq]
    · have hp' := tsw_let hp (by omega)
      obtain ⟨n, n0, nl, ntl, ntm, hw'⟩ := tsw_trm hP hw
      have tT : tm (E 53) (E 72) v4 n := tm_congr ntm (fun k hk => by rw [l6 k (by omega)])
      have m1 := endOf_ok (E := F) (a := 72) (n := 180) (i := v4) (t := n) hM hT hkT (by rw [F3]; exact hP) (by rw [F3, FT]; exact tT) (by omega) (by omega) (by omega)
      have l6' : lk (E 72) (v4 + n) (fw (w.drop n)) 0 (w.drop n).length := fun k hk => by
        rw [List.length_drop] at hk
        have := l6 (n + k) (by omega)
        have e1 : v4 + ((n + k : Nat) : Int) = v4 + n + k := by omega
        have e2 : (0 : Int) + ((n + k : Nat) : Int) = n + k := by omega
        rw [e1, e2] at this
        rw [this, fw_dr (k := k) (by omega)]
      have dl : ((w.drop n).length : Int) = w.length - n := by rw [List.length_drop]; omega
      have ltk : (w.take n).length = n := by rw [List.length_take]; omega
      have ed : v4 + n - v4 = ((n : Nat) : Int) := by omega
      have htk : lk (E 72) v4 (fw (w.take n)) 0 (w.take n).length := fun k hk => by
        rw [ltk] at hk
        rw [l6 k (by omega), fw_0, ← fw_nat, fw_tk (k := k) (by omega) hk]
      cases hL : lkp b (-1 - v) with
      | none =>
        have r80 := hb.1 (-1 - v) (by omega) (by omega) hL
        let F2 := zuE F 80 (-1 - v) v4
        let F4 := zuE F2 81 (-1 - v) ((n : Nat) : Int)
        have hb2 : bdR (F4 80) (F4 81) (E 72) 180 (b ++ [(-1 - v, w.take n)]) := by
          refine bdR_put hb hL (fun L ne => (zuE_ne (by decide) _).trans (zuE_ix ne)) (fun L ne => (zuE_ix ne).trans (zuE_ne (by decide) _)) ((zuE_ne (by decide) _).trans zuE_same) ?_ h6 (by rw [ltk]; omega) htk
          rw [ltk]; exact zuE_same
        obtain ⟨x, E', go, r1, r2⟩ := ih (w.drop n) q' (v6 + 1) (v4 + n) _ F4 hp' hw' hlo' l5' l6' (by omega) (by omega) (by omega) (by omega) (by omega) (by omega) hb2 (fz_put (fz_put hf (by simp)) (by simp))
        refine ⟨x, E', fun kz Q hQ => X12_matchesTerm_17 hM ?_, r1, ?_⟩
        · rw [F1, rv, r80]
          refine ⟨fun z => absurd z (by omega), fun _ => ⟨⟨by omega, by omega⟩, fun _ => ⟨fun _ => ⟨⟨by omega, by omega⟩, zin_of (by omega) (by omega), _, m1, zin_of (by omega) (by omega), ⟨by omega, by omega⟩, fun z => absurd rfl z, fun _ => ?_⟩, fun z => absurd (by omega) z⟩, fun z => absurd (by omega) z⟩⟩
          rw [ed]
          exact ⟨⟨by omega, by omega⟩, fun H1 h1 => ⟨⟨by omega, by omega⟩, fun H2 h2 => ⟨zin_of (by omega) (by omega), zin_of (by omega) (by omega), by rw [h2, h1]; exact go kz Q hQ⟩⟩⟩
        · have em : mt (E 53) (v :: p) b w = mt (E 53) p (b ++ [(-1 - v, w.take n)]) (w.drop n) := by
            simp only [mt]
            rw [if_neg hv, hL, ntl]
          rw [em]; exact r2
      | some u =>
        obtain ⟨s0', s1, s2, s3⟩ := hb.2 (-1 - v) u (by omega) (by omega) hL
        have ne : F 80 (-1 - v) ≠ -1 := by omega
        have em : mt (E 53) (v :: p) b w = if u = w.take n then mt (E 53) p b (w.drop n) else none := by
          simp only [mt]
          rw [if_neg hv, hL]
          dsimp only
          rw [ntl]
        by_cases hlen : u.length = n
        · obtain ⟨z, mz, hz⟩ := isLike_ok (E := F) (a := 72) (b := 72) (i := F 80 (-1 - v)) (j := v4) (t := n) hM hT hkT hT hkT s0' (by omega) (by omega) (by omega) (by omega) (by omega)
          rw [FT] at hz
          have lw := lk_word (v := u) (w := w.take n) (by rw [ltk]; exact hlen) s3 htk
          rw [hlen] at lw
          rw [lw] at hz
          rcases hz with ⟨z1, z2⟩ | ⟨z1, z2⟩
          · subst z1
            obtain ⟨x, E', go, r1, r2⟩ := ih (w.drop n) q' (v6 + 1) (v4 + n) b F hp' hw' hlo' l5' l6' (by omega) (by omega) (by omega) (by omega) (by omega) (by omega) hb hf
            refine ⟨x, E', fun kz Q hQ => X12_matchesTerm_17 hM ?_, r1, by rw [em, if_pos z2]; exact r2⟩
            rw [F1, rv, s1]
            refine ⟨fun z => absurd z (by omega), fun _ => ⟨⟨by omega, by omega⟩, fun _ => ⟨fun _ => ⟨⟨by omega, by omega⟩, zin_of (by omega) (by omega), _, m1, zin_of (by omega) (by omega), ⟨by omega, by omega⟩, fun _ => ?_, fun z => absurd ne z⟩, fun z => absurd (by omega) z⟩, fun z => absurd (by omega) z⟩⟩
            rw [ed]
            exact ⟨⟨by omega, by omega⟩, fun z => absurd (by omega) z, fun _ => ⟨⟨by omega, by omega⟩, 1, mz, fun _ => ⟨zin_of (by omega) (by omega), zin_of (by omega) (by omega), go kz Q hQ⟩, fun z => absurd (by decide) z⟩⟩
          · subst z1
            refine ⟨0, F, fun kz Q hQ => X12_matchesTerm_17 hM ?_, hf, Or.inr ⟨rfl, by rw [em, if_neg z2]⟩⟩
            rw [F1, rv, s1]
            refine ⟨fun z => absurd z (by omega), fun _ => ⟨⟨by omega, by omega⟩, fun _ => ⟨fun _ => ⟨⟨by omega, by omega⟩, zin_of (by omega) (by omega), _, m1, zin_of (by omega) (by omega), ⟨by omega, by omega⟩, fun _ => ?_, fun z => absurd ne z⟩, fun z => absurd (by omega) z⟩, fun z => absurd (by omega) z⟩⟩
            rw [ed]
            exact ⟨⟨by omega, by omega⟩, fun z => absurd (by omega) z, fun _ => ⟨⟨by omega, by omega⟩, 0, mz, fun z => absurd rfl z, fun _ => hQ⟩⟩
        · have z2 : u ≠ w.take n := fun e => hlen (by rw [e]; exact ltk)
          refine ⟨0, F, fun kz Q hQ => X12_matchesTerm_17 hM ?_, hf, Or.inr ⟨rfl, by rw [em, if_neg z2]⟩⟩
          rw [F1, rv, s1]
          refine ⟨fun z => absurd z (by omega), fun _ => ⟨⟨by omega, by omega⟩, fun _ => ⟨fun _ => ⟨⟨by omega, by omega⟩, zin_of (by omega) (by omega), _, m1, zin_of (by omega) (by omega), ⟨by omega, by omega⟩, fun _ => ?_, fun z => absurd ne z⟩, fun z => absurd (by omega) z⟩, fun z => absurd (by omega) z⟩⟩
          rw [ed]
          exact ⟨⟨by omega, by omega⟩, fun _ => hQ, fun z => absurd (by omega) z⟩
theorem matchesTerm_ok {p w : List Int} {s y : Int} {b : zBd} (hM : zK zMt d G) (hP : pok (E 53)) (hp : tw (E 53) p) (hw : tw (E 53) w) (hlo : ∀ v, v ∈ p → -20 ≤ v) (l5 : lk (E 58) s (fw p) 0 p.length) (l6 : lk (E 72) y (fw w) 0 w.length) (h5 : 0 ≤ s) (h5n : s + p.length ≤ 27000) (h6 : 0 ≤ y) (h6n : y + w.length ≤ 180) (hb : bdR (E 80) (E 81) (E 72) 180 b) :
    ∃ (x : Int) (E' : Nat → Int → Int), zM zm_X12_matchesTerm [zR 50, zI s, zI (s + p.length), zI y] (d, G, E) (some (zI x)) (d, G, E') ∧ fz [80, 81] E E' ∧ ((x = 1 ∧ ∃ b', mt (E 53) p b w = some b' ∧ bdR (E' 80) (E' 81) (E 72) 180 b') ∨ x = 0 ∧ mt (E 53) p b w = none) := by
  obtain ⟨x, E', go, r⟩ := matchesTerm_go (E := E) hM hP p w 1 s y b E (ts_1.2 hp) (ts_1.2 hw) hlo l5 l6 h5 h5n rfl rfl h6 h6n hb fz_rfl
  have tT : tm (E 53) (E 72) y w.length := tm_congr hw (fun k hk => (l6 k hk).symm)
  have m1 := endOf_ok (E := E) (a := 72) (n := 180) (i := y) (t := w.length) hM (zM_21 hM).2.2 rfl hP tT h6 (by omega) (by omega)
  exact ⟨x, E', zM_go rfl (Nat.le_of_ble_eq_true rfl) (fun kz Q hQ => X12_matchesTerm_0 hM ⟨_, m1, go kz Q hQ⟩), r⟩
theorem makeOther_go {o : List Int} {b : zBd} {i : Int} (hM : zK zMt d G) (hb : bdR (E 80) (E 81) (E 72) 180 b) (hl : lk (E 58) i (fw o) 0 o.length) (h0 : 0 ≤ i) (h1 : i + o.length ≤ 27000) (hlo : ∀ v, v ∈ o → -20 ≤ v) (h30 : o.length ≤ 30) (u30 : ∀ (L : Int) (u : List Int), lkp b L = some u → u.length ≤ 30) : ∀ (m k : Nat) (F : Nat → Int → Int) (z : List Int), k + m = o.length → fz [85] E F → z.length ≤ 30 * k → (∀ j : Nat, j < z.length → F 85 j = z.getD j 0) →
    ∃ (x : Int) (E' : Nat → Int → Int), zgo zm_X12_makeOther 5 [(0, zR 50), (2, zI (i + o.length)), (3, zI (z.length : Int)), (4, zI (i + k))] [] (d, G, F) (some (zI x)) (d, G, E') ∧ fz [85] E E' ∧ ((told b (o.drop k) ∧ x = (z ++ sb (TB b) (o.drop k)).length ∧ ∀ j : Nat, j < (z ++ sb (TB b) (o.drop k)).length → E' 85 j = (z ++ sb (TB b) (o.drop k)).getD j 0) ∨ ¬ told b (o.drop k) ∧ x = -1) := by
  intro m
  induction m with
  | zero =>
    intro k F z hk hf hz hv
    have e : o.drop k = [] := List.drop_eq_nil_of_le (by omega)
    rw [e]
    have e2 : z ++ sb (TB b) [] = z := by simp [sb]
    rw [e2]
    exact ⟨z.length, F, fun kz Q hQ => X12_makeOther_5 hM ⟨fun _ => hQ, fun c => absurd (by omega) c⟩, hf, Or.inl ⟨fun v hv => absurd hv (by simp), rfl, hv⟩⟩
  | succ m ih =>
    intro k F z hk hf hz hv
    have hko : k < o.length := by omega
    have f58 : F 58 = E 58 := hf 58 (by simp)
    have f72 : F 72 = E 72 := hf 72 (by simp)
    have f80 : F 80 = E 80 := hf 80 (by simp)
    have f81 : F 81 = E 81 := hf 81 (by simp)
    have pk : E 58 (i + k) = fw o k := by rw [hl k hko, fw_0, fw_nat]
    have dr : o.drop k = fw o k :: o.drop (k + 1) := by
      rw [List.drop_eq_getElem_cons hko]
      congr 1
      rw [fw_nat, List.getD_eq_getElem?_getD, List.getElem?_eq_getElem hko]; rfl
    have lo := hlo _ (fw_mem hko)
    have ek : i + ((k + 1 : Nat) : Int) = i + k + 1 := by omega
    by_cases c : 0 ≤ fw o k
    · have zl : (z ++ [fw o k]).length = z.length + 1 := by simp
      obtain ⟨x, E', go, r1, r2⟩ := ih (k + 1) (zuE F 85 z.length (fw o k)) (z ++ [fw o k]) (by omega) (fz_put hf (by simp)) (by omega) (fun j hj => by
        rcases (by omega : j < z.length ∨ j = z.length) with e | e
        · rw [zuE_ix (by omega), hv j e, List.getD_eq_getElem?_getD, List.getD_eq_getElem?_getD, List.getElem?_append_left e]
        · subst e; rw [zuE_same, List.getD_eq_getElem?_getD, List.getElem?_append_right (Nat.le_refl _)]; simp)
      have ez : ((z.length + 1 : Nat) : Int) = (z.length : Int) + 1 := by omega
      rw [ek, zl, ez] at go
      refine ⟨x, E', fun kz Q hQ => X12_makeOther_5 hM ⟨fun z => absurd z (by omega), fun _ => ?_⟩, r1, ?_⟩
      · rw [f58, pk]
        exact ⟨⟨by omega, by omega⟩, fun z => absurd z (by omega), fun _ => ⟨⟨by omega, by omega⟩, ⟨by omega, by omega⟩, fun H h => ⟨zin_of (by omega) (by omega), zin_of (by omega) (by omega), by rw [h]; exact go kz Q hQ⟩⟩⟩
      · rw [dr, sb_s c]
        have e3 : z ++ [fw o k] ++ sb (TB b) (o.drop (k + 1)) = z ++ fw o k :: sb (TB b) (o.drop (k + 1)) := by simp
        rw [e3] at r2
        have tq : told b (fw o k :: o.drop (k + 1)) ↔ told b (o.drop (k + 1)) := by
          unfold told
          constructor
          · intro h v hv v0; exact h v (List.mem_cons_of_mem _ hv) v0
          · intro h v hv v0
            rcases List.mem_cons.1 hv with e | e
            · omega
            · exact h v e v0
        rw [tq]; exact r2
    · cases hL : lkp b (-1 - fw o k) with
      | none =>
        have r80 := hb.1 (-1 - fw o k) (by omega) (by omega) hL
        refine ⟨-1, F, fun kz Q hQ => X12_makeOther_5 hM ⟨fun z => absurd z (by omega), fun _ => ?_⟩, hf, Or.inr ⟨fun q => ?_, rfl⟩⟩
        · rw [f58, f80, pk, r80]
          exact ⟨⟨by omega, by omega⟩, fun _ => ⟨⟨by omega, by omega⟩, zin_of (by omega) (by omega), ⟨by omega, by omega⟩, fun z => absurd rfl z, fun _ => hQ⟩, fun z => absurd (by omega) z⟩
        · rw [dr] at q
          exact q _ List.mem_cons_self (by omega) hL
      | some u =>
        obtain ⟨a1, a2, a3, a4⟩ := hb.2 (-1 - fw o k) u (by omega) (by omega) hL
        have ul := u30 _ u hL
        have zl : (z ++ u).length = z.length + u.length := by simp
        -- laying the word
        have inner : ∀ (m2 j2 : Nat) (F2 : Nat → Int → Int), j2 + m2 = u.length → fz [85] E F2 → (∀ j : Nat, j < z.length + j2 → F2 85 j = (z ++ u).getD j 0) → ∃ (x : Int) (E' : Nat → Int → Int), zgo zm_X12_makeOther 67 [(0, zR 50), (2, zI (i + o.length)), (3, zI ((z.length : Int) + j2)), (4, zI (i + k)), (5, zI (-1 - fw o k)), (6, zI (j2 : Int))] [] (d, G, F2) (some (zI x)) (d, G, E') ∧ fz [85] E E' ∧ ((told b (o.drop (k + 1)) ∧ x = (z ++ u ++ sb (TB b) (o.drop (k + 1))).length ∧ ∀ j : Nat, j < (z ++ u ++ sb (TB b) (o.drop (k + 1))).length → E' 85 j = (z ++ u ++ sb (TB b) (o.drop (k + 1))).getD j 0) ∨ ¬ told b (o.drop (k + 1)) ∧ x = -1) := by
          intro m2
          induction m2 with
          | zero =>
            intro j2 F2 hj2 hf2 hv2
            have e : j2 = u.length := by omega
            obtain ⟨x, E', go, r⟩ := ih (k + 1) F2 (z ++ u) (by omega) hf2 (by omega) (fun j hj => hv2 j (by omega))
            have ez : ((z ++ u).length : Int) = (z.length : Int) + j2 := by omega
            rw [ek, ez] at go
            have g81 : F2 81 = E 81 := hf2 81 (by simp)
            exact ⟨x, E', fun kz Q hQ => X12_makeOther_67 hM ⟨⟨by omega, by omega⟩, fun _ => ⟨zin_of (by omega) (by omega), go kz Q hQ⟩, fun c => absurd (by rw [g81, a2]; omega) c⟩, r⟩
          | succ m2 ih2 =>
            intro j2 F2 hj2 hf2 hv2
            have g80 : F2 80 = E 80 := hf2 80 (by simp)
            have g81 : F2 81 = E 81 := hf2 81 (by simp)
            have g72 : F2 72 = E 72 := hf2 72 (by simp)
            have pv : E 72 (E 80 (-1 - fw o k) + j2) = u.getD j2 0 := by rw [a4 j2 (by omega), fw_0]
            obtain ⟨x, E', go, r⟩ := ih2 (j2 + 1) (zuE F2 85 ((z.length : Int) + j2) (u.getD j2 0)) (by omega) (fz_put hf2 (by simp)) (fun j hj => by
              rcases (by omega : j < z.length + j2 ∨ j = z.length + j2) with e | e
              · rw [zuE_ix (by omega)]; exact hv2 j e
              · have e1 : (j : Int) = (z.length : Int) + j2 := by omega
                rw [e1, zuE_same, e, List.getD_eq_getElem?_getD, List.getD_eq_getElem?_getD, List.getElem?_append_right (by omega)]
                congr 2; omega)
            have e1 : (z.length : Int) + ((j2 + 1 : Nat) : Int) = (z.length : Int) + j2 + 1 := by omega
            have e2 : ((j2 + 1 : Nat) : Int) = (j2 : Int) + 1 := by omega
            rw [e1, e2] at go
            refine ⟨x, E', fun kz Q hQ => X12_makeOther_67 hM ⟨⟨by omega, by omega⟩, fun c => absurd c (by rw [g81, a2]; omega), fun _ => ?_⟩, r⟩
            rw [g80, g72, pv]
            exact ⟨⟨by omega, by omega⟩, zin_of (by omega) (by omega), ⟨by omega, by omega⟩, ⟨by omega, by omega⟩, fun H h => ⟨zin_of (by omega) (by omega), zin_of (by omega) (by omega), by rw [h]; exact go kz Q hQ⟩⟩
        obtain ⟨x, E', go, r1, r2⟩ := inner u.length 0 F (by omega) hf (fun j hj => by
          rw [hv j (by omega), List.getD_eq_getElem?_getD, List.getD_eq_getElem?_getD, List.getElem?_append_left (by omega)])
        have e1 : (z.length : Int) + ((0 : Nat) : Int) = z.length := by omega
        rw [e1] at go
        refine ⟨x, E', fun kz Q hQ => X12_makeOther_5 hM ⟨fun z => absurd z (by omega), fun _ => ?_⟩, r1, ?_⟩
        · rw [f58, f80, pk]
          exact ⟨⟨by omega, by omega⟩, fun _ => ⟨⟨by omega, by omega⟩, zin_of (by omega) (by omega), ⟨by omega, by omega⟩, fun _ => go kz Q hQ, fun z => absurd (by omega) z⟩, fun z => absurd (by omega) z⟩
        · rw [dr, sb_l c, TB_some hL]
          rw [List.append_assoc] at r2
          have tq : told b (fw o k :: o.drop (k + 1)) ↔ told b (o.drop (k + 1)) := by
            unfold told
            constructor
            · intro h v hv v0; exact h v (List.mem_cons_of_mem _ hv) v0
            · intro h v hv v0
              rcases List.mem_cons.1 hv with e | e
              · subst e; rw [hL]; simp
              · exact h v e v0
          rw [tq]; exact r2
theorem makeOther_ok {o : List Int} {b : zBd} {i : Int} (hM : zK zMt d G) (hb : bdR (E 80) (E 81) (E 72) 180 b) (hl : lk (E 58) i (fw o) 0 o.length) (h0 : 0 ≤ i) (h1 : i + o.length ≤ 27000) (hlo : ∀ v, v ∈ o → -20 ≤ v) (h30 : o.length ≤ 30) (u30 : ∀ (L : Int) (u : List Int), lkp b L = some u → u.length ≤ 30) :
    ∃ (x : Int) (E' : Nat → Int → Int), zM zm_X12_makeOther [zR 50, zI i, zI (i + o.length)] (d, G, E) (some (zI x)) (d, G, E') ∧ fz [85] E E' ∧ ((told b o ∧ x = (sb (TB b) o).length ∧ ∀ j : Nat, j < (sb (TB b) o).length → E' 85 j = (sb (TB b) o).getD j 0) ∨ ¬ told b o ∧ x = -1) := by
  obtain ⟨x, E', go, r⟩ := makeOther_go (E := E) hM hb hl h0 h1 hlo h30 u30 o.length 0 E [] (by omega) fz_rfl (by simp) (fun j hj => by simp at hj)
  have e : i + ((0 : Nat) : Int) = i := by omega
  rw [e] at go
  exact ⟨x, E', zM_go rfl (Nat.le_of_ble_eq_true rfl) (fun kz Q hQ => X12_makeOther_0 hM (go kz Q hQ)), r⟩
theorem isEquation_ok {P W : Int → Int} {K c : Nat} {R : Nat → List zLt} (hM : zK zMt d G) (hs : stM E P W K R) (hc : c < K) : ∃ x : Int, zM zm_X12_isEquation [zR 50, zI (c : Int)] (d, G, E) (some (zI x)) (d, G, E) ∧ (x = 1 ∧ ruleP (R c) ∨ x = 0 ∧ ¬ ruleP (R c)) := by
  have h150 := hs.2.1
  obtain ⟨⟨h61, hF⟩, rk⟩ := hs.2.2 c hc
  have e6 : 6 * (c : Int) + ((0 : Nat) : Int) = 6 * c := by omega
  by_cases h1 : (R c).length = 1
  · obtain ⟨b1, b2, b3, b4, b5⟩ := hF.2 0 (by omega)
    rw [e6] at b1 b2 b5
    have wp := wok1_pos (rk.1 0 (by omega))
    have e18 : 30 * (6 * (c : Int)) = 180 * c := by omega
    rw [e18] at b5
    have h0 : E 58 (180 * (c : Int)) = fw (lit (R c) 0).2 0 := by
      have := b5 0 wp
      simpa using this
    by_cases hd : (lit (R c) 0).1 = 0
    · by_cases hh : fw (lit (R c) 0).2 0 = 0
      · exact ⟨1, zM_p rfl (Nat.le_of_ble_eq_true rfl) (fun kz Q hQ => X12_isEquation_0 hM ⟨⟨by omega, by omega⟩, fun z => absurd (by omega) z, fun _ => ⟨zin_of (by omega) (by omega), ⟨by omega, by omega⟩, fun z => absurd (by omega) z, fun _ => ⟨zin_of (by omega) (by omega), ⟨by omega, by omega⟩, fun z => absurd (by omega) z, fun _ => hQ⟩⟩⟩), Or.inl ⟨rfl, h1, hd, hh⟩⟩
      · exact ⟨0, zM_p rfl (Nat.le_of_ble_eq_true rfl) (fun kz Q hQ => X12_isEquation_0 hM ⟨⟨by omega, by omega⟩, fun z => absurd (by omega) z, fun _ => ⟨zin_of (by omega) (by omega), ⟨by omega, by omega⟩, fun z => absurd (by omega) z, fun _ => ⟨zin_of (by omega) (by omega), ⟨by omega, by omega⟩, fun _ => hQ, fun z => absurd (by omega) z⟩⟩⟩), Or.inr ⟨rfl, fun q => hh q.2.2⟩⟩
    · exact ⟨0, zM_p rfl (Nat.le_of_ble_eq_true rfl) (fun kz Q hQ => X12_isEquation_0 hM ⟨⟨by omega, by omega⟩, fun z => absurd (by omega) z, fun _ => ⟨zin_of (by omega) (by omega), ⟨by omega, by omega⟩, fun _ => hQ, fun z => absurd (by omega) z⟩⟩), Or.inr ⟨rfl, fun q => hd q.2.1⟩⟩
  · exact ⟨0, zM_p rfl (Nat.le_of_ble_eq_true rfl) (fun kz Q hQ => X12_isEquation_0 hM ⟨⟨by omega, by omega⟩, fun _ => hQ, fun z => absurd (by omega) z⟩), Or.inr ⟨rfl, fun q => h1 q.1⟩⟩
/-- one rule at one place: behind the choice of the side -/
theorem rewrites_core {p o w : List Int} {s0 f0 v2 v3 v4 v5 v6 v7 : Int} (hM : zK zMt d G) (hP : pok (E 53)) (hW : wok (E 54)) (hp : tw (E 53) p) (ho : tw (E 53) o) (hw : tw (E 53) w) (plo : ∀ v, v ∈ p → -20 ≤ v) (olo : ∀ v, v ∈ o → -20 ≤ v) (wlo : ∀ v, v ∈ w → -20 ≤ v) (lp : lk (E 58) f0 (fw p) 0 p.length) (hs0 : s0 = f0 + p.length) (f00 : 0 ≤ f0) (f01 : f0 + p.length ≤ 27000) (lw : lk (E 72) (30 * v3 + v4) (fw w) 0 w.length) (w0 : 0 ≤ 30 * v3 + v4) (w1 : 30 * v3 + v4 + w.length ≤ 180) (v30 : 0 ≤ v3 ∧ v3 ≤ 100) (w30 : w.length ≤ 30) (o30 : o.length ≤ 30)
    (oc0 : (v2 ≠ 0 ∧ lk (E 58) v5 (fw o) 0 o.length ∧ v6 = v5 + o.length ∧ 0 ≤ v5 ∧ v5 + o.length ≤ 27000) ∨ (v2 = 0 ∧ lk (E 58) v6 (fw o) 0 o.length ∧ v7 = v6 + o.length ∧ 0 ≤ v6 ∧ v6 + o.length ≤ 27000)) :
    ∃ (x : Int) (E' : Nat → Int → Int), zgo zm_X12_rewrites 62 [(0, zR 50), (2, zI v2), (3, zI v3), (4, zI v4), (5, zI v5), (6, zI v6), (7, zI v7), (8, zI f0)] [zI s0] (d, G, E) (some (zI x)) (d, G, E') ∧ fz [50, 76, 80, 81, 85] E E' ∧ (∀ i : Int, i ≠ 35 → E' 50 i = E 50 i) ∧ ((x = 1 ∧ ∃ z, rwz (E 53) (E 54) p o w = some z ∧ E' 50 35 = z.length ∧ ∀ k : Nat, k < z.length → E' 85 k = z.getD k 0) ∨ x = 0 ∧ rwz (E 53) (E 54) p o w = none) := by
  obtain ⟨E1, m1, f1, u1⟩ := unbind_ok (E := E) (G := G) hM
  have pp := nd_ge hp
  have wp := nd_ge hw
  have g1 : ∀ x : Nat, x ≠ 80 → E1 x = E x := fun x hx => f1 x (by simpa using hx)
  have hb1 : bdR (E1 80) (E1 81) (E1 72) 180 [] := ⟨fun L a b _ => u1 L a b, fun L u _ _ hL => by simp [lkp] at hL⟩
  have hp0 : E 58 f0 = fw p 0 := by have := lp 0 pp; simpa using this
  have hw0 : E 72 (30 * v3 + v4) = fw w 0 := by have := lw 0 wp; simpa using this
  have f16 := (hp.2 0 pp).2
  by_cases hh : fw p 0 < 0 ∨ fw p 0 = fw w 0
  · have mm := matchesTerm_ok (E := E1) (p := p) (w := w) (s := f0) (y := 30 * v3 + v4) (b := []) hM (by rw [g1 53 (by decide)]; exact hP) (by rw [g1 53 (by decide)]; exact hp) (by rw [g1 53 (by decide)]; exact hw) plo (by rw [g1 58 (by decide)]; exact lp) (by rw [g1 72 (by decide)]; exact lw) f00 f01 w0 w1 hb1
    rw [g1 53 (by decide), g1 72 (by decide), ← hs0] at mm
    obtain ⟨x, E2, m2, f2, hx⟩ := mm
    have hf2 : fz [80, 81] E E2 := fz_trans (fz_mono f1 (by simp)) f2
    have go : ∀ kz Q, Z zm_X12_rewrites kz Q 106 [(0, zR 50), (2, zI v2), (5, zI v5), (6, zI v6), (7, zI v7), (8, zI f0), (9, zI s0), (10, zI (30 * v3 + v4))] [] (d, G, E1) → Z zm_X12_rewrites kz Q 62 [(0, zR 50), (2, zI v2), (3, zI v3), (4, zI v4), (5, zI v5), (6, zI v6), (7, zI v7), (8, zI f0)] [zI s0] (d, G, E) := fun kz Q K => by
      refine X12_rewrites_62 hM ⟨zin_of (by omega) (by omega), zin_of (by omega) (by omega), E1, m1, ?_⟩
      rw [g1 58 (by decide), g1 72 (by decide), hp0, hw0]
      exact ⟨⟨by omega, by omega⟩, fun _ => K, fun z => ⟨⟨by omega, by omega⟩, ⟨by omega, by omega⟩, fun _ => K, fun z' => absurd (by rcases hh with h | h; exact absurd h z; exact h) z'⟩⟩
    rcases hx with ⟨x1, b, x2, x3⟩ | ⟨x1, x2⟩
    · subst x1
      obtain ⟨_, _, a3, a4⟩ := mt_spec hP p [] w 1 b (ts_1.2 hp) (ts_1.2 hw) x2
      have u30 : ∀ (L : Int) (u : List Int), lkp b L = some u → u.length ≤ 30 := fun L u hL => by
        rcases a4 _ (lkp_mem hL) with z | ⟨_, _, z⟩
        · exact absurd z (by simp)
        · dsimp only at z; omega
      have e72 : E2 72 = E 72 := hf2 72 (by simp)
      have e58 : E2 58 = E 58 := hf2 58 (by simp)
      -- the other side
      have oth : ∃ (y : Int) (E3 : Nat → Int → Int), fz [85] E2 E3 ∧ ((told b o ∧ y = (sb (TB b) o).length ∧ ∀ j : Nat, j < (sb (TB b) o).length → E3 85 j = (sb (TB b) o).getD j 0) ∨ ¬ told b o ∧ y = -1) ∧ ∀ kz Q, (∀ H, H = zuE E3 50 35 y → ((H 50 35) = (-1) → Q (some (zI 0)) (d, G, H)) ∧ (¬ ((H 50 35) = (-1)) → ∃ x_13 E_14, zM zm_X12_isGreater [zR 50, zR 72, zI (30 * v3 + v4), zR 85, zI 0] (d, G, H) (some (zI x_13)) (d, G, E_14) ∧ (x_13 = 0 → Q (some (zI 0)) (d, G, E_14)) ∧ (¬ (x_13 = 0) → Q (some (zI 1)) (d, G, E_14)))) → Z zm_X12_rewrites kz Q 106 [(0, zR 50), (2, zI v2), (5, zI v5), (6, zI v6), (7, zI v7), (8, zI f0), (9, zI s0), (10, zI (30 * v3 + v4))] [] (d, G, E1) := by
        rcases oc0 with ⟨c1, c2, c3, c4, c5⟩ | ⟨c1, c2, c3, c4, c5⟩
        · obtain ⟨y, E3, m3, f3, h3⟩ := makeOther_ok (E := E2) (o := o) (b := b) (i := v5) hM (by rw [e72]; exact x3) (by rw [e58]; exact c2) c4 c5 olo o30 u30
          rw [← c3] at m3
          exact ⟨y, E3, f3, h3, fun kz Q K => X12_rewrites_106 hM ⟨1, E2, m2, fun _ => ⟨fun _ => ⟨y, E3, m3, K⟩, fun z => absurd c1 z⟩, fun z => absurd (by decide) z⟩⟩
        · obtain ⟨y, E3, m3, f3, h3⟩ := makeOther_ok (E := E2) (o := o) (b := b) (i := v6) hM (by rw [e72]; exact x3) (by rw [e58]; exact c2) c4 c5 olo o30 u30
          rw [← c3] at m3
          exact ⟨y, E3, f3, h3, fun kz Q K => X12_rewrites_106 hM ⟨1, E2, m2, fun _ => ⟨fun z => absurd c1 z, fun _ => ⟨y, E3, m3, K⟩⟩, fun z => absurd (by decide) z⟩⟩
      obtain ⟨y, E3, f3, h3, go3⟩ := oth
      let E4 := zuE E3 50 35 y
      have n4 : ∀ x : Nat, x ≠ 50 → E4 x = E3 x := fun x hx => zuE_nf hx
      have hf4 : fz [50, 76, 80, 81, 85] E E4 := fz_put (fz_trans (fz_mono hf2 (by simp)) (fz_mono f3 (by simp))) (by simp)
      have j4 : ∀ i : Int, i ≠ 35 → E4 50 i = E 50 i := fun i hi => by
        refine (zuE_ix hi).trans ?_
        rw [f3 50 (by simp), hf2 50 (by simp)]
      have y4 : E4 50 35 = y := zuE_same
      rcases h3 with ⟨t1, t2, t3⟩ | ⟨t1, t2⟩
      · have key : ∀ v, v ∈ o → v < 0 → ∃ u, lkp b (-1 - v) = some u ∧ tw (E 53) u ∧ (∀ y, y ∈ u → y ∈ w) ∧ u.length ≤ w.length := fun v hv v0 => by
          cases hL : lkp b (-1 - v) with
          | none => exact absurd hL (t1 v hv v0)
          | some u =>
            rcases a4 _ (lkp_mem hL) with z | z
            · exact absurd z (by simp)
            · exact ⟨u, rfl, z⟩
        have tz : tw (E 53) (sb (TB b) o) := tw_sb hP o.length o (Nat.le_refl _) ho (fun v hv v0 => by
          obtain ⟨u, u1, u2, _⟩ := key v hv v0
          rw [TB_some u1]; exact u2)
        have zlo : ∀ x, x ∈ sb (TB b) o → -20 ≤ x := fun x hx => by
          rcases sb_mem hx with ⟨q1, q2⟩ | ⟨v, v1, v2', v3'⟩
          · omega
          · obtain ⟨u, u1, _, u3, _⟩ := key v v1 v2'
            rw [TB_some u1] at v3'
            exact wlo x (u3 x v3')
        have zl : (sb (TB b) o).length ≤ 900 := by
          have := sb_len (T := TB b) (m := 30) (by omega) (w := o) (fun v hv v0 => by
            obtain ⟨u, u1, _, _, u4⟩ := key v hv v0
            rw [TB_some u1]; omega)
          omega
        have lw4 : lk (E4 72) (30 * v3 + v4) (fw w) 0 w.length := by rw [n4 72 (by decide), f3 72 (by simp), e72]; exact lw
        have lz4 : lk (E4 85) 0 (fw (sb (TB b) o)) 0 (sb (TB b) o).length := fun k hk => by
          rw [n4 85 (by decide), fw_0, Int.zero_add]; exact t3 k hk
        have tW : tm (E 53) (E4 72) (30 * v3 + v4) w.length := tm_congr hw (fun k hk => (lw4 k hk).symm)
        have tZ : tm (E 53) (E4 85) 0 (sb (TB b) o).length := tm_congr tz (fun k hk => (lz4 k hk).symm)
        have k53 : E4 53 = E 53 := hf4 53 (by simp)
        have k54 : E4 54 = E 54 := hf4 54 (by simp)
        have hg := isGreater_ok (E := E4) (N := 1000) (a := 72) (b := 85) (n := 180) (m := 1000) (i := 30 * v3 + v4) (j := 0) (t := w.length) (u := (sb (TB b) o).length) hM (zM_21 hM).2.2 rfl (zM_34 hM).2.2 rfl (by rw [k53]; exact hP) (by rw [k54]; exact hW) (by omega) (by omega) (by decide) (by decide) (by omega) (by rw [k53]; exact tW) (by rw [k53]; exact tZ) w0 (by omega) (by omega) (by omega) (fun k hk => by
          rw [lw4 k hk, fw_0, ← fw_nat]; have := wlo _ (fw_mem hk); omega) (fun k hk => by
          rw [lz4 k hk, fw_0, ← fw_nat]; have := zlo _ (fw_mem hk); omega)
        rw [k53, k54, kg_iff hP tW tZ lw4 lz4] at hg
        obtain ⟨g, E5, m5, f5, hg⟩ := hg
        have hf5 : fz [50, 76, 80, 81, 85] E E5 := fz_trans hf4 (fz_mono f5 (by simp))
        have j5 : ∀ i : Int, i ≠ 35 → E5 50 i = E 50 i := fun i hi => by rw [f5 50 (by simp)]; exact j4 i hi
        have yn : y ≠ -1 := by omega
        rcases hg with ⟨g1', g2'⟩ | ⟨g1', g2'⟩
        · subst g1'
          refine ⟨1, E5, fun kz Q hQ => go kz Q (go3 kz Q (fun H h => ?_)), hf5, j5, Or.inl ⟨rfl, _, rwz_1 x2 t1 g2', by rw [f5 50 (by simp), y4]; exact t2, fun k hk => by rw [f5 85 (by simp), n4 85 (by decide)]; exact t3 k hk⟩⟩
          have eH : H = E4 := h
          rw [eH, y4]
          exact ⟨fun z => absurd z yn, fun _ => ⟨1, E5, m5, fun z => absurd z (by omega), fun _ => hQ⟩⟩
        · subst g1'
          refine ⟨0, E5, fun kz Q hQ => go kz Q (go3 kz Q (fun H h => ?_)), hf5, j5, Or.inr ⟨rfl, rwz_2 x2 (fun q => g2' q.2)⟩⟩
          have eH : H = E4 := h
          rw [eH, y4]
          exact ⟨fun z => absurd z yn, fun _ => ⟨0, E5, m5, fun _ => hQ, fun z => absurd rfl z⟩⟩
      · refine ⟨0, E4, fun kz Q hQ => go kz Q (go3 kz Q (fun H h => ?_)), hf4, j4, Or.inr ⟨rfl, rwz_2 x2 (fun q => t1 q.1)⟩⟩
        have eH : H = E4 := h
        rw [eH, y4]
        exact ⟨fun _ => hQ, fun z => absurd t2 z⟩
    · subst x1
      exact ⟨0, E2, fun kz Q hQ => go kz Q (X12_rewrites_106 hM ⟨0, E2, m2, fun z => absurd rfl z, fun _ => hQ⟩), fz_mono hf2 (by simp), fun i _ => by rw [hf2 50 (by simp)], Or.inr ⟨rfl, rwz_0 x2⟩⟩
  · have hno : rwz (E 53) (E 54) p o w = none := by
      refine rwz_0 ?_
      cases hq : p with
      | nil => rw [hq] at pp; simp at pp
      | cons a pa =>
        rw [hq, fw_c0] at hh
        simp only [mt]
        rw [if_pos (by omega), if_neg (fun e => hh (Or.inr e.symm))]
    refine ⟨0, E1, fun kz Q hQ => X12_rewrites_62 hM ⟨zin_of (by omega) (by omega), zin_of (by omega) (by omega), E1, m1, ?_⟩, fz_mono f1 (by simp), fun i _ => by rw [g1 50 (by decide)], Or.inr ⟨rfl, hno⟩⟩
    rw [g1 58 (by decide), g1 72 (by decide), hp0, hw0]
    exact ⟨⟨by omega, by omega⟩, fun z => absurd (Or.inl z) hh, fun _ => ⟨⟨by omega, by omega⟩, ⟨by omega, by omega⟩, fun z => absurd (Or.inr z) hh, fun _ => hQ⟩⟩
end QI
