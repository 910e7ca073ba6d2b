/-! ===== given: the class's side; both ===== -/
/-- how many numbers a step of each kind has; behind them stands 0 -/
def nbr (k : Int) : Int := if k = 1 ∨ k = 2 then 3 else if k = 3 then 1 else if k = 4 then 6 else 0
def nmk (c : List Int) : Prop := ∀ i : Nat, i < 7 → nbr (c.getD 0 0) < (i : Int) → c.getD i 0 = 0
def nmS (s : zS) : Prop := ∀ c : Nat, c < sK s → nmk (sN s c)
theorem nmk_1 {k a b c : Int} (hk : k = 1 ∨ k = 2) : nmk [k, a, b, c, 0, 0, 0] := fun i hi h => by
  have e : nbr ([k, a, b, c, 0, 0, 0].getD 0 0) = 3 := if_pos hk
  rw [e] at h
  have : i = 4 ∨ i = 5 ∨ i = 6 := by omega
  rcases this with e | e | e <;> subst e <;> rfl
theorem nmk_3 {a : Int} : nmk [3, a, 0, 0, 0, 0, 0] := fun i hi h => by
  have e : nbr ([3, a, 0, 0, 0, 0, 0].getD 0 0) = 1 := rfl
  rw [e] at h
  have : i = 2 ∨ i = 3 ∨ i = 4 ∨ i = 5 ∨ i = 6 := by omega
  rcases this with e | e | e | e | e <;> subst e <;> rfl
theorem nmk_4 {a b c d e f : Int} : nmk [4, a, b, c, d, e, f] := fun i hi h => by
  have e : nbr ([4, a, b, c, d, e, f].getD 0 0) = 6 := rfl
  rw [e] at h
  omega
theorem nmk_0 : nmk z7 := fun i hi h => by
  have : i = 0 ∨ i = 1 ∨ i = 2 ∨ i = 3 ∨ i = 4 ∨ i = 5 ∨ i = 6 := by omega
  rcases this with e | e | e | e | e | e | e <;> subst e <;> rfl
theorem ED_nm {P W : Int → Int} {s s' : zS} {c : List Int} {A S : List zLt} {r : Int} (hc : nmk c) (hs : nmS s) (h : ED P W s c A S s' r) : nmS s' := by
  obtain ⟨x, B, t, n, _, _, _, f4⟩ := h
  rcases f4 with ⟨_, _, e⟩ | ⟨_, _, _, e⟩ | ⟨_, _, _, e⟩
  · subst e; exact hs
  · subst e; exact hs
  · subst e
    intro k hk
    have hk' : k < sK s + 1 := hk
    show nmk (zup (sN s) (sK s) c k)
    by_cases e : k = sK s
    · rw [e, zup_s]; exact hc
    · rw [zup_n e]; exact hs k (by omega)
theorem TR_nm {P W : Int → Int} {fu : Int} {s s' : zS} {c : List Int} (hc : nmk c) (hs : nmS s) (h : TR P W fu s c s') : nmS s' := by
  obtain ⟨r, _, a2⟩ := h
  rcases a2 with ⟨_, e⟩ | ⟨_, _, e⟩ | ⟨_, _, e⟩ | ⟨A, v, _, _, e⟩
  · rw [e]; exact hs
  · rw [e]; exact hs
  · rw [e]; exact hs
  · exact ED_nm hc (s := (sK s, sR s, sT s, sB s, sN s, sW s, sS s, sAo s, sLo s, sMa s + 1, sRw s, sEn s)) hs e
section SDN
variable {P W : Int → Int} {fu : Int}
theorem RT_nm {it a : Nat} : ∀ {L : List (List Int)} {s s1 : zS}, (∀ c, c ∈ L → nmk c) → nmS s → RT P W fu it a L s s1 → nmS s1
  | [], s, s1, _, o, h => by
    have e : s1 = s := h
    rw [e]
    exact o
  | c :: L, s, s1, hl, o, h => by
    rcases h with ⟨q, t, h1, h2⟩ | ⟨q, h1⟩
    · exact RT_nm (fun x hx => hl x (List.mem_cons_of_mem _ hx)) (TR_nm (hl c List.mem_cons_self) o h1) h2
    · rw [h1]; exact o
theorem clL_nm {p n : Nat} : ∀ (m i : Nat) (c : List Int), c ∈ clL p n m i → nmk c
  | 0, _, c, h => by simp [clL] at h
  | m + 1, i, c, h => by
    rcases List.mem_cons.mp h with e | e
    · rw [e]; exact nmk_1 (Or.inl rfl)
    · exact clL_nm m (i + 1) c e
theorem tuP_nm {p n i s j : Nat} : ∀ (m pl : Nat) (c : List Int), c ∈ tuP p n i s j m pl → nmk c
  | 0, _, c, h => by simp [tuP] at h
  | m + 1, pl, c, h => by
    rcases List.mem_cons.mp h with e | e
    · rw [e]; exact nmk_4
    · exact tuP_nm m (pl + 1) c e
theorem tuJ_nm {p n : Nat} {B : List zLt} {i s : Nat} : ∀ (m j : Nat) (c : List Int), c ∈ tuJ p n B i s m j → nmk c
  | 0, _, c, h => by simp [tuJ] at h
  | m + 1, j, c, h => by
    rcases List.mem_append.mp h with e | e
    · exact tuP_nm _ _ c e
    · exact tuJ_nm m (j + 1) c e
theorem tuW_nm {p n : Nat} {B : List zLt} {i : Nat} : ∀ (m s : Nat) (c : List Int), c ∈ tuW p n B i m s → nmk c
  | 0, _, c, h => by simp [tuW] at h
  | m + 1, s, c, h => by
    rcases List.mem_append.mp h with e | e
    · exact tuJ_nm _ _ c e
    · exact tuW_nm m (s + 1) c e
theorem tuI_nm {p n : Nat} {B : List zLt} : ∀ (m i : Nat) (c : List Int), c ∈ tuI p n B m i → nmk c
  | 0, _, c, h => by simp [tuI] at h
  | m + 1, i, c, h => by
    rcases List.mem_append.mp h with e | e
    · exact tuW_nm _ _ c e
    · exact tuI_nm m (i + 1) c e
theorem faJ_nm {p i : Nat} : ∀ (m j : Nat) (c : List Int), c ∈ faJ p i m j → nmk c
  | 0, _, c, h => by simp [faJ] at h
  | m + 1, j, c, h => by
    rcases List.mem_cons.mp h with e | e
    · rw [e]; exact nmk_1 (Or.inr rfl)
    · exact faJ_nm m (j + 1) c e
theorem faI_nm {p n : Nat} : ∀ (m i : Nat) (c : List Int), c ∈ faI p n m i → nmk c
  | 0, _, c, h => by simp [faI] at h
  | m + 1, i, c, h => by
    rcases List.mem_append.mp h with e | e
    · exact faJ_nm _ _ c e
    · exact faI_nm m (i + 1) c e
theorem prL_nm {R : Nat → List zLt} {it a : Nat} : ∀ c, c ∈ prL R it a → nmk c := fun c h => by
  unfold prL at h
  rcases List.mem_append.mp h with e | e
  · exact clL_nm _ _ c e
  · rcases List.mem_append.mp e with e | e
    · by_cases q : a = it
      · rw [if_pos q] at e; simp at e
      · rw [if_neg q] at e; exact clL_nm _ _ c e
    · rcases List.mem_append.mp e with e | e
      · exact tuI_nm _ _ c e
      · by_cases q : a = it
        · rw [if_pos q] at e; simp at e
        · rw [if_neg q] at e; exact tuI_nm _ _ c e
theorem lsL_nm {R : Nat → List zLt} {it : Nat} : ∀ c, c ∈ lsL R it → nmk c := fun c h => by
  unfold lsL at h
  rcases List.mem_append.mp h with e | e
  · exact faI_nm _ _ c e
  · have e' : c = [3, (it : Int), 0, 0, 0, 0, 0] := by simpa using e
    rw [e']; exact nmk_3
theorem WA_nm {it : Nat} : ∀ {m a : Nat} {s s1 : zS}, nmS s → WA P W fu it m a s s1 → nmS s1
  | 0, a, s, s1, o, h => by
    have e : s1 = s := h
    rw [e]; exact o
  | m + 1, a, s, s1, o, h => by
    rcases h with ⟨g, ⟨t, u, r1, r2⟩ | ⟨t, r2⟩⟩ | ⟨g, r1⟩
    · exact WA_nm (RT_nm prL_nm o r1) r2
    · exact WA_nm o r2
    · rw [r1]; exact o
theorem RN_nm {tu : Int} : ∀ {m : Nat} {s s1 : zS} {p p1 : Int}, nmS s → RN P W fu tu m s p s1 p1 → nmS s1
  | 0, s, s1, p, p1, o, h => by rw [h.1]; exact o
  | m + 1, s, s1, p, p1, o, h => by
    rcases h with ⟨a, b, c⟩ | ⟨a, b, c, e⟩ | ⟨a, it, b, c, u, w, r⟩
    · rw [b]; exact o
    · rw [c]; exact o
    · obtain ⟨s2, w1, w2⟩ := w
      exact RN_nm (RT_nm lsL_nm (WA_nm (s := sAct s it) o w1) w2) r
end SDN
theorem ED_ok {P W : Int → Int} {g : Nat} {s s' : zS} {c : List Int} {A S : List zLt} {r : Int} (hs : okS g s) (h0 : sEn s = 0) (h : ED P W s c A S s' r) : okS (g + 1) s' := by
  obtain ⟨o1, o2, o3, o4, o5, o6, o7, o8⟩ := hs
  obtain ⟨x, B, t, n, f1, f2, f3, f4⟩ := h
  have k150 := o2 h0
  have eg : ((g + 1 : Nat) : Int) = (g : Int) + 1 := by omega
  rcases f4 with ⟨_, _, e⟩ | ⟨_, _, _, e⟩ | ⟨_, _, _, e⟩
  · subst e
    exact ⟨o1, o2, o3, ⟨by show 0 ≤ sRw s + n; omega, by show sRw s + n ≤ _; omega⟩, by show 0 ≤ sLo s + 1; omega, o6, by show sLo s + 1 + sAo s ≤ sMa s + ((g + 1 : Nat) : Int); omega, o8⟩
  · subst e
    exact ⟨o1, o2, o3, ⟨by show 0 ≤ sRw s + n; omega, by show sRw s + n ≤ _; omega⟩, o5, by show 0 ≤ sAo s + 1; omega, by show sLo s + (sAo s + 1) ≤ sMa s + ((g + 1 : Nat) : Int); omega, o8⟩
  · subst e
    refine ⟨by show sK s + 1 ≤ 150; omega, fun z => ?_, o3, ⟨by show 0 ≤ sRw s + n; omega, by show sRw s + n ≤ _; omega⟩, o5, o6, by show sLo s + sAo s ≤ sMa s + ((g + 1 : Nat) : Int); omega, ?_⟩
    · show sK s + 1 < 150
      have z' : (if B.length = 0 then (1 : Int) else if sK s + 1 = 150 then 3 else sEn s) = 0 := z
      by_cases b0 : B.length = 0
      · rw [if_pos b0] at z'; omega
      · rw [if_neg b0] at z'
        by_cases b1 : sK s + 1 = 150
        · rw [if_pos b1] at z'; omega
        · omega
    · show 0 ≤ (if B.length = 0 then (1 : Int) else if sK s + 1 = 150 then 3 else sEn s) ∧ (if B.length = 0 then (1 : Int) else if sK s + 1 = 150 then 3 else sEn s) ≤ 3
      split
      · omega
      · split <;> omega
/-- what the class's given may change below 200 -/
def gC : List Nat := [0, 5, 9, 10, 11, 12, 13, 14, 15, 16, 17, 18, 19, 20, 21, 22, 23, 27, 28, 29, 30, 31, 32, 34, 35, 36, 37, 38, 39, 40, 43]
section TC
variable {d : List Nat} {G : Nat → Int → Option Nat} {E : Nat → Int → Int}
theorem givenC_ok {s : zS} {g : Nat} {A : List zLt} (hs : CIv d G E s) (ho : okS g s) (hg6 : g ≤ 600) (h0 : sEn s = 0) (hP : pok (E 3)) (hW : wok (E 4)) (h2 : E 3 0 = 2) (hN : E 1 3 ≤ 16) (hD : 0 ≤ E 0 12 ∧ E 0 12 ≤ 200) (hl : ∀ j : Int, 0 ≤ j → j < E 0 12 → -20 ≤ E 9 j ∧ E 9 j ≤ 3000) (hr : rD (E 3) (E 2) (E 9) (E 1 3) (E 0 12) 7 [] 0 = (-1, A)) (gA : gok (E 3) (E 4) A) :
    ∃ (r : Int) (d' : List Nat) (G' : Nat → Int → Option Nat) (E' : Nat → Int → Int) (s' : zS), zM zm_X11_given [zR 0] (d, G, E) (some (zI r)) (d', G', E') ∧ d.length ≤ d'.length ∧ zsl d ≤ zsl d' ∧ (ndp d → ndp d') ∧ (∀ y : Nat, y < 200 → y ∉ gC → E' y = E y) ∧ (∀ i : Int, i < 15 → i ≠ 12 → E' 0 i = E 0 i) ∧ E' 0 12 = 0 ∧ E' 0 16 = E 0 16 ∧ CIv d' G' E' s' ∧ ED (E 3) (E 4) s z7 A A s' r := by
  obtain ⟨⟨M, hC⟩, e17, e18, e19, e20, e15, hI, h19, hX, hM⟩ := hs
  obtain ⟨o1, o2, o3, o4, o5, o6, o7, o8⟩ := ho
  have k150 := o2 h0
  obtain ⟨F, m1, f1, r1⟩ := readDraft_ok (E := E) (d := d) (G := G) hX hP hN hD.2 hl
  rw [hr] at m1 r1
  have rA : rowC F 10 A := r1 rfl
  let F1 := zuE F 0 12 0
  have rA1 : rowC F1 10 A := rowC_fz rA (S := [0]) (fz_put fz_rfl (by simp)) (by simp) (by simp) (by simp) (by simp)
  obtain ⟨F2, m2, rS, f2, _⟩ := copy_ok (E := F1) (d := d) (G := G) (r := 14) (s := 10) (A := A) hX (zXr14 hX) (zXr10 hX) (Or.inr (by decide)) rA1
  obtain ⟨F3, m3, f3, v3⟩ := fill_ok (E := F2) (d := d) (G := G) (a := 43) (n := 7) (v := 0) (zX_42_2 hX).2.2 rfl (by decide)
  have ma : zM zm_X0_asGiven [zR 42] (d, G, F2) (some (zR 43)) (d, G, F3) := zM_e rfl (Nat.le_of_ble_eq_true rfl) (fun kz Q hQ => X0_asGiven_0 hX ⟨F3, m3, hQ⟩)
  have ft : fz [0, 9, 10, 11, 12, 13, 14, 15, 16, 17, 43] E F3 := fz_trans (fz_mono f1 (by simp)) (fz_trans (E1 := F1) (fz_put fz_rfl (by simp)) (fz_trans (fz_mono f2 (by simp)) (fz_mono f3 (by simp))))
  have p0 : ∀ i : Int, i ≠ 12 → F3 0 i = E 0 i := fun i hi => by
    rw [f3 0 (by simp), f2 0 (by simp)]
    exact (zuE_ix hi).trans (by rw [f1 0 (by simp)])
  have p12 : F3 0 12 = 0 := by
    rw [f3 0 (by simp), f2 0 (by simp)]
    exact zuE_same
  have c3 : F3 3 = E 3 := ft 3 (by simp)
  have c4 : F3 4 = E 4 := ft 4 (by simp)
  have rA3 : rowC F3 10 A := rowC_fz (rowC_fz rA1 f2 (by simp) (by simp) (by simp) (by simp)) f3 (by simp) (by simp) (by simp) (by simp)
  have rS3 : rowC F3 14 A := rowC_fz rS f3 (by simp) (by simp) (by simp) (by simp)
  have C3 : CI d G F3 (E 3) (E 4) M (sK s) (sR s) (sT s) (sB s) (sN s) (sW s) (sS s) := CI_fz hC ft (by simp) (by rw [ft 5 (by simp)])
  have I3 : stI F3 := by
    unfold stI at *
    rw [ft 20 (by simp), ft 22 (by simp), ft 23 (by simp)]; exact hI
  have z3 : ∀ L : Int, 0 ≤ L → L < 40 → F3 19 L = 0 := by rw [ft 19 (by simp)]; exact h19
  have q17 : F3 0 17 = sAo s := (p0 17 (by decide)).trans e17
  have q18 : F3 0 18 = sLo s := (p0 18 (by decide)).trans e18
  have q19 : F3 0 19 = sMa s := (p0 19 (by decide)).trans e19
  have q20 : F3 0 20 = sRw s := (p0 20 (by decide)).trans e20
  have q15 : F3 0 15 = sEn s := (p0 15 (by decide)).trans e15
  have st := settle_ok (E := F3) (d := d) (G := G) (M := M) (K := sK s) (k := 0) (A := A) (S := A) (nw := z7) hX hM (by rw [c3, c4]; exact C3) k150 (by rw [c3]; exact hP) (by rw [c4]; exact hW) (by rw [c3]; exact h2) z3 I3 rA3 (by rw [c3, c4]; exact gA) rfl (fun i hi => by
    rw [v3 i (by omega) (by omega)]
    have : i = 0 ∨ i = 1 ∨ i = 2 ∨ i = 3 ∨ i = 4 ∨ i = 5 ∨ i = 6 := by omega
    rcases this with e | e | e | e | e | e | e <;> subst e <;> rfl) (v3 0 (by decide) (by decide)) (by decide) (fun _ => ⟨rS3, by rw [c3, c4]; exact gA⟩) (by rw [q17]; omega) (by rw [q18]; omega) (by rw [q20]; omega)
  rw [c3, c4, q17, q18, q20, q15] at st
  obtain ⟨rr, xx, B, t, n, d', G', E', M', ms, u1, u2, u3, ll, sl, sub, X', Mm', I', z', fr', o', u20, gg, hcase⟩ := st
  have w3 : E' 3 = E 3 := (fr' 3 (by decide) (by decide) (by decide) (by simp [tls])).trans c3
  have w4 : E' 4 = E 4 := (fr' 4 (by decide) (by decide) (by decide) (by simp [tls])).trans c4
  have w19 : E' 0 19 = sMa s := (o' 19 (by decide) (by decide) (by decide) (by decide)).trans q19
  have key : ∃ s' : zS, CIv d' G' E' s' ∧ ED (E 3) (E 4) s z7 A A s' rr := by
    rcases hcase with ⟨g1, g2, g3, g4, g5, g6⟩ | ⟨g1, g2, g3, g4, g5, g6, g7⟩ | ⟨g1, g2, g3, g4, g5, g6, g7, g8⟩
    · exact ⟨(sK s, sR s, sT s, sB s, sN s, sW s, sS s, sAo s, sLo s + 1, sMa s, sRw s + n, sEn s), ⟨⟨M', by rw [w3, w4]; exact g6⟩, g4, g3, w19, u20, g5, I', z', X', Mm'⟩, xx, B, t, n, u1, u2, u3, Or.inl ⟨g1, g2, rfl⟩⟩
    · exact ⟨(sK s, sR s, sT s, sB s, sN s, sW s, sS s, sAo s + 1, sLo s, sMa s, sRw s + n, sEn s), ⟨⟨M', by rw [w3, w4]; exact g7⟩, g5, g4, w19, u20, g6, I', z', X', Mm'⟩, xx, B, t, n, u1, u2, u3, Or.inr (Or.inl ⟨g1, g2, g3, rfl⟩)⟩
    · exact ⟨(sK s + 1, zup (sR s) (sK s) B, zup (pst (E 3) (sR s) (sT s) B) (sK s) 0, zup (pby (E 3) (sR s) (sT s) (sB s) B (sK s)) (sK s) (-1), zup (sN s) (sK s) z7, zup (sW s) (sK s) t, zup (sS s) (sK s) A, sAo s, sLo s, sMa s, sRw s + n, if B.length = 0 then 1 else if sK s + 1 = 150 then 3 else sEn s), ⟨⟨M', by rw [w3, w4]; exact g8⟩, g5, g4, w19, u20, g6, I', z', X', Mm'⟩, xx, B, t, n, u1, u2, u3, Or.inr (Or.inr ⟨g1, g2, g3, rfl⟩)⟩
  obtain ⟨s', k1, k2⟩ := key
  refine ⟨rr, d', G', E', s', zM_of rfl (Nat.le_of_ble_eq_true rfl) ⟨ll, sl⟩ (X11_given_0 hX ⟨fun _ => ⟨fun _ => ⟨-1, F, m1, fun H h => ⟨fun _ => ⟨F2, ?_, some 43, F3, ma, rr, d', G', E', ms, Or.inr ⟨Nat.le_refl _, Nat.le_refl _⟩, X', rfl, rfl⟩, fun y => absurd rfl y⟩⟩, fun y => absurd (by rw [hC.2.2.1]; omega) y⟩, fun y => absurd (by rw [e15]; exact h0) y⟩), ll, sl, sub.2, fun y y1 y2 => ?_, fun i i1 i2 => ?_, ?_, ?_, k1, k2⟩
  · have eH : H = F1 := h
    rw [eH]; exact m2
  · have y3 : y ≠ 0 ∧ y ≠ 5 ∧ y ∉ tls ∧ y ∉ [0, 9, 10, 11, 12, 13, 14, 15, 16, 17, 43] := by
      simp only [gC, tls, List.mem_cons, List.not_mem_nil, or_false] at *
      omega
    exact (fr' y y1 y3.1 y3.2.1 y3.2.2.1).trans (ft y y3.2.2.2)
  · exact (o' i (by omega) (by omega) (by omega) (by omega)).trans (p0 i i2)
  · exact (o' 12 (by decide) (by decide) (by decide) (by decide)).trans p12
  · exact (o' 16 (by decide) (by decide) (by decide) (by decide)).trans (p0 16 (by decide))
theorem JI_given {s : zS} {g : Nat} (h : JI d G E s g) (hg : g < 600) :
    ∃ (r : Int) (d' : List Nat) (G' : Nat → Int → Option Nat) (E1 E2 : Nat → Int → Int) (s' : zS), zM zm_X11_given [zR 0] (d, G, E) (some (zI r)) (d', G', E1) ∧ zM zm_X12_given [zR 50] (d', G', E1) (some (zI r)) (d', G', E2) ∧ sc E E1 ∧ sc E E2 ∧ d.length ≤ d'.length ∧ zsl d ≤ zsl d' ∧ JI d' G' E2 s' (g + 1) ∧ (nmS s → nmS s') ∧ (ndp d → ndp d') := by
  have up := JI_up h
  obtain ⟨hc, hm, ho, ⟨q52, q53, q54⟩, q0, ⟨q4, d0, d2, dd⟩, ⟨q57, t0, t2⟩, ⟨q58, f0, f2⟩, ⟨q55, p0, p2⟩, sg⟩ := h
  have hX : zK zXt d G := hc.2.2.2.2.2.2.2.2.1
  have hM : zK zMt d G := hc.2.2.2.2.2.2.2.2.2
  have e15 : E 0 15 = sEn s := hc.2.2.2.2.2.1
  have e54 : E 50 54 = sEn s := hm.2.2.2.2.2.1
  by_cases h0 : sEn s = 0
  case neg =>
    exact ⟨-3, d, G, E, E, s, zM_e rfl (Nat.le_of_ble_eq_true rfl) (fun kz Q hQ => X11_given_0 hX ⟨fun y => absurd (by rw [← e15]; exact y) h0, fun _ => hQ⟩), zM_e rfl (Nat.le_of_ble_eq_true rfl) (fun kz Q hQ => X12_given_0 hM ⟨fun y => absurd (by rw [← e54]; exact y) h0, fun _ => hQ⟩), sc_r, sc_r, Nat.le_refl _, Nat.le_refl _, up, id, id⟩
  have k150 := ho.2.1 h0
  obtain ⟨hP, hW, h2, hub, hn, hs0, hsw⟩ := sg
  have hl : ∀ j : Int, 0 ≤ j → j < E 0 12 → -20 ≤ E 9 j ∧ E 9 j ≤ 3000 := fun j j0 j1 => (dd j j0 j1).2
  have rk := rD_ok (P := E 3) (W := E 4) (S := E 2) (f := E 9) (N := E 1 3) (D := E 0 12) hP hn.2 hsw (fun j j0 j1 => (hl j j0 j1).1) 7 [] 0 (by decide) ⟨fun l hl => by simp at hl, fun v hv => by obtain ⟨y, y1, _⟩ := hv; simp at y1⟩
  have rc : rD (E 3) (E 2) (E 56) (E 1 3) (E 0 12) 7 [] 0 = rD (E 3) (E 2) (E 9) (E 1 3) (E 0 12) 7 [] 0 := rD_congr (fun j j0 j1 => (dd j j0 j1).1) 7 [] 0 (by decide)
  by_cases cx : (rD (E 3) (E 2) (E 9) (E 1 3) (E 0 12) 7 [] 0).1 = -1
  case pos =>
    have gA := rk.1 cx
    generalize hr : rD (E 3) (E 2) (E 9) (E 1 3) (E 0 12) 7 [] 0 = rr at *
    obtain ⟨x, A⟩ := rr
    have ex : x = -1 := cx
    subst ex
    obtain ⟨r, d', G', E1, s1, m1, l1, l2, ln, k1, k0, k12, k16, c1, ed1⟩ := givenC_ok (E := E) (g := g) hc ho (by omega) h0 hP hW h2 hn.2 ⟨d0, d2⟩ hl hr gA
    have hM' : zK zMt d' G' := c1.2.2.2.2.2.2.2.2.2
    have k50 : ∀ y : Nat, 50 ≤ y → y < 200 → E1 y = E y := fun y y1 y2 => k1 y y2 (by simp only [gC, List.mem_cons, List.not_mem_nil, or_false]; omega)
    have a50 : E1 50 = E 50 := k50 50 (by decide) (by decide)
    have a52 : E1 52 = E 2 := (k50 52 (by decide) (by decide)).trans q52
    have a53 : E1 53 = E 3 := (k50 53 (by decide) (by decide)).trans q53
    have a54 : E1 54 = E 4 := (k50 54 (by decide) (by decide)).trans q54
    have a56 : E1 56 = E 56 := k50 56 (by decide) (by decide)
    have m0 := MIv_k hm k50
    obtain ⟨r', E2, s2, m2, f2', z0, z4, z55, z57, z58, c2, ed2⟩ := givenM_ok (E := E1) (d := d') (G := G') (s := s) (g := g) (A := A) hM' m0 ho (by omega) h0 (by rw [a53]; exact hP) (by rw [a54]; exact hW) (by rw [a53]; exact h2) (by rw [a50, q0]; omega) (by rw [a52, hs0]; decide) (by rw [a50, q4]; exact ⟨d0, d2⟩) (by rw [a50, q4, a56]; exact fun j j0 j1 => by rw [(dd j j0 j1).1]; exact hl j j0 j1) (by rw [a53, a52, a56, a50, q0, q4]; exact rc) (by rw [a53, a54]; exact gA)
    rw [a53, a54] at ed2
    obtain ⟨es, er⟩ := ED_det ed1 ed2
    subst es; subst er
    have lo : ∀ y : Nat, y < 50 → E2 y = E1 y := fun y hy => f2' y (by simp only [gS, List.mem_cons, List.not_mem_nil, or_false]; omega)
    have b1 : ∀ y : Nat, y < 50 → y ∉ gC → E2 y = E y := fun y hy hc => (lo y hy).trans (k1 y (by omega) hc)
    have b0 : E2 0 = E1 0 := lo 0 (by decide)
    have x1 : E2 1 = E 1 := b1 1 (by decide) (by simp [gC])
    have x2 : E2 2 = E 2 := b1 2 (by decide) (by simp [gC])
    have x3 : E2 3 = E 3 := b1 3 (by decide) (by simp [gC])
    have x4 : E2 4 = E 4 := b1 4 (by decide) (by simp [gC])
    have b12 : E2 0 12 = 0 := by rw [b0]; exact k12
    have b13 : E2 0 13 = E 0 13 := by rw [b0]; exact k0 13 (by decide) (by decide)
    have b14 : E2 0 14 = E 0 14 := by rw [b0]; exact k0 14 (by decide) (by decide)
    have b16 : E2 0 16 = E 0 16 := by rw [b0]; exact k16
    have y52 : E2 52 = E 2 := (f2' 52 (by simp [gS])).trans a52
    have y53 : E2 53 = E 3 := (f2' 53 (by simp [gS])).trans a53
    have y54 : E2 54 = E 4 := (f2' 54 (by simp [gS])).trans a54
    refine ⟨r, d', G', E1, E2, s1, m1, m2, ⟨k50 193 (by decide) (by decide), k50 194 (by decide) (by decide)⟩, sc_t (F := E1) ⟨k50 193 (by decide) (by decide), k50 194 (by decide) (by decide)⟩ (sc_f f2' (by simp [gS]) (by simp [gS])), l1, l2, ⟨CIv_m c1 f2' (by simp [gS]), c2, ED_ok ho h0 ed1, ⟨by rw [y52, x2], by rw [y53, x3], by rw [y54, x4]⟩, ?_, ⟨by rw [z4, b12], by rw [b12]; decide, by rw [b12]; decide, fun i i0 i1 => by rw [b12] at i1; omega⟩, ⟨by rw [z57, a50, b13]; exact q57, by rw [b13]; exact t0, by rw [b13]; exact t2⟩, ⟨by rw [z58, a50, b14]; exact q58, by rw [b14]; exact f0, by rw [b14]; exact f2⟩, ⟨by rw [z55, a50, b16]; exact q55, by rw [b16]; exact p0, by rw [b16]; omega⟩, ?_⟩, fun hs => ED_nm nmk_0 hs ed1, ln⟩
    · rw [z0, a50, x1]; exact q0
    · unfold sgs
      rw [x1, x2, x3, x4]
      exact ⟨hP, hW, h2, hub, hn, hs0, hsw⟩
  case neg =>
    obtain ⟨F, m1, f1, _⟩ := readDraft_ok (E := E) (d := d) (G := G) hX hP hn.2 d2 hl
    have rk2 := rk.2.1
    have rk3 := rk.2.2 d0
    generalize hr : (rD (E 3) (E 2) (E 9) (E 1 3) (E 0 12) 7 [] 0).1 = x at *
    let E1 := zuE F 0 12 0
    have fa : fz [0, 9, 10, 11, 12, 13] E E1 := fz_put (fz_mono f1 (by simp)) (by simp)
    have pa : ∀ i : Int, i ≠ 12 → E1 0 i = E 0 i := fun i hi => (zuE_ix hi).trans (by rw [f1 0 (by simp)])
    have pa12 : E1 0 12 = 0 := zuE_same
    have cF : CIv d G F s := CIv_fz hc f1 (by simp) (by
      have hI := hc.2.2.2.2.2.2.1
      unfold stI at *
      rw [f1 20 (by simp), f1 22 (by simp), f1 23 (by simp)]; exact hI) (by rw [f1 19 (by simp)]; exact hc.2.2.2.2.2.2.2.1)
    have c1 : CIv d G E1 s := CIv_0 cF (Or.inl (by decide))
    have k50 : ∀ y : Nat, 50 ≤ y → y < 200 → E1 y = E y := fun y y1 y2 => fa y (by simp only [List.mem_cons, List.not_mem_nil, or_false]; omega)
    have a50 : E1 50 = E 50 := k50 50 (by decide) (by decide)
    have a52 : E1 52 = E 2 := (k50 52 (by decide) (by decide)).trans q52
    have a53 : E1 53 = E 3 := (k50 53 (by decide) (by decide)).trans q53
    have a54 : E1 54 = E 4 := (k50 54 (by decide) (by decide)).trans q54
    have a56 : E1 56 = E 56 := k50 56 (by decide) (by decide)
    have m0 := MIv_k hm k50
    obtain ⟨F2, m2, f2', j2, j56, _⟩ := reads_ok (E := E1) (d := d) (G := G) hM (by rw [a53]; exact hP) (by rw [a50, q0]; omega) (by rw [a52, hs0]; decide) (by rw [a50, q4]; exact d2) (by rw [a50, q4, a56]; exact fun j j0 j1 => by rw [(dd j j0 j1).1]; exact hl j j0 j1)
    rw [a53, a52, a56, a50, q0, q4, rc, hr, if_neg cx] at m2
    rw [a53, a52, a56, a50, q0, q4, rc, hr] at j56
    let E2 := zuE F2 50 4 0
    have fb : fz [50, 72, 73, 74] E1 E2 := fz_put f2' (by simp)
    have pb : ∀ i : Int, i ≠ 4 → i ≠ 24 → i ≠ 56 → E2 50 i = E 50 i := fun i i1 i2 i3 => (zuE_ix i1).trans ((j2 i i2 i3).trans (by rw [a50]))
    have e56 : E2 50 56 = x := (zuE_ix (by decide)).trans j56
    have pb4 : E2 50 4 = 0 := zuE_same
    have c2 : CIv d G E2 s := CIv_m c1 fb (by simp)
    have mv : MIv E2 s := by
      obtain ⟨hC, x44, x43, x45, x42, x54, xlo⟩ := m0
      refine ⟨?_, ?_, ?_, ?_, ?_, ?_, by rw [fb 58 (by simp)]; exact xlo⟩
      · rw [fb 53 (by simp), fb 54 (by simp)]
        exact MI_fz hC fb (by simp) (by rw [pb 6 (by decide) (by decide) (by decide), a50])
      · rw [pb 44 (by decide) (by decide) (by decide), ← a50]; exact x44
      · rw [pb 43 (by decide) (by decide) (by decide), ← a50]; exact x43
      · rw [pb 45 (by decide) (by decide) (by decide), ← a50]; exact x45
      · rw [pb 42 (by decide) (by decide) (by decide), ← a50]; exact x42
      · rw [pb 54 (by decide) (by decide) (by decide), ← a50]; exact x54
    have lo : ∀ y : Nat, y < 50 → E2 y = E1 y := fun y hy => fb y (by simp only [List.mem_cons, List.not_mem_nil, or_false]; omega)
    have x1 : E2 1 = E 1 := (lo 1 (by decide)).trans (fa 1 (by simp))
    have x2 : E2 2 = E 2 := (lo 2 (by decide)).trans (fa 2 (by simp))
    have x3 : E2 3 = E 3 := (lo 3 (by decide)).trans (fa 3 (by simp))
    have x4 : E2 4 = E 4 := (lo 4 (by decide)).trans (fa 4 (by simp))
    have b12 : E2 0 12 = 0 := by rw [lo 0 (by decide)]; exact pa12
    have b13 : E2 0 13 = E 0 13 := by rw [lo 0 (by decide)]; exact pa 13 (by decide)
    have b14 : E2 0 14 = E 0 14 := by rw [lo 0 (by decide)]; exact pa 14 (by decide)
    have b16 : E2 0 16 = E 0 16 := by rw [lo 0 (by decide)]; exact pa 16 (by decide)
    refine ⟨-100 - x, d, G, E1, E2, s, zM_e rfl (Nat.le_of_ble_eq_true rfl) (fun kz Q hQ => X11_given_0 hX ⟨fun _ => ⟨fun _ => ⟨x, F, m1, fun H h => ⟨fun y => absurd y cx, fun _ => ⟨zin_of (by omega) (by omega), by rw [h]; exact hQ⟩⟩⟩, fun y => absurd (by rw [hc.1.choose_spec.2.2.1]; omega) y⟩, fun y => absurd (by rw [e15]; exact h0) y⟩), zM_e rfl (Nat.le_of_ble_eq_true rfl) (fun kz Q hQ => X12_given_0 hM ⟨fun _ => ⟨fun _ => ⟨0, F2, m2, fun H h => ⟨fun y => absurd rfl y, fun _ => ?_⟩⟩, fun y => absurd (by rw [a50, hm.1.1]; omega) y⟩, fun y => absurd (by rw [a50, e54]; exact h0) y⟩), sc_f fa (by simp) (by simp), sc_t (F := E1) (sc_f fa (by simp) (by simp)) (sc_f fb (by simp) (by simp)), Nat.le_refl _, Nat.le_refl _, ⟨c2, mv, okS_g ho (by omega), ⟨?_, ?_, ?_⟩, ?_, ⟨by rw [pb4, b12], by rw [b12]; decide, by rw [b12]; decide, fun i i0 i1 => by rw [b12] at i1; omega⟩, ⟨by rw [pb 57 (by decide) (by decide) (by decide), b13]; exact q57, by rw [b13]; exact t0, by rw [b13]; exact t2⟩, ⟨by rw [pb 58 (by decide) (by decide) (by decide), b14]; exact q58, by rw [b14]; exact f0, by rw [b14]; exact f2⟩, ⟨by rw [pb 55 (by decide) (by decide) (by decide), b16]; exact q55, by rw [b16]; exact p0, by rw [b16]; omega⟩, ?_⟩, id, id⟩
    · have eH : H = E2 := h
      rw [eH, e56]
      exact ⟨zin_of (by omega) (by omega), hQ⟩
    · rw [fb 52 (by simp), a52, x2]
    · rw [fb 53 (by simp), a53, x3]
    · rw [fb 54 (by simp), a54, x4]
    · rw [pb 0 (by decide) (by decide) (by decide), x1]; exact q0
    · unfold sgs
      rw [x1, x2, x3, x4]
      exact ⟨hP, hW, h2, hub, hn, hs0, hsw⟩
end TC
