/-! ===== taking in: the class ===== -/
/-- rows that lie apart from the tools -/
def rz (r : Nat) : Prop := (9 < r ∧ r + 3 < 18) ∨ 43 < r
def kst : Nat → Nat
  | 0 => 0
  | m + 1 => 6 * (2 + kst m)
def cst (K : Nat) : Nat → Nat
  | 0 => 0
  | r + 1 => 2 + K + cst K r
theorem cst_le {K : Nat} : ∀ {r : Nat}, r ≤ 6 → cst K r ≤ 6 * (2 + K)
  | 0, _ => by simp [cst]
  | 1, _ => by simp [cst]; omega
  | 2, _ => by simp [cst]; omega
  | 3, _ => by simp [cst]; omega
  | 4, _ => by simp [cst]; omega
  | 5, _ => by simp [cst]; omega
  | 6, _ => by simp [cst]; omega
  | r + 7, h => by omega
theorem kst_le : ∀ {m : Nat}, m ≤ 6 → kst m ≤ 111972
  | 0, _ => by decide
  | 1, _ => by decide
  | 2, _ => by decide
  | 3, _ => by decide
  | 4, _ => by decide
  | 5, _ => by decide
  | 6, _ => by decide
  | m + 7, h => by omega
/-- letters of a claim -/
def low (A : List zLt) : Prop := ∀ l : Nat, l < A.length → ∀ v, v ∈ (lit A l).2 → -20 ≤ v
section PY
variable {d : List Nat} {G : Nat → Int → Option Nat} {E : Nat → Int → Int}
theorem takes_go {r1 r2 : Nat} {C D : List zLt} (hX : zK zXt d G) (hr1 : zRk d G r1) (hr2 : zRk d G r2) (hz1 : rz r1) (hz2 : rz r2) (hP : pok (E 3)) (hC : rowC E r1 C) (hD : rowC E r2 D) (aC : aok (E 3) C) (aD : aok (E 3) D) (lC : low C) : ∀ (C' pre : List zLt) (b : zBd) (F : Nat → Int → Int) (v4 : Int), C = pre ++ C' → F 34 pre.length = 0 → F 35 pre.length = b.length → bdC F (E 3) (r2 + 1) 180 b → fz [20, 22, 23, 34, 35] E F → 0 ≤ v4 → v4 + kst C'.length ≤ 999999 →
    (∃ E' : Nat → Int → Int, zgo zm_X10_takes 54 [(0, zR 33), (1, zR r1), (2, zR r2), (3, zI (pre.length : Int)), (4, zI v4)] [] (d, G, F) (some (zI 1)) (d, G, E') ∧ fz [20, 22, 23, 34, 35] E E' ∧ stI E' ∧ tk (E 3) D C' b) ∨
    (∃ (F' : Nat → Int → Int) (v4' : Int), C' ≠ [] ∧ ¬ tk (E 3) D C' b ∧ 0 ≤ v4' ∧ v4' ≤ v4 + kst C'.length ∧ F' 34 pre.length = D.length ∧ bdC F' (E 3) (r2 + 1) 180 b ∧ fz [20, 22, 23, 34, 35] E F' ∧ (∀ k : Int, k < pre.length → F' 34 k = F 34 k ∧ F' 35 k = F 35 k) ∧ ∀ kz Q, Z zm_X10_takes kz Q 54 [(0, zR 33), (1, zR r1), (2, zR r2), (3, zI (pre.length : Int)), (4, zI v4')] [] (d, G, F') → Z zm_X10_takes kz Q 54 [(0, zR 33), (1, zR r1), (2, zR r2), (3, zI (pre.length : Int)), (4, zI v4)] [] (d, G, F)) := by
  have c6 := hC.2.1
  have d6 := hD.2.1
  unfold rz at hz1 hz2
  intro C'
  induction C' with
  | nil =>
    intro pre b F v4 hpre h34 h35 hb hf v0 v1
    rw [List.append_nil] at hpre
    have s1 : F r1 3 = C.length := by rw [hf r1 (by simp; omega)]; exact hC.1
    refine Or.inl ⟨F, fun kz Q hQ => X10_takes_54 hX hr1 hr2 ⟨fun c => by simp [kst] at v1; omega, fun _ => ⟨fun _ => ⟨fun c => absurd (by rw [s1, hpre]) c, fun _ => hQ⟩, fun c => absurd (by rw [s1, hpre]; omega) c⟩⟩, hf, bdC_stI hb, trivial⟩
  | cons c C' ih =>
    intro pre b F0 v40 hpre h340 h350 hb0 hf0 v00 v10
    have lenC : C.length = pre.length + 1 + C'.length := by rw [hpre]; exact len_m
    have litc : lit C pre.length = c := by rw [hpre]; exact lit_m
    have hiC : pre.length < C.length := by omega
    have K1 := kst_le (m := C'.length) (by omega)
    have ek : kst (c :: C').length = 6 * (2 + kst C'.length) := rfl
    rw [ek] at v10 ⊢
    have inner : ∀ (r j : Nat) (F : Nat → Int → Int) (v4 : Int), j + r = D.length → F 34 pre.length = j → F 35 pre.length = b.length → bdC F (E 3) (r2 + 1) 180 b → fz [20, 22, 23, 34, 35] E F → 0 ≤ v4 → v4 + cst (kst C'.length) r ≤ 999999 →
        (∃ E' : Nat → Int → Int, zgo zm_X10_takes 54 [(0, zR 33), (1, zR r1), (2, zR r2), (3, zI (pre.length : Int)), (4, zI v4)] [] (d, G, F) (some (zI 1)) (d, G, E') ∧ fz [20, 22, 23, 34, 35] E E' ∧ stI E' ∧ tkf (E 3) D c C' b j) ∨
        (∃ (F' : Nat → Int → Int) (v4' : Int), ¬ tkf (E 3) D c C' b j ∧ 0 ≤ v4' ∧ v4' ≤ v4 + cst (kst C'.length) r ∧ F' 34 pre.length = D.length ∧ bdC F' (E 3) (r2 + 1) 180 b ∧ fz [20, 22, 23, 34, 35] E F' ∧ (∀ k : Int, k < pre.length → F' 34 k = F 34 k ∧ F' 35 k = F 35 k) ∧ ∀ kz Q, Z zm_X10_takes kz Q 54 [(0, zR 33), (1, zR r1), (2, zR r2), (3, zI (pre.length : Int)), (4, zI v4')] [] (d, G, F') → Z zm_X10_takes kz Q 54 [(0, zR 33), (1, zR r1), (2, zR r2), (3, zI (pre.length : Int)), (4, zI v4)] [] (d, G, F)) := by
      intro r
      induction r with
      | zero =>
        intro j F v4 hj h34 h35 hb hf v0 v1
        refine Or.inr ⟨F, v4, ?_, v0, by omega, by rw [h34]; omega, hb, hf, fun k _ => ⟨rfl, rfl⟩, fun kz Q K => K⟩
        rintro ⟨j', b', a1, a2, _⟩
        omega
      | succ r ihr =>
        intro j F v4 hj h34 h35 hb hf v0 v1
        simp only [cst] at v1
        have hjD : j < D.length := by omega
        let F1 := zuE F 34 pre.length ((j : Int) + 1)
        have hf1 : fz [20, 22, 23, 34, 35] E F1 := fz_put hf (by simp)
        have f1n : ∀ x : Nat, x ≠ 34 → F1 x = F x := fun x hx => zuE_nf hx
        have hb1 : bdC F1 (E 3) (r2 + 1) 180 b := bdC_fz hb (S := [34]) (fun x hx => f1n x (by simpa using hx)) (by simp) (by simp) (by simp) (by simp; omega)
        have s1 : F r1 3 = C.length := by rw [hf r1 (by simp; omega)]; exact hC.1
        have s2 : F r2 3 = D.length := by rw [hf r2 (by simp; omega)]; exact hD.1
        have g13 : F1 (r1 + 3) = E (r1 + 3) := hf1 _ (by simp; omega)
        have g23 : F1 (r2 + 3) = E (r2 + 3) := hf1 _ (by simp; omega)
        have g12 : F1 (r1 + 2) = E (r1 + 2) := hf1 _ (by simp; omega)
        have g22 : F1 (r2 + 2) = E (r2 + 2) := hf1 _ (by simp; omega)
        have g35 : F1 35 pre.length = b.length := by rw [f1n 35 (by decide)]; exact h35
        obtain ⟨dc, dc2, c30, _⟩ := hC.2.2.2 pre.length hiC
        obtain ⟨dd, dd2, d30, _⟩ := hD.2.2.2 j hjD
        rw [litc] at dc dc2 c30
        -- on to the next literal of d
        have next : ∀ (F2 : Nat → Int → Int) (v : Int), ¬ (c.1 = (lit D j).1 ∧ ∃ b', mt (E 3) c.2 b (lit D j).2 = some b' ∧ tk (E 3) D C' b') → 0 ≤ v → v + cst (kst C'.length) r ≤ v4 + (2 + kst C'.length + cst (kst C'.length) r) → bdC F2 (E 3) (r2 + 1) 180 b → fz [20, 22, 23, 34, 35] E F2 → F2 34 pre.length = (j : Int) + 1 → F2 35 pre.length = b.length → (∀ k : Int, k < pre.length → F2 34 k = F 34 k ∧ F2 35 k = F 35 k) → (∀ kz Q, Z zm_X10_takes kz Q 54 [(0, zR 33), (1, zR r1), (2, zR r2), (3, zI (pre.length : Int)), (4, zI v)] [] (d, G, F2) → Z zm_X10_takes kz Q 54 [(0, zR 33), (1, zR r1), (2, zR r2), (3, zI (pre.length : Int)), (4, zI v4)] [] (d, G, F)) →
            ((∃ E' : Nat → Int → Int, zgo zm_X10_takes 54 [(0, zR 33), (1, zR r1), (2, zR r2), (3, zI (pre.length : Int)), (4, zI v4)] [] (d, G, F) (some (zI 1)) (d, G, E') ∧ fz [20, 22, 23, 34, 35] E E' ∧ stI E' ∧ tkf (E 3) D c C' b j) ∨
            (∃ (F' : Nat → Int → Int) (v4' : Int), ¬ tkf (E 3) D c C' b j ∧ 0 ≤ v4' ∧ v4' ≤ v4 + (2 + kst C'.length + cst (kst C'.length) r : Nat) ∧ F' 34 pre.length = D.length ∧ bdC F' (E 3) (r2 + 1) 180 b ∧ fz [20, 22, 23, 34, 35] E F' ∧ (∀ k : Int, k < pre.length → F' 34 k = F 34 k ∧ F' 35 k = F 35 k) ∧ ∀ kz Q, Z zm_X10_takes kz Q 54 [(0, zR 33), (1, zR r1), (2, zR r2), (3, zI (pre.length : Int)), (4, zI v4')] [] (d, G, F') → Z zm_X10_takes kz Q 54 [(0, zR 33), (1, zR r1), (2, zR r2), (3, zI (pre.length : Int)), (4, zI v4)] [] (d, G, F))) := by
          intro F2 v nn w0 w1 hb2 hf2 h342 h352 hk2 go2
          have e : ((j + 1 : Nat) : Int) = (j : Int) + 1 := by omega
          rcases ihr (j + 1) F2 v (by omega) (by rw [h342, e]) h352 hb2 hf2 w0 (by omega) with ⟨E', a1, a2, a3, a4⟩ | ⟨F', v4', a1, a2, a3, a4, a5, a6, a7, a8⟩
          · refine Or.inl ⟨E', fun kz Q hQ => go2 kz Q (a1 kz Q hQ), a2, a3, ?_⟩
            obtain ⟨j', b', q1, q2⟩ := a4
            exact ⟨j', b', by omega, q2⟩
          · refine Or.inr ⟨F', v4', ?_, a2, by omega, a4, a5, a6, fun k hk => ⟨(a7 k hk).1.trans (hk2 k hk).1, (a7 k hk).2.trans (hk2 k hk).2⟩, fun kz Q K => go2 kz Q (a8 kz Q K)⟩
            rintro ⟨j', b', q1, q2, q3, q4, q5⟩
            rcases (by omega : j' = j ∨ j + 1 ≤ j') with e | e
            · subst e; exact nn ⟨q3, b', q4, q5⟩
            · exact a1 ⟨j', b', e, q2, q3, q4, q5⟩
        simp only [cst]
        have hk1 : ∀ k : Int, k < pre.length → F1 34 k = F 34 k ∧ F1 35 k = F 35 k := fun k hk => ⟨zuE_ix (by omega), by rw [f1n 35 (by decide)]⟩
        have f134 : F1 34 pre.length = (j : Int) + 1 := zuE_same
        by_cases hd : c.1 = (lit D j).1
        · have lk1 := rowC_lk hC hiC
          rw [litc] at lk1
          have lk2 := rowC_lk hD hjD
          have o1 := hC.2.2.1 pre.length (by omega)
          have o2 := hD.2.2.1 j (by omega)
          have bC := rowC_le hC (l := pre.length + 1) (by omega)
          simp only [offs] at bC
          rw [litc] at bC
          have bD := rowC_le hD (l := j + 1) (by omega)
          simp only [offs] at bD
          have gr1 : F1 (r1 + 1) = E (r1 + 1) := hf1 _ (by simp; omega)
          have gr2 : F1 (r2 + 1) = E (r2 + 1) := hf1 _ (by simp; omega)
          have g3 : F1 3 = E 3 := hf1 3 (by simp)
          have wc := aC pre.length hiC
          rw [litc] at wc
          have mm := matches_ok (E := F1) (N := 180) (by omega) (a1 := r1 + 1) (n1 := 180) (T := r2 + 1) (p := c.2) (w := (lit D j).2) (s := (offs C pre.length : Int)) (y := (offs D j : Int)) (b := b) hX hr1.2.2.2.2.2.1 hr1.2.1 hr2.2.2.2.2.2.1 hr2.2.1 (by omega) (by omega) (by omega) (by rw [g3]; exact hP) (by rw [g3]; exact wc.1) (by rw [g3]; exact (aD j hjD).1) (by have := lC pre.length hiC; rw [litc] at this; exact this) (by rw [gr1]; exact lk1) (by rw [gr2]; exact lk2) (by omega) (by omega) (by omega) (by omega) (by rw [g3]; exact hb1)
          rw [g3] at mm
          obtain ⟨x, F2, cc, m1, f2, b2, hx⟩ := mm
          have hf2 : fz [20, 22, 23, 34, 35] E F2 := fz_trans hf1 (fz_mono f2 (by simp))
          have F234 : F2 34 = F1 34 := f2 34 (by simp)
          have F235 : F2 35 = F1 35 := f2 35 (by simp)
          rcases hx with ⟨x1, x2⟩ | ⟨x1, x2⟩
          · subst x1
            -- one level down
            let F3 := zuE F2 34 ((pre.length : Int) + 1) 0
            let F4 := zuE F3 35 ((pre.length : Int) + 1) ((b ++ cc).length : Int)
            have t3 : F3 20 4 = ((b ++ cc).length : Int) := (zuE_ne (by decide) _).trans b2.1
            have e4 : ∀ x : Nat, x ≠ 34 → x ≠ 35 → F4 x = F2 x := fun x h1 h2 => (zuE_nf h2).trans (zuE_nf h1)
            have hb4 : bdC F4 (E 3) (r2 + 1) 180 (b ++ cc) := bdC_fz b2 (S := [34, 35]) (fun x hx => e4 x (by simp at hx; omega) (by simp at hx; omega)) (by simp) (by simp) (by simp) (by simp; omega)
            have lp : ((pre ++ [c]).length : Int) = (pre.length : Int) + 1 := by simp
            have h34' : F4 34 ((pre ++ [c]).length : Int) = 0 := by rw [lp]; exact (zuE_ne (by decide) _).trans zuE_same
            have h35' : F4 35 ((pre ++ [c]).length : Int) = (b ++ cc).length := by rw [lp]; exact zuE_same
            have lo4 : ∀ k : Int, k < (pre.length : Int) + 1 → F4 34 k = F1 34 k ∧ F4 35 k = F1 35 k := fun k hk => by
              refine ⟨?_, ?_⟩
              · refine (zuE_ne (by decide) _).trans ((zuE_ix (by omega)).trans ?_)
                rw [F234]
              · refine (zuE_ix (by omega)).trans ((zuE_ne (by decide) _).trans ?_)
                rw [F235]
            have down : ∀ kz Q, Z zm_X10_takes kz Q 54 [(0, zR 33), (1, zR r1), (2, zR r2), (3, zI ((pre.length : Int) + 1)), (4, zI (v4 + 1))] [] (d, G, F4) → Z zm_X10_takes kz Q 54 [(0, zR 33), (1, zR r1), (2, zR r2), (3, zI (pre.length : Int)), (4, zI v4)] [] (d, G, F) := fun kz Q K => by
              refine X10_takes_54 hX hr1 hr2 ⟨fun c => absurd c (by omega), fun _ => ⟨fun c => absurd c (by rw [s1]; omega), fun _ => ⟨⟨by omega, by omega⟩, fun _ => ?_, fun c => absurd (by rw [h34, s2]; omega) c⟩⟩⟩
              rw [h34]
              refine ⟨zin_of (by omega) (by omega), ⟨by omega, by omega⟩, fun H1 h1 => ?_⟩
              have eH : H1 = F1 := h1
              rw [eH, g13, g23, dc, dd, g12, g22, o1, o2]
              refine ⟨⟨by omega, by omega⟩, ⟨by omega, by omega⟩, fun q => absurd hd q, fun _ => ⟨⟨by omega, by omega⟩, ⟨by omega, by omega⟩, 1, F2, m1, fun q => absurd q (by omega), fun _ => ⟨zin_of (by omega) (by omega), ⟨by omega, by omega⟩, fun H2 h2 => ⟨⟨by omega, by omega⟩, fun H3 h3 => ⟨zin_of (by omega) (by omega), ?_⟩⟩⟩⟩⟩
              have eH3 : H3 = F4 := by
                rw [h3, h2]
                show zuE F3 35 _ (F3 20 4) = F4
                rw [t3]
              rw [eH3]; exact K
            rcases ih (pre ++ [c]) (b ++ cc) F4 (v4 + 1) (by rw [hpre]; simp) h34' h35' hb4 (fz_put (fz_put hf2 (by simp)) (by simp)) (by omega) (by omega) with ⟨E', a1, a2, a3, a4⟩ | ⟨F', v4', a0, a1, a2, a3, a4, a5, a6, a7, a8⟩
            · rw [lp] at a1
              exact Or.inl ⟨E', fun kz Q hQ => down kz Q (a1 kz Q hQ), a2, a3, j, b ++ cc, Nat.le_refl _, hjD, hd, x2, a4⟩
            · rw [lp] at a4 a7 a8
              obtain ⟨F5, m5, f5, b5⟩ := forgetB_ok (E := F') hX (by omega) a5
              have s1' : F' r1 3 = C.length := by rw [a6 r1 (by simp; omega)]; exact hC.1
              have s2' : F' r2 3 = D.length := by rw [a6 r2 (by simp; omega)]; exact hD.1
              have q35 : F' 35 (pre.length : Int) = b.length := by rw [(a7 _ (by omega)).2, (lo4 _ (by omega)).2]; exact g35
              have ep : (pre.length : Int) + 1 + -1 = pre.length := by omega
              refine next F5 (v4' + 1) ?_ (by omega) (by omega) b5 (fz_trans a6 (fz_mono f5 (by simp))) ?_ ?_ ?_ ?_
              · rintro ⟨_, b', q1, q2⟩
                rw [x2] at q1
                have : b' = b ++ cc := by simpa using q1.symm
                rw [this] at q2
                exact a1 q2
              · rw [f5 34 (by simp), (a7 _ (by omega)).1, (lo4 _ (by omega)).1]; exact f134
              · rw [f5 35 (by simp)]; exact q35
              · intro k hk
                rw [f5 34 (by simp), f5 35 (by simp), (a7 _ (by omega)).1, (a7 _ (by omega)).2, (lo4 _ (by omega)).1, (lo4 _ (by omega)).2]
                exact hk1 k hk
              · intro kz Q K
                refine down kz Q (a8 kz Q (X10_takes_54 hX hr1 hr2 ⟨fun c => absurd c (by omega), fun _ => ⟨fun c => absurd c (by
                  rw [s1']
                  have : C'.length ≠ 0 := fun e => a0 (List.length_eq_zero_iff.1 e)
                  omega), fun _ => ⟨⟨by omega, by omega⟩, fun c => absurd c (by rw [a4, s2']; omega), fun _ => ⟨fun _ => ?_, fun c => absurd (by omega) c⟩⟩⟩⟩))
                rw [ep, q35]
                exact ⟨zin_of (by omega) (by omega), ⟨by omega, by omega⟩, F5, m5, zin_of (by omega) (by omega), K⟩
          · subst x1
            obtain ⟨F5, m5, f5, b5⟩ := forgetB_ok (E := F2) hX (by omega) b2
            have q35 : F2 35 (pre.length : Int) = b.length := by rw [F235]; exact g35
            refine next F5 (v4 + 1) ?_ (by omega) (by omega) b5 (fz_trans hf2 (fz_mono f5 (by simp))) ?_ ?_ ?_ ?_
            · rintro ⟨_, b', q1, q2⟩
              rw [x2] at q1
              exact absurd q1 (by simp)
            · rw [f5 34 (by simp), F234]; exact f134
            · rw [f5 35 (by simp)]; exact q35
            · intro k hk
              rw [f5 34 (by simp), f5 35 (by simp), F234, F235]
              exact hk1 k hk
            · intro kz Q K
              refine X10_takes_54 hX hr1 hr2 ⟨fun c => absurd c (by omega), fun _ => ⟨fun c => absurd c (by rw [s1]; omega), fun _ => ⟨⟨by omega, by omega⟩, fun _ => ?_, fun c => absurd (by rw [h34, s2]; omega) c⟩⟩⟩
              rw [h34]
              refine ⟨zin_of (by omega) (by omega), ⟨by omega, by omega⟩, fun H1 h1 => ?_⟩
              have eH : H1 = F1 := h1
              rw [eH, g13, g23, dc, dd, g12, g22, o1, o2]
              refine ⟨⟨by omega, by omega⟩, ⟨by omega, by omega⟩, fun q => absurd hd q, fun _ => ⟨⟨by omega, by omega⟩, ⟨by omega, by omega⟩, 0, F2, m1, fun _ => ?_, fun q => absurd rfl q⟩⟩
              rw [q35]
              exact ⟨⟨by omega, by omega⟩, F5, m5, zin_of (by omega) (by omega), K⟩
        · have hb1' : bdC F1 (E 3) (r2 + 1) 180 (b ++ []) := by rw [List.append_nil]; exact hb1
          obtain ⟨F5, m5, f5, b5⟩ := forgetB_ok (E := F1) hX (by omega) hb1'
          refine next F5 (v4 + 1) (fun q => hd q.1) (by omega) (by omega) b5 (fz_trans hf1 (fz_mono f5 (by simp))) ?_ ?_ ?_ ?_
          · rw [f5 34 (by simp)]; exact f134
          · rw [f5 35 (by simp)]; exact g35
          · intro k hk
            rw [f5 34 (by simp), f5 35 (by simp)]
            exact hk1 k hk
          · intro kz Q K
            refine X10_takes_54 hX hr1 hr2 ⟨fun c => absurd c (by omega), fun _ => ⟨fun c => absurd c (by rw [s1]; omega), fun _ => ⟨⟨by omega, by omega⟩, fun _ => ?_, fun c => absurd (by rw [h34, s2]; omega) c⟩⟩⟩
            rw [h34]
            refine ⟨zin_of (by omega) (by omega), ⟨by omega, by omega⟩, fun H1 h1 => ?_⟩
            have eH : H1 = F1 := h1
            rw [eH, g13, g23, dc, dd]
            refine ⟨⟨by omega, by omega⟩, ⟨by omega, by omega⟩, fun _ => ?_, fun q => absurd hd q⟩
            rw [g35]
            exact ⟨⟨by omega, by omega⟩, F5, m5, zin_of (by omega) (by omega), K⟩
    have cl := cst_le (K := kst C'.length) (r := D.length) d6
    rcases inner D.length 0 F0 v40 (by omega) (by rw [h340]; rfl) h350 hb0 hf0 v00 (by omega) with ⟨E', a1, a2, a3, a4⟩ | ⟨F', v4', a1, a2, a3, a4, a5, a6, a7, a8⟩
    · exact Or.inl ⟨E', a1, a2, a3, tk_f.2 a4⟩
    · exact Or.inr ⟨F', v4', by simp, fun q => a1 (tk_f.1 q), a2, by omega, a4, a5, a6, a7, a8⟩
theorem takes_ok {r1 r2 : Nat} {C D : List zLt} (hX : zK zXt d G) (hr1 : zRk d G r1) (hr2 : zRk d G r2) (hz1 : rz r1) (hz2 : rz r2) (hP : pok (E 3)) (hC : rowC E r1 C) (hD : rowC E r2 D) (aC : aok (E 3) C) (aD : aok (E 3) D) (lC : low C) (mC : mkA (E r1 4) C) (mD : mkA (E r2 4) D) (hs : stI E) :
    ∃ (x : Int) (E' : Nat → Int → Int), zM zm_X10_takes [zR 33, zR r1, zR r2] (d, G, E) (some (zI x)) (d, G, E') ∧ fz [20, 22, 23, 34, 35] E E' ∧ stI E' ∧ (x = 1 ∧ takesP (E 3) C D ∨ x = 0 ∧ ¬ takesP (E 3) C D) := by
  have c6 := hC.2.1
  have d6 := hD.2.1
  by_cases hl : C.length ≤ D.length
  · by_cases hm : zand (E r1 4) (zxor (E r2 4) (-1)) = 0
    · obtain ⟨F1, m1, f1, f1b, f1c, f1d⟩ := forget0_ok (E := E) hX hs
      have hb1 : bdC F1 (E 3) (r2 + 1) 180 [] := bdC_nil f1c f1d
      let F2 := zuE F1 34 0 0
      let F3 := zuE F2 35 0 0
      have e3 : ∀ x : Nat, x ≠ 34 → x ≠ 35 → F3 x = F1 x := fun x h1 h2 => (zuE_nf h2).trans (zuE_nf h1)
      unfold rz at hz1 hz2
      have hb3 : bdC F3 (E 3) (r2 + 1) 180 [] := bdC_fz hb1 (S := [34, 35]) (fun x hx => e3 x (by simp at hx; omega) (by simp at hx; omega)) (by simp) (by simp) (by simp) (by simp; omega)
      have hf3 : fz [20, 22, 23, 34, 35] E F3 := fz_put (fz_put (fz_mono f1 (by simp)) (by simp)) (by simp)
      have K1 := kst_le c6
      rcases takes_go (E := E) hX hr1 hr2 hz1 hz2 hP hC hD aC aD lC C [] [] F3 0 rfl ((zuE_ne (by decide) _).trans zuE_same) zuE_same hb3 hf3 (by omega) (by omega) with ⟨E', a1, a2, a3, a4⟩ | ⟨F', v4', a0, a1, a2, a3, a4, a5, a6, a7, a8⟩
      · exact ⟨1, E', zM_go rfl (Nat.le_of_ble_eq_true rfl) (fun kz Q hQ => X10_takes_0 hX hr1 hr2 ⟨fun c => absurd c (by rw [hC.1, hD.1]; omega), fun _ => ⟨fun _ => ⟨F1, m1, ⟨by omega, by omega⟩, fun H1 h1 => ⟨⟨by omega, by omega⟩, fun H2 h2 => by rw [h2, h1]; exact a1 kz Q hQ⟩⟩, fun c => absurd hm c⟩⟩), a2, a3, Or.inl ⟨rfl, hl, a4⟩⟩
      · have s1' : F' r1 3 = C.length := by rw [a6 r1 (by simp; omega)]; exact hC.1
        have s2' : F' r2 3 = D.length := by rw [a6 r2 (by simp; omega)]; exact hD.1
        have cn : C.length ≠ 0 := fun e => a0 (List.length_eq_zero_iff.1 e)
        refine ⟨0, F', zM_go rfl (Nat.le_of_ble_eq_true rfl) (fun kz Q hQ => X10_takes_0 hX hr1 hr2 ⟨fun c => absurd c (by rw [hC.1, hD.1]; omega), fun _ => ⟨fun _ => ⟨F1, m1, ⟨by omega, by omega⟩, fun H1 h1 => ⟨⟨by omega, by omega⟩, fun H2 h2 => ?_⟩⟩, fun c => absurd hm c⟩⟩), a6, bdC_stI a5, Or.inr ⟨rfl, fun q => a1 q.2⟩⟩
        rw [h2, h1]
        refine a8 kz Q (X10_takes_54 hX hr1 hr2 ⟨fun c => absurd c (by omega), fun _ => ⟨fun c => absurd c (by rw [s1']; show ¬ ((C.length : Int) ≤ ((0 : Nat) : Int)); omega), fun _ => ⟨⟨by show (0 : Int) ≤ ((0 : Nat) : Int); omega, by show ((0 : Nat) : Int) < 7; omega⟩, fun c => absurd c (by rw [a4, s2']; omega), fun _ => ⟨fun c => absurd rfl c, fun _ => hQ⟩⟩⟩⟩)
    · refine ⟨0, E, zM_p rfl (Nat.le_of_ble_eq_true rfl) (fun kz Q hQ => X10_takes_0 hX hr1 hr2 ⟨fun c => absurd c (by rw [hC.1, hD.1]; omega), fun _ => ⟨fun c => absurd c hm, fun _ => hQ⟩⟩), fz_rfl, hs, Or.inr ⟨rfl, fun q => hm (mkI_sub mC mD (fun b hb => ?_))⟩⟩
      obtain ⟨l, l1, l2⟩ := hb
      exact tk_abt hP aD C [] aC q.2 b l l1 l2
  · exact ⟨0, E, zM_p rfl (Nat.le_of_ble_eq_true rfl) (fun kz Q hQ => X10_takes_0 hX hr1 hr2 ⟨fun _ => hQ, fun c => absurd (by rw [hC.1, hD.1]; omega) c⟩), fz_rfl, hs, Or.inr ⟨rfl, fun q => hl q.1⟩⟩
end PY
