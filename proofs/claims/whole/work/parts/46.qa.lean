/-! ===== taking in: the reference ===== -/
section QA
variable {d : List Nat} {G : Nat → Int → Option Nat} {E : Nat → Int → Int}
theorem takesM_go {a1 a2 a3 a6 a8 n1 n2 n3 n6 n8 : Nat} {o1 o2 : Int} {C D : List zLt} (hM : zK zMt d G) (ha1 : a1 ∈ d) (hk1 : zkd a1 = (0, n1)) (ha2 : a2 ∈ d) (hk2 : zkd a2 = (0, n2)) (ha3 : a3 ∈ d) (hk3 : zkd a3 = (1, n3)) (ha6 : a6 ∈ d) (hk6 : zkd a6 = (0, n6)) (ha8 : a8 ∈ d) (hk8 : zkd a8 = (1, n8)) (z1 : a1 < 80) (z2 : a2 < 80) (z3 : a3 < 80) (z6 : a6 < 80) (z8 : a8 < 80)
    (ho1 : 0 ≤ o1) (ho2 : 0 ≤ o2) (hn1 : n1 ≤ 100000) (hn6 : n6 ≤ 100000) (e1 : 30 * (o1 + 6) ≤ n1) (e2 : o1 + 6 ≤ n2) (e3 : o1 + 6 ≤ n3) (e6 : 30 * (o2 + 6) ≤ n6) (e8 : o2 + 6 ≤ n8) (hP : pok (E 53)) (hC : rowF E a1 a2 a3 o1 C) (hD6 : D.length ≤ 6) (hD : ∀ l : Nat, l < D.length → E a8 (o2 + l) = (lit D l).1 ∧ (lit D l).2.length ≤ 30 ∧ lk (E a6) (30 * (o2 + l)) (fw (lit D l).2) 0 (lit D l).2.length) (aC : aok (E 53) C) (aD : aok (E 53) D) (lC : low C) : ∀ (C' pre : List zLt) (b : zBd) (F : Nat → Int → Int), C = pre ++ C' → F 82 pre.length = 0 → bdR (fun L => F 83 (20 * (pre.length : Int) + L)) (fun L => F 84 (20 * (pre.length : Int) + L)) (E a6) n6 b → fz [80, 81, 82, 83, 84] E F →
    (∃ E' : Nat → Int → Int, zgo zm_X12_takes 28 [(0, zR 50), (1, zR a1), (2, zR a2), (3, zR a3), (4, zI o1), (5, zI (C.length : Int)), (6, zR a6), (8, zR a8), (9, zI o2), (10, zI (D.length : Int)), (11, zI (pre.length : Int))] [] (d, G, F) (some (zI 1)) (d, G, E') ∧ fz [80, 81, 82, 83, 84] E E' ∧ tk (E 53) D C' b) ∨
    (∃ F' : Nat → Int → Int, C' ≠ [] ∧ ¬ tk (E 53) D C' b ∧ F' 82 pre.length = D.length ∧ fz [80, 81, 82, 83, 84] E F' ∧ (∀ k : Int, k < pre.length → F' 82 k = F 82 k) ∧ (∀ k : Int, k < 20 * ((pre.length : Int) + 1) → F' 83 k = F 83 k ∧ F' 84 k = F 84 k) ∧ ∀ kz Q, Z zm_X12_takes kz Q 28 [(0, zR 50), (1, zR a1), (2, zR a2), (3, zR a3), (4, zI o1), (5, zI (C.length : Int)), (6, zR a6), (8, zR a8), (9, zI o2), (10, zI (D.length : Int)), (11, zI (pre.length : Int))] [] (d, G, F') → Z zm_X12_takes kz Q 28 [(0, zR 50), (1, zR a1), (2, zR a2), (3, zR a3), (4, zI o1), (5, zI (C.length : Int)), (6, zR a6), (8, zR a8), (9, zI o2), (10, zI (D.length : Int)), (11, zI (pre.length : Int))] [] (d, G, F)) := by
  have c6 := hC.1
  intro C'
  induction C' with
  | nil =>
    intro pre b F hpre h82 hb hf
    rw [List.append_nil] at hpre
    exact Or.inl ⟨F, fun kz Q hQ => X12_takes_28 hM ha1 hk1 ha2 hk2 ha3 hk3 ha6 hk6 ha8 hk8 ⟨fun _ => hQ, fun c => absurd (by rw [hpre]; omega) c⟩, hf, trivial⟩
  | cons c C' ih =>
    intro pre b F0 hpre h820 hb0 hf0
    have lenC : C.length = pre.length + 1 + C'.length := by rw [hpre]; exact len_m
    have litc : lit C pre.length = c := by rw [hpre]; exact lit_m
    have hiC : pre.length < C.length := by omega
    obtain ⟨sc, dc, dc2, c30, kc⟩ := hC.2 pre.length hiC
    rw [litc] at sc dc dc2 c30 kc
    have wc := aC pre.length hiC
    rw [litc] at wc
    have cp := wok1_pos wc
    have inner : ∀ (r j : Nat) (F : Nat → Int → Int), j + r = D.length → F 82 pre.length = j → bdR (fun L => F 83 (20 * (pre.length : Int) + L)) (fun L => F 84 (20 * (pre.length : Int) + L)) (E a6) n6 b → fz [80, 81, 82, 83, 84] E F →
        (∃ E' : Nat → Int → Int, zgo zm_X12_takes 28 [(0, zR 50), (1, zR a1), (2, zR a2), (3, zR a3), (4, zI o1), (5, zI (C.length : Int)), (6, zR a6), (8, zR a8), (9, zI o2), (10, zI (D.length : Int)), (11, zI (pre.length : Int))] [] (d, G, F) (some (zI 1)) (d, G, E') ∧ fz [80, 81, 82, 83, 84] E E' ∧ tkf (E 53) D c C' b j) ∨
        (∃ F' : Nat → Int → Int, ¬ tkf (E 53) D c C' b j ∧ F' 82 pre.length = D.length ∧ fz [80, 81, 82, 83, 84] E F' ∧ (∀ k : Int, k < pre.length → F' 82 k = F 82 k) ∧ (∀ k : Int, k < 20 * ((pre.length : Int) + 1) → F' 83 k = F 83 k ∧ F' 84 k = F 84 k) ∧ ∀ kz Q, Z zm_X12_takes kz Q 28 [(0, zR 50), (1, zR a1), (2, zR a2), (3, zR a3), (4, zI o1), (5, zI (C.length : Int)), (6, zR a6), (8, zR a8), (9, zI o2), (10, zI (D.length : Int)), (11, zI (pre.length : Int))] [] (d, G, F') → Z zm_X12_takes kz Q 28 [(0, zR 50), (1, zR a1), (2, zR a2), (3, zR a3), (4, zI o1), (5, zI (C.length : Int)), (6, zR a6), (8, zR a8), (9, zI o2), (10, zI (D.length : Int)), (11, zI (pre.length : Int))] [] (d, G, F)) := by
      intro r
      induction r with
      | zero =>
        intro j F hj h82 hb hf
        refine Or.inr ⟨F, ?_, by rw [h82]; omega, hf, fun k _ => rfl, fun k _ => ⟨rfl, rfl⟩, fun kz Q K => K⟩
        rintro ⟨j', b', q1, q2, _⟩
        omega
      | succ r ihr =>
        intro j F hj h82 hb hf
        have hjD : j < D.length := by omega
        obtain ⟨dd, d30, kd⟩ := hD j hjD
        have wd := aD j hjD
        have dp := wok1_pos wd
        obtain ⟨F1, m1, f1, v1⟩ := restore_ok (E := F) (v := pre.length) hM (by omega)
        have hf1 : fz [80, 81, 82, 83, 84] E F1 := fz_trans hf (fz_mono f1 (by simp))
        have hb1 : bdR (F1 80) (F1 81) (E a6) n6 b := bdR_congr hb (fun L l1 l2 => (v1 L l1 l2).1) (fun L l1 l2 => (v1 L l1 l2).2)
        have g82 : F1 82 = F 82 := f1 82 (by simp)
        have g1 : F1 a1 = E a1 := hf1 a1 (by simp; omega)
        have g2 : F1 a2 = E a2 := hf1 a2 (by simp; omega)
        have g3 : F1 a3 = E a3 := hf1 a3 (by simp; omega)
        have g6 : F1 a6 = E a6 := hf1 a6 (by simp; omega)
        have g8 : F1 a8 = E a8 := hf1 a8 (by simp; omega)
        have g53 : F1 53 = E 53 := hf1 53 (by simp)
        -- on to the next literal of d
        have next : ∀ F2 : Nat → Int → Int, ¬ (c.1 = (lit D j).1 ∧ ∃ b', mt (E 53) c.2 b (lit D j).2 = some b' ∧ tk (E 53) D C' b') → fz [80, 81, 82, 83, 84] E F2 → F2 82 pre.length = (j : Int) + 1 → (∀ k : Int, k < pre.length → F2 82 k = F 82 k) → (∀ k : Int, k < 20 * ((pre.length : Int) + 1) → F2 83 k = F 83 k ∧ F2 84 k = F 84 k) → (∀ kz Q, Z zm_X12_takes kz Q 28 [(0, zR 50), (1, zR a1), (2, zR a2), (3, zR a3), (4, zI o1), (5, zI (C.length : Int)), (6, zR a6), (8, zR a8), (9, zI o2), (10, zI (D.length : Int)), (11, zI (pre.length : Int))] [] (d, G, F2) → Z zm_X12_takes kz Q 28 [(0, zR 50), (1, zR a1), (2, zR a2), (3, zR a3), (4, zI o1), (5, zI (C.length : Int)), (6, zR a6), (8, zR a8), (9, zI o2), (10, zI (D.length : Int)), (11, zI (pre.length : Int))] [] (d, G, F)) →
            ((∃ E' : Nat → Int → Int, zgo zm_X12_takes 28 [(0, zR 50), (1, zR a1), (2, zR a2), (3, zR a3), (4, zI o1), (5, zI (C.length : Int)), (6, zR a6), (8, zR a8), (9, zI o2), (10, zI (D.length : Int)), (11, zI (pre.length : Int))] [] (d, G, F) (some (zI 1)) (d, G, E') ∧ fz [80, 81, 82, 83, 84] E E' ∧ tkf (E 53) D c C' b j) ∨
            (∃ F' : Nat → Int → Int, ¬ tkf (E 53) D c C' b j ∧ F' 82 pre.length = D.length ∧ fz [80, 81, 82, 83, 84] E F' ∧ (∀ k : Int, k < pre.length → F' 82 k = F 82 k) ∧ (∀ k : Int, k < 20 * ((pre.length : Int) + 1) → F' 83 k = F 83 k ∧ F' 84 k = F 84 k) ∧ ∀ kz Q, Z zm_X12_takes kz Q 28 [(0, zR 50), (1, zR a1), (2, zR a2), (3, zR a3), (4, zI o1), (5, zI (C.length : Int)), (6, zR a6), (8, zR a8), (9, zI o2), (10, zI (D.length : Int)), (11, zI (pre.length : Int))] [] (d, G, F') → Z zm_X12_takes kz Q 28 [(0, zR 50), (1, zR a1), (2, zR a2), (3, zR a3), (4, zI o1), (5, zI (C.length : Int)), (6, zR a6), (8, zR a8), (9, zI o2), (10, zI (D.length : Int)), (11, zI (pre.length : Int))] [] (d, G, F))) := by
          intro F2 nn hf2 h2 hk2' hs2 go2
          have ej : ((j + 1 : Nat) : Int) = (j : Int) + 1 := by omega
          rcases ihr (j + 1) F2 (by omega) (by rw [h2, ej]) (bdR_congr hb (fun L l1 l2 => (hs2 _ (by omega)).1) (fun L l1 l2 => (hs2 _ (by omega)).2)) hf2 with ⟨E', q1, q2, q3⟩ | ⟨F', q1, q2, q3, q4, q5, q6⟩
          · refine Or.inl ⟨E', fun kz Q hQ => go2 kz Q (q1 kz Q hQ), q2, ?_⟩
            obtain ⟨j', b', p1, p2⟩ := q3
            exact ⟨j', b', by omega, p2⟩
          · refine Or.inr ⟨F', ?_, q2, q3, fun k hk => (q4 k hk).trans (hk2' k hk), fun k hk => ⟨(q5 k hk).1.trans (hs2 k hk).1, (q5 k hk).2.trans (hs2 k hk).2⟩, fun kz Q K => go2 kz Q (q6 kz Q K)⟩
            rintro ⟨j', b', p1, p2, p3, p4, p5⟩
            rcases (by omega : j' = j ∨ j + 1 ≤ j') with e | e
            · subst e; exact nn ⟨p3, b', p4, p5⟩
            · exact q1 ⟨j', b', e, p2, p3, p4, p5⟩
        -- at 161
        have miss : ∀ F2 : Nat → Int → Int, fz [80, 81] F1 F2 → ¬ (c.1 = (lit D j).1 ∧ ∃ b', mt (E 53) c.2 b (lit D j).2 = some b' ∧ tk (E 53) D C' b') → (∀ kz Q, Z zm_X12_takes kz Q 161 [(0, zR 50), (1, zR a1), (2, zR a2), (3, zR a3), (4, zI o1), (5, zI (C.length : Int)), (6, zR a6), (8, zR a8), (9, zI o2), (10, zI (D.length : Int)), (11, zI (pre.length : Int))] [] (d, G, F2) → Z zm_X12_takes kz Q 28 [(0, zR 50), (1, zR a1), (2, zR a2), (3, zR a3), (4, zI o1), (5, zI (C.length : Int)), (6, zR a6), (8, zR a8), (9, zI o2), (10, zI (D.length : Int)), (11, zI (pre.length : Int))] [] (d, G, F)) →
            ((∃ E' : Nat → Int → Int, zgo zm_X12_takes 28 [(0, zR 50), (1, zR a1), (2, zR a2), (3, zR a3), (4, zI o1), (5, zI (C.length : Int)), (6, zR a6), (8, zR a8), (9, zI o2), (10, zI (D.length : Int)), (11, zI (pre.length : Int))] [] (d, G, F) (some (zI 1)) (d, G, E') ∧ fz [80, 81, 82, 83, 84] E E' ∧ tkf (E 53) D c C' b j) ∨
            (∃ F' : Nat → Int → Int, ¬ tkf (E 53) D c C' b j ∧ F' 82 pre.length = D.length ∧ fz [80, 81, 82, 83, 84] E F' ∧ (∀ k : Int, k < pre.length → F' 82 k = F 82 k) ∧ (∀ k : Int, k < 20 * ((pre.length : Int) + 1) → F' 83 k = F 83 k ∧ F' 84 k = F 84 k) ∧ ∀ kz Q, Z zm_X12_takes kz Q 28 [(0, zR 50), (1, zR a1), (2, zR a2), (3, zR a3), (4, zI o1), (5, zI (C.length : Int)), (6, zR a6), (8, zR a8), (9, zI o2), (10, zI (D.length : Int)), (11, zI (pre.length : Int))] [] (d, G, F') → Z zm_X12_takes kz Q 28 [(0, zR 50), (1, zR a1), (2, zR a2), (3, zR a3), (4, zI o1), (5, zI (C.length : Int)), (6, zR a6), (8, zR a8), (9, zI o2), (10, zI (D.length : Int)), (11, zI (pre.length : Int))] [] (d, G, F))) := by
          intro F2 f2 nn go
          have s82 : F2 82 = F 82 := (f2 82 (by simp)).trans g82
          refine next (zuE F2 82 pre.length ((j : Int) + 1)) nn (fz_put (fz_trans hf1 (fz_mono f2 (by simp))) (by simp)) zuE_same (fun k hk => ?_) (fun k hk => ?_) (fun kz Q K => go kz Q (X12_takes_161 hM ha1 hk1 ha2 hk2 ha3 hk3 ha6 hk6 ha8 hk8 ⟨⟨by omega, by omega⟩, ?_, ⟨by omega, by omega⟩, fun H h => ?_⟩))
          · rw [zuE_ix (by omega), s82]
          · rw [zuE_ne (by decide), zuE_ne (by decide), f2 83 (by simp), f2 84 (by simp), f1 83 (by simp), f1 84 (by simp)]
            exact ⟨rfl, rfl⟩
          · rw [s82, h82]; exact zin_of (by omega) (by omega)
          · rw [h, s82, h82]; exact K
        have hc0 : E a1 (30 * (o1 + (pre.length : Int))) = fw c.2 0 := by
          have := kc 0 cp
          simpa using this
        have hd0 : E a6 (30 * (o2 + (j : Int))) = fw (lit D j).2 0 := by
          have := kd 0 dp
          simpa using this
        by_cases hd : c.1 = (lit D j).1
        · by_cases hh : fw c.2 0 = fw (lit D j).2 0
          · have mm := goesOnMatching_ok (E := F1) (a1 := a1) (n1 := n1) (T := a6) (nT := n6) (p := c.2) (w := (lit D j).2) (s := 30 * (o1 + (pre.length : Int))) (y := 30 * (o2 + (j : Int))) (b := b) hM ha1 hk1 ha6 hk6 hn1 hn6 (by omega) (by omega) (by rw [g53]; exact hP) (by rw [g53]; exact wc.1) (by rw [g53]; exact wd.1) (by have := lC pre.length hiC; rw [litc] at this; exact this) (by rw [g1]; exact kc) (by rw [g6]; exact kd) (by omega) (by omega) (by omega) (by omega) (by rw [g6]; exact hb1)
            rw [g53, g6] at mm
            obtain ⟨x, F2, m2, f2, hx⟩ := mm
            have go : ∀ kz Q, ((x = 0 → Z zm_X12_takes kz Q 161 [(0, zR 50), (1, zR a1), (2, zR a2), (3, zR a3), (4, zI o1), (5, zI (C.length : Int)), (6, zR a6), (8, zR a8), (9, zI o2), (10, zI (D.length : Int)), (11, zI (pre.length : Int))] [] (d, G, F2)) ∧ (¬ (x = 0) → zin ((pre.length : Int) + 1) ∧ ((0 : Int) ≤ ((pre.length : Int) + 1) ∧ ((pre.length : Int) + 1) < (7 : Int)) ∧ ∀ E_32, E_32 = zuE F2 82 (((pre.length : Int) + 1)) 0 → ∃ E_33, zM zm_X12_save [zR 50, zI (((pre.length : Int) + 1))] (d, G, E_32) none (d, G, E_33) ∧ Z zm_X12_takes kz Q 28 [(0, zR 50), (1, zR a1), (2, zR a2), (3, zR a3), (4, zI o1), (5, zI (C.length : Int)), (6, zR a6), (8, zR a8), (9, zI o2), (10, zI (D.length : Int)), (11, zI (((pre.length : Int) + 1)))] [] (d, G, E_33))) → Z zm_X12_takes kz Q 28 [(0, zR 50), (1, zR a1), (2, zR a2), (3, zR a3), (4, zI o1), (5, zI (C.length : Int)), (6, zR a6), (8, zR a8), (9, zI o2), (10, zI (D.length : Int)), (11, zI (pre.length : Int))] [] (d, G, F) := fun kz Q K => by
              refine X12_takes_28 hM ha1 hk1 ha2 hk2 ha3 hk3 ha6 hk6 ha8 hk8 ⟨fun q => absurd q (by omega), fun _ => ⟨⟨by omega, by omega⟩, fun _ => ?_, fun q => absurd (by rw [h82]; omega) q⟩⟩
              rw [h82]
              refine ⟨F1, m1, ?_⟩
              rw [g3, g8, g1, g6, g2, dc, dd, hc0, hd0, sc]
              exact ⟨zin_of (by omega) (by omega), zin_of (by omega) (by omega), zin_of (by omega) (by omega), ⟨by omega, by omega⟩, zin_of (by omega) (by omega), ⟨by omega, by omega⟩, fun q => absurd hd q, fun _ => ⟨⟨by omega, by omega⟩, zin_of (by omega) (by omega), zin_of (by omega) (by omega), ⟨by omega, by omega⟩, fun q => absurd hh q, fun _ => ⟨zin_of (by omega) (by omega), ⟨by omega, by omega⟩, zin_of (by omega) (by omega), zin_of (by omega) (by omega), zin_of (by omega) (by omega), x, F2, m2, K⟩⟩⟩
            rcases hx with ⟨x1, b', x2, x3⟩ | ⟨x1, x2⟩
            · subst x1
              let F3 := zuE F2 82 ((pre.length : Int) + 1) 0
              have el : ((pre.length + 1 : Nat) : Int) = (pre.length : Int) + 1 := by omega
              obtain ⟨F4, m4, f4, v4, w4⟩ := save_ok (E := F3) (v := pre.length + 1) hM (by omega)
              rw [el] at m4 v4 w4
              have f3n : ∀ x : Nat, x ≠ 82 → F3 x = F2 x := fun x hx => zuE_nf hx
              have hf4 : fz [80, 81, 82, 83, 84] E F4 := fz_trans (fz_put (fz_trans hf1 (fz_mono f2 (by simp))) (by simp)) (fz_mono f4 (by simp))
              have lp : ((pre ++ [c]).length : Int) = (pre.length : Int) + 1 := by simp
              have c82 : ∀ k : Int, k ≠ (pre.length : Int) + 1 → F4 82 k = F 82 k := fun k hk => by
                rw [f4 82 (by simp)]
                refine (zuE_ix hk).trans ?_
                rw [f2 82 (by simp), g82]
              have c83 : ∀ k : Int, k < 20 * ((pre.length : Int) + 1) → F4 83 k = F 83 k ∧ F4 84 k = F 84 k := fun k hk => by
                have := w4 k hk
                rw [this.1, this.2, f3n 83 (by decide), f3n 84 (by decide), f2 83 (by simp), f2 84 (by simp), f1 83 (by simp), f1 84 (by simp)]
                exact ⟨rfl, rfl⟩
              rcases ih (pre ++ [c]) b' F4 (by rw [hpre]; simp) (by rw [lp, f4 82 (by simp)]; exact zuE_same) (by
                  rw [lp]
                  refine bdR_congr x3 (fun L l1 l2 => ?_) (fun L l1 l2 => ?_)
                  · rw [(v4 L l1 l2).1, f3n 80 (by decide)]
                  · rw [(v4 L l1 l2).2, f3n 81 (by decide)]) hf4 with ⟨E', q1, q2, q3⟩ | ⟨F', q0, q1, q2, q3, q4, q5, q6⟩
              · rw [lp] at q1
                exact Or.inl ⟨E', fun kz Q hQ => go kz Q ⟨fun q => absurd q (by omega), fun _ => ⟨zin_of (by omega) (by omega), ⟨by omega, by omega⟩, fun H h => ⟨F4, by rw [h]; exact m4, q1 kz Q hQ⟩⟩⟩, q2, j, b', Nat.le_refl _, hjD, hd, x2, q3⟩
              · rw [lp] at q2 q4 q5 q6
                have ep : (pre.length : Int) + 1 + -1 = pre.length := by omega
                have v82 : F' 82 (pre.length : Int) = j := by rw [q4 _ (by omega), c82 _ (by omega)]; exact h82
                refine next (zuE F' 82 pre.length ((j : Int) + 1)) ?_ (fz_put q3 (by simp)) zuE_same (fun k hk => ?_) (fun k hk => ?_) (fun kz Q K => go kz Q ⟨fun q => absurd q (by omega), fun _ => ⟨zin_of (by omega) (by omega), ⟨by omega, by omega⟩, fun H h => ⟨F4, by rw [h]; exact m4, q6 kz Q (X12_takes_28 hM ha1 hk1 ha2 hk2 ha3 hk3 ha6 hk6 ha8 hk8 ⟨fun q => absurd q ?_, fun _ => ⟨⟨by omega, by omega⟩, fun q => absurd q2 q, fun _ => ⟨fun _ => ?_, fun q => absurd (by omega) q⟩⟩⟩)⟩⟩⟩)
                · rintro ⟨_, b'', p1, p2⟩
                  rw [x2] at p1
                  have : b'' = b' := by simpa using p1.symm
                  rw [this] at p2
                  exact q1 p2
                · rw [zuE_ix (by omega), q4 k (by omega), c82 k (by omega)]
                · rw [zuE_ne (by decide), zuE_ne (by decide), (q5 k (by omega)).1, (q5 k (by omega)).2]
                  exact c83 k hk
                · have : C'.length ≠ 0 := fun e => q0 (List.length_eq_zero_iff.1 e)
                  omega
                · rw [ep, v82]
                  exact ⟨zin_of (by omega) (by omega), ⟨by omega, by omega⟩, zin_of (by omega) (by omega), ⟨by omega, by omega⟩, fun H2 h2 => by rw [h2]; exact K⟩
            · subst x1
              refine miss F2 f2 ?_ (fun kz Q K => go kz Q ⟨fun _ => K, fun q => absurd rfl q⟩)
              rintro ⟨_, b', p1, _⟩
              rw [x2] at p1
              exact absurd p1 (by simp)
          · refine miss F1 fz_rfl ?_ (fun kz Q K => ?_)
            · rintro ⟨_, b', p1, _⟩
              have hv := wc.2.1
              cases hcw : c.2 with
              | nil => rw [hcw] at cp; simp at cp
              | cons v p =>
                rw [hcw] at p1 hv hh
                rw [fw_c0] at hv hh
                simp only [mt] at p1
                rw [if_pos hv, if_neg (fun e => hh e.symm)] at p1
                exact absurd p1 (by simp)
            · refine X12_takes_28 hM ha1 hk1 ha2 hk2 ha3 hk3 ha6 hk6 ha8 hk8 ⟨fun q => absurd q (by omega), fun _ => ⟨⟨by omega, by omega⟩, fun _ => ?_, fun q => absurd (by rw [h82]; omega) q⟩⟩
              rw [h82]
              refine ⟨F1, m1, ?_⟩
              rw [g3, g8, g1, g6, dc, dd, hc0, hd0]
              exact ⟨zin_of (by omega) (by omega), zin_of (by omega) (by omega), zin_of (by omega) (by omega), ⟨by omega, by omega⟩, zin_of (by omega) (by omega), ⟨by omega, by omega⟩, fun q => absurd hd q, fun _ => ⟨⟨by omega, by omega⟩, zin_of (by omega) (by omega), zin_of (by omega) (by omega), ⟨by omega, by omega⟩, fun _ => K, fun q => absurd hh q⟩⟩
        · refine miss F1 fz_rfl (fun q => hd q.1) (fun kz Q K => ?_)
          refine X12_takes_28 hM ha1 hk1 ha2 hk2 ha3 hk3 ha6 hk6 ha8 hk8 ⟨fun q => absurd q (by omega), fun _ => ⟨⟨by omega, by omega⟩, fun _ => ?_, fun q => absurd (by rw [h82]; omega) q⟩⟩
          rw [h82]
          refine ⟨F1, m1, ?_⟩
          rw [g3, g8, dc, dd]
          exact ⟨zin_of (by omega) (by omega), zin_of (by omega) (by omega), zin_of (by omega) (by omega), ⟨by omega, by omega⟩, zin_of (by omega) (by omega), ⟨by omega, by omega⟩, fun _ => K, fun q => absurd hd q⟩
    rcases inner D.length 0 F0 (by omega) (by rw [h820]; rfl) hb0 hf0 with ⟨E', q1, q2, q3⟩ | ⟨F', q1, q2, q3, q4, q5, q6⟩
    · exact Or.inl ⟨E', q1, q2, tk_f.2 q3⟩
    · exact Or.inr ⟨F', by simp, fun q => q1 (tk_f.1 q), q2, q3, q4, q5, q6⟩
theorem takesM_ok {a1 a2 a3 a6 a7 a8 n1 n2 n3 n6 n7 n8 : Nat} {o1 o2 : Int} {C D : List zLt} (hM : zK zMt d G) (ha1 : a1 ∈ d) (hk1 : zkd a1 = (0, n1)) (ha2 : a2 ∈ d) (hk2 : zkd a2 = (0, n2)) (ha3 : a3 ∈ d) (hk3 : zkd a3 = (1, n3)) (ha6 : a6 ∈ d) (hk6 : zkd a6 = (0, n6)) (ha7 : a7 ∈ d) (hk7 : zkd a7 = (0, n7)) (ha8 : a8 ∈ d) (hk8 : zkd a8 = (1, n8)) (z1 : a1 < 80) (z2 : a2 < 80) (z3 : a3 < 80) (z6 : a6 < 80) (z8 : a8 < 80)
    (ho1 : 0 ≤ o1) (ho2 : 0 ≤ o2) (hn1 : n1 ≤ 100000) (hn6 : n6 ≤ 100000) (e1 : 30 * (o1 + 6) ≤ n1) (e2 : o1 + 6 ≤ n2) (e3 : o1 + 6 ≤ n3) (e6 : 30 * (o2 + 6) ≤ n6) (e8 : o2 + 6 ≤ n8) (hP : pok (E 53)) (hC : rowF E a1 a2 a3 o1 C) (hD6 : D.length ≤ 6) (hD : ∀ l : Nat, l < D.length → E a8 (o2 + l) = (lit D l).1 ∧ (lit D l).2.length ≤ 30 ∧ lk (E a6) (30 * (o2 + l)) (fw (lit D l).2) 0 (lit D l).2.length) (aC : aok (E 53) C) (aD : aok (E 53) D) (lC : low C) :
    ∃ (x : Int) (E' : Nat → Int → Int), zM zm_X12_takes [zR 50, zR a1, zR a2, zR a3, zI o1, zI (C.length : Int), zR a6, zR a7, zR a8, zI o2, zI (D.length : Int)] (d, G, E) (some (zI x)) (d, G, E') ∧ fz [80, 81, 82, 83, 84] E E' ∧ (x = 1 ∧ takesP (E 53) C D ∨ x = 0 ∧ ¬ takesP (E 53) C D) := by
  have c6 := hC.1
  by_cases hl : C.length ≤ D.length
  · obtain ⟨F1, m1, f1, v1⟩ := unbind_ok (E := E) (G := G) hM
    let F2 := zuE F1 82 0 0
    obtain ⟨F3, m3, f3, v3, _⟩ := save_ok (E := F2) (v := 0) hM (by omega)
    have hf3 : fz [80, 81, 82, 83, 84] E F3 := fz_trans (fz_put (fz_mono f1 (by simp)) (by simp)) (fz_mono f3 (by simp))
    have b3 : bdR (fun L => F3 83 (20 * ((([] : List zLt).length : Nat) : Int) + L)) (fun L => F3 84 (20 * ((([] : List zLt).length : Nat) : Int) + L)) (E a6) n6 [] := by
      refine ⟨fun L l1 l2 _ => ?_, fun L u _ _ hL => by simp [lkp] at hL⟩
      have := (v3 L l1 l2).1
      refine this.trans ?_
      exact (zuE_ne (by decide) _).trans (v1 L l1 l2)
    have s82 : F3 82 ((([] : List zLt).length : Nat) : Int) = 0 := by
      rw [f3 82 (by simp)]; exact zuE_same
    rcases takesM_go (E := E) hM ha1 hk1 ha2 hk2 ha3 hk3 ha6 hk6 ha8 hk8 z1 z2 z3 z6 z8 ho1 ho2 hn1 hn6 e1 e2 e3 e6 e8 hP hC hD6 hD aC aD lC C [] [] F3 rfl s82 b3 hf3 with ⟨E', q1, q2, q3⟩ | ⟨F', q0, q1, q2, q3, q4, q5, q6⟩
    · exact ⟨1, E', zM_go rfl (Nat.le_of_ble_eq_true rfl) (fun kz Q hQ => X12_takes_0 hM ha1 hk1 ha2 hk2 ha3 hk3 ha6 hk6 ha7 hk7 ha8 hk8 ⟨fun _ => ⟨F1, m1, ⟨by omega, by omega⟩, fun H h => ⟨F3, by rw [h]; exact m3, q1 kz Q hQ⟩⟩, fun c => absurd (by omega) c⟩), q2, Or.inl ⟨rfl, hl, q3⟩⟩
    · have cn : C.length ≠ 0 := fun e => q0 (List.length_eq_zero_iff.1 e)
      refine ⟨0, F', zM_go rfl (Nat.le_of_ble_eq_true rfl) (fun kz Q hQ => X12_takes_0 hM ha1 hk1 ha2 hk2 ha3 hk3 ha6 hk6 ha7 hk7 ha8 hk8 ⟨fun _ => ⟨F1, m1, ⟨by omega, by omega⟩, fun H h => ⟨F3, by rw [h]; exact m3, q6 kz Q (X12_takes_28 hM ha1 hk1 ha2 hk2 ha3 hk3 ha6 hk6 ha8 hk8 ⟨fun q => absurd q ?_, fun _ => ⟨⟨Int.le_refl _, by show (0 : Int) < 7; omega⟩, fun q => absurd q2 q, fun _ => ⟨fun q => absurd rfl q, fun _ => hQ⟩⟩⟩)⟩⟩, fun c => absurd (by omega) c⟩), q3, Or.inr ⟨rfl, fun q => q1 q.2⟩⟩
      show ¬ ((C.length : Int) ≤ ((0 : Nat) : Int))
      omega
  · exact ⟨0, E, zM_p rfl (Nat.le_of_ble_eq_true rfl) (fun kz Q hQ => X12_takes_0 hM ha1 hk1 ha2 hk2 ha3 hk3 ha6 hk6 ha7 hk7 ha8 hk8 ⟨fun c => absurd c (by omega), fun _ => hQ⟩), fz_rfl, Or.inr ⟨rfl, fun q => hl q.1⟩⟩
end QA
