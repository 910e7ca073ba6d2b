/-! ===== steps: the class, turn: what is written ===== -/
section RZ
variable {d : List Nat} {G : Nat → Int → Option Nat} {E : Nat → Int → Int}
theorem writeTurnedC_ok {b : zBd} {rk : Int → Nat} {r : Nat} {B acc : List zLt} {j r0 : Int} {v1 v2 v3 rw : List Int} (hX : zK zXt d G) (hP : pok (E 3)) (hb : bw (E 3) b rk) (hU : bdU E b) (hr : zRk d G r) (hr43 : 43 < r) (hr10 : zRk d G 10) (hR : rowC E r B) (hbr : brC2 E B) (hj : 0 ≤ j ∧ j < B.length) (hA : rowC E 10 acc) (hw : (lit B j.toNat).2.map shf = v1 ++ (v2 ++ v3)) (ht : tw (E 3) v2) (ht0 : ∃ t, tw (E 3) t ∧ t.map shf = v2 ∧ lk (E (r + 1)) ((offs B j.toNat : Int) + v1.length) (fw t) 0 t.length) (hr0 : onB E r0 rw) :
    ∃ (x : Int) (E' : Nat → Int → Int), zM zm_X3_writeTurned [zR 41, zR r, zI j, zI ((offs B j.toNat : Int) + v1.length), zI r0, zI (r0 + rw.length), zR 10] (d, G, E) (some (zI x)) (d, G, E') ∧ fz [10, 11, 12, 13, 20, 27, 28, 29] E E' ∧ bdU E' b ∧ (x = 0 ∨ x = 1) ∧ ((x = 1 ∧ ∃ A', adds acc (frt B (fun w => sb (th b) (w.map shf)) j (sb (th b) v1 ++ (sb (th b) rw ++ sb (th b) v3)) B.length 0) = some A' ∧ rowC E' 10 A') ∨ (x = 0 ∧ adds acc (frt B (fun w => sb (th b) (w.map shf)) j (sb (th b) v1 ++ (sb (th b) rw ++ sb (th b) v3)) B.length 0) = none)) := by
  have r6 := hR.2.1
  have lenj : (v1 ++ (v2 ++ v3)).length = (lit B j.toNat).2.length := by rw [← hw, List.length_map]
  rw [List.length_append, List.length_append] at lenj
  have jl : j.toNat < B.length := by omega
  have oj := low_180 hR j.toNat jl
  obtain ⟨t, tt, tv, tl⟩ := ht0
  have lt2 : t.length = v2.length := by rw [← tv, List.length_map]
  have ma : zM zm_X8_after [zR 1, zR (r + 1), zI ((offs B j.toNat : Int) + v1.length)] (d, G, E) (some (zI ((offs B j.toNat : Int) + v1.length + t.length))) (d, G, E) := after_ok (E := E) (a := r + 1) (n := 180) hX hr.2.2.2.2.2.1 hr.2.1 hP (tm_congr tt (fun k hk => (tl k hk).symm)) (by omega) (by omega) (by omega)
  rw [lt2] at ma
  have loop : ∀ (m l : Nat) (F : Nat → Int → Int) (acc : List zLt), l + m = B.length → fz [10, 11, 12, 13, 20, 27, 28, 29] E F → bdU F b → rowC F 10 acc →
      ∃ (x : Int) (E' : Nat → Int → Int), zgo zm_X3_writeTurned 25 [(0, zR 41), (1, zR r), (2, zI j), (3, zI ((offs B j.toNat : Int) + v1.length)), (4, zI r0), (5, zI (r0 + rw.length)), (6, zR 10), (7, zI 180), (8, zI (180 + ((offs B j.toNat : Int) + v1.length + v2.length))), (9, zI (l : Int))] [] (d, G, F) (some (zI x)) (d, G, E') ∧ fz [10, 11, 12, 13, 20, 27, 28, 29] E E' ∧ bdU E' b ∧ (x = 0 ∨ x = 1) ∧ ((x = 1 ∧ ∃ A', adds acc (frt B (fun w => sb (th b) (w.map shf)) j (sb (th b) v1 ++ (sb (th b) rw ++ sb (th b) v3)) m l) = some A' ∧ rowC E' 10 A') ∨ (x = 0 ∧ adds acc (frt B (fun w => sb (th b) (w.map shf)) j (sb (th b) v1 ++ (sb (th b) rw ++ sb (th b) v3)) m l) = none)) := by
    intro m
    induction m with
    | zero =>
      intro l F acc hl hf hUF hA
      have f3 : F r 3 = B.length := by rw [hf r (by simp; omega)]; exact hR.1
      exact ⟨1, F, fun kz Q hQ => X3_writeTurned_25 hX hr hr10 ⟨fun _ => hQ, fun z => absurd (by omega) z⟩, hf, hUF, Or.inr rfl, Or.inl ⟨rfl, acc, rfl, hA⟩⟩
    | succ m ih =>
      intro l F acc hl hf hUF hA
      have f3 : F r 3 = B.length := by rw [hf r (by simp; omega)]; exact hR.1
      have hlR : l < B.length := by omega
      have el : ((l + 1 : Nat) : Int) = (l : Int) + 1 := by omega
      obtain ⟨d1, d2, d3, _⟩ := hR.2.2.2 l hlR
      have s1 : F (r + 2) l = offs B l := by rw [hf (r + 2) (by simp; omega)]; exact hR.2.2.1 l (by omega)
      have s2 : F (r + 2) ((l : Int) + 1) = offs B (l + 1) := by rw [← el, hf (r + 2) (by simp; omega)]; exact hR.2.2.1 (l + 1) (by omega)
      have o2 := rowC_le hR (l := l + 1) (by omega)
      have os : offs B (l + 1) = offs B l + (lit B l).2.length := rfl
      let F1 := zuE F 20 14 0
      have n1 : ∀ x : Nat, x ≠ 20 → F1 x = F x := fun x hx => zuE_nf hx
      have g01 : fz [10, 11, 12, 13, 20, 27, 28, 29] E F1 := fz_put hf (by simp)
      have e3 : F1 3 = E 3 := g01 3 (by simp)
      have hU1 : bdU F1 b := bdU_fz hUF (fz_put (S := [20]) fz_rfl (by simp)) (zuE_ix (by decide)) (by simp) (by simp) (by simp)
      have oO : outC F1 [] := ⟨zuE_same, fun k hk => absurd hk (by simp)⟩
      have hA1 : rowC F1 10 acc := rowC_fz hA (fz_put (S := [20]) fz_rfl (by simp)) (by decide) (by decide) (by decide) (by decide)
      -- behind the writing
      have fin : ∀ (X : List Int) (F2 : Nat → Int → Int) (x : Int), fz [20, 27, 28, 29] F1 F2 → bdU F2 b → ((x = 1 ∧ X.length ≤ 30 ∧ outC F2 X) ∨ (x = 0 ∧ 30 < X.length)) → (∀ kz (Q : Option zV → zH → Prop), (x = 0 → Q (some (zI 0)) (d, G, F2)) → (¬ x = 0 → ∃ x_16 E_17, zM zm_X5_take [zR 10, zI (lit B l).1, zR 29, zI 0, zI (F2 20 14)] (d, G, F2) (some (zI x_16)) (d, G, E_17) ∧ (x_16 ≠ 0 → Z zm_X3_writeTurned kz Q 25 [(0, zR 41), (1, zR r), (2, zI j), (3, zI ((offs B j.toNat : Int) + v1.length)), (4, zI r0), (5, zI (r0 + rw.length)), (6, zR 10), (7, zI 180), (8, zI (180 + ((offs B j.toNat : Int) + v1.length + v2.length))), (9, zI ((l : Int) + 1))] [] (d, G, E_17)) ∧ (¬ x_16 ≠ 0 → Q (some (zI 0)) (d, G, E_17))) → Z zm_X3_writeTurned kz Q 25 [(0, zR 41), (1, zR r), (2, zI j), (3, zI ((offs B j.toNat : Int) + v1.length)), (4, zI r0), (5, zI (r0 + rw.length)), (6, zR 10), (7, zI 180), (8, zI (180 + ((offs B j.toNat : Int) + v1.length + v2.length))), (9, zI (l : Int))] [] (d, G, F)) →
          ∃ (x : Int) (E' : Nat → Int → Int), zgo zm_X3_writeTurned 25 [(0, zR 41), (1, zR r), (2, zI j), (3, zI ((offs B j.toNat : Int) + v1.length)), (4, zI r0), (5, zI (r0 + rw.length)), (6, zR 10), (7, zI 180), (8, zI (180 + ((offs B j.toNat : Int) + v1.length + v2.length))), (9, zI (l : Int))] [] (d, G, F) (some (zI x)) (d, G, E') ∧ fz [10, 11, 12, 13, 20, 27, 28, 29] E E' ∧ bdU E' b ∧ (x = 0 ∨ x = 1) ∧ ((x = 1 ∧ ∃ A', adds acc (((lit B l).1, X) :: frt B (fun w => sb (th b) (w.map shf)) j (sb (th b) v1 ++ (sb (th b) rw ++ sb (th b) v3)) m (l + 1)) = some A' ∧ rowC E' 10 A') ∨ (x = 0 ∧ adds acc (((lit B l).1, X) :: frt B (fun w => sb (th b) (w.map shf)) j (sb (th b) v1 ++ (sb (th b) rw ++ sb (th b) v3)) m (l + 1)) = none)) := by
        intro X F2 x g1 g4 g5 pre
        have hf2 : fz [10, 11, 12, 13, 20, 27, 28, 29] E F2 := fz_trans g01 (fz_mono g1 (by simp))
        have hA2 : rowC F2 10 acc := rowC_fz hA1 g1 (by decide) (by decide) (by decide) (by decide)
        simp only [adds]
        rcases g5 with ⟨x1, l30, hx2⟩ | ⟨x0, hx1⟩
        · by_cases c6 : acc.length < 6
          · obtain ⟨F3, m3, h1, h2, _⟩ := take_ok (E := F2) (r := 10) (a := 29) (n := 1000) (A := acc) (dn := (lit B l).1) (i := 0) (w := X) hX hr10 (zX_20_13 hX).2.2 rfl hA2 c6 l30 d2 (by omega) (by omega) (fun k hk => by rw [Int.zero_add]; exact hx2.2 k hk)
            rw [← hx2.1] at m3
            have hf3 : fz [10, 11, 12, 13, 20, 27, 28, 29] E F3 := fz_trans hf2 (fz_mono h2 (by simp))
            obtain ⟨x', E', z, z1, z3, z4, z5⟩ := ih (l + 1) F3 (acc ++ [((lit B l).1, X)]) (by omega) hf3 (bdU_fz g4 h2 (by rw [h2 20 (by decide)]) (by decide) (by decide) (by decide)) h1
            rw [el] at z
            refine ⟨x', E', fun kz Q hQ => pre kz Q (fun y => absurd y (by omega)) (fun _ => ⟨1, F3, m3, fun _ => z kz Q hQ, fun y => absurd (by decide) y⟩), z1, z3, z4, ?_⟩
            rw [if_pos ⟨l30, c6⟩]; exact z5
          · have h6 := hA2.2.1
            have m3 := take_no (E := F2) (r := 10) (a := 29) (n := 1000) (A := acc) (dn := (lit B l).1) (i := 0) (ln := F2 20 14) hX hr10 (zX_20_13 hX).2.2 rfl hA2 (Or.inl (by omega))
            refine ⟨0, F2, fun kz Q hQ => pre kz Q (fun _ => hQ) (fun _ => ⟨0, F2, m3, fun y => absurd rfl y, fun _ => hQ⟩), hf2, g4, Or.inl rfl, Or.inr ⟨rfl, ?_⟩⟩
            rw [if_neg (fun z => c6 z.2)]
        · refine ⟨0, F2, fun kz Q hQ => pre kz Q (fun _ => hQ) (fun y => absurd x0 y), hf2, g4, Or.inl rfl, Or.inr ⟨rfl, ?_⟩⟩
          rw [if_neg (fun z => by have h1 : X.length ≤ 30 := z.1; omega)]
      simp only [frt]
      by_cases cj : (l : Int) = j
      · rw [if_pos cj]
        have tj : j.toNat = l := by omega
        have hwl : (lit B l).2.map shf = v1 ++ (v2 ++ v3) := by rw [← tj]; exact hw
        have obj := hbr l hlR
        rw [hwl] at obj
        have o1 := onB_l obj
        have o3 := onB_r (onB_r obj (j := 180 + (offs B l : Int) + v1.length) rfl) (j := 180 + (offs B l : Int) + v1.length + v2.length) rfl
        have lenl : (lit B l).2.length = v1.length + (v2.length + v3.length) := by rw [← tj]; exact lenj.symm
        obtain ⟨x, F2, m2, g1, _, _, g4, g5⟩ := writeC_ok (E := F1) (b := b) (rk := rk) (most := 30) (O := []) hX (by rw [e3]; exact hP) (by rw [e3]; exact hb) hU1 (onB_fz o1 g01 (by simp)) oO (by simp) (by omega)
        rw [List.nil_append] at g5
        have fd : ∀ F' : Nat → Int → Int, fz [20, 27, 28, 29] F1 F' → F' (r + 3) l = (lit B l).1 := fun F' gg => by rw [gg (r + 3) (by simp; omega), g01 (r + 3) (by simp; omega)]; exact d1
        have ev3 : 180 + ((offs B j.toNat : Int) + v1.length) = 180 + (offs B l : Int) + v1.length := by rw [tj]; omega
        have ev8 : 180 + ((offs B j.toNat : Int) + v1.length + v2.length) = 180 + (offs B l : Int) + v1.length + v2.length := by rw [tj]; omega
        have eto : 180 + (offs B (l + 1) : Int) = 180 + (offs B l : Int) + v1.length + v2.length + v3.length := by rw [os, lenl]; omega
        have pre1 : ∀ kz (Q : Option zV → zH → Prop), (x = 0 → Q (some (zI 0)) (d, G, F2)) → (¬ (x = 0) → ∃ x_15 E_16, zM zm_X9_write [zR 20, zI r0, zI (r0 + rw.length), zI 30] (d, G, F2) (some (zI x_15)) (d, G, E_16) ∧ (x_15 = 0 → Q (some (zI 0)) (d, G, E_16)) ∧ (¬ (x_15 = 0) → ∃ x_20 E_21, zM zm_X9_write [zR 20, zI (180 + (offs B l : Int) + v1.length + v2.length), zI (180 + (offs B l : Int) + v1.length + v2.length + v3.length), zI 30] (d, G, E_16) (some (zI x_20)) (d, G, E_21) ∧ (x_20 = 0 → Q (some (zI 0)) (d, G, E_21)) ∧ (¬ (x_20 = 0) → ∃ x_27 E_28, zM zm_X5_take [zR 10, zI ((E_21 (r + 3) (l : Int))), zR 29, zI 0, zI ((E_21 20 14))] (d, G, E_21) (some (zI x_27)) (d, G, E_28) ∧ (x_27 ≠ 0 → Z zm_X3_writeTurned kz Q 25 [(0, zR 41), (1, zR r), (2, zI j), (3, zI ((offs B j.toNat : Int) + v1.length)), (4, zI r0), (5, zI (r0 + rw.length)), (6, zR 10), (7, zI 180), (8, zI (180 + ((offs B j.toNat : Int) + v1.length + v2.length))), (9, zI ((l : Int) + 1))] [] (d, G, E_28)) ∧ (¬ (x_27 ≠ 0) → Q (some (zI 0)) (d, G, E_28))))) → Z zm_X3_writeTurned kz Q 25 [(0, zR 41), (1, zR r), (2, zI j), (3, zI ((offs B j.toNat : Int) + v1.length)), (4, zI r0), (5, zI (r0 + rw.length)), (6, zR 10), (7, zI 180), (8, zI (180 + ((offs B j.toNat : Int) + v1.length + v2.length))), (9, zI (l : Int))] [] (d, G, F) := fun kz Q k1 k2 => by
          refine X3_writeTurned_25 hX hr hr10 ⟨fun y => absurd y (by omega), fun _ => ?_⟩
          rw [s1, s2]
          refine ⟨⟨by omega, by omega⟩, zin_of (by omega) (by omega), zin_of (by omega) (by omega), ⟨by omega, by omega⟩, zin_of (by omega) (by omega), fun H e => ⟨fun _ => ⟨zin_of (by omega) (by omega), x, F2, ?_, fun y => X3_writeTurned_144 hX hr hr10 (k1 y), fun y => ?_⟩, fun y => absurd cj y⟩⟩
          · rw [e, ev3]; exact m2
          · obtain ⟨x2, F3, a1, a2, a3⟩ := k2 y
            refine ⟨x2, F3, a1, fun y2 => X3_writeTurned_144 hX hr hr10 (a2 y2), fun y2 => ?_⟩
            obtain ⟨x3, F4, b1, b2, b3⟩ := a3 y2
            refine ⟨x3, F4, by rw [ev8, eto]; exact b1, fun y3 => X3_writeTurned_144 hX hr hr10 (b2 y3), fun y3 => ?_⟩
            obtain ⟨x4, F5, c1, c2, c3⟩ := b3 y3
            exact ⟨⟨by omega, by omega⟩, x4, F5, c1, fun y4 => ⟨zin_of (by omega) (by omega), c2 y4⟩, c3⟩
        rcases g5 with ⟨x1, hx1, hx2⟩ | ⟨x0, hx1⟩
        case inr =>
          refine fin (sb (th b) v1 ++ (sb (th b) rw ++ sb (th b) v3)) F2 0 g1 g4 (Or.inr ⟨rfl, by rw [List.length_append]; omega⟩) (fun kz Q k1 k2 => pre1 kz Q (fun _ => k1 rfl) (fun y => absurd x0 y))
        have e23 : F2 3 = E 3 := by rw [g1 3 (by simp)]; exact e3
        have g12 : fz [10, 11, 12, 13, 20, 27, 28, 29] E F2 := fz_trans g01 (fz_mono g1 (by simp))
        obtain ⟨x2, F3, m3, h1, _, _, h4, h5⟩ := writeC_ok (E := F2) (b := b) (rk := rk) (most := 30) (O := sb (th b) v1) hX (by rw [e23]; exact hP) (by rw [e23]; exact hb) g4 (onB_fz hr0 g12 (by simp)) hx2 hx1 (by omega)
        have g13 : fz [20, 27, 28, 29] F1 F3 := fz_trans g1 h1
        rcases h5 with ⟨y1, hy1, hy2⟩ | ⟨y0, hy1⟩
        case inr =>
          refine fin (sb (th b) v1 ++ (sb (th b) rw ++ sb (th b) v3)) F3 0 g13 h4 (Or.inr ⟨rfl, by rw [List.length_append] at hy1; rw [List.length_append, List.length_append]; omega⟩) (fun kz Q k1 k2 => pre1 kz Q (fun y => absurd y (by omega)) (fun _ => ⟨x2, F3, m3, fun _ => k1 rfl, fun y => absurd y0 y⟩))
        have e33 : F3 3 = E 3 := by rw [g13 3 (by simp)]; exact e3
        have g14 : fz [10, 11, 12, 13, 20, 27, 28, 29] E F3 := fz_trans g01 (fz_mono g13 (by simp))
        obtain ⟨x3, F4, m4, i1, _, _, i4, i5⟩ := writeC_ok (E := F3) (b := b) (rk := rk) (most := 30) (O := sb (th b) v1 ++ sb (th b) rw) hX (by rw [e33]; exact hP) (by rw [e33]; exact hb) h4 (onB_fz o3 g14 (by simp)) hy2 hy1 (by omega)
        rw [List.append_assoc] at i5
        have g15 : fz [20, 27, 28, 29] F1 F4 := fz_trans g13 i1
        refine fin (sb (th b) v1 ++ (sb (th b) rw ++ sb (th b) v3)) F4 x3 g15 i4 (by rcases i5 with ⟨a, c, e⟩ | ⟨a, c⟩; exact Or.inl ⟨a, by omega, e⟩; exact Or.inr ⟨a, by omega⟩) (fun kz Q k1 k2 => pre1 kz Q (fun y => absurd y (by omega)) (fun _ => ⟨x2, F3, m3, fun y => absurd y (by omega), fun _ => ⟨x3, F4, m4, k1, fun y => ?_⟩⟩))
        rw [fd F4 g15]
        exact k2 y
      · rw [if_neg cj]
        obtain ⟨x, F2, m2, g1, _, _, g4, g5⟩ := writeC_ok (E := F1) (b := b) (rk := rk) (most := 30) (O := []) hX (by rw [e3]; exact hP) (by rw [e3]; exact hb) hU1 (onB_fz (hbr l hlR) g01 (by simp)) oO (by simp) (by omega)
        rw [List.nil_append] at g5
        have eto : 180 + (offs B l : Int) + (((lit B l).2.map shf).length : Int) = 180 + (offs B (l + 1) : Int) := by rw [List.length_map, os]; omega
        rw [eto] at m2
        have fd : F2 (r + 3) l = (lit B l).1 := by rw [g1 (r + 3) (by simp; omega), g01 (r + 3) (by simp; omega)]; exact d1
        refine fin (sb (th b) ((lit B l).2.map shf)) F2 x g1 g4 (by rcases g5 with ⟨a, c, e⟩ | ⟨a, c⟩; exact Or.inl ⟨a, by omega, e⟩; exact Or.inr ⟨a, by omega⟩) (fun kz Q k1 k2 => ?_)
        refine X3_writeTurned_25 hX hr hr10 ⟨fun y => absurd y (by omega), fun _ => ?_⟩
        rw [s1, s2]
        refine ⟨⟨by omega, by omega⟩, zin_of (by omega) (by omega), zin_of (by omega) (by omega), ⟨by omega, by omega⟩, zin_of (by omega) (by omega), fun H e => ⟨fun y => absurd y cj, fun _ => ⟨x, F2, by rw [e]; exact m2, k1, fun y => ?_⟩⟩⟩
        obtain ⟨x4, F5, c1, c2, c3⟩ := k2 y
        rw [fd]
        exact ⟨⟨by omega, by omega⟩, x4, F5, c1, fun y4 => ⟨zin_of (by omega) (by omega), c2 y4⟩, c3⟩
  obtain ⟨x, E', z, zr⟩ := loop B.length 0 E acc (by omega) fz_rfl hU hA
  exact ⟨x, E', zM_go rfl (Nat.le_of_ble_eq_true rfl) (fun kz Q hQ => X3_writeTurned_0 hX hr hr10 ⟨_, ma, zin_of (by omega) (by omega), z kz Q hQ⟩), zr⟩
end RZ
