/-! ===== steps: the class, clash, factor, drop ===== -/
/-- nothing that stands for letters of two terms is too long -/
def UB (P : Int → Int) : Prop := ∀ u v : List Int, tw P u → tw P v → lo40 u → lo40 v → u.length ≤ 30 → v.length ≤ 30 → ubd P u v
/-- the class's answer for what a step makes -/
def mkC (E' : Nat → Int → Int) (r : Option (Option (List zLt))) (x : Int) : Prop := (r = none ∧ x = 0) ∨ (r = some none ∧ x = 1) ∨ ∃ A', r = some (some A') ∧ x = 2 ∧ rowC E' 10 A'
/-- what making changes -/
def kS : List Nat := [10, 11, 12, 13, 18, 19, 20, 21, 22, 23, 24, 25, 26, 27, 28, 29]
def outC (E : Nat → Int → Int) (O : List Int) : Prop := E 20 14 = O.length ∧ ∀ k : Nat, k < O.length → E 29 k = O.getD k 0
section RV
variable {d : List Nat} {G : Nat → Int → Option Nat} {E : Nat → Int → Int}
theorem writeC_ok {b : zBd} {rk : Int → Nat} {i most : Int} {w O : List Int} (hX : zK zXt d G) (hP : pok (E 3)) (hb : bw (E 3) b rk) (hU : bdU E b) (hi : onB E i w) (hO : outC E O) (hm : (O.length : Int) ≤ most) (hm1 : most ≤ 1000) :
    ∃ (x : Int) (E' : Nat → Int → Int), zM zm_X9_write [zR 20, zI i, zI (i + w.length), zI most] (d, G, E) (some (zI x)) (d, G, E') ∧ fz [20, 27, 28, 29] E E' ∧ (∀ j : Int, j ≠ 10 → j ≠ 11 → j ≠ 12 → j ≠ 14 → E' 20 j = E 20 j) ∧ 0 ≤ E' 20 14 ∧ bdU E' b ∧ ((x = 1 ∧ ((O ++ sb (th b) w).length : Int) ≤ most ∧ outC E' (O ++ sb (th b) w)) ∨ (x = 0 ∧ most < ((O ++ sb (th b) w).length : Int))) := by
  have hbk : stB E rk := bw_bok hb hU.2.2
  have hsg : seg E rk i w.length 40 := ⟨hi.1, hi.2.1, fun k hk => by
    have hm := hi.2.2.2 _ (lk_mem hi.2.2.1 hk)
    refine ⟨hm, fun z => ?_⟩
    have z1 := z.1
    exact (hbk _ (by omega) (by omega) z.2).1⟩
  have eD : sgx E i w.length = sb (th b) w := xf_sb hP hb hU.2.2 hi.2.2.1 hi.2.2.2
  obtain ⟨x, E', m, f, j, h14, hlo, hx⟩ := write_ok (E := E) (most := most) hX hP hbk hsg (by rw [hO.1]; omega) (by omega)
  rw [eD, hO.1] at hx
  have hU' : bdU E' b := bdU_fz hU f (j 4 (by decide) (by decide) (by decide) (by decide)) (by simp) (by simp) (by simp)
  refine ⟨x, E', m, f, j, h14, hU', ?_⟩
  rw [List.length_append]
  rcases hx with ⟨x1, x2, x3, x4⟩ | ⟨x0, x2, _⟩
  · left
    refine ⟨x1, ?_, by rw [List.length_append, x3]; omega, fun k hk => ?_⟩
    · rcases x2 with z | z
      · rw [z]; simp; omega
      · omega
    · rw [List.length_append] at hk
      by_cases c : k < O.length
      · rw [hlo k (by rw [hO.1]; omega), hO.2 k c, List.getD_eq_getElem?_getD, List.getD_eq_getElem?_getD, List.getElem?_append_left c]
      · have e : (k : Int) = (O.length : Int) + ((k - O.length : Nat) : Int) := by omega
        rw [e, x4 (k - O.length) (by omega), List.getD_eq_getElem?_getD, List.getD_eq_getElem?_getD, List.getElem?_append_right (by omega)]
  · right
    refine ⟨x0, ?_⟩
    rcases x2 with z | z
    · omega
    · omega
/-- a claim's row, its words on the board -/
theorem writeAllBut_ok {b : zBd} {rk : Int → Nat} {r : Nat} {R acc : List zLt} {base but : Int} {g : List Int → List Int} (hX : zK zXt d G) (hP : pok (E 3)) (hb : bw (E 3) b rk) (hU : bdU E b) (hr : zRk d G r) (hr43 : 43 < r) (hr10 : zRk d G 10) (hR : rowC E r R) (hbd : ∀ l : Nat, l < R.length → onB E (base + offs R l) (g (lit R l).2) ∧ (g (lit R l).2).length = (lit R l).2.length) (hA : rowC E 10 acc) (hb0 : 0 ≤ base) (hb1 : base ≤ 1000) :
    ∃ (x : Int) (E' : Nat → Int → Int), zM zm_X3_writeAllBut [zR 41, zR r, zI but, zI base, zR 10] (d, G, E) (some (zI x)) (d, G, E') ∧ fz [10, 11, 12, 13, 20, 27, 28, 29] E E' ∧ (∀ j : Int, j ≠ 10 → j ≠ 11 → j ≠ 12 → j ≠ 14 → E' 20 j = E 20 j) ∧ bdU E' b ∧ (x = 0 ∨ x = 1) ∧ ((x = 1 ∧ ∃ A', adds acc (frm R but (fun w => sb (th b) (g w)) R.length 0) = some A' ∧ rowC E' 10 A') ∨ (x = 0 ∧ adds acc (frm R but (fun w => sb (th b) (g w)) R.length 0) = none)) := by
  have r6 := hR.2.1
  have loop : ∀ (m l : Nat) (F : Nat → Int → Int) (acc : List zLt), l + m = R.length → fz [10, 11, 12, 13, 20, 27, 28, 29] E F → (∀ j : Int, j ≠ 10 → j ≠ 11 → j ≠ 12 → j ≠ 14 → F 20 j = E 20 j) → bdU F b → rowC F 10 acc →
      ∃ (x : Int) (E' : Nat → Int → Int), zgo zm_X3_writeAllBut 3 [(0, zR 41), (1, zR r), (2, zI but), (3, zI base), (4, zR 10), (5, zI (l : Int))] [] (d, G, F) (some (zI x)) (d, G, E') ∧ fz [10, 11, 12, 13, 20, 27, 28, 29] E E' ∧ (∀ j : Int, j ≠ 10 → j ≠ 11 → j ≠ 12 → j ≠ 14 → E' 20 j = E 20 j) ∧ bdU E' b ∧ (x = 0 ∨ x = 1) ∧ ((x = 1 ∧ ∃ A', adds acc (frm R but (fun w => sb (th b) (g w)) m l) = some A' ∧ rowC E' 10 A') ∨ (x = 0 ∧ adds acc (frm R but (fun w => sb (th b) (g w)) m l) = none)) := by
    intro m
    induction m with
    | zero =>
      intro l F acc hl hf hj hUF hA
      have f3 : F r 3 = R.length := by rw [hf r (by simp; omega)]; exact hR.1
      exact ⟨1, F, fun kz Q hQ => X3_writeAllBut_3 hX hr hr10 ⟨fun _ => hQ, fun z => absurd (by omega) z⟩, hf, hj, hUF, Or.inr rfl, Or.inl ⟨rfl, acc, rfl, hA⟩⟩
    | succ m ih =>
      intro l F acc hl hf hj hUF hA
      have f3 : F r 3 = R.length := by rw [hf r (by simp; omega)]; exact hR.1
      have hlR : l < R.length := by omega
      have el : ((l + 1 : Nat) : Int) = (l : Int) + 1 := by omega
      by_cases cb : (l : Int) = but
      · obtain ⟨x, E', z, z1, z2, z3, z4, z5⟩ := ih (l + 1) F acc (by omega) hf hj hUF hA
        rw [el] at z
        refine ⟨x, E', fun kz Q hQ => X3_writeAllBut_3 hX hr hr10 ⟨fun y => absurd y (by omega), fun _ => ⟨fun _ => ⟨zin_of (by omega) (by omega), z kz Q hQ⟩, fun y => absurd cb y⟩⟩, z1, z2, z3, z4, ?_⟩
        simp only [frm]
        rw [if_pos cb]; exact z5
      · obtain ⟨d1, d2, d3, _⟩ := hR.2.2.2 l hlR
        have s1 := hR.2.2.1 l (by omega)
        have s2 := hR.2.2.1 (l + 1) (by omega)
        have o1 := rowC_le hR (l := l) (by omega)
        have o2 := rowC_le hR (l := l + 1) (by omega)
        have os : offs R (l + 1) = offs R l + (lit R l).2.length := rfl
        let F1 := zuE F 20 14 0
        have n1 : ∀ x : Nat, x ≠ 20 → F1 x = F x := fun x hx => zuE_nf hx
        have t2 : F1 (r + 2) = E (r + 2) := by rw [n1 (r + 2) (by omega)]; exact hf (r + 2) (by simp; omega)
        have e3 : F1 3 = E 3 := by rw [n1 3 (by decide)]; exact hf 3 (by simp)
        have hU1 : bdU F1 b := bdU_fz hUF (fz_put (S := [20]) fz_rfl (by simp)) (zuE_ix (by decide)) (by simp) (by simp) (by simp)
        have ob : onB F1 (base + offs R l) (g (lit R l).2) := by
          have := (hbd l hlR).1
          unfold onB at *
          rw [n1 21 (by decide), hf 21 (by simp)]; exact this
        obtain ⟨x, F2, m2, g1, g2, g3, g4, g5⟩ := writeC_ok (E := F1) (b := b) (rk := rk) (most := 30) (O := []) hX (by rw [e3]; exact hP) (by rw [e3]; exact hb) hU1 ob ⟨zuE_same, fun k hk => absurd hk (by simp)⟩ (by simp) (by omega)
        rw [List.nil_append] at g5
        have eto : base + (offs R l : Int) + ((g (lit R l).2).length : Int) = base + (offs R (l + 1) : Int) := by rw [(hbd l hlR).2, os]; omega
        rw [eto] at m2
        have hf2 : fz [10, 11, 12, 13, 20, 27, 28, 29] E F2 := fz_trans (fz_put hf (by simp)) (fz_mono g1 (by simp))
        have hj2 : ∀ j : Int, j ≠ 10 → j ≠ 11 → j ≠ 12 → j ≠ 14 → F2 20 j = E 20 j := fun j j1 j2 j3 j4 => (g2 j j1 j2 j3 j4).trans ((zuE_ix j4).trans (hj j j1 j2 j3 j4))
        have hA2 : rowC F2 10 acc := rowC_fz (E := F1) (rowC_fz hA (fz_put (S := [20]) fz_rfl (by simp)) (by decide) (by decide) (by decide) (by decide)) g1 (by decide) (by decide) (by decide) (by decide)
        have fd : F2 (r + 3) l = (lit R l).1 := by rw [g1 (r + 3) (by simp; omega), n1 (r + 3) (by omega), hf (r + 3) (by simp; omega)]; exact d1
        have pre : ∀ kz (Q : Option zV → zH → Prop), (x = 0 → Q (some (zI 0)) (d, G, F2)) → (¬ x = 0 → ∃ x_16 E_17, zM zm_X5_take [zR 10, zI (lit R l).1, zR 29, zI 0, zI (F2 20 14)] (d, G, F2) (some (zI x_16)) (d, G, E_17) ∧ (x_16 ≠ 0 → Z zm_X3_writeAllBut kz Q 3 [(0, zR 41), (1, zR r), (2, zI but), (3, zI base), (4, zR 10), (5, zI ((l : Int) + 1))] [] (d, G, E_17)) ∧ (¬ x_16 ≠ 0 → Q (some (zI 0)) (d, G, E_17))) → Z zm_X3_writeAllBut kz Q 3 [(0, zR 41), (1, zR r), (2, zI but), (3, zI base), (4, zR 10), (5, zI (l : Int))] [] (d, G, F) := fun kz Q k1 k2 => by
          refine X3_writeAllBut_3 hX hr hr10 ⟨fun y => absurd y (by omega), fun _ => ⟨fun y => absurd y cb, fun _ H e => ?_⟩⟩
          have eH : H = F1 := e
          have q2 : E (r + 2) ((l : Int) + 1) = offs R (l + 1) := by rw [← el]; exact s2
          rw [eH, t2, s1, q2]
          refine ⟨⟨by omega, by omega⟩, zin_of (by omega) (by omega), zin_of (by omega) (by omega), ⟨by omega, by omega⟩, zin_of (by omega) (by omega), x, F2, m2, k1, fun y => ?_⟩
          obtain ⟨x', F3, m3, w1, w2⟩ := k2 y
          rw [fd]
          exact ⟨⟨by omega, by omega⟩, x', F3, m3, fun q => ⟨zin_of (by omega) (by omega), w1 q⟩, w2⟩
        simp only [frm]
        rw [if_neg cb]
        simp only [adds]
        rcases g5 with ⟨x1, hx1, hx2⟩ | ⟨x0, hx1⟩
        · have l30 : (sb (th b) (g (lit R l).2)).length ≤ 30 := by omega
          by_cases c6 : acc.length < 6
          · obtain ⟨F3, m3, h1, h2, _⟩ := take_ok (E := F2) (r := 10) (a := 29) (n := 1000) (A := acc) (dn := (lit R l).1) (i := 0) (w := sb (th b) (g (lit R l).2)) hX hr10 (zX_20_13 hX).2.2 rfl hA2 c6 l30 d2 (by omega) (by omega) (fun k hk => by rw [Int.zero_add]; exact hx2.2 k hk)
            rw [← hx2.1] at m3
            have hf3 : fz [10, 11, 12, 13, 20, 27, 28, 29] E F3 := fz_trans hf2 (fz_mono h2 (by simp))
            obtain ⟨x', E', z, z1, z2, z3, z4, z5⟩ := ih (l + 1) F3 (acc ++ [((lit R l).1, sb (th b) (g (lit R l).2))]) (by omega) hf3 (fun j j1 j2 j3 j4 => (by rw [h2 20 (by decide)] : F3 20 j = F2 20 j).trans (hj2 j j1 j2 j3 j4)) (bdU_fz g4 h2 (by rw [h2 20 (by decide)]) (by decide) (by decide) (by decide)) h1
            rw [el] at z
            refine ⟨x', E', fun kz Q hQ => pre kz Q (fun y => absurd y (by omega)) (fun _ => ⟨1, F3, m3, fun _ => z kz Q hQ, fun y => absurd (by decide) y⟩), z1, z2, z3, z4, ?_⟩
            rw [if_pos ⟨l30, c6⟩]; exact z5
          · have h6 := hA2.2.1
            have m3 := take_no (E := F2) (r := 10) (a := 29) (n := 1000) (A := acc) (dn := (lit R l).1) (i := 0) (ln := F2 20 14) hX hr10 (zX_20_13 hX).2.2 rfl hA2 (Or.inl (by omega))
            refine ⟨0, F2, fun kz Q hQ => pre kz Q (fun _ => hQ) (fun _ => ⟨0, F2, m3, fun y => absurd rfl y, fun _ => hQ⟩), hf2, hj2, g4, Or.inl rfl, Or.inr ⟨rfl, ?_⟩⟩
            rw [if_neg (fun z => c6 z.2)]
        · refine ⟨0, F2, fun kz Q hQ => pre kz Q (fun _ => hQ) (fun y => absurd x0 y), hf2, hj2, g4, Or.inl rfl, Or.inr ⟨rfl, ?_⟩⟩
          rw [if_neg (fun z => by omega)]
  obtain ⟨x, E', z, zr⟩ := loop R.length 0 E acc (by omega) fz_rfl (fun _ _ _ _ _ => rfl) hU hA
  exact ⟨x, E', zM_go rfl (Nat.le_of_ble_eq_true rfl) (fun kz Q hQ => X3_writeAllBut_0 hX hr hr10 (z kz Q hQ)), zr⟩
/-- the class's board with two claims -/
def brC (E : Nat → Int → Int) (A : List zLt) : Prop := ∀ l : Nat, l < A.length → onB E (0 + (offs A l : Int)) (lit A l).2
def brC2 (E : Nat → Int → Int) (B : List zLt) : Prop := ∀ l : Nat, l < B.length → onB E (180 + (offs B l : Int)) ((lit B l).2.map shf)
theorem layF_ok {r : Nat} {A : List zLt} (hX : zK zXt d G) (hr : zRk d G r) (hA : rowC E r A) (lA : low A) : ∃ E' : Nat → Int → Int, zM zm_X9_layFirst [zR 20, zR r] (d, G, E) none (d, G, E') ∧ fz [21] E E' ∧ brC E' A := by
  obtain ⟨E', m, f, h1, h2⟩ := layFirst_ok (E := E) hX hr hA
  refine ⟨E', m, f, fun l hl => ?_⟩
  have o2 := rowC_le hA (l := l + 1) (by omega)
  have os : offs A (l + 1) = offs A l + (lit A l).2.length := rfl
  refine ⟨by omega, by omega, fun k hk => ?_, lo_20 (lA l hl)⟩
  have o3 := offs_lt hl hk
  rw [h1 (0 + (offs A l : Int) + k) (by omega) (by omega)]
  have e : 0 + (offs A l : Int) + k = (offs A l : Int) + k := by omega
  rw [e]
  exact rowC_lk hA hl k hk
theorem layS_ok {r : Nat} {A B : List zLt} (hX : zK zXt d G) (hr : zRk d G r) (hr43 : 43 < r) (hB : rowC E r B) (aB : aok (E 3) B) (lB : low B) (hA : brC E A) (hA180 : ∀ l : Nat, l < A.length → offs A l + (lit A l).2.length ≤ 180) : ∃ E' : Nat → Int → Int, zM zm_X9_laySecond [zR 20, zR r] (d, G, E) none (d, G, E') ∧ fz [21] E E' ∧ brC E' A ∧ brC2 E' B := by
  obtain ⟨E', m, f, h1, h2⟩ := laySecond_ok (E := E) hX hr (Or.inr hr43) hB (fun i i0 i1 => by rw [rowC_pl hB i0 i1]; exact aok_ff aB _ (by omega))
  refine ⟨E', m, f, fun l hl => ?_, fun l hl => ?_⟩
  · obtain ⟨a1, a2, a3, a4⟩ := hA l hl
    have := hA180 l hl
    refine ⟨a1, a2, fun k hk => ?_, a4⟩
    rw [h2 _ (by omega)]; exact a3 k hk
  · have o2 := rowC_le hB (l := l + 1) (by omega)
    have os : offs B (l + 1) = offs B l + (lit B l).2.length := rfl
    refine ⟨by omega, by rw [List.length_map]; omega, fun k hk => ?_, lo_shf (lB l hl)⟩
    rw [List.length_map] at hk
    have o3 := offs_lt hl hk
    have e : 180 + (offs B l : Int) + (k : Int) = 180 + ((offs B l : Int) + k) := by omega
    rw [e, h1 _ (by omega) (by omega), rowC_lk hB hl k hk, fw_0, fw_0, getD_shf hk]
theorem isPositiveC_ok {q : Nat} (hX : zK zXt d G) (hc : zCk d G q) : zM zm_X1_isPositive [zR q] (d, G, E) (some (zI (if E q 9 = -1 then 1 else 0))) (d, G, E) := by
  refine zM_e rfl (Nat.le_of_ble_eq_true rfl) (fun kz Q hQ => X1_isPositive_0 hX hc ⟨fun z => ?_, fun z => ?_⟩)
  · rw [if_neg z] at hQ; exact hQ
  · rw [if_pos (Classical.byContradiction fun y => z y)] at hQ; exact hQ
end RV
