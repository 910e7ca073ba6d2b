/-! ===== steps: the reference, factor, drop ===== -/
section RS
variable {d : List Nat} {G : Nat → Int → Option Nat} {E : Nat → Int → Int}
/-- all of a claim but one, behind a unification that came out -/
theorem allBut_ok {K p q : Nat} {R : Nat → List zLt} {but : Int} {b : zBd} {rk : Int → Nat} {E2 : Nat → Int → Int} (hM : zK zMt d G) (hP : pok (E 53)) (hs : stM E (E 53) (E 54) K R) (hp : p < K) (hb : bw (E 53) b rk) (hU : bdW (E2 97) (E2 98) 360 b) (hbr : brd E2 (R p) (R q)) (f2 : fz [97, 98, 99, 100, 101] E E2) :
    ∃ (x : Int) (E' : Nat → Int → Int), zM zm_X12_writesAll [zR 50, zI (p : Int), zI 0, zI but] (d, G, zuE E2 50 24 0) (some (zI x)) (d, G, E') ∧ fz mS E E' ∧ m50 E E' ∧ (x = 0 ∨ x = 1) ∧ mkM E' (some (adds [] (frm (R p) but (sb (th b)) (R p).length 0))) x := by
  let E3 := zuE E2 50 24 0
  have n3 : ∀ a : Nat, a ≠ 50 → E3 a = E2 a := fun a ha => zuE_nf ha
  have o50 : E2 50 = E 50 := f2 50 (by simp)
  have hf3 : fz mS E E3 := fz_put (fz_mono f2 (by simp [mS])) (by simp [mS])
  have hm3 : m50 E E3 := fun j j1 _ => (zuE_ix j1).trans (by rw [o50])
  have s3 : stM E3 (E 53) (E 54) K R := stM_fz hs hf3 (by simp [mS]) (by simp [mS]) (by simp [mS]) (by simp [mS]) (hm3 6 (by decide) (by decide))
  have a53 : E3 53 = E 53 := hf3 53 (by simp [mS])
  have a54 : E3 54 = E 54 := hf3 54 (by simp [mS])
  have row0 : rowW E3 [] := ⟨zuE_same, by simp, fun l hl => absurd hl (by simp)⟩
  have br3 : brd E3 (R p) (R q) := brd_97 hbr (n3 97 (by decide))
  obtain ⟨y, E4, m4, f4, j4, h4⟩ := writesAll2_ok (E := E3) (b := b) (rk := rk) (c := p) (but := but) true hM (by rw [a53]; exact hP) (by rw [a53]; exact hb) (by rw [n3 97 (by decide), n3 98 (by decide)]; exact hU) (by rw [a53, a54]; exact s3) hp (fun l hl => br3.1 l hl) row0
  refine ⟨y, E4, m4, fz_trans hf3 (fz_mono f4 (by simp [mS])), m50_t hm3 j4, by omega, ?_⟩
  rcases h4 with ⟨y1, A1, hA1, hr1⟩ | ⟨y0, hA1⟩
  · have e : adds [] (frm (R p) but (sb (th b)) (R p).length 0) = some A1 := hA1
    exact Or.inr (Or.inr ⟨A1, by rw [e], y1, hr1⟩)
  · have e : adds [] (frm (R p) but (sb (th b)) (R p).length 0) = none := hA1
    exact Or.inr (Or.inl ⟨by rw [e], y0⟩)
theorem factor_ok {K p : Nat} {R : Nat → List zLt} {i j : Int} (hM : zK zMt d G) (hP : pok (E 53)) (hW : wok (E 54)) (hs : stM E (E 53) (E 54) K R) (hp : p < K) (hlo : ∀ i : Int, -1000 ≤ E 58 i) :
    ∃ (x : Int) (E' : Nat → Int → Int) (r : Option (Option (List zLt))), zM zm_X12_factor [zR 50, zI (p : Int), zI i, zI j] (d, G, E) (some (zI x)) (d, G, E') ∧ fz mS E E' ∧ m50 E E' ∧ faR (E 53) (E 54) (R p) i j r ∧ mkM E' r x := by
  have hK := hs.2.1
  have pp := isPositive_ok (E := E) hM hs hp hW
  have pl := isLiteral_ok (E := E) (v := i) hM hs hp
  have pj := isLiteral_ok (E := E) (v := j) hM hs hp
  have no : ∀ (hno : ¬ (chs (E 54) (R p) = -1 ∧ 0 ≤ i ∧ i < (R p).length ∧ 0 ≤ j ∧ j < (R p).length ∧ i < j)) (z : ∀ kz (Q : Option zV → zH → Prop), Q (some (zI (-1))) (d, G, E) → Z zm_X12_factor kz Q 0 [(0, zR 50), (1, zI (p : Int)), (2, zI i), (3, zI j)] [] (d, G, E)), ∃ (x : Int) (E' : Nat → Int → Int) (r : Option (Option (List zLt))), zM zm_X12_factor [zR 50, zI (p : Int), zI i, zI j] (d, G, E) (some (zI x)) (d, G, E') ∧ fz mS E E' ∧ m50 E E' ∧ faR (E 53) (E 54) (R p) i j r ∧ mkM E' r x :=
    fun hno z => ⟨-1, E, none, zM_e rfl (Nat.le_of_ble_eq_true rfl) (fun kz Q hQ => z kz Q hQ), fz_rfl, fun _ _ _ => rfl, Or.inl ⟨hno, rfl⟩, Or.inl ⟨rfl, rfl⟩⟩
  by_cases c1 : chs (E 54) (R p) = -1
  · rw [if_pos c1] at pp
    by_cases c2 : 0 ≤ i ∧ i < (R p).length
    · rw [if_pos (by omega)] at pl
      by_cases c3 : 0 ≤ j ∧ j < (R p).length
      · rw [if_pos (by omega)] at pj
        by_cases c4 : i < j
        · have cond : chs (E 54) (R p) = -1 ∧ 0 ≤ i ∧ i < (R p).length ∧ 0 ≤ j ∧ j < (R p).length ∧ i < j := ⟨c1, c2.1, c2.2, c3.1, c3.2, c4⟩
          obtain ⟨il, eil⟩ : ∃ l : Nat, i = l := ⟨i.toNat, by omega⟩
          obtain ⟨jl, ejl⟩ : ∃ l : Nat, j = l := ⟨j.toNat, by omega⟩
          have til : i.toNat = il := by omega
          have tjl : j.toNat = jl := by omega
          have lp6 := (hs.2.2 p hp).1.2.1
          obtain ⟨E1, m1, f1, h98, hbr⟩ := lay2_ok (E := E) hM hs hp hp hlo
          have e53 : E1 53 = E 53 := f1 53 (by simp)
          obtain ⟨x, E2, m2, f2, hx⟩ := unites_ok (E := E1) (i := 30 * i) (j := 30 * j) (u := (lit (R p) il).2) (v := (lit (R p) jl).2) hM (by rw [e53]; exact hP) h98 (by rw [e53]; exact (brd_tw (n := p) hs hp (by omega)).1) (by have := hbr.1 il (by omega); rw [Int.zero_add, ← eil] at this; exact this) (by rw [e53]; exact (brd_tw (n := p) hs hp (by omega)).1) (by have := hbr.1 jl (by omega); rw [Int.zero_add, ← ejl] at this; exact this)
          rw [e53] at hx
          have hf2 : fz [97, 98, 99, 100, 101] E E2 := fz_trans (fz_mono f1 (by simp)) (fz_mono f2 (by simp))
          have pre : ∀ kz (Q : Option zV → zH → Prop), (x ≠ 0 → ∀ E_24, E_24 = zuE E2 50 24 0 → ∃ x_25 E_26, zM zm_X12_writesAll [zR 50, zI (p : Int), zI 0, zI j] (d, G, E_24) (some (zI x_25)) (d, G, E_26) ∧ (x_25 = 0 → Q (some (zI 0)) (d, G, E_26)) ∧ (¬ (x_25 = 0) → Q (some (zI 1)) (d, G, E_26))) → (¬ (x ≠ 0) → Q (some (zI ((-1)))) (d, G, E2)) → Z zm_X12_factor kz Q 0 [(0, zR 50), (1, zI (p : Int)), (2, zI i), (3, zI j)] [] (d, G, E) := fun kz Q k1 k2 =>
            X12_factor_0 hM ⟨_, pp, fun z => absurd z (by decide), fun _ => ⟨_, pl, fun z => absurd z (by decide), fun _ => ⟨_, pj, fun z => absurd z (by decide), fun _ => ⟨fun _ => ⟨E1, m1, zin_of (by omega) (by omega), zin_of (by omega) (by omega), x, E2, m2, k1, k2⟩, fun z => absurd c4 z⟩⟩⟩⟩
          rcases hx with ⟨x1, b, rk, hun, hb, hU⟩ | ⟨x0, hun⟩
          · obtain ⟨y, E4, m4, f4, j4, y01, h4⟩ := allBut_ok (E := E) (p := p) (q := p) (but := j) hM hP hs hp hb hU (brd_97 hbr (f2 97 (by simp))) hf2
            refine ⟨y, E4, _, zM_e rfl (Nat.le_of_ble_eq_true rfl) (fun kz Q hQ => pre kz Q (fun _ H e => ?_) (fun q => absurd (by omega) q)), f4, j4, Or.inr ⟨cond, Or.inr ⟨b, by rw [til, tjl]; exact hun, rfl⟩⟩, h4⟩
            rw [e]
            refine ⟨y, E4, m4, fun q => ?_, fun q => ?_⟩
            · rw [q] at hQ; exact hQ
            · have : y = 1 := by omega
              rw [this] at hQ; exact hQ
          · exact ⟨-1, E2, none, zM_e rfl (Nat.le_of_ble_eq_true rfl) (fun kz Q hQ => pre kz Q (fun z => absurd x0 z) (fun _ => hQ)), fz_mono hf2 (by simp [mS]), fun j _ _ => by rw [hf2 50 (by simp)], Or.inr ⟨cond, Or.inl ⟨by rw [til, tjl]; exact hun, rfl⟩⟩, Or.inl ⟨rfl, rfl⟩⟩
        · exact no (fun z => c4 z.2.2.2.2.2) (fun kz Q hQ => X12_factor_0 hM ⟨_, pp, fun z => absurd z (by decide), fun _ => ⟨_, pl, fun z => absurd z (by decide), fun _ => ⟨_, pj, fun z => absurd z (by decide), fun _ => ⟨fun z => absurd z c4, fun _ => hQ⟩⟩⟩⟩)
      · rw [if_neg (by omega)] at pj
        exact no (fun z => c3 ⟨z.2.2.2.1, z.2.2.2.2.1⟩) (fun kz Q hQ => X12_factor_0 hM ⟨_, pp, fun z => absurd z (by decide), fun _ => ⟨_, pl, fun z => absurd z (by decide), fun _ => ⟨_, pj, fun _ => hQ, fun z => absurd rfl z⟩⟩⟩)
    · rw [if_neg (by omega)] at pl
      exact no (fun z => c2 ⟨z.2.1, z.2.2.1⟩) (fun kz Q hQ => X12_factor_0 hM ⟨_, pp, fun z => absurd z (by decide), fun _ => ⟨_, pl, fun _ => hQ, fun z => absurd rfl z⟩⟩)
  · rw [if_neg c1] at pp
    exact no (fun z => c1 z.1) (fun kz Q hQ => X12_factor_0 hM ⟨_, pp, fun _ => hQ, fun z => absurd rfl z⟩)
/-- the sides of an EQUAL, as words -/
theorem sd_parts {P : Int → Int} (hP : pok P) (h2 : P 0 = 2) {A : List zLt} {l : Nat} (ha : wok1 P (lit A l).2) (h0 : fw (lit A l).2 0 = 0) : ∃ t u : Nat, 1 + t + u = (lit A l).2.length ∧ 0 < t ∧ 0 < u ∧ tl P (fw (lit A l).2) 1 = t ∧ (lsd P A l).length = t ∧ (rsd P A l).length = u ∧ tw P (lsd P A l) ∧ tw P (rsd P A l) ∧ (lit A l).2 = [0] ++ (lsd P A l ++ rsd P A l) := by
  obtain ⟨t, u, t1, t2, t3, t4⟩ := wok1_eq hP h2 ha h0
  have hl : 1 < (lit A l).2.length := by have := nd_ge t1; have := nd_ge t2; omega
  obtain ⟨m, m0, m1, m2, m3, m4, m5, m6⟩ := tat_ok (p := 1) hP ha.1 hl
  have em : m = t := by
    have := tm_uniq (by exact m3 : tm P (fw (lit A l).2) ((1 : Nat) : Int) m) (by exact t1)
    exact this
  subst em
  have hl2 : 1 + m < (lit A l).2.length := by have := nd_ge t2; omega
  obtain ⟨n, n0, n1, n2, n3, n4, n5, n6⟩ := tat_ok (p := 1 + m) hP ha.1 hl2
  have e1 : ((1 + m : Nat) : Int) = 1 + (m : Int) := by omega
  have en : n = u := by
    rw [e1] at n3
    exact tm_uniq n3 t2
  subst en
  have er : rsd P A l = tat P (lit A l).2 (1 + m) := by unfold rsd; rw [t4]
  refine ⟨m, n, t3, m0, n0, t4, m4, by rw [er]; exact n4, m5, by rw [er]; exact n5, ?_⟩
  rw [er]
  have d1 : (lit A l).2 = (lit A l).2.take 1 ++ (lit A l).2.drop 1 := (List.take_append_drop 1 _).symm
  have d0 : (lit A l).2.take 1 = [0] := by
    obtain ⟨c, y, e⟩ := List.exists_cons_of_ne_nil (tw_ne ha.1)
    rw [e, fw_c0] at h0
    rw [e, h0]; rfl
  have d2 : (lit A l).2.drop 1 = tat P (lit A l).2 1 ++ tat P (lit A l).2 (1 + m) := by
    have x1 : tat P (lit A l).2 1 = ((lit A l).2.drop 1).take m := by unfold tat; rw [m1]
    have x2 : tat P (lit A l).2 (1 + m) = ((lit A l).2.drop 1).drop m := by
      unfold tat
      rw [n1, List.drop_drop]
      exact List.take_of_length_le (by rw [List.length_drop]; omega)
    rw [x1, x2, List.take_append_drop]
  rw [d0, d2] at d1
  exact d1
theorem drop_ok {K p : Nat} {R : Nat → List zLt} (hM : zK zMt d G) (hP : pok (E 53)) (hW : wok (E 54)) (h2 : E 53 0 = 2) (hs : stM E (E 53) (E 54) K R) (hp : p < K) (hlo : ∀ i : Int, -1000 ≤ E 58 i) :
    ∃ (x : Int) (E' : Nat → Int → Int) (r : Option (Option (List zLt))), zM zm_X12_drop [zR 50, zI (p : Int)] (d, G, E) (some (zI x)) (d, G, E') ∧ fz mS E E' ∧ m50 E E' ∧ drR (E 53) (E 54) (R p) r ∧ mkM E' r x := by
  have hK := hs.2.1
  have pc := chosenOf_ok (E := E) hM hs hp hW
  by_cases c1 : chs (E 54) (R p) = -1
  · exact ⟨-1, E, none, zM_e rfl (Nat.le_of_ble_eq_true rfl) (fun kz Q hQ => X12_drop_0 hM ⟨_, pc, fun _ => hQ, fun z => absurd c1 z⟩), fz_rfl, fun _ _ _ => rfl, Or.inl ⟨fun z => z.1 c1, rfl⟩, Or.inl ⟨rfl, rfl⟩⟩
  obtain ⟨h0, h1, _⟩ := chs_nn hW (hs.2.2 p hp).2 c1
  obtain ⟨cl, ecl⟩ : ∃ l : Nat, chs (E 54) (R p) = l := ⟨(chs (E 54) (R p)).toNat, by omega⟩
  have tcl : (chs (E 54) (R p)).toNat = cl := by omega
  have lp6 := (hs.2.2 p hp).1.2.1
  have hcl : cl < (R p).length := by omega
  obtain ⟨b1, b2, b3, b4, b5⟩ := (hs.2.2 p hp).1.2.2 cl hcl
  have wk := (hs.2.2 p hp).2.1 cl hcl
  have e58 : E 58 (180 * (p : Int) + 30 * chs (E 54) (R p)) = fw (lit (R p) cl).2 0 := by
    have := b5 0 (wok1_pos wk)
    rw [fw_0, ← fw_nat] at this
    rw [ecl]
    have e : 180 * (p : Int) + 30 * (cl : Int) = 30 * (6 * (p : Int) + cl) + ((0 : Nat) : Int) := by omega
    rw [e]; exact this
  by_cases c2 : fw (lit (R p) cl).2 0 = 0
  · have cond : chs (E 54) (R p) ≠ -1 ∧ fw (lit (R p) (chs (E 54) (R p)).toNat).2 0 = 0 := ⟨c1, by rw [tcl]; exact c2⟩
    obtain ⟨t, u, s1, s2, s3, s4, s5, s6, s7, s8, s9⟩ := sd_parts hP h2 wk c2
    obtain ⟨E1, m1, f1, h98, hbr⟩ := lay2_ok (E := E) hM hs hp hp hlo
    have e53 : E1 53 = E 53 := f1 53 (by simp)
    have ob := hbr.1 cl hcl
    rw [s9] at ob
    have ol := onM_r ob (j := 30 * (chs (E 54) (R p)) + 1) (by simp; omega)
    have oll := onM_l ol
    have olr := onM_r ol (j := 30 * (chs (E 54) (R p)) + 1 + t) (by rw [s5])
    have me := endM (F := E1) hM (by rw [e53]; exact hP) oll (by rw [e53]; exact s7)
    rw [s5] at me
    obtain ⟨x, E2, m2, f2, hx⟩ := unites_ok (E := E1) (u := lsd (E 53) (R p) cl) (v := rsd (E 53) (R p) cl) hM (by rw [e53]; exact hP) h98 (by rw [e53]; exact s7) oll (by rw [e53]; exact s8) olr
    rw [e53] at hx
    have hf2 : fz [97, 98, 99, 100, 101] E E2 := fz_trans (fz_mono f1 (by simp)) (fz_mono f2 (by simp))
    have pre : ∀ kz (Q : Option zV → zH → Prop), (x ≠ 0 → ∀ E_23, E_23 = zuE E2 50 24 0 → ∃ x_24 E_25, zM zm_X12_writesAll [zR 50, zI (p : Int), zI 0, zI (chs (E 54) (R p))] (d, G, E_23) (some (zI x_24)) (d, G, E_25) ∧ (x_24 = 0 → Q (some (zI 0)) (d, G, E_25)) ∧ (¬ (x_24 = 0) → Q (some (zI 1)) (d, G, E_25))) → (¬ (x ≠ 0) → Q (some (zI ((-1)))) (d, G, E2)) → Z zm_X12_drop kz Q 0 [(0, zR 50), (1, zI (p : Int))] [] (d, G, E) := fun kz Q k1 k2 =>
      X12_drop_0 hM ⟨_, pc, fun z => absurd z c1, fun _ => ⟨zin_of (by omega) (by omega), zin_of (by omega) (by omega), zin_of (by omega) (by omega), ⟨by omega, by omega⟩, fun _ => ⟨E1, m1, zin_of (by omega) (by omega), zin_of (by omega) (by omega), _, me, x, E2, m2, k1, k2⟩, fun z => absurd (by rw [e58]; exact c2) z⟩⟩
    rcases hx with ⟨x1, b, rk, hun, hb, hU⟩ | ⟨x0, hun⟩
    · obtain ⟨y, E4, m4, f4, j4, y01, h4⟩ := allBut_ok (E := E) (p := p) (q := p) (but := chs (E 54) (R p)) hM hP hs hp hb hU (brd_97 hbr (f2 97 (by simp))) hf2
      refine ⟨y, E4, _, zM_e rfl (Nat.le_of_ble_eq_true rfl) (fun kz Q hQ => pre kz Q (fun _ H e => ?_) (fun q => absurd (by omega) q)), f4, j4, Or.inr ⟨cond, Or.inr ⟨b, by rw [tcl]; exact hun, rfl⟩⟩, h4⟩
      rw [e]
      refine ⟨y, E4, m4, fun q => ?_, fun q => ?_⟩
      · rw [q] at hQ; exact hQ
      · have : y = 1 := by omega
        rw [this] at hQ; exact hQ
    · exact ⟨-1, E2, none, zM_e rfl (Nat.le_of_ble_eq_true rfl) (fun kz Q hQ => pre kz Q (fun z => absurd x0 z) (fun _ => hQ)), fz_mono hf2 (by simp [mS]), fun j _ _ => by rw [hf2 50 (by simp)], Or.inr ⟨cond, Or.inl ⟨by rw [tcl]; exact hun, rfl⟩⟩, Or.inl ⟨rfl, rfl⟩⟩
  · exact ⟨-1, E, none, zM_e rfl (Nat.le_of_ble_eq_true rfl) (fun kz Q hQ => X12_drop_0 hM ⟨_, pc, fun z => absurd z c1, fun _ => ⟨zin_of (by omega) (by omega), zin_of (by omega) (by omega), zin_of (by omega) (by omega), ⟨by omega, by omega⟩, fun z => absurd (by rw [← e58]; exact z) c2, fun _ => hQ⟩⟩), fz_rfl, fun _ _ _ => rfl, Or.inl ⟨fun z => c2 (by rw [← tcl]; exact z.2), rfl⟩, Or.inl ⟨rfl, rfl⟩⟩
end RS
