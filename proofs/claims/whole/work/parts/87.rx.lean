/-! ===== steps: the class, factor, drop ===== -/
section RX
variable {d : List Nat} {G : Nat → Int → Option Nat} {E : Nat → Int → Int}
/-- behind a standing told over one claim alone: all but one -/
theorem tail1_ok {K p : Nat} {R : Nat → List zLt} {but : Int} {b : zBd} {rk : Int → Nat} {E1 E3 : Nat → Int → Int} (hX : zK zXt d G) (hP : pok (E 3)) (hs : stC d G E (E 3) (E 4) K R) (hp : p < K) (hr10 : zRk d G 10) (hA : rowC E 10 []) (f1 : fz [21] E E1) (b1 : brC E1 (R p)) (f3 : fz uS E1 E3) (hb : bw (E 3) b rk) (hU : bdU E3 b) :
    ∃ (y : Int) (E4 : Nat → Int → Int), zM zm_X3_writeAllBut [zR 41, zR (qn p + 1), zI but, zI 0, zR 10] (d, G, E3) (some (zI y)) (d, G, E4) ∧ fz kS E E4 ∧ E4 19 = E 19 ∧ stI E4 ∧ (y = 0 ∨ y = 1) ∧ mkC E4 (some (adds [] (frm (R p) but (sb (th b)) (R p).length 0))) (y + 1) := by
  have hf3 : fz kS E E3 := fz_trans (fz_mono f1 (by simp [kS])) (fz_mono f3 (by simp [kS, uS]))
  have e19 : E3 19 = E 19 := by rw [f3 19 (by simp [uS]), f1 19 (by simp)]
  have s3 : stC d G E3 (E 3) (E 4) K R := stC_fz hs hf3 (by simp [kS]) (by rw [hf3 5 (by simp [kS])])
  have e33 : E3 3 = E 3 := hf3 3 (by simp [kS])
  have e34 : E3 4 = E 4 := hf3 4 (by simp [kS])
  have g21 : E3 21 = E1 21 := f3 21 (by simp [uS])
  have g1011 : fz [20, 21, 22, 23, 24, 25, 26, 27, 28] E E3 := fz_trans (fz_mono f1 (by simp)) (fz_mono f3 (by simp [uS]))
  have hA3 : rowC E3 10 [] := rowC_fz hA g1011 (by decide) (by decide) (by decide) (by decide)
  obtain ⟨y, E4, m4, f4, hU4, y01, h4⟩ := allButC_ok (E := E3) (b := b) (rk := rk) (p := p) (but := but) true hX (by rw [e33]; exact hP) (by rw [e33, e34]; exact s3) hp hr10 (by rw [e33]; exact hb) hU (fun l hl => by have := b1 l hl; unfold onB at *; rw [g21]; exact this) hA3
  refine ⟨y, E4, m4, fz_trans hf3 (fz_mono f4 (by simp [kS])), by rw [f4 19 (by simp)]; exact e19, bdU_stI hb hU4, y01, ?_⟩
  rcases h4 with ⟨y1, A1, hA1, hr1⟩ | ⟨y0, hA1⟩
  · have e : adds [] (frm (R p) but (sb (th b)) (R p).length 0) = some A1 := hA1
    exact Or.inr (Or.inr ⟨A1, by rw [e], by omega, hr1⟩)
  · have e : adds [] (frm (R p) but (sb (th b)) (R p).length 0) = none := hA1
    exact Or.inr (Or.inl ⟨by rw [e], by omega⟩)
theorem stI_fz {E' : Nat → Int → Int} {S : List Nat} (h : stI E) (f : fz S E E') (h1 : 20 ∉ S) (h2 : 22 ∉ S) (h3 : 23 ∉ S) : stI E' := by
  unfold stI at *; rw [f 20 h1, f 22 h2, f 23 h3]; exact h
theorem makeFactor_ok {K p : Nat} {R : Nat → List zLt} {i j : Int} (hX : zK zXt d G) (hP : pok (E 3)) (hs : stC d G E (E 3) (E 4) K R) (h9 : ∀ c : Nat, c < K → E (qn c) 9 = chs (E 4) (R c)) (hI : stI E) (hr10 : zRk d G 10) (hA : rowC E 10 []) (hub : UB (E 3)) (hp : p < K) :
    ∃ (x : Int) (E' : Nat → Int → Int) (r : Option (Option (List zLt))), zM zm_X3_makeFactor [zR 41, zR (qn p), zI i, zI j, zR 10] (d, G, E) (some (zI x)) (d, G, E') ∧ fz kS E E' ∧ E' 19 = E 19 ∧ stI E' ∧ faR (E 3) (E 4) (R p) i j r ∧ mkC E' r x := by
  obtain ⟨gp, hcp, ⟨hRp, _⟩, rkp⟩ := hs.2.2 p hp
  have pp := isPositiveC_ok (E := E) hX hcp
  rw [h9 p hp] at pp
  have pi := has_ok (E := E) hX hcp.2.2.1 hRp i
  have pj := has_ok (E := E) hX hcp.2.2.1 hRp j
  have no : ∀ (hno : ¬ (chs (E 4) (R p) = -1 ∧ 0 ≤ i ∧ i < (R p).length ∧ 0 ≤ j ∧ j < (R p).length ∧ i < j)) (z : ∀ kz (Q : Option zV → zH → Prop), Q (some (zI 0)) (d, G, E) → Z zm_X3_makeFactor kz Q 0 [(0, zR 41), (1, zR (qn p)), (2, zI i), (3, zI j), (4, zR 10)] [] (d, G, E)), ∃ (x : Int) (E' : Nat → Int → Int) (r : Option (Option (List zLt))), zM zm_X3_makeFactor [zR 41, zR (qn p), zI i, zI j, zR 10] (d, G, E) (some (zI x)) (d, G, E') ∧ fz kS E E' ∧ E' 19 = E 19 ∧ stI E' ∧ faR (E 3) (E 4) (R p) i j r ∧ mkC E' r x :=
    fun hno z => ⟨0, E, none, zM_e rfl (Nat.le_of_ble_eq_true rfl) (fun kz Q hQ => z kz Q hQ), fz_rfl, rfl, hI, Or.inl ⟨hno, rfl⟩, Or.inl ⟨rfl, rfl⟩⟩
  by_cases c1 : chs (E 4) (R p) = -1
  case neg =>
    rw [if_neg c1] at pp
    exact no (fun z => c1 z.1) (fun kz Q hQ => X3_makeFactor_0 hX hcp hr10 ⟨_, pp, fun _ => hQ, fun z => absurd rfl z⟩)
  rw [if_pos c1] at pp
  by_cases c2 : 0 ≤ i ∧ i < (R p).length
  case neg =>
    rw [if_neg c2] at pi
    exact no (fun z => c2 ⟨z.2.1, z.2.2.1⟩) (fun kz Q hQ => X3_makeFactor_0 hX hcp hr10 ⟨_, pp, fun z => absurd z (by decide), fun _ => ⟨_, pi, fun _ => hQ, fun z => absurd rfl z⟩⟩)
  rw [if_pos c2] at pi
  by_cases c3 : 0 ≤ j ∧ j < (R p).length
  case neg =>
    rw [if_neg c3] at pj
    exact no (fun z => c3 ⟨z.2.2.2.1, z.2.2.2.2.1⟩) (fun kz Q hQ => X3_makeFactor_0 hX hcp hr10 ⟨_, pp, fun z => absurd z (by decide), fun _ => ⟨_, pi, fun z => absurd z (by decide), fun _ => ⟨_, pj, fun _ => hQ, fun z => absurd rfl z⟩⟩⟩)
  rw [if_pos c3] at pj
  by_cases c4 : i < j
  case neg => exact no (fun z => c4 z.2.2.2.2.2) (fun kz Q hQ => X3_makeFactor_0 hX hcp hr10 ⟨_, pp, fun z => absurd z (by decide), fun _ => ⟨_, pi, fun z => absurd z (by decide), fun _ => ⟨_, pj, fun z => absurd z (by decide), fun _ => ⟨fun z => absurd z c4, fun _ => hQ⟩⟩⟩⟩)
  have cond : chs (E 4) (R p) = -1 ∧ 0 ≤ i ∧ i < (R p).length ∧ 0 ≤ j ∧ j < (R p).length ∧ i < j := ⟨c1, c2.1, c2.2, c3.1, c3.2, c4⟩
  obtain ⟨il, eil⟩ : ∃ l : Nat, i = l := ⟨i.toNat, by omega⟩
  obtain ⟨jl, ejl⟩ : ∃ l : Nat, j = l := ⟨j.toNat, by omega⟩
  have til : i.toNat = il := by omega
  have tjl : j.toNat = jl := by omega
  have hil : il < (R p).length := by omega
  have hjl : jl < (R p).length := by omega
  have lp6 := hRp.2.1
  have wi := rkp.1 il hil
  have wj := rkp.1 jl hjl
  have bi := (hRp.2.2.2 il hil).2.2.1
  have bj := (hRp.2.2.2 jl hjl).2.2.1
  obtain ⟨E1, m1, f1, b1⟩ := layF_ok (E := E) hX hcp.2.2.1 hRp rkp.2.1
  have e13 : E1 3 = E 3 := f1 3 (by simp)
  have hRp1 : rowC E1 (qn p + 1) (R p) := rowC_fz hRp f1 (by simp [qn]; omega) (by simp [qn]; omega) (by simp [qn]; omega) (by simp [qn]; omega)
  have sp := hRp1.2.2.1 il (by omega)
  have sj := hRp1.2.2.1 jl (by omega)
  have ob1 := b1 il hil
  rw [Int.zero_add] at ob1
  have ob2 := b1 jl hjl
  rw [Int.zero_add] at ob2
  have om : offs (R p) (il + 1) ≤ offs (R p) jl := offs_mono (by omega)
  have os : offs (R p) (il + 1) = offs (R p) il + (lit (R p) il).2.length := rfl
  obtain ⟨x, E3, m3, f3, _, hI3, hx⟩ := widen_ok (E := E1) (u := (lit (R p) il).2) (v := (lit (R p) jl).2) hX (by rw [e13]; exact hP) (stI_fz hI f1 (by simp) (by simp) (by simp)) (by rw [e13]; exact wi.1) ob1 (by rw [e13]; exact wj.1) ob2 (by omega) bi bj (by rw [e13]; exact hub _ _ wi.1 wj.1 ob1.2.2.2 ob2.2.2.2 bi bj)
  rw [e13] at hx
  have hf3 : fz kS E E3 := fz_trans (fz_mono f1 (by simp [kS])) (fz_mono f3 (by simp [kS, uS]))
  have e19 : E3 19 = E 19 := by rw [f3 19 (by simp [uS]), f1 19 (by simp)]
  have pre : ∀ kz (Q : Option zV → zH → Prop), (x ≠ 0 → ∃ x_24 E_25, zM zm_X3_writeAllBut [zR 41, zR (qn p + 1), zI j, zI 0, zR 10] (d, G, E3) (some (zI x_24)) (d, G, E_25) ∧ (x_24 = 0 → Q (some (zI 1)) (d, G, E_25)) ∧ (¬ (x_24 = 0) → Q (some (zI 2)) (d, G, E_25))) → (¬ (x ≠ 0) → Q (some (zI 0)) (d, G, E3)) → Z zm_X3_makeFactor kz Q 0 [(0, zR 41), (1, zR (qn p)), (2, zI i), (3, zI j), (4, zR 10)] [] (d, G, E) := fun kz Q k1 k2 => by
    refine X3_makeFactor_0 hX hcp hr10 ⟨_, pp, fun z => absurd z (by decide), fun _ => ⟨_, pi, fun z => absurd z (by decide), fun _ => ⟨_, pj, fun z => absurd z (by decide), fun _ => ⟨fun _ => ⟨E1, m1, ⟨by omega, by omega⟩, ⟨by omega, by omega⟩, ?_⟩, fun z => absurd c4 z⟩⟩⟩⟩
    rw [ejl] at k1
    rw [eil, ejl, sp, sj]
    exact ⟨x, E3, m3, k1, k2⟩
  rcases hx with ⟨x1, b, rk, hun, hb, hU⟩ | ⟨x0, hun⟩
  case inr => exact ⟨0, E3, none, zM_e rfl (Nat.le_of_ble_eq_true rfl) (fun kz Q hQ => pre kz Q (fun z => absurd x0 z) (fun _ => hQ)), hf3, e19, hI3, Or.inr ⟨cond, Or.inl ⟨by rw [til, tjl]; exact hun, rfl⟩⟩, Or.inl ⟨rfl, rfl⟩⟩
  obtain ⟨y, E4, m4, f4, q19, hI4, y01, h4⟩ := tail1_ok (E := E) (but := j) hX hP hs hp hr10 hA f1 b1 f3 hb hU
  refine ⟨y + 1, E4, _, zM_e rfl (Nat.le_of_ble_eq_true rfl) (fun kz Q hQ => pre kz Q (fun _ => ⟨y, E4, m4, fun q => ?_, fun q => ?_⟩) (fun q => absurd (by omega) q)), f4, q19, hI4, Or.inr ⟨cond, Or.inr ⟨b, by rw [til, tjl]; exact hun, rfl⟩⟩, h4⟩
  · rw [q] at hQ; exact hQ
  · have : y = 1 := by omega
    rw [this] at hQ; exact hQ
theorem makeDrop_ok {K p : Nat} {R : Nat → List zLt} (hX : zK zXt d G) (hP : pok (E 3)) (hW : wok (E 4)) (h2 : E 3 0 = 2) (hs : stC d G E (E 3) (E 4) K R) (h9 : ∀ c : Nat, c < K → E (qn c) 9 = chs (E 4) (R c)) (hI : stI E) (hr10 : zRk d G 10) (hA : rowC E 10 []) (hub : UB (E 3)) (hp : p < K) :
    ∃ (x : Int) (E' : Nat → Int → Int) (r : Option (Option (List zLt))), zM zm_X3_makeDrop [zR 41, zR (qn p), zR 10] (d, G, E) (some (zI x)) (d, G, E') ∧ fz kS E E' ∧ E' 19 = E 19 ∧ stI E' ∧ drR (E 3) (E 4) (R p) r ∧ mkC E' r x := by
  obtain ⟨gp, hcp, ⟨hRp, _⟩, rkp⟩ := hs.2.2 p hp
  have h9p := h9 p hp
  obtain ⟨xe, me, hxe⟩ := isEqual_ok (E := E) hX hcp.2.2.1 hRp (fun l hl => wok1_pos (rkp.1 l hl)) (E (qn p) 9)
  rw [h9p] at hxe
  by_cases c1 : chs (E 4) (R p) = -1
  case pos =>
    have x0 : xe = 0 := by
      rcases hxe with ⟨a, b, _⟩ | ⟨a, _⟩
      · omega
      · exact a
    exact ⟨0, E, none, zM_e rfl (Nat.le_of_ble_eq_true rfl) (fun kz Q hQ => X3_makeDrop_0 hX hcp hr10 ⟨xe, me, fun z => absurd x0 z, fun _ => hQ⟩), fz_rfl, rfl, hI, Or.inl ⟨fun z => z.1 c1, rfl⟩, Or.inl ⟨rfl, rfl⟩⟩
  obtain ⟨h0, h1, _⟩ := chs_nn hW rkp c1
  obtain ⟨cl, ecl⟩ : ∃ l : Nat, chs (E 4) (R p) = l := ⟨(chs (E 4) (R p)).toNat, by omega⟩
  have tcl : (chs (E 4) (R p)).toNat = cl := by omega
  have hcl : cl < (R p).length := by omega
  have eg : (lit (R p) (chs (E 4) (R p)).toNat).2.getD 0 0 = fw (lit (R p) cl).2 0 := by rw [tcl, ← fw_nat]; rfl
  by_cases c2 : fw (lit (R p) cl).2 0 = 0
  case neg =>
    have x0 : xe = 0 := by
      rcases hxe with ⟨a, b, c, e⟩ | ⟨a, _⟩
      · rw [eg] at e; exact absurd e c2
      · exact a
    exact ⟨0, E, none, zM_e rfl (Nat.le_of_ble_eq_true rfl) (fun kz Q hQ => X3_makeDrop_0 hX hcp hr10 ⟨xe, me, fun z => absurd x0 z, fun _ => hQ⟩), fz_rfl, rfl, hI, Or.inl ⟨fun z => c2 (by rw [← tcl]; exact z.2), rfl⟩, Or.inl ⟨rfl, rfl⟩⟩
  have x1e : xe ≠ 0 := by
    rcases hxe with ⟨a, _⟩ | ⟨_, b⟩
    · omega
    · exact absurd ⟨h0, h1, by rw [eg]; exact c2⟩ b
  have cond : chs (E 4) (R p) ≠ -1 ∧ fw (lit (R p) (chs (E 4) (R p)).toNat).2 0 = 0 := ⟨c1, by rw [tcl]; exact c2⟩
  have lp6 := hRp.2.1
  have wk := rkp.1 cl hcl
  have bc := (hRp.2.2.2 cl hcl).2.2.1
  obtain ⟨t, u, s1, s2, s3, s4, s5, s6, s7, s8, s9⟩ := sd_parts hP h2 wk c2
  obtain ⟨E1, m1, f1, b1⟩ := layF_ok (E := E) hX hcp.2.2.1 hRp rkp.2.1
  have e13 : E1 3 = E 3 := f1 3 (by simp)
  have sp := hRp.2.2.1 cl (by omega)
  have op := low_180 hRp cl hcl
  have ob := b1 cl hcl
  rw [s9] at ob
  have ol := onB_r ob (j := (offs (R p) cl : Int) + 1) (by simp)
  have oll := onB_l ol
  have olr := onB_r ol (j := (offs (R p) cl : Int) + 1 + t) (by rw [s5])
  -- the row itself, for the end of the left side
  have lkr : lk (E1 (qn p + 1 + 1)) ((offs (R p) cl : Int) + 1) (fw (lsd (E 3) (R p) cl)) 0 (lsd (E 3) (R p) cl).length := fun k hk => by
    rw [s5] at hk
    rw [f1 (qn p + 1 + 1) (by simp [qn]; omega)]
    have e : (offs (R p) cl : Int) + 1 + k = (offs (R p) cl : Int) + ((1 + k : Nat) : Int) := by omega
    rw [e, rowC_lk hRp hcl (1 + k) (by omega)]
    have e2 := congrArg (fun w => fw w (0 + ((1 + k : Nat) : Int))) s9
    rw [e2, fw_ar (v := [0]) (k := k) (by simp), fw_al (k := k) rfl (by omega), fw_0, fw_nat]
  have ma : zM zm_X8_after [zR 1, zR (qn p + 1 + 1), zI ((offs (R p) cl : Int) + 1)] (d, G, E1) (some (zI ((offs (R p) cl : Int) + 1 + (lsd (E 3) (R p) cl).length))) (d, G, E1) := after_ok (E := E1) (a := qn p + 1 + 1) (n := 180) hX hcp.2.2.1.2.2.2.2.2.1 hcp.2.2.1.2.1 (by rw [e13]; exact hP) (by rw [e13]; exact tm_congr s7 (fun k hk => (lkr k hk).symm)) (by omega) (by omega) (by omega)
  rw [s5] at ma
  obtain ⟨x, E3, m3, f3, _, hI3, hx⟩ := widen_ok (E := E1) (u := lsd (E 3) (R p) cl) (v := rsd (E 3) (R p) cl) hX (by rw [e13]; exact hP) (stI_fz hI f1 (by simp) (by simp) (by simp)) (by rw [e13]; exact s7) oll (by rw [e13]; exact s8) olr (by rw [s5]; omega) (by omega) (by omega) (by rw [e13]; exact hub _ _ s7 s8 oll.2.2.2 olr.2.2.2 (by omega) (by omega))
  rw [e13] at hx
  have hf3 : fz kS E E3 := fz_trans (fz_mono f1 (by simp [kS])) (fz_mono f3 (by simp [kS, uS]))
  have e19 : E3 19 = E 19 := by rw [f3 19 (by simp [uS]), f1 19 (by simp)]
  have q9 : E3 (qn p) 9 = chs (E 4) (R p) := by rw [hf3 (qn p) (by simp [kS, qn]; omega)]; exact h9p
  have pre : ∀ kz (Q : Option zV → zH → Prop), (x ≠ 0 → ∃ x_18 E_19, zM zm_X3_writeAllBut [zR 41, zR (qn p + 1), zI (chs (E 4) (R p)), zI 0, zR 10] (d, G, E3) (some (zI x_18)) (d, G, E_19) ∧ (x_18 = 0 → Q (some (zI 1)) (d, G, E_19)) ∧ (¬ (x_18 = 0) → Q (some (zI 2)) (d, G, E_19))) → (¬ (x ≠ 0) → Q (some (zI 0)) (d, G, E3)) → Z zm_X3_makeDrop kz Q 0 [(0, zR 41), (1, zR (qn p)), (2, zR 10)] [] (d, G, E) := fun kz Q k1 k2 => by
    refine X3_makeDrop_0 hX hcp hr10 ⟨xe, me, fun _ => ?_, fun z => absurd x1e z⟩
    rw [← q9] at k1
    rw [h9p, ecl, sp]
    exact ⟨⟨by omega, by omega⟩, zin_of (by omega) (by omega), E1, m1, _, ma, x, E3, m3, k1, k2⟩
  rcases hx with ⟨x1, b, rk, hun, hb, hU⟩ | ⟨x0, hun⟩
  case inr => exact ⟨0, E3, none, zM_e rfl (Nat.le_of_ble_eq_true rfl) (fun kz Q hQ => pre kz Q (fun z => absurd x0 z) (fun _ => hQ)), hf3, e19, hI3, Or.inr ⟨cond, Or.inl ⟨by rw [tcl]; exact hun, rfl⟩⟩, Or.inl ⟨rfl, rfl⟩⟩
  obtain ⟨y, E4, m4, f4, q19, hI4, y01, h4⟩ := tail1_ok (E := E) (but := chs (E 4) (R p)) hX hP hs hp hr10 hA f1 b1 f3 hb hU
  refine ⟨y + 1, E4, _, zM_e rfl (Nat.le_of_ble_eq_true rfl) (fun kz Q hQ => pre kz Q (fun _ => ⟨y, E4, m4, fun q => ?_, fun q => ?_⟩) (fun q => absurd (by omega) q)), f4, q19, hI4, Or.inr ⟨cond, Or.inr ⟨b, by rw [tcl]; exact hun, rfl⟩⟩, h4⟩
  · rw [q] at hQ; exact hQ
  · have : y = 1 := by omega
    rw [this] at hQ; exact hQ
end RX
