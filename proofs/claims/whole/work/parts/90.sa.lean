/-! ===== steps: the class, turn, whole ===== -/
section SA
variable {d : List Nat} {G : Nat → Int → Option Nat} {E : Nat → Int → Int}
theorem makeTurn_ok {K p n a3 : Nat} {R : Nat → List zLt} {i s j pl : Int} (hX : zK zXt d G) (hP : pok (E 3)) (hW : wok (E 4)) (h2 : E 3 0 = 2) (h19 : ∀ L : Int, 0 ≤ L → L < 40 → E 19 L = 0) (hs : stC d G E (E 3) (E 4) K R) (h9 : ∀ c : Nat, c < K → E (qn c) 9 = chs (E 4) (R c)) (hI : stI E) (hr10 : zRk d G 10) (hA : rowC E 10 []) (hub : UB (E 3)) (hp : p < K) (hn : n < K) (ha : a3 ∈ d) (hk : zkd a3 = (0, 7)) (e2 : E a3 2 = i) (e3 : E a3 3 = s) (e5 : E a3 5 = j) (e6 : E a3 6 = pl) :
    ∃ (x : Int) (E' : Nat → Int → Int) (r : Option (Option (List zLt))), zM zm_X3_makeTurn [zR 41, zR (qn p), zR (qn n), zR a3, zR 10] (d, G, E) (some (zI x)) (d, G, E') ∧ fz kS E E' ∧ (∀ L : Int, 0 ≤ L → L < 40 → E' 19 L = 0) ∧ stI E' ∧ tuRl (E 3) (E 4) (R p) i s (R n) j pl r ∧ mkC E' r x := by
  obtain ⟨gp, hcp, ⟨hRp, _⟩, rkp⟩ := hs.2.2 p hp
  obtain ⟨gn, hcn, ⟨hRn, _⟩, rkn⟩ := hs.2.2 n hn
  have pp := isPositiveC_ok (E := E) hX hcp
  rw [h9 p hp] at pp
  have pn := isPositiveC_ok (E := E) hX hcn
  have h9n := h9 n hn
  rw [h9n] at pn
  obtain ⟨xe, me, hxe⟩ := isEqual_ok (E := E) hX hcp.2.2.1 hRp (fun l hl => wok1_pos (rkp.1 l hl)) i
  have pj := has_ok (E := E) hX hcn.2.2.1 hRn j
  have no : ∀ (hno : ¬ tuC (E 4) (R p) i s (R n) j pl) (z : ∀ kz (Q : Option zV → zH → Prop), Q (some (zI 0)) (d, G, E) → Z zm_X3_makeTurn kz Q 0 [(0, zR 41), (1, zR (qn p)), (2, zR (qn n)), (3, zR a3), (4, zR 10)] [] (d, G, E)), ∃ (x : Int) (E' : Nat → Int → Int) (r : Option (Option (List zLt))), zM zm_X3_makeTurn [zR 41, zR (qn p), zR (qn n), zR a3, zR 10] (d, G, E) (some (zI x)) (d, G, E') ∧ fz kS E E' ∧ (∀ L : Int, 0 ≤ L → L < 40 → E' 19 L = 0) ∧ stI E' ∧ tuRl (E 3) (E 4) (R p) i s (R n) j pl r ∧ mkC E' r x :=
    fun hno z => ⟨0, E, none, zM_e rfl (Nat.le_of_ble_eq_true rfl) (fun kz Q hQ => z kz Q hQ), fz_rfl, h19, hI, Or.inl ⟨hno, rfl⟩, Or.inl ⟨rfl, rfl⟩⟩
  have ent : ∀ kz (Q : Option zV → zH → Prop), (∃ x_5, zM zm_X1_isPositive [zR (qn p)] (d, G, E) (some (zI x_5)) (d, G, E) ∧ (x_5 = 0 → Q (some (zI 0)) (d, G, E)) ∧ (¬ (x_5 = 0) → ∃ x_9, zM zm_X5_isEqual [zR (qn p + 1), zI i] (d, G, E) (some (zI x_9)) (d, G, E) ∧ (x_9 = 0 → Q (some (zI 0)) (d, G, E)) ∧ (¬ (x_9 = 0) → (s < 0 → Q (some (zI 0)) (d, G, E)) ∧ (¬ (s < 0) → (s ≤ 1 → ∃ x_15, zM zm_X5_has [zR (qn n + 1), zI j] (d, G, E) (some (zI x_15)) (d, G, E) ∧ (x_15 = 0 → Q (some (zI 0)) (d, G, E)) ∧ (¬ (x_15 = 0) → ∃ x_19, zM zm_X1_isPositive [zR (qn n)] (d, G, E) (some (zI x_19)) (d, G, E) ∧ (x_19 ≠ 0 → Z zm_X3_makeTurn kz Q 81 [(0, zR 41), (1, zR (qn p)), (2, zR (qn n)), (4, zR 10), (5, zI i), (6, zI s), (7, zI j), (8, zI pl)] [] (d, G, E)) ∧ (¬ (x_19 ≠ 0) → (chs (E 4) (R n) ≠ j → Q (some (zI 0)) (d, G, E)) ∧ (¬ (chs (E 4) (R n) ≠ j) → Z zm_X3_makeTurn kz Q 81 [(0, zR 41), (1, zR (qn p)), (2, zR (qn n)), (4, zR 10), (5, zI i), (6, zI s), (7, zI j), (8, zI pl)] [] (d, G, E))))) ∧ (¬ (s ≤ 1) → Q (some (zI 0)) (d, G, E)))))) → Z zm_X3_makeTurn kz Q 0 [(0, zR 41), (1, zR (qn p)), (2, zR (qn n)), (3, zR a3), (4, zR 10)] [] (d, G, E) := fun kz Q z => by
    refine X3_makeTurn_0 hX hcp hcn ha hk hr10 ?_
    rw [e2, e3, e5, e6, h9n]
    exact ⟨⟨by omega, by omega⟩, ⟨by omega, by omega⟩, ⟨by omega, by omega⟩, ⟨by omega, by omega⟩, z⟩
  by_cases c1 : chs (E 4) (R p) = -1
  case neg =>
    rw [if_neg c1] at pp
    exact no (fun z => c1 z.1) (fun kz Q hQ => ent kz Q ⟨_, pp, fun _ => hQ, fun z => absurd rfl z⟩)
  rw [if_pos c1] at pp
  have eg : (lit (R p) i.toNat).2.getD 0 0 = fw (lit (R p) i.toNat).2 0 := by rw [← fw_nat]; rfl
  rw [eg] at hxe
  by_cases c2 : 0 ≤ i ∧ i < (R p).length ∧ fw (lit (R p) i.toNat).2 0 = 0
  case neg =>
    have x0 : xe = 0 := by
      rcases hxe with ⟨_, b⟩ | ⟨a, _⟩
      · exact absurd b c2
      · exact a
    exact no (fun z => c2 ⟨z.2.1.1, z.2.1.2, z.2.2.1⟩) (fun kz Q hQ => ent kz Q ⟨_, pp, fun z => absurd z (by decide), fun _ => ⟨xe, me, fun _ => hQ, fun z => absurd x0 z⟩⟩)
  have x1e : xe ≠ 0 := by
    rcases hxe with ⟨a, _⟩ | ⟨_, b⟩
    · omega
    · exact absurd c2 b
  by_cases c3 : s = 0 ∨ s = 1
  case neg =>
    refine no (fun z => c3 z.2.2.2.1) (fun kz Q hQ => ent kz Q ⟨_, pp, fun z => absurd z (by decide), fun _ => ⟨xe, me, fun z => absurd z x1e, fun _ => ⟨fun _ => hQ, fun y => ⟨fun y2 => absurd c3 (by omega), fun _ => hQ⟩⟩⟩⟩)
  by_cases c4 : 0 ≤ j ∧ j < (R n).length
  case neg =>
    rw [if_neg c4] at pj
    exact no (fun z => c4 z.2.2.2.2.1) (fun kz Q hQ => ent kz Q ⟨_, pp, fun z => absurd z (by decide), fun _ => ⟨xe, me, fun z => absurd z x1e, fun _ => ⟨fun y => absurd y (by omega), fun _ => ⟨fun _ => ⟨_, pj, fun _ => hQ, fun z => absurd rfl z⟩, fun y => absurd (by omega) y⟩⟩⟩⟩)
  rw [if_pos c4] at pj
  by_cases c7 : chs (E 4) (R n) = -1 ∨ chs (E 4) (R n) = j
  case neg =>
    rw [if_neg (by omega)] at pn
    exact no (fun z => c7 z.2.2.2.2.2.1) (fun kz Q hQ => ent kz Q ⟨_, pp, fun z => absurd z (by decide), fun _ => ⟨xe, me, fun z => absurd z x1e, fun _ => ⟨fun y => absurd y (by omega), fun _ => ⟨fun _ => ⟨_, pj, fun z => absurd z (by decide), fun _ => ⟨_, pn, fun z => absurd rfl z, fun _ => ⟨fun _ => hQ, fun y => absurd (by omega) y⟩⟩⟩, fun y => absurd (by omega) y⟩⟩⟩⟩)
  have pre2 : ∀ kz (Q : Option zV → zH → Prop), Z zm_X3_makeTurn kz Q 81 [(0, zR 41), (1, zR (qn p)), (2, zR (qn n)), (4, zR 10), (5, zI i), (6, zI s), (7, zI j), (8, zI pl)] [] (d, G, E) → Z zm_X3_makeTurn kz Q 0 [(0, zR 41), (1, zR (qn p)), (2, zR (qn n)), (3, zR a3), (4, zR 10)] [] (d, G, E) := fun kz Q z =>
    ent kz Q ⟨_, pp, fun y => absurd y (by decide), fun _ => ⟨xe, me, fun y => absurd y x1e, fun _ => ⟨fun y => absurd y (by omega), fun _ => ⟨fun _ => ⟨_, pj, fun y => absurd y (by decide), fun _ => ⟨_, pn, fun _ => z, fun y => ⟨fun y2 => by
      rcases c7 with q | q
      · rw [if_pos q] at y; exact absurd (by decide) y
      · exact absurd q y2, fun _ => z⟩⟩⟩, fun y => absurd (by omega) y⟩⟩⟩⟩
  obtain ⟨il, eil⟩ : ∃ l : Nat, i = l := ⟨i.toNat, by omega⟩
  obtain ⟨jl, ejl⟩ : ∃ l : Nat, j = l := ⟨j.toNat, by omega⟩
  have til : i.toNat = il := by omega
  have tjl : j.toNat = jl := by omega
  have hil : il < (R p).length := by omega
  have hjl : jl < (R n).length := by omega
  have lp6 := hRp.2.1
  have ln6 := hRn.2.1
  have wi := rkp.1 il hil
  have wj := rkn.1 jl hjl
  have bi := (hRp.2.2.2 il hil).2.2.1
  have bj := (hRn.2.2.2 jl hjl).2.2.1
  have sp := hRp.2.2.1 il (by omega)
  have sn := hRn.2.2.1 jl (by omega)
  have op := low_180 hRp il hil
  have on := low_180 hRn jl hjl
  have ml := length_ok (E := E) hX hcn.2.2.1 hRn hjl
  rw [← ejl] at ml
  by_cases c5 : 1 ≤ pl ∧ pl < (lit (R n) jl).2.length
  case neg =>
    exact no (fun z => c5 (by have := z.2.2.2.2.2.2.1; rw [tjl] at this; exact this)) (fun kz Q hQ => pre2 kz Q (X3_makeTurn_81 hX hcp hcn hr10 ⟨fun _ => hQ, fun y => ⟨_, ml, fun y2 => absurd c5 (by omega), fun _ => hQ⟩⟩))
  have e58p : E (qn n + 1 + 1) ((offs (R n) jl : Int) + pl) = fw (lit (R n) jl).2 pl := by
    have := rowC_lk hRn hjl pl.toNat (by omega)
    have e : (pl.toNat : Int) = pl := by omega
    rw [fw_0, ← fw_nat, e] at this
    exact this
  by_cases c8 : 0 ≤ fw (lit (R n) jl).2 pl
  case neg =>
    refine no (fun z => c8 (by have := z.2.2.2.2.2.2.2; rw [tjl] at this; exact this)) (fun kz Q hQ => pre2 kz Q (X3_makeTurn_81 hX hcp hcn hr10 ⟨fun _ => hQ, fun y => ⟨_, ml, fun y2 => ?_, fun _ => hQ⟩⟩))
    rw [ejl, sn, e58p]
    exact ⟨⟨by omega, by omega⟩, zin_of (by omega) (by omega), ⟨by omega, by omega⟩, fun q => absurd q c8, fun _ => hQ⟩
  have cond : tuC (E 4) (R p) i s (R n) j pl := ⟨c1, ⟨c2.1, c2.2.1⟩, c2.2.2, c3, c4, c7, by rw [tjl]; exact c5, by rw [tjl]; exact c8⟩
  have c6 : fw (lit (R p) il).2 0 = 0 := by rw [← til]; exact c2.2.2
  obtain ⟨t, u, s1, s2, s3, s4, s5, s6, s7, s8, s9⟩ := sd_parts hP h2 wi c6
  obtain ⟨q1, q2, q3, q4⟩ := tu_split (P := E 3) (B := R n) (j := j) (p := pl) hP (by rw [tjl]; exact wj.1) c5.1 (by rw [tjl]; exact c5.2)
  obtain ⟨tl1, tr1⟩ := tu_sides (P := E 3) (A := R p) (i := i) (s := s) (t := t) (u := u) c3 (by rw [til]; exact s5) (by rw [til]; exact s6) (by rw [til]; exact s7) (by rw [til]; exact s8)
  -- the sides in the row itself
  have lkl : lk (E (qn p + 1 + 1)) ((offs (R p) il : Int) + 1) (fw (lsd (E 3) (R p) il)) 0 (lsd (E 3) (R p) il).length := fun k hk => by
    rw [s5] at hk
    have e : (offs (R p) il : Int) + 1 + k = (offs (R p) il : Int) + ((1 + k : Nat) : Int) := by omega
    rw [e, rowC_lk hRp hil (1 + k) (by omega)]
    have e2 := congrArg (fun w => fw w (0 + ((1 + k : Nat) : Int))) s9
    rw [e2, fw_ar (v := [0]) (k := k) (by simp), fw_al (k := k) rfl (by omega), fw_0, fw_nat]
  have lkr : lk (E (qn p + 1 + 1)) ((offs (R p) il : Int) + 1 + t) (fw (rsd (E 3) (R p) il)) 0 (rsd (E 3) (R p) il).length := fun k hk => by
    rw [s6] at hk
    have e : (offs (R p) il : Int) + 1 + t + k = (offs (R p) il : Int) + ((1 + (t + k) : Nat) : Int) := by omega
    rw [e, rowC_lk hRp hil (1 + (t + k)) (by omega)]
    have e2 := congrArg (fun w => fw w (0 + ((1 + (t + k) : Nat) : Int))) s9
    rw [e2, fw_ar (v := [0]) (k := t + k) (by simp), fw_ar (k := k) (by omega), fw_0, fw_nat]
  have aft : ∀ (F : Nat → Int → Int) (x : Int) (w : List Int), fz kS E F → lk (E (qn p + 1 + 1)) x (fw w) 0 w.length → tw (E 3) w → 0 ≤ x → x + w.length ≤ 180 → zM zm_X8_after [zR 1, zR (qn p + 1 + 1), zI x] (d, G, F) (some (zI (x + w.length))) (d, G, F) := fun F x w hf hl ht x0 x1 => by
    have e := hf (qn p + 1 + 1) (by simp [kS, qn]; omega)
    have e3 := hf 3 (by simp [kS])
    exact after_ok (E := F) (a := qn p + 1 + 1) (n := 180) hX hcp.2.2.1.2.2.2.2.2.1 hcp.2.2.1.2.1 (by rw [e3]; exact hP) (by rw [e, e3]; exact tm_congr ht (fun k hk => (hl k hk).symm)) x0 (by omega) (by omega)
  have mA := aft E _ _ fz_rfl lkl s7 (by omega) (by omega)
  rw [s5] at mA
  obtain ⟨E1, m1, f1, b1⟩ := layF_ok (E := E) hX hcp.2.2.1 hRp rkp.2.1
  have hRn1 : rowC E1 (qn n + 1) (R n) := rowC_fz hRn f1 (by simp [qn]; omega) (by simp [qn]; omega) (by simp [qn]; omega) (by simp [qn]; omega)
  have e13 : E1 3 = E 3 := f1 3 (by simp)
  obtain ⟨E2, m2, f2, b2, b3⟩ := layS_ok (E := E1) (A := R p) hX hcn.2.2.1 (qn_43 n) hRn1 (by rw [e13]; exact rkn.1) rkn.2.1 b1 (low_180 hRp)
  have hf2 : fz [21] E E2 := fz_trans f1 f2
  have e23 : E2 3 = E 3 := hf2 3 (by simp)
  -- the sides on the board
  have ob := b2 il hil
  rw [s9] at ob
  have ol := onB_r ob (j := (offs (R p) il : Int) + 1) (by simp)
  have oll := onB_l ol
  have olr := onB_r ol (j := (offs (R p) il : Int) + 1 + t) (by rw [s5])
  have obj := b3 jl hjl
  rw [← tjl, q1, tjl] at obj
  have ot : onB E2 (180 + ((offs (R n) jl : Int) + pl)) (tuT (E 3) (R n) j pl) := onB_l (onB_r obj (j := 180 + ((offs (R n) jl : Int) + pl)) (by rw [← tjl, q3]; omega))
  let lat : Int := if s = 0 then (offs (R p) il : Int) + 1 else (offs (R p) il : Int) + 1 + t
  let rat : Int := if s = 0 then (offs (R p) il : Int) + 1 + t else (offs (R p) il : Int) + 1
  have both : onB E2 lat (tuL (E 3) (R p) i s) ∧ onB E2 rat (tuR (E 3) (R p) i s) ∧ lk (E (qn p + 1 + 1)) lat (fw (tuL (E 3) (R p) i s)) 0 (tuL (E 3) (R p) i s).length ∧ lk (E (qn p + 1 + 1)) rat (fw (tuR (E 3) (R p) i s)) 0 (tuR (E 3) (R p) i s).length ∧ (tuL (E 3) (R p) i s).length ≤ 30 ∧ 0 ≤ lat ∧ 0 ≤ rat ∧ lat + (tuL (E 3) (R p) i s).length ≤ 180 ∧ rat + (tuR (E 3) (R p) i s).length ≤ 180 := by
    show onB E2 (if s = 0 then (offs (R p) il : Int) + 1 else (offs (R p) il : Int) + 1 + t) (if s = 0 then lsd (E 3) (R p) i.toNat else rsd (E 3) (R p) i.toNat) ∧ onB E2 (if s = 0 then (offs (R p) il : Int) + 1 + t else (offs (R p) il : Int) + 1) (if s = 0 then rsd (E 3) (R p) i.toNat else lsd (E 3) (R p) i.toNat) ∧ lk (E (qn p + 1 + 1)) (if s = 0 then (offs (R p) il : Int) + 1 else (offs (R p) il : Int) + 1 + t) (fw (if s = 0 then lsd (E 3) (R p) i.toNat else rsd (E 3) (R p) i.toNat)) 0 (if s = 0 then lsd (E 3) (R p) i.toNat else rsd (E 3) (R p) i.toNat).length ∧ lk (E (qn p + 1 + 1)) (if s = 0 then (offs (R p) il : Int) + 1 + t else (offs (R p) il : Int) + 1) (fw (if s = 0 then rsd (E 3) (R p) i.toNat else lsd (E 3) (R p) i.toNat)) 0 (if s = 0 then rsd (E 3) (R p) i.toNat else lsd (E 3) (R p) i.toNat).length ∧ (if s = 0 then lsd (E 3) (R p) i.toNat else rsd (E 3) (R p) i.toNat).length ≤ 30 ∧ 0 ≤ (if s = 0 then (offs (R p) il : Int) + 1 else (offs (R p) il : Int) + 1 + t) ∧ 0 ≤ (if s = 0 then (offs (R p) il : Int) + 1 + t else (offs (R p) il : Int) + 1) ∧ (if s = 0 then (offs (R p) il : Int) + 1 else (offs (R p) il : Int) + 1 + t) + (if s = 0 then lsd (E 3) (R p) i.toNat else rsd (E 3) (R p) i.toNat).length ≤ 180 ∧ (if s = 0 then (offs (R p) il : Int) + 1 + t else (offs (R p) il : Int) + 1) + (if s = 0 then rsd (E 3) (R p) i.toNat else lsd (E 3) (R p) i.toNat).length ≤ 180
    rw [til]
    by_cases z : s = 0
    · simp only [if_pos z]
      exact ⟨oll, olr, lkl, lkr, by omega, by omega, by omega, by omega, by omega⟩
    · simp only [if_neg z]
      exact ⟨olr, oll, lkr, lkl, by omega, by omega, by omega, by omega, by omega⟩
  obtain ⟨oL, oR, kL, kR, lL, la0, ra0, la1, ra1⟩ := both
  have tT : (tuT (E 3) (R n) j pl).length ≤ 30 := by
    have := congrArg List.length q1
    rw [List.length_map, List.length_append, List.length_append, tjl] at this
    omega
  obtain ⟨x, E3, m3, f3, _, hI3, hx⟩ := widen_ok (E := E2) (u := tuL (E 3) (R p) i s) (v := tuT (E 3) (R n) j pl) hX (by rw [e23]; exact hP) (stI_fz hI hf2 (by simp) (by simp) (by simp)) (by rw [e23]; exact tl1) oL (by rw [e23]; exact q2) ot (by omega) lL tT (by rw [e23]; exact hub _ _ tl1 q2 oL.2.2.2 ot.2.2.2 lL tT)
  rw [e23] at hx
  have hf3 : fz kS E E3 := fz_trans (fz_mono hf2 (by simp [kS])) (fz_mono f3 (by simp [kS, uS]))
  have e19 : E3 19 = E 19 := by rw [f3 19 (by simp [uS]), hf2 19 (by simp)]
  have pre3 : ∀ kz (Q : Option zV → zH → Prop), (x ≠ 0 → ∃ x_13, zM zm_X8_after [zR 1, zR (qn p + 1 + 1), zI rat] (d, G, E3) (some (zI x_13)) (d, G, E3) ∧ ∃ x_16, zM zm_X8_after [zR 1, zR (qn p + 1 + 1), zI lat] (d, G, E3) (some (zI x_16)) (d, G, E3) ∧ ∃ x_19 E_20, zM zm_X3_sidesUnderIt [zR 41, zI lat, zI x_16, zI rat, zI x_13] (d, G, E3) (some (zI x_19)) (d, G, E_20) ∧ (x_19 = 2 → ∃ x_24 E_25, zM zm_X3_writeAllBut [zR 41, zR (qn p + 1), zI i, zI 0, zR 10] (d, G, E_20) (some (zI x_24)) (d, G, E_25) ∧ (x_24 = 0 → Q (some (zI 1)) (d, G, E_25)) ∧ (¬ (x_24 = 0) → ∃ x_29 E_30, zM zm_X3_writeTurned [zR 41, zR (qn n + 1), zI j, zI ((offs (R n) jl : Int) + pl), zI rat, zI x_13, zR 10] (d, G, E_25) (some (zI x_29)) (d, G, E_30) ∧ (x_29 = 0 → Q (some (zI 1)) (d, G, E_30)) ∧ (¬ (x_29 = 0) → Q (some (zI 2)) (d, G, E_30)))) ∧ (¬ (x_19 = 2) → Q (some (zI x_19)) (d, G, E_20))) → (¬ (x ≠ 0) → Q (some (zI 0)) (d, G, E3)) → Z zm_X3_makeTurn kz Q 0 [(0, zR 41), (1, zR (qn p)), (2, zR (qn n)), (3, zR a3), (4, zR 10)] [] (d, G, E) := fun kz Q k1 k2 => by
    refine pre2 kz Q (X3_makeTurn_81 hX hcp hcn hr10 ⟨fun y => absurd y (by omega), fun _ => ⟨_, ml, fun _ => ?_, fun y => absurd c5.2 y⟩⟩)
    rw [ejl, sn, e58p, eil, sp]
    rw [ejl, eil] at k1
    refine ⟨⟨by omega, by omega⟩, zin_of (by omega) (by omega), ⟨by omega, by omega⟩, fun _ => ⟨⟨by omega, by omega⟩, zin_of (by omega) (by omega), _, mA, fun z => ?_, fun z => ?_⟩, fun q => absurd c8 q⟩
    · have el : lat = (offs (R p) il : Int) + 1 + t := if_neg z
      have er : rat = (offs (R p) il : Int) + 1 := if_neg z
      rw [el] at m3 k1
      rw [er] at k1
      exact X3_makeTurn_177 hX hcp hcn hr10 ⟨fun _ => X3_makeTurn_191 hX hcp hcn hr10 ⟨E1, m1, E2, m2, zin_of (by omega) (by omega), x, E3, m3, k1, k2⟩, fun y => absurd z y⟩
    · have z' : s = 0 := Classical.byContradiction fun y => z y
      have el : lat = (offs (R p) il : Int) + 1 := if_pos z'
      have er : rat = (offs (R p) il : Int) + 1 + t := if_pos z'
      rw [el] at m3 k1
      rw [er] at k1
      exact X3_makeTurn_177 hX hcp hcn hr10 ⟨fun y => absurd z' y, fun _ => X3_makeTurn_191 hX hcp hcn hr10 ⟨E1, m1, E2, m2, zin_of (by omega) (by omega), x, E3, m3, k1, k2⟩⟩
  rcases hx with ⟨x1, b, rk, hun, hb, hU⟩ | ⟨x0, hun⟩
  case inr => exact ⟨0, E3, none, zM_e rfl (Nat.le_of_ble_eq_true rfl) (fun kz Q hQ => pre3 kz Q (fun z => absurd x0 z) (fun _ => hQ)), hf3, by rw [e19]; exact h19, hI3, Or.inr ⟨cond, Or.inl ⟨hun, rfl⟩⟩, Or.inl ⟨rfl, rfl⟩⟩
  have e33 : E3 3 = E 3 := hf3 3 (by simp [kS])
  have e34 : E3 4 = E 4 := hf3 4 (by simp [kS])
  have g21 : E3 21 = E2 21 := f3 21 (by simp [uS])
  have up : ∀ {x : Int} {w : List Int}, onB E2 x w → onB E3 x w := fun h => by unfold onB at *; rw [g21]; exact h
  obtain ⟨y, E4, m4, f4, y19, hU4, hy⟩ := sidesUnderIt_ok (E := E3) (b := b) (rk := rk) (l := lat) (r := rat) (u := tuL (E 3) (R p) i s) (v := tuR (E 3) (R p) i s) hX (by rw [e33]; exact hP) (by rw [e34]; exact hW) (by rw [e19]; exact h19) (by rw [e33]; exact hb) hU (up oL) (by rw [e33]; exact tl1) (up oR) (by rw [e33]; exact tr1)
  rw [e33, e34] at hy
  have mL := aft E3 lat _ hf3 kL tl1 la0 la1
  have mR := aft E3 rat _ hf3 kR tr1 ra0 ra1
  have hf4 : fz kS E E4 := fz_trans hf3 (fz_mono f4 (by simp [kS]))
  rcases hy with ⟨hlong, y1⟩ | ⟨hsh, hkg, y1⟩ | ⟨hsh, hkg, y1⟩
  · exact ⟨1, E4, some none, zM_e rfl (Nat.le_of_ble_eq_true rfl) (fun kz Q hQ => pre3 kz Q (fun _ => ⟨_, mR, _, mL, y, E4, m4, fun z => absurd z (by omega), fun _ => by rw [y1]; exact hQ⟩) (fun z => absurd (by omega) z)), hf4, y19, bdU_stI hb hU4, Or.inr ⟨cond, Or.inr ⟨b, hun, Or.inr (Or.inl ⟨hlong, rfl⟩)⟩⟩, Or.inr (Or.inl ⟨rfl, rfl⟩)⟩
  · exact ⟨0, E4, none, zM_e rfl (Nat.le_of_ble_eq_true rfl) (fun kz Q hQ => pre3 kz Q (fun _ => ⟨_, mR, _, mL, y, E4, m4, fun z => absurd z (by omega), fun _ => by rw [y1]; exact hQ⟩) (fun z => absurd (by omega) z)), hf4, y19, bdU_stI hb hU4, Or.inr ⟨cond, Or.inr ⟨b, hun, Or.inl ⟨hsh, hkg, rfl⟩⟩⟩, Or.inl ⟨rfl, rfl⟩⟩
  have s4' : stC d G E4 (E 3) (E 4) K R := stC_fz hs hf4 (by simp [kS]) (by rw [hf4 5 (by simp [kS])])
  have b43 : E4 3 = E 3 := hf4 3 (by simp [kS])
  have b44 : E4 4 = E 4 := hf4 4 (by simp [kS])
  have g1011 : fz [18, 19, 20, 21, 22, 23, 24, 25, 26, 27, 28, 29] E E4 := fz_trans (fz_trans (fz_mono hf2 (by simp)) (fz_mono f3 (by simp [uS]))) (fz_mono f4 (by simp))
  have hA4 : rowC E4 10 [] := rowC_fz hA g1011 (by decide) (by decide) (by decide) (by decide)
  have h21 : E4 21 = E2 21 := by rw [f4 21 (by simp)]; exact g21
  obtain ⟨z, E5, m5, f5, hU5, z01, h5⟩ := allButC_ok (E := E4) (b := b) (rk := rk) (p := p) (but := i) true hX (by rw [b43]; exact hP) (by rw [b43, b44]; exact s4') hp hr10 (by rw [b43]; exact hb) hU4 (fun l hl => by have := b2 l hl; unfold onB at *; rw [h21]; exact this) hA4
  have hf5 : fz kS E E5 := fz_trans hf4 (fz_mono f5 (by simp [kS]))
  have z19 : ∀ L : Int, 0 ≤ L → L < 40 → E5 19 L = 0 := by rw [f5 19 (by simp)]; exact y19
  have made := fun r (h : r = some (adds [] (frm (R p) i (sb (th b)) (R p).length 0 ++ frt (R n) (fun w => sb (th b) (w.map shf)) j (tuX (E 3) b (R n) j pl (tuR (E 3) (R p) i s)) (R n).length 0))) => (Or.inr ⟨cond, Or.inr ⟨b, hun, Or.inr (Or.inr ⟨hsh, hkg, h⟩)⟩⟩ : tuRl (E 3) (E 4) (R p) i s (R n) j pl r)
  rcases h5 with ⟨z1, A1, hA1, hr1⟩ | ⟨z0, hA1⟩
  case inr =>
    have e : adds [] (frm (R p) i (sb (th b)) (R p).length 0) = none := hA1
    exact ⟨1, E5, some none, zM_e rfl (Nat.le_of_ble_eq_true rfl) (fun kz Q hQ => pre3 kz Q (fun _ => ⟨_, mR, _, mL, y, E4, m4, fun _ => ⟨z, E5, m5, fun _ => hQ, fun q => absurd z0 q⟩, fun q => absurd y1 q⟩) (fun q => absurd (by omega) q)), hf5, z19, bdU_stI hb hU5, made _ (by rw [adds_app, e]; rfl), Or.inr (Or.inl ⟨rfl, rfl⟩)⟩
  have e1 : adds [] (frm (R p) i (sb (th b)) (R p).length 0) = some A1 := hA1
  have b53 : E5 3 = E 3 := hf5 3 (by simp [kS])
  have i21 : E5 21 = E2 21 := by rw [f5 21 (by simp)]; exact h21
  have hRn5 : rowC E5 (qn n + 1) (R n) := rowC_fz hRn hf5 (by simp [kS, qn]; omega) (by simp [kS, qn]; omega) (by simp [kS, qn]; omega) (by simp [kS, qn]; omega)
  obtain ⟨w, E6, m6, f6, hU6, w01, h6⟩ := writeTurnedC_ok (E := E5) (b := b) (rk := rk) (r := qn n + 1) (B := R n) (acc := A1) (j := j) (r0 := rat) (rw := tuR (E 3) (R p) i s) hX (by rw [b53]; exact hP) (by rw [b53]; exact hb) hU5 hcn.2.2.1 (qn_43 n) hr10 hRn5 (fun l hl => by have := b3 l hl; unfold onB at *; rw [i21]; exact this) c4 hr1 q1 (by rw [b53]; exact q2) ⟨_, by rw [b53]; exact q4, rfl, fun k hk => by
    obtain ⟨m, m0, mm1, mm2, mm3, mm4, mm5, mm6⟩ := tat_ok (p := pl.toNat) hP wj.1 (by omega)
    rw [tjl] at hk ⊢
    rw [mm4] at hk
    rw [hf5 (qn n + 1 + 1) (by simp [kS, qn]; omega)]
    have el : ((((lit (R n) jl).2.take pl.toNat).map shf).length : Int) = pl.toNat := by rw [← tjl, q3]
    rw [el]
    have e : (offs (R n) jl : Int) + (pl.toNat : Int) + k = (offs (R n) jl : Int) + ((pl.toNat + k : Nat) : Int) := by omega
    rw [e, rowC_lk hRn hjl (pl.toNat + k) (by omega), fw_0, ← fw_nat]
    have := mm6 k hk
    have e2 : ((pl.toNat + k : Nat) : Int) = (pl.toNat : Int) + k := by omega
    rw [e2]; exact this⟩ (by have := oR; unfold onB at *; rw [i21]; exact this)
  have el : (offs (R n) j.toNat : Int) + ((((lit (R n) j.toNat).2.take pl.toNat).map shf).length : Int) = (offs (R n) jl : Int) + pl := by rw [q3, tjl]; omega
  rw [el] at m6
  refine ⟨w + 1, E6, some (adds A1 (frt (R n) (fun w => sb (th b) (w.map shf)) j (tuX (E 3) b (R n) j pl (tuR (E 3) (R p) i s)) (R n).length 0)), zM_e rfl (Nat.le_of_ble_eq_true rfl) (fun kz Q hQ => pre3 kz Q (fun _ => ⟨_, mR, _, mL, y, E4, m4, fun _ => ⟨z, E5, m5, fun q => absurd q (by omega), fun _ => ⟨w, E6, m6, fun q => ?_, fun q => ?_⟩⟩, fun q => absurd y1 q⟩) (fun q => absurd (by omega) q)), fz_trans hf5 (fz_mono f6 (by simp [kS])), by rw [f6 19 (by simp)]; exact z19, bdU_stI hb hU6, made _ (by rw [adds_app, e1]; rfl), ?_⟩
  · rw [q] at hQ; exact hQ
  · have : w = 1 := by omega
    rw [this] at hQ; exact hQ
  · rcases h6 with ⟨w1, A2, hA2, hr2⟩ | ⟨w0, hA2⟩
    · exact Or.inr (Or.inr ⟨A2, by rw [← hA2]; rfl, by omega, hr2⟩)
    · exact Or.inr (Or.inl ⟨by rw [← hA2]; rfl, by omega⟩)
end SA
