/-! ===== steps: the reference, turn ===== -/
/-- the literal taken apart at a place -/
theorem tu_split {P : Int → Int} (hP : pok P) {B : List zLt} {j p : Int} (hw : tw P (lit B j.toNat).2) (h1 : 1 ≤ p) (h2 : p < (lit B j.toNat).2.length) : (lit B j.toNat).2.map shf = ((lit B j.toNat).2.take p.toNat).map shf ++ (tuT P B j p ++ ((lit B j.toNat).2.drop (p.toNat + (tat P (lit B j.toNat).2 p.toNat).length)).map shf) ∧ tw P (tuT P B j p) ∧ (((lit B j.toNat).2.take p.toNat).map shf).length = p.toNat ∧ tw P (tat P (lit B j.toNat).2 p.toNat) := by
  obtain ⟨m, m0, m1, m2, m3, m4, m5, m6⟩ := tat_ok (p := p.toNat) hP hw (by omega)
  refine ⟨?_, tw_shf m5, by rw [List.length_map, List.length_take]; omega, m5⟩
  unfold tuT
  rw [← List.map_append, ← List.map_append, m4]
  congr 1
  have e : tat P (lit B j.toNat).2 p.toNat = ((lit B j.toNat).2.drop p.toNat).take m := by unfold tat; rw [m1]
  rw [e, ← List.drop_drop, List.take_append_drop, List.take_append_drop]
/-- the sides of a turn -/
theorem tu_sides {P : Int → Int} {A : List zLt} {i s : Int} {t u : Nat} (hs : s = 0 ∨ s = 1) (h5 : (lsd P A i.toNat).length = t) (h6 : (rsd P A i.toNat).length = u) (h7 : tw P (lsd P A i.toNat)) (h8 : tw P (rsd P A i.toNat)) : tw P (tuL P A i s) ∧ tw P (tuR P A i s) := by
  unfold tuL tuR
  rcases hs with e | e <;> subst e
  · exact ⟨by rw [if_pos rfl]; exact h7, by rw [if_pos rfl]; exact h8⟩
  · exact ⟨by rw [if_neg (by decide)]; exact h8, by rw [if_neg (by decide)]; exact h7⟩
section RU
variable {d : List Nat} {G : Nat → Int → Option Nat} {E : Nat → Int → Int}
/-- isGreater over two words that lie at the beginnings of arrays -/
theorem isGreaterW_ok {a c n m : Nat} {u v : List Int} (hM : zK zMt d G) (ha : a ∈ d) (hk : zkd a = (0, n)) (hc : c ∈ d) (hkc : zkd c = (0, m)) (hP : pok (E 53)) (hW : wok (E 54)) (hn2 : n ≤ 100000) (hm2 : m ≤ 100000) (ha7 : a ≠ 76) (hc7 : c ≠ 76) (hu : tw (E 53) u) (hv : tw (E 53) v) (lu : lo40 u) (lv : lo40 v) (hun : u.length ≤ n) (hvm : v.length ≤ m) (u1000 : u.length ≤ 1000) (ku : ∀ k : Nat, k < u.length → E a k = u.getD k 0) (kv : ∀ k : Nat, k < v.length → E c k = v.getD k 0) :
    ∃ (r : Int) (E' : Nat → Int → Int), zM zm_X12_isGreater [zR 50, zR a, zI 0, zR c, zI 0] (d, G, E) (some (zI r)) (d, G, E') ∧ fz [76] E E' ∧ (r = 1 ∧ kg (E 53) (E 54) (fw u) (fw v) 1000 0 0 ∨ r = 0 ∧ ¬ kg (E 53) (E 54) (fw u) (fw v) 1000 0 0) := by
  have lka : lk (E a) 0 (fw u) 0 u.length := fun k hk => by rw [fw_0, Int.zero_add]; exact ku k hk
  have lkc : lk (E c) 0 (fw v) 0 v.length := fun k hk => by rw [fw_0, Int.zero_add]; exact kv k hk
  have ta : tm (E 53) (E a) 0 u.length := tm_congr hu (fun k hk => (lka k hk).symm)
  have tc : tm (E 53) (E c) 0 v.length := tm_congr hv (fun k hk => (lkc k hk).symm)
  obtain ⟨r, E', m1, f1, h⟩ := isGreater_ok (E := E) (N := 1000) hM ha hk hc hkc hP hW hn2 hm2 ha7 hc7 u1000 ta tc (by omega) (by omega) (by omega) (by omega) (fun k hk => lu _ (lk_mem lka hk)) (fun k hk => lv _ (lk_mem lkc hk))
  rw [kg_iff hP ta tc lka lkc] at h
  exact ⟨r, E', m1, f1, h⟩
theorem turn_ok {K p n : Nat} {R : Nat → List zLt} {i s j pl : Int} (hM : zK zMt d G) (hP : pok (E 53)) (hW : wok (E 54)) (h2 : E 53 0 = 2) (hs : stM E (E 53) (E 54) K R) (hp : p < K) (hn : n < K) (hlo : ∀ i : Int, -1000 ≤ E 58 i) :
    ∃ (x : Int) (E' : Nat → Int → Int) (r : Option (Option (List zLt))), zM zm_X12_turn [zR 50, zI (p : Int), zI i, zI s, zI (n : Int), zI j, zI pl] (d, G, E) (some (zI x)) (d, G, E') ∧ fz mS E E' ∧ m50 E E' ∧ tuRl (E 53) (E 54) (R p) i s (R n) j pl r ∧ mkM E' r x := by
  have hK := hs.2.1
  have pp := isPositive_ok (E := E) hM hs hp hW
  have pi := isLiteral_ok (E := E) (v := i) hM hs hp
  have ps := in_ok (E := E) hM s 0 1
  have pj := isLiteral_ok (E := E) (v := j) hM hs hn
  have pc := chosenOf_ok (E := E) hM hs hn hW
  have no : ∀ (hno : ¬ tuC (E 54) (R p) i s (R n) j pl) (z : ∀ kz (Q : Option zV → zH → Prop), Q (some (zI (-1))) (d, G, E) → Z zm_X12_turn kz Q 0 [(0, zR 50), (1, zI (p : Int)), (2, zI i), (3, zI s), (4, zI (n : Int)), (5, zI j), (6, zI pl)] [] (d, G, E)), ∃ (x : Int) (E' : Nat → Int → Int) (r : Option (Option (List zLt))), zM zm_X12_turn [zR 50, zI (p : Int), zI i, zI s, zI (n : Int), zI j, zI pl] (d, G, E) (some (zI x)) (d, G, E') ∧ fz mS E E' ∧ m50 E E' ∧ tuRl (E 53) (E 54) (R p) i s (R n) j pl r ∧ mkM E' r x :=
    fun hno z => ⟨-1, E, none, zM_e rfl (Nat.le_of_ble_eq_true rfl) (fun kz Q hQ => z kz Q hQ), fz_rfl, fun _ _ _ => rfl, Or.inl ⟨hno, rfl⟩, Or.inl ⟨rfl, rfl⟩⟩
  by_cases c1 : chs (E 54) (R p) = -1
  case neg =>
    rw [if_neg c1] at pp
    exact no (fun z => c1 z.1) (fun kz Q hQ => X12_turn_0 hM ⟨_, pp, fun _ => hQ, fun z => absurd rfl z⟩)
  rw [if_pos c1] at pp
  by_cases c2 : 0 ≤ i ∧ i < (R p).length
  case neg =>
    rw [if_neg (by omega)] at pi
    exact no (fun z => c2 z.2.1) (fun kz Q hQ => X12_turn_0 hM ⟨_, pp, fun z => absurd z (by decide), fun _ => ⟨_, pi, fun _ => hQ, fun z => absurd rfl z⟩⟩)
  rw [if_pos (by omega)] at pi
  by_cases c3 : s = 0 ∨ s = 1
  case neg =>
    rw [if_neg (by omega)] at ps
    exact no (fun z => c3 z.2.2.2.1) (fun kz Q hQ => X12_turn_0 hM ⟨_, pp, fun z => absurd z (by decide), fun _ => ⟨_, pi, fun z => absurd z (by decide), fun _ => ⟨_, ps, fun _ => hQ, fun z => absurd rfl z⟩⟩⟩)
  rw [if_pos (by omega)] at ps
  by_cases c4 : 0 ≤ j ∧ j < (R n).length
  case neg =>
    rw [if_neg (by omega)] at pj
    exact no (fun z => c4 z.2.2.2.2.1) (fun kz Q hQ => X12_turn_0 hM ⟨_, pp, fun z => absurd z (by decide), fun _ => ⟨_, pi, fun z => absurd z (by decide), fun _ => ⟨_, ps, fun z => absurd z (by decide), fun _ => ⟨_, pj, fun _ => hQ, fun z => absurd rfl z⟩⟩⟩⟩)
  rw [if_pos (by omega)] at pj
  obtain ⟨il, eil⟩ : ∃ l : Nat, i = l := ⟨i.toNat, by omega⟩
  obtain ⟨jl, ejl⟩ : ∃ l : Nat, j = l := ⟨j.toNat, by omega⟩
  have til : i.toNat = il := by omega
  have tjl : j.toNat = jl := by omega
  have lp6 := (hs.2.2 p hp).1.2.1
  have ln6 := (hs.2.2 n hn).1.2.1
  have hil : il < (R p).length := by omega
  have hjl : jl < (R n).length := by omega
  obtain ⟨b1, b2, b3, b4, b5⟩ := (hs.2.2 p hp).1.2.2 il hil
  obtain ⟨d1, d2, d3, d4, d5⟩ := (hs.2.2 n hn).1.2.2 jl hjl
  have wi := (hs.2.2 p hp).2.1 il hil
  have wj := (hs.2.2 n hn).2.1 jl hjl
  have e59 : E 59 (6 * (n : Int) + j) = (lit (R n) jl).2.length := by rw [ejl]; exact d1
  have e58 : E 58 (180 * (p : Int) + 30 * i) = fw (lit (R p) il).2 0 := by
    have := b5 0 (wok1_pos wi)
    rw [fw_0, ← fw_nat] at this
    rw [eil]
    have e : 180 * (p : Int) + 30 * (il : Int) = 30 * (6 * (p : Int) + il) + ((0 : Nat) : Int) := by omega
    rw [e]; exact this
  have pin := in_ok (E := E) hM pl 1 (((lit (R n) jl).2.length : Int) - 1)
  have pre : ∀ kz (Q : Option zV → zH → Prop) (x21 : Int), zM zm_X12_in [zI pl, zI 1, zI (((lit (R n) jl).2.length : Int) - 1)] (d, G, E) (some (zI x21)) (d, G, E) → (x21 ≠ 0 → (fw (lit (R p) il).2 0 ≠ 0 → Q (some (zI (-1))) (d, G, E)) ∧ (fw (lit (R p) il).2 0 = 0 → (chs (E 54) (R n) = -1 ∨ chs (E 54) (R n) = j → Z zm_X12_turn kz Q 102 [(0, zR 50), (1, zI (p : Int)), (2, zI i), (3, zI s), (4, zI (n : Int)), (5, zI j), (6, zI pl)] [] (d, G, E)) ∧ (¬ (chs (E 54) (R n) = -1 ∨ chs (E 54) (R n) = j) → Q (some (zI (-1))) (d, G, E)))) → (¬ x21 ≠ 0 → Q (some (zI (-1))) (d, G, E)) → Z zm_X12_turn kz Q 0 [(0, zR 50), (1, zI (p : Int)), (2, zI i), (3, zI s), (4, zI (n : Int)), (5, zI j), (6, zI pl)] [] (d, G, E) := fun kz Q x21 mx k1 k2 => by
    refine X12_turn_0 hM ⟨_, pp, fun z => absurd z (by decide), fun _ => ⟨_, pi, fun z => absurd z (by decide), fun _ => ⟨_, ps, fun z => absurd z (by decide), fun _ => ⟨_, pj, fun z => absurd z (by decide), fun _ => ?_⟩⟩⟩⟩
    rw [e59, e58]
    refine ⟨zin_of (by omega) (by omega), zin_of (by omega) (by omega), ⟨by omega, by omega⟩, zin_of (by omega) (by omega), x21, mx, fun y => ⟨_, pc, zin_of (by omega) (by omega), zin_of (by omega) (by omega), zin_of (by omega) (by omega), ⟨by omega, by omega⟩, fun q => (k1 y).1 q, fun q => ?_⟩, k2⟩
    have q' : fw (lit (R p) il).2 0 = 0 := Classical.byContradiction fun z => q z
    exact ⟨fun w => ((k1 y).2 q').1 (Or.inl w), fun w => ⟨fun w2 => ((k1 y).2 q').2 (by omega), fun w2 => ((k1 y).2 q').1 (by omega)⟩⟩
  by_cases c5 : 1 ≤ pl ∧ pl < (lit (R n) jl).2.length
  case neg =>
    rw [if_neg (by omega)] at pin
    exact no (fun z => c5 (by have := z.2.2.2.2.2.2.1; rw [tjl] at this; exact this)) (fun kz Q hQ => pre kz Q 0 pin (fun z => absurd rfl z) (fun _ => hQ))
  rw [if_pos (by omega)] at pin
  by_cases c6 : fw (lit (R p) il).2 0 = 0
  case neg => exact no (fun z => c6 (by have := z.2.2.1; rw [til] at this; exact this)) (fun kz Q hQ => pre kz Q 1 pin (fun _ => ⟨fun _ => hQ, fun z => absurd z c6⟩) (fun z => absurd (by decide) z))
  by_cases c7 : chs (E 54) (R n) = -1 ∨ chs (E 54) (R n) = j
  case neg => exact no (fun z => c7 z.2.2.2.2.2.1) (fun kz Q hQ => pre kz Q 1 pin (fun _ => ⟨fun z => absurd c6 z, fun _ => ⟨fun z => absurd z c7, fun _ => hQ⟩⟩) (fun z => absurd (by decide) z))
  have pre2 : ∀ kz (Q : Option zV → zH → Prop), Z zm_X12_turn kz Q 102 [(0, zR 50), (1, zI (p : Int)), (2, zI i), (3, zI s), (4, zI (n : Int)), (5, zI j), (6, zI pl)] [] (d, G, E) → Z zm_X12_turn kz Q 0 [(0, zR 50), (1, zI (p : Int)), (2, zI i), (3, zI s), (4, zI (n : Int)), (5, zI j), (6, zI pl)] [] (d, G, E) := fun kz Q z => pre kz Q 1 pin (fun _ => ⟨fun y => absurd c6 y, fun _ => ⟨fun _ => z, fun y => absurd c7 y⟩⟩) (fun y => absurd (by decide) y)
  have e58p : E 58 (180 * (n : Int) + 30 * j + pl) = fw (lit (R n) jl).2 pl := by
    have := d5 pl.toNat (by omega)
    rw [fw_0, ← fw_nat] at this
    rw [ejl]
    have e : 180 * (n : Int) + 30 * (jl : Int) + pl = 30 * (6 * (n : Int) + jl) + (pl.toNat : Int) := by omega
    have e2 : (pl.toNat : Int) = pl := by omega
    rw [e, this, e2]
  by_cases c8 : 0 ≤ fw (lit (R n) jl).2 pl
  case neg => exact no (fun z => c8 (by have := z.2.2.2.2.2.2.2; rw [tjl] at this; exact this)) (fun kz Q hQ => pre2 kz Q (X12_turn_102 hM ⟨zin_of (by omega) (by omega), zin_of (by omega) (by omega), zin_of (by omega) (by omega), zin_of (by omega) (by omega), ⟨by omega, by omega⟩, fun z => absurd (by rw [← e58p]; exact z) c8, fun _ => hQ⟩))
  have cond : tuC (E 54) (R p) i s (R n) j pl := ⟨c1, c2, by rw [til]; exact c6, c3, c4, c7, by rw [tjl]; exact c5, by rw [tjl]; exact c8⟩
  obtain ⟨t, u, s1, s2, s3, s4, s5, s6, s7, s8, s9⟩ := sd_parts hP h2 wi c6
  obtain ⟨E1, m1, f1, h98, hbr⟩ := lay2_ok (E := E) hM hs hp hn hlo
  have e53 : E1 53 = E 53 := f1 53 (by simp)
  have ob := hbr.1 il hil
  rw [s9] at ob
  have ol := onM_r ob (j := 30 * i + 1) (by simp; omega)
  have oll := onM_l ol
  have olr := onM_r ol (j := 30 * i + 1 + t) (by rw [s5])
  have me := endM (F := E1) hM (by rw [e53]; exact hP) oll (by rw [e53]; exact s7)
  rw [s5] at me
  obtain ⟨q1, q2, q3, q4⟩ := tu_split (P := E 53) (B := R n) (j := j) (p := pl) hP (by rw [tjl]; exact wj.1) c5.1 (by rw [tjl]; exact c5.2)
  have obj := hbr.2 jl hjl
  rw [← tjl, q1, tjl] at obj
  have ot : onM E1 (180 + 30 * j + pl) (tuT (E 53) (R n) j pl) := onM_l (onM_r obj (j := 180 + 30 * j + pl) (by rw [← tjl, q3]; omega))
  obtain ⟨tl1, tr1⟩ := tu_sides (P := E 53) (A := R p) (i := i) (s := s) (t := t) (u := u) c3 (by rw [til]; exact s5) (by rw [til]; exact s6) (by rw [til]; exact s7) (by rw [til]; exact s8)
  -- where the sides lie
  let lat : Int := if s = 0 then 30 * i + 1 else 30 * i + 1 + t
  let rat : Int := if s = 0 then 30 * i + 1 + t else 30 * i + 1
  have oL : onM E1 lat (tuL (E 53) (R p) i s) := by
    show onM E1 (if s = 0 then 30 * i + 1 else 30 * i + 1 + t) (if s = 0 then lsd (E 53) (R p) i.toNat else rsd (E 53) (R p) i.toNat)
    rw [til]
    by_cases z : s = 0
    · rw [if_pos z, if_pos z]; exact oll
    · rw [if_neg z, if_neg z]; exact olr
  have oR : onM E1 rat (tuR (E 53) (R p) i s) := by
    show onM E1 (if s = 0 then 30 * i + 1 + t else 30 * i + 1) (if s = 0 then rsd (E 53) (R p) i.toNat else lsd (E 53) (R p) i.toNat)
    rw [til]
    by_cases z : s = 0
    · rw [if_pos z, if_pos z]; exact olr
    · rw [if_neg z, if_neg z]; exact oll
  obtain ⟨x, E2, m2, f2, hx⟩ := unites_ok (E := E1) (u := tuL (E 53) (R p) i s) (v := tuT (E 53) (R n) j pl) hM (by rw [e53]; exact hP) h98 (by rw [e53]; exact tl1) oL (by rw [e53]; exact q2) ot
  rw [e53] at hx
  have hf2 : fz [97, 98, 99, 100, 101] E E2 := fz_trans (fz_mono f1 (by simp)) (fz_mono f2 (by simp))
  have b30 := b4
  have pre3 : ∀ kz (Q : Option zV → zH → Prop), (x ≠ 0 → ∃ E_11, zM zm_X12_write [zR 50, zI lat] (d, G, zuE E2 50 52 0) none (d, G, E_11) ∧ Z zm_X12_turn kz Q 227 [(0, zR 50), (1, zI (p : Int)), (2, zI i), (4, zI (n : Int)), (5, zI j), (11, zI rat), (12, zI (180 + 30 * j + pl)), (13, zI ((E_11 50 52))), (14, zI 0)] [] (d, G, E_11)) → (¬ x ≠ 0 → Q (some (zI (-1))) (d, G, E2)) → Z zm_X12_turn kz Q 0 [(0, zR 50), (1, zI (p : Int)), (2, zI i), (3, zI s), (4, zI (n : Int)), (5, zI j), (6, zI pl)] [] (d, G, E) := fun kz Q k1 k2 => by
    refine pre2 kz Q (X12_turn_102 hM ⟨zin_of (by omega) (by omega), zin_of (by omega) (by omega), zin_of (by omega) (by omega), zin_of (by omega) (by omega), ⟨by omega, by omega⟩, fun _ => ⟨E1, m1, zin_of (by omega) (by omega), zin_of (by omega) (by omega), _, me, fun z => ?_, fun z => ?_⟩, fun z => absurd (by rw [e58p]; exact c8) z⟩)
    · have el : lat = 30 * i + 1 + t := if_neg z
      have er : rat = 30 * i + 1 := if_neg z
      rw [el] at m2 k1
      rw [er] at k1
      refine X12_turn_165 hM ⟨fun _ => ⟨zin_of (by omega) (by omega), zin_of (by omega) (by omega), zin_of (by omega) (by omega), x, E2, m2, fun y H e => ?_, k2⟩, fun y => absurd z y⟩
      rw [e]
      exact k1 y
    · have z' : s = 0 := Classical.byContradiction fun y => z y
      have el : lat = 30 * i + 1 := if_pos z'
      have er : rat = 30 * i + 1 + t := if_pos z'
      rw [el] at m2 k1
      rw [er] at k1
      refine X12_turn_165 hM ⟨fun y => absurd z' y, fun _ => ⟨zin_of (by omega) (by omega), zin_of (by omega) (by omega), zin_of (by omega) (by omega), x, E2, m2, fun y H e => ?_, k2⟩⟩
      rw [e]
      exact k1 y
  rcases hx with ⟨x1, b, rk, hun, hb, hU⟩ | ⟨x0, hun⟩
  case inr => exact ⟨-1, E2, none, zM_e rfl (Nat.le_of_ble_eq_true rfl) (fun kz Q hQ => pre3 kz Q (fun z => absurd x0 z) (fun _ => hQ)), fz_mono hf2 (by simp [mS]), fun j _ _ => by rw [hf2 50 (by simp)], Or.inr ⟨cond, Or.inl ⟨hun, rfl⟩⟩, Or.inl ⟨rfl, rfl⟩⟩
  -- the left side
  let E3 := zuE E2 50 52 0
  have n3 : ∀ a : Nat, a ≠ 50 → E3 a = E2 a := fun a ha => zuE_nf ha
  have hf3 : fz mS E E3 := fz_put (fz_mono hf2 (by simp [mS])) (by simp [mS])
  have hm3 : m50 E E3 := fun j _ j2 => (zuE_ix j2).trans (by rw [hf2 50 (by simp)])
  have a53 : E3 53 = E 53 := hf3 53 (by simp [mS])
  have a97 : E3 97 = E1 97 := by rw [n3 97 (by decide), f2 97 (by simp)]
  have hU3 : bdW (E3 97) (E3 98) 360 b := by rw [n3 97 (by decide), n3 98 (by decide)]; exact hU
  obtain ⟨E4, m4, g1, g2, g3⟩ := writeM_ok (E := E3) (b := b) (rk := rk) (u := tuL (E 53) (R p) i s) (O := []) hM (by rw [a53]; exact hP) (by rw [a53]; exact hb) hU3 (by rw [a53]; exact tl1) (onM_97 oL a97) ⟨zuE_same, fun k hk => absurd hk (by simp)⟩
  rw [List.nil_append] at g3
  have hf4 : fz mS E E4 := fz_trans hf3 (fz_mono g1 (by simp [mS]))
  have hm4 : m50 E E4 := fun j j1 j2 => (g2 j j2).trans (hm3 j j1 j2)
  -- copied
  have loop : ∀ (m k : Nat) (F : Nat → Int → Int), k + m = min 31 (sb (th b) (tuL (E 53) (R p) i s)).length → fz [104] E4 F → (∀ q : Nat, q < k → F 104 q = (sb (th b) (tuL (E 53) (R p) i s)).getD q 0) →
      ∃ F' : Nat → Int → Int, fz [104] E4 F' ∧ (∀ q : Nat, q < min 31 (sb (th b) (tuL (E 53) (R p) i s)).length → F' 104 q = (sb (th b) (tuL (E 53) (R p) i s)).getD q 0) ∧ ∀ kz Q, Z zm_X12_turn kz Q 227 [(0, zR 50), (1, zI (p : Int)), (2, zI i), (4, zI (n : Int)), (5, zI j), (11, zI rat), (12, zI (180 + 30 * j + pl)), (13, zI ((E4 50 52))), (14, zI ((min 31 (sb (th b) (tuL (E 53) (R p) i s)).length : Nat) : Int))] [] (d, G, F') → Z zm_X12_turn kz Q 227 [(0, zR 50), (1, zI (p : Int)), (2, zI i), (4, zI (n : Int)), (5, zI j), (11, zI rat), (12, zI (180 + 30 * j + pl)), (13, zI ((E4 50 52))), (14, zI (k : Int))] [] (d, G, F) := by
    intro m
    induction m with
    | zero =>
      intro k F hk hf hq
      have e : k = min 31 (sb (th b) (tuL (E 53) (R p) i s)).length := by omega
      rw [e]
      rw [e] at hq
      exact ⟨F, hf, hq, fun kz Q z => z⟩
    | succ m ih =>
      intro k F hk hf hq
      have f52 : F 50 52 = ((min 31 (sb (th b) (tuL (E 53) (R p) i s)).length : Nat) : Int) := by rw [hf 50 (by simp)]; exact g3.1
      have f102 : F 102 k = (sb (th b) (tuL (E 53) (R p) i s)).getD k 0 := by rw [hf 102 (by simp)]; exact g3.2 k (by omega) (by omega)
      obtain ⟨F', i1, i2, i3⟩ := ih (k + 1) (zuE F 104 k ((sb (th b) (tuL (E 53) (R p) i s)).getD k 0)) (by omega) (fz_put hf (by simp)) (fun q hqk => by
        rcases (by omega : q = k ∨ q < k) with e | e
        · subst e; exact zuE_same
        · rw [zuE_ix (by omega)]; exact hq q e)
      refine ⟨F', i1, i2, fun kz Q z => X12_turn_227 hM ⟨fun y => absurd y (by rw [f52]; omega), fun _ => ⟨⟨by omega, by omega⟩, ⟨by omega, by omega⟩, fun H e => ⟨zin_of (by omega) (by omega), ?_⟩⟩⟩⟩
      rw [f102] at e
      have ek : ((k + 1 : Nat) : Int) = (k : Int) + 1 := by omega
      have := i3 kz Q z
      rw [ek] at this
      rw [e]; exact this
  obtain ⟨F5, h1, h3, h4⟩ := loop (min 31 (sb (th b) (tuL (E 53) (R p) i s)).length) 0 E4 (by omega) fz_rfl (fun q hq => by omega)
  have hf5 : fz mS E F5 := fz_trans hf4 (fz_mono h1 (by simp [mS]))
  have hm5 : m50 E F5 := fun j j1 j2 => (by rw [h1 50 (by simp)] : F5 50 j = E4 50 j).trans (hm4 j j1 j2)
  have f52 : F5 50 52 = ((min 31 (sb (th b) (tuL (E 53) (R p) i s)).length : Nat) : Int) := by rw [h1 50 (by simp)]; exact g3.1
  -- the right side
  let E6 := zuE F5 50 52 0
  have hf6 : fz mS E E6 := fz_put hf5 (by simp [mS])
  have hm6 : m50 E E6 := fun j j1 j2 => (zuE_ix j2).trans (hm5 j j1 j2)
  have c53 : E6 53 = E 53 := hf6 53 (by simp [mS])
  have c97 : E6 97 = E3 97 := by rw [show E6 97 = F5 97 from zuE_nf (by decide), h1 97 (by simp), g1 97 (by simp)]
  have c98 : E6 98 = E3 98 := by rw [show E6 98 = F5 98 from zuE_nf (by decide), h1 98 (by simp), g1 98 (by simp)]
  obtain ⟨E7, m7, k1, k2, k3⟩ := writeM_ok (E := E6) (b := b) (rk := rk) (u := tuR (E 53) (R p) i s) (O := []) hM (by rw [c53]; exact hP) (by rw [c53]; exact hb) (by rw [c97, c98]; exact hU3) (by rw [c53]; exact tr1) (onM_97 oR (by rw [c97, a97])) ⟨zuE_same, fun k hk => absurd hk (by simp)⟩
  rw [List.nil_append] at k3
  have hf7 : fz mS E E7 := fz_trans hf6 (fz_mono k1 (by simp [mS]))
  have hm7 : m50 E E7 := fun j j1 j2 => (k2 j j2).trans (hm6 j j1 j2)
  have pre4 : ∀ kz (Q : Option zV → zH → Prop), (30 < E4 50 52 → Q (some (zI 0)) (d, G, E7)) → (¬ 30 < E4 50 52 → (E7 50 52 ≤ 30 → ∃ x_8 E_9, zM zm_X12_isGreater [zR 50, zR 102, zI 0, zR 104, zI 0] (d, G, E7) (some (zI x_8)) (d, G, E_9) ∧ (x_8 = 0 → ∀ E_13, E_13 = zuE E_9 50 24 0 → ∃ x_14 E_15, zM zm_X12_turnWrites [zR 50, zI (p : Int), zI i, zI (n : Int), zI j, zI (180 + 30 * j + pl), zI rat] (d, G, E_13) (some (zI x_14)) (d, G, E_15) ∧ (x_14 = 0 → Q (some (zI 0)) (d, G, E_15)) ∧ (¬ (x_14 = 0) → Q (some (zI 1)) (d, G, E_15))) ∧ (¬ (x_8 = 0) → Q (some (zI ((-1)))) (d, G, E_9))) ∧ (¬ (E7 50 52 ≤ 30) → Q (some (zI 0)) (d, G, E7))) → Z zm_X12_turn kz Q 0 [(0, zR 50), (1, zI (p : Int)), (2, zI i), (3, zI s), (4, zI (n : Int)), (5, zI j), (6, zI pl)] [] (d, G, E) := fun kz Q w1 w2 => by
    refine pre3 kz Q (fun _ => ⟨E4, m4, h4 kz Q (X12_turn_227 hM ⟨fun _ H e => ?_, fun y => absurd (by rw [f52]; omega) y⟩)⟩) (fun y => absurd (by omega) y)
    rw [e]
    exact ⟨E7, m7, w1, w2⟩
  have eL := g3.1
  have eR := k3.1
  by_cases c9 : (sb (th b) (tuL (E 53) (R p) i s)).length ≤ 30 ∧ (sb (th b) (tuR (E 53) (R p) i s)).length ≤ 30
  case neg =>
    refine ⟨0, E7, some none, zM_e rfl (Nat.le_of_ble_eq_true rfl) (fun kz Q hQ => pre4 kz Q (fun _ => hQ) (fun y => ⟨fun y2 => absurd c9 (fun z => ?_), fun _ => hQ⟩)), hf7, hm7, Or.inr ⟨cond, Or.inr ⟨b, hun, Or.inr (Or.inl ⟨c9, rfl⟩)⟩⟩, Or.inr (Or.inl ⟨rfl, rfl⟩)⟩
    exact c9 ⟨by omega, by omega⟩
  obtain ⟨c9a, c9b⟩ := c9
  have thT : ∀ w : List Int, tw (E 53) w → tw (E 53) (sb (th b) w) := fun w hw => tw_sb hP _ w (Nat.le_refl _) hw (fun v hv v0 => th_tw (L := -1 - v) hP hb (by omega))
  have thL : ∀ w : List Int, lo40 w → lo40 (sb (th b) w) := fun w hw v hv => by
    rcases sb_mem hv with ⟨_, z⟩ | ⟨y, y1, y2, y3⟩
    · omega
    · have := hw y y1
      exact th_lo hb (by omega) v y3
  obtain ⟨y, E8, m8, w1, w2⟩ := isGreaterW_ok (E := E7) (a := 102) (c := 104) (n := 31) (m := 31) (u := sb (th b) (tuR (E 53) (R p) i s)) (v := sb (th b) (tuL (E 53) (R p) i s)) hM (zM_51 hM).2.2 rfl (zM_53 hM).2.2 rfl (by rw [hf7 53 (by simp [mS])]; exact hP) (by rw [hf7 54 (by simp [mS])]; exact hW) (by omega) (by omega) (by decide) (by decide) (by rw [hf7 53 (by simp [mS])]; exact thT _ tr1) (by rw [hf7 53 (by simp [mS])]; exact thT _ tl1) (thL _ oR.2.2.2) (thL _ oL.2.2.2) (by omega) (by omega) (by omega) (fun k hk => k3.2 k hk (by omega)) (fun k hk => by rw [k1 104 (by simp), show E6 104 = F5 104 from zuE_nf (by decide)]; exact h3 k (by omega))
  rw [hf7 53 (by simp [mS]), hf7 54 (by simp [mS])] at w2
  have hf8 : fz mS E E8 := fz_trans hf7 (fz_mono w1 (by simp [mS]))
  have hm8 : m50 E E8 := fun j j1 j2 => (by rw [w1 50 (by simp)] : E8 50 j = E7 50 j).trans (hm7 j j1 j2)
  rcases w2 with ⟨y1, hkg⟩ | ⟨y0, hkg⟩
  · refine ⟨-1, E8, none, zM_e rfl (Nat.le_of_ble_eq_true rfl) (fun kz Q hQ => pre4 kz Q (fun z => absurd z (by omega)) (fun _ => ⟨fun _ => ⟨y, E8, m8, fun z => absurd z (by omega), fun _ => hQ⟩, fun z => absurd (by omega) z⟩)), hf8, hm8, Or.inr ⟨cond, Or.inr ⟨b, hun, Or.inl ⟨⟨c9a, c9b⟩, hkg, rfl⟩⟩⟩, Or.inl ⟨rfl, rfl⟩⟩
  · let E9 := zuE E8 50 24 0
    have hf9 : fz mS E E9 := fz_put hf8 (by simp [mS])
    have hm9 : m50 E E9 := fun j j1 j2 => (zuE_ix j1).trans (hm8 j j1 j2)
    have d53 : E9 53 = E 53 := hf9 53 (by simp [mS])
    have d54 : E9 54 = E 54 := hf9 54 (by simp [mS])
    have d97 : E9 97 = E3 97 := by rw [show E9 97 = E8 97 from zuE_nf (by decide), w1 97 (by simp), k1 97 (by simp), c97]
    have d98 : E9 98 = E3 98 := by rw [show E9 98 = E8 98 from zuE_nf (by decide), w1 98 (by simp), k1 98 (by simp), c98]
    have s9' : stM E9 (E 53) (E 54) K R := stM_fz hs hf9 (by simp [mS]) (by simp [mS]) (by simp [mS]) (by simp [mS]) (hm9 6 (by decide) (by decide))
    obtain ⟨z, E10, m10, z1, z2, z01, z3⟩ := turnWrites_ok (E := E9) (b := b) (rk := rk) (p := p) (n := n) (i := i) (j := j) (r0 := rat) (rw := tuR (E 53) (R p) i s) hM (by rw [d53]; exact hP) (by rw [d53]; exact hb) (by rw [d97, d98]; exact hU3) (by rw [d53, d54]; exact s9') hp hn (brd_97 hbr (by rw [d97, a97])) c2 c4 ⟨zuE_same, by simp, fun l hl => absurd hl (by simp)⟩ q1 (by rw [d53]; exact q2) (onM_97 oR (by rw [d97, a97])) (by rw [d53]; exact tr1)
    have e30 : 180 + 30 * j + ((((lit (R n) j.toNat).2.take pl.toNat).map shf).length : Int) = 180 + 30 * j + pl := by rw [q3]; omega
    rw [e30] at m10
    refine ⟨z, E10, _, zM_e rfl (Nat.le_of_ble_eq_true rfl) (fun kz Q hQ => pre4 kz Q (fun z => absurd z (by omega)) (fun _ => ⟨fun _ => ⟨y, E8, m8, fun _ H e => ⟨z, E10, by rw [e]; exact m10, fun q => ?_, fun q => ?_⟩, fun z => absurd y0 z⟩, fun z => absurd (by omega) z⟩)), fz_trans hf9 z1, m50_t hm9 z2, Or.inr ⟨cond, Or.inr ⟨b, hun, Or.inr (Or.inr ⟨⟨c9a, c9b⟩, hkg, rfl⟩)⟩⟩, z3⟩
    · rw [q] at hQ; exact hQ
    · have : z = 1 := by omega
      rw [this] at hQ; exact hQ
end RU
