/-! ===== steps: the class, clash, factor, drop ===== -/
section RW
variable {d : List Nat} {G : Nat → Int → Option Nat} {E : Nat → Int → Int}
theorem low_180 {r : Nat} {A : List zLt} (h : rowC E r A) : ∀ l : Nat, l < A.length → offs A l + (lit A l).2.length ≤ 180 := fun l hl => rowC_le h (l := l + 1) (by omega)
theorem qn_43 (c : Nat) : 43 < qn c + 1 := by unfold qn; omega
/-- all but one, behind a standing -/
theorem allButC_ok {K p : Nat} {R : Nat → List zLt} {but : Int} {b : zBd} {rk : Int → Nat} {acc : List zLt} (first : Bool) (hX : zK zXt d G) (hP : pok (E 3)) (hs : stC d G E (E 3) (E 4) K R) (hp : p < K) (hr10 : zRk d G 10) (hb : bw (E 3) b rk) (hU : bdU E b) (hbr : ∀ l : Nat, l < (R p).length → onB E ((if first then 0 else 180) + (offs (R p) l : Int)) (if first then (lit (R p) l).2 else (lit (R p) l).2.map shf)) (hA : rowC E 10 acc) :
    ∃ (x : Int) (E' : Nat → Int → Int), zM zm_X3_writeAllBut [zR 41, zR (qn p + 1), zI but, zI (if first then 0 else 180), zR 10] (d, G, E) (some (zI x)) (d, G, E') ∧ fz [10, 11, 12, 13, 20, 27, 28, 29] E E' ∧ bdU E' b ∧ (x = 0 ∨ x = 1) ∧ ((x = 1 ∧ ∃ A', adds acc (frm (R p) but (fun w => sb (th b) (if first then w else w.map shf)) (R p).length 0) = some A' ∧ rowC E' 10 A') ∨ (x = 0 ∧ adds acc (frm (R p) but (fun w => sb (th b) (if first then w else w.map shf)) (R p).length 0) = none)) := by
  obtain ⟨_, hc, ⟨hRp, _⟩, _⟩ := hs.2.2 p hp
  obtain ⟨x, E', m, f, _, h1, h2, h3⟩ := writeAllBut_ok (E := E) (g := fun w => if first then w else w.map shf) (base := if first then 0 else 180) (but := but) hX hP hb hU hc.2.2.1 (qn_43 p) hr10 hRp (fun l hl => ⟨hbr l hl, by cases first <;> simp⟩) hA (by split <;> omega) (by split <;> omega)
  exact ⟨x, E', m, f, h1, h2, h3⟩
theorem makeClash_ok {K p n : Nat} {R : Nat → List zLt} {i : Int} (hX : zK zXt d G) (hP : pok (E 3)) (hW : wok (E 4)) (hs : stC d G E (E 3) (E 4) K R) (h9 : ∀ c : Nat, c < K → E (qn c) 9 = chs (E 4) (R c)) (hI : stI E) (hr10 : zRk d G 10) (hA : rowC E 10 []) (hub : UB (E 3)) (hp : p < K) (hn : n < K) :
    ∃ (x : Int) (E' : Nat → Int → Int) (r : Option (Option (List zLt))), zM zm_X3_makeClash [zR 41, zR (qn p), zI i, zR (qn n), zR 10] (d, G, E) (some (zI x)) (d, G, E') ∧ fz kS E E' ∧ E' 19 = E 19 ∧ stI E' ∧ csR (E 3) (E 4) (R p) i (R n) r ∧ mkC E' r x := by
  obtain ⟨gp, hcp, ⟨hRp, _⟩, rkp⟩ := hs.2.2 p hp
  obtain ⟨gn, hcn, ⟨hRn, _⟩, rkn⟩ := hs.2.2 n hn
  have pp := isPositiveC_ok (E := E) hX hcp
  rw [h9 p hp] at pp
  have pi := has_ok (E := E) hX hcp.2.2.1 hRp i
  have pc := has_ok (E := E) hX hcn.2.2.1 hRn (E (qn n) 9)
  have no : ∀ (hno : ¬ (chs (E 4) (R p) = -1 ∧ 0 ≤ i ∧ i < (R p).length ∧ chs (E 4) (R n) ≠ -1)) (z : ∀ kz (Q : Option zV → zH → Prop), Q (some (zI 0)) (d, G, E) → Z zm_X3_makeClash kz Q 0 [(0, zR 41), (1, zR (qn p)), (2, zI i), (3, zR (qn n)), (4, zR 10)] [] (d, G, E)), ∃ (x : Int) (E' : Nat → Int → Int) (r : Option (Option (List zLt))), zM zm_X3_makeClash [zR 41, zR (qn p), zI i, zR (qn n), zR 10] (d, G, E) (some (zI x)) (d, G, E') ∧ fz kS E E' ∧ E' 19 = E 19 ∧ stI E' ∧ csR (E 3) (E 4) (R p) i (R n) r ∧ mkC E' r x :=
    fun hno z => ⟨0, E, none, zM_e rfl (Nat.le_of_ble_eq_true rfl) (fun kz Q hQ => z kz Q hQ), fz_rfl, rfl, hI, Or.inl ⟨hno, rfl⟩, Or.inl ⟨rfl, rfl⟩⟩
  by_cases c1 : chs (E 4) (R p) = -1
  case neg =>
    rw [if_neg c1] at pp
    exact no (fun z => c1 z.1) (fun kz Q hQ => X3_makeClash_0 hX hcp hcn hr10 ⟨_, pp, fun _ => hQ, fun z => absurd rfl z⟩)
  rw [if_pos c1] at pp
  by_cases c2 : 0 ≤ i ∧ i < (R p).length
  case neg =>
    rw [if_neg c2] at pi
    exact no (fun z => c2 ⟨z.2.1, z.2.2.1⟩) (fun kz Q hQ => X3_makeClash_0 hX hcp hcn hr10 ⟨_, pp, fun z => absurd z (by decide), fun _ => ⟨_, pi, fun _ => hQ, fun z => absurd rfl z⟩⟩)
  rw [if_pos c2] at pi
  have h9n := h9 n hn
  by_cases c3 : chs (E 4) (R n) = -1
  case pos =>
    rw [if_neg (by rw [h9n]; omega)] at pc
    exact no (fun z => z.2.2.2 c3) (fun kz Q hQ => X3_makeClash_0 hX hcp hcn hr10 ⟨_, pp, fun z => absurd z (by decide), fun _ => ⟨_, pi, fun z => absurd z (by decide), fun _ => ⟨_, pc, fun z => absurd rfl z, fun _ => hQ⟩⟩⟩)
  obtain ⟨h0, h1, _⟩ := chs_nn hW rkn c3
  rw [if_pos (by rw [h9n]; exact ⟨h0, h1⟩)] at pc
  have cond : chs (E 4) (R p) = -1 ∧ 0 ≤ i ∧ i < (R p).length ∧ chs (E 4) (R n) ≠ -1 := ⟨c1, c2.1, c2.2, c3⟩
  obtain ⟨il, eil⟩ : ∃ l : Nat, i = l := ⟨i.toNat, by omega⟩
  obtain ⟨cl, ecl⟩ : ∃ l : Nat, chs (E 4) (R n) = l := ⟨(chs (E 4) (R n)).toNat, by omega⟩
  have til : i.toNat = il := by omega
  have tcl : (chs (E 4) (R n)).toNat = cl := by omega
  have hil : il < (R p).length := by omega
  have hcl : cl < (R n).length := by omega
  have lp6 := hRp.2.1
  have ln6 := hRn.2.1
  have sp := hRp.2.2.1 il (by omega)
  have sn := hRn.2.2.1 cl (by omega)
  have op := low_180 hRp il hil
  have on := low_180 hRn cl hcl
  have wi := rkp.1 il hil
  have wc := rkn.1 cl hcl
  have wi0 := wok1_pos wi
  have wc0 := wok1_pos wc
  have bi := (hRp.2.2.2 il hil).2.2.1
  have bc := (hRn.2.2.2 cl hcl).2.2.1
  have hd1 : E (qn p + 1 + 1) (offs (R p) il) = fw (lit (R p) il).2 0 := by have := rowC_lk hRp hil 0 wi0; rw [fw_0, ← fw_nat] at this; simpa using this
  have hd2 : E (qn n + 1 + 1) (offs (R n) cl) = fw (lit (R n) cl).2 0 := by have := rowC_lk hRn hcl 0 wc0; rw [fw_0, ← fw_nat] at this; simpa using this
  have pre : ∀ kz (Q : Option zV → zH → Prop), (fw (lit (R p) il).2 0 = fw (lit (R n) cl).2 0 → ∃ E_18, zM zm_X9_layFirst [zR 20, zR (qn p + 1)] (d, G, E) none (d, G, E_18) ∧ ∃ E_21, zM zm_X9_laySecond [zR 20, zR (qn n + 1)] (d, G, E_18) none (d, G, E_21) ∧ ∃ x_25 E_26, zM zm_X9_widen [zR 20, zI (offs (R p) il : Int), zI (180 + (offs (R n) cl : Int))] (d, G, E_21) (some (zI x_25)) (d, G, E_26) ∧ (x_25 ≠ 0 → ∃ x_30 E_31, zM zm_X3_writeAllBut [zR 41, zR (qn p + 1), zI i, zI 0, zR 10] (d, G, E_26) (some (zI x_30)) (d, G, E_31) ∧ (x_30 = 0 → Q (some (zI 1)) (d, G, E_31)) ∧ (¬ (x_30 = 0) → ∃ x_35 E_36, zM zm_X3_writeAllBut [zR 41, zR (qn n + 1), zI ((E_31 (qn n) 9)), zI 180, zR 10] (d, G, E_31) (some (zI x_35)) (d, G, E_36) ∧ (x_35 = 0 → Q (some (zI 1)) (d, G, E_36)) ∧ (¬ (x_35 = 0) → Q (some (zI 2)) (d, G, E_36)))) ∧ (¬ (x_25 ≠ 0) → Q (some (zI 0)) (d, G, E_26))) → (fw (lit (R p) il).2 0 ≠ fw (lit (R n) cl).2 0 → Q (some (zI 0)) (d, G, E)) → Z zm_X3_makeClash kz Q 0 [(0, zR 41), (1, zR (qn p)), (2, zI i), (3, zR (qn n)), (4, zR 10)] [] (d, G, E) := fun kz Q k1 k2 => by
    refine X3_makeClash_0 hX hcp hcn hr10 ⟨_, pp, fun z => absurd z (by decide), fun _ => ⟨_, pi, fun z => absurd z (by decide), fun _ => ⟨_, pc, fun _ => ?_, fun z => absurd (by decide) z⟩⟩⟩
    rw [h9n, ecl, eil, sp, sn, hd1, hd2]
    refine ⟨⟨by omega, by omega⟩, ⟨by omega, by omega⟩, ⟨by omega, by omega⟩, ⟨by omega, by omega⟩, fun y => ?_, k2⟩
    obtain ⟨H1, a1, H2, a2, a3⟩ := k1 y
    rw [eil] at a3
    exact ⟨H1, a1, H2, a2, zin_of (by omega) (by omega), a3⟩
  by_cases c4 : fw (lit (R p) il).2 0 = fw (lit (R n) cl).2 0
  case neg =>
    refine ⟨0, E, none, zM_e rfl (Nat.le_of_ble_eq_true rfl) (fun kz Q hQ => pre kz Q (fun z => absurd z c4) (fun _ => hQ)), fz_rfl, rfl, hI, Or.inr ⟨cond, Or.inl ⟨?_, rfl⟩⟩, Or.inl ⟨rfl, rfl⟩⟩
    rw [til, tcl]
    obtain ⟨a, y, e1⟩ := List.exists_cons_of_ne_nil (tw_ne wi.1)
    obtain ⟨a', y', e2⟩ := List.exists_cons_of_ne_nil (tw_ne wc.1)
    have q1 := wi.2.1
    have q2 := wc.2.1
    rw [e1, e2, fw_c0, fw_c0] at c4
    rw [e1, fw_c0] at q1
    rw [e2, fw_c0] at q2
    rw [e1, e2, List.map_cons]
    have e3 : shf a' = a' := if_neg (by omega)
    rw [e3]
    exact UN_ne q1 q2 c4
  obtain ⟨E1, m1, f1, b1⟩ := layF_ok (E := E) hX hcp.2.2.1 hRp rkp.2.1
  have hRn1 : rowC E1 (qn n + 1) (R n) := rowC_fz hRn f1 (by simp [qn]; omega) (by simp [qn]; omega) (by simp [qn]; omega) (by simp [qn]; omega)
  have e13 : E1 3 = E 3 := f1 3 (by simp)
  obtain ⟨E2, m2, f2, b2, b3⟩ := layS_ok (E := E1) (A := R p) hX hcn.2.2.1 (qn_43 n) hRn1 (by rw [e13]; exact rkn.1) rkn.2.1 b1 (low_180 hRp)
  have hf2 : fz [21] E E2 := fz_trans f1 f2
  have e23 : E2 3 = E 3 := hf2 3 (by simp)
  have hI2 : stI E2 := by unfold stI at *; rw [hf2 20 (by simp), hf2 22 (by simp), hf2 23 (by simp)]; exact hI
  have ob1 := b2 il hil
  rw [Int.zero_add] at ob1
  have ob2 := b3 cl hcl
  obtain ⟨x, E3, m3, f3, _, hI3, hx⟩ := widen_ok (E := E2) (u := (lit (R p) il).2) (v := (lit (R n) cl).2.map shf) hX (by rw [e23]; exact hP) hI2 (by rw [e23]; exact wi.1) ob1 (by rw [e23]; exact tw_shf wc.1) ob2 (by omega) bi (by rw [List.length_map]; exact bc) (by rw [e23]; exact hub _ _ wi.1 (tw_shf wc.1) ob1.2.2.2 ob2.2.2.2 bi (by rw [List.length_map]; exact bc))
  rw [e23] at hx
  have hf3 : fz kS E E3 := fz_trans (fz_mono hf2 (by simp [kS])) (fz_mono f3 (by simp [kS, uS]))
  have e19 : E3 19 = E 19 := by rw [f3 19 (by simp [uS]), hf2 19 (by simp)]
  rcases hx with ⟨x1, b, rk, hun, hb, hU⟩ | ⟨x0, hun⟩
  case inr => exact ⟨0, E3, none, zM_e rfl (Nat.le_of_ble_eq_true rfl) (fun kz Q hQ => pre kz Q (fun _ => ⟨E1, m1, E2, m2, x, E3, m3, fun z => absurd x0 z, fun _ => hQ⟩) (fun z => absurd c4 z)), hf3, e19, hI3, Or.inr ⟨cond, Or.inl ⟨by rw [til, tcl]; exact hun, rfl⟩⟩, Or.inl ⟨rfl, rfl⟩⟩
  have s3 : stC d G E3 (E 3) (E 4) K R := stC_fz hs hf3 (by simp [kS]) (by rw [hf3 5 (by simp [kS])])
  have e33 : E3 3 = E 3 := hf3 3 (by simp [kS])
  have e34 : E3 4 = E 4 := hf3 4 (by simp [kS])
  have g21 : E3 21 = E2 21 := f3 21 (by simp [uS])
  have g1011 : fz [20, 21, 22, 23, 24, 25, 26, 27, 28] E E3 := fz_trans (fz_mono hf2 (by simp)) (fz_mono f3 (by simp [uS]))
  have hA3 : rowC E3 10 [] := rowC_fz hA g1011 (by decide) (by decide) (by decide) (by decide)
  obtain ⟨y, E4, m4, f4, hU4, y01, h4⟩ := allButC_ok (E := E3) (b := b) (rk := rk) (p := p) (but := i) true hX (by rw [e33]; exact hP) (by rw [e33, e34]; exact s3) hp hr10 (by rw [e33]; exact hb) hU (fun l hl => by have := b2 l hl; unfold onB at *; rw [g21]; exact this) hA3
  have hf4 : fz kS E E4 := fz_trans hf3 (fz_mono f4 (by simp [kS]))
  have e419 : E4 19 = E 19 := by rw [f4 19 (by simp)]; exact e19
  have addEq : ∀ A1, adds [] (frm (R p) i (fun w => sb (th b) w) (R p).length 0) = some A1 → adds [] (frm (R p) i (sb (th b)) (R p).length 0 ++ frm (R n) (chs (E 4) (R n)) (fun w => sb (th b) (w.map shf)) (R n).length 0) = adds A1 (frm (R n) (chs (E 4) (R n)) (fun w => sb (th b) (w.map shf)) (R n).length 0) := fun A1 h => by
    rw [adds_app]
    have : adds [] (frm (R p) i (sb (th b)) (R p).length 0) = some A1 := h
    rw [this]; rfl
  rcases h4 with ⟨y1, A1, hA1, hr1⟩ | ⟨y0, hA1⟩
  · have s4 : stC d G E4 (E 3) (E 4) K R := stC_fz hs hf4 (by simp [kS]) (by rw [hf4 5 (by simp [kS])])
    have b43 : E4 3 = E 3 := hf4 3 (by simp [kS])
    have b44 : E4 4 = E 4 := hf4 4 (by simp [kS])
    have q9 : E4 (qn n) 9 = chs (E 4) (R n) := by rw [hf4 (qn n) (by simp [kS, qn]; omega)]; exact h9n
    obtain ⟨z, E5, m5, f5, hU5, z01, h5⟩ := allButC_ok (E := E4) (b := b) (rk := rk) (p := n) (but := chs (E 4) (R n)) (acc := A1) false hX (by rw [b43]; exact hP) (by rw [b43, b44]; exact s4) hn hr10 (by rw [b43]; exact hb) hU4 (fun l hl => by have := b3 l hl; unfold onB at *; rw [f4 21 (by simp), g21]; exact this) hr1
    refine ⟨z + 1, E5, some (adds A1 (frm (R n) (chs (E 4) (R n)) (fun w => sb (th b) (w.map shf)) (R n).length 0)), zM_e rfl (Nat.le_of_ble_eq_true rfl) (fun kz Q hQ => pre kz Q (fun _ => ⟨E1, m1, E2, m2, x, E3, m3, fun _ => ⟨y, E4, m4, fun q => absurd q (by omega), fun _ => ⟨z, E5, by rw [q9]; exact m5, fun q => ?_, fun q => ?_⟩⟩, fun q => absurd (by omega) q⟩) (fun q => absurd c4 q)), fz_trans hf4 (fz_mono f5 (by simp [kS])), by rw [f5 19 (by simp)]; exact e419, bdU_stI hb hU5, Or.inr ⟨cond, Or.inr ⟨b, by rw [til, tcl]; exact hun, by rw [addEq A1 hA1]⟩⟩, ?_⟩
    · rw [q] at hQ; exact hQ
    · have : z = 1 := by omega
      rw [this] at hQ; exact hQ
    · rcases h5 with ⟨w, A2, hA2, hr2⟩ | ⟨w, hA2⟩
      · exact Or.inr (Or.inr ⟨A2, by rw [← hA2]; rfl, by omega, hr2⟩)
      · exact Or.inr (Or.inl ⟨by rw [← hA2]; rfl, by omega⟩)
  · refine ⟨1, E4, some none, zM_e rfl (Nat.le_of_ble_eq_true rfl) (fun kz Q hQ => pre kz Q (fun _ => ⟨E1, m1, E2, m2, x, E3, m3, fun _ => ⟨y, E4, m4, fun _ => hQ, fun q => absurd y0 q⟩, fun q => absurd (by omega) q⟩) (fun q => absurd c4 q)), hf4, e419, bdU_stI hb hU4, Or.inr ⟨cond, Or.inr ⟨b, by rw [til, tcl]; exact hun, ?_⟩⟩, Or.inr (Or.inl ⟨rfl, rfl⟩)⟩
    rw [adds_app]
    have : adds [] (frm (R p) i (sb (th b)) (R p).length 0) = none := hA1
    rw [this]; rfl
end RW
