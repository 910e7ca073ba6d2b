/-! ===== steps: the reference, clash, factor, drop ===== -/
/-- the reference's answer for what a step makes -/
def mkM (E' : Nat → Int → Int) (r : Option (Option (List zLt))) (x : Int) : Prop := (r = none ∧ x = -1) ∨ (r = some none ∧ x = 0) ∨ ∃ A', r = some (some A') ∧ x = 1 ∧ rowW E' A'
/-- what making changes -/
def mS : List Nat := [50, 72, 73, 74, 76, 97, 98, 99, 100, 101, 102, 104]
def m50 (E F : Nat → Int → Int) : Prop := ∀ j : Int, j ≠ 24 → j ≠ 52 → F 50 j = E 50 j
theorem m50_t {E F H : Nat → Int → Int} (h : m50 E F) (h' : m50 F H) : m50 E H := fun j j1 j2 => (h' j j1 j2).trans (h j j1 j2)
section RR
variable {d : List Nat} {G : Nat → Int → Option Nat} {E : Nat → Int → Int}
theorem isPositive_ok {K c : Nat} {R : Nat → List zLt} (hM : zK zMt d G) (hs : stM E (E 53) (E 54) K R) (hc : c < K) (hW : wok (E 54)) : zM zm_X12_isPositive [zR 50, zI (c : Int)] (d, G, E) (some (zI (if chs (E 54) (R c) = -1 then 1 else 0))) (d, G, E) := by
  refine zM_e rfl (Nat.le_of_ble_eq_true rfl) (fun kz Q hQ => X12_isPositive_0 hM ⟨_, chosenOf_ok hM hs hc hW, fun z => ?_, fun z => ?_⟩)
  · rw [if_neg z] at hQ; exact hQ
  · rw [if_pos (Classical.byContradiction fun y => z y)] at hQ; exact hQ
theorem isLiteral_ok {K c : Nat} {R : Nat → List zLt} {v : Int} (hM : zK zMt d G) (hs : stM E (E 53) (E 54) K R) (hc : c < K) : zM zm_X12_isLiteral [zR 50, zI (c : Int), zI v] (d, G, E) (some (zI (if 0 ≤ v ∧ v ≤ ((R c).length : Int) - 1 then 1 else 0))) (d, G, E) := by
  have h61 := (hs.2.2 c hc).1.1
  have h6 := (hs.2.2 c hc).1.2.1
  have hK := hs.2.1
  refine zM_e rfl (Nat.le_of_ble_eq_true rfl) (fun kz Q hQ => X12_isLiteral_0 hM ⟨⟨by omega, by omega⟩, by rw [h61]; exact zin_of (by omega) (by omega), _, by rw [h61]; exact in_ok hM v 0 _, ?_, hQ⟩)
  split <;> simp
/-- the board with two claims -/
def brd (E : Nat → Int → Int) (A B : List zLt) : Prop := (∀ l : Nat, l < A.length → onM E (0 + 30 * (l : Int)) (lit A l).2) ∧ ∀ l : Nat, l < B.length → onM E (180 + 30 * (l : Int)) ((lit B l).2.map shf)
theorem brd_97 {E E' : Nat → Int → Int} {A B : List zLt} (h : brd E A B) (e : E' 97 = E 97) : brd E' A B := ⟨fun l hl => onM_97 (h.1 l hl) e, fun l hl => onM_97 (h.2 l hl) e⟩
theorem lay2_ok {K p n : Nat} {R : Nat → List zLt} (hM : zK zMt d G) (hs : stM E (E 53) (E 54) K R) (hp : p < K) (hn : n < K) (hlo : ∀ i : Int, -1000 ≤ E 58 i) :
    ∃ E' : Nat → Int → Int, zM zm_X12_take [zR 50, zI (p : Int), zI (n : Int)] (d, G, E) none (d, G, E') ∧ fz [97, 98] E E' ∧ (∀ L : Int, 0 ≤ L → L < 40 → E' 98 L = -1) ∧ brd E' (R p) (R n) := by
  have hK := hs.2.1
  obtain ⟨E', m, f, h98, h97⟩ := take2_ok (E := E) (p := p) (n := n) hM (by omega) (by omega) hlo
  refine ⟨E', m, f, h98, fun l hl => ?_, fun l hl => ?_⟩
  · obtain ⟨⟨a1, a2, a3⟩, r1, r2, r3⟩ := hs.2.2 p hp
    obtain ⟨b1, b2, b3, b4, b5⟩ := a3 l hl
    refine ⟨by omega, by omega, fun k hk => ?_, lo_20 (r2 l hl)⟩
    rw [(h97 (0 + 30 * (l : Int) + k) (by omega) (by omega)).1]
    have e : 180 * (p : Int) + (0 + 30 * (l : Int) + k) = 30 * (6 * (p : Int) + l) + k := by omega
    rw [e]; exact b5 k hk
  · obtain ⟨⟨a1, a2, a3⟩, r1, r2, r3⟩ := hs.2.2 n hn
    obtain ⟨b1, b2, b3, b4, b5⟩ := a3 l hl
    refine ⟨by omega, by rw [List.length_map]; omega, fun k hk => ?_, lo_shf (r2 l hl)⟩
    rw [List.length_map] at hk
    have e0 : 180 + 30 * (l : Int) + (k : Int) = 180 + (30 * (l : Int) + k) := by omega
    rw [e0, (h97 (30 * (l : Int) + k) (by omega) (by omega)).2]
    have e : 180 * (n : Int) + (30 * (l : Int) + k) = 30 * (6 * (n : Int) + l) + k := by omega
    rw [e, b5 k hk, fw_0, fw_0, getD_shf hk]
theorem brd_tw {K p n : Nat} {P W : Int → Int} {R : Nat → List zLt} (hs : stM E P W K R) (hp : p < K) {l : Nat} (hl : l < (R p).length) : tw P (lit (R p) l).2 ∧ tw P ((lit (R p) l).2.map shf) := ⟨((hs.2.2 p hp).2.1 l hl).1, tw_shf ((hs.2.2 p hp).2.1 l hl).1⟩
/-- the rows of one claim behind others -/
theorem writesAll2_ok {b : zBd} {rk : Int → Nat} {K c : Nat} {R : Nat → List zLt} {acc : List zLt} {but : Int} (first : Bool) (hM : zK zMt d G) (hP : pok (E 53)) (hb : bw (E 53) b rk) (hU : bdW (E 97) (E 98) 360 b) (hs : stM E (E 53) (E 54) K R) (hc : c < K) (hB : ∀ l : Nat, l < (R c).length → onM E ((if first then 0 else 180) + 30 * (l : Int)) (if first then (lit (R c) l).2 else (lit (R c) l).2.map shf)) (hA : rowW E acc) :
    ∃ (x : Int) (E' : Nat → Int → Int), zM zm_X12_writesAll [zR 50, zI (c : Int), zI (if first then 0 else 180), zI but] (d, G, E) (some (zI x)) (d, G, E') ∧ fz [50, 72, 73, 74, 99, 101, 102] E E' ∧ m50 E E' ∧ ((x = 1 ∧ ∃ A', adds acc (frm (R c) but (fun w => sb (th b) (if first then w else w.map shf)) (R c).length 0) = some A' ∧ rowW E' A') ∨ (x = 0 ∧ adds acc (frm (R c) but (fun w => sb (th b) (if first then w else w.map shf)) (R c).length 0) = none)) := by
  have hK := hs.2.1
  exact writesAll_ok (g := fun w => if first then w else w.map shf) hM hP hb hU (by omega) (hs.2.2 c hc).1 (fun l hl => ⟨hB l hl, by
    cases first
    · exact (brd_tw (n := c) hs hc hl).2
    · exact (brd_tw (n := c) hs hc hl).1⟩) hA (by split <;> omega) (by split <;> omega)
theorem chs_nn {P W : Int → Int} (hW : wok W) {A : List zLt} (h : rok P W A) (hne : chs W A ≠ -1) : 0 ≤ chs W A ∧ chs W A < A.length ∧ (lit A (chs W A).toNat).1 ≠ 0 := by
  rcases chf_b hW h A.length (Nat.le_refl _) with ⟨a, _⟩ | ⟨a, b, _, c⟩
  · exact absurd a hne
  · exact ⟨a, b, c⟩
theorem clash_ok {K p n : Nat} {R : Nat → List zLt} {i : Int} (hM : zK zMt d G) (hP : pok (E 53)) (hW : wok (E 54)) (hs : stM E (E 53) (E 54) K R) (hp : p < K) (hn : n < K) (hlo : ∀ i : Int, -1000 ≤ E 58 i) :
    ∃ (x : Int) (E' : Nat → Int → Int) (r : Option (Option (List zLt))), zM zm_X12_clash [zR 50, zI (p : Int), zI i, zI (n : Int)] (d, G, E) (some (zI x)) (d, G, E') ∧ fz mS E E' ∧ m50 E E' ∧ csR (E 53) (E 54) (R p) i (R n) r ∧ mkM E' r x := by
  have hK := hs.2.1
  have pp := isPositive_ok (E := E) hM hs hp hW
  have pn := isPositive_ok (E := E) hM hs hn hW
  have pl := isLiteral_ok (E := E) (v := i) hM hs hp
  by_cases c1 : chs (E 54) (R p) = -1
  · rw [if_pos c1] at pp
    by_cases c2 : 0 ≤ i ∧ i < (R p).length
    · rw [if_pos (by omega)] at pl
      by_cases c3 : chs (E 54) (R n) = -1
      · rw [if_pos c3] at pn
        refine ⟨-1, E, none, zM_e rfl (Nat.le_of_ble_eq_true rfl) (fun kz Q hQ => X12_clash_0 hM ⟨_, pp, fun z => absurd z (by decide), fun _ => ⟨_, pl, fun z => absurd z (by decide), fun _ => ⟨_, pn, fun z => absurd z (by decide), fun _ => hQ⟩⟩⟩), fz_rfl, fun _ _ _ => rfl, Or.inl ⟨fun z => z.2.2.2 c3, rfl⟩, Or.inl ⟨rfl, rfl⟩⟩
      · rw [if_neg c3] at pn
        obtain ⟨h0, h1, _⟩ := chs_nn hW (hs.2.2 n hn).2 c3
        have cond : chs (E 54) (R p) = -1 ∧ 0 ≤ i ∧ i < (R p).length ∧ chs (E 54) (R n) ≠ -1 := ⟨c1, c2.1, c2.2, c3⟩
        obtain ⟨il, eil⟩ : ∃ l : Nat, i = l := ⟨i.toNat, by omega⟩
        obtain ⟨cl, ecl⟩ : ∃ l : Nat, chs (E 54) (R n) = l := ⟨(chs (E 54) (R n)).toNat, by omega⟩
        have til : i.toNat = il := by omega
        have tcl : (chs (E 54) (R n)).toNat = cl := by omega
        have ln6 := (hs.2.2 n hn).1.2.1
        have lp6 := (hs.2.2 p hp).1.2.1
        have e61p := (hs.2.2 p hp).1.1
        have e61n := (hs.2.2 n hn).1.1
        have mc := chosenOf_ok (E := E) hM hs hn hW
        obtain ⟨E1, m1, f1, h98, hbr⟩ := lay2_ok (E := E) hM hs hp hn hlo
        have e53 : E1 53 = E 53 := f1 53 (by simp)
        have e54 : E1 54 = E 54 := f1 54 (by simp)
        obtain ⟨x, E2, m2, f2, hx⟩ := unites_ok (E := E1) (i := 30 * i) (j := 180 + 30 * chs (E 54) (R n)) (u := (lit (R p) il).2) (v := (lit (R n) cl).2.map shf) hM (by rw [e53]; exact hP) h98 (by rw [e53]; exact (brd_tw (n := n) hs hp (by omega)).1) (by have := hbr.1 il (by omega); rw [Int.zero_add, ← eil] at this; exact this) (by rw [e53]; exact (brd_tw (n := n) hs hn (by omega)).2) (by rw [ecl]; exact hbr.2 cl (by omega))
        rw [e53] at hx
        have pre : ∀ kz (Q : Option zV → zH → Prop), (x ≠ 0 → ∀ E_27, E_27 = zuE E2 50 24 0 → ((0 : Int) ≤ (p : Int) ∧ (p : Int) < (150 : Int)) ∧ ((0 : Int) ≤ (n : Int) ∧ (n : Int) < (150 : Int)) ∧ zin ((E_27 61 (p : Int)) + (E_27 61 (n : Int))) ∧ (8 < ((E_27 61 (p : Int)) + (E_27 61 (n : Int))) → Q (some (zI 0)) (d, G, E_27)) ∧ (¬ (8 < ((E_27 61 (p : Int)) + (E_27 61 (n : Int)))) → ∃ x_32 E_33, zM zm_X12_writesAll [zR 50, zI (p : Int), zI 0, zI i] (d, G, E_27) (some (zI x_32)) (d, G, E_33) ∧ (x_32 = 0 → Q (some (zI 0)) (d, G, E_33)) ∧ (¬ (x_32 = 0) → ∃ x_37 E_38, zM zm_X12_writesAll [zR 50, zI (n : Int), zI 180, zI (chs (E 54) (R n))] (d, G, E_33) (some (zI x_37)) (d, G, E_38) ∧ (x_37 = 0 → Q (some (zI 0)) (d, G, E_38)) ∧ (¬ (x_37 = 0) → Q (some (zI 1)) (d, G, E_38))))) → (¬ (x ≠ 0) → Q (some (zI ((-1)))) (d, G, E2)) → Z zm_X12_clash kz Q 0 [(0, zR 50), (1, zI (p : Int)), (2, zI i), (3, zI (n : Int))] [] (d, G, E) := fun kz Q k1 k2 =>
          X12_clash_0 hM ⟨_, pp, fun z => absurd z (by decide), fun _ => ⟨_, pl, fun z => absurd z (by decide), fun _ => ⟨_, pn, fun _ => ⟨_, mc, E1, m1, zin_of (by omega) (by omega), zin_of (by omega) (by omega), zin_of (by omega) (by omega), x, E2, m2, k1, k2⟩, fun z => absurd rfl z⟩⟩⟩
        have hf2 : fz mS E E2 := fz_trans (fz_mono f1 (by simp [mS])) (fz_mono f2 (by simp [mS]))
        have o50 : E2 50 = E 50 := by rw [f2 50 (by simp), f1 50 (by simp)]
        rcases hx with ⟨x1, b, rk, hun, hb, hU⟩ | ⟨x0, hun⟩
        · let E3 := zuE E2 50 24 0
          have n3 : ∀ a : Nat, a ≠ 50 → E3 a = E2 a := fun a ha => zuE_nf ha
          have k3 : ∀ a : Nat, a ≠ 50 → a ≠ 97 → a ≠ 98 → a ≠ 99 → a ≠ 100 → a ≠ 101 → E3 a = E a := fun a h0 h1 h2 h3 h4 h5 => by rw [n3 a h0, f2 a (by simp; omega), f1 a (by simp; omega)]
          have hf3 : fz mS E E3 := fz_put hf2 (by simp [mS])
          have hm3 : m50 E E3 := fun j j1 _ => (zuE_ix j1).trans (by rw [o50])
          have s3 : stM E3 (E 53) (E 54) K R := stM_fz hs hf3 (by simp [mS]) (by simp [mS]) (by simp [mS]) (by simp [mS]) (hm3 6 (by decide) (by decide))
          have a53 : E3 53 = E 53 := k3 53 (by decide) (by decide) (by decide) (by decide) (by decide) (by decide)
          have a54 : E3 54 = E 54 := k3 54 (by decide) (by decide) (by decide) (by decide) (by decide) (by decide)
          have a61 : E3 61 = E 61 := k3 61 (by decide) (by decide) (by decide) (by decide) (by decide) (by decide)
          have row0 : rowW E3 [] := ⟨zuE_same, by simp, fun l hl => absurd hl (by simp)⟩
          have br3 : brd E3 (R p) (R n) := brd_97 hbr (by rw [n3 97 (by decide), f2 97 (by simp)])
          have hU3 : bdW (E3 97) (E3 98) 360 b := by rw [n3 97 (by decide), n3 98 (by decide)]; exact hU
          by_cases c8 : 8 < (R p).length + (R n).length
          · refine ⟨0, E3, some none, zM_e rfl (Nat.le_of_ble_eq_true rfl) (fun kz Q hQ => pre kz Q (fun _ H e => ?_) (fun z => absurd (by omega) z)), hf3, hm3, Or.inr ⟨cond, Or.inr ⟨b, by rw [til, tcl]; exact hun, ?_⟩⟩, Or.inr (Or.inl ⟨rfl, rfl⟩)⟩
            · have q : H 61 = E 61 := by rw [e]; exact a61
              have eH : H = E3 := e
              rw [q, e61p, e61n]
              exact ⟨⟨by omega, by omega⟩, ⟨by omega, by omega⟩, zin_of (by omega) (by omega), fun _ => by rw [eH]; exact hQ, fun z => absurd (by omega) z⟩
            · rw [adds_many (by simp)]
              rw [List.length_append, frm_len (by omega), frm_len (by omega), if_pos (by omega), if_pos (by omega)]
              simp only [List.length_nil]
              omega
          · obtain ⟨y, E4, m4, f4, j4, h4⟩ := writesAll2_ok (E := E3) (b := b) (rk := rk) (c := p) (but := i) true hM (by rw [a53]; exact hP) (by rw [a53]; exact hb) hU3 (by rw [a53, a54]; exact s3) hp (fun l hl => br3.1 l hl) row0
            have hf4 : fz mS E E4 := fz_trans hf3 (fz_mono f4 (by simp [mS]))
            have hm4 : m50 E E4 := m50_t hm3 j4
            have addEq : ∀ A1, adds [] (frm (R p) i (fun w => sb (th b) w) (R p).length 0) = some A1 → adds [] (frm (R p) i (sb (th b)) (R p).length 0 ++ frm (R n) (chs (E 54) (R n)) (fun w => sb (th b) (w.map shf)) (R n).length 0) = adds A1 (frm (R n) (chs (E 54) (R n)) (fun w => sb (th b) (w.map shf)) (R n).length 0) := fun A1 h => by
              rw [adds_app]
              have : adds [] (frm (R p) i (sb (th b)) (R p).length 0) = some A1 := h
              rw [this]; rfl
            rcases h4 with ⟨y1, A1, hA1, hr1⟩ | ⟨y0, hA1⟩
            · have b53 : E4 53 = E 53 := hf4 53 (by simp [mS])
              have b54 : E4 54 = E 54 := hf4 54 (by simp [mS])
              have s4 : stM E4 (E 53) (E 54) K R := stM_fz hs hf4 (by simp [mS]) (by simp [mS]) (by simp [mS]) (by simp [mS]) (hm4 6 (by decide) (by decide))
              obtain ⟨z, E5, m5, f5, j5, h5⟩ := writesAll2_ok (E := E4) (b := b) (rk := rk) (c := n) (but := chs (E 54) (R n)) (acc := A1) false hM (by rw [b53]; exact hP) (by rw [b53]; exact hb) (by rw [f4 97 (by simp), f4 98 (by simp)]; exact hU3) (by rw [b53, b54]; exact s4) hn (fun l hl => onM_97 (br3.2 l hl) (f4 97 (by simp))) hr1
              refine ⟨z, E5, some (adds A1 (frm (R n) (chs (E 54) (R n)) (fun w => sb (th b) (w.map shf)) (R n).length 0)), zM_e rfl (Nat.le_of_ble_eq_true rfl) (fun kz Q hQ => pre kz Q (fun _ H e => ?_) (fun q => absurd (by omega) q)), fz_trans hf4 (fz_mono f5 (by simp [mS])), m50_t hm4 j5, Or.inr ⟨cond, Or.inr ⟨b, by rw [til, tcl]; exact hun, ?_⟩⟩, ?_⟩
              · have q : H 61 = E 61 := by rw [e]; exact a61
                have eH : H = E3 := e
                rw [q, e61p, e61n, eH]
                refine ⟨⟨by omega, by omega⟩, ⟨by omega, by omega⟩, zin_of (by omega) (by omega), fun q => absurd q (by omega), fun _ => ⟨y, E4, m4, fun q => absurd q (by omega), fun _ => ⟨z, E5, m5, fun q => ?_, fun q => ?_⟩⟩⟩
                · rw [q] at hQ; exact hQ
                · have z1 : z = 1 := by
                    rcases h5 with ⟨w, _⟩ | ⟨w, _⟩
                    · exact w
                    · exact absurd w q
                  rw [z1] at hQ; exact hQ
              · rw [addEq A1 hA1]
              · rcases h5 with ⟨w, A2, hA2, hr2⟩ | ⟨w, hA2⟩
                · exact Or.inr (Or.inr ⟨A2, by rw [← hA2]; rfl, w, hr2⟩)
                · exact Or.inr (Or.inl ⟨by rw [← hA2]; rfl, w⟩)
            · refine ⟨0, E4, some none, zM_e rfl (Nat.le_of_ble_eq_true rfl) (fun kz Q hQ => pre kz Q (fun _ H e => ?_) (fun q => absurd (by omega) q)), hf4, hm4, Or.inr ⟨cond, Or.inr ⟨b, by rw [til, tcl]; exact hun, ?_⟩⟩, Or.inr (Or.inl ⟨rfl, rfl⟩)⟩
              · have q : H 61 = E 61 := by rw [e]; exact a61
                have eH : H = E3 := e
                rw [q, e61p, e61n, eH]
                exact ⟨⟨by omega, by omega⟩, ⟨by omega, by omega⟩, zin_of (by omega) (by omega), fun q => absurd q (by omega), fun _ => ⟨y, E4, m4, fun _ => hQ, fun q => absurd y0 q⟩⟩
              · rw [adds_app]
                have : adds [] (frm (R p) i (sb (th b)) (R p).length 0) = none := hA1
                rw [this]; rfl
        · refine ⟨-1, E2, none, zM_e rfl (Nat.le_of_ble_eq_true rfl) (fun kz Q hQ => pre kz Q (fun z => absurd x0 z) (fun _ => hQ)), hf2, fun j _ _ => by rw [o50], Or.inr ⟨cond, Or.inl ⟨by rw [til, tcl]; exact hun, rfl⟩⟩, Or.inl ⟨rfl, rfl⟩⟩
    · rw [if_neg (by omega)] at pl
      exact ⟨-1, E, none, zM_e rfl (Nat.le_of_ble_eq_true rfl) (fun kz Q hQ => X12_clash_0 hM ⟨_, pp, fun z => absurd z (by decide), fun _ => ⟨_, pl, fun _ => hQ, fun z => absurd rfl z⟩⟩), fz_rfl, fun _ _ _ => rfl, Or.inl ⟨fun z => c2 ⟨z.2.1, z.2.2.1⟩, rfl⟩, Or.inl ⟨rfl, rfl⟩⟩
  · rw [if_neg c1] at pp
    exact ⟨-1, E, none, zM_e rfl (Nat.le_of_ble_eq_true rfl) (fun kz Q hQ => X12_clash_0 hM ⟨_, pp, fun _ => hQ, fun z => absurd rfl z⟩), fz_rfl, fun _ _ _ => rfl, Or.inl ⟨fun z => c1 z.1, rfl⟩, Or.inl ⟨rfl, rfl⟩⟩
end RR
