/-! ===== the agenda: turns ===== -/
/-- from which literal on, and up to which -/
def jOk (W : Int → Int) (B : List zLt) (first : Nat) (last : Int) : Prop := (chs W B = -1 ∧ first = 0 ∧ last = (B.length : Int) - 1) ∨ (chs W B = first ∧ last = first ∧ first < B.length)
def at42 (E : Nat → Int → Int) (i sd j pl : Nat) : Prop := E 42 8 = i ∧ E 42 9 = sd ∧ E 42 10 = j ∧ E 42 11 = pl
/-- a turn that is to be tried, or none is left -/
def tuO (P W : Int → Int) (R : Nat → List zLt) (K p n first : Nat) (E E' : Nat → Int → Int) (x : Int) (L : List (List Int)) : Prop := x42 E E' ∧ ((x = 0 ∧ dead P W R K L) ∨ (x = 1 ∧ ∃ (i sd j pl : Nat) (D : List (List Int)), at42 E' i sd j pl ∧ (first ≤ j ∧ i < (R p).length ∧ sd < 2 ∧ 1 ≤ pl ∧ pl ≤ 30) ∧ dead P W R K D ∧ L = D ++ ([4, (p : Int), (i : Int), (sd : Int), (n : Int), (j : Int), (pl : Int)] :: tuM (R p) (R n) p n i sd j (pl + 1))))
def L82 (A B : List zLt) (p n i sd j pl : Nat) : List (List Int) := if sd < 2 then tuM A B p n i sd j pl else tuI p n B (A.length - (i + 1)) (i + 1)
def L65 (A B : List zLt) (p n i sd j pl : Nat) : List (List Int) := if i < A.length then L82 A B p n i sd j pl else []
section SK
variable {d : List Nat} {G : Nat → Int → Option Nat} {E : Nat → Int → Int}
variable {P W : Int → Int} {K : Nat} {R : Nat → List zLt} {p n first : Nat} {last : Int}
theorem jOk_no (h : jOk W (R n) first last) {j : Nat} (hj : j < first ∨ last < j) (i s q : Int) : ¬ tuC W (R p) i s (R n) j q := fun c => by
  have a := c.2.2.2.2.1
  have b := c.2.2.2.2.2.1
  rcases h with ⟨h1, h2, h3⟩ | ⟨h1, h2, h3⟩ <;> omega
theorem tuO_d {E' : Nat → Int → Int} {x : Int} {L D0 : List (List Int)} (hd : dead P W R K D0) (h : tuO P W R K p n first E E' x L) : tuO P W R K p n first E E' x (D0 ++ L) := by
  obtain ⟨a, ⟨b, c⟩ | ⟨b, i, sd, j, pl, D, c1, c2, c3, c4⟩⟩ := h
  · exact ⟨a, Or.inl ⟨b, dead_app hd c⟩⟩
  · exact ⟨a, Or.inr ⟨b, i, sd, j, pl, D0 ++ D, c1, c2, dead_app hd c3, by rw [c4, List.append_assoc]⟩⟩
theorem tuO_x {F E' : Nat → Int → Int} {x : Int} {L : List (List Int)} (hx : x42 E F) (h : tuO P W R K p n first F E' x L) : tuO P W R K p n first E E' x L := ⟨x42_t hx h.1, h.2⟩
theorem nxt_sd (hj : jOk W (R n) first last) (hp : p < K) (hn : n < K) {i sd : Nat} (hs : sd ≤ 2) : ∃ D, dead P W R K D ∧ tuW p n (R n) i (2 - sd) sd ++ tuI p n (R n) ((R p).length - (i + 1)) (i + 1) = D ++ L82 (R p) (R n) p n i sd first 1 := by
  by_cases c : sd < 2
  · refine ⟨tuJ p n (R n) i sd first 0, dead_tJ hp hn _ _ (fun j' _ j2 => jOk_no hj (Or.inl (by omega)) _ _), ?_⟩
    unfold L82
    rw [if_pos c]
    have e : 2 - sd = (2 - (sd + 1)) + 1 := by omega
    rw [e]
    have f : first ≤ (R n).length := by
      rcases hj with ⟨_, h2, _⟩ | ⟨_, _, h3⟩ <;> omega
    have e2 : (R n).length = first + ((R n).length - first) := by omega
    have e3 : tuJ p n (R n) i sd (R n).length 0 = tuJ p n (R n) i sd first 0 ++ tuJ p n (R n) i sd ((R n).length - first) first := by
      have := tuJ_split (p := p) (n := n) (i := i) (s := sd) (B := R n) first ((R n).length - first) 0
      rw [← e2, Nat.zero_add] at this
      exact this
    simp only [tuW]
    rw [e3, tuJ_next]
    unfold tuM
    simp only [List.append_assoc]
  · have e : sd = 2 := by omega
    subst e
    refine ⟨[], dead_nil, ?_⟩
    unfold L82
    rw [if_neg (by omega)]
    rfl
theorem nxt_i (hj : jOk W (R n) first last) (hp : p < K) (hn : n < K) {i : Nat} : ∃ D, dead P W R K D ∧ tuI p n (R n) ((R p).length - i) i = D ++ L65 (R p) (R n) p n i 0 first 1 := by
  by_cases c : i < (R p).length
  · obtain ⟨D, d1, d2⟩ := nxt_sd (P := P) (i := i) (sd := 0) hj hp hn (by omega)
    refine ⟨D, d1, ?_⟩
    unfold L65
    rw [if_pos c, ← d2]
    have e : (R p).length - i = ((R p).length - (i + 1)) + 1 := by omega
    rw [e]
    rfl
  · refine ⟨[], dead_nil, ?_⟩
    unfold L65
    rw [if_neg c]
    have e : (R p).length - i = 0 := by omega
    rw [e]
    rfl
theorem t107 {i sd : Nat} (hj : jOk W (R n) first last) (hi : i < (R p).length) (h0 : fw (lit (R p) i).2 0 = 0) (hs : sd < 2)
    (cont : ∀ F : Nat → Int → Int, agC d G F P W K R p n → at42 F i (sd + 1) first 1 → ∃ (x : Int) (E' : Nat → Int → Int), zgo zm_X0_advanceTurn 82 [(0, zR 42), (1, zI (first : Int)), (2, zI last)] [] (d, G, F) (some (zI x)) (d, G, E') ∧ tuO P W R K p n first F E' x (L82 (R p) (R n) p n i (sd + 1) first 1)) :
    ∀ (m j pl : Nat) (E : Nat → Int → Int), (j : Int) + m = last + 1 ∨ m = 0 ∧ last < j → first ≤ j → 1 ≤ pl → agC d G E P W K R p n → at42 E i sd j pl → ∃ (x : Int) (E' : Nat → Int → Int), zgo zm_X0_advanceTurn 107 [(0, zR 42), (1, zI (first : Int)), (2, zI last)] [] (d, G, E) (some (zI x)) (d, G, E') ∧ tuO P W R K p n first E E' x (tuM (R p) (R n) p n i sd j pl) := by
  intro m
  induction m with
  | zero =>
    intro j pl E hm hf h1 hc ha
    have hp := hc.2.2.2.1
    have hn := hc.2.2.2.2.1
    obtain ⟨a8, a9, a10, a11⟩ := ha
    let E3 := zuE (zuE (zuE E 42 9 ((sd : Int) + 1)) 42 10 (first : Int)) 42 11 1
    have x3 : x42 E E3 := x42_put (x42_put (x42_put x42_r (by decide)) (by decide)) (by decide)
    have b : at42 E3 i (sd + 1) first 1 := ⟨(zuE_ix (by decide)).trans ((zuE_ix (by decide)).trans ((zuE_ix (by decide)).trans a8)), (zuE_ix (by decide)).trans ((zuE_ix (by decide)).trans (by rw [zuE_same]; omega)), (zuE_ix (by decide)).trans zuE_same, zuE_same⟩
    obtain ⟨x, E', z, o⟩ := cont E3 (agC_x hc x3) b
    refine ⟨x, E', fun kz Q hQ => X0_advanceTurn_107 hc.1 ?_, tuO_x x3 ?_⟩
    · rw [a9, a10]
      refine ⟨fun _ => ⟨zin_of (by omega) (by omega), fun H1 e1 H2 e2 H3 e3 => ?_⟩, fun y => absurd (by omega) y⟩
      subst e1; subst e2; subst e3
      exact z kz Q hQ
    · obtain ⟨D, d1, d2⟩ := nxt_sd (P := P) (i := i) (sd := sd + 1) hj hp hn (by omega)
      unfold tuM
      rw [d2]
      refine tuO_d (dead_tP hp hn (fun q => jOk_no hj (Or.inr (by omega)) _ _ q) _ _) (tuO_d (dead_tJ hp hn _ _ (fun j' j1 _ => jOk_no hj (Or.inr (by omega)) _ _)) (tuO_d d1 o))
  | succ m ih =>
    intro j pl E hm hf h1 hc ha
    have ha' := ha
    obtain ⟨a8, a9, a10, a11⟩ := ha
    have hjB : j < (R n).length := by
      rcases hj with ⟨_, _, h3⟩ | ⟨_, h2, h3⟩ <;> omega
    have ln6 := (hc.2.1.2.2 n hc.2.2.2.2.1).2.2.1.1.2.1
    obtain ⟨x, E1, mf, x1, f1, r⟩ := findPlace_ok (E := E) hc hi h0 hs hjB h1 a8 a9 a10 a11
    rcases r with ⟨x0, dd⟩ | ⟨xe, q, D, q1, q2, q3, q4, q5⟩
    · let E3 := zuE (zuE E1 42 10 ((j : Int) + 1)) 42 11 1
      have x3 : x42 E E3 := x42_put (x42_put x1 (by decide)) (by decide)
      have b10 : E1 42 10 = j := (f1 10 (by decide)).trans a10
      have b : at42 E3 i sd (j + 1) 1 := ⟨(zuE_ix (by decide)).trans ((zuE_ix (by decide)).trans ((f1 8 (by decide)).trans a8)), (zuE_ix (by decide)).trans ((zuE_ix (by decide)).trans ((f1 9 (by decide)).trans a9)), (zuE_ix (by decide)).trans (by rw [zuE_same]; omega), zuE_same⟩
      obtain ⟨y, E', z, o⟩ := ih (j + 1) 1 E3 (by omega) (by omega) (by omega) (agC_x hc x3) b
      refine ⟨y, E', fun kz Q hQ => X0_advanceTurn_107 hc.1 ?_, tuO_x x3 ?_⟩
      · rw [a10]
        refine ⟨fun w => absurd w (by omega), fun _ => ⟨x, E1, mf, fun _ => ?_, fun w => absurd x0 w⟩⟩
        rw [b10]
        refine ⟨zin_of (by omega) (by omega), fun H1 e1 H2 e2 => ?_⟩
        subst e1; subst e2
        exact z kz Q hQ
      · unfold tuM
        rw [tuJ_next, List.append_assoc]
        exact tuO_d dd o
    · refine ⟨x, E1, fun kz Q hQ => X0_advanceTurn_107 hc.1 ?_, x1, Or.inr ⟨xe, i, sd, j, q, D, ⟨(f1 8 (by decide)).trans a8, (f1 9 (by decide)).trans a9, (f1 10 (by decide)).trans a10, q1⟩, ⟨hf, hi, hs, q2, ?_⟩, q4, ?_⟩⟩
      · rw [a10]
        exact ⟨fun w => absurd w (by omega), fun _ => ⟨x, E1, mf, fun w => absurd w (by omega), fun _ => by rw [xe] at hQ; exact hQ⟩⟩
      · obtain ⟨_, _, ⟨hRn, _⟩, _⟩ := hc.2.1.2.2 n hc.2.2.2.2.1
        have := (hRn.2.2.2 j hjB).2.2.1
        omega
      · unfold tuM
        rw [q5, List.append_assoc]
        rfl
theorem t82 {i : Nat} (hj : jOk W (R n) first last) (hi : i < (R p).length)
    (cont : ∀ F : Nat → Int → Int, agC d G F P W K R p n → at42 F (i + 1) 0 first 1 → ∃ (x : Int) (E' : Nat → Int → Int), zgo zm_X0_advanceTurn 65 [(0, zR 42), (1, zI (first : Int)), (2, zI last)] [] (d, G, F) (some (zI x)) (d, G, E') ∧ tuO P W R K p n first F E' x (L65 (R p) (R n) p n (i + 1) 0 first 1)) :
    ∀ (m sd j pl : Nat) (E : Nat → Int → Int), sd + m = 2 → first ≤ j → 1 ≤ pl → agC d G E P W K R p n → at42 E i sd j pl → ∃ (x : Int) (E' : Nat → Int → Int), zgo zm_X0_advanceTurn 82 [(0, zR 42), (1, zI (first : Int)), (2, zI last)] [] (d, G, E) (some (zI x)) (d, G, E') ∧ tuO P W R K p n first E E' x (L82 (R p) (R n) p n i sd j pl) := by
  -- the next i
  have nx : ∀ (E : Nat → Int → Int), agC d G E P W K R p n → E 42 8 = i → ∃ (x : Int) (E' : Nat → Int → Int), (∀ kz Q, Q (some (zI x)) (d, G, E') → Z zm_X0_advanceTurn kz Q 65 [(0, zR 42), (1, zI (first : Int)), (2, zI last)] [] (d, G, zuE (zuE (zuE (zuE E 42 8 ((i : Int) + 1)) 42 9 0) 42 10 (first : Int)) 42 11 1)) ∧ tuO P W R K p n first E E' x (tuI p n (R n) ((R p).length - (i + 1)) (i + 1)) := fun E hc e8 => by
    let E3 := zuE (zuE (zuE (zuE E 42 8 ((i : Int) + 1)) 42 9 0) 42 10 (first : Int)) 42 11 1
    have x3 : x42 E E3 := x42_put (x42_put (x42_put (x42_put x42_r (by decide)) (by decide)) (by decide)) (by decide)
    have b : at42 E3 (i + 1) 0 first 1 := ⟨(zuE_ix (by decide)).trans ((zuE_ix (by decide)).trans ((zuE_ix (by decide)).trans (by rw [zuE_same]; omega))), (zuE_ix (by decide)).trans ((zuE_ix (by decide)).trans zuE_same), (zuE_ix (by decide)).trans zuE_same, zuE_same⟩
    obtain ⟨x, E', z, o⟩ := cont E3 (agC_x hc x3) b
    obtain ⟨D, d1, d2⟩ := nxt_i (P := P) (i := i + 1) hj hc.2.2.2.1 hc.2.2.2.2.1
    refine ⟨x, E', fun kz Q hQ => z kz Q hQ, tuO_x x3 ?_⟩
    rw [d2]
    exact tuO_d d1 o
  intro m
  induction m with
  | zero =>
    intro sd j pl E hm hf h1 hc ha
    obtain ⟨a8, a9, a10, a11⟩ := ha
    obtain ⟨x, E', z, o⟩ := nx E hc a8
    refine ⟨x, E', fun kz Q hQ => X0_advanceTurn_82 hc.1 ?_, ?_⟩
    · rw [a8, a9]
      refine ⟨fun _ => ⟨by have := hc.2.1.2.2 p hc.2.2.2.1; have := this.2.2.1.1.2.1; exact zin_of (by omega) (by omega), fun H1 e1 H2 e2 H3 e3 H4 e4 => ?_⟩, fun y => absurd (by omega) y⟩
      subst e1; subst e2; subst e3; subst e4
      exact z kz Q hQ
    · unfold L82
      rw [if_neg (by omega)]
      exact o
  | succ m ih =>
    intro sd j pl E hm hf h1 hc ha
    have ha' := ha
    obtain ⟨a8, a9, a10, a11⟩ := ha
    have hc' := hc
    obtain ⟨hX, hst, h9, hp, hn, g6, g7, e3, hP, h2, hW⟩ := hc
    obtain ⟨gp, hcp, ⟨hRp, _⟩, rkp⟩ := hst.2.2 p hp
    have lp6 := hRp.2.1
    obtain ⟨xe, me, hxe⟩ := isEqual_ok (E := E) hX hcp.2.2.1 hRp (fun l hl => wok1_pos (rkp.1 l hl)) (i : Int)
    have eg : (lit (R p) (i : Int).toNat).2.getD 0 0 = fw (lit (R p) i).2 0 := by rw [Int.toNat_natCast, ← fw_nat]; rfl
    rw [eg] at hxe
    rcases hxe with ⟨x1, y1⟩ | ⟨x0, y0⟩
    · obtain ⟨x, E', z, o⟩ := t107 (d := d) (G := G) (first := first) (last := last) (p := p) (n := n) (i := i) (sd := sd) hj hi y1.2.2 (by omega) (fun F hF hA => ih (sd + 1) first 1 F (by omega) (Nat.le_refl _) (by omega) hF hA) ((last + 1 - j).toNat) j pl E (by omega) hf h1 hc' ha'
      refine ⟨x, E', fun kz Q hQ => X0_advanceTurn_82 hX ?_, ?_⟩
      · rw [a8, a9]
        exact ⟨fun y => absurd y (by omega), fun _ => ⟨qn p, g6, hcp, xe, me, fun y => absurd y (by omega), fun _ => z kz Q hQ⟩⟩
      · unfold L82
        rw [if_pos (by omega)]
        exact o
    · have ne : fw (lit (R p) i).2 0 ≠ 0 := fun q => y0 ⟨by omega, by omega, q⟩
      have no : ∀ s j : Nat, ∀ q : Int, ¬ tuC W (R p) i s (R n) j q := fun s j q c => by
        have := c.2.2.1
        rw [Int.toNat_natCast] at this
        exact ne this
      obtain ⟨x, E', z, o⟩ := nx E hc' a8
      refine ⟨x, E', fun kz Q hQ => X0_advanceTurn_82 hX ?_, ?_⟩
      · rw [a8, a9]
        refine ⟨fun y => absurd y (by omega), fun _ => ⟨qn p, g6, hcp, xe, me, fun _ => ⟨zin_of (by omega) (by omega), fun H1 e1 H2 e2 H3 e3 H4 e4 => ?_⟩, fun y => absurd x0 y⟩⟩
        subst e1; subst e2; subst e3; subst e4
        exact z kz Q hQ
      · unfold L82
        rw [if_pos (by omega)]
        unfold tuM
        exact tuO_d (dead_tP hp hn (no sd j) _ _) (tuO_d (dead_tJ hp hn _ _ (fun j' _ _ => no sd j')) (tuO_d (dead_tW hp hn no _ _) o))
theorem t65 (hj : jOk W (R n) first last) : ∀ (m i sd j pl : Nat) (E : Nat → Int → Int), i + m = (R p).length ∨ m = 0 ∧ (R p).length ≤ i → sd ≤ 2 → first ≤ j → 1 ≤ pl → agC d G E P W K R p n → at42 E i sd j pl → ∃ (x : Int) (E' : Nat → Int → Int), zgo zm_X0_advanceTurn 65 [(0, zR 42), (1, zI (first : Int)), (2, zI last)] [] (d, G, E) (some (zI x)) (d, G, E') ∧ tuO P W R K p n first E E' x (L65 (R p) (R n) p n i sd j pl) := by
  intro m
  induction m with
  | zero =>
    intro i sd j pl E hm hs hf h1 hc ha
    obtain ⟨hX, hst, h9, hp, hn, g6, g7, e3, hP, h2, hW⟩ := hc
    obtain ⟨gp, hcp, ⟨hRp, _⟩, rkp⟩ := hst.2.2 p hp
    refine ⟨0, E, fun kz Q hQ => X0_advanceTurn_65 hX ⟨qn p, g6, hcp, fun _ => hQ, fun y => absurd (by rw [hRp.1, ha.1]; omega) y⟩, x42_r, Or.inl ⟨rfl, ?_⟩⟩
    unfold L65
    rw [if_neg (by omega)]
    exact dead_nil
  | succ m ih =>
    intro i sd j pl E hm hs hf h1 hc ha
    have hc' := hc
    obtain ⟨hX, hst, h9, hp, hn, g6, g7, e3, hP, h2, hW⟩ := hc
    obtain ⟨gp, hcp, ⟨hRp, _⟩, rkp⟩ := hst.2.2 p hp
    obtain ⟨x, E', z, o⟩ := t82 (d := d) (G := G) (first := first) (last := last) (p := p) (n := n) (i := i) hj (by omega) (fun F hF hA => ih (i + 1) 0 first 1 F (by omega) (by omega) (Nat.le_refl _) (by omega) hF hA) (2 - sd) sd j pl E (by omega) hf h1 hc' ha
    refine ⟨x, E', fun kz Q hQ => X0_advanceTurn_65 hX ⟨qn p, g6, hcp, fun y => absurd y (by rw [hRp.1, ha.1]; omega), fun _ => z kz Q hQ⟩, ?_⟩
    unfold L65
    rw [if_pos (by omega)]
    exact o
/-- the first literal of the second one that counts -/
def fst1 (W : Int → Int) (B : List zLt) : Nat := if chs W B = -1 then 0 else (chs W B).toNat
theorem advanceTurn_ok {i sd j pl : Nat} (hc : agC d G E P W K R p n) (ha : at42 E i sd j pl) (hs : sd ≤ 2) (hf : fst1 W (R n) ≤ j) (hpl : pl ≤ 100) : ∃ (x : Int) (E' : Nat → Int → Int), zM zm_X0_advanceTurn [zR 42] (d, G, E) (some (zI x)) (d, G, E') ∧ tuO P W R K p n (fst1 W (R n)) E E' x (L65 (R p) (R n) p n i sd j (pl + 1)) := by
  have hc' := hc
  obtain ⟨hX, hst, h9, hp, hn, g6, g7, e3, hP, h2, hW⟩ := hc
  obtain ⟨gn, hcn, ⟨hRn, _⟩, rkn⟩ := hst.2.2 n hn
  have ln6 := hRn.2.1
  have h9n := h9 n hn
  have pn := isPositiveC_ok (E := E) hX hcn
  rw [h9n] at pn
  obtain ⟨a8, a9, a10, a11⟩ := ha
  let E1 := zuE E 42 11 ((pl : Int) + 1)
  have x1 : x42 E E1 := x42_put x42_r (by decide)
  have b : at42 E1 i sd j (pl + 1) := ⟨(zuE_ix (by decide)).trans a8, (zuE_ix (by decide)).trans a9, (zuE_ix (by decide)).trans a10, (zuE_same : zuE E 42 11 ((pl : Int) + 1) 42 11 = _).trans (by omega)⟩
  have go : ∀ last : Int, jOk W (R n) (fst1 W (R n)) last → ∃ (x : Int) (E' : Nat → Int → Int), zgo zm_X0_advanceTurn 65 [(0, zR 42), (1, zI (fst1 W (R n) : Int)), (2, zI last)] [] (d, G, E1) (some (zI x)) (d, G, E') ∧ tuO P W R K p n (fst1 W (R n)) E E' x (L65 (R p) (R n) p n i sd j (pl + 1)) := fun last hj => by
    obtain ⟨x, E', z, o⟩ := t65 (d := d) (G := G) (first := fst1 W (R n)) (last := last) (p := p) (n := n) hj ((R p).length - i) i sd j (pl + 1) E1 (by omega) hs hf (by omega) (agC_x hc' x1) b
    exact ⟨x, E', z, tuO_x x1 o⟩
  by_cases c : chs W (R n) = -1
  · rw [if_pos c] at pn
    have ef : fst1 W (R n) = 0 := if_pos c
    obtain ⟨x, E', z, o⟩ := go ((R n).length - 1) (Or.inl ⟨c, ef, rfl⟩)
    rw [ef] at z
    refine ⟨x, E', zM_go rfl (Nat.le_of_ble_eq_true rfl) (fun kz Q hQ => X0_advanceTurn_0 hX ?_), o⟩
    refine ⟨qn n, g7, hcn, 1, pn, fun y => absurd y (by decide), fun _ => ⟨qn n, g7, hcn, 1, pn, fun y => absurd y (by decide), fun _ => ⟨qn n, g7, hcn, ?_⟩⟩⟩
    rw [hRn.1, a11]
    refine ⟨zin_of (by omega) (by omega), zin_of (by omega) (by omega), fun H e => ?_⟩
    subst e
    exact z kz Q hQ
  · rw [if_neg c] at pn
    have cn := chs_nn hW rkn c
    have ef : (fst1 W (R n) : Int) = chs W (R n) := by
      unfold fst1
      rw [if_neg c]; omega
    obtain ⟨x, E', z, o⟩ := go (chs W (R n)) (Or.inr ⟨ef.symm, ef.symm, by omega⟩)
    rw [ef] at z
    refine ⟨x, E', zM_go rfl (Nat.le_of_ble_eq_true rfl) (fun kz Q hQ => X0_advanceTurn_0 hX ?_), o⟩
    refine ⟨qn n, g7, hcn, 0, pn, fun _ => ⟨qn n, g7, hcn, qn n, g7, hcn, 0, pn, fun _ => ⟨qn n, g7, hcn, ?_⟩, fun y => absurd rfl y⟩, fun y => absurd rfl y⟩
    rw [a11, h9n]
    refine ⟨zin_of (by omega) (by omega), fun H e => ?_⟩
    subst e
    exact z kz Q hQ
end SK
