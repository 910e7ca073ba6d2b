/-! ===== the agenda: places, turns ===== -/
/-- only the agenda's place moves -/
def x42 (E E' : Nat → Int → Int) : Prop := fz [42] E E' ∧ ∀ k : Int, k < 8 → E' 42 k = E 42 k
theorem x42_r {E : Nat → Int → Int} : x42 E E := ⟨fz_rfl, fun _ _ => rfl⟩
theorem x42_t {E F H : Nat → Int → Int} (h : x42 E F) (h' : x42 F H) : x42 E H := ⟨fz_trans h.1 h'.1, fun k hk => (h'.2 k hk).trans (h.2 k hk)⟩
theorem x42_put {E F : Nat → Int → Int} {k v : Int} (h : x42 E F) (hk : 8 ≤ k) : x42 E (zuE F 42 k v) := ⟨fz_put h.1 (by simp), fun i hi => (zuE_ix (by omega)).trans (h.2 i hi)⟩
/-- what the agenda stands on -/
def agC (d : List Nat) (G : Nat → Int → Option Nat) (E : Nat → Int → Int) (P W : Int → Int) (K : Nat) (R : Nat → List zLt) (p n : Nat) : Prop := zK zXt d G ∧ stC d G E P W K R ∧ (∀ c : Nat, c < K → E (qn c) 9 = chs W (R c)) ∧ p < K ∧ n < K ∧ G 42 6 = some (qn p) ∧ G 42 7 = some (qn n) ∧ E 3 = P ∧ pok P ∧ P 0 = 2 ∧ wok W
/-- what is left of the turns, from a place on -/
def tuM (A B : List zLt) (p n i sd j pl : Nat) : List (List Int) := tuP p n i sd j ((lit B j).2.length - pl) pl ++ (tuJ p n B i sd (B.length - (j + 1)) (j + 1) ++ (tuW p n B i (2 - (sd + 1)) (sd + 1) ++ tuI p n B (A.length - (i + 1)) (i + 1)))
theorem tuJ_split {p n i s : Nat} {B : List zLt} : ∀ a b j : Nat, tuJ p n B i s (a + b) j = tuJ p n B i s a j ++ tuJ p n B i s b (j + a)
  | 0, b, j => by rw [Nat.zero_add]; rfl
  | a + 1, b, j => by
    have e : a + 1 + b = (a + b) + 1 := by omega
    have e2 : j + (a + 1) = j + 1 + a := by omega
    rw [e, e2]
    simp only [tuJ]
    rw [tuJ_split a b (j + 1), List.append_assoc]
theorem tuJ_next {p n i s j : Nat} {B : List zLt} : tuJ p n B i s (B.length - j) j = tuP p n i s j ((lit B j).2.length - 1) 1 ++ tuJ p n B i s (B.length - (j + 1)) (j + 1) := by
  by_cases h : j < B.length
  · have e : B.length - j = (B.length - (j + 1)) + 1 := by omega
    rw [e]
    rfl
  · have e : B.length - j = 0 := by omega
    have e2 : B.length - (j + 1) = 0 := by omega
    have e3 : lit B j = (0, []) := by
      unfold lit
      rw [List.getD_eq_getElem?_getD, List.getElem?_eq_none (by omega)]
      rfl
    rw [e, e2, e3]
    rfl
section SJ
variable {d : List Nat} {G : Nat → Int → Option Nat} {E : Nat → Int → Int}
variable {P W : Int → Int} {K : Nat} {R : Nat → List zLt} {p n : Nat}
theorem agC_x {E' : Nat → Int → Int} (h : agC d G E P W K R p n) (x : x42 E E') : agC d G E' P W K R p n := by
  obtain ⟨hX, hs, h9, hp, hn, g6, g7, e3, hP, h2, hW⟩ := h
  refine ⟨hX, stC_fz hs x.1 (by simp) (by rw [x.1 5 (by simp)]), fun c hc => ?_, hp, hn, g6, g7, by rw [x.1 3 (by simp)]; exact e3, hP, h2, hW⟩
  rw [x.1 (qn c) (by simp [qn]; omega)]
  exact h9 c hc
theorem fp91 {i sd j : Nat} {v2 : Int} (hv : v2 = fw (tuL P (R p) i sd) 0) (hj : j < (R n).length) : ∀ (m pl : Nat) (E : Nat → Int → Int), 1 ≤ pl → pl + m = (lit (R n) j).2.length ∨ m = 0 ∧ (lit (R n) j).2.length ≤ pl → agC d G E P W K R p n → E 42 11 = pl → ∃ (x : Int) (E' : Nat → Int → Int), zgo zm_X0_findPlace 91 [(0, zR 42), (2, zI v2), (3, zI (offs (R n) j : Int)), (4, zI ((lit (R n) j).2.length : Int))] [] (d, G, E) (some (zI x)) (d, G, E') ∧ x42 E E' ∧ (∀ k : Int, k ≠ 11 → E' 42 k = E 42 k) ∧ ((x = 0 ∧ dead P W R K (tuP p n i sd j m pl)) ∨ (x = 1 ∧ ∃ (q : Nat) (D : List (List Int)), E' 42 11 = q ∧ 1 ≤ q ∧ q < (lit (R n) j).2.length ∧ dead P W R K D ∧ tuP p n i sd j m pl = D ++ ([4, (p : Int), (i : Int), (sd : Int), (n : Int), (j : Int), (q : Int)] :: tuP p n i sd j ((lit (R n) j).2.length - (q + 1)) (q + 1)))) := by
  intro m
  induction m with
  | zero =>
    intro pl E h1 hm hc he
    exact ⟨0, E, fun kz Q hQ => X0_findPlace_91 hc.1 ⟨fun _ => hQ, fun z => absurd (by omega) z⟩, x42_r, fun _ _ => rfl, Or.inl ⟨rfl, dead_nil⟩⟩
  | succ m ih =>
    intro pl E h1 hm hc he
    have hc' := hc
    obtain ⟨hX, hs, h9, hp, hn, g6, g7, e3, hP, h2, hW⟩ := hc
    obtain ⟨gn, hcn, ⟨hRn, _⟩, rkn⟩ := hs.2.2 n hn
    obtain ⟨gp, hcp, ⟨hRp, _⟩, rkp⟩ := hs.2.2 p hp
    have on := low_180 hRn j hj
    have hl : pl < (lit (R n) j).2.length := by omega
    have ep : E (qn n + 1 + 1) ((offs (R n) j : Int) + pl) = fw (lit (R n) j).2 pl := by
      have := rowC_lk hRn hj pl (by omega)
      rw [fw_0, ← fw_nat] at this
      exact this
    -- going on
    have skip : stR P W R (K : Int) [4, (p : Int), (i : Int), (sd : Int), (n : Int), (j : Int), (pl : Int)] none → ∃ (x : Int) (E' : Nat → Int → Int), zgo zm_X0_findPlace 91 [(0, zR 42), (2, zI v2), (3, zI (offs (R n) j : Int)), (4, zI ((lit (R n) j).2.length : Int))] [] (d, G, zuE E 42 11 ((pl : Int) + 1)) (some (zI x)) (d, G, E') ∧ x42 E E' ∧ (∀ k : Int, k ≠ 11 → E' 42 k = E 42 k) ∧ ((x = 0 ∧ dead P W R K (tuP p n i sd j (m + 1) pl)) ∨ (x = 1 ∧ ∃ (q : Nat) (D : List (List Int)), E' 42 11 = q ∧ 1 ≤ q ∧ q < (lit (R n) j).2.length ∧ dead P W R K D ∧ tuP p n i sd j (m + 1) pl = D ++ ([4, (p : Int), (i : Int), (sd : Int), (n : Int), (j : Int), (q : Int)] :: tuP p n i sd j ((lit (R n) j).2.length - (q + 1)) (q + 1)))) := fun hd => by
      have xx : x42 E (zuE E 42 11 ((pl : Int) + 1)) := x42_put x42_r (by decide)
      obtain ⟨x, E', z, y, f, r⟩ := ih (pl + 1) (zuE E 42 11 ((pl : Int) + 1)) (by omega) (Or.inl (by omega)) (agC_x hc' xx) (by rw [zuE_same]; omega)
      refine ⟨x, E', z, x42_t xx y, fun k hk => (f k hk).trans (zuE_ix hk), ?_⟩
      rcases r with ⟨x0, dd⟩ | ⟨x1, q, D, q1, q2, q3, q4, q5⟩
      · exact Or.inl ⟨x0, dead_cons hd dd⟩
      · refine Or.inr ⟨x1, q, _ :: D, q1, q2, q3, dead_cons hd q4, ?_⟩
        simp only [tuP]
        rw [q5]
        rfl
    by_cases c1 : fw (lit (R n) j).2 pl < 0
    · obtain ⟨x, E', z, r⟩ := skip (dead_t hp hn (Or.inl ⟨fun q => by have := q.2.2.2.2.2.2.2; rw [Int.toNat_natCast] at this; omega, rfl⟩))
      refine ⟨x, E', fun kz Q hQ => X0_findPlace_91 hX ?_, r⟩
      rw [he]
      refine ⟨fun y => absurd y (by omega), fun _ => ⟨qn n, g7, hcn, zin_of (by omega) (by omega), ⟨by omega, by omega⟩, ?_⟩⟩
      rw [ep]
      exact ⟨fun _ => ⟨zin_of (by omega) (by omega), fun H e => by rw [e]; exact z kz Q hQ⟩, fun y => absurd c1 y⟩
    by_cases c2 : v2 < 0 ∨ v2 = fw (lit (R n) j).2 pl
    · refine ⟨1, E, fun kz Q hQ => X0_findPlace_91 hX ?_, x42_r, fun _ _ => rfl, Or.inr ⟨rfl, pl, [], he, h1, hl, dead_nil, ?_⟩⟩
      · rw [he]
        refine ⟨fun y => absurd y (by omega), fun _ => ⟨qn n, g7, hcn, zin_of (by omega) (by omega), ⟨by omega, by omega⟩, ?_⟩⟩
        rw [ep]
        exact ⟨fun y => absurd y c1, fun _ => ⟨fun _ => hQ, fun y => ⟨fun y2 => by rcases c2 with q | q; exact absurd q y; exact absurd q y2, fun _ => hQ⟩⟩⟩
      · have e : (lit (R n) j).2.length - (pl + 1) = m := by omega
        rw [e]
        rfl
    · have c3 : 0 ≤ v2 ∧ v2 ≠ fw (lit (R n) j).2 pl := by omega
      obtain ⟨x, E', z, r⟩ := skip (dead_t hp hn (tu_head hP h2 rkp rkn (by rw [← hv]; exact c3.1) (by rw [← hv, Int.toNat_natCast]; exact c3.2)))
      refine ⟨x, E', fun kz Q hQ => X0_findPlace_91 hX ?_, r⟩
      rw [he]
      refine ⟨fun y => absurd y (by omega), fun _ => ⟨qn n, g7, hcn, zin_of (by omega) (by omega), ⟨by omega, by omega⟩, ?_⟩⟩
      rw [ep]
      exact ⟨fun y => absurd y c1, fun _ => ⟨fun y => absurd y (by omega), fun _ => ⟨fun _ => ⟨zin_of (by omega) (by omega), fun H e => by rw [e]; exact z kz Q hQ⟩, fun y => absurd c3.2 y⟩⟩⟩
theorem findPlace_ok {i sd j pl : Nat} (hc : agC d G E P W K R p n) (hi : i < (R p).length) (h0 : fw (lit (R p) i).2 0 = 0) (hs : sd < 2) (hj : j < (R n).length) (h1 : 1 ≤ pl) (e8 : E 42 8 = i) (e9 : E 42 9 = sd) (e10 : E 42 10 = j) (e11 : E 42 11 = pl) :
    ∃ (x : Int) (E' : Nat → Int → Int), zM zm_X0_findPlace [zR 42] (d, G, E) (some (zI x)) (d, G, E') ∧ x42 E E' ∧ (∀ k : Int, k ≠ 11 → E' 42 k = E 42 k) ∧ ((x = 0 ∧ dead P W R K (tuP p n i sd j ((lit (R n) j).2.length - pl) pl)) ∨ (x = 1 ∧ ∃ (q : Nat) (D : List (List Int)), E' 42 11 = q ∧ 1 ≤ q ∧ q < (lit (R n) j).2.length ∧ dead P W R K D ∧ tuP p n i sd j ((lit (R n) j).2.length - pl) pl = D ++ ([4, (p : Int), (i : Int), (sd : Int), (n : Int), (j : Int), (q : Int)] :: tuP p n i sd j ((lit (R n) j).2.length - (q + 1)) (q + 1)))) := by
  have hc' := hc
  obtain ⟨hX, hst, h9, hp, hn, g6, g7, e3, hP, h2, hW⟩ := hc
  obtain ⟨gn, hcn, ⟨hRn, _⟩, rkn⟩ := hst.2.2 n hn
  obtain ⟨gp, hcp, ⟨hRp, _⟩, rkp⟩ := hst.2.2 p hp
  have lp6 := hRp.2.1
  have ln6 := hRn.2.1
  have op := low_180 hRp i hi
  have on := low_180 hRn j hj
  have sp := hRp.2.2.1 i (by omega)
  have sn := hRn.2.2.1 j (by omega)
  obtain ⟨t, u, s1, s2, s3, s4, s5, s6, s7, s8, s9⟩ := sd_parts hP h2 (rkp.1 i hi) h0
  have ml := length_ok (E := E) hX hcn.2.2.1 hRn hj
  have at1 : ∀ k : Nat, k < (lit (R p) i).2.length → E (qn p + 1 + 1) ((offs (R p) i : Int) + k) = fw (lit (R p) i).2 k := fun k hk => by
    have := rowC_lk hRp hi k hk
    rw [fw_0, ← fw_nat] at this
    exact this
  obtain ⟨x, E', z, r⟩ := fp91 (d := d) (G := G) (P := P) (W := W) (K := K) (R := R) (p := p) (n := n) (i := i) (sd := sd) (j := j) (v2 := fw (tuL P (R p) i sd) 0) rfl hj ((lit (R n) j).2.length - pl) pl E h1 (by omega) hc' e11
  refine ⟨x, E', zM_go rfl (Nat.le_of_ble_eq_true rfl) (fun kz Q hQ => X0_findPlace_0 hX ?_), r⟩
  have zz := z kz Q hQ
  rw [e8, e9, e10]
  refine ⟨qn p, g6, hcp, ⟨by omega, by omega⟩, ?_⟩
  rw [sp]
  have n1 := tw_ne s7
  have n2 := tw_ne s8
  rcases (by omega : sd = 0 ∨ sd = 1) with c | c
  · subst c
    have eh : fw (tuL P (R p) i (0 : Nat)) 0 = E (qn p + 1 + 1) ((offs (R p) i : Int) + 1) := by
      have e := at1 1 (by omega)
      have e1 : ((1 : Nat) : Int) = 1 := rfl
      rw [e1] at e
      rw [e]
      have et : tuL P (R p) (i : Int) ((0 : Nat) : Int) = lsd P (R p) i := by
        unfold tuL
        rw [if_pos (by decide), Int.toNat_natCast]
      rw [et]
      have e2 := congrArg (fun w => fw w 1) s9
      rw [e2, fw_ar (v := [0]) (k := 0) (by simp), fw_al (k := 0) rfl (by omega)]
      rfl
    rw [eh] at zz
    refine ⟨zin_of (by omega) (by omega), qn p, g6, hcp, fun y => absurd rfl y, fun _ => ⟨⟨by omega, by omega⟩, qn n, g7, hcn, ⟨by omega, by omega⟩, qn n, g7, hcn, _, ml, ?_⟩⟩
    rw [sn]
    exact zz
  · subst c
    have eh : fw (tuL P (R p) i (1 : Nat)) 0 = E (qn p + 1 + 1) ((offs (R p) i : Int) + 1 + t) := by
      have e := at1 (1 + t) (by omega)
      have e1 : (offs (R p) i : Int) + ((1 + t : Nat) : Int) = (offs (R p) i : Int) + 1 + t := by omega
      rw [e1] at e
      rw [e]
      have et : tuL P (R p) (i : Int) ((1 : Nat) : Int) = rsd P (R p) i := by
        unfold tuL
        rw [if_neg (by decide), Int.toNat_natCast]
      rw [et]
      have e2 := congrArg (fun w => fw w ((1 + t : Nat) : Int)) s9
      rw [e2, fw_ar (v := [0]) (k := t) (by simp), fw_ar (k := 0) (by omega)]
      rfl
    rw [eh] at zz
    have lkl : lk (E (qn p + 1 + 1)) ((offs (R p) i : Int) + 1) (fw (lsd P (R p) i)) 0 (lsd P (R p) i).length := fun k hk => by
      rw [s5] at hk
      have e : (offs (R p) i : Int) + 1 + k = (offs (R p) i : Int) + ((1 + k : Nat) : Int) := by omega
      rw [e, rowC_lk hRp hi (1 + k) (by omega)]
      have e2 := congrArg (fun w => fw w (0 + ((1 + k : Nat) : Int))) s9
      rw [e2, fw_ar (v := [0]) (k := k) (by simp), fw_al (k := k) rfl (by omega), fw_0, fw_nat]
    have ma : zM zm_X8_after [zR 1, zR (qn p + 1 + 1), zI ((offs (R p) i : Int) + 1)] (d, G, E) (some (zI ((offs (R p) i : Int) + 1 + t))) (d, G, E) := by
      have := after_ok (E := E) (a := qn p + 1 + 1) (n := 180) (t := (lsd P (R p) i).length) (i := (offs (R p) i : Int) + 1) hX hcp.2.2.1.2.2.2.2.2.1 hcp.2.2.1.2.1 (by rw [e3]; exact hP) (by rw [e3]; exact tm_congr s7 (fun k hk => (lkl k hk).symm)) (by omega) (by omega) (by omega)
      rw [s5] at this
      exact this
    refine ⟨zin_of (by omega) (by omega), qn p, g6, hcp, fun _ => ⟨qn p, g6, hcp, _, ma, ⟨by omega, by omega⟩, qn n, g7, hcn, ⟨by omega, by omega⟩, qn n, g7, hcn, _, ml, ?_⟩, fun y => absurd (by decide) y⟩
    rw [sn]
    exact zz
end SJ
