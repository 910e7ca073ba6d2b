/-! ===== the agenda: the next phase ===== -/
theorem zK_X42 {d : List Nat} {G : Nat → Int → Option Nat} {k : Int} {o : Option Nat} (h : zK zXt d G) (hk : k = 3 ∨ k = 6 ∨ k = 7) : zK zXt d (zuG G 42 k o) := fun x hx => by
  have t : ∀ x, x ∈ zXt → ¬ (x.1 = 42 ∧ (x.2.1 = 3 ∨ x.2.1 = 6 ∨ x.2.1 = 7)) := by decide +kernel
  have a := h x hx
  refine ⟨?_, a.2⟩
  have e : zuG G 42 k o x.1 x.2.1 = G x.1 x.2.1 := if_neg (fun q => t x hx ⟨q.1, by rw [q.2]; exact hk⟩)
  rw [e]; exact a.1
theorem zK_M42 {d : List Nat} {G : Nat → Int → Option Nat} {k : Int} {o : Option Nat} (h : zK zMt d G) : zK zMt d (zuG G 42 k o) := fun x hx => by
  have t : ∀ x, x ∈ zMt → ¬ (x.1 = 42) := by decide +kernel
  have a := h x hx
  refine ⟨?_, a.2⟩
  have e : zuG G 42 k o x.1 x.2.1 = G x.1 x.2.1 := if_neg (fun q => t x hx q.1)
  rw [e]; exact a.1
/-- what the agenda begins with -/
def agB (d : List Nat) (G : Nat → Int → Option Nat) (E : Nat → Int → Int) (P W : Int → Int) (K : Nat) (R : Nat → List zLt) (T : Nat → Int) (it : Nat) : Prop := zK zXt d G ∧ stC d G E P W K R ∧ (∀ c : Nat, c < K → E (qn c) 9 = chs W (R c)) ∧ (∀ c : Nat, c < K → E (qn c) 6 = T c) ∧ it < K ∧ G 42 3 = some (qn it) ∧ E 3 = P ∧ pok P ∧ P 0 = 2 ∧ wok W
/-- G may differ in the agenda's own fields -/
def g42 (G G' : Nat → Int → Option Nat) : Prop := (∀ y : Nat, y ≠ 42 → G' y = G y) ∧ ∀ i : Int, i ≠ 6 → i ≠ 7 → G' 42 i = G 42 i
theorem g42_r {G : Nat → Int → Option Nat} : g42 G G := ⟨fun _ _ => rfl, fun _ _ _ => rfl⟩
theorem g42_t {G G1 G2 : Nat → Int → Option Nat} (h : g42 G G1) (h' : g42 G1 G2) : g42 G G2 := ⟨fun y hy => (h'.1 y hy).trans (h.1 y hy), fun i a b => (h'.2 i a b).trans (h.2 i a b)⟩
theorem g42_put {G G1 : Nat → Int → Option Nat} {k : Int} {o : Option Nat} (h : g42 G G1) (hk : k = 6 ∨ k = 7) : g42 G (zuG G1 42 k o) := ⟨fun y hy => (zuG_nf hy).trans (h.1 y hy), fun i a b => (zuG_ix (by omega)).trans (h.2 i a b)⟩
theorem stC_g {d : List Nat} {G G' : Nat → Int → Option Nat} {E : Nat → Int → Int} {P W : Int → Int} {K : Nat} {R : Nat → List zLt} (h : stC d G E P W K R) (hg : ∀ y : Nat, y ≠ 42 → G' y = G y) : stC d G' E P W K R := by
  refine ⟨h.1, h.2.1, fun c hc => ?_⟩
  obtain ⟨a, b, r⟩ := h.2.2 c hc
  exact ⟨by rw [hg 6 (by decide)]; exact a, zCk_up b (fun _ hx => hx) (fun k _ => by rw [hg (qn c) (by unfold qn; omega)]) (hg _ (by unfold qn; omega)), r⟩
section SM
variable {d : List Nat} {G : Nat → Int → Option Nat} {E : Nat → Int → Int}
variable {P W : Int → Int} {K : Nat} {R : Nat → List zLt} {T : Nat → Int} {it : Nat}
theorem agB_g {G' : Nat → Int → Option Nat} (h : agB d G E P W K R T it) (hg : g42 G G') (hX : zK zXt d G') : agB d G' E P W K R T it := by
  obtain ⟨_, hs, h9, h6, hi, g3, e3, hP, h2, hW⟩ := h
  exact ⟨hX, stC_g hs hg.1, h9, h6, hi, by rw [hg.2 3 (by decide) (by decide)]; exact g3, e3, hP, h2, hW⟩
theorem agB_E {E' : Nat → Int → Int} (h : agB d G E P W K R T it) (hf : fz [42] E E') : agB d G E' P W K R T it := by
  obtain ⟨hX, hs, h9, h6, hi, g3, e3, hP, h2, hW⟩ := h
  refine ⟨hX, stC_fz hs hf (by simp) (by rw [hf 5 (by simp)]), fun c hc => ?_, fun c hc => ?_, hi, g3, by rw [hf 3 (by simp)]; exact e3, hP, h2, hW⟩
  · rw [hf (qn c) (by simp [qn]; omega)]; exact h9 c hc
  · rw [hf (qn c) (by simp [qn]; omega)]; exact h6 c hc
theorem agB_C {p n : Nat} (h : agB d G E P W K R T it) (hp : p < K) (hn : n < K) (g6 : G 42 6 = some (qn p)) (g7 : G 42 7 = some (qn n)) : agC d G E P W K R p n := by
  obtain ⟨hX, hs, h9, h6, hi, g3, e3, hP, h2, hW⟩ := h
  exact ⟨hX, hs, h9, hp, hn, g6, g7, e3, hP, h2, hW⟩
/-- places at a phase's begin -/
theorem np165 {ph : Int} {n : Option Nat} (h : agB d G E P W K R T it) (hn : ∀ m, n = some m → m < K) (g7 : G 42 7 = n.map qn) (e5 : E 42 5 = ph) :
    ∃ E' : Nat → Int → Int, (∀ kz (Q : Option zV → zH → Prop), Q none (d, G, E') → Z zm_X0_nextPhase kz Q 165 [(0, zR 42)] [] (d, G, E)) ∧ x42 E E' ∧ E' 42 8 = (if ph = 0 ∨ ph = 1 then -1 else 0) ∧ E' 42 9 = 0 ∧ (ph = 4 → E' 42 10 = 0) ∧ (ph ≠ 4 → ∀ m, n = some m → E' 42 10 = fst1 W (R m)) ∧ E' 42 11 = 0 := by
  obtain ⟨hX, hs, h9, h6, hi, g3, e3, hP, h2, hW⟩ := h
  let v8 : Int := if ph = 0 ∨ ph = 1 then -1 else 0
  let E2 := zuE (zuE E 42 8 v8) 42 9 0
  have x2 : x42 E E2 := x42_put (x42_put x42_r (by decide)) (by decide)
  have b5 : E2 42 5 = ph := (x2.2 5 (by decide)).trans e5
  have fin : ∀ w : Int, let E4 := zuE (zuE E2 42 10 w) 42 11 0; x42 E E4 ∧ E4 42 8 = v8 ∧ E4 42 9 = 0 ∧ E4 42 10 = w ∧ E4 42 11 = 0 := fun w =>
    ⟨x42_put (x42_put x2 (by decide)) (by decide), (zuE_ix (by decide)).trans ((zuE_ix (by decide)).trans ((zuE_ix (by decide)).trans zuE_same)), (zuE_ix (by decide)).trans ((zuE_ix (by decide)).trans zuE_same), (zuE_ix (by decide)).trans zuE_same, zuE_same⟩
  have go : ∀ (w : Int), (∀ kz (Q : Option zV → zH → Prop), Q none (d, G, zuE (zuE E2 42 10 w) 42 11 0) → (((E2 42 5) = 4 → ∀ E_6, E_6 = zuE E2 42 10 0 → ∀ E_7, E_7 = zuE E_6 42 11 0 → Q none (d, G, E_7)) ∧ (¬ ((E2 42 5) = 4) → ((G 42 7) = none → ∀ E_9, E_9 = zuE E2 42 10 0 → ∀ E_10, E_10 = zuE E_9 42 11 0 → Q none (d, G, E_10)) ∧ (¬ ((G 42 7) = none) → ∃ b_11, (G 42 7) = some b_11 ∧ zCk d G b_11 ∧ ∃ x_14, zM zm_X1_isPositive [zR b_11] (d, G, E2) (some (zI x_14)) (d, G, E2) ∧ (x_14 = 0 → ∃ b_18, (G 42 7) = some b_18 ∧ zCk d G b_18 ∧ ∀ E_21, E_21 = zuE E2 42 10 ((E2 b_18 9)) → ∀ E_22, E_22 = zuE E_21 42 11 0 → Q none (d, G, E_22)) ∧ (¬ (x_14 = 0) → ∀ E_23, E_23 = zuE E2 42 10 0 → ∀ E_24, E_24 = zuE E_23 42 11 0 → Q none (d, G, E_24)))))) → ∀ kz (Q : Option zV → zH → Prop), Q none (d, G, zuE (zuE E2 42 10 w) 42 11 0) → Z zm_X0_nextPhase kz Q 165 [(0, zR 42)] [] (d, G, E) := fun w hh kz Q hQ => by
    have hq := hh kz Q hQ
    refine X0_nextPhase_165 hX ?_
    rw [e5]
    have z181 : (ph = 0 ∨ ph = 1) → Z zm_X0_nextPhase kz Q 181 [(0, zR 42)] [zR 42] (d, G, E) := fun c => by
      refine X0_nextPhase_181 hX (fun H1 h1 H2 h2 => ?_)
      have eH : H2 = E2 := by
        rw [h2, h1]
        show zuE (zuE E 42 8 (-1)) 42 9 0 = zuE (zuE E 42 8 (if ph = 0 ∨ ph = 1 then -1 else 0)) 42 9 0
        rw [if_pos c]
      rw [eH]
      exact hq
    refine ⟨fun y => z181 (Or.inl y), fun y => ⟨fun y2 H1 h1 H2 h2 => ?_, fun y2 => z181 (Or.inr (Classical.byContradiction y2))⟩⟩
    have eH : H2 = E2 := by
      rw [h2, h1]
      show zuE (zuE E 42 8 0) 42 9 0 = zuE (zuE E 42 8 (if ph = 0 ∨ ph = 1 then -1 else 0)) 42 9 0
      rw [if_neg (by rintro (q | q); exact y q; exact y2 q)]
    rw [eH]
    exact hq
  by_cases c4 : ph = 4
  · obtain ⟨f1, f2, f3, f4, f5⟩ := fin 0
    refine ⟨_, go 0 (fun kz Q hQ => ⟨fun _ H1 h1 H2 h2 => ?_, fun y => absurd (b5.trans c4) y⟩), f1, f2, f3, fun _ => f4, fun y => absurd c4 y, f5⟩
    subst h1; subst h2; exact hQ
  cases n with
  | none =>
    obtain ⟨f1, f2, f3, f4, f5⟩ := fin 0
    refine ⟨_, go 0 (fun kz Q hQ => ⟨fun y => absurd (b5.symm.trans y) c4, fun _ => ⟨fun _ H1 h1 H2 h2 => ?_, fun y => absurd g7 y⟩⟩), f1, f2, f3, fun y => absurd y c4, fun _ m hm => absurd hm (by simp), f5⟩
    subst h1; subst h2; exact hQ
  | some m =>
    have hm := hn m rfl
    have hcm := (hs.2.2 m hm).2.1
    have q9 : E2 (qn m) 9 = chs W (R m) := by
      rw [x2.1 (qn m) (by simp [qn]; omega)]; exact h9 m hm
    have pm := isPositiveC_ok (E := E2) hX hcm
    rw [q9] at pm
    have g7' : G 42 7 = some (qn m) := g7
    by_cases c : chs W (R m) = -1
    · rw [if_pos c] at pm
      obtain ⟨f1, f2, f3, f4, f5⟩ := fin 0
      refine ⟨_, go 0 (fun kz Q hQ => ⟨fun y => absurd (b5.symm.trans y) c4, fun _ => ⟨fun y => absurd (g7'.symm.trans y) (by simp), fun _ => ⟨qn m, g7', hcm, 1, pm, fun y => absurd y (by decide), fun _ H1 h1 H2 h2 => ?_⟩⟩⟩), f1, f2, f3, fun y => absurd y c4, fun _ m' hm' => ?_, f5⟩
      · subst h1; subst h2; exact hQ
      · have em : m' = m := by simpa using hm'.symm
        rw [em, f4]
        unfold fst1
        rw [if_pos c]; rfl
    · rw [if_neg c] at pm
      have cn := chs_nn hW (hs.2.2 m hm).2.2.2 c
      obtain ⟨f1, f2, f3, f4, f5⟩ := fin (chs W (R m))
      refine ⟨_, go (chs W (R m)) (fun kz Q hQ => ⟨fun y => absurd (b5.symm.trans y) c4, fun _ => ⟨fun y => absurd (g7'.symm.trans y) (by simp), fun _ => ⟨qn m, g7', hcm, 0, pm, fun _ => ⟨qn m, g7', hcm, fun H1 h1 H2 h2 => ?_⟩, fun y => absurd rfl y⟩⟩⟩), f1, f2, f3, fun y => absurd y c4, fun _ m' hm' => ?_, f5⟩
      · rw [q9] at h1
        subst h1; subst h2; exact hQ
      · have em : m' = m := by simpa using hm'.symm
        rw [em, f4]
        unfold fst1
        rw [if_neg c]; omega
/-- who is with whom -/
def bak (ph : Int) : Prop := ph = 1 ∨ ph = 3
/-- what a phase begins with -/
def beg (W : Int → Int) (R : Nat → List zLt) (T : Nat → Int) (K it : Nat) (G' : Nat → Int → Option Nat) (E' : Nat → Int → Int) (ph : Int) (o : Nat) : Prop :=
  (¬ (T o = 1 ∧ ¬ (bak ph ∧ o = it)) ∧ G' 42 6 = none ∧ G' 42 7 = none) ∨
  ((T o = 1 ∧ ¬ (bak ph ∧ o = it)) ∧ ∃ p n : Nat, (bak ph ∧ p = o ∧ n = it ∨ ¬ bak ph ∧ p = it ∧ n = o) ∧ p < K ∧ n < K ∧ G' 42 6 = some (qn p) ∧ G' 42 7 = some (qn n) ∧ E' 42 8 = (if ph = 0 ∨ ph = 1 then -1 else 0) ∧ E' 42 9 = 0 ∧ (ph = 4 → E' 42 10 = 0) ∧ (ph ≠ 4 → E' 42 10 = fst1 W (R n)) ∧ E' 42 11 = 0)
theorem np47 {ph : Int} {o : Nat} (h : agB d G E P W K R T it) (e5 : E 42 5 = ph) (ho : o < K) (hw : ph < 4 ∧ E 42 4 = o ∨ 4 ≤ ph ∧ o = it) :
    ∃ (G' : Nat → Int → Option Nat) (E' : Nat → Int → Int), (∀ kz (Q : Option zV → zH → Prop), Q none (d, G', E') → Z zm_X0_nextPhase kz Q 47 [(0, zR 42)] [] (d, G, E)) ∧ g42 G G' ∧ zK zXt d G' ∧ x42 E E' ∧ beg W R T K it G' E' ph o := by
  have h' := h
  obtain ⟨hX, hs, h9, h6, hi, g3, e3, hP, h2, hW⟩ := h
  have hco := (hs.2.2 o ho).2.1
  have do' : qn o ∈ d := hco.2.1
  have hci := (hs.2.2 it hi).2.1
  have di : qn it ∈ d := hci.2.1
  -- to 95
  have z95 : ∃ s0 : Int, (s0 = 1 ∧ bak ph ∨ s0 = 0 ∧ ¬ bak ph) ∧ ∀ kz (Q : Option zV → zH → Prop), Z zm_X0_nextPhase kz Q 95 [(0, zR 42), (1, zO (some (qn o)))] [zI s0] (d, G, E) → Z zm_X0_nextPhase kz Q 47 [(0, zR 42)] [] (d, G, E) := by
    have z73 : ∀ kz (Q : Option zV → zH → Prop), Z zm_X0_nextPhase kz Q 73 [(0, zR 42)] [zO (some (qn o))] (d, G, E) → Z zm_X0_nextPhase kz Q 47 [(0, zR 42)] [] (d, G, E) := fun kz Q z => by
      refine X0_nextPhase_47 hX ?_
      rw [e5]
      rcases hw with ⟨w1, w2⟩ | ⟨w1, w2⟩
      · rw [w2]
        exact ⟨fun y => absurd y (by omega), fun _ => ⟨some (qn o), at_ok hX hs ho, z⟩⟩
      · rw [g3, ← w2]
        exact ⟨fun _ => z, fun y => absurd w1 y⟩
    by_cases c1 : ph = 1
    · exact ⟨1, Or.inl ⟨rfl, Or.inl c1⟩, fun kz Q z => z73 kz Q (X0_nextPhase_73 hX (by rw [e5]; exact ⟨fun _ => X0_nextPhase_90 hX z, fun y => absurd c1 y⟩))⟩
    · by_cases c3 : ph = 3
      · exact ⟨1, Or.inl ⟨rfl, Or.inr c3⟩, fun kz Q z => z73 kz Q (X0_nextPhase_73 hX (by rw [e5]; exact ⟨fun y => absurd y c1, fun _ => ⟨fun y => absurd c3 y, fun _ => X0_nextPhase_90 hX z⟩⟩))⟩
      · exact ⟨0, Or.inr ⟨rfl, fun q => by rcases q with q | q; exact c1 q; exact c3 q⟩, fun kz Q z => z73 kz Q (X0_nextPhase_73 hX (by rw [e5]; exact ⟨fun y => absurd y c1, fun _ => ⟨fun _ => z, fun y => absurd c3 y⟩⟩))⟩
  obtain ⟨s0, hs0, z95⟩ := z95
  have h6o := h6 o ho
  by_cases c : T o = 1 ∧ ¬ (bak ph ∧ o = it)
  · -- with somebody
    rcases hs0 with ⟨q1, q2⟩ | ⟨q1, q2⟩
    · subst q1
      let G1 := zuG G 42 6 (some (qn o))
      let G2 := zuG G1 42 7 (some (qn it))
      have gg : g42 G G2 := g42_put (g42_put g42_r (Or.inl rfl)) (Or.inr rfl)
      have X1 : zK zXt d G1 := zK_X42 hX (Or.inr (Or.inl rfl))
      have X2 : zK zXt d G2 := zK_X42 X1 (Or.inr (Or.inr rfl))
      have g13 : G1 42 3 = some (qn it) := (zuG_ix (by decide)).trans g3
      have g27 : G2 42 7 = (some it).map qn := zuG_same
      have g26 : G2 42 6 = some (qn o) := (zuG_ix (by decide)).trans zuG_same
      obtain ⟨E', z, xx, f8, f9, f4, fn, f11⟩ := np165 (n := some it) (agB_g h' gg X2) (fun m hm => by rw [← Option.some.inj hm]; exact hi) g27 e5
      refine ⟨G2, E', fun kz Q hQ => z95 kz Q (X0_nextPhase_95 hX ⟨fun y => absurd y (by simp), fun _ => ⟨qn o, rfl, hco, fun y => absurd (by rw [h6o]; exact c.1) y, fun _ => ⟨fun y => absurd y (by decide), fun _ => ⟨fun b hb => ?_, fun _ => ?_, fun y => ?_⟩⟩⟩⟩), gg, X2, xx, Or.inr ⟨c, o, it, Or.inl ⟨q2, rfl, rfl⟩, ho, hi, g26, zuG_same, f8, f9, f4, fun y => fn y it rfl, f11⟩⟩
      · rw [g3] at hb
        have : b = qn it := by simpa using hb.symm
        rw [this]; exact di
      · refine X0_nextPhase_133 hX ⟨fun y => absurd y (by decide), fun _ => ⟨fun b hb => ?_, fun H1 h1 => ?_⟩⟩
        · have : b = qn o := by simpa using hb.symm
          rw [this]; exact do'
        · have eH : H1 = G1 := h1
          rw [eH]
          refine ⟨X1, fun y => absurd y (by decide), fun _ => ⟨fun b hb => ?_, fun H2 h2 => ?_⟩⟩
          · rw [g13] at hb
            have : b = qn it := by simpa using hb.symm
            rw [this]; exact di
          · rw [g13] at h2
            have eH2 : H2 = G2 := h2
            rw [eH2]
            exact ⟨X2, z kz Q hQ⟩
      · rw [g3] at y
        have : qn o = qn it := by simpa using y
        exact absurd ⟨q2, qn_inj this⟩ c.2
    · subst q1
      let G1 := zuG G 42 6 (some (qn it))
      let G2 := zuG G1 42 7 (some (qn o))
      have gg : g42 G G2 := g42_put (g42_put g42_r (Or.inl rfl)) (Or.inr rfl)
      have X1 : zK zXt d G1 := zK_X42 hX (Or.inr (Or.inl rfl))
      have X2 : zK zXt d G2 := zK_X42 X1 (Or.inr (Or.inr rfl))
      have g27 : G2 42 7 = (some o).map qn := zuG_same
      have g26 : G2 42 6 = some (qn it) := (zuG_ix (by decide)).trans zuG_same
      obtain ⟨E', z, xx, f8, f9, f4, fn, f11⟩ := np165 (n := some o) (agB_g h' gg X2) (fun m hm => by rw [← Option.some.inj hm]; exact ho) g27 e5
      refine ⟨G2, E', fun kz Q hQ => z95 kz Q (X0_nextPhase_95 hX ⟨fun y => absurd y (by simp), fun _ => ⟨qn o, rfl, hco, fun y => absurd (by rw [h6o]; exact c.1) y, fun _ => ⟨fun _ => ?_, fun y => absurd rfl y⟩⟩⟩), gg, X2, xx, Or.inr ⟨c, it, o, Or.inr ⟨q2, rfl, rfl⟩, hi, ho, g26, zuG_same, f8, f9, f4, fun y => fn y o rfl, f11⟩⟩
      refine X0_nextPhase_133 hX ⟨fun _ => ⟨fun b hb => ?_, fun H1 h1 => ?_⟩, fun y => absurd rfl y⟩
      · rw [g3] at hb
        have : b = qn it := by simpa using hb.symm
        rw [this]; exact di
      · rw [g3] at h1
        have eH : H1 = G1 := h1
        rw [eH]
        refine ⟨X1, fun _ => ⟨fun b hb => ?_, fun H2 h2 => ?_⟩, fun y => absurd rfl y⟩
        · have : b = qn o := by simpa using hb.symm
          rw [this]; exact do'
        · have eH2 : H2 = G2 := h2
          rw [eH2]
          exact ⟨X2, z kz Q hQ⟩
  · -- with nobody
    let G1 := zuG G 42 6 none
    let G2 := zuG G1 42 7 none
    have gg : g42 G G2 := g42_put (g42_put g42_r (Or.inl rfl)) (Or.inr rfl)
    have X1 : zK zXt d G1 := zK_X42 hX (Or.inr (Or.inl rfl))
    have X2 : zK zXt d G2 := zK_X42 X1 (Or.inr (Or.inr rfl))
    have g27 : G2 42 7 = (none : Option Nat).map qn := zuG_same
    have g26 : G2 42 6 = none := (zuG_ix (by decide)).trans zuG_same
    obtain ⟨E', z, xx, _⟩ := np165 (n := none) (agB_g h' gg X2) (fun m hm => absurd hm (by simp)) g27 e5
    have z120 : ∀ kz (Q : Option zV → zH → Prop), Q none (d, G2, E') → Z zm_X0_nextPhase kz Q 120 [(0, zR 42)] [] (d, G, E) := fun kz Q hQ => by
      refine X0_nextPhase_120 hX (fun H1 h1 => ?_)
      have eH : H1 = G1 := h1
      rw [eH]
      refine ⟨X1, fun H2 h2 => ?_⟩
      have eH2 : H2 = G2 := h2
      rw [eH2]
      exact ⟨X2, z kz Q hQ⟩
    refine ⟨G2, E', fun kz Q hQ => z95 kz Q (X0_nextPhase_95 hX ⟨fun y => absurd y (by simp), fun _ => ⟨qn o, rfl, hco, fun _ => z120 kz Q hQ, fun y => ?_⟩⟩), gg, X2, xx, Or.inl ⟨c, g26, zuG_same⟩⟩
    rw [h6o] at y
    have t1 : T o = 1 := Classical.byContradiction y
    have bb : bak ph ∧ o = it := Classical.byContradiction fun q => c ⟨t1, q⟩
    rcases hs0 with ⟨q1, q2⟩ | ⟨q1, q2⟩
    · subst q1
      refine ⟨fun w => absurd w (by decide), fun _ => ⟨fun b hb => ?_, fun w => ?_, fun _ => z120 kz Q hQ⟩⟩
      · rw [g3] at hb
        have : b = qn it := by simpa using hb.symm
        rw [this]; exact di
      · rw [g3, bb.2] at w
        exact absurd rfl w
    · exact absurd bb.1 q2
/-- the next phase, and with whom -/
def nxP (K : Nat) (ph pa ph' pa' : Int) : Prop := (ph ≠ 3 ∧ ph' = ph + 1 ∧ pa' = pa) ∨ (ph = 3 ∧ pa' = pa + 1 ∧ (pa + 1 < K ∧ ph' = 0 ∨ ¬ pa + 1 < K ∧ ph' = 4))
theorem nextPhase_ok {ph pa : Int} (h : agB d G E P W K R T it) (e5 : E 42 5 = ph) (e4 : E 42 4 = pa) (hph : 0 ≤ ph ∧ ph ≤ 5) (hpa : -1 ≤ pa ∧ pa ≤ 150) (hlt : ph < 3 → 0 ≤ pa ∧ pa < K) :
    ∃ (G' : Nat → Int → Option Nat) (E' : Nat → Int → Int) (ph' pa' : Int) (o : Nat), zM zm_X0_nextPhase [zR 42] (d, G, E) none (d, G', E') ∧ g42 G G' ∧ zK zXt d G' ∧ fz [42] E E' ∧ E' 42 5 = ph' ∧ E' 42 4 = pa' ∧ nxP K ph pa ph' pa' ∧ o < K ∧ (ph' < 4 ∧ pa' = o ∨ 4 ≤ ph' ∧ o = it) ∧ beg W R T K it G' E' ph' o := by
  have hX := h.1
  have e54 : E 5 4 = K := h.2.1.1
  have K150 := h.2.1.2.1
  let E2 := zuE E 42 5 (ph + 1)
  have f2 : fz [42] E E2 := fz_put fz_rfl (by simp)
  have b5 : E2 42 5 = ph + 1 := zuE_same
  have b4 : E2 42 4 = pa := (zuE_ix (by decide)).trans e4
  by_cases c3 : ph = 3
  · let E5 := zuE E2 42 4 (pa + 1)
    have f5 : fz [42] E E5 := fz_put f2 (by simp)
    have c4 : E5 42 4 = pa + 1 := zuE_same
    have c5 : E5 42 5 = ph + 1 := (zuE_ix (by decide)).trans b5
    have k5 : E5 5 4 = K := by rw [f5 5 (by simp)]; exact e54
    have pre : ∀ kz (Q : Option zV → zH → Prop), (((K : Int) ≤ pa + 1 → Z zm_X0_nextPhase kz Q 47 [(0, zR 42)] [] (d, G, E5)) ∧ (¬ ((K : Int) ≤ pa + 1) → Z zm_X0_nextPhase kz Q 47 [(0, zR 42)] [] (d, G, zuE E5 42 5 0))) → Z zm_X0_nextPhase kz Q 0 [(0, zR 42)] [] (d, G, E) := fun kz Q hz => by
      refine X0_nextPhase_0 hX ?_
      rw [e5]
      refine ⟨zin_of (by omega) (by omega), fun H e => ?_⟩
      have eH : H = E2 := e
      rw [eH, b5, b4]
      refine ⟨fun y => absurd (by rw [c3]; rfl) y, fun _ => ⟨zin_of (by omega) (by omega), fun H2 e2 => ?_⟩⟩
      have eH2 : H2 = E5 := e2
      rw [eH2, c4, k5]
      exact ⟨hz.1, fun y H3 e3 => by rw [e3]; exact hz.2 y⟩
    by_cases cK : pa + 1 < K
    · obtain ⟨o, ho⟩ : ∃ o : Nat, pa + 1 = o := ⟨(pa + 1).toNat, by omega⟩
      let E7 := zuE E5 42 5 0
      have f7 : fz [42] E E7 := fz_put f5 (by simp)
      have d4 : E7 42 4 = pa + 1 := (zuE_ix (by decide)).trans c4
      have d5 : E7 42 5 = 0 := zuE_same
      obtain ⟨G', E', z, g', X', xx, bg⟩ := np47 (ph := 0) (o := o) (agB_E h f7) d5 (by omega) (Or.inl ⟨by decide, by rw [d4]; exact ho⟩)
      exact ⟨G', E', 0, pa + 1, o, zM_of rfl (Nat.le_of_ble_eq_true rfl) ⟨Nat.le_refl _, Nat.le_refl _⟩ (pre _ _ ⟨fun y => absurd y (by omega), fun _ => z _ _ ⟨rfl, rfl⟩⟩), g', X', fz_trans f7 xx.1, (xx.2 5 (by decide)).trans d5, (xx.2 4 (by decide)).trans d4, Or.inr ⟨c3, rfl, Or.inl ⟨cK, rfl⟩⟩, by omega, Or.inl ⟨by decide, ho⟩, bg⟩
    · obtain ⟨G', E', z, g', X', xx, bg⟩ := np47 (ph := 4) (o := it) (agB_E h f5) (by rw [c5, c3]; rfl) h.2.2.2.2.1 (Or.inr ⟨by decide, rfl⟩)
      exact ⟨G', E', 4, pa + 1, it, zM_of rfl (Nat.le_of_ble_eq_true rfl) ⟨Nat.le_refl _, Nat.le_refl _⟩ (pre _ _ ⟨fun _ => z _ _ ⟨rfl, rfl⟩, fun y => absurd (by omega) y⟩), g', X', fz_trans f5 xx.1, (xx.2 5 (by decide)).trans (by rw [c5, c3]; rfl), (xx.2 4 (by decide)).trans c4, Or.inr ⟨c3, rfl, Or.inr ⟨cK, rfl⟩⟩, h.2.2.2.2.1, Or.inr ⟨by decide, rfl⟩, bg⟩
  · have pre : ∀ kz (Q : Option zV → zH → Prop), Z zm_X0_nextPhase kz Q 47 [(0, zR 42)] [] (d, G, E2) → Z zm_X0_nextPhase kz Q 0 [(0, zR 42)] [] (d, G, E) := fun kz Q hz => by
      refine X0_nextPhase_0 hX ?_
      rw [e5]
      refine ⟨zin_of (by omega) (by omega), fun H e => ?_⟩
      have eH : H = E2 := e
      rw [eH, b5]
      exact ⟨fun _ => hz, fun y => absurd (by omega) y⟩
    by_cases cl : ph < 3
    · obtain ⟨o, ho⟩ : ∃ o : Nat, pa = o := ⟨pa.toNat, by have := hlt cl; omega⟩
      have := hlt cl
      obtain ⟨G', E', z, g', X', xx, bg⟩ := np47 (ph := ph + 1) (o := o) (agB_E h f2) b5 (by omega) (Or.inl ⟨by omega, by rw [b4]; exact ho⟩)
      exact ⟨G', E', ph + 1, pa, o, zM_of rfl (Nat.le_of_ble_eq_true rfl) ⟨Nat.le_refl _, Nat.le_refl _⟩ (pre _ _ (z _ _ ⟨rfl, rfl⟩)), g', X', fz_trans f2 xx.1, (xx.2 5 (by decide)).trans b5, (xx.2 4 (by decide)).trans b4, Or.inl ⟨c3, rfl, rfl⟩, by omega, Or.inl ⟨by omega, ho⟩, bg⟩
    · obtain ⟨G', E', z, g', X', xx, bg⟩ := np47 (ph := ph + 1) (o := it) (agB_E h f2) b5 h.2.2.2.2.1 (Or.inr ⟨by omega, rfl⟩)
      exact ⟨G', E', ph + 1, pa, it, zM_of rfl (Nat.le_of_ble_eq_true rfl) ⟨Nat.le_refl _, Nat.le_refl _⟩ (pre _ _ (z _ _ ⟨rfl, rfl⟩)), g', X', fz_trans f2 xx.1, (xx.2 5 (by decide)).trans b5, (xx.2 4 (by decide)).trans b4, Or.inl ⟨c3, rfl, rfl⟩, h.2.2.2.2.1, Or.inr ⟨by omega, rfl⟩, bg⟩
end SM
