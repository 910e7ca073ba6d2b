/-! ===== picks: the reference, all turns, works ===== -/
/-- the tries with a partner -/
def prL (R : Nat → List zLt) (it a : Nat) : List (List Int) := clL it a (R it).length 0 ++ ((if a = it then [] else clL a it (R a).length 0) ++ (tuI it a (R a) (R it).length 0 ++ (if a = it then [] else tuI a it (R it) (R a).length 0)))
/-- with all partners, by numbers -/
def WA (P W : Int → Int) (fu : Int) (it : Nat) : Nat → Nat → zS → zS → Prop
  | 0, _, s, s' => s' = s
  | m + 1, a, s, s' => ((a < sK s ∧ gon s it it) ∧ ((sT s a = 1 ∧ ∃ s1, RT P W fu it a (prL (sR s) it a) s s1 ∧ WA P W fu it m (a + 1) s1 s') ∨ (sT s a ≠ 1 ∧ WA P W fu it m (a + 1) s s'))) ∨ (¬ (a < sK s ∧ gon s it it) ∧ s' = s)
def lsL (R : Nat → List zLt) (it : Nat) : List (List Int) := faI it (R it).length (R it).length 0 ++ [[3, (it : Int), 0, 0, 0, 0, 0]]
def WK (P W : Int → Int) (fu : Int) (it : Nat) (s s' : zS) : Prop := ∃ s1, WA P W fu it 151 0 s s1 ∧ RT P W fu it it (lsL (sR s) it) s1 s'
theorem WA_det {P W : Int → Int} {fu : Int} {it : Nat} : ∀ {m a : Nat} {s s1 s2 : zS}, WA P W fu it m a s s1 → WA P W fu it m a s s2 → s1 = s2
  | 0, a, s, s1, s2, h, h' => by
    have e1 : s1 = s := h
    have e2 : s2 = s := h'
    rw [e1, e2]
  | m + 1, a, s, s1, s2, h, h' => by
    rcases h with ⟨g, ⟨t, u, r1, r2⟩ | ⟨t, r2⟩⟩ | ⟨g, r1⟩ <;> rcases h' with ⟨g', ⟨t', u', r1', r2'⟩ | ⟨t', r2'⟩⟩ | ⟨g', r1'⟩
    · have e := RT_det r1 r1'
      rw [e] at r2
      exact WA_det r2 r2'
    · exact absurd t t'
    · exact absurd g g'
    · exact absurd t' t
    · exact WA_det r2 r2'
    · exact absurd g g'
    · exact absurd g' g
    · exact absurd g' g
    · rw [r1, r1']
theorem WK_det {P W : Int → Int} {fu : Int} {it : Nat} {s s1 s2 : zS} (h : WK P W fu it s s1) (h' : WK P W fu it s s2) : s1 = s2 := by
  obtain ⟨u, a, b⟩ := h
  obtain ⟨u', a', b'⟩ := h'
  have e := WA_det a a'
  rw [e] at b
  exact RT_det b b'
section SF
variable {d : List Nat} {G : Nat → Int → Option Nat} {E : Nat → Int → Int}
theorem allTurns_ok {fu : Int} {g : Nat} {s0 : zS} {E0 : Nat → Int → Int} {p n it a : Nat} {A B : List zLt} (hM : zK zMt d G) (hg : sgM E0 fu) (hg6 : g ≤ 600) (hp : p < sK s0) (hn : n < sK s0) (hi : it < sK s0) (ha : a < sK s0) (hA : sR s0 p = A) (hB : sR s0 n = B) {E : Nat → Int → Int} {s : zS} (h : inM E0 E fu g s0 s) :
    ∃ (E' : Nat → Int → Int) (s' : zS), zM zm_X12_allTurns [zR 50, zI (p : Int), zI (n : Int), zI (it : Int), zI (a : Int)] (d, G, E) none (d, G, E') ∧ inM E0 E' fu g s0 s' ∧ RT (E0 53) (E0 54) fu it a (tuI p n B A.length 0) s s' := by
  -- the places of a literal
  have l70 : ∀ (i w j : Nat), j < B.length → i < 6 → w < 2 → ∀ (m pl : Nat) (E : Nat → Int → Int) (s : zS), pl + m = 1 + ((lit B j).2.length - 1) → 1 ≤ pl → inM E0 E fu g s0 s → ∃ (E' : Nat → Int → Int) (s' : zS), (∀ kz Q, Z zm_X12_allTurns kz Q 46 [(0, zR 50), (1, zI (p : Int)), (2, zI (n : Int)), (3, zI (it : Int)), (4, zI (a : Int)), (5, zI (i : Int)), (6, zI (w : Int)), (7, zI ((j : Int) + 1))] [] (d, G, E') → Z zm_X12_allTurns kz Q 70 [(0, zR 50), (1, zI (p : Int)), (2, zI (n : Int)), (3, zI (it : Int)), (4, zI (a : Int)), (5, zI (i : Int)), (6, zI (w : Int)), (7, zI (j : Int)), (8, zI (pl : Int))] [] (d, G, E)) ∧ inM E0 E' fu g s0 s' ∧ RT (E0 53) (E0 54) fu it a (tuP p n i w j m pl) s s' := by
    intro i w j hj hi6 hw2 m
    induction m with
    | zero =>
      intro pl E s hpl hpl1 h
      have mk := h.2.2.2.1
      have k150 := h.2.2.1.1
      have qn' := many_at (c := n) h.2.1 (by omega)
      have rw0 := (h.2.1.1.2.2 n (by omega)).1.2.2
      rw [h.2.2.2.2.1 n hn, hB] at qn' rw0
      obtain ⟨b1, b2, b3, b4, b5⟩ := rw0 j hj
      exact ⟨E, s, fun kz Q z => X12_allTurns_70 hM ⟨zin_of (by omega) (by omega), zin_of (by omega) (by omega), ⟨by omega, by omega⟩, fun _ => ⟨zin_of (by omega) (by omega), z⟩, fun y => absurd (by omega) y⟩, h, rfl⟩
    | succ m ih =>
      intro pl E s hpl hpl1 h
      have mk := h.2.2.2.1
      have k150 := h.2.2.1.1
      have qn' := many_at (c := n) h.2.1 (by omega)
      have rw0 := (h.2.1.1.2.2 n (by omega)).1.2.2
      rw [h.2.2.2.2.1 n hn, hB] at qn' rw0
      obtain ⟨b1, b2, b3, b4, b5⟩ := rw0 j hj
      obtain ⟨x, mg, hx⟩ := goesOn_ok (E := E) (it := it) (a := a) hM h.2.1 (by omega) (by omega)
      rcases hx with ⟨x1, hgo⟩ | ⟨x0, hgo⟩
      · obtain ⟨E1, s1, mt, h1, t⟩ := try1 (E := E) (v1 := 4) (v2 := (p : Int)) (v3 := (i : Int)) (v4 := (w : Int)) (v5 := (n : Int)) (v6 := (j : Int)) (v7 := (pl : Int)) hM hg hg6 h hgo.1 (by omega) (by unfold nme; omega) (fun z => by omega) (fun _ => by unfold nme; omega)
        obtain ⟨E', s', z, h', r⟩ := ih (pl + 1) E1 s1 (by omega) (by omega) h1
        have ei : ((pl + 1 : Nat) : Int) = (pl : Int) + 1 := by omega
        rw [ei] at z
        exact ⟨E', s', fun kz Q y => X12_allTurns_70 hM ⟨zin_of (by omega) (by omega), zin_of (by omega) (by omega), ⟨by omega, by omega⟩, fun q => absurd q (by omega), fun _ => ⟨x, mg, fun q => absurd q (by omega), fun _ => ⟨E1, mt, zin_of (by omega) (by omega), z kz Q y⟩⟩⟩, h', Or.inl ⟨hgo, s1, t, r⟩⟩
      · exact ⟨E, s, fun kz Q z => X12_allTurns_70 hM ⟨zin_of (by omega) (by omega), zin_of (by omega) (by omega), ⟨by omega, by omega⟩, fun q => absurd q (by omega), fun _ => ⟨x, mg, fun _ => ⟨zin_of (by omega) (by omega), z⟩, fun q => absurd x0 q⟩⟩, h, Or.inr ⟨hgo, rfl⟩⟩
  have l46 : ∀ (i w : Nat), i < 6 → w < 2 → ∀ (m j : Nat) (E : Nat → Int → Int) (s : zS), j + m = B.length → inM E0 E fu g s0 s → ∃ (E' : Nat → Int → Int) (s' : zS), (∀ kz Q, Z zm_X12_allTurns kz Q 27 [(0, zR 50), (1, zI (p : Int)), (2, zI (n : Int)), (3, zI (it : Int)), (4, zI (a : Int)), (5, zI (i : Int)), (6, zI ((w : Int) + 1))] [] (d, G, E') → Z zm_X12_allTurns kz Q 46 [(0, zR 50), (1, zI (p : Int)), (2, zI (n : Int)), (3, zI (it : Int)), (4, zI (a : Int)), (5, zI (i : Int)), (6, zI (w : Int)), (7, zI (j : Int))] [] (d, G, E)) ∧ inM E0 E' fu g s0 s' ∧ RT (E0 53) (E0 54) fu it a (tuJ p n B i w m j) s s' := by
    intro i w hi6 hw2 m
    induction m with
    | zero =>
      intro j E s hj h
      have mk := h.2.2.2.1
      have k150 := h.2.2.1.1
      have qn' := many_at (c := n) h.2.1 (by omega)
      rw [h.2.2.2.2.1 n hn, hB] at qn'
      exact ⟨E, s, fun kz Q z => X12_allTurns_46 hM ⟨⟨by omega, by omega⟩, fun _ => ⟨zin_of (by omega) (by omega), z⟩, fun y => absurd (by omega) y⟩, h, rfl⟩
    | succ m ih =>
      intro j E s hj h
      have mk := h.2.2.2.1
      have k150 := h.2.2.1.1
      have qn' := many_at (c := n) h.2.1 (by omega)
      rw [h.2.2.2.2.1 n hn, hB] at qn'
      obtain ⟨x, mg, hx⟩ := goesOn_ok (E := E) (it := it) (a := a) hM h.2.1 (by omega) (by omega)
      rcases hx with ⟨x1, hgo⟩ | ⟨x0, hgo⟩
      · obtain ⟨E1, s1, z1, h1, r1⟩ := l70 i w j (by omega) hi6 hw2 ((lit B j).2.length - 1) 1 E s (by omega) (by omega) h
        obtain ⟨E', s', z, h', r⟩ := ih (j + 1) E1 s1 (by omega) h1
        have ej : ((j + 1 : Nat) : Int) = (j : Int) + 1 := by omega
        rw [ej] at z
        exact ⟨E', s', fun kz Q y => X12_allTurns_46 hM ⟨⟨by omega, by omega⟩, fun q => absurd q (by omega), fun _ => ⟨x, mg, fun q => absurd q (by omega), fun _ => z1 kz Q (z kz Q y)⟩⟩, h', RT_app r1 r⟩
      · exact ⟨E, s, fun kz Q z => X12_allTurns_46 hM ⟨⟨by omega, by omega⟩, fun q => absurd q (by omega), fun _ => ⟨x, mg, fun _ => ⟨zin_of (by omega) (by omega), z⟩, fun q => absurd x0 q⟩⟩, h, RT_stop hgo _⟩
  have l27 : ∀ (i : Nat), i < 6 → ∀ (m w : Nat) (E : Nat → Int → Int) (s : zS), w + m = 2 → inM E0 E fu g s0 s → ∃ (E' : Nat → Int → Int) (s' : zS), (∀ kz Q, Z zm_X12_allTurns kz Q 3 [(0, zR 50), (1, zI (p : Int)), (2, zI (n : Int)), (3, zI (it : Int)), (4, zI (a : Int)), (5, zI ((i : Int) + 1))] [] (d, G, E') → Z zm_X12_allTurns kz Q 27 [(0, zR 50), (1, zI (p : Int)), (2, zI (n : Int)), (3, zI (it : Int)), (4, zI (a : Int)), (5, zI (i : Int)), (6, zI (w : Int))] [] (d, G, E)) ∧ inM E0 E' fu g s0 s' ∧ RT (E0 53) (E0 54) fu it a (tuW p n B i m w) s s' := by
    intro i hi6 m
    induction m with
    | zero =>
      intro w E s hw h
      exact ⟨E, s, fun kz Q z => X12_allTurns_27 hM ⟨fun _ => ⟨zin_of (by omega) (by omega), z⟩, fun y => absurd (by omega) y⟩, h, rfl⟩
    | succ m ih =>
      intro w E s hw h
      have mk := h.2.2.2.1
      obtain ⟨x, mg, hx⟩ := goesOn_ok (E := E) (it := it) (a := a) hM h.2.1 (by omega) (by omega)
      rcases hx with ⟨x1, hgo⟩ | ⟨x0, hgo⟩
      · obtain ⟨E1, s1, z1, h1, r1⟩ := l46 i w hi6 (by omega) B.length 0 E s (by omega) h
        obtain ⟨E', s', z, h', r⟩ := ih (w + 1) E1 s1 (by omega) h1
        have ej : ((w + 1 : Nat) : Int) = (w : Int) + 1 := by omega
        rw [ej] at z
        exact ⟨E', s', fun kz Q y => X12_allTurns_27 hM ⟨fun q => absurd q (by omega), fun _ => ⟨x, mg, fun q => absurd q (by omega), fun _ => z1 kz Q (z kz Q y)⟩⟩, h', RT_app r1 r⟩
      · exact ⟨E, s, fun kz Q z => X12_allTurns_27 hM ⟨fun q => absurd q (by omega), fun _ => ⟨x, mg, fun _ => ⟨zin_of (by omega) (by omega), z⟩, fun q => absurd x0 q⟩⟩, h, RT_stop hgo _⟩
  have l3 : ∀ (m i : Nat) (E : Nat → Int → Int) (s : zS), i + m = A.length → inM E0 E fu g s0 s → ∃ (E' : Nat → Int → Int) (s' : zS), zgo zm_X12_allTurns 3 [(0, zR 50), (1, zI (p : Int)), (2, zI (n : Int)), (3, zI (it : Int)), (4, zI (a : Int)), (5, zI (i : Int))] [] (d, G, E) none (d, G, E') ∧ inM E0 E' fu g s0 s' ∧ RT (E0 53) (E0 54) fu it a (tuI p n B m i) s s' := by
    intro m
    induction m with
    | zero =>
      intro i E s hi0 h
      have mk := h.2.2.2.1
      have k150 := h.2.2.1.1
      have q := many_at (c := p) h.2.1 (by omega)
      rw [h.2.2.2.2.1 p hp, hA] at q
      exact ⟨E, s, fun kz Q hQ => X12_allTurns_3 hM ⟨⟨by omega, by omega⟩, fun _ => hQ, fun z => absurd (by omega) z⟩, h, rfl⟩
    | succ m ih =>
      intro i E s hi0 h
      have mk := h.2.2.2.1
      have k150 := h.2.2.1.1
      have q := many_at (c := p) h.2.1 (by omega)
      rw [h.2.2.2.2.1 p hp, hA] at q
      obtain ⟨x, mg, hx⟩ := goesOn_ok (E := E) (it := it) (a := a) hM h.2.1 (by omega) (by omega)
      rcases hx with ⟨x1, hgo⟩ | ⟨x0, hgo⟩
      · obtain ⟨E1, s1, z1, h1, r1⟩ := l27 i (by omega) 2 0 E s (by omega) h
        obtain ⟨E', s', z, h', r⟩ := ih (i + 1) E1 s1 (by omega) h1
        have ej : ((i + 1 : Nat) : Int) = (i : Int) + 1 := by omega
        rw [ej] at z
        exact ⟨E', s', fun kz Q hQ => X12_allTurns_3 hM ⟨⟨by omega, by omega⟩, fun q => absurd q (by omega), fun _ => ⟨x, mg, fun q => absurd q (by omega), fun _ => z1 kz Q (z kz Q hQ)⟩⟩, h', RT_app r1 r⟩
      · exact ⟨E, s, fun kz Q hQ => X12_allTurns_3 hM ⟨⟨by omega, by omega⟩, fun q => absurd q (by omega), fun _ => ⟨x, mg, fun _ => hQ, fun q => absurd x0 q⟩⟩, h, RT_stop hgo _⟩
  obtain ⟨E', s', z, zr⟩ := l3 A.length 0 E s (by omega) h
  exact ⟨E', s', zM_go rfl (Nat.le_of_ble_eq_true rfl) (fun kz Q hQ => X12_allTurns_0 hM (z kz Q hQ)), zr⟩
/-- factors, and the drop -/
theorem works_79 {fu : Int} {g : Nat} {s0 : zS} {E0 : Nat → Int → Int} {it : Nat} {A : List zLt} (hM : zK zMt d G) (hg : sgM E0 fu) (hg6 : g ≤ 600) (hi : it < sK s0) (hA : sR s0 it = A) : ∀ (m i : Nat) (E : Nat → Int → Int) (s : zS), i + m = A.length → inM E0 E fu g s0 s → ∃ (E' : Nat → Int → Int) (s' : zS), zgo zm_X12_works 79 [(0, zR 50), (1, zI (it : Int)), (2, zI (i : Int))] [] (d, G, E) none (d, G, E') ∧ inM E0 E' fu g s0 s' ∧ RT (E0 53) (E0 54) fu it it (faI it A.length m i ++ [[3, (it : Int), 0, 0, 0, 0, 0]]) s s' := by
  have l102 : ∀ (i : Nat), i < A.length → ∀ (m j : Nat) (E : Nat → Int → Int) (s : zS), j + m = i + 1 + (A.length - (i + 1)) → inM E0 E fu g s0 s → ∃ (E' : Nat → Int → Int) (s' : zS), (∀ kz Q, Z zm_X12_works kz Q 79 [(0, zR 50), (1, zI (it : Int)), (2, zI ((i : Int) + 1))] [] (d, G, E') → Z zm_X12_works kz Q 102 [(0, zR 50), (1, zI (it : Int)), (2, zI (i : Int)), (3, zI (j : Int))] [] (d, G, E)) ∧ inM E0 E' fu g s0 s' ∧ RT (E0 53) (E0 54) fu it it (faJ it i m j) s s' := by
    intro i hiA m
    induction m with
    | zero =>
      intro j E s hj h
      have mk := h.2.2.2.1
      have k150 := h.2.2.1.1
      have q := many_at (c := it) h.2.1 (by omega)
      rw [h.2.2.2.2.1 it hi, hA] at q
      exact ⟨E, s, fun kz Q z => X12_works_102 hM ⟨⟨by omega, by omega⟩, fun _ => ⟨zin_of (by omega) (by omega), z⟩, fun y => absurd (by omega) y⟩, h, rfl⟩
    | succ m ih =>
      intro j E s hj h
      have mk := h.2.2.2.1
      have k150 := h.2.2.1.1
      have q := many_at (c := it) h.2.1 (by omega)
      rw [h.2.2.2.2.1 it hi, hA] at q
      obtain ⟨x, mg, hx⟩ := goesOn_ok (E := E) (it := it) (a := it) hM h.2.1 (by omega) (by omega)
      rcases hx with ⟨x1, hgo⟩ | ⟨x0, hgo⟩
      · obtain ⟨E1, s1, mt, h1, t⟩ := try1 (E := E) (v1 := 2) (v2 := (it : Int)) (v3 := (i : Int)) (v4 := (j : Int)) (v5 := 0) (v6 := 0) (v7 := 0) hM hg hg6 h hgo.1 (by omega) (by unfold nme; omega) (fun z => by omega) (fun z => by omega)
        obtain ⟨E', s', z, h', r⟩ := ih (j + 1) E1 s1 (by omega) h1
        have ei : ((j + 1 : Nat) : Int) = (j : Int) + 1 := by omega
        rw [ei] at z
        exact ⟨E', s', fun kz Q y => X12_works_102 hM ⟨⟨by omega, by omega⟩, fun q => absurd q (by omega), fun _ => ⟨x, mg, fun q => absurd q (by omega), fun _ => ⟨E1, mt, zin_of (by omega) (by omega), z kz Q y⟩⟩⟩, h', Or.inl ⟨hgo, s1, t, r⟩⟩
      · exact ⟨E, s, fun kz Q z => X12_works_102 hM ⟨⟨by omega, by omega⟩, fun q => absurd q (by omega), fun _ => ⟨x, mg, fun _ => ⟨zin_of (by omega) (by omega), z⟩, fun q => absurd x0 q⟩⟩, h, Or.inr ⟨hgo, rfl⟩⟩
  intro m
  induction m with
  | zero =>
    intro i E s hi0 h
    have mk := h.2.2.2.1
    have k150 := h.2.2.1.1
    have q := many_at (c := it) h.2.1 (by omega)
    rw [h.2.2.2.2.1 it hi, hA] at q
    obtain ⟨x, mg, hx⟩ := goesOn_ok (E := E) (it := it) (a := it) hM h.2.1 (by omega) (by omega)
    rcases hx with ⟨x1, hgo⟩ | ⟨x0, hgo⟩
    · obtain ⟨E1, s1, mt, h1, t⟩ := try1 (E := E) (v1 := 3) (v2 := (it : Int)) (v3 := 0) (v4 := 0) (v5 := 0) (v6 := 0) (v7 := 0) hM hg hg6 h hgo.1 (by omega) (by unfold nme; omega) (fun z => by omega) (fun z => by omega)
      exact ⟨E1, s1, fun kz Q hQ => X12_works_79 hM ⟨⟨by omega, by omega⟩, fun _ => ⟨x, mg, fun y => absurd y (by omega), fun _ => ⟨E1, mt, hQ⟩⟩, fun y => absurd (by omega) y⟩, h1, Or.inl ⟨hgo, s1, t, rfl⟩⟩
    · exact ⟨E, s, fun kz Q hQ => X12_works_79 hM ⟨⟨by omega, by omega⟩, fun _ => ⟨x, mg, fun _ => hQ, fun y => absurd x0 y⟩, fun y => absurd (by omega) y⟩, h, Or.inr ⟨hgo, rfl⟩⟩
  | succ m ih =>
    intro i E s hi0 h
    have mk := h.2.2.2.1
    have k150 := h.2.2.1.1
    have q := many_at (c := it) h.2.1 (by omega)
    rw [h.2.2.2.2.1 it hi, hA] at q
    obtain ⟨x, mg, hx⟩ := goesOn_ok (E := E) (it := it) (a := it) hM h.2.1 (by omega) (by omega)
    rcases hx with ⟨x1, hgo⟩ | ⟨x0, hgo⟩
    · obtain ⟨E1, s1, z1, h1, r1⟩ := l102 i (by omega) (A.length - (i + 1)) (i + 1) E s (by omega) h
      obtain ⟨E', s', z, h', r⟩ := ih (i + 1) E1 s1 (by omega) h1
      have ei : ((i + 1 : Nat) : Int) = (i : Int) + 1 := by omega
      rw [ei] at z z1
      refine ⟨E', s', fun kz Q hQ => X12_works_79 hM ⟨⟨by omega, by omega⟩, fun q => absurd q (by omega), fun _ => ⟨x, mg, fun q => absurd q (by omega), fun _ => ⟨zin_of (by omega) (by omega), z1 kz Q (z kz Q hQ)⟩⟩⟩, h', ?_⟩
      simp only [faI]
      rw [List.append_assoc]
      exact RT_app r1 r
    · exact ⟨E, s, fun kz Q hQ => X12_works_79 hM ⟨⟨by omega, by omega⟩, fun q => absurd q (by omega), fun _ => ⟨x, mg, fun _ => ⟨x, mg, fun _ => hQ, fun q => absurd x0 q⟩, fun q => absurd x0 q⟩⟩, h, RT_stop hgo _⟩
theorem works_ok {fu : Int} {g : Nat} {s : zS} {it : Nat} (hM : zK zMt d G) (hg : sgM E fu) (hg6 : g ≤ 600) (hs : MIv E s) (ho : okS g s) (hi : it < sK s) :
    ∃ (E' : Nat → Int → Int) (s' : zS), zM zm_X12_works [zR 50, zI (it : Int)] (d, G, E) none (d, G, E') ∧ kpM E E' ∧ MIv E' s' ∧ okS g s' ∧ mon s s' ∧ WK (E 53) (E 54) fu it s s' := by
  have loop : ∀ (m a : Nat) (F : Nat → Int → Int) (t : zS), a + m = 151 → inM E F fu g s t → ∃ (F' : Nat → Int → Int) (t' : zS), (∀ kz Q, Z zm_X12_works kz Q 79 [(0, zR 50), (1, zI (it : Int)), (2, zI 0)] [] (d, G, F') → Z zm_X12_works kz Q 2 [(0, zR 50), (1, zI (it : Int)), (2, zI (a : Int))] [] (d, G, F)) ∧ inM E F' fu g s t' ∧ WA (E 53) (E 54) fu it m a t t' := by
    intro m
    induction m with
    | zero =>
      intro a F t ha h
      have k150 := h.2.2.1.1
      have e6 := h.2.1.1.1
      exact ⟨F, t, fun kz Q z => X12_works_2 hM ⟨fun _ => z, fun y => absurd (by omega) y⟩, h, rfl⟩
    | succ m ih =>
      intro a F t ha h
      have k150 := h.2.2.1.1
      have e6 := h.2.1.1.1
      have mk := h.2.2.2.1
      by_cases c1 : a < sK t
      case neg => exact ⟨F, t, fun kz Q z => X12_works_2 hM ⟨fun _ => z, fun y => absurd (by omega) y⟩, h, Or.inr ⟨fun q => c1 q.1, rfl⟩⟩
      obtain ⟨x, mg, hx⟩ := goesOn_ok (E := F) (it := it) (a := it) hM h.2.1 (by omega) (by omega)
      rcases hx with ⟨x1, hgo⟩ | ⟨x0, hgo⟩
      case inr => exact ⟨F, t, fun kz Q z => X12_works_2 hM ⟨fun y => absurd y (by omega), fun _ => ⟨x, mg, fun _ => z, fun y => absurd x0 y⟩⟩, h, Or.inr ⟨fun q => hgo q.2, rfl⟩⟩
      have ea : ((a + 1 : Nat) : Int) = (a : Int) + 1 := by omega
      have e62 := (h.2.1.1.2.2 a c1).2.2.1
      by_cases c2 : sT t a = 1
      case neg =>
        obtain ⟨F', t', z, h', r⟩ := ih (a + 1) F t (by omega) h
        rw [ea] at z
        exact ⟨F', t', fun kz Q y => X12_works_2 hM ⟨fun q => absurd q (by omega), fun _ => ⟨x, mg, fun q => absurd q (by omega), fun _ => ⟨⟨by omega, by omega⟩, fun _ => ⟨zin_of (by omega) (by omega), z kz Q y⟩, fun q => absurd (by rw [e62]; exact c2) q⟩⟩⟩, h', Or.inl ⟨⟨c1, hgo⟩, Or.inr ⟨c2, r⟩⟩⟩
      -- from here on relative to t
      have ht : inM F F fu g t t := ⟨kpM_r, h.2.1, h.2.2.1, mon_r t⟩
      have hgF := sgM_k hg h.1
      have b53 := (kpM_3 h.1).1
      have b54 := (kpM_3 h.1).2
      have hit : it < sK t := by omega
      have back : ∀ {H : Nat → Int → Int} {u : zS}, inM F H fu g t u → inM E H fu g s u := fun q => ⟨kpM_t h.1 q.1, q.2.1, q.2.2.1, mon_t h.2.2.2 q.2.2.2⟩
      obtain ⟨F1, t1, m1, h1, r1⟩ := clashes_ok (p := it) (n := a) (it := it) (a := a) (A := sR t it) hM hgF hg6 hit c1 hit c1 rfl ht
      by_cases c3 : a = it
      · obtain ⟨F2, t2, m2, h2, r2⟩ := allTurns_ok (p := it) (n := a) (it := it) (a := a) (A := sR t it) (B := sR t a) hM hgF hg6 hit c1 hit c1 rfl rfl h1
        obtain ⟨F', t', z, h', r⟩ := ih (a + 1) F2 t2 (by omega) (back h2)
        rw [ea] at z
        have ci : (a : Int) = it := by omega
        refine ⟨F', t', fun kz Q y => X12_works_2 hM ⟨fun q => absurd q (by omega), fun _ => ⟨x, mg, fun q => absurd q (by omega), fun _ => ⟨⟨by omega, by omega⟩, fun q => absurd (by rw [e62]; exact c2) q, fun _ => ⟨F1, m1, fun _ => ⟨F2, m2, fun _ => ⟨zin_of (by omega) (by omega), z kz Q y⟩, fun q => absurd ci q⟩, fun q => absurd ci q⟩⟩⟩⟩, h', Or.inl ⟨⟨c1, hgo⟩, Or.inl ⟨c2, t2, ?_, r⟩⟩⟩
        unfold prL
        rw [if_pos c3, if_pos c3, List.nil_append, List.append_nil]
        rw [b53, b54] at r1 r2
        exact RT_app r1 r2
      · obtain ⟨F2, t2, m2, h2, r2⟩ := clashes_ok (p := a) (n := it) (it := it) (a := a) (A := sR t a) hM hgF hg6 c1 hit hit c1 rfl h1
        obtain ⟨F3, t3, m3, h3, r3⟩ := allTurns_ok (p := it) (n := a) (it := it) (a := a) (A := sR t it) (B := sR t a) hM hgF hg6 hit c1 hit c1 rfl rfl h2
        obtain ⟨F4, t4, m4, h4, r4⟩ := allTurns_ok (p := a) (n := it) (it := it) (a := a) (A := sR t a) (B := sR t it) hM hgF hg6 c1 hit hit c1 rfl rfl h3
        obtain ⟨F', t', z, h', r⟩ := ih (a + 1) F4 t4 (by omega) (back h4)
        rw [ea] at z
        have ci : ¬ (a : Int) = it := by omega
        refine ⟨F', t', fun kz Q y => X12_works_2 hM ⟨fun q => absurd q (by omega), fun _ => ⟨x, mg, fun q => absurd q (by omega), fun _ => ⟨⟨by omega, by omega⟩, fun q => absurd (by rw [e62]; exact c2) q, fun _ => ⟨F1, m1, fun q => absurd q ci, fun _ => ⟨F2, m2, F3, m3, fun q => absurd q ci, fun _ => ⟨F4, m4, zin_of (by omega) (by omega), z kz Q y⟩⟩⟩⟩⟩⟩, h', Or.inl ⟨⟨c1, hgo⟩, Or.inl ⟨c2, t4, ?_, r⟩⟩⟩
        unfold prL
        rw [if_neg c3, if_neg c3]
        rw [b53, b54] at r1 r2 r3 r4
        exact RT_app r1 (RT_app r2 (RT_app r3 r4))
  obtain ⟨F', t', z, h', r⟩ := loop 151 0 E s (by omega) ⟨kpM_r, hs, ho, mon_r s⟩
  obtain ⟨F2, t2, z2, h2, r2⟩ := works_79 (it := it) (A := sR s it) hM hg hg6 hi rfl (sR s it).length 0 F' t' (by omega) h'
  exact ⟨F2, t2, zM_go rfl (Nat.le_of_ble_eq_true rfl) (fun kz Q hQ => X12_works_0 hM (z kz Q (z2 kz Q hQ))), h2.1, h2.2.1, h2.2.2.1, h2.2.2.2, t', r, r2⟩
end SF
