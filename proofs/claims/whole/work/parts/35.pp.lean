/-! ===== trivial rows; the reference's rows ===== -/
/-- a said EQUAL of like sides -/
def bad (P : Int → Int) (A : List zLt) (i : Nat) : Prop := (lit A i).1 = 0 ∧ fw (lit A i).2 0 = 0 ∧ lks P (lit A i).2
/-- one says what the other denies -/
def opp (A : List zLt) (i j : Nat) : Prop := (lit A i).1 ≠ (lit A j).1 ∧ (lit A i).2 = (lit A j).2
def tv (P : Int → Int) (A : List zLt) (k : Nat) : Prop := bad P A k ∨ ∃ j, j < k ∧ opp A k j
def triv (P : Int → Int) (A : List zLt) : Prop := ∃ k, k < A.length ∧ tv P A k
section PP
variable {d : List Nat} {G : Nat → Int → Option Nat} {E : Nat → Int → Int}
theorem isTrivial_ok {r : Nat} {A : List zLt} (hX : zK zXt d G) (hr : zRk d G r) (hA : rowC E r A) (hP : pok (E 3)) (h2 : E 3 0 = 2) (hw : ∀ l : Nat, l < A.length → wok1 (E 3) (lit A l).2) :
    ∃ x : Int, zM zm_X5_isTrivial [zR r, zR 1] (d, G, E) (some (zI x)) (d, G, E) ∧ (x = 1 ∧ triv (E 3) A ∨ x = 0 ∧ ¬ triv (E 3) A) := by
  have h6 := hA.2.1
  have core : ∀ m i : Nat, i + m = A.length → ∃ x : Int, zgo zm_X5_isTrivial 2 [(0, zR r), (1, zR 1), (2, zI (i : Int))] [] (d, G, E) (some (zI x)) (d, G, E) ∧ ((x = 1 ∧ ∃ k, i ≤ k ∧ k < A.length ∧ tv (E 3) A k) ∨ (x = 0 ∧ ∀ k, i ≤ k → k < A.length → ¬ tv (E 3) A k)) := by
    intro m
    induction m with
    | zero =>
      intro i hi
      refine ⟨0, fun kz Q hQ => X5_isTrivial_2 hX hr ⟨fun _ => hQ, fun c => absurd (by rw [hA.1]; omega) c⟩, Or.inr ⟨rfl, fun k k1 k2 => by omega⟩⟩
    | succ m ih =>
      intro i hi
      obtain ⟨xo, go, hxo⟩ := ih (i + 1) (by omega)
      have ei : ((i + 1 : Nat) : Int) = (i : Int) + 1 := by omega
      rw [ei] at go
      have hil : i < A.length := by omega
      have inner : ∀ m j : Nat, j + m = i → ∃ x : Int, zgo zm_X5_isTrivial 40 [(0, zR r), (1, zR 1), (2, zI (i : Int)), (3, zI (j : Int))] [] (d, G, E) (some (zI x)) (d, G, E) ∧ ((x = 1 ∧ ((∃ k, k < i ∧ opp A i k) ∨ xo = 1)) ∨ (x = 0 ∧ (∀ k, j ≤ k → k < i → ¬ opp A i k) ∧ xo = 0)) := by
        intro m
        induction m with
        | zero =>
          intro j hj
          refine ⟨xo, fun kz Q hQ => X5_isTrivial_40 hX hr ⟨fun _ => ⟨zin_of (by omega) (by omega), go kz Q hQ⟩, fun c => absurd (by omega) c⟩, ?_⟩
          rcases hxo with ⟨a, b⟩ | ⟨a, b⟩
          · exact Or.inl ⟨a, Or.inr a⟩
          · exact Or.inr ⟨a, fun k k1 k2 => by omega, a⟩
        | succ m ih2 =>
          intro j hj
          obtain ⟨y, go2, hy⟩ := ih2 (j + 1) (by omega)
          have ej : ((j + 1 : Nat) : Int) = (j : Int) + 1 := by omega
          rw [ej] at go2
          have di := (hA.2.2.2 i hil).1
          have dj := (hA.2.2.2 j (by omega)).1
          by_cases hd : (lit A i).1 = (lit A j).1
          · refine ⟨y, fun kz Q hQ => X5_isTrivial_40 hX hr ⟨fun c => absurd c (by omega), fun _ => ⟨⟨by omega, by omega⟩, ⟨by omega, by omega⟩, fun _ => ⟨zin_of (by omega) (by omega), go2 kz Q hQ⟩, fun c => absurd (by rw [di, dj, hd]) c⟩⟩, ?_⟩
            rcases hy with ⟨a, b⟩ | ⟨a, b, c⟩
            · exact Or.inl ⟨a, b⟩
            · refine Or.inr ⟨a, fun k k1 k2 => ?_, c⟩
              rcases (by omega : k = j ∨ j + 1 ≤ k) with e | e
              · subst e; exact fun q => q.1 hd
              · exact b k e k2
          · obtain ⟨z, mz, hz⟩ := saysAlike_ok (E := E) hX hr hA hil (show j < A.length by omega)
            rcases hz with ⟨z1, z2⟩ | ⟨z1, z2⟩
            · subst z1
              refine ⟨1, fun kz Q hQ => X5_isTrivial_40 hX hr ⟨fun c => absurd c (by omega), fun _ => ⟨⟨by omega, by omega⟩, ⟨by omega, by omega⟩, fun c => absurd (by rw [di, dj] at c; exact c) hd, fun _ => ⟨_, mz, fun c => absurd c (by omega), fun _ => hQ⟩⟩⟩, Or.inl ⟨rfl, Or.inl ⟨j, by omega, hd, z2⟩⟩⟩
            · subst z1
              refine ⟨y, fun kz Q hQ => X5_isTrivial_40 hX hr ⟨fun c => absurd c (by omega), fun _ => ⟨⟨by omega, by omega⟩, ⟨by omega, by omega⟩, fun c => absurd (by rw [di, dj] at c; exact c) hd, fun _ => ⟨_, mz, fun _ => ⟨zin_of (by omega) (by omega), go2 kz Q hQ⟩, fun c => absurd rfl c⟩⟩⟩, ?_⟩
              rcases hy with ⟨a, b⟩ | ⟨a, b, c⟩
              · exact Or.inl ⟨a, b⟩
              · refine Or.inr ⟨a, fun k k1 k2 => ?_, c⟩
                rcases (by omega : k = j ∨ j + 1 ≤ k) with e | e
                · subst e; exact fun q => z2 q.2
                · exact b k e k2
      obtain ⟨x, go3, hx⟩ := inner i 0 (by omega)
      obtain ⟨q, mq, hq⟩ := isEqual_ok (E := E) hX hr hA (fun l hl => wok1_pos (hw l hl)) (i : Int)
      have di := (hA.2.2.2 i hil).1
      have en : (¬ bad (E 3) A i) → ((x = 1 ∧ ∃ k, i ≤ k ∧ k < A.length ∧ tv (E 3) A k) ∨ (x = 0 ∧ ∀ k, i ≤ k → k < A.length → ¬ tv (E 3) A k)) := by
        intro nb
        rcases hx with ⟨a, b | b⟩ | ⟨a, b, c⟩
        · exact Or.inl ⟨a, i, Nat.le_refl _, hil, Or.inr b⟩
        · rcases hxo with ⟨_, k, k1, k2, k3⟩ | ⟨c, _⟩
          · exact Or.inl ⟨a, k, by omega, k2, k3⟩
          · omega
        · refine Or.inr ⟨a, fun k k1 k2 => ?_⟩
          rcases hxo with ⟨e, _⟩ | ⟨_, e⟩
          · omega
          · rcases (by omega : k = i ∨ i + 1 ≤ k) with f | f
            · subst f
              rintro (g | ⟨j, j1, j2⟩)
              · exact nb g
              · exact b j (by omega) j1 j2
            · exact e k f k2
      rcases hq with ⟨q1, q2⟩ | ⟨q1, q2⟩
      · subst q1
        have f0 : fw (lit A i).2 0 = 0 := q2.2.2
        by_cases hd : (lit A i).1 = 0
        · obtain ⟨z, mz, hz⟩ := hasLikeSides_ok (E := E) hX hr hA hil hP h2 (hw i hil) f0
          rcases hz with ⟨z1, z2⟩ | ⟨z1, z2⟩
          · subst z1
            exact ⟨1, fun kz Q hQ => X5_isTrivial_2 hX hr ⟨fun c => absurd c (by rw [hA.1]; omega), fun _ => ⟨_, mq, fun c => absurd c (by omega), fun _ => ⟨⟨by omega, by omega⟩, fun c => absurd (by rw [di]; exact hd) c, fun _ => ⟨_, mz, fun c => absurd c (by omega), fun _ => hQ⟩⟩⟩⟩, Or.inl ⟨rfl, i, Nat.le_refl _, hil, Or.inl ⟨hd, f0, z2⟩⟩⟩
          · subst z1
            exact ⟨x, fun kz Q hQ => X5_isTrivial_2 hX hr ⟨fun c => absurd c (by rw [hA.1]; omega), fun _ => ⟨_, mq, fun c => absurd c (by omega), fun _ => ⟨⟨by omega, by omega⟩, fun c => absurd (by rw [di]; exact hd) c, fun _ => ⟨_, mz, fun _ => go3 kz Q hQ, fun c => absurd rfl c⟩⟩⟩⟩, en (fun b => z2 b.2.2)⟩
        · exact ⟨x, fun kz Q hQ => X5_isTrivial_2 hX hr ⟨fun c => absurd c (by rw [hA.1]; omega), fun _ => ⟨_, mq, fun c => absurd c (by omega), fun _ => ⟨⟨by omega, by omega⟩, fun _ => go3 kz Q hQ, fun c => absurd (by rw [di]; exact hd) c⟩⟩⟩, en (fun b => hd b.1)⟩
      · subst q1
        exact ⟨x, fun kz Q hQ => X5_isTrivial_2 hX hr ⟨fun c => absurd c (by rw [hA.1]; omega), fun _ => ⟨_, mq, fun _ => go3 kz Q hQ, fun c => absurd rfl c⟩⟩, en (fun b => q2 ⟨by omega, by omega, b.2.1⟩)⟩
  obtain ⟨x, go, hx⟩ := core A.length 0 (by omega)
  refine ⟨x, zM_go rfl (Nat.le_of_ble_eq_true rfl) (fun kz Q hQ => X5_isTrivial_0 hX hr (go kz Q hQ)), ?_⟩
  rcases hx with ⟨a, k, _, k2, k3⟩ | ⟨a, b⟩
  · exact Or.inl ⟨a, k, k2, k3⟩
  · exact Or.inr ⟨a, fun ⟨k, k2, k3⟩ => b k (Nat.zero_le _) k2 k3⟩
end PP
/-- literals in the reference's arrays: places in a, sizes in b, denials in c, from literal o on -/
def rowF (E : Nat → Int → Int) (a b c : Nat) (o : Int) (A : List zLt) : Prop := A.length ≤ 6 ∧ ∀ l : Nat, l < A.length → E b (o + l) = (lit A l).2.length ∧ E c (o + l) = (lit A l).1 ∧ ((lit A l).1 = 0 ∨ (lit A l).1 = 1) ∧ (lit A l).2.length ≤ 30 ∧ lk (E a) (30 * (o + l)) (fw (lit A l).2) 0 (lit A l).2.length
theorem rowF_fz {E E' : Nat → Int → Int} {a b c : Nat} {o : Int} {A : List zLt} {S : List Nat} (h : rowF E a b c o A) (hf : fz S E E') (ha : a ∉ S) (hb : b ∉ S) (hc : c ∉ S) : rowF E' a b c o A := by
  refine ⟨h.1, fun l hl => ?_⟩
  have := h.2 l hl
  rw [hf a ha, hf b hb, hf c hc]
  exact this
/-- a literal in the work rows -/
def wl (E : Nat → Int → Int) (l : Nat) (x : zLt) : Prop := E 73 l = x.2.length ∧ E 74 l = x.1 ∧ (x.1 = 0 ∨ x.1 = 1) ∧ x.2.length ≤ 30 ∧ lk (E 72) (30 * (l : Int)) (fw x.2) 0 x.2.length
/-- the work rows -/
def rowW (E : Nat → Int → Int) (A : List zLt) : Prop := E 50 24 = A.length ∧ A.length ≤ 6 ∧ ∀ l : Nat, l < A.length → wl E l (lit A l)
theorem rowW_F {E : Nat → Int → Int} {A : List zLt} (h : rowW E A) : rowF E 72 73 74 0 A := ⟨h.2.1, fun l hl => by
  have e : (0 : Int) + l = l := by omega
  rw [e]; exact h.2.2 l hl⟩
/-- equality of words, by their places in rows -/
theorem lk_word {f g : Int → Int} {i j : Int} {v w : List Int} (h : v.length = w.length) (hv : lk f i (fw v) 0 v.length) (hw : lk g j (fw w) 0 w.length) : lk f i g j v.length ↔ v = w := by
  constructor
  · intro q
    apply List.ext_getElem h
    intro k k1 k2
    have e1 := q k k1
    rw [hv k k1, hw k k2, fw_0, fw_0] at e1
    simpa [List.getD_eq_getElem?_getD, k1, k2] using e1
  · intro e k hk
    rw [hv k hk, hw k (by omega), e]
/-- the sides of an EQUAL, where its word lies in a row -/
theorem sides_at {P f : Int → Int} {i : Int} {w : List Int} (hP : pok P) (h2 : P 0 = 2) (hw : wok1 P w) (h0 : fw w 0 = 0) (hl : lk f i (fw w) 0 w.length) : ∃ t u : Nat, tm P (fw w) 1 t ∧ tm P (fw w) (1 + t) u ∧ tm P f (i + 1) t ∧ tm P f (i + 1 + t) u ∧ 1 + t + u = w.length ∧ tl P (fw w) 1 = t ∧ (lk f (i + 1) f (i + 1 + t) t ∧ t = u ↔ lks P w) := by
  obtain ⟨t, u, ht, hu, htu, htl⟩ := wok1_eq hP h2 hw h0
  have c1 : ∀ k : Nat, k < t → fw w (1 + k) = f (i + 1 + k) := fun k hk => by
    have := hl (1 + k) (by omega)
    have e4 : (0 : Int) + ((1 + k : Nat) : Int) = 1 + k := by omega
    have e5 : i + ((1 + k : Nat) : Int) = i + 1 + k := by omega
    rw [e4, e5] at this
    exact this.symm
  have c2 : ∀ k : Nat, k < u → fw w (1 + t + k) = f (i + 1 + t + k) := fun k hk => by
    have := hl (1 + t + k) (by omega)
    have e4 : (0 : Int) + ((1 + t + k : Nat) : Int) = 1 + t + k := by omega
    have e5 : i + ((1 + t + k : Nat) : Int) = i + 1 + t + k := by omega
    rw [e4, e5] at this
    exact this.symm
  refine ⟨t, u, ht, hu, tm_congr ht c1, tm_congr hu c2, htu, htl, ?_⟩
  unfold lks
  rw [htl]
  constructor
  · rintro ⟨h, e⟩ k hk
    rw [c1 k hk, c2 k (by omega)]; exact h k hk
  · intro h
    have e : t = u := tm_uniq (tm_congr ht h) hu
    refine ⟨fun k hk => ?_, e⟩
    rw [← c1 k hk, ← c2 k (by omega)]; exact h k hk
section PP2
variable {d : List Nat} {G : Nat → Int → Option Nat} {E : Nat → Int → Int}
theorem hasLikeSidesM_ok {x : zLt} {l : Nat} (hM : zK zMt d G) (hl : l < 6) (hx : wl E l x) (hP : pok (E 53)) (h2 : E 53 0 = 2) (hw : wok1 (E 53) x.2) (h0 : fw x.2 0 = 0) :
    ∃ z : Int, zM zm_X12_hasLikeSides [zR 50, zI (l : Int)] (d, G, E) (some (zI z)) (d, G, E) ∧ (z = 1 ∧ lks (E 53) x.2 ∨ z = 0 ∧ ¬ lks (E 53) x.2) := by
  have hd := (zM_21 hM).2.2
  obtain ⟨_, _, _, h30, hk⟩ := hx
  obtain ⟨t, u, _, _, ht, hu, htu, htl, hq⟩ := sides_at hP h2 hw h0 hk
  have k72 : zkd 72 = (0, 180) := rfl
  have m1 := endOf_ok (E := E) hM hd k72 hP ht (by omega) (by omega) (by omega)
  obtain ⟨z, m2, hz⟩ := areLike_ok (E := E) hM hd k72 hd k72 hP ht hu (by omega) (by omega) (by omega) (by omega) (by omega) (by omega)
  have hx2 : z = 1 ∧ lks (E 53) x.2 ∨ z = 0 ∧ ¬ lks (E 53) x.2 := by
    rcases hz with ⟨a, b⟩ | ⟨a, b⟩
    · exact Or.inl ⟨a, hq.1 ⟨b, tm_uniq (tm_congr ht b) hu⟩⟩
    · exact Or.inr ⟨a, fun c => b (hq.2 c).1⟩
  exact ⟨z, zM_p rfl (Nat.le_of_ble_eq_true rfl) (fun kz Q hQ => X12_hasLikeSides_0 hM ⟨zin_of (by omega) (by omega), zin_of (by omega) (by omega), _, m1, _, m2, by omega, hQ⟩), hx2⟩
theorem areAlike_ok {x y : zLt} {l m : Nat} (hM : zK zMt d G) (hl : l < 6) (hm : m < 6) (hx : wl E l x) (hy : wl E m y) :
    ∃ z : Int, zM zm_X12_areAlike [zR 50, zI (l : Int), zI (m : Int)] (d, G, E) (some (zI z)) (d, G, E) ∧ (z = 1 ∧ x.2 = y.2 ∨ z = 0 ∧ x.2 ≠ y.2) := by
  have hd := (zM_21 hM).2.2
  obtain ⟨sl, dl, _, l30, kl⟩ := hx
  obtain ⟨sm, dm, _, m30, km⟩ := hy
  by_cases hlen : x.2.length = y.2.length
  · have k72 : zkd 72 = (0, 180) := rfl
    obtain ⟨z, m2, hz⟩ := isLike_ok (E := E) (t := x.2.length) hM hd k72 hd k72 (i := 30 * (l : Int)) (j := 30 * (m : Int)) (by omega) (by omega) (by omega) (by omega) (by omega) (by omega)
    rw [lk_word hlen kl km] at hz
    refine ⟨z, zM_p rfl (Nat.le_of_ble_eq_true rfl) (fun kz Q hQ => X12_areAlike_0 hM ⟨⟨by omega, by omega⟩, ⟨by omega, by omega⟩, fun c => absurd (by rw [sl, sm, hlen]) c, fun _ => ⟨zin_of (by omega) (by omega), zin_of (by omega) (by omega), ⟨by omega, by omega⟩, z, by rw [sl]; exact m2, fun c => by rw [c] at hQ; exact hQ, fun c => ?_⟩⟩), hz⟩
    have : z = 1 := by omega
    rw [this] at hQ; exact hQ
  · exact ⟨0, zM_p rfl (Nat.le_of_ble_eq_true rfl) (fun kz Q hQ => X12_areAlike_0 hM ⟨⟨by omega, by omega⟩, ⟨by omega, by omega⟩, fun _ => hQ, fun c => absurd (by rw [sl, sm]; omega) c⟩), Or.inr ⟨rfl, fun h => hlen (by rw [h])⟩⟩
theorem isTrivialM_ok {A : List zLt} (hM : zK zMt d G) (hA : rowW E A) (hP : pok (E 53)) (h2 : E 53 0 = 2) (hw : ∀ l : Nat, l < A.length → wok1 (E 53) (lit A l).2) :
    ∃ x : Int, zM zm_X12_isTrivial [zR 50] (d, G, E) (some (zI x)) (d, G, E) ∧ (x = 1 ∧ triv (E 53) A ∨ x = 0 ∧ ¬ triv (E 53) A) := by
  have h6 := hA.2.1
  have core : ∀ m i : Nat, i + m = A.length → ∃ x : Int, zgo zm_X12_isTrivial 2 [(0, zR 50), (1, zI (i : Int))] [] (d, G, E) (some (zI x)) (d, G, E) ∧ ((x = 1 ∧ triv (E 53) A) ∨ (x = 0 ∧ ∀ k, i ≤ k → k < A.length → ¬ (bad (E 53) A k ∨ (lit A k).1 = 1 ∧ ∃ j, j < A.length ∧ opp A k j))) := by
    intro m
    induction m with
    | zero =>
      intro i hi
      refine ⟨0, fun kz Q hQ => X12_isTrivial_2 hM ⟨fun _ => hQ, fun c => absurd (by rw [hA.1]; omega) c⟩, Or.inr ⟨rfl, fun k k1 k2 => by omega⟩⟩
    | succ m ih =>
      intro i hi
      obtain ⟨xo, go, hxo⟩ := ih (i + 1) (by omega)
      have ei : ((i + 1 : Nat) : Int) = (i : Int) + 1 := by omega
      rw [ei] at go
      have hil : i < A.length := by omega
      obtain ⟨si, di, di2, i30, ki⟩ := hA.2.2 i hil
      have inner : ∀ m j : Nat, j + m = A.length → ∃ x : Int, zgo zm_X12_isTrivial 43 [(0, zR 50), (1, zI (i : Int)), (2, zI (j : Int))] [] (d, G, E) (some (zI x)) (d, G, E) ∧ ((x = 1 ∧ triv (E 53) A) ∨ (x = 0 ∧ (∀ k, j ≤ k → k < A.length → (lit A i).1 = 1 → ¬ opp A i k) ∧ xo = 0)) := by
        intro m
        induction m with
        | zero =>
          intro j hj
          refine ⟨xo, fun kz Q hQ => X12_isTrivial_43 hM ⟨fun _ => ⟨zin_of (by omega) (by omega), go kz Q hQ⟩, fun c => absurd (by rw [hA.1]; omega) c⟩, ?_⟩
          rcases hxo with ⟨a, b⟩ | ⟨a, b⟩
          · exact Or.inl ⟨a, b⟩
          · exact Or.inr ⟨a, fun k k1 k2 => by omega, a⟩
        | succ m ih2 =>
          intro j hj
          obtain ⟨y, go2, hy⟩ := ih2 (j + 1) (by omega)
          have ej : ((j + 1 : Nat) : Int) = (j : Int) + 1 := by omega
          rw [ej] at go2
          have hjl : j < A.length := by omega
          obtain ⟨sj, dj, dj2, j30, kj⟩ := hA.2.2 j hjl
          have en : ¬ ((lit A i).1 = 1 ∧ opp A i j) → ((y = 1 ∧ triv (E 53) A) ∨ (y = 0 ∧ (∀ k, j ≤ k → k < A.length → (lit A i).1 = 1 → ¬ opp A i k) ∧ xo = 0)) := by
            intro nn
            rcases hy with ⟨a, b⟩ | ⟨a, b, c⟩
            · exact Or.inl ⟨a, b⟩
            · refine Or.inr ⟨a, fun k k1 k2 k3 => ?_, c⟩
              rcases (by omega : k = j ∨ j + 1 ≤ k) with e | e
              · subst e; exact fun q => nn ⟨k3, q⟩
              · exact b k e k2 k3
          rcases di2 with i0 | i1
          · exact ⟨y, fun kz Q hQ => X12_isTrivial_43 hM ⟨fun c => absurd c (by rw [hA.1]; omega), fun _ => ⟨⟨by omega, by omega⟩, fun _ => ⟨zin_of (by omega) (by omega), go2 kz Q hQ⟩, fun c => absurd (by rw [di]; exact i0) c⟩⟩, en (fun q => by omega)⟩
          rcases dj2 with j0 | j1
          · obtain ⟨z, mz, hz⟩ := areAlike_ok (E := E) hM (show i < 6 by omega) (show j < 6 by omega) (hA.2.2 i hil) (hA.2.2 j hjl)
            rcases hz with ⟨z1, z2⟩ | ⟨z1, z2⟩
            · subst z1
              refine ⟨1, fun kz Q hQ => X12_isTrivial_43 hM ⟨fun c => absurd c (by rw [hA.1]; omega), fun _ => ⟨⟨by omega, by omega⟩, fun c => absurd c (by omega), fun _ => ⟨⟨by omega, by omega⟩, fun c => absurd (by omega) c, fun _ => ⟨_, mz, fun c => absurd c (by omega), fun _ => hQ⟩⟩⟩⟩, Or.inl ⟨rfl, ?_⟩⟩
              rcases (by omega : j < i ∨ i < j ∨ i = j) with e | e | e
              · exact ⟨i, hil, Or.inr ⟨j, e, by omega, z2⟩⟩
              · exact ⟨j, hjl, Or.inr ⟨i, e, by omega, z2.symm⟩⟩
              · subst e; omega
            · subst z1
              exact ⟨y, fun kz Q hQ => X12_isTrivial_43 hM ⟨fun c => absurd c (by rw [hA.1]; omega), fun _ => ⟨⟨by omega, by omega⟩, fun c => absurd c (by omega), fun _ => ⟨⟨by omega, by omega⟩, fun c => absurd (by omega) c, fun _ => ⟨_, mz, fun _ => ⟨zin_of (by omega) (by omega), go2 kz Q hQ⟩, fun c => absurd rfl c⟩⟩⟩⟩, en (fun q => z2 q.2.2)⟩
          · exact ⟨y, fun kz Q hQ => X12_isTrivial_43 hM ⟨fun c => absurd c (by rw [hA.1]; omega), fun _ => ⟨⟨by omega, by omega⟩, fun c => absurd c (by omega), fun _ => ⟨⟨by omega, by omega⟩, fun _ => ⟨zin_of (by omega) (by omega), go2 kz Q hQ⟩, fun c => absurd (by omega) c⟩⟩⟩, en (fun q => q.2.1 (by omega))⟩
      obtain ⟨x, go3, hx⟩ := inner A.length 0 (by omega)
      have en : (¬ bad (E 53) A i) → ((x = 1 ∧ triv (E 53) A) ∨ (x = 0 ∧ ∀ k, i ≤ k → k < A.length → ¬ (bad (E 53) A k ∨ (lit A k).1 = 1 ∧ ∃ j, j < A.length ∧ opp A k j))) := by
        intro nb
        rcases hx with ⟨a, b⟩ | ⟨a, b, c⟩
        · exact Or.inl ⟨a, b⟩
        · refine Or.inr ⟨a, fun k k1 k2 => ?_⟩
          rcases hxo with ⟨e, _⟩ | ⟨_, e⟩
          · omega
          · rcases (by omega : k = i ∨ i + 1 ≤ k) with f | f
            · subst f
              rintro (g | ⟨g, j, j1, j2⟩)
              · exact nb g
              · exact b j (Nat.zero_le _) j1 g j2
            · exact e k f k2
      have f0 : E 72 (30 * (i : Int)) = fw (lit A i).2 0 := by
        have := ki 0 (wok1_pos (hw i hil))
        simpa using this
      rcases di2 with i0 | i1
      · by_cases hq : fw (lit A i).2 0 = 0
        · obtain ⟨z, mz, hz⟩ := hasLikeSidesM_ok (E := E) hM (show i < 6 by omega) (hA.2.2 i hil) hP h2 (hw i hil) hq
          rcases hz with ⟨z1, z2⟩ | ⟨z1, z2⟩
          · subst z1
            exact ⟨1, fun kz Q hQ => X12_isTrivial_2 hM ⟨fun c => absurd c (by rw [hA.1]; omega), fun _ => ⟨⟨by omega, by omega⟩, fun c => absurd (by omega) c, fun _ => ⟨zin_of (by omega) (by omega), ⟨by omega, by omega⟩, fun c => absurd (by omega) c, fun _ => ⟨_, mz, fun c => absurd c (by omega), fun _ => hQ⟩⟩⟩⟩, Or.inl ⟨rfl, i, hil, Or.inl ⟨i0, hq, z2⟩⟩⟩
          · subst z1
            exact ⟨x, fun kz Q hQ => X12_isTrivial_2 hM ⟨fun c => absurd c (by rw [hA.1]; omega), fun _ => ⟨⟨by omega, by omega⟩, fun c => absurd (by omega) c, fun _ => ⟨zin_of (by omega) (by omega), ⟨by omega, by omega⟩, fun c => absurd (by omega) c, fun _ => ⟨_, mz, fun _ => go3 kz Q hQ, fun c => absurd rfl c⟩⟩⟩⟩, en (fun b => z2 b.2.2)⟩
        · exact ⟨x, fun kz Q hQ => X12_isTrivial_2 hM ⟨fun c => absurd c (by rw [hA.1]; omega), fun _ => ⟨⟨by omega, by omega⟩, fun c => absurd (by omega) c, fun _ => ⟨zin_of (by omega) (by omega), ⟨by omega, by omega⟩, fun _ => go3 kz Q hQ, fun c => absurd (by omega) c⟩⟩⟩, en (fun b => hq b.2.1)⟩
      · exact ⟨x, fun kz Q hQ => X12_isTrivial_2 hM ⟨fun c => absurd c (by rw [hA.1]; omega), fun _ => ⟨⟨by omega, by omega⟩, fun _ => go3 kz Q hQ, fun c => absurd (by omega) c⟩⟩, en (fun b => by have := b.1; omega)⟩
  obtain ⟨x, go, hx⟩ := core A.length 0 (by omega)
  refine ⟨x, zM_go rfl (Nat.le_of_ble_eq_true rfl) (fun kz Q hQ => X12_isTrivial_0 hM (go kz Q hQ)), ?_⟩
  rcases hx with ⟨a, b⟩ | ⟨a, b⟩
  · exact Or.inl ⟨a, b⟩
  · refine Or.inr ⟨a, fun ⟨k, k2, k3⟩ => ?_⟩
    rcases k3 with k3 | ⟨j, j1, j2⟩
    · exact b k (Nat.zero_le _) k2 (Or.inl k3)
    · have a1 := (hA.2.2 k k2).2.2.1
      have a2 := (hA.2.2 j (by omega)).2.2.1
      have a3 := j2.1
      rcases a1 with a1 | a1
      · exact b j (Nat.zero_le _) (by omega) (Or.inr ⟨by omega, k, k2, by omega, j2.2.symm⟩)
      · exact b k (Nat.zero_le _) k2 (Or.inr ⟨a1, j, by omega, j2⟩)
end PP2
