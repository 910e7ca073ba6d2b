/-! ===== the class's order: likeParts, compare ===== -/
section PI
variable {d : List Nat} {G : Nat → Int → Option Nat} {E : Nat → Int → Int}
theorem lk_sym {f g : Int → Int} {x y : Int} {n : Nat} (h : lk f x g y n) : lk g y f x n := fun k hk => (h k hk).symm
/-- likeness of terms, seen from the other side -/
theorem lk_flip {P f g : Int → Int} {x y : Int} {mx my : Nat} (tx : tm P f x mx) (ty : tm P g y my) : lk f x g y mx ↔ lk g y f x my := by
  constructor
  · intro h
    have e := tm_uniq (tm_congr tx h) ty
    rw [← e]
    exact lk_sym h
  · intro h
    have e := tm_uniq (tm_congr ty h) tx
    rw [← e]
    exact lk_sym h
theorem fdc_flip {P f g : Int → Int} (hP : pok P) : ∀ (p : Nat) (x y : Int) (nx ny : Nat), ts P f x p nx → ts P g y p ny → fdc P g f p y x = (fdc P f g p x y).map (fun q => (q.2, q.1))
  | 0, _, _, _, _, _, _ => rfl
  | p + 1, x, y, nx, ny, hx, hy => by
    obtain ⟨mx, c1, c2, tx, sx⟩ := ts_succ hP hx
    obtain ⟨my, e1, e2, ty, sy⟩ := ts_succ hP hy
    have htx := tl_eq tx
    have hty := tl_eq ty
    by_cases h : lk f x g y mx
    · rw [fdc_yes (f := f) (g := g) (by rw [htx]; exact h), fdc_yes (f := g) (g := f) (by rw [hty]; exact (lk_flip tx ty).mp h), htx, hty]
      exact fdc_flip hP p _ _ _ _ sx sy
    · rw [fdc_no (f := f) (g := g) (by rw [htx]; exact h), fdc_no (f := g) (g := f) (by rw [hty]; exact fun q => h ((lk_flip tx ty).mpr q))]
      rfl
/-- where no part is unlike, the rows of parts are alike -/
theorem fdc_none {P f g : Int → Int} (hP : pok P) : ∀ (p : Nat) (x y : Int) (nx ny : Nat), ts P f x p nx → ts P g y p ny → fdc P f g p x y = none → lk f x g y nx
  | 0, x, y, nx, ny, hx, hy, _ => by
    rw [ts_0 hx]
    exact fun k hk => by omega
  | p + 1, x, y, nx, ny, hx, hy, h => by
    obtain ⟨mx, c1, c2, tx, sx⟩ := ts_succ hP hx
    obtain ⟨my, e1, e2, ty, sy⟩ := ts_succ hP hy
    have htx := tl_eq tx
    have hty := tl_eq ty
    by_cases hl : lk f x g y mx
    · rw [fdc_yes (by rw [htx]; exact hl), htx, hty] at h
      have e := tm_uniq (tm_congr tx hl) ty
      have ih := fdc_none hP p _ _ _ _ sx sy h
      intro k hk
      by_cases hkm : k < mx
      · exact hl k hkm
      · have := ih (k - mx) (by omega)
        rw [show x + (mx : Int) + ((k - mx : Nat) : Int) = x + k by omega, show y + (my : Int) + ((k - mx : Nat) : Int) = y + k by omega] at this
        exact this
    · rw [fdc_no (by rw [htx]; exact hl)] at h
      cases h
/-- how far behind the sign the first unlike parts begin -/
theorem likeParts_ok {a b n m : Nat} {i j : Int} {t u : Nat} (hX : zK zXt d G) (ha : a ∈ d) (hk : zkd a = (0, n)) (hb : b ∈ d) (hkb : zkd b = (0, m)) (hP : pok (E 3)) (ht : tm (E 3) (E a) i t) (hu : tm (E 3) (E b) j u) (h0 : 0 ≤ i) (hn : i + t ≤ n) (hn2 : n ≤ 100000) (h1 : 0 ≤ j) (hm : j + u ≤ m) (hm2 : m ≤ 100000) (hp0 : 0 ≤ E a i) (hpe : E a i = E b j) {q : Int × Int} (hq : fdc (E 3) (E a) (E b) (E 3 (E a i)).toNat (i + 1) (j + 1) = some q) :
    ∃ o : Int, zM zm_X6_likeParts [zR 18, zR a, zI i, zR b, zI j] (d, G, E) (some (zI o)) (d, G, E) ∧ q = (i + o, j + o) ∧ ∃ mx my : Nat, tm (E 3) (E a) (i + o) mx ∧ tm (E 3) (E b) (j + o) my ∧ 1 ≤ o ∧ o + mx ≤ t ∧ o + my ≤ u ∧ ¬ lk (E a) (i + o) (E b) (j + o) mx := by
  have hn0 := nd_ge ht
  have ei : i + ((0 : Nat) : Int) = i := by omega
  have fi := (ht.2 0 hn0).2
  rw [ei] at fi
  have hp := hP (E a i) hp0 fi
  have loop : ∀ (p k : Nat) (o v5 v7 : Int) (nx ny : Nat), v5 = E 3 (E a i) → v7 = k → (k : Int) + p = v5 → ts (E 3) (E a) (i + o) p nx → ts (E 3) (E b) (j + o) p ny → 1 ≤ o → o + nx ≤ t → o + ny ≤ u → fdc (E 3) (E a) (E b) p (i + o) (j + o) = some q →
      ∃ o' : Int, zgo zm_X6_likeParts 18 [(0, zR 18), (1, zR a), (2, zI i), (3, zR b), (4, zI j), (5, zI v5), (6, zI o), (7, zI v7)] [] (d, G, E) (some (zI o')) (d, G, E) ∧ q = (i + o', j + o') ∧ ∃ mx my : Nat, tm (E 3) (E a) (i + o') mx ∧ tm (E 3) (E b) (j + o') my ∧ 1 ≤ o' ∧ o' + mx ≤ t ∧ o' + my ≤ u ∧ ¬ lk (E a) (i + o') (E b) (j + o') mx := by
    intro p
    induction p with
    | zero =>
      intro k o v5 v7 nx ny e5 e7 ek sx sy b1 b2 b3 hq
      simp [fdc] at hq
    | succ p ih =>
      intro k o v5 v7 nx ny e5 e7 ek sx sy b1 b2 b3 hq
      obtain ⟨mx, c1, c2, tx, sx'⟩ := ts_succ hP sx
      obtain ⟨my, e1, e2, ty, sy'⟩ := ts_succ hP sy
      have htx := tl_eq tx
      have hty := tl_eq ty
      have m1 := after_ok (E := E) (t := mx) hX ha hk hP tx (by omega) (by omega) hn2
      have m2 := after_ok (E := E) (t := my) hX hb hkb hP ty (by omega) (by omega) hm2
      have el : i + o + (mx : Int) - i - o = mx := by omega
      by_cases hl : lk (E a) (i + o) (E b) (j + o) mx
      · have exy := tm_uniq (tm_congr tx hl) ty
        rw [fdc_yes (by rw [htx]; exact hl), htx, hty] at hq
        obtain ⟨r, m3, hr⟩ := alike_ok (E := E) (t := mx) hX ha hk hb hkb (i := i + o) (j := j + o) (by omega) (by omega) hn2 (by omega) (by omega) hm2
        have hr1 : r = 1 := by rcases hr with z | z; exact z.1; exact absurd hl z.2
        have eo : i + o + (mx : Int) = i + (o + mx) := by omega
        have eo2 : j + o + (my : Int) = j + (o + mx) := by omega
        rw [eo, eo2] at hq
        rw [eo] at sx'
        rw [eo2] at sy'
        obtain ⟨o', g1, g2⟩ := ih (k + 1) (o + mx) v5 (v7 + 1) (nx - mx) (ny - my) e5 (by omega) (by omega) sx' sy' (by omega) (by omega) (by omega) hq
        refine ⟨o', fun kz Q hQ => ?_, g2⟩
        have h := g1 kz Q hQ
        refine X6_likeParts_18 hX ha hk hb hkb ⟨fun c => by omega, fun _ => ⟨zin_of (by omega) (by omega), _, m1, zin_of (by omega) (by omega), _, m2, zin_of (by omega) (by omega), zin_of (by omega) (by omega), zin_of (by omega) (by omega), zin_of (by omega) (by omega), fun c => absurd (by omega) c, fun _ => ⟨zin_of (by omega) (by omega), zin_of (by omega) (by omega), r, by rw [el]; exact m3, fun _ => ⟨zin_of (by omega) (by omega), zin_of (by omega) (by omega), ?_⟩, fun c => absurd (by omega) c⟩⟩⟩
        rw [el]
        exact h
      · rw [fdc_no (by rw [htx]; exact hl)] at hq
        refine ⟨o, fun kz Q hQ => ?_, (Option.some.inj hq).symm, mx, my, tx, ty, b1, by omega, by omega, hl⟩
        by_cases hxy : mx = my
        · obtain ⟨r, m3, hr⟩ := alike_ok (E := E) (t := mx) hX ha hk hb hkb (i := i + o) (j := j + o) (by omega) (by omega) hn2 (by omega) (by omega) hm2
          have hr1 : r = 0 := by rcases hr with z | z; exact absurd z.2 hl; exact z.1
          exact X6_likeParts_18 hX ha hk hb hkb ⟨fun c => by omega, fun _ => ⟨zin_of (by omega) (by omega), _, m1, zin_of (by omega) (by omega), _, m2, zin_of (by omega) (by omega), zin_of (by omega) (by omega), zin_of (by omega) (by omega), zin_of (by omega) (by omega), fun c => absurd (by omega) c, fun _ => ⟨zin_of (by omega) (by omega), zin_of (by omega) (by omega), r, by rw [el]; exact m3, fun c => absurd hr1 c, fun _ => hQ⟩⟩⟩
        · exact X6_likeParts_18 hX ha hk hb hkb ⟨fun c => by omega, fun _ => ⟨zin_of (by omega) (by omega), _, m1, zin_of (by omega) (by omega), _, m2, zin_of (by omega) (by omega), zin_of (by omega) (by omega), zin_of (by omega) (by omega), zin_of (by omega) (by omega), fun _ => hQ, fun c => absurd (by omega) c⟩⟩
  have sx := tm_parts hP ht hp0
  have sy := tm_parts hP hu (by omega)
  rw [← hpe] at sy
  have mp := partsOf_ok (E := E) hX (E a i) fi
  rw [if_neg (by omega)] at mp
  obtain ⟨o', g1, g2⟩ := loop (E 3 (E a i)).toNat 0 1 (E 3 (E a i)) 0 (t - 1) (u - 1) rfl rfl (by omega) sx sy (by omega) (by omega) (by have := nd_ge hu; omega) hq
  exact ⟨o', zM_go rfl (Nat.le_of_ble_eq_true rfl) (fun kz Q hQ => X6_likeParts_0 hX ha hk hb hkb ⟨⟨by omega, by omega⟩, _, mp, g1 kz Q hQ⟩), g2⟩
end PI
