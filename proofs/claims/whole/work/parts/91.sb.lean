/-! ===== steps by their numbers; what they make is in order ===== -/
/-- a step by its numbers, from claims below -/
def nme (B : Int) (v : Int) : Prop := 0 ≤ v ∧ v < B
def stR (P W : Int → Int) (R : Nat → List zLt) (B : Int) (nm : List Int) (r : Option (Option (List zLt))) : Prop :=
  (nm.getD 0 0 = 1 ∧ ((¬ (nme B (nm.getD 1 0) ∧ nme B (nm.getD 3 0)) ∧ r = none) ∨ ((nme B (nm.getD 1 0) ∧ nme B (nm.getD 3 0)) ∧ csR P W (R (nm.getD 1 0).toNat) (nm.getD 2 0) (R (nm.getD 3 0).toNat) r))) ∨
  (nm.getD 0 0 = 2 ∧ ((¬ nme B (nm.getD 1 0) ∧ r = none) ∨ (nme B (nm.getD 1 0) ∧ faR P W (R (nm.getD 1 0).toNat) (nm.getD 2 0) (nm.getD 3 0) r))) ∨
  (nm.getD 0 0 = 3 ∧ ((¬ nme B (nm.getD 1 0) ∧ r = none) ∨ (nme B (nm.getD 1 0) ∧ drR P W (R (nm.getD 1 0).toNat) r))) ∨
  (nm.getD 0 0 = 4 ∧ ((¬ (nme B (nm.getD 1 0) ∧ nme B (nm.getD 4 0)) ∧ r = none) ∨ ((nme B (nm.getD 1 0) ∧ nme B (nm.getD 4 0)) ∧ tuRl P W (R (nm.getD 1 0).toNat) (nm.getD 2 0) (nm.getD 3 0) (R (nm.getD 4 0).toNat) (nm.getD 5 0) (nm.getD 6 0) r))) ∨
  (¬ (1 ≤ nm.getD 0 0 ∧ nm.getD 0 0 ≤ 4) ∧ r = none)
theorem stR_det {P W : Int → Int} {R : Nat → List zLt} {B : Int} {nm : List Int} {r r' : Option (Option (List zLt))} (h : stR P W R B nm r) (h' : stR P W R B nm r') : r = r' := by
  rcases h with ⟨a, h⟩ | ⟨a, h⟩ | ⟨a, h⟩ | ⟨a, h⟩ | ⟨a, h⟩ <;> rcases h' with ⟨c, h'⟩ | ⟨c, h'⟩ | ⟨c, h'⟩ | ⟨c, h'⟩ | ⟨c, h'⟩ <;> try omega
  · rcases h with ⟨x, y⟩ | ⟨x, y⟩ <;> rcases h' with ⟨z, w⟩ | ⟨z, w⟩
    · rw [y, w]
    · exact absurd z x
    · exact absurd x z
    · exact csR_det y w
  · rcases h with ⟨x, y⟩ | ⟨x, y⟩ <;> rcases h' with ⟨z, w⟩ | ⟨z, w⟩
    · rw [y, w]
    · exact absurd z x
    · exact absurd x z
    · exact faR_det y w
  · rcases h with ⟨x, y⟩ | ⟨x, y⟩ <;> rcases h' with ⟨z, w⟩ | ⟨z, w⟩
    · rw [y, w]
    · exact absurd z x
    · exact absurd x z
    · exact drR_det y w
  · rcases h with ⟨x, y⟩ | ⟨x, y⟩ <;> rcases h' with ⟨z, w⟩ | ⟨z, w⟩
    · rw [y, w]
    · exact absurd z x
    · exact absurd x z
    · exact tuRl_det y w
  · rw [h, h']
section SB0
variable {P W : Int → Int}
/-- bindings out of words in order -/
theorem un_good (hP : pok P) {u v : List Int} {b : zBd} (hu : tw P u) (hv : tw P v) (lu : lo40 u) (lv : lo40 v) (wu : ∀ x, x ∈ u → 0 ≤ x → 1 ≤ W x) (wv : ∀ x, x ∈ v → 0 ≤ x → 1 ≤ W x) (h : UN P [] u v (some b)) : ∃ rk, bw P b rk ∧ ∀ L w, lkp b L = some w → ∀ x, x ∈ w → 0 ≤ x → 1 ≤ W x := by
  obtain ⟨rk, hb⟩ := UN_bw hP hu hv lu lv h
  obtain ⟨k, hk⟩ := h
  exact ⟨rk, hb, un_mem (S := fun x => 0 ≤ x → 1 ≤ W x) k [] u v b hk (fun L u e => by simp [lkp] at e) wu wv⟩
theorem w_shf {w : List Int} (h : ∀ x, x ∈ w → 0 ≤ x → 1 ≤ W x) : ∀ x, x ∈ w.map shf → 0 ≤ x → 1 ≤ W x := fun x hx x0 => by
  obtain ⟨y, y1, y2⟩ := List.mem_map.1 hx
  unfold shf at y2
  by_cases c : y < 0
  · rw [if_pos c] at y2; omega
  · rw [if_neg c] at y2
    rw [← y2] at x0 ⊢
    exact h y y1 x0
theorem fw_shf0 {w : List Int} (hw : w ≠ []) (h0 : 0 ≤ fw w 0) : 0 ≤ fw (w.map shf) 0 := by
  obtain ⟨c, y, rfl⟩ := List.exists_cons_of_ne_nil hw
  rw [fw_c0] at h0
  rw [List.map_cons, fw_c0]
  unfold shf
  rw [if_neg (by omega)]; exact h0
/-- literals of a claim, under a standing -/
theorem frm_gok (hP : pok P) {b : zBd} {rk : Int → Nat} (hb : bw P b rk) (hS : ∀ L u, lkp b L = some u → ∀ x, x ∈ u → 0 ≤ x → 1 ≤ W x) {A : List zLt} (hA : rok P W A) (first : Bool) {but : Int} : ∀ y, y ∈ frm A but (fun w => sb (th b) (if first then w else w.map shf)) A.length 0 → wok1 P y.2 ∧ ∀ x, x ∈ y.2 → 0 ≤ x → 1 ≤ W x := fun y hy => by
  obtain ⟨k, k1, k2⟩ := frm_mem (by omega) hy
  rw [k2]
  have w1 := hA.1 k k1
  have w2 := hA.2.1 k k1
  have w3 := hA.2.2 k k1
  cases first
  · exact sb_wok hP hb hS (tw_shf w1.1) (fw_shf0 (tw_ne w1.1) w1.2.1) (lo_shf w2) (w_shf w3)
  · exact sb_wok hP hb hS w1.1 w1.2.1 (lo_20 w2) w3
theorem gok_of {A : List zLt} (h : ∀ y, y ∈ A → wok1 P y.2 ∧ ∀ x, x ∈ y.2 → 0 ≤ x → 1 ≤ W x) : gok P W A := ⟨aok_iff.2 (fun y hy => (h y hy).1), fun x ⟨y, y1, y2⟩ => (h y y1).2 x y2⟩
theorem frt_mem {B : List zLt} {h : List Int → List Int} {j : Int} {x : List Int} {y : zLt} : ∀ {m l : Nat}, l + m = B.length → y ∈ frt B h j x m l → ∃ k, k < B.length ∧ ((k : Int) = j ∧ y = ((lit B k).1, x) ∨ y = ((lit B k).1, h (lit B k).2))
  | 0, l, _, hy => by simp [frt] at hy
  | m + 1, l, hl, hy => by
    simp only [frt] at hy
    rcases List.mem_cons.1 hy with e | e
    · refine ⟨l, by omega, ?_⟩
      by_cases c : (l : Int) = j
      · rw [if_pos c] at e; exact Or.inl ⟨c, e⟩
      · rw [if_neg c] at e; exact Or.inr e
    · exact frt_mem (by omega) e
/-- words of sides and terms are in order -/
theorem tat_good (hP : pok P) {w : List Int} {p : Nat} (hw : tw P w) (hp : p < w.length) (lo : ∀ v, v ∈ w → -20 ≤ v) (hW : ∀ x, x ∈ w → 0 ≤ x → 1 ≤ W x) : tw P (tat P w p) ∧ (∀ v, v ∈ tat P w p → -20 ≤ v) ∧ (∀ x, x ∈ tat P w p → 0 ≤ x → 1 ≤ W x) := by
  obtain ⟨m, _, _, _, _, _, m5, _⟩ := tat_ok hP hw hp
  exact ⟨m5, fun v hv => lo v (tat_mem hv), fun x hx => hW x (tat_mem hx)⟩
theorem sides_good (hP : pok P) (h2 : P 0 = 2) {A : List zLt} (hA : rok P W A) {l : Nat} (hl : l < A.length) (h0 : fw (lit A l).2 0 = 0) : (tw P (lsd P A l) ∧ (∀ v, v ∈ lsd P A l → -20 ≤ v) ∧ (∀ x, x ∈ lsd P A l → 0 ≤ x → 1 ≤ W x)) ∧ (tw P (rsd P A l) ∧ (∀ v, v ∈ rsd P A l → -20 ≤ v) ∧ (∀ x, x ∈ rsd P A l → 0 ≤ x → 1 ≤ W x)) := by
  obtain ⟨t, u, s1, s2, s3, s4, s5, s6, s7, s8, s9⟩ := sd_parts hP h2 (hA.1 l hl) h0
  have w2 := hA.2.1 l hl
  have w3 := hA.2.2 l hl
  have m1 : ∀ v, v ∈ lsd P A l → v ∈ (lit A l).2 := fun v hv => by rw [s9]; exact List.mem_append_right _ (List.mem_append_left _ hv)
  have m2 : ∀ v, v ∈ rsd P A l → v ∈ (lit A l).2 := fun v hv => by rw [s9]; exact List.mem_append_right _ (List.mem_append_right _ hv)
  exact ⟨⟨s7, fun v hv => w2 v (m1 v hv), fun v hv => w3 v (m1 v hv)⟩, s8, fun v hv => w2 v (m2 v hv), fun v hv => w3 v (m2 v hv)⟩
theorem csR_gok (hP : pok P) (hW : wok W) {A B A' : List zLt} {i : Int} (hA : rok P W A) (hB : rok P W B) (h : csR P W A i B (some (some A'))) : gok P W A' := by
  rcases h with ⟨_, z⟩ | ⟨c, ⟨_, z⟩ | ⟨b, hun, z⟩⟩
  · simp at z
  · simp at z
  · obtain ⟨h0, h1, _⟩ := chs_nn hW hB c.2.2.2
    have wi := hA.1 i.toNat (by omega)
    have wj := hB.1 (chs W B).toNat (by omega)
    obtain ⟨rk, hb, hS⟩ := un_good (W := W) hP wi.1 (tw_shf wj.1) (lo_20 (hA.2.1 _ (by omega))) (lo_shf (hB.2.1 _ (by omega))) (hA.2.2 _ (by omega)) (w_shf (hB.2.2 _ (by omega))) hun
    have e := (adds_some (Option.some.inj z).symm).1
    rw [List.nil_append] at e
    refine gok_of (fun y hy => ?_)
    rw [e] at hy
    rcases List.mem_append.1 hy with q | q
    · exact frm_gok hP hb hS hA true y q
    · exact frm_gok hP hb hS hB false y q
theorem faR_gok (hP : pok P) {A A' : List zLt} {i j : Int} (hA : rok P W A) (h : faR P W A i j (some (some A'))) : gok P W A' := by
  rcases h with ⟨_, z⟩ | ⟨c, ⟨_, z⟩ | ⟨b, hun, z⟩⟩
  · simp at z
  · simp at z
  · have wi := hA.1 i.toNat (by omega)
    have wj := hA.1 j.toNat (by omega)
    obtain ⟨rk, hb, hS⟩ := un_good (W := W) hP wi.1 wj.1 (lo_20 (hA.2.1 _ (by omega))) (lo_20 (hA.2.1 _ (by omega))) (hA.2.2 _ (by omega)) (hA.2.2 _ (by omega)) hun
    have e := (adds_some (Option.some.inj z).symm).1
    rw [List.nil_append] at e
    refine gok_of (fun y hy => ?_)
    rw [e] at hy
    exact frm_gok hP hb hS hA true y hy
theorem drR_gok (hP : pok P) (hW : wok W) (h2 : P 0 = 2) {A A' : List zLt} (hA : rok P W A) (h : drR P W A (some (some A'))) : gok P W A' := by
  rcases h with ⟨_, z⟩ | ⟨c, ⟨_, z⟩ | ⟨b, hun, z⟩⟩
  · simp at z
  · simp at z
  · obtain ⟨h0, h1, _⟩ := chs_nn hW hA c.1
    obtain ⟨⟨l1, l2, l3⟩, r1, r2, r3⟩ := sides_good hP h2 hA (l := (chs W A).toNat) (by omega) c.2
    obtain ⟨rk, hb, hS⟩ := un_good (W := W) hP l1 r1 (lo_20 l2) (lo_20 r2) l3 r3 hun
    have e := (adds_some (Option.some.inj z).symm).1
    rw [List.nil_append] at e
    refine gok_of (fun y hy => ?_)
    rw [e] at hy
    exact frm_gok hP hb hS hA true y hy
theorem tuRl_gok (hP : pok P) (h2 : P 0 = 2) {A B A' : List zLt} {i s j p : Int} (hA : rok P W A) (hB : rok P W B) (h : tuRl P W A i s B j p (some (some A'))) : gok P W A' := by
  rcases h with ⟨_, z⟩ | ⟨c, ⟨_, z⟩ | ⟨b, hun, ⟨_, _, z⟩ | ⟨_, z⟩ | ⟨_, _, z⟩⟩⟩
  · simp at z
  · simp at z
  · simp at z
  · simp at z
  · obtain ⟨c1, c2, c3, c4, c5, c6, c7, c8⟩ := c
    obtain ⟨⟨l1, l2, l3⟩, r1, r2, r3⟩ := sides_good hP h2 hA (l := i.toNat) (by omega) c3
    have wj := hB.1 j.toNat (by omega)
    have oj := hB.2.1 j.toNat (by omega)
    have ww := hB.2.2 j.toNat (by omega)
    obtain ⟨t1, t2, t3⟩ := tat_good (W := W) (p := p.toNat) hP wj.1 (by omega) oj ww
    have sd : (tw P (tuL P A i s) ∧ (∀ v, v ∈ tuL P A i s → -20 ≤ v) ∧ ∀ x, x ∈ tuL P A i s → 0 ≤ x → 1 ≤ W x) ∧ tw P (tuR P A i s) ∧ (∀ v, v ∈ tuR P A i s → -20 ≤ v) ∧ ∀ x, x ∈ tuR P A i s → 0 ≤ x → 1 ≤ W x := by
      unfold tuL tuR
      rcases c4 with e | e <;> subst e
      · rw [if_pos rfl, if_pos rfl]; exact ⟨⟨l1, l2, l3⟩, r1, r2, r3⟩
      · rw [if_neg (by decide), if_neg (by decide)]; exact ⟨⟨r1, r2, r3⟩, l1, l2, l3⟩
    obtain ⟨⟨a1, a2, a3⟩, b1, b2, b3⟩ := sd
    obtain ⟨rk, hb, hS⟩ := un_good (W := W) hP a1 (tw_shf t1) (lo_20 a2) (lo_shf t2) a3 (w_shf t3) hun
    have e := (adds_some (Option.some.inj z).symm).1
    rw [List.nil_append] at e
    refine gok_of (fun y hy => ?_)
    rw [e] at hy
    rcases List.mem_append.1 hy with q | q
    · exact frm_gok hP hb hS hA true y q
    · obtain ⟨k, k1, k2⟩ := frt_mem (by omega) q
      rcases k2 with ⟨kj, k2⟩ | k2
      · -- the turned one
        obtain ⟨q1, q2, q3, q4⟩ := tu_split (P := P) (B := B) (j := j) (p := p) hP wj.1 c7.1 c7.2
        have ex : tuX P b B j p (tuR P A i s) = sb (th b) (((lit B j.toNat).2.take p.toNat).map shf ++ (tuR P A i s ++ ((lit B j.toNat).2.drop (p.toNat + (tat P (lit B j.toNat).2 p.toNat).length)).map shf)) := by
          unfold tuX; rw [sb_app, sb_app]
        have tws' : tw P ((lit B j.toNat).2.map shf) := tw_shf wj.1
        have hpl : p.toNat < ((lit B j.toNat).2.map shf).length := by rw [List.length_map]; omega
        have tr := tw_rpl hP tws' hpl b1
        obtain ⟨m, m0, m1, m2, m3, m4, m5, m6⟩ := tat_ok (p := p.toNat) hP tws' hpl
        obtain ⟨m', m0', m1', m2', m3', m4', m5', m6'⟩ := tat_ok (p := p.toNat) hP wj.1 (by omega)
        have emm : m = m' := by
          have d1 : tm P (fw ((lit B j.toNat).2.map shf)) p.toNat m' := by
            have := tw_shf m5'
            have e2 : lk (fw ((lit B j.toNat).2.map shf)) p.toNat (fw ((tat P (lit B j.toNat).2 p.toNat).map shf)) 0 m' := fun n hn => by
              have z1 := m6' n hn
              have e3 : (p.toNat : Int) + (n : Int) = ((p.toNat + n : Nat) : Int) := by omega
              rw [e3] at z1 ⊢
              rw [fw_nat, fw_0, getD_shf (by omega), getD_shf (by omega)]
              rw [fw_nat, fw_0] at z1
              rw [z1]
            unfold tw at this
            rw [List.length_map, m4'] at this
            exact tm_congr this (fun n hn => (e2 n hn).symm)
          exact tm_uniq m3 d1
        have er : rpl ((lit B j.toNat).2.map shf) p.toNat (tl P (fw ((lit B j.toNat).2.map shf)) p.toNat) (tuR P A i s) = ((lit B j.toNat).2.take p.toNat).map shf ++ (tuR P A i s ++ ((lit B j.toNat).2.drop (p.toNat + (tat P (lit B j.toNat).2 p.toNat).length)).map shf) := by
          unfold rpl
          rw [m1, emm, m4', List.map_take, List.map_drop]
        rw [er] at tr
        rw [k2, ex]
        have hv1 : (((lit B j.toNat).2.take p.toNat).map shf) ≠ [] := fun z => by rw [z] at q3; simp at q3; omega
        refine sb_wok hP hb hS tr ?_ ?_ ?_
        · rw [fw_app0 hv1]
          have := fw_shf0 (tw_ne wj.1) wj.2.1
          rw [q1, fw_app0 hv1] at this
          exact this
        · refine lo40_app.2 ⟨?_, lo40_app.2 ⟨lo_20 b2, ?_⟩⟩
          · exact lo_shf (fun v hv => oj v (List.mem_of_mem_take hv))
          · exact lo_shf (fun v hv => oj v (List.mem_of_mem_drop hv))
        · intro x hx x0
          rcases List.mem_append.1 hx with g | g
          · exact w_shf (fun v hv => ww v (List.mem_of_mem_take hv)) x g x0
          · rcases List.mem_append.1 g with g | g
            · exact b3 x g x0
            · exact w_shf (fun v hv => ww v (List.mem_of_mem_drop hv)) x g x0
      · rw [k2]
        have w1 := hB.1 k k1
        exact sb_wok hP hb hS (tw_shf w1.1) (fw_shf0 (tw_ne w1.1) w1.2.1) (lo_shf (hB.2.1 k k1)) (w_shf (hB.2.2 k k1))
theorem stR_gok (hP : pok P) (hW : wok W) (h2 : P 0 = 2) {R : Nat → List zLt} {B : Int} {nm : List Int} {A' : List zLt} (hR : ∀ c : Nat, (c : Int) < B → rok P W (R c)) (h : stR P W R B nm (some (some A'))) : gok P W A' := by
  rcases h with ⟨_, h⟩ | ⟨_, h⟩ | ⟨_, h⟩ | ⟨_, h⟩ | ⟨_, h⟩
  · rcases h with ⟨_, z⟩ | ⟨⟨x, y⟩, z⟩
    · simp at z
    · exact csR_gok hP hW (hR _ (by unfold nme at x; omega)) (hR _ (by unfold nme at y; omega)) z
  · rcases h with ⟨_, z⟩ | ⟨x, z⟩
    · simp at z
    · exact faR_gok hP (hR _ (by unfold nme at x; omega)) z
  · rcases h with ⟨_, z⟩ | ⟨x, z⟩
    · simp at z
    · exact drR_gok hP hW h2 (hR _ (by unfold nme at x; omega)) z
  · rcases h with ⟨_, z⟩ | ⟨⟨x, y⟩, z⟩
    · simp at z
    · exact tuRl_gok hP h2 (hR _ (by unfold nme at x; omega)) (hR _ (by unfold nme at y; omega)) z
  · simp at h
end SB0
