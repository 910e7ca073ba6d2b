/-! ===== rewriting: rows stay in order; the class, whole ===== -/
theorem tm_glue {P f g : Int → Int} {i : Int} {n p m m' : Nat} (hf : tm P f i n) (hp : p < n) (hm : tm P f (i + p) m) (hpm : p + m ≤ n) (h1 : ∀ k : Nat, k < p → g (i + k) = f (i + k)) (hm' : tm P g (i + p) m') (h2 : ∀ k : Nat, k < n - p - m → g (i + p + m' + k) = f (i + p + m + k)) : tm P g i (p + m' + (n - p - m)) := by
  have a1 : ∀ k : Nat, k ≤ p → nd P g i k = nd P f i k := fun k hk => nd_congr k (fun x hx => h1 x (by omega))
  have g1 : ∀ j : Nat, nd P g i (p + j) = nd P f i p - 1 + nd P g (i + p) j := fun j => by
    have := nd_shift (P := P) (f := g) (i := i) (m := p) j
    rw [a1 p (Nat.le_refl _)] at this; omega
  have f1 : ∀ j : Nat, nd P f i (p + j) = nd P f i p - 1 + nd P f (i + p) j := fun j => by
    have := nd_shift (P := P) (f := f) (i := i) (m := p) j
    omega
  have g2 : nd P g i (p + m') = nd P f i p - 1 := by rw [g1, hm'.1]; omega
  have f2 : nd P f i (p + m) = nd P f i p - 1 := by rw [f1, hm.1]; omega
  have c1 : i + ((p + m' : Nat) : Int) = i + p + m' := by omega
  have c2 : i + ((p + m : Nat) : Int) = i + p + m := by omega
  have t1 : ∀ j : Nat, j ≤ n - p - m → nd P g i (p + m' + j) = nd P f i (p + m + j) := fun j hj => by
    have x := nd_shift (P := P) (f := g) (i := i) (m := p + m') j
    have y := nd_shift (P := P) (f := f) (i := i) (m := p + m) j
    rw [c1, g2] at x
    rw [c2, f2] at y
    have z : nd P g (i + p + m') j = nd P f (i + p + m) j := nd_congr j (fun k hk => h2 k (by omega))
    omega
  have hpos := (hf.2 p hp).1
  refine ⟨?_, fun k hk => ?_⟩
  · rw [t1 _ (Nat.le_refl _)]
    have e : p + m + (n - p - m) = n := by omega
    rw [e]; exact hf.1
  · rcases (by omega : k < p ∨ (p ≤ k ∧ k < p + m') ∨ p + m' ≤ k) with c | c | c
    · rw [a1 k (by omega), h1 k c]; exact hf.2 k (by omega)
    · have e : k = p + (k - p) := by omega
      have q := hm'.2 (k - p) (by omega)
      have e2 : i + (p : Int) + ((k - p : Nat) : Int) = i + k := by omega
      rw [e2] at q
      refine ⟨?_, q.2⟩
      rw [e, g1]; omega
    · have e : k = p + m' + (k - p - m') := by omega
      have q := hf.2 (p + m + (k - p - m')) (by omega)
      have z := h2 (k - p - m') (by omega)
      have e3 : i + (p : Int) + (m' : Int) + ((k - p - m' : Nat) : Int) = i + k := by omega
      have e4 : i + (p : Int) + (m : Int) + ((k - p - m' : Nat) : Int) = i + ((p + m + (k - p - m') : Nat) : Int) := by omega
      rw [e3, e4] at z
      rw [z]
      refine ⟨?_, q.2⟩
      rw [e, t1 _ (by omega)]
      exact q.1
theorem tw_rpl {P : Int → Int} (hP : pok P) {v z : List Int} {p : Nat} (hv : tw P v) (hp : p < v.length) (hz : tw P z) : tw P (rpl v p (tl P (fw v) p) z) := by
  obtain ⟨m, m0, m1, m2, m3, m4, m5, m6⟩ := tat_ok hP hv hp
  rw [m1]
  unfold tw
  rw [rpl_len (by omega)]
  have e : v.length - m + z.length = p + z.length + (v.length - p - m) := by omega
  rw [e]
  have z0 : (0 : Int) + (p : Int) = p := by omega
  refine tm_glue (f := fw v) hv hp (m := m) (by rw [z0]; exact m3) (by omega) (fun k hk => ?_) ?_ (fun k hk => ?_)
  · rw [fw_0, fw_0, rpl_l (by omega) hk]
  · refine tm_congr hz (fun k hk => ?_)
    rw [fw_0, fw_c (n := p + k) (by omega), rpl_m (by omega) hk]
  · rw [fw_c (n := p + z.length + k) (by omega), fw_c (n := p + m + k) (by omega), rpl_r (by omega)]
theorem rpl_mem {v z : List Int} {p n : Nat} {x : Int} (h : x ∈ rpl v p n z) : x ∈ v ∨ x ∈ z := by
  unfold rpl at h
  rcases List.mem_append.1 h with a | a
  · exact Or.inl (List.mem_of_mem_take a)
  · rcases List.mem_append.1 a with a | a
    · exact Or.inr a
    · exact Or.inl (List.mem_of_mem_drop a)
/-- places of a row, all together -/
def pls (A : List zLt) (x : Int) : Prop := ∃ y, y ∈ A ∧ x ∈ y.2
theorem lit_mem {A : List zLt} {l : Nat} (h : l < A.length) : lit A l ∈ A := by
  have e2 : lit A l = A[l] := by unfold lit; rw [List.getD_eq_getElem?_getD, List.getElem?_eq_getElem h]; rfl
  rw [e2]; exact List.getElem_mem h
theorem mem_lit {A : List zLt} {y : zLt} (h : y ∈ A) : ∃ l, l < A.length ∧ lit A l = y := by
  obtain ⟨l, hl, e⟩ := List.getElem_of_mem h
  exact ⟨l, hl, by unfold lit; rw [List.getD_eq_getElem?_getD, List.getElem?_eq_getElem hl, e]; rfl⟩
theorem pls_ff {A : List zLt} {i : Nat} (h : i < offs A A.length) : pls A (ff A i) := by
  obtain ⟨l, k, a, b, e⟩ := offs_find (Nat.le_refl _) h
  subst e
  refine ⟨lit A l, lit_mem a, ?_⟩
  unfold ff
  rw [flat_at a b, ← fw_nat]
  exact fw_mem b
theorem sw_mem {P W : Int → Int} {w : List Int} {x : Int} (h : x ∈ sw P W w) : x ∈ w := by
  unfold sw at h
  split at h
  · unfold swp at h
    rcases List.mem_append.1 h with a | a
    · exact List.mem_of_mem_take a
    · rcases List.mem_append.1 a with a | a
      · exact List.mem_of_mem_drop a
      · exact List.mem_of_mem_drop (List.mem_of_mem_take a)
  · exact h
theorem cl1_pls {P W : Int → Int} {x : Int} : ∀ (B acc : List zLt), pls (cl1 P W acc B) x → pls acc x ∨ pls B x
  | [], acc, h => by simp only [cl1] at h; exact Or.inl h
  | y :: B, acc, h => by
    simp only [cl1] at h
    split at h
    · rcases cl1_pls B acc h with a | ⟨z, z1, z2⟩
      · exact Or.inl a
      · exact Or.inr ⟨z, List.mem_cons_of_mem _ z1, z2⟩
    · rcases cl1_pls B _ h with ⟨z, z1, z2⟩ | ⟨z, z1, z2⟩
      · rcases List.mem_append.1 z1 with a | a
        · exact Or.inl ⟨z, a, z2⟩
        · have : z = (y.1, sw P W y.2) := by simpa using a
          rw [this] at z2
          exact Or.inr ⟨y, List.mem_cons_self, sw_mem z2⟩
      · exact Or.inr ⟨z, List.mem_cons_of_mem _ z1, z2⟩
theorem ren_pls {A : List zLt} {x : Int} (h : pls (ren A) x) : (0 ≤ x ∧ pls A x) ∨ (x < 0 ∧ -lts A ≤ x) := by
  obtain ⟨y, y1, y2⟩ := h
  obtain ⟨l, l1, l2⟩ := mem_lit y1
  rw [ren_len] at l1
  subst l2
  obtain ⟨k, k1, k2⟩ := mem_fw y2
  rw [ren_wl l1] at k1
  rw [fw_nat, ren_w l1 k1] at k2
  have lt := offs_lt l1 k1
  have e : ff A (offs A l + k) = (lit A l).2.getD k 0 := flat_at l1 k1
  by_cases c : ff A (offs A l + k) < 0
  · right
    have b := nmv_b c
    have m1 := nms_mono (ff A) (show offs A l + k + 1 ≤ offs A A.length by omega)
    rw [k2] at b
    unfold lts
    exact ⟨b.1, by omega⟩
  · left
    have : nmv (ff A) (offs A l + k) = ff A (offs A l + k) := by unfold nmv; rw [if_neg c]
    rw [this] at k2
    rw [← k2]
    exact ⟨by omega, pls_ff lt⟩
theorem rok_iff {P W : Int → Int} {A : List zLt} : rok P W A ↔ aok P A ∧ (∀ x, pls A x → -20 ≤ x) ∧ ∀ x, pls A x → 0 ≤ x → 1 ≤ W x := by
  constructor
  · rintro ⟨a, b, c⟩
    refine ⟨a, fun x hx => ?_, fun x hx => ?_⟩
    · obtain ⟨y, y1, y2⟩ := hx
      obtain ⟨l, l1, l2⟩ := mem_lit y1
      subst l2
      exact b l l1 x y2
    · obtain ⟨y, y1, y2⟩ := hx
      obtain ⟨l, l1, l2⟩ := mem_lit y1
      subst l2
      exact c l l1 x y2
  · rintro ⟨a, b, c⟩
    exact ⟨a, fun l hl x hx => b x ⟨_, lit_mem hl, hx⟩, fun l hl x hx => c x ⟨_, lit_mem hl, hx⟩⟩
theorem cln_rok {P W : Int → Int} (hP : pok P) (h2 : P 0 = 2) {A : List zLt} (ha : aok P A) (hw : ∀ x, pls A x → 0 ≤ x → 1 ≤ W x) (hl : cll P W A ≤ 20) : rok P W (cln P W A) := by
  rw [rok_iff]
  refine ⟨ren_aok (cl1_aok hP h2 A [] aok_nil ha), fun x hx => ?_, fun x hx h0 => ?_⟩
  · unfold cll at hl
    rcases ren_pls hx with c | c <;> omega
  · rcases ren_pls hx with ⟨_, c⟩ | ⟨c, _⟩
    · rcases cl1_pls A [] c with ⟨y, y1, _⟩ | c
      · exact absurd y1 (by simp)
      · exact hw x c h0
    · omega
theorem cll_le {P W : Int → Int} {A : List zLt} (h : ∀ x, pls A x → -20 ≤ x) : cll P W A ≤ 20 := by
  unfold cll
  refine lts_le (m := 20) (fun i hi => ?_)
  rcases cl1_pls A [] (pls_ff hi) with ⟨y, y1, _⟩ | c
  · exact absurd y1 (by simp)
  · have := h _ c; omega
/-- how many letters a clean row has -/
def isNl (A : List zLt) (n : Int) : Prop := (∀ x, pls A x → -n ≤ x) ∧ (n = 0 ∨ pls A (-n)) ∧ 0 ≤ n
theorem nms_ex (F : Nat → Int) : ∀ n : Nat, (nms F n).2 = 0 ∨ ∃ k, k < n ∧ F k < 0 ∧ nmv F k = -(nms F n).2
  | 0 => Or.inl rfl
  | n + 1 => by
    by_cases c : F n < 0
    · by_cases q : (nms F n).1 (-1 - F n) = -1
      · right
        have e := nms_new c q
        refine ⟨n, by omega, c, ?_⟩
        unfold nmv
        rw [if_pos c, e]
        dsimp only
        rw [if_pos rfl]
        omega
      · rw [nms_old q]
        rcases nms_ex F n with z | ⟨k, k1, k2, k3⟩
        · exact Or.inl z
        · exact Or.inr ⟨k, by omega, k2, k3⟩
    · rw [nms_no c]
      rcases nms_ex F n with z | ⟨k, k1, k2, k3⟩
      · exact Or.inl z
      · exact Or.inr ⟨k, by omega, k2, k3⟩
theorem isNl_ren {A : List zLt} : isNl (ren A) (lts A) := by
  refine ⟨fun x hx => ?_, ?_, lts_0⟩
  · have := lts_0 (A := A)
    rcases ren_pls hx with c | c <;> omega
  · rcases nms_ex (ff A) (offs A A.length) with z | ⟨k, k1, k2, k3⟩
    · exact Or.inl z
    · right
      obtain ⟨l, p, a, b, e⟩ := offs_find (Nat.le_refl _) k1
      refine ⟨lit (ren A) l, lit_mem (by rw [ren_len]; exact a), ?_⟩
      have : fw (lit (ren A) l).2 p = -lts A := by
        rw [fw_nat, ren_w a b, ← e]; exact k3
      rw [← this]
      exact fw_mem (by rw [ren_wl a]; exact b)
theorem take_drop_lit {A : List zLt} {j : Nat} (h : j < A.length) : A = A.take j ++ lit A j :: A.drop (j + 1) := by
  have e2 : lit A j = A[j] := by unfold lit; rw [List.getD_eq_getElem?_getD, List.getElem?_eq_getElem h]; rfl
  rw [e2, ← List.drop_eq_getElem_cons h, List.take_append_drop]
theorem offs_take {A : List zLt} {j : Nat} (h : j < A.length) : offs (A.take j) (A.take j).length = offs A j ∧ (A.take j).length = j := by
  have l : (A.take j).length = j := by rw [List.length_take]; omega
  refine ⟨?_, l⟩
  have : offs A j = offs (A.take j ++ lit A j :: A.drop (j + 1)) j := by rw [← take_drop_lit h]
  rw [this, l]
  have := offs_m (A := A.take j) (B := A.drop (j + 1)) (y := lit A j)
  rw [l] at this
  exact this.symm
theorem rpA_len {P : Int → Int} {A : List zLt} {j p : Nat} {z : List Int} (h : j < A.length) : (rpA P A j p z).length = A.length := by
  unfold rpA
  rw [len_m, List.length_take, List.length_drop]; omega
theorem rpA_mem {P : Int → Int} {A : List zLt} {j p : Nat} {z : List Int} {y : zLt} (h : y ∈ rpA P A j p z) : y ∈ A ∨ y = ((lit A j).1, rpl (lit A j).2 p (tl P (fw (lit A j).2) p) z) := by
  unfold rpA at h
  rcases List.mem_append.1 h with a | a
  · exact Or.inl (List.mem_of_mem_take a)
  · rcases List.mem_cons.1 a with a | a
    · exact Or.inr a
    · exact Or.inl (List.mem_of_mem_drop a)
/-- a row behind a rewriting -/
theorem rpA_ok {P W : Int → Int} (hP : pok P) (h2 : P 0 = 2) {R : Nat → List zLt} {st : Nat → Int} {K : Nat} {A : List zLt} {j p c s : Nat} {z : List Int} (hA : rok P W A) (hR : ∀ k : Nat, k < K → rok P W (R k)) (h : fp P W R st K A (pq A A.length 0) = some (j, p, c, s, z)) : aok P (rpA P A j p z) ∧ (∀ x, pls (rpA P A j p z) x → -20 ≤ x) ∧ (∀ x, pls (rpA P A j p z) x → 0 ≤ x → 1 ≤ W x) ∧ tw P z ∧ (∀ x, x ∈ z → -20 ≤ x) ∧ z.length ≤ (tl P (fw (lit A j).2) p) * (odw P (R c) s).length := by
  obtain ⟨s1, s2, s3, s4, s5, s6, s7, s8, s9⟩ := fp_spec h
  rw [rok_iff] at hA
  obtain ⟨a1, a2, a3⟩ := hA
  have rc := hR c s5
  obtain ⟨t, u, _, _, _, _, e5, e6, t1, t2, _, _, i1, i2⟩ := rule_parts hP h2 rc.1 s8
  have rc' := rok_iff.1 rc
  have l0 : 0 < (R c).length := by rw [s8.1]; omega
  have ts : tw P (sdw P (R c) s) := by unfold sdw; split; exact t1; exact t2
  have to : tw P (odw P (R c) s) := by unfold odw; split; exact t2; exact t1
  have oi : ∀ x, x ∈ odw P (R c) s → pls (R c) x := fun x hx => by
    unfold odw at hx
    split at hx
    · exact ⟨_, lit_mem l0, i2 x hx⟩
    · exact ⟨_, lit_mem l0, i1 x hx⟩
  obtain ⟨m, m0, m1, m2, m3, m4, m5, m6⟩ := tat_ok hP (v := (lit A j).2) (p := p) (a1 j s1).1 s3
  obtain ⟨z1, z2, z3⟩ := rwz_spec hP ts to m5 s9
  have zp : ∀ x, x ∈ z → (pls (R c) x ∧ 0 ≤ x) ∨ pls A x := fun x hx => by
    rcases z3 x hx with q | q
    · exact Or.inl ⟨oi x q.1, q.2⟩
    · exact Or.inr ⟨_, lit_mem s1, tat_mem q⟩
  have pl : ∀ x, pls (rpA P A j p z) x → pls A x ∨ (pls (R c) x ∧ 0 ≤ x) := fun x hx => by
    obtain ⟨y, y1, y2⟩ := hx
    rcases rpA_mem y1 with q | q
    · exact Or.inl ⟨y, q, y2⟩
    · rw [q] at y2
      rcases rpl_mem y2 with q | q
      · exact Or.inl ⟨_, lit_mem s1, q⟩
      · exact (zp x q).symm
  refine ⟨?_, fun x hx => ?_, fun x hx h0 => ?_, z1, fun x hx => ?_, by rw [m1, ← m4]; exact z2⟩
  · rw [aok_iff]
    intro y hy
    rcases rpA_mem hy with q | q
    · exact aok_iff.1 a1 y q
    · rw [q]
      have w1 := a1 j s1
      refine ⟨tw_rpl hP w1.1 s3 z1, ?_, fun k hk => ?_⟩
      · dsimp only
        rw [m1]
        have e : ∀ v : List Int, fw v 0 = v.getD 0 0 := fun v => rfl
        rw [e, rpl_l (by omega) (by omega)]
        exact w1.2.1
      · dsimp only at hk ⊢
        rcases rpl_mem (fw_mem hk) with q | q
        · have := a2 _ ⟨_, lit_mem s1, q⟩
          omega
        · rcases zp _ q with q | q
          · omega
          · have := a2 _ q; omega
  · rcases pl x hx with q | q
    · exact a2 x q
    · omega
  · rcases pl x hx with q | q
    · exact a3 x q h0
    · exact rc'.2.2 x q.1 h0
  · rcases zp x hx with q | q
    · omega
    · exact a2 x q
section QH
variable {d : List Nat} {G : Nat → Int → Option Nat} {E : Nat → Int → Int}
theorem replaceR_ok {B : List zLt} {j p : Nat} {z : List Int} (hX : zK zXt d G) (hP : pok (E 3)) (hB : rowC E 10 B) (aB : aok (E 3) B) (hj : j < B.length) (hp : p < (lit B j).2.length) (hz : E 20 14 = z.length) (hz9 : z.length ≤ 900) (hzv : ∀ k : Nat, k < z.length → E 29 k = z.getD k 0) :
    ∃ (x : Int) (E' : Nat → Int → Int), zM zm_X4_replace [zR 36, zR 10, zI (j : Int), zI ((offs B j : Int) + p)] (d, G, E) (some (zI x)) (d, G, E') ∧ fz [11, 12] E E' ∧ (x = 1 ∧ (lit B j).2.length - tl (E 3) (fw (lit B j).2) p + z.length ≤ 30 ∧ rowC E' 10 (rpA (E 3) B j p z) ∨ x = 0 ∧ ¬ (lit B j).2.length - tl (E 3) (fw (lit B j).2) p + z.length ≤ 30 ∧ E' = E) := by
  obtain ⟨m, m0, m1, m2, m3, m4, m5, m6⟩ := tat_ok hP (v := (lit B j).2) (p := p) (aB j hj).1 hp
  have hr10 := zXr10 hX
  obtain ⟨ot, lt⟩ := offs_take hj
  have tot : offs B j + (lit B j).2.length ≤ 180 := by
    have := rowC_le hB (l := j + 1) (by omega)
    simp only [offs] at this; exact this
  have la := rowC_lk hB hj
  have tE : tm (E 3) (E (10 + 1)) ((offs B j : Int) + p) m := tm_congr m3 (fun k hk => by
    have := la (p + k) (by omega)
    have e1 : (offs B j : Int) + ((p + k : Nat) : Int) = offs B j + p + k := by omega
    have e2 : (0 : Int) + ((p + k : Nat) : Int) = p + k := by omega
    rw [e1, e2] at this
    exact this.symm)
  have ma := after_ok (E := E) (a := 10 + 1) (n := 180) hX hr10.2.2.2.2.2.1 hr10.2.1 hP tE (by omega) (by omega) (by omega)
  rw [m1]
  have hB' := hB
  rw [take_drop_lit hj] at hB'
  by_cases h30 : (lit B j).2.length - m + z.length ≤ 30
  · obtain ⟨E', r1, r2, r3⟩ := replace_ok (E := E) (r := 10) (a := 29) (na := 1000) (p := p) (n := m) (A := B.take j) (B := B.drop (j + 1)) (dn := (lit B j).1) (w := (lit B j).2) (v := z) hX hr10 (zX_20_13 hX).2.2 rfl (by decide) hB' (by omega) hzv (by omega) (by omega) h30
    rw [ot, lt] at r1
    refine ⟨1, E', zM_e rfl (Nat.le_of_ble_eq_true rfl) (fun kz Q hQ => X4_replace_0 hX hr10 ⟨_, ma, 1, E', by rw [hz]; exact r1, Or.inr rfl, hQ⟩), fz_mono r3 (by simp), Or.inl ⟨rfl, h30, ?_⟩⟩
    unfold rpA
    rw [m1]; exact r2
  · have r1 := replace_no (E := E) (r := 10) (a := 29) (na := 1000) (p := p) (n := m) (A := B.take j) (B := B.drop (j + 1)) (dn := (lit B j).1) (w := (lit B j).2) (m := z.length) hX hr10 (zX_20_13 hX).2.2 rfl hB' (by omega) (by omega) (by omega)
    rw [ot, lt] at r1
    exact ⟨0, E, zM_p rfl (Nat.le_of_ble_eq_true rfl) (fun kz Q hQ => X4_replace_0 hX hr10 ⟨_, ma, 0, E, by rw [hz]; exact r1, Or.inl rfl, hQ⟩), fz_rfl, Or.inr ⟨rfl, h30, rfl⟩⟩
theorem rewrite_go {K : Nat} {R : Nat → List zLt} {st : Nat → Int} (hX : zK zXt d G) (hs : stC d G E (E 3) (E 4) K R) (hP : pok (E 3)) (hW : wok (E 4)) (h2 : E 3 0 = 2) (hkl : klA E (E 3) R (kl (E 3) (E 4) R st 0 K)) (hl3 : (kl (E 3) (E 4) R st 0 K).length ≤ 300) : ∀ (m n : Nat) (B : List zLt) (t : List Int) (F : Nat → Int → Int), n + m = 8 → fz [10, 11, 12, 13, 18, 19, 20, 21, 22, 23, 27, 28, 29, 30, 31, 32, 36, 40] E F → stI F → (∀ L : Int, 0 ≤ L → L < 40 → F 19 L = 0) → (∀ i : Int, i ≠ 8 → i ≠ 9 → i ≠ 11 → F 36 i = E 36 i) → F 36 11 = n → t.length = 4 * n → (∀ k : Nat, k < 4 * n → F 40 k = t.getD k 0) → rowC F 10 B → rok (E 3) (E 4) B → isNl B (F 30 4) →
    ∃ (x : Int) (E' : Nat → Int → Int) (B' : List zLt) (t' : List Int) (n' : Nat), zgo zm_X4_rewrite 6 [(0, zR 36), (1, zR 10), (2, zR 30), (3, zI (n : Int))] [] (d, G, F) (some (zI x)) (d, G, E') ∧ rwl (E 3) (E 4) R st K m B t = (x, B', t') ∧ fz [10, 11, 12, 13, 18, 19, 20, 21, 22, 23, 27, 28, 29, 30, 31, 32, 36, 40] E E' ∧ stI E' ∧ (∀ L : Int, 0 ≤ L → L < 40 → E' 19 L = 0) ∧ E' 36 11 = n' ∧ n' ≤ 8 ∧ t'.length = 4 * n' ∧ (∀ k : Nat, k < 4 * n' → E' 40 k = t'.getD k 0) ∧ rowC E' 10 B' ∧ rok (E 3) (E 4) B' ∧ isNl B' (E' 30 4) ∧ (x = 0 ∨ x = 1) := by
  have hr10 := zXr10 hX
  have rokR : ∀ k : Nat, k < K → rok (E 3) (E 4) (R k) := fun k hk => (hs.2.2 k hk).2.2.2
  intro m
  induction m with
  | zero =>
    intro n B t F hn hf hsF h19 h36 h11 ht h40 hB rB hnl
    exact ⟨1, F, B, t, n, fun kz Q hQ => X4_rewrite_6 hX hr10 ⟨fun _ => hQ, fun z => absurd (by omega) z⟩, rfl, hf, hsF, h19, h11, by omega, ht, h40, hB, rB, hnl, Or.inr rfl⟩
  | succ m ih =>
    intro n B t F hn hf hsF h19 h36 h11 ht h40 hB rB hnl
    have e3 : F 3 = E 3 := hf 3 (by simp)
    have e4 : F 4 = E 4 := hf 4 (by simp)
    have stF : stC d G F (F 3) (F 4) K R := by
      rw [e3, e4]; exact stC_fz hs hf (by simp) (by rw [hf 5 (by simp)])
    have klF : klA F (F 3) R (kl (F 3) (F 4) R st 0 K) := by
      rw [e3, e4]
      unfold klA at *
      rw [h36 7 (by decide) (by decide) (by decide), hf 37 (by simp), hf 38 (by simp), hf 39 (by simp)]
      exact hkl
    have ff' := findFirst_ok (E := F) (n := n) (st := st) (B := B) hX stF (by rw [e3]; exact hP) (by rw [e4]; exact hW) (by rw [e3]; exact h2) h19 hsF hB (by rw [e3, e4]; exact rB) klF (by rw [e3, e4]; exact hl3) h11 (by omega)
    rw [e3, e4] at ff'
    obtain ⟨x, E1, m1, f1, s1, z1, j1, hx⟩ := ff'
    have hf1 : fz [10, 11, 12, 13, 18, 19, 20, 21, 22, 23, 27, 28, 29, 30, 31, 32, 36, 40] E E1 := fz_trans hf (fz_mono f1 (by simp))
    have hB1 : rowC E1 10 B := rowC_fz hB f1 (by simp) (by simp) (by simp) (by simp)
    rcases hx with ⟨x1, x2, x3⟩ | ⟨x1, y, x2, x3⟩
    · subst x1
      refine ⟨1, E1, B, t, n, fun kz Q hQ => X4_rewrite_6 hX hr10 ⟨fun z => absurd z (by omega), fun _ => ⟨0, E1, m1, fun _ => hQ, fun z => absurd rfl z⟩⟩, ?_, hf1, s1, z1, by rw [j1 11 (by decide) (by decide)]; exact h11, by omega, ht, fun k hk => by rw [x3]; exact h40 k hk, hB1, rB, by rw [f1 30 (by simp)]; exact hnl, Or.inr rfl⟩
      simp only [rwl]; rw [x2]
    · subst x1
      obtain ⟨j, p, c, s, z⟩ := y
      obtain ⟨a1, a2, a3, a4, a5, a6, a7, a8, a9⟩ := x3
      dsimp only at a1 a2 a3 a4 a5 a6 a7 a8 a9
      obtain ⟨s1', s2', s3', s4', s5', s6', s7', s8', s9'⟩ := fp_spec x2
      obtain ⟨q1, q2, q3, q4, q5, q6⟩ := rpA_ok hP h2 rB rokR x2
      have e13 : E1 3 = E 3 := hf1 3 (by simp)
      have e14 : E1 4 = E 4 := hf1 4 (by simp)
      have w30 := (hB1.2.2.2 j s1').2.2.1
      have z9 : z.length ≤ 900 := by
        obtain ⟨t0, u0, w1, w2, w3, w4, w5, w6, _⟩ := rule_parts hP h2 (rokR c s5').1 s8'
        obtain ⟨mm, _, mm1, mm2, _⟩ := tat_ok hP (v := (lit B j).2) (p := p) (rB.1 j s1').1 s3'
        have wr := ((hs.2.2 c s5').2.2.1.1.2.2.2 0 (by rw [s8'.1]; omega)).2.2.1
        have ol : (odw (E 3) (R c) s).length ≤ 30 := by unfold odw; split <;> omega
        have tl30 : tl (E 3) (fw (lit B j).2) p ≤ 30 := by omega
        have := Nat.mul_le_mul tl30 ol
        omega
      have rr := replaceR_ok (E := E1) (B := B) (j := j) (p := p) (z := z) hX (by rw [e13]; exact hP) hB1 (by rw [e13]; exact rB.1) s1' s3' a8 z9 a9
      rw [e13] at rr
      obtain ⟨v, E2, m2, f2, hv⟩ := rr
      rcases hv with ⟨v1, v2, v3⟩ | ⟨v1, v2, v3⟩
      · subst v1
        have hf2 : fz [10, 11, 12, 13, 18, 19, 20, 21, 22, 23, 27, 28, 29, 30, 31, 32, 36, 40] E E2 := fz_trans hf1 (fz_mono f2 (by simp))
        have g36 : E2 36 = E1 36 := f2 36 (by simp)
        have g11 : E2 36 11 = n := by rw [g36, j1 11 (by decide) (by decide)]; exact h11
        let E3 := zuE E2 36 11 ((n : Int) + 1)
        have n3 : ∀ y : Nat, y ≠ 36 → E3 y = E2 y := fun y hy => zuE_nf hy
        have hf3 : fz [10, 11, 12, 13, 18, 19, 20, 21, 22, 23, 27, 28, 29, 30, 31, 32, 36, 40] E E3 := fz_put hf2 (by simp)
        have hB3 : rowC E3 10 (rpA (E 3) B j p z) := rowC_fz v3 (S := [36]) (fun y hy => n3 y (by simpa using hy)) (by simp) (by simp) (by simp) (by simp)
        have k33 : E3 3 = E 3 := hf3 3 (by simp)
        have k34 : E3 4 = E 4 := hf3 4 (by simp)
        have cl := clean_ok (E := E3) (r := 10) (A := rpA (E 3) B j p z) hX hr10 (Or.inl (by omega)) (by omega) (by rw [k33]; exact hP) (by rw [k34]; exact hW) (by rw [k33]; exact h2) (fun L l0 l1 => by rw [n3 19 (by decide), f2 19 (by simp)]; exact z1 L l0 l1) hB3 (by rw [k33]; exact q1)
        rw [k33, k34] at cl
        obtain ⟨w, E4, m4, f4, z4, hB4, l4, _⟩ := cl
        have hf4 : fz [10, 11, 12, 13, 18, 19, 20, 21, 22, 23, 27, 28, 29, 30, 31, 32, 36, 40] E E4 := fz_trans hf3 (fz_mono f4 (by simp))
        have st4 : stI E4 := by
          unfold stI at *
          rw [f4 20 (by simp), f4 22 (by simp), f4 23 (by simp), n3 20 (by decide), n3 22 (by decide), n3 23 (by decide), f2 20 (by simp), f2 22 (by simp), f2 23 (by simp)]
          exact s1
        have g40 : E4 40 = E1 40 := by rw [f4 40 (by simp), n3 40 (by decide), f2 40 (by simp)]
        have rB' : rok (E 3) (E 4) (cln (E 3) (E 4) (rpA (E 3) B j p z)) := cln_rok hP h2 q1 q3 (cll_le q2)
        have tl4 : (t ++ [(c : Int), (s : Int), (j : Int), (p : Int)]).length = 4 * (n + 1) := by simp; omega
        have en : ((n + 1 : Nat) : Int) = (n : Int) + 1 := by omega
        have tv : ∀ k : Nat, k < 4 * (n + 1) → E4 40 k = (t ++ [(c : Int), (s : Int), (j : Int), (p : Int)]).getD k 0 := fun k hk => by
          rw [g40]
          rcases (by omega : k < 4 * n ∨ k = 4 * n ∨ k = 4 * n + 1 ∨ k = 4 * n + 2 ∨ k = 4 * n + 3) with e | e | e | e | e
          · rw [a3 k (by omega), h40 k e, List.getD_eq_getElem?_getD, List.getD_eq_getElem?_getD, List.getElem?_append_left (by omega)]
          · subst e
            rw [List.getD_eq_getElem?_getD, List.getElem?_append_right (by omega), ht]
            have x : ((4 * n : Nat) : Int) = 4 * (n : Int) := by omega
            rw [x, a4]; simp
          · subst e
            rw [List.getD_eq_getElem?_getD, List.getElem?_append_right (by omega), ht]
            have x : ((4 * n + 1 : Nat) : Int) = 4 * (n : Int) + 1 := by omega
            have y : 4 * n + 1 - 4 * n = 1 := by omega
            rw [x, a5, y]; rfl
          · subst e
            rw [List.getD_eq_getElem?_getD, List.getElem?_append_right (by omega), ht]
            have x : ((4 * n + 2 : Nat) : Int) = 4 * (n : Int) + 2 := by omega
            have y : 4 * n + 2 - 4 * n = 2 := by omega
            rw [x, a6, y]; rfl
          · subst e
            rw [List.getD_eq_getElem?_getD, List.getElem?_append_right (by omega), ht]
            have x : ((4 * n + 3 : Nat) : Int) = 4 * (n : Int) + 3 := by omega
            have y : 4 * n + 3 - 4 * n = 3 := by omega
            rw [x, a7, y]; rfl
        obtain ⟨x, E', B', t', n', go, r⟩ := ih (n + 1) (cln (E 3) (E 4) (rpA (E 3) B j p z)) (t ++ [(c : Int), (s : Int), (j : Int), (p : Int)]) E4 (by omega) hf4 st4 z4 (fun i i1 i2 i3 => by
            rw [f4 36 (by simp)]
            refine (zuE_ix i3).trans ?_
            rw [g36, j1 i i1 i2]; exact h36 i i1 i2 i3) (by rw [f4 36 (by simp), en]; exact zuE_same) tl4 tv hB4 rB' (by rw [l4]; exact isNl_ren)
        rw [en] at go
        refine ⟨x, E', B', t', n', fun kz Q hQ => X4_rewrite_6 hX hr10 ⟨fun z => absurd z (by omega), fun _ => ⟨1, E1, m1, fun z => absurd z (by omega), fun _ => ?_⟩⟩, ?_⟩
        · rw [a1, a2]
          refine ⟨1, E2, m2, fun _ => ?_, fun z => absurd (by decide) z⟩
          rw [g11]
          exact ⟨zin_of (by omega) (by omega), fun H h => ⟨w, E4, by rw [h]; exact m4, zin_of (by omega) (by omega), go kz Q hQ⟩⟩
        · have er : rwl (E 3) (E 4) R st K (m + 1) B t = rwl (E 3) (E 4) R st K m (cln (E 3) (E 4) (rpA (E 3) B j p z)) (t ++ [(c : Int), (s : Int), (j : Int), (p : Int)]) := by
            rw [show rwl (E 3) (E 4) R st K (m + 1) B t = (match fp (E 3) (E 4) R st K B (pq B B.length 0) with
              | none => (1, B, t)
              | some (j, p, c, s, z) => if (lit B j).2.length - tl (E 3) (fw (lit B j).2) p + z.length ≤ 30 then rwl (E 3) (E 4) R st K m (cln (E 3) (E 4) (rpA (E 3) B j p z)) (t ++ [(c : Int), (s : Int), (j : Int), (p : Int)]) else (0, B, t)) from rfl, x2]
            dsimp only
            rw [if_pos v2]
          rw [er]; exact r
      · subst v1
        subst v3
        refine ⟨0, E2, B, t, n, fun kz Q hQ => X4_rewrite_6 hX hr10 ⟨fun z => absurd z (by omega), fun _ => ⟨1, E2, m1, fun z => absurd z (by omega), fun _ => ?_⟩⟩, ?_, hf1, s1, z1, by rw [j1 11 (by decide) (by decide)]; exact h11, by omega, ht, fun k hk => by rw [a3 k (by omega)]; exact h40 k hk, hB1, rB, by rw [f1 30 (by simp)]; exact hnl, Or.inl rfl⟩
        · rw [a1, a2]
          exact ⟨0, E2, m2, fun z => absurd rfl z, fun _ => hQ⟩
        · rw [show rwl (E 3) (E 4) R st K (m + 1) B t = (match fp (E 3) (E 4) R st K B (pq B B.length 0) with
            | none => (1, B, t)
            | some (j, p, c, s, z) => if (lit B j).2.length - tl (E 3) (fw (lit B j).2) p + z.length ≤ 30 then rwl (E 3) (E 4) R st K m (cln (E 3) (E 4) (rpA (E 3) B j p z)) (t ++ [(c : Int), (s : Int), (j : Int), (p : Int)]) else (0, B, t)) from rfl, x2]
          dsimp only
          rw [if_neg v2]
theorem rewrite_ok {K : Nat} {R : Nat → List zLt} {st : Nat → Int} {B : List zLt} (hX : zK zXt d G) (hs : stC d G E (E 3) (E 4) K R) (hst : ∀ c : Nat, c < K → E (qn c) 6 = st c) (hP : pok (E 3)) (hW : wok (E 4)) (h2 : E 3 0 = 2) (hsI : stI E) (h19 : ∀ L : Int, 0 ≤ L → L < 40 → E 19 L = 0) (hB : rowC E 10 B) (rB : rok (E 3) (E 4) B) (hnl : isNl B (E 30 4)) :
    ∃ (x : Int) (E' : Nat → Int → Int) (B' : List zLt) (t' : List Int) (n' : Nat), zM zm_X4_rewrite [zR 36, zR 10, zR 30] (d, G, E) (some (zI x)) (d, G, E') ∧ rwl (E 3) (E 4) R st K 8 B [] = (x, B', t') ∧ fz [10, 11, 12, 13, 18, 19, 20, 21, 22, 23, 27, 28, 29, 30, 31, 32, 36, 37, 38, 39, 40] E E' ∧ stI E' ∧ (∀ L : Int, 0 ≤ L → L < 40 → E' 19 L = 0) ∧ E' 36 11 = n' ∧ n' ≤ 8 ∧ t'.length = 4 * n' ∧ (∀ k : Nat, k < 4 * n' → E' 40 k = t'.getD k 0) ∧ rowC E' 10 B' ∧ rok (E 3) (E 4) B' ∧ isNl B' (E' 30 4) ∧ (x = 0 ∨ x = 1) := by
  obtain ⟨E1, m1, f1, h11, k1, l1⟩ := prepare_ok (E := E) (st := st) hX hP h2 hs hst
  have e3 : E1 3 = E 3 := f1 3 (by simp)
  have e4 : E1 4 = E 4 := f1 4 (by simp)
  have g := rewrite_go (E := E1) (K := K) (R := R) (st := st) hX (by rw [e3, e4]; exact stC_fz hs f1 (by simp) (by rw [f1 5 (by simp)])) (by rw [e3]; exact hP) (by rw [e4]; exact hW) (by rw [e3]; exact h2) (by rw [e3, e4]; exact k1) (by rw [e3, e4]; exact l1) 8 0 B [] E1 (by omega) fz_rfl (by
    unfold stI at *
    rw [f1 20 (by simp), f1 22 (by simp), f1 23 (by simp)]; exact hsI) (fun L a b => by rw [f1 19 (by simp)]; exact h19 L a b) (fun i _ _ _ => rfl) h11 rfl (fun k hk => by omega) (rowC_fz hB f1 (by simp) (by simp) (by simp) (by simp)) (by rw [e3, e4]; exact rB) (by rw [f1 30 (by simp)]; exact hnl)
  rw [e3, e4] at g
  obtain ⟨x, E', B', t', n', go, r1, r2, r⟩ := g
  exact ⟨x, E', B', t', n', zM_go rfl (Nat.le_of_ble_eq_true rfl) (fun kz Q hQ => X4_rewrite_0 hX (zXr10 hX) ⟨E1, m1, go kz Q hQ⟩), r1, fz_trans (fz_mono f1 (by simp)) (fz_mono r2 (by simp)), r⟩
end QH
