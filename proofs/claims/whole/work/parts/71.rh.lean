/-! ===== unification: the class, where there is one ===== -/
theorem sb_len_ge {T : Int → List Int} (hT : ∀ L : Int, 0 ≤ L → T L ≠ []) : ∀ w : List Int, w.length ≤ (sb T w).length
  | [] => Nat.le_refl _
  | v :: w => by
    have ih := sb_len_ge hT w
    by_cases c : 0 ≤ v
    · rw [sb_s c]; simp only [List.length_cons]; omega
    · rw [sb_l c, List.length_append, List.length_cons]
      have := List.length_pos_iff.2 (hT (-1 - v) (by omega))
      omega
/-- a term within another is shorter -/
theorem sub_lt {P : Int → Int} {T : Int → List Int} {F : Nat → Int → Int} (hP : pok P) (hT : ∀ L : Int, 0 ≤ L → T L ≠ []) {x y : Int} {wx wy : List Int} (hx : onB F x wx) (tx : tw P wx) (hy : onB F y wy) (ty : tw P wy) (h1 : x < y) (h2 : y < x + wx.length) : (sb T wy).length < (sb T wx).length := by
  obtain ⟨k, hk⟩ : ∃ k : Nat, y = x + k := ⟨(y - x).toNat, by omega⟩
  subst hk
  have k1 : k < wx.length := by omega
  have ht : tm P (F 21) x wx.length := tm_congr tx (fun n hn => (hx.2.2.1 n hn).symm)
  obtain ⟨m, m1, m2⟩ := tm_sub hP ht k1
  have ht2 : tm P (F 21) (x + k) wy.length := tm_congr ty (fun n hn => (hy.2.2.1 n hn).symm)
  have em := tm_uniq m1 ht2
  subst em
  have e : wy = (wx.drop k).take wy.length := by
    have ll : wy.length = ((wx.drop k).take wy.length).length := by rw [List.length_take, List.length_drop]; omega
    refine (lk_word (f := F 21) (g := F 21) (i := x + k) (j := x + k) ll hy.2.2.1 (fun n hn => ?_)).1 (fun _ _ => rfl)
    rw [← ll] at hn
    have e1 : x + (k : Int) + (n : Int) = x + ((k + n : Nat) : Int) := by omega
    rw [e1, hx.2.2.1 (k + n) (by omega), fw_0, fw_0, ← fw_nat, ← fw_nat, fw_tk (k := n) rfl hn, fw_dr (k := n) rfl]
    congr 1
  have e2 : wx = wx.take k ++ ((wx.drop k).take wy.length ++ (wx.drop k).drop wy.length) := by rw [List.take_append_drop, List.take_append_drop]
  have := sb_len_ge hT (wx.take k)
  rw [List.length_take] at this
  have e4 := congrArg (sb T) e2
  rw [sb_app, sb_app, ← e] at e4
  have e3 := congrArg List.length e4
  rw [List.length_append, List.length_append] at e3
  omega
section RH
variable {d : List Nat} {G : Nat → Int → Option Nat} {E : Nat → Int → Int}
/-- a stretch of one of the two terms -/
def inR (r1 r2 : Int) (t1 t2 : Nat) (i : Int) (n : Nat) : Prop := (r1 ≤ i ∧ i + n ≤ r1 + t1) ∨ (r2 ≤ i ∧ i + n ≤ r2 + t2)
def regL (r1 r2 : Int) (t1 t2 : Nat) : List Int := plc r1 t1 ++ plc r2 t2
theorem inR_mem {r1 r2 i : Int} {t1 t2 n : Nat} (h : inR r1 r2 t1 t2 i n) (hn : 0 < n) : i ∈ regL r1 r2 t1 t2 := by
  refine List.mem_append.2 ?_
  rw [plc_mem, plc_mem]
  unfold inR at h; omega
theorem inR_sub {r1 r2 i j : Int} {t1 t2 n m : Nat} (h : inR r1 r2 t1 t2 i n) (h1 : i ≤ j) (h2 : j + m ≤ i + n) : inR r1 r2 t1 t2 j m := by
  unfold inR at *; omega
def binR (F : Nat → Int → Int) (b : zBd) (r1 r2 : Int) (t1 t2 : Nat) : Prop := ∀ L u, lkp b L = some u → inR r1 r2 t1 t2 (F 22 L) u.length
/-- what a stretch of the run gives -/
def wOut (d : List Nat) (G : Nat → Int → Option Nat) (E F : Nat → Int → Int) (P : Int → Int) (bF : zBd) (r1 r2 : Int) (t1 t2 : Nat) (i j : Int) (op dp : Nat) (v7 : Int) (i' j' : Int) (op' : Nat) (R : Nat) (p q : List Int) : Prop :=
  ∃ (F' : Nat → Int → Int) (b2 : zBd) (rk2 : Int → Nat) (v7' : Int), v7 ≤ v7' ∧ v7' ≤ v7 + R ∧ (∀ kz Q, Z zm_X9_widen kz Q 19 [(0, zR 20), (3, zI i'), (4, zI j'), (5, zI (op' : Int)), (6, zI (dp : Int)), (7, zI v7')] [] (d, G, F') → Z zm_X9_widen kz Q 19 [(0, zR 20), (3, zI i), (4, zI j), (5, zI (op : Int)), (6, zI (dp : Int)), (7, zI v7)] [] (d, G, F)) ∧ fz uS E F' ∧ u20 E F' ∧ (∀ k : Int, k < dp → F' 24 k = F 24 k ∧ F' 25 k = F 25 k ∧ F' 26 k = F 26 k) ∧ bw P b2 rk2 ∧ bdU F' b2 ∧ binR F' b2 r1 r2 t1 t2 ∧ UN P b2 p q (some bF)
/-- what is asked for at a row of k terms -/
def wIn (E F : Nat → Int → Int) (P : Int → Int) (bF b : zBd) (rk : Int → Nat) (r1 r2 : Int) (t1 t2 : Nat) (i j : Int) (k : Nat) (va vb p q : List Int) (M : Nat) : Prop :=
  fz uS E F ∧ u20 E F ∧ bw P b rk ∧ bdU F b ∧ binR F b r1 r2 t1 t2 ∧ onB F i va ∧ tws P k va ∧ onB F j vb ∧ tws P k vb ∧ inR r1 r2 t1 t2 i va.length ∧ inR r1 r2 t1 t2 j vb.length ∧ (i + va.length ≤ j ∨ j + vb.length ≤ i) ∧ (sb (th bF) va).length ≤ M ∧ (∃ n, tws P n p ∧ tws P n q) ∧ lo40 p ∧ lo40 q ∧ UN P b (va ++ p) (vb ++ q) (some bF)
/-- rows, where single terms are known -/
theorem wRow {bF : zBd} {r1 r2 : Int} {t1 t2 : Nat} {M R D O : Nat} (hP : pok (E 3))
    (one : ∀ (F : Nat → Int → Int) (b : zBd) (rk : Int → Nat) (i j : Int) (w w' p q : List Int) (op dp : Nat) (v7 : Int), wIn E F (E 3) bF b rk r1 r2 t1 t2 i j 1 w w' p q M → 0 ≤ v7 → v7 + R ≤ 999999 → op + O ≤ 900 → dp + D ≤ 127 → wOut d G E F (E 3) bF r1 r2 t1 t2 i j (op + 1) dp v7 (i + w.length) (j + w'.length) op R p q) :
    ∀ (k : Nat) (F : Nat → Int → Int) (b : zBd) (rk : Int → Nat) (i j : Int) (va vb p q : List Int) (op dp : Nat) (v7 : Int), wIn E F (E 3) bF b rk r1 r2 t1 t2 i j k va vb p q M → 0 ≤ v7 → v7 + (k * R : Nat) ≤ 999999 → op + k + O ≤ 900 → dp + D ≤ 127 → wOut d G E F (E 3) bF r1 r2 t1 t2 i j (op + k) dp v7 (i + va.length) (j + vb.length) op (k * R) p q
  | 0, F, b, rk, i, j, va, vb, p, q, op, dp, v7, h, v0, _, _, _ => by
    obtain ⟨h1, h2, h3, h4, h5, h6, h7, h8, h9, h10, h11, h12, h13, h14, h15, h16, h17⟩ := h
    have ea := tws_0 h7
    have eb := tws_0 h9
    subst ea; subst eb
    refine ⟨F, b, rk, v7, by omega, by omega, fun kz Q z => ?_, h1, h2, fun _ _ => ⟨rfl, rfl, rfl⟩, h3, h4, h5, h17⟩
    simpa using z
  | k + 1, F, b, rk, i, j, va, vb, p, q, op, dp, v7, h, v0, hv, ho, hd => by
    obtain ⟨h1, h2, h3, h4, h5, h6, h7, h8, h9, h10, h11, h12, h13, ⟨n, hn1, hn2⟩, h15, h16, h17⟩ := h
    obtain ⟨w, va', rfl, tw1, ta', hi1, hi2⟩ := row_fst hP h7 h6
    obtain ⟨w', vb', rfl, tw2, tb', hj1, hj2⟩ := row_fst hP h9 h8
    rw [List.length_append] at h10 h11 h12
    rw [List.length_append] at h12
    rw [sb_app, List.length_append] at h13
    rw [List.append_assoc, List.append_assoc] at h17
    have kR : ((k + 1) * R : Nat) = R + k * R := by rw [Nat.succ_mul]; omega
    rw [kR] at hv ⊢
    obtain ⟨F1, b1, rk1, v1, a1, a2, a3, a4, a5, a6, a7, a8, a9, a10⟩ := one F b rk i j w w' (va' ++ p) (vb' ++ q) (op + k) dp v7 ⟨h1, h2, h3, h4, h5, hi1, tws_1.2 tw1, hj1, tws_1.2 tw2, inR_sub h10 (by omega) (by omega), inR_sub h11 (by omega) (by omega), by omega, by omega, ⟨k + n, tws_app hP ta' hn1, tws_app hP tb' hn2⟩, lo40_app.2 ⟨hi2.2.2.2, h15⟩, lo40_app.2 ⟨hj2.2.2.2, h16⟩, h17⟩ v0 (by omega) (by omega) hd
    have e21 : F1 21 = F 21 := by rw [a4 21 (by simp [uS]), h1 21 (by simp [uS])]
    obtain ⟨F2, b2, rk2, v2, c1, c2, c3, c4, c5, c6, c7, c8, c9, c10⟩ := wRow hP one k F1 b1 rk1 (i + w.length) (j + w'.length) va' vb' p q op dp v1 ⟨a4, a5, a7, a8, a9, by unfold onB; rw [e21]; exact hi2, ta', by unfold onB; rw [e21]; exact hj2, tb', inR_sub h10 (by omega) (by omega), inR_sub h11 (by omega) (by omega), by omega, by omega, ⟨n, hn1, hn2⟩, h15, h16, a10⟩ (by omega) (by omega) (by omega) hd
    refine ⟨F2, b2, rk2, v2, by omega, by omega, fun kz Q z => a3 kz Q (c3 kz Q ?_), c4, c5, fun x hx => ?_, c7, c8, c9, c10⟩
    · have e1 : i + ((w ++ va').length : Int) = i + w.length + va'.length := by rw [List.length_append]; omega
      have e2 : j + ((w' ++ vb').length : Int) = j + w'.length + vb'.length := by rw [List.length_append]; omega
      rw [e1, e2] at z
      exact z
    · obtain ⟨x1, x2, x3⟩ := a6 x hx
      obtain ⟨y1, y2, y3⟩ := c6 x hx
      exact ⟨y1.trans x1, y2.trans x2, y3.trans x3⟩
end RH
