/-! ===== GREATER: one-sided; stays, whatever stands for letters ===== -/
theorem kg_asym {P W : Int → Int} (hP : pok P) : ∀ (N M : Nat) (f g : Int → Int) (x y : Int) (t u : Nat), tm P f x t → tm P g y u → kg P W f g N x y → ¬ kg P W g f M y x
  | 0, _, _, _, _, _, _, _, _, _, h => absurd h id
  | _ + 1, 0, _, _, _, _, _, _, _, _, _ => id
  | N + 1, M + 1, f, g, x, y, t, u, tx, ty, h => by
    rintro ⟨_, k⟩
    obtain ⟨_, h⟩ := h
    have e1 := tl_eq tx
    have e2 := tl_eq ty
    rw [e1, e2] at h k
    rcases h with h | ⟨h0, h1, h2, h⟩
    · rcases k with k | ⟨k0, _⟩ <;> omega
    · rcases k with k | ⟨k0, k1, k2, k⟩
      · omega
      · rcases h with h | ⟨h3, q, h4, h5⟩
        · rcases k with k | ⟨k3, _⟩ <;> omega
        · rcases k with k | ⟨k3, q', k4, k5⟩
          · omega
          · have sx := tm_parts hP tx h1
            have sy := tm_parts hP ty h2
            rw [← h3] at sy
            rcases fdc_move (f' := f) (g' := g) hP _ _ _ (x + 1) (y + 1) _ _ sx sy (fun k _ => rfl) (fun k _ => rfl) with z | ⟨a, b, mx, my, z1, _, z3, _, z5, _⟩
            · rw [z.1] at h4; exact absurd h4 (by simp)
            · rw [z1] at h4
              have eq : q = (x + 1 + a, y + 1 + b) := by simpa using h4.symm
              rw [← h3, fdc_flip hP _ _ _ _ _ sx sy, z1] at k4
              have eq' : q' = (y + 1 + b, x + 1 + a) := by simpa using k4.symm
              rw [eq] at h5
              rw [eq'] at k5
              exact kg_asym hP N M f g _ _ mx my z3 z5 h5 k5
/-! sums over the letters of a word -/
def sm (h : Int → Int) : List Int → Int
  | [] => 0
  | v :: w => (if v < 0 then h (-1 - v) else 0) + sm h w
theorem sm_app {h : Int → Int} : ∀ {v w : List Int}, sm h (v ++ w) = sm h v + sm h w
  | [], w => by simp [sm]
  | x :: v, w => by
    simp only [sm, List.cons_append]
    rw [sm_app (v := v)]; omega
def cn (L : Int) (w : List Int) : Int := sm (fun M => if M = L then 1 else 0) w
def sL (g : Int → Int) : Nat → Int
  | 0 => 0
  | m + 1 => sL g m + g m
theorem sL_add {g h : Int → Int} : ∀ m : Nat, sL (fun L => g L + h L) m = sL g m + sL h m
  | 0 => rfl
  | m + 1 => by simp only [sL]; rw [sL_add m]; omega
theorem sL_zero : ∀ m : Nat, sL (fun _ => 0) m = 0
  | 0 => rfl
  | m + 1 => by simp only [sL]; rw [sL_zero m]; rfl
theorem sL_one {h : Int → Int} {K : Int} : ∀ m : Nat, 0 ≤ K → sL (fun L => h L * (if K = L then 1 else 0)) m = if K < m then h K else 0
  | 0, h0 => by simp only [sL]; rw [if_neg (by omega)]
  | m + 1, h0 => by
    simp only [sL]
    rw [sL_one m h0]
    rcases (by omega : K < (m : Int) ∨ K = (m : Int) ∨ (m : Int) < K) with c | c | c
    · rw [if_pos c, if_neg (show ¬ K = (m : Int) by omega), if_pos (show K < ((m + 1 : Nat) : Int) by omega)]; omega
    · rw [if_neg (by omega), if_pos c, if_pos (show K < ((m + 1 : Nat) : Int) by omega), c]; omega
    · rw [if_neg (by omega), if_neg (by omega), if_neg (show ¬ K < ((m + 1 : Nat) : Int) by omega)]; omega
theorem sL_congr {g h : Int → Int} : ∀ {m : Nat}, (∀ L : Int, 0 ≤ L → L < m → g L = h L) → sL g m = sL h m
  | 0, _ => rfl
  | m + 1, e => by
    simp only [sL]
    rw [sL_congr (m := m) (fun L l0 l1 => e L l0 (by omega)), e m (by omega) (by omega)]
theorem sL_mono {g h : Int → Int} : ∀ {m : Nat}, (∀ L : Int, 0 ≤ L → L < m → g L ≤ h L) → sL g m ≤ sL h m
  | 0, _ => Int.le_refl _
  | m + 1, e => by
    simp only [sL]
    have a := sL_mono (m := m) (fun L l0 l1 => e L l0 (by omega))
    have b := e m (by omega) (by omega)
    omega
theorem sm_sL {h : Int → Int} : ∀ {w : List Int}, (∀ v, v ∈ w → -40 ≤ v) → sm h w = sL (fun L => h L * cn L w) 40
  | [], _ => by
    have e : (fun L : Int => h L * cn L []) = fun _ => 0 := funext fun L => by simp [cn, sm]
    rw [e, sL_zero]; rfl
  | v :: w, hv => by
    have ih := sm_sL (h := h) (w := w) (fun x hx => hv x (List.mem_cons_of_mem _ hx))
    have lo := hv v List.mem_cons_self
    by_cases c : v < 0
    · have e : (fun L : Int => h L * cn L (v :: w)) = fun L => h L * (if -1 - v = L then 1 else 0) + h L * cn L w := funext fun L => by
        simp only [cn, sm]; rw [if_pos c, Int.mul_add]
      rw [e, sL_add, ← ih, sL_one 40 (by omega), if_pos (show -1 - v < ((40 : Nat) : Int) by omega)]
      simp only [sm]; rw [if_pos c]
    · have e : (fun L : Int => h L * cn L (v :: w)) = fun L => h L * cn L w := funext fun L => by
        simp only [cn, sm]; rw [if_neg c]; simp
      rw [e, ← ih]
      simp only [sm]; rw [if_neg c]; omega
theorem sm_le {h : Int → Int} {a b : List Int} (ha : ∀ v, v ∈ a → -40 ≤ v) (hb : ∀ v, v ∈ b → -40 ≤ v) (hh : ∀ L : Int, 0 ≤ L → L < 40 → 0 ≤ h L) (hc : ∀ L : Int, 0 ≤ L → L < 40 → cn L b ≤ cn L a) : sm h b ≤ sm h a := by
  rw [sm_sL ha, sm_sL hb]
  exact sL_mono (fun L l0 l1 => Int.mul_le_mul_of_nonneg_left (hc L l0 l1) (hh L l0 l1))
theorem oc_shift {f : Int → Int} {i L : Int} : ∀ n : Nat, oc f i L (n + 1) = (if f i = -1 - L then 1 else 0) + oc f (i + 1) L n
  | 0 => by simp only [oc]; rw [Int.natCast_zero, Int.add_zero]; omega
  | n + 1 => by
    have ih := oc_shift (f := f) (i := i) (L := L) n
    have e : oc f i L (n + 1 + 1) = oc f i L (n + 1) + (if f (i + (n + 1 : Nat)) = -1 - L then 1 else 0) := rfl
    have e2 : oc f (i + 1) L (n + 1) = oc f (i + 1) L n + (if f (i + 1 + n) = -1 - L then 1 else 0) := rfl
    have e3 : i + ((n + 1 : Nat) : Int) = i + 1 + n := by omega
    rw [e, ih, e2, e3]; omega
theorem oc_cn {L : Int} (h0 : 0 ≤ L) : ∀ w : List Int, oc (fw w) 0 L w.length = cn L w
  | [] => rfl
  | v :: w => by
    rw [List.length_cons, oc_shift, fw_c0]
    have e : oc (fw (v :: w)) (0 + 1) L w.length = oc (fw w) 0 L w.length := oc_congr _ (fun k hk => by rw [fw_cs (k := k) (by omega)]; congr 1; omega)
    rw [e, oc_cn h0 w]
    unfold cn
    simp only [sm]
    by_cases c : v < 0
    · rw [if_pos c]
      by_cases q : -1 - v = L
      · rw [if_pos (by omega), if_pos q]
      · rw [if_neg (by omega), if_neg q]
    · rw [if_neg c, if_neg (by omega)]
def wl1 (W : Int → Int) : List Int → Int
  | [] => 0
  | v :: w => wt1 W v + wl1 W w
theorem wl1_app {W : Int → Int} : ∀ {v w : List Int}, wl1 W (v ++ w) = wl1 W v + wl1 W w
  | [], w => by simp [wl1]
  | x :: v, w => by simp only [wl1, List.cons_append]; rw [wl1_app (v := v)]; omega
theorem wt_shift {W f : Int → Int} {i : Int} : ∀ n : Nat, wt W f i (n + 1) = wt1 W (f i) + wt W f (i + 1) n
  | 0 => by simp only [wt]; rw [Int.natCast_zero, Int.add_zero]; omega
  | n + 1 => by
    have ih := wt_shift (W := W) (f := f) (i := i) n
    have e : wt W f i (n + 1 + 1) = wt W f i (n + 1) + wt1 W (f (i + (n + 1 : Nat))) := rfl
    have e2 : wt W f (i + 1) (n + 1) = wt W f (i + 1) n + wt1 W (f (i + 1 + n)) := rfl
    have e3 : i + ((n + 1 : Nat) : Int) = i + 1 + n := by omega
    rw [e, ih, e2, e3]; omega
theorem wt_wl {W : Int → Int} : ∀ w : List Int, wt W (fw w) 0 w.length = wl1 W w
  | [] => rfl
  | v :: w => by
    rw [List.length_cons, wt_shift, fw_c0]
    have e : wt W (fw (v :: w)) (0 + 1) w.length = wt W (fw w) 0 w.length := wt_congr _ (fun k hk => by rw [fw_cs (k := k) (by omega)]; congr 1; omega)
    rw [e, wt_wl w]; rfl
/-- words for letters -/
def sb (T : Int → List Int) : List Int → List Int
  | [] => []
  | v :: w => (if 0 ≤ v then [v] else T (-1 - v)) ++ sb T w
theorem sb_app {T : Int → List Int} : ∀ {v w : List Int}, sb T (v ++ w) = sb T v ++ sb T w
  | [], w => rfl
  | x :: v, w => by simp only [sb, List.cons_append]; rw [sb_app (v := v), List.append_assoc]
theorem sb_s {T : Int → List Int} {v : Int} {w : List Int} (h : 0 ≤ v) : sb T (v :: w) = v :: sb T w := by simp only [sb]; rw [if_pos h]; rfl
theorem sb_l {T : Int → List Int} {v : Int} {w : List Int} (h : ¬ 0 ≤ v) : sb T (v :: w) = T (-1 - v) ++ sb T w := by simp only [sb]; rw [if_neg h]
theorem cn_sb {T : Int → List Int} {M : Int} : ∀ w : List Int, cn M (sb T w) = sm (fun L => cn M (T L)) w
  | [] => rfl
  | v :: w => by
    by_cases c : 0 ≤ v
    · rw [sb_s c]
      unfold cn at *
      simp only [sm]
      rw [if_neg (by omega), if_neg (by omega)]
      have := cn_sb (T := T) (M := M) w
      unfold cn at this
      rw [this]
    · rw [sb_l c]
      have := cn_sb (T := T) (M := M) w
      unfold cn at *
      rw [sm_app, this]
      simp only [sm]
      rw [if_pos (by omega)]
theorem wl_sb {W : Int → Int} {T : Int → List Int} : ∀ w : List Int, wl1 W (sb T w) = wl1 W w + sm (fun L => wl1 W (T L) - 1) w
  | [] => rfl
  | v :: w => by
    have ih := wl_sb (W := W) (T := T) w
    by_cases c : 0 ≤ v
    · rw [sb_s c]
      simp only [wl1, sm]
      rw [if_neg (by omega), ih]; omega
    · rw [sb_l c, wl1_app, ih]
      simp only [wl1, sm]
      rw [if_pos (by omega)]
      have : wt1 W v = 1 := if_pos (by omega)
      omega
/-- a word is a term -/
def tw (P : Int → Int) (w : List Int) : Prop := tm P (fw w) 0 w.length
theorem ts_split {P : Int → Int} (hP : pok P) : ∀ (p : Nat) (w : List Int), ts P (fw w) 0 p w.length → ∃ as : List (List Int), w = as.flatten ∧ as.length = p ∧ ∀ a, a ∈ as → tw P a
  | 0, w, h => by
    have : w.length = 0 := (ts_pos h).1 rfl
    have e : w = [] := List.length_eq_zero_iff.1 this
    subst e
    exact ⟨[], rfl, rfl, fun a ha => absurd ha (by simp)⟩
  | p + 1, w, h => by
    obtain ⟨n, n0, nl, ntl, ntm, hw'⟩ := tsw_trm hP h
    obtain ⟨as, e1, e2, e3⟩ := ts_split hP p _ hw'
    have lt : (w.take n).length = n := by rw [List.length_take]; omega
    refine ⟨w.take n :: as, ?_, by simp [e2], fun a ha => ?_⟩
    · rw [List.flatten_cons, ← e1, List.take_append_drop]
    · rcases List.mem_cons.1 ha with c | c
      · rw [c]
        unfold tw
        rw [lt]
        exact tm_congr ntm (fun k hk => by rw [fw_0, ← fw_nat, fw_tk (k := k) (by omega) hk])
      · exact e3 a c
theorem fw_al {v w : List Int} {i : Int} {k : Nat} (h : i = k) (hk : k < v.length) : fw (v ++ w) i = fw v k := by
  rw [fw_c h, fw_nat, List.getD_eq_getElem?_getD, List.getD_eq_getElem?_getD, List.getElem?_append_left hk]
theorem fw_ar {v w : List Int} {i : Int} {k : Nat} (h : i = v.length + k) : fw (v ++ w) i = fw w k := by
  rw [fw_c (n := v.length + k) (by omega), fw_nat, List.getD_eq_getElem?_getD, List.getD_eq_getElem?_getD, List.getElem?_append_right (by omega)]
  congr 2; omega
theorem ts_flat {P : Int → Int} : ∀ (as : List (List Int)), (∀ a, a ∈ as → tw P a) → ts P (fw as.flatten) 0 as.length as.flatten.length
  | [], _ => ts_nil
  | a :: as, h => by
    rw [List.flatten_cons, List.length_append, List.length_cons]
    have ha := h a List.mem_cons_self
    refine ts_cons (m := a.length) (tm_congr ha (fun k hk => by rw [fw_0, ← fw_nat, fw_al (k := k) (by omega) hk])) ?_
    exact ts_congr (ts_flat as (fun x hx => h x (List.mem_cons_of_mem _ hx))) (fun k hk => by rw [fw_0, ← fw_nat, fw_ar (k := k) (by omega)])
theorem tw_cons {P : Int → Int} (hP : pok P) {v : Int} {as : List (List Int)} (h0 : 0 ≤ v) (h1 : v < 16) (hl : (as.length : Int) = P v) (h : ∀ a, a ∈ as → tw P a) : tw P (v :: as.flatten) := by
  unfold tw
  rw [List.length_cons, Nat.add_comm]
  refine tm_cons (by rw [fw_c0]; exact h0) (by rw [fw_c0]; exact h1) hP ?_
  rw [fw_c0]
  have e : (P v).toNat = as.length := by omega
  rw [e]
  exact ts_congr (ts_flat as h) (fun k hk => by rw [fw_cs (k := k) (by omega)]; congr 1; omega)
theorem tw_cases {P : Int → Int} (hP : pok P) {w : List Int} (h : tw P w) : (∃ v, v < 0 ∧ w = [v]) ∨ ∃ (v : Int) (as : List (List Int)), 0 ≤ v ∧ v < 16 ∧ w = v :: as.flatten ∧ (as.length : Int) = P v ∧ ∀ a, a ∈ as → tw P a := by
  cases w with
  | nil => have := nd_ge h; simp at this
  | cons v w =>
    have h' := ts_1.2 h
    have v16 := tsw_lt h'
    by_cases c : v < 0
    · left
      have := tsw_let h' c
      have e : w.length = 0 := (ts_pos this).1 rfl
      have e2 : w = [] := List.length_eq_zero_iff.1 e
      exact ⟨v, c, by rw [e2]⟩
    · right
      have := tsw_sgn hP h' (by omega)
      rw [Nat.zero_add] at this
      obtain ⟨as, e1, e2, e3⟩ := ts_split hP _ _ this
      have := hP v (by omega) v16
      exact ⟨v, as, by omega, v16, by rw [e1], by omega, e3⟩
theorem mem_flat_len {as : List (List Int)} {a : List Int} (h : a ∈ as) : a.length ≤ as.flatten.length := by
  induction as with
  | nil => exact absurd h (by simp)
  | cons b as ih =>
    rw [List.flatten_cons, List.length_append]
    rcases List.mem_cons.1 h with c | c
    · rw [c]; omega
    · have := ih c; omega
theorem sb_flat {T : Int → List Int} : ∀ as : List (List Int), sb T as.flatten = (as.map (sb T)).flatten
  | [] => rfl
  | a :: as => by rw [List.flatten_cons, sb_app, sb_flat as]; rfl
theorem tw_sb {P : Int → Int} (hP : pok P) {T : Int → List Int} : ∀ (n : Nat) (w : List Int), w.length ≤ n → tw P w → (∀ v, v ∈ w → v < 0 → tw P (T (-1 - v))) → tw P (sb T w)
  | 0, w, hn, h, _ => by have := nd_ge h; omega
  | n + 1, w, hn, h, hT => by
    rcases tw_cases hP h with ⟨v, v0, e⟩ | ⟨v, as, v0, v16, e, el, ha⟩
    · subst e
      rw [sb_l (by omega)]
      simp only [sb, List.append_nil]
      exact hT v List.mem_cons_self v0
    · subst e
      rw [sb_s v0, sb_flat]
      refine tw_cons hP v0 v16 (by rw [List.length_map]; exact el) (fun b hb => ?_)
      obtain ⟨a, a1, a2⟩ := List.mem_map.1 hb
      subst a2
      have la := mem_flat_len a1
      refine tw_sb hP n a (by rw [List.length_cons] at hn; omega) (ha a a1) (fun x hx hx0 => hT x (List.mem_cons_of_mem _ ?_) hx0)
      exact List.mem_flatten.2 ⟨a, a1, hx⟩
/-- the first unlike parts, by words -/
theorem fdc_w {P f g : Int → Int} (hP : pok P) : ∀ (as bs : List (List Int)) (x y : Int), as.length = bs.length → (∀ a, a ∈ as → tw P a) → (∀ b, b ∈ bs → tw P b) → lk f x (fw as.flatten) 0 as.flatten.length → lk g y (fw bs.flatten) 0 bs.flatten.length →
    (as = bs ∧ fdc P f g as.length x y = none) ∨ ∃ (pre : List (List Int)) (a b : List Int) (as' bs' : List (List Int)), as = pre ++ a :: as' ∧ bs = pre ++ b :: bs' ∧ a ≠ b ∧ fdc P f g as.length x y = some (x + pre.flatten.length, y + pre.flatten.length)
  | [], [], _, _, _, _, _, _, _ => Or.inl ⟨rfl, rfl⟩
  | [], _ :: _, _, _, h, _, _, _, _ => absurd h (by simp)
  | _ :: _, [], _, _, h, _, _, _, _ => absurd h (by simp)
  | a :: as, b :: bs, x, y, hl, ha, hb, hx, hy => by
    rw [List.flatten_cons, List.length_append] at hx hy
    have ta := ha a List.mem_cons_self
    have tb := hb b List.mem_cons_self
    have la : lk f x (fw a) 0 a.length := fun k hk => by rw [hx k (by omega), fw_0, ← fw_nat, fw_al (k := k) (by omega) hk, fw_0, fw_nat]
    have lb' : lk g y (fw b) 0 b.length := fun k hk => by rw [hy k (by omega), fw_0, ← fw_nat, fw_al (k := k) (by omega) hk, fw_0, fw_nat]
    have la2 : lk f (x + a.length) (fw as.flatten) 0 as.flatten.length := fun k hk => by
      have := hx (a.length + k) (by omega)
      have e : x + ((a.length + k : Nat) : Int) = x + a.length + k := by omega
      rw [e] at this
      rw [this, fw_ar (k := k) (by omega), fw_0, fw_nat]
    have lb2 : lk g (y + b.length) (fw bs.flatten) 0 bs.flatten.length := fun k hk => by
      have := hy (b.length + k) (by omega)
      have e : y + ((b.length + k : Nat) : Int) = y + b.length + k := by omega
      rw [e] at this
      rw [this, fw_ar (k := k) (by omega), fw_0, fw_nat]
    have t1 : tm P f x a.length := tm_congr ta (fun k hk => (la k hk).symm)
    have t2 : tm P g y b.length := tm_congr tb (fun k hk => (lb' k hk).symm)
    have e1 := tl_eq t1
    have e2 := tl_eq t2
    have lq : lk f x g y a.length ↔ a = b := by
      constructor
      · intro h
        have el : a.length = b.length := tm_uniq (tm_congr t1 h) t2
        exact (lk_word el la lb').1 h
      · intro h
        exact (lk_word (by rw [h]) la lb').2 h
    rw [List.length_cons]
    by_cases c : a = b
    · subst c
      rw [fdc_yes (by rw [e1]; exact lq.2 rfl), e1, e2]
      rcases fdc_w hP as bs (x + a.length) (y + a.length) (by simpa using hl) (fun z hz => ha z (List.mem_cons_of_mem _ hz)) (fun z hz => hb z (List.mem_cons_of_mem _ hz)) la2 lb2 with ⟨q1, q2⟩ | ⟨pre, a', b', as', bs', q1, q2, q3, q4⟩
      · exact Or.inl ⟨by rw [q1], q2⟩
      · refine Or.inr ⟨a :: pre, a', b', as', bs', by rw [q1]; rfl, by rw [q2]; rfl, q3, ?_⟩
        rw [q4, List.flatten_cons, List.length_append]
        congr 2 <;> omega
    · refine Or.inr ⟨[], a, b, as, bs, rfl, rfl, c, ?_⟩
      rw [fdc_no (by rw [e1]; exact fun q => c (lq.1 q))]
      simp
/-- the place of a part in a word -/
theorem lk_part {v : Int} {pre as' : List (List Int)} {a : List Int} : lk (fw (v :: (pre ++ a :: as').flatten)) (0 + 1 + (pre.flatten.length : Int)) (fw a) 0 a.length := fun k hk => by
  rw [fw_cs (k := pre.flatten.length + k) (by omega), List.flatten_append, List.flatten_cons, fw_ar (k := k) (by omega), fw_al (k := k) rfl hk, fw_0, fw_nat]
theorem kg_sb {P W : Int → Int} (hP : pok P) {T : Int → List Int} (hT : ∀ L : Int, 0 ≤ L → L < 40 → tw P (T L) ∧ 1 ≤ wl1 W (T L) ∧ ∀ M : Int, 0 ≤ cn M (T L)) : ∀ (N : Nat) (a b : List Int), tw P a → tw P b → (∀ v, v ∈ a → -40 ≤ v) → (∀ v, v ∈ b → -40 ≤ v) → kg P W (fw a) (fw b) N 0 0 → kg P W (fw (sb T a)) (fw (sb T b)) N 0 0
  | 0, _, _, _, _, _, _, h => h
  | N + 1, a, b, ta, tb, la, lb, h => by
    have ta' : tw P (sb T a) := tw_sb hP a.length a (Nat.le_refl _) ta (fun v hv v0 => (hT _ (by omega) (by have := la v hv; omega)).1)
    have tb' : tw P (sb T b) := tw_sb hP b.length b (Nat.le_refl _) tb (fun v hv v0 => (hT _ (by omega) (by have := lb v hv; omega)).1)
    obtain ⟨h1, h2⟩ := h
    rw [tl_eq ta, tl_eq tb] at h1 h2
    have cc : ∀ L : Int, 0 ≤ L → L < 40 → cn L b ≤ cn L a := fun L l0 l1 => by
      have := h1 L l0 l1
      rw [oc_cn l0, oc_cn l0] at this; exact this
    refine ⟨?_, ?_⟩
    · rw [tl_eq ta', tl_eq tb']
      intro M m0 m1
      rw [oc_cn m0, oc_cn m0, cn_sb, cn_sb]
      exact sm_le la lb (fun L l0 l1 => (hT L l0 l1).2.2 M) cc
    · rw [tl_eq ta', tl_eq tb', wt_wl, wt_wl, wl_sb, wl_sb]
      rw [wt_wl, wt_wl] at h2
      have sle := sm_le (h := fun L => wl1 W (T L) - 1) la lb (fun L l0 l1 => by have := (hT L l0 l1).2.1; omega) cc
      rcases (by omega : wl1 W b + sm (fun L => wl1 W (T L) - 1) b < wl1 W a + sm (fun L => wl1 W (T L) - 1) a ∨ ¬ wl1 W b + sm (fun L => wl1 W (T L) - 1) b < wl1 W a + sm (fun L => wl1 W (T L) - 1) a) with c | c
      · exact Or.inl c
      · rcases h2 with h2 | ⟨h0, h3, h4, h5⟩
        · omega
        · rcases tw_cases hP ta with ⟨v, v0, e⟩ | ⟨v, as, v0, v16, e, el, ha⟩
          · subst e; rw [fw_c0] at h3; omega
          rcases tw_cases hP tb with ⟨u, u0, e'⟩ | ⟨u, bs, u0, u16, e', el', hb⟩
          · subst e'; rw [fw_c0] at h4; omega
          subst e
          subst e'
          rw [fw_c0, fw_c0] at h5
          rw [sb_s v0, sb_s u0, fw_c0, fw_c0]
          refine Or.inr ⟨by omega, v0, u0, ?_⟩
          rcases h5 with h5 | ⟨h5, q, h6, h7⟩
          · exact Or.inl h5
          · refine Or.inr ⟨h5, ?_⟩
            subst h5
            have ep : (P v).toNat = as.length := by omega
            have hlen : as.length = bs.length := by omega
            rw [ep] at h6 ⊢
            have k1 : ∀ cs : List (List Int), lk (fw (v :: cs.flatten)) (0 + 1) (fw cs.flatten) 0 cs.flatten.length := fun cs k hk => by rw [fw_cs (k := k) (by omega), fw_0, fw_nat]
            rcases fdc_w hP as bs (0 + 1) (0 + 1) hlen ha hb (k1 as) (k1 bs) with ⟨_, q2⟩ | ⟨pre, a', b', as', bs', q1, q2, q3, q4⟩
            · rw [q2] at h6; exact absurd h6 (by simp)
            · rw [q4] at h6
              have eq : q = (0 + 1 + (pre.flatten.length : Int), 0 + 1 + (pre.flatten.length : Int)) := by simpa using h6.symm
              have ma : a' ∈ as := by rw [q1]; simp
              have mb : b' ∈ bs := by rw [q2]; simp
              have p1 : lk (fw (v :: as.flatten)) (0 + 1 + (pre.flatten.length : Int)) (fw a') 0 a'.length := by rw [q1]; exact lk_part
              have p2 : lk (fw (v :: bs.flatten)) (0 + 1 + (pre.flatten.length : Int)) (fw b') 0 b'.length := by rw [q2]; exact lk_part
              rw [eq] at h7
              dsimp only at h7
              rw [kg_iff hP (tm_congr (ha a' ma) (fun k hk => (p1 k hk).symm)) (tm_congr (hb b' mb) (fun k hk => (p2 k hk).symm)) p1 p2] at h7
              have ih := kg_sb hP hT N a' b' (ha a' ma) (hb b' mb) (fun z hz => la z (List.mem_cons_of_mem _ (List.mem_flatten.2 ⟨a', ma, hz⟩))) (fun z hz => lb z (List.mem_cons_of_mem _ (List.mem_flatten.2 ⟨b', mb, hz⟩))) h7
              have ta2 : ∀ z, z ∈ as.map (sb T) → tw P z := fun z hz => by
                obtain ⟨x, x1, x2⟩ := List.mem_map.1 hz
                subst x2
                exact tw_sb hP x.length x (Nat.le_refl _) (ha x x1) (fun y hy y0 => (hT _ (by omega) (by have := la y (List.mem_cons_of_mem _ (List.mem_flatten.2 ⟨x, x1, hy⟩)); omega)).1)
              have tb2 : ∀ z, z ∈ bs.map (sb T) → tw P z := fun z hz => by
                obtain ⟨x, x1, x2⟩ := List.mem_map.1 hz
                subst x2
                exact tw_sb hP x.length x (Nat.le_refl _) (hb x x1) (fun y hy y0 => (hT _ (by omega) (by have := lb y (List.mem_cons_of_mem _ (List.mem_flatten.2 ⟨x, x1, hy⟩)); omega)).1)
              have ne : sb T a' ≠ sb T b' := fun e => by
                rw [e] at ih
                exact kg_alike hP (tb2 _ (List.mem_map.2 ⟨b', mb, rfl⟩)) (fun k _ => rfl) N ih
              rw [sb_flat, sb_flat]
              have e1 : as.map (sb T) = pre.map (sb T) ++ sb T a' :: as'.map (sb T) := by rw [q1]; simp
              have e2 : bs.map (sb T) = pre.map (sb T) ++ sb T b' :: bs'.map (sb T) := by rw [q2]; simp
              have p3 : lk (fw (v :: (as.map (sb T)).flatten)) (0 + 1 + ((pre.map (sb T)).flatten.length : Int)) (fw (sb T a')) 0 (sb T a').length := by rw [e1]; exact lk_part
              have p4 : lk (fw (v :: (bs.map (sb T)).flatten)) (0 + 1 + ((pre.map (sb T)).flatten.length : Int)) (fw (sb T b')) 0 (sb T b').length := by rw [e2]; exact lk_part
              rcases fdc_w hP (as.map (sb T)) (bs.map (sb T)) (0 + 1) (0 + 1) (by simpa using hlen) ta2 tb2 (k1 _) (k1 _) with ⟨z1, _⟩ | ⟨pre', x, y, xs, ys, z1, z2, z3, z4⟩
              · rw [e1, e2] at z1
                have := List.append_cancel_left z1
                have : sb T a' = sb T b' := by simpa using (List.cons.inj this).1
                exact absurd this ne
              · have lp : pre'.length = pre.length := by
                  have g1 : ∀ i, i < pre.length → (as.map (sb T))[i]? = (bs.map (sb T))[i]? := fun i hi => by
                    rw [e1, e2, List.getElem?_append_left (by simpa using hi), List.getElem?_append_left (by simpa using hi)]
                  have g2 : (as.map (sb T))[pre.length]? ≠ (bs.map (sb T))[pre.length]? := by
                    rw [e1, e2, List.getElem?_append_right (by simp), List.getElem?_append_right (by simp)]
                    simpa using ne
                  have g3 : ∀ i, i < pre'.length → (as.map (sb T))[i]? = (bs.map (sb T))[i]? := fun i hi => by
                    rw [z1, z2, List.getElem?_append_left hi, List.getElem?_append_left hi]
                  have g4 : (as.map (sb T))[pre'.length]? ≠ (bs.map (sb T))[pre'.length]? := by
                    rw [z1, z2, List.getElem?_append_right (by omega), List.getElem?_append_right (by omega)]
                    simpa using z3
                  rcases Nat.lt_trichotomy pre'.length pre.length with r | r | r
                  · exact absurd (g1 _ r) g4
                  · exact r
                  · exact absurd (g3 _ r) g2
                have ep' : pre' = pre.map (sb T) ∧ x = sb T a' := by
                  have := e1.symm.trans z1
                  have h' := List.append_inj this (by simp [lp])
                  exact ⟨h'.1.symm, (List.cons.inj h'.2).1.symm⟩
                have lm : (as.map (sb T)).length = as.length := by simp
                rw [lm] at z4
                refine ⟨_, z4, ?_⟩
                dsimp only
                rw [ep'.1]
                rw [kg_iff hP (tm_congr (ta2 _ (List.mem_map.2 ⟨a', ma, rfl⟩)) (fun k hk => (p3 k hk).symm)) (tm_congr (tb2 _ (List.mem_map.2 ⟨b', mb, rfl⟩)) (fun k hk => (p4 k hk).symm)) p3 p4]
                exact ih
