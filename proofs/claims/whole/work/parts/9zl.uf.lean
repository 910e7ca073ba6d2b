/-! ===== the bound: classes of places, open slots, regions ===== -/
/-- a slot of a class with a leaf among its parts -/
def uop (ar sz : Nat → Nat) (sim : Nat → Nat → Prop) (x k : Nat) : Prop := ∃ y, sim x y ∧ 0 < ar y ∧ ar ((uch sz) y k) = 0
/-- gathered over the region of x: c a class, o an open slot's part -/
noncomputable def uac (ar sz : Nat → Nat) (sim : Nat → Nat → Prop) (c : Nat) (o : Nat → Nat) : Nat → Nat → Nat
  | 0, _ => 0
  | n + 1, x => c + usum (fun k => @ite _ (uop ar sz sim x k) (Classical.propDecidable _) (o ((uch sz) x k)) (uac ar sz sim c o n ((uch sz) x k))) (ar x)
/-- a class of function places alone, not the roots' -/
def uin (ar : Nat → Nat) (sim : Nat → Nat → Prop) (x : Nat) : Prop := (∀ y, sim x y → 0 < ar y) ∧ ¬ sim 0 x
/-- classes and lengths, as unification makes them -/
def uSS (N n1 : Nat) (ar sz L : Nat → Nat) (sim : Nat → Nat → Prop) : Prop :=
  (∀ x, sim x x) ∧ (∀ x y, sim x y → sim y x) ∧ (∀ x y z, sim x y → sim y z → sim x z) ∧ sim 0 n1 ∧
  (∀ x y, sim x y → x < N → y < N ∧ L x = L y) ∧
  (∀ x y, sim x y → x < N → 0 < ar x → 0 < ar y → ar x = ar y ∧ ∀ k, k < ar x → sim ((uch sz) x k) ((uch sz) y k)) ∧
  (∀ K : Nat → Prop, ¬ K 0 → ¬ K n1 → (∀ x, x < N → ar x = 0 → ¬ K x) → (∀ x y k, sim x y → x < N → 0 < ar x → 0 < ar y → k < ar x → (K ((uch sz) x k) ↔ K ((uch sz) y k))) → ∀ x y, sim x y → (K x ↔ K y)) ∧
  (∀ x, x < N → 1 ≤ L x) ∧ (∀ x, x < N → 0 < ar x → L x = 1 + usum (fun k => L ((uch sz) x k)) (ar x)) ∧
  (∀ x, x < N → (∀ y, sim x y → ar y = 0) → L x = 1)
section UF
variable {N n1 : Nat} {ar sz L : Nat → Nat} {sim : Nat → Nat → Prop}
theorem uSS.rfl (s : uSS N n1 ar sz L sim) (x : Nat) : sim x x := s.1 x
theorem uSS.sym (s : uSS N n1 ar sz L sim) {x y : Nat} (h : sim x y) : sim y x := s.2.1 x y h
theorem uSS.tr (s : uSS N n1 ar sz L sim) {x y z : Nat} (h : sim x y) (h' : sim y z) : sim x z := s.2.2.1 x y z h h'
theorem uSS.rt (s : uSS N n1 ar sz L sim) : sim 0 n1 := s.2.2.2.1
theorem uSS.lt (s : uSS N n1 ar sz L sim) {x y : Nat} (h : sim x y) (hx : x < N) : y < N := (s.2.2.2.2.1 x y h hx).1
theorem uSS.ln (s : uSS N n1 ar sz L sim) {x y : Nat} (h : sim x y) (hx : x < N) : L x = L y := (s.2.2.2.2.1 x y h hx).2
theorem uSS.aa (s : uSS N n1 ar sz L sim) {x y : Nat} (h : sim x y) (hx : x < N) (h1 : 0 < ar x) (h2 : 0 < ar y) : ar x = ar y := (s.2.2.2.2.2.1 x y h hx h1 h2).1
theorem uSS.dn (s : uSS N n1 ar sz L sim) {x y k : Nat} (h : sim x y) (hx : x < N) (h1 : 0 < ar x) (h2 : 0 < ar y) (hk : k < ar x) : sim ((uch sz) x k) ((uch sz) y k) := (s.2.2.2.2.2.1 x y h hx h1 h2).2 k hk
theorem uSS.least (s : uSS N n1 ar sz L sim) (K : Nat → Prop) (h0 : ¬ K 0) (h1 : ¬ K n1) (h2 : ∀ x, x < N → ar x = 0 → ¬ K x) (h3 : ∀ x y k, sim x y → x < N → 0 < ar x → 0 < ar y → k < ar x → (K ((uch sz) x k) ↔ K ((uch sz) y k))) {x y : Nat} (h : sim x y) : K x ↔ K y := s.2.2.2.2.2.2.1 K h0 h1 h2 h3 x y h
theorem uSS.l1 (s : uSS N n1 ar sz L sim) {x : Nat} (hx : x < N) : 1 ≤ L x := s.2.2.2.2.2.2.2.1 x hx
theorem uSS.le (s : uSS N n1 ar sz L sim) {x : Nat} (hx : x < N) (h : 0 < ar x) : L x = 1 + usum (fun k => L ((uch sz) x k)) (ar x) := s.2.2.2.2.2.2.2.2.1 x hx h
theorem uSS.lf (s : uSS N n1 ar sz L sim) {x : Nat} (hx : x < N) (h : ∀ y, sim x y → ar y = 0) : L x = 1 := s.2.2.2.2.2.2.2.2.2 x hx h
theorem uop_sim (s : uSS N n1 ar sz L sim) {x y k : Nat} (h : sim x y) : uop ar sz sim x k ↔ uop ar sz sim y k :=
  ⟨fun ⟨z, z1, z2⟩ => ⟨z, s.tr (s.sym h) z1, z2⟩, fun ⟨z, z1, z2⟩ => ⟨z, s.tr h z1, z2⟩⟩
theorem uop_cl (s : uSS N n1 ar sz L sim) {x y k : Nat} (h : ¬ uop ar sz sim x k) (hy : sim x y) (h1 : 0 < ar y) : 0 < ar ((uch sz) y k) :=
  Nat.pos_of_ne_zero fun e => h ⟨y, hy, h1, e⟩
theorem uac_s {c n x : Nat} {o : Nat → Nat} : uac ar sz sim c o (n + 1) x = c + usum (fun k => @ite _ (uop ar sz sim x k) (Classical.propDecidable _) (o ((uch sz) x k)) (uac ar sz sim c o n ((uch sz) x k))) (ar x) := rfl
/-- enough steps are enough -/
theorem uac_fuel (h : uT N n1 ar sz) {c : Nat} {o : Nat → Nat} : ∀ (n m x : Nat), x < N → N - x ≤ n → N - x ≤ m → uac ar sz sim c o n x = uac ar sz sim c o m x
  | 0, m, x, hx, hn, _ => by omega
  | n + 1, 0, x, hx, _, hm => by omega
  | n + 1, m + 1, x, hx, hn, hm => by
    rw [uac_s, uac_s]
    congr 1
    refine usum_eq (fun k hk => ?_)
    have g := uch_gt (sz := sz) (x := x) (k := k)
    rw [uac_fuel h n m ((uch sz) x k) (uch_in h hx hk).2.1 (by omega) (by omega)]
theorem uac_eq (h : uT N n1 ar sz) {c x : Nat} {o : Nat → Nat} (hx : x < N) : uac ar sz sim c o N x = c + usum (fun k => @ite _ (uop ar sz sim x k) (Classical.propDecidable _) (o ((uch sz) x k)) (uac ar sz sim c o N ((uch sz) x k))) (ar x) := by
  rw [uac_fuel h N (N + 1) x hx (by omega) (by omega), uac_s]
theorem uac_add {c c' : Nat} {o o' : Nat → Nat} : ∀ {n x : Nat}, uac ar sz sim (c + c') (fun z => o z + o' z) n x = uac ar sz sim c o n x + uac ar sz sim c' o' n x
  | 0, _ => rfl
  | n + 1, x => by
    rw [uac_s, uac_s, uac_s]
    have : ∀ a b a' b' : Nat, (a + a') + (b + b') = a + b + (a' + b') := fun a b a' b' => by omega
    rw [← this, ← usum_add]
    congr 1
    refine usum_eq (fun k _ => ?_)
    by_cases q : uop ar sz sim x k
    · rw [if_pos q, if_pos q, if_pos q]
    · rw [if_neg q, if_neg q, if_neg q, uac_add]
theorem uac_mul {d : Nat} {o : Nat → Nat} : ∀ {n x : Nat}, uac ar sz sim 0 (fun z => o z * d) n x = uac ar sz sim 0 o n x * d
  | 0, _ => by simp [uac]
  | n + 1, x => by
    rw [uac_s, uac_s, Nat.zero_add, Nat.zero_add, ← usum_mul]
    refine usum_eq (fun k _ => ?_)
    by_cases q : uop ar sz sim x k
    · rw [if_pos q, if_pos q]
    · rw [if_neg q, if_neg q, uac_mul]
theorem uac_zero : ∀ {n x : Nat}, uac ar sz sim 0 (fun _ => 0) n x = 0
  | 0, _ => rfl
  | n + 1, x => by
    rw [uac_s, Nat.zero_add]
    refine Eq.trans (usum_eq (g' := fun _ => 0) (fun k _ => ?_)) usum_zero
    by_cases q : uop ar sz sim x k
    · rw [if_pos q]
    · rw [if_neg q, uac_zero]
theorem uac_lsum {g : Nat → Nat → Nat} {n x : Nat} : ∀ {Z : List Nat}, uac ar sz sim 0 (fun z => lsum (fun q => g q z) Z) n x = lsum (fun q => uac ar sz sim 0 (g q) n x) Z
  | [] => by
    simp only [lsum]
    exact uac_zero
  | y :: Z => by
    simp only [lsum]
    rw [show (0 : Nat) = 0 + 0 from rfl, uac_add, uac_lsum]
/-- no place but the roots is as long as they are -/
theorem uL_sub (h : uT N n1 ar sz) (s : uSS N n1 ar sz L sim) : ∀ (m x z : Nat), sz x ≤ m → x < N → x < z → z < x + sz x → L z < L x
  | 0, x, z, hm, _, _, _ => by
    have := h.1 x
    omega
  | m + 1, x, z, hm, hx, h1, h2 => by
    obtain ⟨k, k1, k2, k3⟩ := uch_at h hx h1 h2
    obtain ⟨i1, i2, i3⟩ := uch_in h hx k1
    have g := uch_gt (sz := sz) (x := x) (k := k)
    have e := s.le hx (by omega)
    have e2 := usum_ge (g := fun k => L ((uch sz) x k)) k1
    have e3 : L ((uch sz) x k) < L x := by omega
    rcases Nat.lt_or_ge ((uch sz) x k) z with q | q
    · have := uL_sub h s m ((uch sz) x k) z (by omega) i2 q k3
      omega
    · rw [show z = (uch sz) x k by omega]; exact e3
theorem uL_ch (s : uSS N n1 ar sz L sim) {x k : Nat} (hx : x < N) (hk : k < ar x) : L ((uch sz) x k) < L x := by
  have e := s.le hx (by omega)
  have e2 := usum_ge (g := fun k => L ((uch sz) x k)) hk
  omega
theorem u_nr (h : uT N n1 ar sz) (s : uSS N n1 ar sz L sim) {z : Nat} (hz : z < N) (z0 : z ≠ 0) (z1 : z ≠ n1) : ¬ sim 0 z := fun q => by
  have h' := h
  obtain ⟨_, _, r1, r2, r3, r4⟩ := h'
  have e0 := s.ln q (by omega)
  have e1 := s.ln s.rt (by omega)
  rcases Nat.lt_or_ge z n1 with c | c
  · have := uL_sub h s _ 0 z (Nat.le_refl _) (by omega) (by omega) (by omega)
    omega
  · have := uL_sub h s _ n1 z (Nat.le_refl _) r2 (by omega) (by omega)
    omega
/-- a part is in no root's class -/
theorem u_ns (h : uT N n1 ar sz) (s : uSS N n1 ar sz L sim) {x k : Nat} (hx : x < N) (hk : k < ar x) : ¬ sim 0 ((uch sz) x k) :=
  u_nr h s (uch_in h hx hk).2.1 (uch_root h hx hk).1 (uch_root h hx hk).2
/-- what is like a closed slot's part is a part of the same slot -/
theorem u_cl (h : uT N n1 ar sz) (s : uSS N n1 ar sz L sim) {x k w : Nat} (hx : x < N) (hk : k < ar x) (hc : ¬ uop ar sz sim x k) (hw : sim ((uch sz) x k) w) : ∃ y, sim x y ∧ 0 < ar y ∧ (uch sz) y k = w := by
  have ka : ∀ y, sim x y → 0 < ar y → y < N ∧ k < ar y := fun y q1 q2 => ⟨s.lt q1 hx, by rw [← s.aa q1 hx (by omega) q2]; exact hk⟩
  refine (s.least (fun w => ∃ y, sim x y ∧ 0 < ar y ∧ (uch sz) y k = w) ?_ ?_ ?_ ?_ hw).mp ⟨x, s.rfl x, by omega, rfl⟩
  · rintro ⟨y, y1, y2, y3⟩
    obtain ⟨a, b⟩ := ka y y1 y2
    exact (uch_root h a b).1 y3
  · rintro ⟨y, y1, y2, y3⟩
    obtain ⟨a, b⟩ := ka y y1 y2
    exact (uch_root h a b).2 y3
  · rintro v hv hv0 ⟨y, y1, y2, y3⟩
    exact hc ⟨y, y1, y2, by rw [y3]; exact hv0⟩
  · intro a b j hab ha a1 b1 hj
    have hb := s.lt hab ha
    have hjb : j < ar b := by rw [← s.aa hab ha a1 b1]; exact hj
    constructor
    · rintro ⟨y, y1, y2, y3⟩
      obtain ⟨c1, c2⟩ := ka y y1 y2
      obtain ⟨e1, e2⟩ := uch_inj h c1 ha c2 hj y3
      subst e1; subst e2
      exact ⟨b, s.tr y1 hab, b1, rfl⟩
    · rintro ⟨y, y1, y2, y3⟩
      obtain ⟨c1, c2⟩ := ka y y1 y2
      obtain ⟨e1, e2⟩ := uch_inj h c1 hb c2 hjb y3
      subst e1; subst e2
      exact ⟨a, s.tr y1 (s.sym hab), a1, rfl⟩
theorem u_clin (h : uT N n1 ar sz) (s : uSS N n1 ar sz L sim) {x k : Nat} (hx : x < N) (hk : k < ar x) (hc : ¬ uop ar sz sim x k) : uin ar sim ((uch sz) x k) :=
  ⟨fun w hw => by
    obtain ⟨y, y1, y2, y3⟩ := u_cl h s hx hk hc hw
    rw [← y3]
    exact uop_cl s hc y1 y2, u_ns h s hx hk⟩
theorem uin_sim (s : uSS N n1 ar sz L sim) {x y : Nat} (h : sim x y) (hx : uin ar sim x) : uin ar sim y :=
  ⟨fun z hz => hx.1 z (s.tr h hz), fun q => hx.2 (s.tr q (s.sym h))⟩
/-- like places gather alike -/
theorem uac_sim (h : uT N n1 ar sz) (s : uSS N n1 ar sz L sim) {c : Nat} {o : Nat → Nat} (ho : ∀ x y, sim x y → x < N → o x = o y) : ∀ {n x y : Nat}, sim x y → x < N → 0 < ar x → 0 < ar y → uac ar sz sim c o n x = uac ar sz sim c o n y
  | 0, _, _, _, _, _, _ => rfl
  | n + 1, x, y, hs, hx, h1, h2 => by
    rw [uac_s, uac_s, s.aa hs hx h1 h2]
    congr 1
    refine usum_eq (fun k hk => ?_)
    have hk' : k < ar x := by rw [s.aa hs hx h1 h2]; exact hk
    have d := s.dn hs hx h1 h2 hk'
    by_cases q : uop ar sz sim x k
    · rw [if_pos q, if_pos ((uop_sim s hs).mp q), ho _ _ d (uch_in h hx hk').2.1]
    · rw [if_neg q, if_neg (fun z => q ((uop_sim s hs).mpr z)), uac_sim h s ho d (uch_in h hx hk').2.1 (uop_cl s q (s.rfl x) h1) (uop_cl s q hs h2)]
/-- more at each open slot, more in all -/
theorem uac_mono (h : uT N n1 ar sz) (s : uSS N n1 ar sz L sim) {c : Nat} {o o' : Nat → Nat} (ho : ∀ v, v < N → (∃ y, sim v y ∧ ar y = 0) → ¬ sim 0 v → o v ≤ o' v) : ∀ {n x : Nat}, x < N → uac ar sz sim c o n x ≤ uac ar sz sim c o' n x
  | 0, _, _ => Nat.le_refl _
  | n + 1, x, hx => by
    rw [uac_s, uac_s]
    refine Nat.add_le_add_left (usum_le (fun k hk => ?_)) _
    by_cases q : uop ar sz sim x k
    · rw [if_pos q, if_pos q]
      obtain ⟨y, y1, y2, y3⟩ := q
      exact ho _ (uch_in h hx hk).2.1 ⟨_, s.dn y1 hx (by omega) y2 hk, y3⟩ (u_ns h s hx hk)
    · rw [if_neg q, if_neg q]
      exact uac_mono h s ho (uch_in h hx hk).2.1
/-- the length over a region -/
theorem uac_L (h : uT N n1 ar sz) (s : uSS N n1 ar sz L sim) : ∀ (m x : Nat), N - x ≤ m → x < N → 0 < ar x → uac ar sz sim 1 L N x = L x
  | 0, x, hm, hx, _ => by omega
  | m + 1, x, hm, hx, h1 => by
    rw [uac_eq h hx, s.le hx h1]
    congr 1
    refine usum_eq (fun k hk => ?_)
    by_cases q : uop ar sz sim x k
    · rw [if_pos q]
    · have g := uch_gt (sz := sz) (x := x) (k := k)
      rw [if_neg q, uac_L h s m ((uch sz) x k) (by omega) (uch_in h hx hk).2.1 (uop_cl s q (s.rfl x) h1)]
/-- classes and open slots of a region -/
theorem uac_t (h : uT N n1 ar sz) {x : Nat} (hx : x < N) : 1 ≤ uac ar sz sim 1 (fun _ => 0) N x := by
  rw [uac_eq h hx]; omega
theorem uac_a (h : uT N n1 ar sz) (s : uSS N n1 ar sz L sim) : ∀ (m x : Nat), N - x ≤ m → x < N → 0 < ar x → 1 ≤ uac ar sz sim 0 (fun _ => 1) N x ∧ uac ar sz sim 0 (fun _ => 1) N x ≤ 2 * uac ar sz sim 1 (fun _ => 0) N x + 1
  | 0, x, hm, hx, _ => by omega
  | m + 1, x, hm, hx, h1 => by
    have key : ∀ k, k < ar x → 1 ≤ (@ite _ (uop ar sz sim x k) (Classical.propDecidable _) 1 (uac ar sz sim 0 (fun _ => 1) N ((uch sz) x k))) ∧ (@ite _ (uop ar sz sim x k) (Classical.propDecidable _) 1 (uac ar sz sim 0 (fun _ => 1) N ((uch sz) x k))) ≤ (@ite _ (uop ar sz sim x k) (Classical.propDecidable _) 0 (uac ar sz sim 1 (fun _ => 0) N ((uch sz) x k))) * 2 + 1 := fun k hk => by
      by_cases q : uop ar sz sim x k
      · rw [if_pos q, if_pos q]; omega
      · have g := uch_gt (sz := sz) (x := x) (k := k)
        have := uac_a h s m ((uch sz) x k) (by omega) (uch_in h hx hk).2.1 (uop_cl s q (s.rfl x) h1)
        rw [if_neg q, if_neg q]; omega
    rw [uac_eq h hx, uac_eq h hx, Nat.zero_add]
    refine ⟨Nat.le_trans (key 0 h1).1 (usum_ge (g := fun k => @ite _ (uop ar sz sim x k) (Classical.propDecidable _) 1 (uac ar sz sim 0 (fun _ => 1) N ((uch sz) x k))) h1), ?_⟩
    have b := usum_le (fun k hk => (key k hk).2)
    rw [usum_add, usum_mul, usum_const] at b
    have := (h.2.1 x hx).2.2
    omega
/-- what an open slot points to is shorter -/
theorem uac_dec (h : uT N n1 ar sz) (s : uSS N n1 ar sz L sim) {y : Nat} : ∀ {n x : Nat}, x < N → 0 < uac ar sz sim 0 (fun z => uid (sim y z)) n x → L y < L x
  | 0, x, _, h0 => absurd h0 (Nat.lt_irrefl _)
  | n + 1, x, hx, h0 => by
    rw [uac_s, Nat.zero_add] at h0
    refine Classical.byContradiction fun c => ?_
    have : usum (fun k => @ite _ (uop ar sz sim x k) (Classical.propDecidable _) (uid (sim y ((uch sz) x k))) (uac ar sz sim 0 (fun z => uid (sim y z)) n ((uch sz) x k))) (ar x) ≤ usum (fun _ => 0) (ar x) := usum_le (fun k hk => by
      have lt := uL_ch s hx hk
      by_cases q : uop ar sz sim x k
      · rw [if_pos q]
        rw [uid_f (fun z => by
          have := s.ln (s.sym z) (uch_in h hx hk).2.1
          omega)]
        exact Nat.le_refl _
      · rw [if_neg q]
        rcases Nat.eq_zero_or_pos (uac ar sz sim 0 (fun z => uid (sim y z)) n ((uch sz) x k)) with w | w
        · rw [w]; exact Nat.le_refl _
        · have := uac_dec h s (uch_in h hx hk).2.1 w
          omega)
    rw [usum_zero] at this
    omega
end UF
