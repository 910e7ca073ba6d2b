/-! ===== the bound: regions against the tables ===== -/
/-- the function places of a class -/
noncomputable def ufp (N : Nat) (ar : Nat → Nat) (sim : Nat → Nat → Prop) (x : Nat) : List Nat := ufl N (fun y => sim x y ∧ 0 < ar y)
/-- a function place in a class with a leaf, not the roots' -/
def uIt (N : Nat) (ar : Nat → Nat) (sim : Nat → Nat → Prop) (x : Nat) : Prop := x < N ∧ 0 < ar x ∧ ¬ sim 0 x ∧ ∃ y, sim x y ∧ ar y = 0
/-- one of each such class -/
noncomputable def uZZ (N : Nat) (ar : Nat → Nat) (sim : Nat → Nat → Prop) : List Nat := ufl N (fun x => uIt N ar sim x ∧ ∀ y, y < x → 0 < ar y → ¬ sim y x)
theorem nodup_mapu {f : Nat → Nat} : ∀ {l : List Nat}, (∀ x y, x ∈ l → y ∈ l → f x = f y → x = y) → l.Nodup → (l.map f).Nodup
  | [], _, _ => List.nodup_nil
  | x :: l, h, hn => by
    have hn' := List.nodup_cons.mp hn
    rw [List.map_cons]
    refine List.nodup_cons.mpr ⟨fun q => ?_, nodup_mapu (fun a b ha hb => h a b (List.mem_cons_of_mem _ ha) (List.mem_cons_of_mem _ hb)) hn'.2⟩
    obtain ⟨y, y1, y2⟩ := List.mem_map.mp q
    have := h y x (List.mem_cons_of_mem _ y1) List.mem_cons_self y2
    rw [this] at y1
    exact hn'.1 y1
theorem nodup_flatu {F : Nat → List Nat} : ∀ {l : List Nat}, l.Nodup → (∀ x, x ∈ l → (F x).Nodup) → (∀ x y z, x ∈ l → y ∈ l → z ∈ F x → z ∈ F y → x = y) → (l.flatMap F).Nodup
  | [], _, _, _ => List.nodup_nil
  | x :: l, hn, h1, h2 => by
    have hn' := List.nodup_cons.mp hn
    rw [List.flatMap_cons]
    refine List.nodup_append.mpr ⟨h1 x List.mem_cons_self, nodup_flatu hn'.2 (fun y hy => h1 y (List.mem_cons_of_mem _ hy)) (fun a b z ha hb => h2 a b z (List.mem_cons_of_mem _ ha) (List.mem_cons_of_mem _ hb)), fun a ha b hb e => ?_⟩
    obtain ⟨y, y1, y2⟩ := List.mem_flatMap.mp hb
    rw [← e] at y2
    have := h2 x y a List.mem_cons_self (List.mem_cons_of_mem _ y1) ha y2
    rw [← this] at y1
    exact hn'.1 y1
theorem lsum_range {g : Nat → Nat} : ∀ {n : Nat}, lsum g (List.range n) = usum g n
  | 0 => rfl
  | n + 1 => by
    rw [List.range_succ, lsum_app, lsum_range]
    rfl
theorem lsum_0 {g : Nat → Nat} {l : List Nat} (h : ∀ x, x ∈ l → g x = 0) : lsum g l = 0 := by
  have : lsum g l ≤ 0 * l.length := lsum_c (fun x hx => Nat.le_of_eq (h x hx))
  omega
section UG
variable {N n1 : Nat} {ar sz L : Nat → Nat} {sim : Nat → Nat → Prop}
theorem ufp_mem {x y : Nat} : y ∈ ufp N ar sim x ↔ y < N ∧ sim x y ∧ 0 < ar y := ufl_mem
theorem ufp_nd {x : Nat} : (ufp N ar sim x).Nodup := ufl_nd
/-- parts of a slot, those that are function places -/
theorem ub1 (h : uT N n1 ar sz) (s : uSS N n1 ar sz L sim) {z : Nat} {o : Nat → Nat} (ho : ∀ w, o w ≤ uid (sim z w ∧ 0 < ar w)) : ∀ (n x : Nat), x < N → 0 < ar x → lsum (uac ar sz sim 0 o n) (ufp N ar sim x) ≤ uac ar sz sim 0 (fun v => uid (sim z v)) n x * ((ufp N ar sim x).length - 1)
  | 0, x, _, _ => by
    rw [lsum_0 (g := uac ar sz sim 0 o 0) (fun _ _ => rfl)]
    exact Nat.zero_le _
  | n + 1, x, hx, h1 => by
    have e1 : lsum (uac ar sz sim 0 o (n + 1)) (ufp N ar sim x) = lsum (fun y => usum (fun k => @ite _ (uop ar sz sim x k) (Classical.propDecidable _) (o ((uch sz) y k)) (uac ar sz sim 0 o n ((uch sz) y k))) (ar x)) (ufp N ar sim x) := lsum_eq (fun y hy => by
      obtain ⟨y1, y2, y3⟩ := ufp_mem.mp hy
      rw [uac_s, Nat.zero_add, s.aa y2 hx h1 y3]
      refine usum_eq (fun k _ => ?_)
      by_cases q : uop ar sz sim x k
      · rw [if_pos q, if_pos ((uop_sim s y2).mp q)]
      · rw [if_neg q, if_neg (fun w => q ((uop_sim s y2).mpr w))])
    rw [e1, usum_lsum, uac_s, Nat.zero_add, ← usum_mul]
    refine usum_le (fun k hk => ?_)
    by_cases q : uop ar sz sim x k
    · rw [if_pos q]
      simp only [if_pos q]
      by_cases w : sim z ((uch sz) x k)
      · obtain ⟨y, y1, y2, y3⟩ := q
        have ym : y ∈ ufp N ar sim x := ufp_mem.mpr ⟨s.lt y1 hx, y1, y2⟩
        rw [uid_t w, Nat.one_mul, lsum_er ym]
        have a0 : o ((uch sz) y k) ≤ 0 := Nat.le_trans (ho _) (by rw [uid_f (fun c => by omega)]; exact Nat.le_refl _)
        have a1 : lsum (fun y => o ((uch sz) y k)) ((ufp N ar sim x).erase y) ≤ 1 * ((ufp N ar sim x).erase y).length := lsum_c (fun v _ => Nat.le_trans (ho _) uid_1)
        rw [List.length_erase_of_mem ym] at a1
        omega
      · rw [uid_f w, Nat.zero_mul]
        refine Nat.le_of_eq (lsum_0 (fun y hy => ?_))
        obtain ⟨y1, y2, y3⟩ := ufp_mem.mp hy
        have a0 := ho ((uch sz) y k)
        rw [uid_f (fun c => w (s.tr c.1 (s.sym (s.dn y2 hx h1 y3 hk))))] at a0
        omega
    · rw [if_neg q]
      simp only [if_neg q]
      have ka : ∀ y, y ∈ ufp N ar sim x → y < N ∧ k < ar y := fun y hy => by
        obtain ⟨y1, y2, y3⟩ := ufp_mem.mp hy
        exact ⟨y1, by rw [← s.aa y2 hx h1 y3]; exact hk⟩
      have ih := ub1 h s ho n ((uch sz) x k) (uch_in h hx hk).2.1 (uop_cl s q (s.rfl x) h1)
      have b1 : lsum (uac ar sz sim 0 o n) ((ufp N ar sim x).map (fun y => (uch sz) y k)) ≤ lsum (uac ar sz sim 0 o n) (ufp N ar sim ((uch sz) x k)) := lsum_sub (nodup_mapu (fun a b ha hb e => (uch_inj h (ka a ha).1 (ka b hb).1 (ka a ha).2 (ka b hb).2 e).1) ufp_nd) (fun v hv => by
        obtain ⟨y, y1, y2⟩ := List.mem_map.mp hv
        obtain ⟨c1, c2, c3⟩ := ufp_mem.mp y1
        rw [← y2]
        exact ufp_mem.mpr ⟨(uch_in h c1 (ka y y1).2).2.1, s.dn c2 hx h1 c3 hk, uop_cl s q c2 c3⟩)
      rw [lsum_map] at b1
      have b2 : lsum (fun _ => 1) (ufp N ar sim ((uch sz) x k)) ≤ lsum (fun _ => 1) ((ufp N ar sim x).map (fun y => (uch sz) y k)) := lsum_sub ufp_nd (fun v hv => by
        obtain ⟨c1, c2, c3⟩ := ufp_mem.mp hv
        obtain ⟨y, y1, y2, y3⟩ := u_cl h s hx hk q c2
        exact List.mem_map.mpr ⟨y, ufp_mem.mpr ⟨s.lt y1 hx, y1, y2⟩, y3⟩)
      rw [lsum_len, lsum_len, List.length_map] at b2
      exact Nat.le_trans b1 (Nat.le_trans ih (Nat.mul_le_mul_left _ (by omega)))
/-- from an inner place to an outer one above it -/
theorem ub2 (h : uT N n1 ar sz) (s : uSS N n1 ar sz L sim) {o : Nat → Nat} : ∀ (m x : Nat), x ≤ m → x < N → 0 < ar x → 1 ≤ uac ar sz sim 0 o N x → ∃ y, y < N ∧ 0 < ar y ∧ ¬ uin ar sim y ∧ 1 ≤ uac ar sz sim 0 o N y := by
  intro m
  induction m with
  | zero =>
    intro x hm hx h1 h2
    refine ⟨x, hx, h1, fun q => q.2 ?_, h2⟩
    rw [show x = 0 by omega]
    exact s.rfl 0
  | succ m ih =>
    intro x hm hx h1 h2
    by_cases q : uin ar sim x
    · obtain ⟨y, k, y1, y2, y3⟩ := uch_nr h hx (fun e => q.2 (by rw [e]; exact s.rfl 0)) (fun e => q.2 (by rw [e]; exact s.rt))
      have g := uch_gt (sz := sz) (x := y) (k := k)
      have cl : ¬ uop ar sz sim y k := fun ⟨v, v1, v2, v3⟩ => by
        have := q.1 ((uch sz) v k) (by rw [← y3]; exact s.dn v1 y1 (by omega) v2 y2)
        omega
      refine ih y (by omega) y1 (by omega) ?_
      rw [uac_eq h y1, Nat.zero_add]
      refine Nat.le_trans ?_ (usum_ge y2)
      show 1 ≤ @ite _ (uop ar sz sim y k) (Classical.propDecidable _) _ _
      rw [if_neg cl, y3]
      exact h2
    · exact ⟨x, hx, h1, q, h2⟩
/-- a function place of a class with a leaf hangs on an open slot -/
theorem ub2a (h : uT N n1 ar sz) (s : uSS N n1 ar sz L sim) {z w : Nat} (hz : uIt N ar sim z) (hw : sim z w) : ∃ y, y < N ∧ 0 < ar y ∧ ¬ uin ar sim y ∧ 1 ≤ uac ar sz sim 0 (fun v => uid (v = w)) N y := by
  obtain ⟨z1, z2, z3, x, x1, x2⟩ := hz
  have wN := s.lt hw z1
  have w0 : ¬ sim 0 w := fun c => z3 (s.tr c (s.sym hw))
  obtain ⟨y, k, y1, y2, y3⟩ := uch_nr h wN (fun e => w0 (by rw [e]; exact s.rfl 0)) (fun e => w0 (by rw [e]; exact s.rt))
  refine ub2 h s y y (Nat.le_refl _) y1 (by omega) ?_
  have op : uop ar sz sim y k := Classical.byContradiction fun c => by
    have := (u_clin h s y1 y2 c).1 x (by rw [y3]; exact s.tr (s.sym hw) x1)
    omega
  rw [uac_eq h y1, Nat.zero_add]
  refine Nat.le_trans ?_ (usum_ge y2)
  show 1 ≤ @ite _ (uop ar sz sim y k) (Classical.propDecidable _) _ _
  rw [if_pos op, uid_t y3]
  exact Nat.le_refl _
theorem uZ_rep (s : uSS N n1 ar sz L sim) : ∀ (m x : Nat), x ≤ m → uIt N ar sim x → ∃ q, q ∈ uZZ N ar sim ∧ sim q x := by
  intro m
  induction m with
  | zero =>
    intro x hm hx
    exact ⟨x, ufl_mem.mpr ⟨hx.1, hx, fun y hy => by omega⟩, s.rfl x⟩
  | succ m ih =>
    intro x hm hx
    by_cases c : ∀ y, y < x → 0 < ar y → ¬ sim y x
    · exact ⟨x, ufl_mem.mpr ⟨hx.1, hx, c⟩, s.rfl x⟩
    · obtain ⟨y, hy⟩ := Classical.not_forall.mp c
      have y1 : y < x := Classical.byContradiction fun q => hy (fun a => absurd a q)
      have y2 : 0 < ar y := Classical.byContradiction fun q => hy (fun _ a => absurd a q)
      have y3 : sim y x := Classical.byContradiction fun q => hy (fun _ _ => q)
      obtain ⟨x1, x2, x3, w, w1, w2⟩ := hx
      obtain ⟨q, q1, q2⟩ := ih y (by omega) ⟨by omega, y2, fun a => x3 (s.tr a y3), w, s.tr y3 w1, w2⟩
      exact ⟨q, q1, s.tr q2 y3⟩
theorem uZ_it {q : Nat} (h : q ∈ uZZ N ar sim) : uIt N ar sim q := (ufl_mem.mp h).2.1
theorem uZ_one (s : uSS N n1 ar sz L sim) {q r : Nat} (hq : q ∈ uZZ N ar sim) (hr : r ∈ uZZ N ar sim) (e : sim q r) : q = r := by
  obtain ⟨_, q1, q2⟩ := ufl_mem.mp hq
  obtain ⟨_, r1, r2⟩ := ufl_mem.mp hr
  rcases Nat.lt_trichotomy q r with c | c | c
  · exact absurd e (r2 q c q1.2.1)
  · exact c
  · exact absurd (s.sym e) (q2 r c r1.2.1)
/-- outer function places are in the classes that we list -/
theorem uQ_all (s : uSS N n1 ar sz L sim) {y : Nat} (hy : y < N) (h1 : 0 < ar y) (h2 : ¬ uin ar sim y) : y ∈ (0 :: uZZ N ar sim).flatMap (ufp N ar sim) := by
  refine List.mem_flatMap.mpr ?_
  by_cases c : sim 0 y
  · exact ⟨0, List.mem_cons_self, ufp_mem.mpr ⟨hy, c, h1⟩⟩
  · have : ∃ w, sim y w ∧ ar w = 0 := Classical.byContradiction fun q => h2 ⟨fun w hw => Nat.pos_of_ne_zero fun e => q ⟨w, hw, e⟩, c⟩
    obtain ⟨q, q1, q2⟩ := uZ_rep s y y (Nat.le_refl _) ⟨hy, h1, c, this⟩
    exact ⟨q, List.mem_cons_of_mem _ q1, ufp_mem.mpr ⟨hy, q2, h1⟩⟩
theorem uQ_nd (s : uSS N n1 ar sz L sim) : ((0 :: uZZ N ar sim).flatMap (ufp N ar sim)).Nodup := by
  have z0 : ∀ q, q ∈ uZZ N ar sim → ¬ sim 0 q := fun q hq => (uZ_it hq).2.2.1
  refine nodup_flatu (List.nodup_cons.mpr ⟨fun q => z0 0 q (s.rfl 0), ufl_nd⟩) (fun _ _ => ufp_nd) (fun x y z hx hy h1 h2 => ?_)
  have e : sim x y := s.tr (ufp_mem.mp h1).2.1 (s.sym (ufp_mem.mp h2).2.1)
  rcases List.mem_cons.mp hx with a | a
  · rcases List.mem_cons.mp hy with b | b
    · rw [a, b]
    · rw [a] at e
      exact absurd e (z0 y b)
  · rcases List.mem_cons.mp hy with b | b
    · rw [b] at e
      exact absurd (s.sym e) (z0 x a)
    · exact uZ_one s a b e
/-- the roots' class has the two roots alone -/
theorem uf0 (h : uT N n1 ar sz) (s : uSS N n1 ar sz L sim) (a0 : 0 < ar 0) (a1 : 0 < ar n1) : (ufp N ar sim 0).length = 2 := by
  have h' := h
  obtain ⟨_, _, r1, r2, r3, r4⟩ := h'
  have nd : [0, n1].Nodup := by
    refine List.nodup_cons.mpr ⟨fun q => ?_, List.nodup_cons.mpr ⟨List.not_mem_nil, List.nodup_nil⟩⟩
    have := List.mem_singleton.mp q
    omega
  have b1 : lsum (fun _ => 1) (ufp N ar sim 0) ≤ lsum (fun _ => 1) [0, n1] := lsum_sub ufp_nd (fun v hv => by
    obtain ⟨c1, c2, c3⟩ := ufp_mem.mp hv
    by_cases v0 : v = 0
    · rw [v0]; exact List.mem_cons_self
    · by_cases v1 : v = n1
      · rw [v1]; exact List.mem_cons_of_mem _ List.mem_cons_self
      · exact absurd c2 (u_nr h s c1 v0 v1))
  have b2 : lsum (fun _ => 1) [0, n1] ≤ lsum (fun _ => 1) (ufp N ar sim 0) := lsum_sub nd (fun v hv => by
    rcases List.mem_cons.mp hv with q | q
    · rw [q]; exact ufp_mem.mpr ⟨by omega, s.rfl 0, a0⟩
    · rw [List.mem_singleton.mp q]; exact ufp_mem.mpr ⟨r2, s.rt, a1⟩)
  rw [lsum_len, lsum_len] at b1 b2
  have : [0, n1].length = 2 := rfl
  omega
/-- a class's function places against the slots that point to it -/
theorem ub3 (h : uT N n1 ar sz) (s : uSS N n1 ar sz L sim) (a0 : 0 < ar 0) (a1 : 0 < ar n1) {z : Nat} (hz : uIt N ar sim z) : (ufp N ar sim z).length ≤ uac ar sz sim 0 (fun v => uid (sim z v)) N 0 + lsum (fun q => uac ar sz sim 0 (fun v => uid (sim z v)) N q * ((ufp N ar sim q).length - 1)) (uZZ N ar sim) := by
  have h' := h
  obtain ⟨_, _, r1, r2, r3, r4⟩ := h'
  have e1 : lsum (fun _ => 1) (ufp N ar sim z) ≤ lsum (fun w => lsum (uac ar sz sim 0 (fun v => uid (v = w)) N) ((0 :: uZZ N ar sim).flatMap (ufp N ar sim))) (ufp N ar sim z) := lsum_le (fun w hw => by
    obtain ⟨y, y1, y2, y3, y4⟩ := ub2a h s hz (ufp_mem.mp hw).2.1
    exact Nat.le_trans y4 (lsum_ge (g := uac ar sz sim 0 (fun v => uid (v = w)) N) (uQ_all s y1 y2 y3)))
  rw [lsum_len, ← lsum_swap, lsum_flat] at e1
  have e2 : ∀ q, q ∈ (0 :: uZZ N ar sim) → lsum (fun y => lsum (fun w => uac ar sz sim 0 (fun v => uid (v = w)) N y) (ufp N ar sim z)) (ufp N ar sim q) ≤ uac ar sz sim 0 (fun v => uid (sim z v)) N q * ((ufp N ar sim q).length - 1) := fun q hq => by
    have hqN : q < N ∧ 0 < ar q := by
      rcases List.mem_cons.mp hq with c | c
      · rw [c]; exact ⟨by omega, a0⟩
      · exact ⟨(uZ_it c).1, (uZ_it c).2.1⟩
    have := ub1 h s (z := z) (o := fun v => lsum (fun w => uid (v = w)) (ufp N ar sim z)) (fun v => by
      by_cases c : sim z v ∧ 0 < ar v
      · rw [uid_t c]
        exact lsum_uid ufp_nd (fun x y _ _ e1 e2 => by rw [← e1, ← e2])
      · rw [uid_f c, lsum_0 (fun w hw => uid_f (fun e => c (by rw [e]; exact (ufp_mem.mp hw).2)))]
        exact Nat.le_refl _) N q hqN.1 hqN.2
    refine Nat.le_trans (Nat.le_of_eq (lsum_eq (fun y _ => ?_))) this
    rw [uac_lsum]
  have e3 := Nat.le_trans e1 (lsum_le e2)
  simp only [lsum] at e3
  rw [uf0 h s a0 a1] at e3
  omega
/-- what a place counts for the slot above it -/
noncomputable def uDD (N : Nat) (ar sz : Nat → Nat) (sim : Nat → Nat → Prop) (x : Nat) : Nat := @ite _ (uin ar sim x) (Classical.propDecidable _) (uac ar sz sim 1 (fun _ => 1) N x) 1
/-- what an outer place costs -/
noncomputable def uBB (N : Nat) (ar sz : Nat → Nat) (sim : Nat → Nat → Prop) (x : Nat) : Nat := @ite _ (uin ar sim x) (Classical.propDecidable _) 0 (uac ar sz sim 1 (fun _ => 1) N x - 1)
theorem uA_dd (h : uT N n1 ar sz) (s : uSS N n1 ar sz L sim) {x : Nat} (hx : x < N) : uac ar sz sim 1 (fun _ => 1) N x = 1 + usum (fun k => uDD N ar sz sim ((uch sz) x k)) (ar x) := by
  rw [uac_eq h hx]
  congr 1
  refine usum_eq (fun k hk => ?_)
  by_cases q : uop ar sz sim x k
  · rw [if_pos q]
    unfold uDD
    rw [if_neg]
    intro c
    obtain ⟨y, y1, y2, y3⟩ := q
    have := c.1 _ (s.dn y1 hx (by omega) y2 hk)
    omega
  · rw [if_neg q]
    unfold uDD
    rw [if_pos (u_clin h s hx hk q)]
/-- what a tree costs -/
theorem uC_tree (h : uT N n1 ar sz) (s : uSS N n1 ar sz L sim) : ∀ (m x : Nat), sz x ≤ m → x < N → usum (uBB N ar sz sim) (x + sz x) + uDD N ar sz sim x ≤ usum (uBB N ar sz sim) x + sz x := by
  intro m
  induction m with
  | zero =>
    intro x hm _
    have := h.1 x
    omega
  | succ m ih =>
    intro x hm hx
    have key : ∀ k, k ≤ ar x → usum (uBB N ar sz sim) ((uch sz) x k) + usum (fun j => uDD N ar sz sim ((uch sz) x j)) k + (x + 1) ≤ usum (uBB N ar sz sim) (x + 1) + (uch sz) x k := by
      intro k
      induction k with
      | zero =>
        intro _
        have : (uch sz) x 0 = x + 1 := rfl
        rw [this]
        simp only [usum]
        omega
      | succ k ihk =>
        intro hk
        have a := ihk (by omega)
        obtain ⟨i1, i2, i3⟩ := uch_in h hx (show k < ar x by omega)
        have g := uch_gt (sz := sz) (x := x) (k := k)
        have b := ih ((uch sz) x k) (by omega) i2
        have e : (uch sz) x (k + 1) = (uch sz) x k + sz ((uch sz) x k) := rfl
        rw [e]
        have e2 : usum (fun j => uDD N ar sz sim ((uch sz) x j)) (k + 1) = usum (fun j => uDD N ar sz sim ((uch sz) x j)) k + uDD N ar sz sim ((uch sz) x k) := rfl
        rw [e2]
        omega
    have a := key (ar x) (Nat.le_refl _)
    rw [(h.2.1 x hx).2.1] at a
    have e : usum (uBB N ar sz sim) (x + 1) = usum (uBB N ar sz sim) x + uBB N ar sz sim x := rfl
    rw [e] at a
    have d := uA_dd h s hx
    by_cases q : uin ar sim x
    · have e1 : uBB N ar sz sim x = 0 := if_pos q
      have e2 : uDD N ar sz sim x = uac ar sz sim 1 (fun _ => 1) N x := if_pos q
      omega
    · have e1 : uBB N ar sz sim x = uac ar sz sim 1 (fun _ => 1) N x - 1 := if_neg q
      have e2 : uDD N ar sz sim x = 1 := if_neg q
      omega
theorem uC_all (h : uT N n1 ar sz) (s : uSS N n1 ar sz L sim) : usum (uBB N ar sz sim) N + 2 ≤ N := by
  have h' := h
  obtain ⟨_, _, r1, r2, r3, r4⟩ := h'
  have a := uC_tree h s _ 0 (Nat.le_refl _) (by omega)
  have b := uC_tree h s _ n1 (Nat.le_refl _) r2
  have e0 : uDD N ar sz sim 0 = 1 := if_neg (fun c => c.2 (s.rfl 0))
  have e1 : uDD N ar sz sim n1 = 1 := if_neg (fun c => c.2 s.rt)
  have e2 : usum (uBB N ar sz sim) 0 = 0 := rfl
  rw [e0, e2, r3, Nat.zero_add] at a
  rw [e1, r4] at b
  omega
/-- the cost of all -/
theorem uC_Z (h : uT N n1 ar sz) (s : uSS N n1 ar sz L sim) (a0 : 0 < ar 0) (a1 : 0 < ar n1) : 2 * (uac ar sz sim 1 (fun _ => 1) N 0 - 1) + lsum (fun z => (ufp N ar sim z).length * (uac ar sz sim 1 (fun _ => 1) N z - 1)) (uZZ N ar sim) + 2 ≤ N := by
  have h' := h
  obtain ⟨_, _, r1, r2, r3, r4⟩ := h'
  have c := uC_all h s
  have b : lsum (uBB N ar sz sim) ((0 :: uZZ N ar sim).flatMap (ufp N ar sim)) ≤ lsum (uBB N ar sz sim) (List.range N) := lsum_sub (uQ_nd s) (fun x hx => by
    obtain ⟨q, q1, q2⟩ := List.mem_flatMap.mp hx
    exact List.mem_range.mpr (ufp_mem.mp q2).1)
  rw [lsum_range, lsum_flat] at b
  have e : ∀ q, q ∈ 0 :: uZZ N ar sim → lsum (uBB N ar sz sim) (ufp N ar sim q) = (ufp N ar sim q).length * (uac ar sz sim 1 (fun _ => 1) N q - 1) := fun q hq => by
    have hqN : q < N ∧ 0 < ar q ∧ ¬ uin ar sim q := by
      rcases List.mem_cons.mp hq with c | c
      · rw [c]; exact ⟨by omega, a0, fun w => w.2 (s.rfl 0)⟩
      · obtain ⟨i1, i2, i3, x, x1, x2⟩ := uZ_it c
        exact ⟨i1, i2, fun w => by
          have := w.1 x x1
          omega⟩
    rw [← lsum_len, ← lsum_mul]
    refine lsum_eq (fun y hy => ?_)
    obtain ⟨y1, y2, y3⟩ := ufp_mem.mp hy
    have : uBB N ar sz sim y = uac ar sz sim 1 (fun _ => 1) N y - 1 := if_neg (fun w => hqN.2.2 (uin_sim s (s.sym y2) w))
    rw [this, Nat.one_mul, uac_sim h s (fun _ _ _ _ => rfl) y2 hqN.1 hqN.2.1 y3]
  rw [lsum_eq e] at b
  simp only [lsum] at b
  rw [uf0 h s a0 a1] at b
  omega
/-- slots to listed classes are slots -/
theorem uL_cnt (h : uT N n1 ar sz) (s : uSS N n1 ar sz L sim) {z : Nat} (hz : z < N) : lsum (fun q => uac ar sz sim 0 (fun v => uid (sim q v)) N z) (uZZ N ar sim) ≤ uac ar sz sim 0 (fun _ => 1) N z := by
  have := uac_mono h s (c := 0) (o := fun v => lsum (fun q => uid (sim q v)) (uZZ N ar sim)) (o' := fun _ => 1) (fun v _ _ _ => lsum_uid ufl_nd (fun x y hx hy e1 e2 => uZ_one s hx hy (s.tr e1 (s.sym e2)))) (n := N) hz
  rw [uac_lsum] at this
  exact this
/-- how long what a region makes is -/
theorem uL_len (h : uT N n1 ar sz) (s : uSS N n1 ar sz L sim) {z : Nat} (hz : z < N) (h1 : 0 < ar z) : L z + lsum (fun q => uac ar sz sim 0 (fun v => uid (sim q v)) N z) (uZZ N ar sim) ≤ lsum (fun q => uac ar sz sim 0 (fun v => uid (sim q v)) N z * L q) (uZZ N ar sim) + (uac ar sz sim 1 (fun _ => 0) N z + uac ar sz sim 0 (fun _ => 1) N z) := by
  have q1 : ∀ v (l : List Nat), (∀ q, q ∈ l → q ∈ uZZ N ar sim) → lsum (fun q => uid (sim q v)) l ≤ lsum (fun q => uid (sim q v) * L q) l := fun v l hl => lsum_le (fun q hq => Nat.le_mul_of_pos_right _ (s.l1 (uZ_it (hl q hq)).1))
  have m := uac_mono h s (c := 1) (o := fun v => L v + lsum (fun q => uid (sim q v)) (uZZ N ar sim)) (o' := fun v => lsum (fun q => uid (sim q v) * L q) (uZZ N ar sim) + (0 + 1)) (fun v hv ⟨y, y1, y2⟩ v0 => by
    by_cases c : ∃ w, sim v w ∧ 0 < ar w
    · obtain ⟨w, w1, w2⟩ := c
      obtain ⟨q, qm, qs⟩ := uZ_rep s w w (Nat.le_refl _) ⟨s.lt w1 hv, w2, fun c => v0 (s.tr c (s.sym w1)), y, s.tr (s.sym w1) y1, y2⟩
      have qv : sim q v := s.tr qs (s.sym w1)
      have e := s.ln qv (uZ_it qm).1
      have := q1 v ((uZZ N ar sim).erase q) (fun x hx => List.mem_of_mem_erase hx)
      rw [lsum_er (g := fun q => uid (sim q v)) qm, lsum_er (g := fun q => uid (sim q v) * L q) qm, uid_t qv]
      omega
    · have e := s.lf hv (fun w hw => Nat.eq_zero_of_not_pos (fun p => c ⟨w, hw, p⟩))
      have := q1 v (uZZ N ar sim) (fun _ hx => hx)
      omega) (n := N) hz
  have l1 := uac_add (ar := ar) (sz := sz) (sim := sim) (c := 1) (c' := 0) (o := L) (o' := fun v => lsum (fun q => uid (sim q v)) (uZZ N ar sim)) (n := N) (x := z)
  have l2 := uac_add (ar := ar) (sz := sz) (sim := sim) (c := 0) (c' := 1) (o := fun v => lsum (fun q => uid (sim q v) * L q) (uZZ N ar sim)) (o' := fun _ => 0 + 1) (n := N) (x := z)
  have l3 := uac_add (ar := ar) (sz := sz) (sim := sim) (c := 1) (c' := 0) (o := fun _ => 0) (o' := fun _ => 1) (n := N) (x := z)
  have m' : uac ar sz sim (1 + 0) (fun v => L v + lsum (fun q => uid (sim q v)) (uZZ N ar sim)) N z ≤ uac ar sz sim (0 + 1) (fun v => lsum (fun q => uid (sim q v) * L q) (uZZ N ar sim) + (0 + 1)) N z := m
  rw [l1, l2, uac_lsum, uac_lsum, uac_L h s _ z (Nat.le_refl _) hz h1] at m'
  have l3' : uac ar sz sim 1 (fun _ => 0 + 1) N z = uac ar sz sim 1 (fun _ => 0) N z + uac ar sz sim 0 (fun _ => 1) N z := l3
  rw [l3', lsum_eq (fun q _ => uac_mul)] at m'
  exact m'
/-- THE BOUND: what stands in a class with a leaf is short -/
theorem uReg (h : uT N n1 ar sz) (s : uSS N n1 ar sz L sim) (hN : N ≤ 60) (a0 : 0 < ar 0) (a1 : 0 < ar n1) {x : Nat} (hx : uIt N ar sim x) : L x ≤ 999999 := by
  have h' := h
  obtain ⟨_, _, r1, r2, r3, r4⟩ := h'
  obtain ⟨q, qm, qs⟩ := uZ_rep s x x (Nat.le_refl _) hx
  have ne : uZZ N ar sim ≠ [] := fun e => by
    rw [e] at qm
    exact absurd qm List.not_mem_nil
  obtain ⟨z1, z11, z12⟩ := ex_max (L := L) ne
  have at3 : ∀ z, uac ar sz sim 1 (fun _ => 1) N z = uac ar sz sim 0 (fun _ => 1) N z + uac ar sz sim 1 (fun _ => 0) N z := fun z => by
    have := uac_add (ar := ar) (sz := sz) (sim := sim) (c := 0) (c' := 1) (o := fun _ => 1) (o' := fun _ => 0) (n := N) (x := z)
    exact this
  have cost := uC_Z h s a0 a1
  rw [at3 0, lsum_eq (g' := fun z => (ufp N ar sim z).length * (uac ar sz sim 0 (fun _ => 1) N z + uac ar sz sim 1 (fun _ => 0) N z - 1)) (fun z _ => by rw [at3 z])] at cost
  obtain ⟨b1, b2⟩ := uac_a h s _ 0 (Nat.le_refl _) (by omega) a0
  have b3 := uac_t (sim := sim) h (x := 0) (by omega)
  have c0 := uL_cnt h s (z := 0) (by omega)
  have go := (Tb_go uTb (L := L) (p := fun z => (ufp N ar sim z).length) (t := fun z => uac ar sz sim 1 (fun _ => 0) N z) (a := fun z => uac ar sz sim 0 (fun _ => 1) N z) (cnt := fun q z => uac ar sz sim 0 (fun v => uid (sim z v)) N q) _ (uZZ N ar sim) rfl (58 - 2 * (uac ar sz sim 0 (fun _ => 1) N 0 + uac ar sz sim 1 (fun _ => 0) N 0 - 1)) (min 12 (uac ar sz sim 0 (fun _ => 1) N 0)) 0 (fun z => uac ar sz sim 0 (fun v => uid (sim z v)) N 0) (fun _ => 0) z1 ufl_nd z11 z12 (by omega) (by omega) (by omega) (by omega) (by
      rw [lsum_0 (g := fun _ => 0) (fun _ _ => rfl)]
      omega) (Or.inr (Nat.le_refl _)) (fun z hz => by
      obtain ⟨i1, i2, _⟩ := uZ_it hz
      obtain ⟨k1, k2⟩ := uac_a h s _ z (Nat.le_refl _) i1 i2
      exact ⟨List.length_pos_of_mem (ufp_mem.mpr ⟨i1, s.rfl z, i2⟩), uac_t h i1, k1, k2⟩) (fun z hz => by
      obtain ⟨i1, i2, _⟩ := uZ_it hz
      have k1 := uL_cnt h s i1
      have k2 := uL_len h s i1 i2
      exact ⟨k1, by omega⟩) (fun z y hz hy p => uac_dec h s (uZ_it hz).1 p) (fun z hz => by
      have := ub3 h s a0 a1 (uZ_it hz)
      exact this)).1
  have e := s.ln qs (uZ_it qm).1
  have e2 := z12 q qm
  have tm := tmn_le b3 b2
  have mono := Tb_Tm uTb (S := min 12 (uac ar sz sim 0 (fun _ => 1) N 0)) (e := 0) (by omega) (by omega) (x := 2 * (uac ar sz sim 1 (fun _ => 0) N 0 - tmn (uac ar sz sim 0 (fun _ => 1) N 0))) (R := 58 - 2 * (uac ar sz sim 0 (fun _ => 1) N 0 + uac ar sz sim 1 (fun _ => 0) N 0 - 1)) (by omega)
  have fin := uTT_s (a := uac ar sz sim 0 (fun _ => 1) N 0) b1 (by omega)
  rw [show 58 - 2 * (uac ar sz sim 0 (fun _ => 1) N 0 + uac ar sz sim 1 (fun _ => 0) N 0 - 1) + 2 * (uac ar sz sim 1 (fun _ => 0) N 0 - tmn (uac ar sz sim 0 (fun _ => 1) N 0)) = 58 - 2 * (uac ar sz sim 0 (fun _ => 1) N 0 + tmn (uac ar sz sim 0 (fun _ => 1) N 0) - 1) by omega] at mono
  omega
end UG
