/-! ===== new rows, new claims ===== -/
theorem zuG_nf {G : Nat → Int → Option Nat} {a b : Nat} {k : Int} {v : Option Nat} (h : b ≠ a) : zuG G a k v b = G b := funext fun j => if_neg (fun q => h q.1)
theorem zclG_nf {G : Nat → Int → Option Nat} {a b : Nat} (h : b ≠ a) : zclG G a b = G b := funext fun j => if_neg h
theorem zclE_nf {E : Nat → Int → Int} {a b : Nat} (h : b ≠ a) : zclE E a b = E b := funext fun j => if_neg h
theorem zsl_ap2 {d e : List Nat} : zsl (d ++ e) = zsl d + zsl e := by
  unfold zsl; rw [List.map_append, List.sum_append]
theorem zsl_cs {a : Nat} {d : List Nat} : zsl (a :: d) = (zkd a).2 + zsl d := by
  unfold zsl; rw [List.map_cons, List.sum_cons]
theorem zsl_nl : zsl [] = 0 := rfl
theorem zkd_q {c j : Nat} (hc : c < 150) (hj : j < 11) : zkd (qn c + j) = zclm.getD j zno := by
  have e : (qn c + j - 200) % 20 = j := by unfold qn; omega
  unfold zkd
  rw [if_neg (by unfold qn; omega), if_neg (by unfold qn; omega), if_neg (by unfold qn; omega), if_pos (by unfold qn; omega), e]
theorem zst3_q {c j : Nat} : ¬ zst3 (qn c + j) := by unfold zst3 qn; omega
section QM
variable {d : List Nat} {G : Nat → Int → Option Nat} {E : Nat → Int → Int}
theorem rowInit_ok {r : Nat} (hk0 : zkd r = (8, 5)) (hk1 : zkd (r + 1) = (0, 180)) (hk2 : zkd (r + 2) = (0, 7)) (hk3 : zkd (r + 3) = (1, 6)) (hr : r ∈ d) (f1 : r + 1 ∉ d) (f2 : r + 2 ∉ d) (f3 : r + 3 ∉ d) (hz : 194 < r) :
    ∃ (G' : Nat → Int → Option Nat) (E' : Nat → Int → Int), zM zm_X5_init [zR r] (d, G, E) none (d ++ [r + 1, r + 2, r + 3], G', E') ∧ zRk (d ++ [r + 1, r + 2, r + 3]) G' r ∧ (∀ x : Nat, x ≠ r → x ≠ r + 1 → x ≠ r + 2 → x ≠ r + 3 → G' x = G x ∧ E' x = E x) := by
  let G1 := zuG (zclG G (r + 1)) r 0 (some (r + 1))
  let G2 := zuG (zclG G1 (r + 2)) r 1 (some (r + 2))
  let G3 := zuG (zclG G2 (r + 3)) r 2 (some (r + 3))
  let E3 := zclE (zclE (zclE E (r + 1)) (r + 2)) (r + 3)
  let E5 := zuE (zuE E3 r 3 0) r 4 0
  have st : ∀ j : Nat, ¬ zst3 (r + j) := fun j => by unfold zst3; omega
  have g1 : G1 r 0 = some (r + 1) := zuG_same
  have g2 : ∀ k : Int, k ≠ 1 → G2 r k = G1 r k := fun k hk => by
    refine (zuG_ix hk).trans ?_
    rw [zclG_nf (by omega)]
  have g3 : ∀ k : Int, k ≠ 2 → G3 r k = G2 r k := fun k hk => by
    refine (zuG_ix hk).trans ?_
    rw [zclG_nf (by omega)]
  refine ⟨G3, E5, zM_of rfl (Nat.le_of_ble_eq_true rfl) ⟨by simp, by simp only [zsl_ap2, zsl_cs, zsl_nl]; omega⟩ (X5_init_0 hk0 hr ⟨r + 1, hk1, by omega, by omega, f1, st 1, by simp, ?_, fun d1 G1' E1 e1 e2 e3 G1'' e4 => ⟨r + 2, hk2, by omega, by omega, ?_, st 2, ?_, ?_, fun d2 G2' E2 e5 e6 e7 G2'' e8 => ⟨r + 3, hk3, by omega, by omega, ?_, st 3, ?_, ?_, fun d3 G3' E3' e9 e10 e11 G3'' e12 E4' e13 E5' e14 => ?_⟩⟩⟩), ⟨hk0, hk1, hk2, hk3, by simp [hr], by simp, by simp, by simp, ?_, ?_, ?_⟩, fun x x0 x1 x2 x3 => ⟨?_, ?_⟩⟩
  · simp only [zsl_ap2, zsl_cs, zsl_nl]; omega
  · rw [e1]; simp; exact f2
  · rw [e1]; simp
  · rw [e1]; simp only [zsl_ap2, zsl_cs, zsl_nl]; omega
  · rw [e5, e1]; simp; exact f3
  · rw [e5, e1]; simp
  · rw [e5, e1]; simp only [zsl_ap2, zsl_cs, zsl_nl]; omega
  · refine ⟨rfl, ?_⟩
    rw [e9, e5, e1, e14, e13, e12, e11, e10, e8, e7, e6, e4, e3, e2]
    simp
    exact ⟨rfl, rfl⟩
  · rw [g3 0 (by decide), g2 0 (by decide)]; exact g1
  · rw [g3 1 (by decide)]; exact zuG_same
  · exact zuG_same
  · exact (zuG_nf x0).trans ((zclG_nf x3).trans ((zuG_nf x0).trans ((zclG_nf x2).trans ((zuG_nf x0).trans (zclG_nf x1)))))
  · exact (zuE_nf x0).trans ((zuE_nf x0).trans ((zclE_nf x3).trans ((zclE_nf x2).trans (zclE_nf x1))))
/-- the names of a new claim -/
def qd (c : Nat) : List Nat := [qn c, qn c + 1, qn c + 1 + 1, qn c + 1 + 2, qn c + 1 + 3, qn c + 5, qn c + 6]
theorem claimInit_ok {c : Nat} (hc : c < 150) (hq : qn c ∈ d) (fr : ∀ j : Nat, 1 ≤ j → j < 11 → qn c + j ∉ d) :
    ∃ (G' : Nat → Int → Option Nat) (E' : Nat → Int → Int), zM zm_X1_init [zR (qn c)] (d, G, E) none (d ++ [qn c + 1] ++ [qn c + 1 + 1, qn c + 1 + 2, qn c + 1 + 3] ++ [qn c + 5] ++ [qn c + 6], G', E') ∧ zCk (d ++ [qn c + 1] ++ [qn c + 1 + 1, qn c + 1 + 2, qn c + 1 + 3] ++ [qn c + 5] ++ [qn c + 6]) G' (qn c) ∧ G' (qn c) 1 = none ∧ (∀ x : Nat, x ∉ qd c → G' x = G x ∧ E' x = E x) := by
  have k0 : zkd (qn c) = (4, 14) := zkd_q (j := 0) hc (by omega)
  have k1 : zkd (qn c + 1) = (8, 5) := zkd_q (j := 1) hc (by omega)
  have k2 : zkd (qn c + 2) = (0, 180) := zkd_q (j := 2) hc (by omega)
  have k3 : zkd (qn c + 3) = (0, 7) := zkd_q (j := 3) hc (by omega)
  have k4 : zkd (qn c + 4) = (1, 6) := zkd_q (j := 4) hc (by omega)
  have k5 : zkd (qn c + 5) = (0, 7) := zkd_q (j := 5) hc (by omega)
  have k6 : zkd (qn c + 6) = (0, 32) := zkd_q (j := 6) hc (by omega)
  have q0 : 200 ≤ qn c := by unfold qn; omega
  have st : ∀ j : Nat, ¬ zst3 (qn c + j) := fun j => zst3_q
  obtain ⟨G2, E2, m2, r2, s2⟩ := rowInit_ok (d := d ++ [qn c + 1]) (G := zclG G (qn c + 1)) (E := zclE E (qn c + 1)) (r := qn c + 1) k1 k2 k3 k4 (by simp) (by simp; exact fr 2 (by omega) (by omega)) (by simp; exact fr 3 (by omega) (by omega)) (by simp; exact fr 4 (by omega) (by omega)) (by omega)
  let G4 := zuG (zuG G2 (qn c) 0 (some (qn c + 1))) (qn c) 1 none
  let G6 := zuG (zclG G4 (qn c + 5)) (qn c) 2 (some (qn c + 5))
  let G8 := zuG (zclG G6 (qn c + 6)) (qn c) 3 (some (qn c + 6))
  let E8 := zclE (zclE E2 (qn c + 5)) (qn c + 6)
  let E9 := zuE (zuE (zuE (zuE (zuE (zuE (zuE (zuE (zuE (zuE E8 (qn c) 4 0) (qn c) 5 0) (qn c) 6 0) (qn c) 7 (-1)) (qn c) 8 0) (qn c) 9 (-1)) (qn c) 10 0) (qn c) 11 0) (qn c) 12 0) (qn c) 13 0
  have nG : ∀ x : Nat, x ≠ qn c → x ≠ qn c + 5 → x ≠ qn c + 6 → G8 x = G2 x := fun x h0 h5 h6 => (zuG_nf h0).trans ((zclG_nf h6).trans ((zuG_nf h0).trans ((zclG_nf h5).trans ((zuG_nf h0).trans (zuG_nf h0)))))
  have nE : ∀ x : Nat, x ≠ qn c → x ≠ qn c + 5 → x ≠ qn c + 6 → E9 x = E2 x := fun x h0 h5 h6 => (zuE_nf h0).trans ((zuE_nf h0).trans ((zuE_nf h0).trans ((zuE_nf h0).trans ((zuE_nf h0).trans ((zuE_nf h0).trans ((zuE_nf h0).trans ((zuE_nf h0).trans ((zuE_nf h0).trans ((zuE_nf h0).trans ((zclE_nf h6).trans (zclE_nf h5)))))))))))
  have a8 : ∀ k : Int, k ≠ 3 → G8 (qn c) k = G6 (qn c) k := fun k hk => by
    refine (zuG_ix hk).trans ?_
    rw [zclG_nf (by omega)]
  have a6 : ∀ k : Int, k ≠ 2 → G6 (qn c) k = G4 (qn c) k := fun k hk => by
    refine (zuG_ix hk).trans ?_
    rw [zclG_nf (by omega)]
  refine ⟨G8, E9, zM_of rfl (Nat.le_of_ble_eq_true rfl) ⟨by simp, by simp only [zsl_ap2, zsl_cs, zsl_nl]; omega⟩ (X1_init_0 k0 hq ⟨qn c + 1, by rw [k1], fr 1 (by omega) (by omega), st 1, by simp, ?_, fun d1 G1 E1 e1 e2 e3 => ⟨d ++ [qn c + 1] ++ [qn c + 1 + 1, qn c + 1 + 2, qn c + 1 + 3], G2, E2, by rw [e1, e2, e3]; exact m2, Or.inr ⟨by simp, by simp only [zsl_ap2, zsl_cs, zsl_nl]; omega⟩, by simp [hq], by simp, fun G3 e4 G4' e5 => ⟨qn c + 5, k5, by omega, by omega, ?_, st 5, by simp, ?_, fun d3 G5 E5 e6 e7 e8 G6' e9 => ⟨qn c + 6, k6, by omega, by omega, ?_, st 6, ?_, ?_, fun d4 G7 E7 e10 e11 e12 G8' e13 A1 b1 A2 b2 A3 b3 A4 b4 A5 b5 A6 b6 A7 b7 A8 b8 A9 b9 A10 b10 => ?_⟩⟩⟩⟩), ?_, ?_, fun x hx => ?_⟩
  · simp only [zsl_ap2, zsl_cs, zsl_nl]; omega
  · simp; exact fr 5 (by omega) (by omega)
  · simp only [zsl_ap2, zsl_cs, zsl_nl]; omega
  · rw [e6]; simp; exact fr 6 (by omega) (by omega)
  · rw [e6]; simp
  · rw [e6]; simp only [zsl_ap2, zsl_cs, zsl_nl]; omega
  · refine ⟨rfl, ?_⟩
    rw [e10, e6, b10, b9, b8, b7, b6, b5, b4, b3, b2, b1, e13, e12, e11, e9, e8, e7, e5, e4]
  · refine ⟨k0, by simp [hq], ?_, ?_, k5, by simp, ?_, k6, by simp, zuG_same⟩
    · obtain ⟨z1, z2, z3, z4, z5, z6, z7, z8, z9, z10, z11⟩ := r2
      refine ⟨z1, z2, z3, z4, by simp, by simp, by simp, by simp, ?_, ?_, ?_⟩
      · rw [nG _ (by omega) (by omega) (by omega)]; exact z9
      · rw [nG _ (by omega) (by omega) (by omega)]; exact z10
      · rw [nG _ (by omega) (by omega) (by omega)]; exact z11
    · rw [a8 0 (by decide), a6 0 (by decide)]
      exact (zuG_ix (by decide)).trans zuG_same
    · rw [a8 2 (by decide)]; exact zuG_same
  · rw [a8 1 (by decide), a6 1 (by decide)]; exact zuG_same
  · unfold qd at hx
    simp at hx
    obtain ⟨x0, x1, x2, x3, x4, x5, x6⟩ := hx
    have s := s2 x x1 x2 x3 x4
    exact ⟨(nG x x0 x5 x6).trans (s.1.trans (zclG_nf x1)), (nE x x0 x5 x6).trans (s.2.trans (zclE_nf x1))⟩
/-- which claims are made; which of them have a source -/
def alo (d : List Nat) (G : Nat → Int → Option Nat) (M : Nat) : Prop := M ≤ 150 ∧ (∀ c : Nat, c < M → G 6 c = some (qn c) ∧ zCk d G (qn c) ∧ (G (qn c) 1 = some (qn c + 7) ∧ zRk d G (qn c + 7) ∨ G (qn c) 1 = none ∧ ∀ j : Nat, 7 ≤ j → j < 11 → qn c + j ∉ d)) ∧ ∀ c : Nat, M ≤ c → c < 150 → G 6 c = none ∧ ∀ j : Nat, j < 11 → qn c + j ∉ d
theorem zK_upX {d' : List Nat} {G' : Nat → Int → Option Nat} (h : zK zXt d G) (hd : ∀ x, x ∈ d → x ∈ d') (hG : ∀ x : Nat, x < 100 → x ≠ 6 → G' x = G x) : zK zXt d' G' := by
  intro x hx
  obtain ⟨a, b, c⟩ := h x hx
  have hh : ∀ y ∈ zXt, y.1 < 100 ∧ y.1 ≠ 6 := by decide
  have := hh x hx
  rw [hG _ this.1 this.2]
  exact ⟨a, hd _ b, hd _ c⟩
theorem zK_upM {d' : List Nat} {G' : Nat → Int → Option Nat} (h : zK zMt d G) (hd : ∀ x, x ∈ d → x ∈ d') (hG : ∀ x : Nat, x < 100 → x ≠ 6 → G' x = G x) : zK zMt d' G' := by
  intro x hx
  obtain ⟨a, b, c⟩ := h x hx
  have hh : ∀ y ∈ zMt, y.1 < 100 ∧ y.1 ≠ 6 := by decide
  have := hh x hx
  rw [hG _ this.1 this.2]
  exact ⟨a, hd _ b, hd _ c⟩
theorem zRk_up {d' : List Nat} {G' : Nat → Int → Option Nat} {r : Nat} (h : zRk d G r) (hd : ∀ x, x ∈ d → x ∈ d') (hG : G' r = G r) : zRk d' G' r := by
  obtain ⟨a1, a2, a3, a4, a5, a6, a7, a8, a9, a10, a11⟩ := h
  refine ⟨a1, a2, a3, a4, hd _ a5, hd _ a6, hd _ a7, hd _ a8, ?_, ?_, ?_⟩
  · rw [hG]; exact a9
  · rw [hG]; exact a10
  · rw [hG]; exact a11
theorem zCk_up {d' : List Nat} {G' : Nat → Int → Option Nat} {q : Nat} (h : zCk d G q) (hd : ∀ x, x ∈ d → x ∈ d') (hG : ∀ k : Int, k ≠ 1 → G' q k = G q k) (hG1 : G' (q + 1) = G (q + 1)) : zCk d' G' q := by
  obtain ⟨a1, a2, a3, a4, a5, a6, a7, a8, a9, a10⟩ := h
  refine ⟨a1, hd _ a2, zRk_up a3 hd hG1, ?_, a5, hd _ a6, ?_, a8, hd _ a9, ?_⟩
  · rw [hG 0 (by decide)]; exact a4
  · rw [hG 2 (by decide)]; exact a7
  · rw [hG 3 (by decide)]; exact a10
/-- names each made once -/
def ndp (d : List Nat) : Prop := d.Nodup ∧ ∀ x, x ∈ d → x < 3200
def sbs (d d' : List Nat) : Prop := (∀ x, x ∈ d → x ∈ d') ∧ (ndp d → ndp d')
theorem sbs_r {d : List Nat} : sbs d d := ⟨fun _ h => h, id⟩
theorem sbs_t {d d1 d2 : List Nat} (h : sbs d d1) (h' : sbs d1 d2) : sbs d d2 := ⟨fun x hx => h'.1 x (h.1 x hx), fun q => h'.2 (h.2 q)⟩
theorem ndp_app {d e : List Nat} (h : ndp d) (he : e.Nodup) (h1 : ∀ x, x ∈ e → x ∉ d ∧ x < 3200) : ndp (d ++ e) := by
  refine ⟨List.nodup_append.mpr ⟨h.1, he, fun a ha b hb q => ?_⟩, fun x hx => ?_⟩
  · rw [q] at ha
    exact (h1 b hb).1 ha
  · rcases List.mem_append.mp hx with q | q
    · exact h.2 x q
    · exact (h1 x q).2
/-- room for one more claim -/
theorem add_ok {K M : Nat} (hX : zK zXt d G) (hM : zK zMt d G) (ha : alo d G M) (hK : E 5 4 = K) (hKM : K ≤ M) (hK150 : K < 150) :
    ∃ (d' : List Nat) (G' : Nat → Int → Option Nat) (E' : Nat → Int → Int) (M' : Nat), zM zm_X7_add [zR 5] (d, G, E) (some (zR (qn K))) (d', G', E') ∧ d.length ≤ d'.length ∧ zsl d ≤ zsl d' ∧ sbs d d' ∧ zK zXt d' G' ∧ zK zMt d' G' ∧ alo d' G' M' ∧ K < M' ∧ M ≤ M' ∧ (∀ x : Nat, x ∉ 5 :: qd K → E' x = E x) ∧ E' 5 4 = (K : Int) + 1 ∧ (∀ i : Int, i ≠ 4 → E' 5 i = E 5 i) ∧ E' (qn K) 5 = K ∧ ∀ x : Nat, x < 200 → x ≠ 6 → G' x = G x := by
  obtain ⟨hM150, hold, hnew⟩ := ha
  have q0 : 200 ≤ qn K := by unfold qn; omega
  by_cases hlt : K < M
  · obtain ⟨g6, hck, src⟩ := hold K hlt
    let F1 := zuE E (qn K) 5 K
    let F2 := zuE F1 5 4 ((K : Int) + 1)
    have x1 : F1 5 4 = K := (zuE_ne (by omega) _).trans hK
    refine ⟨d, G, F2, M, zM_e rfl (Nat.le_of_ble_eq_true rfl) (fun kz Q hQ => X7_add_0 hX ⟨fun _ => ?_, fun z => absurd (by omega) z⟩), Nat.le_refl _, Nat.le_refl _, sbs_r, hX, hM, ⟨hM150, hold, hnew⟩, hlt, Nat.le_refl _, fun x hx => ?_, zuE_same, fun i hi => ?_, ?_, fun _ _ _ => rfl⟩
    · rw [hK, g6]
      refine ⟨⟨by omega, by omega⟩, fun _ => ⟨⟨by omega, by omega⟩, qn K, rfl, hck, fun H h => ?_⟩, fun z => absurd (by simp) z⟩
      have eH : H = F1 := h
      rw [eH, x1]
      exact ⟨zin_of (by omega) (by omega), fun H2 h2 => by rw [h2]; exact hQ⟩
    · simp [qd] at hx
      exact (zuE_nf hx.1).trans (zuE_nf hx.2.1)
    · exact (zuE_ix hi).trans (zuE_ne (by omega) _)
    · exact (zuE_ne (by omega) _).trans zuE_same
  · have eKM : K = M := by omega
    subst eKM
    obtain ⟨g6, fr⟩ := hnew K (Nat.le_refl _) hK150
    have kq : zkd (qn K) = (4, 14) := zkd_q (j := 0) hK150 (by omega)
    obtain ⟨G2, E2, m2, ck2, src2, s2⟩ := claimInit_ok (d := d ++ [qn K]) (G := zclG G (qn K)) (E := zclE E (qn K)) (c := K) hK150 (by simp) (fun j j1 j2 => by
      simp
      exact ⟨fr j j2, by omega⟩)
    let D := d ++ [qn K] ++ [qn K + 1] ++ [qn K + 1 + 1, qn K + 1 + 2, qn K + 1 + 3] ++ [qn K + 5] ++ [qn K + 6]
    let G3 := zuG G2 6 K (some (qn K))
    have nq : ∀ x : Nat, x < 200 → x ∉ qd K := fun x hx => by simp [qd]; omega
    have gG : ∀ x : Nat, x ∉ qd K → x ≠ 6 → G3 x = G x := fun x h1 h2 => by
      refine (zuG_nf h2).trans ((s2 x h1).1.trans (zclG_nf ?_))
      intro e; rw [e] at h1; exact h1 (by simp [qd])
    have gE : ∀ x : Nat, x ∉ qd K → E2 x = E x := fun x h1 => by
      refine (s2 x h1).2.trans (zclE_nf ?_)
      intro e; rw [e] at h1; exact h1 (by simp [qd])
    have hd : ∀ x, x ∈ d → x ∈ D := fun x hx => by simp [D, hx]
    have hX1 : zK zXt (d ++ [qn K]) (zclG G (qn K)) := zK_upX hX (fun x hx => by simp [hx]) (fun x h1 h2 => zclG_nf (by omega))
    have hX2 : zK zXt D G2 := zK_upX hX hd (fun x h1 h2 => (s2 x (nq x (by omega))).1.trans (zclG_nf (by omega)))
    have hX3 : zK zXt D G3 := zK_upX hX hd (fun x h1 h2 => gG x (nq x (by omega)) h2)
    have hM3 : zK zMt D G3 := zK_upM hM hd (fun x h1 h2 => gG x (nq x (by omega)) h2)
    have e54 : E2 5 4 = K := by rw [gE 5 (nq 5 (by omega))]; exact hK
    have g6K : G3 6 K = some (qn K) := zuG_same
    have ck3 : zCk D G3 (qn K) := zCk_up ck2 (fun x hx => hx) (fun k _ => by rw [show G3 (qn K) = G2 (qn K) from zuG_nf (by omega)]) (zuG_nf (by omega))
    let F1 := zuE E2 (qn K) 5 K
    let F2 := zuE F1 5 4 ((K : Int) + 1)
    have x1 : F1 5 4 = K := (zuE_ne (by omega) _).trans e54
    have ll : d.length ≤ D.length := by simp [D]
    have eD : D = d ++ qd K := by simp [D, qd]
    have sl : zsl d ≤ zsl D := by simp only [D, zsl_ap2]; omega
    refine ⟨D, G3, F2, K + 1, zM_of rfl (Nat.le_of_ble_eq_true rfl) ⟨ll, sl⟩ (X7_add_0 hX ⟨fun _ => ?_, fun z => absurd (by omega) z⟩), ll, sl, ⟨hd, fun hn => by rw [eD]; exact ndp_app hn (by simp [qd]; omega) (fun x hx => by
      have q3 : qn K < 3190 := by unfold qn; omega
      have f0 := fr 0 (by omega)
      have f1 := fr 1 (by omega)
      have f2 := fr 2 (by omega)
      have f3 := fr 3 (by omega)
      have f4 := fr 4 (by omega)
      have f5 := fr 5 (by omega)
      have f6 := fr 6 (by omega)
      simp only [qd, List.mem_cons, List.not_mem_nil, or_false] at hx
      rcases hx with e | e | e | e | e | e | e <;> subst e
      · exact ⟨f0, by omega⟩
      · exact ⟨f1, by omega⟩
      · exact ⟨f2, by omega⟩
      · exact ⟨f3, by omega⟩
      · exact ⟨f4, by omega⟩
      · exact ⟨f5, by omega⟩
      · exact ⟨f6, by omega⟩)⟩, hX3, hM3, ⟨by omega, fun c hc => ?_, fun c h1 h2 => ?_⟩, by omega, by omega, fun x hx => ?_, zuE_same, fun i hi => ?_, ?_, fun x x1 x6 => gG x (nq x x1) x6⟩
    · rw [hK, g6]
      refine ⟨⟨by omega, by omega⟩, fun z => absurd rfl z, fun _ => ⟨qn K, by rw [kq], fr 0 (by omega), zst3_q (j := 0), by simp [D], ?_, fun d1 G1 E1 e1 e2 e3 => ?_⟩⟩
      · simp only [D, zsl_ap2, zsl_cs, zsl_nl]; omega
      · rw [e1, e2, e3]
        refine ⟨hX1, D, G2, E2, m2, Or.inr ⟨Nat.le_refl _, Nat.le_refl _⟩, by simp [D], hX2, ⟨by omega, by omega⟩, fun G4 e4 => ?_⟩
        rw [e4, e54]
        refine ⟨hX3, ⟨by omega, by omega⟩, qn K, g6K, ck3, fun H h => ?_⟩
        have eH : H = F1 := h
        rw [eH, x1]
        exact ⟨zin_of (by omega) (by omega), fun H2 h2 => ⟨rfl, by rw [h2]⟩⟩
    · rcases (by omega : c < K ∨ c = K) with e | e
      · obtain ⟨a1, a2, a3⟩ := hold c e
        have ne : ∀ j i : Nat, j < 11 → i < 11 → qn c + j ≠ qn K + i := fun j i h1 h2 => by unfold qn; omega
        have nqc : ∀ j : Nat, j < 11 → qn c + j ∉ qd K := fun j hj => by
          have n0 := ne j 0 hj (by omega)
          have n1 := ne j 1 hj (by omega)
          have n2 := ne j 2 hj (by omega)
          have n3 := ne j 3 hj (by omega)
          have n4 := ne j 4 hj (by omega)
          have n5 := ne j 5 hj (by omega)
          have n6 := ne j 6 hj (by omega)
          simp [qd]; omega
        have qc0 : 200 ≤ qn c := by unfold qn; omega
        have gq : G3 (qn c) = G (qn c) := gG _ (nqc 0 (by omega)) (by omega)
        refine ⟨?_, zCk_up a2 hd (fun k _ => by rw [gq]) (gG _ (nqc 1 (by omega)) (by omega)), ?_⟩
        · have : G3 6 c = G2 6 c := zuG_ix (by omega)
          rw [this, (s2 6 (nq 6 (by omega))).1, zclG_nf (by omega)]; exact a1
        · rcases a3 with ⟨b1, b2⟩ | ⟨b1, b2⟩
          · exact Or.inl ⟨by rw [gq]; exact b1, zRk_up b2 hd (gG _ (nqc 7 (by omega)) (by omega))⟩
          · refine Or.inr ⟨by rw [gq]; exact b1, fun j j1 j2 hm => ?_⟩
            rw [eD] at hm
            rcases List.mem_append.1 hm with w | w
            · exact b2 j j1 j2 w
            · exact nqc j j2 w
      · subst e
        refine ⟨g6K, ck3, Or.inr ⟨?_, fun j j1 j2 hm => ?_⟩⟩
        · rw [show G3 (qn c) = G2 (qn c) from zuG_nf (by omega)]; exact src2
        · rw [eD] at hm
          rcases List.mem_append.1 hm with w | w
          · exact fr j j2 w
          · simp [qd] at w
            omega
    · obtain ⟨a1, a2⟩ := hnew c (by omega) h2
      refine ⟨?_, fun j hj hm => ?_⟩
      · have : G3 6 c = G2 6 c := zuG_ix (by omega)
        rw [this, (s2 6 (nq 6 (by omega))).1, zclG_nf (by omega)]; exact a1
      · rw [eD] at hm
        rcases List.mem_append.1 hm with w | w
        · exact a2 j hj w
        · have n0 : ∀ i : Nat, i < 11 → qn c + j ≠ qn K + i := fun i hi => by unfold qn; omega
          have z0 := n0 0 (by omega)
          have z1 := n0 1 (by omega)
          have z2 := n0 2 (by omega)
          have z3 := n0 3 (by omega)
          have z4 := n0 4 (by omega)
          have z5 := n0 5 (by omega)
          have z6 := n0 6 (by omega)
          simp [qd] at w
          omega
    · simp only [List.mem_cons, not_or] at hx
      refine (zuE_nf hx.1).trans ((zuE_nf ?_).trans (gE x hx.2))
      intro e; rw [e] at hx; exact hx.2 (by simp [qd])
    · refine (zuE_ix hi).trans ((zuE_ne (by omega) _).trans ?_)
      rw [gE 5 (nq 5 (by omega))]
    · exact (zuE_ne (by omega) _).trans zuE_same
end QM
