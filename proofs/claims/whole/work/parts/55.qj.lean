/-! ===== rewriting: the reference, whole ===== -/
section QJ
variable {d : List Nat} {G : Nat → Int → Option Nat} {E : Nat → Int → Int}
theorem rewritesM_ok {K c s j p : Nat} {R : Nat → List zLt} {B : List zLt} (hM : zK zMt d G) (hs : stM E (E 53) (E 54) K R) (hc : c < K) (hr : ruleP (R c)) (hs1 : s ≤ 1) (hP : pok (E 53)) (hW : wok (E 54)) (h2 : E 53 0 = 2) (hB : rowW E B) (rB : rok (E 53) (E 54) B) (hj : j < B.length) (hp : p < (lit B j).2.length) :
    ∃ (x : Int) (E' : Nat → Int → Int), zM zm_X12_rewrites [zR 50, zI (c : Int), zI (s : Int), zI (j : Int), zI (p : Int)] (d, G, E) (some (zI x)) (d, G, E') ∧ fz [50, 76, 80, 81, 85] E E' ∧ (∀ i : Int, i ≠ 35 → E' 50 i = E 50 i) ∧ ((x = 1 ∧ ∃ z, rwz (E 53) (E 54) (sdw (E 53) (R c) s) (odw (E 53) (R c) s) (tat (E 53) (lit B j).2 p) = some z ∧ E' 50 35 = z.length ∧ ∀ k : Nat, k < z.length → E' 85 k = z.getD k 0) ∨ x = 0 ∧ rwz (E 53) (E 54) (sdw (E 53) (R c) s) (odw (E 53) (R c) s) (tat (E 53) (lit B j).2 p) = none) := by
  have h150 := hs.2.1
  have b6 := hB.2.1
  obtain ⟨⟨h61, hF⟩, rk⟩ := hs.2.2 c hc
  obtain ⟨t, u, e1, e2, e3, e4, e5, e6, t1, t2, l1, l2, i1, i2⟩ := rule_parts hP h2 rk.1 hr
  obtain ⟨b1, b2, b3, b4, b5⟩ := hF.2 0 (by rw [hr.1]; omega)
  have e60 : 6 * (c : Int) + ((0 : Nat) : Int) = 6 * c := by omega
  have e18 : 30 * (6 * (c : Int)) = 180 * c := by omega
  rw [e60] at b1 b2 b5
  rw [e18] at b5
  have lo := rk.2.1 0 (by rw [hr.1]; omega)
  have tv := (rB.1 j hj).1
  obtain ⟨m, m0', m1, m2, m3, m4, m5, m6⟩ := tat_ok hP (v := (lit B j).2) (p := p) tv hp
  obtain ⟨w1, w2, w3, w4, w5⟩ := hB.2.2 j hj
  have wat := lk_tat hP tv hp w5
  have pl : lk (E 58) (180 * (c : Int) + 1) (fw (lft (E 53) (R c))) 0 (lft (E 53) (R c)).length := fun k hk => by
    have a := b5 (1 + k) (by omega)
    have z1 : 180 * (c : Int) + ((1 + k : Nat) : Int) = 180 * (c : Int) + 1 + k := by omega
    have z2 : (0 : Int) + ((1 + k : Nat) : Int) = 1 + k := by omega
    rw [z1, z2] at a
    rw [a, l1 k (by omega)]
  have pr : lk (E 58) (180 * (c : Int) + 1 + t) (fw (rgt (E 53) (R c))) 0 (rgt (E 53) (R c)).length := fun k hk => by
    have a := b5 (1 + t + k) (by omega)
    have z1 : 180 * (c : Int) + ((1 + t + k : Nat) : Int) = 180 * (c : Int) + 1 + t + k := by omega
    have z2 : (0 : Int) + ((1 + t + k : Nat) : Int) = 1 + t + k := by omega
    rw [z1, z2] at a
    rw [a, l2 k (by omega)]
  have tL : tm (E 53) (E 58) (180 * (c : Int) + 1) t := by
    have := tm_congr t1 (fun k hk => (pl k hk).symm)
    rw [e5] at this; exact this
  have me := endOf_ok (E := E) (a := 58) (n := 27000) hM (zM_7 hM).2.2 rfl hP tL (by omega) (by omega) (by omega)
  rcases (by omega : s = 0 ∨ s = 1) with z | z
  · subst z
    have es : sdw (E 53) (R c) 0 = lft (E 53) (R c) := if_pos rfl
    have eo : odw (E 53) (R c) 0 = rgt (E 53) (R c) := if_pos rfl
    rw [es, eo]
    obtain ⟨x, E', go, r⟩ := rewrites_core (E := E) (p := lft (E 53) (R c)) (o := rgt (E 53) (R c)) (w := tat (E 53) (lit B j).2 p) (s0 := 180 * (c : Int) + 1 + t) (f0 := 180 * (c : Int) + 1) (v2 := 0) (v3 := (j : Int)) (v4 := (p : Int)) (v5 := 180 * (c : Int) + 1) (v6 := 180 * (c : Int) + 1 + t) (v7 := 180 * (c : Int) + E 59 (6 * c)) hM hP hW t1 t2 m5 (fun x hx => lo x (i1 x hx)) (fun x hx => lo x (i2 x hx)) (fun x hx => rB.2.1 j hj x (tat_mem hx)) pl (by rw [e5]) (by omega) (by omega) wat (by omega) (by omega) (by omega) (by omega) (by omega) (Or.inr ⟨rfl, pr, by rw [b1]; omega, by omega, by omega⟩)
    exact ⟨x, E', zM_go rfl (Nat.le_of_ble_eq_true rfl) (fun kz Q hQ => X12_rewrites_0 hM ⟨zin_of (by omega) (by omega), zin_of (by omega) (by omega), _, me, zin_of (by omega) (by omega), zin_of (by omega) (by omega), ⟨by omega, by omega⟩, by rw [b1]; exact zin_of (by omega) (by omega), fun z => absurd rfl z, fun _ => X12_rewrites_49 hM ⟨fun z => absurd rfl z, fun _ => go kz Q hQ⟩⟩), r⟩
  · subst z
    have es : sdw (E 53) (R c) 1 = rgt (E 53) (R c) := if_neg (by omega)
    have eo : odw (E 53) (R c) 1 = lft (E 53) (R c) := if_neg (by omega)
    rw [es, eo]
    obtain ⟨x, E', go, r⟩ := rewrites_core (E := E) (p := rgt (E 53) (R c)) (o := lft (E 53) (R c)) (w := tat (E 53) (lit B j).2 p) (s0 := 180 * (c : Int) + E 59 (6 * c)) (f0 := 180 * (c : Int) + 1 + t) (v2 := 1) (v3 := (j : Int)) (v4 := (p : Int)) (v5 := 180 * (c : Int) + 1) (v6 := 180 * (c : Int) + 1 + t) (v7 := 180 * (c : Int) + E 59 (6 * c)) hM hP hW t2 t1 m5 (fun x hx => lo x (i2 x hx)) (fun x hx => lo x (i1 x hx)) (fun x hx => rB.2.1 j hj x (tat_mem hx)) pr (by rw [b1]; omega) (by omega) (by omega) wat (by omega) (by omega) (by omega) (by omega) (by omega) (Or.inl ⟨by omega, pl, by rw [e5], by omega, by omega⟩)
    exact ⟨x, E', zM_go rfl (Nat.le_of_ble_eq_true rfl) (fun kz Q hQ => X12_rewrites_0 hM ⟨zin_of (by omega) (by omega), zin_of (by omega) (by omega), _, me, zin_of (by omega) (by omega), zin_of (by omega) (by omega), ⟨by omega, by omega⟩, by rw [b1]; exact zin_of (by omega) (by omega), fun _ => X12_rewrites_49 hM ⟨fun _ => go kz Q hQ, fun z => absurd (by decide) z⟩, fun z => absurd (by decide) z⟩), r⟩
theorem lays_ok {B : List zLt} {j p : Nat} {z : List Int} (hM : zK zMt d G) (hP : pok (E 53)) (hB : rowW E B) (aB : aok (E 53) B) (hj : j < B.length) (hp : p < (lit B j).2.length) (hz : E 50 35 = z.length) (hz9 : z.length ≤ 900) (hzv : ∀ k : Nat, k < z.length → E 85 k = z.getD k 0) :
    ∃ (x : Int) (E' : Nat → Int → Int), zM zm_X12_lays [zR 50, zI (j : Int), zI (p : Int)] (d, G, E) (some (zI x)) (d, G, E') ∧ fz [72, 73, 77] E E' ∧ (x = 1 ∧ (lit B j).2.length - tl (E 53) (fw (lit B j).2) p + z.length ≤ 30 ∧ rowW E' (rpA (E 53) B j p z) ∨ x = 0 ∧ ¬ (lit B j).2.length - tl (E 53) (fw (lit B j).2) p + z.length ≤ 30 ∧ E' = E) := by
  have b6 := hB.2.1
  obtain ⟨m, m0, m1, m2, m3, m4, m5, m6⟩ := tat_ok hP (v := (lit B j).2) (p := p) (aB j hj).1 hp
  obtain ⟨w1, w2, w3, w4, w5⟩ := hB.2.2 j hj
  have pv : ∀ k : Nat, k < (lit B j).2.length → E 72 (30 * (j : Int) + k) = (lit B j).2.getD k 0 := fun k hk => by rw [w5 k hk, fw_0]
  have tE : tm (E 53) (E 72) (30 * (j : Int) + p) m := tm_congr m3 (fun k hk => by
    have := w5 (p + k) (by omega)
    have e1 : 30 * (j : Int) + ((p + k : Nat) : Int) = 30 * (j : Int) + p + k := by omega
    have e2 : (0 : Int) + ((p + k : Nat) : Int) = p + k := by omega
    rw [e1, e2] at this
    exact this.symm)
  have me := endOf_ok (E := E) (a := 72) (n := 180) hM (zM_21 hM).2.2 rfl hP tE (by omega) (by omega) (by omega)
  rw [m1]
  have s1 : E 73 j - (30 * (j : Int) + p + m - (30 * (j : Int) + p)) + E 50 35 = (((lit B j).2.length - m + z.length : Nat) : Int) := by rw [w1, hz]; omega
  by_cases h30 : (lit B j).2.length - m + z.length ≤ 30
  · -- behind: set aside, lay, lay the rest
    let nb := (lit B j).2.length - p - m
    have loop3 : ∀ (q k : Nat) (F : Nat → Int → Int), k + q = nb → fz [72, 77] E F → (∀ i : Nat, i < nb → F 77 i = (lit B j).2.getD (p + m + i) 0) → (∀ i : Int, i < 30 * (j : Int) + p ∨ 30 * (j : Int) + 30 ≤ i → F 72 i = E 72 i) → (∀ i : Nat, i < z.length + k → F 72 (30 * (j : Int) + p + i) = (rpl (lit B j).2 p m z).getD (p + i) 0) →
        ∃ E' : Nat → Int → Int, zgo zm_X12_lays 131 [(0, zR 50), (1, zI (j : Int)), (3, zI (30 * (j : Int) + p)), (5, zI (((lit B j).2.length - m + z.length : Nat) : Int)), (6, zI (nb : Int)), (7, zI (k : Int))] [] (d, G, F) (some (zI 1)) (d, G, E') ∧ fz [72, 73, 77] E E' ∧ (∀ i : Int, i ≠ j → E' 73 i = E 73 i) ∧ E' 73 j = (((lit B j).2.length - m + z.length : Nat) : Int) ∧ (∀ i : Int, i < 30 * (j : Int) + p ∨ 30 * (j : Int) + 30 ≤ i → E' 72 i = E 72 i) ∧ (∀ i : Nat, i < z.length + nb → E' 72 (30 * (j : Int) + p + i) = (rpl (lit B j).2 p m z).getD (p + i) 0) := by
      intro q
      induction q with
      | zero =>
        intro k F hk hf h77 ho hi
        refine ⟨zuE F 73 j (((lit B j).2.length - m + z.length : Nat) : Int), fun kz Q hQ => X12_lays_131 hM ⟨fun _ => ⟨⟨by omega, by omega⟩, fun H h => by rw [h]; exact hQ⟩, fun c => absurd (by omega) c⟩, fz_put (fz_mono hf (by simp)) (by simp), fun i hi => ?_, zuE_same, fun i hi => ?_, fun i hi' => ?_⟩
        · rw [zuE_ix hi, hf 73 (by simp)]
        · rw [zuE_ne (by decide)]; exact ho i hi
        · rw [zuE_ne (by decide)]; exact hi i (by omega)
      | succ q ih =>
        intro k F hk hf h77 ho hi
        have e35 : F 50 35 = z.length := by rw [hf 50 (by simp)]; exact hz
        have nbd : nb = (lit B j).2.length - p - m := rfl
        obtain ⟨E', g, r⟩ := ih (k + 1) (zuE F 72 (30 * (j : Int) + p + z.length + k) (F 77 k)) (by omega) (fz_put hf (by simp)) (fun i hi' => by rw [zuE_ne (by decide)]; exact h77 i hi') (fun i hi' => by rw [zuE_ix (by omega)]; exact ho i hi') (fun i hi' => by
          rcases (by omega : i < z.length + k ∨ i = z.length + k) with e | e
          · rw [zuE_ix (by omega)]; exact hi i e
          · have e1 : 30 * (j : Int) + p + (i : Int) = 30 * (j : Int) + p + z.length + k := by omega
            have e2 : p + i = p + z.length + k := by omega
            rw [e1, zuE_same, h77 k (by omega), e2, rpl_r (by omega)])
        have ek : ((k + 1 : Nat) : Int) = (k : Int) + 1 := by omega
        rw [ek] at g
        refine ⟨E', fun kz Q hQ => X12_lays_131 hM ⟨fun c => absurd c (by omega), fun _ => ?_⟩, r⟩
        rw [e35]
        exact ⟨zin_of (by omega) (by omega), zin_of (by omega) (by omega), ⟨by omega, by omega⟩, ⟨by omega, by omega⟩, fun H h => ⟨zin_of (by omega) (by omega), by rw [h]; exact g kz Q hQ⟩⟩
    have loop2 : ∀ (q k : Nat) (F : Nat → Int → Int), k + q = z.length → fz [72, 77] E F → (∀ i : Nat, i < nb → F 77 i = (lit B j).2.getD (p + m + i) 0) → (∀ i : Int, i < 30 * (j : Int) + p ∨ 30 * (j : Int) + 30 ≤ i → F 72 i = E 72 i) → (∀ i : Nat, i < k → F 72 (30 * (j : Int) + p + i) = (rpl (lit B j).2 p m z).getD (p + i) 0) →
        ∃ E' : Nat → Int → Int, zgo zm_X12_lays 97 [(0, zR 50), (1, zI (j : Int)), (3, zI (30 * (j : Int) + p)), (5, zI (((lit B j).2.length - m + z.length : Nat) : Int)), (6, zI (nb : Int)), (7, zI (k : Int))] [] (d, G, F) (some (zI 1)) (d, G, E') ∧ fz [72, 73, 77] E E' ∧ (∀ i : Int, i ≠ j → E' 73 i = E 73 i) ∧ E' 73 j = (((lit B j).2.length - m + z.length : Nat) : Int) ∧ (∀ i : Int, i < 30 * (j : Int) + p ∨ 30 * (j : Int) + 30 ≤ i → E' 72 i = E 72 i) ∧ (∀ i : Nat, i < z.length + nb → E' 72 (30 * (j : Int) + p + i) = (rpl (lit B j).2 p m z).getD (p + i) 0) := by
      intro q
      induction q with
      | zero =>
        intro k F hk hf h77 ho hi
        have e35 : F 50 35 = z.length := by rw [hf 50 (by simp)]; exact hz
        obtain ⟨E', g, r⟩ := loop3 nb 0 F (by omega) hf h77 ho (fun i hi' => hi i (by omega))
        exact ⟨E', fun kz Q hQ => X12_lays_97 hM ⟨fun _ => g kz Q hQ, fun c => absurd (by rw [e35]; omega) c⟩, r⟩
      | succ q ih =>
        intro k F hk hf h77 ho hi
        have e35 : F 50 35 = z.length := by rw [hf 50 (by simp)]; exact hz
        have nbd : nb = (lit B j).2.length - p - m := rfl
        have e85 : F 85 k = z.getD k 0 := by rw [hf 85 (by simp)]; exact hzv k (by omega)
        obtain ⟨E', g, r⟩ := ih (k + 1) (zuE F 72 (30 * (j : Int) + p + k) (z.getD k 0)) (by omega) (fz_put hf (by simp)) (fun i hi' => by rw [zuE_ne (by decide)]; exact h77 i hi') (fun i hi' => by rw [zuE_ix (by omega)]; exact ho i hi') (fun i hi' => by
          rcases (by omega : i < k ∨ i = k) with e | e
          · rw [zuE_ix (by omega)]; exact hi i e
          · subst e; rw [zuE_same, rpl_m (by omega) (by omega)])
        have ek : ((k + 1 : Nat) : Int) = (k : Int) + 1 := by omega
        rw [ek] at g
        exact ⟨E', fun kz Q hQ => X12_lays_97 hM ⟨fun c => absurd c (by rw [e35]; omega), fun _ => ⟨zin_of (by omega) (by omega), ⟨by omega, by omega⟩, ⟨by omega, by omega⟩, fun H h => ⟨zin_of (by omega) (by omega), by rw [h, e85]; exact g kz Q hQ⟩⟩⟩, r⟩
    have loop1 : ∀ (q k : Nat) (F : Nat → Int → Int), k + q = nb → fz [77] E F → (∀ i : Nat, i < k → F 77 i = (lit B j).2.getD (p + m + i) 0) →
        ∃ E' : Nat → Int → Int, zgo zm_X12_lays 64 [(0, zR 50), (1, zI (j : Int)), (3, zI (30 * (j : Int) + p)), (4, zI (30 * (j : Int) + p + m)), (5, zI (((lit B j).2.length - m + z.length : Nat) : Int)), (6, zI (nb : Int)), (7, zI (k : Int))] [] (d, G, F) (some (zI 1)) (d, G, E') ∧ fz [72, 73, 77] E E' ∧ (∀ i : Int, i ≠ j → E' 73 i = E 73 i) ∧ E' 73 j = (((lit B j).2.length - m + z.length : Nat) : Int) ∧ (∀ i : Int, i < 30 * (j : Int) + p ∨ 30 * (j : Int) + 30 ≤ i → E' 72 i = E 72 i) ∧ (∀ i : Nat, i < z.length + nb → E' 72 (30 * (j : Int) + p + i) = (rpl (lit B j).2 p m z).getD (p + i) 0) := by
      intro q
      induction q with
      | zero =>
        intro k F hk hf h77
        have f72 : F 72 = E 72 := hf 72 (by simp)
        obtain ⟨E', g, r⟩ := loop2 z.length 0 F (by omega) (fz_mono hf (by simp)) (fun i hi => h77 i (by omega)) (fun i _ => by rw [f72]) (fun i hi => by omega)
        exact ⟨E', fun kz Q hQ => X12_lays_64 hM ⟨fun _ => g kz Q hQ, fun c => absurd (by omega) c⟩, r⟩
      | succ q ih =>
        intro k F hk hf h77
        have f72 : F 72 = E 72 := hf 72 (by simp)
        have nbd : nb = (lit B j).2.length - p - m := rfl
        have rd : E 72 (30 * (j : Int) + p + m + k) = (lit B j).2.getD (p + m + k) 0 := by
          rw [← pv _ (by omega)]; congr 1; omega
        obtain ⟨E', g, r⟩ := ih (k + 1) (zuE F 77 k ((lit B j).2.getD (p + m + k) 0)) (by omega) (fz_put hf (by simp)) (fun i hi => by
          rcases (by omega : i < k ∨ i = k) with e | e
          · rw [zuE_ix (by omega)]; exact h77 i e
          · subst e; exact zuE_same)
        have ek : ((k + 1 : Nat) : Int) = (k : Int) + 1 := by omega
        rw [ek] at g
        exact ⟨E', fun kz Q hQ => X12_lays_64 hM ⟨fun c => absurd c (by omega), fun _ => ⟨zin_of (by omega) (by omega), ⟨by omega, by omega⟩, ⟨by omega, by omega⟩, fun H h => ⟨zin_of (by omega) (by omega), by rw [h, f72, rd]; exact g kz Q hQ⟩⟩⟩, r⟩
    obtain ⟨E', g, hf, h73, h73j, ho, hi⟩ := loop1 nb 0 E (by omega) fz_rfl (fun i hi => by omega)
    have nbd : nb = (lit B j).2.length - p - m := rfl
    refine ⟨1, E', zM_go rfl (Nat.le_of_ble_eq_true rfl) (fun kz Q hQ => X12_lays_0 hM ⟨zin_of (by omega) (by omega), zin_of (by omega) (by omega), _, me, ⟨by omega, by omega⟩, zin_of (by omega) (by omega), by rw [w1]; exact zin_of (by omega) (by omega), by rw [s1]; exact zin_of (by omega) (by omega), fun _ => ?_, fun c => absurd (by rw [s1]; omega) c⟩), hf, Or.inl ⟨rfl, h30, ?_⟩⟩
    · rw [s1]
      have en : 30 * (j : Int) + E 73 j - (30 * (j : Int) + p + m) = (nb : Int) := by rw [w1]; omega
      rw [en]
      exact ⟨zin_of (by omega) (by omega), ⟨by omega, by omega⟩, by rw [w1]; exact zin_of (by omega) (by omega), zin_of (by omega) (by omega), g kz Q hQ⟩
    · refine ⟨by rw [hf 50 (by simp), rpA_len hj]; exact hB.1, by rw [rpA_len hj]; exact b6, fun l hl => ?_⟩
      rw [rpA_len hj] at hl
      have lt : (B.take j).length = j := by rw [List.length_take]; omega
      have f74 : E' 74 = E 74 := hf 74 (by simp)
      rcases (by omega : l = j ∨ l ≠ j) with e | e
      · subst e
        have el : lit (rpA (E 53) B l p z) l = ((lit B l).1, rpl (lit B l).2 p m z) := by
          unfold rpA
          rw [m1]
          have := lit_m (A := B.take l) (B := B.drop (l + 1)) (y := ((lit B l).1, rpl (lit B l).2 p m z))
          rw [lt] at this; exact this
        rw [el]
        refine ⟨?_, by rw [f74]; exact w2, w3, ?_, fun k hk => ?_⟩
        · rw [h73j, rpl_len (by omega)]
        · dsimp only; rw [rpl_len (by omega)]; exact h30
        · dsimp only at hk ⊢
          rw [rpl_len (by omega)] at hk
          rw [fw_0]
          rcases (by omega : k < p ∨ p ≤ k) with c | c
          · rw [ho _ (by omega), pv k (by omega), rpl_l (by omega) c]
          · have := hi (k - p) (by omega)
            have x1 : 30 * (l : Int) + p + ((k - p : Nat) : Int) = 30 * (l : Int) + k := by omega
            have x2 : p + (k - p) = k := by omega
            rw [x1, x2] at this; exact this
      · have el : lit (rpA (E 53) B j p z) l = lit B l := by
          have eB : lit B l = lit (B.take j ++ lit B j :: B.drop (j + 1)) l := by rw [← take_drop_lit hj]
          rw [eB]
          unfold rpA
          rcases (by omega : l < j ∨ j < l) with c | c
          · rw [lit_l (by omega), lit_l (by omega)]
          · have x : l = (B.take j).length + 1 + (l - j - 1) := by omega
            rw [x, lit_m2, lit_m2]
        rw [el]
        have wl' := hB.2.2 l hl
        refine wl_congr wl' (h73 l (by omega)) (by rw [f74]) (fun i i1 i2 => ho i ?_)
        have := wl'.2.2.2.1
        omega
  · exact ⟨0, E, zM_p rfl (Nat.le_of_ble_eq_true rfl) (fun kz Q hQ => X12_lays_0 hM ⟨zin_of (by omega) (by omega), zin_of (by omega) (by omega), _, me, ⟨by omega, by omega⟩, zin_of (by omega) (by omega), by rw [w1]; exact zin_of (by omega) (by omega), by rw [s1]; exact zin_of (by omega) (by omega), fun c => absurd (by rw [s1] at c; omega) h30, fun _ => hQ⟩), fz_rfl, Or.inr ⟨rfl, h30, rfl⟩⟩
/-- what the search leaves, in the reference -/
def fndM (E' : Nat → Int → Int) (y : Nat × Nat × Nat × Nat × List Int) : Prop := E' 50 38 = y.1 ∧ E' 50 39 = y.2.1 ∧ E' 50 36 = y.2.2.1 ∧ E' 50 37 = y.2.2.2.1 ∧ E' 50 35 = y.2.2.2.2.length ∧ ∀ k : Nat, k < y.2.2.2.2.length → E' 85 k = y.2.2.2.2.getD k 0
def nsf (i : Int) : Prop := i ≠ 35 ∧ i ≠ 36 ∧ i ≠ 37 ∧ i ≠ 38 ∧ i ≠ 39
theorem findRewriting_ok {K : Nat} {R : Nat → List zLt} {st : Nat → Int} {B : List zLt} (hM : zK zMt d G) (hs : stM E (E 53) (E 54) K R) (hst : ∀ c : Nat, c < K → E 62 c = st c) (hP : pok (E 53)) (hW : wok (E 54)) (h2 : E 53 0 = 2) (hB : rowW E B) (rB : rok (E 53) (E 54) B) :
    ∃ (x : Int) (E' : Nat → Int → Int), zM zm_X12_findRewriting [zR 50] (d, G, E) (some (zI x)) (d, G, E') ∧ fz [50, 76, 80, 81, 85] E E' ∧ (∀ i : Int, nsf i → E' 50 i = E 50 i) ∧ ((x = 0 ∧ fp (E 53) (E 54) R st K B (pq B B.length 0) = none) ∨ x = 1 ∧ ∃ y, fp (E 53) (E 54) R st K B (pq B B.length 0) = some y ∧ fndM E' y) := by
  have h150 := hs.2.1
  have b6 := hB.2.1
  have keepP : ∀ F : Nat → Int → Int, fz [50, 76, 80, 81, 85] E F → (∀ i : Int, nsf i → F 50 i = E 50 i) → stM F (F 53) (F 54) K R ∧ F 53 = E 53 ∧ F 54 = E 54 ∧ rowW F B ∧ F 72 = E 72 ∧ F 73 = E 73 ∧ F 62 = E 62 ∧ F 50 6 = K ∧ F 50 24 = B.length := fun F hf hj => by
    have e3 : F 53 = E 53 := hf 53 (by simp)
    have e4 : F 54 = E 54 := hf 54 (by simp)
    have j6 : F 50 6 = E 50 6 := hj 6 (by unfold nsf; omega)
    have j24 : F 50 24 = E 50 24 := hj 24 (by unfold nsf; omega)
    refine ⟨?_, e3, e4, rowW_fz hB hf (by simp) (by simp) (by simp) j24, hf 72 (by simp), hf 73 (by simp), hf 62 (by simp), by rw [j6]; exact hs.1, by rw [j24]; exact hB.1⟩
    rw [e3, e4]
    exact stM_fz hs hf (by simp) (by simp) (by simp) (by simp) j6
  -- the rules at one place
  have rules : ∀ (j p : Nat), j < B.length → 1 ≤ p → p < (lit B j).2.length → 0 ≤ fw (lit B j).2 p → ∀ (m c : Nat) (F : Nat → Int → Int), c + m = K → fz [50, 76, 80, 81, 85] E F → (∀ i : Int, nsf i → F 50 i = E 50 i) → F 50 38 = j → F 50 39 = p → F 50 36 = c →
      (∃ F' : Nat → Int → Int, fr (E 53) (E 54) R st (tat (E 53) (lit B j).2 p) (al c m) = none ∧ fz [50, 76, 80, 81, 85] E F' ∧ (∀ i : Int, nsf i → F' 50 i = E 50 i) ∧ F' 50 38 = j ∧ F' 50 39 = (p : Int) + 1 ∧ ∀ kz Q, Z zm_X12_findRewriting kz Q 21 [(0, zR 50)] [] (d, G, F') → Z zm_X12_findRewriting kz Q 42 [(0, zR 50)] [] (d, G, F)) ∨
      (∃ (E' : Nat → Int → Int) (y : (Nat × Nat) × List Int), fr (E 53) (E 54) R st (tat (E 53) (lit B j).2 p) (al c m) = some y ∧ zgo zm_X12_findRewriting 42 [(0, zR 50)] [] (d, G, F) (some (zI 1)) (d, G, E') ∧ fz [50, 76, 80, 81, 85] E E' ∧ (∀ i : Int, nsf i → E' 50 i = E 50 i) ∧ fndM E' (j, p, y.1.1, y.1.2, y.2)) := by
    intro j p hj hp1 hp2 hp0 m
    have w30 := (hB.2.2 j hj).2.2.2.1
    induction m with
    | zero =>
      intro c F hc hf hjj h38 h39 h36
      obtain ⟨_, _, _, _, _, _, _, f6, _⟩ := keepP F hf hjj
      refine Or.inl ⟨zuE F 50 39 ((p : Int) + 1), rfl, fz_put hf (by simp), fun i hi => ?_, ?_, zuE_same, fun kz Q K' => X12_findRewriting_42 hM ⟨fun _ => ?_, fun z => absurd (by omega) z⟩⟩
      · rw [zuE_ix hi.2.2.2.2]; exact hjj i hi
      · rw [zuE_ix (by decide)]; exact h38
      · rw [h39]
        exact ⟨zin_of (by omega) (by omega), fun H h => by rw [h]; exact K'⟩
    | succ m ih =>
      intro c F hc hf hjj h38 h39 h36
      have hcK : c < K := by omega
      have ec : ((c + 1 : Nat) : Int) = (c : Int) + 1 := by omega
      simp only [al]
      -- at 78, past this claim
      have past : ∀ F2 : Nat → Int → Int, fz [50, 76, 80, 81, 85] E F2 → (∀ i : Int, nsf i → F2 50 i = E 50 i) → F2 50 38 = j → F2 50 39 = p → F2 50 36 = c → ∀ L : List (Nat × Nat), fr (E 53) (E 54) R st (tat (E 53) (lit B j).2 p) L = fr (E 53) (E 54) R st (tat (E 53) (lit B j).2 p) (al (c + 1) m) → (∀ kz Q, Z zm_X12_findRewriting kz Q 42 [(0, zR 50)] [] (d, G, zuE F2 50 36 ((c : Int) + 1)) → Z zm_X12_findRewriting kz Q 42 [(0, zR 50)] [] (d, G, F)) →
          ((∃ F' : Nat → Int → Int, fr (E 53) (E 54) R st (tat (E 53) (lit B j).2 p) L = none ∧ fz [50, 76, 80, 81, 85] E F' ∧ (∀ i : Int, nsf i → F' 50 i = E 50 i) ∧ F' 50 38 = j ∧ F' 50 39 = (p : Int) + 1 ∧ ∀ kz Q, Z zm_X12_findRewriting kz Q 21 [(0, zR 50)] [] (d, G, F') → Z zm_X12_findRewriting kz Q 42 [(0, zR 50)] [] (d, G, F)) ∨
          (∃ (E' : Nat → Int → Int) (y : (Nat × Nat) × List Int), fr (E 53) (E 54) R st (tat (E 53) (lit B j).2 p) L = some y ∧ zgo zm_X12_findRewriting 42 [(0, zR 50)] [] (d, G, F) (some (zI 1)) (d, G, E') ∧ fz [50, 76, 80, 81, 85] E E' ∧ (∀ i : Int, nsf i → E' 50 i = E 50 i) ∧ fndM E' (j, p, y.1.1, y.1.2, y.2))) := by
        intro F2 hf2 hj2 g38 g39 g36 L hL go
        rw [hL]
        rcases ih (c + 1) (zuE F2 50 36 ((c : Int) + 1)) (by omega) (fz_put hf2 (by simp)) (fun i hi => by rw [zuE_ix hi.2.1]; exact hj2 i hi) (by rw [zuE_ix (by decide)]; exact g38) (by rw [zuE_ix (by decide)]; exact g39) (by rw [ec]; exact zuE_same) with ⟨F', a1, a2, a3, a4, a5, a6⟩ | ⟨E', y, a1, a2, a3⟩
        · exact Or.inl ⟨F', a1, a2, a3, a4, a5, fun kz Q K' => go kz Q (a6 kz Q K')⟩
        · exact Or.inr ⟨E', y, a1, fun kz Q hQ => go kz Q (a2 kz Q hQ), a3⟩
      -- 42 to 78
      obtain ⟨_, _, _, _, f72, _, _, f6, _⟩ := keepP F hf hjj
      have pv : E 72 (30 * (j : Int) + p) = fw (lit B j).2 p := by rw [(hB.2.2 j hj).2.2.2.2 p hp2, fw_0, fw_nat]
      let F1 := zuE F 50 37 0
      have hf1 : fz [50, 76, 80, 81, 85] E F1 := fz_put hf (by simp)
      have hj1 : ∀ i : Int, nsf i → F1 50 i = E 50 i := fun i hi => (zuE_ix hi.2.2.1).trans (hjj i hi)
      have p38 : F1 50 38 = j := (zuE_ix (by decide)).trans h38
      have p39 : F1 50 39 = p := (zuE_ix (by decide)).trans h39
      have p36 : F1 50 36 = c := (zuE_ix (by decide)).trans h36
      have p37 : F1 50 37 = 0 := zuE_same
      have to78 : ∀ kz Q, Z zm_X12_findRewriting kz Q 78 [(0, zR 50)] [] (d, G, F1) → Z zm_X12_findRewriting kz Q 42 [(0, zR 50)] [] (d, G, F) := fun kz Q K' => by
        refine X12_findRewriting_42 hM ⟨fun z => absurd z (by omega), fun _ => ?_⟩
        rw [h38, h39, f72, pv]
        exact ⟨zin_of (by omega) (by omega), zin_of (by omega) (by omega), ⟨by omega, by omega⟩, fun z => absurd z (by omega), fun _ => fun H h => by rw [h]; exact K'⟩
      obtain ⟨stF1, e3, e4, hB1, _, _, f62, _, _⟩ := keepP F1 hf1 hj1
      have s62 : F1 62 c = st c := by rw [f62]; exact hst c hcK
      obtain ⟨v, mv, hv⟩ := isEquation_ok (E := F1) (c := c) hM stF1 hcK
      by_cases q : st c ≠ 2 ∧ ruleP (R c)
      · have v1 : v ≠ 0 := by
          rcases hv with z | z
          · omega
          · exact absurd q.2 z.2
        -- side s at 78
        have at78 : ∀ (s : Nat), s ≤ 1 → ∀ F2 : Nat → Int → Int, fz [50, 76, 80, 81, 85] E F2 → (∀ i : Int, nsf i → F2 50 i = E 50 i) → F2 50 38 = j → F2 50 39 = p → F2 50 36 = c → F2 50 37 = s →
            (∃ F3 : Nat → Int → Int, rwz (E 53) (E 54) (sdw (E 53) (R c) s) (odw (E 53) (R c) s) (tat (E 53) (lit B j).2 p) = none ∧ fz [50, 76, 80, 81, 85] E F3 ∧ (∀ i : Int, nsf i → F3 50 i = E 50 i) ∧ F3 50 38 = j ∧ F3 50 39 = p ∧ F3 50 36 = c ∧ F3 50 37 = (s : Int) + 1 ∧ ∀ kz Q, Z zm_X12_findRewriting kz Q 78 [(0, zR 50)] [] (d, G, F3) → Z zm_X12_findRewriting kz Q 78 [(0, zR 50)] [] (d, G, F2)) ∨
            (∃ (E' : Nat → Int → Int) (z : List Int), rwz (E 53) (E 54) (sdw (E 53) (R c) s) (odw (E 53) (R c) s) (tat (E 53) (lit B j).2 p) = some z ∧ zgo zm_X12_findRewriting 78 [(0, zR 50)] [] (d, G, F2) (some (zI 1)) (d, G, E') ∧ fz [50, 76, 80, 81, 85] E E' ∧ (∀ i : Int, nsf i → E' 50 i = E 50 i) ∧ fndM E' (j, p, c, s, z)) := by
          intro s hs1 F2 hf2 hj2 g38 g39 g36 g37
          obtain ⟨stF2, e3', e4', hB2, _, _, f62', _, _⟩ := keepP F2 hf2 hj2
          have s62' : F2 62 c = st c := by rw [f62']; exact hst c hcK
          obtain ⟨v', mv', hv'⟩ := isEquation_ok (E := F2) (c := c) hM stF2 hcK
          have v1' : v' ≠ 0 := by
            rcases hv' with z | z
            · omega
            · exact absurd q.2 z.2
          obtain ⟨x, E3, m3, f3, j3, hx⟩ := rewritesM_ok (E := F2) (c := c) (s := s) (j := j) (p := p) hM stF2 hcK q.2 hs1 (by rw [e3']; exact hP) (by rw [e4']; exact hW) (by rw [e3']; exact h2) hB2 (by rw [e3', e4']; exact rB) hj hp2
          rw [e3', e4'] at hx
          have hf3 : fz [50, 76, 80, 81, 85] E E3 := fz_trans hf2 f3
          have hj3 : ∀ i : Int, nsf i → E3 50 i = E 50 i := fun i hi => by rw [j3 i hi.1]; exact hj2 i hi
          have step : ∀ kz Q, ((x = 0 → zin ((E3 50 37) + 1) ∧ ∀ E_20, E_20 = zuE E3 50 37 (((E3 50 37) + 1)) → Z zm_X12_findRewriting kz Q 78 [(0, zR 50)] [] (d, G, E_20)) ∧ (¬ (x = 0) → Q (some (zI 1)) (d, G, E3))) → Z zm_X12_findRewriting kz Q 78 [(0, zR 50)] [] (d, G, F2) := fun kz Q K' => by
            refine X12_findRewriting_78 hM ⟨fun z => absurd z (by rw [g37]; omega), fun _ => ?_⟩
            rw [g36, g37, g38, g39]
            exact ⟨⟨by omega, by omega⟩, fun z => absurd (by rw [s62'] at z; exact z) q.1, fun _ => ⟨v', mv', fun z => absurd z v1', fun _ => ⟨x, E3, m3, K'⟩⟩⟩
          have k37 : E3 50 37 = s := by rw [j3 37 (by decide)]; exact g37
          rcases hx with ⟨x1, z, x2, x3, x4⟩ | ⟨x1, x2⟩
          · subst x1
            exact Or.inr ⟨E3, z, x2, fun kz Q hQ => step kz Q ⟨fun y => absurd y (by omega), fun _ => hQ⟩, hf3, hj3, by rw [j3 38 (by decide)]; exact g38, by rw [j3 39 (by decide)]; exact g39, by rw [j3 36 (by decide)]; exact g36, k37, x3, x4⟩
          · subst x1
            refine Or.inl ⟨zuE E3 50 37 ((s : Int) + 1), x2, fz_put hf3 (by simp), fun i hi => by rw [zuE_ix hi.2.2.1]; exact hj3 i hi, by rw [zuE_ix (by decide), j3 38 (by decide)]; exact g38, by rw [zuE_ix (by decide), j3 39 (by decide)]; exact g39, by rw [zuE_ix (by decide), j3 36 (by decide)]; exact g36, zuE_same, fun kz Q K' => step kz Q ⟨fun _ => ?_, fun y => absurd rfl y⟩⟩
            rw [k37]
            exact ⟨zin_of (by omega) (by omega), fun H h => by rw [h]; exact K'⟩
        rcases at78 0 (by omega) F1 hf1 hj1 p38 p39 p36 p37 with ⟨F3, a1, a2, a3, a4, a5, a6, a7, a8⟩ | ⟨E', z, a1, a2, a3, a4, a5⟩
        · rcases at78 1 (by omega) F3 a2 a3 a4 a5 a6 a7 with ⟨F4, b1, b2, b3, b4, b5, b6', b7, b8⟩ | ⟨E', z, b1, b2, b3, b4, b5⟩
          · refine past F4 b2 b3 b4 b5 b6' _ (by rw [fr_no (x := (c, 0)) (fun _ _ => a1), fr_no (x := (c, 1)) (fun _ _ => b1)]) (fun kz Q K' => to78 kz Q (a8 kz Q (b8 kz Q (X12_findRewriting_78 hM ⟨fun _ => ?_, fun z => absurd (by rw [b7]; omega) z⟩))))
            rw [b6']
            exact ⟨zin_of (by omega) (by omega), fun H h => by rw [h]; exact K'⟩
          · exact Or.inr ⟨E', ((c, 1), z), by rw [fr_no (x := (c, 0)) (fun _ _ => a1)]; exact fr_yes (x := (c, 1)) q.1 q.2 b1, fun kz Q hQ => to78 kz Q (a8 kz Q (b2 kz Q hQ)), b3, b4, b5⟩
        · exact Or.inr ⟨E', ((c, 0), z), fr_yes (x := (c, 0)) q.1 q.2 a1, fun kz Q hQ => to78 kz Q (a2 kz Q hQ), a3, a4, a5⟩
      · refine past F1 hf1 hj1 p38 p39 p36 _ (by rw [fr_no (x := (c, 0)) (fun a b => absurd ⟨a, b⟩ q), fr_no (x := (c, 1)) (fun a b => absurd ⟨a, b⟩ q)]) (fun kz Q K' => to78 kz Q (X12_findRewriting_78 hM ⟨fun z => absurd z (by rw [p37]; omega), fun _ => ?_⟩))
        rw [p36, s62]
        refine ⟨⟨by omega, by omega⟩, fun _ => ⟨zin_of (by omega) (by omega), fun H h => by rw [h]; exact K'⟩, fun w => ⟨v, mv, fun _ => ⟨zin_of (by omega) (by omega), fun H h => by rw [h]; exact K'⟩, fun w2 => ?_⟩⟩
        exfalso
        apply q
        refine ⟨w, ?_⟩
        rcases hv with z | z
        · exact z.2
        · exact absurd z.1 w2
  -- the places
  have outer : ∀ (r j : Nat) (F : Nat → Int → Int), j + r = B.length → fz [50, 76, 80, 81, 85] E F → (∀ i : Int, nsf i → F 50 i = E 50 i) → F 50 38 = j →
      ∃ (x : Int) (E' : Nat → Int → Int), zgo zm_X12_findRewriting 5 [(0, zR 50)] [] (d, G, F) (some (zI x)) (d, G, E') ∧ fz [50, 76, 80, 81, 85] E E' ∧ (∀ i : Int, nsf i → E' 50 i = E 50 i) ∧ ((x = 0 ∧ fp (E 53) (E 54) R st K B (pq B r j) = none) ∨ x = 1 ∧ ∃ y, fp (E 53) (E 54) R st K B (pq B r j) = some y ∧ fndM E' y) := by
    intro r
    induction r with
    | zero =>
      intro j F hj hf hjj h38
      obtain ⟨_, _, _, _, _, _, _, _, f24⟩ := keepP F hf hjj
      exact ⟨0, F, fun kz Q hQ => X12_findRewriting_5 hM ⟨fun _ => hQ, fun z => absurd (by omega) z⟩, hf, hjj, Or.inl ⟨rfl, rfl⟩⟩
    | succ r ih =>
      intro j F0 hj hf0 hjj0 h380
      have hjB : j < B.length := by omega
      have ej : ((j + 1 : Nat) : Int) = (j : Int) + 1 := by omega
      have w30 := (hB.2.2 j hjB).2.2.2.1
      have w1 := (hB.2.2 j hjB).1
      have wp := wok1_pos (rB.1 j hjB)
      have inner : ∀ (m p : Nat) (F : Nat → Int → Int), p + m = (lit B j).2.length → 1 ≤ p → fz [50, 76, 80, 81, 85] E F → (∀ i : Int, nsf i → F 50 i = E 50 i) → F 50 38 = j → F 50 39 = p →
          ∃ (x : Int) (E' : Nat → Int → Int), zgo zm_X12_findRewriting 21 [(0, zR 50)] [] (d, G, F) (some (zI x)) (d, G, E') ∧ fz [50, 76, 80, 81, 85] E E' ∧ (∀ i : Int, nsf i → E' 50 i = E 50 i) ∧ ((x = 0 ∧ fp (E 53) (E 54) R st K B (sq j p m ++ pq B r (j + 1)) = none) ∨ x = 1 ∧ ∃ y, fp (E 53) (E 54) R st K B (sq j p m ++ pq B r (j + 1)) = some y ∧ fndM E' y) := by
        intro m
        induction m with
        | zero =>
          intro p F hp hp1 hf hjj h38 h39
          obtain ⟨_, _, _, _, _, f73, _, _, _⟩ := keepP F hf hjj
          obtain ⟨x, E', z, zr⟩ := ih (j + 1) (zuE F 50 38 ((j : Int) + 1)) (by omega) (fz_put hf (by simp)) (fun i hi => by rw [zuE_ix hi.2.2.2.1]; exact hjj i hi) (by rw [ej]; exact zuE_same)
          refine ⟨x, E', fun kz Q hQ => X12_findRewriting_21 hM ?_, zr⟩
          rw [h38, h39, f73, w1]
          exact ⟨⟨by omega, by omega⟩, fun _ => ⟨zin_of (by omega) (by omega), fun H h => by rw [h]; exact z kz Q hQ⟩, fun z => absurd (by omega) z⟩
        | succ m ihm =>
          intro p F hp hp1 hf hjj h38 h39
          obtain ⟨_, _, _, _, f72, f73, _, f6, _⟩ := keepP F hf hjj
          have ep : ((p + 1 : Nat) : Int) = (p : Int) + 1 := by omega
          let F1 := zuE F 50 36 0
          have hf1 : fz [50, 76, 80, 81, 85] E F1 := fz_put hf (by simp)
          have hj1 : ∀ i : Int, nsf i → F1 50 i = E 50 i := fun i hi => (zuE_ix hi.2.1).trans (hjj i hi)
          have p38 : F1 50 38 = j := (zuE_ix (by decide)).trans h38
          have p39 : F1 50 39 = p := (zuE_ix (by decide)).trans h39
          have p36 : F1 50 36 = ((0 : Nat) : Int) := zuE_same
          have go21 : ∀ kz Q, Z zm_X12_findRewriting kz Q 42 [(0, zR 50)] [] (d, G, F1) → Z zm_X12_findRewriting kz Q 21 [(0, zR 50)] [] (d, G, F) := fun kz Q K' => by
            refine X12_findRewriting_21 hM ?_
            rw [h38, h39, f73, w1]
            exact ⟨⟨by omega, by omega⟩, fun z => absurd z (by omega), fun _ => fun H h => by rw [h]; exact K'⟩
          simp only [sq, List.cons_append]
          by_cases h0 : 0 ≤ fw (lit B j).2 p
          · rcases rules j p hjB hp1 (by omega) h0 K 0 F1 (by omega) hf1 hj1 p38 p39 p36 with ⟨F', a1, a2, a3, a4, a5, a6⟩ | ⟨E', y, a1, a2, a3, a4, a5⟩
            · obtain ⟨x, E', z, zr⟩ := ihm (p + 1) F' (by omega) (by omega) a2 a3 a4 (by rw [ep]; exact a5)
              rw [fp_no (x := (j, p)) a1]
              exact ⟨x, E', fun kz Q hQ => go21 kz Q (a6 kz Q (z kz Q hQ)), zr⟩
            · rw [fp_yes (x := (j, p)) h0 a1]
              exact ⟨1, E', fun kz Q hQ => go21 kz Q (a2 kz Q hQ), a3, a4, Or.inr ⟨rfl, _, rfl, a5⟩⟩
          · obtain ⟨_, _, _, _, g72, _, _, g6, _⟩ := keepP F1 hf1 hj1
            have pv : E 72 (30 * (j : Int) + p) = fw (lit B j).2 p := by rw [(hB.2.2 j hjB).2.2.2.2 p (by omega), fw_0, fw_nat]
            obtain ⟨x, E', z, zr⟩ := ihm (p + 1) (zuE F1 50 39 ((p : Int) + 1)) (by omega) (by omega) (fz_put hf1 (by simp)) (fun i hi => by rw [zuE_ix hi.2.2.2.2]; exact hj1 i hi) (by rw [zuE_ix (by decide)]; exact p38) (by rw [ep]; exact zuE_same)
            rw [fp_neg (x := (j, p)) h0]
            refine ⟨x, E', fun kz Q hQ => go21 kz Q (X12_findRewriting_42 hM ?_), zr⟩
            rw [p38, p39, g72, pv]
            exact ⟨fun _ => ⟨zin_of (by omega) (by omega), fun H h => by rw [h]; exact z kz Q hQ⟩, fun _ => ⟨zin_of (by omega) (by omega), zin_of (by omega) (by omega), ⟨by omega, by omega⟩, fun _ => ⟨zin_of (by omega) (by omega), fun H h => by rw [h]; exact z kz Q hQ⟩, fun y => absurd (by omega) y⟩⟩
      obtain ⟨_, _, _, _, _, _, _, _, f24⟩ := keepP F0 hf0 hjj0
      obtain ⟨x, E', z, zr⟩ := inner ((lit B j).2.length - 1) 1 (zuE F0 50 39 1) (by omega) (by omega) (fz_put hf0 (by simp)) (fun i hi => by rw [zuE_ix hi.2.2.2.2]; exact hjj0 i hi) (by rw [zuE_ix (by decide)]; exact h380) zuE_same
      exact ⟨x, E', fun kz Q hQ => X12_findRewriting_5 hM ⟨fun z => absurd z (by omega), fun _ => fun H h => by rw [h]; exact z kz Q hQ⟩, zr⟩
  obtain ⟨x, E', z, zr⟩ := outer B.length 0 (zuE E 50 38 0) (by omega) (fz_put fz_rfl (by simp)) (fun i hi => zuE_ix hi.2.2.2.1) zuE_same
  exact ⟨x, E', zM_go rfl (Nat.le_of_ble_eq_true rfl) (fun kz Q hQ => X12_findRewriting_0 hM (fun H h => by rw [h]; exact z kz Q hQ)), zr⟩
end QJ
