/-! ===== steps by their numbers: class and reference ===== -/
section SC
variable {d : List Nat} {G : Nat → Int → Option Nat} {E : Nat → Int → Int}
theorem fz_a {a : Nat} {E' : Nat → Int → Int} {S : List Nat} (f : fz S E E') (h : a ∉ S) : E' a = E a := f a h
theorem make_ok {K a1 : Nat} {B : Int} {R : Nat → List zLt} {nm : List Int} (hX : zK zXt d G) (hP : pok (E 3)) (hW : wok (E 4)) (h2 : E 3 0 = 2) (h19 : ∀ L : Int, 0 ≤ L → L < 40 → E 19 L = 0) (hs : stC d G E (E 3) (E 4) K R) (h9 : ∀ c : Nat, c < K → E (qn c) 9 = chs (E 4) (R c)) (hI : stI E) (hr10 : zRk d G 10) (hub : UB (E 3)) (ha : a1 ∈ d) (hk : zkd a1 = (0, 7)) (ha2 : a1 ∉ kS) (hnm : ∀ i : Nat, i < 7 → E a1 i = nm.getD i 0) (hB : B ≤ K) :
    ∃ (x : Int) (E' : Nat → Int → Int) (r : Option (Option (List zLt))), zM zm_X3_make [zR 41, zR a1, zI B, zR 10] (d, G, E) (some (zI x)) (d, G, E') ∧ fz kS E E' ∧ (∀ L : Int, 0 ≤ L → L < 40 → E' 19 L = 0) ∧ stI E' ∧ stR (E 3) (E 4) R B nm r ∧ mkC E' r x := by
  have e0 : E a1 0 = nm.getD 0 0 := hnm 0 (by omega)
  have e1 : E a1 1 = nm.getD 1 0 := hnm 1 (by omega)
  have e2 : E a1 2 = nm.getD 2 0 := hnm 2 (by omega)
  have e3 : E a1 3 = nm.getD 3 0 := hnm 3 (by omega)
  have e4 : E a1 4 = nm.getD 4 0 := hnm 4 (by omega)
  have e5 : E a1 5 = nm.getD 5 0 := hnm 5 (by omega)
  have e6 : E a1 6 = nm.getD 6 0 := hnm 6 (by omega)
  have no : ∀ (hst : stR (E 3) (E 4) R B nm none) (z : ∀ kz (Q : Option zV → zH → Prop), Q (some (zI 0)) (d, G, E) → Z zm_X3_make kz Q 0 [(0, zR 41), (1, zR a1), (2, zI B), (3, zR 10)] [] (d, G, E)), ∃ (x : Int) (E' : Nat → Int → Int) (r : Option (Option (List zLt))), zM zm_X3_make [zR 41, zR a1, zI B, zR 10] (d, G, E) (some (zI x)) (d, G, E') ∧ fz kS E E' ∧ (∀ L : Int, 0 ≤ L → L < 40 → E' 19 L = 0) ∧ stI E' ∧ stR (E 3) (E 4) R B nm r ∧ mkC E' r x :=
    fun hst z => ⟨0, E, none, zM_e rfl (Nat.le_of_ble_eq_true rfl) (fun kz Q hQ => z kz Q hQ), fz_rfl, h19, hI, hst, Or.inl ⟨rfl, rfl⟩⟩
  by_cases c0 : 1 ≤ nm.getD 0 0 ∧ nm.getD 0 0 ≤ 4
  case neg => exact no (Or.inr (Or.inr (Or.inr (Or.inr ⟨c0, rfl⟩)))) (fun kz Q hQ => X3_make_0 hX ha hk hr10 ⟨⟨by omega, by omega⟩, fun _ => hQ, fun y => ⟨fun y2 => absurd ⟨by omega, by omega⟩ c0, fun _ => hQ⟩⟩)
  -- a name looked up
  have look : ∀ v : Int, ∃ o : Option Nat, (v < B → zM zm_X7_at [zR 5, zI v] (d, G, E) (some (zO o)) (d, G, E)) ∧ (nme B v → o = some (qn v.toNat) ∧ v.toNat < K) ∧ (v < B → ¬ nme B v → o = none) := fun v => by
    by_cases c : 0 ≤ v ∧ v < K
    · refine ⟨some (qn v.toNat), fun _ => ?_, fun h => ⟨rfl, by unfold nme at h; omega⟩, fun h h' => absurd ⟨c.1, h⟩ h'⟩
      have := at_ok (E := E) (c := v.toNat) hX hs (by omega)
      have e : ((v.toNat : Nat) : Int) = v := by omega
      rw [e] at this
      exact this
    · exact ⟨none, fun _ => at_no hX hs c, fun h => by unfold nme at h; omega, fun _ _ => rfl⟩
  -- the first, the second
  let pv := nm.getD 1 0
  let nv := if nm.getD 0 0 = 1 then nm.getD 3 0 else if nm.getD 0 0 = 4 then nm.getD 4 0 else nm.getD 1 0
  obtain ⟨o1, o1a, o1b, o1c⟩ := look pv
  obtain ⟨o2, o2a, o2b, o2c⟩ := look nv
  have to51 : ∀ kz (Q : Option zV → zH → Prop), Z zm_X3_make kz Q 51 [(0, zR 41), (1, zR a1), (2, zI B), (3, zR 10), (4, zI (nm.getD 0 0)), (5, zI pv)] [zI nv] (d, G, E) → Z zm_X3_make kz Q 0 [(0, zR 41), (1, zR a1), (2, zI B), (3, zR 10)] [] (d, G, E) := fun kz Q z => by
    refine X3_make_0 hX ha hk hr10 ?_
    rw [e0]
    have z1 : zsv 1 (nm.getD 0 0) = 1 := by
      show (if (1 : Nat) = 0 then _ else if (1 : Nat) = 1 then (if 1 ≤ nm.getD 0 0 ∧ nm.getD 0 0 ≤ 4 then (1 : Int) else 0) else _) = 1
      rw [if_neg (by decide), if_pos rfl, if_pos c0]
    have z2 : zsv 2 (nm.getD 0 0) = if nm.getD 0 0 = 1 then 3 else if nm.getD 0 0 = 4 then 4 else 0 := rfl
    rw [z1, e1]
    refine ⟨⟨by omega, by omega⟩, fun y => absurd y (by omega), fun _ => ⟨fun _ => ⟨⟨by omega, by omega⟩, ⟨by omega, by omega⟩, ⟨by omega, by omega⟩, fun y => ?_, fun y => ⟨⟨by omega, by omega⟩, ?_, ?_⟩⟩, fun y => absurd c0.2 y⟩⟩
    · have : nv = nm.getD 1 0 := by
        rw [z2] at y
        show (if nm.getD 0 0 = 1 then nm.getD 3 0 else if nm.getD 0 0 = 4 then nm.getD 4 0 else nm.getD 1 0) = nm.getD 1 0
        by_cases q1 : nm.getD 0 0 = 1
        · rw [if_pos q1] at y; omega
        · rw [if_neg q1] at y
          by_cases q4 : nm.getD 0 0 = 4
          · rw [if_pos q4] at y; omega
          · rw [if_neg q1, if_neg q4]
      rw [this] at z
      exact z
    · rw [z2]; split <;> (try split) <;> omega
    · have : E a1 (zsv 2 (nm.getD 0 0)) = nv := by
        rw [z2] at y ⊢
        show _ = (if nm.getD 0 0 = 1 then nm.getD 3 0 else if nm.getD 0 0 = 4 then nm.getD 4 0 else nm.getD 1 0)
        by_cases q1 : nm.getD 0 0 = 1
        · rw [if_pos q1, if_pos q1]; exact e3
        · rw [if_neg q1] at y ⊢
          rw [if_neg q1]
          by_cases q4 : nm.getD 0 0 = 4
          · rw [if_pos q4, if_pos q4]; exact e4
          · rw [if_neg q4] at y; omega
      rw [this]; exact z
  by_cases cok : nme B pv ∧ nme B nv
  case neg =>
    refine no ?_ (fun kz Q hQ => to51 kz Q (X3_make_51 hX ha hk hr10 ⟨fun y => ?_, fun y => ⟨o1, o1a (by omega), ?_⟩⟩))
    · have cc : (nm.getD 0 0 = 1 ∧ ¬ (nme B (nm.getD 1 0) ∧ nme B (nm.getD 3 0))) ∨ (nm.getD 0 0 = 4 ∧ ¬ (nme B (nm.getD 1 0) ∧ nme B (nm.getD 4 0))) ∨ ((nm.getD 0 0 = 2 ∨ nm.getD 0 0 = 3) ∧ ¬ nme B (nm.getD 1 0)) := by
        have ev : nv = if nm.getD 0 0 = 1 then nm.getD 3 0 else if nm.getD 0 0 = 4 then nm.getD 4 0 else nm.getD 1 0 := rfl
        rw [ev] at cok
        by_cases q1 : nm.getD 0 0 = 1
        · rw [if_pos q1] at cok; exact Or.inl ⟨q1, cok⟩
        · rw [if_neg q1] at cok
          by_cases q4 : nm.getD 0 0 = 4
          · rw [if_pos q4] at cok; exact Or.inr (Or.inl ⟨q4, cok⟩)
          · rw [if_neg q4] at cok
            exact Or.inr (Or.inr ⟨by omega, fun z => cok ⟨z, z⟩⟩)
      rcases cc with ⟨q, w⟩ | ⟨q, w⟩ | ⟨q | q, w⟩
      · exact Or.inl ⟨q, Or.inl ⟨w, rfl⟩⟩
      · exact Or.inr (Or.inr (Or.inr (Or.inl ⟨q, Or.inl ⟨w, rfl⟩⟩)))
      · exact Or.inr (Or.inl ⟨q, Or.inl ⟨w, rfl⟩⟩)
      · exact Or.inr (Or.inr (Or.inl ⟨q, Or.inl ⟨w, rfl⟩⟩))
    · exact X3_make_72 hX ha hk hr10 ⟨fun _ => ⟨fun _ => hQ, fun _ => hQ⟩, fun y2 => ⟨o2, o2a (by omega), fun _ => hQ, fun z => absurd rfl z⟩⟩
    · refine X3_make_72 hX ha hk hr10 ⟨fun _ => ⟨fun _ => hQ, fun _ => hQ⟩, fun y2 => ⟨o2, o2a (by omega), fun _ => hQ, fun z => ⟨fun z2 => ?_, fun _ => hQ⟩⟩⟩
      exfalso
      refine cok ⟨Classical.byContradiction fun q => z (o1c (by omega) q), Classical.byContradiction fun q => z2 (o2c (by omega) q)⟩
  obtain ⟨cp, cn⟩ := cok
  obtain ⟨p1, p2⟩ := o1b cp
  obtain ⟨n1, n2⟩ := o2b cn
  subst p1; subst n1
  obtain ⟨E1, m1, rA, f1, _⟩ := empty_ok (E := E) hX hr10
  have g1 : fz kS E E1 := fz_mono f1 (by simp [kS])
  have a3 : E1 3 = E 3 := g1 3 (by simp [kS])
  have a4 : E1 4 = E 4 := g1 4 (by simp [kS])
  have a19 : ∀ L : Int, 0 ≤ L → L < 40 → E1 19 L = 0 := by rw [f1 19 (by decide)]; exact h19
  have s1 : stC d G E1 (E 3) (E 4) K R := stC_fz hs g1 (by simp [kS]) (by rw [g1 5 (by simp [kS])])
  have h91 : ∀ c : Nat, c < K → E1 (qn c) 9 = chs (E 4) (R c) := fun c hc => by rw [g1 (qn c) (by simp [kS, qn]; omega)]; exact h9 c hc
  have hI1 : stI E1 := stI_fz hI f1 (by decide) (by decide) (by decide)
  have ea : E1 a1 = E a1 := g1 a1 ha2
  have cpB : pv < B := cp.2
  have cnB : nv < B := cn.2
  have to72 : ∀ kz (Q : Option zV → zH → Prop), ((nm.getD 0 0) = 1 → ∃ x_14 E_15, zM zm_X3_makeClash [zR 41, zR (qn pv.toNat), zI (nm.getD 2 0), zR (qn nv.toNat), zR 10] (d, G, E1) (some (zI x_14)) (d, G, E_15) ∧ Q (some (zI x_14)) (d, G, E_15)) → ((nm.getD 0 0) = 2 → ∃ x_21 E_22, zM zm_X3_makeFactor [zR 41, zR (qn pv.toNat), zI (nm.getD 2 0), zI (nm.getD 3 0), zR 10] (d, G, E1) (some (zI x_21)) (d, G, E_22) ∧ Q (some (zI x_21)) (d, G, E_22)) → ((nm.getD 0 0) = 3 → ∃ x_26 E_27, zM zm_X3_makeDrop [zR 41, zR (qn pv.toNat), zR 10] (d, G, E1) (some (zI x_26)) (d, G, E_27) ∧ Q (some (zI x_26)) (d, G, E_27)) → ((nm.getD 0 0) = 4 → ∃ x_30 E_31, zM zm_X3_makeTurn [zR 41, zR (qn pv.toNat), zR (qn nv.toNat), zR a1, zR 10] (d, G, E1) (some (zI x_30)) (d, G, E_31) ∧ Q (some (zI x_30)) (d, G, E_31)) → Z zm_X3_make kz Q 0 [(0, zR 41), (1, zR a1), (2, zI B), (3, zR 10)] [] (d, G, E) := fun kz Q k1 k2 k3 k4 => by
    refine to51 kz Q (X3_make_51 hX ha hk hr10 ⟨fun y => absurd y (by omega), fun _ => ⟨_, o1a cpB, X3_make_72 hX ha hk hr10 ⟨fun y => absurd y (by omega), fun _ => ⟨_, o2a cnB, fun z => absurd z (by simp), fun _ => ⟨fun _ => ⟨E1, m1, ?_⟩, fun z => absurd (by simp) z⟩⟩⟩⟩⟩)
    rw [ea, e2, e3]
    exact ⟨fun y => ⟨⟨by omega, by omega⟩, k1 y⟩, fun y => ⟨⟨by omega, by omega⟩, ⟨by omega, by omega⟩, k2 y⟩, k3, fun y => k4 (by omega)⟩
  rcases (by omega : nm.getD 0 0 = 1 ∨ nm.getD 0 0 = 2 ∨ nm.getD 0 0 = 3 ∨ nm.getD 0 0 = 4) with q | q | q | q
  · have ev : nv = nm.getD 3 0 := if_pos q
    obtain ⟨x, E', r, m, f, z19, zI', hr, hx⟩ := makeClash_ok (E := E1) (p := pv.toNat) (n := nv.toNat) (i := nm.getD 2 0) hX (by rw [a3]; exact hP) (by rw [a4]; exact hW) (by rw [a3, a4]; exact s1) (by rw [a4]; exact h91) hI1 hr10 rA (by rw [a3]; exact hub) p2 n2
    rw [a3, a4] at hr
    refine ⟨x, E', r, zM_e rfl (Nat.le_of_ble_eq_true rfl) (fun kz Q hQ => to72 kz Q (fun _ => ⟨x, E', m, hQ⟩) (fun y => absurd y (by omega)) (fun y => absurd y (by omega)) (fun y => absurd y (by omega))), fz_trans g1 f, by rw [z19]; exact a19, zI', Or.inl ⟨q, Or.inr ⟨⟨cp, by rw [← ev]; exact cn⟩, ?_⟩⟩, hx⟩
    rw [← ev]; exact hr
  · obtain ⟨x, E', r, m, f, z19, zI', hr, hx⟩ := makeFactor_ok (E := E1) (p := pv.toNat) (i := nm.getD 2 0) (j := nm.getD 3 0) hX (by rw [a3]; exact hP) (by rw [a3, a4]; exact s1) (by rw [a4]; exact h91) hI1 hr10 rA (by rw [a3]; exact hub) p2
    rw [a3, a4] at hr
    exact ⟨x, E', r, zM_e rfl (Nat.le_of_ble_eq_true rfl) (fun kz Q hQ => to72 kz Q (fun y => absurd y (by omega)) (fun _ => ⟨x, E', m, hQ⟩) (fun y => absurd y (by omega)) (fun y => absurd y (by omega))), fz_trans g1 f, by rw [z19]; exact a19, zI', Or.inr (Or.inl ⟨q, Or.inr ⟨cp, hr⟩⟩), hx⟩
  · obtain ⟨x, E', r, m, f, z19, zI', hr, hx⟩ := makeDrop_ok (E := E1) (p := pv.toNat) hX (by rw [a3]; exact hP) (by rw [a4]; exact hW) (by rw [a3]; exact h2) (by rw [a3, a4]; exact s1) (by rw [a4]; exact h91) hI1 hr10 rA (by rw [a3]; exact hub) p2
    rw [a3, a4] at hr
    exact ⟨x, E', r, zM_e rfl (Nat.le_of_ble_eq_true rfl) (fun kz Q hQ => to72 kz Q (fun y => absurd y (by omega)) (fun y => absurd y (by omega)) (fun _ => ⟨x, E', m, hQ⟩) (fun y => absurd y (by omega))), fz_trans g1 f, by rw [z19]; exact a19, zI', Or.inr (Or.inr (Or.inl ⟨q, Or.inr ⟨cp, hr⟩⟩)), hx⟩
  · have ev : nv = nm.getD 4 0 := (if_neg (by omega)).trans (if_pos q)
    obtain ⟨x, E', r, m, f, z19, zI', hr, hx⟩ := makeTurn_ok (E := E1) (p := pv.toNat) (n := nv.toNat) (a3 := a1) (i := nm.getD 2 0) (s := nm.getD 3 0) (j := nm.getD 5 0) (pl := nm.getD 6 0) hX (by rw [a3]; exact hP) (by rw [a4]; exact hW) (by rw [a3]; exact h2) a19 (by rw [a3, a4]; exact s1) (by rw [a4]; exact h91) hI1 hr10 rA (by rw [a3]; exact hub) p2 n2 ha hk (by rw [ea]; exact e2) (by rw [ea]; exact e3) (by rw [ea]; exact e5) (by rw [ea]; exact e6)
    rw [a3, a4] at hr
    refine ⟨x, E', r, zM_e rfl (Nat.le_of_ble_eq_true rfl) (fun kz Q hQ => to72 kz Q (fun y => absurd y (by omega)) (fun y => absurd y (by omega)) (fun y => absurd y (by omega)) (fun _ => ⟨x, E', m, hQ⟩)), fz_trans g1 f, z19, zI', Or.inr (Or.inr (Or.inr (Or.inl ⟨q, Or.inr ⟨⟨cp, by rw [← ev]; exact cn⟩, ?_⟩⟩))), hx⟩
    rw [← ev]; exact hr
/-- the same, asked of the reference; its names are known to be claims -/
theorem makes_ok {K : Nat} {B : Int} {R : Nat → List zLt} {v1 v2 v3 v4 v5 v6 v7 : Int} (hM : zK zMt d G) (hP : pok (E 53)) (hW : wok (E 54)) (h2 : E 53 0 = 2) (hs : stM E (E 53) (E 54) K R) (hlo : ∀ i : Int, -1000 ≤ E 58 i) (hB : B ≤ K) (h1 : 1 ≤ v1 ∧ v1 ≤ 4) (hp : nme B v2) (hn1 : v1 = 1 → nme B v4) (hn4 : v1 = 4 → nme B v5) :
    ∃ (x : Int) (E' : Nat → Int → Int) (r : Option (Option (List zLt))), zM zm_X12_makes [zR 50, zI v1, zI v2, zI v3, zI v4, zI v5, zI v6, zI v7] (d, G, E) (some (zI x)) (d, G, E') ∧ fz mS E E' ∧ m50 E E' ∧ stR (E 53) (E 54) R B [v1, v2, v3, v4, v5, v6, v7] r ∧ mkM E' r x := by
  obtain ⟨p, ep⟩ : ∃ p : Nat, v2 = p := ⟨v2.toNat, by unfold nme at hp; omega⟩
  have tp : v2.toNat = p := by omega
  have hpK : p < K := by unfold nme at hp; omega
  rcases (by omega : v1 = 1 ∨ v1 = 2 ∨ v1 = 3 ∨ v1 = 4) with q | q | q | q
  · have hn := hn1 q
    obtain ⟨n, en⟩ : ∃ p : Nat, v4 = p := ⟨v4.toNat, by unfold nme at hn; omega⟩
    have tn : v4.toNat = n := by omega
    obtain ⟨x, E', r, m, f, j, hr, hx⟩ := clash_ok (E := E) (p := p) (n := n) (i := v3) hM hP hW hs hpK (by unfold nme at hn; omega) hlo
    rw [← ep, ← en] at m
    refine ⟨x, E', r, zM_e rfl (Nat.le_of_ble_eq_true rfl) (fun kz Q hQ => X12_makes_0 hM ⟨fun _ => ⟨x, E', m, hQ⟩, fun y => absurd y (by omega), fun y => absurd y (by omega), fun y => absurd y (by omega)⟩), f, j, Or.inl ⟨q, Or.inr ⟨⟨hp, hn⟩, ?_⟩⟩, hx⟩
    show csR (E 53) (E 54) (R v2.toNat) v3 (R v4.toNat) r
    rw [tp, tn]; exact hr
  · obtain ⟨x, E', r, m, f, j, hr, hx⟩ := factor_ok (E := E) (p := p) (i := v3) (j := v4) hM hP hW hs hpK hlo
    rw [← ep] at m
    refine ⟨x, E', r, zM_e rfl (Nat.le_of_ble_eq_true rfl) (fun kz Q hQ => X12_makes_0 hM ⟨fun y => absurd y (by omega), fun _ => ⟨x, E', m, hQ⟩, fun y => absurd y (by omega), fun y => absurd y (by omega)⟩), f, j, Or.inr (Or.inl ⟨q, Or.inr ⟨hp, ?_⟩⟩), hx⟩
    show faR (E 53) (E 54) (R v2.toNat) v3 v4 r
    rw [tp]; exact hr
  · obtain ⟨x, E', r, m, f, j, hr, hx⟩ := drop_ok (E := E) (p := p) hM hP hW h2 hs hpK hlo
    rw [← ep] at m
    refine ⟨x, E', r, zM_e rfl (Nat.le_of_ble_eq_true rfl) (fun kz Q hQ => X12_makes_0 hM ⟨fun y => absurd y (by omega), fun y => absurd y (by omega), fun _ => ⟨x, E', m, hQ⟩, fun y => absurd y (by omega)⟩), f, j, Or.inr (Or.inr (Or.inl ⟨q, Or.inr ⟨hp, ?_⟩⟩)), hx⟩
    show drR (E 53) (E 54) (R v2.toNat) r
    rw [tp]; exact hr
  · have hn := hn4 q
    obtain ⟨n, en⟩ : ∃ p : Nat, v5 = p := ⟨v5.toNat, by unfold nme at hn; omega⟩
    have tn : v5.toNat = n := by omega
    obtain ⟨x, E', r, m, f, j, hr, hx⟩ := turn_ok (E := E) (p := p) (n := n) (i := v3) (s := v4) (j := v6) (pl := v7) hM hP hW h2 hs hpK (by unfold nme at hn; omega) hlo
    rw [← ep, ← en] at m
    refine ⟨x, E', r, zM_e rfl (Nat.le_of_ble_eq_true rfl) (fun kz Q hQ => X12_makes_0 hM ⟨fun y => absurd y (by omega), fun y => absurd y (by omega), fun y => absurd y (by omega), fun _ => ⟨x, E', m, hQ⟩⟩), f, j, Or.inr (Or.inr (Or.inr (Or.inl ⟨q, Or.inr ⟨⟨hp, hn⟩, ?_⟩⟩))), hx⟩
    show tuRl (E 53) (E 54) (R v2.toNat) v3 v4 (R v5.toNat) v6 v7 r
    rw [tp, tn]; exact hr
end SC
