/-! ===== the beginning; the law's loop ===== -/
theorem nd_bound : ∀ (n : Nat) (d : List Nat), d.Nodup → (∀ x, x ∈ d → x < n) → d.length ≤ n ∧ zsl d ≤ zsl (List.range n)
  | 0, d, _, h => by
    cases d with
    | nil => exact ⟨Nat.le_refl _, Nat.le_refl _⟩
    | cons a l => exact absurd (h a List.mem_cons_self) (Nat.not_lt_zero _)
  | n + 1, d, hn, h => by
    have er : zsl (List.range (n + 1)) = zsl (List.range n) + (zkd n).2 := by
      rw [List.range_succ, zsl_ap2, zsl_cs, zsl_nl]; omega
    by_cases c : n ∈ d
    · obtain ⟨d1, d2, e⟩ := List.append_of_mem c
      subst e
      obtain ⟨h1, h2, h3⟩ := List.nodup_append.mp hn
      obtain ⟨h4, h5⟩ := List.nodup_cons.mp h2
      have hx : ∀ x, x ∈ d1 ++ d2 → x < n := fun x hx => by
        have lt : x < n + 1 := h x (by
          rcases List.mem_append.mp hx with q | q
          · exact List.mem_append_left _ q
          · exact List.mem_append_right _ (List.mem_cons_of_mem _ q))
        have ne : x ≠ n := fun e => by
          subst e
          rcases List.mem_append.mp hx with q | q
          · exact h3 x q x List.mem_cons_self rfl
          · exact h4 q
        omega
      have ih := nd_bound n (d1 ++ d2) (List.nodup_append.mpr ⟨h1, h5, fun a ha b hb => h3 a ha b (List.mem_cons_of_mem _ hb)⟩) hx
      rw [zsl_ap2, List.length_append] at ih
      rw [er, zsl_ap2, zsl_cs, List.length_append, List.length_cons]
      omega
    · have ih := nd_bound n d hn (fun x hx => by
        have := h x hx
        have ne : x ≠ n := fun e => c (by rw [← e]; exact hx)
        omega)
      rw [er]; omega
theorem ndp_b {d : List Nat} (h : ndp d) : d.length ≤ 600000 ∧ zsl d ≤ 7302250 := by
  obtain ⟨a, b⟩ := nd_bound 3200 d h.1 h.2
  have e : zsl (List.range 3200) ≤ 7302250 := by decide +kernel
  exact ⟨by omega, by omega⟩
theorem zlcmp_self (r : Int64) : zlcmp r r = 0 := by
  unfold zlcmp lg_cmp
  simp
def s0 : zS := (0, fun _ => [], fun _ => 0, fun _ => 0, fun _ => [], fun _ => [], fun _ => [], 0, 0, 0, 0, 0)
section TP
variable {d : List Nat} {G : Nat → Int → Option Nat} {E : Nat → Int → Int}
theorem JI_run2 {s : zS} {g : Nat} {v : Int} (h : JJ d G E s g) (hg : g < 600) :
    ∃ (r : Int) (d' : List Nat) (G' : Nat → Int → Option Nat) (E1 E2 : Nat → Int → Int) (s' : zS), zM zm_X11_run [zR 0, zI v] (d, G, E) (some (zI r)) (d', G', E1) ∧ zM zm_X12_run [zR 50, zI v] (d', G', E1) (some (zI r)) (d', G', E2) ∧ sc E E1 ∧ sc E E2 ∧ (ndp d → ndp d') ∧ JJ d' G' E2 s' (g + 1) := by
  by_cases c : 1 ≤ v ∧ v ≤ 200
  · obtain ⟨N, rfl⟩ : ∃ N : Nat, v = N := ⟨v.toNat, by omega⟩
    obtain ⟨r, d', G', E1, E2, s', m1, m2, c1, c2, _, _, hJ, hn, p', hr⟩ := JI_run (N := N) h.1 hg ⟨by omega, by omega⟩
    exact ⟨r, d', G', E1, E2, s', m1, m2, c1, c2, hn, hJ, RN_nm h.2 hr⟩
  · have hX : zK zXt d G := h.1.1.2.2.2.2.2.2.2.2.1
    have hM : zK zMt d G := h.1.1.2.2.2.2.2.2.2.2.2
    exact ⟨-2, d, G, E, E, s, zM_e rfl (Nat.le_of_ble_eq_true rfl) (fun kz Q hQ => X11_run_0 hX ⟨fun _ => hQ, fun y => ⟨fun y2 => absurd ⟨by omega, y2⟩ c, fun _ => hQ⟩⟩), zM_e rfl (Nat.le_of_ble_eq_true rfl) (fun kz Q hQ => X12_run_0 hM ⟨0, inN hM c, fun y => absurd rfl y, fun _ => hQ⟩), sc_r, sc_r, id, JI_up h.1, h.2⟩
theorem law_go (hUB : ∀ P : Int → Int, pok P → UB P) {L : Nat} {X : Int → Int} (hL : L ≤ 2560) (hX2 : ∀ k : Int, X k ≤ 2147483647) : ∀ (m g : Nat) (d : List Nat) (G : Nat → Int → Option Nat) (E : Nat → Int → Int) (s : zS), (L : Int) - 5 < 5 * (g : Int) + 5 * (m : Int) → g + m ≤ 512 → JJ d G E s g → ndp d → E 193 = X → E 194 0 = L → Z zm_L_law (600000, 7302250) zQl 18 [(0, zR 193), (1, zR 0), (2, zR 50), (3, zI (5 * (g : Int)))] [] (d, G, E) := by
  intro m
  induction m with
  | zero =>
    intro g d G E s hm hg h hd e193 e194
    have hX : zK zXt d G := h.1.1.2.2.2.2.2.2.2.2.1
    have hM : zK zMt d G := h.1.1.2.2.2.2.2.2.2.2.2
    obtain ⟨b1, b2⟩ := ndp_b hd
    exact L_law_18 (zX_0_0 hX).2.1 (zM_1 hM).2.1 ⟨by rw [e194]; exact zin_of (by omega) (by omega), fun _ => ⟨rfl, b1, b2⟩, fun y => absurd (by rw [e194]; omega) y⟩
  | succ m ih =>
    intro g d G E s hm hg h hd e193 e194
    have hX : zK zXt d G := h.1.1.2.2.2.2.2.2.2.2.1
    have hM : zK zMt d G := h.1.1.2.2.2.2.2.2.2.2.2
    obtain ⟨b1, b2⟩ := ndp_b hd
    by_cases ce : (L : Int) - 5 < 5 * (g : Int)
    · exact L_law_18 (zX_0_0 hX).2.1 (zM_1 hM).2.1 ⟨by rw [e194]; exact zin_of (by omega) (by omega), fun _ => ⟨rfl, b1, b2⟩, fun y => absurd (by rw [e194]; omega) y⟩
    have bb : ∀ F : Nat → Int → Int, sc E F → ∀ i : Int, 0 ≤ i → i ≤ 4 → (0 : Int) ≤ 5 * (g : Int) + i ∧ 5 * (g : Int) + i < F 194 0 := fun F hF i i0 i1 => by
      rw [hF.2, e194]
      exact ⟨by omega, by omega⟩
    have b0 := fun i i0 i1 => bb E sc_r i i0 i1
    have nx : ∀ (d' : List Nat) (G' : Nat → Int → Option Nat) (F : Nat → Int → Int) (s' : zS), JJ d' G' F s' (g + 1) → ndp d' → sc E F → zin (5 * (g : Int) + 5) ∧ Z zm_L_law (600000, 7302250) zQl 18 [(0, zR 193), (1, zR 0), (2, zR 50), (3, zI (5 * (g : Int) + 5))] [] (d', G', F) := fun d' G' F s' hJ hn hF => by
      have z := ih (g + 1) d' G' F s' (by omega) (by omega) hJ hn (hF.1.trans e193) (by rw [hF.2]; exact e194)
      rw [show 5 * ((g + 1 : Nat) : Int) = 5 * (g : Int) + 5 by omega] at z
      exact ⟨zin_of (by omega) (by omega), z⟩
    have sg : ∀ x : Int, x = 0 ∨ x = 1 → ∃ (r : Int) (E1 E2 : Nat → Int → Int), zM zm_X11_sign [zR 0, zI x, zI (E 193 (5 * (g : Int) + 2)), zI (E 193 (5 * (g : Int) + 3))] (d, G, E) (some (zI r)) (d, G, E1) ∧ zM zm_X12_sign [zR 50, zI x, zI (E 193 (5 * (g : Int) + 2)), zI (E 193 (5 * (g : Int) + 3))] (d, G, E1) (some (zI r)) (d, G, E2) ∧ sc E E1 ∧ sc E E2 ∧ JI d G E2 s (g + 1) := fun x hx => JI_sign hUB hx h.1
    have up : JJ d G E s (g + 1) := ⟨JI_up h.1, h.2⟩
    refine L_law_18 (zX_0_0 hX).2.1 (zM_1 hM).2.1 ⟨by rw [e194]; exact zin_of (by omega) (by omega), fun y => absurd (by rw [e194] at y; exact y) ce, fun _ => ⟨by have := b0 0 (by omega) (by omega); rw [Int.add_zero] at this; exact this, fun _ => ⟨zin_of (by omega) (by omega), b0 1 (by omega) (by omega), fun y => ?_, fun y => ?_⟩, fun _ => ?_, fun _ => ?_, fun _ => ?_, fun _ => ?_, fun _ => ?_, fun _ => ?_, fun _ => ?_, fun _ => ?_, fun _ => ?_, fun _ => ?_, fun _ => ?_, fun _ => ?_, fun _ => ?_, fun _ => ?_, fun _ => ?_, fun _ => ?_, fun _ => ?_, fun _ => nx d G E s up hd sc_r⟩⟩
    · obtain ⟨r, E1, E2, m1, m2, c1, c2, hJ⟩ := sg 0 (Or.inl rfl)
      exact ⟨zin_of (by omega) (by omega), b0 2 (by omega) (by omega), zin_of (by omega) (by omega), b0 3 (by omega) (by omega), r, E1, m1, zin_of (by omega) (by omega), bb E1 c1 1 (by omega) (by omega), fun _ => ⟨zin_of (by omega) (by omega), bb E1 c1 2 (by omega) (by omega), zin_of (by omega) (by omega), bb E1 c1 3 (by omega) (by omega), r, E2, by rw [c1.1]; exact m2, fun _ => nx d G E2 s ⟨hJ, h.2⟩ hd c2, fun q => absurd rfl q⟩, fun q => absurd (by rw [c1.1]; exact y) q⟩
    · obtain ⟨r, E1, E2, m1, m2, c1, c2, hJ⟩ := sg 1 (Or.inr rfl)
      exact ⟨zin_of (by omega) (by omega), b0 2 (by omega) (by omega), zin_of (by omega) (by omega), b0 3 (by omega) (by omega), r, E1, m1, zin_of (by omega) (by omega), bb E1 c1 1 (by omega) (by omega), fun q => absurd (by rw [c1.1] at q; exact q) y, fun _ => ⟨zin_of (by omega) (by omega), bb E1 c1 2 (by omega) (by omega), zin_of (by omega) (by omega), bb E1 c1 3 (by omega) (by omega), r, E2, by rw [c1.1]; exact m2, fun _ => nx d G E2 s ⟨hJ, h.2⟩ hd c2, fun q => absurd rfl q⟩⟩
    · obtain ⟨r, E1, E2, m1, m2, c1, c2, hJ⟩ := JI_draft (v := E 193 (5 * (g : Int) + 1)) h.1
      exact ⟨zin_of (by omega) (by omega), b0 1 (by omega) (by omega), r, E1, m1, zin_of (by omega) (by omega), bb E1 c1 1 (by omega) (by omega), r, E2, by rw [c1.1]; exact m2, fun _ => nx d G E2 s ⟨hJ, h.2⟩ hd c2, fun q => absurd rfl q⟩
    · obtain ⟨r, d', G', E1, E2, s', m1, m2, c1, c2, _, _, hJ, hn, hp⟩ := JI_given h.1 (by omega)
      have hd' := hp hd
      have hX' : zK zXt d' G' := hJ.1.2.2.2.2.2.2.2.2.1
      have hM' : zK zMt d' G' := hJ.1.2.2.2.2.2.2.2.2.2
      exact ⟨r, d', G', E1, m1, Or.inr (ndp_b hd'), (zX_0_0 hX').2.1, (zM_1 hM').2.1, r, E2, m2, fun _ => nx d' G' E2 s' ⟨hJ, hn h.2⟩ hd' c2, fun q => absurd rfl q⟩
    · obtain ⟨r, E1, E2, m1, m2, c1, c2, hJ⟩ := JI_wipe h.1
      exact ⟨r, E1, m1, r, E2, m2, fun _ => nx d G E2 s ⟨hJ, h.2⟩ hd c2, fun q => absurd rfl q⟩
    · obtain ⟨r, E1, E2, m1, m2, c1, c2, hJ⟩ := JI_turns (v := E 193 (5 * (g : Int) + 1)) h.1
      exact ⟨zin_of (by omega) (by omega), b0 1 (by omega) (by omega), r, E1, m1, zin_of (by omega) (by omega), bb E1 c1 1 (by omega) (by omega), r, E2, by rw [c1.1]; exact m2, fun _ => nx d G E2 s ⟨hJ, h.2⟩ hd c2, fun q => absurd rfl q⟩
    · obtain ⟨r, E1, E2, m1, m2, c1, c2, hJ⟩ := JI_fuel (v := E 193 (5 * (g : Int) + 1)) h.1
      exact ⟨zin_of (by omega) (by omega), b0 1 (by omega) (by omega), r, E1, m1, zin_of (by omega) (by omega), bb E1 c1 1 (by omega) (by omega), r, E2, by rw [c1.1]; exact m2, fun _ => nx d G E2 s ⟨hJ, h.2⟩ hd c2, fun q => absurd rfl q⟩
    · obtain ⟨r, d', G', E1, E2, s', m1, m2, c1, c2, hp, hJ⟩ := JI_run2 (v := E 193 (5 * (g : Int) + 1)) h (by omega)
      have hd' := hp hd
      have hX' : zK zXt d' G' := hJ.1.1.2.2.2.2.2.2.2.2.1
      have hM' : zK zMt d' G' := hJ.1.1.2.2.2.2.2.2.2.2.2
      exact ⟨zin_of (by omega) (by omega), b0 1 (by omega) (by omega), r, d', G', E1, m1, Or.inr (ndp_b hd'), (zX_0_0 hX').2.1, (zM_1 hM').2.1, zin_of (by omega) (by omega), bb E1 c1 1 (by omega) (by omega), r, E2, by rw [c1.1]; exact m2, fun _ => nx d' G' E2 s' hJ hd' c2, fun q => absurd rfl q⟩
    · obtain ⟨r, E1, E2, m1, m2, c1, c2, hJ⟩ := JI_clear h.1
      exact ⟨r, E1, m1, r, E2, m2, fun _ => nx d G E2 _ ⟨hJ, fun c hc => absurd hc (Nat.not_lt_zero _)⟩ hd c2, fun q => absurd rfl q⟩
    · obtain ⟨r, m1, m2, _⟩ := claim_2 h.1 (E 193 (5 * (g : Int) + 1)) (E 193 (5 * (g : Int) + 2))
      exact ⟨zin_of (by omega) (by omega), b0 1 (by omega) (by omega), zin_of (by omega) (by omega), b0 2 (by omega) (by omega), r, m1, zin_of (by omega) (by omega), b0 1 (by omega) (by omega), zin_of (by omega) (by omega), b0 2 (by omega) (by omega), r, m2, fun _ => nx d G E s up hd sc_r, fun q => absurd rfl q⟩
    · obtain ⟨r, m1, m2, _⟩ := literal_2 h.1 (E 193 (5 * (g : Int) + 1)) (E 193 (5 * (g : Int) + 2)) (E 193 (5 * (g : Int) + 3)) (by rw [e193]; exact hX2 _)
      exact ⟨zin_of (by omega) (by omega), b0 1 (by omega) (by omega), zin_of (by omega) (by omega), b0 2 (by omega) (by omega), zin_of (by omega) (by omega), b0 3 (by omega) (by omega), r, m1, zin_of (by omega) (by omega), b0 1 (by omega) (by omega), zin_of (by omega) (by omega), b0 2 (by omega) (by omega), zin_of (by omega) (by omega), b0 3 (by omega) (by omega), r, m2, fun _ => nx d G E s up hd sc_r, fun q => absurd rfl q⟩
    · obtain ⟨r, m1, m2, _⟩ := step_2 h (E 193 (5 * (g : Int) + 1)) (E 193 (5 * (g : Int) + 2))
      exact ⟨zin_of (by omega) (by omega), b0 1 (by omega) (by omega), zin_of (by omega) (by omega), b0 2 (by omega) (by omega), r, m1, zin_of (by omega) (by omega), b0 1 (by omega) (by omega), zin_of (by omega) (by omega), b0 2 (by omega) (by omega), r, m2, fun _ => nx d G E s up hd sc_r, fun q => absurd rfl q⟩
    · obtain ⟨r, E1, E2, s', m1, m2, c1, c2, hJ⟩ := JJ_forge (v := E 193 (5 * (g : Int) + 1)) (w := E 193 (5 * (g : Int) + 2)) (x := E 193 (5 * (g : Int) + 3)) h
      exact ⟨zin_of (by omega) (by omega), b0 1 (by omega) (by omega), zin_of (by omega) (by omega), b0 2 (by omega) (by omega), zin_of (by omega) (by omega), b0 3 (by omega) (by omega), r, E1, m1, zin_of (by omega) (by omega), bb E1 c1 1 (by omega) (by omega), zin_of (by omega) (by omega), bb E1 c1 2 (by omega) (by omega), zin_of (by omega) (by omega), bb E1 c1 3 (by omega) (by omega), r, E2, by rw [c1.1]; exact m2, fun _ => nx d G E2 s' hJ hd c2, fun q => absurd rfl q⟩
    · obtain ⟨r, E1, E2, m1, m2, c1, c2, hJ⟩ := JI_judge (v := E 193 (5 * (g : Int) + 1)) h.1
      exact ⟨zin_of (by omega) (by omega), b0 1 (by omega) (by omega), r, E1, m1, zin_of (by omega) (by omega), bb E1 c1 1 (by omega) (by omega), r, E2, by rw [c1.1]; exact m2, fun _ => nx d G E2 s ⟨hJ, h.2⟩ hd c2, fun q => absurd rfl q⟩
    · obtain ⟨r, E1, E2, m1, m2, c1, c2, hJ⟩ := JI_proof (v := E 193 (5 * (g : Int) + 1)) (by rw [e193]; exact hX2 _) h.1
      exact ⟨zin_of (by omega) (by omega), b0 1 (by omega) (by omega), r, E1, m1, zin_of (by omega) (by omega), bb E1 c1 1 (by omega) (by omega), r, E2, by rw [c1.1]; exact m2, fun _ => nx d G E2 s ⟨hJ, h.2⟩ hd c2, fun q => absurd rfl q⟩
    · obtain ⟨r, E1, E2, m1, m2, c1, c2, hJ⟩ := JI_order (v := E 193 (5 * (g : Int) + 1)) (i := E 193 (5 * (g : Int) + 2)) (w := E 193 (5 * (g : Int) + 3)) (j := E 193 (5 * (g : Int) + 4)) h.1
      exact ⟨zin_of (by omega) (by omega), b0 1 (by omega) (by omega), zin_of (by omega) (by omega), b0 2 (by omega) (by omega), zin_of (by omega) (by omega), b0 3 (by omega) (by omega), zin_of (by omega) (by omega), b0 4 (by omega) (by omega), r, E1, m1, zin_of (by omega) (by omega), bb E1 c1 1 (by omega) (by omega), zin_of (by omega) (by omega), bb E1 c1 2 (by omega) (by omega), zin_of (by omega) (by omega), bb E1 c1 3 (by omega) (by omega), zin_of (by omega) (by omega), bb E1 c1 4 (by omega) (by omega), r, E2, by rw [c1.1]; exact m2, fun _ => nx d G E2 s ⟨hJ, h.2⟩ hd c2, fun q => absurd rfl q⟩
    · obtain ⟨r, E1, E2, m1, m2, c1, c2, hJ⟩ := JI_takesIn (v := E 193 (5 * (g : Int) + 1)) (w := E 193 (5 * (g : Int) + 2)) h.1
      exact ⟨zin_of (by omega) (by omega), b0 1 (by omega) (by omega), zin_of (by omega) (by omega), b0 2 (by omega) (by omega), r, E1, m1, zin_of (by omega) (by omega), bb E1 c1 1 (by omega) (by omega), zin_of (by omega) (by omega), bb E1 c1 2 (by omega) (by omega), r, E2, by rw [c1.1]; exact m2, fun _ => nx d G E2 s ⟨hJ, h.2⟩ hd c2, fun q => absurd rfl q⟩
    · obtain ⟨r, m1, m2⟩ := count_2 h.1 (E 193 (5 * (g : Int) + 1))
      exact ⟨zin_of (by omega) (by omega), b0 1 (by omega) (by omega), r, m1, zin_of (by omega) (by omega), b0 1 (by omega) (by omega), r, m2, fun _ => nx d G E s up hd sc_r, fun q => absurd rfl q⟩
    · obtain ⟨r, m1, m2⟩ := digest_2 h
      exact ⟨r, m1, r, m2, fun _ => nx d G E s up hd sc_r, fun q => absurd (zlcmp_self r) q⟩
/-- THE LAW'S WALK, but for the unification bound -/
theorem law_Z (hUB : ∀ P : Int → Int, pok P → UB P) {L : Nat} (hL : L ≤ 2560) (xs : Nat → Int32) : Z zm_L_law (600000, 7302250) zQl 0 [(0, zR 193)] [] ([], (fun _ _ => none), zE0 L xs) := by
  let GA := zclG (fun _ _ => none) 0
  let EA := zclE (zE0 L xs) 0
  obtain ⟨G1, E1, m1, kX, fg1, fe1, ⟨a13, a2, a3, a4⟩, a54, g6, a19, a204, a22, a12, a013, a014, a015, a016, a017, a018, a019, a020⟩ := hallI (G := GA) (E := EA)
  let GB := zclG G1 50
  let EB := zclE E1 50
  obtain ⟨G2, E2, m2, kM, fg2, fe2, b0, b57, b58, bj, b52, b53, b54, b58'⟩ := modelI (G := GB) (E := EB)
  have eG : ∀ y : Nat, y < 50 → G2 y = G1 y := fun y hy => (fg2 y (by simp only [List.mem_cons, List.not_mem_nil, or_false, not_or]; omega)).trans (zclG_nf (by omega))
  have eE : ∀ y : Nat, y < 50 → E2 y = E1 y := fun y hy => (fe2 y (by simp only [List.mem_cons, List.not_mem_nil, or_false, not_or]; omega)).trans (zclE_nf (by omega))
  have hX : zK zXt dM1 G2 := zK_fr kX (by decide) (fun x hx => eG _ (by revert x; decide))
  have z50 : ∀ j : Int, j ≠ 0 → j ≠ 57 → j ≠ 58 → E2 50 j = 0 := fun j j0 j1 j2 => by
    rw [bj j j0 j1 j2]
    simp [EB, zclE]
  have nm200 : ∀ x, x ∈ dM1 → x < 200 := by decide
  have P3 : pok (E2 3) := by
    rw [eE 3 (by decide), a3]
    intro v v0 v1
    unfold dl
    split <;> omega
  have ji : JI dM1 G2 E2 s0 0 := by
    refine ⟨⟨⟨0, ⟨by decide, fun c hc => absurd hc (Nat.not_lt_zero _), fun c _ hc => ⟨by rw [eG 6 (by decide), g6], fun j hj hm => ?_⟩⟩, Nat.le_refl _, by rw [eE 5 (by decide)]; exact a54, fun c hc => absurd hc (Nat.not_lt_zero _)⟩, by rw [eE 0 (by decide)]; exact a017, by rw [eE 0 (by decide)]; exact a018, by rw [eE 0 (by decide)]; exact a019, by rw [eE 0 (by decide)]; exact a020, by rw [eE 0 (by decide)]; exact a015, ?_, fun l _ _ => by rw [eE 19 (by decide), a19], hX, kM⟩, ⟨⟨z50 6 (by decide) (by decide) (by decide), Nat.zero_le _, fun c hc => absurd hc (Nat.not_lt_zero _)⟩, z50 44 (by decide) (by decide) (by decide), z50 43 (by decide) (by decide) (by decide), z50 45 (by decide) (by decide) (by decide), z50 42 (by decide) (by decide) (by decide), z50 54 (by decide) (by decide) (by decide), fun i => by rw [b58']; show (-1000 : Int) ≤ 0; decide⟩, ⟨by decide, fun _ => by decide, by decide, by decide, by decide, by decide, by decide, by decide⟩, ⟨by rw [b52, eE 2 (by decide), a2], by rw [b53, eE 3 (by decide), a3], by rw [b54, eE 4 (by decide), a4]⟩, by rw [b0, eE 1 (by decide), a13], ⟨by rw [z50 4 (by decide) (by decide) (by decide), eE 0 (by decide), a12], by rw [eE 0 (by decide), a12]; decide, by rw [eE 0 (by decide), a12]; decide, fun i i0 i1 => by rw [eE 0 (by decide), a12] at i1; omega⟩, ⟨by rw [b57, eE 0 (by decide), a013], by rw [eE 0 (by decide), a013]; decide, by rw [eE 0 (by decide), a013]; decide⟩, ⟨by rw [b58, eE 0 (by decide), a014], by rw [eE 0 (by decide), a014]; decide, by rw [eE 0 (by decide), a014]; decide⟩, ⟨by rw [z50 55 (by decide) (by decide) (by decide), eE 0 (by decide), a016], by rw [eE 0 (by decide), a016]; decide, by rw [eE 0 (by decide), a016]; decide⟩, P3, ?_, by rw [eE 3 (by decide), a3]; rfl, hUB _ P3, by rw [eE 1 (by decide), a13]; decide, by rw [eE 2 (by decide), a2]; rfl, fun v v0 v1 => ?_⟩
    · have := nm200 _ hm
      unfold qn at this
      omega
    · unfold stI
      rw [eE 20 (by decide), eE 22 (by decide), a204]
      exact ⟨by decide, by decide, fun k k0 k1 => by omega, fun l l0 l1 hl => absurd (a22 l l0 l1) hl⟩
    · rw [eE 4 (by decide), a4]
      intro v v0 v1
      unfold dl
      split <;> omega
    · rw [eE 1 (by decide), a13] at v1
      rw [eE 4 (by decide), a4, show v = 0 by omega]
      decide
  have s193 : E2 193 = zE0 L xs 193 := (fe2 193 (by decide)).trans ((zclE_nf (by decide)).trans ((fe1 193 (by decide)).trans (zclE_nf (by decide))))
  have s194 : E2 194 = zE0 L xs 194 := (fe2 194 (by decide)).trans ((zclE_nf (by decide)).trans ((fe1 194 (by decide)).trans (zclE_nf (by decide))))
  have go := law_go hUB (L := L) (X := zE0 L xs 193) hL (fun k => by
    unfold zE0
    rw [if_pos rfl]
    split
    · exact (zin_i32 _).2
    · decide) 512 0 dM1 G2 E2 s0 (by omega) (by omega) ⟨ji, fun c hc => absurd hc (Nat.not_lt_zero _)⟩ ⟨by decide, fun x hx => by have := nm200 x hx; omega⟩ s193 (by rw [s194]; rfl)
  refine L_law_0 ⟨by decide, by unfold zst3; decide, by decide, by decide +kernel, fun d1 H1 F1 h1 h2 h3 => ?_⟩
  have hd : d1 = List.range 1 := h1
  subst h2; subst h3; subst hd
  refine ⟨List.range 44, G1, E1, m1, Or.inr ⟨by decide, by decide +kernel⟩, by decide, by decide, by unfold zst3; decide, by decide, by decide +kernel, fun d2 H2 F2 h4 h5 h6 => ?_⟩
  have hd2 : d2 = dM0 := h4
  subst h5; subst h6; subst hd2
  exact ⟨dM1, G2, E2, m2, Or.inr ⟨by decide, by decide +kernel⟩, by decide, by decide, go⟩
end TP
