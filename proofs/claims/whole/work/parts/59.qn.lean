/-! ===== a claim's step; putting away: the class ===== -/
theorem qn_ne {c c' j : Nat} (hj : 1 ≤ j) (hj2 : j < 20) : qn c + j ≠ qn c' := by unfold qn; omega
theorem qn_inj {c c' : Nat} (h : qn c = qn c') : c = c' := by unfold qn at h; omega
section QN
variable {d : List Nat} {G : Nat → Int → Option Nat} {E : Nat → Int → Int}
/-- only what is told of states has changed -/
theorem stC_6 {E' : Nat → Int → Int} {P W : Int → Int} {K : Nat} {R : Nat → List zLt} (h : stC d G E P W K R) (h1 : ∀ x : Nat, 200 ≤ x → (∀ c : Nat, x ≠ qn c) → E' x = E x) (h2 : ∀ c : Nat, c < K → ∀ i : Int, i ≠ 6 → i ≠ 7 → E' (qn c) i = E (qn c) i) (h5 : E' 5 4 = E 5 4) : stC d G E' P W K R := by
  refine ⟨by rw [h5]; exact h.1, h.2.1, fun c hc => ?_⟩
  obtain ⟨a1, a2, ⟨b1, b2, b3, b4, b5, b6⟩, a4⟩ := h.2.2 c hc
  have q0 : 200 ≤ qn c := by unfold qn; omega
  have e : ∀ j : Nat, 1 ≤ j → j < 20 → E' (qn c + j) = E (qn c + j) := fun j j1 j2 => h1 _ (by omega) (fun c' => qn_ne j1 j2)
  have g := h2 c hc
  refine ⟨a1, a2, ⟨?_, ?_, ?_, ?_, ?_, ?_⟩, a4⟩
  · have e1 : E' (qn c + 1) = E (qn c + 1) := e 1 (by omega) (by omega)
    have e2 : E' (qn c + 1 + 1) = E (qn c + 1 + 1) := e 2 (by omega) (by omega)
    have e3 : E' (qn c + 1 + 2) = E (qn c + 1 + 2) := e 3 (by omega) (by omega)
    have e4 : E' (qn c + 1 + 3) = E (qn c + 1 + 3) := e 4 (by omega) (by omega)
    unfold rowC at *
    rw [e1, e2, e3, e4]; exact b1
  · rw [e 1 (by omega) (by omega)]; exact b2
  · rw [g 5 (by decide) (by decide)]; exact b3
  · rw [g 11 (by decide) (by decide)]; exact b4
  · rw [g 12 (by decide) (by decide)]; exact b5
  · rw [g 13 (by decide) (by decide)]; exact b6
/-- states behind a new claim that takes others in -/
noncomputable def pst (P : Int → Int) (R : Nat → List zLt) (st : Nat → Int) (B : List zLt) (c : Nat) : Int := @ite _ (st c ≠ 2 ∧ takesP P B (R c)) (Classical.propDecidable _) 2 (st c)
noncomputable def pby (P : Int → Int) (R : Nat → List zLt) (st ab : Nat → Int) (B : List zLt) (n : Nat) (c : Nat) : Int := @ite _ (st c ≠ 2 ∧ takesP P B (R c)) (Classical.propDecidable _) (n : Int) (ab c)
theorem putAway_ok {K : Nat} {R : Nat → List zLt} {st ab : Nat → Int} {B : List zLt} (hX : zK zXt d G) (hs : stC d G E (E 3) (E 4) (K + 1) R) (hR : R K = B) (hst : ∀ c : Nat, c < K → E (qn c) 6 = st c ∧ E (qn c) 7 = ab c) (hP : pok (E 3)) (hI : stI E) :
    ∃ E' : Nat → Int → Int, zM zm_X10_putAway [zR 33, zR (qn K)] (d, G, E) none (d, G, E') ∧ (∀ x : Nat, x ∉ [20, 22, 23, 34, 35] → (∀ c : Nat, c < K → x ≠ qn c) → E' x = E x) ∧ stI E' ∧ ∀ c : Nat, c < K → E' (qn c) 6 = pst (E 3) R st B c ∧ E' (qn c) 7 = pby (E 3) R st ab B K c ∧ ∀ i : Int, i ≠ 6 → i ≠ 7 → E' (qn c) i = E (qn c) i := by
  have h150 := hs.2.1
  have loop : ∀ (m c : Nat) (F : Nat → Int → Int), c + m = K + 1 → (∀ x : Nat, x ∉ [20, 22, 23, 34, 35] → (∀ c : Nat, c < K → x ≠ qn c) → F x = E x) → stI F → (∀ k : Nat, k < K → (F (qn k) 6 = if k < c then pst (E 3) R st B k else st k) ∧ (F (qn k) 7 = if k < c then pby (E 3) R st ab B K k else ab k) ∧ ∀ i : Int, i ≠ 6 → i ≠ 7 → F (qn k) i = E (qn k) i) →
      ∃ E' : Nat → Int → Int, zgo zm_X10_putAway 2 [(0, zR 33), (1, zR (qn K)), (2, zI (c : Int))] [] (d, G, F) none (d, G, E') ∧ (∀ x : Nat, x ∉ [20, 22, 23, 34, 35] → (∀ c : Nat, c < K → x ≠ qn c) → E' x = E x) ∧ stI E' ∧ ∀ c : Nat, c < K → E' (qn c) 6 = pst (E 3) R st B c ∧ E' (qn c) 7 = pby (E 3) R st ab B K c ∧ ∀ i : Int, i ≠ 6 → i ≠ 7 → E' (qn c) i = E (qn c) i := by
    intro m
    have hckK := (hs.2.2 K (by omega)).2.1
    induction m with
    | zero =>
      intro c F hc h1 hIF hk
      have f5 : F 5 4 = K + 1 := by
        rw [h1 5 (by simp) (fun c _ => by unfold qn; omega), hs.1]; omega
      refine ⟨F, fun kz Q hQ => X10_putAway_2 hX hckK ⟨fun _ => hQ, fun z => absurd (by omega) z⟩, h1, hIF, fun k hk' => ?_⟩
      obtain ⟨a, b, e⟩ := hk k hk'
      rw [if_pos (by omega)] at a b
      exact ⟨a, b, e⟩
    | succ m ih =>
      intro c F hc h1 hIF hk
      have f5 : F 5 4 = ((K + 1 : Nat) : Int) := by
        rw [h1 5 (by simp) (fun c _ => by unfold qn; omega), hs.1]
      have f3 : F 3 = E 3 := h1 3 (by simp) (fun c _ => by unfold qn; omega)
      have f4 : F 4 = E 4 := h1 4 (by simp) (fun c _ => by unfold qn; omega)
      have sF : stC d G F (E 3) (E 4) (K + 1) R := by
        refine stC_6 hs (fun x hx hc' => h1 x (by simp; omega) (fun c _ => hc' c)) (fun c' hc' i i1 i2 => ?_) (by rw [f5, hs.1])
        rcases (by omega : c' < K ∨ c' = K) with e | e
        · exact (hk c' e).2.2 i i1 i2
        · subst e
          rw [h1 (qn c') (by simp; unfold qn; omega) (fun c'' h'' e => by have := qn_inj e; omega)]
      have ec : ((c + 1 : Nat) : Int) = (c : Int) + 1 := by omega
      have m0 := at_ok (E := F) hX sF (show c < K + 1 by omega)
      obtain ⟨g6, hck, ⟨hA, mA, _⟩, rk⟩ := sF.2.2 c (by omega)
      have q0 : 200 ≤ qn c := by unfold qn; omega
      rcases (by omega : c < K ∨ c = K) with e | e
      · obtain ⟨a6, a7, ae⟩ := hk c e
        rw [if_neg (by omega)] at a6 a7
        have m1 := isThere_ok (E := F) (q := qn c) hX hck
        have ne : ¬ (some (qn c) = some (qn K)) := fun z => by
          have := qn_inj (Option.some.inj z); omega
        have bd : ∀ b, some (qn c) = some b → b ∈ d := fun b hb => by
          have : qn c = b := Option.some.inj hb
          rw [← this]; exact hck.2.1
        have nx : ∀ F2 : Nat → Int → Int, (∀ x : Nat, x ∉ [20, 22, 23, 34, 35] → x ≠ qn c → F2 x = F x) → stI F2 → F2 (qn c) 6 = pst (E 3) R st B c → F2 (qn c) 7 = pby (E 3) R st ab B K c → (∀ i : Int, i ≠ 6 → i ≠ 7 → F2 (qn c) i = F (qn c) i) → (∀ kz Q, Z zm_X10_putAway kz Q 2 [(0, zR 33), (1, zR (qn K)), (2, zI ((c : Int) + 1))] [] (d, G, F2) → Z zm_X10_putAway kz Q 2 [(0, zR 33), (1, zR (qn K)), (2, zI (c : Int))] [] (d, G, F)) →
            ∃ E' : Nat → Int → Int, zgo zm_X10_putAway 2 [(0, zR 33), (1, zR (qn K)), (2, zI (c : Int))] [] (d, G, F) none (d, G, E') ∧ (∀ x : Nat, x ∉ [20, 22, 23, 34, 35] → (∀ c : Nat, c < K → x ≠ qn c) → E' x = E x) ∧ stI E' ∧ ∀ c : Nat, c < K → E' (qn c) 6 = pst (E 3) R st B c ∧ E' (qn c) 7 = pby (E 3) R st ab B K c ∧ ∀ i : Int, i ≠ 6 → i ≠ 7 → E' (qn c) i = E (qn c) i := by
          intro F2 g1 gI g6' g7' gi go
          obtain ⟨E', z, zr⟩ := ih (c + 1) F2 (by omega) (fun x hx hc' => by rw [g1 x hx (hc' c e)]; exact h1 x hx hc') gI (fun k hk' => by
            rcases (by omega : k = c ∨ k ≠ c) with w | w
            · subst w
              rw [if_pos (by omega), if_pos (by omega)]
              exact ⟨g6', g7', fun i i1 i2 => by rw [gi i i1 i2]; exact ae i i1 i2⟩
            · obtain ⟨b6, b7, be⟩ := hk k hk'
              have nk : F2 (qn k) = F (qn k) := g1 _ (by simp; unfold qn; omega) (fun z => w (qn_inj z))
              rw [nk]
              rcases (by omega : k < c ∨ c < k) with y | y
              · rw [if_pos y] at b6 b7
                rw [if_pos (by omega), if_pos (by omega)]
                exact ⟨b6, b7, be⟩
              · rw [if_neg (by omega)] at b6 b7
                rw [if_neg (by omega), if_neg (by omega)]
                exact ⟨b6, b7, be⟩)
          rw [ec] at z
          exact ⟨E', fun kz Q hQ => go kz Q (z kz Q hQ), zr⟩
        by_cases q : st c = 2
        · rw [if_pos (by rw [a6]; exact q)] at m1
          refine nx F (fun x _ _ => rfl) hIF ?_ ?_ (fun i _ _ => rfl) (fun kz Q K' => X10_putAway_2 hX hckK ⟨fun z => absurd z (by omega), fun _ => ⟨some (qn c), m0, fun z => absurd z (by simp), fun _ => ⟨bd, fun z => absurd z ne, fun _ => ⟨qn c, rfl, hck, 0, m1, fun _ => ⟨zin_of (by omega) (by omega), K'⟩, fun z => absurd rfl z⟩⟩⟩⟩)
          · unfold pst; rw [if_neg (fun z => z.1 q)]; exact a6
          · unfold pby; rw [if_neg (fun z => z.1 q)]; exact a7
        · rw [if_neg (by rw [a6]; exact q)] at m1
          obtain ⟨_, hckK', ⟨hB, mB, cB5, _⟩, rkB⟩ := sF.2.2 K (by omega)
          rw [hR] at hB mB rkB
          have tk' := takes_ok (E := F) (r1 := qn K + 1) (r2 := qn c + 1) (C := B) (D := R c) hX hckK.2.2.1 hck.2.2.1 (by unfold rz qn; omega) (by unfold rz qn; omega) (by rw [f3]; exact hP) hB hA (by rw [f3]; exact rkB.1) (by rw [f3]; exact rk.1) rkB.2.1 mB mA hIF
          rw [f3] at tk'
          obtain ⟨x, F2, m2, f2, i2, hx⟩ := tk'
          have k2 : ∀ y : Nat, y ∉ [20, 22, 23, 34, 35] → F2 y = F y := fun y hy => f2 y hy
          have kq : F2 (qn c) = F (qn c) := k2 _ (by simp; omega)
          rcases hx with ⟨x1, x2⟩ | ⟨x1, x2⟩
          · subst x1
            let H1 := zuE F2 (qn c) 6 2
            let H2 := zuE H1 (qn c) 7 K
            have h5 : H1 (qn K) 5 = K := by
              have : H1 (qn K) = F2 (qn K) := zuE_nf (fun z => by have := qn_inj z; omega)
              rw [this, k2 _ (by simp; unfold qn; omega)]; exact cB5
            have nH : ∀ y : Nat, y ≠ qn c → H2 y = F2 y := fun y hy => (zuE_nf hy).trans (zuE_nf hy)
            refine nx H2 (fun y hy hy2 => by rw [nH y hy2]; exact k2 y hy) ?_ ?_ ?_ (fun i i1 i2 => ?_) (fun kz Q K' => X10_putAway_2 hX hckK ⟨fun z => absurd z (by omega), fun _ => ⟨some (qn c), m0, fun z => absurd z (by simp), fun _ => ⟨bd, fun z => absurd z ne, fun _ => ⟨qn c, rfl, hck, 1, m1, fun z => absurd z (by omega), fun _ => ⟨1, F2, m2, fun z => absurd z (by omega), fun _ => fun D1 d1 D2 d2 => ?_⟩⟩⟩⟩⟩)
            · unfold stI at *
              rw [nH 20 (by omega), nH 22 (by omega), nH 23 (by omega)]; exact i2
            · unfold pst; rw [if_pos ⟨q, x2⟩]
              exact (zuE_ix (by decide)).trans zuE_same
            · unfold pby; rw [if_pos ⟨q, x2⟩]
              exact zuE_same
            · refine (zuE_ix i2).trans ((zuE_ix i1).trans ?_)
              rw [kq]
            · have e1 : D1 = H1 := d1
              rw [d2, e1, h5]
              exact ⟨zin_of (by omega) (by omega), K'⟩
          · subst x1
            refine nx F2 (fun y hy _ => k2 y hy) i2 ?_ ?_ (fun i _ _ => by rw [kq]) (fun kz Q K' => X10_putAway_2 hX hckK ⟨fun z => absurd z (by omega), fun _ => ⟨some (qn c), m0, fun z => absurd z (by simp), fun _ => ⟨bd, fun z => absurd z ne, fun _ => ⟨qn c, rfl, hck, 1, m1, fun z => absurd z (by omega), fun _ => ⟨0, F2, m2, fun _ => ⟨zin_of (by omega) (by omega), K'⟩, fun z => absurd rfl z⟩⟩⟩⟩⟩)
            · unfold pst; rw [if_neg (fun z => x2 z.2), kq]; exact a6
            · unfold pby; rw [if_neg (fun z => x2 z.2), kq]; exact a7
      · subst e
        obtain ⟨E', z, zr⟩ := ih (c + 1) F (by omega) h1 hIF (fun k hk' => by
          obtain ⟨b6, b7, be⟩ := hk k hk'
          rw [if_pos (by omega)] at b6 b7
          rw [if_pos (by omega), if_pos (by omega)]
          exact ⟨b6, b7, be⟩)
        rw [ec] at z
        exact ⟨E', fun kz Q hQ => X10_putAway_2 hX hckK ⟨fun z => absurd z (by omega), fun _ => ⟨some (qn c), m0, fun z => absurd z (by simp), fun _ => ⟨fun b hb => by
          have : qn c = b := Option.some.inj hb
          rw [← this]; exact hck.2.1, fun _ => ⟨zin_of (by omega) (by omega), z kz Q hQ⟩, fun z => absurd rfl z⟩⟩⟩, zr⟩
  obtain ⟨E', z, zr⟩ := loop (K + 1) 0 E (by omega) (fun x _ _ => rfl) hI (fun k hk => by
    rw [if_neg (by omega), if_neg (by omega)]
    exact ⟨(hst k hk).1, (hst k hk).2, fun i _ _ => rfl⟩)
  exact ⟨E', zM_go rfl (Nat.le_of_ble_eq_true rfl) (fun kz Q hQ => X10_putAway_0 hX (hs.2.2 K (by omega)).2.1 (z kz Q hQ)), zr⟩
theorem kind_ok {q : Nat} {k : Nat} (hX : zK zXt d G) (hc : zCk d G q) (hk : E (q + 5) 0 = k) (hk4 : k ≤ 4) : zM zm_X1_kind [zR q] (d, G, E) (some (zI (k : Int))) (d, G, E) := by
  refine zM_p rfl (Nat.le_of_ble_eq_true rfl) (fun kz Q hQ => X1_kind_0 hX hc ?_)
  rw [hk]
  exact ⟨⟨by omega, by omega⟩, fun z => absurd z (by omega), fun _ => ⟨fun z => absurd z (by omega), fun _ => hQ⟩⟩
theorem tellStep_ok {K M n k : Nat} {S : List zLt} (hX : zK zXt d G) (hM : zK zMt d G) (ha : alo d G M) (hK : K < M) (hn : E 36 11 = n) (hn8 : n ≤ 8) (hk : E 43 0 = k) (hk4 : k ≤ 4) (hS : k = 0 → rowC E 14 S) :
    ∃ (d' : List Nat) (G' : Nat → Int → Option Nat) (E' : Nat → Int → Int), zM zm_X1_tellStep [zR (qn K), zR 43, zR 36, zR 14] (d, G, E) none (d', G', E') ∧ d.length ≤ d'.length ∧ zsl d ≤ zsl d' ∧ sbs d d' ∧ zK zXt d' G' ∧ zK zMt d' G' ∧ alo d' G' M ∧ (∀ x : Nat, x ∉ [qn K, qn K + 5, qn K + 6, qn K + 7, qn K + 7 + 1, qn K + 7 + 2, qn K + 7 + 3] → E' x = E x) ∧ (∀ i : Int, i ≠ 4 → E' (qn K) i = E (qn K) i) ∧ E' (qn K) 4 = n ∧ (∀ i : Nat, i < 7 → E' (qn K + 5) i = E 43 i) ∧ (∀ i : Nat, i < 4 * n → E' (qn K + 6) i = E 40 i) ∧ (k = 0 → G' (qn K) 1 = some (qn K + 7) ∧ rowC E' (qn K + 7) S) ∧ ∀ x : Nat, x < 200 → G' x = G x := by
  obtain ⟨hM150, hold, hnew⟩ := ha
  obtain ⟨g6, hck, src⟩ := hold K hK
  have q0 : 200 ≤ qn K := by unfold qn; omega
  have d43 := (zX_42_2 hX).2.2
  let F1 := zcpE E 43 0 (qn K + 5) 0 7
  let F2 := zuE F1 (qn K) 4 n
  let F3 := zcpE F2 40 0 (qn K + 6) 0 (4 * (n : Int))
  have n3 : ∀ x : Nat, x ≠ qn K → x ≠ qn K + 5 → x ≠ qn K + 6 → F3 x = E x := fun x h0 h5 h6 => (zcpE_nf h6).trans ((zuE_nf h0).trans (zcpE_nf h5))
  have a1 : F1 36 11 = n := by
    have : F1 36 = E 36 := zcpE_nf (by omega)
    rw [this]; exact hn
  have a2 : F2 (qn K) 4 = n := zuE_same
  have v5 : ∀ i : Nat, i < 7 → F3 (qn K + 5) i = E 43 i := fun i hi => by
    have : F3 (qn K + 5) = F1 (qn K + 5) := (zcpE_nf (by omega)).trans (zuE_nf (by omega))
    rw [this]
    refine (zcpE_in (by omega) (by omega)).trans ?_
    congr 1; omega
  have v6 : ∀ i : Nat, i < 4 * n → F3 (qn K + 6) i = E 40 i := fun i hi => by
    refine (zcpE_in (by omega) (by omega)).trans ?_
    have : F2 40 = E 40 := (zuE_nf (by omega)).trans (zcpE_nf (by omega))
    rw [this]; congr 1; omega
  have vi : ∀ i : Int, i ≠ 4 → F3 (qn K) i = E (qn K) i := fun i hi => by
    have : F3 (qn K) = F2 (qn K) := zcpE_nf (by omega)
    rw [this]
    refine (zuE_ix hi).trans ?_
    rw [show F1 (qn K) = E (qn K) from zcpE_nf (by omega)]
  have v4 : F3 (qn K) 4 = n := by
    have : F3 (qn K) = F2 (qn K) := zcpE_nf (by omega)
    rw [this]; exact a2
  have k0 : F3 (qn K + 5) 0 = k := by
    have := v5 0 (by omega)
    simp at this
    rw [this]; exact hk
  have mk := kind_ok (E := F3) (q := qn K) hX hck k0 hk4
  have pre : ∀ kz Q, (((k : Int) ≠ 0 → Q none (d, G, F3)) ∧ (¬ ((k : Int) ≠ 0) → ((G (qn K) 1) ≠ none → ∃ b_12, (G (qn K) 1) = some b_12 ∧ zRk d G b_12 ∧ ∃ E_15, zM zm_X5_copy [zR b_12, zR 14] (d, G, F3) none (d, G, E_15) ∧ Q none (d, G, E_15)) ∧ (¬ ((G (qn K) 1) ≠ none) → ∃ a_18, (zkd a_18).1 = 5 + 3 ∧ a_18 ∉ d ∧ ¬ zst3 a_18 ∧ d.length + 1 ≤ kz.1 ∧ zsl d + (zkd a_18).2 ≤ kz.2 ∧ ∀ d_24 G_25 E_26, d_24 = d ++ [a_18] → G_25 = zclG G a_18 → E_26 = zclE F3 a_18 → zK zXt d_24 G_25 ∧ zCk d_24 G_25 (qn K) ∧ zRk d_24 G_25 14 ∧ (∃ d_30 G_31 E_32, zM zm_X5_init [zR a_18] (d_24, G_25, E_26) none (d_30, G_31, E_32) ∧ (d_30 = d_24 ∨ d_30.length ≤ kz.1 ∧ zsl d_30 ≤ kz.2) ∧ a_18 ∈ d_30 ∧ 43 ∈ d_30 ∧ zK zXt d_30 G_31 ∧ zCk d_30 G_31 (qn K) ∧ zRk d_30 G_31 14 ∧ ∀ G_40, G_40 = zuG G_31 (qn K) 1 (some a_18) → zK zXt d_30 G_40 ∧ zCk d_30 G_40 (qn K) ∧ zRk d_30 G_40 14 ∧ ∃ b_44, (G_40 (qn K) 1) = some b_44 ∧ zRk d_30 G_40 b_44 ∧ ∃ E_47, zM zm_X5_copy [zR b_44, zR 14] (d_30, G_40, E_32) none (d_30, G_40, E_47) ∧ Q none (d_30, G_40, E_47))))) → Z zm_X1_tellStep kz Q 0 [(0, zR (qn K)), (1, zR 43), (2, zR 36), (3, zR 14)] [] (d, G, E) := fun kz Q K' => by
    refine X1_tellStep_0 hX hck d43 rfl (zXr14 hX) ⟨⟨by omega, by omega, by omega, by omega, by omega⟩, fun H1 e1 H2 e2 => ?_⟩
    have eH1 : H1 = F1 := e1
    have eH2 : H2 = F2 := by rw [e2, eH1, a1]
    rw [eH2, a2]
    refine ⟨zin_of (by omega) (by omega), ⟨by omega, by omega, by omega, by omega, by omega⟩, fun H3 e3 => ?_⟩
    have eH3 : H3 = F3 := e3
    rw [eH3]
    exact ⟨_, mk, K'⟩
  by_cases hk0 : k = 0
  · subst hk0
    have hS' := hS rfl
    have r14 : ∀ F : Nat → Int → Int, (∀ x : Nat, x < 200 → F x = E x) → rowC F 14 S := fun F hF => by
      unfold rowC at *
      rw [hF 14 (by omega), hF (14 + 1) (by omega), hF (14 + 2) (by omega), hF (14 + 3) (by omega)]
      exact hS'
    rcases src with ⟨s1, s2⟩ | ⟨s1, s2⟩
    · obtain ⟨E', m1, r1, f1, _⟩ := copy_ok (E := F3) (r := qn K + 7) (s := 14) (A := S) hX s2 (zXr14 hX) (Or.inr (by omega)) (r14 F3 (fun x hx => n3 x (by omega) (by omega) (by omega)))
      have g : ∀ x : Nat, x ∉ [qn K + 7, qn K + 7 + 1, qn K + 7 + 2, qn K + 7 + 3] → E' x = F3 x := f1
      refine ⟨d, G, E', zM_e rfl (Nat.le_of_ble_eq_true rfl) (fun kz Q hQ => pre kz Q ⟨fun z => absurd rfl z, fun _ => ⟨fun _ => ⟨qn K + 7, s1, s2, E', m1, hQ⟩, fun z => absurd (by rw [s1]; simp) z⟩⟩), Nat.le_refl _, Nat.le_refl _, sbs_r, hX, hM, ⟨hM150, hold, hnew⟩, fun x hx => ?_, fun i hi => by rw [g _ (by simp <;> omega)]; exact vi i hi, by rw [g _ (by simp <;> omega)]; exact v4, fun i hi => by rw [g _ (by simp <;> omega)]; exact v5 i hi, fun i hi => by rw [g _ (by simp <;> omega)]; exact v6 i hi, fun _ => ⟨s1, r1⟩, fun _ _ => rfl⟩
      simp at hx
      rw [g x (by simp <;> omega)]
      exact n3 x (by omega) (by omega) (by omega)
    · have K150 : K < 150 := by omega
      have k7 : zkd (qn K + 7) = (8, 5) := zkd_q (j := 7) K150 (by omega)
      have k8 : zkd (qn K + 7 + 1) = (0, 180) := zkd_q (j := 8) K150 (by omega)
      have k9 : zkd (qn K + 7 + 2) = (0, 7) := zkd_q (j := 9) K150 (by omega)
      have k10 : zkd (qn K + 7 + 3) = (1, 6) := zkd_q (j := 10) K150 (by omega)
      obtain ⟨G2, E2, m2, r2, s2'⟩ := rowInit_ok (d := d ++ [qn K + 7]) (G := zclG G (qn K + 7)) (E := zclE F3 (qn K + 7)) (r := qn K + 7) k7 k8 k9 k10 (by simp) (by simp; exact s2 8 (by omega) (by omega)) (by simp; exact s2 9 (by omega) (by omega)) (by simp; exact s2 10 (by omega) (by omega)) (by omega)
      let D := d ++ [qn K + 7] ++ [qn K + 7 + 1, qn K + 7 + 2, qn K + 7 + 3]
      let G3 := zuG G2 (qn K) 1 (some (qn K + 7))
      have hd : ∀ x, x ∈ d → x ∈ D := fun x hx => by simp [D, hx]
      have gG2 : ∀ x : Nat, x ∉ [qn K + 7, qn K + 7 + 1, qn K + 7 + 2, qn K + 7 + 3] → G2 x = G x := fun x hx => by
        simp at hx
        exact (s2' x hx.1 hx.2.1 hx.2.2.1 hx.2.2.2).1.trans (zclG_nf hx.1)
      have gE2 : ∀ x : Nat, x ∉ [qn K + 7, qn K + 7 + 1, qn K + 7 + 2, qn K + 7 + 3] → E2 x = F3 x := fun x hx => by
        simp at hx
        exact (s2' x hx.1 hx.2.1 hx.2.2.1 hx.2.2.2).2.trans (zclE_nf hx.1)
      have gG3 : ∀ x : Nat, x ≠ qn K → x ∉ [qn K + 7, qn K + 7 + 1, qn K + 7 + 2, qn K + 7 + 3] → G3 x = G x := fun x h0 hx => (zuG_nf h0).trans (gG2 x hx)
      have hX1 : zK zXt (d ++ [qn K + 7]) (zclG G (qn K + 7)) := zK_upX hX (fun x hx => by simp [hx]) (fun x h1 h2 => zclG_nf (by omega))
      have hX2 : zK zXt D G2 := zK_upX hX hd (fun x h1 h2 => gG2 x (by simp <;> omega))
      have hX3 : zK zXt D G3 := zK_upX hX hd (fun x h1 h2 => gG3 x (by omega) (by simp <;> omega))
      have hM3 : zK zMt D G3 := zK_upM hM hd (fun x h1 h2 => gG3 x (by omega) (by simp <;> omega))
      have ck1 : zCk (d ++ [qn K + 7]) (zclG G (qn K + 7)) (qn K) := zCk_up hck (fun x hx => by simp [hx]) (fun i _ => by rw [zclG_nf (by omega)]) (zclG_nf (by omega))
      have ck2 : zCk D G2 (qn K) := zCk_up hck hd (fun i _ => by rw [gG2 _ (by simp <;> omega)]) (gG2 _ (by simp <;> omega))
      have ck3 : zCk D G3 (qn K) := zCk_up hck hd (fun i hi => by
        refine (zuG_ix hi).trans ?_
        rw [gG2 _ (by simp <;> omega)]) (gG3 _ (by omega) (by simp <;> omega))
      have rk3 : zRk D G3 (qn K + 7) := zRk_up r2 (fun x hx => hx) (zuG_nf (by omega))
      have g31 : G3 (qn K) 1 = some (qn K + 7) := zuG_same
      obtain ⟨E', m1, r1, f1, _⟩ := copy_ok (E := E2) (d := D) (G := G3) (r := qn K + 7) (s := 14) (A := S) hX3 rk3 (zXr14 hX3) (Or.inr (by omega)) (r14 E2 (fun x hx => by rw [gE2 x (by simp <;> omega)]; exact n3 x (by omega) (by omega) (by omega)))
      have g : ∀ x : Nat, x ∉ [qn K + 7, qn K + 7 + 1, qn K + 7 + 2, qn K + 7 + 3] → E' x = F3 x := fun x hx => (f1 x hx).trans (gE2 x hx)
      have ll : d.length ≤ D.length := by simp [D]
      have sl : zsl d ≤ zsl D := by simp only [D, zsl_ap2]; omega
      refine ⟨D, G3, E', zM_of rfl (Nat.le_of_ble_eq_true rfl) ⟨ll, sl⟩ (pre _ _ ⟨fun z => absurd rfl z, fun _ => ⟨fun z => absurd s1 z, fun _ => ⟨qn K + 7, by rw [k7], s2 7 (by omega) (by omega), zst3_q (j := 7), by simp [D], by simp only [D, zsl_ap2, zsl_cs, zsl_nl]; omega, fun d1 G1 E1 e1 e2 e3 => ?_⟩⟩⟩), ll, sl, ⟨hd, fun hn => by
        have q3 : qn K < 3181 := by unfold qn; omega
        have f7 := s2 7 (by omega) (by omega)
        have f8 := s2 8 (by omega) (by omega)
        have f9 := s2 9 (by omega) (by omega)
        have f10 := s2 10 (by omega) (by omega)
        have eD : D = d ++ [qn K + 7, qn K + 7 + 1, qn K + 7 + 2, qn K + 7 + 3] := by simp [D]
        rw [eD]
        refine ndp_app hn (by simp) (fun x hx => ?_)
        simp only [List.mem_cons, List.not_mem_nil, or_false] at hx
        rcases hx with e | e | e | e <;> subst e
        · exact ⟨f7, by omega⟩
        · exact ⟨f8, by omega⟩
        · exact ⟨f9, by omega⟩
        · exact ⟨f10, by omega⟩⟩, hX3, hM3, ⟨hM150, fun c hc => ?_, fun c h1 h2 => ?_⟩, fun x hx => ?_, fun i hi => by rw [g _ (by simp <;> omega)]; exact vi i hi, by rw [g _ (by simp <;> omega)]; exact v4, fun i hi => by rw [g _ (by simp <;> omega)]; exact v5 i hi, fun i hi => by rw [g _ (by simp <;> omega)]; exact v6 i hi, fun _ => ⟨g31, r1⟩, fun x hx => gG3 x (by omega) (by simp <;> omega)⟩
      · rw [e1, e2, e3]
        refine ⟨hX1, ck1, zXr14 hX1, D, G2, E2, m2, Or.inr ⟨Nat.le_refl _, Nat.le_refl _⟩, by simp [D], hd _ d43, hX2, ck2, zXr14 hX2, fun G4 e4 => ?_⟩
        have eG : G4 = G3 := e4
        rw [eG]
        exact ⟨hX3, ck3, zXr14 hX3, qn K + 7, g31, rk3, E', m1, rfl, rfl⟩
      · obtain ⟨b1, b2, b3⟩ := hold c hc
        have g6' : G3 6 = G 6 := gG3 6 (by omega) (by simp <;> omega)
        rcases (by omega : c = K ∨ c ≠ K) with e | e
        · subst e
          exact ⟨by rw [g6']; exact b1, ck3, Or.inl ⟨g31, rk3⟩⟩
        · have ne : ∀ j i : Nat, j < 11 → i < 11 → qn c + j ≠ qn K + i := fun j i h1 h2 => by unfold qn; omega
          have nq : ∀ j : Nat, j < 11 → qn c + j ∉ [qn K + 7, qn K + 7 + 1, qn K + 7 + 2, qn K + 7 + 3] := fun j hj => by
            have z7 := ne j 7 hj (by omega)
            have z8 := ne j 8 hj (by omega)
            have z9 := ne j 9 hj (by omega)
            have z10 := ne j 10 hj (by omega)
            simp; omega
          have gc : G3 (qn c) = G (qn c) := gG3 _ (fun z => e (qn_inj z)) (nq 0 (by omega))
          refine ⟨by rw [g6']; exact b1, zCk_up b2 hd (fun i _ => by rw [gc]) (gG3 _ (ne 1 0 (by omega) (by omega)) (nq 1 (by omega))), ?_⟩
          rcases b3 with ⟨w1, w2⟩ | ⟨w1, w2⟩
          · exact Or.inl ⟨by rw [gc]; exact w1, zRk_up w2 hd (gG3 _ (ne 7 0 (by omega) (by omega)) (nq 7 (by omega)))⟩
          · refine Or.inr ⟨by rw [gc]; exact w1, fun j j1 j2 hm => ?_⟩
            have hm' : qn c + j ∈ d ++ [qn K + 7, qn K + 7 + 1, qn K + 7 + 2, qn K + 7 + 3] := by simpa [D] using hm
            rcases List.mem_append.1 hm' with w | w
            · exact w2 j j1 j2 w
            · exact nq j j2 w
      · obtain ⟨b1, b2⟩ := hnew c h1 h2
        have g6' : G3 6 = G 6 := gG3 6 (by omega) (by simp <;> omega)
        refine ⟨by rw [g6']; exact b1, fun j hj hm => ?_⟩
        have hm' : qn c + j ∈ d ++ [qn K + 7, qn K + 7 + 1, qn K + 7 + 2, qn K + 7 + 3] := by simpa [D] using hm
        rcases List.mem_append.1 hm' with w | w
        · exact b2 j hj w
        · have ne : ∀ i : Nat, i < 11 → qn c + j ≠ qn K + i := fun i hi => by unfold qn; omega
          have z7 := ne 7 (by omega)
          have z8 := ne 8 (by omega)
          have z9 := ne 9 (by omega)
          have z10 := ne 10 (by omega)
          simp at w
          omega
      · simp at hx
        rw [g x (by simp <;> omega)]
        exact n3 x (by omega) (by omega) (by omega)
  · exact ⟨d, G, F3, zM_e rfl (Nat.le_of_ble_eq_true rfl) (fun kz Q hQ => pre kz Q ⟨fun _ => hQ, fun z => absurd (by omega) z⟩), Nat.le_refl _, Nat.le_refl _, sbs_r, hX, hM, ⟨hM150, hold, hnew⟩, fun x hx => by
      simp at hx
      exact n3 x (by omega) (by omega) (by omega), vi, v4, v5, v6, fun z => absurd z hk0, fun _ _ => rfl⟩
end QN
