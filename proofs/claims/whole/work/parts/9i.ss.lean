/-! ===== picks: the class, run ===== -/
section SS
variable {fu : Int} {g : Nat}
theorem kpC_beg {d : List Nat} {G G' : Nat → Int → Option Nat} {E E' : Nat → Int → Int} (h1 : ∀ y : Nat, y ≠ 42 → G' y = G y) (h2 : ∀ i : Int, i ≠ 3 → i ≠ 6 → i ≠ 7 → G' 42 i = G 42 i) (hf : fz [42] E E') : kpC d G E d G' E' := ⟨sbs_r, Nat.le_refl _, Nat.le_refl _, fun y _ _ y3 => h1 y y3, h2, fun y _ hy => hf y (fun q => hy (by simp only [cS, List.mem_cons, List.not_mem_nil, or_false] at *; omega)), fun i _ => by rw [hf 0 (by simp)]⟩
theorem CIv_42 {d : List Nat} {G : Nat → Int → Option Nat} {E E' : Nat → Int → Int} {s : zS} (h : CIv d G E s) (hf : fz [42] E E') : CIv d G E' s := by
  refine CIv_fz h hf (by simp) ?_ ?_
  · have hI := h.2.2.2.2.2.2.1
    unfold stI at *
    rw [hf 20 (by simp), hf 22 (by simp), hf 23 (by simp)]; exact hI
  · rw [hf 19 (by simp)]; exact h.2.2.2.2.2.2.2.1
theorem runC_loop (hg6 : g ≤ 600) (N : Nat) (hN : N ≤ 200) : ∀ (m n : Nat) (d : List Nat) (G : Nat → Int → Option Nat) (E : Nat → Int → Int) (s : zS), n + m = N → CIv d G E s → sgC E fu → okS g s → (0 ≤ E 0 16 ∧ E 0 16 ≤ 900000 + n) → (0 ≤ E 0 13 ∧ E 0 13 ≤ 1000) →
    ∃ (d' : List Nat) (G' : Nat → Int → Option Nat) (E' : Nat → Int → Int) (s' : zS), (∀ (kz : Nat × Nat) (Q : Option zV → zH → Prop), d'.length ≤ kz.1 → zsl d' ≤ kz.2 → Q (some (zI (sEn s'))) (d', G', E') → Z zm_X11_run kz Q 17 [(0, zR 0), (1, zI (N : Int)), (2, zI (n : Int))] [] (d, G, E)) ∧ CIv d' G' E' s' ∧ kpC d G E d' G' E' ∧ okS g s' ∧ (E 0 16 ≤ E' 0 16 ∧ E' 0 16 ≤ E 0 16 + m) ∧ RN (E 3) (E 4) fu (E 0 13) m s (E 0 16) s' (E' 0 16) := by
  intro m
  induction m with
  | zero =>
    intro n d G E s hn hs hg ho hp ht
    have hX : zK zXt d G := hs.2.2.2.2.2.2.2.2.1
    have e15 : E 0 15 = sEn s := hs.2.2.2.2.2.1
    exact ⟨d, G, E, s, fun kz Q _ _ hQ => X11_run_17 hX ⟨fun _ => by rw [e15]; exact hQ, fun z => absurd (by omega) z⟩, hs, kpC_r, ho, by omega, rfl, rfl⟩
  | succ m ih =>
    intro n d G E s hn hs hg ho hp ht
    have hX : zK zXt d G := hs.2.2.2.2.2.2.2.2.1
    have e15 : E 0 15 = sEn s := hs.2.2.2.2.2.1
    have nN : ¬ (N : Int) ≤ n := by omega
    have en : ((n + 1 : Nat) : Int) = (n : Int) + 1 := by omega
    by_cases c0 : sEn s = 0
    case neg => exact ⟨d, G, E, s, fun kz Q _ _ hQ => X11_run_17 hX ⟨fun z => absurd z nN, fun _ => ⟨fun _ => by rw [e15]; exact hQ, fun z => absurd (by rw [e15]; exact c0) z⟩⟩, hs, kpC_r, ho, by omega, Or.inl ⟨c0, rfl, rfl⟩⟩
    have e150 : ¬ E 0 15 ≠ 0 := fun q => q (e15.trans c0)
    rcases pickC_ok hs (by omega) ht with ⟨q, mp⟩ | ⟨k, q, hk, hT, mp⟩
    · -- none waits
      let E1 := zuE E 0 15 2
      have n1 : ∀ y : Nat, y ≠ 0 → E1 y = E y := fun y hy => zuE_nf hy
      have z1 : ∀ i : Int, i ≠ 15 → E1 0 i = E 0 i := fun i hi => zuE_ix hi
      obtain ⟨G1, E2, mb, X1, b1, b2, b3, b4, b5, b6, b7, b8⟩ := begin_ok (E := E1) (o := none) hX (fun b hb => absurd hb (by simp))
      have s1 : CIv d G E1 (sSat s) := by
        obtain ⟨⟨M, hC⟩, e17, e18, e19, e20, _, hI, h19, hX, hMt⟩ := hs
        refine ⟨⟨M, ?_⟩, (z1 17 (by decide)).trans e17, (z1 18 (by decide)).trans e18, (z1 19 (by decide)).trans e19, (z1 20 (by decide)).trans e20, zuE_same, ?_, ?_, hX, hMt⟩
        · rw [n1 3 (by decide), n1 4 (by decide)]
          exact CI_fz hC (S := [0]) (fun y hy => n1 y (by simpa using hy)) (by simp) (by rw [n1 5 (by decide)])
        · unfold stI at *
          rw [n1 20 (by decide), n1 22 (by decide), n1 23 (by decide)]; exact hI
        · rw [n1 19 (by decide)]; exact h19
      have s2 : CIv d G1 E2 (sSat s) := CIv_42 (CIv_g s1 b1 X1) b6
      have w15 : E2 0 15 = 2 := by rw [b6 0 (by simp)]; exact zuE_same
      have w16 : E2 0 16 = E 0 16 := by rw [b6 0 (by simp)]; exact z1 16 (by decide)
      refine ⟨d, G1, E2, sSat s, fun kz Q _ _ hQ => X11_run_17 hX ⟨fun z => absurd z nN, fun _ => ⟨fun z => absurd z e150, fun _ => ⟨none, E1, mp, G1, E2, mb, X1, ?_⟩⟩⟩, s2, kpC_t (kpC_E (fun y _ hy => n1 y (fun q => by subst q; exact hy (by simp [cS]))) (fun i hi => z1 i (by omega))) (kpC_beg b1 b2 b6), sSat_ok ho c0, by rw [w16]; omega, Or.inr (Or.inl ⟨c0, q, rfl, w16⟩)⟩
      have fin : Z zm_X11_run kz Q 17 [(0, zR 0), (1, zI (N : Int)), (2, zI ((n : Int) + 1))] [] (d, G1, E2) := X11_run_17 X1 (by rw [w15]; exact ⟨fun _ => hQ, fun _ => ⟨fun _ => hQ, fun z => absurd (by decide) z⟩⟩)
      exact X11_run_42 X1 ⟨fun _ => ⟨zin_of (by omega) (by omega), fin⟩, fun _ => ⟨fun _ => ⟨zin_of (by omega) (by omega), fin⟩, fun z => absurd (by rw [w15]; decide) z⟩⟩
    · -- one is picked
      let E1 := zuE (zuE E (qn k) 6 1) 0 16 (E 0 16 + 1)
      have q0 : 200 ≤ qn k := by unfold qn; omega
      have n1 : ∀ y : Nat, y ≠ 0 → y < 200 → E1 y = E y := fun y hy h2 => (zuE_nf hy).trans (zuE_nf (by omega))
      have z1 : ∀ i : Int, i ≠ 16 → E1 0 i = E 0 i := fun i hi => (zuE_ix hi).trans (zuE_ne (by omega) _)
      have w1 : E1 0 16 = E 0 16 + 1 := zuE_same
      have s1 : CIv d G E1 (sAct s k) := CIv_act hs hk
      have hck : zCk d G (qn k) := by
        obtain ⟨⟨M, hC⟩, _⟩ := hs
        exact ((CI_st hC).2.2 k hk).2.1
      obtain ⟨G1, E2, mb, X1, b1, b2, b3, b4, b5, b6, b7, b8⟩ := begin_ok (E := E1) (o := some (qn k)) hX (fun b hb => by rw [← Option.some.inj hb]; exact hck.2.1)
      have s2 : CIv d G1 E2 (sAct s k) := CIv_42 (CIv_g s1 b1 X1) b6
      have k12 : kpC d G E d G1 E2 := kpC_t (kpC_E (fun y y1 hy => n1 y (fun q => by subst q; exact hy (by simp [cS])) y1) (fun i hi => z1 i (by omega))) (kpC_beg b1 b2 b6)
      have w2 : E2 0 16 = E 0 16 + 1 := by rw [b6 0 (by simp)]; exact w1
      have ps : psn (E2 4) (sR (sAct s k)) (sK (sAct s k)) k G1 E2 3 (-1) [] := ⟨b8, b7, by omega, by omega, fun z => absurd z (by decide), fun _ => by omega, Or.inl ⟨by decide, rfl, b4, b5⟩⟩
      obtain ⟨d3, G3, E3, s3, z3, v3, k3, o3, y3, r3⟩ := run42 (fu := fu) (it := k) hg6 628300 3 (-1) [] d G1 E2 (sAct s k) 0 (by decide) (by decide) (by decide) s2 (sgC_k hg k12) (sAct_ok ho) hk (Or.inl zup_s) b3 ps
      have k13 := kpC_t k12 k3
      have w3 : E3 0 16 = E 0 16 + 1 := y3.trans w2
      have t3 : E3 0 13 = E 0 13 := k13.2.2.2.2.2.2 13 (by decide)
      obtain ⟨d', G', E', s', z, q1, q2, q3, q4, q5⟩ := ih (n + 1) d3 G3 E3 s3 (by omega) v3 (sgC_k hg k13) o3 (by rw [w3]; omega) (by rw [t3]; exact ht)
      rw [(kpC_34 k13).1, (kpC_34 k13).2, t3, w3] at q5
      rw [(kpC_34 k12).1, (kpC_34 k12).2] at r3
      rw [w3] at q4
      rw [en] at z
      refine ⟨d', G', E', s', fun kz Q l1 l2 hQ => X11_run_17 hX ⟨fun z => absurd z nN, fun _ => ⟨fun z => absurd z e150, fun _ => ⟨some (qn k), E1, mp, G1, E2, mb, X1, ?_⟩⟩⟩, q1, kpC_t k13 q2, q3, by omega, Or.inr (Or.inr ⟨c0, k, q, hk, s3, RS_WK hk r3, q5⟩)⟩
      exact z3 kz Q N n (by omega) (by omega) (Nat.le_trans q2.2.1 l1) (Nat.le_trans q2.2.2.1 l2) (z kz Q l1 l2 hQ)
theorem runC_ok {N : Nat} {d : List Nat} {G : Nat → Int → Option Nat} {E : Nat → Int → Int} {s : zS} (hg6 : g ≤ 600) (hN : 1 ≤ N ∧ N ≤ 200) (hs : CIv d G E s) (hg : sgC E fu) (ho : okS g s) (hp : 0 ≤ E 0 16 ∧ E 0 16 ≤ 900000) (ht : 0 ≤ E 0 13 ∧ E 0 13 ≤ 1000) :
    ∃ (d' : List Nat) (G' : Nat → Int → Option Nat) (E' : Nat → Int → Int) (s' : zS), zM zm_X11_run [zR 0, zI (N : Int)] (d, G, E) (some (zI (sEn s'))) (d', G', E') ∧ CIv d' G' E' s' ∧ kpC d G E d' G' E' ∧ okS g s' ∧ (E 0 16 ≤ E' 0 16 ∧ E' 0 16 ≤ E 0 16 + N) ∧ RN (E 3) (E 4) fu (E 0 13) N s (E 0 16) s' (E' 0 16) := by
  obtain ⟨d', G', E', s', z, q1, q2, q3⟩ := runC_loop (fu := fu) hg6 N (by omega) N 0 d G E s (by omega) hs hg ho (by omega) ht
  exact ⟨d', G', E', s', zM_of rfl (Nat.le_of_ble_eq_true rfl) ⟨q2.2.1, q2.2.2.1⟩ (X11_run_0 hs.2.2.2.2.2.2.2.2.1 ⟨fun y => absurd y (by omega), fun _ => ⟨fun _ => z _ _ (Nat.le_refl _) (Nat.le_refl _) ⟨rfl, rfl⟩, fun y => absurd (by omega) y⟩⟩), q1, q2, q3⟩
end SS
