/-! ===== picks: the reference, tries, clashes, turns ===== -/
/-- the reference holds this state -/
def MIv (E : Nat → Int → Int) (s : zS) : Prop := MI E (E 53) (E 54) (sK s) (sR s) (sT s) (sB s) (sN s) (sW s) (sS s) ∧ E 50 44 = sAo s ∧ E 50 43 = sLo s ∧ E 50 45 = sMa s ∧ E 50 42 = sRw s ∧ E 50 54 = sEn s ∧ ∀ i : Int, -1000 ≤ E 58 i
/-- what running changes -/
def tS : List Nat := [50, 58, 59, 60, 61, 62, 63, 64, 69, 70, 71, 72, 73, 74, 76, 77, 78, 80, 81, 82, 83, 84, 85, 92, 97, 98, 99, 100, 101, 102, 104]
def kpM (E E' : Nat → Int → Int) : Prop := fz tS E E' ∧ E' 50 0 = E 50 0 ∧ E' 50 4 = E 50 4 ∧ E' 50 55 = E 50 55 ∧ E' 50 57 = E 50 57 ∧ E' 50 58 = E 50 58
theorem kpM_r {E : Nat → Int → Int} : kpM E E := ⟨fz_rfl, rfl, rfl, rfl, rfl, rfl⟩
theorem kpM_t {E F H : Nat → Int → Int} (h : kpM E F) (h' : kpM F H) : kpM E H := ⟨fz_trans h.1 h'.1, h'.2.1.trans h.2.1, h'.2.2.1.trans h.2.2.1, h'.2.2.2.1.trans h.2.2.2.1, h'.2.2.2.2.1.trans h.2.2.2.2.1, h'.2.2.2.2.2.trans h.2.2.2.2.2⟩
theorem kpM_3 {E F : Nat → Int → Int} (h : kpM E F) : F 53 = E 53 ∧ F 54 = E 54 := ⟨h.1 53 (by simp [tS]), h.1 54 (by simp [tS])⟩
/-- the signs, as the reference has them -/
def sgM (E : Nat → Int → Int) (fu : Int) : Prop := pok (E 53) ∧ wok (E 54) ∧ E 53 0 = 2 ∧ E 50 58 = fu ∧ fu ≤ 4000
theorem sgM_k {E F : Nat → Int → Int} {fu : Int} (h : sgM E fu) (k : kpM E F) : sgM F fu := by
  unfold sgM
  rw [(kpM_3 k).1, (kpM_3 k).2, k.2.2.2.2.2]; exact h
section SE
variable {d : List Nat} {G : Nat → Int → Option Nat} {E : Nat → Int → Int}
theorem tries_ok {fu : Int} {g : Nat} {s : zS} {v1 v2 v3 v4 v5 v6 v7 : Int} (hM : zK zMt d G) (hg : sgM E fu) (hs : MIv E s) (ho : okS g s) (hg6 : g ≤ 600) (h0 : sEn s = 0) (h1 : 1 ≤ v1 ∧ v1 ≤ 4) (hp : nme (sK s) v2) (hn1 : v1 = 1 → nme (sK s) v4) (hn4 : v1 = 4 → nme (sK s) v5) :
    ∃ (E' : Nat → Int → Int) (s' : zS), zM zm_X12_tries [zR 50, zI v1, zI v2, zI v3, zI v4, zI v5, zI v6, zI v7] (d, G, E) none (d, G, E') ∧ kpM E E' ∧ MIv E' s' ∧ TR (E 53) (E 54) fu s [v1, v2, v3, v4, v5, v6, v7] s' := by
  obtain ⟨hP, hW, h2, hfu, hfu4⟩ := hg
  obtain ⟨hC, e44, e43, e45, e42, e54, hlo⟩ := hs
  obtain ⟨o1, o2, o3, o4, o5, o6, o7, o8⟩ := ho
  have k150 := o2 h0
  obtain ⟨x, E1, r, m1, f1, j1, hr, hx⟩ := makes_ok (E := E) (B := sK s) (v3 := v3) (v6 := v6) (v7 := v7) hM hP hW h2 (MI_st hC) hlo (by omega) h1 hp hn1 hn4
  have kp1 : kpM E E1 := ⟨fz_mono f1 (by simp [mS, tS]), j1 0 (by decide) (by decide), j1 4 (by decide) (by decide), j1 55 (by decide) (by decide), j1 57 (by decide) (by decide), j1 58 (by decide) (by decide)⟩
  have a53 : E1 53 = E 53 := (kpM_3 kp1).1
  have a54 : E1 54 = E 54 := (kpM_3 kp1).2
  have C1 : MI E1 (E 53) (E 54) (sK s) (sR s) (sT s) (sB s) (sN s) (sW s) (sS s) := MI_fz hC f1 (by simp [mS]) (j1 6 (by decide) (by decide))
  have lo1 : ∀ i : Int, -1000 ≤ E1 58 i := by rw [f1 58 (by simp [mS])]; exact hlo
  have q45 : E1 50 45 = sMa s := (j1 45 (by decide) (by decide)).trans e45
  have q42 : E1 50 42 = sRw s := (j1 42 (by decide) (by decide)).trans e42
  have q58 : E1 50 58 = fu := (j1 58 (by decide) (by decide)).trans hfu
  have q43 : E1 50 43 = sLo s := (j1 43 (by decide) (by decide)).trans e43
  have q44 : E1 50 44 = sAo s := (j1 44 (by decide) (by decide)).trans e44
  have q54 : E1 50 54 = sEn s := (j1 54 (by decide) (by decide)).trans e54
  rcases hx with ⟨r0, x0⟩ | ⟨r0, x0⟩ | ⟨A', r0, x0, hA⟩
  · refine ⟨E1, s, zM_e rfl (Nat.le_of_ble_eq_true rfl) (fun kz Q hQ => X12_tries_0 hM ⟨x, E1, m1, fun z => absurd z (by omega), fun _ => hQ⟩), kp1, ⟨by rw [a53, a54]; exact C1, q44, q43, q45, q42, q54, lo1⟩, r, hr, Or.inl ⟨r0, rfl⟩⟩
  · by_cases cf : sMa s + sRw s < fu
    · let E2 := zuE E1 50 45 (sMa s + 1)
      let E3 := zuE E2 50 43 (sLo s + 1)
      have n3 : ∀ a : Nat, a ≠ 50 → E3 a = E1 a := fun a ha => (zuE_nf ha).trans (zuE_nf ha)
      have p3 : ∀ i : Int, i ≠ 43 → i ≠ 45 → E3 50 i = E1 50 i := fun i i1 i2 => (zuE_ix i1).trans (zuE_ix i2)
      have f3 : fz [50] E1 E3 := fz_put (fz_put fz_rfl (by simp)) (by simp)
      have kp3 : kpM E E3 := kpM_t kp1 ⟨fz_mono f3 (by simp [tS]), p3 0 (by decide) (by decide), p3 4 (by decide) (by decide), p3 55 (by decide) (by decide), p3 57 (by decide) (by decide), p3 58 (by decide) (by decide)⟩
      refine ⟨E3, (sK s, sR s, sT s, sB s, sN s, sW s, sS s, sAo s, sLo s + 1, sMa s + 1, sRw s, sEn s), zM_e rfl (Nat.le_of_ble_eq_true rfl) (fun kz Q hQ => X12_tries_0 hM ⟨x, E1, m1, fun _ => ?_, fun z => absurd (by omega) z⟩), kp3, ⟨?_, (p3 44 (by decide) (by decide)).trans q44, zuE_same, (zuE_ix (by decide)).trans zuE_same, (p3 42 (by decide) (by decide)).trans q42, (p3 54 (by decide) (by decide)).trans q54, by rw [n3 58 (by decide)]; exact lo1⟩, r, hr, Or.inr (Or.inr (Or.inl ⟨r0, cf, rfl⟩))⟩
      · rw [q45, q42, q58]
        refine ⟨zin_of (by omega) (by omega), fun _ => ⟨zin_of (by omega) (by omega), fun H e => ⟨fun y => absurd x0 y, fun _ => ?_⟩⟩, fun y => absurd cf y⟩
        have eH : H = E2 := e
        have w43 : E2 50 43 = sLo s := (zuE_ix (by decide)).trans q43
        rw [eH, w43]
        exact ⟨zin_of (by omega) (by omega), fun H3 e3 => by rw [e3]; exact hQ⟩
      · rw [n3 53 (by decide), n3 54 (by decide), a53, a54]
        exact MI_fz C1 f3 (by simp) (p3 6 (by decide) (by decide))
    · let E2 := zuE E1 50 54 3
      have p2 : ∀ i : Int, i ≠ 54 → E2 50 i = E1 50 i := fun i i1 => zuE_ix i1
      have f2 : fz [50] E1 E2 := fz_put fz_rfl (by simp)
      refine ⟨E2, (sK s, sR s, sT s, sB s, sN s, sW s, sS s, sAo s, sLo s, sMa s, sRw s, 3), zM_e rfl (Nat.le_of_ble_eq_true rfl) (fun kz Q hQ => X12_tries_0 hM ⟨x, E1, m1, fun _ => ?_, fun z => absurd (by omega) z⟩), kpM_t kp1 ⟨fz_mono f2 (by simp [tS]), p2 0 (by decide), p2 4 (by decide), p2 55 (by decide), p2 57 (by decide), p2 58 (by decide)⟩, ⟨?_, (p2 44 (by decide)).trans q44, (p2 43 (by decide)).trans q43, (p2 45 (by decide)).trans q45, (p2 42 (by decide)).trans q42, zuE_same, by rw [f2 58 (by simp)]; exact lo1⟩, r, hr, Or.inr (Or.inl ⟨by rw [r0]; simp, cf, rfl⟩)⟩
      · rw [q45, q42, q58]
        exact ⟨zin_of (by omega) (by omega), fun y => absurd y cf, fun _ H e => by rw [e]; exact hQ⟩
      · rw [f2 53 (by simp), f2 54 (by simp), a53, a54]
        exact MI_fz C1 f2 (by simp) (p2 6 (by decide))
  · by_cases cf : sMa s + sRw s < fu
    · let E2 := zuE E1 50 45 (sMa s + 1)
      have p2 : ∀ i : Int, i ≠ 45 → E2 50 i = E1 50 i := fun i i1 => zuE_ix i1
      have f2 : fz [50] E1 E2 := fz_put fz_rfl (by simp)
      have b53 : E2 53 = E 53 := (f2 53 (by simp)).trans a53
      have b54 : E2 54 = E 54 := (f2 54 (by simp)).trans a54
      have C2 : MI E2 (E 53) (E 54) (sK s) (sR s) (sT s) (sB s) (sN s) (sW s) (sS s) := MI_fz C1 f2 (by simp) (p2 6 (by decide))
      rw [r0] at hr
      have gA := stR_gok hP hW h2 (fun c hc => (hC.2.2 c (by omega)).2.1) hr
      have hA2 : rowW E2 A' := rowW_fz hA f2 (by simp) (by simp) (by simp) (p2 24 (by decide))
      obtain ⟨k, ek⟩ : ∃ k : Nat, v1 = k := ⟨v1.toNat, by omega⟩
      obtain ⟨v, y, B, t, n, E3, m3, g1, g2, g3, g4, g5, g6, g7, g8⟩ := ends_ok (E := E2) (K := sK s) (k := k) (A := A') (S := []) (v1 := v1) (v2 := v2) (v3 := v3) (v4 := v4) (v5 := v5) (v6 := v6) (v7 := v7) hM (by rw [b53, b54]; exact C2) k150 (by rw [b53]; exact hP) (by rw [b54]; exact hW) (by rw [b53]; exact h2) hA2 (by rw [b53, b54]; exact gA) ek (by omega) (fun z => by omega) (by rw [p2 42 (by decide), q42]; omega) (by rw [p2 43 (by decide), q43]; omega) (by rw [p2 44 (by decide), q44]; omega)
      rw [b53, b54] at g1 g8
      have c53 : E3 53 = E 53 := (g4 53 (by simp)).trans b53
      have c54 : E3 54 = E 54 := (g4 54 (by simp)).trans b54
      have w5 : ∀ i : Int, fsf i → i ≠ 6 → i ≠ 43 → i ≠ 44 → i ≠ 54 → i ≠ 45 → E3 50 i = E1 50 i := fun i i1 i2 i3 i4 i5 i6 => (g5 i i1 i2 i3 i4 i5).trans (p2 i i6)
      have kp3 : kpM E E3 := kpM_t kp1 ⟨fz_trans (fz_mono f2 (by simp [tS])) (fz_mono g4 (by simp [tS])), w5 0 (by unfold fsf; omega) (by decide) (by decide) (by decide) (by decide) (by decide), w5 4 (by unfold fsf; omega) (by decide) (by decide) (by decide) (by decide) (by decide), w5 55 (by unfold fsf; omega) (by decide) (by decide) (by decide) (by decide) (by decide), w5 57 (by unfold fsf; omega) (by decide) (by decide) (by decide) (by decide) (by decide), w5 58 (by unfold fsf; omega) (by decide) (by decide) (by decide) (by decide) (by decide)⟩
      have lo3 : ∀ i : Int, -1000 ≤ E3 58 i := fun i => by
        rcases g7 i with z | z
        · rw [z, f2 58 (by simp)]; exact lo1 i
        · omega
      have z45 : E3 50 45 = sMa s + 1 := (g5 45 (by unfold fsf; omega) (by decide) (by decide) (by decide) (by decide)).trans zuE_same
      have z42 : E3 50 42 = sRw s + n := by rw [g6, p2 42 (by decide), q42]
      have run : zM zm_X12_tries [zR 50, zI v1, zI v2, zI v3, zI v4, zI v5, zI v6, zI v7] (d, G, E) none (d, G, E3) := zM_e rfl (Nat.le_of_ble_eq_true rfl) (fun kz Q hQ => X12_tries_0 hM ⟨x, E1, m1, fun _ => by
        rw [q45, q42, q58]
        exact ⟨zin_of (by omega) (by omega), fun _ => ⟨zin_of (by omega) (by omega), fun H e => ⟨fun _ => ⟨v, E3, by rw [e]; exact m3, hQ⟩, fun y => absurd (by omega) y⟩⟩, fun y => absurd cf y⟩, fun z => absurd (by omega) z⟩)
      have u43 : E2 50 43 = sLo s := (p2 43 (by decide)).trans q43
      have u44 : E2 50 44 = sAo s := (p2 44 (by decide)).trans q44
      have u54 : E2 50 54 = sEn s := (p2 54 (by decide)).trans q54
      rcases g8 with ⟨y0, hv, t43, t44, t54, C3⟩ | ⟨y0, tr, hv, t43, t44, t54, C3⟩ | ⟨y0, tr, hv, t43, t44, t54, rB, C3⟩
      · exact ⟨E3, _, run, kp3, ⟨by rw [c53, c54]; exact C3, by rw [t44, u44], by rw [t43, u43], z45, z42, by rw [t54, u54], lo3⟩, _, hr, Or.inr (Or.inr (Or.inr ⟨A', _, rfl, cf, y, B, t, n, g1, g2, g3, Or.inl ⟨y0, hv, rfl⟩⟩))⟩
      · exact ⟨E3, _, run, kp3, ⟨by rw [c53, c54]; exact C3, by rw [t44, u44], by rw [t43, u43], z45, z42, by rw [t54, u54], lo3⟩, _, hr, Or.inr (Or.inr (Or.inr ⟨A', _, rfl, cf, y, B, t, n, g1, g2, g3, Or.inr (Or.inl ⟨y0, tr, hv, rfl⟩)⟩))⟩
      · exact ⟨E3, _, run, kp3, ⟨by rw [c53, c54]; exact C3, by rw [t44, u44], by rw [t43, u43], z45, z42, by rw [t54, u54], lo3⟩, _, hr, Or.inr (Or.inr (Or.inr ⟨A', _, rfl, cf, y, B, t, n, g1, g2, g3, Or.inr (Or.inr ⟨y0, tr, hv, rfl⟩)⟩))⟩
    · let E2 := zuE E1 50 54 3
      have p2 : ∀ i : Int, i ≠ 54 → E2 50 i = E1 50 i := fun i i1 => zuE_ix i1
      have f2 : fz [50] E1 E2 := fz_put fz_rfl (by simp)
      refine ⟨E2, (sK s, sR s, sT s, sB s, sN s, sW s, sS s, sAo s, sLo s, sMa s, sRw s, 3), zM_e rfl (Nat.le_of_ble_eq_true rfl) (fun kz Q hQ => X12_tries_0 hM ⟨x, E1, m1, fun _ => ?_, fun z => absurd (by omega) z⟩), kpM_t kp1 ⟨fz_mono f2 (by simp [tS]), p2 0 (by decide), p2 4 (by decide), p2 55 (by decide), p2 57 (by decide), p2 58 (by decide)⟩, ⟨?_, (p2 44 (by decide)).trans q44, (p2 43 (by decide)).trans q43, (p2 45 (by decide)).trans q45, (p2 42 (by decide)).trans q42, zuE_same, by rw [f2 58 (by simp)]; exact lo1⟩, r, hr, Or.inr (Or.inl ⟨by rw [r0]; simp, cf, rfl⟩)⟩
      · rw [q45, q42, q58]
        exact ⟨zin_of (by omega) (by omega), fun y => absurd y cf, fun _ H e => by rw [e]; exact hQ⟩
      · rw [f2 53 (by simp), f2 54 (by simp), a53, a54]
        exact MI_fz C1 f2 (by simp) (p2 6 (by decide))
theorem goesOn_ok {s : zS} {it a : Nat} (hM : zK zMt d G) (hs : MIv E s) (hi : it < sK s) (ha : a < sK s) : ∃ x : Int, zM zm_X12_goesOn [zR 50, zI (it : Int), zI (a : Int)] (d, G, E) (some (zI x)) (d, G, E) ∧ (x = 1 ∧ gon s it a ∨ x = 0 ∧ ¬ gon s it a) := by
  obtain ⟨hC, e44, e43, e45, e42, e54, hlo⟩ := hs
  have hK := hC.2.1
  have ti := (hC.2.2 it hi).2.2.1
  have ta := (hC.2.2 a ha).2.2.1
  by_cases c0 : sEn s = 0
  case neg => exact ⟨0, zM_e rfl (Nat.le_of_ble_eq_true rfl) (fun kz Q hQ => X12_goesOn_0 hM ⟨fun _ => hQ, fun z => absurd (by rw [e54]; exact c0) z⟩), Or.inr ⟨rfl, fun z => c0 z.1⟩⟩
  by_cases c1 : sT s it = 2
  · exact ⟨0, zM_e rfl (Nat.le_of_ble_eq_true rfl) (fun kz Q hQ => X12_goesOn_0 hM ⟨fun z => absurd (by rw [e54]; exact c0) z, fun _ => ⟨⟨by omega, by omega⟩, fun _ => hQ, fun z => absurd (by rw [ti]; exact c1) z⟩⟩), Or.inr ⟨rfl, fun z => z.2.1 c1⟩⟩
  by_cases c2 : sT s a = 2
  · exact ⟨0, zM_e rfl (Nat.le_of_ble_eq_true rfl) (fun kz Q hQ => X12_goesOn_0 hM ⟨fun z => absurd (by rw [e54]; exact c0) z, fun _ => ⟨⟨by omega, by omega⟩, fun z => absurd (by rw [← ti]; exact z) c1, fun _ => ⟨⟨by omega, by omega⟩, fun _ => hQ, fun z => absurd (by rw [ta]; exact c2) z⟩⟩⟩), Or.inr ⟨rfl, fun z => z.2.2 c2⟩⟩
  · exact ⟨1, zM_e rfl (Nat.le_of_ble_eq_true rfl) (fun kz Q hQ => X12_goesOn_0 hM ⟨fun z => absurd (by rw [e54]; exact c0) z, fun _ => ⟨⟨by omega, by omega⟩, fun z => absurd (by rw [← ti]; exact z) c1, fun _ => ⟨⟨by omega, by omega⟩, fun z => absurd (by rw [← ta]; exact z) c2, fun _ => hQ⟩⟩⟩), Or.inl ⟨rfl, c0, c1, c2⟩⟩
/-- what a stretch of the reference's run keeps -/
def inM (E0 E : Nat → Int → Int) (fu : Int) (g : Nat) (s0 s : zS) : Prop := kpM E0 E ∧ MIv E s ∧ okS g s ∧ mon s0 s
theorem inM_sg {E0 : Nat → Int → Int} {fu : Int} {g : Nat} {s0 s : zS} (h : inM E0 E fu g s0 s) (hg : sgM E0 fu) : sgM E fu := sgM_k hg h.1
/-- one try more, within the run -/
theorem try1 {E0 : Nat → Int → Int} {fu : Int} {g : Nat} {s0 s : zS} {v1 v2 v3 v4 v5 v6 v7 : Int} (hM : zK zMt d G) (hg : sgM E0 fu) (hg6 : g ≤ 600) (h : inM E0 E fu g s0 s) (h0 : sEn s = 0) (h1 : 1 ≤ v1 ∧ v1 ≤ 4) (hp : nme (sK s0) v2) (hn1 : v1 = 1 → nme (sK s0) v4) (hn4 : v1 = 4 → nme (sK s0) v5) :
    ∃ (E' : Nat → Int → Int) (s' : zS), zM zm_X12_tries [zR 50, zI v1, zI v2, zI v3, zI v4, zI v5, zI v6, zI v7] (d, G, E) none (d, G, E') ∧ inM E0 E' fu g s0 s' ∧ TR (E0 53) (E0 54) fu s [v1, v2, v3, v4, v5, v6, v7] s' := by
  obtain ⟨k, m, o, mn⟩ := h
  have lift : ∀ v, nme (sK s0) v → nme (sK s) v := fun v hv => by have := mn.1; unfold nme at *; omega
  obtain ⟨E', s', z, k', m', t⟩ := tries_ok (E := E) (v3 := v3) (v6 := v6) (v7 := v7) hM (sgM_k hg k) m o hg6 h0 h1 (lift _ hp) (fun e => lift _ (hn1 e)) (fun e => lift _ (hn4 e))
  rw [(kpM_3 k).1, (kpM_3 k).2] at t
  exact ⟨E', s', z, ⟨kpM_t k k', m', TR_ok o h0 hg.2.2.2.2 t, mon_t mn (TR_mon t)⟩, t⟩
theorem many_at {s : zS} {c : Nat} (h : MIv E s) (hc : c < sK s) : E 61 c = (sR s c).length ∧ (sR s c).length ≤ 6 := ⟨(h.1.2.2 c hc).1.1, (h.1.2.2 c hc).1.2.1⟩
theorem clashes_ok {fu : Int} {g : Nat} {s0 : zS} {E0 : Nat → Int → Int} {p n it a : Nat} {A : List zLt} (hM : zK zMt d G) (hg : sgM E0 fu) (hg6 : g ≤ 600) (hp : p < sK s0) (hn : n < sK s0) (hi : it < sK s0) (ha : a < sK s0) (hA : sR s0 p = A) {E : Nat → Int → Int} {s : zS} (h : inM E0 E fu g s0 s) :
    ∃ (E' : Nat → Int → Int) (s' : zS), zM zm_X12_clashes [zR 50, zI (p : Int), zI (n : Int), zI (it : Int), zI (a : Int)] (d, G, E) none (d, G, E') ∧ inM E0 E' fu g s0 s' ∧ RT (E0 53) (E0 54) fu it a (clL p n A.length 0) s s' := by
  have loop : ∀ (m i : Nat) (E : Nat → Int → Int) (s : zS), i + m = A.length → inM E0 E fu g s0 s → ∃ (E' : Nat → Int → Int) (s' : zS), zgo zm_X12_clashes 3 [(0, zR 50), (1, zI (p : Int)), (2, zI (n : Int)), (3, zI (it : Int)), (4, zI (a : Int)), (5, zI (i : Int))] [] (d, G, E) none (d, G, E') ∧ inM E0 E' fu g s0 s' ∧ RT (E0 53) (E0 54) fu it a (clL p n m i) s s' := by
    intro m
    induction m with
    | zero =>
      intro i E s hi0 h
      have mk := h.2.2.2.1
      have q := many_at (c := p) h.2.1 (by omega)
      rw [h.2.2.2.2.1 p hp, hA] at q
      have k150 := h.2.2.1.1
      exact ⟨E, s, fun kz Q hQ => X12_clashes_3 hM ⟨⟨by omega, by omega⟩, fun _ => hQ, fun z => absurd (by omega) z⟩, h, rfl⟩
    | succ m ih =>
      intro i E s hi0 h
      have mk := h.2.2.2.1
      have q := many_at (c := p) h.2.1 (by omega)
      rw [h.2.2.2.2.1 p hp, hA] at q
      have k150 := h.2.2.1.1
      obtain ⟨x, mg, hx⟩ := goesOn_ok (E := E) (it := it) (a := a) hM h.2.1 (by omega) (by omega)
      rcases hx with ⟨x1, hgo⟩ | ⟨x0, hgo⟩
      · obtain ⟨E1, s1, mt, h1, t⟩ := try1 (E := E) (v1 := 1) (v2 := (p : Int)) (v3 := (i : Int)) (v4 := (n : Int)) (v5 := 0) (v6 := 0) (v7 := 0) hM hg hg6 h hgo.1 (by omega) (by unfold nme; omega) (fun _ => by unfold nme; omega) (fun z => by omega)
        obtain ⟨E', s', z, h', r⟩ := ih (i + 1) E1 s1 (by omega) h1
        have ei : ((i + 1 : Nat) : Int) = (i : Int) + 1 := by omega
        rw [ei] at z
        exact ⟨E', s', fun kz Q hQ => X12_clashes_3 hM ⟨⟨by omega, by omega⟩, fun y => absurd y (by omega), fun _ => ⟨x, mg, fun y => absurd y (by omega), fun _ => ⟨E1, mt, zin_of (by omega) (by omega), z kz Q hQ⟩⟩⟩, h', Or.inl ⟨hgo, s1, t, r⟩⟩
      · exact ⟨E, s, fun kz Q hQ => X12_clashes_3 hM ⟨⟨by omega, by omega⟩, fun y => absurd y (by omega), fun _ => ⟨x, mg, fun _ => hQ, fun y => absurd x0 y⟩⟩, h, Or.inr ⟨hgo, rfl⟩⟩
  obtain ⟨E', s', z, zr⟩ := loop A.length 0 E s (by omega) h
  exact ⟨E', s', zM_go rfl (Nat.le_of_ble_eq_true rfl) (fun kz Q hQ => X12_clashes_0 hM (z kz Q hQ)), zr⟩
end SE
