/-! ===== writing under a standing: the reference ===== -/
/-- what was put out so far -/
def outO (E : Nat → Int → Int) (O : List Int) : Prop := E 50 52 = ((min 31 O.length : Nat) : Int) ∧ ∀ k : Nat, k < O.length → k < 31 → E 102 k = O.getD k 0
theorem outO_more {E : Nat → Int → Int} {O X : List Int} (h : outO E O) (hl : 31 ≤ O.length) : outO E (O ++ X) := by
  refine ⟨by rw [h.1, List.length_append]; congr 1; omega, fun k hk k31 => ?_⟩
  rw [h.2 k (by omega) k31, List.getD_eq_getElem?_getD, List.getD_eq_getElem?_getD, List.getElem?_append_left (by omega)]
section RO
variable {d : List Nat} {G : Nat → Int → Option Nat} {E : Nat → Int → Int}
theorem put_ok {O : List Int} {v : Int} (hM : zK zMt d G) (h : outO E O) : ∃ E' : Nat → Int → Int, zM zm_X12_put [zR 50, zI v] (d, G, E) none (d, G, E') ∧ fz [50, 102] E E' ∧ (∀ j : Int, j ≠ 52 → E' 50 j = E 50 j) ∧ outO E' (O ++ [v]) := by
  by_cases c : 31 ≤ E 50 52
  · exact ⟨E, zM_e rfl (Nat.le_of_ble_eq_true rfl) (fun kz Q hQ => X12_put_0 hM ⟨fun _ => hQ, fun z => absurd c z⟩), fz_rfl, fun _ _ => rfl, outO_more h (by have := h.1; omega)⟩
  · have hl : O.length < 31 := by have := h.1; omega
    have e0 : E 50 52 = O.length := by rw [h.1]; omega
    let F1 := zuE E 102 O.length v
    let F2 := zuE F1 50 52 ((O.length : Int) + 1)
    refine ⟨F2, zM_e rfl (Nat.le_of_ble_eq_true rfl) (fun kz Q hQ => X12_put_0 hM ⟨fun z => absurd z c, fun _ => ?_⟩), fz_put (fz_put fz_rfl (by simp)) (by simp), fun j hj => (zuE_ix hj).trans (zuE_ne (by decide) _), ?_, fun k hk k31 => ?_⟩
    · rw [e0]
      refine ⟨⟨by omega, by omega⟩, fun H1 e1 => ?_⟩
      have q : H1 50 52 = O.length := by rw [e1]; exact (zuE_ne (by decide) _).trans e0
      rw [q]
      exact ⟨zin_of (by omega) (by omega), fun H2 e2 => by rw [e2, e1]; exact hQ⟩
    · have : F2 50 52 = (O.length : Int) + 1 := zuE_same
      rw [this, List.length_append, List.length_singleton]; omega
    · rw [List.length_append, List.length_singleton] at hk
      have e2 : F2 102 k = F1 102 k := zuE_ne (by decide) _
      rw [e2]
      by_cases ck : k = O.length
      · subst ck
        have : F1 102 (O.length : Int) = v := zuE_same
        rw [this, List.getD_eq_getElem?_getD, List.getElem?_append_right (by omega)]; simp
      · have : F1 102 k = E 102 k := zuE_ix (by omega)
        rw [this, h.2 k (by omega) k31, List.getD_eq_getElem?_getD, List.getD_eq_getElem?_getD, List.getElem?_append_left (by omega)]
theorem writeM_ok {b : zBd} {rk : Int → Nat} {i : Int} {u O : List Int} (hM : zK zMt d G) (hP : pok (E 53)) (hb : bw (E 53) b rk) (hU : bdW (E 97) (E 98) 360 b) (hu : tw (E 53) u) (hi : onM E i u) (hO : outO E O) :
    ∃ E' : Nat → Int → Int, zM zm_X12_write [zR 50, zI i] (d, G, E) none (d, G, E') ∧ fz [50, 99, 101, 102] E E' ∧ (∀ j : Int, j ≠ 52 → E' 50 j = E 50 j) ∧ outO E' (O ++ sb (th b) u) := by
  have loop : ∀ (N : Nat) (F : Nat → Int → Int) (k : Nat) (g D O : List Int), 2 * (sb (th b) D).length + k ≤ N → fz [50, 99, 101, 102] E F → (∀ j : Int, j ≠ 52 → F 50 j = E 50 j) → outO F O → stO F (E 53) b 0 k g D →
      ∃ E' : Nat → Int → Int, zgo zm_X12_write 16 [(0, zR 50), (2, zI (k : Int))] [] (d, G, F) none (d, G, E') ∧ fz [50, 99, 101, 102] E E' ∧ (∀ j : Int, j ≠ 52 → E' 50 j = E 50 j) ∧ outO E' (O ++ sb (th b) D) := by
    intro N
    induction N using Nat.strongRecOn with
    | _ N ih =>
    intro F k g D O hN hf hj hO hs
    have k362 := stO_k hs
    cases k with
    | zero =>
      obtain ⟨_, e⟩ := hs
      subst e
      exact ⟨F, fun kz Q hQ => X12_write_16 hM ⟨fun _ => hQ, fun z => absurd (by omega) z⟩, hf, hj, by simpa [sb] using hO⟩
    | succ k =>
      by_cases c31 : 31 ≤ F 50 52
      · exact ⟨F, fun kz Q hQ => X12_write_16 hM ⟨fun z => absurd z (by omega), fun _ => ⟨fun _ => hQ, fun z => absurd c31 z⟩⟩, hf, hj, outO_more hO (by have := hO.1; omega)⟩
      have ek : ((k + 1 : Nat) : Int) - 1 = 0 + (k : Int) := by omega
      have f53 : F 53 = E 53 := hf 53 (by simp)
      have f97 : F 97 = E 97 := hf 97 (by simp)
      have f98 : F 98 = E 98 := hf 98 (by simp)
      by_cases c0 : F 101 (0 + (k : Int)) = 0
      · obtain ⟨g', hs'⟩ := stO_pop hs c0
        obtain ⟨E', z, zr⟩ := ih (2 * (sb (th b) D).length + k) (by omega) F k g' D O (Nat.le_refl _) hf hj hO hs'
        refine ⟨E', fun kz Q hQ => X12_write_16 hM ⟨fun y => absurd y (by omega), fun _ => ⟨fun y => absurd y c31, fun _ => ?_⟩⟩, zr⟩
        rw [ek]
        have e1 : ((k + 1 : Nat) : Int) + (-1) = k := by omega
        exact ⟨zin_of (by omega) (by omega), ⟨by omega, by omega⟩, fun y => absurd c0 y, fun _ => ⟨zin_of (by omega) (by omega), by rw [e1]; exact z kz Q hQ⟩⟩
      · obtain ⟨w, D1, n, e1, tw1, ow, hn, n360, nx⟩ := stO_next hP hs c0
        obtain ⟨iu, wu, r1, r2, r3, r4, r5, _, _⟩ := restM_at (F := F) hP hb (by rw [f97, f98]; exact hU) ow tw1
        obtain ⟨i1, i2, i3, i4⟩ := onM_hd ow (tw_ne tw1)
        obtain ⟨u1, u2, u3, u4⟩ := onM_hd r2 (tw_ne r3)
        have mi := standsAt_ok (E := F) (i := F 99 (0 + (k : Int))) (rk := rk) hM (by rw [f53]; exact bw_bok hb (by rw [f97, f98]; exact hU)) i3 i4 (by rw [i1]; exact i2)
        rw [r1] at mi
        have me := endM (F := F) hM (by rw [f53]; exact hP) ow (by rw [f53]; exact tw1)
        let F1 := zuE F 99 (0 + (k : Int)) (F 99 (0 + (k : Int)) + w.length)
        let F2 := zuE F1 101 (0 + (k : Int)) n
        have g101 : F1 101 (0 + (k : Int)) = (n : Int) + 1 := (zuE_ne (by decide) _).trans hn
        have n50 : F2 50 = F 50 := (zuE_nf (by decide)).trans (zuE_nf (by decide))
        have n102 : F2 102 = F 102 := (zuE_nf (by decide)).trans (zuE_nf (by decide))
        have hO2 : outO F2 O := by unfold outO; rw [n50, n102]; exact hO
        obtain ⟨F3, mp, p1, p2, p3⟩ := put_ok (E := F2) (v := F 97 iu) hM hO2
        have hf3 : fz [50, 99, 101, 102] E F3 := fz_trans (fz_put (fz_put hf (by simp)) (by simp)) (fz_mono p1 (by simp))
        have hj3 : ∀ j : Int, j ≠ 52 → F3 50 j = E 50 j := fun j hne => (p2 j hne).trans ((by rw [n50] : F2 50 j = F 50 j).trans (hj j hne))
        have n97 : F3 97 = F 97 := (p1 97 (by simp)).trans ((zuE_nf (by decide)).trans (zuE_nf (by decide)))
        have n53 : F3 53 = E 53 := hf3 53 (by simp)
        have q97 : F2 97 = F 97 := (zuE_nf (by decide)).trans (zuE_nf (by decide))
        have b99 : F3 99 (0 + (k : Int)) = F 99 (0 + (k : Int)) + w.length := by rw [p1 99 (by simp)]; exact (zuE_ne (by decide) _).trans zuE_same
        have b101 : F3 101 (0 + (k : Int)) = n := by rw [p1 101 (by simp)]; exact zuE_same
        have blo : ∀ j : Int, 0 ≤ j → j < 0 + (k : Int) → F3 99 j = F 99 j ∧ F3 101 j = F 101 j := fun j _ hj => by
          rw [p1 99 (by simp), p1 101 (by simp)]
          exact ⟨(zuE_ne (by decide) _).trans (zuE_ix (by omega)), (zuE_ix (by omega)).trans (zuE_ne (by decide) _)⟩
        have s2 := (nx F3 n97 b99 b101 blo).1
        have eD : sb (th b) D = sb (th b) wu ++ sb (th b) D1 := by rw [e1, sb_app, r5]
        have h16 : ¬ F 97 iu < 0 → (0 : Int) ≤ F 97 iu ∧ F 97 iu < 16 := fun y => ⟨by omega, by
          rw [u1]
          obtain ⟨a, wu', rfl⟩ := List.exists_cons_of_ne_nil (tw_ne r3)
          rw [fw_c0]
          exact tsw_lt (tws_1.2 r3)⟩
        have pre : ∀ kz (Q : Option zV → zH → Prop), (F 97 iu < 0 → Z zm_X12_write kz Q 16 [(0, zR 50), (2, zI ((k + 1 : Nat) : Int))] [] (d, G, F3)) → (¬ F 97 iu < 0 → (E 53 (F 97 iu) ≤ 0 → Z zm_X12_write kz Q 16 [(0, zR 50), (2, zI ((k + 1 : Nat) : Int))] [] (d, G, F3)) ∧ (¬ E 53 (F 97 iu) ≤ 0 → Z zm_X12_write kz Q 16 [(0, zR 50), (2, zI ((k + 1 : Nat) + 1 : Int))] [] (d, G, zuE (zuE F3 99 ((k + 1 : Nat) : Int) (iu + 1)) 101 ((k + 1 : Nat) : Int) (E 53 (F 97 iu))))) → Z zm_X12_write kz Q 16 [(0, zR 50), (2, zI ((k + 1 : Nat) : Int))] [] (d, G, F) := fun kz Q k1 k2 => by
          refine X12_write_16 hM ⟨fun y => absurd y (by omega), fun _ => ⟨fun y => absurd y c31, fun _ => ?_⟩⟩
          rw [ek]
          refine ⟨zin_of (by omega) (by omega), ⟨by omega, by omega⟩, fun _ => ⟨⟨by omega, by omega⟩, iu, mi, ⟨by omega, by omega⟩, _, me, ⟨by omega, by omega⟩, fun H1 e1 => ⟨⟨by omega, by omega⟩, ?_⟩⟩, fun y => absurd c0 y⟩
          have eH1 : H1 = F1 := e1
          rw [eH1, g101]
          have en : (n : Int) + 1 - 1 = n := by omega
          rw [en]
          refine ⟨zin_of (by omega) (by omega), ⟨by omega, by omega⟩, fun H2 e2 => ?_⟩
          have eH2 : H2 = F2 := e2
          rw [eH2, q97]
          refine ⟨⟨u3, u4⟩, F3, mp, ?_⟩
          rw [n97, n53]
          refine ⟨⟨u3, u4⟩, k1, fun y => ⟨⟨u3, u4⟩, h16 y, (k2 y).1, fun y2 => ⟨zin_of (by omega) (by omega), ⟨by omega, by omega⟩, fun H3 e3 => ?_⟩⟩⟩
          have q97 : H3 97 = F 97 := by rw [e3]; exact (zuE_nf (by decide)).trans n97
          have q53 : H3 53 = E 53 := by rw [e3]; exact (zuE_nf (by decide)).trans n53
          rw [q97, q53]
          refine ⟨⟨u3, u4⟩, h16 y, ⟨by omega, by omega⟩, fun H4 e4 => ⟨zin_of (by omega) (by omega), ?_⟩⟩
          rw [e4, e3]
          exact (k2 y).2 y2
        by_cases cn : F 97 iu < 0
        · have l1 := tm_letter r3 (by rw [← u1]; exact cn)
          obtain ⟨a, wu', rfl⟩ := List.exists_cons_of_ne_nil (tw_ne r3)
          have w1 : wu' = [] := List.length_eq_zero_iff.1 (by simpa using l1)
          subst w1
          rw [fw_c0] at u1 r4
          have hl : lkp b (-1 - a) = none := Classical.byContradiction fun z => r4 ⟨by omega, z⟩
          have ea : -1 - (-1 - a) = a := by omega
          have eDl : sb (th b) D = [a] ++ sb (th b) D1 := by rw [eD, sb_one (by omega), th_n hl, ea]
          rw [u1] at p3
          obtain ⟨E', z, z1, z2, z3⟩ := ih (2 * (sb (th b) D1).length + (k + 1)) (by have := congrArg List.length eDl; rw [List.length_append, List.length_singleton] at this; omega) F3 (k + 1) g D1 (O ++ [a]) (Nat.le_refl _) hf3 hj3 p3 s2
          refine ⟨E', fun kz Q hQ => pre kz Q (fun _ => z kz Q hQ) (fun y => absurd cn y), z1, z2, ?_⟩
          rw [eDl, ← List.append_assoc]; exact z3
        · obtain ⟨c, y, e2, e3, c00, c16, ty, oy, p0, p3'⟩ := rowM_parts hP r3 r2 (by rw [← u1]; omega)
          have hc : F 97 iu = c := by rw [u1, ← e3]
          rw [hc] at p3
          have eDl : sb (th b) D = [c] ++ (sb (th b) y ++ sb (th b) D1) := by rw [eD, e2, sb_s c00]; rfl
          by_cases cp : E 53 (F 97 iu) ≤ 0
          · have z0 : (E 53 c).toNat = 0 := by rw [← hc]; omega
            rw [z0] at ty
            have ey := tws_0 ty
            subst ey
            have eDl2 : sb (th b) D = [c] ++ sb (th b) D1 := eDl
            obtain ⟨E', z, z1, z2, z3⟩ := ih (2 * (sb (th b) D1).length + (k + 1)) (by have := congrArg List.length eDl2; rw [List.length_append, List.length_singleton] at this; omega) F3 (k + 1) g D1 (O ++ [c]) (Nat.le_refl _) hf3 hj3 p3 s2
            refine ⟨E', fun kz Q hQ => pre kz Q (fun q => absurd q cn) (fun _ => ⟨fun _ => z kz Q hQ, fun q => absurd cp q⟩), z1, z2, ?_⟩
            rw [eDl2, ← List.append_assoc]; exact z3
          · let F4 := zuE F3 99 ((k + 1 : Nat) : Int) (iu + 1)
            let F5 := zuE F4 101 ((k + 1 : Nat) : Int) (E 53 (F 97 iu))
            have ek1 : (0 : Int) + ((k + 1 : Nat) : Int) = ((k + 1 : Nat) : Int) := by omega
            have hf5 : fz [50, 99, 101, 102] E F5 := fz_put (fz_put hf3 (by simp)) (by simp)
            have m50 : F5 50 = F3 50 := (zuE_nf (by decide)).trans (zuE_nf (by decide))
            have m102 : F5 102 = F3 102 := (zuE_nf (by decide)).trans (zuE_nf (by decide))
            have hO5 : outO F5 (O ++ [c]) := by unfold outO; rw [m50, m102]; exact p3
            have d97 : F5 97 = F 97 := ((zuE_nf (by decide)).trans (zuE_nf (by decide))).trans n97
            have d99 : F5 99 (0 + (k : Int)) = F 99 (0 + (k : Int)) + w.length := ((zuE_ne (by decide) _).trans (zuE_ix (by omega))).trans b99
            have d101 : F5 101 (0 + (k : Int)) = n := ((zuE_ix (by omega)).trans (zuE_ne (by decide) _)).trans b101
            have dlo : ∀ j : Int, 0 ≤ j → j < 0 + (k : Int) → F5 99 j = F 99 j ∧ F5 101 j = F 101 j := fun j h1 hj => ⟨((zuE_ne (by decide) _).trans (zuE_ix (by omega))).trans (blo j h1 hj).1, ((zuE_ix (by omega)).trans (zuE_ne (by decide) _)).trans (blo j h1 hj).2⟩
            have s4 := (nx F5 d97 d99 d101 dlo).2 iu wu c y (E 53 c).toNat r2 r3 r5 e2 c00 ty (by rw [ek1]; exact (zuE_ne (by decide) _).trans zuE_same) (by
              rw [ek1]
              have : F5 101 ((k + 1 : Nat) : Int) = E 53 (F 97 iu) := zuE_same
              rw [this, hc]; omega)
            obtain ⟨E', z, z1, z2, z3⟩ := ih (2 * (sb (th b) (y ++ D1)).length + (k + 1 + 1)) (by
              have := congrArg List.length eDl
              rw [List.length_append, List.length_singleton] at this
              rw [sb_app]; omega) F5 (k + 1 + 1) (iu :: g) (y ++ D1) (O ++ [c]) (Nat.le_refl _) hf5 (fun j hne => (by rw [m50] : F5 50 j = F3 50 j).trans (hj3 j hne)) hO5 s4
            refine ⟨E', fun kz Q hQ => pre kz Q (fun q => absurd q cn) (fun _ => ⟨fun q => absurd q cp, fun _ => ?_⟩), z1, z2, ?_⟩
            · have := z kz Q hQ
              have e9 : ((k + 1 + 1 : Nat) : Int) = ((k + 1 : Nat) + 1 : Int) := by omega
              rw [e9] at this
              exact this
            · rw [eDl, ← sb_app, ← List.append_assoc]; exact z3
  let F1 := zuE E 99 0 i
  let F2 := zuE F1 101 0 1
  have n50 : F2 50 = E 50 := (zuE_nf (by decide)).trans (zuE_nf (by decide))
  have n102 : F2 102 = E 102 := (zuE_nf (by decide)).trans (zuE_nf (by decide))
  have s0 : stO F2 (E 53) b 0 1 [] u := by
    have a99 : F2 99 (0 + ((0 : Nat) : Int)) = i := (zuE_ne (by decide) _).trans zuE_same
    have a101 : F2 101 (0 + ((0 : Nat) : Int)) = ((1 : Nat) : Int) := zuE_same
    refine ⟨1, u, [], ?_, a101, tws_1.2 hu, by simp, Or.inl ⟨rfl, rfl, rfl⟩⟩
    rw [a99]
    exact onM_97 hi ((zuE_nf (by decide)).trans (zuE_nf (by decide)))
  obtain ⟨E', z, zr⟩ := loop _ F2 1 [] u O (Nat.le_refl _) (fz_put (fz_put fz_rfl (by simp)) (by simp)) (fun j _ => by rw [n50]) (by unfold outO; rw [n50, n102]; exact hO) s0
  exact ⟨E', zM_go rfl (Nat.le_of_ble_eq_true rfl) (fun kz Q hQ => X12_write_0 hM ⟨⟨by omega, by omega⟩, fun H1 e1 => ⟨⟨by omega, by omega⟩, fun H2 e2 => by rw [e2, e1]; exact z kz Q hQ⟩⟩), zr⟩
end RO
