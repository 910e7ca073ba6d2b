/-! ===== both sides: forge ===== -/
theorem zsv_nbr {k : Int} : zsv 0 k = nbr k := by
  unfold zsv nbr
  rw [if_pos rfl]
  by_cases a : k = 1
  · rw [if_pos a, if_pos (Or.inl a)]
  rw [if_neg a]
  by_cases b : k = 2
  · rw [if_pos b, if_pos (Or.inr b)]
  rw [if_neg b, if_neg (show ¬ (k = 1 ∨ k = 2) by omega)]
theorem nbr_le {k : Int} : 0 ≤ nbr k ∧ nbr k ≤ 6 := by
  unfold nbr
  split
  · omega
  · split
    · omega
    · split <;> omega
section TF
variable {d : List Nat} {G : Nat → Int → Option Nat} {E : Nat → Int → Int}
theorem JJ_forge {s : zS} {g : Nat} {v w x : Int} (h : JJ d G E s g) : ∃ (r : Int) (E1 E2 : Nat → Int → Int) (s' : zS), zM zm_X11_forge [zR 0, zI v, zI w, zI x] (d, G, E) (some (zI r)) (d, G, E1) ∧ zM zm_X12_forge [zR 50, zI v, zI w, zI x] (d, G, E1) (some (zI r)) (d, G, E2) ∧ sc E E1 ∧ sc E E2 ∧ JJ d G E2 s' (g + 1) := by
  have h' := h
  obtain ⟨hJ, hnS⟩ := h
  have up := JI_up hJ
  obtain ⟨hc, hm, ho, ⟨q52, q53, q54⟩, q0, _, _, _, _, sg⟩ := hJ
  obtain ⟨⟨M, hC⟩, e17, e18, e19, e20, e15, hI, h19, hX, hM⟩ := hc
  obtain ⟨hD, e44, e43, e45, e42, e54, hlo⟩ := hm
  have sC := CI_st hC
  have sM := MI_st hD
  by_cases hv : 0 ≤ v ∧ v < sK s
  case neg =>
    exact ⟨-2, E, E, s, zM_e rfl (Nat.le_of_ble_eq_true rfl) (fun kz Q hQ => X11_forge_0 hX ⟨none, at_no hX sC hv, fun y => absurd rfl y, fun _ => hQ⟩), zM_e rfl (Nat.le_of_ble_eq_true rfl) (fun kz Q hQ => X12_forge_0 hM ⟨0, isClaim_n hM sM hv, fun y => absurd rfl y, fun _ => hQ⟩), sc_r, sc_r, up, hnS⟩
  obtain ⟨c, rfl⟩ : ∃ c : Nat, v = c := ⟨v.toNat, by omega⟩
  have hcK : c < sK s := by omega
  have hK2 := hD.2.1
  obtain ⟨cR, rB, cD⟩ := hC.2.2.2 c hcK
  obtain ⟨_, _, _, _, _, n7, nE, nk0, nk4, ⟨n, tl, n8, en⟩, tE, _⟩ := cD
  obtain ⟨_, _, _, _, _, mE, _, _, ⟨n', tl', _, en'⟩, tM, _, _⟩ := hD.2.2 c hcK
  have en2 : n = n' := two_n tl tl'
  subst en2
  have zc := (sC.2.2 c hcK).2.1
  have aC := at_ok (E := E) hX sC hcK
  have q2 : 200 ≤ qn c := by unfold qn; omega
  have k0 : ∀ F : Nat → Int → Int, F 69 = E 69 → F 69 (7 * (c : Int)) = (sN s c).getD 0 0 := fun F hF => by
    have := mE 0 (by decide)
    rw [show 7 * (c : Int) + ((0 : Nat) : Int) = 7 * (c : Int) by omega] at this
    rw [hF]; exact this
  obtain ⟨kk, hkk⟩ : ∃ k : Nat, (sN s c).getD 0 0 = k := ⟨((sN s c).getD 0 0).toNat, by omega⟩
  have hkd : zM zm_X1_kind [zR (qn c)] (d, G, E) (some (zI (kk : Int))) (d, G, E) := kind_ok hX zc (by have := nE 0 (by decide); rw [← hkk]; exact this) (by omega)
  have hN := fun F => hasNumber_ok (E := F) (d := d) (G := G) (k := (sN s c).getD 0 0) (v := w) hM ⟨nk0, nk4⟩
  have nb := nbr_le (k := (sN s c).getD 0 0)
  by_cases cw : 1 ≤ w ∧ w ≤ nbr ((sN s c).getD 0 0)
  · obtain ⟨k, rfl⟩ : ∃ k : Nat, w = k := ⟨w.toNat, by omega⟩
    have k7 : k < (sN s c).length := by omega
    let E1 := zuE E (qn c + 5) k x
    let E2 := zuE E1 69 (7 * (c : Int) + k) x
    have m1 : MI E1 (E 53) (E 54) (sK s) (sR s) (sT s) (sB s) (sN s) (sW s) (sS s) := by
      have f : fz [qn c + 5] E E1 := fz_put fz_rfl (by simp)
      exact MI_fz hD f (by simp; omega) (by rw [f 50 (by simp; omega)])
    have sM1 := MI_st m1
    have r69 : E1 69 = E 69 := zuE_nf (by omega)
    rw [if_pos cw] at hN
    refine ⟨1, E1, E2, sFn s c k x, zM_e rfl (Nat.le_of_ble_eq_true rfl) (fun kz Q hQ => X11_forge_0 hX ⟨_, aC, fun _ => ⟨fun y => absurd y (by omega), fun _ => ⟨_, rfl, zc, _, hkd, ⟨by omega, by omega⟩, fun y => absurd y (by rw [zsv_nbr, ← hkk]; omega), fun _ => ⟨⟨by omega, by omega⟩, fun H h => by rw [h]; exact hQ⟩⟩⟩, fun y => absurd (by simp) y⟩), zM_e rfl (Nat.le_of_ble_eq_true rfl) (fun kz Q hQ => X12_forge_0 hM ⟨1, isClaim_y hM sM1 hcK, fun _ => ⟨zin_of (by omega) (by omega), ⟨by omega, by omega⟩, 1, by rw [k0 E1 r69]; exact hN E1, fun y => absurd y (by decide), fun _ => ⟨zin_of (by omega) (by omega), zin_of (by omega) (by omega), ⟨by omega, by omega⟩, fun H h => by rw [h]; exact hQ⟩⟩, fun y => absurd (by decide) y⟩), sc_p sc_r (by omega) (by omega), sc_p (sc_p sc_r (by omega) (by omega)) (by omega) (by omega), ?_, ?_⟩
    · refine JI_56 h'.1 hcK ⟨rfl, rfl, rfl, rfl, rfl, rfl, rfl, rfl, rfl, rfl⟩ (fun c' hc' => ⟨zup_n hc', rfl⟩) (fun y y1 _ y3 _ => (zuE_nf y1).trans (zuE_nf y3)) ?_ ?_ ?_ rfl ?_ (fun i hi => (zuE_ix (by omega)).trans (zuE_ne (by omega) _)) (fun i _ => (zuE_ne (by omega) _).trans (zuE_ne (by omega) _))
      · show (zup (sN s) c ((sN s c).set k x) c).length = _
        rw [zup_s, List.length_set]
      · show (zup (sN s) c ((sN s c).set k x) c).getD 0 0 = _
        rw [zup_s, getD_set k7, if_neg (by omega)]
      · intro i hi
        show E2 (qn c + 5) i = (zup (sN s) c ((sN s c).set k x) c).getD i 0 ∧ E2 69 (7 * (c : Int) + i) = (zup (sN s) c ((sN s c).set k x) c).getD i 0
        rw [zup_s, getD_set k7]
        by_cases e : i = k
        · subst e
          rw [if_pos rfl]
          exact ⟨(zuE_ne (by omega) _).trans zuE_same, zuE_same⟩
        · rw [if_neg e]
          exact ⟨(zuE_ne (by omega) _).trans ((zuE_ix (by omega)).trans (nE i hi)), (zuE_ix (by omega)).trans ((zuE_ne (by omega) _).trans (mE i hi))⟩
      · intro i hi
        exact ⟨(zuE_ne (by omega) _).trans ((zuE_ne (by omega) _).trans (tE i hi)), (zuE_ne (by omega) _).trans ((zuE_ne (by omega) _).trans (tM i hi))⟩
    · intro c' hc'
      show nmk (zup (sN s) c ((sN s c).set k x) c')
      by_cases e : c' = c
      · subst e
        rw [zup_s]
        intro i hi hlt
        rw [getD_set k7, if_neg (by omega)] at hlt
        rw [getD_set k7]
        by_cases e2 : i = k
        · subst e2; omega
        · rw [if_neg e2]; exact hnS c' hcK i hi hlt
      · rw [zup_n e]; exact hnS c' hc'
  have hN0 := fun F => (hN F)
  rw [if_neg cw] at hN0
  by_cases wr : 11 ≤ w ∧ w ≤ 10 + 4 * (n : Int)
  · obtain ⟨k, hk⟩ : ∃ k : Nat, w = 11 + (k : Int) := ⟨(w - 11).toNat, by omega⟩
    have k7 : k < (sW s c).length := by omega
    let E1 := zuE E (qn c + 6) k x
    let E2 := zuE E1 71 (32 * (c : Int) + k) x
    have m1 : MI E1 (E 53) (E 54) (sK s) (sR s) (sT s) (sB s) (sN s) (sW s) (sS s) := by
      have f : fz [qn c + 6] E E1 := fz_put fz_rfl (by simp)
      exact MI_fz hD f (by simp; omega) (by rw [f 50 (by simp; omega)])
    have sM1 := MI_st m1
    have r69 : E1 69 = E 69 := zuE_nf (by omega)
    have r70 : E1 70 = E 70 := zuE_nf (by omega)
    refine ⟨1, E1, E2, sFw s c k x, zM_e rfl (Nat.le_of_ble_eq_true rfl) (fun kz Q hQ => X11_forge_0 hX ⟨_, aC, fun _ => ⟨fun y => absurd y (by omega), fun _ => ⟨_, rfl, zc, _, hkd, ⟨by omega, by omega⟩, fun _ => ⟨1, hasRw_y hX zc en n8 wr, fun y => absurd y (by decide), fun _ => ⟨zin_of (by omega) (by omega), ⟨by omega, by omega⟩, fun H h => ?_⟩⟩, fun y => absurd (by rw [zsv_nbr, ← hkk]; omega) y⟩⟩, fun y => absurd (by simp) y⟩), zM_e rfl (Nat.le_of_ble_eq_true rfl) (fun kz Q hQ => X12_forge_0 hM ⟨1, isClaim_y hM sM1 hcK, fun _ => ⟨zin_of (by omega) (by omega), ⟨by omega, by omega⟩, 0, by rw [k0 E1 r69]; exact hN0 E1, fun _ => ⟨⟨by omega, by omega⟩, ?_, ?_, 1, ?_, fun y => absurd y (by decide), fun _ => ⟨zin_of (by omega) (by omega), zin_of (by omega) (by omega), zin_of (by omega) (by omega), ⟨by omega, by omega⟩, fun H h => ?_⟩⟩, fun y => absurd rfl y⟩, fun y => absurd (by decide) y⟩), sc_p sc_r (by omega) (by omega), sc_p (sc_p sc_r (by omega) (by omega)) (by omega) (by omega), ?_, ?_⟩
    · rw [show w - 11 = (k : Int) by omega] at h
      rw [h]; exact hQ
    · rw [r70, en']; exact zin_of (by omega) (by omega)
    · rw [r70, en']; exact zin_of (by omega) (by omega)
    · rw [r70, en']; exact inY hM wr
    · rw [show 32 * (c : Int) + w - 11 = 32 * (c : Int) + (k : Int) by omega] at h
      rw [h]; exact hQ
    · refine JI_56 h'.1 hcK ⟨rfl, rfl, rfl, rfl, rfl, rfl, rfl, rfl, rfl, rfl⟩ (fun c' hc' => ⟨rfl, zup_n hc'⟩) (fun y _ y2 _ y4 => (zuE_nf y2).trans (zuE_nf y4)) rfl rfl ?_ ?_ ?_ (fun i _ => (zuE_ne (by omega) _).trans (zuE_ne (by omega) _)) (fun i hi => (zuE_ix (by omega)).trans (zuE_ne (by omega) _))
      · intro i hi
        exact ⟨(zuE_ne (by omega) _).trans ((zuE_ne (by omega) _).trans (nE i hi)), (zuE_ne (by omega) _).trans ((zuE_ne (by omega) _).trans (mE i hi))⟩
      · show (zup (sW s) c ((sW s c).set k x) c).length = _
        rw [zup_s, List.length_set]
      · intro i hi
        have hi' : i < (zup (sW s) c ((sW s c).set k x) c).length := hi
        rw [zup_s, List.length_set] at hi'
        show E2 (qn c + 6) i = (zup (sW s) c ((sW s c).set k x) c).getD i 0 ∧ E2 71 (32 * (c : Int) + i) = (zup (sW s) c ((sW s c).set k x) c).getD i 0
        rw [zup_s, getD_set k7]
        by_cases e : i = k
        · subst e
          rw [if_pos rfl]
          exact ⟨(zuE_ne (by omega) _).trans zuE_same, zuE_same⟩
        · rw [if_neg e]
          exact ⟨(zuE_ne (by omega) _).trans ((zuE_ix (by omega)).trans (tE i hi')), (zuE_ix (by omega)).trans ((zuE_ne (by omega) _).trans (tM i hi'))⟩
    · exact hnS
  · refine ⟨-2, E, E, s, zM_e rfl (Nat.le_of_ble_eq_true rfl) (fun kz Q hQ => X11_forge_0 hX ⟨_, aC, fun _ => ⟨fun _ => ⟨_, rfl, zc, 0, hasRw_n hX zc en n8 wr, fun _ => hQ, fun y => absurd rfl y⟩, fun y => ⟨_, rfl, zc, _, hkd, ⟨by omega, by omega⟩, fun _ => ⟨0, hasRw_n hX zc en n8 wr, fun _ => hQ, fun y => absurd rfl y⟩, fun y2 => absurd ⟨by omega, by rw [zsv_nbr, ← hkk] at y2; omega⟩ cw⟩⟩, fun y => absurd (by simp) y⟩), zM_e rfl (Nat.le_of_ble_eq_true rfl) (fun kz Q hQ => X12_forge_0 hM ⟨1, isClaim_y hM sM hcK, fun _ => ⟨zin_of (by omega) (by omega), ⟨by omega, by omega⟩, 0, by rw [k0 E rfl]; exact hN0 E, fun _ => ⟨⟨by omega, by omega⟩, ?_, ?_, 0, ?_, fun _ => hQ, fun y => absurd rfl y⟩, fun y => absurd rfl y⟩, fun y => absurd (by decide) y⟩), sc_r, sc_r, up, hnS⟩
    · rw [en']; exact zin_of (by omega) (by omega)
    · rw [en']; exact zin_of (by omega) (by omega)
    · rw [en']; exact inN hM wr
end TF
