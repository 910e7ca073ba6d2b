/-! ===== steps: the class, turn ===== -/
section RY
variable {d : List Nat} {G : Nat → Int → Option Nat} {E : Nat → Int → Int}
/-- writing on, with room for 30 -/
theorem sidesUnderIt_ok {b : zBd} {rk : Int → Nat} {l r : Int} {u v : List Int} (hX : zK zXt d G) (hP : pok (E 3)) (hW : wok (E 4)) (h19 : ∀ L : Int, 0 ≤ L → L < 40 → E 19 L = 0) (hb : bw (E 3) b rk) (hU : bdU E b) (hl : onB E l u) (tu : tw (E 3) u) (hr : onB E r v) (tv : tw (E 3) v) :
    ∃ (x : Int) (E' : Nat → Int → Int), zM zm_X3_sidesUnderIt [zR 41, zI l, zI (l + u.length), zI r, zI (r + v.length)] (d, G, E) (some (zI x)) (d, G, E') ∧ fz [18, 19, 20, 27, 28, 29] E E' ∧ (∀ L : Int, 0 ≤ L → L < 40 → E' 19 L = 0) ∧ bdU E' b ∧
      ((¬ ((sb (th b) u).length ≤ 30 ∧ (sb (th b) v).length ≤ 30) ∧ x = 1) ∨ (((sb (th b) u).length ≤ 30 ∧ (sb (th b) v).length ≤ 30) ∧ kg (E 3) (E 4) (fw (sb (th b) v)) (fw (sb (th b) u)) 1000 0 0 ∧ x = 0) ∨ (((sb (th b) u).length ≤ 30 ∧ (sb (th b) v).length ≤ 30) ∧ ¬ kg (E 3) (E 4) (fw (sb (th b) v)) (fw (sb (th b) u)) 1000 0 0 ∧ x = 2)) := by
  let F1 := zuE E 20 14 0
  have n1 : ∀ x : Nat, x ≠ 20 → F1 x = E x := fun x hx => zuE_nf hx
  have hU1 : bdU F1 b := bdU_fz hU (fz_put (S := [20]) fz_rfl (by simp)) (zuE_ix (by decide)) (by simp) (by simp) (by simp)
  have e13 : F1 3 = E 3 := n1 3 (by decide)
  obtain ⟨x, E2, m2, f2, j2, p2, hU2, hx⟩ := writeC_ok (E := F1) (b := b) (rk := rk) (most := 30) (O := []) hX (by rw [e13]; exact hP) (by rw [e13]; exact hb) hU1 (onB_fz hl (fz_put (S := [20]) fz_rfl (by simp)) (by simp)) ⟨zuE_same, fun k hk => absurd hk (by simp)⟩ (by simp) (by omega)
  rw [List.nil_append] at hx
  have g2 : fz [18, 19, 20, 27, 28, 29] E E2 := fz_trans (fz_put fz_rfl (by simp)) (fz_mono f2 (by simp))
  have e19 : E2 19 = E 19 := by rw [f2 19 (by simp), n1 19 (by decide)]
  rcases hx with ⟨x1, hx1, hx2⟩ | ⟨x0, hx1⟩
  case inr => exact ⟨1, E2, zM_e rfl (Nat.le_of_ble_eq_true rfl) (fun kz Q hQ => X3_sidesUnderIt_0 hX (fun H e => ⟨x, E2, by rw [e]; exact m2, fun z => absurd x0 z, fun _ => hQ⟩)), g2, by rw [e19]; exact h19, hU2, Or.inl ⟨fun z => by omega, rfl⟩⟩
  have e23 : E2 3 = E 3 := by rw [f2 3 (by simp)]; exact e13
  obtain ⟨y, E3, m3, f3, j3, p3, hU3, hy⟩ := writeC_ok (E := E2) (b := b) (rk := rk) (most := E2 20 14 + 30) (O := sb (th b) u) hX (by rw [e23]; exact hP) (by rw [e23]; exact hb) hU2 (onB_fz (onB_fz hr (fz_put (S := [20]) fz_rfl (by simp)) (by simp)) f2 (by simp)) hx2 (by rw [hx2.1]; omega) (by rw [hx2.1]; omega)
  rw [List.length_append] at hy
  have q14 := hx2.1
  have g3 : fz [18, 19, 20, 27, 28, 29] E E3 := fz_trans g2 (fz_mono f3 (by simp))
  have e319 : E3 19 = E 19 := by rw [f3 19 (by simp)]; exact e19
  rcases hy with ⟨y1, hy1, hy2⟩ | ⟨y0, hy1⟩
  case inr => exact ⟨1, E3, zM_e rfl (Nat.le_of_ble_eq_true rfl) (fun kz Q hQ => X3_sidesUnderIt_0 hX (fun H e => ⟨x, E2, by rw [e]; exact m2, fun _ => ⟨by rw [q14]; exact zin_of (by omega) (by omega), y, E3, m3, fun z => absurd y0 z, fun _ => hQ⟩, fun z => absurd (by omega) z⟩)), g3, by rw [e319]; exact h19, hU3, Or.inl ⟨fun z => by omega, rfl⟩⟩
  have e33 : E3 3 = E 3 := g3 3 (by simp)
  have e34 : E3 4 = E 4 := g3 4 (by simp)
  have thT : ∀ w : List Int, tw (E 3) w → tw (E 3) (sb (th b) w) := fun w hw => tw_sb hP _ w (Nat.le_refl _) hw (fun v hv v0 => th_tw (L := -1 - v) hP hb (by omega))
  have thL : ∀ w : List Int, lo40 w → lo40 (sb (th b) w) := fun w hw v hv => by
    rcases sb_mem hv with ⟨_, z⟩ | ⟨y, y1, y2, y3⟩
    · omega
    · have := hw y y1
      exact th_lo hb (by omega) v y3
  have lkv : lk (E3 29) (E2 20 14) (fw (sb (th b) v)) 0 (sb (th b) v).length := fun k hk => by
    have e : E2 20 14 + (k : Int) = (((sb (th b) u).length + k : Nat) : Int) := by rw [q14]; omega
    rw [e, hy2.2 _ (by rw [List.length_append]; omega), fw_0, List.getD_eq_getElem?_getD, List.getD_eq_getElem?_getD, List.getElem?_append_right (by omega)]
    congr 2; omega
  have lku : lk (E3 29) 0 (fw (sb (th b) u)) 0 (sb (th b) u).length := fun k hk => by
    rw [Int.zero_add, hy2.2 _ (by rw [List.length_append]; omega), fw_nat, List.getD_eq_getElem?_getD, List.getD_eq_getElem?_getD, List.getElem?_append_left hk]
  have tmv : tm (E3 3) (E3 29) (E2 20 14) (sb (th b) v).length := by rw [e33]; exact tm_congr (thT v tv) (fun k hk => (lkv k hk).symm)
  have tmu : tm (E3 3) (E3 29) 0 (sb (th b) u).length := by rw [e33]; exact tm_congr (thT u tu) (fun k hk => (lku k hk).symm)
  obtain ⟨z, E4, m4, f4, z19, hz⟩ := compare_gr (E := E3) (a := 29) (b := 29) (n := 1000) (m := 1000) (N := 1000) hX (zX_20_13 hX).2.2 rfl (zX_20_13 hX).2.2 rfl (by rw [e33]; exact hP) (by rw [e34]; exact hW) (by omega) (by omega) (by decide) (by decide) (by decide) (by decide) (by omega) (by omega) (by rw [e319]; exact h19) tmv tmu (by rw [q14]; omega) (by rw [q14]; omega) (by omega) (by omega) (fun k hk => thL v hr.2.2.2 _ (lk_mem lkv hk)) (fun k hk => thL u hl.2.2.2 _ (lk_mem lku hk))
  rw [e33, e34] at hz
  rw [e33] at tmv tmu
  rw [kg_iff hP tmv tmu lkv lku] at hz
  have both : (sb (th b) u).length ≤ 30 ∧ (sb (th b) v).length ≤ 30 := by omega
  have pre : ∀ kz (Q : Option zV → zH → Prop), (z ≠ 1 → Q (some (zI 2)) (d, G, E4)) → (¬ z ≠ 1 → Q (some (zI 0)) (d, G, E4)) → Z zm_X3_sidesUnderIt kz Q 0 [(0, zR 41), (1, zI l), (2, zI (l + u.length)), (3, zI r), (4, zI (r + v.length))] [] (d, G, E) := fun kz Q k1 k2 => X3_sidesUnderIt_0 hX (fun H e => ⟨x, E2, by rw [e]; exact m2, fun _ => ⟨by rw [q14]; exact zin_of (by omega) (by omega), y, E3, m3, fun _ => ⟨z, E4, m4, k1, k2⟩, fun q => absurd (by omega) q⟩, fun q => absurd (by omega) q⟩)
  have hU4 : bdU E4 b := bdU_fz hU3 f4 (by rw [f4 20 (by simp)]) (by simp) (by simp) (by simp)
  by_cases ck : z = 1
  · refine ⟨0, E4, zM_e rfl (Nat.le_of_ble_eq_true rfl) (fun kz Q hQ => pre kz Q (fun q => absurd ck q) (fun _ => hQ)), fz_trans g3 (fz_mono f4 (by simp)), z19, hU4, Or.inr (Or.inl ⟨both, hz.1 ck, rfl⟩)⟩
  · refine ⟨2, E4, zM_e rfl (Nat.le_of_ble_eq_true rfl) (fun kz Q hQ => pre kz Q (fun _ => hQ) (fun q => absurd ck q)), fz_trans g3 (fz_mono f4 (by simp)), z19, hU4, Or.inr (Or.inr ⟨both, fun q => ck (hz.2 q), rfl⟩)⟩
end RY
