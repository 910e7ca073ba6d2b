/-! ===== unification: the class, whole ===== -/
theorem un_bw {P : Int → Int} (hP : pok P) : ∀ (k : Nat) (b : zBd) (rk : Int → Nat) (v w : List Int) (q : Nat) (b' : zBd), bw P b rk → tws P q v → tws P q w → lo40 v → lo40 w → un P k b v w = some (some b') → ∃ rk', bw P b' rk'
  | 0, b, rk, v, w, q, b', hb, hv, hw, lv, lw, h => by simp [un] at h
  | k + 1, b, rk, [], [], q, b', hb, hv, hw, lv, lw, h => by
    simp only [un, Option.some.injEq] at h
    subst h
    exact ⟨rk, hb⟩
  | k + 1, b, rk, [], _ :: _, q, b', hb, hv, hw, lv, lw, h => by simp [un] at h
  | k + 1, b, rk, _ :: _, [], q, b', hb, hv, hw, lv, lw, h => by simp [un] at h
  | k + 1, b, rk, x :: p, y :: q', q, b', hb, hv, hw, lv, lw, h => by
    have q1 : q ≠ 0 := fun e => by subst e; have := tws_0 hv; simp at this
    obtain ⟨q, rfl⟩ : ∃ n, q = n + 1 := ⟨q - 1, by omega⟩
    simp only [un] at h
    by_cases c1 : x < 0 ∧ lkp b (-1 - x) ≠ none
    · rw [if_pos c1] at h
      obtain ⟨u, hu⟩ := Option.ne_none_iff_exists'.1 c1.2
      rw [TB_some hu] at h
      have hbu := hb.2 _ u hu
      exact un_bw hP k b rk _ _ (1 + q) b' hb (tws_app hP (tws_1.2 hbu.2.2.1) (tsw_let hv c1.1)) (by rw [Nat.add_comm]; exact hw) (lo40_app.2 ⟨fun z hz => (hbu.2.2.2.2 z hz).1, (lo40_cons.1 lv).2⟩) lw h
    rw [if_neg c1] at h
    by_cases c2 : y < 0 ∧ lkp b (-1 - y) ≠ none
    · rw [if_pos c2] at h
      obtain ⟨u, hu⟩ := Option.ne_none_iff_exists'.1 c2.2
      rw [TB_some hu] at h
      have hbu := hb.2 _ u hu
      exact un_bw hP k b rk _ _ (1 + q) b' hb (by rw [Nat.add_comm]; exact hv) (tws_app hP (tws_1.2 hbu.2.2.1) (tsw_let hw c2.1)) lv (lo40_app.2 ⟨fun z hz => (hbu.2.2.2.2 z hz).1, (lo40_cons.1 lw).2⟩) h
    rw [if_neg c2] at h
    have lx := (lo40_cons.1 lv).1
    have ly := (lo40_cons.1 lw).1
    by_cases c3 : x = y
    · rw [if_pos c3] at h
      subst c3
      by_cases x0 : x < 0
      · exact un_bw hP k b rk _ _ q b' hb (tsw_let hv x0) (tsw_let hw x0) (lo40_cons.1 lv).2 (lo40_cons.1 lw).2 h
      · exact un_bw hP k b rk _ _ _ b' hb (tsw_sgn hP hv (by omega)) (tsw_sgn hP hw (by omega)) (lo40_cons.1 lv).2 (lo40_cons.1 lw).2 h
    rw [if_neg c3] at h
    by_cases c4 : x < 0
    · rw [if_pos c4] at h
      obtain ⟨n, n0, nl, ntl, n1, n2, n3⟩ := tws_fst hP hw
      rw [ntl] at h
      have e := List.take_append_drop n (y :: q')
      have lwt := lo40_app.1 (by rw [e]; exact lw : lo40 ((y :: q').take n ++ (y :: q').drop n))
      by_cases c5 : x ∈ sb (th b) ((y :: q').take n)
      · rw [if_pos c5] at h; simp at h
      · rw [if_neg c5] at h
        have hl : lkp b (-1 - x) = none := Classical.byContradiction fun z => c1 ⟨c4, z⟩
        have ex : -1 - (-1 - x) = x := by omega
        obtain ⟨rk', hb'⟩ := bw_add hb (L := -1 - x) (by omega) (by omega) hl n1 lwt.1 (by rw [ex]; exact c5)
        exact un_bw hP k _ rk' _ _ q b' hb' (tsw_let hv c4) n3 (lo40_cons.1 lv).2 lwt.2 h
    rw [if_neg c4] at h
    by_cases c6 : y < 0
    · rw [if_pos c6] at h
      obtain ⟨n, n0, nl, ntl, n1, n2, n3⟩ := tws_fst hP hv
      rw [ntl] at h
      have e := List.take_append_drop n (x :: p)
      have lwt := lo40_app.1 (by rw [e]; exact lv : lo40 ((x :: p).take n ++ (x :: p).drop n))
      by_cases c5 : y ∈ sb (th b) ((x :: p).take n)
      · rw [if_pos c5] at h; simp at h
      · rw [if_neg c5] at h
        have hl : lkp b (-1 - y) = none := Classical.byContradiction fun z => c2 ⟨c6, z⟩
        have ex : -1 - (-1 - y) = y := by omega
        obtain ⟨rk', hb'⟩ := bw_add hb (L := -1 - y) (by omega) (by omega) hl n1 lwt.1 (by rw [ex]; exact c5)
        exact un_bw hP k _ rk' _ _ q b' hb' n3 (tsw_let hw c6) lwt.2 (lo40_cons.1 lw).2 h
    rw [if_neg c6] at h; simp at h
theorem UN_bw {P : Int → Int} (hP : pok P) {u v : List Int} {b : zBd} (hu : tw P u) (hv : tw P v) (lu : lo40 u) (lv : lo40 v) (h : UN P [] u v (some b)) : ∃ rk, bw P b rk := by
  obtain ⟨k, hk⟩ := h
  exact un_bw hP k [] (fun _ => 0) u v 1 b bw_nil (tws_1.2 hu) (tws_1.2 hv) lu lv hk
/-- nothing that stands for a letter is too long -/
def ubd (P : Int → Int) (u v : List Int) : Prop := ∀ b, UN P [] u v (some b) → ∀ L w, lkp b L = some w → (sb (th b) w).length ≤ 999999
section RJ
variable {d : List Nat} {G : Nat → Int → Option Nat} {E : Nat → Int → Int}
theorem widen_ok {i j : Int} {u v : List Int} (hX : zK zXt d G) (hP : pok (E 3)) (hI : stI E) (hu : tw (E 3) u) (hi : onB E i u) (hv : tw (E 3) v) (hj : onB E j v) (hd : i + u.length ≤ j ∨ j + v.length ≤ i) (lu : u.length ≤ 30) (lv : v.length ≤ 30) (hbd : ubd (E 3) u v) :
    ∃ (x : Int) (E' : Nat → Int → Int), zM zm_X9_widen [zR 20, zI i, zI j] (d, G, E) (some (zI x)) (d, G, E') ∧ fz uS E E' ∧ u20 E E' ∧ stI E' ∧ ((x = 1 ∧ ∃ (b : zBd) (rk : Int → Nat), UN (E 3) [] u v (some b) ∧ bw (E 3) b rk ∧ bdU E' b) ∨ (x = 0 ∧ UN (E 3) [] u v none)) := by
  obtain ⟨E1, m1, f1, j1, z4, z22⟩ := forget0_ok (E := E) hX hI
  have hU : bdU E1 [] := ⟨by rw [z4]; rfl, fun k hk => absurd hk (by simp), bdW_nil z22⟩
  have hf1 : fz uS E E1 := fz_mono f1 (by simp [uS])
  have h20 : u20 E E1 := fun k k1 _ _ _ => j1 k k1
  have oi : onB E1 i u := onB_fz hi f1 (by simp)
  have oj : onB E1 j v := onB_fz hj f1 (by simp)
  obtain ⟨r, hr⟩ := UN_tot hP 40 [] (fun _ => 0) _ _ u v 1 bw_nil (by simp) (Nat.le_refl _) (Nat.le_refl _) (tws_1.2 hu) (tws_1.2 hv) hi.2.2.2 hj.2.2.2
  cases r with
  | none =>
    obtain ⟨E', z, a1, a2, a3⟩ := widenF_go (E := E) hX hP 1000000 E1 [] (fun _ => 0) i j 1 0 0 u v [] [] (by omega) (by omega) hf1 h20 bw_nil hU oi oj (tws_1.2 hu) (tws_1.2 hv) ⟨rfl, rfl⟩ (by omega) (by rw [List.append_nil, List.append_nil]; exact hr)
    exact ⟨0, E', zM_go rfl (Nat.le_of_ble_eq_true rfl) (fun kz Q hQ => X9_widen_0 hX ⟨E1, m1, z kz Q hQ⟩), a1, a2, a3, Or.inr ⟨rfl, hr⟩⟩
  | some bF =>
    obtain ⟨rkF, hbF⟩ := UN_bw hP hu hv hi.2.2.2 hj.2.2.2 hr
    let M := (sb (th bF) u).length
    have hB : Bud (E 3) (E 21) (th bF) (regL i j u.length v.length) M / 2 ≤ 29 := by
      have e1 := tm_sum (T := th bF) (m := M) hP (tm_congr hu (fun k hk => (hi.2.2.1 k hk).symm) : tm (E 3) (E 21) i u.length)
      have e2 := tm_sum (T := th bF) (m := M) hP (tm_congr hv (fun k hk => (hj.2.2.1 k hk).symm) : tm (E 3) (E 21) j v.length)
      unfold Bud regL
      rw [sumB_app]
      omega
    have hH : HH (Bud (E 3) (E 21) (th bF) (regL i j u.length v.length) M / 2) ≤ 100000 := Nat.le_trans (HH_mono hB) HH_29
    obtain ⟨F', b2, rk2, v7', c1, c2, c3, c4, c5, c6, c7, c8, c9, c10⟩ := wTerm (E := E) (r1 := i) (r2 := j) (t1 := u.length) (t2 := v.length) hX hP hbF (hbd bF hr) M E1 [] (fun _ => 0) i j u v [] [] 0 0 0 ⟨hf1, h20, bw_nil, hU, fun L u h => by simp [lkp] at h, oi, tws_1.2 hu, oj, tws_1.2 hv, Or.inl ⟨by omega, by omega⟩, Or.inr ⟨by omega, by omega⟩, hd, Nat.le_refl _, ⟨0, tws_nil, tws_nil⟩, fun x hx => absurd hx (by simp), fun x hx => absurd hx (by simp), by rw [List.append_nil, List.append_nil]; exact hr⟩ (by omega) (by omega) (by omega) (by omega)
    have eb : bF = b2 := by
      have := UN_det c10 UN_nil
      simpa using this
    subst eb
    refine ⟨1, F', zM_go rfl (Nat.le_of_ble_eq_true rfl) (fun kz Q hQ => X9_widen_0 hX ⟨E1, m1, c3 kz Q (X9_widen_19 hX ⟨fun y => absurd y (by omega), fun _ => ⟨fun y => absurd rfl y, fun _ => ⟨fun y => absurd rfl y, fun _ => hQ⟩⟩⟩)⟩), c4, c5, bdU_stI c7 c8, Or.inl ⟨rfl, bF, rk2, hr, c7, c8⟩⟩
end RJ
