/-! ===== unification: the reference, whole ===== -/
section RN
variable {d : List Nat} {G : Nat → Int → Option Nat} {E : Nat → Int → Int}
theorem unites_go (hM : zK zMt d G) (hP : pok (E 53)) : ∀ (c N : Nat) (F : Nat → Int → Int) (b : zBd) (rk : Int → Nat) (k : Nat) (g p q : List Int), 40 - b.length ≤ c → 2 * (sb (th b) p).length + k ≤ N → fz [98, 99, 100, 101] E F → bw (E 53) b rk → bdW (F 97) (F 98) 360 b → stO F (E 53) b 0 k g p → stB2 F (E 53) k q →
    ∃ (x : Int) (E' : Nat → Int → Int), zgo zm_X12_unites 23 [(0, zR 50), (3, zI (k : Int))] [] (d, G, F) (some (zI x)) (d, G, E') ∧ fz [98, 99, 100, 101] E E' ∧ ((x = 1 ∧ ∃ (b2 : zBd) (rk2 : Int → Nat), UN (E 53) b p q (some b2) ∧ bw (E 53) b2 rk2 ∧ bdW (E' 97) (E' 98) 360 b2) ∨ (x = 0 ∧ UN (E 53) b p q none)) := by
  intro c
  induction c using Nat.strongRecOn with
  | _ c ihc =>
  intro N
  induction N using Nat.strongRecOn with
  | _ N ihN =>
  intro F b rk k g p q hc hN hf hb hU hs ht
  have k362 := stO_k hs
  have f53 : F 53 = E 53 := hf 53 (by simp)
  obtain ⟨np, np1, np2, np3, np4⟩ := stB2_tws hP hs ht
  cases k with
  | zero =>
    obtain ⟨_, e⟩ := hs
    have e' : q = [] := ht
    subst e; subst e'
    exact ⟨1, F, fun kz Q hQ => X12_unites_23 hM ⟨fun _ => hQ, fun z => absurd (by omega) z⟩, hf, Or.inl ⟨rfl, b, rk, UN_nil, hb, hU⟩⟩
  | succ k =>
    have ek : ((k + 1 : Nat) : Int) - 1 = 0 + (k : Int) := by omega
    by_cases c0 : F 101 (0 + (k : Int)) = 0
    · obtain ⟨g', hs'⟩ := stO_pop hs c0
      have ht' := stB2_pop ht c0
      obtain ⟨x, E', z, zr⟩ := ihN (2 * (sb (th b) p).length + k) (by omega) F b rk k g' p q hc (Nat.le_refl _) hf hb hU hs' ht'
      refine ⟨x, E', fun kz Q hQ => X12_unites_23 hM ⟨fun y => absurd y (by omega), fun _ => ?_⟩, zr⟩
      rw [ek]
      have e1 : ((k + 1 : Nat) : Int) + (-1) = k := by omega
      exact ⟨zin_of (by omega) (by omega), ⟨by omega, by omega⟩, fun y => absurd c0 y, fun _ => ⟨zin_of (by omega) (by omega), by rw [e1]; exact z kz Q hQ⟩⟩
    · obtain ⟨w, p1, n, e1, tw1, ow, hn, n360, nx⟩ := stO_next hP hs c0
      obtain ⟨w', q1, e1', tw2, ow', nx'⟩ := stB2_next hP ht hn
      obtain ⟨iu, wu, r1, r2, r3, r4, r5, r6, r7⟩ := restM_at (F := F) hP hb hU ow tw1
      obtain ⟨ju, wv, s1, s2, s3, s4, s5, s6, s7⟩ := restM_at (F := F) hP hb hU ow' tw2
      obtain ⟨i1, i2, i3, i4⟩ := onM_hd ow (tw_ne tw1)
      obtain ⟨j1, j2, j3, j4⟩ := onM_hd ow' (tw_ne tw2)
      obtain ⟨u1, u2, u3, u4⟩ := onM_hd r2 (tw_ne r3)
      obtain ⟨v1, v2, v3, v4⟩ := onM_hd s2 (tw_ne s3)
      have hbk : bok (F 53) (F 97) (F 98) 360 rk := by rw [f53]; exact bw_bok hb hU
      have mi := standsAt_ok (E := F) (rk := rk) hM hbk i3 i4 (by rw [i1]; exact i2)
      have mj := standsAt_ok (E := F) (rk := rk) hM hbk j3 j4 (by rw [j1]; exact j2)
      rw [r1] at mi
      rw [s1] at mj
      have me := endM (F := F) hM (by rw [f53]; exact hP) ow (by rw [f53]; exact tw1)
      let F1 := zuE F 99 (0 + (k : Int)) (F 99 (0 + (k : Int)) + w.length)
      let F2 := zuE F1 100 (0 + (k : Int)) (F 100 (0 + (k : Int)) + w'.length)
      let F3 := zuE F2 101 (0 + (k : Int)) n
      have a53 : F1 53 = E 53 := (zuE_nf (by decide)).trans f53
      have a97 : F1 97 = F 97 := zuE_nf (by decide)
      have a100 : F1 100 (0 + (k : Int)) = F 100 (0 + (k : Int)) := zuE_ne (by decide) _
      have me' := endM (F := F1) (i := F 100 (0 + (k : Int))) hM (by rw [a53]; exact hP) (onM_97 ow' a97) (by rw [a53]; exact tw2)
      have b101 : F2 101 (0 + (k : Int)) = (n : Int) + 1 := ((zuE_ne (by decide) _).trans (zuE_ne (by decide) _)).trans hn
      have hf3 : fz [98, 99, 100, 101] E F3 := fz_put (fz_put (fz_put hf (by simp)) (by simp)) (by simp)
      have n97 : F3 97 = F 97 := (zuE_nf (by decide)).trans ((zuE_nf (by decide)).trans (zuE_nf (by decide)))
      have n98 : F3 98 = F 98 := (zuE_nf (by decide)).trans ((zuE_nf (by decide)).trans (zuE_nf (by decide)))
      have n53 : F3 53 = E 53 := hf3 53 (by simp)
      have c99 : F3 99 (0 + (k : Int)) = F 99 (0 + (k : Int)) + w.length := (zuE_ne (by decide) _).trans ((zuE_ne (by decide) _).trans zuE_same)
      have c100 : F3 100 (0 + (k : Int)) = F 100 (0 + (k : Int)) + w'.length := (zuE_ne (by decide) _).trans zuE_same
      have c101 : F3 101 (0 + (k : Int)) = n := zuE_same
      have clo : ∀ j : Int, j < (k : Int) → F3 99 j = F 99 j ∧ F3 100 j = F 100 j ∧ F3 101 j = F 101 j := fun j hj => ⟨(zuE_ne (by decide) _).trans ((zuE_ne (by decide) _).trans (zuE_ix (by omega))), (zuE_ne (by decide) _).trans ((zuE_ix (by omega)).trans (zuE_ne (by decide) _)), (zuE_ix (by omega)).trans ((zuE_ne (by decide) _).trans (zuE_ne (by decide) _))⟩
      have st3 := (nx F3 n97 c99 c101 (fun j _ hj => ⟨(clo j (by omega)).1, (clo j (by omega)).2.2⟩)).1
      have st3' := (nx' F3 n97 c100 c101 (fun j _ hj => (clo j hj).2)).1
      obtain ⟨nq, nq1, nq2, nq3, nq4⟩ := stB2_tws hP st3 st3'
      have back : ∀ r, UN (E 53) b (wu ++ p1) (wv ++ q1) r → UN (E 53) b p q r := fun r z => by
        rw [e1, e1']
        refine r6 _ _ r (by simp [tw_ne tw2]) ?_
        obtain ⟨y, wu', rfl⟩ := List.exists_cons_of_ne_nil (tw_ne r3)
        rw [fw_c0] at r4
        rw [List.cons_append] at z ⊢
        exact s7 _ _ _ r r4 z
      have eD : sb (th b) p = sb (th b) wu ++ sb (th b) p1 := by rw [e1, sb_app, r5]
      have lwu := nd_ge (tw_sb hP _ wu (Nat.le_refl _) r3 (fun v hv v0 => th_tw (L := -1 - v) hP hb (by omega)))
      have lt1 : 2 * (sb (th b) p1).length + (k + 1) < 2 * (sb (th b) p).length + (k + 1) := by
        rw [eD, List.length_append]; omega
      have h16 : ¬ F 97 iu < 0 → (0 : Int) ≤ F 97 iu ∧ F 97 iu < 16 := fun y => ⟨by omega, by
        rw [u1]
        obtain ⟨a, wu', rfl⟩ := List.exists_cons_of_ne_nil (tw_ne r3)
        rw [fw_c0]
        exact tsw_lt (tws_1.2 r3)⟩
      -- the round
      have pre : ∀ kz (Q : Option zV → zH → Prop),
          ((F 97 iu < 0 ∨ F 97 ju < 0) → Z zm_X12_unites kz Q 149 [(0, zR 50), (3, zI ((k + 1 : Nat) : Int)), (5, zI iu), (6, zI ju)] [] (d, G, F3)) →
          (¬ F 97 iu < 0 → ¬ F 97 ju < 0 → (F 97 iu = F 97 ju → (E 53 (F 97 iu) ≤ 0 ∨ iu = ju → Z zm_X12_unites kz Q 23 [(0, zR 50), (3, zI ((k + 1 : Nat) : Int))] [] (d, G, F3)) ∧ (¬ E 53 (F 97 iu) ≤ 0 → iu ≠ ju → Z zm_X12_unites kz Q 23 [(0, zR 50), (3, zI ((k + 1 : Nat) + 1 : Int))] [] (d, G, zuE (zuE (zuE F3 99 ((k + 1 : Nat) : Int) (iu + 1)) 100 ((k + 1 : Nat) : Int) (ju + 1)) 101 ((k + 1 : Nat) : Int) (E 53 (F 97 iu))))) ∧ (F 97 iu ≠ F 97 ju → Q (some (zI 0)) (d, G, F3))) →
          Z zm_X12_unites kz Q 23 [(0, zR 50), (3, zI ((k + 1 : Nat) : Int))] [] (d, G, F) := fun kz Q k1 k2 => by
        refine X12_unites_23 hM ⟨fun y => absurd y (by omega), fun _ => ?_⟩
        rw [ek]
        refine ⟨zin_of (by omega) (by omega), ⟨by omega, by omega⟩, fun _ => ⟨⟨by omega, by omega⟩, iu, mi, ⟨by omega, by omega⟩, ju, mj, ⟨by omega, by omega⟩, _, me, ⟨by omega, by omega⟩, fun H1 e1 => ?_⟩, fun y => absurd c0 y⟩
        have eH1 : H1 = F1 := e1
        rw [eH1, a100]
        refine ⟨⟨by omega, by omega⟩, _, me', ⟨by omega, by omega⟩, fun H2 e2 => ?_⟩
        have eH2 : H2 = F2 := e2
        rw [eH2, b101]
        have en : (n : Int) + 1 - 1 = n := by omega
        rw [en]
        refine ⟨⟨by omega, by omega⟩, zin_of (by omega) (by omega), ⟨by omega, by omega⟩, fun H3 e3 => ?_⟩
        have eH3 : H3 = F3 := e3
        rw [eH3, n97, n53]
        refine ⟨⟨u3, u4⟩, fun y => k1 (Or.inl y), fun y => ⟨⟨v3, v4⟩, fun y2 => ⟨⟨u3, u4⟩, ⟨v3, v4⟩, fun y3 => ⟨⟨u3, u4⟩, h16 y, fun y4 => ((k2 y (by omega)).1 y3).1 (Or.inl y4), fun y4 => ⟨fun y5 => ((k2 y (by omega)).1 y3).1 (Or.inr y5), fun y5 => ⟨zin_of (by omega) (by omega), ⟨by omega, by omega⟩, fun H4 e4 => ⟨zin_of (by omega) (by omega), ⟨by omega, by omega⟩, fun H5 e5 => ?_⟩⟩⟩⟩, fun y3 => (k2 y (by omega)).2 y3⟩, fun y2 => k1 (Or.inr (by omega))⟩⟩
        have q97 : H5 97 = F 97 := by rw [e5, e4]; exact ((zuE_nf (by decide)).trans (zuE_nf (by decide))).trans n97
        have q53 : H5 53 = E 53 := by rw [e5, e4]; exact ((zuE_nf (by decide)).trans (zuE_nf (by decide))).trans n53
        rw [q97, q53]
        refine ⟨⟨u3, u4⟩, h16 y, ⟨by omega, by omega⟩, fun H6 e6 => ⟨zin_of (by omega) (by omega), ?_⟩⟩
        rw [e6, e5, e4]
        exact ((k2 y (by omega)).1 y3).2 y4 y5
      -- on with the rest
      have rest : (∀ r, UN (E 53) b p1 q1 r → UN (E 53) b (wu ++ p1) (wv ++ q1) r) → (∀ kz (Q : Option zV → zH → Prop), Z zm_X12_unites kz Q 23 [(0, zR 50), (3, zI ((k + 1 : Nat) : Int))] [] (d, G, F3) → Z zm_X12_unites kz Q 23 [(0, zR 50), (3, zI ((k + 1 : Nat) : Int))] [] (d, G, F)) → ∃ (x : Int) (E' : Nat → Int → Int), zgo zm_X12_unites 23 [(0, zR 50), (3, zI ((k + 1 : Nat) : Int))] [] (d, G, F) (some (zI x)) (d, G, E') ∧ fz [98, 99, 100, 101] E E' ∧ ((x = 1 ∧ ∃ (b2 : zBd) (rk2 : Int → Nat), UN (E 53) b p q (some b2) ∧ bw (E 53) b2 rk2 ∧ bdW (E' 97) (E' 98) 360 b2) ∨ (x = 0 ∧ UN (E 53) b p q none)) := fun bk pz => by
        obtain ⟨x, E', z, z1, z2⟩ := ihN (2 * (sb (th b) p1).length + (k + 1)) (by omega) F3 b rk (k + 1) g p1 q1 hc (Nat.le_refl _) hf3 hb (by rw [n97, n98]; exact hU) st3 st3'
        refine ⟨x, E', fun kz Q hQ => pz kz Q (z kz Q hQ), z1, ?_⟩
        rcases z2 with ⟨y1, b2, rk2, y2, y3⟩ | ⟨y1, y2⟩
        · exact Or.inl ⟨y1, b2, rk2, back _ (bk _ y2), y3⟩
        · exact Or.inr ⟨y1, back _ (bk _ y2)⟩
      by_cases cl : F 97 iu < 0 ∨ F 97 ju < 0
      · by_cases ce : F 97 iu = F 97 ju
        · -- the same letter
          refine rest (fun r z => ?_) (fun kz Q z => pre kz Q (fun _ => X12_unites_149 hM ⟨⟨u3, u4⟩, ⟨v3, v4⟩, fun _ => z, fun y => absurd (by rw [n97]; exact ce) y⟩) (fun y1 y2 => by omega))
          have l1 := tm_letter r3 (by rw [← u1]; omega)
          have l2 := tm_letter s3 (by rw [← v1]; omega)
          obtain ⟨a, wu', rfl⟩ := List.exists_cons_of_ne_nil (tw_ne r3)
          obtain ⟨a', wv', rfl⟩ := List.exists_cons_of_ne_nil (tw_ne s3)
          have w1 : wu' = [] := List.length_eq_zero_iff.1 (by simpa using l1)
          have w2 : wv' = [] := List.length_eq_zero_iff.1 (by simpa using l2)
          subst w1; subst w2
          rw [fw_c0] at u1 v1 r4
          have ea : a = a' := by rw [← u1, ← v1, ce]
          subst ea
          exact UN_eq r4 z
        · obtain ⟨x, H, mb, g1, g2, g3⟩ := binds_ok (E := F3) (b := b) (rk := rk) (iu := iu) (ju := ju) (wu := wu) (wv := wv) hM (by rw [n53]; exact hP) (by rw [n53]; exact hb) (by rw [n97, n98]; exact hU) (by rw [n53]; exact r3) (onM_97 r2 n97) (by rw [n53]; exact s3) (onM_97 s2 n97) r4 s4 (by rw [← u1, ← v1]; exact cl) (by rw [← u1, ← v1]; exact ce)
          rw [n53] at g3
          have hfH : fz [98, 99, 100, 101] E H := fz_trans hf3 (fz_mono g1 (by simp))
          rcases g3 with ⟨x1, b2, rk2, hb2, hU2, len2, sol2, bk⟩ | ⟨x0, hno⟩
          · have l40 := bw_len hb2
            have H97 : H 97 = F3 97 := g1 97 (by simp)
            have hs2 : stO H (E 53) b2 0 (k + 1) g p1 := stO_b hP hb2 sol2 (stO_congr H97 st3 (fun j _ hj => g2 j (by omega)))
            have ht2 : stB2 H (E 53) (k + 1) q1 := stB2_congr H97 st3' (fun j _ hj => ⟨by rw [g1 100 (by simp)], (g2 j (by omega)).2⟩)
            obtain ⟨x', E', z, z1, z2⟩ := ihc (39 - b.length) (by omega) _ H b2 rk2 (k + 1) g p1 q1 (by omega) (Nat.le_refl _) hfH hb2 hU2 hs2 ht2
            refine ⟨x', E', fun kz Q hQ => pre kz Q (fun _ => X12_unites_149 hM ⟨⟨u3, u4⟩, ⟨v3, v4⟩, fun y => absurd (by rw [n97] at y; exact y) ce, fun _ => ⟨x, H, mb, fun _ => z kz Q hQ, fun y => absurd (by omega) y⟩⟩) (fun y1 y2 => by omega), z1, ?_⟩
            rcases z2 with ⟨y1, b3, rk3, y2, y3⟩ | ⟨y1, y2⟩
            · exact Or.inl ⟨y1, b3, rk3, back _ (bk _ _ _ y2), y3⟩
            · exact Or.inr ⟨y1, back _ (bk _ _ _ y2)⟩
          · exact ⟨0, H, fun kz Q hQ => pre kz Q (fun _ => X12_unites_149 hM ⟨⟨u3, u4⟩, ⟨v3, v4⟩, fun y => absurd (by rw [n97] at y; exact y) ce, fun _ => ⟨x, H, mb, fun y => absurd x0 y, fun _ => hQ⟩⟩) (fun y1 y2 => by omega), hfH, Or.inr ⟨rfl, back _ (hno _ _)⟩⟩
      · have cl1 : ¬ F 97 iu < 0 := fun z => cl (Or.inl z)
        have cl2 : ¬ F 97 ju < 0 := fun z => cl (Or.inr z)
        by_cases ce : F 97 iu = F 97 ju
        · obtain ⟨x, y, e2, e3, x0, x16, tx, ox, px0, px3⟩ := rowM_parts hP r3 r2 (by rw [← u1]; omega)
          obtain ⟨x', y', e2', e3', x0', x16', tx', ox', px0', px3'⟩ := rowM_parts hP s3 s2 (by rw [← v1]; omega)
          have hx : F 97 iu = x := by rw [u1, ← e3]
          have hx' : F 97 ju = x' := by rw [v1, ← e3']
          have exx : x = x' := by rw [← hx, ← hx', ce]
          subst exx
          by_cases cs : E 53 (F 97 iu) ≤ 0 ∨ iu = ju
          · refine rest (fun r z => ?_) (fun kz Q z => pre kz Q (fun y => absurd y cl) (fun _ _ => ⟨fun _ => ⟨fun _ => z, fun y1 y2 => absurd cs (by omega)⟩, fun y => absurd ce y⟩))
            have eww : wu = wv := by
              rcases cs with z1 | z1
              · have z0 : (E 53 x).toNat = 0 := by rw [← hx]; omega
                rw [z0] at tx tx'
                have ea := tws_0 tx
                have eb := tws_0 tx'
                rw [e2, e2', ea, eb]
              · subst z1
                exact onM_u r2 r3 s2 s3
            subst eww
            exact UN_skip hP hb _ _ wu 1 (Nat.le_refl _) (Nat.le_refl _) (tws_1.2 r3) r2.2.2.2 _ _ z
          · -- down
            have cs1 : ¬ E 53 (F 97 iu) ≤ 0 := fun z => cs (Or.inl z)
            have cs2 : iu ≠ ju := fun z => cs (Or.inr z)
            let F4 := zuE F3 99 ((k + 1 : Nat) : Int) (iu + 1)
            let F5 := zuE F4 100 ((k + 1 : Nat) : Int) (ju + 1)
            let F6 := zuE F5 101 ((k + 1 : Nat) : Int) (E 53 (F 97 iu))
            have ek1 : (0 : Int) + ((k + 1 : Nat) : Int) = ((k + 1 : Nat) : Int) := by omega
            have hf6 : fz [98, 99, 100, 101] E F6 := fz_put (fz_put (fz_put hf3 (by simp)) (by simp)) (by simp)
            have d97 : F6 97 = F 97 := ((zuE_nf (by decide)).trans ((zuE_nf (by decide)).trans (zuE_nf (by decide)))).trans n97
            have d98 : F6 98 = F 98 := ((zuE_nf (by decide)).trans ((zuE_nf (by decide)).trans (zuE_nf (by decide)))).trans n98
            have d99 : F6 99 (0 + (k : Int)) = F 99 (0 + (k : Int)) + w.length := ((zuE_ne (by decide) _).trans ((zuE_ne (by decide) _).trans (zuE_ix (by omega)))).trans c99
            have d100 : F6 100 (0 + (k : Int)) = F 100 (0 + (k : Int)) + w'.length := ((zuE_ne (by decide) _).trans ((zuE_ix (by omega)).trans (zuE_ne (by decide) _))).trans c100
            have d101 : F6 101 (0 + (k : Int)) = n := ((zuE_ix (by omega)).trans ((zuE_ne (by decide) _).trans (zuE_ne (by decide) _))).trans c101
            have dlo : ∀ j : Int, j < (k : Int) → F6 99 j = F 99 j ∧ F6 100 j = F 100 j ∧ F6 101 j = F 101 j := fun j hj => ⟨((zuE_ne (by decide) _).trans ((zuE_ne (by decide) _).trans (zuE_ix (by omega)))).trans (clo j hj).1, ((zuE_ne (by decide) _).trans ((zuE_ix (by omega)).trans (zuE_ne (by decide) _))).trans (clo j hj).2.1, ((zuE_ix (by omega)).trans ((zuE_ne (by decide) _).trans (zuE_ne (by decide) _))).trans (clo j hj).2.2⟩
            have t99 : F6 99 (0 + ((k + 1 : Nat) : Int)) = iu + 1 := by rw [ek1]; exact (zuE_ne (by decide) _).trans ((zuE_ne (by decide) _).trans zuE_same)
            have t100 : F6 100 (0 + ((k + 1 : Nat) : Int)) = ju + 1 := by rw [ek1]; exact (zuE_ne (by decide) _).trans zuE_same
            have t101 : F6 101 (0 + ((k + 1 : Nat) : Int)) = ((E 53 x).toNat : Int) := by
              rw [ek1]
              have : F6 101 ((k + 1 : Nat) : Int) = E 53 (F 97 iu) := zuE_same
              rw [this, hx]; omega
            have s6 := (nx F6 d97 d99 d101 (fun j _ hj => ⟨(dlo j (by omega)).1, (dlo j (by omega)).2.2⟩)).2 iu wu x y (E 53 x).toNat r2 r3 r5 e2 x0 tx t99 t101
            have s6' := (nx' F6 d97 d100 d101 (fun j _ hj => (dlo j hj).2)).2 (ju + 1) y' (E 53 x).toNat ox' tx' t100 t101
            have lsb : (sb (th b) p).length = 1 + (sb (th b) (y ++ p1)).length := by
              rw [eD, e2, sb_s x0, sb_app, List.cons_append, List.length_cons]; omega
            obtain ⟨x', E', z, z1, z2⟩ := ihN (2 * (sb (th b) (y ++ p1)).length + (k + 1 + 1)) (by omega) F6 b rk (k + 1 + 1) (iu :: g) (y ++ p1) (y' ++ q1) hc (Nat.le_refl _) hf6 hb (by rw [d97, d98]; exact hU) s6 s6'
            refine ⟨x', E', fun kz Q hQ => pre kz Q (fun y => absurd y cl) (fun _ _ => ⟨fun _ => ⟨fun q => absurd q cs, fun _ _ => ?_⟩, fun y => absurd ce y⟩), z1, ?_⟩
            · have := z kz Q hQ
              have e9 : ((k + 1 + 1 : Nat) : Int) = ((k + 1 : Nat) + 1 : Int) := by omega
              rw [e9] at this
              exact this
            · have bk : ∀ r, UN (E 53) b (y ++ p1) (y' ++ q1) r → UN (E 53) b (wu ++ p1) (wv ++ q1) r := fun r z => by
                rw [e2, e2', List.cons_append, List.cons_append]
                exact UN_eq (by omega) z
              rcases z2 with ⟨y1, b3, rk3, y2, y3⟩ | ⟨y1, y2⟩
              · exact Or.inl ⟨y1, b3, rk3, back _ (bk _ y2), y3⟩
              · exact Or.inr ⟨y1, back _ (bk _ y2)⟩
        · refine ⟨0, F3, fun kz Q hQ => pre kz Q (fun y => absurd y cl) (fun _ _ => ⟨fun y => absurd y ce, fun _ => hQ⟩), hf3, Or.inr ⟨rfl, back _ ?_⟩⟩
          obtain ⟨a, wu', rfl⟩ := List.exists_cons_of_ne_nil (tw_ne r3)
          obtain ⟨a', wv', rfl⟩ := List.exists_cons_of_ne_nil (tw_ne s3)
          rw [fw_c0] at u1
          rw [fw_c0] at v1
          rw [List.cons_append, List.cons_append]
          exact UN_ne (by omega) (by omega) (fun z => ce (by rw [u1, v1, z]))
theorem unites_ok {i j : Int} {u v : List Int} (hM : zK zMt d G) (hP : pok (E 53)) (h98 : ∀ L : Int, 0 ≤ L → L < 40 → E 98 L = -1) (hu : tw (E 53) u) (hi : onM E i u) (hv : tw (E 53) v) (hj : onM E j v) :
    ∃ (x : Int) (E' : Nat → Int → Int), zM zm_X12_unites [zR 50, zI i, zI j] (d, G, E) (some (zI x)) (d, G, E') ∧ fz [98, 99, 100, 101] E E' ∧ ((x = 1 ∧ ∃ (b : zBd) (rk : Int → Nat), UN (E 53) [] u v (some b) ∧ bw (E 53) b rk ∧ bdW (E' 97) (E' 98) 360 b) ∨ (x = 0 ∧ UN (E 53) [] u v none)) := by
  let F1 := zuE E 99 0 i
  let F2 := zuE F1 100 0 j
  let F3 := zuE F2 101 0 1
  have n97 : F3 97 = E 97 := (zuE_nf (by decide)).trans ((zuE_nf (by decide)).trans (zuE_nf (by decide)))
  have n98 : F3 98 = E 98 := (zuE_nf (by decide)).trans ((zuE_nf (by decide)).trans (zuE_nf (by decide)))
  have a99 : F3 99 (0 + ((0 : Nat) : Int)) = i := (zuE_ne (by decide) _).trans ((zuE_ne (by decide) _).trans zuE_same)
  have a100 : F3 100 (0 + ((0 : Nat) : Int)) = j := (zuE_ne (by decide) _).trans zuE_same
  have a101 : F3 101 (0 + ((0 : Nat) : Int)) = ((1 : Nat) : Int) := zuE_same
  have s0 : stO F3 (E 53) [] 0 1 [] u := ⟨1, u, [], by rw [a99]; exact onM_97 hi n97, a101, tws_1.2 hu, by simp, Or.inl ⟨rfl, rfl, rfl⟩⟩
  have t0 : stB2 F3 (E 53) 1 v := ⟨1, v, [], by rw [a100]; exact onM_97 hj n97, a101, tws_1.2 hv, by simp, rfl⟩
  obtain ⟨x, E', z, z1, z2⟩ := unites_go (E := E) hM hP 40 _ F3 [] (fun _ => 0) 1 [] u v (by simp) (Nat.le_refl _) (fz_put (fz_put (fz_put fz_rfl (by simp)) (by simp)) (by simp)) bw_nil (by rw [n98]; exact bdW_nil h98) s0 t0
  exact ⟨x, E', zM_go rfl (Nat.le_of_ble_eq_true rfl) (fun kz Q hQ => X12_unites_0 hM ⟨⟨by omega, by omega⟩, fun H1 e1 => ⟨⟨by omega, by omega⟩, fun H2 e2 => ⟨⟨by omega, by omega⟩, fun H3 e3 => by rw [e3, e2, e1]; exact z kz Q hQ⟩⟩⟩), z1, z2⟩
end RN
