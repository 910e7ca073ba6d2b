/-! ===== unification: the reference, standsAt, occurs ===== -/
section RL
variable {d : List Nat} {G : Nat → Int → Option Nat} {E : Nat → Int → Int}
theorem standsAt_ok {i : Int} {rk : Int → Nat} (hM : zK zMt d G) (hb : bok (E 53) (E 97) (E 98) 360 rk) (h0 : 0 ≤ i) (h1 : i < 360) (hl : -40 ≤ E 97 i) : zM zm_X12_standsAt [zR 50, zI i] (d, G, E) (some (zI (rs (E 97) (E 98) 40 i))) (d, G, E) := by
  have loop : ∀ (m : Nat) (i : Int), 0 ≤ i → i < 360 → -40 ≤ E 97 i → (bnd (E 97) (E 98) i → rk (-1 - E 97 i) < m) → zgo zm_X12_standsAt 2 [(0, zR 50), (2, zI i)] [] (d, G, E) (some (zI (rs (E 97) (E 98) m i))) (d, G, E) := by
    intro m
    induction m with
    | zero =>
      intro i i0 i1 hl hr kz Q hQ
      have nb : ¬ bnd (E 97) (E 98) i := fun c => by have := hr c; omega
      rw [rs_n nb] at hQ
      exact X12_standsAt_2 hM ⟨⟨by omega, by omega⟩, fun _ => hQ, fun z => ⟨⟨by omega, by omega⟩, zin_of (by omega) (by omega), ⟨by omega, by omega⟩, fun _ => hQ, fun y => absurd ⟨by omega, y⟩ nb⟩⟩
    | succ m ih =>
      intro i i0 i1 hl hr kz Q hQ
      by_cases c : bnd (E 97) (E 98) i
      · rw [rs_b c] at hQ
        have c1 := c.1
        obtain ⟨r40, s0, t, h3, h4, h5⟩ := hb (-1 - E 97 i) (by omega) (by omega) c.2
        have t0 := nd_ge h3
        have h50 := h5 0 t0
        have e0 : E 98 (-1 - E 97 i) + ((0 : Nat) : Int) = E 98 (-1 - E 97 i) := by omega
        rw [e0] at h50
        have hr' := hr c
        exact X12_standsAt_2 hM ⟨⟨by omega, by omega⟩, fun z => absurd z (by omega), fun _ => ⟨⟨by omega, by omega⟩, zin_of (by omega) (by omega), ⟨by omega, by omega⟩, fun z => absurd z c.2, fun _ => ⟨⟨by omega, by omega⟩, zin_of (by omega) (by omega), ⟨by omega, by omega⟩, ih _ s0 (by omega) h50.1 (fun q => by have := h50.2 q; omega) kz Q hQ⟩⟩⟩
      · rw [rs_n c] at hQ
        exact X12_standsAt_2 hM ⟨⟨by omega, by omega⟩, fun _ => hQ, fun z => ⟨⟨by omega, by omega⟩, zin_of (by omega) (by omega), ⟨by omega, by omega⟩, fun _ => hQ, fun y => absurd ⟨by omega, y⟩ c⟩⟩
  refine zM_go rfl (Nat.le_of_ble_eq_true rfl) (fun kz Q hQ => X12_standsAt_0 hM (loop 40 i h0 h1 hl (fun q => ?_) kz Q hQ))
  have q1 := q.1
  exact (hb (-1 - E 97 i) (by omega) (by omega) q.2).1
theorem endM {F : Nat → Int → Int} {i : Int} {w : List Int} (hM : zK zMt d G) (hP : pok (F 53)) (hi : onM F i w) (hw : tw (F 53) w) : zM zm_X12_endOf [zR 50, zR 97, zI i] (d, G, F) (some (zI (i + w.length))) (d, G, F) :=
  endOf_ok (E := F) (a := 97) (n := 360) hM (zM_46 hM).2.2 rfl hP (tm_congr hw (fun k hk => (hi.2.2.1 k hk).symm)) hi.1 hi.2.1 (by omega)
/-- what is below stays -/
def lowS (E F : Nat → Int → Int) : Prop := ∀ j : Int, j < 2000 → F 99 j = E 99 j ∧ F 101 j = E 101 j
theorem occurs_ok {b : zBd} {rk : Int → Nat} {v i : Int} {u : List Int} (hM : zK zMt d G) (hP : pok (E 53)) (hb : bw (E 53) b rk) (hU : bdW (E 97) (E 98) 360 b) (hu : tw (E 53) u) (hi : onM E i u) (v0 : v < 0) :
    ∃ (x : Int) (E' : Nat → Int → Int), zM zm_X12_occurs [zR 50, zI v, zI i] (d, G, E) (some (zI x)) (d, G, E') ∧ fz [99, 101] E E' ∧ lowS E E' ∧ (x = 1 ∧ v ∈ sb (th b) u ∨ x = 0 ∧ v ∉ sb (th b) u) := by
  have loop : ∀ (N : Nat) (F : Nat → Int → Int) (k : Nat) (g D : List Int), 2 * (sb (th b) D).length + k ≤ N → fz [99, 101] E F → lowS E F → stO F (E 53) b 2000 k g D →
      ∃ (x : Int) (E' : Nat → Int → Int), zgo zm_X12_occurs 20 [(0, zR 50), (1, zI v), (3, zI (k : Int))] [] (d, G, F) (some (zI x)) (d, G, E') ∧ fz [99, 101] E E' ∧ lowS E E' ∧ (x = 1 ∧ v ∈ sb (th b) D ∨ x = 0 ∧ v ∉ sb (th b) D) := by
    intro N
    induction N using Nat.strongRecOn with
    | _ N ih =>
    intro F k g D hN hf hlow hs
    have k362 := stO_k hs
    cases k with
    | zero =>
      obtain ⟨_, e⟩ := hs
      subst e
      exact ⟨0, F, fun kz Q hQ => X12_occurs_20 hM ⟨fun _ => hQ, fun z => absurd (by omega) z⟩, hf, hlow, Or.inr ⟨rfl, by simp [sb]⟩⟩
    | succ k =>
      have ek : (1999 : Int) + ((k + 1 : Nat) : Int) = 2000 + k := by omega
      have f53 : F 53 = E 53 := hf 53 (by simp)
      have f97 : F 97 = E 97 := hf 97 (by simp)
      have f98 : F 98 = E 98 := hf 98 (by simp)
      by_cases c0 : F 101 (2000 + k) = 0
      · obtain ⟨g', hs'⟩ := stO_pop hs c0
        obtain ⟨x, E', z, zr⟩ := ih (2 * (sb (th b) D).length + k) (by omega) F k g' D (Nat.le_refl _) hf hlow hs'
        refine ⟨x, E', fun kz Q hQ => X12_occurs_20 hM ⟨fun y => absurd y (by omega), fun _ => ?_⟩, zr⟩
        rw [ek]
        have e1 : ((k + 1 : Nat) : Int) + (-1) = k := by omega
        exact ⟨zin_of (by omega) (by omega), ⟨by omega, by omega⟩, fun y => absurd c0 y, fun _ => ⟨zin_of (by omega) (by omega), by rw [e1]; exact z kz Q hQ⟩⟩
      · obtain ⟨w, D1, n, e1, tw1, ow, hn, n360, nx⟩ := stO_next hP hs c0
        obtain ⟨iu, wu, r1, r2, r3, r4, r5, _, _⟩ := restM_at (F := F) hP hb (by rw [f97, f98]; exact hU) ow tw1
        obtain ⟨i1, i2, i3, i4⟩ := onM_hd ow (tw_ne tw1)
        obtain ⟨u1, u2, u3, u4⟩ := onM_hd r2 (tw_ne r3)
        have mi := standsAt_ok (E := F) (i := F 99 (2000 + k)) (rk := rk) hM (by rw [f53]; exact bw_bok hb (by rw [f97, f98]; exact hU)) i3 i4 (by rw [i1]; exact i2)
        rw [r1] at mi
        have me := endM (F := F) hM (by rw [f53]; exact hP) ow (by rw [f53]; exact tw1)
        let F1 := zuE F 99 (2000 + k) (F 99 (2000 + k) + w.length)
        let F2 := zuE F1 101 (2000 + k) n
        have g101 : F1 101 (2000 + k) = (n : Int) + 1 := (zuE_ne (by decide) _).trans hn
        have hf2 : fz [99, 101] E F2 := fz_put (fz_put hf (by simp)) (by simp)
        have low2 : lowS E F2 := fun j hj => ⟨(zuE_ne (by decide) _).trans ((zuE_ix (by omega)).trans (hlow j hj).1), (zuE_ix (by omega)).trans ((zuE_ne (by decide) _).trans (hlow j hj).2)⟩
        have n97 : F2 97 = F 97 := (zuE_nf (by decide)).trans (zuE_nf (by decide))
        have n53 : F2 53 = F 53 := (zuE_nf (by decide)).trans (zuE_nf (by decide))
        have b99 : F2 99 (2000 + k) = F 99 (2000 + k) + w.length := (zuE_ne (by decide) _).trans zuE_same
        have b101 : F2 101 (2000 + k) = n := zuE_same
        have blo : ∀ j : Int, 2000 ≤ j → j < 2000 + (k : Int) → F2 99 j = F 99 j ∧ F2 101 j = F 101 j := fun j _ hj => ⟨(zuE_ne (by decide) _).trans (zuE_ix (by omega)), (zuE_ix (by omega)).trans (zuE_ne (by decide) _)⟩
        have s2 := (nx F2 n97 b99 b101 blo).1
        have eD : sb (th b) D = sb (th b) wu ++ sb (th b) D1 := by rw [e1, sb_app, r5]
        have pre : ∀ kz (Q : Option zV → zH → Prop), (F 97 iu ≠ v → (F 97 iu < 0 → Z zm_X12_occurs kz Q 20 [(0, zR 50), (1, zI v), (3, zI ((k + 1 : Nat) : Int))] [] (d, G, F2)) ∧ (¬ F 97 iu < 0 → (E 53 (F 97 iu) ≤ 0 → Z zm_X12_occurs kz Q 20 [(0, zR 50), (1, zI v), (3, zI ((k + 1 : Nat) : Int))] [] (d, G, F2)) ∧ (¬ E 53 (F 97 iu) ≤ 0 → Z zm_X12_occurs kz Q 20 [(0, zR 50), (1, zI v), (3, zI ((k + 1 : Nat) + 1 : Int))] [] (d, G, zuE (zuE F2 99 (2000 + (k + 1 : Nat)) (iu + 1)) 101 (2000 + (k + 1 : Nat)) (E 53 (F 97 iu)))))) → (F 97 iu = v → Q (some (zI 1)) (d, G, F2)) → Z zm_X12_occurs kz Q 20 [(0, zR 50), (1, zI v), (3, zI ((k + 1 : Nat) : Int))] [] (d, G, F) := fun kz Q k1 k2 => by
          refine X12_occurs_20 hM ⟨fun y => absurd y (by omega), fun _ => ?_⟩
          rw [ek]
          refine ⟨zin_of (by omega) (by omega), ⟨by omega, by omega⟩, fun _ => ⟨⟨by omega, by omega⟩, iu, mi, ⟨by omega, by omega⟩, _, me, ⟨by omega, by omega⟩, fun H1 e1 => ⟨⟨by omega, by omega⟩, ?_⟩⟩, fun y => absurd c0 y⟩
          have eH1 : H1 = F1 := e1
          rw [eH1, g101]
          have en : (n : Int) + 1 - 1 = n := by omega
          rw [en]
          refine ⟨zin_of (by omega) (by omega), ⟨by omega, by omega⟩, fun H2 e2 => ?_⟩
          have eH2 : H2 = F2 := e2
          rw [eH2, n97, n53, f53]
          have h16 : ¬ F 97 iu < 0 → (0 : Int) ≤ F 97 iu ∧ F 97 iu < 16 := fun y => ⟨by omega, by
            rw [u1]
            obtain ⟨a, wu', rfl⟩ := List.exists_cons_of_ne_nil (tw_ne r3)
            rw [fw_c0]
            exact tsw_lt (tws_1.2 r3)⟩
          refine ⟨⟨u3, u4⟩, fun y => ⟨⟨u3, u4⟩, (k1 y).1, fun y2 => ⟨⟨u3, u4⟩, h16 y2, ((k1 y).2 y2).1, fun y3 => ⟨zin_of (by omega) (by omega), zin_of (by omega) (by omega), ⟨by omega, by omega⟩, fun H3 e3 => ?_⟩⟩⟩, fun y => k2 (Classical.byContradiction fun z => y z)⟩
          have q97 : H3 97 = F 97 := by rw [e3]; exact (zuE_nf (by decide)).trans n97
          have q53 : H3 53 = E 53 := by rw [e3]; exact ((zuE_nf (by decide)).trans n53).trans f53
          rw [q97, q53]
          refine ⟨zin_of (by omega) (by omega), ⟨u3, u4⟩, h16 y2, ⟨by omega, by omega⟩, fun H4 e4 => ⟨zin_of (by omega) (by omega), ?_⟩⟩
          rw [e4, e3]
          exact ((k1 y).2 y2).2 y3
        by_cases cv : F 97 iu = v
        · refine ⟨1, F2, fun kz Q hQ => pre kz Q (fun y => absurd cv y) (fun _ => hQ), hf2, low2, Or.inl ⟨rfl, ?_⟩⟩
          rw [eD]
          have l1 := tm_letter r3 (by rw [← u1, cv]; exact v0)
          obtain ⟨a, wu', rfl⟩ := List.exists_cons_of_ne_nil (tw_ne r3)
          have w1 : wu' = [] := List.length_eq_zero_iff.1 (by simpa using l1)
          subst w1
          rw [fw_c0] at u1 r4
          have ea : a = v := by rw [← u1, cv]
          subst ea
          have hl : lkp b (-1 - a) = none := Classical.byContradiction fun z => r4 ⟨v0, z⟩
          rw [sb_one v0, th_n hl]
          have : -1 - (-1 - a) = a := by omega
          rw [this]
          simp
        · by_cases cn : F 97 iu < 0
          · -- another letter
            have l1 := tm_letter r3 (by rw [← u1]; exact cn)
            obtain ⟨a, wu', rfl⟩ := List.exists_cons_of_ne_nil (tw_ne r3)
            have w1 : wu' = [] := List.length_eq_zero_iff.1 (by simpa using l1)
            subst w1
            rw [fw_c0] at u1 r4
            have hl : lkp b (-1 - a) = none := Classical.byContradiction fun z => r4 ⟨by omega, z⟩
            have ea : -1 - (-1 - a) = a := by omega
            have eDl : sb (th b) D = a :: sb (th b) D1 := by rw [eD, sb_one (by omega), th_n hl, ea]; rfl
            obtain ⟨x, E', z, z1, z2, z3⟩ := ih (2 * (sb (th b) D1).length + (k + 1)) (by have := congrArg List.length eDl; rw [List.length_cons] at this; omega) F2 (k + 1) g D1 (Nat.le_refl _) hf2 low2 s2
            refine ⟨x, E', fun kz Q hQ => pre kz Q (fun _ => ⟨fun _ => z kz Q hQ, fun y => absurd cn y⟩) (fun y => absurd y cv), z1, z2, ?_⟩
            rw [eDl]
            have nav : v ≠ a := fun y => cv (by rw [u1, y])
            rcases z3 with ⟨y1, y2⟩ | ⟨y1, y2⟩
            · exact Or.inl ⟨y1, List.mem_cons_of_mem _ y2⟩
            · exact Or.inr ⟨y1, fun m => by rcases List.mem_cons.1 m with q | q; exact nav q; exact y2 q⟩
          · obtain ⟨c, y, e2, e3, c00, c16, ty, oy, p0, p3⟩ := rowM_parts hP r3 r2 (by rw [← u1]; omega)
            have hc : F 97 iu = c := by rw [u1, ← e3]
            have eDl : sb (th b) D = c :: (sb (th b) y ++ sb (th b) D1) := by rw [eD, e2, sb_s c00]; rfl
            have nav : v ≠ c := by omega
            by_cases cp : E 53 (F 97 iu) ≤ 0
            · have z0 : (E 53 c).toNat = 0 := by rw [← hc]; omega
              rw [z0] at ty
              have ey := tws_0 ty
              subst ey
              have eDl2 : sb (th b) D = c :: sb (th b) D1 := eDl
              obtain ⟨x, E', z, z1, z2, z3⟩ := ih (2 * (sb (th b) D1).length + (k + 1)) (by have := congrArg List.length eDl2; rw [List.length_cons] at this; omega) F2 (k + 1) g D1 (Nat.le_refl _) hf2 low2 s2
              refine ⟨x, E', fun kz Q hQ => pre kz Q (fun _ => ⟨fun q => absurd q cn, fun _ => ⟨fun _ => z kz Q hQ, fun q => absurd cp q⟩⟩) (fun q => absurd q cv), z1, z2, ?_⟩
              rw [eDl2]
              rcases z3 with ⟨y1, y2⟩ | ⟨y1, y2⟩
              · exact Or.inl ⟨y1, List.mem_cons_of_mem _ y2⟩
              · exact Or.inr ⟨y1, fun m => by rcases List.mem_cons.1 m with q | q; exact nav q; exact y2 q⟩
            · let F3 := zuE F2 99 (2000 + (k + 1 : Nat)) (iu + 1)
              let F4 := zuE F3 101 (2000 + (k + 1 : Nat)) (E 53 (F 97 iu))
              have hf4 : fz [99, 101] E F4 := fz_put (fz_put hf2 (by simp)) (by simp)
              have low4 : lowS E F4 := fun j hj => ⟨(zuE_ne (by decide) _).trans ((zuE_ix (by omega)).trans (low2 j hj).1), (zuE_ix (by omega)).trans ((zuE_ne (by decide) _).trans (low2 j hj).2)⟩
              have d97 : F4 97 = F 97 := ((zuE_nf (by decide)).trans (zuE_nf (by decide))).trans n97
              have d99 : F4 99 (2000 + k) = F 99 (2000 + k) + w.length := ((zuE_ne (by decide) _).trans (zuE_ix (by omega))).trans b99
              have d101 : F4 101 (2000 + k) = n := ((zuE_ix (by omega)).trans (zuE_ne (by decide) _)).trans b101
              have dlo : ∀ j : Int, 2000 ≤ j → j < 2000 + (k : Int) → F4 99 j = F 99 j ∧ F4 101 j = F 101 j := fun j h1 hj => ⟨((zuE_ne (by decide) _).trans (zuE_ix (by omega))).trans (blo j h1 hj).1, ((zuE_ix (by omega)).trans (zuE_ne (by decide) _)).trans (blo j h1 hj).2⟩
              have s4 := (nx F4 d97 d99 d101 dlo).2 iu wu c y (E 53 c).toNat r2 r3 r5 e2 c00 ty ((zuE_ne (by decide) _).trans zuE_same) (by
                have : F4 101 (2000 + (k + 1 : Nat)) = E 53 (F 97 iu) := zuE_same
                rw [this, hc]; omega)
              obtain ⟨x, E', z, z1, z2, z3⟩ := ih (2 * (sb (th b) (y ++ D1)).length + (k + 1 + 1)) (by
                have := congrArg List.length eDl
                rw [List.length_cons] at this
                rw [sb_app]; omega) F4 (k + 1 + 1) (iu :: g) (y ++ D1) (Nat.le_refl _) hf4 low4 s4
              refine ⟨x, E', fun kz Q hQ => pre kz Q (fun _ => ⟨fun q => absurd q cn, fun _ => ⟨fun q => absurd q cp, fun _ => ?_⟩⟩) (fun q => absurd q cv), z1, z2, ?_⟩
              · have := z kz Q hQ
                have e9 : ((k + 1 + 1 : Nat) : Int) = ((k + 1 : Nat) + 1 : Int) := by omega
                rw [e9] at this
                exact this
              · rw [eDl, ← sb_app]
                rcases z3 with ⟨y1, y2⟩ | ⟨y1, y2⟩
                · exact Or.inl ⟨y1, List.mem_cons_of_mem _ y2⟩
                · exact Or.inr ⟨y1, fun m => by rcases List.mem_cons.1 m with q | q; exact nav q; exact y2 q⟩
  let F1 := zuE E 99 2000 i
  let F2 := zuE F1 101 2000 1
  have s0 : stO F2 (E 53) b 2000 1 [] u := by
    have a99 : F2 99 (2000 + ((0 : Nat) : Int)) = i := (zuE_ne (by decide) _).trans zuE_same
    have a101 : F2 101 (2000 + ((0 : Nat) : Int)) = ((1 : Nat) : Int) := zuE_same
    refine ⟨1, u, [], ?_, a101, tws_1.2 hu, by simp, Or.inl ⟨rfl, rfl, rfl⟩⟩
    rw [a99]
    exact onM_97 hi ((zuE_nf (by decide)).trans (zuE_nf (by decide)))
  obtain ⟨x, E', z, zr⟩ := loop _ F2 1 [] u (Nat.le_refl _) (fz_put (fz_put fz_rfl (by simp)) (by simp)) (fun j hj => ⟨(zuE_ne (by decide) _).trans (zuE_ix (by omega)), (zuE_ix (by omega)).trans (zuE_ne (by decide) _)⟩) s0
  exact ⟨x, E', zM_go rfl (Nat.le_of_ble_eq_true rfl) (fun kz Q hQ => X12_occurs_0 hM ⟨⟨by omega, by omega⟩, fun H1 e1 => ⟨⟨by omega, by omega⟩, fun H2 e2 => by rw [e2, e1]; exact z kz Q hQ⟩⟩), zr⟩
end RL
