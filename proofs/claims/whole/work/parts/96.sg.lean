/-! ===== picks: the reference, pick and run ===== -/
/-- the one to pick, from number c on, m of them; b is the best so far, w its weight -/
def pkf (W : Int → Int) (R : Nat → List zLt) (T : Nat → Int) (age : Int) : Nat → Nat → Int → Int → Int
  | 0, _, b, _ => b
  | m + 1, c, b, w => if T c ≠ 0 then pkf W R T age m (c + 1) b w else if b = -1 then pkf W R T age m (c + 1) c (wtA W (R c) (R c).length) else if age ≠ 0 then pkf W R T age m (c + 1) b w else if w ≤ wtA W (R c) (R c).length then pkf W R T age m (c + 1) b w else pkf W R T age m (c + 1) c (wtA W (R c) (R c).length)
theorem pkf_in {W : Int → Int} {R : Nat → List zLt} {T : Nat → Int} {age : Int} {N : Nat} : ∀ (m c : Nat) (b w : Int), c + m = N → (b = -1 ∨ ∃ k : Nat, b = k ∧ k < N ∧ T k = 0) → (pkf W R T age m c b w = -1 ∨ ∃ k : Nat, pkf W R T age m c b w = k ∧ k < N ∧ T k = 0)
  | 0, c, b, w, _, h => h
  | m + 1, c, b, w, e, h => by
    unfold pkf
    split
    · exact pkf_in m (c + 1) b w (by omega) h
    · rename_i h0
      have hc : (c : Int) = -1 ∨ ∃ k : Nat, (c : Int) = k ∧ k < N ∧ T k = 0 := Or.inr ⟨c, rfl, by omega, Decidable.not_not.mp h0⟩
      split
      · exact pkf_in m (c + 1) c _ (by omega) hc
      · split
        · exact pkf_in m (c + 1) b w (by omega) h
        · split
          · exact pkf_in m (c + 1) b w (by omega) h
          · exact pkf_in m (c + 1) c _ (by omega) hc
def ageO (pk tu : Int) : Int := if (pk + 1) % (tu + 1) ≠ 0 then 0 else 1
def pkS (W : Int → Int) (pk tu : Int) (s : zS) : Int := pkf W (sR s) (sT s) (ageO pk tu) (sK s) 0 (-1) 0
theorem pkS_in {W : Int → Int} {pk tu : Int} {s : zS} : pkS W pk tu s = -1 ∨ ∃ k : Nat, pkS W pk tu s = k ∧ k < sK s ∧ sT s k = 0 := pkf_in (sK s) 0 (-1) 0 (by omega) (Or.inl rfl)
/-- the picked one is active -/
def sAct (s : zS) (it : Nat) : zS := (sK s, sR s, zup (sT s) it 1, sB s, sN s, sW s, sS s, sAo s, sLo s, sMa s, sRw s, sEn s)
def sSat (s : zS) : zS := (sK s, sR s, sT s, sB s, sN s, sW s, sS s, sAo s, sLo s, sMa s, sRw s, 2)
/-- picks, m of them -/
def RN (P W : Int → Int) (fu tu : Int) : Nat → zS → Int → zS → Int → Prop
  | 0, s, p, s', p' => s' = s ∧ p' = p
  | m + 1, s, p, s', p' => (sEn s ≠ 0 ∧ s' = s ∧ p' = p) ∨ (sEn s = 0 ∧ pkS W p tu s = -1 ∧ s' = sSat s ∧ p' = p) ∨ (sEn s = 0 ∧ ∃ it : Nat, pkS W p tu s = it ∧ it < sK s ∧ ∃ s1, WK P W fu it (sAct s it) s1 ∧ RN P W fu tu m s1 (p + 1) s' p')
theorem RN_det {P W : Int → Int} {fu tu : Int} : ∀ {m : Nat} {s s1 s2 : zS} {p p1 p2 : Int}, RN P W fu tu m s p s1 p1 → RN P W fu tu m s p s2 p2 → s1 = s2 ∧ p1 = p2
  | 0, s, s1, s2, p, p1, p2, h, h' => ⟨h.1.trans h'.1.symm, h.2.trans h'.2.symm⟩
  | m + 1, s, s1, s2, p, p1, p2, h, h' => by
    rcases h with ⟨a, b, c⟩ | ⟨a, b, c, e⟩ | ⟨a, it, b, c, u, w, r⟩ <;> rcases h' with ⟨a', b', c'⟩ | ⟨a', b', c', e'⟩ | ⟨a', it', b', c', u', w', r'⟩
    · exact ⟨b.trans b'.symm, c.trans c'.symm⟩
    · exact absurd a' a
    · exact absurd a' a
    · exact absurd a a'
    · exact ⟨c.trans c'.symm, e.trans e'.symm⟩
    · exact absurd (b.symm.trans b') (by omega)
    · exact absurd a a'
    · exact absurd (b.symm.trans b') (by omega)
    · have e : it = it' := by have := b.symm.trans b'; omega
      subst e
      have e2 := WK_det w w'
      subst e2
      exact RN_det r r'
theorem RN_stop {P W : Int → Int} {fu tu : Int} {s : zS} {p : Int} (h : sEn s ≠ 0) : ∀ m : Nat, RN P W fu tu m s p s p
  | 0 => ⟨rfl, rfl⟩
  | _ + 1 => Or.inl ⟨h, rfl, rfl⟩
theorem sAct_ok {g : Nat} {s : zS} {it : Nat} (h : okS g s) : okS g (sAct s it) := h
theorem sSat_ok {g : Nat} {s : zS} (h : okS g s) (h0 : sEn s = 0) : okS g (sSat s) := ⟨h.1, fun z => absurd z (by show ¬ ((2 : Int) = 0); decide), h.2.2.1, h.2.2.2.1, h.2.2.2.2.1, h.2.2.2.2.2.1, h.2.2.2.2.2.2.1, by show (0 : Int) ≤ 2 ∧ (2 : Int) ≤ 3; decide⟩
/-- what running keeps -/
def kpR (E E' : Nat → Int → Int) : Prop := fz tS E E' ∧ E' 50 0 = E 50 0 ∧ E' 50 4 = E 50 4 ∧ E' 50 57 = E 50 57 ∧ E' 50 58 = E 50 58
theorem kpR_r {E : Nat → Int → Int} : kpR E E := ⟨fz_rfl, rfl, rfl, rfl, rfl⟩
theorem kpR_t {E F H : Nat → Int → Int} (h : kpR E F) (h' : kpR F H) : kpR E H := ⟨fz_trans h.1 h'.1, h'.2.1.trans h.2.1, h'.2.2.1.trans h.2.2.1, h'.2.2.2.1.trans h.2.2.2.1, h'.2.2.2.2.trans h.2.2.2.2⟩
theorem kpR_m {E F : Nat → Int → Int} (h : kpM E F) : kpR E F := ⟨h.1, h.2.1, h.2.2.1, h.2.2.2.2.1, h.2.2.2.2.2⟩
theorem kpR_3 {E F : Nat → Int → Int} (h : kpR E F) : F 53 = E 53 ∧ F 54 = E 54 := ⟨h.1 53 (by simp [tS]), h.1 54 (by simp [tS])⟩
theorem sgM_r {E F : Nat → Int → Int} {fu : Int} (h : sgM E fu) (k : kpR E F) : sgM F fu := by
  unfold sgM
  rw [(kpR_3 k).1, (kpR_3 k).2, k.2.2.2.2]; exact h
section SG
variable {d : List Nat} {G : Nat → Int → Option Nat} {E : Nat → Int → Int}
theorem pick_ok {fu : Int} {s : zS} (hM : zK zMt d G) (hg : sgM E fu) (hs : MIv E s) (hp : 0 ≤ E 50 55 ∧ E 50 55 ≤ 1000000) (ht : 0 ≤ E 50 57 ∧ E 50 57 ≤ 1000) : zM zm_X12_pick [zR 50] (d, G, E) (some (zI (pkS (E 54) (E 50 55) (E 50 57) s))) (d, G, E) := by
  have hC := hs.1
  have hK := hC.2.1
  have e6 := hC.1
  have loop : ∀ (age : Int) (m c : Nat) (b w : Int), c + m = sK s → zgo zm_X12_pick 29 [(0, zR 50), (1, zI age), (2, zI b), (3, zI w), (4, zI (c : Int))] [] (d, G, E) (some (zI (pkf (E 54) (sR s) (sT s) age m c b w))) (d, G, E) := by
    intro age m
    induction m with
    | zero => exact fun c b w hc kz Q hQ => X12_pick_29 hM ⟨fun _ => hQ, fun z => absurd (by omega) z⟩
    | succ m ih =>
      intro c b w hc
      have t := (hC.2.2 c (by omega)).2.2.1
      have ec : ((c + 1 : Nat) : Int) = (c : Int) + 1 := by omega
      have hw := weightOfClaim_ok (E := E) (c := c) hM (MI_st hC) (by omega) hg.2.1
      have i1 := ih (c + 1) b w (by omega)
      have i2 := ih (c + 1) c (wtA (E 54) (sR s c) (sR s c).length) (by omega)
      rw [ec] at i1 i2
      unfold pkf
      intro kz Q hQ
      refine X12_pick_29 hM ⟨fun z => absurd z (by omega), fun _ => ⟨⟨by omega, by omega⟩, fun z => ⟨zin_of (by omega) (by omega), ?_⟩, fun z => ⟨_, hw, fun z1 => ⟨zin_of (by omega) (by omega), ?_⟩, fun z1 => ⟨fun z2 => ⟨zin_of (by omega) (by omega), ?_⟩, fun z2 => ⟨fun z3 => ⟨zin_of (by omega) (by omega), ?_⟩, fun z3 => ⟨zin_of (by omega) (by omega), ?_⟩⟩⟩⟩⟩⟩
      · rw [t] at z
        rw [if_pos z] at hQ
        exact i1 kz Q hQ
      · rw [t] at z
        rw [if_neg z, if_pos z1] at hQ
        exact i2 kz Q hQ
      · rw [t] at z
        rw [if_neg z, if_neg z1, if_pos z2] at hQ
        exact i1 kz Q hQ
      · rw [t] at z
        rw [if_neg z, if_neg z1, if_neg z2, if_pos z3] at hQ
        exact i1 kz Q hQ
      · rw [t] at z
        rw [if_neg z, if_neg z1, if_neg z2, if_neg z3] at hQ
        exact i2 kz Q hQ
  have l0 := fun age => loop age (sK s) 0 (-1) 0 (by omega)
  by_cases c : (E 50 55 + 1) % (E 50 57 + 1) ≠ 0
  · have ea : ageO (E 50 55) (E 50 57) = 0 := if_pos c
    have l := l0 (ageO (E 50 55) (E 50 57))
    exact zM_go rfl (Nat.le_of_ble_eq_true rfl) (fun kz Q hQ => X12_pick_0 hM ⟨zin_of (by omega) (by omega), zin_of (by omega) (by omega), by omega, by omega, fun _ => by have := l kz Q hQ; rw [ea] at this; exact this, fun z => absurd c z⟩)
  · have ea : ageO (E 50 55) (E 50 57) = 1 := if_neg c
    have l := l0 (ageO (E 50 55) (E 50 57))
    exact zM_go rfl (Nat.le_of_ble_eq_true rfl) (fun kz Q hQ => X12_pick_0 hM ⟨zin_of (by omega) (by omega), zin_of (by omega) (by omega), by omega, by omega, fun z => absurd z c, fun _ => by have := l kz Q hQ; rw [ea] at this; exact this⟩)
theorem MIv_act {s : zS} {it : Nat} {p : Int} (hs : MIv E s) (hi : it < sK s) : MIv (zuE (zuE E 50 55 p) 62 (it : Int) 1) (sAct s it) := by
  obtain ⟨hC, e44, e43, e45, e42, e54, hlo⟩ := hs
  have f : fz [50, 62] E (zuE (zuE E 50 55 p) 62 (it : Int) 1) := fun x hx => by
    simp only [List.mem_cons, List.not_mem_nil, or_false, not_or] at hx
    rw [zuE_nf hx.2, zuE_nf hx.1]
  have g : ∀ x : Int, x ≠ 55 → zuE (zuE E 50 55 p) 62 (it : Int) 1 50 x = E 50 x := fun x hx => by
    rw [zuE_nf (by decide : (50 : Nat) ≠ 62), zuE_ix hx]
  have a53 : zuE (zuE E 50 55 p) 62 (it : Int) 1 53 = E 53 := f 53 (by simp)
  have a54 : zuE (zuE E 50 55 p) 62 (it : Int) 1 54 = E 54 := f 54 (by simp)
  refine ⟨?_, (g _ (by decide)).trans e44, (g _ (by decide)).trans e43, (g _ (by decide)).trans e45, (g _ (by decide)).trans e42, (g _ (by decide)).trans e54, by rw [f 58 (by simp)]; exact hlo⟩
  rw [a53, a54]
  refine ⟨(g _ (by decide)).trans hC.1, hC.2.1, fun c hc => MD_agr (hC.2.2 c hc) (agr_fz f (by simp)) ?_ (by rw [f 63 (by simp)]; exact (hC.2.2 c hc).2.2.2.1)⟩
  by_cases e : c = it
  · subst e
    rw [zuE_same]
    exact (zup_s).symm
  · rw [zuE_ix (by omega), zuE_nf (by decide : (62 : Nat) ≠ 50)]
    rw [(hC.2.2 c hc).2.2.1]
    exact (zup_n e).symm
theorem run_loop {fu : Int} {g : Nat} (hM : zK zMt d G) (hg6 : g ≤ 600) (N : Nat) (hN : N ≤ 200) : ∀ (m n : Nat) (E : Nat → Int → Int) (s : zS), n + m = N → sgM E fu → MIv E s → okS g s → (0 ≤ E 50 55 ∧ E 50 55 ≤ 900000 + n) → (0 ≤ E 50 57 ∧ E 50 57 ≤ 1000) →
    ∃ (E' : Nat → Int → Int) (s' : zS), zgo zm_X12_run 16 [(0, zR 50), (1, zI (N : Int)), (2, zI (n : Int))] [] (d, G, E) (some (zI (sEn s'))) (d, G, E') ∧ kpR E E' ∧ MIv E' s' ∧ okS g s' ∧ (E 50 55 ≤ E' 50 55 ∧ E' 50 55 ≤ E 50 55 + m) ∧ RN (E 53) (E 54) fu (E 50 57) m s (E 50 55) s' (E' 50 55) := by
  intro m
  induction m with
  | zero =>
    intro n E s hn hg hs ho hp ht
    have e54 := hs.2.2.2.2.2.1
    exact ⟨E, s, fun kz Q hQ => X12_run_16 hM ⟨fun _ => by rw [e54]; exact hQ, fun z => absurd (by omega) z⟩, kpR_r, hs, ho, by omega, rfl, rfl⟩
  | succ m ih =>
    intro n E s hn hg hs ho hp ht
    have e54 := hs.2.2.2.2.2.1
    have en : ((n + 1 : Nat) : Int) = (n : Int) + 1 := by omega
    by_cases c0 : sEn s = 0
    case neg => exact ⟨E, s, fun kz Q hQ => X12_run_16 hM ⟨fun z => absurd z (by omega), fun _ => ⟨fun _ => by rw [e54]; exact hQ, fun z => absurd (by rw [e54]; exact c0) z⟩⟩, kpR_r, hs, ho, by omega, Or.inl ⟨c0, rfl, rfl⟩⟩
    have hpk := pick_ok (E := E) (s := s) hM hg hs (by omega) ht
    rcases pkS_in (W := E 54) (pk := E 50 55) (tu := E 50 57) (s := s) with q | ⟨it, q, hi, hT⟩
    · rw [q] at hpk
      have g50 : ∀ x : Int, x ≠ 54 → zuE E 50 54 2 50 x = E 50 x := fun x hx => zuE_ix hx
      have f : fz [50] E (zuE E 50 54 2) := fun x hx => zuE_nf (by simpa using hx)
      have kk : kpR E (zuE E 50 54 2) := ⟨fz_mono f (by simp [tS]), g50 _ (by decide), g50 _ (by decide), g50 _ (by decide), g50 _ (by decide)⟩
      have hs' : MIv (zuE E 50 54 2) (sSat s) := by
        obtain ⟨hC, e44, e43, e45, e42, e54, hlo⟩ := hs
        refine ⟨?_, (g50 _ (by decide)).trans e44, (g50 _ (by decide)).trans e43, (g50 _ (by decide)).trans e45, (g50 _ (by decide)).trans e42, zuE_same, by rw [f 58 (by simp)]; exact hlo⟩
        rw [(kpR_3 kk).1, (kpR_3 kk).2]
        exact MI_fz hC f (by simp) (g50 _ (by decide))
      have e2 : zuE E 50 54 2 50 54 = 2 := zuE_same
      refine ⟨zuE E 50 54 2, sSat s, fun kz Q hQ => X12_run_16 hM ⟨fun z => absurd z (by omega), fun _ => ⟨fun z => absurd (e54.trans c0) z, fun _ => ⟨-1, hpk, fun z => absurd rfl z, fun _ E15 he => ⟨zin_of (by omega) (by omega), ?_⟩⟩⟩⟩, kk, hs', sSat_ok ho c0, ?_, Or.inr (Or.inl ⟨c0, q, rfl, g50 _ (by decide)⟩)⟩
      · rw [he]
        exact X12_run_16 hM ⟨fun _ => by rw [e2]; exact hQ, fun _ => ⟨fun _ => by rw [e2]; exact hQ, fun z => absurd (by rw [e2]; decide) z⟩⟩
      · rw [g50 _ (by decide)]; omega
    · rw [q] at hpk
      have hK := hs.1.2.1
      have a1 := MIv_act (p := E 50 55 + 1) hs hi
      let E1 := zuE (zuE E 50 55 (E 50 55 + 1)) 62 (it : Int) 1
      have g50 : ∀ x : Int, x ≠ 55 → E1 50 x = E 50 x := fun x hx => by
        show zuE (zuE E 50 55 (E 50 55 + 1)) 62 (it : Int) 1 50 x = E 50 x
        rw [zuE_nf (by decide : (50 : Nat) ≠ 62), zuE_ix hx]
      have g55 : E1 50 55 = E 50 55 + 1 := by
        show zuE (zuE E 50 55 (E 50 55 + 1)) 62 (it : Int) 1 50 55 = _
        rw [zuE_nf (by decide : (50 : Nat) ≠ 62), zuE_same]
      have f : fz [50, 62] E E1 := fun x hx => by
        simp only [List.mem_cons, List.not_mem_nil, or_false, not_or] at hx
        show zuE (zuE E 50 55 (E 50 55 + 1)) 62 (it : Int) 1 x = E x
        rw [zuE_nf hx.2, zuE_nf hx.1]
      have k1 : kpR E E1 := ⟨fz_mono f (by simp [tS]), g50 _ (by decide), g50 _ (by decide), g50 _ (by decide), g50 _ (by decide)⟩
      have hg1 := sgM_r hg k1
      obtain ⟨E2, s2, m2, k2, hs2, ho2, _, w2⟩ := works_ok (E := E1) (s := sAct s it) (it := it) hM hg1 hg6 a1 (sAct_ok ho) hi
      have k12 := kpR_t k1 (kpR_m k2)
      have p2 : E2 50 55 = E 50 55 + 1 := k2.2.2.2.1.trans g55
      have t2 : E2 50 57 = E 50 57 := k12.2.2.2.1
      obtain ⟨E', s', z, k', hs', ho', hp', r⟩ := ih (n + 1) E2 s2 (by omega) (sgM_r hg k12) hs2 ho2 (by rw [p2]; omega) (by rw [t2]; exact ht)
      rw [en] at z
      rw [(kpR_3 k12).1, (kpR_3 k12).2, t2, p2] at r
      rw [(kpR_3 k1).1, (kpR_3 k1).2] at w2
      rw [p2] at hp'
      refine ⟨E', s', fun kz Q hQ => X12_run_16 hM ⟨fun z => absurd z (by omega), fun _ => ⟨fun z => absurd (e54.trans c0) z, fun _ => ⟨it, hpk, fun _ => ⟨zin_of (by omega) (by omega), fun E8 he8 => ⟨⟨by omega, by omega⟩, fun E10 he10 => ?_⟩⟩, fun z => absurd (by omega) z⟩⟩⟩, kpR_t k12 k', hs', ho', by omega, Or.inr (Or.inr ⟨c0, it, q, hi, s2, w2, r⟩)⟩
      subst he8
      subst he10
      exact ⟨E2, m2, zin_of (by omega) (by omega), z kz Q hQ⟩
theorem runM_ok {fu : Int} {g N : Nat} {s : zS} (hM : zK zMt d G) (hg6 : g ≤ 600) (hN : 1 ≤ N ∧ N ≤ 200) (hg : sgM E fu) (hs : MIv E s) (ho : okS g s) (hp : 0 ≤ E 50 55 ∧ E 50 55 ≤ 900000) (ht : 0 ≤ E 50 57 ∧ E 50 57 ≤ 1000) (hin : zM zm_X12_in [zI (N : Int), zI 1, zI 200] (d, G, E) (some (zI 1)) (d, G, E)) :
    ∃ (E' : Nat → Int → Int) (s' : zS), zM zm_X12_run [zR 50, zI (N : Int)] (d, G, E) (some (zI (sEn s'))) (d, G, E') ∧ kpR E E' ∧ MIv E' s' ∧ okS g s' ∧ (E 50 55 ≤ E' 50 55 ∧ E' 50 55 ≤ E 50 55 + N) ∧ RN (E 53) (E 54) fu (E 50 57) N s (E 50 55) s' (E' 50 55) := by
  obtain ⟨E', s', z, r⟩ := run_loop (fu := fu) (g := g) hM hg6 N (by omega) N 0 E s (by omega) hg hs ho (by omega) ht
  exact ⟨E', s', zM_go rfl (Nat.le_of_ble_eq_true rfl) (fun kz Q hQ => X12_run_0 hM ⟨1, hin, fun _ => z kz Q hQ, fun z => absurd (by decide) z⟩), r⟩
end SG
