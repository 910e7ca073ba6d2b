/-! ===== both sides: digest ===== -/
def fd (r : Int → Int) : Nat → Int → Int64 → Int64
  | 0, _, h => h
  | m + 1, i, h => fd r m (i + 1) (31 * h + Int64.ofInt (r i))
def fdl (r : Int → Int → Int) (ln : Nat → Nat) : Nat → Nat → Int64 → Int64
  | 0, _, h => h
  | m + 1, l, h => fdl r ln m (l + 1) (fd (r l) (2 + ln l) 0 h)
def fdz (rk : Int → Int → Int) (rl : Int → Int → Int → Int) (rs : Int → Int → Int) (R : Nat → List zLt) (nw : Nat → Nat) : Nat → Nat → Int64 → Int64
  | 0, _, h => h
  | m + 1, c, h => fdz rk rl rs R nw m (c + 1) (fd (rs c) (4 * nw c + 1) 10 (fd (rs c) 7 0 (fdl (rl c) (fun l => (lit (R c) l).2.length) (R c).length 0 (fd (rk c) 6 0 h))))
section TH
variable {d : List Nat} {G : Nat → Int → Option Nat} {E : Nat → Int → Int}
theorem digest_2 {s : zS} {g : Nat} (h : JJ d G E s g) : ∃ r : Int64, zM zm_X11_digest [zR 0] (d, G, E) (some (zL r)) (d, G, E) ∧ zM zm_X12_digest [zR 50] (d, G, E) (some (zL r)) (d, G, E) := by
  obtain ⟨rc, hrc⟩ := Classical.axiomOfChoice (count_2 h.1)
  obtain ⟨rk, hrk⟩ := Classical.axiomOfChoice (fun v => Classical.axiomOfChoice (claim_2 h.1 v))
  obtain ⟨rs, hrs⟩ := Classical.axiomOfChoice (fun v => Classical.axiomOfChoice (step_2 h v))
  have l2 : ∀ v i w : Int, ∃ r : Int, w ≤ 1000 → zM zm_X11_literal [zR 0, zI v, zI i, zI w] (d, G, E) (some (zI r)) (d, G, E) ∧ zM zm_X12_literal [zR 50, zI v, zI i, zI w] (d, G, E) (some (zI r)) (d, G, E) ∧ ∀ c l : Nat, v = c → c < sK s → i = l → l < (sR s c).length → w = 1 → r = (lit (sR s c) l).2.length := fun v i w => by
    by_cases q : w ≤ 1000
    · obtain ⟨r, hr⟩ := literal_2 h.1 v i w (by omega)
      exact ⟨r, fun _ => hr⟩
    · exact ⟨0, fun y => absurd y q⟩
  obtain ⟨rl, hrl⟩ := Classical.axiomOfChoice (fun v => Classical.axiomOfChoice (fun i => Classical.axiomOfChoice (l2 v i)))
  obtain ⟨⟨hc, hm, ho, _⟩, hn⟩ := h
  obtain ⟨⟨M, hC⟩, e17, e18, e19, e20, e15, hI, h19, hX, hM⟩ := hc
  obtain ⟨hD, e44, e43, e45, e42, e54, hlo⟩ := hm
  have hK2 := hD.2.1
  have e5 := hC.2.2.1
  have e6 := hD.1
  -- how many rewritings
  have nwE : ∀ c : Nat, ∃ n : Nat, c < sK s → E 70 c = n ∧ n ≤ 8 := fun c => by
    by_cases q : c < sK s
    · obtain ⟨_, _, _, _, _, _, _, _, ⟨n, _, n8, en⟩, _⟩ := hD.2.2 c q
      exact ⟨n, fun _ => ⟨en, n8⟩⟩
    · exact ⟨0, fun y => absurd y q⟩
  obtain ⟨nw, hnw⟩ := Classical.axiomOfChoice nwE
  -- the class
  have st54 : ∀ (m : Nat) (c : Nat) (i last : Int) (hh : Int64), 0 ≤ i → i + m = last + 1 → last ≤ 1000 → zgo zm_X11_digestStep 54 [(0, zR 0), (3, zI (c : Int)), (4, zL hh), (6, zI last), (7, zI i)] [] (d, G, E) (some (zL (fd (rs c) m i hh))) (d, G, E) := by
    intro m
    induction m with
    | zero => exact fun c i last hh h0 hm hl kz Q hQ => X11_digestStep_54 hX ⟨fun _ => hQ, fun y => absurd (by omega) y⟩
    | succ m ih => exact fun c i last hh h0 hm hl kz Q hQ => X11_digestStep_54 hX ⟨fun y => absurd y (by omega), fun _ => ⟨_, (hrs c i).1, zin_of (by omega) (by omega), ih c (i + 1) last _ (by omega) (by omega) hl kz Q hQ⟩⟩
  have st6 : ∀ (m : Nat) (c : Nat) (i : Int) (hh : Int64), c < sK s → 0 ≤ i → i + m = 7 → zgo zm_X11_digestStep 6 [(0, zR 0), (3, zI (c : Int)), (4, zL hh), (6, zI i)] [] (d, G, E) (some (zL (fd (rs c) (4 * nw c + 1) 10 (fd (rs c) m i hh)))) (d, G, E) := by
    intro m
    induction m with
    | zero =>
      intro c i hh hc h0 hm kz Q hQ
      obtain ⟨x1, x2, x3⟩ := (hrs c 10).2.2 c rfl hc rfl
      obtain ⟨y1, y2⟩ := hnw c hc
      refine X11_digestStep_6 hX ⟨fun _ => ⟨_, (hrs c 10).1, zin_of (by omega) (by omega), zin_of (by omega) (by omega), st54 (4 * nw c + 1) c 10 _ hh (by omega) ?_ (by omega) kz Q hQ⟩, fun y => absurd (by omega) y⟩
      omega
    | succ m ih => exact fun c i hh hc h0 hm kz Q hQ => X11_digestStep_6 hX ⟨fun y => absurd y (by omega), fun _ => ⟨_, (hrs c i).1, zin_of (by omega) (by omega), ih c (i + 1) _ hc (by omega) (by omega) kz Q hQ⟩⟩
  have stC : ∀ (c : Nat) (hh : Int64), c < sK s → zM zm_X11_digestStep [zR 0, zL hh, zI (c : Int)] (d, G, E) (some (zL (fd (rs c) (4 * nw c + 1) 10 (fd (rs c) 7 0 hh)))) (d, G, E) := fun c hh hc => zM_go rfl (Nat.le_of_ble_eq_true rfl) (fun kz Q hQ => X11_digestStep_0 hX (st6 7 c 0 hh hc (by omega) (by omega) kz Q hQ))
  have li36 : ∀ (m : Nat) (c : Nat) (l i last sz : Int) (hh : Int64) (r : Int64), 0 ≤ i → i + m = last + 1 → last ≤ 1000 → 0 ≤ l → l ≤ 1000 → zgo zm_X11_digestLiterals 14 [(0, zR 0), (3, zI (c : Int)), (4, zL (fd (rl c l) m i hh)), (6, zI sz), (7, zI (l + 1))] [] (d, G, E) (some (zL r)) (d, G, E) → zgo zm_X11_digestLiterals 36 [(0, zR 0), (3, zI (c : Int)), (4, zL hh), (6, zI sz), (7, zI l), (8, zI last), (9, zI i)] [] (d, G, E) (some (zL r)) (d, G, E) := by
    intro m
    induction m with
    | zero => exact fun c l i last sz hh r h0 hm hl l0 l1 hz kz Q hQ => X11_digestLiterals_36 hX ⟨fun _ => ⟨zin_of (by omega) (by omega), hz kz Q hQ⟩, fun y => absurd (by omega) y⟩
    | succ m ih => exact fun c l i last sz hh r h0 hm hl l0 l1 hz kz Q hQ => X11_digestLiterals_36 hX ⟨fun y => absurd y (by omega), fun _ => ⟨_, (hrl c l i (by omega)).1, zin_of (by omega) (by omega), ih c l (i + 1) last sz _ r (by omega) (by omega) hl l0 l1 hz kz Q hQ⟩⟩
  have li14 : ∀ (m : Nat) (c l : Nat) (hh : Int64), c < sK s → l + m = (sR s c).length → zgo zm_X11_digestLiterals 14 [(0, zR 0), (3, zI (c : Int)), (4, zL hh), (6, zI ((sR s c).length : Int)), (7, zI (l : Int))] [] (d, G, E) (some (zL (fdl (rl c) (fun l => (lit (sR s c) l).2.length) m l hh))) (d, G, E) := by
    intro m
    induction m with
    | zero => exact fun c l hh hc hl kz Q hQ => X11_digestLiterals_14 hX ⟨fun _ => hQ, fun y => absurd (by omega) y⟩
    | succ m ih =>
      intro c l hh hc hl kz Q hQ
      have hlA : l < (sR s c).length := by omega
      have A6 := (hD.2.2 c hc).1.2.1
      have l30 := ((hD.2.2 c hc).1.2.2 l hlA).2.2.2.1
      have x1 := (hrl c l 1 (by decide)).2.2 c l rfl hc rfl hlA rfl
      have z := ih c (l + 1) (fd (rl c l) (2 + (lit (sR s c) l).2.length) 0 hh) hc (by omega)
      rw [show ((l + 1 : Nat) : Int) = (l : Int) + 1 by omega] at z
      refine X11_digestLiterals_14 hX ⟨fun y => absurd y (by omega), fun _ => ⟨_, (hrl c l 1 (by decide)).1, by rw [x1]; exact zin_of (by omega) (by omega), ?_⟩⟩
      rw [x1]
      exact li36 (2 + (lit (sR s c) l).2.length) c l 0 _ _ hh _ (by omega) (by omega) (by omega) (by omega) (by omega) z kz Q hQ
  have liC : ∀ (c : Nat) (hh : Int64), c < sK s → zM zm_X11_digestLiterals [zR 0, zL hh, zI (c : Int)] (d, G, E) (some (zL (fdl (rl c) (fun l => (lit (sR s c) l).2.length) (sR s c).length 0 hh))) (d, G, E) := fun c hh hc => by
    have x1 := (hrk c 0).2.2 c rfl hc rfl
    refine zM_go rfl (Nat.le_of_ble_eq_true rfl) (fun kz Q hQ => X11_digestLiterals_0 hX ⟨_, (hrk c 0).1, ?_⟩)
    rw [x1]
    exact li14 (sR s c).length c 0 hh hc (by omega) kz Q hQ
  have cl47 : ∀ (m : Nat) (c : Nat) (i : Int) (hh r : Int64), c < sK s → 0 ≤ i → i + m = 6 → zgo zm_X11_digest 33 [(0, zR 0), (1, zL (fd (rs c) (4 * nw c + 1) 10 (fd (rs c) 7 0 (fdl (rl c) (fun l => (lit (sR s c) l).2.length) (sR s c).length 0 (fd (rk c) m i hh))))), (3, zI ((c : Int) + 1))] [] (d, G, E) (some (zL r)) (d, G, E) → zgo zm_X11_digest 47 [(0, zR 0), (1, zL hh), (3, zI (c : Int)), (4, zI i)] [] (d, G, E) (some (zL r)) (d, G, E) := by
    intro m
    induction m with
    | zero => exact fun c i hh r hc h0 hm hz kz Q hQ => X11_digest_47 hX ⟨fun _ => ⟨_, liC c hh hc, _, stC c _ hc, zin_of (by omega) (by omega), hz kz Q hQ⟩, fun y => absurd (by omega) y⟩
    | succ m ih => exact fun c i hh r hc h0 hm hz kz Q hQ => X11_digest_47 hX ⟨fun y => absurd y (by omega), fun _ => ⟨_, (hrk c i).1, zin_of (by omega) (by omega), ih c (i + 1) _ r hc (by omega) (by omega) hz kz Q hQ⟩⟩
  have cl33 : ∀ (m : Nat) (c : Nat) (hh : Int64), c + m = sK s → zgo zm_X11_digest 33 [(0, zR 0), (1, zL hh), (3, zI (c : Int))] [] (d, G, E) (some (zL (fdz rk rl rs (sR s) nw m c hh))) (d, G, E) := by
    intro m
    induction m with
    | zero => exact fun c hh hc kz Q hQ => X11_digest_33 hX ⟨fun _ => hQ, fun y => absurd (by omega) y⟩
    | succ m ih =>
      intro c hh hc kz Q hQ
      have z := ih (c + 1) (fd (rs c) (4 * nw c + 1) 10 (fd (rs c) 7 0 (fdl (rl c) (fun l => (lit (sR s c) l).2.length) (sR s c).length 0 (fd (rk c) 6 0 hh)))) (by omega)
      rw [show ((c + 1 : Nat) : Int) = (c : Int) + 1 by omega] at z
      exact X11_digest_33 hX ⟨fun y => absurd y (by omega), fun _ => cl47 6 c 0 hh _ (by omega) (by omega) (by omega) z kz Q hQ⟩
  have cl6 : ∀ (m : Nat) (i : Int) (hh : Int64), 0 ≤ i → i + m = 12 → zgo zm_X11_digest 6 [(0, zR 0), (1, zL hh), (3, zI i)] [] (d, G, E) (some (zL (fdz rk rl rs (sR s) nw (sK s) 0 (fd rc m i hh)))) (d, G, E) := by
    intro m
    induction m with
    | zero => exact fun i hh h0 hm kz Q hQ => X11_digest_6 hX ⟨fun _ => cl33 (sK s) 0 hh (by omega) kz Q hQ, fun y => absurd (by omega) y⟩
    | succ m ih => exact fun i hh h0 hm kz Q hQ => X11_digest_6 hX ⟨fun y => absurd y (by omega), fun _ => ⟨_, (hrc i).1, zin_of (by omega) (by omega), ih (i + 1) _ (by omega) (by omega) kz Q hQ⟩⟩
  -- the reference
  have mr172 : ∀ (m : Nat) (c : Nat) (i : Int) (hh r : Int64), c < sK s → 0 ≤ i → i + m = 11 + 4 * (nw c : Int) → zgo zm_X12_digest 33 [(0, zR 50), (1, zL (fd (rs c) m i hh)), (3, zI ((c : Int) + 1))] [] (d, G, E) (some (zL r)) (d, G, E) → zgo zm_X12_digest 172 [(0, zR 50), (1, zL hh), (3, zI (c : Int)), (4, zI i)] [] (d, G, E) (some (zL r)) (d, G, E) := by
    intro m
    induction m with
    | zero =>
      intro c i hh r hc h0 hm hz kz Q hQ
      obtain ⟨y1, y2⟩ := hnw c hc
      refine X12_digest_172 hM ⟨⟨by omega, by omega⟩, ?_⟩
      rw [y1]
      exact ⟨zin_of (by omega) (by omega), zin_of (by omega) (by omega), fun _ => ⟨zin_of (by omega) (by omega), hz kz Q hQ⟩, fun y => absurd (by omega) y⟩
    | succ m ih =>
      intro c i hh r hc h0 hm hz kz Q hQ
      obtain ⟨y1, y2⟩ := hnw c hc
      refine X12_digest_172 hM ⟨⟨by omega, by omega⟩, ?_⟩
      rw [y1]
      exact ⟨zin_of (by omega) (by omega), zin_of (by omega) (by omega), fun y => absurd y (by omega), fun _ => ⟨_, (hrs c i).2.1, zin_of (by omega) (by omega), ih c (i + 1) _ r hc (by omega) (by omega) hz kz Q hQ⟩⟩
  have mr140 : ∀ (m : Nat) (c : Nat) (i : Int) (hh r : Int64), c < sK s → 0 ≤ i → i + m = 7 → zgo zm_X12_digest 33 [(0, zR 50), (1, zL (fd (rs c) (4 * nw c + 1) 10 (fd (rs c) m i hh))), (3, zI ((c : Int) + 1))] [] (d, G, E) (some (zL r)) (d, G, E) → zgo zm_X12_digest 140 [(0, zR 50), (1, zL hh), (3, zI (c : Int)), (4, zI i)] [] (d, G, E) (some (zL r)) (d, G, E) := by
    intro m
    induction m with
    | zero => exact fun c i hh r hc h0 hm hz kz Q hQ => X12_digest_140 hM ⟨fun _ => mr172 (4 * nw c + 1) c 10 hh r hc (by omega) (by omega) hz kz Q hQ, fun y => absurd (by omega) y⟩
    | succ m ih => exact fun c i hh r hc h0 hm hz kz Q hQ => X12_digest_140 hM ⟨fun y => absurd y (by omega), fun _ => ⟨_, (hrs c i).2.1, zin_of (by omega) (by omega), ih c (i + 1) _ r hc (by omega) (by omega) hz kz Q hQ⟩⟩
  have mr89 : ∀ (m : Nat) (c l : Nat) (i : Int) (hh r : Int64), c < sK s → l < (sR s c).length → 0 ≤ i → i + m = 2 + ((lit (sR s c) l).2.length : Int) → zgo zm_X12_digest 75 [(0, zR 50), (1, zL (fd (rl c l) m i hh)), (3, zI (c : Int)), (4, zI ((l : Int) + 1))] [] (d, G, E) (some (zL r)) (d, G, E) → zgo zm_X12_digest 89 [(0, zR 50), (1, zL hh), (3, zI (c : Int)), (4, zI (l : Int)), (5, zI i)] [] (d, G, E) (some (zL r)) (d, G, E) := by
    intro m
    induction m with
    | zero =>
      intro c l i hh r hc hl h0 hm hz kz Q hQ
      have A6 := (hD.2.2 c hc).1.2.1
      obtain ⟨z1, _, _, z4, _⟩ := (hD.2.2 c hc).1.2.2 l hl
      refine X12_digest_89 hM ⟨zin_of (by omega) (by omega), zin_of (by omega) (by omega), ⟨by omega, by omega⟩, ?_⟩
      rw [z1]
      exact ⟨zin_of (by omega) (by omega), fun _ => ⟨zin_of (by omega) (by omega), hz kz Q hQ⟩, fun y => absurd (by omega) y⟩
    | succ m ih =>
      intro c l i hh r hc hl h0 hm hz kz Q hQ
      have A6 := (hD.2.2 c hc).1.2.1
      obtain ⟨z1, _, _, z4, _⟩ := (hD.2.2 c hc).1.2.2 l hl
      refine X12_digest_89 hM ⟨zin_of (by omega) (by omega), zin_of (by omega) (by omega), ⟨by omega, by omega⟩, ?_⟩
      rw [z1]
      exact ⟨zin_of (by omega) (by omega), fun y => absurd y (by omega), fun _ => ⟨_, (hrl c l i (by omega)).2.1, zin_of (by omega) (by omega), ih c l (i + 1) _ r hc hl (by omega) (by omega) hz kz Q hQ⟩⟩
  have mr75 : ∀ (m : Nat) (c l : Nat) (hh r : Int64), c < sK s → l + m = (sR s c).length → zgo zm_X12_digest 33 [(0, zR 50), (1, zL (fd (rs c) (4 * nw c + 1) 10 (fd (rs c) 7 0 (fdl (rl c) (fun l => (lit (sR s c) l).2.length) m l hh)))), (3, zI ((c : Int) + 1))] [] (d, G, E) (some (zL r)) (d, G, E) → zgo zm_X12_digest 75 [(0, zR 50), (1, zL hh), (3, zI (c : Int)), (4, zI (l : Int))] [] (d, G, E) (some (zL r)) (d, G, E) := by
    intro m
    induction m with
    | zero =>
      intro c l hh r hc hl hz kz Q hQ
      have w1 := (hD.2.2 c hc).1.1
      exact X12_digest_75 hM ⟨⟨by omega, by omega⟩, fun _ => mr140 7 c 0 hh r hc (by omega) (by omega) hz kz Q hQ, fun y => absurd (by omega) y⟩
    | succ m ih =>
      intro c l hh r hc hl hz kz Q hQ
      have w1 := (hD.2.2 c hc).1.1
      have z := ih c (l + 1) (fd (rl c l) (2 + (lit (sR s c) l).2.length) 0 hh) r hc (by omega) hz
      rw [show ((l + 1 : Nat) : Int) = (l : Int) + 1 by omega] at z
      exact X12_digest_75 hM ⟨⟨by omega, by omega⟩, fun y => absurd y (by omega), fun _ => mr89 (2 + (lit (sR s c) l).2.length) c l 0 hh r hc (by omega) (by omega) (by omega) z kz Q hQ⟩
  have mr44 : ∀ (m : Nat) (c : Nat) (i : Int) (hh r : Int64), c < sK s → 0 ≤ i → i + m = 6 → zgo zm_X12_digest 33 [(0, zR 50), (1, zL (fd (rs c) (4 * nw c + 1) 10 (fd (rs c) 7 0 (fdl (rl c) (fun l => (lit (sR s c) l).2.length) (sR s c).length 0 (fd (rk c) m i hh))))), (3, zI ((c : Int) + 1))] [] (d, G, E) (some (zL r)) (d, G, E) → zgo zm_X12_digest 44 [(0, zR 50), (1, zL hh), (3, zI (c : Int)), (4, zI i)] [] (d, G, E) (some (zL r)) (d, G, E) := by
    intro m
    induction m with
    | zero => exact fun c i hh r hc h0 hm hz kz Q hQ => X12_digest_44 hM ⟨fun _ => mr75 (sR s c).length c 0 hh r hc (by omega) hz kz Q hQ, fun y => absurd (by omega) y⟩
    | succ m ih => exact fun c i hh r hc h0 hm hz kz Q hQ => X12_digest_44 hM ⟨fun y => absurd y (by omega), fun _ => ⟨_, (hrk c i).2.1, zin_of (by omega) (by omega), ih c (i + 1) _ r hc (by omega) (by omega) hz kz Q hQ⟩⟩
  have mr33 : ∀ (m : Nat) (c : Nat) (hh : Int64), c + m = sK s → zgo zm_X12_digest 33 [(0, zR 50), (1, zL hh), (3, zI (c : Int))] [] (d, G, E) (some (zL (fdz rk rl rs (sR s) nw m c hh))) (d, G, E) := by
    intro m
    induction m with
    | zero => exact fun c hh hc kz Q hQ => X12_digest_33 hM ⟨fun _ => hQ, fun y => absurd (by omega) y⟩
    | succ m ih =>
      intro c hh hc kz Q hQ
      have z := ih (c + 1) (fd (rs c) (4 * nw c + 1) 10 (fd (rs c) 7 0 (fdl (rl c) (fun l => (lit (sR s c) l).2.length) (sR s c).length 0 (fd (rk c) 6 0 hh)))) (by omega)
      rw [show ((c + 1 : Nat) : Int) = (c : Int) + 1 by omega] at z
      exact X12_digest_33 hM ⟨fun y => absurd y (by omega), fun _ => mr44 6 c 0 hh _ (by omega) (by omega) (by omega) z kz Q hQ⟩
  have mr6 : ∀ (m : Nat) (i : Int) (hh : Int64), 0 ≤ i → i + m = 12 → zgo zm_X12_digest 6 [(0, zR 50), (1, zL hh), (3, zI i)] [] (d, G, E) (some (zL (fdz rk rl rs (sR s) nw (sK s) 0 (fd rc m i hh)))) (d, G, E) := by
    intro m
    induction m with
    | zero => exact fun i hh h0 hm kz Q hQ => X12_digest_6 hM ⟨fun _ => mr33 (sK s) 0 hh (by omega) kz Q hQ, fun y => absurd (by omega) y⟩
    | succ m ih => exact fun i hh h0 hm kz Q hQ => X12_digest_6 hM ⟨fun y => absurd y (by omega), fun _ => ⟨_, (hrc i).2, zin_of (by omega) (by omega), ih (i + 1) _ (by omega) (by omega) kz Q hQ⟩⟩
  exact ⟨_, zM_go rfl (Nat.le_of_ble_eq_true rfl) (fun kz Q hQ => X11_digest_0 hX (cl6 12 0 17 (by omega) (by omega) kz Q hQ)), zM_go rfl (Nat.le_of_ble_eq_true rfl) (fun kz Q hQ => X12_digest_0 hM (mr6 12 0 17 (by omega) (by omega) kz Q hQ))⟩
end TH
