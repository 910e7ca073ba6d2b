/-! ===== matching and taking in: the reference ===== -/
/-- bindings as the reference has them: places in f, below N -/
def bdR (a s f : Int → Int) (N : Int) (b : zBd) : Prop := (∀ L : Int, 0 ≤ L → L < 20 → lkp b L = none → a L = -1) ∧ ∀ (L : Int) (u : List Int), 0 ≤ L → L < 20 → lkp b L = some u → 0 ≤ a L ∧ s L = u.length ∧ a L + u.length ≤ N ∧ lk f (a L) (fw u) 0 u.length
theorem bdR_congr {a s a' s' f : Int → Int} {N : Int} {b : zBd} (h : bdR a s f N b) (h1 : ∀ L : Int, 0 ≤ L → L < 20 → a' L = a L) (h2 : ∀ L : Int, 0 ≤ L → L < 20 → s' L = s L) : bdR a' s' f N b :=
  ⟨fun L l1 l2 hL => by rw [h1 L l1 l2]; exact h.1 L l1 l2 hL, fun L u l1 l2 hL => by rw [h1 L l1 l2, h2 L l1 l2]; exact h.2 L u l1 l2 hL⟩
theorem bdR_put {a s a' s' f : Int → Int} {N M y : Int} {b : zBd} {u : List Int} (h : bdR a s f N b) (hM : lkp b M = none) (h1 : ∀ L : Int, L ≠ M → a' L = a L) (h2 : ∀ L : Int, L ≠ M → s' L = s L) (h3 : a' M = y) (h4 : s' M = u.length) (hy : 0 ≤ y) (hyN : y + u.length ≤ N) (hk : lk f y (fw u) 0 u.length) : bdR a' s' f N (b ++ [(M, u)]) := by
  refine ⟨fun L l1 l2 hL => ?_, fun L x l1 l2 hL => ?_⟩
  · have c1 : lkp b L = none := by
      cases hq : lkp b L with
      | none => rfl
      | some z => rw [lkp_l hq] at hL; exact absurd hL (by simp)
    rw [lkp_r c1] at hL
    have ne : M ≠ L := fun e => by simp [lkp, e] at hL
    rw [h1 L (fun e => ne e.symm)]
    exact h.1 L l1 l2 c1
  · cases hq : lkp b L with
    | none =>
      rw [lkp_r hq] at hL
      have e : M = L ∧ u = x := by
        simp only [lkp] at hL
        by_cases c : M = L
        · rw [if_pos c] at hL; exact ⟨c, by simpa using hL⟩
        · rw [if_neg c] at hL; exact absurd hL (by simp)
      obtain ⟨e1, e2⟩ := e
      subst e1
      subst e2
      rw [h3, h4]
      exact ⟨hy, rfl, hyN, hk⟩
    | some z =>
      rw [lkp_l hq] at hL
      have e : z = x := by simpa using hL
      subst e
      have ne : L ≠ M := fun e => by rw [e, hM] at hq; exact absurd hq (by simp)
      rw [h1 L ne, h2 L ne]
      exact h.2 L z l1 l2 hq
section PZ
variable {d : List Nat} {G : Nat → Int → Option Nat} {E : Nat → Int → Int}
theorem unbind_ok (hM : zK zMt d G) : ∃ E' : Nat → Int → Int, zM zm_X12_unbind [zR 50] (d, G, E) none (d, G, E') ∧ fz [80] E E' ∧ ∀ L : Int, 0 ≤ L → L < 20 → E' 80 L = -1 := by
  have loop : ∀ (m k : Nat) (F : Nat → Int → Int), k + m = 20 → fz [80] E F → (∀ L : Int, 0 ≤ L → L < k → F 80 L = -1) → ∃ E' : Nat → Int → Int, zgo zm_X12_unbind 2 [(0, zR 50), (1, zI (k : Int))] [] (d, G, F) none (d, G, E') ∧ fz [80] E E' ∧ ∀ L : Int, 0 ≤ L → L < 20 → E' 80 L = -1 := by
    intro m
    induction m with
    | zero => exact fun k F hk hf hv => ⟨F, fun kz Q hQ => X12_unbind_2 hM ⟨fun _ => hQ, fun c => absurd (by omega) c⟩, hf, fun L l1 l2 => hv L l1 (by omega)⟩
    | succ m ih =>
      intro k F hk hf hv
      obtain ⟨E', z, zr⟩ := ih (k + 1) (zuE F 80 k (-1)) (by omega) (fz_put hf (by simp)) (fun L l1 l2 => by
        rcases (by omega : L = (k : Int) ∨ L ≠ (k : Int)) with e | e
        · subst e; exact zuE_same
        · rw [zuE_ix e]; exact hv L l1 (by omega))
      have ek : ((k + 1 : Nat) : Int) = (k : Int) + 1 := by omega
      rw [ek] at z
      exact ⟨E', fun kz Q hQ => X12_unbind_2 hM ⟨fun c => absurd c (by omega), fun _ => ⟨⟨by omega, by omega⟩, fun H h => ⟨zin_of (by omega) (by omega), by rw [h]; exact z kz Q hQ⟩⟩⟩, zr⟩
  obtain ⟨E', z, zr⟩ := loop 20 0 E (by omega) fz_rfl (fun L l1 l2 => by omega)
  exact ⟨E', zM_go rfl (Nat.le_of_ble_eq_true rfl) (fun kz Q hQ => X12_unbind_0 hM (z kz Q hQ)), zr⟩
theorem save_ok {v : Nat} (hM : zK zMt d G) (hv : v < 7) : ∃ E' : Nat → Int → Int, zM zm_X12_save [zR 50, zI (v : Int)] (d, G, E) none (d, G, E') ∧ fz [83, 84] E E' ∧ (∀ L : Int, 0 ≤ L → L < 20 → E' 83 (20 * (v : Int) + L) = E 80 L ∧ E' 84 (20 * (v : Int) + L) = E 81 L) ∧ ∀ i : Int, i < 20 * (v : Int) → E' 83 i = E 83 i ∧ E' 84 i = E 84 i := by
  have loop : ∀ (m k : Nat) (F : Nat → Int → Int), k + m = 20 → fz [83, 84] E F → (∀ L : Int, 0 ≤ L → L < k → F 83 (20 * (v : Int) + L) = E 80 L ∧ F 84 (20 * (v : Int) + L) = E 81 L) → (∀ i : Int, i < 20 * (v : Int) → F 83 i = E 83 i ∧ F 84 i = E 84 i) → ∃ E' : Nat → Int → Int, zgo zm_X12_save 2 [(0, zR 50), (1, zI (v : Int)), (2, zI (k : Int))] [] (d, G, F) none (d, G, E') ∧ fz [83, 84] E E' ∧ (∀ L : Int, 0 ≤ L → L < 20 → E' 83 (20 * (v : Int) + L) = E 80 L ∧ E' 84 (20 * (v : Int) + L) = E 81 L) ∧ ∀ i : Int, i < 20 * (v : Int) → E' 83 i = E 83 i ∧ E' 84 i = E 84 i := by
    intro m
    induction m with
    | zero => exact fun k F hk hf h1 h2 => ⟨F, fun kz Q hQ => X12_save_2 hM ⟨fun _ => hQ, fun c => absurd (by omega) c⟩, hf, fun L l1 l2 => h1 L l1 (by omega), h2⟩
    | succ m ih =>
      intro k F hk hf h1 h2
      have f80 : F 80 = E 80 := hf 80 (by simp)
      have f81 : F 81 = E 81 := hf 81 (by simp)
      obtain ⟨E', z, zr⟩ := ih (k + 1) (zuE (zuE F 83 (20 * (v : Int) + k) (E 80 k)) 84 (20 * (v : Int) + k) (E 81 k)) (by omega) (fz_put (fz_put hf (by simp)) (by simp)) (fun L l1 l2 => by
        rcases (by omega : L = (k : Int) ∨ L ≠ (k : Int)) with e | e
        · subst e; exact ⟨(zuE_ne (by decide) _).trans zuE_same, zuE_same⟩
        · refine ⟨(zuE_ne (by decide) _).trans ((zuE_ix (by omega)).trans (h1 L l1 (by omega)).1), (zuE_ix (by omega)).trans ((zuE_ne (by decide) _).trans (h1 L l1 (by omega)).2)⟩) (fun i hi => ⟨(zuE_ne (by decide) _).trans ((zuE_ix (by omega)).trans (h2 i hi).1), (zuE_ix (by omega)).trans ((zuE_ne (by decide) _).trans (h2 i hi).2)⟩)
      have ek : ((k + 1 : Nat) : Int) = (k : Int) + 1 := by omega
      rw [ek] at z
      refine ⟨E', fun kz Q hQ => X12_save_2 hM ⟨fun c => absurd c (by omega), fun _ => ⟨zin_of (by omega) (by omega), zin_of (by omega) (by omega), ⟨by omega, by omega⟩, ⟨by omega, by omega⟩, fun H h => ⟨zin_of (by omega) (by omega), zin_of (by omega) (by omega), ⟨by omega, by omega⟩, ⟨by omega, by omega⟩, fun H2 h2' => ⟨zin_of (by omega) (by omega), ?_⟩⟩⟩⟩, zr⟩
      have e81 : H 81 = E 81 := by rw [h]; exact (zuE_nf (by decide)).trans f81
      rw [h2', e81, h, f80]; exact z kz Q hQ
  obtain ⟨E', z, zr⟩ := loop 20 0 E (by omega) fz_rfl (fun L l1 l2 => by omega) (fun i _ => ⟨rfl, rfl⟩)
  exact ⟨E', zM_go rfl (Nat.le_of_ble_eq_true rfl) (fun kz Q hQ => X12_save_0 hM (z kz Q hQ)), zr⟩
theorem restore_ok {v : Nat} (hM : zK zMt d G) (hv : v < 7) : ∃ E' : Nat → Int → Int, zM zm_X12_restore [zR 50, zI (v : Int)] (d, G, E) none (d, G, E') ∧ fz [80, 81] E E' ∧ ∀ L : Int, 0 ≤ L → L < 20 → E' 80 L = E 83 (20 * (v : Int) + L) ∧ E' 81 L = E 84 (20 * (v : Int) + L) := by
  have loop : ∀ (m k : Nat) (F : Nat → Int → Int), k + m = 20 → fz [80, 81] E F → (∀ L : Int, 0 ≤ L → L < k → F 80 L = E 83 (20 * (v : Int) + L) ∧ F 81 L = E 84 (20 * (v : Int) + L)) → ∃ E' : Nat → Int → Int, zgo zm_X12_restore 2 [(0, zR 50), (1, zI (v : Int)), (2, zI (k : Int))] [] (d, G, F) none (d, G, E') ∧ fz [80, 81] E E' ∧ ∀ L : Int, 0 ≤ L → L < 20 → E' 80 L = E 83 (20 * (v : Int) + L) ∧ E' 81 L = E 84 (20 * (v : Int) + L) := by
    intro m
    induction m with
    | zero => exact fun k F hk hf h1 => ⟨F, fun kz Q hQ => X12_restore_2 hM ⟨fun _ => hQ, fun c => absurd (by omega) c⟩, hf, fun L l1 l2 => h1 L l1 (by omega)⟩
    | succ m ih =>
      intro k F hk hf h1
      have f83 : F 83 = E 83 := hf 83 (by simp)
      have f84 : F 84 = E 84 := hf 84 (by simp)
      obtain ⟨E', z, zr⟩ := ih (k + 1) (zuE (zuE F 80 k (E 83 (20 * (v : Int) + k))) 81 k (E 84 (20 * (v : Int) + k))) (by omega) (fz_put (fz_put hf (by simp)) (by simp)) (fun L l1 l2 => by
        rcases (by omega : L = (k : Int) ∨ L ≠ (k : Int)) with e | e
        · subst e; exact ⟨(zuE_ne (by decide) _).trans zuE_same, zuE_same⟩
        · refine ⟨(zuE_ne (by decide) _).trans ((zuE_ix (by omega)).trans (h1 L l1 (by omega)).1), (zuE_ix (by omega)).trans ((zuE_ne (by decide) _).trans (h1 L l1 (by omega)).2)⟩)
      have ek : ((k + 1 : Nat) : Int) = (k : Int) + 1 := by omega
      rw [ek] at z
      refine ⟨E', fun kz Q hQ => X12_restore_2 hM ⟨fun c => absurd c (by omega), fun _ => ⟨zin_of (by omega) (by omega), zin_of (by omega) (by omega), ⟨by omega, by omega⟩, ⟨by omega, by omega⟩, fun H h => ⟨zin_of (by omega) (by omega), zin_of (by omega) (by omega), ⟨by omega, by omega⟩, ⟨by omega, by omega⟩, fun H2 h2' => ⟨zin_of (by omega) (by omega), ?_⟩⟩⟩⟩, zr⟩
      have e84 : H 84 = E 84 := by rw [h]; exact (zuE_nf (by decide)).trans f84
      rw [h2', e84, h, f83]; exact z kz Q hQ
  obtain ⟨E', z, zr⟩ := loop 20 0 E (by omega) fz_rfl (fun L l1 l2 => by omega)
  exact ⟨E', zM_go rfl (Nat.le_of_ble_eq_true rfl) (fun kz Q hQ => X12_restore_0 hM (z kz Q hQ)), zr⟩
theorem goesOnMatching_go {a1 n1 T nT : Nat} {s0 : Int} (hM : zK zMt d G) (ha1 : a1 ∈ d) (hk1 : zkd a1 = (0, n1)) (hT : T ∈ d) (hkT : zkd T = (0, nT)) (hn1 : n1 ≤ 100000) (hnT : nT ≤ 100000) (ha1n : a1 ≠ 80 ∧ a1 ≠ 81) (hTn : T ≠ 80 ∧ T ≠ 81) (hP : pok (E 53)) : ∀ (p w : List Int) (q : Nat) (v7 v6 : Int) (b : zBd) (F : Nat → Int → Int), ts (E 53) (fw p) 0 q p.length → ts (E 53) (fw w) 0 q w.length → (∀ v, v ∈ p → -20 ≤ v) → lk (E a1) v7 (fw p) 0 p.length → lk (E T) v6 (fw w) 0 w.length → 0 ≤ v7 → v7 + p.length ≤ n1 → s0 = v7 + p.length → 0 ≤ v6 → v6 + w.length ≤ nT → bdR (F 80) (F 81) (E T) nT b → fz [80, 81] E F →
    ∃ (x : Int) (E' : Nat → Int → Int), zgo zm_X12_goesOnMatching 7 [(0, zR 50), (1, zR a1), (3, zI s0), (4, zR T), (6, zI v6), (7, zI v7)] [] (d, G, F) (some (zI x)) (d, G, E') ∧ fz [80, 81] E E' ∧ ((x = 1 ∧ ∃ b', mt (E 53) p b w = some b' ∧ bdR (E' 80) (E' 81) (E T) nT b') ∨ x = 0 ∧ mt (E 53) p b w = none) := by
  intro p
  induction p with
  | nil =>
    intro w q v7 v6 b F hp hw _ _ _ _ _ hs _ _ hb hf
    exact ⟨1, F, fun kz Q hQ => X12_goesOnMatching_7 hM ha1 hk1 hT hkT ⟨fun _ => hQ, fun c => absurd (by simp at hs; omega) c⟩, hf, Or.inl ⟨rfl, b, rfl, hb⟩⟩
  | cons v p ih =>
    intro w q v7 v6 b F hp hw hlo l5 l6 h5 h5n hs h6 h6n hb hf
    rw [List.length_cons] at h5n hs
    have q1 : q ≠ 0 := fun e => by have := (ts_pos hp).1 e; simp at this
    obtain ⟨q', rfl⟩ : ∃ q', q = q' + 1 := ⟨q - 1, by omega⟩
    have w0 : w ≠ [] := fun e => by subst e; have := (ts_pos hw).2 rfl; omega
    have wl0 : 0 < w.length := List.length_pos_iff.2 w0
    have v16 := tsw_lt hp
    have vlo := hlo v List.mem_cons_self
    have F1 : F a1 = E a1 := hf a1 (by simp; omega)
    have FT : F T = E T := hf T (by simp; omega)
    have F3 : F 53 = E 53 := hf 53 (by simp)
    have rv : E a1 v7 = v := by
      have := l5 0 (by simp)
      simpa [fw_c0] using this
    have rw0 : E T v6 = fw w 0 := by
      have := l6 0 wl0
      simpa using this
    have l5' : lk (E a1) (v7 + 1) (fw p) 0 p.length := fun k hk => by
      have := l5 (k + 1) (by simp; omega)
      have e1 : v7 + ((k + 1 : Nat) : Int) = v7 + 1 + k := by omega
      rw [e1, fw_cs (k := k) (by omega)] at this
      rw [this]; congr 1; omega
    have hlo' : ∀ x, x ∈ p → -20 ≤ x := fun x hx => hlo x (List.mem_cons_of_mem _ hx)
    by_cases hv : 0 ≤ v
    · by_cases he : fw w 0 = v
      · have hp' := tsw_sgn hP hp hv
        obtain ⟨c0, w', rfl⟩ := List.exists_cons_of_ne_nil w0
        rw [fw_c0] at he
        subst he
        have hw' := tsw_sgn hP hw hv
        have l6' : lk (E T) (v6 + 1) (fw w') 0 w'.length := fun k hk => by
          have := l6 (k + 1) (by simp; omega)
          have e1 : v6 + ((k + 1 : Nat) : Int) = v6 + 1 + k := by omega
          rw [e1, fw_cs (k := k) (by omega)] at this
          rw [this]; congr 1; omega
        rw [List.length_cons] at h6n
        obtain ⟨x, E', go, r1, r2⟩ := ih w' _ (v7 + 1) (v6 + 1) b F hp' hw' hlo' l5' l6' (by omega) (by omega) (by omega) (by omega) (by omega) hb hf
        refine ⟨x, E', fun kz Q hQ => X12_goesOnMatching_7 hM ha1 hk1 hT hkT ?_, r1, ?_⟩
        · rw [F1, FT, rv, rw0, fw_c0]
          exact ⟨fun z => absurd z (by omega), fun _ => ⟨⟨by omega, by omega⟩, fun z => absurd z (by omega), fun _ => ⟨⟨by omega, by omega⟩, ⟨by omega, by omega⟩, fun _ => ⟨zin_of (by omega) (by omega), zin_of (by omega) (by omega), go kz Q hQ⟩, fun z => absurd rfl z⟩⟩⟩
        · have em : mt (E 53) (c0 :: p) b (c0 :: w') = mt (E 53) p b w' := by
            simp only [mt]
            rw [if_pos hv, fw_c0, if_pos rfl]; rfl
          rw [em]; exact r2
      · refine ⟨0, F, fun kz Q hQ => X12_goesOnMatching_7 hM ha1 hk1 hT hkT ?_, hf, Or.inr ⟨rfl, ?_⟩⟩
        · rw [F1, FT, rv, rw0]
          exact ⟨fun z => absurd z (by omega), fun _ => ⟨⟨by omega, by omega⟩, fun z => absurd z (by omega), fun _ => ⟨⟨by omega, by omega⟩, ⟨by omega, by omega⟩, fun z => absurd z.symm he, fun _ => hQ⟩⟩⟩
        · simp only [mt]; rw [if_pos hv, if_neg he]
    · have hp' := tsw_let hp (by omega)
      obtain ⟨n, n0, nl, ntl, ntm, hw'⟩ := tsw_trm hP hw
      have tT : tm (E 53) (E T) v6 n := tm_congr ntm (fun k hk => by rw [l6 k (by omega)])
      have m1 := endOf_ok (E := F) (a := T) (n := nT) (i := v6) (t := n) hM hT hkT (by rw [F3]; exact hP) (by rw [F3, FT]; exact tT) (by omega) (by omega) (by omega)
      have l6' : lk (E T) (v6 + n) (fw (w.drop n)) 0 (w.drop n).length := fun k hk => by
        rw [List.length_drop] at hk
        have := l6 (n + k) (by omega)
        have e1 : v6 + ((n + k : Nat) : Int) = v6 + n + k := by omega
        have e2 : (0 : Int) + ((n + k : Nat) : Int) = n + k := by omega
        rw [e1, e2] at this
        rw [this, fw_dr (k := k) (by omega)]
      have dl : ((w.drop n).length : Int) = w.length - n := by rw [List.length_drop]; omega
      have ltk : (w.take n).length = n := by rw [List.length_take]; omega
      have ed : v6 + n - v6 = ((n : Nat) : Int) := by omega
      have htk : lk (E T) v6 (fw (w.take n)) 0 (w.take n).length := fun k hk => by
        rw [ltk] at hk
        rw [l6 k (by omega), fw_0, ← fw_nat, fw_tk (k := k) (by omega) hk]
      cases hL : lkp b (-1 - v) with
      | none =>
        have r80 := hb.1 (-1 - v) (by omega) (by omega) hL
        let F2 := zuE F 80 (-1 - v) v6
        let F4 := zuE F2 81 (-1 - v) ((n : Nat) : Int)
        have hb2 : bdR (F4 80) (F4 81) (E T) nT (b ++ [(-1 - v, w.take n)]) := by
          refine bdR_put hb hL (fun L ne => (zuE_ne (by decide) _).trans (zuE_ix ne)) (fun L ne => (zuE_ix ne).trans (zuE_ne (by decide) _)) ((zuE_ne (by decide) _).trans zuE_same) ?_ h6 (by rw [ltk]; omega) htk
          rw [ltk]; exact zuE_same
        obtain ⟨x, E', go, r1, r2⟩ := ih (w.drop n) q' (v7 + 1) (v6 + n) _ F4 hp' hw' hlo' l5' l6' (by omega) (by omega) (by omega) (by omega) (by omega) hb2 (fz_put (fz_put hf (by simp)) (by simp))
        refine ⟨x, E', fun kz Q hQ => X12_goesOnMatching_7 hM ha1 hk1 hT hkT ?_, r1, ?_⟩
        · rw [F1, rv, r80]
          refine ⟨fun z => absurd z (by omega), fun _ => ⟨⟨by omega, by omega⟩, fun _ => ⟨⟨by omega, by omega⟩, zin_of (by omega) (by omega), _, m1, zin_of (by omega) (by omega), ⟨by omega, by omega⟩, fun z => absurd rfl z, fun _ => ?_⟩, fun z => absurd (by omega) z⟩⟩
          rw [ed]
          exact ⟨⟨by omega, by omega⟩, fun H1 h1 => ⟨⟨by omega, by omega⟩, fun H2 h2 => ⟨zin_of (by omega) (by omega), zin_of (by omega) (by omega), by rw [h2, h1]; exact go kz Q hQ⟩⟩⟩
        · have em : mt (E 53) (v :: p) b w = mt (E 53) p (b ++ [(-1 - v, w.take n)]) (w.drop n) := by
            simp only [mt]
            rw [if_neg hv, hL, ntl]
          rw [em]; exact r2
      | some u =>
        obtain ⟨s0', s1, s2, s3⟩ := hb.2 (-1 - v) u (by omega) (by omega) hL
        have ne : F 80 (-1 - v) ≠ -1 := by omega
        have em : mt (E 53) (v :: p) b w = if u = w.take n then mt (E 53) p b (w.drop n) else none := by
          simp only [mt]
          rw [if_neg hv, hL]
          dsimp only
          rw [ntl]
        by_cases hlen : u.length = n
        · obtain ⟨z, mz, hz⟩ := isLike_ok (E := F) (a := T) (b := T) (i := F 80 (-1 - v)) (j := v6) (t := n) hM hT hkT hT hkT s0' (by omega) (by omega) (by omega) (by omega) (by omega)
          rw [FT] at hz
          have lw := lk_word (v := u) (w := w.take n) (by rw [ltk]; exact hlen) s3 htk
          rw [hlen] at lw
          rw [lw] at hz
          rcases hz with ⟨z1, z2⟩ | ⟨z1, z2⟩
          · subst z1
            obtain ⟨x, E', go, r1, r2⟩ := ih (w.drop n) q' (v7 + 1) (v6 + n) b F hp' hw' hlo' l5' l6' (by omega) (by omega) (by omega) (by omega) (by omega) hb hf
            refine ⟨x, E', fun kz Q hQ => X12_goesOnMatching_7 hM ha1 hk1 hT hkT ?_, r1, by rw [em, if_pos z2]; exact r2⟩
            rw [F1, rv, s1]
            refine ⟨fun z => absurd z (by omega), fun _ => ⟨⟨by omega, by omega⟩, fun _ => ⟨⟨by omega, by omega⟩, zin_of (by omega) (by omega), _, m1, zin_of (by omega) (by omega), ⟨by omega, by omega⟩, fun _ => ?_, fun z => absurd ne z⟩, fun z => absurd (by omega) z⟩⟩
            rw [ed]
            exact ⟨⟨by omega, by omega⟩, fun z => absurd (by omega) z, fun _ => ⟨⟨by omega, by omega⟩, 1, mz, fun _ => ⟨zin_of (by omega) (by omega), zin_of (by omega) (by omega), go kz Q hQ⟩, fun z => absurd (by decide) z⟩⟩
          · subst z1
            refine ⟨0, F, fun kz Q hQ => X12_goesOnMatching_7 hM ha1 hk1 hT hkT ?_, hf, Or.inr ⟨rfl, by rw [em, if_neg z2]⟩⟩
            rw [F1, rv, s1]
            refine ⟨fun z => absurd z (by omega), fun _ => ⟨⟨by omega, by omega⟩, fun _ => ⟨⟨by omega, by omega⟩, zin_of (by omega) (by omega), _, m1, zin_of (by omega) (by omega), ⟨by omega, by omega⟩, fun _ => ?_, fun z => absurd ne z⟩, fun z => absurd (by omega) z⟩⟩
            rw [ed]
            exact ⟨⟨by omega, by omega⟩, fun z => absurd (by omega) z, fun _ => ⟨⟨by omega, by omega⟩, 0, mz, fun z => absurd rfl z, fun _ => hQ⟩⟩
        · have z2 : u ≠ w.take n := fun e => hlen (by rw [e]; exact ltk)
          refine ⟨0, F, fun kz Q hQ => X12_goesOnMatching_7 hM ha1 hk1 hT hkT ?_, hf, Or.inr ⟨rfl, by rw [em, if_neg z2]⟩⟩
          rw [F1, rv, s1]
          refine ⟨fun z => absurd z (by omega), fun _ => ⟨⟨by omega, by omega⟩, fun _ => ⟨⟨by omega, by omega⟩, zin_of (by omega) (by omega), _, m1, zin_of (by omega) (by omega), ⟨by omega, by omega⟩, fun _ => ?_, fun z => absurd ne z⟩, fun z => absurd (by omega) z⟩⟩
          rw [ed]
          exact ⟨⟨by omega, by omega⟩, fun _ => hQ, fun z => absurd (by omega) z⟩
theorem goesOnMatching_ok {a1 n1 T nT : Nat} {p w : List Int} {s y : Int} {b : zBd} (hM : zK zMt d G) (ha1 : a1 ∈ d) (hk1 : zkd a1 = (0, n1)) (hT : T ∈ d) (hkT : zkd T = (0, nT)) (hn1 : n1 ≤ 100000) (hnT : nT ≤ 100000) (ha1n : a1 ≠ 80 ∧ a1 ≠ 81) (hTn : T ≠ 80 ∧ T ≠ 81) (hP : pok (E 53)) (hp : tm (E 53) (fw p) 0 p.length) (hw : tm (E 53) (fw w) 0 w.length) (hlo : ∀ v, v ∈ p → -20 ≤ v) (l5 : lk (E a1) s (fw p) 0 p.length) (l6 : lk (E T) y (fw w) 0 w.length) (h5 : 0 ≤ s) (h5n : s + p.length ≤ n1) (h6 : 0 ≤ y) (h6n : y + w.length ≤ nT) (hb : bdR (E 80) (E 81) (E T) nT b) :
    ∃ (x : Int) (E' : Nat → Int → Int), zM zm_X12_goesOnMatching [zR 50, zR a1, zI s, zI (s + p.length), zR T, zI y] (d, G, E) (some (zI x)) (d, G, E') ∧ fz [80, 81] E E' ∧ ((x = 1 ∧ ∃ b', mt (E 53) p b w = some b' ∧ bdR (E' 80) (E' 81) (E T) nT b') ∨ x = 0 ∧ mt (E 53) p b w = none) := by
  obtain ⟨x, E', go, r⟩ := goesOnMatching_go (E := E) hM ha1 hk1 hT hkT hn1 hnT ha1n hTn hP p w 1 s y b E (ts_1.2 hp) (ts_1.2 hw) hlo l5 l6 h5 h5n rfl h6 h6n hb fz_rfl
  exact ⟨x, E', zM_go rfl (Nat.le_of_ble_eq_true rfl) (fun kz Q hQ => X12_goesOnMatching_0 hM ha1 hk1 hT hkT (go kz Q hQ)), r⟩
end PZ
