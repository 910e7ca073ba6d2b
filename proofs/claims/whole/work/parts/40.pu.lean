/-! ===== cleaning: the reference ===== -/
section PU
variable {d : List Nat} {G : Nat → Int → Option Nat} {E : Nat → Int → Int}
theorem exchange_ok {l : Nat} {x : zLt} {t u : Nat} (hM : zK zMt d G) (hl : l < 6) (hx : wl E l x) (hP : pok (E 53)) (h2 : E 53 0 = 2) (hw : wok1 (E 53) x.2) (h0 : fw x.2 0 = 0) (ht : tm (E 53) (fw x.2) 1 t) (htu : 1 + t + u = x.2.length) (hu0 : 0 < u) :
    ∃ E' : Nat → Int → Int, zM zm_X12_exchange [zR 50, zI (l : Int)] (d, G, E) none (d, G, E') ∧ wl E' l (x.1, swp x.2 t) ∧ fz [72, 77] E E' ∧ ∀ i : Int, i < 30 * (l : Int) ∨ 30 * (l : Int) + x.2.length ≤ i → E' 72 i = E 72 i := by
  obtain ⟨sz, dn, dn2, l30, hk⟩ := hx
  have tp := nd_ge ht
  have ht' : tm (E 53) (E 72) (30 * (l : Int) + 1) t := tm_congr ht (fun k hk' => by
    have := hk (1 + k) (by omega)
    rw [fw_c (n := 1 + k) (by omega), ← fw_0, ← this]
    congr 1; omega)
  have m1 := endOf_ok (E := E) (a := 72) (n := 180) hM (zM_21 hM).2.2 rfl hP ht' (by omega) (by omega) (by omega)
  have pl : ∀ k : Nat, k < x.2.length → E 72 (30 * (l : Int) + k) = x.2.getD k 0 := fun k hk' => by rw [hk k hk', fw_0]
  have loop2 : ∀ (m k : Nat) (F : Nat → Int → Int), k + m = t + u → fz [72, 77] E F → (∀ j : Nat, j < t + u → F 77 j = (swp x.2 t).getD (1 + j) 0) → (∀ j : Nat, j < k → F 72 (30 * (l : Int) + 1 + j) = (swp x.2 t).getD (1 + j) 0) → (∀ i : Int, i < 30 * (l : Int) + 1 ∨ 30 * (l : Int) + x.2.length ≤ i → F 72 i = E 72 i) →
      ∃ E' : Nat → Int → Int, zgo zm_X12_exchange 80 [(0, zR 50), (2, zI (30 * (l : Int) + 1)), (4, zI (30 * (l : Int) + x.2.length)), (6, zI (k : Int))] [] (d, G, F) none (d, G, E') ∧ fz [72, 77] E E' ∧ (∀ j : Nat, j < t + u → E' 72 (30 * (l : Int) + 1 + j) = (swp x.2 t).getD (1 + j) 0) ∧ (∀ i : Int, i < 30 * (l : Int) + 1 ∨ 30 * (l : Int) + x.2.length ≤ i → E' 72 i = E 72 i) := by
    intro m
    induction m with
    | zero =>
      intro k F hk' hf h77 h72 ho
      exact ⟨F, fun kz Q hQ => X12_exchange_80 hM ⟨zin_of (by omega) (by omega), fun _ => hQ, fun c => absurd (by omega) c⟩, hf, fun j hj => h72 j (by omega), ho⟩
    | succ m ih =>
      intro k F hk' hf h77 h72 ho
      obtain ⟨E', z, zr⟩ := ih (k + 1) (zuE F 72 (30 * (l : Int) + 1 + k) (F 77 k)) (by omega) (fz_put hf (by simp)) (fun j hj => by rw [zuE_ne (by decide)]; exact h77 j hj) (fun j hj => by
        rcases (by omega : j = k ∨ j ≠ k) with e | e
        · subst e; rw [zuE_same]; exact h77 j (by omega)
        · rw [zuE_ix (by omega)]; exact h72 j (by omega)) (fun i hi => by rw [zuE_ix (by omega)]; exact ho i hi)
      have ek : ((k + 1 : Nat) : Int) = (k : Int) + 1 := by omega
      rw [ek] at z
      exact ⟨E', fun kz Q hQ => X12_exchange_80 hM ⟨zin_of (by omega) (by omega), fun c => absurd c (by omega), fun _ => ⟨zin_of (by omega) (by omega), ⟨by omega, by omega⟩, ⟨by omega, by omega⟩, fun F1 h1 => ⟨zin_of (by omega) (by omega), by rw [h1]; exact z kz Q hQ⟩⟩⟩, zr⟩
  have loop1 : ∀ (m k : Nat) (F : Nat → Int → Int), k + m = t + u → fz [77] E F → (∀ j : Nat, j < k → F 77 j = (swp x.2 t).getD (1 + j) 0) →
      ∃ E' : Nat → Int → Int, zgo zm_X12_exchange 38 [(0, zR 50), (2, zI (30 * (l : Int) + 1)), (4, zI (30 * (l : Int) + x.2.length)), (5, zI (t : Int)), (6, zI (k : Int))] [] (d, G, F) none (d, G, E') ∧ fz [72, 77] E E' ∧ (∀ j : Nat, j < t + u → E' 72 (30 * (l : Int) + 1 + j) = (swp x.2 t).getD (1 + j) 0) ∧ (∀ i : Int, i < 30 * (l : Int) + 1 ∨ 30 * (l : Int) + x.2.length ≤ i → E' 72 i = E 72 i) := by
    intro m
    induction m with
    | zero =>
      intro k F hk' hf h77
      have f72 : F 72 = E 72 := hf 72 (by simp)
      obtain ⟨E', z, zr⟩ := loop2 (t + u) 0 F (by omega) (fz_mono hf (by simp)) (fun j hj => h77 j (by omega)) (fun j hj => by omega) (fun i _ => by rw [f72])
      exact ⟨E', fun kz Q hQ => X12_exchange_38 hM ⟨zin_of (by omega) (by omega), fun _ => z kz Q hQ, fun c => absurd (by omega) c⟩, zr⟩
    | succ m ih =>
      intro k F hk' hf h77
      have f72 : F 72 = E 72 := hf 72 (by simp)
      have eL : 30 * (l : Int) + x.2.length - (30 * (l : Int) + 1) = ((t + u : Nat) : Int) := by omega
      have val : E 72 (30 * (l : Int) + 1 + ((k : Int) + t) % ((t + u : Nat) : Int)) = (swp x.2 t).getD (1 + k) 0 ∧ 0 ≤ ((k : Int) + t) % ((t + u : Nat) : Int) ∧ ((k : Int) + t) % ((t + u : Nat) : Int) < t + u := by
        rcases (by omega : k < u ∨ u ≤ k) with c | c
        · have e : ((k : Int) + t) % ((t + u : Nat) : Int) = ((t + k : Nat) : Int) := by
            rw [Int.emod_eq_of_lt (by omega) (by omega)]; omega
          rw [e, swp_l (by omega), ← pl _ (by omega)]
          exact ⟨by congr 1; omega, by omega, by omega⟩
        · have e : ((k : Int) + t) % ((t + u : Nat) : Int) = ((k - u : Nat) : Int) := by
            have e1 : (k : Int) + t = ((k - u : Nat) : Int) + ((t + u : Nat) : Int) := by omega
            rw [e1, Int.add_emod_right, Int.emod_eq_of_lt (by omega) (by omega)]
          have e2 : 1 + k = 1 + u + (k - u) := by omega
          rw [e, e2, swp_r htu (by omega), ← pl _ (by omega)]
          exact ⟨by congr 1; omega, by omega, by omega⟩
      obtain ⟨E', z, zr⟩ := ih (k + 1) (zuE F 77 k ((swp x.2 t).getD (1 + k) 0)) (by omega) (fz_put hf (by simp)) (fun j hj => by
        rcases (by omega : j = k ∨ j ≠ k) with e | e
        · subst e; rw [zuE_same]
        · rw [zuE_ix (by omega)]; exact h77 j (by omega))
      have ek : ((k + 1 : Nat) : Int) = (k : Int) + 1 := by omega
      rw [ek] at z
      refine ⟨E', fun kz Q hQ => X12_exchange_38 hM ?_, zr⟩
      rw [eL, f72]
      refine ⟨zin_of (by omega) (by omega), fun c => absurd c (by omega), fun _ => ⟨zin_of (by omega) (by omega), zin_of (by omega) (by omega), by omega, by omega, zin_of (by omega) (by omega), ⟨by omega, by omega⟩, ⟨by omega, by omega⟩, fun F1 h1 => ⟨zin_of (by omega) (by omega), ?_⟩⟩⟩
      rw [h1, val.1]
      exact z kz Q hQ
  obtain ⟨E', z, hf, h72, ho⟩ := loop1 (t + u) 0 E (by omega) fz_rfl (fun j hj => by omega)
  have q1 : 30 * (l : Int) + 1 + t - (30 * (l : Int) + 1) = t := by omega
  refine ⟨E', zM_go rfl (Nat.le_of_ble_eq_true rfl) (fun kz Q hQ => X12_exchange_0 hM ⟨zin_of (by omega) (by omega), zin_of (by omega) (by omega), _, m1, zin_of (by omega) (by omega), ⟨by omega, by omega⟩, by rw [sz]; exact zin_of (by omega) (by omega), zin_of (by omega) (by omega), by rw [sz, q1]; exact z kz Q hQ⟩), ?_, hf, fun i hi => ho i (by omega)⟩
  have f73 : E' 73 = E 73 := hf 73 (by simp)
  have f74 : E' 74 = E 74 := hf 74 (by simp)
  refine ⟨by rw [f73]; dsimp only; rw [swp_len (by omega)]; exact sz, by rw [f74]; exact dn, dn2, by dsimp only; rw [swp_len (by omega)]; exact l30, fun k hk' => ?_⟩
  dsimp only at hk' ⊢
  rw [swp_len (by omega)] at hk'
  rw [fw_0]
  rcases (by omega : k = 0 ∨ 1 ≤ k) with c | c
  · subst c
    rw [ho _ (by omega), pl 0 (by omega), swp_0 (by omega)]
  · have e : k = 1 + (k - 1) := by omega
    rw [e, ← h72 (k - 1) (by omega)]
    congr 1; omega
/-- while letters are numbered: heap, and how many places are done -/
def nmI (F0 F : Nat → Int → Int) (A : List zLt) (i : Nat) : Prop := fz [50, 72, 78] F0 F ∧ (∀ j : Int, j ≠ 28 → F 50 j = F0 50 j) ∧ F 50 28 = (nms (ff A) i).2 ∧ (∀ L : Int, 0 ≤ L → L < 40 → F 78 L = (nms (ff A) i).1 L) ∧ ∀ l k : Nat, l < A.length → k < (lit A l).2.length → F 72 (30 * (l : Int) + k) = if offs A l + k < i then nmv (ff A) (offs A l + k) else ff A (offs A l + k)
theorem offs_inj {A : List zLt} {l l' k k' : Nat} (hk : k < (lit A l).2.length) (hk' : k' < (lit A l').2.length) (h : offs A l + k = offs A l' + k') : l = l' ∧ k = k' := by
  rcases (by omega : l < l' ∨ l' < l ∨ l = l') with c | c | c
  · have : offs A (l + 1) ≤ offs A l' := offs_mono (by omega)
    simp only [offs] at this
    omega
  · have : offs A (l' + 1) ≤ offs A l := offs_mono (by omega)
    simp only [offs] at this
    omega
  · subst c
    exact ⟨rfl, by omega⟩
/-- the places behind a step -/
theorem nmI_pl {F F' : Nat → Int → Int} {A : List zLt} {l0 k0 : Nat} {v : Int} (h30 : ∀ l : Nat, l < A.length → (lit A l).2.length ≤ 30) (hl0 : l0 < A.length) (hk0 : k0 < (lit A l0).2.length) (hp : ∀ l k : Nat, l < A.length → k < (lit A l).2.length → F 72 (30 * (l : Int) + k) = if offs A l + k < offs A l0 + k0 then nmv (ff A) (offs A l + k) else ff A (offs A l + k)) (hv : v = nmv (ff A) (offs A l0 + k0)) (h1 : F' 72 (30 * (l0 : Int) + k0) = v) (h2 : ∀ i : Int, i ≠ 30 * (l0 : Int) + k0 → F' 72 i = F 72 i) :
    ∀ l k : Nat, l < A.length → k < (lit A l).2.length → F' 72 (30 * (l : Int) + k) = if offs A l + k < offs A l0 + k0 + 1 then nmv (ff A) (offs A l + k) else ff A (offs A l + k) := by
  intro l k hl hk
  have b1 := h30 l hl
  have b2 := h30 l0 hl0
  by_cases c : offs A l + k = offs A l0 + k0
  · obtain ⟨e1, e2⟩ := offs_inj hk hk0 c
    subst e1
    subst e2
    rw [h1, hv, if_pos (by omega)]
  · have ne : ¬ (l = l0 ∧ k = k0) := fun q => c (by rw [q.1, q.2])
    rw [h2 _ (by omega), hp l k hl hk]
    rcases (by omega : offs A l + k < offs A l0 + k0 ∨ offs A l0 + k0 < offs A l + k) with e | e
    · rw [if_pos e, if_pos (by omega)]
    · rw [if_neg (by omega), if_neg (by omega)]
theorem cleanM_tail {A : List zLt} {F0 : Nat → Int → Int} (hM : zK zMt d G) (h6 : A.length ≤ 6) (hA : ∀ l : Nat, l < A.length → wl F0 l (lit A l)) (hn : F0 50 24 = A.length) (h28 : F0 50 28 = 0) (hl : ∀ i : Nat, i < offs A A.length → -40 ≤ ff A i ∧ ff A i < 16) :
    ∃ E' : Nat → Int → Int, zgo zm_X12_clean 232 [(0, zR 50), (2, zI 0)] [] (d, G, F0) none (d, G, E') ∧ fz [50, 72, 78] F0 E' ∧ (∀ j : Int, j ≠ 28 → E' 50 j = F0 50 j) ∧ rowW E' (ren A) ∧ E' 50 28 = lts A := by
  have h30 : ∀ l : Nat, l < A.length → (lit A l).2.length ≤ 30 := fun l hl' => (hA l hl').2.2.2.1
  have fin : ∀ E' : Nat → Int → Int, nmI F0 E' A (offs A A.length) → fz [50, 72, 78] F0 E' ∧ (∀ j : Int, j ≠ 28 → E' 50 j = F0 50 j) ∧ rowW E' (ren A) ∧ E' 50 28 = lts A := by
    rintro E' ⟨a1, a2, a3, a4, a5⟩
    refine ⟨a1, a2, ⟨by rw [a2 24 (by decide), hn, ren_len], by rw [ren_len]; exact h6, fun l hl' => ?_⟩, a3⟩
    rw [ren_len] at hl'
    obtain ⟨b1, b2, b3, b4, b5⟩ := hA l hl'
    have e1 : (lit (ren A) l).1 = (lit A l).1 := by rw [ren_lit hl']
    refine ⟨by rw [a1 73 (by simp), ren_wl hl']; exact b1, by rw [a1 74 (by simp), e1]; exact b2, by rw [e1]; exact b3, by rw [ren_wl hl']; exact b4, fun k hk => ?_⟩
    rw [ren_wl hl'] at hk
    rw [fw_0, ren_w hl' hk, a5 l k hl' hk, if_pos (offs_lt hl' hk)]
  have outer : ∀ (m l : Nat) (F : Nat → Int → Int), l + m = A.length → nmI F0 F A (offs A l) → ∃ E' : Nat → Int → Int, zgo zm_X12_clean 253 [(0, zR 50), (2, zI (l : Int))] [] (d, G, F) none (d, G, E') ∧ nmI F0 E' A (offs A A.length) := by
    intro m
    induction m with
    | zero =>
      intro l F hl' hI
      have el : l = A.length := by omega
      subst el
      exact ⟨F, fun kz Q hQ => X12_clean_253 hM ⟨fun _ => hQ, fun c => absurd (by rw [hI.2.1 24 (by decide), hn]; omega) c⟩, hI⟩
    | succ m ih =>
      intro l F hl' hI
      have hlA : l < A.length := by omega
      have b30 := h30 l hlA
      have inner : ∀ (p k : Nat) (F : Nat → Int → Int), k + p = (lit A l).2.length → nmI F0 F A (offs A l + k) → ∃ E' : Nat → Int → Int, zgo zm_X12_clean 266 [(0, zR 50), (2, zI (l : Int)), (3, zI (30 * (l : Int) + k))] [] (d, G, F) none (d, G, E') ∧ nmI F0 E' A (offs A A.length) := by
        intro p
        induction p with
        | zero =>
          intro k F hk hI
          have e : offs A l + k = offs A (l + 1) := by simp only [offs]; omega
          rw [e] at hI
          obtain ⟨E', z, zr⟩ := ih (l + 1) F (by omega) hI
          have el : ((l + 1 : Nat) : Int) = (l : Int) + 1 := by omega
          rw [el] at z
          have s1 : F 73 l = (lit A l).2.length := by rw [hI.1 73 (by simp)]; exact (hA l hlA).1
          exact ⟨E', fun kz Q hQ => X12_clean_266 hM ⟨zin_of (by omega) (by omega), ⟨by omega, by omega⟩, by rw [s1]; exact zin_of (by omega) (by omega), fun _ => ⟨zin_of (by omega) (by omega), z kz Q hQ⟩, fun c => absurd (by rw [s1]; omega) c⟩, zr⟩
        | succ p ih2 =>
          intro k F hk hI
          have hkl : k < (lit A l).2.length := by omega
          have s1 : F 73 l = (lit A l).2.length := by rw [hI.1 73 (by simp)]; exact (hA l hlA).1
          have ek : 30 * (l : Int) + ((k + 1 : Nat) : Int) = 30 * (l : Int) + k + 1 := by omega
          have eo : offs A l + (k + 1) = offs A l + k + 1 := by omega
          obtain ⟨a1, a2, a3, a4, a5⟩ := hI
          have pk := a5 l k hlA hkl
          rw [if_neg (by omega)] at pk
          have bk := hl _ (offs_lt hlA hkl)
          have nb := nms_b (ff A) (offs A l + k)
          have tl0 := offs_lt hlA hkl
          have ofl := offs_le h30 A.length (Nat.le_refl _)
          by_cases hneg : ff A (offs A l + k) < 0
          · have nl := nb.2.2 (-1 - ff A (offs A l + k))
            have h78 := a4 (-1 - ff A (offs A l + k)) (by omega) (by omega)
            by_cases hq : (nms (ff A) (offs A l + k)).1 (-1 - ff A (offs A l + k)) = -1
            · have en := nms_new hneg hq
              have ev : nmv (ff A) (offs A l + k) = -1 - (nms (ff A) (offs A l + k)).2 := by
                unfold nmv; rw [if_pos hneg, en]; dsimp only; rw [if_pos rfl]
              have hI2 : nmI F0 (zuE (zuE (zuE F 78 (-1 - ff A (offs A l + k)) ((nms (ff A) (offs A l + k)).2)) 50 28 ((nms (ff A) (offs A l + k)).2 + 1)) 72 (30 * (l : Int) + k) (-1 - (nms (ff A) (offs A l + k)).2)) A (offs A l + (k + 1)) := by
                rw [eo]
                refine ⟨fz_put (fz_put (fz_put a1 (by simp)) (by simp)) (by simp), fun j hj => ?_, ?_, fun L l1 l2 => ?_, nmI_pl h30 hlA hkl a5 ev.symm zuE_same (fun i hi => ?_)⟩
                · rw [zuE_ne (by decide), zuE_ix hj, zuE_ne (by decide)]; exact a2 j hj
                · rw [zuE_ne (by decide), zuE_same, en]
                · rw [zuE_ne (by decide), zuE_ne (by decide), en]
                  dsimp only
                  rcases (by omega : L = -1 - ff A (offs A l + k) ∨ L ≠ -1 - ff A (offs A l + k)) with e | e
                  · subst e; rw [zuE_same, if_pos rfl]
                  · rw [zuE_ix e, if_neg e]; exact a4 L l1 l2
                · rw [zuE_ix hi, zuE_ne (by decide), zuE_ne (by decide)]
              obtain ⟨E', z, zr⟩ := ih2 (k + 1) _ (by omega) hI2
              rw [ek] at z
              refine ⟨E', fun kz Q hQ => X12_clean_266 hM ?_, zr⟩
              rw [s1, pk]
              refine ⟨zin_of (by omega) (by omega), ⟨by omega, by omega⟩, zin_of (by omega) (by omega), fun c => absurd c (by omega), fun _ => ⟨⟨by omega, by omega⟩, fun c => absurd c (by omega), fun _ => ⟨⟨by omega, by omega⟩, zin_of (by omega) (by omega), ⟨by omega, by omega⟩, fun c => absurd (by rw [h78]; exact hq) c, fun _ => ⟨⟨by omega, by omega⟩, fun F1 h1 => ?_⟩⟩⟩⟩
              rw [h1, zuE_ne (by decide), a3]
              refine ⟨zin_of (by omega) (by omega), fun F2 h2 => ⟨⟨by omega, by omega⟩, ?_⟩⟩
              rw [h2, zuE_ne (by decide), zuE_same]
              refine ⟨zin_of (by omega) (by omega), ⟨by omega, by omega⟩, fun F3 h3 => ⟨zin_of (by omega) (by omega), ?_⟩⟩
              rw [h3]
              exact z kz Q hQ
            · have en := nms_old hq
              have ev : nmv (ff A) (offs A l + k) = -1 - (nms (ff A) (offs A l + k)).1 (-1 - ff A (offs A l + k)) := by
                unfold nmv; rw [if_pos hneg, en]
              have hI2 : nmI F0 (zuE F 72 (30 * (l : Int) + k) (-1 - (nms (ff A) (offs A l + k)).1 (-1 - ff A (offs A l + k)))) A (offs A l + (k + 1)) := by
                rw [eo]
                refine ⟨fz_put a1 (by simp), fun j hj => ?_, ?_, fun L l1 l2 => ?_, nmI_pl h30 hlA hkl a5 ev.symm zuE_same (fun i hi => ?_)⟩
                · rw [zuE_ne (by decide)]; exact a2 j hj
                · rw [zuE_ne (by decide), en]; exact a3
                · rw [zuE_ne (by decide), en]; exact a4 L l1 l2
                · rw [zuE_ix hi]
              obtain ⟨E', z, zr⟩ := ih2 (k + 1) _ (by omega) hI2
              rw [ek] at z
              refine ⟨E', fun kz Q hQ => X12_clean_266 hM ?_, zr⟩
              rw [s1, pk, h78]
              exact ⟨zin_of (by omega) (by omega), ⟨by omega, by omega⟩, zin_of (by omega) (by omega), fun c => absurd c (by omega), fun _ => ⟨⟨by omega, by omega⟩, fun c => absurd c (by omega), fun _ => ⟨⟨by omega, by omega⟩, zin_of (by omega) (by omega), ⟨by omega, by omega⟩, fun _ => ⟨⟨by omega, by omega⟩, zin_of (by omega) (by omega), ⟨by omega, by omega⟩, fun F1 h1 => ⟨zin_of (by omega) (by omega), by rw [h1]; exact z kz Q hQ⟩⟩, fun c => absurd hq c⟩⟩⟩
          · have en := nms_no (F := ff A) hneg
            have hI2 : nmI F0 F A (offs A l + (k + 1)) := by
              rw [eo]
              refine ⟨a1, a2, by rw [en]; exact a3, fun L l1 l2 => by rw [en]; exact a4 L l1 l2, nmI_pl h30 hlA hkl a5 rfl ?_ (fun i hi => rfl)⟩
              rw [pk]; unfold nmv; rw [if_neg hneg]
            obtain ⟨E', z, zr⟩ := ih2 (k + 1) F (by omega) hI2
            rw [ek] at z
            refine ⟨E', fun kz Q hQ => X12_clean_266 hM ?_, zr⟩
            rw [s1, pk]
            exact ⟨zin_of (by omega) (by omega), ⟨by omega, by omega⟩, zin_of (by omega) (by omega), fun c => absurd c (by omega), fun _ => ⟨⟨by omega, by omega⟩, fun _ => ⟨zin_of (by omega) (by omega), z kz Q hQ⟩, fun c => absurd (by omega) c⟩⟩
      have e0 : 30 * (l : Int) + ((0 : Nat) : Int) = 30 * (l : Int) := by omega
      obtain ⟨E', z, zr⟩ := inner (lit A l).2.length 0 F (by omega) hI
      rw [e0] at z
      exact ⟨E', fun kz Q hQ => X12_clean_253 hM ⟨fun c => absurd c (by rw [hI.2.1 24 (by decide), hn]; omega), fun _ => ⟨zin_of (by omega) (by omega), z kz Q hQ⟩⟩, zr⟩
  have fillL : ∀ (m k : Nat) (F : Nat → Int → Int), k + m = 40 → fz [78] F0 F → (∀ L : Int, 0 ≤ L → L < k → F 78 L = -1) → ∃ E' : Nat → Int → Int, zgo zm_X12_clean 232 [(0, zR 50), (2, zI (k : Int))] [] (d, G, F) none (d, G, E') ∧ nmI F0 E' A (offs A A.length) := by
    intro m
    induction m with
    | zero =>
      intro k F hk hf hv
      have hI : nmI F0 F A (offs A 0) := by
        refine ⟨fz_mono hf (by simp), fun j _ => by rw [hf 50 (by simp)], by rw [hf 50 (by simp), h28]; rfl, fun L l1 l2 => by rw [hv L l1 (by omega)]; rfl, fun l k' hl' hk' => ?_⟩
        rw [hf 72 (by simp), if_neg (by simp [offs]), (hA l hl').2.2.2.2 k' hk', fw_0]
        exact (flat_at hl' hk').symm
      obtain ⟨E', z, zr⟩ := outer A.length 0 F (by omega) hI
      exact ⟨E', fun kz Q hQ => X12_clean_232 hM ⟨fun _ => z kz Q hQ, fun c => absurd (by omega) c⟩, zr⟩
    | succ m ih =>
      intro k F hk hf hv
      obtain ⟨E', z, zr⟩ := ih (k + 1) (zuE F 78 k (-1)) (by omega) (fz_put hf (by simp)) (fun L l1 l2 => by
        rcases (by omega : L = (k : Int) ∨ L ≠ (k : Int)) with e | e
        · subst e; exact zuE_same
        · rw [zuE_ix e]; exact hv L l1 (by omega))
      have ek : ((k + 1 : Nat) : Int) = (k : Int) + 1 := by omega
      rw [ek] at z
      exact ⟨E', fun kz Q hQ => X12_clean_232 hM ⟨fun c => absurd c (by omega), fun _ => ⟨⟨by omega, by omega⟩, fun F1 h1 => ⟨zin_of (by omega) (by omega), by rw [h1]; exact z kz Q hQ⟩⟩⟩, zr⟩
  obtain ⟨E', z, zr⟩ := fillL 40 0 F0 (by omega) fz_rfl (fun L l1 l2 => by omega)
  exact ⟨E', z, fin E' zr⟩
end PU
