/-! ===== rewriting: the class, whether a side fits ===== -/
def shf (v : Int) : Int := if v < 0 then v - 20 else v
section QE
variable {d : List Nat} {G : Nat → Int → Option Nat} {E : Nat → Int → Int}
theorem isTold_ok {a1 n1 T : Nat} {N : Int} {P : Int → Int} {b : zBd} {o : List Int} {i : Int} (hX : zK zXt d G) (ha : a1 ∈ d) (hk : zkd a1 = (0, n1)) (hn : n1 ≤ 100000) (hb : bdC E P T N b) (hl : lk (E a1) i (fw o) 0 o.length) (h0 : 0 ≤ i) (h1 : i + o.length ≤ n1) (hlo : ∀ v, v ∈ o → -20 ≤ v) :
    ∃ x : Int, zM zm_X9_isTold [zR 20, zR a1, zI i, zI (i + o.length)] (d, G, E) (some (zI x)) (d, G, E) ∧ (x = 1 ∧ told b o ∨ x = 0 ∧ ¬ told b o) := by
  have loop : ∀ (m k : Nat), k + m = o.length → ∃ x : Int, zgo zm_X9_isTold 3 [(0, zR 20), (1, zR a1), (3, zI (i + o.length)), (4, zI (i + k))] [] (d, G, E) (some (zI x)) (d, G, E) ∧ (x = 1 ∧ (∀ j : Nat, k ≤ j → j < o.length → fw o j < 0 → lkp b (-1 - fw o j) ≠ none) ∨ x = 0 ∧ ¬ told b o) := by
    intro m
    induction m with
    | zero => exact fun k hk' => ⟨1, fun kz Q hQ => X9_isTold_3 hX ha hk ⟨fun _ => hQ, fun c => absurd (by omega) c⟩, Or.inl ⟨rfl, fun j j1 j2 => by omega⟩⟩
    | succ m ih =>
      intro k hk'
      obtain ⟨x, go, hx⟩ := ih (k + 1) (by omega)
      have ek : i + ((k + 1 : Nat) : Int) = i + k + 1 := by omega
      rw [ek] at go
      have pk : E a1 (i + k) = fw o k := by rw [hl k (by omega), fw_0, fw_nat]
      have mem : fw o k ∈ o := fw_mem (by omega)
      have lo := hlo _ mem
      by_cases c : 0 ≤ fw o k
      · refine ⟨x, fun kz Q hQ => X9_isTold_3 hX ha hk ⟨fun z => absurd z (by omega), fun _ => ⟨⟨by omega, by omega⟩, fun _ => ⟨zin_of (by omega) (by omega), go kz Q hQ⟩, fun z => absurd (by rw [pk]; exact c) z⟩⟩, ?_⟩
        rcases hx with ⟨x1, x2⟩ | z
        · refine Or.inl ⟨x1, fun j j1 j2 j3 => ?_⟩
          rcases (by omega : j = k ∨ k + 1 ≤ j) with e | e
          · subst e; omega
          · exact x2 j e j2 j3
        · exact Or.inr z
      · have eL : (19 : Int) - fw o k = 20 + (-1 - fw o k) := by omega
        cases hL : lkp b (-1 - fw o k) with
        | none =>
          have r22 := hb.2.2.2.2.2.1 (-1 - fw o k) (by omega) (by omega) hL
          refine ⟨0, fun kz Q hQ => X9_isTold_3 hX ha hk ⟨fun z => absurd z (by omega), fun _ => ?_⟩, Or.inr ⟨rfl, fun q => q _ mem (by omega) hL⟩⟩
          rw [pk, eL, r22]
          exact ⟨⟨by omega, by omega⟩, fun z => absurd z c, fun _ => ⟨⟨by omega, by omega⟩, zin_of (by omega) (by omega), ⟨by omega, by omega⟩, fun z => absurd rfl z, fun _ => hQ⟩⟩
        | some u =>
          have r22 := (hb.2.2.2.2.2.2 (-1 - fw o k) u hL).1
          refine ⟨x, fun kz Q hQ => X9_isTold_3 hX ha hk ⟨fun z => absurd z (by omega), fun _ => ?_⟩, ?_⟩
          · rw [pk, eL]
            exact ⟨⟨by omega, by omega⟩, fun z => absurd z c, fun _ => ⟨⟨by omega, by omega⟩, zin_of (by omega) (by omega), ⟨by omega, by omega⟩, fun _ => ⟨zin_of (by omega) (by omega), go kz Q hQ⟩, fun z => absurd (by omega) z⟩⟩
          · rcases hx with ⟨x1, x2⟩ | z
            · refine Or.inl ⟨x1, fun j j1 j2 j3 => ?_⟩
              rcases (by omega : j = k ∨ k + 1 ≤ j) with e | e
              · subst e; rw [hL]; simp
              · exact x2 j e j2 j3
            · exact Or.inr z
  obtain ⟨x, go, hx⟩ := loop o.length 0 (by omega)
  have e0 : i + ((0 : Nat) : Int) = i := by omega
  rw [e0] at go
  refine ⟨x, zM_go rfl (Nat.le_of_ble_eq_true rfl) (fun kz Q hQ => X9_isTold_0 hX ha hk (go kz Q hQ)), ?_⟩
  rcases hx with ⟨x1, x2⟩ | z
  · refine Or.inl ⟨x1, fun v hv v0 => ?_⟩
    obtain ⟨k, k1, k2⟩ := mem_fw hv
    subst k2
    exact x2 k (Nat.zero_le _) k1 v0
  · exact Or.inr z
theorem layFirst_ok {r : Nat} {A : List zLt} (hX : zK zXt d G) (hr : zRk d G r) (hA : rowC E r A) : ∃ E' : Nat → Int → Int, zM zm_X9_layFirst [zR 20, zR r] (d, G, E) none (d, G, E') ∧ fz [21] E E' ∧ (∀ i : Int, 0 ≤ i → i < offs A A.length → E' 21 i = E (r + 1) i) ∧ ∀ i : Int, (offs A A.length : Int) ≤ i → E' 21 i = E 21 i := by
  have h6 := hA.2.1
  have o1 := hA.2.2.1 A.length (Nat.le_refl _)
  have bn := rowC_le hA (Nat.le_refl _)
  refine ⟨zcpE E (r + 1) 0 21 0 (offs A A.length), zM_e rfl (Nat.le_of_ble_eq_true rfl) (fun kz Q hQ => X9_layFirst_0 hX hr ?_), fun x hx => zcpE_nf (by simpa using hx), fun i i0 i1 => ?_, fun i i1 => zcpE_out (by omega)⟩
  · rw [hA.1, o1]
    exact ⟨⟨by omega, by omega⟩, ⟨by omega, by omega, by omega, by omega, by omega⟩, fun H h => by rw [h]; exact hQ⟩
  · rw [zcpE_in (by omega) (by omega)]; congr 1; omega
theorem laySecond_ok {r : Nat} {A : List zLt} (hX : zK zXt d G) (hr : zRk d G r) (hr21 : r + 3 < 18 ∨ 43 < r) (hA : rowC E r A) (hv : ∀ i : Int, 0 ≤ i → i < offs A A.length → -40 ≤ E (r + 1) i ∧ E (r + 1) i < 16) : ∃ E' : Nat → Int → Int, zM zm_X9_laySecond [zR 20, zR r] (d, G, E) none (d, G, E') ∧ fz [21] E E' ∧ (∀ i : Int, 0 ≤ i → i < offs A A.length → E' 21 (180 + i) = shf (E (r + 1) i)) ∧ ∀ i : Int, i < 180 → E' 21 i = E 21 i := by
  have h6 := hA.2.1
  have o1 := hA.2.2.1 A.length (Nat.le_refl _)
  have bn := rowC_le hA (Nat.le_refl _)
  have loop : ∀ (m k : Nat) (F : Nat → Int → Int), k + m = offs A A.length → fz [21] E F → (∀ i : Int, 0 ≤ i → i < k → F 21 (180 + i) = shf (E (r + 1) i)) → (∀ i : Int, i < 180 → F 21 i = E 21 i) → ∃ E' : Nat → Int → Int, zgo zm_X9_laySecond 12 [(0, zR 20), (1, zR r), (2, zI (offs A A.length : Int)), (3, zI (k : Int))] [] (d, G, F) none (d, G, E') ∧ fz [21] E E' ∧ (∀ i : Int, 0 ≤ i → i < offs A A.length → E' 21 (180 + i) = shf (E (r + 1) i)) ∧ ∀ i : Int, i < 180 → E' 21 i = E 21 i := by
    intro m
    induction m with
    | zero => exact fun k F hk hf h1 h2 => ⟨F, fun kz Q hQ => X9_laySecond_12 hX hr ⟨fun _ => hQ, fun c => absurd (by omega) c⟩, hf, fun i i0 i1 => h1 i i0 (by omega), h2⟩
    | succ m ih =>
      intro k F hk hf h1 h2
      have f1 : F (r + 1) = E (r + 1) := hf _ (by simp; omega)
      have vk := hv k (by omega) (by omega)
      obtain ⟨E', z, zr⟩ := ih (k + 1) (zuE F 21 (180 + k) (shf (E (r + 1) k))) (by omega) (fz_put hf (by simp)) (fun i i0 i1 => by
        rcases (by omega : i = (k : Int) ∨ i ≠ (k : Int)) with e | e
        · subst e; exact zuE_same
        · rw [zuE_ix (by omega)]; exact h1 i i0 (by omega)) (fun i i1 => by rw [zuE_ix (by omega)]; exact h2 i i1)
      have ek : ((k + 1 : Nat) : Int) = (k : Int) + 1 := by omega
      rw [ek] at z
      refine ⟨E', fun kz Q hQ => X9_laySecond_12 hX hr ⟨fun c => absurd c (by omega), fun _ => ?_⟩, zr⟩
      rw [f1]
      refine ⟨⟨by omega, by omega⟩, zin_of (by omega) (by omega), fun c => ⟨⟨by omega, by omega⟩, fun H h => ⟨zin_of (by omega) (by omega), ?_⟩⟩, fun c => ⟨zin_of (by omega) (by omega), ⟨by omega, by omega⟩, fun H h => ⟨zin_of (by omega) (by omega), ?_⟩⟩⟩
      · have e : shf (E (r + 1) k) = E (r + 1) k := if_neg (by omega)
        rw [h, ← e]; rw [e]; rw [e] at z; exact z kz Q hQ
      · have e : shf (E (r + 1) k) = E (r + 1) k - 20 := if_pos (by omega)
        rw [e] at z
        rw [h]; exact z kz Q hQ
  obtain ⟨E', z, zr⟩ := loop (offs A A.length) 0 E (by omega) fz_rfl (fun i i0 i1 => by omega) (fun i _ => rfl)
  refine ⟨E', zM_go rfl (Nat.le_of_ble_eq_true rfl) (fun kz Q hQ => X9_laySecond_0 hX hr ?_), zr⟩
  rw [hA.1, o1]
  exact ⟨⟨by omega, by omega⟩, z kz Q hQ⟩
/-- places of a row, as they may be -/
theorem rowC_pl {r : Nat} {A : List zLt} (hA : rowC E r A) {i : Int} (h0 : 0 ≤ i) (h1 : i < offs A A.length) : E (r + 1) i = ff A i.toNat := by
  have hi : i.toNat < offs A A.length := by omega
  obtain ⟨l, k, a, b, e⟩ := offs_find (Nat.le_refl _) hi
  have := (hA.2.2.2 l a).2.2.2 k b
  rw [← flat_at a b, ← e] at this
  have e2 : (offs A l : Int) + k = i := by omega
  rw [e2] at this
  exact this
/-- the bindings of a matching, as a standing on the board -/
theorem stB_of {P : Int → Int} {T : Nat} {N : Int} {b : zBd} {E' : Nat → Int → Int} (hb : bdC E P T N b) (h3 : E' 3 = P) (h22 : E' 22 = E 22) (hN : N ≤ 360) (h21 : ∀ i : Int, 0 ≤ i → i < N → E' 21 i = E T i ∧ -20 ≤ E T i) : stB E' (fun _ => 0) ∧ ∀ (L : Int) (u : List Int), 0 ≤ L → L < 20 → lkp b L = some u → E' 22 (20 + L) ≠ -1 ∧ xcat (xf (E' 3) (E' 21) (E' 22)) (E' 22 (20 + L)) (tl (E' 3) (E' 21) (E' 22 (20 + L))) = u := by
  obtain ⟨h1, h2, h3', h4, h5, h6, h7⟩ := hb
  have nb : ∀ i : Int, 0 ≤ i → i < N → ¬ bnd (E' 21) (E' 22) i := fun i i0 i1 q => by
    have z := h21 i i0 i1
    have q1 := q.1
    exact q.2 (by rw [h22]; exact h5 _ (by omega) (by rw [z.1] at q1 ⊢; omega))
  have tt : ∀ (L : Int) (u : List Int), lkp b L = some u → tm (E' 3) (E' 21) (E' 22 (20 + L)) u.length := fun L u hL => by
    obtain ⟨a1, a2, a3, a4⟩ := h7 L u hL
    rw [h3, h22]
    exact tm_congr a4 (fun k hk => by rw [← a3 k hk, (h21 _ (by omega) (by omega)).1])
  refine ⟨fun L l0 l1 hL => ?_, fun L u l0 l1 hL => ?_⟩
  · rw [h22] at hL
    rcases (by omega : L < 20 ∨ 20 ≤ L) with c | c
    · exact absurd (h5 L l0 c) hL
    · have e : L = 20 + (L - 20) := by omega
      cases hq : lkp b (L - 20) with
      | none => rw [e] at hL; exact absurd (h6 (L - 20) (by omega) (by omega) hq) hL
      | some u =>
        have t := tt (L - 20) u hq
        obtain ⟨a1, a2, a3, a4⟩ := h7 (L - 20) u hq
        rw [e]
        rw [← h22] at a1 a2
        refine ⟨by show 0 < 40; omega, a1, u.length, t, by omega, fun k hk => ⟨?_, fun q => absurd q (nb _ (by omega) (by omega))⟩⟩
        have z := h21 (E' 22 (20 + (L - 20)) + k) (by omega) (by omega)
        rw [z.1]; omega
  · have t := tt L u hL
    obtain ⟨a1, a2, a3, a4⟩ := h7 L u hL
    rw [← h22] at a1 a2 a3
    refine ⟨by omega, ?_⟩
    rw [tl_eq t]
    refine xcat_id (fun k hk => ?_)
    rw [xf_n (nb _ (by omega) (by omega)), (h21 _ (by omega) (by omega)).1, a3 k hk, fw_0, fw_nat]
theorem lk_tat {P f : Int → Int} (hP : pok P) {v : List Int} {i : Int} {p : Nat} (h : tw P v) (hp : p < v.length) (hl : lk f i (fw v) 0 v.length) : lk f (i + p) (fw (tat P v p)) 0 (tat P v p).length := by
  obtain ⟨m, m0, m1, m2, m3, m4, m5, m6⟩ := tat_ok hP h hp
  rw [m4]
  intro k hk
  have := hl (p + k) (by omega)
  have e1 : i + ((p + k : Nat) : Int) = i + p + k := by omega
  have e2 : (0 : Int) + ((p + k : Nat) : Int) = p + k := by omega
  rw [e1, e2] at this
  rw [this]; exact m6 k hk
theorem fits_core {q r : Nat} {A B : List zLt} {w p o : List Int} {l ot v2 : Int} {at' : Int} (hX : zK zXt d G) (hr : zRk d G r) (hz : 9 < r ∧ r + 3 < 18) (hc : zCk d G q) (hq : 43 < q) (hP : pok (E 3)) (hW : wok (E 4)) (h19 : ∀ L : Int, 0 ≤ L → L < 40 → E 19 L = 0) (hst : stI E)
    (hA : rowC E (q + 1) A) (aA : aok (E 3) A) (lA : low A) (hB : rowC E r B) (aB : aok (E 3) B) (lB : low B)
    (hw : tw (E 3) w) (hp : tw (E 3) p) (ho : tw (E 3) o) (wat : lk (E (r + 1)) at' (fw w) 0 w.length) (at0 : 0 ≤ at') (at1 : at' + w.length ≤ offs B B.length) (w30 : w.length ≤ 30)
    (pat : lk (E (q + 1 + 1)) l (fw p) 0 p.length) (l0 : 0 ≤ l) (l1 : l + p.length ≤ offs A A.length) (oat : lk (E (q + 1 + 1)) ot (fw o) 0 o.length) (ot0 : 0 ≤ ot) (ot1 : ot + o.length ≤ offs A A.length) (o30 : o.length ≤ 30) (wlo : ∀ x, x ∈ w → -20 ≤ x) (plo : ∀ x, x ∈ p → -20 ≤ x) (olo : ∀ x, x ∈ o → -20 ≤ x)
    (hs : E q 13 ≠ 0 → v2 = 0 → kg (E 3) (E 4) (fw p) (fw o) 1000 0 0) (hwp : ∀ x, x ∈ w → 0 ≤ x → 1 ≤ E 4 x) :
    ∃ (x : Int) (E' : Nat → Int → Int), zgo zm_X4_fits 87 [(0, zR 36), (2, zI v2), (3, zR r), (4, zI at'), (5, zR q), (6, zR (q + 1 + 1)), (7, zI l), (8, zI ot)] [zI (ot + o.length)] (d, G, E) (some (zI x)) (d, G, E') ∧ fz [18, 19, 20, 21, 22, 23, 27, 28, 29] E E' ∧ stI E' ∧ (∀ L : Int, 0 ≤ L → L < 40 → E' 19 L = 0) ∧ ((x = 1 ∧ ∃ z, rwz (E 3) (E 4) p o w = some z ∧ E' 20 14 = z.length ∧ ∀ k : Nat, k < z.length → E' 29 k = z.getD k 0) ∨ x = 0 ∧ rwz (E 3) (E 4) p o w = none) := by
  have bA := rowC_le hA (Nat.le_refl _)
  have bB := rowC_le hB (Nat.le_refl _)
  have hrA : zRk d G (q + 1) := hc.2.2.1
  obtain ⟨E1, m1, f1, j1, t1, u1⟩ := forget0_ok (E := E) hX hst
  have hb1 : bdC E1 (E 3) (r + 1) (offs B B.length) [] := bdC_nil t1 u1
  have g1 : ∀ x : Nat, x ≠ 20 → x ≠ 22 → E1 x = E x := fun x h1 h2 => f1 x (by simp; omega)
  have e13 : E1 3 = E 3 := g1 3 (by decide) (by decide)
  have mm := matches_ok (E := E1) (a1 := q + 1 + 1) (n1 := 180) (T := r + 1) (N := (offs B B.length : Int)) (by omega) (p := p) (w := w) (s := l) (y := at') (b := []) hX hrA.2.2.2.2.2.1 hrA.2.1 hr.2.2.2.2.2.1 hr.2.1 (by omega) (by omega) (by omega) (by rw [e13]; exact hP) (by rw [e13]; exact hp) (by rw [e13]; exact hw) plo (by rw [g1 _ (by omega) (by omega)]; exact pat) (by rw [g1 _ (by omega) (by omega)]; exact wat) l0 (by omega) at0 at1 (by rw [e13]; exact hb1)
  rw [e13] at mm
  obtain ⟨x, E2, c, m2, f2, b2, hx⟩ := mm
  rw [List.nil_append] at b2 hx
  have hf2 : fz [20, 22, 23] E E2 := fz_trans (fz_mono f1 (by simp)) f2
  have s19 : ∀ L : Int, 0 ≤ L → L < 40 → E2 19 L = 0 := fun L a b => by rw [hf2 19 (by simp)]; exact h19 L a b
  rcases hx with ⟨x1, x2⟩ | ⟨x1, x2⟩
  · subst x1
    have e2 : ∀ y : Nat, y ≠ 20 → y ≠ 22 → y ≠ 23 → E2 y = E y := fun y a b c => hf2 y (by simp; omega)
    obtain ⟨y, m3, hy⟩ := isTold_ok (E := E2) (a1 := q + 1 + 1) (n1 := 180) (i := ot) (o := o) hX hrA.2.2.2.2.2.1 hrA.2.1 (by omega) b2 (by rw [e2 _ (by omega) (by omega) (by omega)]; exact oat) ot0 (by omega) olo
    rcases hy with ⟨y1, y2⟩ | ⟨y1, y2⟩
    · subst y1
      have hB2 : rowC E2 r B := rowC_fz hB hf2 (by simp; omega) (by simp; omega) (by simp; omega) (by simp; omega)
      obtain ⟨E3, m4, f4, p4, o4⟩ := layFirst_ok (E := E2) hX hr hB2
      have hf3 : fz [20, 21, 22, 23] E E3 := fz_trans (fz_mono hf2 (by simp)) (fz_mono f4 (by simp))
      have hA3 : rowC E3 (q + 1) A := rowC_fz hA hf3 (by simp; omega) (by simp; omega) (by simp; omega) (by simp; omega)
      obtain ⟨E4, m5, f5, p5, o5⟩ := laySecond_ok (E := E3) hX hrA (Or.inr (by omega)) hA3 (fun i i0 i1 => by
        rw [rowC_pl hA3 i0 i1]; exact aok_ff aA _ (by omega))
      have hf4 : fz [20, 21, 22, 23] E E4 := fz_trans hf3 (fz_mono f5 (by simp))
      let E5 := zuE E4 20 14 0
      have n5 : ∀ y : Nat, y ≠ 20 → E5 y = E4 y := fun y hy => zuE_nf hy
      have hf5 : fz [20, 21, 22, 23] E E5 := fz_put hf4 (by simp)
      have k22 : E5 22 = E2 22 := by rw [n5 22 (by decide), f5 22 (by simp), f4 22 (by simp)]
      have k3 : E5 3 = E 3 := hf5 3 (by simp)
      have plB : ∀ i : Int, 0 ≤ i → i < offs B B.length → -20 ≤ E2 (r + 1) i := fun i i0 i1 => by
        rw [rowC_pl hB2 i0 i1]
        obtain ⟨l', k', a, b', e⟩ := offs_find (A := B) (Nat.le_refl _) (show i.toNat < offs B B.length by omega)
        unfold ff
        rw [e, flat_at a b', ← fw_nat]
        exact lB l' a _ (fw_mem b')
      obtain ⟨sb1, sb2⟩ := stB_of (E' := E5) b2 k3 k22 (by omega) (fun i i0 i1 => ⟨by rw [n5 21 (by decide), o5 i (by omega), p4 i i0 i1], plB i i0 i1⟩)
      have seco : ∀ k : Nat, k < o.length → E5 21 (180 + ot + k) = shf (fw o k) := fun k hk => by
        have e : 180 + ot + (k : Int) = 180 + (ot + k) := by omega
        have q1 : E3 (q + 1 + 1) = E (q + 1 + 1) := hf3 _ (by simp; omega)
        rw [n5 21 (by decide), e, p5 _ (by omega) (by omega), q1, oat k hk, fw_0, fw_nat]
      have hseg : seg E5 (fun _ => 0) (180 + ot) o.length 40 := ⟨by omega, by omega, fun k hk => ⟨by
        rw [seco k hk]
        have := olo _ (fw_mem hk)
        unfold shf; split <;> omega, fun _ => by show 0 < 40; omega⟩⟩
      have exo : sgx E5 (180 + ot) o.length = sb (TB c) o := by
        unfold sgx
        refine xcat_sb (fun k hk => ?_)
        have lo := olo _ (fw_mem hk)
        have sk := seco k hk
        by_cases hv : 0 ≤ fw o k
        · rw [if_pos hv]
          have e : shf (fw o k) = fw o k := if_neg (by omega)
          rw [e] at sk
          rw [xf_n (fun q => by have := q.1; rw [sk] at this; omega), sk]
        · rw [if_neg hv]
          have e : shf (fw o k) = fw o k - 20 := if_pos (by omega)
          rw [e] at sk
          have eL : -1 - (fw o k - 20) = 20 + (-1 - fw o k) := by omega
          cases hL : lkp c (-1 - fw o k) with
          | none => exact absurd hL (y2 _ (fw_mem hk) (by omega))
          | some u =>
            obtain ⟨z1, z2⟩ := sb2 (-1 - fw o k) u (by omega) (by omega) hL
            rw [xf_b sb1 (by rw [sk]; omega) ⟨by rw [sk]; omega, by rw [sk, eL]; exact z1⟩, sk, eL, z2, TB_some hL]
      have wr := write_ok (E := E5) (a := 180 + ot) (n := o.length) (most := 1000) hX (by rw [k3]; exact hP) sb1 hseg (by show (0 : Int) ≤ zuE E4 20 14 0 20 14; rw [zuE_same]; omega) (by omega)
      rw [exo] at wr
      obtain ⟨y, E6, m6, f6, j6, l6, _, hy6⟩ := wr
      have e14 : E5 20 14 = 0 := zuE_same
      obtain ⟨_, _, a3, a4⟩ := mt_spec hP p [] w 1 c (ts_1.2 hp) (ts_1.2 hw) x2
      have key : ∀ v, v ∈ o → v < 0 → ∃ u, lkp c (-1 - v) = some u ∧ tw (E 3) u ∧ (∀ y, y ∈ u → y ∈ w) ∧ u.length ≤ w.length := fun v hv v0 => by
        cases hL : lkp c (-1 - v) with
        | none => exact absurd hL (y2 v hv v0)
        | some u =>
          rcases a4 _ (lkp_mem hL) with z | z
          · exact absurd z (by simp)
          · exact ⟨u, rfl, z⟩
      have zl : (sb (TB c) o).length ≤ 900 := by
        have := sb_len (T := TB c) (m := 30) (by omega) (w := o) (fun v hv v0 => by
          obtain ⟨u, u1, _, _, u4⟩ := key v hv v0
          rw [TB_some u1]; omega)
        omega
      rw [e14] at hy6
      rcases hy6 with ⟨y1, _, y3, y4⟩ | ⟨_, y2', _⟩
      · subst y1
        have hf6 : fz [20, 21, 22, 23, 27, 28, 29] E E6 := fz_trans (fz_mono hf5 (by simp)) (fz_mono f6 (by simp))
        have st6 : stI E6 := by
          have s2 := bdC_stI b2
          have q4 : E6 20 4 = E2 20 4 := by
            rw [j6 4 (by decide) (by decide) (by decide) (by decide)]
            refine (zuE_ix (by decide)).trans ?_
            rw [f5 20 (by simp), f4 20 (by simp)]
          have q22 : E6 22 = E2 22 := by rw [f6 22 (by simp)]; exact k22
          have q23 : E6 23 = E2 23 := by rw [f6 23 (by simp), n5 23 (by decide), f5 23 (by simp), f4 23 (by simp)]
          unfold stI at *
          rw [q4, q22, q23]; exact s2
        have s6 : ∀ L : Int, 0 ≤ L → L < 40 → E6 19 L = 0 := fun L a b => by rw [hf6 19 (by simp)]; exact h19 L a b
        have wr29 : ∀ k : Nat, k < (sb (TB c) o).length → E6 29 k = (sb (TB c) o).getD k 0 := fun k hk => by
          have := y4 k hk
          rw [Int.zero_add] at this; exact this
        have len6 : E6 20 14 = (sb (TB c) o).length := by rw [y3, Int.zero_add]
        have q13 : E6 q 13 = E q 13 := by rw [hf6 q (by simp; omega)]
        have tz : tw (E 3) (sb (TB c) o) := tw_sb hP o.length o (Nat.le_refl _) ho (fun v hv v0 => by
          obtain ⟨u, u1, u2, _⟩ := key v hv v0
          rw [TB_some u1]; exact u2)
        have pre : ∀ kz Q, (((E6 q 13) = 0 → ∃ x_31 E_32, zM zm_X6_compare [zR 18, zR (r + 1), zI at', zR 29, zI 0] (d, G, E6) (some (zI x_31)) (d, G, E_32) ∧ (x_31 ≠ 1 → Q (some (zI 0)) (d, G, E_32)) ∧ (¬ (x_31 ≠ 1) → Q (some (zI 1)) (d, G, E_32))) ∧ (¬ ((E6 q 13) = 0) → (v2 = 0 → Q (some (zI 1)) (d, G, E6)) ∧ (¬ (v2 = 0) → ∃ x_37 E_38, zM zm_X6_compare [zR 18, zR (r + 1), zI at', zR 29, zI 0] (d, G, E6) (some (zI x_37)) (d, G, E_38) ∧ (x_37 ≠ 1 → Q (some (zI 0)) (d, G, E_38)) ∧ (¬ (x_37 ≠ 1) → Q (some (zI 1)) (d, G, E_38))))) → Z zm_X4_fits kz Q 87 [(0, zR 36), (2, zI v2), (3, zR r), (4, zI at'), (5, zR q), (6, zR (q + 1 + 1)), (7, zI l), (8, zI ot)] [zI (ot + o.length)] (d, G, E) := fun kz Q K => by
          have ea : 180 + (ot + (o.length : Int)) = 180 + ot + o.length := by omega
          exact X4_fits_87 (o5 := some q) (o6 := some (q + 1 + 1)) hX hr ⟨E1, m1, 1, E2, m2, fun z => absurd z (by omega), fun _ => ⟨1, m3, fun _ => ⟨E3, m4, q, rfl, hc, E4, m5, fun H h => ⟨zin_of (by omega) (by omega), zin_of (by omega) (by omega), 1, E6, by rw [h, ea]; exact m6, fun z => absurd z (by omega), fun _ => K⟩⟩, fun z => absurd (by decide) z⟩⟩
        by_cases hsh : E q 13 ≠ 0 ∧ v2 = 0
        · have kk := hs hsh.1 hsh.2
          have kgz : kg (E 3) (E 4) (fw w) (fw (sb (TB c) o)) 1000 0 0 := by
            have := kg_sb (W := E 4) hP (T := TB c) (fun L l0 l1 => by
              cases hL : lkp c L with
              | none =>
                rw [TB_none hL]
                refine ⟨tm_l1 (by rw [fw_c0]; omega), ?_, fun M => cn_0 _⟩
                simp only [wl1]
                have : wt1 (E 4) (-1 - L) = 1 := if_pos (by omega)
                omega
              | some u =>
                rw [TB_some hL]
                rcases a4 _ (lkp_mem hL) with z | ⟨z1, z2, _⟩
                · exact absurd z (by simp)
                · have une : u ≠ [] := fun e => by have := nd_ge z1; dsimp only at this; rw [e] at this; simp at this
                  exact ⟨z1, (wl_pos une (fun v hv v0 => hwp v (z2 v hv) v0)).1, fun M => cn_0 _⟩) 1000 p o hp ho (fun v hv => by have := plo v hv; omega) (fun v hv => by have := olo v hv; omega) kk
            rw [← a3] at this
            exact this
          refine ⟨1, E6, fun kz Q hQ => pre kz Q ⟨fun z => absurd (by rw [q13] at z; exact z) hsh.1, fun _ => ⟨fun _ => hQ, fun z => absurd hsh.2 z⟩⟩, fz_mono hf6 (by simp), st6, s6, Or.inl ⟨rfl, _, rwz_1 x2 y2 kgz, len6, wr29⟩⟩
        · have w1 : lk (E6 (r + 1)) at' (fw w) 0 w.length := by rw [hf6 (r + 1) (by simp; omega)]; exact wat
          have z1 : lk (E6 29) 0 (fw (sb (TB c) o)) 0 (sb (TB c) o).length := fun k hk => by
            rw [fw_0, Int.zero_add]; exact wr29 k hk
          have k63 : E6 3 = E 3 := hf6 3 (by simp)
          have k64 : E6 4 = E 4 := hf6 4 (by simp)
          have tW : tm (E 3) (E6 (r + 1)) at' w.length := tm_congr hw (fun k hk => (w1 k hk).symm)
          have tZ : tm (E 3) (E6 29) 0 (sb (TB c) o).length := tm_congr tz (fun k hk => (z1 k hk).symm)
          have zlo : ∀ x, x ∈ sb (TB c) o → -20 ≤ x := fun x hx => by
            rcases sb_mem hx with ⟨q1, q2⟩ | ⟨v, v1, v2', v3⟩
            · omega
            · obtain ⟨u, u1, _, u3, _⟩ := key v v1 v2'
              rw [TB_some u1] at v3
              exact wlo x (u3 x v3)
          obtain ⟨rr, E7, m7, f7, s7, h7⟩ := compare_gr (E := E6) (a := r + 1) (b := 29) (n := 180) (m := 1000) (N := 1000) (i := at') (j := 0) hX hr.2.2.2.2.2.1 hr.2.1 (zX_20_13 hX).2.2 rfl (by rw [k63]; exact hP) (by rw [k64]; exact hW) (by omega) (by omega) (by omega) (by omega) (by decide) (by decide) (t := w.length) (by omega) (by omega) s6 (by rw [k63]; exact tW) (by rw [k63]; exact tZ) at0 (by omega) (by omega) (by omega) (fun k hk => by
              rw [w1 k hk, fw_0, ← fw_nat]; have := wlo _ (fw_mem hk); omega) (fun k hk => by
              rw [z1 k hk, fw_0, ← fw_nat]; have := zlo _ (fw_mem hk); omega)
          rw [k63, k64, kg_iff hP tW tZ w1 z1] at h7
          have st7 : stI E7 := by
            unfold stI at *
            rw [f7 20 (by simp), f7 22 (by simp), f7 23 (by simp)]; exact st6
          have hf7 : fz [18, 19, 20, 21, 22, 23, 27, 28, 29] E E7 := fz_trans (fz_mono hf6 (by simp)) (fz_mono f7 (by simp))
          by_cases hk : rr = 1
          · refine ⟨1, E7, fun kz Q hQ => pre kz Q ⟨fun _ => ⟨rr, E7, m7, fun z => absurd hk z, fun _ => hQ⟩, fun z => ⟨fun z' => absurd ⟨by rw [q13] at z; exact z, z'⟩ hsh, fun _ => ⟨rr, E7, m7, fun z => absurd hk z, fun _ => hQ⟩⟩⟩, hf7, st7, s7, Or.inl ⟨rfl, _, rwz_1 x2 y2 (h7.1 hk), by rw [f7 20 (by simp)]; exact len6, fun k hk' => by rw [f7 29 (by simp)]; exact wr29 k hk'⟩⟩
          · refine ⟨0, E7, fun kz Q hQ => pre kz Q ⟨fun _ => ⟨rr, E7, m7, fun _ => hQ, fun z => absurd hk z⟩, fun z => ⟨fun z' => absurd ⟨by rw [q13] at z; exact z, z'⟩ hsh, fun _ => ⟨rr, E7, m7, fun _ => hQ, fun z => absurd hk z⟩⟩⟩, hf7, st7, s7, Or.inr ⟨rfl, rwz_2 x2 (fun q => hk (h7.2 q.2))⟩⟩
      · omega
    · subst y1
      exact ⟨0, E2, fun kz Q hQ => X4_fits_87 (o5 := some q) (o6 := some (q + 1 + 1)) hX hr ⟨E1, m1, 1, E2, m2, fun z => absurd z (by omega), fun _ => ⟨0, m3, fun z => absurd rfl z, fun _ => hQ⟩⟩, fz_mono hf2 (by simp), bdC_stI b2, s19, Or.inr ⟨rfl, rwz_2 x2 (fun q => y2 q.1)⟩⟩
  · subst x1
    exact ⟨0, E2, fun kz Q hQ => X4_fits_87 (o5 := some q) (o6 := some (q + 1 + 1)) hX hr ⟨E1, m1, 0, E2, m2, fun _ => hQ, fun z => absurd rfl z⟩, fz_mono hf2 (by simp), bdC_stI b2, s19, Or.inr ⟨rfl, rwz_0 x2⟩⟩
end QE
