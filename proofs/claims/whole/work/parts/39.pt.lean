/-! ===== cleaning: what stays; the class ===== -/
/-- the literals that stay, with their sides in order -/
noncomputable def cl1 (P W : Int → Int) : List zLt → List zLt → List zLt
  | acc, [] => acc
  | acc, y :: B => @ite _ (goesP P acc (y.1, sw P W y.2)) (Classical.propDecidable _) (cl1 P W acc B) (cl1 P W (acc ++ [(y.1, sw P W y.2)]) B)
theorem cl1_go {P W : Int → Int} {acc B : List zLt} {y : zLt} (h : goesP P acc (y.1, sw P W y.2)) : cl1 P W acc (y :: B) = cl1 P W acc B := by
  simp only [cl1]; exact if_pos h
theorem cl1_st {P W : Int → Int} {acc B : List zLt} {y : zLt} (h : ¬ goesP P acc (y.1, sw P W y.2)) : cl1 P W acc (y :: B) = cl1 P W (acc ++ [(y.1, sw P W y.2)]) B := by
  simp only [cl1]; exact if_neg h
/-- every literal is one -/
def aok (P : Int → Int) (A : List zLt) : Prop := ∀ l : Nat, l < A.length → wok1 P (lit A l).2
theorem aok_iff {P : Int → Int} {A : List zLt} : aok P A ↔ ∀ y, y ∈ A → wok1 P y.2 := by
  constructor
  · intro h y hy
    obtain ⟨l, hl, e⟩ := List.getElem_of_mem hy
    have := h l hl
    have e2 : lit A l = y := by unfold lit; rw [List.getD_eq_getElem?_getD, List.getElem?_eq_getElem hl, e]; rfl
    rw [e2] at this; exact this
  · intro h l hl
    have e2 : lit A l = A[l] := by unfold lit; rw [List.getD_eq_getElem?_getD, List.getElem?_eq_getElem hl]; rfl
    rw [e2]
    exact h _ (List.getElem_mem hl)
theorem aok_nil {P : Int → Int} : aok P [] := fun l hl => absurd hl (by simp)
theorem aok_app {P : Int → Int} {A B : List zLt} (h1 : aok P A) (h2 : aok P B) : aok P (A ++ B) := by
  rw [aok_iff] at *
  intro y hy
  rcases List.mem_append.1 hy with c | c
  · exact h1 y c
  · exact h2 y c
theorem aok_cons {P : Int → Int} {y : zLt} {B : List zLt} (h1 : wok1 P y.2) (h2 : aok P B) : aok P (y :: B) := by
  rw [aok_iff] at *
  intro x hx
  rcases List.mem_cons.1 hx with c | c
  · rw [c]; exact h1
  · exact h2 x c
theorem aok_hd {P : Int → Int} {y : zLt} {B : List zLt} (h : aok P (y :: B)) : wok1 P y.2 := aok_iff.1 h y List.mem_cons_self
theorem aok_tl {P : Int → Int} {y : zLt} {B : List zLt} (h : aok P (y :: B)) : aok P B := aok_iff.2 (fun x hx => aok_iff.1 h x (List.mem_cons_of_mem _ hx))
theorem aok_l {P : Int → Int} {A B : List zLt} (h : aok P (A ++ B)) : aok P A := aok_iff.2 (fun x hx => aok_iff.1 h x (List.mem_append_left _ hx))
theorem aok_r {P : Int → Int} {A B : List zLt} (h : aok P (A ++ B)) : aok P B := aok_iff.2 (fun x hx => aok_iff.1 h x (List.mem_append_right _ hx))
theorem cl1_len {P W : Int → Int} : ∀ (B acc : List zLt), (cl1 P W acc B).length ≤ acc.length + B.length
  | [], acc => by simp [cl1]
  | y :: B, acc => by
    simp only [cl1]
    split
    · have := cl1_len (P := P) (W := W) B acc
      rw [List.length_cons]; omega
    · have := cl1_len (P := P) (W := W) B (acc ++ [(y.1, sw P W y.2)])
      rw [List.length_append, List.length_cons, List.length_nil] at this
      rw [List.length_cons]; omega
theorem cl1_aok {P W : Int → Int} (hP : pok P) (h2 : P 0 = 2) : ∀ (B acc : List zLt), aok P acc → aok P B → aok P (cl1 P W acc B)
  | [], acc, h, _ => by simp only [cl1]; exact h
  | y :: B, acc, h, hB => by
    simp only [cl1]
    split
    · exact cl1_aok hP h2 B acc h (aok_tl hB)
    · exact cl1_aok hP h2 B _ (aok_app h (aok_cons (sw_wok hP h2 (aok_hd hB)) aok_nil)) (aok_tl hB)
theorem aok_ff {P : Int → Int} {A : List zLt} (h : aok P A) : ∀ i : Nat, i < offs A A.length → -40 ≤ ff A i ∧ ff A i < 16 := fun i hi => by
  obtain ⟨l, k, a, b, e⟩ := offs_find (Nat.le_refl _) hi
  subst e
  unfold ff
  rw [flat_at a b]
  have hw := h l a
  have h1 := hw.2.2 k b
  have h2 := (hw.1.2 k b).2
  rw [fw_0] at h2
  rw [fw_nat] at h1
  exact ⟨h1, h2⟩
theorem nms_congr {F F' : Nat → Int} : ∀ {n : Nat}, (∀ i, i < n → F i = F' i) → nms F n = nms F' n
  | 0, _ => rfl
  | n + 1, h => by
    simp only [nms]
    rw [nms_congr (fun i hi => h i (by omega)), h n (by omega)]
/-- a word keeps its form under new letters -/
theorem wok1_ren {P : Int → Int} {w v : List Int} (hw : wok1 P w) (hl : v.length = w.length) (h : ∀ k : Nat, k < w.length → (w.getD k 0 < 0 → v.getD k 0 < 0 ∧ -40 ≤ v.getD k 0) ∧ (¬ w.getD k 0 < 0 → v.getD k 0 = w.getD k 0)) : wok1 P v := by
  have ndq : ∀ n : Nat, n ≤ w.length → nd P (fw v) 0 n = nd P (fw w) 0 n := fun n => by
    induction n with
    | zero => exact fun _ => rfl
    | succ n ih =>
      intro hn
      simp only [nd]
      rw [ih (by omega), fw_0, fw_0]
      have q := h n (by omega)
      by_cases c : w.getD n 0 < 0
      · rw [if_pos c, if_pos (q.1 c).1]
      · rw [if_neg c, q.2 c, if_neg c]
  have hp := wok1_pos hw
  have h0 : ¬ w.getD 0 0 < 0 := by
    have := hw.2.1
    have e : fw w 0 = w.getD 0 0 := rfl
    rw [e] at this; omega
  refine ⟨⟨by rw [hl, ndq _ (Nat.le_refl _)]; exact hw.1.1, fun k hk => ?_⟩, ?_, fun k hk => ?_⟩
  · rw [hl] at hk
    have t := hw.1.2 k hk
    rw [ndq k (by omega)]
    refine ⟨t.1, ?_⟩
    have q := h k hk
    have t2 := t.2
    rw [fw_0] at t2 ⊢
    by_cases c : w.getD k 0 < 0
    · have := (q.1 c).1; omega
    · rw [q.2 c]; exact t2
  · have q := (h 0 hp).2 h0
    have e : fw v 0 = v.getD 0 0 := rfl
    rw [e, q]; omega
  · rw [hl] at hk
    have q := h k hk
    have t := hw.2.2 k hk
    rw [fw_nat] at t ⊢
    by_cases c : w.getD k 0 < 0
    · exact (q.1 c).2
    · rw [q.2 c]; exact t
theorem nmv_b {F : Nat → Int} {k : Nat} (h : F k < 0) : nmv F k < 0 ∧ -(nms F (k + 1)).2 ≤ nmv F k := by
  unfold nmv
  rw [if_pos h]
  have a := nms_has F h
  have b := (nms_b F (k + 1)).2.2 (-1 - F k)
  exact ⟨by omega, by omega⟩
theorem nms_mono (F : Nat → Int) {k n : Nat} (h : k ≤ n) : (nms F k).2 ≤ (nms F n).2 := by
  induction n with
  | zero =>
    have : k = 0 := by omega
    subst this; omega
  | succ n ih =>
    rcases (by omega : k = n + 1 ∨ k ≤ n) with c | c
    · subst c; omega
    · have q := ih c
      have : (nms F n).2 ≤ (nms F (n + 1)).2 := by
        simp only [nms]
        split
        · dsimp only; omega
        · omega
      omega
/-- how many letters are numbered below m -/
def ct1 (v : Int) : Int := if v = -1 then 0 else 1
def cnt (f : Int → Int) : Nat → Int
  | 0 => 0
  | m + 1 => cnt f m + ct1 (f m)
theorem cnt_put {f : Int → Int} {L v : Int} (hv : v ≠ -1) (h : f L = -1) : ∀ m : Nat, cnt (fun x => if x = L then v else f x) m = cnt f m + (if 0 ≤ L ∧ L < m then 1 else 0)
  | 0 => by simp only [cnt]; rw [if_neg (by omega)]; rfl
  | m + 1 => by
    have ih := cnt_put hv h m
    simp only [cnt]
    rw [ih]
    rcases (by omega : (m : Int) = L ∨ (m : Int) ≠ L) with c | c
    · have e1 : (if (m : Int) = L then v else f m) = v := if_pos c
      have e2 : f m = -1 := by rw [c]; exact h
      have e3 : ct1 v = 1 := if_neg hv
      have e4 : ct1 (-1) = 0 := rfl
      rw [e1, e2, e3, e4, if_neg (by omega), if_pos (by omega)]
      try omega
    · have e1 : (if (m : Int) = L then v else f m) = f m := if_neg c
      rw [e1]
      rcases (by omega : (0 ≤ L ∧ L < (m : Int)) ∨ ¬ (0 ≤ L ∧ L < (m : Int))) with e | e
      · rw [if_pos e, if_pos (show 0 ≤ L ∧ L < ((m + 1 : Nat) : Int) by omega)]; omega
      · rw [if_neg e, if_neg (show ¬ (0 ≤ L ∧ L < ((m + 1 : Nat) : Int)) by omega)]; omega
theorem cnt_le (f : Int → Int) : ∀ m : Nat, cnt f m ≤ m
  | 0 => by simp [cnt]
  | m + 1 => by
    have := cnt_le f m
    simp only [cnt, ct1]
    split <;> omega
/-- letters below m give at most m numbers -/
theorem nms_cnt {F : Nat → Int} {m : Nat} : ∀ n : Nat, (∀ i, i < n → -(m : Int) ≤ F i) → (nms F n).2 = cnt (nms F n).1 m
  | 0, _ => by
    have : ∀ m : Nat, cnt (fun _ => -1) m = 0 := fun m => by
      induction m with
      | zero => rfl
      | succ m ih => simp only [cnt]; rw [ih]; rfl
    simp only [nms]
    rw [this]
  | n + 1, h => by
    have ih := nms_cnt (F := F) (m := m) n (fun i hi => h i (by omega))
    have b := nms_b F n
    simp only [nms]
    split
    · rename_i c
      dsimp only
      have hn := h n (by omega)
      rw [cnt_put (by omega) c.2, if_pos (by omega), ← ih]
    · exact ih
theorem lts_le {A : List zLt} {m : Nat} (h : ∀ i : Nat, i < offs A A.length → -(m : Int) ≤ ff A i) : lts A ≤ m := by
  unfold lts
  rw [nms_cnt (m := m) _ h]
  exact cnt_le _ _
theorem lts_0 {A : List zLt} : 0 ≤ lts A := (nms_b _ _).1
theorem ren_aok {P : Int → Int} {A : List zLt} (h : aok P A) : aok P (ren A) := fun l hl => by
  rw [ren_len] at hl
  refine wok1_ren (h l hl) (ren_wl hl) (fun k hk => ?_)
  rw [ren_w hl hk]
  have e : ff A (offs A l + k) = (lit A l).2.getD k 0 := flat_at hl hk
  have lt := offs_lt hl hk
  refine ⟨fun c => ?_, fun c => ?_⟩
  · rw [← e] at c
    have b := nmv_b c
    have m1 := nms_mono (ff A) (show offs A l + k + 1 ≤ offs A A.length by omega)
    have m2 := lts_le (A := A) (m := 40) (fun i hi => by have := (aok_ff h i hi).1; omega)
    unfold lts at m2
    exact ⟨b.1, by omega⟩
  · rw [← e] at c ⊢
    unfold nmv; rw [if_neg c]
section PT
variable {d : List Nat} {G : Nat → Int → Option Nat} {E : Nat → Int → Int}
theorem clean_go {r : Nat} (hX : zK zXt d G) (hr : zRk d G r) (hr1 : r + 3 < 18 ∨ 40 < r) (hr9 : 9 < r) (hP : pok (E 3)) (hW : wok (E 4)) (h2 : E 3 0 = 2) : ∀ (B acc : List zLt) (v3 : Int) (F : Nat → Int → Int), fz [18, 19, 30, 31, 32, r, r + 1, r + 2, r + 3] E F → (∀ L : Int, 0 ≤ L → L < 40 → F 19 L = 0) → rowC F r (acc ++ B) → aok (E 3) acc → aok (E 3) B → 0 ≤ v3 → v3 + B.length ≤ 6 →
    ∃ (x : Int) (E' : Nat → Int → Int), zgo zm_X2_clean 4 [(0, zR 30), (1, zR r), (2, zI (acc.length : Int)), (3, zI v3)] [] (d, G, F) (some (zI x)) (d, G, E') ∧ fz [18, 19, 30, 31, 32, r, r + 1, r + 2, r + 3] E E' ∧ (∀ L : Int, 0 ≤ L → L < 40 → E' 19 L = 0) ∧ rowC E' r (ren (cl1 (E 3) (E 4) acc B)) ∧ E' 30 4 = lts (cl1 (E 3) (E 4) acc B) ∧ (x = 1 ∧ lts (cl1 (E 3) (E 4) acc B) ≤ 20 ∨ x = 0 ∧ 20 < lts (cl1 (E 3) (E 4) acc B)) := by
  intro B
  induction B with
  | nil =>
    intro acc v3 F hf h19 hA ha hB v0 v6
    rw [List.append_nil] at hA
    obtain ⟨E', m1, m2, m3, m4⟩ := numberLetters_ok (E := F) hX hr hr1 hA (aok_ff ha)
    have g1 : fz [18, 19, 30, 31, 32, r, r + 1, r + 2, r + 3] E E' := fz_trans hf (fz_mono m3 (fun x hx => by simp at hx ⊢; omega))
    have g2 : ∀ L : Int, 0 ≤ L → L < 40 → E' 19 L = 0 := fun L l1 l2 => by rw [m3 19 (by simp; omega)]; exact h19 L l1 l2
    simp only [cl1]
    rcases (by omega : lts acc ≤ 20 ∨ 20 < lts acc) with c | c
    · refine ⟨1, E', fun kz Q hQ => X2_clean_4 hX hr ⟨fun _ => ⟨E', m1, fun q => absurd q (by rw [m4]; omega), fun _ => hQ⟩, fun _ => ⟨fun _ => ⟨E', m1, fun q => absurd q (by rw [m4]; omega), fun _ => hQ⟩, fun q => absurd (by rw [hA.1]; omega) q⟩⟩, g1, g2, m2, m4, Or.inl ⟨rfl, c⟩⟩
    · refine ⟨0, E', fun kz Q hQ => X2_clean_4 hX hr ⟨fun _ => ⟨E', m1, fun _ => hQ, fun q => absurd (by rw [m4]; omega) q⟩, fun _ => ⟨fun _ => ⟨E', m1, fun _ => hQ, fun q => absurd (by rw [m4]; omega) q⟩, fun q => absurd (by rw [hA.1]; omega) q⟩⟩, g1, g2, m2, m4, Or.inr ⟨rfl, c⟩⟩
  | cons y B ih =>
    intro acc v3 F hf h19 hA ha hB v0 v6
    obtain ⟨dn, w⟩ := y
    rw [List.length_cons] at v6
    have hlen := len_m (A := acc) (B := B) (y := (dn, w))
    have h6 := hA.2.1
    have f3 : F 3 = E 3 := hf 3 (by simp; omega)
    have f4 : F 4 = E 4 := hf 4 (by simp; omega)
    have hw : wok1 (E 3) w := aok_hd hB
    have hw' : wok1 (E 3) (sw (E 3) (E 4) w) := sw_wok hP h2 hw
    have hall : aok (E 3) (acc ++ (dn, w) :: B) := aok_app ha hB
    -- the sides in order
    have step1 : ∃ F1 : Nat → Int → Int, (∀ kz Q, (Z zm_X2_clean kz Q 4 [(0, zR 30), (1, zR r), (2, zI (acc.length : Int)), (3, zI v3)] [] (d, G, F) ↔ Z zm_X2_clean kz Q 4 [(0, zR 30), (1, zR r), (2, zI (acc.length : Int)), (3, zI v3)] [] (d, G, F))) ∧ rowC F1 r (acc ++ (dn, sw (E 3) (E 4) w) :: B) ∧ fz [18, 19, 30, 31, 32, r, r + 1, r + 2, r + 3] E F1 ∧ (∀ L : Int, 0 ≤ L → L < 40 → F1 19 L = 0) ∧ ∀ kz Q, (∃ x_15, zM zm_X2_goes [zR 30, zR r, zI (acc.length : Int)] (d, G, F1) (some (zI x_15)) (d, G, F1) ∧ (x_15 = 0 → zin ((acc.length : Int) + 1) ∧ zin (v3 + 1) ∧ Z zm_X2_clean kz Q 4 [(0, zR 30), (1, zR r), (2, zI ((acc.length : Int) + 1)), (3, zI (v3 + 1))] [] (d, G, F1)) ∧ (¬ (x_15 = 0) → ∃ E_21, zM zm_X5_remove [zR r, zI (acc.length : Int)] (d, G, F1) none (d, G, E_21) ∧ zin (v3 + 1) ∧ Z zm_X2_clean kz Q 4 [(0, zR 30), (1, zR r), (2, zI (acc.length : Int)), (3, zI (v3 + 1))] [] (d, G, E_21))) → Z zm_X2_clean kz Q 4 [(0, zR 30), (1, zR r), (2, zI (acc.length : Int)), (3, zI v3)] [] (d, G, F) := by
      obtain ⟨q, mq, hq⟩ := isEqual_ok (E := F) hX hr hA (fun l hl => wok1_pos (hall l hl)) (acc.length : Int)
      have et : ((acc.length : Int)).toNat = acc.length := by omega
      rw [et, lit_m] at hq
      rcases hq with ⟨q1, q2⟩ | ⟨q1, q2⟩
      · subst q1
        have f0 : fw w 0 = 0 := q2.2.2
        obtain ⟨F1, n1, n2, n3, n4⟩ := sortSides_ok (E := F) hX hr hr1 hA (by rw [f3]; exact hP) (by rw [f4]; exact hW) (by rw [f3]; exact h2) h19 (by rw [f3]; exact hw) f0
        rw [f3, f4] at n2
        exact ⟨F1, fun _ _ => Iff.rfl, n2, fz_trans hf (fz_mono n3 (fun x hx => by simp at hx ⊢; omega)), n4, fun kz Q K => X2_clean_4 hX hr ⟨fun c => absurd c (by omega), fun _ => ⟨fun c => absurd c (by rw [hA.1]; omega), fun _ => ⟨_, mq, fun c => absurd c (by omega), fun _ => ⟨F1, n1, K⟩⟩⟩⟩⟩
      · subst q1
        have f0 : fw w 0 ≠ 0 := fun e => q2 ⟨by omega, by omega, e⟩
        refine ⟨F, fun _ _ => Iff.rfl, by rw [sw_no f0]; exact hA, hf, h19, fun kz Q K => X2_clean_4 hX hr ⟨fun c => absurd c (by omega), fun _ => ⟨fun c => absurd c (by rw [hA.1]; omega), fun _ => ⟨_, mq, fun _ => K, fun c => absurd rfl c⟩⟩⟩⟩
    obtain ⟨F1, _, hA1, hf1, h191, go1⟩ := step1
    have f13 : F1 3 = E 3 := hf1 3 (by simp; omega)
    have hall1 : aok (E 3) (acc ++ (dn, sw (E 3) (E 4) w) :: B) := aok_app ha (aok_cons hw' (aok_tl hB))
    have hg := goes_ok (E := F1) hX hr hA1 (by rw [f13]; exact hP) (by rw [f13]; exact h2) (by rw [f13]; exact hall1)
    rw [f13] at hg
    obtain ⟨x, mx, hx⟩ := hg
    rcases hx with ⟨x1, x2⟩ | ⟨x1, x2⟩
    · subst x1
      obtain ⟨F2, r1, r2, r3, _⟩ := remove_ok (E := F1) hX hr hA1
      obtain ⟨z, E', go, zr⟩ := ih acc (v3 + 1) F2 (fz_trans hf1 (fz_mono r3 (fun x hx => by simp at hx ⊢; omega))) (fun L l1 l2 => by rw [r3 19 (by simp; omega)]; exact h191 L l1 l2) r2 ha (aok_tl hB) (by omega) (by omega)
      rw [cl1_go x2]
      exact ⟨z, E', fun kz Q hQ => go1 kz Q ⟨1, mx, fun c => absurd c (by omega), fun _ => ⟨F2, r1, zin_of (by omega) (by omega), go kz Q hQ⟩⟩, zr⟩
    · subst x1
      have eA : acc ++ (dn, sw (E 3) (E 4) w) :: B = (acc ++ [(dn, sw (E 3) (E 4) w)]) ++ B := by simp
      rw [eA] at hA1
      obtain ⟨z, E', go, zr⟩ := ih (acc ++ [(dn, sw (E 3) (E 4) w)]) (v3 + 1) F1 hf1 h191 hA1 (aok_app ha (aok_cons hw' aok_nil)) (aok_tl hB) (by omega) (by omega)
      have el : ((acc ++ [(dn, sw (E 3) (E 4) w)]).length : Int) = (acc.length : Int) + 1 := by simp
      rw [el] at go
      rw [cl1_st x2]
      exact ⟨z, E', fun kz Q hQ => go1 kz Q ⟨0, mx, fun _ => ⟨zin_of (by omega) (by omega), zin_of (by omega) (by omega), go kz Q hQ⟩, fun c => absurd rfl c⟩, zr⟩
noncomputable def cln (P W : Int → Int) (A : List zLt) : List zLt := ren (cl1 P W [] A)
noncomputable def cll (P W : Int → Int) (A : List zLt) : Int := lts (cl1 P W [] A)
theorem clean_ok {r : Nat} {A : List zLt} (hX : zK zXt d G) (hr : zRk d G r) (hr1 : r + 3 < 18 ∨ 40 < r) (hr9 : 9 < r) (hP : pok (E 3)) (hW : wok (E 4)) (h2 : E 3 0 = 2) (h19 : ∀ L : Int, 0 ≤ L → L < 40 → E 19 L = 0) (hA : rowC E r A) (ha : aok (E 3) A) :
    ∃ (x : Int) (E' : Nat → Int → Int), zM zm_X2_clean [zR 30, zR r] (d, G, E) (some (zI x)) (d, G, E') ∧ fz [18, 19, 30, 31, 32, r, r + 1, r + 2, r + 3] E E' ∧ (∀ L : Int, 0 ≤ L → L < 40 → E' 19 L = 0) ∧ rowC E' r (cln (E 3) (E 4) A) ∧ E' 30 4 = cll (E 3) (E 4) A ∧ (x = 1 ∧ cll (E 3) (E 4) A ≤ 20 ∨ x = 0 ∧ 20 < cll (E 3) (E 4) A) := by
  obtain ⟨x, E', go, zr⟩ := clean_go (E := E) hX hr hr1 hr9 hP hW h2 A [] 0 E fz_rfl h19 hA aok_nil ha (by omega) (by have := hA.2.1; omega)
  exact ⟨x, E', zM_go rfl (Nat.le_of_ble_eq_true rfl) (fun kz Q hQ => X2_clean_0 hX hr (go kz Q hQ)), zr⟩
end PT
