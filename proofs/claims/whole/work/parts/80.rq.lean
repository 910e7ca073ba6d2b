/-! ===== steps: what they make ===== -/
theorem adds_some : ∀ {ls acc A' : List zLt}, adds acc ls = some A' → A' = acc ++ ls ∧ (∀ y, y ∈ ls → y.2.length ≤ 30) ∧ (acc.length ≤ 6 → A'.length ≤ 6)
  | [], acc, A', h => by
    simp only [adds, Option.some.injEq] at h
    subst h
    exact ⟨by simp, fun y hy => absurd hy (by simp), fun z => z⟩
  | y :: ls, acc, A', h => by
    simp only [adds] at h
    by_cases c : y.2.length ≤ 30 ∧ acc.length < 6
    · rw [if_pos c] at h
      obtain ⟨a1, a2, a3⟩ := adds_some h
      refine ⟨by rw [a1]; simp, fun z hz => ?_, fun _ => a3 (by simp; omega)⟩
      rcases List.mem_cons.1 hz with e | e
      · rw [e]; exact c.1
      · exact a2 z e
    · rw [if_neg c] at h; simp at h
theorem adds_many {ls acc : List zLt} (h6 : acc.length ≤ 6) (h : 6 < acc.length + ls.length) : adds acc ls = none := by
  cases e : adds acc ls with
  | none => rfl
  | some A' =>
    obtain ⟨a1, _, a3⟩ := adds_some e
    have := a3 h6
    rw [a1, List.length_append] at this
    omega
theorem frm_len {A : List zLt} {h : List Int → List Int} {but : Int} : ∀ {m l : Nat}, l + m = A.length → (frm A but h m l).length = if (l : Int) ≤ but ∧ but < l + m then m - 1 else m
  | 0, l, _ => by
    simp only [frm, List.length_nil]
    rw [if_neg (by omega)]
  | m + 1, l, hl => by
    simp only [frm]
    have ih := frm_len (A := A) (h := h) (but := but) (m := m) (l := l + 1) (by omega)
    by_cases c : (l : Int) = but
    · rw [if_pos c, ih, if_neg (by omega), if_pos (by omega)]; omega
    · rw [if_neg c, List.length_cons, ih]
      by_cases c2 : (l : Int) ≤ but ∧ but < l + (m + 1 : Nat)
      · rw [if_pos (by omega), if_pos c2]; omega
      · rw [if_neg (by omega), if_neg c2]
theorem frm_mem {A : List zLt} {h : List Int → List Int} {but : Int} {y : zLt} : ∀ {m l : Nat}, l + m = A.length → y ∈ frm A but h m l → ∃ k, k < A.length ∧ y = ((lit A k).1, h (lit A k).2)
  | 0, l, _, hy => by simp [frm] at hy
  | m + 1, l, hl, hy => by
    simp only [frm] at hy
    by_cases c : (l : Int) = but
    · rw [if_pos c] at hy; exact frm_mem (by omega) hy
    · rw [if_neg c] at hy
      rcases List.mem_cons.1 hy with e | e
      · exact ⟨l, by omega, e⟩
      · exact frm_mem (by omega) e
/-- symbols of what is bound -/
theorem un_mem {P : Int → Int} {S : Int → Prop} : ∀ (k : Nat) (b : zBd) (v w : List Int) (b' : zBd), un P k b v w = some (some b') → (∀ L u, lkp b L = some u → ∀ x, x ∈ u → S x) → (∀ x, x ∈ v → S x) → (∀ x, x ∈ w → S x) → ∀ L u, lkp b' L = some u → ∀ x, x ∈ u → S x
  | 0, b, v, w, b', h, _, _, _ => by simp [un] at h
  | k + 1, b, [], [], b', h, hb, _, _ => by
    simp only [un, Option.some.injEq] at h
    subst h
    exact hb
  | k + 1, b, [], _ :: _, b', h, _, _, _ => by simp [un] at h
  | k + 1, b, _ :: _, [], b', h, _, _, _ => by simp [un] at h
  | k + 1, b, x :: p, y :: q, b', h, hb, hv, hw => by
    have hp : ∀ z, z ∈ p → S z := fun z hz => hv z (List.mem_cons_of_mem _ hz)
    have hq : ∀ z, z ∈ q → S z := fun z hz => hw z (List.mem_cons_of_mem _ hz)
    have app : ∀ {u v : List Int}, (∀ z, z ∈ u → S z) → (∀ z, z ∈ v → S z) → ∀ z, z ∈ u ++ v → S z := fun h1 h2 z hz => by
      rcases List.mem_append.1 hz with e | e
      · exact h1 z e
      · exact h2 z e
    have add : ∀ (L : Int) (t : List Int), (∀ z, z ∈ t → S z) → ∀ M u, lkp (b ++ [(L, t)]) M = some u → ∀ z, z ∈ u → S z := fun L t ht M u hu => by
      rw [lkp_app1] at hu
      by_cases c : lkp b M = none
      · rw [if_pos c] at hu
        by_cases cl : L = M
        · rw [if_pos cl] at hu
          have : t = u := by simpa using hu
          rw [← this]; exact ht
        · rw [if_neg cl] at hu; simp at hu
      · rw [if_neg c] at hu; exact hb M u hu
    simp only [un] at h
    by_cases c1 : x < 0 ∧ lkp b (-1 - x) ≠ none
    · rw [if_pos c1] at h
      obtain ⟨u, hu⟩ := Option.ne_none_iff_exists'.1 c1.2
      rw [TB_some hu] at h
      exact un_mem k b _ _ b' h hb (app (hb _ u hu) hp) hw
    rw [if_neg c1] at h
    by_cases c2 : y < 0 ∧ lkp b (-1 - y) ≠ none
    · rw [if_pos c2] at h
      obtain ⟨u, hu⟩ := Option.ne_none_iff_exists'.1 c2.2
      rw [TB_some hu] at h
      exact un_mem k b _ _ b' h hb hv (app (hb _ u hu) hq)
    rw [if_neg c2] at h
    by_cases c3 : x = y
    · rw [if_pos c3] at h; exact un_mem k b _ _ b' h hb hp hq
    rw [if_neg c3] at h
    by_cases c4 : x < 0
    · rw [if_pos c4] at h
      by_cases c5 : x ∈ sb (th b) ((y :: q).take (tl P (fw (y :: q)) 0))
      · rw [if_pos c5] at h; simp at h
      · rw [if_neg c5] at h
        exact un_mem k _ _ _ b' h (add _ _ (fun z hz => hw z (List.mem_of_mem_take hz))) hp (fun z hz => hw z (List.mem_of_mem_drop hz))
    rw [if_neg c4] at h
    by_cases c6 : y < 0
    · rw [if_pos c6] at h
      by_cases c5 : y ∈ sb (th b) ((x :: p).take (tl P (fw (x :: p)) 0))
      · rw [if_pos c5] at h; simp at h
      · rw [if_neg c5] at h
        exact un_mem k _ _ _ b' h (add _ _ (fun z hz => hv z (List.mem_of_mem_take hz))) (fun z hz => hv z (List.mem_of_mem_drop hz)) hq
    rw [if_neg c6] at h; simp at h
/-- symbols under the end's standing -/
theorem th_mem {S : Int → Prop} {b : zBd} (hb : ∀ L u, lkp b L = some u → ∀ x, x ∈ u → 0 ≤ x → S x) : ∀ (k : Nat) (L : Int), 0 ≤ L → ∀ x, x ∈ xw b k L → 0 ≤ x → S x
  | 0, L, l0, x, hx, x0 => by
    have : x = -1 - L := by simpa [xw] using hx
    omega
  | k + 1, L, l0, x, hx, x0 => by
    cases e : lkp b L with
    | none =>
      rw [xw_n e] at hx
      have : x = -1 - L := by simpa using hx
      omega
    | some u =>
      rw [xw_s e] at hx
      rcases sb_mem hx with ⟨z, _⟩ | ⟨v, v1, v2, v3⟩
      · exact hb L u e x z x0
      · exact th_mem hb k (-1 - v) (by omega) x v3 x0
/-- a literal under a standing -/
theorem sb_wok {P W : Int → Int} (hP : pok P) {b : zBd} {rk : Int → Nat} (hb : bw P b rk) (hS : ∀ L u, lkp b L = some u → ∀ x, x ∈ u → 0 ≤ x → 1 ≤ W x) {w : List Int} (hw : tw P w) (h0 : 0 ≤ fw w 0) (lo : lo40 w) (hW : ∀ x, x ∈ w → 0 ≤ x → 1 ≤ W x) : wok1 P (sb (th b) w) ∧ ∀ x, x ∈ sb (th b) w → 0 ≤ x → 1 ≤ W x := by
  have t := tw_sb hP _ w (Nat.le_refl _) hw (fun v hv v0 => th_tw (L := -1 - v) hP hb (by omega))
  refine ⟨⟨t, ?_, fun k hk => ?_⟩, fun x hx x0 => ?_⟩
  · obtain ⟨c, y, rfl⟩ := List.exists_cons_of_ne_nil (tw_ne hw)
    rw [fw_c0] at h0
    rw [sb_s h0, fw_c0]; exact h0
  · rcases sb_mem (fw_mem hk) with ⟨_, z⟩ | ⟨v, v1, v2, v3⟩
    · omega
    · have := lo v v1
      exact th_lo hb (by omega) _ v3
  · rcases sb_mem hx with ⟨z, z0⟩ | ⟨v, v1, v2, v3⟩
    · exact hW x z z0
    · exact th_mem hS 40 (-1 - v) (by omega) x v3 x0
/-- what a step makes: nothing, LOST, or a row -/
def csR (P W : Int → Int) (A : List zLt) (i : Int) (B : List zLt) (r : Option (Option (List zLt))) : Prop :=
  (¬ (chs W A = -1 ∧ 0 ≤ i ∧ i < A.length ∧ chs W B ≠ -1) ∧ r = none) ∨
  ((chs W A = -1 ∧ 0 ≤ i ∧ i < A.length ∧ chs W B ≠ -1) ∧ ((UN P [] (lit A i.toNat).2 ((lit B (chs W B).toNat).2.map shf) none ∧ r = none) ∨
    ∃ b, UN P [] (lit A i.toNat).2 ((lit B (chs W B).toNat).2.map shf) (some b) ∧ r = some (adds [] (frm A i (sb (th b)) A.length 0 ++ frm B (chs W B) (fun w => sb (th b) (w.map shf)) B.length 0))))
def faR (P W : Int → Int) (A : List zLt) (i j : Int) (r : Option (Option (List zLt))) : Prop :=
  (¬ (chs W A = -1 ∧ 0 ≤ i ∧ i < A.length ∧ 0 ≤ j ∧ j < A.length ∧ i < j) ∧ r = none) ∨
  ((chs W A = -1 ∧ 0 ≤ i ∧ i < A.length ∧ 0 ≤ j ∧ j < A.length ∧ i < j) ∧ ((UN P [] (lit A i.toNat).2 (lit A j.toNat).2 none ∧ r = none) ∨
    ∃ b, UN P [] (lit A i.toNat).2 (lit A j.toNat).2 (some b) ∧ r = some (adds [] (frm A j (sb (th b)) A.length 0))))
/-- the sides of literal l -/
noncomputable def lsd (P : Int → Int) (A : List zLt) (l : Nat) : List Int := tat P (lit A l).2 1
noncomputable def rsd (P : Int → Int) (A : List zLt) (l : Nat) : List Int := tat P (lit A l).2 (1 + tl P (fw (lit A l).2) 1)
def drR (P W : Int → Int) (A : List zLt) (r : Option (Option (List zLt))) : Prop :=
  (¬ (chs W A ≠ -1 ∧ fw (lit A (chs W A).toNat).2 0 = 0) ∧ r = none) ∨
  ((chs W A ≠ -1 ∧ fw (lit A (chs W A).toNat).2 0 = 0) ∧ ((UN P [] (lsd P A (chs W A).toNat) (rsd P A (chs W A).toNat) none ∧ r = none) ∨
    ∃ b, UN P [] (lsd P A (chs W A).toNat) (rsd P A (chs W A).toNat) (some b) ∧ r = some (adds [] (frm A (chs W A) (sb (th b)) A.length 0))))
/-- the literals of the second, with another word for one -/
def frt (B : List zLt) (h : List Int → List Int) (j : Int) (x : List Int) : Nat → Nat → List zLt
  | 0, _ => []
  | m + 1, l => ((lit B l).1, if (l : Int) = j then x else h (lit B l).2) :: frt B h j x m (l + 1)
def tuC (W : Int → Int) (A : List zLt) (i s : Int) (B : List zLt) (j p : Int) : Prop := chs W A = -1 ∧ (0 ≤ i ∧ i < A.length) ∧ fw (lit A i.toNat).2 0 = 0 ∧ (s = 0 ∨ s = 1) ∧ (0 ≤ j ∧ j < B.length) ∧ (chs W B = -1 ∨ chs W B = j) ∧ (1 ≤ p ∧ p < (lit B j.toNat).2.length) ∧ 0 ≤ fw (lit B j.toNat).2 p
noncomputable def tuL (P : Int → Int) (A : List zLt) (i s : Int) : List Int := if s = 0 then lsd P A i.toNat else rsd P A i.toNat
noncomputable def tuR (P : Int → Int) (A : List zLt) (i s : Int) : List Int := if s = 0 then rsd P A i.toNat else lsd P A i.toNat
noncomputable def tuT (P : Int → Int) (B : List zLt) (j p : Int) : List Int := (tat P (lit B j.toNat).2 p.toNat).map shf
/-- the literal with r for its term -/
noncomputable def tuX (P : Int → Int) (b : zBd) (B : List zLt) (j p : Int) (r : List Int) : List Int := sb (th b) (((lit B j.toNat).2.take p.toNat).map shf) ++ (sb (th b) r ++ sb (th b) (((lit B j.toNat).2.drop (p.toNat + (tat P (lit B j.toNat).2 p.toNat).length)).map shf))
def tuRl (P W : Int → Int) (A : List zLt) (i s : Int) (B : List zLt) (j p : Int) (r : Option (Option (List zLt))) : Prop :=
  (¬ tuC W A i s B j p ∧ r = none) ∨
  (tuC W A i s B j p ∧ ((UN P [] (tuL P A i s) (tuT P B j p) none ∧ r = none) ∨
    ∃ b, UN P [] (tuL P A i s) (tuT P B j p) (some b) ∧
      ((((sb (th b) (tuL P A i s)).length ≤ 30 ∧ (sb (th b) (tuR P A i s)).length ≤ 30) ∧ kg P W (fw (sb (th b) (tuR P A i s))) (fw (sb (th b) (tuL P A i s))) 1000 0 0 ∧ r = none) ∨
       (¬ ((sb (th b) (tuL P A i s)).length ≤ 30 ∧ (sb (th b) (tuR P A i s)).length ≤ 30) ∧ r = some none) ∨
       (((sb (th b) (tuL P A i s)).length ≤ 30 ∧ (sb (th b) (tuR P A i s)).length ≤ 30) ∧ ¬ kg P W (fw (sb (th b) (tuR P A i s))) (fw (sb (th b) (tuL P A i s))) 1000 0 0 ∧ r = some (adds [] (frm A i (sb (th b)) A.length 0 ++ frt B (fun w => sb (th b) (w.map shf)) j (tuX P b B j p (tuR P A i s)) B.length 0))))))
theorem csR_det {P W : Int → Int} {A B : List zLt} {i : Int} {r r' : Option (Option (List zLt))} (h : csR P W A i B r) (h' : csR P W A i B r') : r = r' := by
  rcases h with ⟨a, a'⟩ | ⟨a, ⟨a1, a2⟩ | ⟨b, a1, a2⟩⟩ <;> rcases h' with ⟨c, c'⟩ | ⟨c, ⟨c1, c2⟩ | ⟨b', c1, c2⟩⟩
  · rw [a', c']
  · exact absurd c a
  · exact absurd c a
  · exact absurd a c
  · rw [a2, c2]
  · have := UN_det a1 c1; simp at this
  · exact absurd a c
  · have := UN_det a1 c1; simp at this
  · have := UN_det a1 c1
    have e : b = b' := by simpa using this
    subst e
    rw [a2, c2]
theorem faR_det {P W : Int → Int} {A : List zLt} {i j : Int} {r r' : Option (Option (List zLt))} (h : faR P W A i j r) (h' : faR P W A i j r') : r = r' := by
  rcases h with ⟨a, a'⟩ | ⟨a, ⟨a1, a2⟩ | ⟨b, a1, a2⟩⟩ <;> rcases h' with ⟨c, c'⟩ | ⟨c, ⟨c1, c2⟩ | ⟨b', c1, c2⟩⟩
  · rw [a', c']
  · exact absurd c a
  · exact absurd c a
  · exact absurd a c
  · rw [a2, c2]
  · have := UN_det a1 c1; simp at this
  · exact absurd a c
  · have := UN_det a1 c1; simp at this
  · have := UN_det a1 c1
    have e : b = b' := by simpa using this
    subst e
    rw [a2, c2]
theorem drR_det {P W : Int → Int} {A : List zLt} {r r' : Option (Option (List zLt))} (h : drR P W A r) (h' : drR P W A r') : r = r' := by
  rcases h with ⟨a, a'⟩ | ⟨a, ⟨a1, a2⟩ | ⟨b, a1, a2⟩⟩ <;> rcases h' with ⟨c, c'⟩ | ⟨c, ⟨c1, c2⟩ | ⟨b', c1, c2⟩⟩
  · rw [a', c']
  · exact absurd c a
  · exact absurd c a
  · exact absurd a c
  · rw [a2, c2]
  · have := UN_det a1 c1; simp at this
  · exact absurd a c
  · have := UN_det a1 c1; simp at this
  · have := UN_det a1 c1
    have e : b = b' := by simpa using this
    subst e
    rw [a2, c2]
theorem tuRl_det {P W : Int → Int} {A B : List zLt} {i s j p : Int} {r r' : Option (Option (List zLt))} (h : tuRl P W A i s B j p r) (h' : tuRl P W A i s B j p r') : r = r' := by
  rcases h with ⟨a, a'⟩ | ⟨a, ⟨a1, a2⟩ | ⟨b, a1, a2⟩⟩ <;> rcases h' with ⟨c, c'⟩ | ⟨c, ⟨c1, c2⟩ | ⟨b', c1, c2⟩⟩
  · rw [a', c']
  · exact absurd c a
  · exact absurd c a
  · exact absurd a c
  · rw [a2, c2]
  · have := UN_det a1 c1; simp at this
  · exact absurd a c
  · have := UN_det a1 c1; simp at this
  · have := UN_det a1 c1
    have e : b = b' := by simpa using this
    subst e
    rcases a2 with ⟨x1, x2, x3⟩ | ⟨x1, x3⟩ | ⟨x1, x2, x3⟩ <;> rcases c2 with ⟨y1, y2, y3⟩ | ⟨y1, y3⟩ | ⟨y1, y2, y3⟩
    · rw [x3, y3]
    · exact absurd x1 y1
    · exact absurd x2 y2
    · exact absurd y1 x1
    · rw [x3, y3]
    · exact absurd y1 x1
    · exact absurd y2 x2
    · exact absurd x1 y1
    · rw [x3, y3]
