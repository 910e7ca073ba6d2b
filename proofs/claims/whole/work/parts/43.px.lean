/-! ===== marks ===== -/
theorem i32_a (x m : Int32) (h : x ||| m = m) : x &&& (m ^^^ -1) = 0 := by
  have hb : x.toBitVec ||| m.toBitVec = m.toBitVec := by
    have := congrArg Int32.toBitVec h
    simpa using this
  apply Int32.toBitVec_inj.1
  simp only [Int32.toBitVec_and, Int32.toBitVec_xor]
  apply BitVec.eq_of_getLsbD_eq
  intro i hi
  have q := congrArg (fun z => z.getLsbD i) hb
  simp only [BitVec.getLsbD_or] at q
  have e : (-1 : Int32).toBitVec = BitVec.allOnes 32 := rfl
  have z : (0 : Int32).toBitVec = 0#32 := rfl
  rw [e, z]
  simp only [BitVec.getLsbD_and, BitVec.getLsbD_xor, BitVec.getLsbD_allOnes, BitVec.getLsbD_zero]
  revert q
  generalize x.toBitVec.getLsbD i = a
  generalize m.toBitVec.getLsbD i = b
  cases a <;> cases b <;> simp [hi]
/-- bits laid together -/
def mk32 : List Int → Int32
  | [] => 0
  | b :: bs => mk32 bs ||| Int32.ofInt (zshl 1 b)
theorem mk32_in {b : Int} : ∀ {bs : List Int}, b ∈ bs → Int32.ofInt (zshl 1 b) ||| mk32 bs = mk32 bs
  | [], h => absurd h (by simp)
  | c :: bs, h => by
    simp only [mk32]
    rcases List.mem_cons.1 h with e | e
    · subst e; rw [Int32.or_comm (mk32 bs), ← Int32.or_assoc, Int32.or_self]
    · rw [← Int32.or_assoc, mk32_in e]
theorem mk32_sub {cs : List Int} : ∀ {bs : List Int}, (∀ b, b ∈ bs → b ∈ cs) → mk32 bs ||| mk32 cs = mk32 cs
  | [], _ => by simp [mk32]
  | b :: bs, h => by
    simp only [mk32]
    rw [Int32.or_assoc, mk32_in (h b List.mem_cons_self), mk32_sub (fun x hx => h x (List.mem_cons_of_mem _ hx))]
/-- m has just these bits -/
def mkI (m : Int) (S : Int → Prop) : Prop := ∃ bs : List Int, Int32.ofInt m = mk32 bs ∧ ∀ b, b ∈ bs ↔ S b
theorem mkI_0 : mkI 0 (fun _ => False) := ⟨[], rfl, fun b => by simp⟩
theorem mkI_add {m b : Int} {S : Int → Prop} (h : mkI m S) : mkI (zor m (zshl 1 b)) (fun x => S x ∨ x = b) := by
  obtain ⟨bs, h1, h2⟩ := h
  refine ⟨b :: bs, ?_, fun x => ?_⟩
  · unfold zor
    rw [Int32.ofInt_toInt, h1]
    rfl
  · rw [List.mem_cons, h2]
    exact ⟨fun c => c.symm, fun c => c.symm⟩
theorem mkI_iff {m : Int} {S S' : Int → Prop} (h : mkI m S) (e : ∀ b, S b ↔ S' b) : mkI m S' := by
  obtain ⟨bs, h1, h2⟩ := h
  exact ⟨bs, h1, fun b => (h2 b).trans (e b)⟩
theorem mkI_sub {m n : Int} {S S' : Int → Prop} (h : mkI m S) (h' : mkI n S') (e : ∀ b, S b → S' b) : zand m (zxor n (-1)) = 0 := by
  obtain ⟨bs, h1, h2⟩ := h
  obtain ⟨cs, h3, h4⟩ := h'
  unfold zand zxor
  rw [Int32.ofInt_toInt, h1, h3]
  have := i32_a (mk32 bs) (mk32 cs) (mk32_sub (fun b hb => (h4 b).2 (e b ((h2 b).1 hb))))
  have em : Int32.ofInt (-1) = -1 := rfl
  rw [em, this]
  rfl
/-- the bits of a literal, of its first k places -/
def lb (x : zLt) (k : Nat) (b : Int) : Prop := (0 < k ∧ b = fw x.2 0 + 16 * x.1) ∨ ∃ i : Nat, 1 ≤ i ∧ i < k ∧ b = fw x.2 i ∧ 0 ≤ b
def abt (A : List zLt) (n : Nat) (b : Int) : Prop := ∃ l : Nat, l < n ∧ lb (lit A l) (lit A l).2.length b
def mkA (m : Int) (A : List zLt) : Prop := mkI m (abt A A.length)
section PX
variable {d : List Nat} {G : Nat → Int → Option Nat} {E : Nat → Int → Int}
theorem mark_ok {r : Nat} {A : List zLt} (hX : zK zXt d G) (hr : zRk d G r) (hA : rowC E r A) (ha : aok (E 3) A) : ∃ E' : Nat → Int → Int, zM zm_X5_mark [zR r] (d, G, E) none (d, G, E') ∧ fz [r] E E' ∧ rowC E' r A ∧ mkA (E' r 4) A := by
  have h6 := hA.2.1
  have rc : ∀ F : Nat → Int → Int, fz [r] E F → F r 3 = E r 3 → rowC F r A := fun F hf h3 => by
    refine ⟨by rw [h3]; exact hA.1, h6, fun l hl => ?_, fun l hl => ?_⟩
    · rw [hf (r + 2) (by simp)]; exact hA.2.2.1 l hl
    · rw [hf (r + 3) (by simp), hf (r + 1) (by simp)]; exact hA.2.2.2 l hl
  have outer : ∀ (m l : Nat) (F : Nat → Int → Int), l + m = A.length → fz [r] E F → F r 3 = E r 3 → mkI (F r 4) (abt A l) → ∃ E' : Nat → Int → Int, zgo zm_X5_mark 7 [(0, zR r), (1, zI (l : Int))] [] (d, G, F) none (d, G, E') ∧ fz [r] E E' ∧ E' r 3 = E r 3 ∧ mkA (E' r 4) A := by
    intro m
    induction m with
    | zero =>
      intro l F hl hf h3 hm
      have e : l = A.length := by omega
      subst e
      exact ⟨F, fun kz Q hQ => X5_mark_7 hX hr ⟨fun _ => hQ, fun c => absurd (by rw [h3, hA.1]; omega) c⟩, hf, h3, hm⟩
    | succ m ih =>
      intro l F hl hf h3 hm
      have hlA : l < A.length := by omega
      obtain ⟨dn, dn2, l30, pl⟩ := hA.2.2.2 l hlA
      have hw := ha l hlA
      have hp := wok1_pos hw
      have o1 := hA.2.2.1 l (by omega)
      have o2 := hA.2.2.1 (l + 1) (by omega)
      have el : ((l + 1 : Nat) : Int) = (l : Int) + 1 := by omega
      rw [el] at o2
      have ob : offs A (l + 1) ≤ 180 := rowC_le hA (by omega)
      have eo : offs A (l + 1) = offs A l + (lit A l).2.length := rfl
      have e0 : E (r + 1) (offs A l) = fw (lit A l).2 0 := by
        have := pl 0 hp
        simpa [fw] using this
      have h016 := (hw.1.2 0 hp).2
      have e00 : (0 : Int) + ((0 : Nat) : Int) = 0 := by omega
      rw [e00] at h016
      have h00 := hw.2.1
      have inner : ∀ (p k : Nat) (F : Nat → Int → Int), k + p = (lit A l).2.length → 1 ≤ k → fz [r] E F → F r 3 = E r 3 → mkI (F r 4) (fun b => abt A l b ∨ lb (lit A l) k b) → ∃ E' : Nat → Int → Int, zgo zm_X5_mark 62 [(0, zR r), (1, zI (l : Int)), (2, zI ((offs A l : Int) + k))] [] (d, G, F) none (d, G, E') ∧ fz [r] E E' ∧ E' r 3 = E r 3 ∧ mkA (E' r 4) A := by
        intro p
        induction p with
        | zero =>
          intro k F hk k1 hf h3 hm
          have ek : k = (lit A l).2.length := by omega
          obtain ⟨E', z, zr⟩ := ih (l + 1) F (by omega) hf h3 (mkI_iff hm (fun b => by
            unfold abt
            constructor
            · rintro (⟨l', a1, a2⟩ | c)
              · exact ⟨l', by omega, a2⟩
              · exact ⟨l, by omega, by rw [← ek]; exact c⟩
            · rintro ⟨l', a1, a2⟩
              rcases (by omega : l' < l ∨ l' = l) with c | c
              · exact Or.inl ⟨l', c, a2⟩
              · subst c; exact Or.inr (by rw [ek]; exact a2)))
          rw [el] at z
          have f2 : F (r + 2) = E (r + 2) := hf _ (by simp)
          exact ⟨E', fun kz Q hQ => X5_mark_62 hX hr ⟨zin_of (by omega) (by omega), ⟨by omega, by omega⟩, fun _ => ⟨zin_of (by omega) (by omega), z kz Q hQ⟩, fun c => absurd (by rw [f2, o2]; omega) c⟩, zr⟩
        | succ p ih2 =>
          intro k F hk k1 hf h3 hm
          have f1 : F (r + 1) = E (r + 1) := hf _ (by simp)
          have f2 : F (r + 2) = E (r + 2) := hf _ (by simp)
          have pk := pl k (by omega)
          rw [← fw_nat] at pk
          have ek : (offs A l : Int) + ((k + 1 : Nat) : Int) = offs A l + k + 1 := by omega
          by_cases hn : fw (lit A l).2 k < 0
          · obtain ⟨E', z, zr⟩ := ih2 (k + 1) F (by omega) (by omega) hf h3 (mkI_iff hm (fun b => by
              unfold lb
              constructor
              · rintro (c | c | ⟨i, i1, i2, i3⟩)
                · exact Or.inl c
                · exact Or.inr (Or.inl ⟨by omega, c.2⟩)
                · exact Or.inr (Or.inr ⟨i, i1, by omega, i3⟩)
              · rintro (c | c | ⟨i, i1, i2, i3, i4⟩)
                · exact Or.inl c
                · exact Or.inr (Or.inl ⟨by omega, c.2⟩)
                · rcases (by omega : i = k ∨ i < k) with e | e
                  · subst e; omega
                  · exact Or.inr (Or.inr ⟨i, i1, e, i3, i4⟩)))
            rw [ek] at z
            exact ⟨E', fun kz Q hQ => X5_mark_62 hX hr ⟨zin_of (by omega) (by omega), ⟨by omega, by omega⟩, fun c => absurd c (by rw [f2, o2]; omega), fun _ => ⟨⟨by omega, by omega⟩, fun _ => ⟨zin_of (by omega) (by omega), z kz Q hQ⟩, fun c => absurd (by rw [f1, pk]; exact hn) c⟩⟩, zr⟩
          · obtain ⟨E', z, zr⟩ := ih2 (k + 1) (zuE F r 4 (zor (F r 4) (zshl 1 (fw (lit A l).2 k)))) (by omega) (by omega) (fz_put hf (by simp)) (by rw [zuE_ix (by decide)]; exact h3) (by
              rw [zuE_same]
              refine mkI_iff (mkI_add hm) (fun b => ?_)
              unfold lb
              constructor
              · rintro ((c | c | ⟨i, i1, i2, i3⟩) | c)
                · exact Or.inl c
                · exact Or.inr (Or.inl ⟨by omega, c.2⟩)
                · exact Or.inr (Or.inr ⟨i, i1, by omega, i3⟩)
                · exact Or.inr (Or.inr ⟨k, k1, by omega, c, by omega⟩)
              · rintro (c | c | ⟨i, i1, i2, i3, i4⟩)
                · exact Or.inl (Or.inl c)
                · exact Or.inl (Or.inr (Or.inl ⟨by omega, c.2⟩))
                · rcases (by omega : i = k ∨ i < k) with e | e
                  · subst e; exact Or.inr i3
                  · exact Or.inl (Or.inr (Or.inr ⟨i, i1, e, i3, i4⟩)))
            rw [ek] at z
            exact ⟨E', fun kz Q hQ => X5_mark_62 hX hr ⟨zin_of (by omega) (by omega), ⟨by omega, by omega⟩, fun c => absurd c (by rw [f2, o2]; omega), fun _ => ⟨⟨by omega, by omega⟩, fun c => absurd (by rw [f1, pk] at c; exact c) hn, fun _ => ⟨⟨by omega, by omega⟩, fun H h => ⟨zin_of (by omega) (by omega), by rw [h, f1, pk]; exact z kz Q hQ⟩⟩⟩⟩, zr⟩
      have f1 : F (r + 1) = E (r + 1) := hf _ (by simp)
      have f2 : F (r + 2) = E (r + 2) := hf _ (by simp)
      have f3 : F (r + 3) = E (r + 3) := hf _ (by simp)
      obtain ⟨E', z, zr⟩ := inner ((lit A l).2.length - 1) 1 (zuE F r 4 (zor (F r 4) (zshl 1 (fw (lit A l).2 0 + 16 * (lit A l).1)))) (by omega) (by omega) (fz_put hf (by simp)) (by rw [zuE_ix (by decide)]; exact h3) (by
        rw [zuE_same]
        refine mkI_iff (mkI_add hm) (fun b => ?_)
        unfold lb
        constructor
        · rintro (c | c)
          · exact Or.inl c
          · exact Or.inr (Or.inl ⟨by omega, c⟩)
        · rintro (c | c | ⟨i, i1, i2, i3⟩)
          · exact Or.inl c
          · exact Or.inr c.2
          · omega)
      have e1 : (offs A l : Int) + ((1 : Nat) : Int) = offs A l + 1 := by omega
      rw [e1] at z
      refine ⟨E', fun kz Q hQ => X5_mark_7 hX hr ⟨fun c => absurd c (by rw [h3, hA.1]; omega), fun _ => ?_⟩, zr⟩
      rw [f1, f2, f3, o1, e0, dn]
      refine ⟨⟨by omega, by omega⟩, ⟨by omega, by omega⟩, ⟨by omega, by omega⟩, fun c => ⟨zin_of (by omega) (by omega), fun H h => ?_⟩, fun c => ⟨zin_of (by omega) (by omega), fun H h => ?_⟩⟩
      · have eH : H = zuE F r 4 (zor (F r 4) (zshl 1 (fw (lit A l).2 0 + 16 * (lit A l).1))) := by rw [h, c]; rfl
        have eH2 : H (r + 2) = E (r + 2) := by rw [eH]; exact (zuE_nf (by omega)).trans f2
        rw [eH2, o1, eH]
        exact ⟨⟨by omega, by omega⟩, zin_of (by omega) (by omega), z kz Q hQ⟩
      · have c1 : (lit A l).1 = 1 := by omega
        have eH : H = zuE F r 4 (zor (F r 4) (zshl 1 (fw (lit A l).2 0 + 16 * (lit A l).1))) := by rw [h, c1]; rfl
        have eH2 : H (r + 2) = E (r + 2) := by rw [eH]; exact (zuE_nf (by omega)).trans f2
        rw [eH2, o1, eH]
        exact ⟨⟨by omega, by omega⟩, zin_of (by omega) (by omega), z kz Q hQ⟩
  obtain ⟨E', z, a1, a2, a3⟩ := outer A.length 0 (zuE E r 4 0) (by omega) (fz_put fz_rfl (by simp)) (zuE_ix (by decide)) (by
    rw [zuE_same]
    refine mkI_iff mkI_0 (fun b => ⟨fun c => absurd c id, fun c => ?_⟩)
    obtain ⟨l, l1, _⟩ := c
    omega)
  exact ⟨E', zM_go rfl (Nat.le_of_ble_eq_true rfl) (fun kz Q hQ => X5_mark_0 hX hr (fun H h => by rw [h]; exact z kz Q hQ)), a1, rc E' a1 a2, a3⟩
end PX
/-! ===== taking in ===== -/
/-- the literals behind find their likes, one after the other -/
def tk (P : Int → Int) (D : List zLt) : List zLt → zBd → Prop
  | [], _ => True
  | c :: C, b => ∃ (j : Nat) (b' : zBd), j < D.length ∧ c.1 = (lit D j).1 ∧ mt P c.2 b (lit D j).2 = some b' ∧ tk P D C b'
/-- so, from literal j on -/
def tkf (P : Int → Int) (D : List zLt) (c : zLt) (C : List zLt) (b : zBd) (j : Nat) : Prop := ∃ (j' : Nat) (b' : zBd), j ≤ j' ∧ j' < D.length ∧ c.1 = (lit D j').1 ∧ mt P c.2 b (lit D j').2 = some b' ∧ tk P D C b'
theorem tk_f {P : Int → Int} {D : List zLt} {c : zLt} {C : List zLt} {b : zBd} : tk P D (c :: C) b ↔ tkf P D c C b 0 := by
  constructor
  · rintro ⟨j, b', h⟩; exact ⟨j, b', Nat.zero_le _, h⟩
  · rintro ⟨j, b', _, h⟩; exact ⟨j, b', h⟩
def takesP (P : Int → Int) (C D : List zLt) : Prop := C.length ≤ D.length ∧ tk P D C []
/-- signs matched are there -/
theorem mt_mem {P : Int → Int} (hP : pok P) : ∀ (p : List Int) (b : zBd) (w : List Int) (q : Nat) (b' : zBd), ts P (fw p) 0 q p.length → ts P (fw w) 0 q w.length → mt P p b w = some b' → ∀ v, v ∈ p → 0 ≤ v → v ∈ w
  | [], _, _, _, _, _, _, _, v, hv, _ => absurd hv (by simp)
  | x :: p, b, w, q, b', hp, hw, h, v, hv, h0 => by
    have q1 : q ≠ 0 := fun e => by have := (ts_pos hp).1 e; simp at this
    obtain ⟨q', rfl⟩ : ∃ q', q = q' + 1 := ⟨q - 1, by omega⟩
    have w0 : w ≠ [] := fun e => by subst e; have := (ts_pos hw).2 rfl; omega
    simp only [mt] at h
    by_cases hx : 0 ≤ x
    · rw [if_pos hx] at h
      by_cases he : fw w 0 = x
      · rw [if_pos he] at h
        obtain ⟨c0, w', rfl⟩ := List.exists_cons_of_ne_nil w0
        rw [fw_c0] at he
        subst he
        rcases List.mem_cons.1 hv with e | e
        · subst e; exact List.mem_cons_self
        · exact List.mem_cons_of_mem _ (mt_mem hP p b w' _ b' (tsw_sgn hP hp hx) (tsw_sgn hP hw hx) h v e h0)
      · rw [if_neg he] at h; exact absurd h (by simp)
    · rw [if_neg hx] at h
      obtain ⟨n, n0, nl, ntl, ntm, hw'⟩ := tsw_trm hP hw
      rw [ntl] at h
      have hv' : v ∈ p := by
        rcases List.mem_cons.1 hv with e | e
        · omega
        · exact e
      have hp' := tsw_let hp (by omega)
      cases hL : lkp b (-1 - x) with
      | none =>
        rw [hL] at h
        exact List.mem_of_mem_drop (mt_mem hP p _ _ _ b' hp' hw' h v hv' h0)
      | some u =>
        rw [hL] at h
        dsimp only at h
        by_cases he : u = w.take n
        · rw [if_pos he] at h
          exact List.mem_of_mem_drop (mt_mem hP p _ _ _ b' hp' hw' h v hv' h0)
        · rw [if_neg he] at h; exact absurd h (by simp)
theorem fw_mem {w : List Int} {k : Nat} (h : k < w.length) : fw w k ∈ w := by
  rw [fw_nat, List.getD_eq_getElem?_getD, List.getElem?_eq_getElem h]
  exact List.getElem_mem h
theorem mem_fw {w : List Int} {v : Int} (h : v ∈ w) : ∃ k : Nat, k < w.length ∧ fw w k = v := by
  obtain ⟨k, hk, e⟩ := List.getElem_of_mem h
  exact ⟨k, hk, by rw [fw_nat, List.getD_eq_getElem?_getD, List.getElem?_eq_getElem hk, e]; rfl⟩
theorem lb_mt {P : Int → Int} (hP : pok P) {c x : zLt} {b b' : zBd} (hc : wok1 P c.2) (hx : wok1 P x.2) (h1 : c.1 = x.1) (h : mt P c.2 b x.2 = some b') : ∀ v, lb c c.2.length v → lb x x.2.length v := by
  obtain ⟨dc, wc⟩ := c
  obtain ⟨dx, wx⟩ := x
  dsimp only at *
  cases wc with
  | nil => have := wok1_pos hc; simp at this
  | cons v0 pc =>
    cases wx with
    | nil => have := wok1_pos hx; simp at this
    | cons x0 px =>
      have a0 := hc.2.1
      rw [fw_c0] at a0
      have hs := ts_1.2 hc.1
      have hs2 := ts_1.2 hx.1
      have e0 : x0 = v0 := by
        simp only [mt] at h
        rw [if_pos a0, fw_c0] at h
        by_cases e : x0 = v0
        · exact e
        · rw [if_neg e] at h; exact absurd h (by simp)
      subst e0
      have h' : mt P pc b px = some b' := by
        simp only [mt] at h
        rw [if_pos a0, fw_c0, if_pos rfl] at h
        exact h
      have mm := mt_mem hP pc b px _ b' (tsw_sgn hP hs a0) (tsw_sgn hP hs2 a0) h'
      rintro v (⟨_, q⟩ | ⟨i, i1, i2, i3, i4⟩)
      · refine Or.inl ⟨by simp, ?_⟩
        dsimp only at q ⊢
        rw [fw_c0] at q ⊢
        rw [q, h1]
      · dsimp only at i3 i2
        have e : fw (x0 :: pc) (i : Int) = fw pc ((i - 1 : Nat) : Int) := fw_cs (by omega)
        rw [e] at i3
        rw [List.length_cons] at i2
        have := mm v (by rw [i3]; exact fw_mem (by omega)) i4
        obtain ⟨k, k1, k2⟩ := mem_fw this
        refine Or.inr ⟨k + 1, by omega, by simp; omega, ?_, i4⟩
        dsimp only
        rw [fw_cs (k := k) (by omega)]
        exact k2.symm
theorem tk_abt {P : Int → Int} (hP : pok P) {D : List zLt} (hD : aok P D) : ∀ (C : List zLt) (b : zBd), aok P C → tk P D C b → ∀ v l, l < C.length → lb (lit C l) (lit C l).2.length v → abt D D.length v
  | [], _, _, _, _, l, hl, _ => absurd hl (by simp)
  | c :: C, b, hC, h, v, l, hl, hv => by
    obtain ⟨j, b', j1, j2, j3, j4⟩ := h
    cases l with
    | zero =>
      rw [lit_c0] at hv
      exact ⟨j, j1, lb_mt hP (aok_hd hC) (hD j j1) j2 j3 v hv⟩
    | succ l =>
      rw [lit_cs] at hv
      exact tk_abt hP hD C b' (aok_tl hC) j4 v l (by simpa using hl) hv
