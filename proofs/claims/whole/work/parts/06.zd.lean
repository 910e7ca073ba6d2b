/-! ===== rules of Z: locals ===== -/
def zcat (v : zV) : Bool := match v with
  | .inr (.inl _) => true
  | _ => false
theorem zcat_eq (ad : Nat → Nat) (v : zV) : ((zval ad v).category == 2) = zcat v := by
  rcases v with i | x | o
  · rfl
  · rfl
  · cases o <;> rfl
def zst (ls : List (Nat × zV)) (i : Nat) (v : zV) : List (Nat × zV) := (i, v) :: ls.filter (fun q => !(q.1 == i) && !(q.1 + 1 == i && zcat q.2))
def zst2 (ls : List (Nat × zV)) (i : Nat) (v : zV) : List (Nat × zV) := (i, v) :: ls.filter (fun q => !(q.1 == i) && (!(q.1 == i + 1) && !(q.1 + 1 == i && zcat q.2)))
theorem zst_map (ad : Nat → Nat) (ls : List (Nat × zV)) (i : Nat) (v : zV) : (i, zval ad v) :: (ls.map fun q => (q.1, zval ad q.2)).filter (fun q => !(q.1 == i) && !(q.1 + 1 == i && q.2.category == 2)) = (zst ls i v).map fun q => (q.1, zval ad q.2) := by
  unfold zst
  rw [List.map_cons, List.filter_map]
  congr 2
  apply List.filter_congr
  intro q _
  simp only [Function.comp, zcat_eq]
theorem zst2_map (ad : Nat → Nat) (ls : List (Nat × zV)) (i : Nat) (v : zV) : (i, zval ad v) :: (ls.map fun q => (q.1, zval ad q.2)).filter (fun q => !(q.1 == i) && (!(q.1 == i + 1) && !(q.1 + 1 == i && q.2.category == 2))) = (zst2 ls i v).map fun q => (q.1, zval ad q.2) := by
  unfold zst2
  rw [List.map_cons, List.filter_map]
  congr 2
  apply List.filter_congr
  intro q _
  simp only [Function.comp, zcat_eq]
section ZL
variable {f : zF} {kz : Nat × Nat} {Q : Option zV → zH → Prop} {pc : Nat} {ls ls' : List (Nat × zV)} {st st' : List zV} {h : zH}
theorem zst_ok {d : List Nat} {i : Nat} {v : zV} (hv : zok d v) (ho : ∀ q, q ∈ ls → zok d q.2) : ∀ q, q ∈ zst ls i v → zok d q.2 := fun q hq => by
  rcases List.mem_cons.mp hq with e | e
  · rw [e]; exact hv
  · exact ho q (List.mem_filter.mp e).1
theorem zst2_ok {d : List Nat} {i : Nat} {v : zV} (hv : zok d v) (ho : ∀ q, q ∈ ls → zok d q.2) : ∀ q, q ∈ zst2 ls i v → zok d q.2 := fun q hq => by
  rcases List.mem_cons.mp hq with e | e
  · rw [e]; exact hv
  · exact ho q (List.mem_filter.mp e).1
/-- an instruction that touches stack and locals -/
theorem Z.lc {pc' : Nat} (hok : (∀ v, v ∈ st → zok h.1 v) → (∀ q, q ∈ ls → zok h.1 q.2) → (∀ v, v ∈ st' → zok h.1 v) ∧ ∀ q, q ∈ ls' → zok h.1 q.2)
    (hW : ∀ (p : Program) (l : Launch) (e : Env) (R : Room) (s : State) (m : MethodId) (args : Array Value) (below : List Frame) (meth : Method) (c : Code) (w : zWp) (ad0 : Nat → Nat) (d0 : List Nat), zCx f kz Q p l R s m args meth c w d0 →
      ∀ (ad : Nat → Nat) (H : Heap) (lsA : Array Slot) (locs : List Loc) (cells slots : Nat) (Q2 : State → Prop), zPt f kz s w ad0 d0 ls st h ad H lsA locs → (∀ lsB : Array Slot, lv_has lsB f.2.2.1 (ls'.map fun q => (q.1, zval ad q.2)) → W p l e R s m args below meth c H locs cells slots Q2 (F0 m pc' lsB (st'.map (zval ad)))) → W p l e R s m args below meth c H locs cells slots Q2 (F0 m pc lsA (st.map (zval ad))))
    (K : Z f kz Q pc' ls' st' h) : Z f kz Q pc ls st h := by
  intro p l e R s m args below meth c w ad0 d0 C ad H lsA locs P
  have P' := P
  obtain ⟨a1, a2, a3, a4, a5, a6⟩ := P'
  exact hW p l e R s m args below meth c w ad0 d0 C ad H lsA locs _ _ _ P (fun lsB hB => K p l e R s m args below meth c w ad0 d0 C ad H lsB locs ⟨a1, a2, hB, (hok a5 a4).2, (hok a5 a4).1, a6⟩)
theorem Z.istore {i : Nat} {x : Int} (hd : decode f.2.1 pc = .ok (.istore i, 2)) (hi : i < f.2.2.1) (hl : zst ls i (zI x) = ls') (K : Z f kz Q (pc + 2) ls' st h) : Z f kz Q pc ls (zI x :: st) h := by
  subst hl
  exact Z.lc (fun o o2 => ⟨zok_tl o, zst_ok (zok_hd o) o2⟩) (fun p l e R s m args below meth c w ad0 d0 C ad H lsA locs cells slots Q2 P k => lv_istore C.1 C.2.1 hd P.2.2.1 hi (zst_map ad ls i (zI x)) k) K
theorem Z.istore_n {i : Fin 4} {x : Int} (hd : decode f.2.1 pc = .ok (.istore_n i, 1)) (hi : i.val < f.2.2.1) (hl : zst ls i.val (zI x) = ls') (K : Z f kz Q (pc + 1) ls' st h) : Z f kz Q pc ls (zI x :: st) h := by
  subst hl
  exact Z.lc (fun o o2 => ⟨zok_tl o, zst_ok (zok_hd o) o2⟩) (fun p l e R s m args below meth c w ad0 d0 C ad H lsA locs cells slots Q2 P k => lv_istore_n C.1 C.2.1 hd rfl P.2.2.1 hi (zst_map ad ls i.val (zI x)) k) K
theorem Z.lstore {i : Nat} {x : Int64} (hd : decode f.2.1 pc = .ok (.lstore i, 2)) (hi : i + 1 < f.2.2.1) (hl : zst2 ls i (zL x) = ls') (K : Z f kz Q (pc + 2) ls' st h) : Z f kz Q pc ls (zL x :: st) h := by
  subst hl
  exact Z.lc (fun o o2 => ⟨zok_tl o, zst2_ok (zok_hd o) o2⟩) (fun p l e R s m args below meth c w ad0 d0 C ad H lsA locs cells slots Q2 P k => lv_lstore C.1 C.2.1 hd P.2.2.1 hi (zst2_map ad ls i (zL x)) k) K
theorem Z.lstore_n {i : Fin 4} {x : Int64} (hd : decode f.2.1 pc = .ok (.lstore_n i, 1)) (hi : i.val + 1 < f.2.2.1) (hl : zst2 ls i.val (zL x) = ls') (K : Z f kz Q (pc + 1) ls' st h) : Z f kz Q pc ls (zL x :: st) h := by
  subst hl
  exact Z.lc (fun o o2 => ⟨zok_tl o, zst2_ok (zok_hd o) o2⟩) (fun p l e R s m args below meth c w ad0 d0 C ad H lsA locs cells slots Q2 P k => lv_lstore_n C.1 C.2.1 hd rfl P.2.2.1 hi (zst2_map ad ls i.val (zL x)) k) K
theorem Z.astore {i : Nat} {x : Option Nat} (hd : decode f.2.1 pc = .ok (.astore i, 2)) (hi : i < f.2.2.1) (hl : zst ls i (zO x) = ls') (K : Z f kz Q (pc + 2) ls' st h) : Z f kz Q pc ls (zO x :: st) h := by
  subst hl
  refine Z.lc (fun o o2 => ⟨zok_tl o, zst_ok (zok_hd o) o2⟩) (fun p l e R s m args below meth c w ad0 d0 C ad H lsA locs cells slots Q2 P k => ?_) K
  cases x with
  | none => exact lv_astoreN C.1 C.2.1 hd P.2.2.1 hi (zst_map ad ls i zN) k
  | some a => exact lv_astore C.1 C.2.1 hd P.2.2.1 hi (zst_map ad ls i (zR a)) k
theorem Z.astore_n {i : Fin 4} {x : Option Nat} (hd : decode f.2.1 pc = .ok (.astore_n i, 1)) (hi : i.val < f.2.2.1) (hl : zst ls i.val (zO x) = ls') (K : Z f kz Q (pc + 1) ls' st h) : Z f kz Q pc ls (zO x :: st) h := by
  subst hl
  refine Z.lc (fun o o2 => ⟨zok_tl o, zst_ok (zok_hd o) o2⟩) (fun p l e R s m args below meth c w ad0 d0 C ad H lsA locs cells slots Q2 P k => ?_) K
  cases x with
  | none => exact lv_astore_nN C.1 C.2.1 hd rfl P.2.2.1 hi (zst_map ad ls i.val zN) k
  | some a => exact lv_astore_n C.1 C.2.1 hd rfl P.2.2.1 hi (zst_map ad ls i.val (zR a)) k
theorem Z.iinc {i k : Nat} {n x : Int} (hd : decode f.2.1 pc = .ok (.iinc i n, 3)) (hk : ls[k]? = some (i, zI x)) (hi : i < f.2.2.1) (hz : zin (x + n)) (hl : zst ls i (zI (x + n)) = ls') (K : Z f kz Q (pc + 3) ls' st h) : Z f kz Q pc ls st h := by
  subst hl
  exact Z.lc (fun o o2 => ⟨o, zst_ok (v := zI (x + n)) hz o2⟩) (fun p l e R s m args below meth c w ad0 d0 C ad H lsA locs cells slots Q2 P kk => lv_iinc C.1 C.2.1 hd P.2.2.1 (k := k) (by rw [List.getElem?_map, hk]; rfl) (by rw [← Int32.ofInt_add]) hi (zst_map ad ls i (zI (x + n))) kk) K
/-- fewer locals, in another order, by their places -/
theorem Z.pick (ks : List Nat) (hl : ks.filterMap (fun k => ls[k]?) = ls') (K : Z f kz Q pc ls' st h) : Z f kz Q pc ls st h := by
  subst hl
  refine Z.lc (fun o o2 => ⟨o, fun q hq => ?_⟩) (fun p l e R s m args below meth c w ad0 d0 C ad H lsA locs cells slots Q2 P k => ?_) K
  · obtain ⟨i, -, hi⟩ := List.mem_filterMap.mp hq
    exact o2 q (List.mem_of_getElem? hi)
  · refine k lsA (lv_sub P.2.2.1 ks ?_)
    unfold lv_pick
    rw [List.map_filterMap]
    apply congrArg (fun g => List.filterMap g ks)
    funext i
    rw [List.getElem?_map]
end ZL
/-! ===== rules of Z: what stands in the heap ===== -/
theorem zcl_in0 : ∀ w, w ∈ u_ws RX0 TX0 12 → w ∈ lw_tbl ∧ goodWord w = true := by decide +kernel
theorem zcl_in1 : ∀ w, w ∈ u_ws RX1 TX1 14 → w ∈ lw_tbl ∧ goodWord w = true := by decide +kernel
theorem zcl_in2 : ∀ w, w ∈ u_ws RX2 TX2 5 → w ∈ lw_tbl ∧ goodWord w = true := by decide +kernel
theorem zcl_in3 : ∀ w, w ∈ u_ws RX3 TX3 4 → w ∈ lw_tbl ∧ goodWord w = true := by decide +kernel
theorem zcl_in4 : ∀ w, w ∈ u_ws RX4 TX4 12 → w ∈ lw_tbl ∧ goodWord w = true := by decide +kernel
theorem zcl_in5 : ∀ w, w ∈ u_ws RX5 TX5 5 → w ∈ lw_tbl ∧ goodWord w = true := by decide +kernel
theorem zcl_in6 : ∀ w, w ∈ u_ws RX6 TX6 5 → w ∈ lw_tbl ∧ goodWord w = true := by decide +kernel
theorem zcl_in7 : ∀ w, w ∈ u_ws RX7 TX7 5 → w ∈ lw_tbl ∧ goodWord w = true := by decide +kernel
theorem zcl_in8 : ∀ w, w ∈ u_ws RX8 TX8 4 → w ∈ lw_tbl ∧ goodWord w = true := by decide +kernel
theorem zcl_in9 : ∀ w, w ∈ u_ws RX9 TX9 15 → w ∈ lw_tbl ∧ goodWord w = true := by decide +kernel
theorem zcl_in10 : ∀ w, w ∈ u_ws RX10 TX10 4 → w ∈ lw_tbl ∧ goodWord w = true := by decide +kernel
theorem zcl_in11 : ∀ w, w ∈ u_ws RX11 TX11 21 → w ∈ lw_tbl ∧ goodWord w = true := by decide +kernel
theorem zcl_in12 : ∀ w, w ∈ u_ws RX12 TX12 61 → w ∈ lw_tbl ∧ goodWord w = true := by decide +kernel
def ztyp (c k : Nat) : FieldType := match c with
  | 0 => tyX0 k
  | 1 => tyX1 k
  | 2 => tyX2 k
  | 3 => tyX3 k
  | 4 => tyX4 k
  | 5 => tyX5 k
  | 6 => tyX6 k
  | 7 => tyX7 k
  | 8 => tyX8 k
  | 9 => tyX9 k
  | 10 => tyX10 k
  | 11 => tyX11 k
  | _ => tyX12 k
theorem zcl {c : Nat} {q : vw_C} (h : vwCl[c]? = some q) : (∀ w, w ∈ u_ws q.1 q.2.1 q.2.2 → w ∈ zT) ∧ (∀ k, k < q.2.2 → parseFieldDescriptor (q.2.1 k).2.2.1 = some (ztyp c k)) ∧ (∀ a, a < q.2.2 → ∀ b, b < q.2.2 → a ≠ b → (q.2.1 a).2.1 ≠ (q.2.1 b).2.1) := by
  have to : ∀ {l : List Cond}, (∀ w, w ∈ l → w ∈ lw_tbl ∧ goodWord w = true) → ∀ w, w ∈ l → w ∈ zT := fun hl w hw => List.mem_filter.mpr (hl w hw)
  match c, h with
  | 0, h => cases h; exact ⟨to zcl_in0, tyX0_ok, nmX0⟩
  | 1, h => cases h; exact ⟨to zcl_in1, tyX1_ok, nmX1⟩
  | 2, h => cases h; exact ⟨to zcl_in2, tyX2_ok, nmX2⟩
  | 3, h => cases h; exact ⟨to zcl_in3, tyX3_ok, nmX3⟩
  | 4, h => cases h; exact ⟨to zcl_in4, tyX4_ok, nmX4⟩
  | 5, h => cases h; exact ⟨to zcl_in5, tyX5_ok, nmX5⟩
  | 6, h => cases h; exact ⟨to zcl_in6, tyX6_ok, nmX6⟩
  | 7, h => cases h; exact ⟨to zcl_in7, tyX7_ok, nmX7⟩
  | 8, h => cases h; exact ⟨to zcl_in8, tyX8_ok, nmX8⟩
  | 9, h => cases h; exact ⟨to zcl_in9, tyX9_ok, nmX9⟩
  | 10, h => cases h; exact ⟨to zcl_in10, tyX10_ok, nmX10⟩
  | 11, h => cases h; exact ⟨to zcl_in11, tyX11_ok, nmX11⟩
  | 12, h => cases h; exact ⟨to zcl_in12, tyX12_ok, nmX12⟩
  | c + 13, h => simp [vwCl] at h
def zkd_all : List (Nat × Nat) := zno :: (zfix ++ (zmod ++ zclm))
theorem zkd_mem (a : Nat) : zkd a ∈ zkd_all := by
  have g : ∀ (l : List (Nat × Nat)) (i : Nat), l.getD i zno = zno ∨ l.getD i zno ∈ l := fun l i => by
    rw [List.getD_eq_getElem?_getD]
    cases e : l[i]? with
    | none => exact Or.inl rfl
    | some x => exact Or.inr (List.mem_of_getElem? e)
  have z : ∀ l : List (Nat × Nat), (∀ x, x ∈ l → x ∈ zkd_all) → ∀ i, l.getD i zno ∈ zkd_all := fun l hl i => by
    rcases g l i with e | e
    · rw [e]; exact List.mem_cons_self
    · exact hl _ e
  unfold zkd
  split
  · exact z zfix (fun x hx => List.mem_cons_of_mem _ (List.mem_append_left _ hx)) _
  · split
    · exact z zmod (fun x hx => List.mem_cons_of_mem _ (List.mem_append_right _ (List.mem_append_left _ hx))) _
    · split
      · exact List.mem_cons_self
      · split
        · exact z zclm (fun x hx => List.mem_cons_of_mem _ (List.mem_append_right _ (List.mem_append_right _ hx))) _
        · exact List.mem_cons_self
theorem zkd_ok : ∀ x, x ∈ zkd_all → 3 ≤ x.1 → x.1 ≤ 15 → (vwCl.map (fun q => q.2.2))[x.1 - 3]? = some x.2 := by decide +kernel
theorem zkd_n {a c : Nat} {q : vw_C} (h : (zkd a).1 = c + 3) (hc : vwCl[c]? = some q) : (zkd a).2 = q.2.2 := by
  have hlt : c < 13 := (List.getElem?_eq_some_iff.mp hc).1
  have e := zkd_ok _ (zkd_mem a) (by omega) (by omega)
  rw [h, show c + 3 - 3 = c by omega, List.getElem?_map, hc] at e
  exact (Option.some.inj e).symm
theorem zce_o {w : zWp} {ad : Nat → Nat} {G : Nat → Int → Option Nat} {E : Nat → Int → Int} {a c : Nat} (h : (zkd a).1 = c + 3) : zce w ad G E a = .inr (c, (List.range (zkd a).2).map (zfv ad G E c a)) := by
  unfold zce; rw [h]
theorem zce_0 {w : zWp} {ad : Nat → Nat} {G : Nat → Int → Option Nat} {E : Nat → Int → Int} {a n : Nat} (h : zkd a = (0, n)) : zce w ad G E a = .inl (w.2.1, n, .inl (fun j : Nat => Int32.ofInt (E a j))) := by
  unfold zce; rw [h]
theorem zce_1 {w : zWp} {ad : Nat → Nat} {G : Nat → Int → Option Nat} {E : Nat → Int → Int} {a n : Nat} (h : zkd a = (1, n)) : zce w ad G E a = .inl (w.2.2.1, n, .inl (fun j : Nat => Int32.ofInt (E a j))) := by
  unfold zce; rw [h]
theorem zce_2 {w : zWp} {ad : Nat → Nat} {G : Nat → Int → Option Nat} {E : Nat → Int → Int} {a n : Nat} (h : zkd a = (2, n)) : zce w ad G E a = .inl (w.2.2.2.1, n, .inr (.inr (.inr (.inr (fun j : Nat => (G a j).map ad))))) := by
  unfold zce; rw [h]
theorem zdx {d : List Nat} {a : Nat} (h : a ∈ d) : ∃ q : Nat, d[q]? = some a := List.getElem?_of_mem h
theorem zrs {N k : Nat} {g g' : Nat → Value} {v : Value} (hv : g' k = v) (hne : ∀ j, j ≠ k → g' j = g j) : ((List.range N).map g).set k v = (List.range N).map g' := by
  apply List.ext_getElem?
  intro i
  rw [List.getElem?_set]
  by_cases hi : k = i
  · subst hi
    by_cases hN : k < N
    · simp [hN, hv]
    · simp [hN]
  · rw [if_neg hi, List.getElem?_map, List.getElem?_map]
    cases e : (List.range N)[i]? with
    | none => rfl
    | some j =>
      have hj : j = i := by
        have := List.getElem?_eq_some_iff.mp e
        obtain ⟨h1, h2⟩ := this
        simpa using h2.symm
      subst hj
      simp [hne j (fun q => hi q.symm)]
