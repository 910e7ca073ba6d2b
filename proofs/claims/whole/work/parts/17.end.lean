def R_law : String := "ClaimHallLaw"
def lw_P (b : Addr) (xs : List Int32) (args : Array Value) (s : State) : Prop := args = #[.ref b] ∧ s.IntsAt b xs ∧ xs.length ≤ 2560 ∧ (Jvm.Cond.and given_1 narrow_1).before args s = true
def lw_Q (_ : Array Value) (s : State) (o : Outcome) (t : State) : Prop := o = .returned (some (.int 1)) ∧ Framed s o t [] 600000 7302250
def lw_Z (below : List Frame) (a : Array Value) (s : State) : State → Prop := fun t => ∃ o, t.status = .running ∧ Ended t below o ∧ lw_Q a s o t
/-- the law's own end, with 1 on the stack, nothing written that was there before, its room as the claim has it -/
theorem lw_ret {p : Program} {l : Launch} {e : Env} {s : State} {m : MethodId} {below : List Frame} {meth : Method} {c : Code} {b : Nat} (hx : p.tables.exec = Jvm.exec) (hb : c.code = code) (hr : meth.sig.returnType = ret) (hlocks : meth.locks = false) {pc : Nat} {H : Heap} {ls : Array Slot} (hdg : decode code pc = .ok (.ireturn, 1)) : W p l e room_1 s m #[Value.ref b] below meth c H [] 600000 7302250 (lw_Z below #[Value.ref b] s) (F0 m pc ls [.int 1]) := by
  intro T hT X
  obtain ⟨fs, hret, hrun, hended, hW, hframe⟩ := X.leave (v := some (.int 1)) (hlocks := hlocks) (fun h => by rw [hr] at h; cases h)
  have hmeth' : T.vm.method? m = some meth := X.method'
  refine ⟨T.setFrames fs, ?_, .returned (some (.int 1)), hrun, hended, rfl, ⟨_, rfl⟩, hW, hframe⟩
  jvm_step X.here [X.here.top, hx, hb, hdg, hmeth', hr, ret, narrow_b1]
  (try refine ⟨rfl, ?_⟩); (try refine ⟨rfl, ?_⟩)
  first | (intro acts; rw [hret _ acts rfl rfl rfl]) | rw [hret _ _ rfl rfl rfl]
  exact Steps.refl _
/-- what holds at the law's entry: the machine, the code, the tables' words (any of lw_tbl by 'hts w (by decide +kernel)'), the script of L ints xs at the cell b, what the Statement gives of the start (any of its parts by flat_of_before) -/
def lw_At (p : Program) (s : State) (m : MethodId) (meth : Method) (c : Code) (b L : Nat) (xs : Nat → Int32) : Prop :=
  p.tables.exec = Jvm.exec ∧ c.code = code ∧ meth.sig.returnType = ret ∧ c.maxLocals = 4 ∧ s.vm.findClass R_law = some m.cls ∧ (∀ w ∈ lw_tbl, w.before #[Value.ref b] s = true) ∧ va_X b L xs s s.heap ∧ b < s.heap.size ∧ meth.locks = false ∧ (Jvm.Cond.and given_1 narrow_1).before #[Value.ref b] s = true ∧ meth.name = "law" ∧ (Jvm.Cond.code x code maxLocals ret).before #[Value.ref b] s = true
/-! ===== the law's walk out of Z ===== -/
def zE0 (L : Nat) (xs : Nat → Int32) : Nat → Int → Int := fun a k => if a = 193 then (if 0 ≤ k ∧ k < (L : Int) then (xs k.toNat).toInt else 0) else if a = 194 then (L : Int) else 0
def zQl : Option zV → zH → Prop := fun r h => r = some (zI 1) ∧ h.1.length ≤ 600000 ∧ zsl h.1 ≤ 7302250
theorem zW_mono {p : Program} {l : Launch} {e : Env} {R : Room} {s : State} {m : MethodId} {args : Array Value} {below : List Frame} {meth : Method} {c : Code} {H : Heap} {locs : List Loc} {cells slots : Nat} {Q Q2 : State → Prop} {g : JFrame} (h : ∀ t, Q t → Q2 t) (k : W p l e R s m args below meth c H locs cells slots Q g) : W p l e R s m args below meth c H locs cells slots Q2 g := fun T hT X => by
  obtain ⟨t, a, b⟩ := k T hT X
  exact ⟨t, a, h t b⟩
theorem zforget {s t : State} {L : List Loc} {k n : Nat} (hL : ∀ q, q ∈ L → s.heap.size ≤ q.base) (h : s.sameButNew t L k n) : s.sameButNew t [] k n := by
  obtain ⟨h1, h2, h3, h4, h5, h6⟩ := h
  refine ⟨h1, h2, h3, h4, h5, fun a c hc => ?_⟩
  obtain ⟨c', g1, g2, g3, g4⟩ := h6 a c hc
  refine ⟨c', g1, g2, g3, fun i _ => g4 i (fun hm => ?_)⟩
  have := hL _ hm
  have h9 : a < s.heap.size := (Array.getElem?_eq_some_iff.mp hc).1
  have h10 : s.heap.size ≤ a := this
  exact absurd h10 (Nat.not_le.mpr h9)
theorem zend {below : List Frame} {s : State} {b : Nat} {w : zWp} {ad0 : Nat → Nat} (hw : w.2.2.2.2.1 = s.heap.size) : ∀ t, MQ below (zQc w ad0 [] zQl) #[Value.ref b] s (600000 - 0) (7302250 - 0) (zA w) t → lw_Z below #[Value.ref b] s t := by
  rintro t ⟨o, h1, h2, ⟨r, h, ad, hQ, ho, -⟩, L, ⟨f1, f2, f3⟩, hL⟩
  obtain ⟨rfl, -⟩ := hQ
  refine ⟨o, h1, h2, ho, f1, f2, zforget (fun q hq => ?_) f3⟩
  have := hL q hq
  rw [← hw]
  exact this
theorem zarr {args : Array Value} {s : State} {ty : FieldType} (hr : ∀ C, ty ≠ .object C) (h : (Cond.arrayClass ty).before args s = true) : ∃ cA : ClassId, ArrOfT s cA ty ∧ va_RA s cA ty := by
  obtain ⟨c, k, comp, h1, h2, h3⟩ := Cond.arrayClass_spec h
  refine ⟨c, fun n z => ⟨fun k h => (by cases h), k, h2, comp, h3⟩, ?_⟩
  cases ty with
  | object C => exact absurd rfl (hr C)
  | _ => exact h1
theorem zarrC {args : Array Value} {s : State} (h : (Cond.arrayOver (.object "ClaimHall$Claim")).before args s = true) : ∃ cA : ClassId, ArrOfT s cA (.object "ClaimHall$Claim") ∧ va_RA s cA (.object "ClaimHall$Claim") := by
  obtain ⟨comp, c, k, h1, h2, h3, h4, h5⟩ := Cond.arrayOver_spec h
  exact ⟨c, fun n z => ⟨fun k h => (by cases h), k, h3, comp, h4⟩, k, comp, h3, h4, h1, h5⟩
theorem zstat {b : Nat} {s : State} (hts : ∀ w ∈ lw_tbl, w.before #[Value.ref b] s = true) (hgv : (Jvm.Cond.and given_1 narrow_1).before #[Value.ref b] s = true) : ∃ sb : Nat → Nat, ∀ i, i < 3 → va_Z "ClaimHall" (zsn i) "[I" (.ref (sb i)) (fun q => s.heap.size ≤ q) s s.heap ∧ va_T .int (sb i) 5 (fun j => .int (Int32.ofInt (zsv i j))) (fun q => s.heap.size ≤ q) s s.heap := by
  have hs := flat_of_before _ hgv
  have hA : ∀ a : Nat, a < s.heap.size → ¬ (fun q : Nat => s.heap.size ≤ q) a := fun a h => Nat.not_le.mpr h
  have hini : (Cond.initialized "ClaimHall").before #[Value.ref b] s = true := hts _ (List.mem_of_getElem? (i := 105) (by decide +kernel))
  obtain ⟨t0, ht0, hT0⟩ := va_Tof (tm := .static "ClaimHall" "NUMBERS" "[I") (ty := .int) (N := 5) (f := fun j => .int (Int32.ofInt (zsv 0 j))) (A := fun q => s.heap.size ≤ q) (by decide) (hs _ (by decide +kernel)) (va_eqt (hs _ (by decide +kernel))) (fun j hj => by
    match j, hj with
    | 0, _ => exact va_eqt (z := 0) (hs (Cond.eq (.elem (.static "ClaimHall" "NUMBERS" "[I") (.int 0)) (.int 0)) (by decide +kernel))
    | 1, _ => exact va_eqt (z := 3) (hs (Cond.eq (.elem (.static "ClaimHall" "NUMBERS" "[I") (.int 1)) (.int 3)) (by decide +kernel))
    | 2, _ => exact va_eqt (z := 3) (hs (Cond.eq (.elem (.static "ClaimHall" "NUMBERS" "[I") (.int 2)) (.int 3)) (by decide +kernel))
    | 3, _ => exact va_eqt (z := 1) (hs (Cond.eq (.elem (.static "ClaimHall" "NUMBERS" "[I") (.int 3)) (.int 1)) (by decide +kernel))
    | 4, _ => exact va_eqt (z := 6) (hs (Cond.eq (.elem (.static "ClaimHall" "NUMBERS" "[I") (.int 4)) (.int 6)) (by decide +kernel))
    | j + 5, h => omega) hA
  have hZ0 := va_Zof (A := fun q => s.heap.size ≤ q) (hts (Cond.laysStatic "ClaimHall" "NUMBERS" "[I") (List.mem_of_getElem? (i := 1059) (by decide +kernel))) hini ht0 hA
  obtain ⟨t1, ht1, hT1⟩ := va_Tof (tm := .static "ClaimHall" "FIRST_NAME" "[I") (ty := .int) (N := 5) (f := fun j => .int (Int32.ofInt (zsv 1 j))) (A := fun q => s.heap.size ≤ q) (by decide) (hs _ (by decide +kernel)) (va_eqt (hs _ (by decide +kernel))) (fun j hj => by
    match j, hj with
    | 0, _ => exact va_eqt (z := 0) (hs (Cond.eq (.elem (.static "ClaimHall" "FIRST_NAME" "[I") (.int 0)) (.int 0)) (by decide +kernel))
    | 1, _ => exact va_eqt (z := 1) (hs (Cond.eq (.elem (.static "ClaimHall" "FIRST_NAME" "[I") (.int 1)) (.int 1)) (by decide +kernel))
    | 2, _ => exact va_eqt (z := 1) (hs (Cond.eq (.elem (.static "ClaimHall" "FIRST_NAME" "[I") (.int 2)) (.int 1)) (by decide +kernel))
    | 3, _ => exact va_eqt (z := 1) (hs (Cond.eq (.elem (.static "ClaimHall" "FIRST_NAME" "[I") (.int 3)) (.int 1)) (by decide +kernel))
    | 4, _ => exact va_eqt (z := 1) (hs (Cond.eq (.elem (.static "ClaimHall" "FIRST_NAME" "[I") (.int 4)) (.int 1)) (by decide +kernel))
    | j + 5, h => omega) hA
  have hZ1 := va_Zof (A := fun q => s.heap.size ≤ q) (hts (Cond.laysStatic "ClaimHall" "FIRST_NAME" "[I") (List.mem_of_getElem? (i := 971) (by decide +kernel))) hini ht1 hA
  obtain ⟨t2, ht2, hT2⟩ := va_Tof (tm := .static "ClaimHall" "SECOND_NAME" "[I") (ty := .int) (N := 5) (f := fun j => .int (Int32.ofInt (zsv 2 j))) (A := fun q => s.heap.size ≤ q) (by decide) (hs _ (by decide +kernel)) (va_eqt (hs _ (by decide +kernel))) (fun j hj => by
    match j, hj with
    | 0, _ => exact va_eqt (z := 0) (hs (Cond.eq (.elem (.static "ClaimHall" "SECOND_NAME" "[I") (.int 0)) (.int 0)) (by decide +kernel))
    | 1, _ => exact va_eqt (z := 3) (hs (Cond.eq (.elem (.static "ClaimHall" "SECOND_NAME" "[I") (.int 1)) (.int 3)) (by decide +kernel))
    | 2, _ => exact va_eqt (z := 0) (hs (Cond.eq (.elem (.static "ClaimHall" "SECOND_NAME" "[I") (.int 2)) (.int 0)) (by decide +kernel))
    | 3, _ => exact va_eqt (z := 0) (hs (Cond.eq (.elem (.static "ClaimHall" "SECOND_NAME" "[I") (.int 3)) (.int 0)) (by decide +kernel))
    | 4, _ => exact va_eqt (z := 4) (hs (Cond.eq (.elem (.static "ClaimHall" "SECOND_NAME" "[I") (.int 4)) (.int 4)) (by decide +kernel))
    | j + 5, h => omega) hA
  have hZ2 := va_Zof (A := fun q => s.heap.size ≤ q) (hts (Cond.laysStatic "ClaimHall" "SECOND_NAME" "[I") (List.mem_of_getElem? (i := 973) (by decide +kernel))) hini ht2 hA
  refine ⟨fun i => if i = 0 then t0 else if i = 1 then t1 else t2, fun i hi => ?_⟩
  match i, hi with
  | 0, _ => exact ⟨hZ0, hT0⟩
  | 1, _ => exact ⟨hZ1, hT1⟩
  | 2, _ => exact ⟨hZ2, hT2⟩
  | i + 3, h => omega
set_option maxRecDepth 100000 in
set_option maxHeartbeats 4000000 in
theorem zlaw {p : Program} {e : Env} {s : State} {m : MethodId} {below : List Frame} {meth : Method} {c : Code} (l : Launch) {b L : Nat} {xs : Nat → Int32} (hL : L ≤ 2560) (C0 : lw_At p s m meth c b L xs) (hZ : Z zm_L_law (600000, 7302250) zQl 0 [(0, zR 193)] [] ([], (fun _ _ => none), zE0 L xs)) : W p l e room_1 s m #[Value.ref b] below meth c s.heap [] 0 0 (lw_Z below #[Value.ref b] s) (entryFrame m ([Value.ref b] : List Value).toArray 4) := by
  obtain ⟨hx, hb, hr, hml, hown, hts, hX, hbl, hlocks, hgv, hname, hcd⟩ := id C0
  obtain ⟨c0, iS0, hKn0⟩ := u_known (C := RX0) (T := TX0) (N := 12) (n := 12) hts (fun w hw => (zcl_in0 w hw).1) (hts (.instantiable RX0 12) (List.mem_of_getElem? (i := 423) (by decide +kernel)))
  obtain ⟨c1, iS1, hKn1⟩ := u_known (C := RX1) (T := TX1) (N := 14) (n := 14) hts (fun w hw => (zcl_in1 w hw).1) (hts (.instantiable RX1 14) (List.mem_of_getElem? (i := 791) (by decide +kernel)))
  obtain ⟨c2, iS2, hKn2⟩ := u_known (C := RX2) (T := TX2) (N := 5) (n := 5) hts (fun w hw => (zcl_in2 w hw).1) (hts (.instantiable RX2 5) (List.mem_of_getElem? (i := 316) (by decide +kernel)))
  obtain ⟨c3, iS3, hKn3⟩ := u_known (C := RX3) (T := TX3) (N := 4) (n := 4) hts (fun w hw => (zcl_in3 w hw).1) (hts (.instantiable RX3 4) (List.mem_of_getElem? (i := 404) (by decide +kernel)))
  obtain ⟨c4, iS4, hKn4⟩ := u_known (C := RX4) (T := TX4) (N := 12) (n := 12) hts (fun w hw => (zcl_in4 w hw).1) (hts (.instantiable RX4 12) (List.mem_of_getElem? (i := 358) (by decide +kernel)))
  obtain ⟨c5, iS5, hKn5⟩ := u_known (C := RX5) (T := TX5) (N := 5) (n := 5) hts (fun w hw => (zcl_in5 w hw).1) (hts (.instantiable RX5 5) (List.mem_of_getElem? (i := 181) (by decide +kernel)))
  obtain ⟨c6, iS6, hKn6⟩ := u_known (C := RX6) (T := TX6) (N := 5) (n := 5) hts (fun w hw => (zcl_in6 w hw).1) (hts (.instantiable RX6 5) (List.mem_of_getElem? (i := 234) (by decide +kernel)))
  obtain ⟨c7, iS7, hKn7⟩ := u_known (C := RX7) (T := TX7) (N := 5) (n := 5) hts (fun w hw => (zcl_in7 w hw).1) (hts (.instantiable RX7 5) (List.mem_of_getElem? (i := 152) (by decide +kernel)))
  obtain ⟨c8, iS8, hKn8⟩ := u_known (C := RX8) (T := TX8) (N := 4) (n := 4) hts (fun w hw => (zcl_in8 w hw).1) (hts (.instantiable RX8 4) (List.mem_of_getElem? (i := 130) (by decide +kernel)))
  obtain ⟨c9, iS9, hKn9⟩ := u_known (C := RX9) (T := TX9) (N := 15) (n := 15) hts (fun w hw => (zcl_in9 w hw).1) (hts (.instantiable RX9 15) (List.mem_of_getElem? (i := 256) (by decide +kernel)))
  obtain ⟨c10, iS10, hKn10⟩ := u_known (C := RX10) (T := TX10) (N := 4) (n := 4) hts (fun w hw => (zcl_in10 w hw).1) (hts (.instantiable RX10 4) (List.mem_of_getElem? (i := 339) (by decide +kernel)))
  obtain ⟨c11, iS11, hKn11⟩ := u_known (C := RX11) (T := TX11) (N := 21) (n := 21) hts (fun w hw => (zcl_in11 w hw).1) (hts (.instantiable RX11 21) (List.mem_of_getElem? (i := 122) (by decide +kernel)))
  obtain ⟨c12, iS12, hKn12⟩ := u_known (C := RX12) (T := TX12) (N := 61) (n := 61) hts (fun w hw => (zcl_in12 w hw).1) (hts (.instantiable RX12 61) (List.mem_of_getElem? (i := 1132) (by decide +kernel)))
  obtain ⟨dC, dI, hKc⟩ : ∃ (dC : Nat → ClassId) (dI : Nat → Nat → Nat), ∀ (k : Nat) (q : vw_C), vwCl[k]? = some q → u_Kn s q.1 q.2.1 q.2.2 (dC k) (dI k) := by
    refine ⟨fun k => if k = 0 then c0 else if k = 1 then c1 else if k = 2 then c2 else if k = 3 then c3 else if k = 4 then c4 else if k = 5 then c5 else if k = 6 then c6 else if k = 7 then c7 else if k = 8 then c8 else if k = 9 then c9 else if k = 10 then c10 else if k = 11 then c11 else c12, fun k => if k = 0 then iS0 else if k = 1 then iS1 else if k = 2 then iS2 else if k = 3 then iS3 else if k = 4 then iS4 else if k = 5 then iS5 else if k = 6 then iS6 else if k = 7 then iS7 else if k = 8 then iS8 else if k = 9 then iS9 else if k = 10 then iS10 else if k = 11 then iS11 else iS12, ?_⟩
    intro k q hq
    match k, hq with
    | 0, hq => cases hq; exact hKn0
    | 1, hq => cases hq; exact hKn1
    | 2, hq => cases hq; exact hKn2
    | 3, hq => cases hq; exact hKn3
    | 4, hq => cases hq; exact hKn4
    | 5, hq => cases hq; exact hKn5
    | 6, hq => cases hq; exact hKn6
    | 7, hq => cases hq; exact hKn7
    | 8, hq => cases hq; exact hKn8
    | 9, hq => cases hq; exact hKn9
    | 10, hq => cases hq; exact hKn10
    | 11, hq => cases hq; exact hKn11
    | 12, hq => cases hq; exact hKn12
    | k + 13, hq => simp [vwCl] at hq
  obtain ⟨cI, hI1, hI2⟩ := zarr (ty := .int) (fun C h => by cases h) (hts (.arrayClass .int) (List.mem_of_getElem? (i := 150) (by decide +kernel)))
  obtain ⟨cZ, hZ1, hZ2⟩ := zarr (ty := .boolean) (fun C h => by cases h) (hts (.arrayClass .boolean) (List.mem_of_getElem? (i := 149) (by decide +kernel)))
  have hAO := hts (.arrayOver (.object "ClaimHall$Claim")) (List.mem_of_getElem? (i := 158) (by decide +kernel))
  obtain ⟨cC, hC1, hC2⟩ := zarrC hAO
  obtain ⟨sb0, hsb⟩ := zstat hts hgv
  let sb : Nat → Nat := fun i => if i = 3 then b else sb0 i
  let w : zWp := ((dC, dI), cI, cZ, cC, s.heap.size, sb, L, xs)
  have hK : va_K w.1 vwCl (ztys w) s := by
    refine ⟨hKc, fun k q hq => ?_⟩
    match k, hq with
    | 0, hq => cases hq; exact ⟨hI1, hI2⟩
    | 1, hq => cases hq; exact ⟨hZ1, hZ2⟩
    | 2, hq => cases hq; exact ⟨hC1, hC2⟩
    | k + 3, hq => simp [ztys] at hq
  have hsb2 : ∀ i, i < 3 → sb i = sb0 i := fun i hi => if_neg (by omega)
  have hE : zEnv w s := by
    refine ⟨hK, fun i hi => ?_, Nat.le_refl _, fun q hq => ?_, fun q hq => ?_, va_AO.of hAO, ?_, hbl⟩
    · show va_Z _ _ _ (.ref (sb i)) _ _ _ ∧ va_T _ (sb i) _ _ _ _ _
      rw [hsb2 i hi]
      exact hsb i hi
    · have hm : ∀ q, q ∈ zFN → Cond.fieldLinkNest q.1 q.2.1 q.2.2.1 q.2.2.2.1 q.2.2.2.2.1 q.2.2.2.2.2 ∈ lw_tbl := by decide +kernel
      exact va_Nw.of rfl (hts _ (hm q hq))
    · have hm : ∀ q, q ∈ zMN → Cond.methodLinkNest q.1 q.2.1 q.2.2.1 q.2.2.2 ∈ lw_tbl := by decide +kernel
      exact va_Nw.of rfl (hts _ (hm q hq))
    · exact hX
  have hE0 : ∀ a k, zin (zE0 L xs a k) := fun a k => by
    unfold zE0
    split
    · split
      · exact zin_i32 _
      · exact zin0
    · split
      · unfold zin; omega
      · exact zin0
  let ad : Nat → Nat := fun a => sb (a - 190)
  have hR : zRel w ad ([], (fun _ _ => none), zE0 L xs) s.heap := by
    refine ⟨fun k q h => (by simp [zws] at h), ⟨fun i j p q h => (by simp [zws] at h), fun k q h => (by simp [zws] at h)⟩, ⟨hE0, fun a ha => (by cases ha), List.nodup_nil, fun a ha => (by cases ha)⟩, fun i hi => ?_, fun j hj => ?_, ?_⟩
    · show sb (190 + i - 190) = sb i
      rw [Nat.add_sub_cancel_left]
    · show Int32.ofInt (zE0 L xs 193 j) = xs j
      have hj2 : j < L := hj
      unfold zE0
      rw [if_pos rfl, if_pos ⟨by omega, by omega⟩, Int.toNat_natCast, zint_ofInt]
    · rfl
  have hl := lv_entry ([.ref b]) (n := 4) (Nat.le_of_ble_eq_true rfl)
  have hl2 : lv_has (lg_sl ([.ref b]) ++ List.replicate (4 - (lg_sl ([.ref b])).length) Slot.unset).toArray 4 ((([(0, zR 193)] : List (Nat × zV))).map fun q => (q.1, zval ad q.2)) := by
    have e1 : ((([(0, zR 193)] : List (Nat × zV))).map fun q => (q.1, zval ad q.2)) = lv_args 0 [.ref b] := by
      show [(0, va_rf (some (sb (193 - 190))))] = _
      rfl
    rw [e1]
    exact hl
  have hcode : ∀ x, x ∈ zwd zm_L_law → x.before #[Value.ref b] s = true := fun x hx => by
    rcases List.mem_cons.mp hx with e | e
    · rw [e]; exact hcd
    · exact hts x (List.mem_filter.mp e).1
  have hok1 : ∀ q, q ∈ ([(0, zR 193)] : List (Nat × zV)) → zok [] q.2 := fun q hq => by
    rcases List.mem_cons.mp hq with e | e
    · rw [e]
      exact fun a ha => by
        cases ha
        exact Or.inr (by unfold zstr; omega)
    · cases e
  rw [lg_entry_eq]
  refine zW_mono (zend (w := w) (ad0 := ad) rfl) ?_
  exact hZ p l e room_1 s m #[Value.ref b] below meth c w ad [] ⟨hx, hb, hr, hml, hown, hcode, hlocks, hname, rfl, rfl, hE, Nat.zero_le _, Nat.zero_le _, rfl, rfl, fun r h q => ⟨q.2.1, q.2.2⟩⟩ ad s.heap _ [] ⟨hR, va_S.rf, hl2, hok1, (fun v hv => (by cases hv)), (fun a ha => (by cases ha)), (fun a _ => rfl), Nat.le_refl _, Nat.le_refl _, Nat.zero_le _, Nat.zero_le _⟩
