/-! ===== the judgement Z: the machine at a point of a method, over a flat heap ===== -/
/-- the words of the tables that stay -/
def zT : List Cond := lw_tbl.filter goodWord
theorem zTm {w : Cond} (i : Nat) (h : lw_tbl[i]? = some w) (hg : goodWord w = true) : w ∈ zT := List.mem_filter.mpr ⟨List.mem_of_getElem? h, hg⟩
theorem zT_good {big : List Cond} (h : ∀ w, w ∈ zT → w ∈ big) : GoodIn big zT := fun w hw => ⟨h w hw, good_of_word (List.mem_filter.mp hw).2⟩
/-- a method: name, code, locals, what it returns, the frames and the locals' words that its calls need -/
abbrev zF : Type := MethodName × ByteArray × Nat × Option FieldType × Nat × Nat
def zcd (f : zF) : Cond := .code f.1 f.2.1 f.2.2.1 f.2.2.2.1
def zwd (f : zF) : List Cond := zcd f :: zT
/-- links among nest mates -/
def zFN : List (String × Nat × String × String × String × String) := [("ClaimHall$Maker", 27, "ClaimHall", "FIRST_NAME", "[I", "ClaimHall"), ("ClaimHall$Maker", 31, "ClaimHall", "SECOND_NAME", "[I", "ClaimHall"), ("ClaimHall$Shelf", 64, "ClaimHall", "FIRST_NAME", "[I", "ClaimHall"), ("ClaimHall$Shelf", 70, "ClaimHall", "SECOND_NAME", "[I", "ClaimHall")]
def zMN : List (String × Nat × MethodName × String) := [("ClaimHall", 18, yX7_init, "ClaimHall"), ("ClaimHall", 29, yX5_init, "ClaimHall"), ("ClaimHall$Scale", 41, yX11_alike, "ClaimHall"), ("ClaimHall$Row", 43, yX11_alike, "ClaimHall"), ("ClaimHall$Standing", 118, yX11_alike, "ClaimHall"), ("ClaimHall$Shelf", 32, yX1_init, "ClaimHall"), ("ClaimHall$Claim", 11, yX5_init, "ClaimHall")]
/-- the three tables of the class: NUMBERS, FIRST_NAME, SECOND_NAME -/
def zsn (i : Nat) : String := if i = 0 then "NUMBERS" else if i = 1 then "FIRST_NAME" else "SECOND_NAME"
def zsv (i : Nat) (j : Int) : Int := if i = 0 then (if j = 1 then 3 else if j = 2 then 3 else if j = 3 then 1 else if j = 4 then 6 else 0) else if i = 1 then (if 1 ≤ j ∧ j ≤ 4 then 1 else 0) else (if j = 1 then 3 else if j = 4 then 4 else 0)
def ztys (w : zWp) : List (ClassId × FieldType) := [(w.2.1, .int), (w.2.2.1, .boolean), (w.2.2.2.1, .object "ClaimHall$Claim")]
def zEnv (w : zWp) (U : State) : Prop :=
  va_K w.1 vwCl (ztys w) U ∧ (∀ i, i < 3 → va_Z "ClaimHall" (zsn i) "[I" (.ref (w.2.2.2.2.2.1 i)) (zA w) U U.heap ∧ va_T .int (w.2.2.2.2.2.1 i) 5 (fun j => .int (Int32.ofInt (zsv i j))) (zA w) U U.heap) ∧ w.2.2.2.2.1 ≤ U.heap.size ∧
  (∀ q, q ∈ zFN → va_Nw (.fieldLinkNest q.1 q.2.1 q.2.2.1 q.2.2.2.1 q.2.2.2.2.1 q.2.2.2.2.2) U) ∧ (∀ q, q ∈ zMN → va_Nw (.methodLinkNest q.1 q.2.1 q.2.2.1 q.2.2.2) U) ∧ va_AO "ClaimHall$Claim" U ∧ va_X (w.2.2.2.2.2.1 3) w.2.2.2.2.2.2.1 w.2.2.2.2.2.2.2 U U.heap ∧ w.2.2.2.2.2.1 3 < w.2.2.2.2.1
theorem zEnv.to {w : zWp} {s U : State} (h : zEnv w s) (hW : s.WarmedH U.vm) (hk : ∀ q : Nat, q < s.heap.size → ¬ zA w q → U.heap[q]? = s.heap[q]?) (hz : s.heap.size ≤ U.heap.size) : zEnv w U := by
  obtain ⟨h1, h2, h3, h4, h5, h6, h7, h8⟩ := h
  refine ⟨va_K.moved hW.alike h1, fun i hi => ?_, Nat.le_trans h3 hz, fun q hq => va_Nw.warmF hW (h4 q hq), fun q hq => va_Nw.warmM hW (h5 q hq), va_AO.moved hW.alike h6, va_X.moved hW.alike (h7.kept (hk _ (Nat.lt_of_lt_of_le h8 h3) (Nat.not_le.mpr h8))), h8⟩
  exact ⟨va_Z.moved hW.alike ((h2 i hi).1.kept hk), va_T.moved hW.alike ((h2 i hi).2.kept hk)⟩
theorem zEnv.calling {w : zWp} {U : State} (h : zEnv w U) (g : JFrame) (mk : MethodId) (a : Array Value) : zEnv w (U.calling g mk a) := by
  obtain ⟨h1, h2, h3, h4, h5, h6, h7, h8⟩ := h
  have hv : U.vm.Alike (U.calling g mk a).vm := Vm.Alike.refl U.vm
  exact ⟨va_K.moved hv h1, fun i hi => ⟨va_Z.moved hv (h2 i hi).1, va_T.moved hv (h2 i hi).2⟩, h3, fun q hq => va_Nw.same rfl rfl (h4 q hq), fun q hq => va_Nw.same rfl rfl (h5 q hq), va_AO.moved hv h6, va_X.moved hv h7, h8⟩
/-- a heap of the machine that a flat heap stands for -/
def zRel (w : zWp) (ad : Nat → Nat) (h : zH) (H : Heap) : Prop := va_P w.1 vwCl (zws w ad h.1 h.2.1 h.2.2) H ∧ va_D (zA w) (zws w ad h.1 h.2.1 h.2.2) ∧ zgood h.1 h.2.1 h.2.2 ∧ (∀ i, i < 4 → ad (190 + i) = w.2.2.2.2.2.1 i) ∧ (∀ j : Nat, j < w.2.2.2.2.2.2.1 → Int32.ofInt (h.2.2 193 j) = w.2.2.2.2.2.2.2 j) ∧ h.2.2 194 0 = (w.2.2.2.2.2.2.1 : Int)
/-- a method's end -/
def zQc (w : zWp) (ad0 : Nat → Nat) (d0 : List Nat) (Q : Option zV → zH → Prop) : Array Value → State → Outcome → State → Prop := fun _ st o t =>
  ∃ (r : Option zV) (h : zH) (ad : Nat → Nat), Q r h ∧ o = .returned (r.map (zval ad)) ∧ (∀ v, r = some v → zok h.1 v) ∧ zRel w ad h t.heap ∧ (∀ a, a ∈ d0 → a ∈ h.1 ∧ ad a = ad0 a) ∧ va_F (zA w) st t
/-- where a method's own run stands -/
def zCx (f : zF) (kz : Nat × Nat) (Q : Option zV → zH → Prop) (p : Program) (l : Launch) (R : Room) (s : State) (m : MethodId) (args : Array Value) (meth : Method) (c : Code) (w : zWp) (d0 : List Nat) : Prop :=
  p.tables.exec = Jvm.exec ∧ c.code = f.2.1 ∧ meth.sig.returnType = f.2.2.2.1 ∧ c.maxLocals = f.2.2.1 ∧ s.vm.findClass f.1.cls = some m.cls ∧ (∀ x, x ∈ zwd f → x.before args s = true) ∧ meth.locks = false ∧ meth.name = f.1.name ∧ R.frames = f.2.2.2.2.1 ∧ R.locals = f.2.2.2.2.2 ∧
  zEnv w s ∧ d0.length ≤ kz.1 ∧ zsl d0 ≤ kz.2 ∧ R.cells = kz.1 - d0.length ∧ R.slots = kz.2 - zsl d0 ∧ ∀ r h, Q r h → h.1.length ≤ kz.1 ∧ zsl h.1 ≤ kz.2
def zPt (f : zF) (kz : Nat × Nat) (s : State) (w : zWp) (ad0 : Nat → Nat) (d0 : List Nat) (ls : List (Nat × zV)) (st : List zV) (h : zH) (ad : Nat → Nat) (H : Heap) (lsA : Array Slot) (locs : List Loc) : Prop :=
  zRel w ad h H ∧ va_S (zA w) s.heap H locs ∧ lv_has lsA f.2.2.1 (ls.map fun q => (q.1, zval ad q.2)) ∧ (∀ q, q ∈ ls → zok h.1 q.2) ∧ (∀ v, v ∈ st → zok h.1 v) ∧ (∀ a, a ∈ d0 → a ∈ h.1 ∧ ad a = ad0 a) ∧ (∀ a, zstr a → ad a = ad0 a) ∧ d0.length ≤ h.1.length ∧ zsl d0 ≤ zsl h.1 ∧ h.1.length ≤ kz.1 ∧ zsl h.1 ≤ kz.2
def Z (f : zF) (kz : Nat × Nat) (Q : Option zV → zH → Prop) (pc : Nat) (ls : List (Nat × zV)) (st : List zV) (h : zH) : Prop :=
  ∀ (p : Program) (l : Launch) (e : Env) (R : Room) (s : State) (m : MethodId) (args : Array Value) (below : List Frame) (meth : Method) (c : Code) (w : zWp) (ad0 : Nat → Nat) (d0 : List Nat), zCx f kz Q p l R s m args meth c w d0 →
  ∀ (ad : Nat → Nat) (H : Heap) (lsA : Array Slot) (locs : List Loc), zPt f kz s w ad0 d0 ls st h ad H lsA locs →
  W p l e R s m args below meth c H locs (h.1.length - d0.length) (zsl h.1 - zsl d0) (MQ below (zQc w ad0 d0 Q) args s (kz.1 - d0.length) (kz.2 - zsl d0) (zA w)) (F0 m pc lsA (st.map (zval ad)))
/-- a method's contract: from these arguments and this heap it comes to this answer and that heap -/
def zM (f : zF) (vs : List zV) (h : zH) (r : Option zV) (h' : zH) : Prop :=
  h.1.length ≤ h'.1.length ∧ zsl h.1 ≤ zsl h'.1 ∧ ∀ (l : Launch) (w : zWp) (ad : Nat → Nat),
    Met l f.1 (zwd f) ({ frames := f.2.2.2.2.1, cells := h'.1.length - h.1.length, slots := zsl h'.1 - zsl h.1, locals := f.2.2.2.2.2 } : Room)
      (fun v U => v = (vs.map (zval ad)).toArray ∧ zEnv w U ∧ zRel w ad h U.heap ∧ ∀ v, v ∈ vs → zok h.1 v) (zQc w ad h.1 (fun r1 h1 => r1 = r ∧ h1 = h')) (h'.1.length - h.1.length) (zsl h'.1 - zsl h.1) (zA w)
/-- the locals at a method's entry -/
def zent : Nat → List zV → List (Nat × zV)
  | _, [] => []
  | i, .inl x :: vs => (i, .inl x) :: zent (i + 1) vs
  | i, .inr (.inl x) :: vs => (i, .inr (.inl x)) :: zent (i + 2) vs
  | i, .inr (.inr x) :: vs => (i, .inr (.inr x)) :: zent (i + 1) vs
def zwid : List zV → Nat
  | [] => 0
  | .inl _ :: vs => 1 + zwid vs
  | .inr (.inl _) :: vs => 2 + zwid vs
  | .inr (.inr _) :: vs => 1 + zwid vs
