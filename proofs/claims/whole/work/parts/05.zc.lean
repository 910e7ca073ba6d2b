/-! ===== rules of Z: one an instruction ===== -/
section ZR
variable {f : zF} {kz : Nat × Nat} {Q : Option zV → zH → Prop} {pc : Nat} {ls : List (Nat × zV)} {st : List zV} {h : zH}
theorem zok_cons {d : List Nat} {v : zV} {st : List zV} (hv : zok d v) (hs : ∀ x, x ∈ st → zok d x) : ∀ x, x ∈ v :: st → zok d x := fun x hx => by
  rcases List.mem_cons.mp hx with e | e
  · rw [e]; exact hv
  · exact hs x e
theorem zok_tl {d : List Nat} {v : zV} {st : List zV} (hs : ∀ x, x ∈ v :: st → zok d x) : ∀ x, x ∈ st → zok d x := fun x hx => hs x (List.mem_cons_of_mem _ hx)
theorem zok_hd {d : List Nat} {v : zV} {st : List zV} (hs : ∀ x, x ∈ v :: st → zok d x) : zok d v := hs v List.mem_cons_self
theorem zint_ofInt {x : Int32} : Int32.ofInt x.toInt = x := Int32.ofInt_toInt x
theorem zin_i32 (x : Int32) : zin x.toInt := by
  have h1 := Int32.minValue_le_toInt x
  have h2 := Int32.toInt_le x
  have e1 : Int32.minValue.toInt = -2147483648 := by decide
  have e2 : Int32.maxValue.toInt = 2147483647 := by decide
  unfold zin
  omega
/-- an instruction that touches the stack alone -/
theorem Z.op {pc' : Nat} {st' : List zV} (hok : (∀ v, v ∈ st → zok h.1 v) → (∀ q, q ∈ ls → zok h.1 q.2) → zgood h.1 h.2.1 h.2.2 → ∀ v, v ∈ st' → zok h.1 v)
    (hW : ∀ (p : Program) (l : Launch) (e : Env) (R : Room) (s : State) (m : MethodId) (args : Array Value) (below : List Frame) (meth : Method) (c : Code) (w : zWp) (ad0 : Nat → Nat) (d0 : List Nat), zCx f kz Q p l R s m args meth c w d0 →
      ∀ (ad : Nat → Nat) (H : Heap) (lsA : Array Slot) (locs : List Loc) (cells slots : Nat) (Q2 : State → Prop), zPt f kz s w ad0 d0 ls st h ad H lsA locs → W p l e R s m args below meth c H locs cells slots Q2 (F0 m pc' lsA (st'.map (zval ad))) → W p l e R s m args below meth c H locs cells slots Q2 (F0 m pc lsA (st.map (zval ad))))
    (K : Z f kz Q pc' ls st' h) : Z f kz Q pc ls st h := by
  intro p l e R s m args below meth c w ad0 d0 C ad H lsA locs P
  have P' := P
  obtain ⟨a1, a2, a3, a4, a5, a6⟩ := P'
  exact hW p l e R s m args below meth c w ad0 d0 C ad H lsA locs _ _ _ P (K p l e R s m args below meth c w ad0 d0 C ad H lsA locs ⟨a1, a2, a3, a4, hok a5 a4 a1.2.2.1, a6⟩)
theorem Z.iconst {n : Int} (hd : decode f.2.1 pc = .ok (.iconst n, 1)) (hz : zin n) (K : Z f kz Q (pc + 1) ls (zI n :: st) h) : Z f kz Q pc ls (st) h :=
  Z.op (st := (st)) (st' := (zI n :: st)) (fun o o2 _ => zok_cons (show zok h.1 (zI n) from hz) o) (fun p l e R s m args below meth c w ad0 d0 C ad H lsA locs cells slots Q2 P k => lv_iconst C.1 C.2.1 hd rfl k) K
theorem Z.bipush {n : Int} (hd : decode f.2.1 pc = .ok (.bipush n, 2)) (hz : zin n) (hv : (Int8.ofInt n).toInt32 = Int32.ofInt n) (K : Z f kz Q (pc + 2) ls (zI n :: st) h) : Z f kz Q pc ls (st) h :=
  Z.op (st := (st)) (st' := (zI n :: st)) (fun o o2 _ => zok_cons (show zok h.1 (zI n) from hz) o) (fun p l e R s m args below meth c w ad0 d0 C ad H lsA locs cells slots Q2 P k => lv_bipush C.1 C.2.1 hd hv k) K
theorem Z.sipush {n : Int} (hd : decode f.2.1 pc = .ok (.sipush n, 3)) (hz : zin n) (hv : (Int16.ofInt n).toInt32 = Int32.ofInt n) (K : Z f kz Q (pc + 3) ls (zI n :: st) h) : Z f kz Q pc ls (st) h :=
  Z.op (st := (st)) (st' := (zI n :: st)) (fun o o2 _ => zok_cons (show zok h.1 (zI n) from hz) o) (fun p l e R s m args below meth c w ad0 d0 C ad H lsA locs cells slots Q2 P k => lv_sipush C.1 C.2.1 hd hv k) K
theorem Z.ldc {n : Int} {i : Nat} (hd : decode f.2.1 pc = .ok (.ldc i, 2)) (hz : zin n) (hv : Cond.constant f.1.cls i (Int32.ofInt n) ∈ zT) (K : Z f kz Q (pc + 2) ls (zI n :: st) h) : Z f kz Q pc ls (st) h :=
  Z.op (st := (st)) (st' := (zI n :: st)) (fun o o2 _ => zok_cons (show zok h.1 (zI n) from hz) o) (fun p l e R s m args below meth c w ad0 d0 C ad H lsA locs cells slots Q2 P k => lv_ldc C.1 C.2.1 C.2.2.2.2.1 (C.2.2.2.2.2.1 _ (List.mem_cons_of_mem _ hv)) hd k) K
theorem Z.ldc_w {n : Int} {i : Nat} (hd : decode f.2.1 pc = .ok (.ldc_w i, 3)) (hz : zin n) (hv : Cond.constant f.1.cls i (Int32.ofInt n) ∈ zT) (K : Z f kz Q (pc + 3) ls (zI n :: st) h) : Z f kz Q pc ls (st) h :=
  Z.op (st := (st)) (st' := (zI n :: st)) (fun o o2 _ => zok_cons (show zok h.1 (zI n) from hz) o) (fun p l e R s m args below meth c w ad0 d0 C ad H lsA locs cells slots Q2 P k => lv_ldcw C.1 C.2.1 C.2.2.2.2.1 (C.2.2.2.2.2.1 _ (List.mem_cons_of_mem _ hv)) hd k) K
theorem Z.ldc2 {x : Int64} {i : Nat} (hd : decode f.2.1 pc = .ok (.ldc2_w i, 3)) (hv : Cond.constantLong f.1.cls i x ∈ zT) (K : Z f kz Q (pc + 3) ls (zL x :: st) h) : Z f kz Q pc ls (st) h :=
  Z.op (st := (st)) (st' := (zL x :: st)) (fun o o2 _ => zok_cons (show zok h.1 (zL x) from trivial) o) (fun p l e R s m args below meth c w ad0 d0 C ad H lsA locs cells slots Q2 P k => lv_ldc2 C.1 C.2.1 C.2.2.2.2.1 (C.2.2.2.2.2.1 _ (List.mem_cons_of_mem _ hv)) hd k) K
theorem Z.null  (hd : decode f.2.1 pc = .ok (.aconst_null, 1))  (K : Z f kz Q (pc + 1) ls (zN :: st) h) : Z f kz Q pc ls (st) h :=
  Z.op (st := (st)) (st' := (zN :: st)) (fun o o2 _ => zok_cons (v := zN) (fun a e => by cases e) o) (fun p l e R s m args below meth c w ad0 d0 C ad H lsA locs cells slots Q2 P k => lv_null C.1 C.2.1 hd k) K
theorem zlv {w0 : zWp} {s : State} {ad0 ad : Nat → Nat} {d0 : List Nat} {H : Heap} {lsA : Array Slot} {locs : List Loc} (P : zPt f kz s w0 ad0 d0 ls st h ad H lsA locs) {i k : Nat} {v : zV} (hk : ls[k]? = some (i, v)) : lsA[i]? = some (.val (zval ad v)) :=
  lv_at P.2.2.1 k (by rw [List.getElem?_map, hk]; rfl)
theorem zlo (o2 : ∀ q, q ∈ ls → zok h.1 q.2) {i k : Nat} {v : zV} (hk : ls[k]? = some (i, v)) : zok h.1 v := o2 (i, v) (List.mem_of_getElem? hk)
theorem Z.iload {i k : Nat} {x : Int} (hd : decode f.2.1 pc = .ok (.iload i, 2)) (hk : ls[k]? = some (i, zI x)) (K : Z f kz Q (pc + 2) ls (zI x :: st) h) : Z f kz Q pc ls (st) h :=
  Z.op (st := (st)) (st' := (zI x :: st)) (fun o o2 _ => zok_cons (zlo o2 hk) o) (fun p l e R s m args below meth c w ad0 d0 C ad H lsA locs cells slots Q2 P k => lv_iload C.1 C.2.1 hd (zlv P hk) k) K
theorem Z.iload_n {i : Fin 4} {k : Nat} {x : Int} (hd : decode f.2.1 pc = .ok (.iload_n i, 1)) (hk : ls[k]? = some (i.val, zI x)) (K : Z f kz Q (pc + 1) ls (zI x :: st) h) : Z f kz Q pc ls (st) h :=
  Z.op (st := (st)) (st' := (zI x :: st)) (fun o o2 _ => zok_cons (zlo o2 hk) o) (fun p l e R s m args below meth c w ad0 d0 C ad H lsA locs cells slots Q2 P k => lv_iload_n C.1 C.2.1 hd rfl (zlv P hk) k) K
theorem Z.lload {i k : Nat} {x : Int64} (hd : decode f.2.1 pc = .ok (.lload i, 2)) (hk : ls[k]? = some (i, zL x)) (K : Z f kz Q (pc + 2) ls (zL x :: st) h) : Z f kz Q pc ls (st) h :=
  Z.op (st := (st)) (st' := (zL x :: st)) (fun o o2 _ => zok_cons (zlo o2 hk) o) (fun p l e R s m args below meth c w ad0 d0 C ad H lsA locs cells slots Q2 P k => lv_lload C.1 C.2.1 hd (zlv P hk) k) K
theorem Z.lload_n {i : Fin 4} {k : Nat} {x : Int64} (hd : decode f.2.1 pc = .ok (.lload_n i, 1)) (hk : ls[k]? = some (i.val, zL x)) (K : Z f kz Q (pc + 1) ls (zL x :: st) h) : Z f kz Q pc ls (st) h :=
  Z.op (st := (st)) (st' := (zL x :: st)) (fun o o2 _ => zok_cons (zlo o2 hk) o) (fun p l e R s m args below meth c w ad0 d0 C ad H lsA locs cells slots Q2 P k => lv_lload_n C.1 C.2.1 hd rfl (zlv P hk) k) K
theorem zrf_cases (ad : Nat → Nat) (x : Option Nat) : va_rf (x.map ad) = .null ∧ x = none ∨ ∃ a, va_rf (x.map ad) = .ref a := by
  cases x with
  | none => exact Or.inl ⟨rfl, rfl⟩
  | some a => exact Or.inr ⟨ad a, rfl⟩
theorem Z.aload {i k : Nat} {x : Option Nat} (hd : decode f.2.1 pc = .ok (.aload i, 2)) (hk : ls[k]? = some (i, zO x)) (K : Z f kz Q (pc + 2) ls (zO x :: st) h) : Z f kz Q pc ls (st) h :=
  Z.op (st := (st)) (st' := (zO x :: st)) (fun o o2 _ => zok_cons (zlo o2 hk) o) (fun p l e R s m args below meth c w ad0 d0 C ad H lsA locs cells slots Q2 P k => by
    have e := zlv P hk
    cases x with
    | none => exact lv_aloadN C.1 C.2.1 hd e k
    | some a => exact lv_aload C.1 C.2.1 hd e k) K
theorem Z.aload_n {i : Fin 4} {k : Nat} {x : Option Nat} (hd : decode f.2.1 pc = .ok (.aload_n i, 1)) (hk : ls[k]? = some (i.val, zO x)) (K : Z f kz Q (pc + 1) ls (zO x :: st) h) : Z f kz Q pc ls (st) h :=
  Z.op (st := (st)) (st' := (zO x :: st)) (fun o o2 _ => zok_cons (zlo o2 hk) o) (fun p l e R s m args below meth c w ad0 d0 C ad H lsA locs cells slots Q2 P k => by
    have e := zlv P hk
    cases x with
    | none => exact lv_aload_nN C.1 C.2.1 hd rfl e k
    | some a => exact lv_aload_n C.1 C.2.1 hd rfl e k) K
theorem Z.iadd {a b : Int} (hd : decode f.2.1 pc = .ok (.iadd, 1)) (hz : zin (a + b)) (K : Z f kz Q (pc + 1) ls (zI (a + b) :: st) h) : Z f kz Q pc ls (zI b :: zI a :: st) h :=
  Z.op (st := (zI b :: zI a :: st)) (st' := (zI (a + b) :: st)) (fun o o2 _ => zok_cons (v := zI _) hz (zok_tl (zok_tl o))) (fun p l e R s m args below meth c w ad0 d0 C ad H lsA locs cells slots Q2 P k => lv_iadd C.1 C.2.1 hd (by rw [← Int32.ofInt_add]; exact k)) K
theorem Z.isub {a b : Int} (hd : decode f.2.1 pc = .ok (.isub, 1)) (hz : zin (a - b)) (K : Z f kz Q (pc + 1) ls (zI (a - b) :: st) h) : Z f kz Q pc ls (zI b :: zI a :: st) h :=
  Z.op (st := (zI b :: zI a :: st)) (st' := (zI (a - b) :: st)) (fun o o2 _ => zok_cons (v := zI _) hz (zok_tl (zok_tl o))) (fun p l e R s m args below meth c w ad0 d0 C ad H lsA locs cells slots Q2 P k => lv_isub C.1 C.2.1 hd (by rw [← Int32.ofInt_sub]; exact k)) K
theorem Z.imul {a b : Int} (hd : decode f.2.1 pc = .ok (.imul, 1)) (hz : zin (a * b)) (K : Z f kz Q (pc + 1) ls (zI (a * b) :: st) h) : Z f kz Q pc ls (zI b :: zI a :: st) h :=
  Z.op (st := (zI b :: zI a :: st)) (st' := (zI (a * b) :: st)) (fun o o2 _ => zok_cons (v := zI _) hz (zok_tl (zok_tl o))) (fun p l e R s m args below meth c w ad0 d0 C ad H lsA locs cells slots Q2 P k => lv_imul C.1 C.2.1 hd (by rw [← Int32.ofInt_mul]; exact k)) K
theorem Z.ineg {a : Int} (hd : decode f.2.1 pc = .ok (.ineg, 1)) (hz : zin (-a)) (K : Z f kz Q (pc + 1) ls (zI (-a) :: st) h) : Z f kz Q pc ls (zI a :: st) h :=
  Z.op (st := (zI a :: st)) (st' := (zI (-a) :: st)) (fun o o2 _ => zok_cons (v := zI _) hz (zok_tl o)) (fun p l e R s m args below meth c w ad0 d0 C ad H lsA locs cells slots Q2 P k => lv_ineg C.1 C.2.1 hd (by rw [← Int32.ofInt_neg]; exact k)) K
def zand (a b : Int) : Int := (Int32.ofInt a &&& Int32.ofInt b).toInt
def zor (a b : Int) : Int := (Int32.ofInt a ||| Int32.ofInt b).toInt
def zxor (a b : Int) : Int := (Int32.ofInt a ^^^ Int32.ofInt b).toInt
def zshl (a b : Int) : Int := (Int32.ofInt a <<< (Int32.ofInt b &&& 31)).toInt
theorem Z.iand {a b : Int} (hd : decode f.2.1 pc = .ok (.iand, 1))  (K : Z f kz Q (pc + 1) ls (zI (zand a b) :: st) h) : Z f kz Q pc ls (zI b :: zI a :: st) h :=
  Z.op (st := (zI b :: zI a :: st)) (st' := (zI (zand a b) :: st)) (fun o o2 _ => zok_cons (v := zI _) (zin_i32 _) (zok_tl (zok_tl o))) (fun p l e R s m args below meth c w ad0 d0 C ad H lsA locs cells slots Q2 P k => lv_iand C.1 C.2.1 hd (by
    have k2 := k
    simp only [List.map_cons, zval, zand, zint_ofInt] at k2
    exact k2)) K
theorem Z.ior {a b : Int} (hd : decode f.2.1 pc = .ok (.ior, 1))  (K : Z f kz Q (pc + 1) ls (zI (zor a b) :: st) h) : Z f kz Q pc ls (zI b :: zI a :: st) h :=
  Z.op (st := (zI b :: zI a :: st)) (st' := (zI (zor a b) :: st)) (fun o o2 _ => zok_cons (v := zI _) (zin_i32 _) (zok_tl (zok_tl o))) (fun p l e R s m args below meth c w ad0 d0 C ad H lsA locs cells slots Q2 P k => lv_ior C.1 C.2.1 hd (by
    have k2 := k
    simp only [List.map_cons, zval, zor, zint_ofInt] at k2
    exact k2)) K
theorem Z.ixor {a b : Int} (hd : decode f.2.1 pc = .ok (.ixor, 1))  (K : Z f kz Q (pc + 1) ls (zI (zxor a b) :: st) h) : Z f kz Q pc ls (zI b :: zI a :: st) h :=
  Z.op (st := (zI b :: zI a :: st)) (st' := (zI (zxor a b) :: st)) (fun o o2 _ => zok_cons (v := zI _) (zin_i32 _) (zok_tl (zok_tl o))) (fun p l e R s m args below meth c w ad0 d0 C ad H lsA locs cells slots Q2 P k => lv_ixor C.1 C.2.1 hd (by
    have k2 := k
    simp only [List.map_cons, zval, zxor, zint_ofInt] at k2
    exact k2)) K
theorem Z.ishl {a b : Int} (hd : decode f.2.1 pc = .ok (.ishl, 1))  (K : Z f kz Q (pc + 1) ls (zI (zshl a b) :: st) h) : Z f kz Q pc ls (zI b :: zI a :: st) h :=
  Z.op (st := (zI b :: zI a :: st)) (st' := (zI (zshl a b) :: st)) (fun o o2 _ => zok_cons (v := zI _) (zin_i32 _) (zok_tl (zok_tl o))) (fun p l e R s m args below meth c w ad0 d0 C ad H lsA locs cells slots Q2 P k => lv_ishl C.1 C.2.1 hd (by
    have k2 := k
    simp only [List.map_cons, zval, zshl, zint_ofInt] at k2
    exact k2)) K
theorem zrem_i32 {a b : Int} (ha : zin a) (hb : zin b) (h0 : 0 ≤ a) (h1 : 0 < b) : Int32.ofInt a - Int32.ofInt a / Int32.ofInt b * Int32.ofInt b = Int32.ofInt (a % b) := by
  obtain ⟨m, rfl⟩ := Int.eq_ofNat_of_zero_le h0
  obtain ⟨n, rfl⟩ := Int.eq_ofNat_of_zero_le (Int.le_of_lt h1)
  have e := pk_rem (a := m) (d := n) (by have := ha.2; omega) (by omega) (by have := hb.2; omega)
  have em : ∀ k : Nat, Int32.ofInt (k : Int) = nI k := fun k => by
    rw [nI]
    first | exact Int32.ofInt_eq_ofNat | exact Int32.toBitVec_inj.mp (BitVec.ofInt_natCast 32 k) | rfl
  rw [em, em, e, ← em]
  rfl
theorem zin_rem {a b : Int} (ha : zin a) (hb : zin b) (h0 : 0 ≤ a) (h1 : 0 < b) : zin (a % b) := by
  have e1 := Int.emod_nonneg a (show b ≠ 0 by omega)
  have e2 := Int.emod_lt_of_pos a h1
  obtain ⟨g1, g2⟩ := hb
  exact ⟨by omega, by omega⟩
theorem Z.irem {a b : Int} (hd : decode f.2.1 pc = .ok (.irem, 1)) (h0 : 0 ≤ a) (h1 : 0 < b) (K : Z f kz Q (pc + 1) ls (zI (a % b) :: st) h) : Z f kz Q pc ls (zI b :: zI a :: st) h :=
  Z.op (st := (zI b :: zI a :: st)) (st' := (zI (a % b) :: st)) (fun o o2 _ => zok_cons (v := zI _) (zin_rem (zok_hd (zok_tl o)) (zok_hd o) h0 h1) (zok_tl (zok_tl o))) (fun p l e R s m args below meth c w ad0 d0 C ad H lsA locs cells slots Q2 P k => by
    have hb : zin b := zok_hd P.2.2.2.2.1
    have ha : zin a := zok_hd (zok_tl P.2.2.2.2.1)
    refine lv_irem C.1 C.2.1 hd (fun q => ?_) (by rw [zrem_i32 ha hb h0 h1]; exact k)
    rw [← zz0, zeq hb zin0] at q
    omega) K
theorem Z.dup_i {v : zV} (hd : decode f.2.1 pc = .ok (.dup, 1)) (hc : ∀ ad, (zval ad v).category = 1) (K : Z f kz Q (pc + 1) ls (v :: v :: st) h) : Z f kz Q pc ls (v :: st) h :=
  Z.op (st := (v :: st)) (st' := (v :: v :: st)) (fun o o2 _ => zok_cons (zok_hd o) o) (fun p l e R s m args below meth c w ad0 d0 C ad H lsA locs cells slots Q2 P k => lv_dup C.1 C.2.1 hd (hc ad) k) K
theorem Z.pop_i {v : zV} (hd : decode f.2.1 pc = .ok (.pop, 1)) (hc : ∀ ad, (zval ad v).category = 1) (K : Z f kz Q (pc + 1) ls (st) h) : Z f kz Q pc ls (v :: st) h :=
  Z.op (st := (v :: st)) (st' := (st)) (fun o o2 _ => zok_tl o) (fun p l e R s m args below meth c w ad0 d0 C ad H lsA locs cells slots Q2 P k => lv_pop C.1 C.2.1 hd (hc ad) k) K
theorem Z.dup2_i {v v2 : zV} (hd : decode f.2.1 pc = .ok (.dup2, 1)) (hc : ∀ ad, (zval ad v).category = 1) (hc2 : ∀ ad, (zval ad v2).category = 1) (K : Z f kz Q (pc + 1) ls (v :: v2 :: v :: v2 :: st) h) : Z f kz Q pc ls (v :: v2 :: st) h :=
  Z.op (st := (v :: v2 :: st)) (st' := (v :: v2 :: v :: v2 :: st)) (fun o o2 _ => zok_cons (zok_hd o) (zok_cons (zok_hd (zok_tl o)) o)) (fun p l e R s m args below meth c w ad0 d0 C ad H lsA locs cells slots Q2 P k => lv_dup2_11 C.1 C.2.1 hd (hc ad) (hc2 ad) k) K
theorem Z.i2l {a : Int} (hd : decode f.2.1 pc = .ok (.i2l, 1))  (K : Z f kz Q (pc + 1) ls (zL (Int64.ofInt a) :: st) h) : Z f kz Q pc ls (zI a :: st) h :=
  Z.op (st := (zI a :: st)) (st' := (zL (Int64.ofInt a) :: st)) (fun o o2 _ => zok_cons (v := zL _) trivial (zok_tl o)) (fun p l e R s m args below meth c w ad0 d0 C ad H lsA locs cells slots Q2 P k => by
    have ha : zin a := zok_hd P.2.2.2.2.1
    refine lv_i2l C.1 C.2.1 hd (v := Int64.ofInt a) ?_ k
    apply Int64.toInt_inj.mp
    rw [Int32.toInt_toInt64, zin_toInt ha, Int64.toInt_ofInt]
    obtain ⟨g1, g2⟩ := ha
    rw [Int.bmod_eq_of_le_mul_two] <;> simp [Int64.size] <;> omega) K
theorem Z.ladd {x y : Int64} (hd : decode f.2.1 pc = .ok (.ladd, 1))  (K : Z f kz Q (pc + 1) ls (zL (x + y) :: st) h) : Z f kz Q pc ls (zL y :: zL x :: st) h :=
  Z.op (st := (zL y :: zL x :: st)) (st' := (zL (x + y) :: st)) (fun o o2 _ => zok_cons (v := zL _) trivial (zok_tl (zok_tl o))) (fun p l e R s m args below meth c w ad0 d0 C ad H lsA locs cells slots Q2 P k => lv_ladd C.1 C.2.1 hd k) K
theorem Z.lmul {x y : Int64} (hd : decode f.2.1 pc = .ok (.lmul, 1))  (K : Z f kz Q (pc + 1) ls (zL (x * y) :: st) h) : Z f kz Q pc ls (zL y :: zL x :: st) h :=
  Z.op (st := (zL y :: zL x :: st)) (st' := (zL (x * y) :: st)) (fun o o2 _ => zok_cons (v := zL _) trivial (zok_tl (zok_tl o))) (fun p l e R s m args below meth c w ad0 d0 C ad H lsA locs cells slots Q2 P k => lv_lmul C.1 C.2.1 hd k) K
def zlcmp (x y : Int64) : Int := (lg_cmp x y).toInt
theorem Z.lcmp {x y : Int64} (hd : decode f.2.1 pc = .ok (.lcmp, 1))  (K : Z f kz Q (pc + 1) ls (zI (zlcmp x y) :: st) h) : Z f kz Q pc ls (zL y :: zL x :: st) h :=
  Z.op (st := (zL y :: zL x :: st)) (st' := (zI (zlcmp x y) :: st)) (fun o o2 _ => zok_cons (v := zI _) (zin_i32 _) (zok_tl (zok_tl o))) (fun p l e R s m args below meth c w ad0 d0 C ad H lsA locs cells slots Q2 P k => W.lcmp C.1 C.2.1 hd (by
    have k2 := k
    simp only [List.map_cons, zval, zlcmp, zint_ofInt] at k2
    exact k2)) K
theorem Z.goto {off : Int} (tgt : Nat) (hd : decode f.2.1 pc = .ok (.goto off, 3)) (ht : (pc : Int) + off = (tgt : Int)) (K : Z f kz Q tgt ls st h) : Z f kz Q pc ls st h :=
  Z.op (fun o _ _ => o) (fun p l e R s m args below meth c w ad0 d0 C ad H lsA locs cells slots Q2 P k => lv_goto C.1 C.2.1 hd ht k) K
theorem Z.icmp_eq {a b : Int} {off : Int} (tgt : Nat) (hd : decode f.2.1 pc = .ok (.if_icmp .eq off, 3)) (ht : (pc : Int) + off = (tgt : Int)) (K : ((a = b) → Z f kz Q tgt ls st h) ∧ (¬ (a = b) → Z f kz Q (pc + 3) ls st h)) : Z f kz Q pc ls (zI b :: zI a :: st) h := by
  by_cases hc : a = b
  · refine Z.op (fun o _ _ => zok_tl (zok_tl o)) (fun p l e R s m args below meth c w ad0 d0 C ad H lsA locs cells slots Q2 P k => ?_) (K.1 hc)
    have hb : zin b := zok_hd P.2.2.2.2.1
    have ha : zin a := zok_hd (zok_tl P.2.2.2.2.1)
    exact lv_icmp_eq C.1 C.2.1 hd ht (fun _ => k) (fun q => by first | exact absurd ((zeq ha hb).mpr hc) q | exact absurd ((zeq ha hb).mp q) hc)
  · refine Z.op (fun o _ _ => zok_tl (zok_tl o)) (fun p l e R s m args below meth c w ad0 d0 C ad H lsA locs cells slots Q2 P k => ?_) (K.2 hc)
    have hb : zin b := zok_hd P.2.2.2.2.1
    have ha : zin a := zok_hd (zok_tl P.2.2.2.2.1)
    exact lv_icmp_eq C.1 C.2.1 hd ht (fun q => by first | exact absurd ((zeq ha hb).mp q) hc | exact absurd (fun z => hc ((zeq ha hb).mp z)) (fun z => z q) | exact absurd q (fun z => hc (fun y => z ((zeq ha hb).mpr y)))) (fun _ => k)
theorem Z.icmp_lt {a b : Int} {off : Int} (tgt : Nat) (hd : decode f.2.1 pc = .ok (.if_icmp .lt off, 3)) (ht : (pc : Int) + off = (tgt : Int)) (K : ((a < b) → Z f kz Q tgt ls st h) ∧ (¬ (a < b) → Z f kz Q (pc + 3) ls st h)) : Z f kz Q pc ls (zI b :: zI a :: st) h := by
  by_cases hc : a < b
  · refine Z.op (fun o _ _ => zok_tl (zok_tl o)) (fun p l e R s m args below meth c w ad0 d0 C ad H lsA locs cells slots Q2 P k => ?_) (K.1 hc)
    have hb : zin b := zok_hd P.2.2.2.2.1
    have ha : zin a := zok_hd (zok_tl P.2.2.2.2.1)
    exact lv_icmp_lt C.1 C.2.1 hd ht (fun _ => k) (fun q => by first | exact absurd ((zlt ha hb).mpr hc) q | exact absurd ((zlt ha hb).mp q) hc)
  · refine Z.op (fun o _ _ => zok_tl (zok_tl o)) (fun p l e R s m args below meth c w ad0 d0 C ad H lsA locs cells slots Q2 P k => ?_) (K.2 hc)
    have hb : zin b := zok_hd P.2.2.2.2.1
    have ha : zin a := zok_hd (zok_tl P.2.2.2.2.1)
    exact lv_icmp_lt C.1 C.2.1 hd ht (fun q => by first | exact absurd ((zlt ha hb).mp q) hc | exact absurd (fun z => hc ((zlt ha hb).mp z)) (fun z => z q) | exact absurd q (fun z => hc (fun y => z ((zlt ha hb).mpr y)))) (fun _ => k)
theorem Z.icmp_ge {a b : Int} {off : Int} (tgt : Nat) (hd : decode f.2.1 pc = .ok (.if_icmp .ge off, 3)) (ht : (pc : Int) + off = (tgt : Int)) (K : ((b ≤ a) → Z f kz Q tgt ls st h) ∧ (¬ (b ≤ a) → Z f kz Q (pc + 3) ls st h)) : Z f kz Q pc ls (zI b :: zI a :: st) h := by
  by_cases hc : b ≤ a
  · refine Z.op (fun o _ _ => zok_tl (zok_tl o)) (fun p l e R s m args below meth c w ad0 d0 C ad H lsA locs cells slots Q2 P k => ?_) (K.1 hc)
    have hb : zin b := zok_hd P.2.2.2.2.1
    have ha : zin a := zok_hd (zok_tl P.2.2.2.2.1)
    exact lv_icmp_ge C.1 C.2.1 hd ht (fun _ => k) (fun q => by first | exact absurd ((zle hb ha).mpr hc) q | exact absurd ((zle hb ha).mp q) hc)
  · refine Z.op (fun o _ _ => zok_tl (zok_tl o)) (fun p l e R s m args below meth c w ad0 d0 C ad H lsA locs cells slots Q2 P k => ?_) (K.2 hc)
    have hb : zin b := zok_hd P.2.2.2.2.1
    have ha : zin a := zok_hd (zok_tl P.2.2.2.2.1)
    exact lv_icmp_ge C.1 C.2.1 hd ht (fun q => by first | exact absurd ((zle hb ha).mp q) hc | exact absurd (fun z => hc ((zle hb ha).mp z)) (fun z => z q) | exact absurd q (fun z => hc (fun y => z ((zle hb ha).mpr y)))) (fun _ => k)
theorem Z.icmp_gt {a b : Int} {off : Int} (tgt : Nat) (hd : decode f.2.1 pc = .ok (.if_icmp .gt off, 3)) (ht : (pc : Int) + off = (tgt : Int)) (K : ((b < a) → Z f kz Q tgt ls st h) ∧ (¬ (b < a) → Z f kz Q (pc + 3) ls st h)) : Z f kz Q pc ls (zI b :: zI a :: st) h := by
  by_cases hc : b < a
  · refine Z.op (fun o _ _ => zok_tl (zok_tl o)) (fun p l e R s m args below meth c w ad0 d0 C ad H lsA locs cells slots Q2 P k => ?_) (K.1 hc)
    have hb : zin b := zok_hd P.2.2.2.2.1
    have ha : zin a := zok_hd (zok_tl P.2.2.2.2.1)
    exact lv_icmp_gt C.1 C.2.1 hd ht (fun _ => k) (fun q => by first | exact absurd ((zlt hb ha).mpr hc) q | exact absurd ((zlt hb ha).mp q) hc)
  · refine Z.op (fun o _ _ => zok_tl (zok_tl o)) (fun p l e R s m args below meth c w ad0 d0 C ad H lsA locs cells slots Q2 P k => ?_) (K.2 hc)
    have hb : zin b := zok_hd P.2.2.2.2.1
    have ha : zin a := zok_hd (zok_tl P.2.2.2.2.1)
    exact lv_icmp_gt C.1 C.2.1 hd ht (fun q => by first | exact absurd ((zlt hb ha).mp q) hc | exact absurd (fun z => hc ((zlt hb ha).mp z)) (fun z => z q) | exact absurd q (fun z => hc (fun y => z ((zlt hb ha).mpr y)))) (fun _ => k)
theorem Z.icmp_le {a b : Int} {off : Int} (tgt : Nat) (hd : decode f.2.1 pc = .ok (.if_icmp .le off, 3)) (ht : (pc : Int) + off = (tgt : Int)) (K : ((a ≤ b) → Z f kz Q tgt ls st h) ∧ (¬ (a ≤ b) → Z f kz Q (pc + 3) ls st h)) : Z f kz Q pc ls (zI b :: zI a :: st) h := by
  by_cases hc : a ≤ b
  · refine Z.op (fun o _ _ => zok_tl (zok_tl o)) (fun p l e R s m args below meth c w ad0 d0 C ad H lsA locs cells slots Q2 P k => ?_) (K.1 hc)
    have hb : zin b := zok_hd P.2.2.2.2.1
    have ha : zin a := zok_hd (zok_tl P.2.2.2.2.1)
    exact lv_icmp_le C.1 C.2.1 hd ht (fun _ => k) (fun q => by first | exact absurd ((zle ha hb).mpr hc) q | exact absurd ((zle ha hb).mp q) hc)
  · refine Z.op (fun o _ _ => zok_tl (zok_tl o)) (fun p l e R s m args below meth c w ad0 d0 C ad H lsA locs cells slots Q2 P k => ?_) (K.2 hc)
    have hb : zin b := zok_hd P.2.2.2.2.1
    have ha : zin a := zok_hd (zok_tl P.2.2.2.2.1)
    exact lv_icmp_le C.1 C.2.1 hd ht (fun q => by first | exact absurd ((zle ha hb).mp q) hc | exact absurd (fun z => hc ((zle ha hb).mp z)) (fun z => z q) | exact absurd q (fun z => hc (fun y => z ((zle ha hb).mpr y)))) (fun _ => k)
theorem Z.icmp_ne {a b : Int} {off : Int} (tgt : Nat) (hd : decode f.2.1 pc = .ok (.if_icmp .ne off, 3)) (ht : (pc : Int) + off = (tgt : Int)) (K : (a ≠ b → Z f kz Q tgt ls st h) ∧ (¬ a ≠ b → Z f kz Q (pc + 3) ls st h)) : Z f kz Q pc ls (zI b :: zI a :: st) h := by
  by_cases hc : a ≠ b
  · refine Z.op (fun o _ _ => zok_tl (zok_tl o)) (fun p l e R s m args below meth c w ad0 d0 C ad H lsA locs cells slots Q2 P k => ?_) (K.1 hc)
    have hb : zin b := zok_hd P.2.2.2.2.1
    have ha : zin a := zok_hd (zok_tl P.2.2.2.2.1)
    exact lv_icmp_ne C.1 C.2.1 hd ht (fun _ => k) (fun q => absurd ((zeq ha hb).mp q) hc)
  · refine Z.op (fun o _ _ => zok_tl (zok_tl o)) (fun p l e R s m args below meth c w ad0 d0 C ad H lsA locs cells slots Q2 P k => ?_) (K.2 hc)
    have hb : zin b := zok_hd P.2.2.2.2.1
    have ha : zin a := zok_hd (zok_tl P.2.2.2.2.1)
    exact lv_icmp_ne C.1 C.2.1 hd ht (fun q => absurd ((zeq ha hb).mpr (Decidable.not_not.mp hc)) q) (fun _ => k)
theorem Z.if_eq {a : Int} {off : Int} (tgt : Nat) (hd : decode f.2.1 pc = .ok (.ifCond .eq off, 3)) (ht : (pc : Int) + off = (tgt : Int)) (K : ((a = 0) → Z f kz Q tgt ls st h) ∧ (¬ (a = 0) → Z f kz Q (pc + 3) ls st h)) : Z f kz Q pc ls (zI a :: st) h := by
  by_cases hc : a = 0
  · refine Z.op (fun o _ _ => zok_tl o) (fun p l e R s m args below meth c w ad0 d0 C ad H lsA locs cells slots Q2 P k => ?_) (K.1 hc)
    have ha : zin a := zok_hd P.2.2.2.2.1
    exact lv_if_eq C.1 C.2.1 hd ht (fun _ => k) (fun q => absurd (by rw [← zz0]; exact (zeq ha zin0).mpr hc) q)
  · refine Z.op (fun o _ _ => zok_tl o) (fun p l e R s m args below meth c w ad0 d0 C ad H lsA locs cells slots Q2 P k => ?_) (K.2 hc)
    have ha : zin a := zok_hd P.2.2.2.2.1
    exact lv_if_eq C.1 C.2.1 hd ht (fun q => absurd ((zeq ha zin0).mp (by rw [zz0]; exact q)) hc) (fun _ => k)
theorem Z.if_lt {a : Int} {off : Int} (tgt : Nat) (hd : decode f.2.1 pc = .ok (.ifCond .lt off, 3)) (ht : (pc : Int) + off = (tgt : Int)) (K : ((a < 0) → Z f kz Q tgt ls st h) ∧ (¬ (a < 0) → Z f kz Q (pc + 3) ls st h)) : Z f kz Q pc ls (zI a :: st) h := by
  by_cases hc : a < 0
  · refine Z.op (fun o _ _ => zok_tl o) (fun p l e R s m args below meth c w ad0 d0 C ad H lsA locs cells slots Q2 P k => ?_) (K.1 hc)
    have ha : zin a := zok_hd P.2.2.2.2.1
    exact lv_if_lt C.1 C.2.1 hd ht (fun _ => k) (fun q => absurd (by rw [← zz0]; exact (zlt ha zin0).mpr hc) q)
  · refine Z.op (fun o _ _ => zok_tl o) (fun p l e R s m args below meth c w ad0 d0 C ad H lsA locs cells slots Q2 P k => ?_) (K.2 hc)
    have ha : zin a := zok_hd P.2.2.2.2.1
    exact lv_if_lt C.1 C.2.1 hd ht (fun q => absurd ((zlt ha zin0).mp (by rw [zz0]; exact q)) hc) (fun _ => k)
theorem Z.if_ge {a : Int} {off : Int} (tgt : Nat) (hd : decode f.2.1 pc = .ok (.ifCond .ge off, 3)) (ht : (pc : Int) + off = (tgt : Int)) (K : ((0 ≤ a) → Z f kz Q tgt ls st h) ∧ (¬ (0 ≤ a) → Z f kz Q (pc + 3) ls st h)) : Z f kz Q pc ls (zI a :: st) h := by
  by_cases hc : 0 ≤ a
  · refine Z.op (fun o _ _ => zok_tl o) (fun p l e R s m args below meth c w ad0 d0 C ad H lsA locs cells slots Q2 P k => ?_) (K.1 hc)
    have ha : zin a := zok_hd P.2.2.2.2.1
    exact lv_if_ge C.1 C.2.1 hd ht (fun _ => k) (fun q => absurd (by rw [← zz0]; exact (zle zin0 ha).mpr hc) q)
  · refine Z.op (fun o _ _ => zok_tl o) (fun p l e R s m args below meth c w ad0 d0 C ad H lsA locs cells slots Q2 P k => ?_) (K.2 hc)
    have ha : zin a := zok_hd P.2.2.2.2.1
    exact lv_if_ge C.1 C.2.1 hd ht (fun q => absurd ((zle zin0 ha).mp (by rw [zz0]; exact q)) hc) (fun _ => k)
theorem Z.if_gt {a : Int} {off : Int} (tgt : Nat) (hd : decode f.2.1 pc = .ok (.ifCond .gt off, 3)) (ht : (pc : Int) + off = (tgt : Int)) (K : ((0 < a) → Z f kz Q tgt ls st h) ∧ (¬ (0 < a) → Z f kz Q (pc + 3) ls st h)) : Z f kz Q pc ls (zI a :: st) h := by
  by_cases hc : 0 < a
  · refine Z.op (fun o _ _ => zok_tl o) (fun p l e R s m args below meth c w ad0 d0 C ad H lsA locs cells slots Q2 P k => ?_) (K.1 hc)
    have ha : zin a := zok_hd P.2.2.2.2.1
    exact lv_if_gt C.1 C.2.1 hd ht (fun _ => k) (fun q => absurd (by rw [← zz0]; exact (zlt zin0 ha).mpr hc) q)
  · refine Z.op (fun o _ _ => zok_tl o) (fun p l e R s m args below meth c w ad0 d0 C ad H lsA locs cells slots Q2 P k => ?_) (K.2 hc)
    have ha : zin a := zok_hd P.2.2.2.2.1
    exact lv_if_gt C.1 C.2.1 hd ht (fun q => absurd ((zlt zin0 ha).mp (by rw [zz0]; exact q)) hc) (fun _ => k)
theorem Z.if_le {a : Int} {off : Int} (tgt : Nat) (hd : decode f.2.1 pc = .ok (.ifCond .le off, 3)) (ht : (pc : Int) + off = (tgt : Int)) (K : ((a ≤ 0) → Z f kz Q tgt ls st h) ∧ (¬ (a ≤ 0) → Z f kz Q (pc + 3) ls st h)) : Z f kz Q pc ls (zI a :: st) h := by
  by_cases hc : a ≤ 0
  · refine Z.op (fun o _ _ => zok_tl o) (fun p l e R s m args below meth c w ad0 d0 C ad H lsA locs cells slots Q2 P k => ?_) (K.1 hc)
    have ha : zin a := zok_hd P.2.2.2.2.1
    exact lv_if_le C.1 C.2.1 hd ht (fun _ => k) (fun q => absurd (by rw [← zz0]; exact (zle ha zin0).mpr hc) q)
  · refine Z.op (fun o _ _ => zok_tl o) (fun p l e R s m args below meth c w ad0 d0 C ad H lsA locs cells slots Q2 P k => ?_) (K.2 hc)
    have ha : zin a := zok_hd P.2.2.2.2.1
    exact lv_if_le C.1 C.2.1 hd ht (fun q => absurd ((zle ha zin0).mp (by rw [zz0]; exact q)) hc) (fun _ => k)
theorem Z.if_ne {a : Int} {off : Int} (tgt : Nat) (hd : decode f.2.1 pc = .ok (.ifCond .ne off, 3)) (ht : (pc : Int) + off = (tgt : Int)) (K : (a ≠ 0 → Z f kz Q tgt ls st h) ∧ (¬ a ≠ 0 → Z f kz Q (pc + 3) ls st h)) : Z f kz Q pc ls (zI a :: st) h := by
  by_cases hc : a ≠ 0
  · refine Z.op (fun o _ _ => zok_tl o) (fun p l e R s m args below meth c w ad0 d0 C ad H lsA locs cells slots Q2 P k => ?_) (K.1 hc)
    have ha : zin a := zok_hd P.2.2.2.2.1
    exact lv_if_ne C.1 C.2.1 hd ht (fun _ => k) (fun q => absurd ((zeq ha zin0).mp (by rw [zz0]; exact q)) hc)
  · refine Z.op (fun o _ _ => zok_tl o) (fun p l e R s m args below meth c w ad0 d0 C ad H lsA locs cells slots Q2 P k => ?_) (K.2 hc)
    have ha : zin a := zok_hd P.2.2.2.2.1
    exact lv_if_ne C.1 C.2.1 hd ht (fun q => absurd (by rw [← zz0]; exact (zeq ha zin0).mpr (Decidable.not_not.mp hc)) q) (fun _ => k)
theorem Z.ifnull {x : Option Nat} {off : Int} (tgt : Nat) (hd : decode f.2.1 pc = .ok (.ifnull off, 3)) (ht : (pc : Int) + off = (tgt : Int)) (K : (x = none → Z f kz Q tgt ls st h) ∧ (¬ x = none → Z f kz Q (pc + 3) ls st h)) : Z f kz Q pc ls (zO x :: st) h := by
  cases x with
  | none => exact Z.op (fun o _ _ => zok_tl o) (fun p l e R s m args below meth c w ad0 d0 C ad H lsA locs cells slots Q2 P k => lv_ifnullN C.1 C.2.1 hd ht k) (K.1 rfl)
  | some a => exact Z.op (fun o _ _ => zok_tl o) (fun p l e R s m args below meth c w ad0 d0 C ad H lsA locs cells slots Q2 P k => lv_ifnull C.1 C.2.1 hd k) (K.2 (fun q => by cases q))
theorem Z.ifnonnull {x : Option Nat} {off : Int} (tgt : Nat) (hd : decode f.2.1 pc = .ok (.ifnonnull off, 3)) (ht : (pc : Int) + off = (tgt : Int)) (K : (x ≠ none → Z f kz Q tgt ls st h) ∧ (¬ x ≠ none → Z f kz Q (pc + 3) ls st h)) : Z f kz Q pc ls (zO x :: st) h := by
  cases x with
  | none => exact Z.op (fun o _ _ => zok_tl o) (fun p l e R s m args below meth c w ad0 d0 C ad H lsA locs cells slots Q2 P k => lv_ifnonnullN C.1 C.2.1 hd k) (K.2 (fun q => q rfl))
  | some a => exact Z.op (fun o _ _ => zok_tl o) (fun p l e R s m args below meth c w ad0 d0 C ad H lsA locs cells slots Q2 P k => lv_ifnonnull C.1 C.2.1 hd ht k) (K.1 (fun q => by cases q))
theorem Z.tableIn {a : Int} {dflt lo hi : Int} {offs : Array Int} {len : Nat} {off : Int} (tgt : Nat) (hd : decode f.2.1 pc = .ok (.tableswitch dflt lo hi offs, len)) (h1 : ¬ a < lo) (h2 : ¬ hi < a) (ho : offs[(a - lo).toNat]? = some off) (ht : (pc : Int) + off = (tgt : Int)) (K : Z f kz Q tgt ls st h) : Z f kz Q pc ls (zI a :: st) h :=
  Z.op (fun o _ _ => zok_tl o) (fun p l e R s m args below meth c w ad0 d0 C ad H lsA locs cells slots Q2 P k => by
    have ha : zin a := zok_hd P.2.2.2.2.1
    exact lv_tableIn C.1 C.2.1 hd (by rw [zin_toInt ha]; exact h1) (by rw [zin_toInt ha]; exact h2) (by rw [zin_toInt ha]; exact ho) ht k) K
theorem Z.tableOut {a : Int} {dflt lo hi : Int} {offs : Array Int} {len : Nat} (tgt : Nat) (hd : decode f.2.1 pc = .ok (.tableswitch dflt lo hi offs, len)) (h1 : a < lo ∨ hi < a) (ht : (pc : Int) + dflt = (tgt : Int)) (K : Z f kz Q tgt ls st h) : Z f kz Q pc ls (zI a :: st) h :=
  Z.op (fun o _ _ => zok_tl o) (fun p l e R s m args below meth c w ad0 d0 C ad H lsA locs cells slots Q2 P k => by
    have ha : zin a := zok_hd P.2.2.2.2.1
    exact lv_tableOut C.1 C.2.1 hd (by rw [zin_toInt ha]; exact h1) ht k) K
end ZR
