/-- the link of a field: class c's place k -/
def zfl (own : String) (i c k : Nat) : Prop := ∃ q : vw_C, vwCl[c]? = some q ∧ k < q.2.2 ∧ Cond.fieldLink own i q.1 (q.2.1 k).2.1 (q.2.1 k).2.2.1 ∈ zT ∧ (q.2.1 k).1 = q.1
def zty_is (t : FieldType) (kd : Nat) : Prop := match kd with
  | 0 => t = .int
  | 1 => (∃ n, t = .object n) ∨ ∃ u, t = .array u
  | _ => t = .boolean
/-- a field that may be written: its kind, whether it is final -/
def zfw (own : String) (i c k kd : Nat) (fin : Bool) : Prop := ∃ q : vw_C, vwCl[c]? = some q ∧ k < q.2.2 ∧ Cond.fieldLink own i q.1 (q.2.1 k).2.1 (q.2.1 k).2.2.1 ∈ zT ∧ (q.2.1 k).1 = q.1 ∧ (q.2.1 k).2.2.2 = fin ∧ zty_is (ztyp c k) kd ∧ zfkd c k = kd
theorem zsv_in (j : Nat) (i : Int) : zin (zsv j i) := by
  unfold zsv zin
  repeat' split
  all_goals omega
section ZHR
variable {f : zF} {kz : Nat × Nat} {Q : Option zV → zH → Prop} {pc : Nat} {ls : List (Nat × zV)} {st st' : List zV} {h : zH}
theorem zcx_w {p : Program} {l : Launch} {R : Room} {s : State} {m : MethodId} {args : Array Value} {meth : Method} {c : Code} {w : zWp} {d0 : List Nat} (C : zCx f kz Q p l R s m args meth c w d0) {x : Cond} (hx : x ∈ zT) : x.before args s = true := C.2.2.2.2.2.1 _ (List.mem_cons_of_mem _ hx)
theorem zcx_e {p : Program} {l : Launch} {R : Room} {s : State} {m : MethodId} {args : Array Value} {meth : Method} {c : Code} {w : zWp} {d0 : List Nat} (C : zCx f kz Q p l R s m args meth c w d0) : zEnv w s := C.2.2.2.2.2.2.2.2.2.2.1
theorem Z.getI {i a c k : Nat} (ki : Int) (hd : decode f.2.1 pc = .ok (.getfield i, 3)) (hf : zfl f.1.cls i c k) (hk : (zkd a).1 = c + 3) (hkd : ¬ zfkd c k = 1) (hki : (k : Int) = ki) (ha : a ∈ h.1) (K : Z f kz Q (pc + 3) ls (zI (h.2.2 a ki) :: st) h) : Z f kz Q pc ls (zR a :: st) h := by
  subst hki
  refine Z.op (st' := zI (h.2.2 a k) :: st) (fun o o2 g => zok_cons (v := zI _) (g.1 a k) (zok_tl o)) (fun p l e R s m args below meth c w ad0 d0 C ad H lsA locs cells slots Q2 P kk => ?_) K
  obtain ⟨q, hq, hkn, hlink, hsame⟩ := hf
  obtain ⟨q0, hq0⟩ := zdx ha
  have he := zws_at (w := w) (ad := ad) (G := h.2.1) (E := h.2.2) hq0
  rw [zce_o hk] at he
  refine va_get (D := w.1) C.1 C.2.1 (Ts := zT) (fun x hx => zcx_w C hx) (zcl hq).1 C.2.2.2.2.1 (zcx_e C).1 P.1.1 q0 he hq k hkn (zcx_w C hlink) (fun x hx => by rw [hsame] at hx; exact hx) (v := .int (Int32.ofInt (h.2.2 a k))) ?_ hd kk
  rw [List.getElem?_map, List.getElem?_range (by rw [zkd_n hk hq]; exact hkn)]
  show some (zfv ad h.2.1 h.2.2 _ a k) = _
  unfold zfv
  rw [if_neg hkd]
theorem Z.getR {i a c k : Nat} (ki : Int) (hd : decode f.2.1 pc = .ok (.getfield i, 3)) (hf : zfl f.1.cls i c k) (hk : (zkd a).1 = c + 3) (hkd : zfkd c k = 1) (hki : (k : Int) = ki) (ha : a ∈ h.1) (K : Z f kz Q (pc + 3) ls (zO (h.2.1 a ki) :: st) h) : Z f kz Q pc ls (zR a :: st) h := by
  subst hki
  refine Z.op (st' := zO (h.2.1 a k) :: st) (fun o o2 g => zok_cons (v := zO _) (fun b hb => Or.inl (g.2.1 a ha k b hb)) (zok_tl o)) (fun p l e R s m args below meth c w ad0 d0 C ad H lsA locs cells slots Q2 P kk => ?_) K
  obtain ⟨q, hq, hkn, hlink, hsame⟩ := hf
  obtain ⟨q0, hq0⟩ := zdx ha
  have he := zws_at (w := w) (ad := ad) (G := h.2.1) (E := h.2.2) hq0
  rw [zce_o hk] at he
  refine va_get (D := w.1) C.1 C.2.1 (Ts := zT) (fun x hx => zcx_w C hx) (zcl hq).1 C.2.2.2.2.1 (zcx_e C).1 P.1.1 q0 he hq k hkn (zcx_w C hlink) (fun x hx => by rw [hsame] at hx; exact hx) (v := va_rf ((h.2.1 a k).map ad)) ?_ hd kk
  rw [List.getElem?_map, List.getElem?_range (by rw [zkd_n hk hq]; exact hkn)]
  show some (zfv ad h.2.1 h.2.2 _ a k) = _
  unfold zfv
  rw [if_pos hkd]
theorem Z.iald {a n : Nat} {i : Int} (hd : decode f.2.1 pc = .ok (.iaload, 1)) (hk : zkd a = (0, n)) (ha : a ∈ h.1) (hi : 0 ≤ i ∧ i < n) (K : Z f kz Q (pc + 1) ls (zI (h.2.2 a i) :: st) h) : Z f kz Q pc ls (zI i :: zR a :: st) h := by
  refine Z.op (st' := zI (h.2.2 a i) :: st) (fun o o2 g => zok_cons (v := zI _) (g.1 a i) (zok_tl (zok_tl o))) (fun p l e R s m args below meth c w ad0 d0 C ad H lsA locs cells slots Q2 P kk => ?_) K
  obtain ⟨q0, hq0⟩ := zdx ha
  have he := zws_at (w := w) (ad := ad) (G := h.2.1) (E := h.2.2) hq0
  rw [zce_0 hk] at he
  have hz : zin i := zok_hd P.2.2.2.2.1
  refine va_iald (D := w.1) C.1 C.2.1 (zcx_e C).1 P.1.1 q0 0 he rfl ((zvin hz).mpr hi) hd ?_
  rw [zclamp hz, Int.toNat_of_nonneg hi.1]
  exact kk
theorem Z.zald {a n : Nat} {i : Int} (hd : decode f.2.1 pc = .ok (.baload, 1)) (hk : zkd a = (1, n)) (ha : a ∈ h.1) (hi : 0 ≤ i ∧ i < n) (K : Z f kz Q (pc + 1) ls (zI (h.2.2 a i) :: st) h) : Z f kz Q pc ls (zI i :: zR a :: st) h := by
  refine Z.op (st' := zI (h.2.2 a i) :: st) (fun o o2 g => zok_cons (v := zI _) (g.1 a i) (zok_tl (zok_tl o))) (fun p l e R s m args below meth c w ad0 d0 C ad H lsA locs cells slots Q2 P kk => ?_) K
  obtain ⟨q0, hq0⟩ := zdx ha
  have he := zws_at (w := w) (ad := ad) (G := h.2.1) (E := h.2.2) hq0
  rw [zce_1 hk] at he
  have hz : zin i := zok_hd P.2.2.2.2.1
  refine va_zald (D := w.1) C.1 C.2.1 (zcx_e C).1 P.1.1 q0 1 he rfl ((zvin hz).mpr hi) hd ?_
  rw [zclamp hz, Int.toNat_of_nonneg hi.1]
  exact kk
theorem Z.aald {a n : Nat} {i : Int} (hd : decode f.2.1 pc = .ok (.aaload, 1)) (hk : zkd a = (2, n)) (ha : a ∈ h.1) (hi : 0 ≤ i ∧ i < n) (K : Z f kz Q (pc + 1) ls (zO (h.2.1 a i) :: st) h) : Z f kz Q pc ls (zI i :: zR a :: st) h := by
  refine Z.op (st' := zO (h.2.1 a i) :: st) (fun o o2 g => zok_cons (v := zO _) (fun b hb => Or.inl (g.2.1 a ha i b hb)) (zok_tl (zok_tl o))) (fun p l e R s m args below meth c w ad0 d0 C ad H lsA locs cells slots Q2 P kk => ?_) K
  obtain ⟨q0, hq0⟩ := zdx ha
  have he := zws_at (w := w) (ad := ad) (G := h.2.1) (E := h.2.2) hq0
  rw [zce_2 hk] at he
  have hz : zin i := zok_hd P.2.2.2.2.1
  refine va_aldq (D := w.1) C.1 C.2.1 (zcx_e C).1 P.1.1 q0 2 he rfl ((zvin hz).mpr hi) hd ?_
  rw [zclamp hz, Int.toNat_of_nonneg hi.1]
  exact kk
theorem Z.alen {a : Nat} (n : Nat) (ni : Int) (hd : decode f.2.1 pc = .ok (.arraylength, 1)) (hk : zkd a = (0, n)) (ha : a ∈ h.1) (hn : (n : Int) = ni) (hz : zin ni) (K : Z f kz Q (pc + 1) ls (zI ni :: st) h) : Z f kz Q pc ls (zR a :: st) h := by
  refine Z.op (st' := zI ni :: st) (fun o o2 g => zok_cons (v := zI _) hz (zok_tl o)) (fun p l e R s m args below meth c w ad0 d0 C ad H lsA locs cells slots Q2 P kk => ?_) K
  obtain ⟨q0, hq0⟩ := zdx ha
  have he := zws_at (w := w) (ad := ad) (G := h.2.1) (E := h.2.2) hq0
  rw [zce_0 hk] at he
  refine va_alen (D := w.1) C.1 C.2.1 (zcx_e C).1 P.1.1 q0 0 he rfl (v := Int32.ofInt ni) ?_ hd kk
  rw [← hn]
  first | exact (Int32.ofInt_eq_ofNat).symm | exact (Int32.toBitVec_inj.mp (BitVec.ofInt_natCast 32 n)).symm | rfl
theorem Z.gets {i j : Nat} (hd : decode f.2.1 pc = .ok (.getstatic i, 3)) (hj : j < 3) (hl : Cond.fieldLink f.1.cls i "ClaimHall" (zsn j) "[I" ∈ zT ∨ (f.1.cls, i, "ClaimHall", zsn j, "[I", "ClaimHall") ∈ zFN) (K : Z f kz Q (pc + 3) ls (zR (190 + j) :: st) h) : Z f kz Q pc ls st h := by
  refine Z.op (st' := zR (190 + j) :: st) (fun o o2 g => zok_cons (v := zR _) (fun b hb => by cases hb; exact Or.inr (by unfold zstr; omega)) o) (fun p l e R s m args below meth c w ad0 d0 C ad H lsA locs cells slots Q2 P kk => ?_) K
  have hZ := ((zcx_e C).2.1 j hj).1
  have ea : zval ad (zR (190 + j)) = .ref (w.2.2.2.2.2.1 j) := by
    show va_rf (some (ad (190 + j))) = _
    rw [P.1.2.2.2.1 j (by omega)]
    rfl
  rw [List.map_cons, ea] at kk
  rcases hl with hl | hl
  · exact va_gets C.1 C.2.1 hZ P.2.1 C.2.2.2.2.1 (zcx_w C hl) (fun x hx => hx) hd kk
  · exact va_getsN C.1 C.2.1 hZ P.2.1 C.2.2.2.2.1 (va_Nw.use rfl ((zcx_e C).2.2.2.1 _ hl)) (fun x hx => hx) hd kk
theorem Z.sald {j : Nat} {i : Int} (hd : decode f.2.1 pc = .ok (.iaload, 1)) (hj : j < 3) (hi : 0 ≤ i ∧ i < 5) (K : Z f kz Q (pc + 1) ls (zI (zsv j i) :: st) h) : Z f kz Q pc ls (zI i :: zR (190 + j) :: st) h := by
  refine Z.op (st' := zI (zsv j i) :: st) (fun o o2 g => zok_cons (v := zI _) (zsv_in j i) (zok_tl (zok_tl o))) (fun p l e R s m args below meth c w ad0 d0 C ad H lsA locs cells slots Q2 P kk => ?_) K
  have hT := ((zcx_e C).2.1 j hj).2
  have ea : zval ad (zR (190 + j)) = .ref (w.2.2.2.2.2.1 j) := by
    show va_rf (some (ad (190 + j))) = _
    rw [P.1.2.2.2.1 j (by omega)]
    rfl
  have hz : zin i := zok_hd P.2.2.2.2.1
  rw [List.map_cons, List.map_cons, ea]
  refine va_ti C.1 C.2.1 hT P.2.1 ((zvin hz).mpr hi) (v := .int (Int32.ofInt (zsv j i))) ?_ hd kk
  rw [zclamp hz, Int.toNat_of_nonneg hi.1]
/-- an instruction that writes, and makes nothing -/
theorem Z.wr {pc' : Nat} {G' : Nat → Int → Option Nat} {E' : Nat → Int → Int} (hok : (∀ v, v ∈ st → zok h.1 v) → (∀ v, v ∈ st' → zok h.1 v) ∧ (zgood h.1 h.2.1 h.2.2 → zgood h.1 G' E')) (hsc : zgood h.1 h.2.1 h.2.2 → ∀ b, zst3 b → ∀ j, E' b j = h.2.2 b j)
    (hW : ∀ (p : Program) (l : Launch) (e : Env) (R : Room) (s : State) (m : MethodId) (args : Array Value) (below : List Frame) (meth : Method) (c : Code) (w : zWp) (ad0 : Nat → Nat) (d0 : List Nat), zCx f kz Q p l R s m args meth c w d0 →
      ∀ (ad : Nat → Nat) (H : Heap) (lsA : Array Slot) (locs : List Loc) (Q2 : State → Prop), zPt f kz s w ad0 d0 ls st h ad H lsA locs →
        (∀ (H1 : Heap) (locs1 : List Loc), va_P w.1 vwCl (zws w ad h.1 G' E') H1 → va_D (zA w) (zws w ad h.1 G' E') → va_S (zA w) s.heap H1 locs1 → W p l e R s m args below meth c H1 locs1 (h.1.length - d0.length) (zsl h.1 - zsl d0) Q2 (F0 m pc' lsA (st'.map (zval ad)))) → W p l e R s m args below meth c H locs (h.1.length - d0.length) (zsl h.1 - zsl d0) Q2 (F0 m pc lsA (st.map (zval ad))))
    (K : Z f kz Q pc' ls st' (h.1, G', E')) : Z f kz Q pc ls st h := by
  intro p l e R s m args below meth c w ad0 d0 C ad H lsA locs P
  have P' := P
  obtain ⟨⟨r1, r2, r3, r4⟩, a2, a3, a4, a5, a6⟩ := P'
  exact hW p l e R s m args below meth c w ad0 d0 C ad H lsA locs _ P (fun H1 locs1 b1 b2 b3 => K p l e R s m args below meth c w ad0 d0 C ad H1 lsA locs1 ⟨⟨b1, b2, (hok a5).2 r3, r4.1, fun j hj => by rw [show ((h.1, G', E') : zH).2.2 193 j = h.2.2 193 j from hsc r3 193 (by unfold zst3; omega) j]; exact r4.2.1 j hj, (hsc r3 194 (by unfold zst3; omega) 0).trans r4.2.2⟩, b3, a3, a4, (hok a5).1, a6⟩)
theorem zgood_E {d : List Nat} {G : Nat → Int → Option Nat} {E : Nat → Int → Int} {a : Nat} {k v : Int} (g : zgood d G E) (hv : zin v) : zgood d G (zuE E a k v) := ⟨fun b j => by
    unfold zuE
    split
    · exact hv
    · exact g.1 b j, g.2⟩
theorem zgood_G {d : List Nat} {G : Nat → Int → Option Nat} {E : Nat → Int → Int} {a : Nat} {k : Int} {v : Option Nat} (g : zgood d G E) (hv : ∀ b, v = some b → b ∈ d) : zgood d (zuG G a k v) E := ⟨g.1, fun b hb j x hx => by
    unfold zuG at hx
    split at hx
    · exact hv x hx
    · exact g.2.1 b hb j x hx, g.2.2⟩
theorem zuE_ne {E : Nat → Int → Int} {a b : Nat} {k v : Int} (h : b ≠ a) (j : Int) : zuE E a k v b j = E b j := by
  unfold zuE
  rw [if_neg (fun q => h q.1)]
theorem zuG_ne {G : Nat → Int → Option Nat} {a b : Nat} {k : Int} {v : Option Nat} (h : b ≠ a) (j : Int) : zuG G a k v b j = G b j := by
  unfold zuG
  rw [if_neg (fun q => h q.1)]
theorem zws_E {w : zWp} {ad : Nat → Nat} {d : List Nat} {G : Nat → Int → Option Nat} {E E' : Nat → Int → Int} {q a : Nat} {x : Nat × va_E} (hn : d.Nodup) (hq : d[q]? = some a) (hne : ∀ b, b ≠ a → ∀ j, E' b j = E b j) (hx : x = (ad a, zce w ad G E' a)) : (zws w ad d G E).set q x = zws w ad d G E' :=
  zset hn hq (fun b hb => by rw [zce_E (hne b hb)]) hx
theorem zws_G {w : zWp} {ad : Nat → Nat} {d : List Nat} {G G' : Nat → Int → Option Nat} {E : Nat → Int → Int} {q a : Nat} {x : Nat × va_E} (hn : d.Nodup) (hq : d[q]? = some a) (hne : ∀ b, b ≠ a → ∀ j, G' b j = G b j) (hx : x = (ad a, zce w ad G' E a)) : (zws w ad d G E).set q x = zws w ad d G' E :=
  zset hn hq (fun b hb => by rw [zce_G (hne b hb)]) hx
theorem Z.iast {a n : Nat} {i v : Int} (hd : decode f.2.1 pc = .ok (.iastore, 1)) (hk : zkd a = (0, n)) (ha : a ∈ h.1) (hi : 0 ≤ i ∧ i < n) (K : Z f kz Q (pc + 1) ls st (h.1, h.2.1, zuE h.2.2 a i v)) : Z f kz Q pc ls (zI v :: zI i :: zR a :: st) h := by
  refine Z.wr (st' := st) (fun o => ⟨zok_tl (zok_tl (zok_tl o)), fun g => zgood_E g (zok_hd o)⟩) (fun g b hb j => zuE_ne (a := a) (b := b) (fun e => g.2.2.2 a ha (by rw [← e]; exact hb)) j) (fun p l e R s m args below meth c w ad0 d0 C ad H lsA locs Q2 P kk => ?_) K
  obtain ⟨q0, hq0⟩ := zdx ha
  have he := zws_at (w := w) (ad := ad) (G := h.2.1) (E := h.2.2) hq0
  rw [zce_0 hk] at he
  have hz : zin i := zok_hd (zok_tl P.2.2.2.2.1)
  refine va_iast (D := w.1) C.1 C.2.1 (zcx_e C).1 P.1.1 P.1.2.1 P.2.1 q0 0 he rfl ((zvin hz).mpr hi) hd (fun H1 locs1 b1 b2 b3 => ?_)
  have e1 : (zws w ad h.1 h.2.1 h.2.2).set q0 (ad a, .inl (w.2.1, n, .inl (upd (fun j : Nat => Int32.ofInt (h.2.2 a j)) (Int32.ofInt i).toNatClampNeg (Int32.ofInt v)))) = zws w ad h.1 h.2.1 (zuE h.2.2 a i v) := by
    refine zws_E P.1.2.2.1.2.2.1 hq0 (fun b hb j => zuE_ne hb j) ?_
    rw [zce_0 hk]
    congr 5
    funext j
    rw [zclamp hz]
    unfold upd zuE
    by_cases hj : j = i.toNat
    · have hji : (j : Int) = i := by rw [hj]; exact Int.toNat_of_nonneg hi.1
      rw [if_pos hj, if_pos ⟨rfl, hji⟩]
    · rw [if_neg hj, if_neg (fun q => hj (by have := q.2; omega))]
  rw [e1] at b1 b2
  exact kk H1 locs1 b1 b2 b3
theorem znar {v : Int} (hv : v = 0 ∨ v = 1) : vp_nar .boolean (Int32.ofInt v) = Int32.ofInt v := by
  rcases hv with rfl | rfl <;> decide
theorem Z.zast {a n : Nat} {i v : Int} (hd : decode f.2.1 pc = .ok (.bastore, 1)) (hk : zkd a = (1, n)) (ha : a ∈ h.1) (hi : 0 ≤ i ∧ i < n) (hv : v = 0 ∨ v = 1) (K : Z f kz Q (pc + 1) ls st (h.1, h.2.1, zuE h.2.2 a i v)) : Z f kz Q pc ls (zI v :: zI i :: zR a :: st) h := by
  refine Z.wr (st' := st) (fun o => ⟨zok_tl (zok_tl (zok_tl o)), fun g => zgood_E g (zok_hd o)⟩) (fun g b hb j => zuE_ne (a := a) (b := b) (fun e => g.2.2.2 a ha (by rw [← e]; exact hb)) j) (fun p l e R s m args below meth c w ad0 d0 C ad H lsA locs Q2 P kk => ?_) K
  obtain ⟨q0, hq0⟩ := zdx ha
  have he := zws_at (w := w) (ad := ad) (G := h.2.1) (E := h.2.2) hq0
  rw [zce_1 hk] at he
  have hz : zin i := zok_hd (zok_tl P.2.2.2.2.1)
  refine va_zast (D := w.1) C.1 C.2.1 (zcx_e C).1 P.1.1 P.1.2.1 P.2.1 q0 1 he rfl ((zvin hz).mpr hi) hd (fun H1 locs1 b1 b2 b3 => ?_)
  have e1 : (zws w ad h.1 h.2.1 h.2.2).set q0 (ad a, .inl (w.2.2.1, n, .inl (upd (fun j : Nat => Int32.ofInt (h.2.2 a j)) (Int32.ofInt i).toNatClampNeg (vp_nar .boolean (Int32.ofInt v))))) = zws w ad h.1 h.2.1 (zuE h.2.2 a i v) := by
    refine zws_E P.1.2.2.1.2.2.1 hq0 (fun b hb j => zuE_ne hb j) ?_
    rw [zce_1 hk, znar hv]
    congr 5
    funext j
    rw [zclamp hz]
    unfold upd zuE
    by_cases hj : j = i.toNat
    · have hji : (j : Int) = i := by rw [hj]; exact Int.toNat_of_nonneg hi.1
      rw [if_pos hj, if_pos ⟨rfl, hji⟩]
    · rw [if_neg hj, if_neg (fun q => hj (by have := q.2; omega))]
  rw [e1] at b1 b2
  exact kk H1 locs1 b1 b2 b3
theorem Z.aast {a n b : Nat} {i : Int} (hd : decode f.2.1 pc = .ok (.aastore, 1)) (hk : zkd a = (2, n)) (ha : a ∈ h.1) (hb : b ∈ h.1) (hkb : (zkd b).1 = 4) (hi : 0 ≤ i ∧ i < n) (K : Z f kz Q (pc + 1) ls st (h.1, zuG h.2.1 a i (some b), h.2.2)) : Z f kz Q pc ls (zR b :: zI i :: zR a :: st) h := by
  refine Z.wr (st' := st) (fun o => ⟨zok_tl (zok_tl (zok_tl o)), fun g => zgood_G g (fun x hx => by cases hx; exact hb)⟩) (fun _ _ _ _ => rfl) (fun p l e R s m args below meth c w ad0 d0 C ad H lsA locs Q2 P kk => ?_) K
  obtain ⟨q0, hq0⟩ := zdx ha
  obtain ⟨q1, hq1⟩ := zdx hb
  have he := zws_at (w := w) (ad := ad) (G := h.2.1) (E := h.2.2) hq0
  have he1 := zws_at (w := w) (ad := ad) (G := h.2.1) (E := h.2.2) hq1
  rw [zce_2 hk] at he
  rw [zce_o (c := 1) hkb] at he1
  have hz : zin i := zok_hd (zok_tl P.2.2.2.2.1)
  refine va_astq (D := w.1) (r := (RX1, TX1, 14)) C.1 C.2.1 (zcx_e C).1 P.1.1 P.1.2.1 P.2.1 q0 2 q1 1 he rfl he1 rfl ((zvin hz).mpr hi) hd (fun H1 locs1 b1 b2 b3 => ?_)
  have e1 : (zws w ad h.1 h.2.1 h.2.2).set q0 (ad a, .inl (w.2.2.2.1, n, .inr (.inr (.inr (.inr (va_up (fun j : Nat => (h.2.1 a j).map ad) (Int32.ofInt i).toNatClampNeg (some (ad b)))))))) = zws w ad h.1 (zuG h.2.1 a i (some b)) h.2.2 := by
    refine zws_G P.1.2.2.1.2.2.1 hq0 (fun b hb j => zuG_ne hb j) ?_
    rw [zce_2 hk]
    congr 8
    funext j
    rw [zclamp hz]
    unfold va_up zuG
    by_cases hj : j = i.toNat
    · have hji : (j : Int) = i := by rw [hj]; exact Int.toNat_of_nonneg hi.1
      rw [if_pos hj, if_pos ⟨rfl, hji⟩]
      rfl
    · rw [if_neg hj, if_neg (fun q => hj (by have := q.2; omega))]
  rw [e1] at b1 b2
  exact kk H1 locs1 b1 b2 b3
end ZHR
