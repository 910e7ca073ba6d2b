/-! ===== rules of Z: calls, returns; a method's contract out of Z ===== -/
theorem zwd_sum (ad : Nat → Nat) (st : List zV) : ((st.map (zval ad)).map fun v => v.category).sum = zwid st := by
  induction st with
  | nil => rfl
  | cons v t ih =>
    rw [List.map_cons, List.map_cons, List.sum_cons, ih]
    rcases v with i | x | o
    · rfl
    · rfl
    · cases o <;> rfl
/-- a place of call: the callee's words and room -/
def zsB (f g : zF) (n : Nat) : Prop := zcd g ∈ zT ∧ Cond.initialized g.1.cls ∈ zT ∧ (g.1.cls ≠ "java/lang/invoke/MethodHandle" ∧ g.1.cls ≠ "java/lang/invoke/VarHandle" ∧ (parseMethodDescriptor g.1.desc).map (fun d => d.parameters.length) = some n) ∧ (g.2.2.2.2.1 + 1 ≤ f.2.2.2.2.1 ∧ 8 + (g.2.2.1 + 11) + g.2.2.2.2.2 ≤ f.2.2.2.2.2)
section ZCL
variable {f g : zF} {kz : Nat × Nat} {Q : Option zV → zH → Prop} {pc : Nat} {ls : List (Nat × zV)} {st st0 : List zV} {h h' : zH} {r : Option zV} {vs : List zV}
theorem zblind {w : zWp} {ad : Nat → Nat} {vs : List zV} {h : zH} : FrameBlind (fun v U => v = (vs.map (zval ad)).toArray ∧ zEnv w U ∧ zRel w ad h U.heap ∧ ∀ v, v ∈ vs → zok h.1 v) :=
  fun a U g mk q => ⟨q.1, q.2.1.calling g mk a, q.2.2.1, q.2.2.2⟩
theorem zgoodIn (hc : zcd g ∈ zT) : GoodIn (zwd f) (zwd g) := fun x hx => by
  rcases List.mem_cons.mp hx with e | e
  · rw [e]
    exact ⟨List.mem_cons_of_mem _ hc, good_of_word (List.mem_filter.mp hc).2⟩
  · exact ⟨List.mem_cons_of_mem _ e, good_of_word (List.mem_filter.mp e).2⟩
theorem zpre {p : Program} {l : Launch} {R : Room} {s : State} {m : MethodId} {args : Array Value} {meth : Method} {c : Code} {w : zWp} {ad0 : Nat → Nat} {d0 : List Nat} (C : zCx f kz Q p l R s m args meth c w d0) {ad : Nat → Nat} {H : Heap} {lsA : Array Slot} {locs : List Loc} (P : zPt f kz s w ad0 d0 ls st0 h ad H lsA locs) (hv : ∀ v, v ∈ vs → zok h.1 v) :
    ∀ U : State, U.heap = H → s.WarmedH U.vm → ((vs.map (zval ad)).toArray = (vs.map (zval ad)).toArray ∧ zEnv w U ∧ zRel w ad h U.heap ∧ ∀ v, v ∈ vs → zok h.1 v) := fun U hU hW =>
  ⟨rfl, (zcx_e C).to hW (fun q h1 h2 => by rw [hU]; exact P.2.1.2.1 q h1 h2) (by rw [hU]; exact P.2.1.1), by rw [hU]; exact P.1, hv⟩
/-- behind a call -/
theorem zrun {p : Program} {l : Launch} {e : Env} {R : Room} {s : State} {m : MethodId} {args : Array Value} {below : List Frame} {meth : Method} {c : Code} {w : zWp} {ad0 : Nat → Nat} {d0 : List Nat} (C : zCx f kz Q p l R s m args meth c w d0) {ad : Nat → Nat} {H : Heap} {lsA : Array Slot} {locs : List Loc} (P : zPt f kz s w ad0 d0 ls st0 h ad H lsA locs)
    (ho : ∀ v, v ∈ st → zok h.1 v) (hl : h.1.length ≤ h'.1.length ∧ zsl h.1 ≤ zsl h'.1) (hb : h'.1 = h.1 ∨ h'.1.length ≤ kz.1 ∧ zsl h'.1 ≤ kz.2) {a : Array Value} {gst : List Value}
    (hr : va_Run p l e R s m args below meth c H locs (h.1.length - d0.length) (zsl h.1 - zsl d0) (h'.1.length - h.1.length) (zsl h'.1 - zsl h.1) (F0 m pc lsA gst) (st.map (zval ad)) (zQc w ad h.1 (fun r1 h1 => r1 = r ∧ h1 = h') a) (zA w))
    (K : Z f kz Q (pc + 3) ls (r.toList ++ st) h') : W p l e R s m args below meth c H locs (h.1.length - d0.length) (zsl h.1 - zsl d0) (MQ below (zQc w ad0 d0 Q) args s (kz.1 - d0.length) (kz.2 - zsl d0) (zA w)) (F0 m pc lsA gst) := by
  intro T hT X
  obtain ⟨v, st₀, t, T', L, x0, X', hL, e1, e2, ⟨r1, h1, ad1, ⟨rfl, rfl⟩, hv, hok, hR, hag, hF⟩, go⟩ := hr T hT X
  obtain ⟨⟨r1', r2, r3, r4⟩, a2, a3, a4, a5, a6, a7, a8, a9, a10, a11⟩ := P
  have hag2 : ∀ x, x ∈ h.1 ∨ zstr x → ad1 x = ad x := fun x hx => by
    rcases hx with hx | hx
    · exact (hag x hx).2
    · have e3 : ∀ i, i < 4 → ad1 (190 + i) = ad (190 + i) := fun i hi => (hR.2.2.2.1 i hi).trans (r4.1 i hi).symm
      rcases hx with rfl | rfl | rfl | rfl
      · exact e3 0 (by omega)
      · exact e3 1 (by omega)
      · exact e3 2 (by omega)
      · exact e3 3 (by omega)
  have hls : (ls.map fun q0 => (q0.1, zval ad1 q0.2)) = ls.map fun q0 => (q0.1, zval ad q0.2) := List.map_congr_left fun q0 hq0 => by rw [zval_ad (a4 q0 hq0) hag2]
  have hst := zvals_ad ho hag2
  have hlen : h1.1.length ≤ kz.1 ∧ zsl h1.1 ≤ kz.2 := by
    rcases hb with e | e
    · rw [e]; exact ⟨a10, a11⟩
    · exact e
  have hS : va_S (zA w) s.heap T'.heap (locs ++ L) := by
    rw [e1]
    obtain ⟨f1, f2⟩ := hF
    rw [x0] at f1 f2
    refine ⟨Nat.le_trans a2.1 f1, fun q q1 q2 => ?_, fun q hq => ?_⟩
    · rw [f2 q (Nat.lt_of_lt_of_le q1 a2.1) q2]
      exact a2.2.1 q q1 q2
    · rcases List.mem_append.mp hq with q1 | q1
      · exact a2.2.2 q q1
      · exact hL q q1
  have hokr : ∀ v, v ∈ r1.toList ++ st → zok h1.1 v := fun v hv => by
    rcases List.mem_append.mp hv with q | q
    · exact hok v (by simpa using q)
    · exact zok_mono (ho v q) (fun x hx => (hag x hx).1)
  have K' := K p l e R s m args below meth c w ad0 d0 C ad1 T'.heap lsA (locs ++ L) ⟨by rw [e1]; exact hR, hS, by rw [hls]; exact a3, fun q hq => zok_mono (a4 q hq) (fun x hx => (hag x hx).1), hokr, fun x hx => ⟨(hag x (a6 x hx).1).1, (hag x (a6 x hx).1).2.trans (a6 x hx).2⟩, fun x hx => (hag2 x (Or.inr hx)).trans (a7 x hx), Nat.le_trans a8 hl.1, Nat.le_trans a9 hl.2, hlen.1, hlen.2⟩
  have c1 : (h.1.length - d0.length) + (h1.1.length - h.1.length) = h1.1.length - d0.length := by omega
  have c2 : (zsl h.1 - zsl d0) + (zsl h1.1 - zsl h.1) = zsl h1.1 - zsl d0 := by omega
  rw [c1, c2] at X'
  have est : (r1.toList ++ st).map (zval ad1) = v.toList ++ st.map (zval ad) := by
    rw [List.map_append, hst]
    congr 1
    have hv2 : v = r1.map (zval ad1) := by cases hv; rfl
    rw [hv2]
    cases r1 <;> rfl
  rw [est] at K'
  obtain ⟨t2, g1, g2⟩ := K' T' rfl X'
  exact ⟨t2, go t2 g1, g2⟩
theorem zfit {p : Program} {l : Launch} {R : Room} {s : State} {m : MethodId} {args : Array Value} {meth : Method} {c : Code} {w : zWp} {ad0 : Nat → Nat} {d0 : List Nat} (C : zCx f kz Q p l R s m args meth c w d0) {ad : Nat → Nat} {H : Heap} {lsA : Array Slot} {locs : List Loc} (P : zPt f kz s w ad0 d0 ls st0 h ad H lsA locs) (hl : h.1.length ≤ h'.1.length ∧ zsl h.1 ≤ zsl h'.1) (hb : h'.1 = h.1 ∨ h'.1.length ≤ kz.1 ∧ zsl h'.1 ≤ kz.2) : (h.1.length - d0.length) + (h'.1.length - h.1.length) ≤ R.cells ∧ (zsl h.1 - zsl d0) + (zsl h'.1 - zsl h.1) ≤ R.slots := by
  obtain ⟨-, -, -, -, -, -, -, -, -, -, -, c12, c13, c14, c15, -⟩ := C
  obtain ⟨-, -, -, -, -, -, -, a8, a9, a10, a11⟩ := P
  rw [c14, c15]
  rcases hb with e | e
  · rw [e]; omega
  · omega
theorem zcallB {p : Program} {l : Launch} {R : Room} {s : State} {m : MethodId} {args : Array Value} {meth : Method} {c : Code} {w : zWp} {d0 : List Nat} (C : zCx f kz Q p l R s m args meth c w d0) {n i mc ms : Nat} (hs : zsB f g n) (hl : Cond.methodLink f.1.cls i g.1 ∈ zT) : CallB R s args f.1.cls i g.1 g.2.1 g.2.2.1 g.2.2.2.1 (zwd g) ({ frames := g.2.2.2.2.1, cells := mc, slots := ms, locals := g.2.2.2.2.2 } : Room) mc ms n :=
  callB_of (Ts := zwd f) n C.2.2.2.2.2.1 (zgoodIn hs.1) rfl rfl rfl (zcx_w C hs.2.1) (zcx_w C hl) hs.2.2.1 (by
    rw [C.2.2.2.2.2.2.2.2.1, C.2.2.2.2.2.2.2.2.2.1]
    exact hs.2.2.2)
theorem zcallN {p : Program} {l : Launch} {R : Room} {s : State} {m : MethodId} {args : Array Value} {meth : Method} {c : Code} {w : zWp} {d0 : List Nat} (C : zCx f kz Q p l R s m args meth c w d0) {n i mc ms : Nat} (hs : zsB f g n) (hl : (f.1.cls, i, g.1, "ClaimHall") ∈ zMN) : va_CN R s args f.1.cls i g.1 "ClaimHall" g.2.1 g.2.2.1 g.2.2.2.1 (zwd g) ({ frames := g.2.2.2.2.1, cells := mc, slots := ms, locals := g.2.2.2.2.2 } : Room) mc ms n :=
  va_cnB (Ts := zwd f) n C.2.2.2.2.2.1 (zgoodIn hs.1) rfl rfl rfl ((zcx_e C).2.2.2.2.1 _ hl) (zcx_w C hs.2.1) hs.2.2.1 (by
    rw [C.2.2.2.2.2.2.2.2.1, C.2.2.2.2.2.2.2.2.2.1]
    exact hs.2.2.2)
theorem Z.callV {i n a ci : Nat} (hd : decode f.2.1 pc = .ok (.invokevirtual i, 3)) (hs : zsB f g n) (hl : Cond.methodLink f.1.cls i g.1 ∈ zT ∧ Cond.instanceMethod g.1 ∈ zT ∧ Cond.selects g.1.cls g.1 g.1 ∈ zT) (hk : (zkd a).1 = ci + 3) (hc : vwCl[ci]?.map (fun q => q.1) = some g.1.cls) (ha : a ∈ h.1) (hn : vs.length = n) (hst : st0 = vs.reverse ++ zR a :: st) (hw : zwid st ≤ 8) (hM : zM g (zR a :: vs) h r h') (hb : h'.1 = h.1 ∨ h'.1.length ≤ kz.1 ∧ zsl h'.1 ≤ kz.2) (K : Z f kz Q (pc + 3) ls (r.toList ++ st) h') : Z f kz Q pc ls st0 h := by
  intro p l e R s m args below meth c w ad0 d0 C ad H lsA locs P
  subst hst
  have hall := P.2.2.2.2.1
  have ho : ∀ v, v ∈ st → zok h.1 v := fun v hv => hall v (List.mem_append_right _ (List.mem_cons_of_mem _ hv))
  have hvs : ∀ v, v ∈ zR a :: vs → zok h.1 v := fun v hv => by
    rcases List.mem_cons.mp hv with q | q
    · rw [q]; exact hall _ (List.mem_append_right _ List.mem_cons_self)
    · exact hall v (List.mem_append_left _ (List.mem_reverse.mpr q))
  have hsp : (vs.reverse ++ zR a :: st).map (zval ad) = (vs.map (zval ad)).reverse ++ .ref (ad a) :: st.map (zval ad) := by
    rw [List.map_append, List.map_cons, List.map_reverse]
    rfl
  rw [hsp]
  cases hq : vwCl[ci]? with
  | none => rw [hq] at hc; cases hc
  | some q =>
    rw [hq] at hc
    have hqc : q.1 = g.1.cls := Option.some.inj hc
    obtain ⟨q0, hq0⟩ := zdx ha
    have he := zws_at (w := w) (ad := ad) (G := h.2.1) (E := h.2.2) hq0
    rw [zce_o hk] at he
    have hrecv := va_recv (zcx_e C).1 P.1.1 hq he
    rw [hqc] at hrecv
    refine zrun C P ho ⟨hM.1, hM.2.1⟩ hb (va_runV (C := g.1.cls) (As := vs.map (zval ad)) (rest := st.map (zval ad)) ⟨C.1, C.2.1, C.2.2.2.1, C.2.2.2.2.1, C.2.2.2.2.2.1⟩ (hM.2.2 l w ad) ⟨zcallB C hs hl.1, zcx_w C hl.2.1, zcx_w C hl.2.2⟩ ⟨zblind, hrecv, fun U hU hW => ?_⟩ rfl (by rw [List.length_map]; exact hn) P.2.2.1.1 rfl (lv_room (by rw [zwd_sum]; exact hw)) hd (zfit C P ⟨hM.1, hM.2.1⟩ hb)) K
    exact zpre (vs := zR a :: vs) C P hvs U hU hW
theorem Z.callS {i n : Nat} (hd : decode f.2.1 pc = .ok (.invokestatic i, 3)) (hs : zsB f g n) (hl : (Cond.methodLink f.1.cls i g.1 ∈ zT ∨ (f.1.cls, i, g.1, "ClaimHall") ∈ zMN) ∧ Cond.static g.1 ∈ zT) (hn : vs.length = n) (hst : st0 = vs.reverse ++ st) (hw : zwid st ≤ 8) (hM : zM g vs h r h') (hb : h'.1 = h.1 ∨ h'.1.length ≤ kz.1 ∧ zsl h'.1 ≤ kz.2) (K : Z f kz Q (pc + 3) ls (r.toList ++ st) h') : Z f kz Q pc ls st0 h := by
  intro p l e R s m args below meth c w ad0 d0 C ad H lsA locs P
  subst hst
  have hall := P.2.2.2.2.1
  have ho : ∀ v, v ∈ st → zok h.1 v := fun v hv => hall v (List.mem_append_right _ hv)
  have hvs : ∀ v, v ∈ vs → zok h.1 v := fun v hv => hall v (List.mem_append_left _ (List.mem_reverse.mpr hv))
  have hsp : (vs.reverse ++ st).map (zval ad) = (vs.map (zval ad)).reverse ++ st.map (zval ad) := by
    rw [List.map_append, List.map_reverse]
  rw [hsp]
  rcases hl.1 with hl1 | hl1
  · exact zrun C P ho ⟨hM.1, hM.2.1⟩ hb (va_runS (As := vs.map (zval ad)) (rest := st.map (zval ad)) ⟨C.1, C.2.1, C.2.2.2.1, C.2.2.2.2.1, C.2.2.2.2.2.1⟩ (hM.2.2 l w ad) ⟨zcallB C hs hl1, zcx_w C hl.2⟩ ⟨zblind, zpre C P hvs⟩ rfl (by rw [List.length_map]; exact hn) P.2.2.1.1 rfl (lv_room (by rw [zwd_sum]; exact hw)) hd (zfit C P ⟨hM.1, hM.2.1⟩ hb)) K
  · exact zrun C P ho ⟨hM.1, hM.2.1⟩ hb (va_runSN (As := vs.map (zval ad)) (rest := st.map (zval ad)) ⟨C.1, C.2.1, C.2.2.2.1, C.2.2.2.2.1, C.2.2.2.2.2.1⟩ (hM.2.2 l w ad) ⟨zcallN C hs hl1, zcx_w C hl.2, trivial⟩ ⟨zblind, zpre C P hvs⟩ rfl (by rw [List.length_map]; exact hn) P.2.2.1.1 rfl (lv_room (by rw [zwd_sum]; exact hw)) hd (zfit C P ⟨hM.1, hM.2.1⟩ hb)) K
theorem Z.callI {i n a : Nat} (hd : decode f.2.1 pc = .ok (.invokespecial i, 3)) (hs : zsB f g n) (hl : (Cond.methodLink f.1.cls i g.1 ∈ zT ∨ (f.1.cls, i, g.1, "ClaimHall") ∈ zMN) ∧ Cond.instanceMethod g.1 ∈ zT) (hi : g.1.name = "<init>") (hret : g.2.2.2.1 = none) (hn : vs.length = n) (hst : st0 = vs.reverse ++ zR a :: st) (hw : zwid st ≤ 8) (hM : zM g (zR a :: vs) h r h') (hb : h'.1 = h.1 ∨ h'.1.length ≤ kz.1 ∧ zsl h'.1 ≤ kz.2) (K : Z f kz Q (pc + 3) ls (r.toList ++ st) h') : Z f kz Q pc ls st0 h := by
  intro p l e R s m args below meth c w ad0 d0 C ad H lsA locs P
  subst hst
  have hall := P.2.2.2.2.1
  have ho : ∀ v, v ∈ st → zok h.1 v := fun v hv => hall v (List.mem_append_right _ (List.mem_cons_of_mem _ hv))
  have hvs : ∀ v, v ∈ zR a :: vs → zok h.1 v := fun v hv => by
    rcases List.mem_cons.mp hv with q | q
    · rw [q]; exact hall _ (List.mem_append_right _ List.mem_cons_self)
    · exact hall v (List.mem_append_left _ (List.mem_reverse.mpr q))
  have hsp : (vs.reverse ++ zR a :: st).map (zval ad) = (vs.map (zval ad)).reverse ++ .ref (ad a) :: st.map (zval ad) := by
    rw [List.map_append, List.map_cons, List.map_reverse]
    rfl
  rw [hsp]
  have hp := zpre (vs := zR a :: vs) C P hvs
  rcases hl.1 with hl1 | hl1
  · have cb := zcallB C (mc := h'.1.length - h.1.length) (ms := zsl h'.1 - zsl h.1) hs hl1
    rw [hret] at cb
    exact zrun C P ho ⟨hM.1, hM.2.1⟩ hb (va_runI (b := ad a) (As := vs.map (zval ad)) (rest := st.map (zval ad)) ⟨C.1, C.2.1, C.2.2.2.1, C.2.2.2.2.1, C.2.2.2.2.2.1⟩ (hM.2.2 l w ad) ⟨cb, hi, zcx_w C hl.2⟩ ⟨zblind, hp⟩ rfl (by rw [List.length_map]; exact hn) P.2.2.1.1 rfl (lv_room (by rw [zwd_sum]; exact hw)) hd (zfit C P ⟨hM.1, hM.2.1⟩ hb)) K
  · have cb := zcallN C (mc := h'.1.length - h.1.length) (ms := zsl h'.1 - zsl h.1) hs hl1
    rw [hret] at cb
    exact zrun C P ho ⟨hM.1, hM.2.1⟩ hb (va_runIN (b := ad a) (As := vs.map (zval ad)) (rest := st.map (zval ad)) ⟨C.1, C.2.1, C.2.2.2.1, C.2.2.2.2.1, C.2.2.2.2.2.1⟩ (hM.2.2 l w ad) ⟨cb, hi, zcx_w C hl.2⟩ ⟨zblind, hp⟩ rfl (by rw [List.length_map]; exact hn) P.2.2.1.1 rfl (lv_room (by rw [zwd_sum]; exact hw)) hd (zfit C P ⟨hM.1, hM.2.1⟩ hb)) K
theorem Z.objInit {i a : Nat} (hd : decode f.2.1 pc = .ok (.invokespecial i, 3)) (hl : Cond.methodLink f.1.cls i objectInit ∈ zT ∧ Cond.instanceMethod objectInit ∈ zT ∧ Cond.code objectInit ⟨#[0xb1]⟩ 1 none ∈ zT) (hf : 1 ≤ f.2.2.2.2.1 ∧ 20 ≤ f.2.2.2.2.2) (hw : zwid st ≤ 8) (K : Z f kz Q (pc + 3) ls st h) : Z f kz Q pc ls (zR a :: st) h :=
  Z.op (st' := st) (fun o _ _ => zok_tl o) (fun p l e R s m args below meth c w ad0 d0 C ad H lsA locs cells slots Q2 P k => by
    refine W.objInit C.1 C.2.1 C.2.2.2.2.1 (zcx_w C hl.1) (zcx_w C hl.2.1) (zcx_w C hl.2.2) rfl (P.2.2.1.1.trans C.2.2.2.1.symm) (a := ad a) (rest := st.map (zval ad)) rfl hd (by rw [C.2.2.2.2.2.2.2.2.1]; exact hf.1) ?_ k
    rw [C.2.2.2.2.2.2.2.2.2.1, zwd_sum]
    have := hf.2
    show 2 * 0 + _ + 12 ≤ _
    omega) K
/-- returns -/
theorem zret {p : Program} {l : Launch} {R : Room} {s : State} {m : MethodId} {args : Array Value} {meth : Method} {c : Code} {w : zWp} {ad0 : Nat → Nat} {d0 : List Nat} (C : zCx f kz Q p l R s m args meth c w d0) {ad : Nat → Nat} {H : Heap} {lsA : Array Slot} {locs : List Loc} (P : zPt f kz s w ad0 d0 ls st0 h ad H lsA locs) (hQ : Q r h) (hr : ∀ v, r = some v → v ∈ st0) :
    ∀ t : State, t.heap = H → s.WarmedH t.vm → zQc w ad0 d0 Q args s (.returned (r.map (zval ad))) t := fun t ht _ =>
  ⟨r, h, ad, hQ, rfl, fun v hv => P.2.2.2.2.1 v (hr v hv), by rw [ht]; exact P.1, P.2.2.2.2.2.1, P.2.1.F ht⟩
theorem zwiden {p : Program} {l : Launch} {e : Env} {R : Room} {s : State} {m : MethodId} {args : Array Value} {below : List Frame} {meth : Method} {c : Code} {w : zWp} {ad0 : Nat → Nat} {d0 : List Nat} (C : zCx f kz Q p l R s m args meth c w d0) {ad : Nat → Nat} {H : Heap} {lsA : Array Slot} {locs : List Loc} (P : zPt f kz s w ad0 d0 ls st0 h ad H lsA locs) {Q2 : State → Prop} {g : JFrame} (k : W p l e R s m args below meth c H locs (kz.1 - d0.length) (kz.2 - zsl d0) Q2 g) : W p l e R s m args below meth c H locs (h.1.length - d0.length) (zsl h.1 - zsl d0) Q2 g := by
  obtain ⟨-, -, -, -, -, -, -, a8, a9, a10, a11⟩ := P
  exact W.widen (by omega) (by omega) k
theorem Z.iret {v : Int} {ty : FieldType} (hd : decode f.2.1 pc = .ok (.ireturn, 1)) (hr : f.2.2.2.1 = some ty) (hn : narrow ty (.int (Int32.ofInt v)) = .int (Int32.ofInt v)) (hQ : Q (some (zI v)) h) : Z f kz Q pc ls [zI v] h := by
  intro p l e R s m args below meth c w ad0 d0 C ad H lsA locs P
  have hz := zret C P hQ (fun v hv => by cases hv; exact List.mem_cons_self)
  refine zwiden C P ?_
  exact W.zret C.1 C.2.1 (C.2.2.1.trans hr) hn hz P.2.1.2.2 hd C.2.2.2.2.2.2.1
theorem Z.lret {v : Int64} (hd : decode f.2.1 pc = .ok (.lreturn, 1)) (hr : f.2.2.2.1 = some .long) (hQ : Q (some (zL v)) h) : Z f kz Q pc ls [zL v] h := by
  intro p l e R s m args below meth c w ad0 d0 C ad H lsA locs P
  have hz := zret C P hQ (fun v hv => by cases hv; exact List.mem_cons_self)
  refine zwiden C P ?_
  exact W.lret C.1 C.2.1 (C.2.2.1.trans hr) hz P.2.1.2.2 hd C.2.2.2.2.2.2.1
theorem Z.aret {v : Option Nat} {rt : FieldType} (hd : decode f.2.1 pc = .ok (.areturn, 1)) (hr : f.2.2.2.1 = some rt) (hrt : (∃ n, rt = .object n) ∨ ∃ t, rt = .array t) (hQ : Q (some (zO v)) h) : Z f kz Q pc ls [zO v] h := by
  intro p l e R s m args below meth c w ad0 d0 C ad H lsA locs P
  have hz := zret C P hQ (fun v hv => by cases hv; exact List.mem_cons_self)
  refine zwiden C P ?_
  refine W.aret C.1 C.2.1 (C.2.2.1.trans hr) hrt ?_ hz P.2.1.2.2 hd C.2.2.2.2.2.2.1
  cases v with
  | none => exact Or.inl rfl
  | some a => exact Or.inr ⟨ad a, rfl⟩
theorem Z.vret (hd : decode f.2.1 pc = .ok (.return_, 1)) (hr : f.2.2.2.1 = none) (hQ : Q none h) : Z f kz Q pc ls [] h := by
  intro p l e R s m args below meth c w ad0 d0 C ad H lsA locs P
  have hz := zret C P hQ (fun v hv => by cases hv)
  refine zwiden C P ?_
  exact W.vret C.1 C.2.1 (C.2.2.1.trans hr) hz P.2.1.2.2 hd C.2.2.2.2.2.2.1
theorem zent_map (ad : Nat → Nat) : ∀ (vs : List zV) (i : Nat), lv_args i (vs.map (zval ad)) = (zent i vs).map fun q => (q.1, zval ad q.2)
  | [], _ => rfl
  | .inl x :: vs, i => by
    show (i, _) :: lv_args (i + 1) _ = (i, _) :: _
    rw [zent_map ad vs (i + 1)]
  | .inr (.inl x) :: vs, i => by
    show (i, _) :: lv_args (i + 2) _ = (i, _) :: _
    rw [zent_map ad vs (i + 2)]
  | .inr (.inr x) :: vs, i => by
    cases x <;>
    · show (i, _) :: lv_args (i + 1) _ = (i, _) :: _
      rw [zent_map ad vs (i + 1)]
theorem zent_ok {d : List Nat} : ∀ (vs : List zV) (i : Nat), (∀ v, v ∈ vs → zok d v) → ∀ q, q ∈ zent i vs → zok d q.2
  | [], _, _, q, hq => by cases hq
  | .inl x :: vs, i, h, q, hq => by
    rcases List.mem_cons.mp hq with e | e
    · rw [e]; exact zok_hd h
    · exact zent_ok vs (i + 1) (zok_tl h) q e
  | .inr (.inl x) :: vs, i, h, q, hq => by
    rcases List.mem_cons.mp hq with e | e
    · rw [e]; exact zok_hd h
    · exact zent_ok vs (i + 2) (zok_tl h) q e
  | .inr (.inr x) :: vs, i, h, q, hq => by
    rcases List.mem_cons.mp hq with e | e
    · rw [e]; exact zok_hd h
    · exact zent_ok vs (i + 1) (zok_tl h) q e
theorem zwid_sl (ad : Nat → Nat) : ∀ vs : List zV, (lg_sl (vs.map (zval ad))).length = zwid vs
  | [] => rfl
  | .inl x :: vs => by
    show (_ ++ lg_sl (vs.map (zval ad))).length = 1 + zwid vs
    rw [List.length_append, zwid_sl ad vs]
    rfl
  | .inr (.inl x) :: vs => by
    show (_ ++ lg_sl (vs.map (zval ad))).length = 2 + zwid vs
    rw [List.length_append, zwid_sl ad vs]
    rfl
  | .inr (.inr x) :: vs => by
    cases x <;>
    · show (_ ++ lg_sl (vs.map (zval ad))).length = 1 + zwid vs
      rw [List.length_append, zwid_sl ad vs]
      rfl
/-- THE CONTRACT OUT OF THE WALK -/
theorem zM_of (hy : plainName f.1.cls = true) (hw : zwid vs ≤ f.2.2.1) (hl : h.1.length ≤ h'.1.length ∧ zsl h.1 ≤ zsl h'.1) (K : Z f (h'.1.length, zsl h'.1) (fun r1 h1 => r1 = r ∧ h1 = h') 0 (zent 0 vs) [] h) : zM f vs h r h' := by
  refine ⟨hl.1, hl.2, fun l w ad => Met.ofW (cc := f.2.1) (maxL := f.2.2.1) (ret := f.2.2.2.1) hy rfl ?_⟩
  intro p e s m args below meth c s₁ B hml hv
  obtain ⟨rfl, hE, hR, hok⟩ := hv
  have hent := lv_entry (vs.map (zval ad)) (n := f.2.2.1) (by rw [zwid_sl]; exact hw)
  rw [lg_entry_eq]
  rw [zent_map] at hent
  have K' := K p l e ({ frames := f.2.2.2.2.1, cells := h'.1.length - h.1.length, slots := zsl h'.1 - zsl h.1, locals := f.2.2.2.2.2 } : Room) s m _ below meth c w ad h.1 ⟨B.exec, B.bytes, B.returns, hml, findClass_of_methodNamed B.named, atoms_spec (ws := zwd f) B.pre, B.notSynchronized, (name_of_methodNamed B.named B.method).1, rfl, rfl, hE, hl.1, hl.2, rfl, rfl, fun r1 h1 q => by rw [q.2]; exact ⟨Nat.le_refl _, Nat.le_refl _⟩⟩ ad s.heap _ [] ⟨hR, va_S.rf, hent, zent_ok vs 0 hok, (fun v hv => by cases hv), fun a ha => ⟨ha, rfl⟩, fun a _ => rfl, Nat.le_refl _, Nat.le_refl _, hl.1, hl.2⟩
  rw [Nat.sub_self, Nat.sub_self] at K'
  exact K'
end ZCL
