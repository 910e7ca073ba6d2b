/-! ===== rules of Z: fields written, things made ===== -/
section ZHW
variable {f : zF} {kz : Nat × Nat} {Q : Option zV → zH → Prop} {pc : Nat} {ls : List (Nat × zV)} {st st' : List zV} {h : zH}
theorem zput {p : Program} {l : Launch} {e : Env} {R : Room} {s : State} {m : MethodId} {args : Array Value} {below : List Frame} {meth : Method} {c : Code} {w : zWp} {ad0 : Nat → Nat} {d0 : List Nat} (C : zCx f kz Q p l R s m args meth c w d0) {ad : Nat → Nat} {H : Heap} {lsA : Array Slot} {locs : List Loc} {Q2 : State → Prop} {cells slots : Nat} (P : zPt f kz s w ad0 d0 ls st h ad H lsA locs)
    {i a ci k kd : Nat} {fin : Bool} {v : Value} {rest : List Value} (hd : decode f.2.1 pc = .ok (.putfield i, 3)) (hf : zfw f.1.cls i ci k kd fin) (hfi : fin = true → f.1.name = "<init>" ∧ vwCl[ci]?.map (fun q => q.1) = some f.1.cls) (hk : (zkd a).1 = ci + 3) (ha : a ∈ h.1)
    (hn : ∀ t, zty_is t kd → narrow t v = v ∧ fits t v = true)
    (kk : ∀ (q0 : Nat) (H1 : Heap) (locs1 : List Loc), h.1[q0]? = some a → va_P w.1 vwCl ((zws w ad h.1 h.2.1 h.2.2).set q0 (ad a, .inr (ci, ((List.range (zkd a).2).map (zfv ad h.2.1 h.2.2 ci a)).set k v))) H1 → va_D (zA w) ((zws w ad h.1 h.2.1 h.2.2).set q0 (ad a, .inr (ci, ((List.range (zkd a).2).map (zfv ad h.2.1 h.2.2 ci a)).set k v))) → va_S (zA w) s.heap H1 locs1 → W p l e R s m args below meth c H1 locs1 cells slots Q2 (F0 m (pc + 3) lsA rest)) :
    W p l e R s m args below meth c H locs cells slots Q2 (F0 m pc lsA (v :: .ref (ad a) :: rest)) := by
  obtain ⟨q, hq, hkn, hlink, hsame, hfn, hty, hkd⟩ := hf
  obtain ⟨q0, hq0⟩ := zdx ha
  have he := zws_at (w := w) (ad := ad) (G := h.2.1) (E := h.2.2) hq0
  rw [zce_o hk] at he
  have hN := zkd_n hk hq
  obtain ⟨z1, z2, z3⟩ := zcl hq
  have hl : k < ((List.range (zkd a).2).map (zfv ad h.2.1 h.2.2 ci a)).length := by rw [List.length_map, List.length_range, hN]; exact hkn
  cases fin with
  | false => exact va_put (D := w.1) C.1 C.2.1 (Ts := zT) (fun x hx => zcx_w C hx) z1 (ztyp ci) z2 z3 C.2.2.2.2.1 (zcx_e C).1 P.1.1 P.1.2.1 P.2.1 q0 he hq k hkn (zcx_w C hlink) (fun x hx => by rw [hsame] at hx; exact hx) hfn (z2 k hkn) (hn _ hty).1 (hn _ hty).2 hl hd (fun H1 locs1 b1 b2 b3 => kk q0 H1 locs1 hq0 b1 b2 b3)
  | true =>
    obtain ⟨f1, f2⟩ := hfi rfl
    rw [hq] at f2
    have f3 : q.1 = f.1.cls := Option.some.inj f2
    exact va_putF (D := w.1) C.1 C.2.1 (Ts := zT) (fun x hx => zcx_w C hx) z1 (ztyp ci) z2 z3 C.2.2.2.2.1 (zcx_e C).1 P.1.1 P.1.2.1 P.2.1 q0 he hq k hkn (zcx_w C hlink) (fun x hx => by rw [hsame] at hx; exact hx) hfn (C.2.2.2.2.2.2.2.1.trans f1) (hsame.trans f3) (z2 k hkn) (hn _ hty).1 (hn _ hty).2 hl hd (fun H1 locs1 b1 b2 b3 => kk q0 H1 locs1 hq0 b1 b2 b3)
theorem Z.putI {i a c k kd : Nat} {fin : Bool} {v : Int} (ki : Int) (hd : decode f.2.1 pc = .ok (.putfield i, 3)) (hf : zfw f.1.cls i c k kd fin) (hfi : fin = true → f.1.name = "<init>" ∧ vwCl[c]?.map (fun q => q.1) = some f.1.cls) (hk : (zkd a).1 = c + 3) (hki : (k : Int) = ki) (ha : a ∈ h.1) (hkd : kd = 0 ∨ kd = 2 ∧ (v = 0 ∨ v = 1)) (K : Z f kz Q (pc + 3) ls st (h.1, h.2.1, zuE h.2.2 a ki v)) : Z f kz Q pc ls (zI v :: zR a :: st) h := by
  subst hki
  refine Z.wr (st' := st) (fun o => ⟨zok_tl (zok_tl o), fun g => zgood_E g (zok_hd o)⟩) (fun g b hb j => zuE_ne (a := a) (b := b) (fun e => g.2.2.2 a ha (by rw [← e]; exact hb)) j) (fun p l e R s m args below meth c0 w ad0 d0 C ad H lsA locs Q2 P kk => ?_) K
  refine zput C P hd hf hfi hk ha (fun t ht => ?_) (fun q0 H1 locs1 hq0 b1 b2 b3 => ?_)
  · rcases hkd with rfl | ⟨rfl, hv⟩
    · cases ht; exact ⟨rfl, rfl⟩
    · cases ht
      rcases hv with rfl | rfl <;> exact ⟨rfl, rfl⟩
  · have e1 : (zws w ad h.1 h.2.1 h.2.2).set q0 (ad a, .inr (c, ((List.range (zkd a).2).map (zfv ad h.2.1 h.2.2 c a)).set k (zval ad (zI v)))) = zws w ad h.1 h.2.1 (zuE h.2.2 a k v) := by
      refine zws_E P.1.2.2.1.2.2.1 hq0 (fun b hb j => zuE_ne hb j) ?_
      rw [zce_o hk]
      congr 3
      obtain ⟨_, _, _, _, _, _, _, hkd2⟩ := hf
      refine zrs ?_ (fun j hj => ?_)
      · unfold zfv zuE
        rw [if_neg (by rw [hkd2]; rcases hkd with e | e <;> omega), if_pos ⟨rfl, rfl⟩]
        rfl
      · have e9 : zuE h.2.2 a k v a j = h.2.2 a j := if_neg (fun q => hj (by have := q.2; omega))
        unfold zfv
        rw [e9]
    rw [e1] at b1 b2
    exact kk H1 locs1 b1 b2 b3
theorem Z.putR {i a c k : Nat} {fin : Bool} {v : Option Nat} (ki : Int) (hd : decode f.2.1 pc = .ok (.putfield i, 3)) (hf : zfw f.1.cls i c k 1 fin) (hfi : fin = true → f.1.name = "<init>" ∧ vwCl[c]?.map (fun q => q.1) = some f.1.cls) (hk : (zkd a).1 = c + 3) (hki : (k : Int) = ki) (ha : a ∈ h.1) (hv : ∀ b, v = some b → b ∈ h.1) (K : Z f kz Q (pc + 3) ls st (h.1, zuG h.2.1 a ki v, h.2.2)) : Z f kz Q pc ls (zO v :: zR a :: st) h := by
  subst hki
  refine Z.wr (st' := st) (fun o => ⟨zok_tl (zok_tl o), fun g => zgood_G g hv⟩) (fun _ _ _ _ => rfl) (fun p l e R s m args below meth c0 w ad0 d0 C ad H lsA locs Q2 P kk => ?_) K
  refine zput C P hd hf hfi hk ha (fun t ht => ?_) (fun q0 H1 locs1 hq0 b1 b2 b3 => ?_)
  · rcases ht with ⟨n, rfl⟩ | ⟨u, rfl⟩ <;> cases v <;> exact ⟨rfl, rfl⟩
  · have e1 : (zws w ad h.1 h.2.1 h.2.2).set q0 (ad a, .inr (c, ((List.range (zkd a).2).map (zfv ad h.2.1 h.2.2 c a)).set k (zval ad (zO v)))) = zws w ad h.1 (zuG h.2.1 a k v) h.2.2 := by
      refine zws_G P.1.2.2.1.2.2.1 hq0 (fun b hb j => zuG_ne hb j) ?_
      rw [zce_o hk]
      congr 3
      obtain ⟨_, _, _, _, _, _, _, hkd2⟩ := hf
      refine zrs ?_ (fun j hj => ?_)
      · unfold zfv zuG
        rw [if_pos hkd2, if_pos ⟨rfl, rfl⟩]
        rfl
      · have e9 : zuG h.2.1 a k v a j = h.2.1 a j := if_neg (fun q => hj (by have := q.2; omega))
        unfold zfv
        rw [e9]
    rw [e1] at b1 b2
    exact kk H1 locs1 b1 b2 b3
/-- behind a making: the new name's address -/
def zad (ad : Nat → Nat) (a q : Nat) : Nat → Nat := fun x => if x = a then q else ad x
theorem zad_ne {ad : Nat → Nat} {a q x : Nat} (h : x ≠ a) : zad ad a q x = ad x := if_neg h
theorem zval_ad {ad ad' : Nat → Nat} {d : List Nat} {v : zV} (ho : zok d v) (h : ∀ a, a ∈ d ∨ zstr a → ad' a = ad a) : zval ad' v = zval ad v := by
  rcases v with i | x | o
  · rfl
  · rfl
  · cases o with
    | none => rfl
    | some a => show va_rf (some (ad' a)) = va_rf (some (ad a)); rw [h a (ho a rfl)]
theorem zvals_ad {ad ad' : Nat → Nat} {d : List Nat} {st : List zV} (ho : ∀ v, v ∈ st → zok d v) (h : ∀ a, a ∈ d ∨ zstr a → ad' a = ad a) : st.map (zval ad') = st.map (zval ad) := List.map_congr_left fun v hv => zval_ad (ho v hv) h
theorem zok_mono {d d' : List Nat} {v : zV} (ho : zok d v) (h : ∀ a, a ∈ d → a ∈ d') : zok d' v := by
  rcases v with i | x | o
  · exact ho
  · exact ho
  · exact fun a ha => (ho a ha).imp (h a) id
theorem zgood_new {d : List Nat} {G : Nat → Int → Option Nat} {E : Nat → Int → Int} {a : Nat} (g : zgood d G E) (ha : a ∉ d) (h3 : ¬ zst3 a) : zgood (d ++ [a]) (zclG G a) (zclE E a) := by
  refine ⟨fun b j => ?_, fun b hb j x hx => ?_, ?_, fun b hb => ?_⟩
  · unfold zclE
    split
    · exact zin0
    · exact g.1 b j
  · unfold zclG at hx
    split at hx
    · cases hx
    · rename_i hne
      rcases List.mem_append.mp hb with hb | hb
      · exact List.mem_append_left _ (g.2.1 b hb j x hx)
      · exact absurd (List.mem_singleton.mp hb) hne
  · rw [List.nodup_append]
    refine ⟨g.2.2.1, by simp, fun x hx y hy => ?_⟩
    rw [List.mem_singleton.mp hy]
    exact fun e => ha (e ▸ hx)
  · rcases List.mem_append.mp hb with hb | hb
    · exact g.2.2.2 b hb
    · rw [List.mem_singleton.mp hb]; exact h3
theorem zws_new {w : zWp} {ad : Nat → Nat} {d : List Nat} {G : Nat → Int → Option Nat} {E : Nat → Int → Int} {a q : Nat} (g : zgood d G E) (ha : a ∉ d) : zws w (zad ad a q) (d ++ [a]) (zclG G a) (zclE E a) = zws w ad d G E ++ [(q, zce w (zad ad a q) (fun _ _ => none) (fun _ _ => 0) a)] := by
  unfold zws
  rw [List.map_append]
  congr 1
  · apply List.map_congr_left
    intro b hb
    have hba : b ≠ a := fun e => ha (e ▸ hb)
    rw [zad_ne hba]
    congr 1
    rw [zce_E (E := E) (fun j => if_neg hba), zce_G (G := G) (fun j => if_neg hba)]
    exact zce_ad (fun j x hx => zad_ne (fun e => ha (e ▸ g.2.1 b hb j x hx)))
  · rw [List.map_singleton]
    congr 2
    · exact if_pos rfl
    · rw [zce_E (E := fun _ _ => 0) (fun j => if_pos rfl), zce_G (G := fun _ _ => none) (fun j => if_pos rfl)]
theorem zsl_app (d : List Nat) (a : Nat) : zsl (d ++ [a]) = zsl d + (zkd a).2 := by
  unfold zsl
  rw [List.map_append, List.sum_append]
  simp
/-- an instruction that makes a thing -/
theorem Z.nw {pc' : Nat} (a : Nat) (ha : a ∉ h.1) (h3 : ¬ zst3 a) (hok : (∀ v, v ∈ st → zok h.1 v) → ∀ v, v ∈ st' → zok h.1 v) (hc : h.1.length + 1 ≤ kz.1) (hsl : zsl h.1 + (zkd a).2 ≤ kz.2)
    (hW : ∀ (p : Program) (l : Launch) (e : Env) (R : Room) (s : State) (m : MethodId) (args : Array Value) (below : List Frame) (meth : Method) (c : Code) (w : zWp) (ad0 : Nat → Nat) (d0 : List Nat), zCx f kz Q p l R s m args meth c w d0 →
      ∀ (ad : Nat → Nat) (H : Heap) (lsA : Array Slot) (locs : List Loc) (Q2 : State → Prop), zPt f kz s w ad0 d0 ls st h ad H lsA locs → (h.1.length - d0.length) + 1 ≤ R.cells → (zsl h.1 - zsl d0) + (zkd a).2 ≤ R.slots → (∀ q : Nat, s.heap.size ≤ q → zA w q) →
        (∀ (q : Nat) (H1 : Heap) (e0 : va_E), e0 = zce w (zad ad a q) (fun _ _ => none) (fun _ _ => 0) a → va_P w.1 vwCl (zws w ad h.1 h.2.1 h.2.2 ++ [(q, e0)]) H1 → va_D (zA w) (zws w ad h.1 h.2.1 h.2.2 ++ [(q, e0)]) → va_S (zA w) s.heap H1 locs → W p l e R s m args below meth c H1 locs ((h.1.length - d0.length) + 1) ((zsl h.1 - zsl d0) + (zkd a).2) Q2 (F0 m pc' lsA (.ref q :: st'.map (zval ad)))) → W p l e R s m args below meth c H locs (h.1.length - d0.length) (zsl h.1 - zsl d0) Q2 (F0 m pc lsA (st.map (zval ad))))
    (K : Z f kz Q pc' ls (zR a :: st') (h.1 ++ [a], zclG h.2.1 a, zclE h.2.2 a)) : Z f kz Q pc ls st h := by
  intro p l e R s m args below meth c w ad0 d0 C ad H lsA locs P
  have P' := P
  obtain ⟨⟨r1, r2, r3, r4⟩, a2, a3, a4, a5, a6, a7, a8, a9, a10, a11⟩ := P'
  obtain ⟨c1, c2, c3, c4, c5, c6, c7, c8, c9, c10, c11, c12, c13, c14, c15, c16⟩ := id C
  refine hW p l e R s m args below meth c w ad0 d0 C ad H lsA locs _ P (by rw [c14]; omega) (by rw [c15]; omega) (fun q hq => Nat.le_trans c11.2.2.1 hq) (fun q H1 e0 he0 b1 b2 b3 => ?_)
  subst he0
  rw [← zws_new r3 ha] at b1 b2
  have hag : ∀ x, x ∈ h.1 ∨ zstr x → zad ad a q x = ad x := fun x hx => zad_ne (fun e => by
    rcases hx with hx | hx
    · exact ha (e ▸ hx)
    · exact h3 (zstr_3 (e ▸ hx)))
  have hls : (ls.map fun q0 => (q0.1, zval (zad ad a q) q0.2)) = ls.map fun q0 => (q0.1, zval ad q0.2) := List.map_congr_left fun q0 hq0 => by rw [zval_ad (a4 q0 hq0) hag]
  have hst := zvals_ad (hok a5) hag
  have K' := K p l e R s m args below meth c w ad0 d0 C (zad ad a q) H1 lsA locs ⟨⟨b1, b2, zgood_new r3 ha h3, fun i hi => by rw [hag _ (Or.inr (by unfold zstr; omega))]; exact r4.1 i hi, fun j hj => (congrArg Int32.ofInt (show zclE h.2.2 a 193 j = h.2.2 193 j from if_neg (fun e => h3 (by unfold zst3; omega)))).trans (r4.2.1 j hj), (show zclE h.2.2 a 194 0 = h.2.2 194 0 from if_neg (fun e => h3 (by unfold zst3; omega))).trans r4.2.2⟩, b3, by rw [hls]; exact a3, fun q0 hq0 => zok_mono (a4 q0 hq0) (fun x hx => List.mem_append_left _ hx), zok_cons (v := zR a) (fun x hx => by cases hx; exact Or.inl (List.mem_append_right _ List.mem_cons_self)) (fun v hv => zok_mono (hok a5 v hv) (fun x hx => List.mem_append_left _ hx)),
    fun x hx => ⟨List.mem_append_left _ (a6 x hx).1, by rw [hag x (Or.inl (a6 x hx).1)]; exact (a6 x hx).2⟩, fun x hx => by rw [hag x (Or.inr hx)]; exact a7 x hx, by show _ ≤ (h.1 ++ [a]).length; rw [List.length_append]; omega, by show _ ≤ zsl (h.1 ++ [a]); rw [zsl_app]; omega, by show (h.1 ++ [a]).length ≤ _; rw [List.length_append]; exact hc, by show zsl (h.1 ++ [a]) ≤ _; rw [zsl_app]; exact hsl⟩
  have e1 : (h.1 ++ [a]).length - d0.length = (h.1.length - d0.length) + 1 := by rw [List.length_append]; simp; omega
  have e2 : zsl (h.1 ++ [a]) - zsl d0 = (zsl h.1 - zsl d0) + (zkd a).2 := by rw [zsl_app]; omega
  have e3 : zval (zad ad a q) (zR a) = .ref q := by
    show va_rf (some (zad ad a q a)) = _
    unfold zad
    rw [if_pos rfl]
    rfl
  rw [e1, e2, List.map_cons, e3, hst] at K'
  exact K'
end ZHW
