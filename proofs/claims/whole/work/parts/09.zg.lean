/-! ===== rules of Z: new, newarray, anewarray, arraycopy ===== -/
def zdef (c n : Nat) : List Value := (List.range n).map (fun j => if zfkd c j = 1 then Value.null else .int 0)
theorem zdef_ok : ∀ c, c < 13 → ∀ j, j < 61 → ((vwCl.map (fun q => q.2.2)).getD c 0 ≤ j ∨ defaultValue (ztyp c j) = if zfkd c j = 1 then Value.null else .int 0) := by decide +kernel
theorem zce_new_o {w : zWp} {ad : Nat → Nat} {a c : Nat} (hk : (zkd a).1 = c + 3) : zce w ad (fun _ _ => none) (fun _ _ => 0) a = .inr (c, zdef c (zkd a).2) := by
  rw [zce_o hk]
  unfold zdef
  congr 3
theorem znew_N {c : Nat} {q : vw_C} (hq : vwCl[c]? = some q) : c < 13 ∧ q.2.2 ≤ 61 ∧ (vwCl.map (fun q => q.2.2)).getD c 0 = q.2.2 := by
  have h1 : c < 13 := (List.getElem?_eq_some_iff.mp hq).1
  have h2 : ∀ x, x ∈ vwCl → x.2.2 ≤ 61 := by decide +kernel
  refine ⟨h1, h2 q (List.mem_of_getElem? hq), ?_⟩
  rw [List.getD_eq_getElem?_getD, List.getElem?_map, hq]
  rfl
/-- making an object of class c: the words -/
def znw (own : String) (i c : Nat) : Prop := ∃ q : vw_C, vwCl[c]? = some q ∧ Cond.classLink own i q.1 ∈ zT ∧ Cond.instantiable q.1 q.2.2 ∈ zT ∧ Cond.initialized q.1 ∈ zT
section ZNW
variable {f : zF} {kz : Nat × Nat} {Q : Option zV → zH → Prop} {pc : Nat} {ls : List (Nat × zV)} {st st' : List zV} {h : zH}
theorem Z.new {i c : Nat} (a : Nat) (hd : decode f.2.1 pc = .ok (.new i, 3)) (hw : znw f.1.cls i c) (hk : (zkd a).1 = c + 3) (ha : a ∉ h.1) (h3 : ¬ zst3 a) (hc : h.1.length + 1 ≤ kz.1) (hsl : zsl h.1 + (zkd a).2 ≤ kz.2) (K : Z f kz Q (pc + 3) ls (zR a :: st) (h.1 ++ [a], zclG h.2.1 a, zclE h.2.2 a)) : Z f kz Q pc ls st h := by
  refine Z.nw a ha h3 (fun o => o) hc hsl (fun p l e R s m args below meth c0 w ad0 d0 C ad H lsA locs Q2 P hcl hsl2 hA kk => ?_) K
  obtain ⟨q, hq, w1, w2, w3⟩ := hw
  have hN := zkd_n hk hq
  obtain ⟨n1, n2, n3⟩ := znew_N hq
  rw [hN] at hsl2 kk
  refine va_new (D := w.1) (fs := zdef c q.2.2) C.1 C.2.1 (Ts := zT) (fun x hx => zcx_w C hx) (zcl hq).1 (ztyp c) (zcl hq).2.1 C.2.2.2.2.1 (zcx_w C w1) (zcx_w C w2) (zcx_w C w3) (zcx_e C).1 P.1.1 P.1.2.1 P.2.1 hA hq (fun j hj => ?_) hcl hsl2 hd (fun qa H1 b1 b2 b3 => kk qa H1 _ ?_ b1 b2 b3)
  · rcases zdef_ok c n1 j (by omega) with e | e
    · rw [n3] at e; omega
    · rw [e]
      unfold vp_V zdef
      rw [List.getD_eq_getElem?_getD, List.getElem?_map, List.getElem?_range hj]
      rfl
  · rw [zce_new_o hk, hN]
theorem zarr_cls {w : zWp} {s : State} {cA : ClassId} {ty : FieldType} {i : Nat} (hi : i < 3) (h1 : ((ztys w)[i]?).map (fun q => q.2) = some ty) (hK : va_K w.1 vwCl (ztys w ++ [(cA, ty)]) s) : ((ztys w)[i]?).map (fun q => q.1) = some cA := by
  have hlast := (hK.2 3 (cA, ty) rfl).2
  match i, hi, h1 with
  | 0, _, h1 =>
    have e0 := (hK.2 0 (w.2.1, .int) rfl).2
    cases h1
    exact e0.symm.trans hlast
  | 1, _, h1 =>
    have e0 := (hK.2 1 (w.2.2.1, .boolean) rfl).2
    cases h1
    exact e0.symm.trans hlast
  | 2, _, h1 =>
    have e0 := (hK.2 2 (w.2.2.2.1, .object "ClaimHall$Claim") rfl).2
    cases h1
    obtain ⟨_, _, _, _, _, x1⟩ := e0
    obtain ⟨_, _, _, _, _, x2⟩ := hlast
    exact x1.symm.trans x2
theorem Z.newI {n : Int} (a : Nat) (hd : decode f.2.1 pc = .ok (.newarray .int, 2)) (hk : zkd a = (0, n.toNat)) (h0 : 0 ≤ n) (hb : n ≤ 100000) (hw : Cond.arrayClass .int ∈ zT) (ha : a ∉ h.1) (h3 : ¬ zst3 a) (hc : h.1.length + 1 ≤ kz.1) (hsl : zsl h.1 + (zkd a).2 ≤ kz.2) (K : Z f kz Q (pc + 2) ls (zR a :: st) (h.1 ++ [a], zclG h.2.1 a, zclE h.2.2 a)) : Z f kz Q pc ls (zI n :: st) h := by
  refine Z.nw a ha h3 (fun o => zok_tl o) hc hsl (fun p l e R s m args below meth c0 w ad0 d0 C ad H lsA locs Q2 P hcl hsl2 hA kk => ?_) K
  have hz : zin n := zok_hd P.2.2.2.2.1
  rw [hk] at hsl2 kk
  refine va_newa (atype := .int) (D := w.1) (a0 := (n.toNat, .inl (fun _ => 0))) C.1 C.2.1 (zcx_w C hw) rfl (zcx_e C).1 P.1.1 P.1.2.1 P.2.1 hA (fun cA => rfl) ((zneg hz).mpr h0) (zclamp hz) (by show n.toNat * 4 ≤ _; omega) hcl hsl2 hd (fun qa cA H1 b0 b1 b2 b3 => kk qa H1 _ ?_ b1 b2 b3)
  have e := zarr_cls (i := 0) (by omega) rfl b0
  cases e
  rw [zce_0 hk]
  rfl
theorem Z.newZ {n : Int} (a : Nat) (hd : decode f.2.1 pc = .ok (.newarray .boolean, 2)) (hk : zkd a = (1, n.toNat)) (h0 : 0 ≤ n) (hb : n ≤ 100000) (hw : Cond.arrayClass .boolean ∈ zT) (ha : a ∉ h.1) (h3 : ¬ zst3 a) (hc : h.1.length + 1 ≤ kz.1) (hsl : zsl h.1 + (zkd a).2 ≤ kz.2) (K : Z f kz Q (pc + 2) ls (zR a :: st) (h.1 ++ [a], zclG h.2.1 a, zclE h.2.2 a)) : Z f kz Q pc ls (zI n :: st) h := by
  refine Z.nw a ha h3 (fun o => zok_tl o) hc hsl (fun p l e R s m args below meth c0 w ad0 d0 C ad H lsA locs Q2 P hcl hsl2 hA kk => ?_) K
  have hz : zin n := zok_hd P.2.2.2.2.1
  rw [hk] at hsl2 kk
  refine va_newa (atype := .boolean) (D := w.1) (a0 := (n.toNat, .inl (fun _ => 0))) C.1 C.2.1 (zcx_w C hw) rfl (zcx_e C).1 P.1.1 P.1.2.1 P.2.1 hA (fun cA => rfl) ((zneg hz).mpr h0) (zclamp hz) (by show n.toNat * 1 ≤ _; omega) hcl hsl2 hd (fun qa cA H1 b0 b1 b2 b3 => kk qa H1 _ ?_ b1 b2 b3)
  have e := zarr_cls (i := 1) (by omega) rfl b0
  cases e
  rw [zce_1 hk]
  rfl
theorem Z.newA {n : Int} {i : Nat} (a : Nat) (hd : decode f.2.1 pc = .ok (.anewarray i, 3)) (hk : zkd a = (2, n.toNat)) (h0 : 0 ≤ n) (hb : n ≤ 100000) (hw : Cond.classLink f.1.cls i "ClaimHall$Claim" ∈ zT) (ha : a ∉ h.1) (h3 : ¬ zst3 a) (hc : h.1.length + 1 ≤ kz.1) (hsl : zsl h.1 + (zkd a).2 ≤ kz.2) (K : Z f kz Q (pc + 3) ls (zR a :: st) (h.1 ++ [a], zclG h.2.1 a, zclE h.2.2 a)) : Z f kz Q pc ls (zI n :: st) h := by
  refine Z.nw a ha h3 (fun o => zok_tl o) hc hsl (fun p l e R s m args below meth c0 w ad0 d0 C ad H lsA locs Q2 P hcl hsl2 hA kk => ?_) K
  have hz : zin n := zok_hd P.2.2.2.2.1
  rw [hk] at hsl2 kk
  refine va_newq (D := w.1) C.1 C.2.1 C.2.2.2.2.1 (zcx_w C hw) (zcx_e C).2.2.2.2.2.1 (zcx_e C).1 P.1.1 P.1.2.1 P.2.1 hA ((zneg hz).mpr h0) (zclamp hz) (by omega) hcl hsl2 hd (fun qa cA H1 b0 b1 b2 b3 => kk qa H1 _ ?_ b1 b2 b3)
  have e := zarr_cls (i := 2) (by omega) rfl b0
  cases e
  rw [zce_2 hk]
  rfl
theorem Z.copy {i s0 a n0 n1 : Nat} {sp dp n : Int} (hd : decode f.2.1 pc = .ok (.invokestatic i, 3)) (hw : Cond.methodLink f.1.cls i arraycopyName ∈ zT) (hw2 : Cond.native arraycopyName ∈ zT ∧ Cond.static arraycopyName ∈ zT ∧ Cond.initialized "java/lang/System" ∈ zT) (hf : 1 ≤ f.2.2.2.2.1 ∧ 26 ≤ f.2.2.2.2.2) (hst : zwid st ≤ 8) (hk0 : zkd s0 = (0, n0)) (hk1 : zkd a = (0, n1)) (hs0 : s0 ∈ h.1) (ha : a ∈ h.1) (hb : 0 ≤ sp ∧ 0 ≤ dp ∧ 0 ≤ n ∧ sp + n ≤ n0 ∧ dp + n ≤ n1) (K : Z f kz Q (pc + 3) ls st (h.1, h.2.1, zcpE h.2.2 s0 sp a dp n)) : Z f kz Q pc ls (zI n :: zI dp :: zR a :: zI sp :: zR s0 :: st) h := by
  refine Z.wr (st' := st) (G' := h.2.1) (E' := zcpE h.2.2 s0 sp a dp n) (fun o => ⟨zok_tl (zok_tl (zok_tl (zok_tl (zok_tl o)))), fun g => ⟨fun b j => by unfold zcpE; split; exact g.1 _ _; exact g.1 _ _, g.2⟩⟩) (fun g b hb j => if_neg (fun q => g.2.2.2 a ha (by rw [← q.1]; exact hb))) (fun p l e R s m args below meth c w ad0 d0 C ad H lsA locs Q2 P kk => ?_) K
  obtain ⟨q0, hq0⟩ := zdx hs0
  obtain ⟨q1, hq1⟩ := zdx ha
  have he := zws_at (w := w) (ad := ad) (G := h.2.1) (E := h.2.2) hq0
  have he1 := zws_at (w := w) (ad := ad) (G := h.2.1) (E := h.2.2) hq1
  rw [zce_0 hk0] at he
  rw [zce_0 hk1] at he1
  have o := P.2.2.2.2.1
  have hzn : zin n := zok_hd o
  have hzd : zin dp := zok_hd (zok_tl o)
  have hzs : zin sp := zok_hd (zok_tl (zok_tl (zok_tl o)))
  have hwd : ∀ st : List zV, ((st.map (zval ad)).map fun v => v.category).sum = zwid st := fun st => by
    induction st with
    | nil => rfl
    | cons v t ih =>
      rw [List.map_cons, List.map_cons, List.sum_cons, ih]
      rcases v with i | x | o
      · rfl
      · rfl
      · cases o <;> rfl
  refine va_copyi (D := w.1) C.1 C.2.1 (C.2.2.2.1.trans P.2.2.1.1.symm) C.2.2.2.2.1 (zcx_w C hw) (zcx_w C hw2.1) (zcx_w C hw2.2.1) (zcx_w C hw2.2.2) (zcx_e C).1 P.1.1 P.1.2.1 P.2.1 q0 q1 0 0 he he1 rfl rfl rfl ((zneg hzs).mpr hb.1) ((zneg hzd).mpr hb.2.1) ((zneg hzn).mpr hb.2.2.1) (by rw [zclamp hzs, zclamp hzn]; omega) (by rw [zclamp hzd, zclamp hzn]; omega) (fun _ _ => rfl) (by rw [C.2.2.2.2.2.2.2.2.1]; exact hf.1) ?_ hd (fun H1 locs1 b1 b2 b3 => ?_)
  · rw [C.2.2.2.2.2.2.2.2.2.1, hwd]
    have := hf.2
    show _ + (7 + 11) ≤ _
    omega
  · have e1 : (zws w ad h.1 h.2.1 h.2.2).set q1 (ad a, .inl (w.2.1, n1, .inl (va_cpy (fun j : Nat => Int32.ofInt (h.2.2 s0 j)) (fun j : Nat => Int32.ofInt (h.2.2 a j)) (Int32.ofInt sp).toNatClampNeg (Int32.ofInt dp).toNatClampNeg (Int32.ofInt n).toNatClampNeg))) = zws w ad h.1 h.2.1 (zcpE h.2.2 s0 sp a dp n) := by
      refine zws_E P.1.2.2.1.2.2.1 hq1 (fun b hb j => if_neg (fun q => hb q.1)) ?_
      rw [zce_0 hk1]
      congr 5
      funext j
      rw [zclamp hzs, zclamp hzd, zclamp hzn]
      unfold va_cpy zcpE
      by_cases hj : dp.toNat ≤ j ∧ j < dp.toNat + n.toNat
      · rw [if_pos hj, if_pos ⟨rfl, by omega, by omega⟩]
        have e3 : ((sp.toNat + (j - dp.toNat) : Nat) : Int) = sp + ((j : Int) - dp) := by omega
        show Int32.ofInt (h.2.2 s0 ((sp.toNat + (j - dp.toNat) : Nat) : Int)) = _
        rw [e3]
      · rw [if_neg hj, if_neg (fun q => hj (by omega))]
    rw [e1] at b1 b2
    exact kk H1 locs1 b1 b2 b3
end ZNW
