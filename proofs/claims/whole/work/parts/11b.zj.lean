/-! ===== the law's script: name 193, its length at name 194 ===== -/
section ZSC
variable {f : zF} {kz : Nat × Nat} {Q : Option zV → zH → Prop} {pc : Nat} {ls : List (Nat × zV)} {st : List zV} {d : List Nat} {G : Nat → Int → Option Nat} {E : Nat → Int → Int}
theorem Y.slen (hd : decode f.2.1 pc = .ok (.arraylength, 1)) (K : Z f kz Q (pc + 1) ls (zI (E 194 0) :: st) (d, G, E)) : Z f kz Q pc ls (zR 193 :: st) (d, G, E) := by
  refine Z.op (st' := zI (E 194 0) :: st) (fun o o2 g => zok_cons (v := zI _) (g.1 194 0) (zok_tl o)) (fun p l e R s m args below meth c w ad0 d0 C ad H lsA locs cells slots Q2 P kk => ?_) K
  obtain ⟨-, -, -, -, -, -, hX, hb⟩ := zcx_e C
  have ea : zval ad (zR 193) = .ref (w.2.2.2.2.2.1 3) := by
    show va_rf (some (ad (190 + 3))) = _
    rw [P.1.2.2.2.1 3 (by omega)]
    rfl
  have hl : (E 194 0) = (w.2.2.2.2.2.2.1 : Int) := P.1.2.2.2.2.2
  rw [List.map_cons, ea]
  refine va_slen C.1 C.2.1 hX (Nat.lt_of_lt_of_le hb (zcx_e C).2.2.1) (Nat.not_le.mpr hb) P.2.1 hd ?_
  have e2 : zval ad (zI (E 194 0)) = .int (Int32.ofNat w.2.2.2.2.2.2.1) := by
    show Value.int (Int32.ofInt (E 194 0)) = _
    rw [hl]
    first | exact congrArg Value.int Int32.ofInt_eq_ofNat | exact congrArg Value.int (Int32.toBitVec_inj.mp (BitVec.ofInt_natCast 32 _)) | rfl
  rw [List.map_cons, e2] at kk
  exact kk
theorem Y.sld {i : Int} (hd : decode f.2.1 pc = .ok (.iaload, 1)) (hi : 0 ≤ i ∧ i < E 194 0) (K : Z f kz Q (pc + 1) ls (zI (E 193 i) :: st) (d, G, E)) : Z f kz Q pc ls (zI i :: zR 193 :: st) (d, G, E) := by
  refine Z.op (st' := zI (E 193 i) :: st) (fun o o2 g => zok_cons (v := zI _) (g.1 193 i) (zok_tl (zok_tl o))) (fun p l e R s m args below meth c w ad0 d0 C ad H lsA locs cells slots Q2 P kk => ?_) K
  obtain ⟨-, -, -, -, -, -, hX, hb⟩ := zcx_e C
  have ea : zval ad (zR 193) = .ref (w.2.2.2.2.2.1 3) := by
    show va_rf (some (ad (190 + 3))) = _
    rw [P.1.2.2.2.1 3 (by omega)]
    rfl
  have hl : (E 194 0) = (w.2.2.2.2.2.2.1 : Int) := P.1.2.2.2.2.2
  have hz : zin i := zok_hd P.2.2.2.2.1
  have hs : ∀ j : Nat, j < w.2.2.2.2.2.2.1 → Int32.ofInt (E 193 j) = w.2.2.2.2.2.2.2 j := P.1.2.2.2.2.1
  rw [List.map_cons, List.map_cons, ea]
  refine va_sld C.1 C.2.1 hX (Nat.lt_of_lt_of_le hb (zcx_e C).2.2.1) (Nat.not_le.mpr hb) P.2.1 (i := Int32.ofInt i) ((zvin hz).mpr ⟨hi.1, by rw [← hl]; exact hi.2⟩) hd ?_
  have e3 := hs i.toNat (by have := hi.1; have := hi.2; omega)
  rw [Int.toNat_of_nonneg hi.1] at e3
  rw [zclamp hz, ← e3]
  exact kk
end ZSC
