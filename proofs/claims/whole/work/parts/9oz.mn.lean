/-! ===== a method whose class has natives, but not this one ===== -/
theorem MetF_ofW {l : Launch} {y : MethodName} {ws ws' : List Cond} {rm : Room} {Pc : Array Value → State → Prop} {Qc : Array Value → State → Outcome → State → Prop} {mc ms : Nat} {free : Addr → Prop} {cc : ByteArray} {maxL : Nat} {ret : Option FieldType}
    (hy : plainFor y = true) (hw : ws = Cond.code y cc maxL ret :: ws')
    (body : ∀ p e s m args below meth c s₁, BodyLoose p l y (headSpec ws rm) cc maxL ret e s m args below meth c s₁ → c.maxLocals = maxL → Pc args s →
      W p l e (headSpec ws rm).room s m args below meth c s.heap [] 0 0 (MQ below Qc args s mc ms free) (entryFrame m args maxL)) : Met l y ws rm Pc Qc mc ms free := by
  refine MetFree.of_bodySF (code := cc) (maxLocals := maxL) (ret := ret) hy ?_ ?_
  · intro args s m h hn
    obtain ⟨meth, c, h1, h2, h3, h4, h5, h6, -, -⟩ := Cond.code_spec hn (atoms_spec (ws := ws) h _ (by rw [hw]; exact List.mem_cons_self))
    exact ⟨meth, c, h1, h2, h3, h4, h5, h6⟩
  · intro p e s m args below meth c s₁ B hml hP _
    have hh0 : s₁.heap = s.heap := by rw [B.state]; rfl
    obtain ⟨t, a1, o, b1, b2, b3⟩ := body p e s m args below meth c s₁ B hml hP s₁ hh0 (Stand.of_body B)
    exact ⟨t, o, a1, b1, b2, ⟨b3.1, b3.2⟩⟩
section SYZ
variable {f g : zF} {kz : Nat × Nat} {Q : Option zV → zH → Prop} {pc : Nat} {ls : List (Nat × zV)} {st st0 : List zV} {h h' : zH} {r : Option zV} {vs : List zV}
theorem zM_ofF (hy : plainFor f.1 = true) (hw : zwid vs ≤ f.2.2.1) (hl : h.1.length ≤ h'.1.length ∧ zsl h.1 ≤ zsl h'.1) (K : Z f (h'.1.length, zsl h'.1) (fun r1 h1 => r1 = r ∧ h1 = h') 0 (zent 0 vs) [] h) : zM f vs h r h' := by
  refine ⟨hl.1, hl.2, fun l w ad => MetF_ofW (cc := f.2.1) (maxL := f.2.2.1) (ret := f.2.2.2.1) hy rfl ?_⟩
  intro p e s m args below meth c s₁ B hml hv
  obtain ⟨rfl, hE, hR, hok⟩ := hv
  have hent := lv_entry (vs.map (zval ad)) (n := f.2.2.1) (by rw [zwid_sl]; exact hw)
  rw [lg_entry_eq]
  rw [zent_map] at hent
  have K' := K p l e ({ frames := f.2.2.2.2.1, cells := h'.1.length - h.1.length, slots := zsl h'.1 - zsl h.1, locals := f.2.2.2.2.2 } : Room) s m _ below meth c w ad h.1 ⟨B.exec, B.bytes, B.returns, hml, findClass_of_methodNamed B.named, atoms_spec (ws := zwd f) B.pre, B.notSynchronized, (name_of_methodNamed B.named B.method).1, rfl, rfl, hE, hl.1, hl.2, rfl, rfl, fun r1 h1 q => by rw [q.2]; exact ⟨Nat.le_refl _, Nat.le_refl _⟩⟩ ad s.heap _ [] ⟨hR, va_S.rf, hent, zent_ok vs 0 hok, (fun v hv => by cases hv), fun a ha => ⟨ha, rfl⟩, fun a _ => rfl, Nat.le_refl _, Nat.le_refl _, hl.1, hl.2⟩
  rw [Nat.sub_self, Nat.sub_self] at K'
  exact K'
end SYZ
section SYY
variable {d : List Nat} {G : Nat → Int → Option Nat} {E : Nat → Int → Int}
theorem min_ok {a b : Int} : zM zm_J9_min_7cf53 [zI a, zI b] (d, G, E) (some (zI (min a b))) (d, G, E) := by
  refine zM_ofF (by decide +kernel) (Nat.le_of_ble_eq_true rfl) ⟨Nat.le_refl _, Nat.le_refl _⟩ (J9_min_7cf53_0 ⟨fun y => ⟨?_, rfl⟩, fun y => ⟨?_, rfl⟩⟩)
  · rw [show min a b = b by omega]
  · rw [show min a b = a by omega]
end SYY
