/-! ===== the rules over a heap in three parts ===== -/
/-- the lasting structure: references that stand once they are laid -/
def zK (t : List (Nat × Int × Nat)) (d : List Nat) (G : Nat → Int → Option Nat) : Prop := ∀ x, x ∈ t → G x.1 x.2.1 = some x.2.2 ∧ x.1 ∈ d ∧ x.2.2 ∈ d
theorem zK_at {t : List (Nat × Int × Nat)} {d : List Nat} {G : Nat → Int → Option Nat} (h : zK t d G) (i : Nat) {a b : Nat} {k : Int} (hi : t[i]? = some (a, k, b)) : G a k = some b ∧ a ∈ d ∧ b ∈ d := h _ (List.mem_of_getElem? hi)
/-- a Row by its name: its arrays lie behind it -/
def zRk (d : List Nat) (G : Nat → Int → Option Nat) (r : Nat) : Prop := zkd r = (8, 5) ∧ zkd (r + 1) = (0, 180) ∧ zkd (r + 2) = (0, 7) ∧ zkd (r + 3) = (1, 6) ∧ r ∈ d ∧ r + 1 ∈ d ∧ r + 2 ∈ d ∧ r + 3 ∈ d ∧ G r 0 = some (r + 1) ∧ G r 1 = some (r + 2) ∧ G r 2 = some (r + 3)
/-- a Claim by its name -/
def zCk (d : List Nat) (G : Nat → Int → Option Nat) (c : Nat) : Prop := zkd c = (4, 14) ∧ c ∈ d ∧ zRk d G (c + 1) ∧ G c 0 = some (c + 1) ∧ zkd (c + 5) = (0, 7) ∧ c + 5 ∈ d ∧ G c 2 = some (c + 5) ∧ zkd (c + 6) = (0, 32) ∧ c + 6 ∈ d ∧ G c 3 = some (c + 6)
section ZX
variable {f g : zF} {kz : Nat × Nat} {Q : Option zV → zH → Prop} {pc : Nat} {ls : List (Nat × zV)} {st st0 : List zV} {d : List Nat} {G : Nat → Int → Option Nat} {E : Nat → Int → Int}
theorem Y.getI {i a c k : Nat} (ki : Int) (hd : decode f.2.1 pc = .ok (.getfield i, 3)) (hf : zfl f.1.cls i c k) (hk : (zkd a).1 = c + 3) (hkd : ¬ zfkd c k = 1) (hki : (k : Int) = ki) (ha : a ∈ d) (K : Z f kz Q (pc + 3) ls (zI (E a ki) :: st) (d, G, E)) : Z f kz Q pc ls (zR a :: st) (d, G, E) := Z.getI ki hd hf hk hkd hki ha K
theorem Y.getR {i a c k : Nat} {o : Option Nat} (ki : Int) (hd : decode f.2.1 pc = .ok (.getfield i, 3)) (hf : zfl f.1.cls i c k) (hk : (zkd a).1 = c + 3) (hkd : zfkd c k = 1) (hki : (k : Int) = ki) (ha : a ∈ d) (ho : G a ki = o) (K : Z f kz Q (pc + 3) ls (zO o :: st) (d, G, E)) : Z f kz Q pc ls (zR a :: st) (d, G, E) := by
  subst ho
  exact Z.getR ki hd hf hk hkd hki ha K
theorem Y.iald {a n : Nat} {i : Int} (hd : decode f.2.1 pc = .ok (.iaload, 1)) (hk : zkd a = (0, n)) (ha : a ∈ d) (hi : 0 ≤ i ∧ i < n) (K : Z f kz Q (pc + 1) ls (zI (E a i) :: st) (d, G, E)) : Z f kz Q pc ls (zI i :: zR a :: st) (d, G, E) := Z.iald hd hk ha hi K
theorem Y.zald {a n : Nat} {i : Int} (hd : decode f.2.1 pc = .ok (.baload, 1)) (hk : zkd a = (1, n)) (ha : a ∈ d) (hi : 0 ≤ i ∧ i < n) (K : Z f kz Q (pc + 1) ls (zI (E a i) :: st) (d, G, E)) : Z f kz Q pc ls (zI i :: zR a :: st) (d, G, E) := Z.zald hd hk ha hi K
theorem Y.aald {a n : Nat} {i : Int} (hd : decode f.2.1 pc = .ok (.aaload, 1)) (hk : zkd a = (2, n)) (ha : a ∈ d) (hi : 0 ≤ i ∧ i < n) (K : Z f kz Q (pc + 1) ls (zO (G a i) :: st) (d, G, E)) : Z f kz Q pc ls (zI i :: zR a :: st) (d, G, E) := Z.aald hd hk ha hi K
theorem Y.alen {a : Nat} (n : Nat) (ni : Int) (hd : decode f.2.1 pc = .ok (.arraylength, 1)) (hk : zkd a = (0, n)) (ha : a ∈ d) (hn : (n : Int) = ni) (hz : zin ni) (K : Z f kz Q (pc + 1) ls (zI ni :: st) (d, G, E)) : Z f kz Q pc ls (zR a :: st) (d, G, E) := Z.alen n ni hd hk ha hn hz K
theorem Y.iast {a n : Nat} {i v : Int} (hd : decode f.2.1 pc = .ok (.iastore, 1)) (hk : zkd a = (0, n)) (ha : a ∈ d) (hi : 0 ≤ i ∧ i < n) (K : Z f kz Q (pc + 1) ls st (d, G, zuE E a i v)) : Z f kz Q pc ls (zI v :: zI i :: zR a :: st) (d, G, E) := Z.iast hd hk ha hi K
theorem Y.zast {a n : Nat} {i v : Int} (hd : decode f.2.1 pc = .ok (.bastore, 1)) (hk : zkd a = (1, n)) (ha : a ∈ d) (hi : 0 ≤ i ∧ i < n) (hv : v = 0 ∨ v = 1) (K : Z f kz Q (pc + 1) ls st (d, G, zuE E a i v)) : Z f kz Q pc ls (zI v :: zI i :: zR a :: st) (d, G, E) := Z.zast hd hk ha hi hv K
theorem Y.aast {a n b : Nat} {i : Int} (hd : decode f.2.1 pc = .ok (.aastore, 1)) (hk : zkd a = (2, n)) (ha : a ∈ d) (hb : b ∈ d) (hkb : (zkd b).1 = 4) (hi : 0 ≤ i ∧ i < n) (K : Z f kz Q (pc + 1) ls st (d, zuG G a i (some b), E)) : Z f kz Q pc ls (zR b :: zI i :: zR a :: st) (d, G, E) := Z.aast hd hk ha hb hkb hi K
theorem Y.putI {i a c k kd : Nat} {fin : Bool} {v : Int} (ki : Int) (hd : decode f.2.1 pc = .ok (.putfield i, 3)) (hf : zfw f.1.cls i c k kd fin) (hfi : fin = true → f.1.name = "<init>" ∧ vwCl[c]?.map (fun q => q.1) = some f.1.cls) (hk : (zkd a).1 = c + 3) (hki : (k : Int) = ki) (ha : a ∈ d) (hkd : kd = 0 ∨ kd = 2 ∧ (v = 0 ∨ v = 1)) (K : Z f kz Q (pc + 3) ls st (d, G, zuE E a ki v)) : Z f kz Q pc ls (zI v :: zR a :: st) (d, G, E) := Z.putI ki hd hf hfi hk hki ha hkd K
theorem Y.putR {i a c k : Nat} {fin : Bool} {v : Option Nat} (ki : Int) (hd : decode f.2.1 pc = .ok (.putfield i, 3)) (hf : zfw f.1.cls i c k 1 fin) (hfi : fin = true → f.1.name = "<init>" ∧ vwCl[c]?.map (fun q => q.1) = some f.1.cls) (hk : (zkd a).1 = c + 3) (hki : (k : Int) = ki) (ha : a ∈ d) (hv : ∀ b, v = some b → b ∈ d) (K : Z f kz Q (pc + 3) ls st (d, zuG G a ki v, E)) : Z f kz Q pc ls (zO v :: zR a :: st) (d, G, E) := Z.putR ki hd hf hfi hk hki ha hv K
theorem Y.new {i c : Nat} (a : Nat) (hd : decode f.2.1 pc = .ok (.new i, 3)) (hw : znw f.1.cls i c) (hk : (zkd a).1 = c + 3) (ha : a ∉ d) (h3 : ¬ zst3 a) (hc : d.length + 1 ≤ kz.1) (hsl : zsl d + (zkd a).2 ≤ kz.2) (K : Z f kz Q (pc + 3) ls (zR a :: st) (d ++ [a], zclG G a, zclE E a)) : Z f kz Q pc ls st (d, G, E) := Z.new a hd hw hk ha h3 hc hsl K
theorem Y.newI {n : Int} (a : Nat) (hd : decode f.2.1 pc = .ok (.newarray .int, 2)) (hk : zkd a = (0, n.toNat)) (h0 : 0 ≤ n) (hb : n ≤ 100000) (hw : Cond.arrayClass .int ∈ zT) (ha : a ∉ d) (h3 : ¬ zst3 a) (hc : d.length + 1 ≤ kz.1) (hsl : zsl d + (zkd a).2 ≤ kz.2) (K : Z f kz Q (pc + 2) ls (zR a :: st) (d ++ [a], zclG G a, zclE E a)) : Z f kz Q pc ls (zI n :: st) (d, G, E) := Z.newI a hd hk h0 hb hw ha h3 hc hsl K
theorem Y.newZ {n : Int} (a : Nat) (hd : decode f.2.1 pc = .ok (.newarray .boolean, 2)) (hk : zkd a = (1, n.toNat)) (h0 : 0 ≤ n) (hb : n ≤ 100000) (hw : Cond.arrayClass .boolean ∈ zT) (ha : a ∉ d) (h3 : ¬ zst3 a) (hc : d.length + 1 ≤ kz.1) (hsl : zsl d + (zkd a).2 ≤ kz.2) (K : Z f kz Q (pc + 2) ls (zR a :: st) (d ++ [a], zclG G a, zclE E a)) : Z f kz Q pc ls (zI n :: st) (d, G, E) := Z.newZ a hd hk h0 hb hw ha h3 hc hsl K
theorem Y.newA {n : Int} {i : Nat} (a : Nat) (hd : decode f.2.1 pc = .ok (.anewarray i, 3)) (hk : zkd a = (2, n.toNat)) (h0 : 0 ≤ n) (hb : n ≤ 100000) (hw : Cond.classLink f.1.cls i "ClaimHall$Claim" ∈ zT) (ha : a ∉ d) (h3 : ¬ zst3 a) (hc : d.length + 1 ≤ kz.1) (hsl : zsl d + (zkd a).2 ≤ kz.2) (K : Z f kz Q (pc + 3) ls (zR a :: st) (d ++ [a], zclG G a, zclE E a)) : Z f kz Q pc ls (zI n :: st) (d, G, E) := Z.newA a hd hk h0 hb hw ha h3 hc hsl K
theorem Y.copy {i s0 a n0 n1 : Nat} {sp dp n : Int} (hd : decode f.2.1 pc = .ok (.invokestatic i, 3)) (hw : Cond.methodLink f.1.cls i arraycopyName ∈ zT) (hw2 : Cond.native arraycopyName ∈ zT ∧ Cond.static arraycopyName ∈ zT ∧ Cond.initialized "java/lang/System" ∈ zT) (hf : 1 ≤ f.2.2.2.2.1 ∧ 26 ≤ f.2.2.2.2.2) (hst : zwid st ≤ 8) (hk0 : zkd s0 = (0, n0)) (hk1 : zkd a = (0, n1)) (hs0 : s0 ∈ d) (ha : a ∈ d) (hb : 0 ≤ sp ∧ 0 ≤ dp ∧ 0 ≤ n ∧ sp + n ≤ n0 ∧ dp + n ≤ n1) (K : Z f kz Q (pc + 3) ls st (d, G, zcpE E s0 sp a dp n)) : Z f kz Q pc ls (zI n :: zI dp :: zR a :: zI sp :: zR s0 :: st) (d, G, E) := Z.copy hd hw hw2 hf hst hk0 hk1 hs0 ha hb K
variable {d' : List Nat} {G' : Nat → Int → Option Nat} {E' : Nat → Int → Int} {r : Option zV} {vs : List zV}
theorem Y.callV {i n a ci : Nat} (hd : decode f.2.1 pc = .ok (.invokevirtual i, 3)) (hs : zsB f g n) (hl : Cond.methodLink f.1.cls i g.1 ∈ zT ∧ Cond.instanceMethod g.1 ∈ zT ∧ Cond.selects g.1.cls g.1 g.1 ∈ zT) (hk : (zkd a).1 = ci + 3) (hc : vwCl[ci]?.map (fun q => q.1) = some g.1.cls) (ha : a ∈ d) (hn : vs.length = n) (hst : st0 = vs.reverse ++ zR a :: st) (hw : zwid st ≤ 8) (hM : zM g (zR a :: vs) (d, G, E) r (d', G', E')) (hb : d' = d ∨ d'.length ≤ kz.1 ∧ zsl d' ≤ kz.2) (K : Z f kz Q (pc + 3) ls (r.toList ++ st) (d', G', E')) : Z f kz Q pc ls st0 (d, G, E) := Z.callV hd hs hl hk hc ha hn hst hw hM hb K
theorem Y.callS {i n : Nat} (hd : decode f.2.1 pc = .ok (.invokestatic i, 3)) (hs : zsB f g n) (hl : (Cond.methodLink f.1.cls i g.1 ∈ zT ∨ (f.1.cls, i, g.1, "ClaimHall") ∈ zMN) ∧ Cond.static g.1 ∈ zT) (hn : vs.length = n) (hst : st0 = vs.reverse ++ st) (hw : zwid st ≤ 8) (hM : zM g vs (d, G, E) r (d', G', E')) (hb : d' = d ∨ d'.length ≤ kz.1 ∧ zsl d' ≤ kz.2) (K : Z f kz Q (pc + 3) ls (r.toList ++ st) (d', G', E')) : Z f kz Q pc ls st0 (d, G, E) := Z.callS hd hs hl hn hst hw hM hb K
theorem Y.callI {i n a : Nat} (hd : decode f.2.1 pc = .ok (.invokespecial i, 3)) (hs : zsB f g n) (hl : (Cond.methodLink f.1.cls i g.1 ∈ zT ∨ (f.1.cls, i, g.1, "ClaimHall") ∈ zMN) ∧ Cond.instanceMethod g.1 ∈ zT) (hi : g.1.name = "<init>") (hret : g.2.2.2.1 = none) (hn : vs.length = n) (hst : st0 = vs.reverse ++ zR a :: st) (hw : zwid st ≤ 8) (hM : zM g (zR a :: vs) (d, G, E) r (d', G', E')) (hb : d' = d ∨ d'.length ≤ kz.1 ∧ zsl d' ≤ kz.2) (K : Z f kz Q (pc + 3) ls (r.toList ++ st) (d', G', E')) : Z f kz Q pc ls st0 (d, G, E) := Z.callI hd hs hl hi hret hn hst hw hM hb K
/-- what a reference is -/
theorem Y.deref {o : Option Nat} {a : Nat} (h : o = some a) {P : Option Nat → Prop} (K : P (some a)) : P o := h ▸ K
/-- references compared -/
theorem Y.acmp_eq {x y : Option Nat} {off : Int} (tgt : Nat) (hd : decode f.2.1 pc = .ok (.if_acmp .eq off, 3)) (ht : (pc : Int) + off = (tgt : Int)) (hx : ∀ a, x = some a → a ∈ d) (hy : ∀ a, y = some a → a ∈ d) (K : (x = y → Z f kz Q tgt ls st (d, G, E)) ∧ (¬ x = y → Z f kz Q (pc + 3) ls st (d, G, E))) : Z f kz Q pc ls (zO y :: zO x :: st) (d, G, E) := by
  have inj : ∀ {w : zWp} {ad : Nat → Nat} {H : Heap}, zRel w ad (d, G, E) H → (x.map ad = y.map ad ↔ x = y) := by
    intro w ad H hR
    constructor
    · intro e
      cases x with
      | none => cases y with
        | none => rfl
        | some b => cases e
      | some a => cases y with
        | none => cases e
        | some b =>
          have e1 : ad a = ad b := Option.some.inj e
          obtain ⟨i, hi⟩ := zdx (hx a rfl)
          obtain ⟨j, hj⟩ := zdx (hy b rfl)
          have hij := hR.2.1.1 i j _ _ (zws_at hi) (zws_at hj) e1
          subst hij
          exact hi.symm.trans hj
    · intro e
      rw [e]
  by_cases hc : x = y
  · exact Z.op (st' := st) (fun o _ _ => zok_tl (zok_tl o)) (fun p l e R s m args below meth c w ad0 d0 C ad H lsA locs cells slots Q2 P k => lv_acmp_eq C.1 C.2.1 hd ht (fun _ => k) (fun q => absurd ((inj P.1).mpr hc) q)) (K.1 hc)
  · exact Z.op (st' := st) (fun o _ _ => zok_tl (zok_tl o)) (fun p l e R s m args below meth c w ad0 d0 C ad H lsA locs cells slots Q2 P k => lv_acmp_eq C.1 C.2.1 hd ht (fun q => absurd ((inj P.1).mp q) hc) (fun _ => k)) (K.2 hc)
theorem Y.acmp_ne {x y : Option Nat} {off : Int} (tgt : Nat) (hd : decode f.2.1 pc = .ok (.if_acmp .ne off, 3)) (ht : (pc : Int) + off = (tgt : Int)) (hx : ∀ a, x = some a → a ∈ d) (hy : ∀ a, y = some a → a ∈ d) (K : (x ≠ y → Z f kz Q tgt ls st (d, G, E)) ∧ (¬ x ≠ y → Z f kz Q (pc + 3) ls st (d, G, E))) : Z f kz Q pc ls (zO y :: zO x :: st) (d, G, E) := by
  have inj : ∀ {w : zWp} {ad : Nat → Nat} {H : Heap}, zRel w ad (d, G, E) H → (x.map ad = y.map ad ↔ x = y) := by
    intro w ad H hR
    constructor
    · intro e
      cases x with
      | none => cases y with
        | none => rfl
        | some b => cases e
      | some a => cases y with
        | none => cases e
        | some b =>
          have e1 : ad a = ad b := Option.some.inj e
          obtain ⟨i, hi⟩ := zdx (hx a rfl)
          obtain ⟨j, hj⟩ := zdx (hy b rfl)
          have hij := hR.2.1.1 i j _ _ (zws_at hi) (zws_at hj) e1
          subst hij
          exact hi.symm.trans hj
    · intro e
      rw [e]
  by_cases hc : x ≠ y
  · exact Z.op (st' := st) (fun o _ _ => zok_tl (zok_tl o)) (fun p l e R s m args below meth c w ad0 d0 C ad H lsA locs cells slots Q2 P k => lv_acmp_ne C.1 C.2.1 hd ht (fun _ => k) (fun q => absurd ((inj P.1).mp q) hc)) (K.1 hc)
  · exact Z.op (st' := st) (fun o _ _ => zok_tl (zok_tl o)) (fun p l e R s m args below meth c w ad0 d0 C ad H lsA locs cells slots Q2 P k => lv_acmp_ne C.1 C.2.1 hd ht (fun q => absurd ((inj P.1).mpr (Decidable.not_not.mp hc)) q) (fun _ => k)) (K.2 hc)
end ZX
