/-! ===== both sides: what holds between calls; run ===== -/
/-- the signs, as the class has them -/
def sgs (E : Nat → Int → Int) : Prop := pok (E 3) ∧ wok (E 4) ∧ E 3 0 = 2 ∧ UB (E 3) ∧ (1 ≤ E 1 3 ∧ E 1 3 ≤ 16) ∧ E 2 0 = 1 ∧ ∀ v : Int, 0 ≤ v → v < E 1 3 → 1 ≤ E 4 v
/-- the script stays as it was -/
def sc (E F : Nat → Int → Int) : Prop := F 193 = E 193 ∧ F 194 = E 194
theorem sc_r {E : Nat → Int → Int} : sc E E := ⟨rfl, rfl⟩
theorem sc_t {E F H : Nat → Int → Int} (h : sc E F) (h' : sc F H) : sc E H := ⟨h'.1.trans h.1, h'.2.trans h.2⟩
theorem sc_f {E F : Nat → Int → Int} {S : List Nat} (h : fz S E F) (h1 : 193 ∉ S) (h2 : 194 ∉ S) : sc E F := ⟨h _ h1, h _ h2⟩
theorem sc_p {E F : Nat → Int → Int} {a : Nat} {k v : Int} (h : sc E F) (h1 : a ≠ 193) (h2 : a ≠ 194) : sc E (zuE F a k v) := ⟨(zuE_nf (fun q => h1 q.symm)).trans h.1, (zuE_nf (fun q => h2 q.symm)).trans h.2⟩
/-- what holds between calls, g of them made -/
def JI (d : List Nat) (G : Nat → Int → Option Nat) (E : Nat → Int → Int) (s : zS) (g : Nat) : Prop :=
  CIv d G E s ∧ MIv E s ∧ okS g s ∧ (E 52 = E 2 ∧ E 53 = E 3 ∧ E 54 = E 4) ∧ E 50 0 = E 1 3 ∧ (E 50 4 = E 0 12 ∧ 0 ≤ E 0 12 ∧ E 0 12 ≤ 200 ∧ ∀ i : Int, 0 ≤ i → i < E 0 12 → E 56 i = E 9 i ∧ -20 ≤ E 9 i ∧ E 9 i ≤ 3000) ∧ (E 50 57 = E 0 13 ∧ 0 ≤ E 0 13 ∧ E 0 13 ≤ 20) ∧ (E 50 58 = E 0 14 ∧ 0 ≤ E 0 14 ∧ E 0 14 ≤ 4000) ∧ (E 50 55 = E 0 16 ∧ 0 ≤ E 0 16 ∧ E 0 16 ≤ 200 * (g : Int)) ∧ sgs E
theorem okS_g {g g' : Nat} {s : zS} (h : okS g s) (hg : g ≤ g') : okS g' s := by
  obtain ⟨o1, o2, o3, o4, o5, o6, o7, o8⟩ := h
  exact ⟨o1, o2, o3, ⟨o4.1, by omega⟩, o5, o6, by omega, o8⟩
theorem MIv_k {E E' : Nat → Int → Int} {s : zS} (h : MIv E s) (hk : ∀ y : Nat, 50 ≤ y → y < 200 → E' y = E y) : MIv E' s := by
  obtain ⟨hC, e44, e43, e45, e42, e54, hlo⟩ := h
  have a50 : E' 50 = E 50 := hk 50 (by decide) (by decide)
  refine ⟨?_, by rw [a50]; exact e44, by rw [a50]; exact e43, by rw [a50]; exact e45, by rw [a50]; exact e42, by rw [a50]; exact e54, by rw [hk 58 (by decide) (by decide)]; exact hlo⟩
  rw [hk 53 (by decide) (by decide), hk 54 (by decide) (by decide)]
  refine ⟨by rw [a50]; exact hC.1, hC.2.1, fun c hc => MD_agr (hC.2.2 c hc) ?_ (by rw [hk 62 (by decide) (by decide)]; exact (hC.2.2 c hc).2.2.1) (by rw [hk 63 (by decide) (by decide)]; exact (hC.2.2 c hc).2.2.2.1)⟩
  refine ⟨fun i _ _ => ?_, fun i _ _ => ?_, fun i _ _ => ?_, fun i _ _ => ?_, ?_, ?_, ?_, ?_⟩
  · rw [hk 58 (by decide) (by decide), hk 65 (by decide) (by decide)]; exact ⟨rfl, rfl⟩
  · rw [hk 59 (by decide) (by decide), hk 60 (by decide) (by decide), hk 66 (by decide) (by decide), hk 67 (by decide) (by decide)]; exact ⟨rfl, rfl, rfl, rfl⟩
  · rw [hk 69 (by decide) (by decide)]
  · rw [hk 71 (by decide) (by decide)]
  · rw [hk 61 (by decide) (by decide)]
  · rw [hk 64 (by decide) (by decide)]
  · rw [hk 68 (by decide) (by decide)]
  · rw [hk 70 (by decide) (by decide)]
/-- the reference's own objects do not touch the class -/
theorem CIv_m {d : List Nat} {G : Nat → Int → Option Nat} {E E' : Nat → Int → Int} {s : zS} {S : List Nat} (h : CIv d G E s) (hf : fz S E E') (hS : ∀ x, x ∈ S → 50 ≤ x ∧ x < 200) : CIv d G E' s := by
  have k : ∀ y : Nat, y < 50 → E' y = E y := fun y hy => hf y (fun q => by have := hS y q; omega)
  refine CIv_fz h hf (fun x hx => by have := hS x hx; omega) ?_ ?_
  · have hI := h.2.2.2.2.2.2.1
    unfold stI at *
    rw [k 20 (by decide), k 22 (by decide), k 23 (by decide)]; exact hI
  · rw [k 19 (by decide)]; exact h.2.2.2.2.2.2.2.1
section ST
variable {d : List Nat} {G : Nat → Int → Option Nat} {E : Nat → Int → Int}
theorem in3_ok {v a b : Int} (hM : zK zMt d G) : zM zm_X12_in [zI v, zI a, zI b] (d, G, E) (some (zI (if v < a then 0 else if b < v then 0 else 1))) (d, G, E) := by
  refine zM_e rfl (Nat.le_of_ble_eq_true rfl) (fun kz Q hQ => X12_in_0 hM ⟨fun y => ?_, fun y => ⟨fun y2 => ?_, fun y2 => ?_⟩⟩)
  · rw [if_pos y] at hQ; exact hQ
  · rw [if_neg y, if_pos y2] at hQ; exact hQ
  · rw [if_neg y, if_neg y2] at hQ; exact hQ
theorem JI_run {s : zS} {g N : Nat} (h : JI d G E s g) (hg : g < 600) (hN : 1 ≤ N ∧ N ≤ 200) :
    ∃ (r : Int) (d' : List Nat) (G' : Nat → Int → Option Nat) (E1 E2 : Nat → Int → Int) (s' : zS), zM zm_X11_run [zR 0, zI (N : Int)] (d, G, E) (some (zI r)) (d', G', E1) ∧ zM zm_X12_run [zR 50, zI (N : Int)] (d', G', E1) (some (zI r)) (d', G', E2) ∧ sc E E1 ∧ sc E E2 ∧ d.length ≤ d'.length ∧ zsl d ≤ zsl d' ∧ JI d' G' E2 s' (g + 1) ∧ (ndp d → ndp d') ∧ ∃ p', RN (E 3) (E 4) (E 0 14) (E 0 13) N s (E 0 16) s' p' := by
  obtain ⟨hc, hm, ho, ⟨q52, q53, q54⟩, q0, ⟨q4, d0, d2, dd⟩, ⟨q57, t0, t2⟩, ⟨q58, f0, f2⟩, ⟨q55, p0, p2⟩, ⟨hP, hW, h2, hub, hn, hs0, hsw⟩⟩ := h
  have hg1 : sgC E (E 0 14) := ⟨hP, hW, h2, rfl, f2, hub⟩
  obtain ⟨d', G', E1, s1, m1, c1, k1, o1, y1, r1⟩ := runC_ok (fu := E 0 14) (g := g) (N := N) (by omega) hN hc hg1 ho ⟨p0, by omega⟩ ⟨t0, by omega⟩
  have hM' : zK zMt d' G' := c1.2.2.2.2.2.2.2.2.2
  have kk : ∀ y : Nat, y < 200 → y ∉ cS → E1 y = E y := k1.2.2.2.2.2.1
  have k0 : ∀ i : Int, i < 15 → E1 0 i = E 0 i := k1.2.2.2.2.2.2
  have k50 : ∀ y : Nat, 50 ≤ y → y < 200 → E1 y = E y := fun y y1 y2 => kk y y2 (by simp only [cS, List.mem_cons, List.not_mem_nil, or_false]; omega)
  have a50 : E1 50 = E 50 := k50 50 (by decide) (by decide)
  have a53 : E1 53 = E 3 := (k50 53 (by decide) (by decide)).trans q53
  have a54 : E1 54 = E 4 := (k50 54 (by decide) (by decide)).trans q54
  have m0 := MIv_k hm k50
  have hg2 : sgM E1 (E 0 14) := ⟨by rw [a53]; exact hP, by rw [a54]; exact hW, by rw [a53]; exact h2, by rw [a50]; exact q58, f2⟩
  have hin : zM zm_X12_in [zI (N : Int), zI 1, zI 200] (d', G', E1) (some (zI 1)) (d', G', E1) := by
    have := in3_ok (E := E1) (d := d') (G := G') (v := (N : Int)) (a := 1) (b := 200) hM'
    rw [if_neg (by omega), if_neg (by omega)] at this
    exact this
  obtain ⟨E2, s2, m2, k2, v2, o2, y2, r2⟩ := runM_ok (E := E1) (fu := E 0 14) (g := g) (N := N) (s := s) hM' (by omega) hN hg2 m0 ho (by rw [a50, q55]; exact ⟨p0, by omega⟩) (by rw [a50, q57]; exact ⟨t0, by omega⟩) hin
  rw [a53, a54, a50, q57, q55] at r2
  obtain ⟨es, ep⟩ := RN_det r1 r2
  subst es
  rw [a50, q55] at y2
  have f2' : fz tS E1 E2 := k2.1
  have lo : ∀ y : Nat, y < 50 → E2 y = E1 y := fun y hy => f2' y (by simp only [tS, List.mem_cons, List.not_mem_nil, or_false]; omega)
  have b1 : ∀ y : Nat, y < 50 → y ∉ cS → E2 y = E y := fun y hy hc => (lo y hy).trans (kk y (by omega) hc)
  have b0 : E2 0 = E1 0 := lo 0 (by decide)
  have e1 : E2 1 = E 1 := b1 1 (by decide) (by simp [cS])
  have e2 : E2 2 = E 2 := b1 2 (by decide) (by simp [cS])
  have e3 : E2 3 = E 3 := b1 3 (by decide) (by simp [cS])
  have e4 : E2 4 = E 4 := b1 4 (by decide) (by simp [cS])
  have e9 : E2 9 = E 9 := b1 9 (by decide) (by simp [cS])
  have b12 : E2 0 12 = E 0 12 := by rw [b0]; exact k0 12 (by decide)
  have b13 : E2 0 13 = E 0 13 := by rw [b0]; exact k0 13 (by decide)
  have b14 : E2 0 14 = E 0 14 := by rw [b0]; exact k0 14 (by decide)
  have b16 : E2 0 16 = E1 0 16 := by rw [b0]
  have c52 : E2 52 = E 52 := (f2' 52 (by simp [tS])).trans (k50 52 (by decide) (by decide))
  have c53 : E2 53 = E 53 := (f2' 53 (by simp [tS])).trans (k50 53 (by decide) (by decide))
  have c54 : E2 54 = E 54 := (f2' 54 (by simp [tS])).trans (k50 54 (by decide) (by decide))
  have c56 : E2 56 = E 56 := (f2' 56 (by simp [tS])).trans (k50 56 (by decide) (by decide))
  refine ⟨sEn s1, d', G', E1, E2, s1, m1, m2, ⟨k50 193 (by decide) (by decide), k50 194 (by decide) (by decide)⟩, sc_t (F := E1) ⟨k50 193 (by decide) (by decide), k50 194 (by decide) (by decide)⟩ (sc_f f2' (by simp [tS]) (by simp [tS])), k1.2.1, k1.2.2.1, ⟨CIv_m c1 f2' (by simp [tS]), v2, okS_g o1 (by omega), ⟨by rw [c52, e2]; exact q52, by rw [c53, e3]; exact q53, by rw [c54, e4]; exact q54⟩, ?_, ⟨?_, by rw [b12]; exact d0, by rw [b12]; exact d2, fun i i0 i1 => ?_⟩, ⟨?_, by rw [b13]; exact t0, by rw [b13]; exact t2⟩, ⟨?_, by rw [b14]; exact f0, by rw [b14]; exact f2⟩, ⟨?_, by rw [b16]; omega, by rw [b16]; omega⟩, ?_⟩, k1.1.2, _, r1⟩
  · rw [k2.2.1, a50, e1]; exact q0
  · rw [k2.2.2.1, a50, b12]; exact q4
  · rw [c56, e9]
    rw [b12] at i1
    exact dd i i0 i1
  · rw [k2.2.2.2.1, a50, b13]; exact q57
  · rw [k2.2.2.2.2, a50, b14]; exact q58
  · rw [b16]; exact ep.symm
  · unfold sgs
    rw [e1, e2, e3, e4]
    exact ⟨hP, hW, h2, hub, hn, hs0, hsw⟩
end ST
