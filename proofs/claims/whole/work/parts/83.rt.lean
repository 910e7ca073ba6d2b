/-! ===== steps: the reference, turn: what is written ===== -/
/-- what writing changes -/
def wS : List Nat := [50, 99, 101, 102]
def w50 (E F : Nat → Int → Int) : Prop := ∀ j : Int, j ≠ 52 → F 50 j = E 50 j
theorem w50_t {E F H : Nat → Int → Int} (h : w50 E F) (h' : w50 F H) : w50 E H := fun j j1 => (h' j j1).trans (h j j1)
section RT
variable {d : List Nat} {G : Nat → Int → Option Nat} {E : Nat → Int → Int}
/-- a stretch without the place -/
theorem cpy_ok {b : zBd} {rk : Int → Nat} {v1 v2 v3 v4 : Int} (hM : zK zMt d G) (hP : pok (E 53)) (hb : bw (E 53) b rk) (hU : bdW (E 97) (E 98) 360 b) (h12 : zin (v1 + v2)) : ∀ (v : List Int) (x : Int) (O : List Int) (F : Nat → Int → Int), fz wS E F → w50 E F → outO F O → onM E x v → (∀ k : Nat, k < v.length → x + k ≠ v3) → x + v.length ≤ v1 + v2 →
    ∃ F' : Nat → Int → Int, fz wS E F' ∧ w50 E F' ∧ outO F' (O ++ sb (th b) v) ∧ ∀ kz Q, Z zm_X12_writeTurned kz Q 3 [(0, zR 50), (1, zI v1), (2, zI v2), (3, zI v3), (4, zI v4), (5, zI (x + v.length))] [] (d, G, F') → Z zm_X12_writeTurned kz Q 3 [(0, zR 50), (1, zI v1), (2, zI v2), (3, zI v3), (4, zI v4), (5, zI x)] [] (d, G, F) := by
  intro v
  induction v with
  | nil =>
    intro x O F hf h50 hO hx _ _
    refine ⟨F, hf, h50, by simpa [sb] using hO, fun kz Q z => ?_⟩
    simpa using z
  | cons a v ih =>
    intro x O F hf h50 hO hx hne hle
    have f53 : F 53 = E 53 := hf 53 (by simp [wS])
    have f97 : F 97 = E 97 := hf 97 (by simp [wS])
    have f98 : F 98 = E 98 := hf 98 (by simp [wS])
    obtain ⟨a1, a2, a3, a4⟩ := onM_hd hx (by simp)
    rw [fw_c0] at a1 a2
    have e : a :: v = [a] ++ v := rfl
    have o1 : onM E x [a] := by rw [e] at hx; exact onM_l hx
    have o2 : onM E (x + 1) v := by rw [e] at hx; exact onM_r hx (by simp)
    have ne0 : x ≠ v3 := by have := hne 0 (by simp); simpa using this
    rw [List.length_cons] at hle
    have nx : ∀ F1 : Nat → Int → Int, fz wS E F1 → w50 E F1 → outO F1 (O ++ sb (th b) [a]) → ∃ F' : Nat → Int → Int, fz wS E F' ∧ w50 E F' ∧ outO F' (O ++ sb (th b) (a :: v)) ∧ ∀ kz Q, Z zm_X12_writeTurned kz Q 3 [(0, zR 50), (1, zI v1), (2, zI v2), (3, zI v3), (4, zI v4), (5, zI (x + ((a :: v).length : Int)))] [] (d, G, F') → Z zm_X12_writeTurned kz Q 3 [(0, zR 50), (1, zI v1), (2, zI v2), (3, zI v3), (4, zI v4), (5, zI (x + 1))] [] (d, G, F1) := fun F1 g1 g2 g3 => by
      obtain ⟨F', i1, i2, i3, i4⟩ := ih (x + 1) (O ++ sb (th b) [a]) F1 g1 g2 g3 o2 (fun k hk => by have := hne (k + 1) (by simp; omega); omega) (by omega)
      refine ⟨F', i1, i2, ?_, fun kz Q z => i4 kz Q ?_⟩
      · rw [e, sb_app, ← List.append_assoc]; exact i3
      · have e2 : x + ((a :: v).length : Int) = x + 1 + v.length := by rw [List.length_cons]; omega
        rw [e2] at z; exact z
    have xl : ¬ (v1 + v2 ≤ x) := by omega
    by_cases c : 0 ≤ a
    · obtain ⟨F1, m1, p1, p2, p3⟩ := put_ok (E := F) (v := a) hM hO
      obtain ⟨F', i1, i2, i3, i4⟩ := nx F1 (fz_trans hf (fz_mono p1 (by simp [wS]))) (w50_t h50 p2) (by rw [sb_s c]; exact p3)
      refine ⟨F', i1, i2, i3, fun kz Q z => X12_writeTurned_3 hM ⟨h12, fun y => absurd y xl, fun _ => ⟨fun _ => ⟨⟨a3, a4⟩, fun _ => ⟨⟨a3, a4⟩, ?_⟩, fun y => absurd (by rw [f97, a1]; exact c) y⟩, fun y => absurd ne0 y⟩⟩⟩
      rw [f97, a1]
      exact ⟨F1, m1, zin_of (by omega) (by omega), i4 kz Q z⟩
    · obtain ⟨F1, m1, p1, p2, p3⟩ := writeM_ok (E := F) (b := b) (rk := rk) (i := x) (u := [a]) hM (by rw [f53]; exact hP) (by rw [f53]; exact hb) (by rw [f97, f98]; exact hU) (tw_1 (by omega)) (onM_97 o1 f97) hO
      obtain ⟨F', i1, i2, i3, i4⟩ := nx F1 (fz_trans hf (fz_mono p1 (by simp [wS]))) (w50_t h50 p2) p3
      exact ⟨F', i1, i2, i3, fun kz Q z => X12_writeTurned_3 hM ⟨h12, fun y => absurd y xl, fun _ => ⟨fun _ => ⟨⟨a3, a4⟩, fun y => absurd y (by rw [f97, a1]; omega), fun _ => ⟨F1, m1, zin_of (by omega) (by omega), i4 kz Q z⟩⟩, fun y => absurd ne0 y⟩⟩⟩
theorem writeTurned_ok {b : zBd} {rk : Int → Nat} {i0 r0 : Int} {v1 v2 v3 rw : List Int} (hM : zK zMt d G) (hP : pok (E 53)) (hb : bw (E 53) b rk) (hU : bdW (E 97) (E 98) 360 b) (hO : outO E []) (hi : onM E i0 (v1 ++ (v2 ++ v3))) (ht : tw (E 53) v2) (hr : onM E r0 rw) (tr : tw (E 53) rw) :
    ∃ E' : Nat → Int → Int, zM zm_X12_writeTurned [zR 50, zI i0, zI ((v1 ++ (v2 ++ v3)).length : Int), zI (i0 + v1.length), zI r0] (d, G, E) none (d, G, E') ∧ fz wS E E' ∧ w50 E E' ∧ outO E' (sb (th b) v1 ++ (sb (th b) rw ++ sb (th b) v3)) := by
  have hle := hi.2.1
  have h0 := hi.1
  have o1 := onM_l hi
  have o23 := onM_r hi (j := i0 + v1.length) rfl
  have o2 := onM_l o23
  have o3 := onM_r o23 (j := i0 + v1.length + v2.length) rfl
  have l2 : 0 < v2.length := List.length_pos_iff.2 (tw_ne ht)
  rw [List.length_append, List.length_append] at hle
  have h12 : zin (i0 + ((v1 ++ (v2 ++ v3)).length : Int)) := by rw [List.length_append, List.length_append]; exact zin_of (by omega) (by omega)
  obtain ⟨F1, a1, a2, a3, a4⟩ := cpy_ok (E := E) (v3 := i0 + v1.length) (v4 := r0) hM hP hb hU h12 v1 i0 [] E fz_rfl (fun _ _ => rfl) hO o1 (fun k hk => by omega) (by rw [List.length_append, List.length_append]; omega)
  have e53 : F1 53 = E 53 := a1 53 (by simp [wS])
  have e97 : F1 97 = E 97 := a1 97 (by simp [wS])
  have e98 : F1 98 = E 98 := a1 98 (by simp [wS])
  obtain ⟨F2, m2, c1, c2, c3⟩ := writeM_ok (E := F1) (b := b) (rk := rk) (i := r0) (u := rw) hM (by rw [e53]; exact hP) (by rw [e53]; exact hb) (by rw [e97, e98]; exact hU) (by rw [e53]; exact tr) (onM_97 hr e97) a3
  have hf2 : fz wS E F2 := fz_trans a1 (fz_mono c1 (by simp [wS]))
  have me := endM (F := F2) hM (by rw [hf2 53 (by simp [wS])]; exact hP) (onM_97 o2 (hf2 97 (by simp [wS]))) (by rw [hf2 53 (by simp [wS])]; exact ht)
  obtain ⟨F3, g1, g2, g3, g4⟩ := cpy_ok (E := E) (v3 := i0 + v1.length) (v4 := r0) hM hP hb hU h12 v3 (i0 + v1.length + v2.length) _ F2 hf2 (w50_t a2 c2) c3 o3 (fun k hk => by omega) (by rw [List.length_append, List.length_append]; omega)
  refine ⟨F3, zM_e rfl (Nat.le_of_ble_eq_true rfl) (fun kz Q hQ => X12_writeTurned_0 hM (a4 kz Q (X12_writeTurned_3 hM ⟨h12, fun y => absurd y (by rw [List.length_append, List.length_append]; omega), fun _ => ⟨fun y => absurd rfl y, fun _ => ⟨F2, m2, _, me, g4 kz Q (X12_writeTurned_3 hM ⟨h12, fun _ => hQ, fun y => absurd (by rw [List.length_append, List.length_append]; omega) y⟩)⟩⟩⟩))), g1, g2, ?_⟩
  rw [List.nil_append, List.append_assoc] at g3
  exact g3
theorem frt_len {B : List zLt} {h : List Int → List Int} {j : Int} {x : List Int} : ∀ {m l : Nat}, (frt B h j x m l).length = m
  | 0, _ => rfl
  | m + 1, l => by simp only [frt, List.length_cons]; rw [frt_len]
theorem turnWrites_ok {b : zBd} {rk : Int → Nat} {K p n : Nat} {R : Nat → List zLt} {i j : Int} {r0 : Int} {v1 v2 v3 rw : List Int} (hM : zK zMt d G) (hP : pok (E 53)) (hb : bw (E 53) b rk) (hU : bdW (E 97) (E 98) 360 b) (hs : stM E (E 53) (E 54) K R) (hp : p < K) (hn : n < K) (hbr : brd E (R p) (R n)) (hi : 0 ≤ i ∧ i < (R p).length) (hj : 0 ≤ j ∧ j < (R n).length) (hA : rowW E []) (hw : (lit (R n) j.toNat).2.map shf = v1 ++ (v2 ++ v3)) (ht : tw (E 53) v2) (hr : onM E r0 rw) (tr : tw (E 53) rw) :
    ∃ (x : Int) (E' : Nat → Int → Int), zM zm_X12_turnWrites [zR 50, zI (p : Int), zI i, zI (n : Int), zI j, zI (180 + 30 * j + v1.length), zI r0] (d, G, E) (some (zI x)) (d, G, E') ∧ fz mS E E' ∧ m50 E E' ∧ (x = 0 ∨ x = 1) ∧ mkM E' (some (adds [] (frm (R p) i (sb (th b)) (R p).length 0 ++ frt (R n) (fun w => sb (th b) (w.map shf)) j (sb (th b) v1 ++ (sb (th b) rw ++ sb (th b) v3)) (R n).length 0))) x := by
  have hK := hs.2.1
  have lp6 := (hs.2.2 p hp).1.2.1
  have ln6 := (hs.2.2 n hn).1.2.1
  have e61p := (hs.2.2 p hp).1.1
  have e61n := (hs.2.2 n hn).1.1
  by_cases c6 : 6 < ((R p).length : Int) - 1 + (R n).length
  · refine ⟨0, E, zM_e rfl (Nat.le_of_ble_eq_true rfl) (fun kz Q hQ => X12_turnWrites_0 hM ?_), fz_rfl, fun _ _ _ => rfl, Or.inl rfl, Or.inr (Or.inl ⟨?_, rfl⟩)⟩
    · rw [e61p, e61n]
      exact ⟨⟨by omega, by omega⟩, zin_of (by omega) (by omega), ⟨by omega, by omega⟩, zin_of (by omega) (by omega), fun _ => hQ, fun y => absurd c6 y⟩
    · rw [adds_many (by simp)]
      rw [List.length_append, frm_len (by omega), if_pos (by omega), frt_len]
      simp only [List.length_nil]
      omega
  · obtain ⟨y, E4, m4, f4, j4, h4⟩ := writesAll2_ok (E := E) (b := b) (rk := rk) (c := p) (but := i) true hM hP hb hU hs hp (fun l hl => hbr.1 l hl) hA
    have hf4 : fz mS E E4 := fz_mono f4 (by simp [mS])
    have pre : ∀ kz (Q : Option zV → zH → Prop), (y ≠ 0 → Z zm_X12_turnWrites kz Q 35 [(0, zR 50), (3, zI (n : Int)), (4, zI j), (5, zI (180 + 30 * j + v1.length)), (6, zI r0), (7, zI 0)] [] (d, G, E4)) → (¬ y ≠ 0 → Q (some (zI 0)) (d, G, E4)) → Z zm_X12_turnWrites kz Q 0 [(0, zR 50), (1, zI (p : Int)), (2, zI i), (3, zI (n : Int)), (4, zI j), (5, zI (180 + 30 * j + v1.length)), (6, zI r0)] [] (d, G, E) := fun kz Q k1 k2 => by
      refine X12_turnWrites_0 hM ?_
      rw [e61p, e61n]
      exact ⟨⟨by omega, by omega⟩, zin_of (by omega) (by omega), ⟨by omega, by omega⟩, zin_of (by omega) (by omega), fun z => absurd z c6, fun _ => ⟨y, E4, m4, k1, k2⟩⟩
    have loop : ∀ (m l : Nat) (F : Nat → Int → Int) (acc : List zLt), l + m = (R n).length → fz [50, 72, 73, 74, 99, 101, 102] E F → m50 E F → rowW F acc →
        ∃ (x : Int) (E' : Nat → Int → Int), zgo zm_X12_turnWrites 35 [(0, zR 50), (3, zI (n : Int)), (4, zI j), (5, zI (180 + 30 * j + v1.length)), (6, zI r0), (7, zI (l : Int))] [] (d, G, F) (some (zI x)) (d, G, E') ∧ fz mS E E' ∧ m50 E E' ∧ (x = 0 ∨ x = 1) ∧ mkM E' (some (adds acc (frt (R n) (fun w => sb (th b) (w.map shf)) j (sb (th b) v1 ++ (sb (th b) rw ++ sb (th b) v3)) m l))) x := by
      intro m
      induction m with
      | zero =>
        intro l F acc hl hf hj hA
        have f61 : F 61 n = (R n).length := by rw [hf 61 (by simp)]; exact e61n
        exact ⟨1, F, fun kz Q hQ => X12_turnWrites_35 hM ⟨⟨by omega, by omega⟩, fun _ => hQ, fun z => absurd (by omega) z⟩, fz_mono hf (by simp [mS]), hj, Or.inr rfl, Or.inr (Or.inr ⟨acc, rfl, rfl, hA⟩)⟩
      | succ m ih =>
        intro l F acc hl hf hjj hA
        have f61 : F 61 n = (R n).length := by rw [hf 61 (by simp)]; exact e61n
        have hlR : l < (R n).length := by omega
        have el : ((l + 1 : Nat) : Int) = (l : Int) + 1 := by omega
        obtain ⟨r1, r2, r3, r4, r5⟩ := (hs.2.2 n hn).1.2.2 l hlR
        let F1 := zuE F 50 52 0
        have n1 : ∀ x : Nat, x ≠ 50 → F1 x = F x := fun x hx => zuE_nf hx
        have o1 : outO F1 [] := ⟨zuE_same, fun k hk => absurd hk (by simp)⟩
        have e1x : ∀ x : Nat, x = 53 ∨ x = 97 ∨ x = 98 → F1 x = E x := fun x hx => by rw [n1 x (by omega)]; exact hf x (by simp; omega)
        -- the word, however it is written
        have fin : ∀ (X : List Int) (F2 : Nat → Int → Int), fz wS F1 F2 → w50 F1 F2 → outO F2 X → (∀ kz (Q : Option zV → zH → Prop) (x : Int) (F3 : Nat → Int → Int), zM zm_X12_comes [zR 50, zI (lit (R n) l).1] (d, G, F2) (some (zI x)) (d, G, F3) → (x ≠ 0 → Z zm_X12_turnWrites kz Q 35 [(0, zR 50), (3, zI (n : Int)), (4, zI j), (5, zI (180 + 30 * j + v1.length)), (6, zI r0), (7, zI ((l : Int) + 1))] [] (d, G, F3)) → (¬ x ≠ 0 → Q (some (zI 0)) (d, G, F3)) → Z zm_X12_turnWrites kz Q 35 [(0, zR 50), (3, zI (n : Int)), (4, zI j), (5, zI (180 + 30 * j + v1.length)), (6, zI r0), (7, zI (l : Int))] [] (d, G, F)) →
            ∃ (x : Int) (E' : Nat → Int → Int), zgo zm_X12_turnWrites 35 [(0, zR 50), (3, zI (n : Int)), (4, zI j), (5, zI (180 + 30 * j + v1.length)), (6, zI r0), (7, zI (l : Int))] [] (d, G, F) (some (zI x)) (d, G, E') ∧ fz mS E E' ∧ m50 E E' ∧ (x = 0 ∨ x = 1) ∧ mkM E' (some (adds acc (((lit (R n) l).1, X) :: frt (R n) (fun w => sb (th b) (w.map shf)) j (sb (th b) v1 ++ (sb (th b) rw ++ sb (th b) v3)) m (l + 1)))) x := by
          intro X F2 g1 g2 g3 pz
          have hA2 : rowW F2 acc := rowW_fz (E := F1) (rowW_fz hA (fz_put (S := [50]) fz_rfl (by simp)) (by simp) (by simp) (by simp) (zuE_ix (by decide))) g1 (by simp [wS]) (by simp [wS]) (by simp [wS]) (g2 24 (by decide))
          obtain ⟨x, F3, m3, h1, h2, h3⟩ := comes_ok (E := F2) hM g3 hA2 r3
          have hf3 : fz [50, 72, 73, 74, 99, 101, 102] E F3 := fz_trans (fz_trans (fz_put hf (by simp)) (fz_mono g1 (by simp [wS]))) (fz_mono h1 (by simp))
          have hj3 : m50 E F3 := fun j j1 j2 => (h2 j j1).trans ((g2 j j2).trans ((zuE_ix j2).trans (hjj j j1 j2)))
          simp only [adds]
          rcases h3 with ⟨x1, hx1, hx2⟩ | ⟨x0, hx1, hx2⟩
          · obtain ⟨x', E', z, z1, z2, z3, z4⟩ := ih (l + 1) F3 (acc ++ [((lit (R n) l).1, X)]) (by omega) hf3 hj3 hx2
            rw [el] at z
            refine ⟨x', E', fun kz Q hQ => pz kz Q x F3 m3 (fun _ => z kz Q hQ) (fun y => absurd (by omega) y), z1, z2, z3, ?_⟩
            rw [if_pos hx1]; exact z4
          · refine ⟨0, F3, fun kz Q hQ => pz kz Q x F3 m3 (fun y => absurd x0 y) (fun _ => hQ), fz_mono hf3 (by simp [mS]), hj3, Or.inl rfl, Or.inr (Or.inl ⟨?_, rfl⟩)⟩
            rw [if_neg hx1]
        simp only [frt]
        by_cases cj : (l : Int) = j
        · rw [if_pos cj]
          have tj : j.toNat = l := by omega
          have hwl : (lit (R n) l).2.map shf = v1 ++ (v2 ++ v3) := by rw [← tj]; exact hw
          have ob := hbr.2 l hlR
          rw [hwl] at ob
          obtain ⟨F2, m2, g1, g2, g3⟩ := writeTurned_ok (E := F1) (b := b) (rk := rk) (i0 := 180 + 30 * (l : Int)) (r0 := r0) (v1 := v1) (v2 := v2) (v3 := v3) (rw := rw) hM (by rw [e1x 53 (by omega)]; exact hP) (by rw [e1x 53 (by omega)]; exact hb) (by rw [e1x 97 (by omega), e1x 98 (by omega)]; exact hU) o1 (onM_97 ob (e1x 97 (by omega))) (by rw [e1x 53 (by omega)]; exact ht) (onM_97 hr (e1x 97 (by omega))) (by rw [e1x 53 (by omega)]; exact tr)
          refine fin _ F2 g1 g2 g3 (fun kz Q x F3 m3 k1 k2 => ?_)
          have f60 : F2 60 (6 * (n : Int) + l) = (lit (R n) l).1 := by rw [g1 60 (by simp [wS]), n1 60 (by decide), hf 60 (by simp)]; exact r2
          have f59 : F1 59 (6 * (n : Int) + l) = ((v1 ++ (v2 ++ v3)).length : Int) := by rw [n1 59 (by decide), hf 59 (by simp), ← hwl, List.length_map]; exact r1
          refine X12_turnWrites_35 hM ⟨⟨by omega, by omega⟩, fun y => absurd y (by omega), fun _ H1 e1 => ⟨fun y => absurd cj y, fun _ => ⟨zin_of (by omega) (by omega), zin_of (by omega) (by omega), zin_of (by omega) (by omega), zin_of (by omega) (by omega), ⟨by omega, by omega⟩, ?_⟩⟩⟩
          have eH : H1 = F1 := e1
          rw [eH, f59]
          rw [← cj]
          refine ⟨F2, m2, zin_of (by omega) (by omega), zin_of (by omega) (by omega), ⟨by omega, by omega⟩, ?_⟩
          rw [f60]
          refine ⟨x, F3, m3, fun y => ⟨zin_of (by omega) (by omega), ?_⟩, k2⟩
          have := k1 y
          rw [← cj] at this
          exact this
        · rw [if_neg cj]
          obtain ⟨F2, m2, g1, g2, g3⟩ := writeM_ok (E := F1) (b := b) (rk := rk) (i := 180 + 30 * (l : Int)) (u := (lit (R n) l).2.map shf) hM (by rw [e1x 53 (by omega)]; exact hP) (by rw [e1x 53 (by omega)]; exact hb) (by rw [e1x 97 (by omega), e1x 98 (by omega)]; exact hU) (by rw [e1x 53 (by omega)]; exact (brd_tw (n := n) hs hn hlR).2) (onM_97 (hbr.2 l hlR) (e1x 97 (by omega))) o1
          rw [List.nil_append] at g3
          refine fin _ F2 (fz_mono g1 (by simp [wS])) g2 g3 (fun kz Q x F3 m3 k1 k2 => ?_)
          have f60 : F2 60 (6 * (n : Int) + l) = (lit (R n) l).1 := by rw [g1 60 (by simp), n1 60 (by decide), hf 60 (by simp)]; exact r2
          refine X12_turnWrites_35 hM ⟨⟨by omega, by omega⟩, fun y => absurd y (by omega), fun _ H1 e1 => ⟨fun _ => ⟨zin_of (by omega) (by omega), zin_of (by omega) (by omega), ?_⟩, fun y => absurd cj y⟩⟩
          rw [e1]
          refine ⟨F2, m2, zin_of (by omega) (by omega), zin_of (by omega) (by omega), ⟨by omega, by omega⟩, ?_⟩
          rw [f60]
          exact ⟨x, F3, m3, fun y => ⟨zin_of (by omega) (by omega), k1 y⟩, k2⟩
    rcases h4 with ⟨y1, A1, hA1, hr1⟩ | ⟨y0, hA1⟩
    · have e : adds [] (frm (R p) i (sb (th b)) (R p).length 0) = some A1 := hA1
      obtain ⟨x, E', z, z1, z2, z3, z4⟩ := loop (R n).length 0 E4 A1 (by omega) f4 j4 hr1
      refine ⟨x, E', zM_go rfl (Nat.le_of_ble_eq_true rfl) (fun kz Q hQ => pre kz Q (fun _ => z kz Q hQ) (fun q => absurd (by omega) q)), z1, z2, z3, ?_⟩
      rw [adds_app, e]; exact z4
    · have e : adds [] (frm (R p) i (sb (th b)) (R p).length 0) = none := hA1
      refine ⟨0, E4, zM_e rfl (Nat.le_of_ble_eq_true rfl) (fun kz Q hQ => pre kz Q (fun q => absurd y0 q) (fun _ => hQ)), hf4, j4, Or.inl rfl, Or.inr (Or.inl ⟨?_, rfl⟩)⟩
      rw [adds_app, e]; rfl
end RT
