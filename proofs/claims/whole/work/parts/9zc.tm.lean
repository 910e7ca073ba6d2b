/-! ===== judge: the reference's side; both ===== -/
def qS : List Nat := [50, 72, 73, 74, 76, 77, 78, 80, 81, 85, 97, 98, 99, 100, 101, 102, 104]
def q50 (E F : Nat → Int → Int) : Prop := ∀ j : Int, j ≠ 24 → j ≠ 28 → j ≠ 35 → j ≠ 52 → F 50 j = E 50 j
theorem q50_t {E F H : Nat → Int → Int} (h : q50 E F) (h' : q50 F H) : q50 E H := fun j a b c e => (h' j a b c e).trans (h j a b c e)
section TM
variable {d : List Nat} {G : Nat → Int → Option Nat} {E : Nat → Int → Int}
theorem inC {v : Int} {c : Nat} (hM : zK zMt d G) : (zM zm_X12_in [zI v, zI 0, zI ((c : Int) - 1)] (d, G, E) (some (zI 1)) (d, G, E) ∧ nme (c : Int) v) ∨ (zM zm_X12_in [zI v, zI 0, zI ((c : Int) - 1)] (d, G, E) (some (zI 0)) (d, G, E) ∧ ¬ nme (c : Int) v) := by
  by_cases h : 0 ≤ v ∧ v ≤ (c : Int) - 1
  · exact Or.inl ⟨inY hM h, by unfold nme; omega⟩
  · exact Or.inr ⟨inN hM h, by unfold nme; omega⟩
theorem namesEarlier_ok {c : Nat} {P W : Int → Int} {R : Nat → List zLt} {nm : List Int} (hM : zK zMt d G) (hc : c < 150) (hn : ∀ i : Nat, i < 7 → E 69 (7 * (c : Int) + i) = nm.getD i 0) (hk : 1 ≤ nm.getD 0 0 ∧ nm.getD 0 0 ≤ 4) : ∃ x : Int, zM zm_X12_namesEarlier [zR 50, zI (c : Int)] (d, G, E) (some (zI x)) (d, G, E) ∧ ((x = 1 ∧ nme (c : Int) (nm.getD 1 0) ∧ (nm.getD 0 0 = 1 → nme (c : Int) (nm.getD 3 0)) ∧ (nm.getD 0 0 = 4 → nme (c : Int) (nm.getD 4 0))) ∨ (x = 0 ∧ stR P W R (c : Int) nm none)) := by
  have n0 : E 69 (7 * (c : Int)) = nm.getD 0 0 := by
    have := hn 0 (by decide)
    rw [show 7 * (c : Int) + ((0 : Nat) : Int) = 7 * (c : Int) by omega] at this
    exact this
  have n1 : E 69 (7 * (c : Int) + 1) = nm.getD 1 0 := hn 1 (by decide)
  have n3 : E 69 (7 * (c : Int) + 3) = nm.getD 3 0 := hn 3 (by decide)
  have n4 : E 69 (7 * (c : Int) + 4) = nm.getD 4 0 := hn 4 (by decide)
  have cs : nm.getD 0 0 = 1 ∨ nm.getD 0 0 = 2 ∨ nm.getD 0 0 = 3 ∨ nm.getD 0 0 = 4 := by omega
  rcases cs with k | k | k | k
  · rcases inC (E := E) (v := nm.getD 1 0) (c := c) hM with ⟨m1, h1⟩ | ⟨m1, h1⟩
    · rcases inC (E := E) (v := nm.getD 3 0) (c := c) hM with ⟨m3, h3⟩ | ⟨m3, h3⟩
      · refine ⟨1, zM_e rfl (Nat.le_of_ble_eq_true rfl) (fun kz Q hQ => X12_namesEarlier_0 hM ⟨zin_of (by omega) (by omega), ⟨by omega, by omega⟩, fun _ => ⟨zin_of (by omega) (by omega), ⟨by omega, by omega⟩, zin_of (by omega) (by omega), 1, by rw [n1]; exact m1, fun y => absurd y (by decide), fun _ => ⟨zin_of (by omega) (by omega), ⟨by omega, by omega⟩, zin_of (by omega) (by omega), 1, by rw [n3]; exact m3, fun y => absurd y (by decide), fun _ => hQ⟩⟩, fun y => absurd y (by omega), fun y => absurd y (by omega), fun y => absurd y (by omega), fun y => absurd y (by omega)⟩), Or.inl ⟨rfl, h1, fun _ => h3, fun q => by omega⟩⟩
      · refine ⟨0, zM_e rfl (Nat.le_of_ble_eq_true rfl) (fun kz Q hQ => X12_namesEarlier_0 hM ⟨zin_of (by omega) (by omega), ⟨by omega, by omega⟩, fun _ => ⟨zin_of (by omega) (by omega), ⟨by omega, by omega⟩, zin_of (by omega) (by omega), 1, by rw [n1]; exact m1, fun y => absurd y (by decide), fun _ => ⟨zin_of (by omega) (by omega), ⟨by omega, by omega⟩, zin_of (by omega) (by omega), 0, by rw [n3]; exact m3, fun _ => hQ, fun y => absurd rfl y⟩⟩, fun y => absurd y (by omega), fun y => absurd y (by omega), fun y => absurd y (by omega), fun y => absurd y (by omega)⟩), Or.inr ⟨rfl, Or.inl ⟨k, Or.inl ⟨fun q => h3 q.2, rfl⟩⟩⟩⟩
    · refine ⟨0, zM_e rfl (Nat.le_of_ble_eq_true rfl) (fun kz Q hQ => X12_namesEarlier_0 hM ⟨zin_of (by omega) (by omega), ⟨by omega, by omega⟩, fun _ => ⟨zin_of (by omega) (by omega), ⟨by omega, by omega⟩, zin_of (by omega) (by omega), 0, by rw [n1]; exact m1, fun _ => hQ, fun y => absurd rfl y⟩, fun y => absurd y (by omega), fun y => absurd y (by omega), fun y => absurd y (by omega), fun y => absurd y (by omega)⟩), Or.inr ⟨rfl, Or.inl ⟨k, Or.inl ⟨fun q => h1 q.1, rfl⟩⟩⟩⟩
  · rcases inC (E := E) (v := nm.getD 1 0) (c := c) hM with ⟨m1, h1⟩ | ⟨m1, h1⟩
    · refine ⟨1, zM_e rfl (Nat.le_of_ble_eq_true rfl) (fun kz Q hQ => X12_namesEarlier_0 hM ⟨zin_of (by omega) (by omega), ⟨by omega, by omega⟩, fun y => absurd y (by omega), fun _ => ⟨zin_of (by omega) (by omega), ⟨by omega, by omega⟩, zin_of (by omega) (by omega), 1, by rw [n1]; exact m1, Or.inr rfl, hQ⟩, fun y => absurd y (by omega), fun y => absurd y (by omega), fun y => absurd y (by omega)⟩), Or.inl ⟨rfl, h1, fun q => by omega, fun q => by omega⟩⟩
    · refine ⟨0, zM_e rfl (Nat.le_of_ble_eq_true rfl) (fun kz Q hQ => X12_namesEarlier_0 hM ⟨zin_of (by omega) (by omega), ⟨by omega, by omega⟩, fun y => absurd y (by omega), fun _ => ⟨zin_of (by omega) (by omega), ⟨by omega, by omega⟩, zin_of (by omega) (by omega), 0, by rw [n1]; exact m1, Or.inl rfl, hQ⟩, fun y => absurd y (by omega), fun y => absurd y (by omega), fun y => absurd y (by omega)⟩), Or.inr ⟨rfl, Or.inr (Or.inl ⟨k, Or.inl ⟨h1, rfl⟩⟩)⟩⟩
  · rcases inC (E := E) (v := nm.getD 1 0) (c := c) hM with ⟨m1, h1⟩ | ⟨m1, h1⟩
    · refine ⟨1, zM_e rfl (Nat.le_of_ble_eq_true rfl) (fun kz Q hQ => X12_namesEarlier_0 hM ⟨zin_of (by omega) (by omega), ⟨by omega, by omega⟩, fun y => absurd y (by omega), fun y => absurd y (by omega), fun _ => ⟨zin_of (by omega) (by omega), ⟨by omega, by omega⟩, zin_of (by omega) (by omega), 1, by rw [n1]; exact m1, Or.inr rfl, hQ⟩, fun y => absurd y (by omega), fun y => absurd y (by omega)⟩), Or.inl ⟨rfl, h1, fun q => by omega, fun q => by omega⟩⟩
    · refine ⟨0, zM_e rfl (Nat.le_of_ble_eq_true rfl) (fun kz Q hQ => X12_namesEarlier_0 hM ⟨zin_of (by omega) (by omega), ⟨by omega, by omega⟩, fun y => absurd y (by omega), fun y => absurd y (by omega), fun _ => ⟨zin_of (by omega) (by omega), ⟨by omega, by omega⟩, zin_of (by omega) (by omega), 0, by rw [n1]; exact m1, Or.inl rfl, hQ⟩, fun y => absurd y (by omega), fun y => absurd y (by omega)⟩), Or.inr ⟨rfl, Or.inr (Or.inr (Or.inl ⟨k, Or.inl ⟨h1, rfl⟩⟩))⟩⟩
  · rcases inC (E := E) (v := nm.getD 1 0) (c := c) hM with ⟨m1, h1⟩ | ⟨m1, h1⟩
    · rcases inC (E := E) (v := nm.getD 4 0) (c := c) hM with ⟨m3, h3⟩ | ⟨m3, h3⟩
      · refine ⟨1, zM_e rfl (Nat.le_of_ble_eq_true rfl) (fun kz Q hQ => X12_namesEarlier_0 hM ⟨zin_of (by omega) (by omega), ⟨by omega, by omega⟩, fun y => absurd y (by omega), fun y => absurd y (by omega), fun y => absurd y (by omega), fun _ => ⟨zin_of (by omega) (by omega), ⟨by omega, by omega⟩, zin_of (by omega) (by omega), 1, by rw [n1]; exact m1, fun y => absurd y (by decide), fun _ => ⟨zin_of (by omega) (by omega), ⟨by omega, by omega⟩, zin_of (by omega) (by omega), 1, by rw [n4]; exact m3, fun y => absurd y (by decide), fun _ => hQ⟩⟩, fun y => absurd y (by omega)⟩), Or.inl ⟨rfl, h1, fun q => by omega, fun _ => h3⟩⟩
      · refine ⟨0, zM_e rfl (Nat.le_of_ble_eq_true rfl) (fun kz Q hQ => X12_namesEarlier_0 hM ⟨zin_of (by omega) (by omega), ⟨by omega, by omega⟩, fun y => absurd y (by omega), fun y => absurd y (by omega), fun y => absurd y (by omega), fun _ => ⟨zin_of (by omega) (by omega), ⟨by omega, by omega⟩, zin_of (by omega) (by omega), 1, by rw [n1]; exact m1, fun y => absurd y (by decide), fun _ => ⟨zin_of (by omega) (by omega), ⟨by omega, by omega⟩, zin_of (by omega) (by omega), 0, by rw [n4]; exact m3, fun _ => hQ, fun y => absurd rfl y⟩⟩, fun y => absurd y (by omega)⟩), Or.inr ⟨rfl, Or.inr (Or.inr (Or.inr (Or.inl ⟨k, Or.inl ⟨fun q => h3 q.2, rfl⟩⟩)))⟩⟩
    · refine ⟨0, zM_e rfl (Nat.le_of_ble_eq_true rfl) (fun kz Q hQ => X12_namesEarlier_0 hM ⟨zin_of (by omega) (by omega), ⟨by omega, by omega⟩, fun y => absurd y (by omega), fun y => absurd y (by omega), fun y => absurd y (by omega), fun _ => ⟨zin_of (by omega) (by omega), ⟨by omega, by omega⟩, zin_of (by omega) (by omega), 0, by rw [n1]; exact m1, fun _ => hQ, fun y => absurd rfl y⟩, fun y => absurd y (by omega)⟩), Or.inr ⟨rfl, Or.inr (Or.inr (Or.inr (Or.inl ⟨k, Or.inl ⟨fun q => h1 q.1, rfl⟩⟩)))⟩⟩
theorem list7 {nm : List Int} (h : nm.length = 7) : nm = [nm.getD 0 0, nm.getD 1 0, nm.getD 2 0, nm.getD 3 0, nm.getD 4 0, nm.getD 5 0, nm.getD 6 0] := by
  match nm, h with
  | [a, b, c, d, e, f, g], _ => rfl
theorem makesAgain_ok {s : zS} {c : Nat} (hM : zK zMt d G) (hs : MIv E s) (hP : pok (E 53)) (hW : wok (E 54)) (h2 : E 53 0 = 2) (hc : c < sK s) : ∃ (x : Int) (F : Nat → Int → Int) (r0 : Option (Option (List zLt))), zM zm_X12_makesAgain [zR 50, zI (c : Int)] (d, G, E) (some (zI x)) (d, G, F) ∧ fz qS E F ∧ q50 E F ∧ (((sN s c).getD 0 0 = 0 ∧ r0 = some (some (sS s c))) ∨ ((sN s c).getD 0 0 ≠ 0 ∧ stR (E 53) (E 54) (sR s) (c : Int) (sN s c) r0)) ∧ ((∃ A', r0 = some (some A') ∧ x = 1 ∧ rowW F A' ∧ gok (E 53) (E 54) A') ∨ ((∀ A', r0 ≠ some (some A')) ∧ x = 0)) := by
  obtain ⟨hD, e44, e43, e45, e42, e54, hlo⟩ := hs
  have sM := MI_st hD
  have hK := hD.2.1
  obtain ⟨_, _, _, _, n7, mE, nk0, nk4, _, _, m64, src⟩ := hD.2.2 c hc
  have n0 : E 69 (7 * (c : Int)) = (sN s c).getD 0 0 := by
    have := mE 0 (by decide)
    rw [show 7 * (c : Int) + ((0 : Nat) : Int) = 7 * (c : Int) by omega] at this
    exact this
  by_cases k0 : (sN s c).getD 0 0 = 0
  · obtain ⟨s1, s2, s3⟩ := src k0
    rw [if_pos k0] at m64
    let F0 := zuE E 50 24 ((sS s c).length : Int)
    have f0 : fz [50] E F0 := fz_put fz_rfl (by simp)
    obtain ⟨F, z, zf, zr⟩ := layBack_ok (E := F0) (d := d) (G := G) (c := c) (B := sS s c) hM (by omega) zuE_same (rowF_fz s2 f0 (by simp) (by simp) (by simp)) (by rw [f0 64 (by simp)]; exact m64)
    refine ⟨1, F, _, zM_go rfl (Nat.le_of_ble_eq_true rfl) (fun kz Q hQ => X12_makesAgain_0 hM ⟨zin_of (by omega) (by omega), ⟨by omega, by omega⟩, fun y => absurd (by rw [n0]; exact k0) y, fun _ => ⟨⟨by omega, by omega⟩, fun H h => ?_⟩⟩), fz_trans (fz_mono f0 (by simp [qS])) (fz_mono zf (by simp [qS])), fun j j1 _ _ _ => ?_, Or.inl ⟨k0, rfl⟩, Or.inl ⟨_, rfl, rfl, zr, s3⟩⟩
    · rw [s1] at h
      have eH : H = F0 := h
      rw [eH]; exact z kz Q hQ
    · rw [zf 50 (by simp)]; exact zuE_ix j1
  · obtain ⟨x, mx, hx⟩ := namesEarlier_ok (E := E) (P := E 53) (W := E 54) (R := sR s) hM (by omega) mE (by omega)
    rcases hx with ⟨x1, h1, h3, h4⟩ | ⟨x0, hst⟩
    · have e1 : E 69 (7 * (c : Int) + 1) = (sN s c).getD 1 0 := mE 1 (by decide)
      have e2 : E 69 (7 * (c : Int) + 2) = (sN s c).getD 2 0 := mE 2 (by decide)
      have e3 : E 69 (7 * (c : Int) + 3) = (sN s c).getD 3 0 := mE 3 (by decide)
      have e4 : E 69 (7 * (c : Int) + 4) = (sN s c).getD 4 0 := mE 4 (by decide)
      have e5 : E 69 (7 * (c : Int) + 5) = (sN s c).getD 5 0 := mE 5 (by decide)
      have e6 : E 69 (7 * (c : Int) + 6) = (sN s c).getD 6 0 := mE 6 (by decide)
      obtain ⟨y, F, r, m1, f1, j1, hr, hy⟩ := makes_ok (E := E) (d := d) (G := G) (K := sK s) (B := (c : Int)) (R := sR s) (v1 := (sN s c).getD 0 0) (v2 := (sN s c).getD 1 0) (v3 := (sN s c).getD 2 0) (v4 := (sN s c).getD 3 0) (v5 := (sN s c).getD 4 0) (v6 := (sN s c).getD 5 0) (v7 := (sN s c).getD 6 0) hM hP hW h2 sM hlo (by omega) (by omega) h1 h3 h4
      rw [← list7 n7] at hr
      have pre : ∀ (kz : Nat × Nat) (Q : Option zV → zH → Prop), (y ≠ 1 → Q (some (zI 0)) (d, G, F)) ∧ (¬ (y ≠ 1) → Q (some (zI 1)) (d, G, F)) → Z zm_X12_makesAgain kz Q 0 (zent 0 [zR 50, zI (c : Int)]) [] (d, G, E) := fun kz Q hz => by
        refine X12_makesAgain_0 hM ⟨zin_of (by omega) (by omega), ⟨by omega, by omega⟩, fun _ => ⟨x, mx, fun q => absurd q (by omega), fun _ => ⟨⟨by omega, by omega⟩, zin_of (by omega) (by omega), ⟨by omega, by omega⟩, zin_of (by omega) (by omega), ⟨by omega, by omega⟩, zin_of (by omega) (by omega), ⟨by omega, by omega⟩, zin_of (by omega) (by omega), ⟨by omega, by omega⟩, zin_of (by omega) (by omega), ⟨by omega, by omega⟩, zin_of (by omega) (by omega), ⟨by omega, by omega⟩, y, F, ?_, hz⟩⟩, fun q => absurd (by rw [n0]; exact k0) q⟩
        rw [n0, e1, e2, e3, e4, e5, e6]; exact m1
      have ff : fz qS E F := fz_mono f1 (by simp [mS, qS])
      have fq : q50 E F := fun j a _ _ b => j1 j a b
      rcases hy with ⟨r0, y0⟩ | ⟨r0, y0⟩ | ⟨A', r0, y0, hA⟩
      · exact ⟨0, F, r, zM_e rfl (Nat.le_of_ble_eq_true rfl) (fun kz Q hQ => pre kz Q ⟨fun _ => hQ, fun q => absurd (by omega) q⟩), ff, fq, Or.inr ⟨k0, hr⟩, Or.inr ⟨fun A' => by rw [r0]; simp, rfl⟩⟩
      · exact ⟨0, F, r, zM_e rfl (Nat.le_of_ble_eq_true rfl) (fun kz Q hQ => pre kz Q ⟨fun _ => hQ, fun q => absurd (by omega) q⟩), ff, fq, Or.inr ⟨k0, hr⟩, Or.inr ⟨fun A' => by rw [r0]; simp, rfl⟩⟩
      · exact ⟨1, F, r, zM_e rfl (Nat.le_of_ble_eq_true rfl) (fun kz Q hQ => pre kz Q ⟨fun q => absurd y0 q, fun _ => hQ⟩), ff, fq, Or.inr ⟨k0, hr⟩, Or.inl ⟨A', r0, rfl, hA, stR_gok (R := sR s) (B := (c : Int)) hP hW h2 (fun b hb => (hD.2.2 b (by omega)).2.1) (by rw [← r0]; exact hr)⟩⟩
    · exact ⟨0, E, none, zM_e rfl (Nat.le_of_ble_eq_true rfl) (fun kz Q hQ => X12_makesAgain_0 hM ⟨zin_of (by omega) (by omega), ⟨by omega, by omega⟩, fun _ => ⟨x, mx, fun _ => hQ, fun q => absurd x0 q⟩, fun q => absurd (by rw [n0]; exact k0) q⟩), fz_rfl, fun _ _ _ _ _ => rfl, Or.inr ⟨k0, hst⟩, Or.inr ⟨fun A' => by simp, rfl⟩⟩
theorem rewritesAgain_go {K c : Nat} {R : Nat → List zLt} {tt : List Int} {n : Nat} (hM : zK zMt d G) (hs : stM E (E 53) (E 54) K R) (hc : c < K) (hP : pok (E 53)) (hW : wok (E 54)) (h2 : E 53 0 = 2) (hn : tt.length = 4 * n) (hn8 : n ≤ 8) (e70 : E 70 c = n) (hE : ∀ i : Nat, i < tt.length → E 71 (32 * (c : Int) + i) = tt.getD i 0) : ∀ (m k : Nat) (F : Nat → Int → Int) (B : List zLt), k + m = n → fz qS E F → q50 E F → rowW F B → rok (E 53) (E 54) B → ∃ (x : Int) (F' : Nat → Int → Int), zgo zm_X12_rewritesAgain 2 [(0, zR 50), (1, zI (c : Int)), (2, zI (k : Int))] [] (d, G, F) (some (zI x)) (d, G, F') ∧ fz qS E F' ∧ q50 E F' ∧ ((x = 0 ∧ JR (E 53) (E 54) R c tt m k B 0) ∨ (x = 1 ∧ ∃ B', rowW F' B' ∧ ∀ y : Int, ((y = 1 ∧ B' = R c) ∨ (y = 0 ∧ B' ≠ R c)) → JR (E 53) (E 54) R c tt m k B y)) := by
  have hK := hs.2.1
  have d73 := (zM_22 hM).2.2
  intro m
  induction m with
  | zero =>
    intro k F B hk hf hq hB rB
    have f70 : F 70 c = n := by rw [hf 70 (by simp [qS])]; exact e70
    exact ⟨1, F, fun kz Q hQ => X12_rewritesAgain_2 hM ⟨⟨by omega, by omega⟩, fun _ => hQ, fun y => absurd (by omega) y⟩, hf, hq, Or.inr ⟨rfl, B, hB, fun y hy => hy⟩⟩
  | succ m ih =>
    intro k F B hk hf hq hB rB
    have f70 : F 70 c = n := by rw [hf 70 (by simp [qS])]; exact e70
    have f6 : F 50 6 = E 50 6 := hq 6 (by decide) (by decide) (by decide) (by decide)
    have sF : stM F (E 53) (E 54) K R := stM_fz hs hf (by simp [qS]) (by simp [qS]) (by simp [qS]) (by simp [qS]) f6
    have a3 : F 53 = E 53 := hf 53 (by simp [qS])
    have a4 : F 54 = E 54 := hf 54 (by simp [qS])
    have B6 := hB.2.1
    have b24 := hB.1
    have hv : ∀ i : Nat, i < 4 → F 71 (32 * (c : Int) + 4 * (k : Int) + (i : Int)) = tt.getD (4 * k + i) 0 := fun i hi => by
      rw [hf 71 (by simp [qS])]
      have := hE (4 * k + i) (by omega)
      rw [← this]
      congr 1
      omega
    have v0 : F 71 (32 * (c : Int) + 4 * (k : Int)) = tt.getD (4 * k) 0 := by
      have := hv 0 (by decide)
      simpa using this
    have v1 : F 71 (32 * (c : Int) + 4 * (k : Int) + 1) = tt.getD (4 * k + 1) 0 := hv 1 (by decide)
    have v2 : F 71 (32 * (c : Int) + 4 * (k : Int) + 2) = tt.getD (4 * k + 2) 0 := hv 2 (by decide)
    have v3 : F 71 (32 * (c : Int) + 4 * (k : Int) + 3) = tt.getD (4 * k + 3) 0 := hv 3 (by decide)
    generalize er : tt.getD (4 * k) 0 = r at *
    generalize es : tt.getD (4 * k + 1) 0 = sd at *
    generalize ej : tt.getD (4 * k + 2) 0 = j at *
    generalize ep : tt.getD (4 * k + 3) 0 = pl at *
    -- no rewriting
    have no : (∀ (rn sn jn pn : Nat) (z : List Int), ¬ agQ (E 53) (E 54) R c B r sd j pl rn sn jn pn z) → ∀ F1 : Nat → Int → Int, fz qS E F1 → q50 E F1 → (∀ (kz : Nat × Nat) (Q : Option zV → zH → Prop), Q (some (zI 0)) (d, G, F1) → Z zm_X12_rewritesAgain kz Q 2 [(0, zR 50), (1, zI (c : Int)), (2, zI (k : Int))] [] (d, G, F)) → ∃ (x : Int) (F' : Nat → Int → Int), zgo zm_X12_rewritesAgain 2 [(0, zR 50), (1, zI (c : Int)), (2, zI (k : Int))] [] (d, G, F) (some (zI x)) (d, G, F') ∧ fz qS E F' ∧ q50 E F' ∧ ((x = 0 ∧ JR (E 53) (E 54) R c tt (m + 1) k B 0) ∨ (x = 1 ∧ ∃ B', rowW F' B' ∧ ∀ y : Int, ((y = 1 ∧ B' = R c) ∨ (y = 0 ∧ B' ≠ R c)) → JR (E 53) (E 54) R c tt (m + 1) k B y)) := fun hno F1 h1 h3 hz => ⟨0, F1, hz, h1, h3, Or.inl ⟨rfl, none, by rw [er, es, ej, ep]; exact Or.inr ⟨hno, rfl⟩, Or.inl ⟨rfl, rfl⟩⟩⟩
    have pre : ∀ (kz : Nat × Nat) (Q : Option zV → zH → Prop), (∃ x_14, zM zm_X12_in [zI r, zI 0, zI ((c : Int) - 1)] (d, G, F) (some (zI x_14)) (d, G, F) ∧ (x_14 = 0 → Q (some (zI 0)) (d, G, F)) ∧ (¬ (x_14 = 0) → ∃ x_18, zM zm_X12_isEquation [zR 50, zI r] (d, G, F) (some (zI x_18)) (d, G, F) ∧ (x_18 = 0 → Q (some (zI 0)) (d, G, F)) ∧ (¬ (x_18 = 0) → ∃ x_22, zM zm_X12_in [zI sd, zI 0, zI 1] (d, G, F) (some (zI x_22)) (d, G, F) ∧ (x_22 = 0 → Q (some (zI 0)) (d, G, F)) ∧ (¬ (x_22 = 0) → ∃ x_27, zM zm_X12_in [zI j, zI 0, zI ((B.length : Int) - 1)] (d, G, F) (some (zI x_27)) (d, G, F) ∧ (x_27 = 0 → Q (some (zI 0)) (d, G, F)) ∧ (¬ (x_27 = 0) → ∃ x_31, zM zm_X12_in [zI j, zI 0, zI 5] (d, G, F) (some (zI x_31)) (d, G, F) ∧ ¬ x_31 = 0 ∧ Z zm_X12_rewritesAgain kz Q 128 [(0, zR 50), (1, zI (c : Int)), (2, zI (k : Int)), (4, zI r), (5, zI sd), (6, zI j), (7, zI pl)] [zI j, zR 73, zI 1, zI pl] (d, G, F)))))) → Z zm_X12_rewritesAgain kz Q 2 [(0, zR 50), (1, zI (c : Int)), (2, zI (k : Int))] [] (d, G, F) := fun kz Q hz => by
      refine X12_rewritesAgain_2 hM ⟨⟨by omega, by omega⟩, fun y => absurd y (by omega), fun _ => ⟨zin_of (by omega) (by omega), zin_of (by omega) (by omega), zin_of (by omega) (by omega), ⟨by omega, by omega⟩, zin_of (by omega) (by omega), ⟨by omega, by omega⟩, zin_of (by omega) (by omega), ⟨by omega, by omega⟩, zin_of (by omega) (by omega), ⟨by omega, by omega⟩, zin_of (by omega) (by omega), ?_⟩⟩
      rw [v0, v1, v2, v3, b24]
      obtain ⟨x1, m1, g1, g2⟩ := hz
      refine ⟨x1, m1, fun q => X12_rewritesAgain_141 hM (g1 q), fun q => ?_⟩
      obtain ⟨x2, m2, g3, g4⟩ := g2 q
      refine ⟨x2, m2, fun q => X12_rewritesAgain_141 hM (g3 q), fun q => ?_⟩
      obtain ⟨x3, m3, g5, g6⟩ := g4 q
      refine ⟨x3, m3, fun q => X12_rewritesAgain_141 hM (g5 q), fun q => ⟨zin_of (by omega) (by omega), ?_⟩⟩
      obtain ⟨x4, m4, g7, g8⟩ := g6 q
      refine ⟨x4, m4, fun q => X12_rewritesAgain_141 hM (g7 q), fun q => ?_⟩
      obtain ⟨x5, m5, g9, g10⟩ := g8 q
      exact ⟨x5, m5, fun q => absurd q g9, fun _ => g10⟩
    by_cases c1 : 0 ≤ r ∧ r ≤ (c : Int) - 1
    case neg => exact no (fun rn sn jn pn z q => by have := q.1; omega) F hf hq (fun kz Q hQ => pre kz Q ⟨0, inN hM c1, fun _ => hQ, fun y => absurd rfl y⟩)
    obtain ⟨rn, rfl⟩ : ∃ n : Nat, r = n := ⟨r.toNat, by omega⟩
    have rK : rn < K := by omega
    obtain ⟨x2, m2, hx2⟩ := isEquation_ok (E := F) hM sF rK
    rcases hx2 with ⟨x21, rl⟩ | ⟨x20, rl⟩
    case inr =>
      exact no (fun rn' sn jn pn z q => by
        have e : rn' = rn := by have := q.1.1; omega
        have := q.2.1
        rw [e] at this
        exact rl this) F hf hq (fun kz Q hQ => pre kz Q ⟨1, inY hM c1, fun y => absurd y (by decide), fun _ => ⟨x2, m2, fun _ => hQ, fun y => absurd x20 y⟩⟩)
    by_cases c3 : 0 ≤ sd ∧ sd ≤ 1
    case neg => exact no (fun rn' sn jn pn z q => by have := q.2.2.1; omega) F hf hq (fun kz Q hQ => pre kz Q ⟨1, inY hM c1, fun y => absurd y (by decide), fun _ => ⟨x2, m2, fun y => absurd y (by omega), fun _ => ⟨0, inN hM c3, fun _ => hQ, fun y => absurd rfl y⟩⟩⟩)
    by_cases c4 : 0 ≤ j ∧ j ≤ (B.length : Int) - 1
    case neg => exact no (fun rn' sn jn pn z q => by have := q.2.2.2.1; omega) F hf hq (fun kz Q hQ => pre kz Q ⟨1, inY hM c1, fun y => absurd y (by decide), fun _ => ⟨x2, m2, fun y => absurd y (by omega), fun _ => ⟨1, inY hM c3, fun y => absurd y (by decide), fun _ => ⟨0, inN hM c4, fun _ => hQ, fun y => absurd rfl y⟩⟩⟩⟩)
    obtain ⟨sn, rfl⟩ : ∃ n : Nat, sd = n := ⟨sd.toNat, by omega⟩
    obtain ⟨jn, rfl⟩ : ∃ n : Nat, j = n := ⟨j.toNat, by omega⟩
    have hj : jn < B.length := by omega
    obtain ⟨w1, w2, w3, w4, w5⟩ := hB.2.2 jn hj
    have to128 : ∀ (kz : Nat × Nat) (Q : Option zV → zH → Prop), Z zm_X12_rewritesAgain kz Q 128 [(0, zR 50), (1, zI (c : Int)), (2, zI (k : Int)), (4, zI (rn : Int)), (5, zI (sn : Int)), (6, zI (jn : Int)), (7, zI pl)] [zI (jn : Int), zR 73, zI 1, zI pl] (d, G, F) → Z zm_X12_rewritesAgain kz Q 2 [(0, zR 50), (1, zI (c : Int)), (2, zI (k : Int))] [] (d, G, F) := fun kz Q hz => pre kz Q ⟨1, inY hM c1, fun y => absurd y (by decide), fun _ => ⟨x2, m2, fun y => absurd y (by omega), fun _ => ⟨1, inY hM c3, fun y => absurd y (by decide), fun _ => ⟨1, inY hM c4, fun y => absurd y (by decide), fun _ => ⟨1, inY hM ⟨by omega, by omega⟩, by decide, hz⟩⟩⟩⟩⟩
    have jq : ∀ (rn' sn' jn' pn' : Nat) (z : List Int), agQ (E 53) (E 54) R c B (rn : Int) (sn : Int) (jn : Int) pl rn' sn' jn' pn' z → rn' = rn ∧ jn' = jn ∧ sn' = sn ∧ pl = pn' := fun rn' sn' jn' pn' z q => by
      obtain ⟨⟨a1, _⟩, _, ⟨a2, _⟩, ⟨a3, _⟩, ⟨a4, _, _⟩, _⟩ := q
      exact ⟨by omega, by omega, by omega, a4⟩
    by_cases c5 : 1 ≤ pl ∧ pl ≤ ((lit B jn).2.length : Int) - 1
    case neg =>
      refine no (fun rn' sn' jn' pn' z q => ?_) F hf hq (fun kz Q hQ => to128 kz Q (X12_rewritesAgain_128 hM ⟨73, 6, rfl, rfl, d73, ⟨by omega, by omega⟩, by rw [w1]; exact zin_of (by omega) (by omega), 0, by rw [w1]; exact inN hM c5, fun _ => X12_rewritesAgain_141 hM hQ, fun y => absurd rfl y⟩))
      obtain ⟨_, e2, _, _⟩ := jq _ _ _ _ _ q
      have := q.2.2.2.2.1
      rw [e2] at this
      omega
    obtain ⟨pn, rfl⟩ : ∃ n : Nat, pl = n := ⟨pl.toNat, by omega⟩
    have hp : pn < (lit B jn).2.length := by omega
    have vp : F 72 (30 * (jn : Int) + (pn : Int)) = fw (lit B jn).2 pn := by
      have := w5 pn hp
      rw [show (0 : Int) + (pn : Int) = (pn : Int) by omega] at this
      exact this
    have toR : ∀ (kz : Nat × Nat) (Q : Option zV → zH → Prop), (fw (lit B jn).2 pn < 0 → Q (some (zI 0)) (d, G, F)) ∧ (¬ (fw (lit B jn).2 pn < 0) → ∃ x_17 E_18, zM zm_X12_rewrites [zR 50, zI (rn : Int), zI (sn : Int), zI (jn : Int), zI (pn : Int)] (d, G, F) (some (zI x_17)) (d, G, E_18) ∧ (x_17 = 0 → Q (some (zI 0)) (d, G, E_18)) ∧ (¬ (x_17 = 0) → ∃ x_22 E_23, zM zm_X12_lays [zR 50, zI (jn : Int), zI (pn : Int)] (d, G, E_18) (some (zI x_22)) (d, G, E_23) ∧ (x_22 ≠ 0 → ∃ E_27, zM zm_X12_clean [zR 50] (d, G, E_23) none (d, G, E_27) ∧ zin ((k : Int) + 1) ∧ Z zm_X12_rewritesAgain kz Q 2 [(0, zR 50), (1, zI (c : Int)), (2, zI (((k : Int) + 1)))] [] (d, G, E_27)) ∧ (¬ (x_22 ≠ 0) → Q (some (zI 0)) (d, G, E_23)))) → Z zm_X12_rewritesAgain kz Q 2 [(0, zR 50), (1, zI (c : Int)), (2, zI (k : Int))] [] (d, G, F) := fun kz Q hz => to128 kz Q (by
      refine X12_rewritesAgain_128 hM ⟨73, 6, rfl, rfl, d73, ⟨by omega, by omega⟩, by rw [w1]; exact zin_of (by omega) (by omega), 1, by rw [w1]; exact inY hM c5, fun y => absurd y (by decide), fun _ => ⟨zin_of (by omega) (by omega), zin_of (by omega) (by omega), ⟨by omega, by omega⟩, ?_⟩⟩
      rw [vp]; exact hz)
    have jq2 : ∀ (rn' sn' jn' pn' : Nat) (z : List Int), agQ (E 53) (E 54) R c B (rn : Int) (sn : Int) (jn : Int) (pn : Int) rn' sn' jn' pn' z → 0 ≤ fw (lit B jn).2 pn ∧ rwz (E 53) (E 54) (sdw (E 53) (R rn) sn) (odw (E 53) (R rn) sn) (tat (E 53) (lit B jn).2 pn) = some z ∧ (lit B jn).2.length - tl (E 53) (fw (lit B jn).2) pn + z.length ≤ 30 := fun rn' sn' jn' pn' z q => by
      obtain ⟨e1, e2, e3, e4⟩ := jq _ _ _ _ _ q
      have e5 : pn' = pn := by omega
      subst e1; subst e2; subst e3; subst e5
      exact ⟨q.2.2.2.2.2.1, q.2.2.2.2.2.2.1, q.2.2.2.2.2.2.2⟩
    by_cases c7 : 0 ≤ fw (lit B jn).2 pn
    case neg => exact no (fun rn' sn' jn' pn' z q => c7 (jq2 _ _ _ _ _ q).1) F hf hq (fun kz Q hQ => toR kz Q ⟨fun _ => hQ, fun y => absurd (by omega) y⟩)
    have RW := rewritesM_ok (E := F) (d := d) (G := G) (K := K) (c := rn) (s := sn) (j := jn) (p := pn) hM (by rw [a3, a4]; exact sF) rK rl (by omega) (by rw [a3]; exact hP) (by rw [a4]; exact hW) (by rw [a3]; exact h2) hB (by rw [a3, a4]; exact rB) hj hp
    rw [a3, a4] at RW
    obtain ⟨x, F1, m1, f1, j1, hx⟩ := RW
    have ff1 : fz qS E F1 := fz_trans hf (fz_mono f1 (by simp [qS]))
    have fq1 : q50 E F1 := q50_t hq (fun i _ _ i3 _ => j1 i i3)
    rcases hx with ⟨x1, z, hz, ez, vz⟩ | ⟨x0, hz⟩
    case inr => exact no (fun rn' sn' jn' pn' z q => by have := (jq2 _ _ _ _ _ q).2.1; rw [hz] at this; simp at this) F1 ff1 fq1 (fun kz Q hQ => toR kz Q ⟨fun y => absurd y (by omega), fun _ => ⟨x, F1, m1, fun _ => hQ, fun y => absurd x0 y⟩⟩)
    have rr := (sF.2.2 rn rK)
    obtain ⟨ra, rlo, rwt, zl⟩ := rpA_ok2 hP h2 rB rr.2 hj (by omega) hp rl hz
    obtain ⟨mm, _, mt1, mt2, _⟩ := tat_ok hP (v := (lit B jn).2) (p := pn) (rB.1 jn hj).1 hp
    have l30' := (rr.1.2.2 0 (by rw [rl.1]; decide)).2.2.2.1
    have z9 : z.length ≤ 900 := Nat.le_trans zl (mul_le (by rw [mt1]; omega) (odw_le hP h2 rr.2.1 rl l30' sn))
    have b3 : F1 53 = E 53 := ff1 53 (by simp [qS])
    have b4 : F1 54 = E 54 := ff1 54 (by simp [qS])
    have B1 : rowW F1 B := rowW_fz hB f1 (by simp) (by simp) (by simp) (j1 24 (by decide))
    have LA := lays_ok (E := F1) (d := d) (G := G) (B := B) (j := jn) (p := pn) (z := z) hM (by rw [b3]; exact hP) B1 (by rw [b3]; exact rB.1) hj hp ez z9 vz
    rw [b3] at LA
    obtain ⟨y, F2, m2', f2, hy⟩ := LA
    have ff2 : fz qS E F2 := fz_trans ff1 (fz_mono f2 (by simp [qS]))
    have fq2 : q50 E F2 := q50_t fq1 (fun i _ _ _ _ => by rw [f2 50 (by simp)])
    rcases hy with ⟨y1, y30, yr⟩ | ⟨y0, y30, _⟩
    case inr => exact no (fun rn' sn' jn' pn' z' q => by
        obtain ⟨_, q1, q2⟩ := jq2 _ _ _ _ _ q
        rw [hz] at q1
        have e6 : z = z' := by simpa using q1
        rw [← e6] at q2
        exact y30 q2) F2 ff2 fq2 (fun kz Q hQ => toR kz Q ⟨fun y => absurd y (by omega), fun _ => ⟨x, F1, m1, fun q => absurd q (by omega), fun _ => ⟨y, F2, m2', fun q => absurd y0 q, fun _ => hQ⟩⟩⟩)
    have g3 : F2 53 = E 53 := ff2 53 (by simp [qS])
    have g4 : F2 54 = E 54 := ff2 54 (by simp [qS])
    have CC := cleanM_ok (E := F2) (d := d) (G := G) (A := rpA (E 53) B jn pn z) hM (by rw [g3]; exact hP) (by rw [g4]; exact hW) (by rw [g3]; exact h2) yr (by rw [g3]; exact ra)
    rw [g3, g4] at CC
    obtain ⟨F3, m3, f3, j3, r3, _⟩ := CC
    have ff3 : fz qS E F3 := fz_trans ff2 (fz_mono f3 (by simp [qS]))
    have fq3 : q50 E F3 := q50_t fq2 (fun i i1 i2 _ _ => j3 i i1 i2)
    obtain ⟨x', F', zz, zf, zq, zj⟩ := ih (k + 1) F3 (cln (E 53) (E 54) (rpA (E 53) B jn pn z)) (by omega) ff3 fq3 r3 (cln_rok hP h2 ra rwt (cll_le rlo))
    rw [show ((k + 1 : Nat) : Int) = (k : Int) + 1 by omega] at zz
    have ag : AG (E 53) (E 54) R c B (rn : Int) (sn : Int) (jn : Int) (pn : Int) (some (rpA (E 53) B jn pn z)) := Or.inl ⟨rn, sn, jn, pn, z, ⟨⟨rfl, by omega⟩, rl, ⟨rfl, by omega⟩, ⟨rfl, hj⟩, ⟨rfl, by omega, hp⟩, c7, hz, y30⟩, rfl⟩
    have lift : ∀ y : Int, JR (E 53) (E 54) R c tt m (k + 1) (cln (E 53) (E 54) (rpA (E 53) B jn pn z)) y → JR (E 53) (E 54) R c tt (m + 1) k B y := fun y hy => ⟨_, by rw [er, es, ej, ep]; exact ag, Or.inr ⟨_, rfl, hy⟩⟩
    refine ⟨x', F', fun kz Q hQ => toR kz Q ⟨fun y => absurd y (by omega), fun _ => ⟨x, F1, m1, fun q => absurd q (by omega), fun _ => ⟨y, F2, m2', fun _ => ⟨F3, m3, zin_of (by omega) (by omega), zz kz Q hQ⟩, fun q => absurd (by omega) q⟩⟩⟩, zf, zq, ?_⟩
    rcases zj with ⟨u1, u2⟩ | ⟨u1, B', u2, u3⟩
    · exact Or.inl ⟨u1, lift _ u2⟩
    · exact Or.inr ⟨u1, B', u2, fun y hy => lift _ (u3 y hy)⟩
theorem judgeM_ok {s : zS} {c : Nat} (hM : zK zMt d G) (hs : MIv E s) (hP : pok (E 53)) (hW : wok (E 54)) (h2 : E 53 0 = 2) (hc : c < sK s) : ∃ (x : Int) (F : Nat → Int → Int), zM zm_X12_judge [zR 50, zI (c : Int)] (d, G, E) (some (zI x)) (d, G, F) ∧ fz qS E F ∧ q50 E F ∧ JD (E 53) (E 54) s c x := by
  have hD := hs.1
  have sM := MI_st hD
  have hK := hD.2.1
  have ic := isClaim_y (E := E) hM sM hc
  obtain ⟨_, _, _, _, _, _, _, _, ⟨n, tl, n8, en⟩, tM, _, _⟩ := hD.2.2 c hc
  have n4 : (sW s c).length / 4 = n := by omega
  obtain ⟨x, F, r0, m1, f1, q1, hr, hx⟩ := makesAgain_ok (E := E) hM hs hP hW h2 hc
  rcases hx with ⟨A', r1, x1, hA, gA⟩ | ⟨r1, x0⟩
  case inr => exact ⟨0, F, zM_e rfl (Nat.le_of_ble_eq_true rfl) (fun kz Q hQ => X12_judge_0 hM ⟨1, ic, fun _ => ⟨x, F, m1, fun y => absurd x0 y, fun _ => hQ⟩, fun y => absurd (by decide) y⟩), f1, q1, r0, hr, Or.inr ⟨r1, rfl⟩⟩
  have b3 : F 53 = E 53 := f1 53 (by simp [qS])
  have b4 : F 54 = E 54 := f1 54 (by simp [qS])
  have CC := cleanM_ok (E := F) (d := d) (G := G) (A := A') hM (by rw [b3]; exact hP) (by rw [b4]; exact hW) (by rw [b3]; exact h2) hA (by rw [b3]; exact gA.1)
  rw [b3, b4] at CC
  obtain ⟨F2, m2, f2, j2, r2, l2⟩ := CC
  have ff2 : fz qS E F2 := fz_trans f1 (fz_mono f2 (by simp [qS]))
  have fq2 : q50 E F2 := q50_t q1 (fun i i1 i2 _ _ => j2 i i1 i2)
  by_cases cl : 20 < cll (E 53) (E 54) A'
  · exact ⟨0, F2, zM_e rfl (Nat.le_of_ble_eq_true rfl) (fun kz Q hQ => X12_judge_0 hM ⟨1, ic, fun _ => ⟨x, F, m1, fun _ => ⟨F2, m2, fun _ => hQ, fun y => absurd (by rw [l2]; exact cl) y⟩, fun y => absurd (by omega) y⟩, fun y => absurd (by decide) y⟩), ff2, fq2, r0, hr, Or.inl ⟨A', r1, Or.inl ⟨cl, rfl⟩⟩⟩
  obtain ⟨y, F3, z, zf, zq, zj⟩ := rewritesAgain_go (E := E) hM sM hc hP hW h2 tl n8 en tM n 0 F2 (cln (E 53) (E 54) A') (by omega) ff2 fq2 r2 (cln_rok hP h2 gA.1 gA.2 (by omega))
  have m3 : zM zm_X12_rewritesAgain [zR 50, zI (c : Int)] (d, G, F2) (some (zI y)) (d, G, F3) := zM_go rfl (Nat.le_of_ble_eq_true rfl) (fun kz Q hQ => X12_rewritesAgain_0 hM (z kz Q hQ))
  rcases zj with ⟨y0, jr⟩ | ⟨y1, B', rB', jr⟩
  · exact ⟨0, F3, zM_e rfl (Nat.le_of_ble_eq_true rfl) (fun kz Q hQ => X12_judge_0 hM ⟨1, ic, fun _ => ⟨x, F, m1, fun _ => ⟨F2, m2, fun q => absurd (by rw [l2] at q; exact q) cl, fun _ => ⟨y, F3, m3, fun _ => hQ, fun q => absurd y0 q⟩⟩, fun q => absurd (by omega) q⟩, fun q => absurd (by decide) q⟩), zf, zq, r0, hr, Or.inl ⟨A', r1, Or.inr ⟨by omega, by rw [n4]; exact jr⟩⟩⟩
  · have s3 : stM F3 (E 53) (E 54) (sK s) (sR s) := stM_fz sM zf (by simp [qS]) (by simp [qS]) (by simp [qS]) (by simp [qS]) (zq 6 (by decide) (by decide) (by decide) (by decide))
    obtain ⟨w, m4, hw⟩ := isWork_ok (E := F3) hM (by omega) (s3.2.2 c hc).1 rB'
    have w01 : w = 0 ∨ w = 1 := by
      rcases hw with ⟨q, _⟩ | ⟨q, _⟩
      · exact Or.inr q
      · exact Or.inl q
    refine ⟨w, F3, zM_e rfl (Nat.le_of_ble_eq_true rfl) (fun kz Q hQ => X12_judge_0 hM ⟨1, ic, fun _ => ⟨x, F, m1, fun _ => ⟨F2, m2, fun q => absurd (by rw [l2] at q; exact q) cl, fun _ => ⟨y, F3, m3, fun q => absurd q (by omega), fun _ => ⟨w, m4, fun q => ?_, fun q => ?_⟩⟩⟩, fun q => absurd (by omega) q⟩, fun q => absurd (by decide) q⟩), zf, zq, r0, hr, Or.inl ⟨A', r1, Or.inr ⟨by omega, by rw [n4]; exact jr w hw⟩⟩⟩
    · rw [q] at hQ; exact hQ
    · rw [show w = 1 by omega] at hQ; exact hQ
theorem JI_judge {s : zS} {g : Nat} {v : Int} (h : JI d G E s g) : ∃ (r : Int) (E1 E2 : Nat → Int → Int), zM zm_X11_judge [zR 0, zI v] (d, G, E) (some (zI r)) (d, G, E1) ∧ zM zm_X12_judge [zR 50, zI v] (d, G, E1) (some (zI r)) (d, G, E2) ∧ sc E E1 ∧ sc E E2 ∧ JI d G E2 s (g + 1) := by
  have hJ := h
  have up := JI_up h
  obtain ⟨hc, hm, ho, ⟨q52, q53, q54⟩, q0, _, _, _, _, sg⟩ := h
  have hX : zK zXt d G := hc.2.2.2.2.2.2.2.2.1
  have hM : zK zMt d G := hc.2.2.2.2.2.2.2.2.2
  obtain ⟨M, hC⟩ := hc.1
  have sC := CI_st hC
  have sM := MI_st hm.1
  by_cases hv : 0 ≤ v ∧ v < sK s
  case neg => exact ⟨-2, E, E, zM_e rfl (Nat.le_of_ble_eq_true rfl) (fun kz Q hQ => X11_judge_0 hX ⟨none, at_no hX sC hv, fun y => absurd rfl y, fun _ => hQ⟩), zM_e rfl (Nat.le_of_ble_eq_true rfl) (fun kz Q hQ => X12_judge_0 hM ⟨0, isClaim_n hM sM hv, fun y => absurd rfl y, fun _ => hQ⟩), sc_r, sc_r, up⟩
  obtain ⟨c, rfl⟩ : ∃ c : Nat, v = c := ⟨v.toNat, by omega⟩
  have hcK : c < sK s := by omega
  obtain ⟨hP, hW, h2, hub, hn, hs0, hsw⟩ := sg
  obtain ⟨x, E1, m1, f1, I1, z1, j1⟩ := judgeC_ok (E := E) hc hP hW h2 hub hcK
  have k50 : ∀ y : Nat, 50 ≤ y → y < 200 → E1 y = E y := fun y y1 y2 => f1 y (by simp only [jS, List.mem_cons, List.not_mem_nil, or_false]; omega)
  have m0 := MIv_k hm k50
  have a53 : E1 53 = E 3 := (k50 53 (by decide) (by decide)).trans q53
  have a54 : E1 54 = E 4 := (k50 54 (by decide) (by decide)).trans q54
  obtain ⟨x', E2, m2, f2, qq, j2⟩ := judgeM_ok (E := E1) (d := d) (G := G) hM m0 (by rw [a53]; exact hP) (by rw [a54]; exact hW) (by rw [a53]; exact h2) hcK
  rw [a53, a54] at j2
  have e := JD_det j1 j2
  subst e
  exact ⟨x, E1, E2, m1, m2, sc_f f1 (by simp [jS]) (by simp [jS]), sc_t (F := E1) (sc_f f1 (by simp [jS]) (by simp [jS])) (sc_f f2 (by simp [qS]) (by simp [qS])), JI_sc hJ f1 (by simp [jS]) (by rw [f1 5 (by simp [jS])]) I1 z1 f2 (by simp [qS]) (fun j hj => qq j (by omega) (by omega) (by omega) (by omega))⟩
end TM
