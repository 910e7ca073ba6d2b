/-! ===== claims kept; rules; the search for a rewriting ===== -/
def qn (c : Nat) : Nat := 200 + 20 * c
/-- one said EQUAL -/
def ruleP (A : List zLt) : Prop := A.length = 1 ∧ (lit A 0).1 = 0 ∧ fw (lit A 0).2 0 = 0
noncomputable def lft (P : Int → Int) (A : List zLt) : List Int := tat P (lit A 0).2 1
noncomputable def rgt (P : Int → Int) (A : List zLt) : List Int := tat P (lit A 0).2 (1 + tl P (fw (lit A 0).2) 1)
/-- side s of a rule, and the other -/
noncomputable def sdw (P : Int → Int) (A : List zLt) (s : Nat) : List Int := if s = 0 then lft P A else rgt P A
noncomputable def odw (P : Int → Int) (A : List zLt) (s : Nat) : List Int := if s = 0 then rgt P A else lft P A
def srtd (P W : Int → Int) (A : List zLt) : Prop := ruleP A ∧ kg P W (fw (lft P A)) (fw (rgt P A)) 1000 0 0
/-- a row as claims have them -/
def rok (P W : Int → Int) (A : List zLt) : Prop := aok P A ∧ low A ∧ ∀ l : Nat, l < A.length → ∀ v, v ∈ (lit A l).2 → 0 ≤ v → 1 ≤ W v
/-- what the class keeps of a claim's row -/
def clR (E : Nat → Int → Int) (P W : Int → Int) (c : Nat) (A : List zLt) : Prop := rowC E (qn c + 1) A ∧ mkA (E (qn c + 1) 4) A ∧ E (qn c) 5 = c ∧ (E (qn c) 11 = 1 ∧ ruleP A ∨ E (qn c) 11 = 0 ∧ ¬ ruleP A) ∧ (ruleP A → E (qn c) 12 = 1 + tl P (fw (lit A 0).2) 1) ∧ (E (qn c) 13 = 1 ∧ srtd P W A ∨ E (qn c) 13 = 0 ∧ ¬ srtd P W A)
/-- the claims the class keeps -/
def stC (d : List Nat) (G : Nat → Int → Option Nat) (E : Nat → Int → Int) (P W : Int → Int) (K : Nat) (R : Nat → List zLt) : Prop := E 5 4 = K ∧ K ≤ 150 ∧ ∀ c : Nat, c < K → G 6 c = some (qn c) ∧ zCk d G (qn c) ∧ clR E P W c (R c) ∧ rok P W (R c)
theorem rule_parts {P : Int → Int} (hP : pok P) (h2 : P 0 = 2) {A : List zLt} (ha : aok P A) (hr : ruleP A) : ∃ t u : Nat, 1 + t + u = (lit A 0).2.length ∧ 0 < t ∧ 0 < u ∧ tl P (fw (lit A 0).2) 1 = t ∧ (lft P A).length = t ∧ (rgt P A).length = u ∧ tw P (lft P A) ∧ tw P (rgt P A) ∧ lk (fw (lit A 0).2) 1 (fw (lft P A)) 0 t ∧ lk (fw (lit A 0).2) (1 + t) (fw (rgt P A)) 0 u ∧ (∀ x, x ∈ lft P A → x ∈ (lit A 0).2) ∧ ∀ x, x ∈ rgt P A → x ∈ (lit A 0).2 := by
  have hw := ha 0 (by rw [hr.1]; omega)
  obtain ⟨t, u, ht, hu, htu, htl⟩ := wok1_eq hP h2 hw hr.2.2
  have t0 := nd_ge ht
  have u0 := nd_ge hu
  obtain ⟨m, m0, m1, m2, m3, m4, m5, m6⟩ := tat_ok hP (v := (lit A 0).2) (p := 1) hw.1 (by omega)
  have em : m = t := by rw [← m1]; exact htl
  subst em
  obtain ⟨n, n0, n1, n2, n3, n4, n5, n6⟩ := tat_ok hP (v := (lit A 0).2) (p := 1 + m) hw.1 (by omega)
  have e1 : ((1 + m : Nat) : Int) = 1 + m := by omega
  rw [e1] at n1 n3 n6
  have en : n = u := tm_uniq n3 hu
  subst en
  refine ⟨m, n, htu, t0, u0, htl, m4, ?_, m5, ?_, m6, ?_, fun x hx => tat_mem hx, fun x hx => tat_mem hx⟩
  · unfold rgt; rw [htl]; exact n4
  · unfold rgt; rw [htl]; exact n5
  · unfold rgt; rw [htl]; exact n6
/-- the first of these rules that rewrites w -/
noncomputable def fr (P W : Int → Int) (R : Nat → List zLt) (st : Nat → Int) (w : List Int) : List (Nat × Nat) → Option ((Nat × Nat) × List Int)
  | [] => none
  | x :: L => @ite _ (st x.1 ≠ 2 ∧ ruleP (R x.1)) (Classical.propDecidable _) (match rwz P W (sdw P (R x.1) x.2) (odw P (R x.1) x.2) w with | some z => some (x, z) | none => fr P W R st w L) (fr P W R st w L)
section QF0
variable {P W : Int → Int} {R : Nat → List zLt} {st : Nat → Int} {w : List Int}
theorem fr_no {x : Nat × Nat} {L : List (Nat × Nat)} (h : st x.1 ≠ 2 → ruleP (R x.1) → rwz P W (sdw P (R x.1) x.2) (odw P (R x.1) x.2) w = none) : fr P W R st w (x :: L) = fr P W R st w L := by
  simp only [fr]
  split
  · rename_i c
    rw [h c.1 c.2]
  · rfl
theorem fr_yes {x : Nat × Nat} {L : List (Nat × Nat)} {z : List Int} (h1 : st x.1 ≠ 2) (h2 : ruleP (R x.1)) (h : rwz P W (sdw P (R x.1) x.2) (odw P (R x.1) x.2) w = some z) : fr P W R st w (x :: L) = some (x, z) := by
  simp only [fr]
  rw [if_pos ⟨h1, h2⟩, h]
/-- all rules, from c on -/
def al : Nat → Nat → List (Nat × Nat)
  | _, 0 => []
  | c, m + 1 => (c, 0) :: (c, 1) :: al (c + 1) m
/-- those the class looks at -/
noncomputable def kl (P W : Int → Int) (R : Nat → List zLt) (st : Nat → Int) : Nat → Nat → List (Nat × Nat)
  | _, 0 => []
  | c, m + 1 => @ite _ (st c ≠ 2 ∧ ruleP (R c)) (Classical.propDecidable _) ((c, 0) :: @ite _ (srtd P W (R c)) (Classical.propDecidable _) (kl P W R st (c + 1) m) ((c, 1) :: kl P W R st (c + 1) m)) (kl P W R st (c + 1) m)
end QF0
/-- a rule that is sorted doesn't rewrite the other way -/
theorem rwz_back {P W : Int → Int} (hP : pok P) (hW : wok W) {p o w : List Int} (hp : tw P p) (ho : tw P o) (hw : tw P w) (hk : kg P W (fw p) (fw o) 1000 0 0) (plo : ∀ x, x ∈ p → -40 ≤ x) (olo : ∀ x, x ∈ o → -40 ≤ x) (hwp : ∀ x, x ∈ w → 0 ≤ x → 1 ≤ W x) : rwz P W o p w = none := by
  cases hm : mt P o [] w with
  | none => exact rwz_0 hm
  | some b =>
    refine rwz_2 hm (fun q => ?_)
    obtain ⟨_, _, a3, a4⟩ := mt_spec hP o [] w 1 b (ts_1.2 ho) (ts_1.2 hw) hm
    have hT : ∀ L : Int, 0 ≤ L → L < 40 → tw P (TB b L) ∧ 1 ≤ wl1 W (TB b L) ∧ ∀ M : Int, 0 ≤ cn M (TB b L) := fun L l0 l1 => by
      cases hL : lkp b L with
      | none =>
        rw [TB_none hL]
        refine ⟨tm_l1 (by rw [fw_c0]; omega), ?_, fun M => cn_0 _⟩
        simp only [wl1]
        have : wt1 W (-1 - L) = 1 := if_pos (by omega)
        omega
      | some u =>
        rw [TB_some hL]
        rcases a4 _ (lkp_mem hL) with z | ⟨z1, z2, _⟩
        · exact absurd z (by simp)
        · have une : u ≠ [] := fun e => by have := nd_ge z1; dsimp only at this; rw [e] at this; simp at this
          exact ⟨z1, (wl_pos une (fun v hv v0 => hwp v (z2 v hv) v0)).1, fun M => cn_0 _⟩
    have k1 := kg_sb (W := W) hP hT 1000 p o hp ho plo olo hk
    have k2 := q.2
    rw [a3] at k2
    have tp : tw P (sb (TB b) p) := tw_sb hP p.length p (Nat.le_refl _) hp (fun v hv v0 => (hT _ (by omega) (by have := plo v hv; omega)).1)
    have to : tw P (sb (TB b) o) := tw_sb hP o.length o (Nat.le_refl _) ho (fun v hv v0 => (hT _ (by omega) (by have := olo v hv; omega)).1)
    exact kg_asym hP 1000 1000 _ _ _ _ _ _ tp to k1 k2
theorem fr_kl {P W : Int → Int} {R : Nat → List zLt} {st : Nat → Int} {w : List Int} (hP : pok P) (hW : wok W) (h2 : P 0 = 2) (hw : tw P w) (hwp : ∀ x, x ∈ w → 0 ≤ x → 1 ≤ W x) : ∀ (m c : Nat), (∀ k : Nat, c ≤ k → k < c + m → rok P W (R k)) → fr P W R st w (kl P W R st c m) = fr P W R st w (al c m)
  | 0, _, _ => rfl
  | m + 1, c, h => by
    have ih := fr_kl (st := st) hP hW h2 hw hwp m (c + 1) (fun k k1 k2 => h k (by omega) (by omega))
    simp only [kl, al]
    split
    · rename_i q
      by_cases e : ∃ z, rwz P W (sdw P (R c) 0) (odw P (R c) 0) w = some z
      · obtain ⟨z, e⟩ := e
        rw [fr_yes (x := (c, 0)) q.1 q.2 e, fr_yes (x := (c, 0)) q.1 q.2 e]
      · have e' : rwz P W (sdw P (R c) 0) (odw P (R c) 0) w = none := by
          cases hh : rwz P W (sdw P (R c) 0) (odw P (R c) 0) w with
          | none => rfl
          | some z => exact absurd ⟨z, hh⟩ e
        rw [fr_no (x := (c, 0)) (fun _ _ => e'), fr_no (x := (c, 0)) (fun _ _ => e')]
        split
        · rename_i s
          obtain ⟨aA, lA, _⟩ := h c (Nat.le_refl _) (by omega)
          obtain ⟨t, u, _, _, _, _, _, _, t1, t2, _, _, x1, x2⟩ := rule_parts hP h2 aA q.2
          have lo := lA 0 (by rw [q.2.1]; omega)
          rw [fr_no (x := (c, 1)) (fun _ _ => rwz_back hP hW t1 t2 hw s.2 (fun x hx => by have := lo x (x1 x hx); omega) (fun x hx => by have := lo x (x2 x hx); omega) hwp)]
          exact ih
        · by_cases e2 : ∃ z, rwz P W (sdw P (R c) 1) (odw P (R c) 1) w = some z
          · obtain ⟨z, e2⟩ := e2
            rw [fr_yes (x := (c, 1)) q.1 q.2 e2, fr_yes (x := (c, 1)) q.1 q.2 e2]
          · have e3 : rwz P W (sdw P (R c) 1) (odw P (R c) 1) w = none := by
              cases hh : rwz P W (sdw P (R c) 1) (odw P (R c) 1) w with
              | none => rfl
              | some z => exact absurd ⟨z, hh⟩ e2
            rw [fr_no (x := (c, 1)) (fun _ _ => e3), fr_no (x := (c, 1)) (fun _ _ => e3)]
            exact ih
    · rename_i q
      rw [fr_no (x := (c, 0)) (fun a b => absurd ⟨a, b⟩ q), fr_no (x := (c, 1)) (fun a b => absurd ⟨a, b⟩ q)]
      exact ih
/-- places of literal j, from p on -/
def sq (j : Nat) : Nat → Nat → List (Nat × Nat)
  | _, 0 => []
  | p, m + 1 => (j, p) :: sq j (p + 1) m
/-- places of the literals from j on -/
def pq (A : List zLt) : Nat → Nat → List (Nat × Nat)
  | 0, _ => []
  | r + 1, j => sq j 1 ((lit A j).2.length - 1) ++ pq A r (j + 1)
/-- the first rewriting there is at these places -/
noncomputable def fp (P W : Int → Int) (R : Nat → List zLt) (st : Nat → Int) (K : Nat) (A : List zLt) : List (Nat × Nat) → Option (Nat × Nat × Nat × Nat × List Int)
  | [] => none
  | x :: L => if 0 ≤ fw (lit A x.1).2 x.2 then (match fr P W R st (tat P (lit A x.1).2 x.2) (al 0 K) with | some y => some (x.1, x.2, y.1.1, y.1.2, y.2) | none => fp P W R st K A L) else fp P W R st K A L
theorem fp_neg {P W : Int → Int} {R : Nat → List zLt} {st : Nat → Int} {K : Nat} {A : List zLt} {x : Nat × Nat} {L : List (Nat × Nat)} (h : ¬ 0 ≤ fw (lit A x.1).2 x.2) : fp P W R st K A (x :: L) = fp P W R st K A L := by
  simp only [fp]; rw [if_neg h]
theorem fp_no {P W : Int → Int} {R : Nat → List zLt} {st : Nat → Int} {K : Nat} {A : List zLt} {x : Nat × Nat} {L : List (Nat × Nat)} (h : fr P W R st (tat P (lit A x.1).2 x.2) (al 0 K) = none) : fp P W R st K A (x :: L) = fp P W R st K A L := by
  simp only [fp]
  split
  · rw [h]
  · rfl
theorem fp_yes {P W : Int → Int} {R : Nat → List zLt} {st : Nat → Int} {K : Nat} {A : List zLt} {x : Nat × Nat} {L : List (Nat × Nat)} {y : (Nat × Nat) × List Int} (h0 : 0 ≤ fw (lit A x.1).2 x.2) (h : fr P W R st (tat P (lit A x.1).2 x.2) (al 0 K) = some y) : fp P W R st K A (x :: L) = some (x.1, x.2, y.1.1, y.1.2, y.2) := by
  simp only [fp]
  rw [if_pos h0, h]
/-- the row with z for the term at a place -/
noncomputable def rpA (P : Int → Int) (A : List zLt) (j p : Nat) (z : List Int) : List zLt := A.take j ++ ((lit A j).1, rpl (lit A j).2 p (tl P (fw (lit A j).2) p) z) :: A.drop (j + 1)
/-- rewriting as often as may be: n times at most -/
noncomputable def rwl (P W : Int → Int) (R : Nat → List zLt) (st : Nat → Int) (K : Nat) : Nat → List zLt → List Int → Int × List zLt × List Int
  | 0, A, t => (1, A, t)
  | n + 1, A, t => match fp P W R st K A (pq A A.length 0) with
    | none => (1, A, t)
    | some (j, p, c, s, z) => if (lit A j).2.length - tl P (fw (lit A j).2) p + z.length ≤ 30 then rwl P W R st K n (cln P W (rpA P A j p z)) (t ++ [(c : Int), (s : Int), (j : Int), (p : Int)]) else (0, A, t)
section QF
variable {d : List Nat} {G : Nat → Int → Option Nat} {E : Nat → Int → Int}
theorem list_ok {c s : Nat} {P W : Int → Int} {K : Nat} {R : Nat → List zLt} {n : Nat} (hX : zK zXt d G) (hs : stC d G E P W K R) (hc : c < K) (hP : pok P) (h2 : P 0 = 2) (hr : ruleP (R c)) (hs01 : s = 0 ∨ s = 1) (hn : E 36 7 = n) (hn3 : n < 300) :
    ∃ E' : Nat → Int → Int, zM zm_X4_list [zR 36, zR (qn c), zI (s : Int)] (d, G, E) none (d, G, E') ∧ fz [36, 37, 38, 39] E E' ∧ E' 36 7 = (n : Int) + 1 ∧ (∀ j : Int, j ≠ 7 → E' 36 j = E 36 j) ∧ E' 37 n = c ∧ E' 38 n = s ∧ E' 39 n = fw (sdw P (R c) s) 0 ∧ ∀ k : Int, k < n → E' 37 k = E 37 k ∧ E' 38 k = E 38 k ∧ E' 39 k = E 39 k := by
  obtain ⟨h1, h2', h3⟩ := hs
  obtain ⟨g6, hck, ⟨hA, _, c5, c11, c12, _⟩, rk⟩ := h3 c hc
  obtain ⟨t, u, e1, e2, e3, e4, e5, e6, _, _, l1, l2, _, _⟩ := rule_parts hP h2 rk.1 hr
  have q0 : 200 ≤ qn c := by unfold qn; omega
  have c12' := c12 hr
  rw [e4] at c12'
  have w30 := (hA.2.2.2 0 (by rw [hr.1]; omega)).2.2.1
  have rl := rowC_lk hA (l := 0) (by rw [hr.1]; omega)
  have o0 : offs (R c) 0 = 0 := rfl
  rw [o0] at rl
  have head : ∀ F : Nat → Int → Int, F (qn c + 1 + 1) = E (qn c + 1 + 1) → (s = 0 → F (qn c + 1 + 1) 1 = fw (sdw P (R c) s) 0) ∧ (s = 1 → F (qn c + 1 + 1) (1 + t) = fw (sdw P (R c) s) 0) := fun F hF => by
    constructor
    · intro z
      subst z
      have a := rl 1 (by omega)
      have b := l1 0 e2
      simp only [sdw, if_pos]
      rw [hF]
      simp at a b
      rw [a, b]
    · intro z
      subst z
      have a := rl (1 + t) (by omega)
      have b := l2 0 e3
      have ne : ¬ (1 = 0) := by omega
      simp only [sdw]
      rw [if_neg ne, hF]
      have z1 : ((0 : Nat) : Int) + ((1 + t : Nat) : Int) = 1 + t := by omega
      have z2 : (0 : Int) + ((1 + t : Nat) : Int) = 1 + t := by omega
      rw [z1, z2] at a
      simp at b
      rw [a, b]
  let F1 := zuE E 37 n c
  let F2 := zuE F1 38 n s
  let F3 := zuE F2 39 n (fw (sdw P (R c) s) 0)
  let F4 := zuE F3 36 7 ((n : Int) + 1)
  have x1 : F1 36 7 = n := (zuE_ne (by decide) _).trans hn
  have x2 : F2 36 7 = n := (zuE_ne (by decide) _).trans x1
  have x3 : F3 36 7 = n := (zuE_ne (by decide) _).trans x2
  have nq : ∀ y : Nat, y ≠ 37 → y ≠ 38 → F2 y = E y := fun y h1 h2 => (zuE_nf h2).trans (zuE_nf h1)
  have hd := head F2 (nq _ (by omega) (by omega))
  have g12 : F2 (qn c) 12 = 1 + t := by rw [nq _ (by omega) (by omega)]; exact c12'
  refine ⟨F4, zM_e rfl (Nat.le_of_ble_eq_true rfl) (fun kz Q hQ => X4_list_0 hX hck ?_), fz_put (fz_put (fz_put (fz_put fz_rfl (by simp)) (by simp)) (by simp)) (by simp), zuE_same, fun j hj => (zuE_ix hj).trans ((zuE_ne (by decide) _).trans ((zuE_ne (by decide) _).trans (zuE_ne (by decide) _))), ?_, ?_, ?_, fun k hk => ⟨?_, ?_, ?_⟩⟩
  · rw [hn]
    refine ⟨fun z => absurd z (by omega), fun _ => ⟨⟨by omega, by omega⟩, fun H1 h1 => ?_⟩⟩
    have eH1 : H1 = F1 := by rw [h1, c5]
    rw [eH1, x1]
    refine ⟨⟨by omega, by omega⟩, fun H2 h2 => ?_⟩
    have eH2 : H2 = F2 := h2
    rw [eH2, x2, g12]
    refine ⟨fun z => ⟨⟨by omega, by omega⟩, ⟨by omega, by omega⟩, fun H3 h3 => ?_⟩, fun z => ⟨⟨by omega, by omega⟩, ⟨by omega, by omega⟩, fun H3 h3 => ?_⟩⟩
    · have eH3 : H3 = F3 := by rw [h3, hd.2 (by omega)]
      rw [eH3, x3]
      exact ⟨zin_of (by omega) (by omega), fun H4 h4 => by rw [h4]; exact hQ⟩
    · have eH3 : H3 = F3 := by rw [h3, hd.1 (by omega)]
      rw [eH3, x3]
      exact ⟨zin_of (by omega) (by omega), fun H4 h4 => by rw [h4]; exact hQ⟩
  · exact (zuE_ne (by decide) _).trans ((zuE_ne (by decide) _).trans ((zuE_ne (by decide) _).trans zuE_same))
  · exact (zuE_ne (by decide) _).trans ((zuE_ne (by decide) _).trans zuE_same)
  · exact (zuE_ne (by decide) _).trans zuE_same
  · exact (zuE_ne (by decide) _).trans ((zuE_ne (by decide) _).trans ((zuE_ne (by decide) _).trans (zuE_ix (by omega))))
  · exact (zuE_ne (by decide) _).trans ((zuE_ne (by decide) _).trans ((zuE_ix (by omega)).trans (zuE_ne (by decide) _)))
  · exact (zuE_ne (by decide) _).trans ((zuE_ix (by omega)).trans ((zuE_ne (by decide) _).trans (zuE_ne (by decide) _)))
/-- the list of rules in the class's arrays -/
def klA (E : Nat → Int → Int) (P : Int → Int) (R : Nat → List zLt) (L : List (Nat × Nat)) : Prop := E 36 7 = L.length ∧ ∀ k : Nat, k < L.length → E 37 k = ((L.getD k (0, 0)).1 : Int) ∧ E 38 k = ((L.getD k (0, 0)).2 : Int) ∧ E 39 k = fw (sdw P (R (L.getD k (0, 0)).1) (L.getD k (0, 0)).2) 0
theorem klA_snoc {E' : Nat → Int → Int} {P : Int → Int} {R : Nat → List zLt} {L : List (Nat × Nat)} {c s : Nat} (h : klA E P R L) (h7 : E' 36 7 = (L.length : Int) + 1) (a1 : E' 37 L.length = c) (a2 : E' 38 L.length = s) (a3 : E' 39 L.length = fw (sdw P (R c) s) 0) (lo : ∀ k : Int, k < L.length → E' 37 k = E 37 k ∧ E' 38 k = E 38 k ∧ E' 39 k = E 39 k) : klA E' P R (L ++ [(c, s)]) := by
  refine ⟨by rw [h7]; simp, fun k hk => ?_⟩
  have hk' : k < L.length + 1 := by simpa using hk
  rcases (by omega : k < L.length ∨ k = L.length) with e | e
  · have g : (L ++ [(c, s)]).getD k (0, 0) = L.getD k (0, 0) := by
      rw [List.getD_eq_getElem?_getD, List.getD_eq_getElem?_getD, List.getElem?_append_left e]
    have := lo k (by omega)
    rw [g, this.1, this.2.1, this.2.2]
    exact h.2 k e
  · subst e
    have g : (L ++ [(c, s)]).getD L.length (0, 0) = (c, s) := by
      rw [List.getD_eq_getElem?_getD, List.getElem?_append_right (Nat.le_refl _)]; simp
    rw [g]
    exact ⟨a1, a2, a3⟩
theorem stC_fz {E' : Nat → Int → Int} {P W : Int → Int} {K : Nat} {R : Nat → List zLt} {S : List Nat} (h : stC d G E P W K R) (hf : fz S E E') (hS : ∀ x, x ∈ S → x < 200) (h5 : E' 5 4 = E 5 4) : stC d G E' P W K R := by
  refine ⟨by rw [h5]; exact h.1, h.2.1, fun c hc => ?_⟩
  obtain ⟨a1, a2, ⟨b1, b2, b3, b4, b5, b6⟩, a4⟩ := h.2.2 c hc
  have q0 : 200 ≤ qn c := by unfold qn; omega
  have nS : ∀ y : Nat, 200 ≤ y → y ∉ S := fun y hy hm => by have := hS y hm; omega
  refine ⟨a1, a2, ⟨rowC_fz b1 hf (nS _ (by omega)) (nS _ (by omega)) (nS _ (by omega)) (nS _ (by omega)), ?_, ?_, ?_, ?_, ?_⟩, a4⟩
  · rw [hf _ (nS _ (by omega))]; exact b2
  · rw [hf _ (nS _ (by omega))]; exact b3
  · rw [hf _ (nS _ (by omega))]; exact b4
  · rw [hf _ (nS _ (by omega))]; exact b5
  · rw [hf _ (nS _ (by omega))]; exact b6
theorem at_ok {P W : Int → Int} {K : Nat} {R : Nat → List zLt} {c : Nat} (hX : zK zXt d G) (hs : stC d G E P W K R) (hc : c < K) : zM zm_X7_at [zR 5, zI (c : Int)] (d, G, E) (some (zO (some (qn c)))) (d, G, E) := by
  have h5 := hs.1
  have h150 := hs.2.1
  refine zM_p rfl (Nat.le_of_ble_eq_true rfl) (fun kz Q hQ => X7_at_0 hX ⟨fun z => absurd z (by omega), fun _ => ⟨fun z => absurd z (by omega), fun _ => ⟨⟨by omega, by omega⟩, ?_⟩⟩⟩)
  rw [(hs.2.2 c hc).1]; exact hQ
theorem at_no {P W : Int → Int} {K : Nat} {R : Nat → List zLt} {v : Int} (hX : zK zXt d G) (hs : stC d G E P W K R) (hv : ¬ (0 ≤ v ∧ v < K)) : zM zm_X7_at [zR 5, zI v] (d, G, E) (some (zO none)) (d, G, E) := by
  have h5 := hs.1
  refine zM_p rfl (Nat.le_of_ble_eq_true rfl) (fun kz Q hQ => X7_at_0 hX ⟨fun _ => hQ, fun _ => ⟨fun _ => hQ, fun z => absurd (by omega) z⟩⟩)
theorem isThere_ok {q : Nat} (hX : zK zXt d G) (hc : zCk d G q) : zM zm_X1_isThere [zR q] (d, G, E) (some (zI (if E q 6 = 2 then 0 else 1))) (d, G, E) := by
  refine zM_p rfl (Nat.le_of_ble_eq_true rfl) (fun kz Q hQ => X1_isThere_0 hX hc ⟨fun c => ?_, fun c => ?_⟩)
  · rw [if_pos c] at hQ; exact hQ
  · rw [if_neg c] at hQ; exact hQ
theorem prepare_ok {P W : Int → Int} {K : Nat} {R : Nat → List zLt} {st : Nat → Int} (hX : zK zXt d G) (hP : pok P) (h2 : P 0 = 2) (hs : stC d G E P W K R) (hst : ∀ c : Nat, c < K → E (qn c) 6 = st c) :
    ∃ E' : Nat → Int → Int, zM zm_X4_prepare [zR 36] (d, G, E) none (d, G, E') ∧ fz [36, 37, 38, 39] E E' ∧ E' 36 11 = 0 ∧ klA E' P R (kl P W R st 0 K) ∧ (kl P W R st 0 K).length ≤ 300 := by
  have h150 := hs.2.1
  have loop : ∀ (m c : Nat) (L : List (Nat × Nat)) (F : Nat → Int → Int), c + m = K → L.length ≤ 2 * c → fz [36, 37, 38, 39] E F → F 36 11 = 0 → klA F P R L → ∃ E' : Nat → Int → Int, zgo zm_X4_prepare 12 [(0, zR 36), (1, zI (c : Int))] [] (d, G, F) none (d, G, E') ∧ fz [36, 37, 38, 39] E E' ∧ E' 36 11 = 0 ∧ klA E' P R (L ++ kl P W R st c m) ∧ (L ++ kl P W R st c m).length ≤ 300 := by
    intro m
    induction m with
    | zero =>
      intro c L F hc hL hf h11 hk
      have f5 : F 5 = E 5 := hf 5 (by simp)
      have e5 := hs.1
      have eL : L ++ kl P W R st c 0 = L := by simp [kl]
      exact ⟨F, fun kz Q hQ => X4_prepare_12 hX ⟨fun _ => hQ, fun z => absurd (by rw [f5]; omega) z⟩, hf, h11, by rw [eL]; exact hk, by rw [eL]; omega⟩
    | succ m ih =>
      intro c L F hc hL hf h11 hk
      have hcK : c < K := by omega
      have f5 : F 5 = E 5 := hf 5 (by simp)
      have e5 := hs.1
      have hsF : stC d G F P W K R := stC_fz hs hf (by simp) (by rw [f5])
      obtain ⟨g6, hck, ⟨_, _, _, c11, _, c13⟩, rk⟩ := hsF.2.2 c hcK
      have q0 : 200 ≤ qn c := by unfold qn; omega
      have m0 := at_ok (E := F) hX hsF hcK
      have m1 := isThere_ok (E := F) (q := qn c) hX hck
      have f6 : F (qn c) 6 = st c := by rw [hf _ (by simp; omega)]; exact hst c hcK
      have ec : ((c + 1 : Nat) : Int) = (c : Int) + 1 := by omega
      simp only [kl]
      by_cases q : st c ≠ 2 ∧ ruleP (R c)
      · rw [if_neg (by rw [f6]; exact q.1)] at m1
        have r11 : F (qn c) 11 ≠ 0 := by
          rcases c11 with z | z
          · omega
          · exact absurd q.2 z.2
        obtain ⟨F1, n1, n2, n3, n4, n5, n6, n7, n8⟩ := list_ok (E := F) (s := 0) (n := L.length) hX hsF hcK hP h2 q.2 (Or.inl rfl) hk.1 (by omega)
        have hk1 : klA F1 P R (L ++ [(c, 0)]) := klA_snoc hk n3 n5 n6 n7 n8
        have hf1 : fz [36, 37, 38, 39] E F1 := fz_trans hf n2
        have hsF1 : stC d G F1 P W K R := stC_fz hs hf1 (by simp) (by rw [hf1 5 (by simp)])
        obtain ⟨_, _, ⟨_, _, _, _, _, c13'⟩, _⟩ := hsF1.2.2 c hcK
        by_cases sr : srtd P W (R c)
        · have e13 : F1 (qn c) 13 ≠ 0 := by
            rcases c13' with z | z
            · omega
            · exact absurd sr z.2
          obtain ⟨E', z, zr⟩ := ih (c + 1) (L ++ [(c, 0)]) F1 (by omega) (by simp; omega) hf1 (by rw [n4 11 (by decide)]; exact h11) hk1
          rw [ec] at z
          rw [if_pos q, if_pos sr]
          refine ⟨E', fun kz Q hQ => X4_prepare_12 hX ⟨fun z => absurd z (by rw [f5]; omega), fun _ => ⟨some (qn c), m0, fun z => absurd z (by simp), fun _ => ⟨qn c, rfl, hck, 1, m1, fun z => absurd z (by omega), fun _ => ⟨fun z => absurd z r11, fun _ => ⟨F1, n1, fun _ => ⟨zin_of (by omega) (by omega), z kz Q hQ⟩, fun z => absurd e13 z⟩⟩⟩⟩⟩, ?_⟩
          simpa using zr
        · have e13 : F1 (qn c) 13 = 0 := by
            rcases c13' with z | z
            · exact absurd z.2 sr
            · exact z.1
          have l1 : (L ++ [(c, 0)]).length = L.length + 1 := by simp
          obtain ⟨F2, p1, p2, p3, p4, p5, p6, p7, p8⟩ := list_ok (E := F1) (s := 1) (n := (L ++ [(c, 0)]).length) hX hsF1 hcK hP h2 q.2 (Or.inr rfl) hk1.1 (by omega)
          have hk2 : klA F2 P R (L ++ [(c, 0)] ++ [(c, 1)]) := klA_snoc hk1 p3 p5 p6 p7 p8
          obtain ⟨E', z, zr⟩ := ih (c + 1) (L ++ [(c, 0)] ++ [(c, 1)]) F2 (by omega) (by simp; omega) (fz_trans hf1 p2) (by rw [p4 11 (by decide), n4 11 (by decide)]; exact h11) hk2
          rw [ec] at z
          rw [if_pos q, if_neg sr]
          refine ⟨E', fun kz Q hQ => X4_prepare_12 hX ⟨fun z => absurd z (by rw [f5]; omega), fun _ => ⟨some (qn c), m0, fun z => absurd z (by simp), fun _ => ⟨qn c, rfl, hck, 1, m1, fun z => absurd z (by omega), fun _ => ⟨fun z => absurd z r11, fun _ => ⟨F1, n1, fun z => absurd e13 z, fun _ => ⟨F2, p1, zin_of (by omega) (by omega), z kz Q hQ⟩⟩⟩⟩⟩⟩, ?_⟩
          simpa using zr
      · obtain ⟨E', z, zr⟩ := ih (c + 1) L F (by omega) (by omega) hf h11 hk
        rw [ec] at z
        rw [if_neg q]
        refine ⟨E', fun kz Q hQ => X4_prepare_12 hX ⟨fun z => absurd z (by rw [f5]; omega), fun _ => ⟨some (qn c), m0, fun z => absurd z (by simp), fun _ => ⟨qn c, rfl, hck, _, m1, fun _ => ⟨zin_of (by omega) (by omega), z kz Q hQ⟩, fun w => ⟨fun _ => ⟨zin_of (by omega) (by omega), z kz Q hQ⟩, fun w2 => ?_⟩⟩⟩⟩, zr⟩
        exfalso
        apply q
        constructor
        · intro e
          rw [f6, if_pos e] at w
          exact w rfl
        · rcases c11 with z | z
          · exact z.2
          · exact absurd z.1 w2
  obtain ⟨E', z, zr⟩ := loop K 0 [] (zuE (zuE E 36 11 0) 36 7 0) (by omega) (by simp) (fz_put (fz_put fz_rfl (by simp)) (by simp)) ((zuE_ix (by decide)).trans zuE_same) ⟨zuE_same, fun k hk => absurd hk (by simp)⟩
  rw [List.nil_append] at zr
  exact ⟨E', zM_go rfl (Nat.le_of_ble_eq_true rfl) (fun kz Q hQ => X4_prepare_0 hX (fun H1 h1 H2 h2 => by rw [h2, h1]; exact z kz Q hQ)), zr⟩
end QF
