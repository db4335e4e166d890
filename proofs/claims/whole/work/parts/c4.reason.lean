/-! The reference: all constraints on, solutions, the reason. -/
theorem OnM_si {m : Mi} {act : Nat → Bool} {k : Nat} {b : Bool} (h : OnM m act) : OnM (si m 900 k (bI b)) (fun i => if i = k then b else act i) := fun c hc => by
  by_cases hck : c = k
  · simp only [mS]
    rw [if_pos ⟨trivial, hck⟩, if_pos hck]
  · simp only [mS]
    rw [if_neg (by omega), if_neg hck]
    exact h c hc
theorem nar_b (b : Bool) : vp_nar .boolean (bI b) = bI b := by cases b <;> decide
def nof : Nat → Option Nat := fun _ => none
def FSa (x j : Nat) : Prop := x = 900 ∨ x = 904
theorem allOn_M {s n : Nat} {m : Mi} {T : Nat → Nat} {G : Rg} (hB : BGd G) (hE : ME s m T n G) : ∃ m', f_X12_allOn TT m 870 1 = some m' ∧ FI FSa m m' ∧ OnM m' aT ∧ FxM m' nof := by
  have k1 : ∀ (d k N : Nat) (m : Mi), k + d = 250 → d < N → ME s m T n G → (∀ c, c < k → gi m 900 c = bI true) → ∃ m', lp (fun x : Int32 × Mi => f_X12_allOn_l2 TT x.2 870 1 x.1) N (nI k, m) = some m' ∧ FI FSa m m' ∧ ∀ c, c < 250 → gi m' 900 c = bI true := by
    intro d
    induction d with
    | zero =>
      intro k N m hk hN hE h
      obtain ⟨N, rfl⟩ : ∃ y, N = y + 1 := ⟨N - 1, by omega⟩
      refine ⟨m, lp_exit ?_, FI.rf, fun c hc => h c (by omega)⟩
      show f_X12_allOn_l2 TT m 870 1 (nI k) = _
      unfold f_X12_allOn_l2
      rw [if_pos (show (250 : Int32) ≤ nI k from nI_le (a := 250) (by omega) (by omega))]
    | succ d ih =>
      intro k N m hk hN hE h
      obtain ⟨N, rfl⟩ : ∃ y, N = y + 1 := ⟨N - 1, by omega⟩
      have w42 : gr m 870 42 = 900 := hE.1 42 (by omega)
      have hbody : f_X12_allOn_l2 TT m 870 1 (nI k) = some (.inl (nI (k + 1), si m 900 k (bI true))) := by
        unfold f_X12_allOn_l2
        rw [if_neg (show ¬ (250 : Int32) ≤ nI k from nI_ge (b := 250) (by omega) (by omega)), w42, if_pos (ar_of s_900 (by omega) (by omega)), lt_eq, lt_eq, ix_nI (by omega), nI_1]
        rfl
      rw [lp_step hbody]
      have f1 : FI FSa m (si m 900 k (bI true)) := FI.si (P := FSa) (Or.inl rfl)
      obtain ⟨m', e2, f2, g2⟩ := ih (k + 1) N _ (by omega) (by omega) (hE.keep hB f1 (fun x j z => by unfold FSa at z; omega)) (fun c hc => by
        by_cases hck : c = k
        · rw [hck]; exact gi_si _ _ _ _
        · simp only [mS]; rw [if_neg (by omega)]; exact h c (by omega))
      exact ⟨m', e2, f1.tr f2, g2⟩
  have k2 : ∀ (d k N : Nat) (m : Mi), k + d = 10 → d < N → ME s m T n G → (∀ c, c < k → gi m 904 c = -1) → ∃ m', lp (fun x : Int32 × Mi => f_X12_allOn_l24 TT x.2 870 x.1) N (nI k, m) = some m' ∧ FI (fun x j => x = 904) m m' ∧ ∀ c, c < 10 → gi m' 904 c = -1 := by
    intro d
    induction d with
    | zero =>
      intro k N m hk hN hE h
      obtain ⟨N, rfl⟩ : ∃ y, N = y + 1 := ⟨N - 1, by omega⟩
      refine ⟨m, lp_exit ?_, FI.rf, fun c hc => h c (by omega)⟩
      show f_X12_allOn_l24 TT m 870 (nI k) = _
      unfold f_X12_allOn_l24
      rw [if_pos (show (10 : Int32) ≤ nI k from nI_le (a := 10) (by omega) (by omega))]
    | succ d ih =>
      intro k N m hk hN hE h
      obtain ⟨N, rfl⟩ : ∃ y, N = y + 1 := ⟨N - 1, by omega⟩
      have w46 : gr m 870 46 = 904 := hE.1 46 (by omega)
      have hbody : f_X12_allOn_l24 TT m 870 (nI k) = some (.inl (nI (k + 1), si m 904 k (-1))) := by
        unfold f_X12_allOn_l24
        rw [if_neg (show ¬ (10 : Int32) ≤ nI k from nI_ge (b := 10) (by omega) (by omega)), w46, if_pos (ar_of s_904 (by omega) (by omega)), lt_eq, lt_eq, ix_nI (by omega), nI_1]
      rw [lp_step hbody]
      have f1 : FI (fun x j => x = 904) m (si m 904 k (-1)) := FI.si (P := fun x j => x = 904) rfl
      obtain ⟨m', e2, f2, g2⟩ := ih (k + 1) N _ (by omega) (by omega) (hE.keep hB f1 (fun x j z => by omega)) (fun c hc => by
        by_cases hck : c = k
        · rw [hck]; exact gi_si _ _ _ _
        · simp only [mS]; rw [if_neg (by omega)]; exact h c (by omega))
      exact ⟨m', e2, f1.tr f2, g2⟩
  obtain ⟨m1, e1, f1, g1⟩ := k1 250 0 FUEL m (by omega) (by unfold FUEL; omega) hE (fun c hc => by omega)
  obtain ⟨m2, e2, f2, g2⟩ := k2 10 0 FUEL m1 (by omega) (by unfold FUEL; omega) (hE.keep hB f1 (fun x j z => by unfold FSa at z; omega)) (fun c hc => by omega)
  refine ⟨m2, ?_, f1.tr (f2.mono (fun x j z => Or.inr z)), fun c hc => (f2.1 _ _ (by omega)).trans (g1 c hc), fun p hp => Or.inl ⟨rfl, g2 p hp⟩⟩
  unfold f_X12_allOn f_X12_allOn_j2
  rw [show ((0 : Int32), m) = (nI 0, m) from rfl, e1, Option.bind_some]
  unfold f_X12_allOn_j22 f_X12_allOn_j24
  rw [show ((0 : Int32), m1) = (nI 0, m1) from rfl, e2, Option.bind_some]
  rfl
theorem NF_nof (T : Nat → Nat) (G : Rg) (act : Nat → Bool) : NF T G act nof = NS G.1.length (dm0 T G act) (bb T G act) := by
  unfold NF
  refine congrArg (fun D => NS G.1.length D (bb T G act)) ?_
  funext p v
  exact Bool.and_true _
def FSr (x j : Nat) : Prop := (900 ≤ x ∧ x ≤ 906) ∨ (x = 870 ∧ 49 ≤ j ∧ j ≤ 57 ∧ j ≠ 49 ∧ j ≠ 51 ∧ j ≠ 52) ∨ x = 909 ∨ x = 910
theorem solutions_M {m : Mi} {T : Nat → Nat} {n : Nat} {G : Rg} (hM : WFM m) (hR : MRg m T n G) (hO : RO T n G) (a : Int32) :
    ∃ m', f_X12_solutions TT m 870 a = some (spSol T G a, m') ∧ FI (fun x j => 900 ≤ x ∧ x ≤ 906) m m' := by
  obtain ⟨s, hs, h21, hRs⟩ := hR
  have hE : ME s m T n G := ⟨hM, hs, h21, hRs⟩
  unfold f_X12_solutions spSol
  rcases sol_cases a with h | ⟨k, h1, h2, rfl⟩
  · rw [if_pos h]
    rcases h with h | h
    · exact ⟨m, by rw [if_pos h], FI.rf⟩
    · refine ⟨m, ?_, FI.rf⟩
      by_cases h1 : a < 1
      · rw [if_pos h1]
      · rw [if_neg h1, if_neg (Int32.not_le.mpr h)]
  · have hn1 : ¬ nI k < 1 := nI_nlt (b := 1) h1 (by omega)
    have hn2 : nI k ≤ 1000 := nI_le (b := 1000) h2 (by omega)
    rw [if_neg hn1, if_pos hn2, if_neg (fun z => z.elim hn1 (fun w => Int32.not_lt.mpr hn2 w))]
    obtain ⟨m1, e1, f1, a1, x1⟩ := allOn_M hO.2.1 hE
    obtain ⟨m2, e2, f2⟩ := solved_M hO (hE.keep hO.2.1 f1 (fun x j z => by unfold FSa at z; omega)) a1 x1 h1 h2
    refine ⟨m2, ?_, (f1.mono (fun x j z => by unfold FSa at z; omega)).tr (f2.mono (fun x j z => by unfold FSo at z; omega))⟩
    rw [e1, Option.bind_some, e2, bd_some, NF_nof, ix_nI (by omega)]
theorem reason_lp {s n : Nat} {T : Nat → Nat} {G : Rg} (hO : RO T n G) : ∀ (k N : Nat) (m : Mi), k < N → k ≤ G.2.2.length → ME s m T n G → OnM m (rsA T G (G.2.2.length - k)) → FxM m nof →
    ∃ m', lp (fun y : Int32 × Mi => f_X12_findsReason_l7 TT y.2 870 y.1) N (nI k - 1, m) = some m' ∧ OnM m' (rsA T G G.2.2.length) ∧ FI (fun x j => 900 ≤ x ∧ x ≤ 906) m m' := by
  have hB := hO.2.1
  have hB3 := hB.2.2
  intro k
  induction k with
  | zero =>
    intro N m hN hk hE hA hF
    obtain ⟨N, rfl⟩ : ∃ y, N = y + 1 := ⟨N - 1, by omega⟩
    refine ⟨m, lp_exit ?_, by rw [Nat.sub_zero] at hA; exact hA, FI.rf⟩
    show f_X12_findsReason_l7 TT m 870 (nI 0 - 1) = _
    unfold f_X12_findsReason_l7
    rw [if_pos (by decide)]
  | succ k ih =>
    intro N m hN hk hE hA hF
    obtain ⟨N, rfl⟩ : ∃ y, N = y + 1 := ⟨N - 1, by omega⟩
    rw [nI_pred]
    have w42 : gr m 870 42 = 900 := hE.1 42 (by omega)
    have f1 : FI (fun x j => 900 ≤ x ∧ x ≤ 906) m (si m 900 k (bI false)) := FI.si (P := fun x j => 900 ≤ x ∧ x ≤ 906) (by omega)
    have hE1 := hE.keep hB f1 (fun x j z => by omega)
    have hA1 := OnM_si (k := k) (b := false) hA
    have hF1 : FxM (si m 900 k (bI false)) nof := fun p hp => by
      have h := hF p hp
      rw [show gi (si m 900 k (bI false)) 904 p = gi m 904 p by simp only [mS]; rw [if_neg (by omega)]]
      exact h
    obtain ⟨m2, e2, f2⟩ := solved_M (most := 1) hO hE1 hA1 hF1 (by omega) (by omega)
    rw [NF_nof] at e2
    have f2' : FI (fun x j => 900 ≤ x ∧ x ≤ 906) (si m 900 k (bI false)) m2 := f2.mono (fun x j z => by unfold FSo at z; omega)
    have hE2 := hE1.keep hB f2' (fun x j z => by omega)
    have hA2 : OnM m2 (fun i => if i = k then false else rsA T G (G.2.2.length - (k + 1)) i) := fun c hc => (f2.1 _ _ (by unfold FSo; omega)).trans (hA1 c hc)
    have hF2 : FxM m2 nof := fun p hp => by rw [f2.1 904 p (by unfold FSo; omega)]; exact hF1 p hp
    have hstep : rsA T G (G.2.2.length - k) = if NS G.1.length (dm0 T G (fun i => if i = k then false else rsA T G (G.2.2.length - (k + 1)) i)) (bb T G (fun i => if i = k then false else rsA T G (G.2.2.length - (k + 1)) i)) = 0 then (fun i => if i = k then false else rsA T G (G.2.2.length - (k + 1)) i) else rsA T G (G.2.2.length - (k + 1)) := by
      rw [show G.2.2.length - k = (G.2.2.length - (k + 1)) + 1 by omega, rsA, show G.2.2.length - 1 - (G.2.2.length - (k + 1)) = k by omega]
    have hm1 : nI k + -1 = nI k - 1 := by rw [Int32.sub_eq_add_neg]
    generalize hX : NS G.1.length (dm0 T G (fun i => if i = k then false else rsA T G (G.2.2.length - (k + 1)) i)) (bb T G (fun i => if i = k then false else rsA T G (G.2.2.length - (k + 1)) i)) = X at *
    have hbody : f_X12_findsReason_l7 TT m 870 (nI k) = if nI (min 1 X) = 1 then some (.inl (nI k - 1, si m2 900 k (bI true))) else some (.inl (nI k - 1, m2)) := by
      unfold f_X12_findsReason_l7
      rw [if_neg (nI_pos (by omega)), w42, if_pos (ar_of s_900 (by omega) (by omega)), lt_eq, ix_nI (by omega), show vp_nar .boolean 0 = bI false from rfl, show f_X12_solved TT (si m 900 k (bI false)) 870 1 = _ from e2, bd_some, show gr m2 870 42 = 900 from hE2.1 42 (by omega), if_pos (ar_of s_900 (by omega) (by omega)), lt_eq, lt_eq, lt_eq, hm1, show vp_nar .boolean 1 = bI true from rfl]
    by_cases hX0 : X = 0
    · rw [if_pos hX0] at hstep
      rw [hX0, if_neg (by decide)] at hbody
      rw [lp_step hbody]
      obtain ⟨m', e3, w3, f3⟩ := ih N m2 (by omega) (by omega) hE2 (by rw [hstep]; exact hA2) hF2
      exact ⟨m', e3, w3, (f1.tr f2').tr f3⟩
    · rw [if_neg hX0] at hstep
      rw [show min 1 X = 1 by omega, if_pos (show nI 1 = 1 from rfl)] at hbody
      rw [lp_step hbody]
      have f3 : FI (fun x j => 900 ≤ x ∧ x ≤ 906) m2 (si m2 900 k (bI true)) := FI.si (P := fun x j => 900 ≤ x ∧ x ≤ 906) (by omega)
      have hA3 := OnM_si (k := k) (b := true) hA2
      have hfun : (fun j => if j = k then true else (fun j => if j = k then false else rsA T G (G.2.2.length - (k + 1)) j) j) = rsA T G (G.2.2.length - k) := by
        rw [hstep]
        funext j
        by_cases hj : j = k
        · rw [if_pos hj, hj, rsA_un _ k (by omega)]
        · rw [if_neg hj]
          simp only
          rw [if_neg hj]
      rw [hfun] at hA3
      obtain ⟨m', e4, w4, f4⟩ := ih N (si m2 900 k (bI true)) (by omega) (by omega) (hE2.keep hB f3 (fun x j z => by omega)) hA3 (fun p hp => by
        rw [show gi (si m2 900 k (bI true)) 904 p = gi m2 904 p by simp only [mS]; rw [if_neg (by omega)]]
        exact hF2 p hp)
      exact ⟨m', e4, w4, ((f1.tr f2').tr f3).tr f4⟩
theorem reasons_lp {s n : Nat} {T : Nat → Nat} {G : Rg} {act : Nat → Bool} (hO : RO T n G) : ∀ (d k N : Nat) (m : Mi), k + d = G.2.2.length → d < N → ME s m T n G → OnM m act → gi m 870 50 = nI ((List.range k).filter act).length → (∀ i c, ((List.range k).filter act)[i]? = some c → gi m 909 i = nI c) →
    ∃ m', lp (fun y : Int32 × Mi => f_X12_findsReason_l42 TT y.2 870 y.1) N (nI k, m) = some m' ∧ FI (fun z j => z = 909 ∨ (z = 870 ∧ j = 50)) m m' ∧ gi m' 870 50 = nI ((List.range G.2.2.length).filter act).length ∧ ∀ i c, ((List.range G.2.2.length).filter act)[i]? = some c → gi m' 909 i = nI c := by
  have hB := hO.2.1
  have hB3 := hB.2.2
  intro d
  induction d with
  | zero =>
    intro k N m hk hN hE hA g4 g5
    obtain ⟨N, rfl⟩ : ∃ y, N = y + 1 := ⟨N - 1, by omega⟩
    rw [show k = G.2.2.length by omega] at g4 g5
    refine ⟨m, lp_exit ?_, FI.rf, g4, g5⟩
    show f_X12_findsReason_l42 TT m 870 (nI k) = _
    unfold f_X12_findsReason_l42
    rw [cons_M hE.1 hE.2.1 hE.2.2.1 hE.2.2.2.1.1, Option.bind_some, if_pos (nI_le (by omega) (by omega))]
  | succ d ih =>
    intro k N m hk hN hE hA g4 g5
    obtain ⟨N, rfl⟩ : ∃ y, N = y + 1 := ⟨N - 1, by omega⟩
    have w42 : gr m 870 42 = 900 := hE.1 42 (by omega)
    have w55 : gr m 870 55 = 909 := hE.1 55 (by omega)
    have hll : ((List.range k).filter act).length ≤ k := by
      have := List.length_filter_le act (List.range k)
      rw [List.length_range] at this
      exact this
    have hfil : (List.range (k + 1)).filter act = (List.range k).filter act ++ (if act k = true then [k] else []) := by
      rw [List.range_succ, List.filter_append]
      congr 1
      cases hh : act k with
      | true => simp [hh]
      | false => simp [hh]
    have hbody : f_X12_findsReason_l42 TT m 870 (nI k) = if act k = true then some (.inl (nI (k + 1), si (si m 909 ((List.range k).filter act).length (nI k)) 870 50 (nI (((List.range k).filter act).length + 1)))) else some (.inl (nI (k + 1), m)) := by
      unfold f_X12_findsReason_l42
      rw [cons_M hE.1 hE.2.1 hE.2.2.1 hE.2.2.2.1.1, Option.bind_some, if_neg (nI_ge (by omega) (by omega)), w42, if_pos (ar_of s_900 (by omega) (by omega)), ix_nI (n := k) (by omega), hA k (by omega)]
      cases act k with
      | false => rw [if_pos bF, if_neg fNt, lt_eq, nI_1]
      | true =>
        rw [if_neg bTr, if_pos rfl, w55, g4, if_pos (ar_of s_909 (by omega) (by omega)), lt_eq, lt_eq, ix_nI (by omega), lt_eq, nI_1]
        rw [show gi (si m 909 ((List.range k).filter act).length (nI k)) 870 50 = nI ((List.range k).filter act).length from by simp only [mS]; rw [if_neg (by omega)]; exact g4, nI_1]
    cases hac : act k with
    | false =>
      rw [hac, if_neg fNt] at hbody
      rw [hac, if_neg fNt, List.append_nil] at hfil
      rw [lp_step hbody]
      exact ih (k + 1) N m (by omega) (by omega) hE hA (by rw [hfil]; exact g4) (by rw [hfil]; exact g5)
    | true =>
      rw [hac, if_pos rfl] at hbody
      rw [hac, if_pos rfl] at hfil
      rw [lp_step hbody]
      have f1 : FI (fun z j => z = 909 ∨ (z = 870 ∧ j = 50)) m (si (si m 909 ((List.range k).filter act).length (nI k)) 870 50 (nI (((List.range k).filter act).length + 1))) := (FI.si (P := fun z j => z = 909 ∨ (z = 870 ∧ j = 50)) (Or.inl rfl)).tr (FI.si (P := fun z j => z = 909 ∨ (z = 870 ∧ j = 50)) (Or.inr ⟨rfl, rfl⟩))
      obtain ⟨m', e2, f2, g6, g7⟩ := ih (k + 1) N (si (si m 909 ((List.range k).filter act).length (nI k)) 870 50 (nI (((List.range k).filter act).length + 1))) (by omega) (by omega) (hE.keep hB f1 (fun z j e => by omega)) (fun c hc => (f1.1 _ _ (by omega)).trans (hA c hc)) (by rw [hfil, List.length_append, List.length_singleton]; exact gi_si _ _ _ _) (fun i c hi => by
        rw [hfil] at hi
        rcases app_get hi with ⟨h1, h2⟩ | ⟨h1, h2⟩
        · simp only [mS]
          rw [if_neg (by omega), if_neg (by omega)]
          exact g5 i c h2
        · simp only [mS]
          rw [if_neg (by omega), if_pos ⟨trivial, h1⟩, h2])
      exact ⟨m', e2, f1.tr f2, g6, g7⟩
theorem findsReason_M {s n : Nat} {m : Mi} {T : Nat → Nat} {G : Rg} (hO : RO T n G) (hE : ME s m T n G) (hA : OnM m aT) (hF : FxM m nof) (h50 : gi m 870 50 = 0) :
    ∃ m', f_X12_findsReason TT m 870 = some m' ∧ FI (fun x j => (900 ≤ x ∧ x ≤ 906) ∨ x = 909 ∨ (x = 870 ∧ j = 50)) m m' ∧ gi m' 870 50 = nI (rsL T G).length ∧ ∀ i c, (rsL T G)[i]? = some c → gi m' 909 i = nI c := by
  have hB := hO.2.1
  have hB3 := hB.2.2
  obtain ⟨m1, e1, a1, f1⟩ := reason_lp hO G.2.2.length FUEL m (by unfold FUEL; omega) (Nat.le_refl _) hE (by rw [Nat.sub_self]; exact hA) hF
  have hE1 := hE.keep hB f1 (fun x j z => by omega)
  obtain ⟨m2, e2, f2, g1, g2⟩ := reasons_lp hO G.2.2.length 0 FUEL m1 (by omega) (by unfold FUEL; omega) hE1 a1 ((f1.1 _ _ (by omega)).trans h50) (fun i c h => by simp at h)
  refine ⟨m2, ?_, (f1.mono (fun x j z => by omega)).tr (f2.mono (fun x j z => by omega)), g1, g2⟩
  unfold f_X12_findsReason f_X12_findsReason_j7
  rw [cons_M hE.1 hE.2.1 hE.2.2.1 hE.2.2.2.1.1, Option.bind_some, lt_eq, e1, Option.bind_some]
  unfold f_X12_findsReason_j40 f_X12_findsReason_j42
  rw [show ((0 : Int32), m1) = (nI 0, m1) from rfl, e2, Option.bind_some]
  rfl
