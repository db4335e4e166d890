/-! What is asked of both sides without a change: chosen, reason, count, holds. -/
theorem at_cases (a : Int32) (k : Nat) (hk : k < 2 ^ 31) : a < 0 ∨ (¬ a < 0 ∧ nI k ≤ a) ∨ ∃ j, j < k ∧ a = nI j := by
  by_cases h : a < 0
  · exact Or.inl h
  · obtain ⟨j, hj, rfl⟩ := nI_of h
    by_cases h2 : j < k
    · exact Or.inr (Or.inr ⟨j, h2, rfl⟩)
    · exact Or.inr (Or.inl ⟨h, nI_le (by omega) hj⟩)
/-- what may be found, and which reason -/
def FK (T : Nat → Nat) (G : Rg) (F : Fnd) : Prop := FO T G F ∧ match F with
  | some (.inr L) => L = rsL T G
  | _ => True
theorem rsL_le {T : Nat → Nat} {n : Nat} {G : Rg} (hO : RO T n G) : (rsL T G).length ≤ 250 := by
  have := List.length_filter_le (rsA T G G.2.2.length) (List.range G.2.2.length)
  rw [List.length_range] at this
  have := hO.2.1.2.2
  unfold rsL
  omega
def spCh (G : Rg) (F : Fnd) (a : Int32) : Int32 := match F with
  | some (.inl g) => if a < 0 ∨ nI G.1.length ≤ a then -1 else if g (ix a) = 0 then -1 else nI (fr G (ix a) + (g (ix a) - 1))
  | _ => -1
theorem nI_nlt0 {k : Nat} (h : k < 2 ^ 31) : ¬ nI k < 0 := nI_pos h
theorem releaseOf_C {m : Mi} {T : Nat → Nat} {n : Nat} {G : Rg} {F : Fnd} (hO : RO T n G) (hF : FnC m G F) (a : Int32) : f_X1_releaseOf TT m 860 a = some (spCh G F a) := by
  have hB1 := hO.2.1.1
  unfold f_X1_releaseOf spCh
  rw [hF.1.1]
  rcases at_cases a G.1.length (by omega) with h | ⟨h1, h2⟩ | ⟨j, hj, rfl⟩
  · rw [if_pos h]
    cases F with
    | none => rfl
    | some F =>
      cases F with
      | inl g => simp only; rw [if_pos (Or.inl h)]
      | inr L => rfl
  · rw [if_neg h1]
    have h0 : (0 : Int32) ≤ a := Int32.not_lt.mp h1
    cases F with
    | none => rw [hF.2.2.1, if_pos h0]
    | some F =>
      cases F with
      | inl g => rw [hF.2.2.1, if_pos h2]; simp only; rw [if_pos (Or.inr h2)]
      | inr L => rw [hF.2.2.1, if_pos h0]
  · have hn := nI_nlt0 (k := j) (by omega)
    rw [if_neg hn]
    have h0 : (0 : Int32) ≤ nI j := Int32.not_lt.mp hn
    cases F with
    | none => rw [hF.2.2.1, if_pos h0]
    | some F =>
      cases F with
      | inr L => rw [hF.2.2.1, if_pos h0]
      | inl g =>
        have hng : ¬ nI G.1.length ≤ nI j := nI_ge (by omega) (by omega)
        have hor : ¬ (nI j < 0 ∨ nI G.1.length ≤ nI j) := fun z => z.elim hn hng
        rw [hF.2.2.1, if_neg hng, if_pos (ar_of s_861 (by omega) (by omega)), ix_nI (by omega), hF.2.2.2.2 j hj]
        simp only
        rw [if_neg hor]
theorem chosen_C {m : Mi} {T : Nat → Nat} {n : Nat} {G : Rg} {F : Fnd} (hI : WFC m) (hO : RO T n G) (hF : FnC m G F) (a : Int32) : f_X11_chosen TT m 1 a = some (spCh G F a) := by
  unfold f_X11_chosen
  rw [hI.1.2.2.2.2.2.2.2.2.1, ob_of s_860, if_pos rfl, releaseOf_C hO hF, Option.bind_some]
theorem chosen_M {m : Mi} {T : Nat → Nat} {n : Nat} {G : Rg} {F : Fnd} (hM : WFM m) (hR : MRg m T n G) (hO : RO T n G) (hF : FnM m G F) (hK : FK T G F) (a : Int32) : f_X12_chosen TT m 870 a = some (spCh G F a) := by
  have hB1 := hO.2.1.1
  obtain ⟨s, hs, h21, hRs⟩ := hR
  unfold f_X12_chosen spCh
  cases F with
  | none => rw [hF.1, if_neg (by decide)]
  | some F =>
    cases F with
    | inr L => rw [hF.1, if_neg (by decide)]
    | inl g =>
      rw [hF.1, if_pos rfl, h21, hM.W.1, if_pos (ar_of s_881 hs (by omega)), ix_nI (n := s) (by omega), hRs.1.1.1]
      simp only
      rcases at_cases a G.1.length (by omega) with h | ⟨h1, h2⟩ | ⟨j, hj, rfl⟩
      · rw [if_pos h, if_pos (Or.inl h)]
      · rw [if_neg h1, if_pos h2, if_pos (Or.inr h2)]
      · have hn := nI_nlt0 (k := j) (by omega)
        have hng : ¬ nI G.1.length ≤ nI j := nI_ge (by omega) (by omega)
        have hor : ¬ (nI j < 0 ∨ nI G.1.length ≤ nI j) := fun z => z.elim hn hng
        have hgl := SL_le (show SL T G aT g from hK.1) hj
        have h6 := hO.2.2.2.1.1 j
        have hfl := fr_le hO hj
        have hB2 := hO.2.1.2.1
        rw [if_neg hn, if_neg hng, if_neg hor, show gr m 870 53 = 907 from hM 53 (by omega), if_pos (ar_of s_907 (by omega) (by omega)), ix_nI (by omega), (hF.2.2.2.2 j hj).1, first_M hM hs h21 hRs.1 hO hj, Option.bind_some]
        by_cases h0 : g j = 0
        · rw [if_pos (show nI (g j) ≤ 0 by rw [h0]; decide), if_pos h0]
        · rw [if_neg (show ¬ nI (g j) ≤ 0 from nI_ge (a := 0) (by omega) (by omega)), if_neg h0, nI_add, show fr G j + g j = (fr G j + (g j - 1)) + 1 by omega, nI_pred]
def spRe (F : Fnd) (a : Int32) : Int32 := match F with
  | some (.inr L) => if a < 0 ∨ nI L.length ≤ a then -1 else nI ((L[ix a]?).getD 0)
  | _ => -1
theorem reason_C {m : Mi} {T : Nat → Nat} {n : Nat} {G : Rg} {F : Fnd} (hI : WFC m) (hO : RO T n G) (hF : FnC m G F) (hK : FK T G F) (a : Int32) : f_X11_reason TT m 1 a = some (spRe F a) := by
  unfold f_X11_reason f_X1_accusedAt spRe
  rw [hI.1.2.2.2.2.2.2.2.2.1, ob_of s_860, if_pos rfl, hF.1.2.1]
  cases F with
  | none =>
    by_cases h : a < 0
    · rw [if_pos h, Option.bind_some]
    · rw [if_neg h, hF.2.2.2, if_pos (Int32.not_lt.mp h), Option.bind_some]
  | some F =>
    cases F with
    | inl g =>
      by_cases h : a < 0
      · rw [if_pos h, Option.bind_some]
      · rw [if_neg h, hF.2.2.2.1, if_pos (Int32.not_lt.mp h), Option.bind_some]
    | inr L =>
      have hL : L.length ≤ 250 := by rw [hK.2]; exact rsL_le hO
      simp only
      rw [hF.2.2.2.1]
      rcases at_cases a L.length (by omega) with h | ⟨h1, h2⟩ | ⟨j, hj, rfl⟩
      · rw [if_pos h, if_pos (Or.inl h), Option.bind_some]
      · rw [if_neg h1, if_pos h2, if_pos (Or.inr h2), Option.bind_some]
      · have hn := nI_nlt0 (k := j) (by omega)
        have hng : ¬ nI L.length ≤ nI j := nI_ge (by omega) (by omega)
        have hor : ¬ (nI j < 0 ∨ nI L.length ≤ nI j) := fun z => z.elim hn hng
        obtain ⟨c, hc⟩ := get_some hj
        rw [if_neg hn, if_neg hng, if_neg hor, if_pos (ar_of s_862 (by omega) (by omega)), ix_nI (by omega), hF.2.2.2.2 j c hc, hc, Option.bind_some]
        rfl
theorem reason_M {m : Mi} {T : Nat → Nat} {n : Nat} {G : Rg} {F : Fnd} (hM : WFM m) (hO : RO T n G) (hF : FnM m G F) (hK : FK T G F) (a : Int32) : f_X12_reason TT m 870 a = some (spRe F a) := by
  unfold f_X12_reason spRe
  rw [show gr m 870 55 = 909 from hM 55 (by omega)]
  cases F with
  | none =>
    by_cases h : a < 0
    · rw [if_pos h]
    · rw [if_neg h, hF.2.1, if_pos (Int32.not_lt.mp h)]
  | some F =>
    cases F with
    | inl g =>
      by_cases h : a < 0
      · rw [if_pos h]
      · rw [if_neg h, hF.2.1, if_pos (Int32.not_lt.mp h)]
    | inr L =>
      have hL : L.length ≤ 250 := by rw [hK.2]; exact rsL_le hO
      simp only
      rw [hF.2.1]
      rcases at_cases a L.length (by omega) with h | ⟨h1, h2⟩ | ⟨j, hj, rfl⟩
      · rw [if_pos h, if_pos (Or.inl h)]
      · rw [if_neg h1, if_pos h2, if_pos (Or.inr h2)]
      · have hn := nI_nlt0 (k := j) (by omega)
        have hng : ¬ nI L.length ≤ nI j := nI_ge (by omega) (by omega)
        have hor : ¬ (nI j < 0 ∨ nI L.length ≤ nI j) := fun z => z.elim hn hng
        obtain ⟨c, hc⟩ := get_some hj
        rw [if_neg hn, if_neg hng, if_neg hor, if_pos (ar_of s_909 (by omega) (by omega)), ix_nI (by omega), hF.2.2.2.2 j c hc, hc]
        rfl
def pkN (G : Rg) (F : Fnd) : Nat := match F with
  | some (.inl g) => nzC G.1.length g
  | _ => 0
def acN (F : Fnd) : Nat := match F with
  | some (.inr L) => L.length
  | _ => 0
theorem picked_C {m : Mi} {T : Nat → Nat} {n : Nat} {G : Rg} {F : Fnd} (hO : RO T n G) (hF : FnC m G F) (hK : FK T G F) : f_X1_picked TT m 860 = some (nI (pkN G F)) := by
  have hB1 := hO.2.1.1
  have none' : gi m 860 1 = 0 → f_X1_picked TT m 860 = some (nI 0) := fun h => by
    unfold f_X1_picked f_X1_picked_j4
    rw [show FUEL = (FUEL - 1) + 1 from rfl, lp_exit (y := 0)]
    · rfl
    · show f_X1_picked_l4 TT m 860 0 0 = _
      unfold f_X1_picked_l4
      rw [h, if_pos (by decide)]
  cases F with
  | none => exact none' hF.2.2.1
  | some F =>
    cases F with
    | inr L => exact none' hF.2.2.1
    | inl g =>
      have hfl : ∀ p, p < G.1.length → fr G p + cntR G.2.1 p ≤ 60 := fun p hp => by
        have := fr_le hO hp
        have := hO.2.1.2.1
        omega
      unfold f_X1_picked f_X1_picked_j4
      have h := lp_count (body := fun x : Int32 × Int32 => f_X1_picked_l4 TT m 860 x.1 x.2) (fun k => (nI (nzC k g), nI k)) (a := 0) (n := G.1.length) (y := nI (nzC G.1.length g)) (Nat.zero_le _) (by omega) (fun k _ hk => ?_) ?_
      · rw [show ((0 : Int32), (0 : Int32)) = (nI (nzC 0 g), nI 0) from rfl, h]
        rfl
      · show f_X1_picked_l4 TT m 860 (nI (nzC k g)) (nI k) = _
        unfold f_X1_picked_l4
        rw [hF.2.2.1, if_neg (nI_ge (by omega) (by omega)), hF.1.1, if_pos (ar_of s_861 (by omega) (by omega)), ix_nI (by omega), hF.2.2.2.2 k hk, nzC_succ]
        by_cases h0 : g k = 0
        · rw [if_pos h0, if_pos rfl, if_pos h0, lt_eq, lt_eq, nI_1]
          simp
        · rw [if_neg h0, if_neg h0, lt_eq, lt_eq, lt_eq, lt_eq, nI_1, nI_1]
          rw [if_neg (nneg (by have := hfl k hk; have := SL_le (show SL T G aT g from hK.1) hk; omega))]
      · show f_X1_picked_l4 TT m 860 (nI (nzC G.1.length g)) (nI G.1.length) = _
        unfold f_X1_picked_l4
        rw [hF.2.2.1, if_pos (nI_le (by omega) (by omega))]
def spCo (G : Rg) (F : Fnd) (S : Nat → List Row) (f : Nat) (a : Int32) : Int32 :=
  if a = 0 then nI G.1.length else if a = 1 then nI G.2.1.length else if a = 2 then nI G.2.2.length else if a = 3 then nI f else if a = 4 then nI (pkN G F) else if a = 5 then nI (acN F) else if sOk (a - 16) = true then nI ((S (ix (a - 16))).length / 2) else -1
theorem count_C {m : Mi} {T Tt : Nat → Nat} {n f : Nat} {G : Rg} {F : Fnd} {S : Nat → List Row} (hI : WFC m) (hS : CSl m S) (hT : Tap m 1 2 Tt f) (hR : CRg m T n G) (hO : RO T n G) (hF : FnC m G F) (hK : FK T G F) (a : Int32) : f_X11_count TT m 1 a = some (spCo G F S f a) := by
  obtain ⟨q, q', hqq, r8, r9, hcg, _⟩ := hR
  have hq : QS q := by rcases hqq with e | e <;> rw [e.1]; exact qs59; exact qs456
  have hD := hcg.1.2.2.1
  obtain ⟨⟨w1, w2, w3, w4, w5, w6, w7, w8, w9, w10⟩, w11⟩ := hI
  unfold f_X11_count spCo
  rw [r8, ob_of hq.2.1, if_pos rfl, if_pos rfl, if_pos rfl, w9, ob_of s_860, if_pos rfl, if_pos rfl, picked_C hO hF hK]
  unfold f_X6_packs f_X6_releases f_X6_constraints f_X1_accused
  rw [hD.1, hD.2.1, hD.2.2.1, hT.1]
  have h4 : gi m 860 4 = nI (acN F) := by
    cases F with
    | none => exact hF.2.2.2
    | some F =>
      cases F with
      | inl g => exact hF.2.2.2.1
      | inr L => exact hF.2.2.2.1
  rw [h4]
  simp only [Option.bind_some]
  by_cases h0 : a = 0
  · rw [if_pos h0, if_pos h0]
  by_cases h1 : a = 1
  · rw [if_neg h0, if_neg h0, if_pos h1, if_pos h1]
  by_cases h2 : a = 2
  · rw [if_neg h0, if_neg h0, if_neg h1, if_neg h1, if_pos h2, if_pos h2]
  by_cases h3 : a = 3
  · rw [if_neg h0, if_neg h0, if_neg h1, if_neg h1, if_neg h2, if_neg h2, if_pos h3, if_pos h3]
  by_cases h4' : a = 4
  · rw [if_neg h0, if_neg h0, if_neg h1, if_neg h1, if_neg h2, if_neg h2, if_neg h3, if_neg h3, if_pos h4', if_pos h4']
  by_cases h5 : a = 5
  · rw [if_neg h0, if_neg h0, if_neg h1, if_neg h1, if_neg h2, if_neg h2, if_neg h3, if_neg h3, if_neg h4', if_neg h4', if_pos h5, if_pos h5]
  rw [if_neg h0, if_neg h0, if_neg h1, if_neg h1, if_neg h2, if_neg h2, if_neg h3, if_neg h3, if_neg h4', if_neg h4', if_neg h5, if_neg h5]
  rcases sOk_cases (a - 16) with ⟨a1, a2, -⟩ | ⟨k, hk, e, a1, a2, -⟩
  · rw [a1, a2, Option.bind_some, if_pos rfl, if_neg (by decide)]
  · rw [a1, a2, Option.bind_some, if_neg (by decide), if_pos rfl, e, w2, if_pos (ar_of s_3 hk (by omega)), ix_nI (by omega), w11 k hk, ob_of (hS.1 k hk).1, if_pos rfl, stretches_spec (hS.1 k hk), Option.bind_some]
theorem count_M {m : Mi} {T Tt : Nat → Nat} {n f : Nat} {G : Rg} {F : Fnd} {S : Nat → List Row} (hM : WFM m) (hS : MSl m S) (hT : Tap m 870 871 Tt f) (hR : MRg m T n G) (hO : RO T n G) (hF : FnM m G F) (a : Int32) : f_X12_count TT m 870 a = some (spCo G F S f a) := by
  obtain ⟨s, hs, h21, hRs⟩ := hR
  have hD := hRs.1.1
  unfold f_X12_count spCo
  rw [h21, hM.W.1, hM.W.2.1, if_pos (ar_of s_881 hs (by omega)), if_pos (ar_of s_882 hs (by omega)), ix_nI (n := s) (by omega), hD.1, hD.2.1, cons_M hM hs h21 hD, hT.1]
  have h4 : gi m 870 51 = nI (pkN G F) := by
    cases F with
    | none => exact hF.2.2.1
    | some F =>
      cases F with
      | inl g => exact hF.2.2.1
      | inr L => exact hF.2.2.1
  have h5' : gi m 870 50 = nI (acN F) := by
    cases F with
    | none => exact hF.2.1
    | some F =>
      cases F with
      | inl g => exact hF.2.1
      | inr L => exact hF.2.1
  rw [h4, h5']
  simp only [Option.bind_some]
  by_cases h0 : a = 0
  · rw [if_pos h0, if_pos h0]
  by_cases h1 : a = 1
  · rw [if_neg h0, if_neg h0, if_pos h1, if_pos h1]
  by_cases h2 : a = 2
  · rw [if_neg h0, if_neg h0, if_neg h1, if_neg h1, if_pos h2, if_pos h2]
  by_cases h3 : a = 3
  · rw [if_neg h0, if_neg h0, if_neg h1, if_neg h1, if_neg h2, if_neg h2, if_pos h3, if_pos h3]
  by_cases h4' : a = 4
  · rw [if_neg h0, if_neg h0, if_neg h1, if_neg h1, if_neg h2, if_neg h2, if_neg h3, if_neg h3, if_pos h4', if_pos h4']
  by_cases h5 : a = 5
  · rw [if_neg h0, if_neg h0, if_neg h1, if_neg h1, if_neg h2, if_neg h2, if_neg h3, if_neg h3, if_neg h4', if_neg h4', if_pos h5, if_pos h5]
  rw [if_neg h0, if_neg h0, if_neg h1, if_neg h1, if_neg h2, if_neg h2, if_neg h3, if_neg h3, if_neg h4', if_neg h4', if_neg h5, if_neg h5]
  have key : (a < 16 ∨ (32 : Int32) ≤ a) ∨ ∃ k, k < 16 ∧ a = nI (16 + k) := by
    by_cases h : a < 16
    · exact Or.inl (Or.inl h)
    · by_cases h2 : (32 : Int32) ≤ a
      · exact Or.inl (Or.inr h2)
      · have hn : ¬ a < 0 := fun z => h (by rw [Int32.lt_iff_toInt_lt] at *; have e0 : (0 : Int32).toInt = 0 := by decide
                                            have e1 : (16 : Int32).toInt = 16 := by decide
                                            omega)
        obtain ⟨k, hk, rfl⟩ := nI_of hn
        have k1 : 16 ≤ k := by
          rcases Nat.lt_or_ge k 16 with h3 | h3
          · exact absurd (nI_lt (b := 16) h3 (by omega)) h
          · exact h3
        have k2 : k < 32 := by
          rcases Nat.lt_or_ge k 32 with h3 | h3
          · exact h3
          · exact absurd (nI_le (a := 32) h3 hk) h2
        exact Or.inr ⟨k - 16, by omega, by rw [show 16 + (k - 16) = k by omega]⟩
  rcases key with h | ⟨k, hk, rfl⟩
  · have hno : sOk (a - 16) = false := by
      rcases sOk_cases (a - 16) with ⟨a1, -, -⟩ | ⟨k, hk, e, a1, -, -⟩
      · exact a1
      · exfalso
        have ea : a = nI (16 + k) := by
          rw [Nat.add_comm, ← nI_add, ← e]
          exact (Int32.sub_add_cancel a 16).symm
        rw [ea] at h
        rcases h with h | h
        · exact nI_nlt (b := 16) (by omega) (by omega) h
        · exact nI_ge (b := 32) (by omega) (by omega) h
    rw [hno, if_neg Bool.false_ne_true]
    by_cases h6 : a < 16
    · rw [if_pos h6]
    · rw [if_neg h6, if_pos (h.resolve_left h6)]
  · have e : nI (16 + k) - 16 = nI k := by
      rw [Nat.add_comm, ← nI_add]
      exact Int32.add_sub_cancel _ _
    rw [if_neg (show ¬ nI (16 + k) < 16 from nI_nlt (b := 16) (by omega) (by omega)), if_neg (show ¬ (32 : Int32) ≤ nI (16 + k) from nI_ge (b := 32) (by omega) (by omega)), e]
    rcases sOk_cases (nI k) with ⟨a1, a2, -⟩ | ⟨k', hk', e', a1, a2, -⟩
    · exfalso
      unfold f_X11_isSlot at a2
      rw [if_neg (nI_nlt0 (by omega)), if_neg (show ¬ (16 : Int32) ≤ nI k from nI_ge (b := 16) hk (by omega))] at a2
      cases a2
    · rw [a1, if_pos rfl]
      unfold f_X12_slotOf
      obtain ⟨z, z1, z2, z3, _⟩ := hS k hk
      rw [Option.bind_some, show (250 : Int32) = nI 250 from rfl, nI_add, show gr m 870 7 = 874 from hM 7 (by omega), if_pos (ar_of s_874 (by omega) (by omega)), ix_nI (by omega), z3, ix_nI (by omega), z1, show 2 * z / 2 = z by omega]
/-- whether release b is in slot a -/
def spHo (T : Nat → Nat) (G : Rg) (S : Nat → List Row) (a b : Int32) : Int32 := if sOk a = true then if b < 0 ∨ nI G.2.1.length ≤ b then -1 else bI (par (S (ix a)) (rvR T G.2.1 (ix b))) else -1
theorem holds_C {m : Mi} {T : Nat → Nat} {n : Nat} {G : Rg} {S : Nat → List Row} (hI : WFC m) (hS : CSl m S) (hG : GS S) (hR : CRg m T n G) (hO : RO T n G) (a b : Int32) : f_X11_holds TT m 1 a b = some (spHo T G S a b) := by
  have hB := hO.2.1
  have hB2 := hB.2.1
  obtain ⟨q, q', hqq, r8, r9, hcg, _⟩ := hR
  have hq : QS q := by rcases hqq with e | e <;> rw [e.1]; exact qs59; exact qs456
  have hD := hcg.1.2.2.1
  obtain ⟨⟨w1, w2, w3, w4, w5, w6, w7, w8, w9, w10⟩, w11⟩ := hI
  unfold f_X11_holds spHo
  rw [r8, ob_of hq.2.1, if_pos rfl]
  rcases at_cases b G.2.1.length (by omega) with h | ⟨h1, h2⟩ | ⟨j, hj, rfl⟩
  · rw [releaseAt_no hD (Or.inl h), Option.bind_some]
    rcases sOk_cases a with ⟨a1, a2, -⟩ | ⟨k, hk, rfl, a1, a2, -⟩
    · rw [a1, a2, Option.bind_some, if_pos rfl, if_neg (by decide)]
    · rw [a1, a2, Option.bind_some, if_neg (by decide), if_pos rfl, if_pos rfl, if_pos (Or.inl h)]
  · rw [releaseAt_no hD (Or.inr h2), Option.bind_some]
    rcases sOk_cases a with ⟨a1, a2, -⟩ | ⟨k, hk, rfl, a1, a2, -⟩
    · rw [a1, a2, Option.bind_some, if_pos rfl, if_neg (by decide)]
    · rw [a1, a2, Option.bind_some, if_neg (by decide), if_pos rfl, if_pos rfl, if_pos (Or.inr h2)]
  · rw [releaseAt_C hq hcg.1.1 hD hB hj, Option.bind_some]
    rcases sOk_cases a with ⟨a1, a2, -⟩ | ⟨k, hk, rfl, a1, a2, -⟩
    · rw [a1, a2, Option.bind_some, if_pos rfl, if_neg (by decide)]
    · obtain ⟨y, hy⟩ := get_some hj
      have hrow := (hD.2.2.2.2.2.1 j y hy).2.2.2.2.2
      obtain ⟨k0, hk0⟩ := (hG k hk).half
      have hss := hq.2.2.2.2.2.2.2.2.2.1 j (by omega)
      have hor : ¬ (nI j < 0 ∨ nI G.2.1.length ≤ nI j) := fun z => z.elim (nI_nlt0 (by omega)) (nI_ge (by omega) (by omega))
      rw [a1, a2, Option.bind_some, if_neg (by decide), if_neg (show ¬ q + 24 + 2 * j = 0 by omega), if_pos rfl, if_neg hor, w2, if_pos (ar_of s_3 hk (by omega)), ob_of hss.1, if_pos rfl, ix_nI (n := k) (by omega), w11 k hk, ob_of (hS.1 k hk).1, if_pos rfl, (hcg.1.1.2.2.2.2.2.2.2.1 j (by omega)).2, has_spec (hS.1 k hk) hss.2 (by omega) (by omega) hk0 (hG k hk).1, Option.bind_some, hrow, ix_nI (n := j) (by omega), rvR_get hy]
      cases par (S k) (rwv T y.2.1 y.2.2.1) with
      | false => rw [if_pos bF]; rfl
      | true => rw [if_neg bTr]; rfl
theorem holds_M {m : Mi} {T : Nat → Nat} {n : Nat} {G : Rg} {S : Nat → List Row} (hM : WFM m) (hS : MSl m S) (hG : GS S) (hR : MRg m T n G) (hO : RO T n G) (a b : Int32) : f_X12_holds TT m 870 a b = some (spHo T G S a b) := by
  have hB := hO.2.1
  have hB2 := hB.2.1
  obtain ⟨s, hs, h21, hRs⟩ := hR
  unfold f_X12_holds spHo
  rcases sOk_cases a with ⟨a1, -, a2⟩ | ⟨k, hk, rfl, a1, -, a2⟩
  · rw [a1, a2, Option.bind_some, if_pos rfl, if_neg (by decide)]
  · rw [a1, a2, Option.bind_some, if_neg (by decide), if_pos rfl, h21, hM.W.2.1, if_pos (ar_of s_882 hs (by omega)), ix_nI (n := s) (by omega), hRs.1.1.2.1]
    rcases at_cases b G.2.1.length (by omega) with h | ⟨h1, h2⟩ | ⟨j, hj, rfl⟩
    · rw [if_pos h, if_pos (Or.inl h)]
    · rw [if_neg h1, if_neg (Int32.not_lt.mpr h2), if_pos (Or.inr h2)]
    · have hor : ¬ (nI j < 0 ∨ nI G.2.1.length ≤ nI j) := fun z => z.elim (nI_nlt0 (by omega)) (nI_ge (by omega) (by omega))
      obtain ⟨y, hy⟩ := get_some hj
      have ey := hRs.1.2.2.1 j y hy
      unfold f_X12_slotOf
      rw [if_neg (nI_nlt0 (by omega)), if_pos (nI_lt hj (by omega)), if_neg hor, Option.bind_some, show (250 : Int32) = nI 250 from rfl, nI_add, show (60 : Int32) = nI 60 from rfl, pk_mul, nI_add, show (9 : Int32) = nI 9 from rfl, pk_mul, show gr m 870 33 = 891 from hM 33 (by omega), mhas_spec hM (by omega) (hS k hk) (hG k hk).1 s_891 (by omega) (by omega) ey.2.2.2.1, Option.bind_some, ey.2.2.2.2, ix_nI (n := k) (by omega), ix_nI (n := j) (by omega), rvR_get hy]
      cases par (S k) (rwv T y.2.1 y.2.2.1) with
      | false => rw [if_pos bF]; rfl
      | true => rw [if_neg bTr]; rfl
