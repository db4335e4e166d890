/-! why of the class. -/
theorem dS_lt {T : Nat → Nat} {G : Rg} {F : Fnd} : ∀ r q v, dS T G F r q = some v → v ≤ r := by
  intro r
  induction r with
  | zero => intro q v h; have := (dW_some h).1; omega
  | succ r ih =>
    intro q v h
    rw [dS] at h
    unfold dK at h
    cases hq : dS T G F r q with
    | some w =>
      rw [hq] at h
      have := ih q w hq
      have := Option.some.inj h
      omega
    | none =>
      rw [hq] at h
      simp only at h
      split at h
      · have := Option.some.inj h
        omega
      · cases h
theorem wantsC_lp {q n p : Nat} {T : Nat → Nat} {G : Rg} {F : Fnd} (hO : RO T n G) (hp : p < G.1.length) : ∀ (d k N : Nat) (m : Mi), k + d = G.2.2.length → lnkN G.2.2 ≤ k → d < N → CW q m T n G F → StM m 863 G.1.length (dW T G k) → (∀ c, lnkN G.2.2 ≤ c → c < k → tgc T G c ≠ p) →
    ∃ m', FI (fun x j => x = 863) m m' ∧ ((∃ c, FW T G p c ∧ lp (fun x : Int32 × Mi => f_X1_reachedBy_l13 TT x.2 860 q (nI p) x.1) N (nI k, m) = some (.inr (nI c, m'))) ∨ (NW T G p ∧ lp (fun x : Int32 × Mi => f_X1_reachedBy_l13 TT x.2 860 q (nI p) x.1) N (nI k, m) = some (.inl m') ∧ StM m' 863 G.1.length (dS T G F 0))) := by
  have hB := hO.2.1
  have hB3 := hB.2.2
  intro d
  induction d with
  | zero =>
    intro k N m hk hlk hN hW hS hno
    obtain ⟨N, rfl⟩ : ∃ y, N = y + 1 := ⟨N - 1, by omega⟩
    have hkl : k = G.2.2.length := by omega
    refine ⟨m, FI.rf, Or.inr ⟨fun c h1 h2 => hno c h1 (by omega), lp_exit ?_, by rw [dS, ← hkl]; exact hS⟩⟩
    show f_X1_reachedBy_l13 TT m 860 q (nI p) (nI k) = _
    unfold f_X1_reachedBy_l13 f_X6_constraints
    rw [Option.bind_some, hW.2.1.2.2.1.2.2.1, if_pos (nI_le (by omega) (by omega))]
  | succ d ih =>
    intro k N m hk hlk hN hW hS hno
    obtain ⟨N, rfl⟩ : ∃ y, N = y + 1 := ⟨N - 1, by omega⟩
    have hc : k < G.2.2.length := by omega
    have ht := tgc_lt hO hc
    have hcon : ∀ m', CW q m' T n G F → f_X6_constraintAt TT m' q (nI k) = some (q + 145 + k) := fun m' h => conAt_C h.1 h.2.1.1 h.2.1.2.2.1 hB hc
    have hre := reaches_C (v := 0) hO hW hS hc
    obtain ⟨dw1, dw2⟩ := dW_succ (T := T) hlk
    have f1 : FI (fun x j => x = 863) m (si m 863 (tgc T G k) (nI 0)) := FI.si (P := fun x j => x = 863) rfl
    have hW1 := hW.keep hB f1
    have hstart : f_X1_reachedBy_l13 TT m 860 q (nI p) (nI k) = if dW T G k (tgc T G k) = none then (if tgc T G k = p then some (.inr (.inr (nI k, si m 863 (tgc T G k) (nI 0)))) else some (.inl (nI (k + 1), si m 863 (tgc T G k) (nI 0)))) else some (.inl (nI (k + 1), m)) := by
      unfold f_X1_reachedBy_l13 f_X6_constraints
      rw [Option.bind_some, hW.2.1.2.2.1.2.2.1, if_neg (nI_ge (by omega) (by omega)), hcon m hW, Option.bind_some, show f_X1_reaches TT m 860 (q + 145 + k) 0 = _ from hre]
      by_cases hn : dW T G k (tgc T G k) = none
      · rw [if_pos hn, if_pos hn, bd_some, if_neg (by decide), hcon _ hW1, Option.bind_some, targetIs_C hO hW1 hc hp, Option.bind_some]
        by_cases htp : tgc T G k = p
        · rw [decide_eq_true htp, if_neg bTr, if_pos htp]
        · rw [decide_eq_false htp, if_pos bF, if_neg htp, lt_eq, nI_1]
      · rw [if_neg hn, if_neg hn, bd_some, if_pos rfl, lt_eq, nI_1]
    by_cases hn : dW T G k (tgc T G k) = none
    · rw [if_pos hn] at hstart
      by_cases htp : tgc T G k = p
      · rw [if_pos htp] at hstart
        exact ⟨_, f1, Or.inl ⟨k, ⟨hlk, hc, htp, fun c' h1 h2 => hno c' h1 h2⟩, lp_exit hstart⟩⟩
      · rw [if_neg htp] at hstart
        obtain ⟨m', f2, g2⟩ := ih (k + 1) N _ (by omega) (by omega) (by omega) hW1 (StM_set hS (by omega) dw2 dw1) (fun c h1 h2 => by
          by_cases hck : c = k
          · rw [hck]; exact htp
          · exact hno c h1 (by omega))
        rw [lp_step (show (fun x : Int32 × Mi => f_X1_reachedBy_l13 TT x.2 860 q (nI p) x.1) (nI k, m) = _ from hstart)]
        exact ⟨m', f1.tr f2, g2⟩
    · rw [if_neg hn] at hstart
      obtain ⟨v, hv⟩ : ∃ v, dW T G k (tgc T G k) = some v := by
        cases h : dW T G k (tgc T G k) with
        | none => exact absurd h hn
        | some v => exact ⟨v, rfl⟩
      obtain ⟨hv0, c0, c1, c2, c3⟩ := dW_some hv
      have htp : tgc T G k ≠ p := fun z => hno c0 c2 c1 (c3.trans z)
      obtain ⟨m', f2, g2⟩ := ih (k + 1) N m (by omega) (by omega) (by omega) hW (fun q' hq' => by
        have h := hS q' hq'
        by_cases hqt : q' = tgc T G k
        · rw [hqt, dw2, ← hv0, ← hv, ← hqt]; exact h
        · rw [dw1 q' hqt]; exact h) (fun c h1 h2 => by
        by_cases hck : c = k
        · rw [hck]; exact htp
        · exact hno c h1 (by omega))
      rw [lp_step (show (fun x : Int32 × Mi => f_X1_reachedBy_l13 TT x.2 860 q (nI p) x.1) (nI k, m) = _ from hstart)]
      exact ⟨m', f2, g2⟩
/-- one round over the links -/
theorem linksC_lp {q n p r : Nat} {T : Nat → Nat} {G : Rg} {F : Fnd} (hO : RO T n G) (hp : p < G.1.length) (hr : r < 900) (hdp : dS T G F r p = none) : ∀ (d k N : Nat) (m : Mi), k + d = lnkN G.2.2 → d < N → CW q m T n G F → StM m 863 G.1.length (dK T G F (dS T G F r) r k) → (∀ c, c < k → Qb T G F (dS T G F r) r p c = false) →
    ∃ m', FI (fun x j => x = 863) m m' ∧ ((∃ c, FLk T G F p r c ∧ lp (fun x : Int32 × Mi => f_X1_reachedBy_l67 TT x.2 860 q (nI p) (nI (r + 1)) x.1) N (nI k, m) = some (.inr (nI c, m'))) ∨ (NLk T G F p r ∧ lp (fun x : Int32 × Mi => f_X1_reachedBy_l67 TT x.2 860 q (nI p) (nI (r + 1)) x.1) N (nI k, m) = some (.inl m') ∧ StM m' 863 G.1.length (dS T G F (r + 1)))) := by
  have hB := hO.2.1
  have hB3 := hB.2.2
  have hl := lnkN_le G.2.2
  intro d
  induction d with
  | zero =>
    intro k N m hk hN hW hS hno
    obtain ⟨N, rfl⟩ : ∃ y, N = y + 1 := ⟨N - 1, by omega⟩
    have hkl : k = lnkN G.2.2 := by omega
    refine ⟨m, FI.rf, Or.inr ⟨fun c h1 => hno c (by omega), lp_exit ?_, by rw [dS, ← hkl]; exact hS⟩⟩
    show f_X1_reachedBy_l67 TT m 860 q (nI p) (nI (r + 1)) (nI k) = _
    unfold f_X1_reachedBy_l67 f_X6_links
    rw [Option.bind_some, hW.2.1.2.2.1.2.2.2.1, if_pos (nI_le (by omega) (by omega))]
  | succ d ih =>
    intro k N m hk hN hW hS hno
    obtain ⟨N, rfl⟩ : ∃ y, N = y + 1 := ⟨N - 1, by omega⟩
    have hc : k < G.2.2.length := by omega
    have ht := tgc_lt hO hc
    have hre := reaches_C (v := r + 1) hO hW hS hc
    have htk := isTaken_C (r := r) hO hW hS (show k < lnkN G.2.2 by omega) (by omega)
    have f1 : FI (fun x j => x = 863) m (si m 863 (tgc T G k) (nI (r + 1))) := FI.si (P := fun x j => x = 863) rfl
    have hW1 := hW.keep hB f1
    have hdec : decide (dK T G F (dS T G F r) r k (hpk G k) = some r) = decide (dS T G F r (hpk G k) = some r) := by
      by_cases h : dS T G F r (hpk G k) = some r
      · rw [decide_eq_true h, decide_eq_true (dK_r.mpr h)]
      · rw [decide_eq_false h, decide_eq_false (fun z => h (dK_r.mp z))]
    rw [hdec] at htk
    have hother : ∀ q', q' ≠ tgc T G k → dK T G F (dS T G F r) r (k + 1) q' = dK T G F (dS T G F r) r k q' := fun q' hq' => dK_no (by
      unfold Qb
      rw [decide_eq_false (p := tgc T G k = q') (fun z => hq' z.symm), Bool.and_false, Bool.and_false])
    cases hb : (tkB G F k && decide (dS T G F r (hpk G k) = some r)) with
    | false =>
      rw [hb] at htk
      have hQ : ∀ q', Qb T G F (dS T G F r) r q' k = false := fun q' => by
        unfold Qb
        rw [← Bool.and_assoc, hb, Bool.false_and]
      have hstart : f_X1_reachedBy_l67 TT m 860 q (nI p) (nI (r + 1)) (nI k) = some (.inl (nI (k + 1), m)) := by
        unfold f_X1_reachedBy_l67 f_X6_links
        rw [Option.bind_some, hW.2.1.2.2.1.2.2.2.1, if_neg (nI_ge (by omega) (by omega)), conAt_C hW.1 hW.2.1.1 hW.2.1.2.2.1 hB hc, Option.bind_some, nI_pred, htk, Option.bind_some, if_pos bF, lt_eq, nI_1]
      obtain ⟨m', f2, g2⟩ := ih (k + 1) N m (by omega) (by omega) hW (fun q' hq' => by rw [dK_no (hQ q')]; exact hS q' hq') (fun c h1 => by
        by_cases hck : c = k
        · rw [hck]; exact hQ p
        · exact hno c (by omega))
      rw [lp_step (show (fun x : Int32 × Mi => f_X1_reachedBy_l67 TT x.2 860 q (nI p) (nI (r + 1)) x.1) (nI k, m) = _ from hstart)]
      exact ⟨m', f2, g2⟩
    | true =>
      rw [hb] at htk
      have hQt : Qb T G F (dS T G F r) r (tgc T G k) k = true := by
        unfold Qb
        rw [← Bool.and_assoc, hb, decide_eq_true rfl]
        rfl
      have hstart : f_X1_reachedBy_l67 TT m 860 q (nI p) (nI (r + 1)) (nI k) = if dK T G F (dS T G F r) r k (tgc T G k) = none then (if tgc T G k = p then some (.inr (.inr (nI k, si m 863 (tgc T G k) (nI (r + 1))))) else some (.inl (nI (k + 1), si m 863 (tgc T G k) (nI (r + 1))))) else some (.inl (nI (k + 1), m)) := by
        unfold f_X1_reachedBy_l67 f_X6_links
        rw [Option.bind_some, hW.2.1.2.2.1.2.2.2.1, if_neg (nI_ge (by omega) (by omega)), conAt_C hW.1 hW.2.1.1 hW.2.1.2.2.1 hB hc, Option.bind_some, nI_pred, htk, Option.bind_some, if_neg bTr, hre]
        by_cases hn : dK T G F (dS T G F r) r k (tgc T G k) = none
        · rw [if_pos hn, if_pos hn, bd_some, if_neg (by decide), targetIs_C hO hW1 hc hp, Option.bind_some]
          by_cases htp : tgc T G k = p
          · rw [decide_eq_true htp, if_neg bTr, if_pos htp]
          · rw [decide_eq_false htp, if_pos bF, if_neg htp, lt_eq, nI_1]
        · rw [if_neg hn, if_neg hn, bd_some, if_pos rfl, lt_eq, nI_1]
      by_cases hn : dK T G F (dS T G F r) r k (tgc T G k) = none
      · rw [if_pos hn] at hstart
        have hst : dS T G F r (tgc T G k) = none := by
          cases h : dS T G F r (tgc T G k) with
          | none => rfl
          | some v => rw [dK_old h] at hn; cases hn
        by_cases htp : tgc T G k = p
        · rw [if_pos htp] at hstart
          exact ⟨_, f1, Or.inl ⟨k, ⟨by omega, by rw [← htp]; exact hQt, hno⟩, lp_exit hstart⟩⟩
        · rw [if_neg htp] at hstart
          obtain ⟨m', f2, g2⟩ := ih (k + 1) N _ (by omega) (by omega) hW1 (StM_set hS (by omega) (dK_yes hQt hst) hother) (fun c h1 => by
            by_cases hck : c = k
            · rw [hck]
              unfold Qb
              rw [decide_eq_false (p := tgc T G k = p) htp, Bool.and_false, Bool.and_false]
            · exact hno c (by omega))
          rw [lp_step (show (fun x : Int32 × Mi => f_X1_reachedBy_l67 TT x.2 860 q (nI p) (nI (r + 1)) x.1) (nI k, m) = _ from hstart)]
          exact ⟨m', f1.tr f2, g2⟩
      · rw [if_neg hn] at hstart
        have htp : tgc T G k ≠ p := fun z => by
          apply hn
          rw [z]
          unfold dK
          rw [hdp]
          simp only
          rw [if_neg]
          rw [List.any_eq_true]
          rintro ⟨c, h1, h2⟩
          rw [hno c (List.mem_range.mp h1)] at h2
          cases h2
        have hsame : dK T G F (dS T G F r) r (k + 1) (tgc T G k) = dK T G F (dS T G F r) r k (tgc T G k) := by
          cases h : dS T G F r (tgc T G k) with
          | some v => rw [dK_old h, dK_old h]
          | none =>
            rw [dK_yes hQt h]
            unfold dK at hn ⊢
            rw [h] at hn ⊢
            simp only at hn ⊢
            split
            · rfl
            · rename_i h2
              rw [if_neg h2] at hn
              exact absurd rfl hn
        obtain ⟨m', f2, g2⟩ := ih (k + 1) N m (by omega) (by omega) hW (fun q' hq' => by
          by_cases hqt : q' = tgc T G k
          · rw [hqt, hsame, ← hqt]; exact hS q' hq'
          · rw [hother q' hqt]; exact hS q' hq') (fun c h1 => by
          by_cases hck : c = k
          · rw [hck]
            unfold Qb
            rw [decide_eq_false (p := tgc T G k = p) htp, Bool.and_false, Bool.and_false]
          · exact hno c (by omega))
        rw [lp_step (show (fun x : Int32 × Mi => f_X1_reachedBy_l67 TT x.2 860 q (nI p) (nI (r + 1)) x.1) (nI k, m) = _ from hstart)]
        exact ⟨m', f2, g2⟩
theorem NLk_next {T : Nat → Nat} {G : Rg} {F : Fnd} {p r : Nat} (h : NLk T G F p r) (hd : dS T G F r p = none) : dS T G F (r + 1) p = none := by
  rw [dS]
  unfold dK
  rw [hd]
  simp only
  rw [if_neg]
  rw [List.any_eq_true]
  rintro ⟨c, h1, h2⟩
  rw [h c (List.mem_range.mp h1)] at h2
  cases h2
theorem roundsC_lp {q n p : Nat} {T : Nat → Nat} {G : Rg} {F : Fnd} (hO : RO T n G) (hp : p < G.1.length) (hnw : NW T G p) : ∀ (d r N : Nat) (m : Mi), r + 1 + d = G.1.length → d < N → CW q m T n G F → gi m 860 1 = nI G.1.length → StM m 863 G.1.length (dS T G F r) → dS T G F r p = none → (∀ r', r' < r → NLk T G F p r') →
    ∃ v m', (lp (fun x : Int32 × Mi => f_X1_reachedBy_l56 TT x.2 860 q (nI p) x.1) N (nI (r + 1), m)).bind (Sum.elim (fun y : Mi => f_X1_reachedBy_j131 TT y) (fun y : Int32 × Mi => f_X1_reachedBy_j116 TT (y.2) (y.1))) = some (v, m') ∧ FI (fun x j => x = 863) m m' ∧ WhyR T G F p v := by
  have hB := hO.2.1
  have hB1 := hB.1
  have hB3 := hB.2.2
  have hl := lnkN_le G.2.2
  intro d
  induction d with
  | zero =>
    intro r N m hr hN hW h1 hS hd hno
    obtain ⟨N, rfl⟩ : ∃ y, N = y + 1 := ⟨N - 1, by omega⟩
    refine ⟨-1, m, ?_, FI.rf, Or.inr ⟨hnw, Or.inr ⟨fun r' hr' => hno r' (by omega), rfl⟩⟩⟩
    rw [lp_exit (y := .inl m) (show f_X1_reachedBy_l56 TT m 860 q (nI p) (nI (r + 1)) = _ by
      unfold f_X1_reachedBy_l56
      rw [h1, if_pos (nI_le (by omega) (by omega))])]
    rfl
  | succ d ih =>
    intro r N m hr hN hW h1 hS hd hno
    obtain ⟨N, rfl⟩ : ∃ y, N = y + 1 := ⟨N - 1, by omega⟩
    obtain ⟨m1, f1, g1⟩ := linksC_lp hO hp (show r < 900 by omega) hd (lnkN G.2.2) 0 FUEL m (by omega) (by unfold FUEL; omega) hW (fun q' hq' => by rw [dK_zero]; exact hS q' hq') (fun c hc => by omega)
    have hstart : f_X1_reachedBy_l56 TT m 860 q (nI p) (nI (r + 1)) = f_X1_reachedBy_j67 TT m 860 q (nI p) (nI (r + 1)) 0 := by
      unfold f_X1_reachedBy_l56
      rw [h1, if_neg (nI_ge (by omega) (by omega))]
    unfold f_X1_reachedBy_j67 at hstart
    rw [show ((0 : Int32), m) = (nI 0, m) from rfl] at hstart
    rcases g1 with ⟨c, hc, e1⟩ | ⟨hnl, e1, s1⟩
    · rw [e1, Option.bind_some] at hstart
      refine ⟨nI c, m1, ?_, f1, Or.inr ⟨hnw, Or.inl ⟨r, c, by omega, hc, hno, rfl⟩⟩⟩
      rw [lp_exit (show (fun x : Int32 × Mi => f_X1_reachedBy_l56 TT x.2 860 q (nI p) x.1) (nI (r + 1), m) = _ from hstart)]
      rfl
    · rw [e1, Option.bind_some] at hstart
      have hstep : f_X1_reachedBy_l56 TT m 860 q (nI p) (nI (r + 1)) = some (.inl (nI (r + 1 + 1), m1)) := by
        rw [hstart]
        show f_X1_reachedBy_j125 TT m1 860 q (nI p) (nI (r + 1)) = _
        unfold f_X1_reachedBy_j125
        rw [lt_eq, nI_1]
      obtain ⟨v, m', e2, f2, g2⟩ := ih (r + 1) N m1 (by omega) (by omega) (hW.keep hB f1) ((f1.1 _ _ (by omega)).trans h1) s1 (NLk_next hnl hd) (fun r' hr' => by
        by_cases h : r' = r
        · rw [h]; exact hnl
        · exact hno r' (by omega))
      rw [lp_step (show (fun x : Int32 × Mi => f_X1_reachedBy_l56 TT x.2 860 q (nI p) x.1) (nI (r + 1), m) = _ from hstep)]
      exact ⟨v, m', e2, f1.tr f2, g2⟩
theorem why_C {m : Mi} {T : Nat → Nat} {n : Nat} {G : Rg} {F : Fnd} (hI : WFC m) (hR : CRg m T n G) (hO : RO T n G) (hF : FnC m G F) (a : Int32) :
    ∃ v m', f_X11_why TT m 1 a = some (v, m') ∧ FI (fun x j => x = 863) m m' ∧ ((spCh G F a = -1 ∧ v = -1) ∨ (spCh G F a ≠ -1 ∧ ∃ p, p < G.1.length ∧ a = nI p ∧ WhyR T G F p v)) := by
  have hB := hO.2.1
  have hB1 := hB.1
  have hB3 := hB.2.2
  have hl := lnkN_le G.2.2
  obtain ⟨q, q', hqq, r8, r9, hcg, _⟩ := hR
  have hq : QS q := by rcases hqq with e | e <;> rw [e.1]; exact qs59; exact qs456
  have w9 := hI.1.2.2.2.2.2.2.2.2.1
  have hW : CW q m T n G F := ⟨hq, hcg.1, hF⟩
  unfold f_X11_why
  rw [w9, ob_of s_860, if_pos rfl, releaseOf_C hO hF, Option.bind_some, r8]
  by_cases hc : spCh G F a = -1
  · rw [if_pos hc]
    exact ⟨-1, m, rfl, FI.rf, Or.inl ⟨hc, rfl⟩⟩
  · rw [if_neg hc]
    obtain ⟨g, rfl, p, hp, rfl⟩ : ∃ g, F = some (.inl g) ∧ ∃ p, p < G.1.length ∧ a = nI p := by
      cases F with
      | none => exact absurd rfl hc
      | some F =>
        cases F with
        | inr L => exact absurd rfl hc
        | inl g =>
          refine ⟨g, rfl, ?_⟩
          rcases at_cases a G.1.length (by omega) with h | ⟨h1, h2⟩ | ⟨j, hj, e⟩
          · exact absurd (if_pos (Or.inl h)) hc
          · exact absurd (if_pos (Or.inr h2)) hc
          · exact ⟨j, hj, e⟩
    have f0 : FI (fun x j => x = 863) m (blkI m 863 0 10 (fun _ => (-1 : Int32))) := ⟨fun x j z => by simp only [mS]; rw [if_neg (by omega)], fun _ _ => rfl, fun _ _ => rfl⟩
    have hW0 := hW.keep hB f0
    have hS0 : StM (blkI m 863 0 10 (fun _ => (-1 : Int32))) 863 G.1.length (dW T G (lnkN G.2.2)) := fun q' hq' => Or.inl ⟨dW_lnk q', (by simp [mS, show q' < 10 from by omega])⟩
    have h1 : gi (blkI m 863 0 10 (fun _ => (-1 : Int32))) 860 1 = nI G.1.length := (f0.1 _ _ (by omega)).trans hF.2.2.1
    unfold f_X1_reachedBy
    rw [hF.1.2.2, fill_i s_863 (by omega), Option.bind_some, ob_of hq.2.1, if_pos rfl]
    generalize blkI m 863 0 10 (fun _ => (-1 : Int32)) = m0 at *
    unfold f_X6_links f_X1_reachedBy_j13
    rw [Option.bind_some, hW0.2.1.2.2.1.2.2.2.1]
    obtain ⟨m1, f1, g1⟩ := wantsC_lp hO hp (G.2.2.length - lnkN G.2.2) (lnkN G.2.2) FUEL m0 (by omega) (by omega) (by unfold FUEL; omega) hW0 hS0 (fun c a1 a2 => by omega)
    rcases g1 with ⟨c, hfw, e1⟩ | ⟨hnw, e1, s1⟩
    · rw [e1, Option.bind_some]
      exact ⟨nI c, m1, rfl, f0.tr f1, Or.inr ⟨hc, p, hp, rfl, Or.inl ⟨c, hfw, rfl⟩⟩⟩
    · rw [e1, Option.bind_some]
      have hd0 : dS T G (some (.inl g)) 0 p = none := by
        cases h : dS T G (some (.inl g)) 0 p with
        | none => rfl
        | some v =>
          obtain ⟨_, c, c1, c2, c3⟩ := dW_some h
          exact absurd c3 (hnw c c2 c1)
      obtain ⟨v, m2, e2, f2, g2⟩ := roundsC_lp hO hp hnw (G.1.length - 1) 0 FUEL m1 (by omega) (by unfold FUEL; omega) (hW0.keep hB f1) ((f1.1 _ _ (by omega)).trans h1) s1 hd0 (fun r' hr' => by omega)
      refine ⟨v, m2, ?_, (f0.tr f1).tr f2, Or.inr ⟨hc, p, hp, rfl, g2⟩⟩
      show bd (f_X1_reachedBy_j54 TT m1 860 q (nI p)) (fun x4 m5 => some (x4, m5)) = some (v, m2)
      unfold f_X1_reachedBy_j54 f_X1_reachedBy_j56
      rw [show ((1 : Int32), m1) = (nI (0 + 1), m1) from rfl, e2, bd_some]
