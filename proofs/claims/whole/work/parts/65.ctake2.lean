/-! The class reads a version: all its numbers; what fills the short one; a key. -/
theorem nums_lp {v r c L e : Nat} {T : Nat → Nat} (hv : sh TT v = some (.inl 10)) (hr : sh TT r = some (.inr (.long, 8))) :
    ∀ d k q N m, k + d = 3 → 1 ≤ k → d < N → VS m v c L e T → gr m v 0 = r → q ≤ e → gi m v 3 = nI q → gi m v 1 = nI k →
    (ntl T e d q = none → ∃ m', lp (fun x : Int32 × Mi => f_X10_takeNumbers_l2 TT x.2 v x.1) N (nI k, m) = some (.inr (.inr m')) ∧ KI v r m m') ∧
    (∀ ns q', ntl T e d q = some (ns, q') → ∃ m' y, lp (fun x : Int32 × Mi => f_X10_takeNumbers_l2 TT x.2 v x.1) N (nI k, m) = some y ∧ (y = .inl m' ∨ y = .inr (.inl m')) ∧ KI v r m m' ∧ gi m' v 3 = nI q' ∧ gi m' v 1 = nI (k + ns.length) ∧ q' ≤ e ∧ ns.length ≤ d ∧ ∀ j, gl m' r j = if k ≤ j ∧ j < k + ns.length then lN (ns.getD (j - k) 0) else gl m r j) := by
  intro d
  induction d with
  | zero =>
    intro k q N m hk h1k hN h h0 hq h3 h1
    obtain ⟨N, rfl⟩ : ∃ z, N = z + 1 := ⟨N - 1, by omega⟩
    refine ⟨fun hx => (by rw [ntl] at hx; cases hx), fun ns q' hx => ?_⟩
    rw [ntl] at hx
    have hx := Option.some.inj hx
    have e1 : ns = [] := (congrArg Prod.fst hx).symm
    have e2 : q' = q := (congrArg Prod.snd hx).symm
    subst e1
    subst e2
    refine ⟨m, .inl m, lp_exit ?_, Or.inl rfl, KI.rf, h3, h1, hq, Nat.le_refl _, fun j => by rw [if_neg (by simp only [List.length_nil]; omega)]⟩
    show f_X10_takeNumbers_l2 TT m v (nI k) = _
    unfold f_X10_takeNumbers_l2
    rw [show (3 : Int32) = nI 3 from rfl, if_pos (nI_le (by omega) (by omega))]
  | succ d ih =>
    intro k q N m hk h1k hN h h0 hq h3 h1
    obtain ⟨N, rfl⟩ : ∃ z, N = z + 1 := ⟨N - 1, by omega⟩
    have he := h.2.2.2.2.1
    have he2 := h.2.2.2.2.2.1
    have s0 := signAt_spec (i := q) h (by omega)
    have s1 := signAt_spec (i := q + 1) h (by omega)
    have hd1 := isDigit_sg (h.lt (q + 1))
    have h46 : sg T e q = 46 ↔ _ := sg_eq (c := 46) (h.lt q) (by omega)
    by_cases hc : (atE (fun x => decide (x = 46)) T e q && atE dg T e (q + 1)) = true
    · have hc2 : atE (fun x => decide (x = 46)) T e q = true ∧ atE dg T e (q + 1) = true := by simpa using hc
      have hq1 : q + 1 < e := by
        have := hc2.2
        unfold atE at this
        simp only [Bool.and_eq_true, decide_eq_true_eq] at this
        exact this.1
      have hb0 : f_X10_takeNumbers_l2 TT m v (nI k) = f_X10_takeNumbers_j67 TT (si m v 3 (nI (q + 1))) v (nI k) (nI (q + 1)) 0 := by
        unfold f_X10_takeNumbers_l2 f_X10_takeNumbers_j42
        rw [show (3 : Int32) = nI 3 from rfl, if_neg (nI_ge (by omega) (by omega)), show (0 : Int32) = nI 0 from rfl, if_neg (nI_ge (by omega) (by omega)), if_neg (nI_ge (by omega) (by omega)), h3, s0, Option.bind_some, if_pos (h46.mpr hc2.1), nI_1, s1, Option.bind_some, hd1, Option.bind_some, hc2.2, if_neg (by decide)]
        unfold f_X10_takeNumbers_j56
        rw [if_pos (ob_of hv)]
        simp only [bS]
        rw [nI_1, gi_si]
      have h' : VS (si m v 3 (nI (q + 1))) v c L e T := h.keep (KI.s3 (r := r) _)
      have h1' : gi (si m v 3 (nI (q + 1))) v 1 = nI k := by
        simp only [mS]
        rw [if_neg (by omega)]
        exact h1
      have hn := num_spec (r := r) (p := q + 1) (k := k) h' hv hr h0 (by omega) (gi_si _ _ _ _) h1' (by omega)
      cases hnm : nmb T e (q + 1) with
      | none =>
        refine ⟨fun hx => ?_, fun ns q' hx => by rw [ntl, if_pos hc, hnm] at hx; cases hx⟩
        obtain ⟨m1, e1, k1⟩ := hn.1 hnm
        refine ⟨m1, lp_exit ?_, (KI.s3 _).tr k1⟩
        show f_X10_takeNumbers_l2 TT m v (nI k) = _
        rw [hb0, e1]
      | some w =>
        obtain ⟨w, qq⟩ := w
        obtain ⟨m1, e1, k1, g3, g1, gq, gl1⟩ := hn.2 w qq hnm
        have hst : lp (fun x : Int32 × Mi => f_X10_takeNumbers_l2 TT x.2 v x.1) (N + 1) (nI k, m) = lp (fun x : Int32 × Mi => f_X10_takeNumbers_l2 TT x.2 v x.1) N (nI (k + 1), m1) := by
          refine lp_step ?_
          show f_X10_takeNumbers_l2 TT m v (nI k) = _
          rw [hb0, e1]
        have h1m : VS m1 v c L e T := h'.keep k1
        have g0 : gr m1 v 0 = r := (k1.2.2 _ _).trans h0
        obtain ⟨i1, i2⟩ := ih (k + 1) qq N m1 (by omega) (by omega) (by omega) h1m g0 gq g3 g1
        rw [hst, ntl, if_pos hc, hnm]
        simp only [Option.bind_some]
        cases ht : ntl T e d qq with
        | none =>
          refine ⟨fun _ => ?_, fun ns q' hx => by cases hx⟩
          obtain ⟨m2, e2, k2⟩ := i1 ht
          exact ⟨m2, e2, ((KI.s3 _).tr k1).tr k2⟩
        | some r2 =>
          obtain ⟨n2, q2⟩ := r2
          refine ⟨fun hx => (by cases hx), fun ns q' hx => ?_⟩
          have hx := Option.some.inj hx
          have e3 : ns = w :: n2 := (congrArg Prod.fst hx).symm
          have e4 : q' = q2 := (congrArg Prod.snd hx).symm
          subst e3
          subst e4
          obtain ⟨m2, y, e2, hy, k2, a3, a1, aq, al, ar⟩ := i2 n2 q' ht
          refine ⟨m2, y, e2, hy, ((KI.s3 _).tr k1).tr k2, a3, by rw [a1]; simp only [List.length_cons]; congr 1; omega, aq, by simp; omega, fun j => ?_⟩
          rw [ar j, gl1 j]
          simp only [List.length_cons]
          by_cases hj : k + 1 ≤ j ∧ j < k + 1 + n2.length
          · rw [if_pos hj, if_pos (by omega), show j - k = (j - (k + 1)) + 1 by omega, List.getD_cons_succ]
          · rw [if_neg hj]
            by_cases hjk : j = k
            · rw [if_pos hjk, if_pos (by omega), show j - k = 0 by omega, List.getD_cons_zero]
            · rw [if_neg hjk, if_neg (by omega)]
              rfl
    · refine ⟨fun hx => (by rw [ntl, if_neg hc] at hx; cases hx), fun ns q' hx => ?_⟩
      rw [ntl, if_neg hc] at hx
      have hx := Option.some.inj hx
      have e1 : ns = [] := (congrArg Prod.fst hx).symm
      have e2 : q' = q := (congrArg Prod.snd hx).symm
      subst e1
      subst e2
      refine ⟨m, .inr (.inl m), lp_exit ?_, Or.inr rfl, KI.rf, h3, h1, hq, by simp, fun j => by rw [if_neg (by simp only [List.length_nil]; omega)]⟩
      show f_X10_takeNumbers_l2 TT m v (nI k) = _
      unfold f_X10_takeNumbers_l2
      rw [show (3 : Int32) = nI 3 from rfl, if_neg (nI_ge (by omega) (by omega)), show (0 : Int32) = nI 0 from rfl, if_neg (nI_ge (by omega) (by omega)), h3, s0, Option.bind_some]
      by_cases hA : atE (fun x => decide (x = 46)) T e q' = true
      · rw [if_pos (h46.mpr hA), nI_1, s1, Option.bind_some, hd1, Option.bind_some]
        rw [hA, Bool.true_and] at hc
        rw [Bool.eq_false_iff.mpr hc]
        rfl
      · rw [if_neg (fun e => hA (h46.mp e))]
theorem nums_spec {m : Mi} {v r c L e p : Nat} {T : Nat → Nat} (hv : sh TT v = some (.inl 10)) (hr : sh TT r = some (.inr (.long, 8))) (h : VS m v c L e T) (h0 : gr m v 0 = r) (hp : p ≤ e) (h3 : gi m v 3 = nI p) (h1 : gi m v 1 = nI 0) :
    (nums T e p = none → ∃ m', f_X10_takeNumbers TT m v = some (0, m') ∧ KI v r m m') ∧
    (∀ ns q, nums T e p = some (ns, q) → ∃ m', f_X10_takeNumbers TT m v = some (1, m') ∧ KI v r m m' ∧ gi m' v 3 = nI q ∧ gi m' v 1 = nI ns.length ∧ q ≤ e ∧ 1 ≤ ns.length ∧ ns.length ≤ 3 ∧ ∀ j, gl m' r j = if j < ns.length then lN (ns.getD j 0) else gl m r j) := by
  have hsi : si m v 3 (nI p) = m := by
    refine Mi.ext' (fun b j => ?_) (fun _ _ => rfl) (fun _ _ => rfl)
    simp only [mS]
    by_cases hb : b = v ∧ j = 3
    · rw [if_pos hb, hb.1, hb.2, h3]
    · rw [if_neg hb]
  have hb0 : f_X10_takeNumbers_l2 TT m v (nI 0) = f_X10_takeNumbers_j67 TT m v (nI 0) (nI p) 0 := by
    unfold f_X10_takeNumbers_l2 f_X10_takeNumbers_j42
    rw [if_neg (by decide), if_pos (by decide), if_pos (by decide)]
    unfold f_X10_takeNumbers_j56
    rw [if_pos (ob_of hv)]
    simp only [bS]
    rw [h3, show (0 : Int32) = nI 0 from rfl, nI_add, Nat.add_zero, hsi, h3]
  have hn := num_spec (r := r) (p := p) (k := 0) h hv hr h0 hp h3 h1 (by omega)
  unfold f_X10_takeNumbers f_X10_takeNumbers_j2
  rw [show (0 : Int32) = nI 0 from rfl, show FUEL = (FUEL - 1) + 1 by unfold FUEL; omega]
  unfold nums
  cases hnm : nmb T e p with
  | none =>
    refine ⟨fun _ => ?_, fun ns q hx => by cases hx⟩
    obtain ⟨m1, e1, k1⟩ := hn.1 hnm
    refine ⟨m1, ?_, k1⟩
    rw [lp_exit (y := .inr (.inr m1)) (by show f_X10_takeNumbers_l2 TT m v (nI 0) = _; rw [hb0, e1])]
    rfl
  | some w =>
    obtain ⟨w, qq⟩ := w
    obtain ⟨m1, e1, k1, g3, g1, gq, gl1⟩ := hn.2 w qq hnm
    rw [lp_step (x' := (nI (0 + 1), m1)) (by show f_X10_takeNumbers_l2 TT m v (nI 0) = _; rw [hb0, e1])]
    obtain ⟨i1, i2⟩ := nums_lp hv hr 2 1 qq (FUEL - 1) m1 (by omega) (by omega) (by unfold FUEL; omega) (h.keep k1) ((k1.2.2 _ _).trans h0) gq g3 g1
    simp only [Option.bind_some]
    cases ht : ntl T e 2 qq with
    | none =>
      refine ⟨fun _ => ?_, fun ns q' hx => by cases hx⟩
      obtain ⟨m2, e2, k2⟩ := i1 ht
      refine ⟨m2, ?_, k1.tr k2⟩
      rw [show (0 + 1 : Nat) = 1 from rfl, e2]
      rfl
    | some r2 =>
      obtain ⟨n2, q2⟩ := r2
      refine ⟨fun hx => (by cases hx), fun ns q' hx => ?_⟩
      have hx := Option.some.inj hx
      have e3 : ns = w :: n2 := (congrArg Prod.fst hx).symm
      have e4 : q' = q2 := (congrArg Prod.snd hx).symm
      subst e3
      subst e4
      obtain ⟨m2, y, e2, hy, k2, a3, a1, aq, al, ar⟩ := i2 n2 q' ht
      refine ⟨m2, ?_, k1.tr k2, a3, by rw [a1]; simp only [List.length_cons]; congr 1; omega, aq, by simp, by simp; omega, fun j => ?_⟩
      · rw [show (0 + 1 : Nat) = 1 from rfl, e2]
        rcases hy with hy | hy <;> rw [hy] <;> rfl
      · rw [ar j, gl1 j]
        simp only [List.length_cons]
        by_cases hj : 1 ≤ j ∧ j < 1 + n2.length
        · rw [if_pos hj, if_pos (by omega)]
          obtain ⟨j, rfl⟩ : ∃ z, j = z + 1 := ⟨j - 1, by omega⟩
          rw [List.getD_cons_succ, show j + 1 - 1 = j by omega]
        · rw [if_neg hj]
          by_cases hjk : j = 0
          · rw [if_pos hjk, if_pos (by omega), hjk, List.getD_cons_zero]
          · rw [if_neg hjk, if_neg (by omega)]
/-- '.x' -/
theorem fil_lp {v r c L e : Nat} {T : Nat → Nat} :
    ∀ d k p N m, k + d = 3 → d < N → VS m v c L e T → p ≤ e → gi m v 3 = nI p →
    ∃ m', (lp (fun x : Int32 × Mi => f_X10_endsAfterFilling_l5 TT x.2 v x.1) N (nI k, m)).bind (fun y : Mi => f_X10_endsAfterFilling_j54 TT y v) = some (bI (fil T e d p), m') ∧ KI v r m m' ∧ gi m' v 1 = gi m v 1 ∧ ∀ j, gl m' r j = gl m r j := by
  have fin : ∀ (m : Mi) (p : Nat), VS m v c L e T → p ≤ e → gi m v 3 = nI p → f_X10_endsAfterFilling_j54 TT m v = some (bI (decide (p = e)), m) := by
    intro m p h hp h3
    have he := h.2.2.2.2.1
    have he2 := h.2.2.2.2.2.1
    unfold f_X10_endsAfterFilling_j54
    rw [h3, h.2.2.2.2.2.2.1]
    by_cases hpe : p = e
    · rw [if_pos (by rw [hpe]), decide_eq_true hpe]
      rfl
    · rw [if_neg (fun q => hpe ((nI_eq (by omega) (by omega)).mp q)), decide_eq_false hpe]
      rfl
  intro d
  induction d with
  | zero =>
    intro k p N m hk hN h hp h3
    obtain ⟨N, rfl⟩ : ∃ z, N = z + 1 := ⟨N - 1, by omega⟩
    refine ⟨m, ?_, KI.rf, rfl, fun _ => rfl⟩
    rw [lp_exit (y := m) (by show f_X10_endsAfterFilling_l5 TT m v (nI k) = _; unfold f_X10_endsAfterFilling_l5; rw [show (3 : Int32) = nI 3 from rfl, if_pos (nI_le (by omega) (by omega))])]
    exact fin m p h hp h3
  | succ d ih =>
    intro k p N m hk hN h hp h3
    obtain ⟨N, rfl⟩ : ∃ z, N = z + 1 := ⟨N - 1, by omega⟩
    have he := h.2.2.2.2.1
    have he2 := h.2.2.2.2.2.1
    have s0 := signAt_spec (i := p) h (by omega)
    have s1 := signAt_spec (i := p + 1) h (by omega)
    have h46 : sg T e p = 46 ↔ _ := sg_eq (c := 46) (h.lt p) (by omega)
    have h120 : sg T e (p + 1) = 120 ↔ _ := sg_eq (c := 120) (h.lt (p + 1)) (by omega)
    rw [fil]
    by_cases hc : isx T e p = true
    · have hc2 : atE (fun x => decide (x = 46)) T e p = true ∧ atE (fun x => decide (x = 120)) T e (p + 1) = true := by unfold isx at hc; simpa using hc
      have hq1 : p + 1 < e := by
        have := hc2.2
        unfold atE at this
        simp only [Bool.and_eq_true, decide_eq_true_eq] at this
        exact this.1
      have hb : f_X10_endsAfterFilling_l5 TT m v (nI k) = some (.inl (nI (k + 1), si m v 3 (nI (p + 2)))) := by
        unfold f_X10_endsAfterFilling_l5
        rw [show (3 : Int32) = nI 3 from rfl, if_neg (nI_ge (by omega) (by omega)), h3, s0, Option.bind_some, if_pos (h46.mpr hc2.1), nI_1, s1, Option.bind_some, if_pos (h120.mpr hc2.2)]
        simp only [bS]
        rw [nI_1, show (2 : Int32) = nI 2 from rfl, nI_add]
      rw [lp_step (x' := (nI (k + 1), si m v 3 (nI (p + 2)))) hb, if_pos hc]
      obtain ⟨m', e', k', g1, g2⟩ := ih (k + 1) (p + 2) N _ (by omega) (by omega) (h.keep (KI.s3 (r := r) (nI (p + 2)))) (by omega) (gi_si _ _ _ _)
      exact ⟨m', e', (KI.s3 _).tr k', by rw [g1]; simp only [mS]; rw [if_neg (by omega)], fun j => (g2 j).trans rfl⟩
    · rw [if_neg hc]
      refine ⟨m, ?_, KI.rf, rfl, fun _ => rfl⟩
      have hb : f_X10_endsAfterFilling_l5 TT m v (nI k) = some (.inr m) := by
        unfold f_X10_endsAfterFilling_l5
        rw [show (3 : Int32) = nI 3 from rfl, if_neg (nI_ge (by omega) (by omega)), h3, s0, Option.bind_some]
        by_cases hA : atE (fun x => decide (x = 46)) T e p = true
        · rw [if_pos (h46.mpr hA), nI_1, s1, Option.bind_some, if_neg (fun e => hc (by unfold isx; rw [hA, h120.mp e]; rfl))]
        · rw [if_neg (fun e => hA (h46.mp e))]
      rw [lp_exit hb]
      exact fin m p h hp h3
