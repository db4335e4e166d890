/-! The reference reads a version. -/
def MT (m : Mi) (n : Nat) (T : Nat → Nat) : Prop := WFM m ∧ gi m 870 3 = nI n ∧ n ≤ 2000 ∧ Tx m 872 n T
def mg (T : Nat → Nat) (n i : Nat) : Int32 := if i < n then nI (T i) else 0
/-- only the row 'read', 'value' and 'numbersTold' change -/
def KD (m m' : Mi) : Prop := (∀ x j, ¬ (x = 870 ∧ j = 5) → gi m' x j = gi m x j) ∧ (∀ x j, x ≠ 873 → ¬ (x = 870 ∧ j = 6) → gl m' x j = gl m x j) ∧ ∀ x j, gr m' x j = gr m x j
theorem KD.rf {m : Mi} : KD m m := ⟨fun _ _ _ => rfl, fun _ _ _ _ => rfl, fun _ _ => rfl⟩
theorem KD.tr {m m1 m2 : Mi} (h : KD m m1) (h2 : KD m1 m2) : KD m m2 := ⟨fun x j a => (h2.1 x j a).trans (h.1 x j a), fun x j a b => (h2.2.1 x j a b).trans (h.2.1 x j a b), fun x j => (h2.2.2 x j).trans (h.2.2 x j)⟩
theorem MT.keep {m m' : Mi} {n : Nat} {T : Nat → Nat} (h : MT m n T) (k : KD m m') : MT m' n T :=
  ⟨fun z hz => (k.2.2 _ _).trans (h.1 z hz), (k.1 _ _ (by omega)).trans h.2.1, h.2.2.1, fun j hj => ⟨(k.1 _ _ (by omega)).trans (h.2.2.2 j hj).1, (h.2.2.2 j hj).2⟩⟩
theorem at_spec {m : Mi} {n i : Nat} {T : Nat → Nat} (h : MT m n T) (hi : i < 2 ^ 31) : f_X12_at TT m 870 (nI i) = some (mg T n i) := by
  obtain ⟨h1, h2, h3, h4⟩ := h
  have r2 : gr m 870 2 = 872 := h1 2 (by omega)
  unfold f_X12_at mg
  rw [h2, r2]
  by_cases hin : i < n
  · have e8 : gi m 872 i &&& 255 = nI (T i) := by rw [(h4 i hin).1, bT_and _ (h4 i hin).2]
    rw [if_neg (nI_ge hin (by omega)), if_pos (ar_of s_872 (by omega) (by omega)), ix_nI hi, e8, if_pos hin]
  · rw [if_pos (nI_le (by omega) hi), if_neg hin]
theorem MT.lt {m : Mi} {n : Nat} {T : Nat → Nat} (h : MT m n T) (i : Nat) (hi : i < n) : T i < 256 := (h.2.2.2 i hi).2
theorem mnum_lp {m : Mi} {n e p : Nat} {T : Nat → Nat} (h : MT m n T) (he : e ≤ n) (hp : p ≤ e) :
    ∀ d k N, k + d = 10 → d < N → p + k ≤ e → (∀ j, j < k → dg (T (p + j)) = true) → lp (fun x : Int32 × Int64 => f_X12_number_l5 TT m 870 (nI p) (nI e) x.1 x.2) N (nI (p + k), lN (dv T p k)) = some (nI (p + (k + run dg T e d (p + k))), lN (dv T p (k + run dg T e d (p + k)))) := by
  have hn := h.2.2.1
  intro d
  induction d with
  | zero =>
    intro k N hk hN hpk hall
    obtain ⟨N, rfl⟩ : ∃ z, N = z + 1 := ⟨N - 1, by omega⟩
    refine lp_exit ?_
    show f_X12_number_l5 TT m 870 (nI p) (nI e) (nI (p + k)) (lN (dv T p k)) = _
    unfold f_X12_number_l5
    by_cases hpe : e ≤ p + k
    · rw [if_pos (nI_le hpe (by omega))]
      rfl
    · have hmg : mg T n (p + k) = nI (T (p + k)) := if_pos (by omega)
      rw [if_neg (nI_ge (by omega) (by omega)), at_spec h (by omega), Option.bind_some, hmg, cmC.2.2.2.2 _ (h.lt _ (by omega)), Option.bind_some, pk_sub (by omega), if_pos (show (10 : Int32) ≤ nI (p + k - p) from nI_le (a := 10) (by omega) (by omega))]
      cases dg (T (p + k)) <;> rfl
  | succ d ih =>
    intro k N hk hN hpk hall
    obtain ⟨N, rfl⟩ : ∃ z, N = z + 1 := ⟨N - 1, by omega⟩
    by_cases hd : p + k < e ∧ dg (T (p + k)) = true
    · have hmg : mg T n (p + k) = nI (T (p + k)) := if_pos (by omega)
      have hlt := h.lt (p + k) (by omega)
      have hdl := dg_lt hd.2
      have hb : f_X12_number_l5 TT m 870 (nI p) (nI e) (nI (p + k)) (lN (dv T p k)) = some (.inl (nI (p + (k + 1)), lN (dv T p (k + 1)))) := by
        unfold f_X12_number_l5
        rw [if_neg (nI_ge hd.1 (by omega)), at_spec h (by omega), Option.bind_some, hmg, cmC.2.2.2.2 _ hlt, Option.bind_some, hd.2, if_neg (show ¬ bI true = 0 by decide), pk_sub (by omega), if_neg (show ¬ (10 : Int32) ≤ nI (p + k - p) from nI_ge (b := 10) (by omega) (by omega)), Option.bind_some]
        simp only [bS]
        rw [nI_1, nI_l (by omega), show (10 : Int64) = lN 10 from rfl, show (48 : Int64) = lN 48 from rfl, lN_mul, lN_add, lN_sub (by omega), dv, show p + k + 1 = p + (k + 1) by omega, show 10 * dv T p k + T (p + k) - 48 = 10 * dv T p k + (T (p + k) - 48) by omega]
      rw [lp_step (x' := (nI (p + (k + 1)), lN (dv T p (k + 1)))) hb, ih (k + 1) N (by omega) (by omega) (by omega) (fun j hj => by by_cases hjk : j = k; (rw [hjk]; exact hd.2); (exact hall j (by omega))), run, if_pos hd, show p + k + 1 = p + (k + 1) by omega, show k + 1 + run dg T e d (p + (k + 1)) = k + (run dg T e d (p + (k + 1)) + 1) by omega]
    · rw [run, if_neg hd]
      refine lp_exit ?_
      show f_X12_number_l5 TT m 870 (nI p) (nI e) (nI (p + k)) (lN (dv T p k)) = _
      unfold f_X12_number_l5
      by_cases hpe : e ≤ p + k
      · rw [if_pos (nI_le hpe (by omega))]
        rfl
      · have hmg : mg T n (p + k) = nI (T (p + k)) := if_pos (by omega)
        rw [if_neg (nI_ge (by omega) (by omega)), at_spec h (by omega), Option.bind_some, hmg, cmC.2.2.2.2 _ (h.lt _ (by omega)), Option.bind_some, Bool.eq_false_iff.mpr (fun x => hd ⟨by omega, x⟩)]
        rfl
theorem number_spec {m : Mi} {n e p : Nat} {T : Nat → Nat} (h : MT m n T) (he : e ≤ n) (hp : p ≤ e) :
    (nmb T e p = none → f_X12_number TT m 870 (nI p) (nI e) = some (-1, m)) ∧
    (∀ w q, nmb T e p = some (w, q) → f_X12_number TT m 870 (nI p) (nI e) = some (nI q, sl m 870 6 (lN w)) ∧ q ≤ e ∧ p < q ∧ w < 1000000000) := by
  have hn := h.2.2.1
  have hl := mnum_lp h he hp 10 0 FUEL (by omega) (by unfold FUEL; omega) (by omega) (fun j hj => by cases hj)
  rw [Nat.zero_add, Nat.add_zero] at hl
  have hle := run_le dg T e 10 p
  have hin := run_in (f := dg) (T := T) (e := e) 10 p hp
  have hall := run_all (f := dg) (T := T) (e := e) 10 p
  generalize hz : run dg T e 10 p = z at hl hle hin hall
  have hj : f_X12_number TT m 870 (nI p) (nI e) = f_X12_number_j55 TT m 870 (nI p) (nI (p + z)) (lN (dv T p z)) := by
    unfold f_X12_number f_X12_number_j5
    rw [show ((nI p, 0) : Int32 × Int64) = (nI p, lN (dv T p 0)) from rfl, hl]
    rfl
  rw [hj]
  unfold f_X12_number_j55 f_X12_number_j90 nmb
  rw [pk_sub (by omega), show p + z - p = z by omega, hz]
  simp only [lt_eq]
  by_cases a0 : z = 0
  · rw [if_pos (Or.inl a0), if_pos (by rw [a0]; rfl)]
    exact ⟨fun _ => rfl, fun w q hx => (by cases hx)⟩
  rw [if_neg (show ¬ nI z = 0 from nI_ne0 (by omega) (by omega))]
  by_cases a9 : 9 < z
  · rw [if_pos (Or.inr (Or.inl a9)), if_pos (show (9 : Int32) < nI z from nI_lt (a := 9) (by omega) (by omega))]
    exact ⟨fun _ => rfl, fun w q hx => (by cases hx)⟩
  rw [if_neg (show ¬ (9 : Int32) < nI z from nI_nlt (a := 9) (by omega) (by omega))]
  have h9 : 10 ^ z ≤ 10 ^ 9 := Nat.pow_le_pow_right (by omega) (by omega)
  have hw : dv T p z < 1000000000 := Nat.lt_of_lt_of_le (dv_lt z (fun j hj => (hall j hj).2)) h9
  have good : ∀ (x : Option (Int32 × Mi)), x = some (nI (p + z), sl m 870 6 (lN (dv T p z))) → ((some (dv T p z, p + z) : Option (Nat × Nat)) = none → x = some (-1, m)) ∧ (∀ w q, some (dv T p z, p + z) = some (w, q) → x = some (nI q, sl m 870 6 (lN w)) ∧ q ≤ e ∧ p < q ∧ w < 1000000000) := by
    intro x hx
    refine ⟨fun hy => (by cases hy), fun w q hy => ?_⟩
    have hy := Option.some.inj hy
    have e3 : w = dv T p z := (congrArg Prod.fst hy).symm
    have e4 : q = p + z := (congrArg Prod.snd hy).symm
    subst e3
    subst e4
    exact ⟨hx, hin, by omega, hw⟩
  by_cases a1 : z ≤ 1
  · rw [if_neg (by omega), if_pos (show nI z ≤ 1 from nI_le (b := 1) a1 (by omega))]
    exact good _ rfl
  · have hmg : mg T n p = nI (T p) := if_pos (by omega)
    have hlt := h.lt p (by omega)
    rw [if_neg (show ¬ nI z ≤ 1 from nI_ge (a := 1) (by omega) (by omega)), at_spec h (by omega), Option.bind_some, hmg]
    by_cases h48 : T p = 48
    · rw [if_pos (Or.inr (Or.inr ⟨by omega, h48⟩)), if_pos (by rw [h48]; rfl)]
      exact ⟨fun _ => rfl, fun w q hx => (by cases hx)⟩
    · rw [if_neg (by omega), if_neg (show ¬ nI (T p) = 48 from fun e => h48 ((nI_eq (b := 48) (by omega) (by omega)).mp e))]
      exact good _ rfl
theorem mnums_lp {n e : Nat} {T : Nat → Nat} (he : e ≤ n) :
    ∀ d k p N m, k + d = 2 → d + 1 < N → MT m n T → p ≤ e →
    (((nmb T e p).bind fun w => (ntl T e d w.2).map (fun r => (w.1 :: r.1, r.2))) = none → ∃ m', lp (fun x : Int32 × Int32 × Int32 × Mi => f_X12_reads_l29 TT x.2.2.2 870 (nI e) x.1 x.2.1 x.2.2.1) N (nI p, nI k, 1, m) = some (.inr m') ∧ KD m m') ∧
    (∀ ns q', ((nmb T e p).bind fun w => (ntl T e d w.2).map (fun r => (w.1 :: r.1, r.2))) = some (ns, q') → ∃ m', lp (fun x : Int32 × Int32 × Int32 × Mi => f_X12_reads_l29 TT x.2.2.2 870 (nI e) x.1 x.2.1 x.2.2.1) N (nI p, nI k, 1, m) = some (.inl (nI q', nI (k + ns.length), m')) ∧ KD m m' ∧ q' ≤ e ∧ 1 ≤ ns.length ∧ ns.length ≤ d + 1 ∧ (∀ w ∈ ns, w < 1000000000) ∧ ∀ j, gl m' 873 j = if k ≤ j ∧ j < k + ns.length then lN (ns.getD (j - k) 0) else gl m 873 j) := by
  have fini : ∀ (N q k : Nat) (m1 : Mi), lp (fun x : Int32 × Int32 × Int32 × Mi => f_X12_reads_l29 TT x.2.2.2 870 (nI e) x.1 x.2.1 x.2.2.1) (N + 1) (nI q, nI k, 0, m1) = some (.inl (nI q, nI k, m1)) := by
    intro N q k m1
    refine lp_exit ?_
    show f_X12_reads_l29 TT m1 870 (nI e) (nI q) (nI k) 0 = _
    unfold f_X12_reads_l29
    rw [if_pos rfl]
  intro d
  induction d with
  | zero =>
    intro k p N m hk hN h hp
    have hn := h.2.2.1
    obtain ⟨N, rfl⟩ : ∃ z, N = z + 1 + 1 := ⟨N - 2, by omega⟩
    obtain ⟨b1, b2⟩ := number_spec h he hp
    cases hnm : nmb T e p with
    | none =>
      refine ⟨fun _ => ⟨m, lp_exit ?_, KD.rf⟩, fun ns q' hx => (by cases hx)⟩
      show f_X12_reads_l29 TT m 870 (nI e) (nI p) (nI k) 1 = _
      unfold f_X12_reads_l29
      rw [if_neg (by decide), b1 hnm, bd_some, if_pos rfl]
    | some w =>
      obtain ⟨w, q⟩ := w
      obtain ⟨c1, c2, c3, c4⟩ := b2 w q hnm
      refine ⟨fun hx => (by cases hx), fun ns q' hx => ?_⟩
      simp only [Option.bind_some, ntl, Option.map_some] at hx
      have hx := Option.some.inj hx
      have e3 : ns = [w] := (congrArg Prod.fst hx).symm
      have e4 : q' = q := (congrArg Prod.snd hx).symm
      subst e3
      subst e4
      have r4 : gr (sl m 870 6 (lN w)) 870 4 = 873 := h.1 4 (by omega)
      have g6 : gl (sl m 870 6 (lN w)) 870 6 = lN w := by simp only [mS]; simp
      refine ⟨sl (sl m 870 6 (lN w)) 873 k (lN w), ?_, ⟨fun _ _ _ => rfl, fun x j h1 h2 => ?_, fun _ _ => rfl⟩, c2, by simp, by simp, fun x hx => (by simp at hx; omega), fun j => ?_⟩
      · rw [lp_step (x' := (nI q', nI (k + 1), 0, sl (sl m 870 6 (lN w)) 873 k (lN w)))]
        · exact fini _ _ _ _
        · show f_X12_reads_l29 TT m 870 (nI e) (nI p) (nI k) 1 = _
          unfold f_X12_reads_l29
          rw [if_neg (by decide), c1, bd_some, if_neg (nneg (by omega)), r4, if_pos (ar_of s_873 (by omega) (by omega)), ix_nI (by omega), g6]
          simp only [bS]
          rw [nI_1, if_pos (show (3 : Int32) ≤ nI (k + 1) from nI_le (a := 3) (by omega) (by omega))]
          unfold f_X12_reads_j110 f_X12_reads_j111
          rw [if_pos rfl]
      · simp only [mS]
        rw [if_neg (by omega), if_neg (by omega)]
      · simp only [mS]
        simp only [List.length_cons, List.length_nil]
        by_cases hj : j = k
        · rw [if_pos ⟨trivial, hj⟩, if_pos (by omega), hj, Nat.sub_self]
          rfl
        · rw [if_neg (fun e => hj e.2), if_neg (by omega), if_neg (by omega)]
  | succ d ih =>
    intro k p N m hk hN h hp
    have hn := h.2.2.1
    obtain ⟨N, rfl⟩ : ∃ z, N = z + 1 + 1 := ⟨N - 2, by omega⟩
    obtain ⟨b1, b2⟩ := number_spec h he hp
    cases hnm : nmb T e p with
    | none =>
      refine ⟨fun _ => ⟨m, lp_exit ?_, KD.rf⟩, fun ns q' hx => (by cases hx)⟩
      show f_X12_reads_l29 TT m 870 (nI e) (nI p) (nI k) 1 = _
      unfold f_X12_reads_l29
      rw [if_neg (by decide), b1 hnm, bd_some, if_pos rfl]
    | some w =>
      obtain ⟨w, q⟩ := w
      obtain ⟨c1, c2, c3, c4⟩ := b2 w q hnm
      have r4 : gr (sl m 870 6 (lN w)) 870 4 = 873 := h.1 4 (by omega)
      have g6 : gl (sl m 870 6 (lN w)) 870 6 = lN w := by simp only [mS]; simp
      generalize hm1 : sl (sl m 870 6 (lN w)) 873 k (lN w) = m1
      have k1 : KD m m1 := by
        rw [← hm1]
        refine ⟨fun _ _ _ => rfl, fun x j h1 h2 => ?_, fun _ _ => rfl⟩
        simp only [mS]
        rw [if_neg (by omega), if_neg (by omega)]
      have l1 : ∀ j, gl m1 873 j = if j = k then lN w else gl m 873 j := by
        intro j
        rw [← hm1]
        simp only [mS]
        by_cases hj : j = k
        · rw [if_pos ⟨trivial, hj⟩, if_pos hj]
        · rw [if_neg (fun e => hj e.2), if_neg (by omega), if_neg hj]
      have h1 : MT m1 n T := h.keep k1
      have hb : f_X12_reads_l29 TT m 870 (nI e) (nI p) (nI k) 1 = some (.inl (if (atE (fun x => decide (x = 46)) T e q && atE dg T e (q + 1)) = true then (nI (q + 1), nI (k + 1), 1, m1) else (nI q, nI (k + 1), 0, m1))) := by
        unfold f_X12_reads_l29
        rw [if_neg (by decide), c1, bd_some, if_neg (nneg (by omega)), r4, if_pos (ar_of s_873 (by omega) (by omega)), ix_nI (by omega), g6]
        simp only [bS]
        rw [hm1, nI_1, if_neg (show ¬ (3 : Int32) ≤ nI (k + 1) from nI_ge (b := 3) (by omega) (by omega)), nI_1]
        unfold f_X12_reads_j110 f_X12_reads_j111 atE
        rw [if_pos rfl]
        by_cases hq1 : e ≤ q + 1
        · rw [if_pos (nI_le hq1 (by omega)), if_neg (by simp only [Bool.and_eq_true, decide_eq_true_eq]; omega)]
        · have hmg : mg T n q = nI (T q) := if_pos (by omega)
          have hmg1 : mg T n (q + 1) = nI (T (q + 1)) := if_pos (by omega)
          have hlt := h1.lt q (by omega)
          rw [if_neg (nI_ge (by omega) (by omega)), at_spec h1 (by omega), Option.bind_some, hmg, decide_eq_true (show q < e by omega), decide_eq_true (show q + 1 < e by omega), Bool.true_and, Bool.true_and]
          show (if nI (T q) = 46 then _ else _) = some (Sum.inl (if (decide (T q = 46) && dg (T (q + 1))) = true then _ else _))
          by_cases h46 : T q = 46
          · rw [if_pos (by rw [h46]; rfl), at_spec h1 (by omega), Option.bind_some, hmg1, cmC.2.2.2.2 _ (h1.lt _ (by omega)), Option.bind_some, decide_eq_true h46, Bool.true_and]
            cases dg (T (q + 1)) with
            | false => rfl
            | true =>
              rw [if_neg (by decide), if_neg (by decide), if_pos rfl]
              simp only [bS]
              rw [nI_1]
          · rw [if_neg (show ¬ nI (T q) = 46 from fun e => h46 ((nI_eq (b := 46) (by omega) (by omega)).mp e)), decide_eq_false h46, Bool.false_and, if_neg (by decide)]
      simp only [Option.bind_some]
      rw [ntl]
      by_cases hc : (atE (fun x => decide (x = 46)) T e q && atE dg T e (q + 1)) = true
      · rw [if_pos hc] at hb ⊢
        have hq1 : q + 1 < e := by
          have hc2 : atE (fun x => decide (x = 46)) T e q = true ∧ atE dg T e (q + 1) = true := by simpa using hc
          have := hc2.2
          unfold atE at this
          simp only [Bool.and_eq_true, decide_eq_true_eq] at this
          exact this.1
        obtain ⟨i1, i2⟩ := ih (k + 1) (q + 1) (N + 1) m1 (by omega) (by omega) h1 (by omega)
        rw [lp_step (x' := (nI (q + 1), nI (k + 1), 1, m1)) hb]
        cases ht : ((nmb T e (q + 1)).bind fun w => (ntl T e d w.2).map (fun r => (w.1 :: r.1, r.2))) with
        | none =>
          refine ⟨fun _ => ?_, fun ns q' hx => (by cases hx)⟩
          obtain ⟨m2, e2, k2⟩ := i1 ht
          exact ⟨m2, e2, k1.tr k2⟩
        | some r2 =>
          obtain ⟨n2, q2⟩ := r2
          refine ⟨fun hx => (by cases hx), fun ns q' hx => ?_⟩
          have hx := Option.some.inj hx
          have e3 : ns = w :: n2 := (congrArg Prod.fst hx).symm
          have e4 : q' = q2 := (congrArg Prod.snd hx).symm
          subst e3
          subst e4
          obtain ⟨m2, e2, k2, aq, al1, al, aw, ar⟩ := i2 n2 q' ht
          refine ⟨m2, by rw [e2]; simp only [List.length_cons]; rw [show k + 1 + n2.length = k + (n2.length + 1) by omega], k1.tr k2, aq, by simp, by simp; omega, fun x hx => ?_, fun j => ?_⟩
          · rcases List.mem_cons.mp hx with h9 | h9
            · omega
            · exact aw x h9
          · rw [ar j, l1 j]
            simp only [List.length_cons]
            by_cases hj : k + 1 ≤ j ∧ j < k + 1 + n2.length
            · rw [if_pos hj, if_pos (by omega), show j - k = (j - (k + 1)) + 1 by omega, List.getD_cons_succ]
            · rw [if_neg hj]
              by_cases hjk : j = k
              · rw [if_pos hjk, if_pos (by omega), show j - k = 0 by omega, List.getD_cons_zero]
              · rw [if_neg hjk, if_neg (by omega)]
      · rw [if_neg hc] at hb ⊢
        rw [lp_step (x' := (nI q, nI (k + 1), 0, m1)) hb, fini]
        refine ⟨fun hx => (by cases hx), fun ns q' hx => ?_⟩
        have hx := Option.some.inj hx
        have e3 : ns = [w] := (congrArg Prod.fst hx).symm
        have e4 : q' = q := (congrArg Prod.snd hx).symm
        subst e3
        subst e4
        refine ⟨m1, rfl, k1, c2, by simp, by simp, fun x hx => (by simp at hx; omega), fun j => ?_⟩
        rw [l1 j]
        simp only [List.length_cons, List.length_nil]
        by_cases hj : j = k
        · rw [if_pos hj, if_pos (by omega), hj, Nat.sub_self]
          rfl
        · rw [if_neg hj, if_neg (by omega)]
