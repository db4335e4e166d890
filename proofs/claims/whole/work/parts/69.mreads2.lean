/-! The reference reads a version: its identifiers. -/
theorem ltC : ∀ c, c < 256 → (f_X12_isLetter (nI c)) = some (bI (idc c && !(dg c) && !(decide (c = 45)))) := by decide +kernel
theorem mscan_lp {m : Mi} {n e p : Nat} {a3 a4 a5 : Int32} {a9 : Int64} {T : Nat → Nat} (h : MT m n T) (he : e ≤ n) :
    ∀ d k N, e ≤ p + k + d → d < N → p + k ≤ e → lp (fun x : Int32 × Int32 => f_X12_identifiers_l24 TT m 870 (nI e) a3 a4 a5 x.1 x.2 a9) N (nI (p + k), bI (dga T p k)) = some (nI (p + (k + run idc T e d (p + k))), bI (dga T p (k + run idc T e d (p + k)))) := by
  have hn := h.2.2.1
  intro d
  induction d with
  | zero =>
    intro k N hk hN hpk
    obtain ⟨N, rfl⟩ : ∃ z, N = z + 1 := ⟨N - 1, by omega⟩
    refine lp_exit ?_
    show f_X12_identifiers_l24 TT m 870 (nI e) a3 a4 a5 (nI (p + k)) (bI (dga T p k)) a9 = _
    unfold f_X12_identifiers_l24
    rw [if_pos (nI_le (by omega) (by omega))]
    rfl
  | succ d ih =>
    intro k N hk hN hpk
    obtain ⟨N, rfl⟩ : ∃ z, N = z + 1 := ⟨N - 1, by omega⟩
    by_cases hpe : e ≤ p + k
    · rw [run, if_neg (by omega)]
      refine lp_exit ?_
      show f_X12_identifiers_l24 TT m 870 (nI e) a3 a4 a5 (nI (p + k)) (bI (dga T p k)) a9 = _
      unfold f_X12_identifiers_l24
      rw [if_pos (nI_le (by omega) (by omega))]
      rfl
    have hmg : mg T n (p + k) = nI (T (p + k)) := if_pos (by omega)
    have hlt := h.lt (p + k) (by omega)
    have hj65 : f_X12_identifiers_j65 TT m 870 (nI e) a3 a4 a5 (nI (p + k)) (bI (dga T p k)) a9 = some (.inl (nI (p + (k + 1)), bI (dga T p (k + 1)))) := by
      unfold f_X12_identifiers_j65
      rw [at_spec h (by omega), Option.bind_some, hmg, cmC.2.2.2.2 _ hlt, Option.bind_some]
      simp only [bS]
      rw [nI_1, dga]
      cases dga T p k <;> cases dg (T (p + k)) <;> rfl
    have hb : f_X12_identifiers_l24 TT m 870 (nI e) a3 a4 a5 (nI (p + k)) (bI (dga T p k)) a9 = if idc (T (p + k)) = true then some (.inl (nI (p + (k + 1)), bI (dga T p (k + 1)))) else some (.inr (nI (p + k), bI (dga T p k))) := by
      unfold f_X12_identifiers_l24
      rw [if_neg (nI_ge (by omega) (by omega)), at_spec h (by omega), Option.bind_some, hmg, cmC.2.2.2.2 _ hlt, Option.bind_some, Option.bind_some, ltC _ hlt, Option.bind_some, Option.bind_some, hj65]
      cases hdg : dg (T (p + k))
      · rw [if_pos (show bI false = 0 from rfl)]
        cases hid : idc (T (p + k))
        · have h45 : ¬ T (p + k) = 45 := by
            intro e45
            rw [e45] at hid
            exact absurd hid (by decide)
          rw [decide_eq_false h45, if_neg (show ¬ nI (T (p + k)) = 45 from fun e => h45 ((nI_eq (b := 45) (by omega) (by omega)).mp e))]
          rfl
        · by_cases h45 : T (p + k) = 45
          · rw [decide_eq_true h45, if_pos (show nI (T (p + k)) = 45 by rw [h45]; rfl)]
            rfl
          · rw [decide_eq_false h45]
            rfl
      · rw [if_neg (show ¬ bI true = 0 by decide), show idc (T (p + k)) = true by unfold idc; rw [hdg]; simp]
        rfl
    by_cases hid : idc (T (p + k)) = true
    · rw [if_pos hid] at hb
      rw [lp_step (x' := (nI (p + (k + 1)), bI (dga T p (k + 1)))) hb, ih (k + 1) N (by omega) (by omega) (by omega), run, if_pos ⟨by omega, hid⟩, show p + k + 1 = p + (k + 1) by omega, show k + 1 + run idc T e d (p + (k + 1)) = k + (run idc T e d (p + (k + 1)) + 1) by omega]
    · rw [if_neg hid] at hb
      rw [run, if_neg (fun x => hid x.2)]
      exact lp_exit hb
/-- the number of digits -/
theorem mval_d {m : Mi} {n e p z : Nat} {a3 a5 a7 : Int32} {T : Nat → Nat} (h : MT m n T) (hz : p + z ≤ n) (hall : ∀ j, j < z → dg (T (p + j)) = true) (hz8 : z ≤ 8) :
    lp (fun x : Int64 × Int32 => f_X12_identifiers_l156 TT m 870 (nI e) a3 (nI p) a5 a7 (bI true) x.1 (nI z) x.2) FUEL (0, 0) = some (lN (dv T p z)) := by
  have hn := h.2.2.1
  refine lp_count (fun k => (lN (dv T p k), nI k)) (a := 0) (n := z) (by omega) (by omega) (fun k _ hk => ?_) ?_
  · show f_X12_identifiers_l156 TT m 870 (nI e) a3 (nI p) a5 a7 (bI true) (lN (dv T p k)) (nI z) (nI k) = _
    have hmg : mg T n (p + k) = nI (T (p + k)) := if_pos (by omega)
    have hlt := h.lt (p + k) (by omega)
    have hdl := dg_lt (hall k hk)
    unfold f_X12_identifiers_l156 f_X12_identifiers_j170
    rw [if_neg (show ¬ bI true = 0 by decide), if_neg (nI_ge hk (by omega)), if_neg (show ¬ bI true = 0 by decide), nI_add, at_spec h (by omega), Option.bind_some, hmg]
    simp only [bS]
    rw [nI_1, nI_l (by omega), show (10 : Int64) = lN 10 from rfl, show (48 : Int64) = lN 48 from rfl, lN_mul, lN_add, lN_sub (by omega), dv, show 10 * dv T p k + T (p + k) - 48 = 10 * dv T p k + (T (p + k) - 48) by omega]
  · show f_X12_identifiers_l156 TT m 870 (nI e) a3 (nI p) a5 a7 (bI true) (lN (dv T p z)) (nI z) (nI z) = _
    unfold f_X12_identifiers_l156 f_X12_identifiers_j170
    rw [if_neg (show ¬ bI true = 0 by decide), if_pos (nI_le (Nat.le_refl _) (by omega))]
def byx (T : Nat → Nat) (p z k : Nat) : Nat := if k ≤ z then by8 T p k else by8 T p z * 256 ^ (k - z)
theorem mval_b {m : Mi} {n e p z : Nat} {a3 a5 a7 : Int32} {T : Nat → Nat} (h : MT m n T) (hz : p + z ≤ n) (hall : ∀ j, j < z → T (p + j) < 123) (hz1 : 1 ≤ z) (hz8 : z ≤ 8) :
    lp (fun x : Int64 × Int32 => f_X12_identifiers_l156 TT m 870 (nI e) a3 (nI p) a5 a7 (bI false) x.1 (nI z) x.2) FUEL (0, 0) = some (lN (by8 T p z * 256 ^ (8 - z))) := by
  have hn := h.2.2.1
  have hbx : ∀ k, k ≤ 7 → byx T p z k < 2 ^ 55 := by
    intro k hk
    unfold byx
    by_cases hkz : k ≤ z
    · rw [if_pos hkz]
      cases k with
      | zero => rw [by8]; omega
      | succ k =>
        have h1 := (by8_lt (T := T) (p := p) k (fun j hj => hall j (by omega))).1
        have h2 : 256 ^ k ≤ 256 ^ 6 := Nat.pow_le_pow_right (by omega) (by omega)
        omega
    · rw [if_neg hkz]
      have b8 := (by8_lt (T := T) (p := p) (z - 1) (fun j hj => hall j (by omega))).1
      rw [show z - 1 + 1 = z by omega] at b8
      have h3 : by8 T p z * 256 ^ (k - z) < 123 * 256 ^ (z - 1) * 256 ^ (k - z) := Nat.mul_lt_mul_of_pos_right b8 (Nat.pow_pos (by omega))
      rw [Nat.mul_assoc, ← Nat.pow_add] at h3
      have h2 : 256 ^ (z - 1 + (k - z)) ≤ 256 ^ 6 := Nat.pow_le_pow_right (by omega) (by omega)
      omega
  have hfin : byx T p z 8 = by8 T p z * 256 ^ (8 - z) := by
    unfold byx
    by_cases h8 : 8 ≤ z
    · rw [if_pos h8, show z = 8 by omega]
      simp
    · rw [if_neg h8]
  rw [← hfin]
  refine lp_count (fun k => (lN (byx T p z k), nI k)) (a := 0) (n := 8) (by omega) (by omega) (fun k _ hk => ?_) ?_
  · show f_X12_identifiers_l156 TT m 870 (nI e) a3 (nI p) a5 a7 (bI false) (lN (byx T p z k)) (nI z) (nI k) = _
    unfold f_X12_identifiers_l156 f_X12_identifiers_j170
    rw [if_pos (show bI false = 0 from rfl), if_neg (show ¬ (8 : Int32) ≤ nI k from nI_ge (b := 8) hk (by omega)), if_pos (show bI false = 0 from rfl)]
    have hb := hbx k (by omega)
    by_cases hkz : k < z
    · have hmg : mg T n (p + k) = nI (T (p + k)) := if_pos (by omega)
      have hlt := hall k hkz
      rw [if_neg (nI_ge hkz (by omega)), nI_add, at_spec h (by omega), Option.bind_some, hmg]
      simp only [bS]
      rw [nI_1, shl_or hb (by omega)]
      refine congrArg (fun q => some (Sum.inl (lN q, nI (k + 1)))) ?_
      unfold byx
      rw [if_pos (by omega), if_pos (by omega), by8]
    · rw [if_pos (nI_le (by omega) (by omega))]
      simp only [bS]
      rw [nI_1, show (0 : Int32) = nI 0 from rfl, shl_or hb (by omega)]
      refine congrArg (fun q => some (Sum.inl (lN q, nI (k + 1)))) ?_
      unfold byx
      rw [if_neg (show ¬ k + 1 ≤ z by omega)]
      by_cases hk2 : k ≤ z
      · rw [if_pos hk2, show k = z by omega, show z + 1 - z = 1 by omega]
        omega
      · rw [if_neg hk2, show k + 1 - z = (k - z) + 1 by omega, Nat.pow_succ, ← Nat.mul_assoc]
        omega
  · show f_X12_identifiers_l156 TT m 870 (nI e) a3 (nI p) a5 a7 (bI false) (lN (byx T p z 8)) (nI z) (nI 8) = _
    unfold f_X12_identifiers_l156 f_X12_identifiers_j170
    rw [if_pos (show bI false = 0 from rfl), if_pos (show (8 : Int32) ≤ nI 8 from nI_le (a := 8) (by omega) (by omega))]
/-- one identifier of the reference: the body of its loop -/
theorem mid_step {m : Mi} {n e p k : Nat} {cn : Bool} {T : Nat → Nat} (h : MT m n T) (he : e ≤ n) (hp : p ≤ e) (hk : k ≤ 4) :
    ((idn T e cn p = none ∨ k = 4) → f_X12_identifiers_l9 TT m 870 (nI e) (bI cn) (nI p) (nI k) 1 = some (.inr (.inr (.inl m))) ∨ f_X12_identifiers_l9 TT m 870 (nI e) (bI cn) (nI p) (nI k) 1 = some (.inr (.inr (.inr m)))) ∧
    (∀ w q, idn T e cn p = some (w, q) → k < 4 → q ≤ e ∧ p < q ∧ okn w ∧ ∃ m', KD m m' ∧ (∀ x j, gi m' x j = gi m x j) ∧ (∀ j, gl m' 873 j = if cn = true ∧ j = 4 + k then lN w else if cn = true ∧ j = 3 then lN (k + 1) else gl m 873 j) ∧ f_X12_identifiers_l9 TT m 870 (nI e) (bI cn) (nI p) (nI k) 1 = some (.inl (if atE (fun x => decide (x = 46)) T e q = true then (nI (q + 1), nI (k + 1), 1, m') else (nI q, nI (k + 1), 0, m')))) := by
  have hn := h.2.2.1
  have hl := mscan_lp (a3 := bI cn) (a4 := nI p) (a5 := nI k) (a9 := 0) (p := p) h he (e - p + 9) 0 FUEL (by omega) (by unfold FUEL; omega) (by omega)
  have hmin := run_min (f := idc) (T := T) (e := e) (p := p) (d := 9) (D := e - p + 9) (by omega)
  rw [Nat.zero_add, Nat.add_zero] at hl
  have hin := run_in (f := idc) (T := T) (e := e) (e - p + 9) p hp
  have hall := run_all (f := idc) (T := T) (e := e) (e - p + 9) p
  generalize hz : run idc T e (e - p + 9) p = z at hl hin hall hmin
  have hj : f_X12_identifiers_l9 TT m 870 (nI e) (bI cn) (nI p) (nI k) 1 = f_X12_identifiers_j98 TT m 870 (nI e) (bI cn) (nI p) (nI k) (nI (p + z)) (bI (dga T p z)) 0 := by
    unfold f_X12_identifiers_l9 f_X12_identifiers_j24
    rw [if_neg (by decide), show ((nI p, 1) : Int32 × Int32) = (nI p, bI (dga T p 0)) from rfl, hl]
    rfl
  rw [hj]
  unfold f_X12_identifiers_j98 idn
  rw [pk_sub (by omega), show p + z - p = z by omega, lt_eq, hmin]
  by_cases a0 : z = 0
  · rw [if_pos (show nI z = 0 by rw [a0]; rfl), if_pos (Or.inl (by omega))]
    exact ⟨fun _ => Or.inl rfl, fun w q hx => (by cases hx)⟩
  rw [if_neg (show ¬ nI z = 0 from nI_ne0 (by omega) (by omega))]
  by_cases a8 : 8 < z
  · rw [if_pos (show (8 : Int32) < nI z from nI_lt (a := 8) a8 (by omega)), if_pos (Or.inr (by omega))]
    exact ⟨fun _ => Or.inl rfl, fun w q hx => (by cases hx)⟩
  rw [if_neg (show ¬ (8 : Int32) < nI z from nI_nlt (a := 8) (by omega) (by omega)), if_neg (by omega), show min 9 z = z by omega]
  by_cases k4 : k = 4
  · rw [if_pos (show nI k = 4 by rw [k4]; rfl)]
    exact ⟨fun _ => Or.inl rfl, fun w q _ hk => absurd hk (by omega)⟩
  rw [if_neg (show ¬ nI k = 4 from fun x => k4 ((nI_eq (b := 4) (by omega) (by omega)).mp x))]
  have hdr := dga_run (T := T) (e := e) (p := p) (n := z) hin
  -- from the value on
  have tail : ∀ w : Nat, okn w → ∃ m', KD m m' ∧ (∀ x j, gi m' x j = gi m x j) ∧ (∀ j, gl m' 873 j = if cn = true ∧ j = 4 + k then lN w else if cn = true ∧ j = 3 then lN (k + 1) else gl m 873 j) ∧ f_X12_identifiers_j237 TT m 870 (nI e) (bI cn) (nI k) (nI (p + z)) (lN w) = some (.inl (if atE (fun x => decide (x = 46)) T e (p + z) = true then (nI (p + z + 1), nI (k + 1), 1, m') else (nI (p + z), nI (k + 1), 0, m'))) := by
    intro w hw
    have fin : ∀ m' : Mi, MT m' n T → f_X12_identifiers_j271 TT m' 870 (nI e) (bI cn) (nI (k + 1)) (nI (p + z)) = some (.inl (if atE (fun x => decide (x = 46)) T e (p + z) = true then (nI (p + z + 1), nI (k + 1), 1, m') else (nI (p + z), nI (k + 1), 0, m'))) := by
      intro m' h'
      unfold f_X12_identifiers_j271 f_X12_identifiers_j292 f_X12_identifiers_j293 atE
      rw [if_pos rfl]
      by_cases hq : e ≤ p + z
      · rw [if_pos (nI_le hq (by omega)), if_neg (by simp only [Bool.and_eq_true, decide_eq_true_eq]; omega)]
      · have hmg : mg T n (p + z) = nI (T (p + z)) := if_pos (by omega)
        have hlt := h'.lt (p + z) (by omega)
        rw [if_neg (nI_ge (by omega) (by omega)), at_spec h' (by omega), Option.bind_some, hmg, decide_eq_true (show p + z < e by omega), Bool.true_and]
        by_cases h46 : T (p + z) = 46
        · rw [if_pos (show nI (T (p + z)) = 46 by rw [h46]; rfl), if_neg (by decide), if_pos (decide_eq_true h46)]
          simp only [bS]
          rw [nI_1]
        · rw [if_neg (show ¬ nI (T (p + z)) = 46 from fun e => h46 ((nI_eq (b := 46) (by omega) (by omega)).mp e)), if_neg (show ¬ decide (T (p + z) = 46) = true from fun x => h46 (of_decide_eq_true x))]
    cases cn with
    | false =>
      refine ⟨m, KD.rf, fun _ _ => rfl, fun j => by rw [if_neg (by simp), if_neg (by simp)], ?_⟩
      unfold f_X12_identifiers_j237 f_X12_identifiers_j252
      rw [if_pos (show bI false = 0 from rfl), lt_eq, if_pos (show bI false = 0 from rfl), nI_1]
      exact fin m h
    | true =>
      have r4 : gr m 870 4 = 873 := h.1 4 (by omega)
      have kk : KD m (sl (sl m 873 (4 + k) (lN w)) 873 3 (lN (k + 1))) := by
        refine ⟨fun _ _ _ => rfl, fun x j h1 _ => ?_, fun _ _ => rfl⟩
        simp only [mS]
        rw [if_neg (by omega), if_neg (by omega)]
      refine ⟨_, kk, fun _ _ => rfl, fun j => ?_, ?_⟩
      · simp only [mS]
        by_cases hj3 : j = 3
        · rw [if_pos ⟨trivial, hj3⟩, if_neg (by omega), if_pos ⟨trivial, hj3⟩]
        · rw [if_neg (fun e => hj3 e.2), if_neg (fun e : _ ∧ j = 3 => hj3 e.2)]
      · unfold f_X12_identifiers_j237 f_X12_identifiers_j252
        have r4' : gr (sl m 873 (4 + k) (lN w)) 870 4 = 873 := r4
        rw [if_neg (show ¬ bI true = 0 by decide), r4, show (4 : Int32) + nI k = nI (4 + k) from nI_add 4 k, if_pos (ar_of s_873 (by omega) (by omega)), ix_nI (by omega)]
        simp only [lt_eq]
        rw [if_neg (show ¬ bI true = 0 by decide), r4', show (3 : Int32) = nI 3 from rfl, if_pos (ar_of s_873 (by omega) (by omega)), ix_nI (by omega), nI_1, nI_l (by omega)]
        exact fin _ (h.keep kk)
  have b8 : by8 T p z < 123 * 256 ^ (z - 1) ∧ T p * 256 ^ (z - 1) ≤ by8 T p z := by
    have := by8_lt (T := T) (p := p) (z - 1) (fun j hj => (idc_lt (hall j (by omega)).2).1)
    rw [show z - 1 + 1 = z by omega] at this
    exact this
  have h156 : ∀ (w : Nat) (x : Option ((Int32 × Int32 × Int32 × Mi) ⊕ (((Int32 × Mi) ⊕ ((Mi) ⊕ (Mi)))))), okn w → lp (fun x : Int64 × Int32 => f_X12_identifiers_l156 TT m 870 (nI e) (bI cn) (nI p) (nI k) (nI (p + z)) (bI (dga T p z)) x.1 (nI z) x.2) FUEL (0, 0) = some (lN w) → x = f_X12_identifiers_j153 TT m 870 (nI e) (bI cn) (nI p) (nI k) (nI (p + z)) (bI (dga T p z)) 0 (nI z) →
      (((some (w, p + z) : Option (Nat × Nat)) = none ∨ k = 4) → x = some (.inr (.inr (.inl m))) ∨ x = some (.inr (.inr (.inr m)))) ∧ (∀ w' q, some (w, p + z) = some (w', q) → k < 4 → q ≤ e ∧ p < q ∧ okn w' ∧ ∃ m', KD m m' ∧ (∀ x j, gi m' x j = gi m x j) ∧ (∀ j, gl m' 873 j = if cn = true ∧ j = 4 + k then lN w' else if cn = true ∧ j = 3 then lN (k + 1) else gl m 873 j) ∧ x = some (.inl (if atE (fun x => decide (x = 46)) T e q = true then (nI (q + 1), nI (k + 1), 1, m') else (nI q, nI (k + 1), 0, m')))) := by
    intro w x hw hlp hx
    refine ⟨fun hy => hy.elim (fun hy => (by cases hy)) (fun hy => absurd hy k4), fun w' q hy _ => ?_⟩
    have hy := Option.some.inj hy
    have e3 : w' = w := (congrArg Prod.fst hy).symm
    have e4 : q = p + z := (congrArg Prod.snd hy).symm
    subst e3
    subst e4
    obtain ⟨m', k', i', l', t'⟩ := tail w' hw
    refine ⟨hin, by omega, hw, m', k', i', l', ?_⟩
    rw [hx]
    unfold f_X12_identifiers_j153 f_X12_identifiers_j156
    rw [hlp, Option.bind_some, t']
  by_cases hdg : dga T p z = true
  · have hdd := (dga_all z).mp hdg
    have hlt : dv T p z < 10 ^ 8 := Nat.lt_of_lt_of_le (dv_lt z hdd) (Nat.pow_le_pow_right (by omega) (by omega))
    have hv := mval_d (e := e) (a3 := bI cn) (a5 := nI k) (a7 := nI (p + z)) h (by omega) hdd (by omega)
    have hh := fun x hx => h156 (dv T p z) x (Or.inl (by omega)) (by rw [hdg]; exact hv) hx
    rw [if_pos (hdr.mpr hdg)]
    cases cn with
    | false =>
      rw [if_pos (show bI false = 0 from rfl), if_neg (by simp)]
      exact hh _ rfl
    | true =>
      rw [if_neg (show ¬ bI true = 0 by decide), if_neg (show ¬ bI (dga T p z) = 0 by rw [hdg]; decide)]
      by_cases h1 : z ≤ 1
      · rw [if_neg (by omega), if_pos (show nI z ≤ 1 from nI_le (b := 1) h1 (by omega))]
        exact hh _ rfl
      · have hmg : mg T n p = nI (T p) := if_pos (by omega)
        have hlt0 := h.lt p (by omega)
        rw [if_neg (show ¬ nI z ≤ 1 from nI_ge (a := 1) (by omega) (by omega)), at_spec h (by omega), Option.bind_some, hmg]
        by_cases h48 : T p = 48
        · rw [if_pos ⟨rfl, by omega, h48⟩, if_pos (show nI (T p) = 48 by rw [h48]; rfl)]
          exact ⟨fun _ => Or.inr rfl, fun w q hx => (by cases hx)⟩
        · rw [if_neg (by omega), if_neg (show ¬ nI (T p) = 48 from fun e => h48 ((nI_eq (b := 48) (by omega) (by omega)).mp e))]
          exact hh _ rfl
  · have hdf := Bool.eq_false_iff.mpr hdg
    have p7 : 256 ^ (z - 1) * 256 ^ (8 - z) = 256 ^ 7 := by rw [← Nat.pow_add, show z - 1 + (8 - z) = 7 by omega]
    have u1 : by8 T p z * 256 ^ (8 - z) < 123 * 256 ^ 7 := by
      rw [← p7, ← Nat.mul_assoc]
      exact Nat.mul_lt_mul_of_pos_right b8.1 (Nat.pow_pos (by omega))
    have u2 : T p * 256 ^ 7 ≤ by8 T p z * 256 ^ (8 - z) := by
      rw [← p7, ← Nat.mul_assoc]
      exact Nat.mul_le_mul_right _ b8.2
    have u3 := (idc_lt (hall 0 (by omega)).2).2
    rw [Nat.add_zero] at u3
    have u4 : 45 * 256 ^ 7 ≤ T p * 256 ^ 7 := Nat.mul_le_mul_right _ u3
    have hv := mval_b (e := e) (a3 := bI cn) (a5 := nI k) (a7 := nI (p + z)) h (by omega) (fun j hj => (idc_lt (hall j hj).2).1) (by omega) (by omega)
    have hh := fun x hx => h156 (by8 T p z * 256 ^ (8 - z)) x (Or.inr (by omega)) (by rw [hdf]; exact hv) hx
    rw [if_neg (fun x => hdg (hdr.mp x))]
    cases cn with
    | false =>
      rw [if_pos (show bI false = 0 from rfl)]
      exact hh _ rfl
    | true =>
      rw [if_neg (show ¬ bI true = 0 by decide), if_pos (show bI (dga T p z) = 0 by rw [hdf]; rfl)]
      exact hh _ rfl
