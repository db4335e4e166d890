/-! Numbers, identifiers and versions on the class's page. -/
theorem dgF_eq : ∀ d n, n < 10 ^ d → 1 ≤ d → ∃ k, 1 ≤ k ∧ k ≤ d ∧ n < 10 ^ k ∧ (k = 1 ∨ 10 ^ (k - 1) ≤ n) ∧ dgF d n = (List.range k).map (fun i => 48 + n / 10 ^ (k - 1 - i) % 10) := by
  intro d
  induction d with
  | zero => intro n _ h; omega
  | succ d ih =>
    intro n hn _
    rw [dgF]
    by_cases h : n < 10
    · refine ⟨1, by omega, by omega, by omega, Or.inl rfl, ?_⟩
      rw [if_pos h]
      show [48 + n] = [48 + n / 10 ^ 0 % 10]
      rw [Nat.pow_zero, Nat.div_one, Nat.mod_eq_of_lt h]
    · rw [if_neg h]
      have hd : 1 ≤ d := by
        rcases Nat.eq_zero_or_pos d with h0 | h0
        · rw [h0] at hn; omega
        · exact h0
      rw [Nat.pow_succ] at hn
      obtain ⟨k, k1, k2, k3, k4, k5⟩ := ih (n / 10) (by omega) hd
      refine ⟨k + 1, by omega, by omega, by rw [Nat.pow_succ]; omega, Or.inr ?_, ?_⟩
      · rw [Nat.add_sub_cancel]
        rcases k4 with k4 | k4
        · rw [k4]; omega
        · obtain ⟨j, rfl⟩ : ∃ j, k = j + 1 := ⟨k - 1, by omega⟩
          rw [Nat.add_sub_cancel] at k4
          rw [Nat.pow_succ]
          omega
      · have e1 : (List.range k).map (fun i => 48 + n / 10 / 10 ^ (k - 1 - i) % 10) = (List.range k).map (fun i => 48 + n / 10 ^ (k + 1 - 1 - i) % 10) := List.map_congr_left (fun i hi => by
          have hi := List.mem_range.mp hi
          rw [show k + 1 - 1 - i = (k - 1 - i) + 1 by omega, Nat.pow_succ, Nat.mul_comm (10 ^ (k - 1 - i)) 10, ← Nat.div_div_eq_div_mul])
        have e2 : [48 + n % 10] = [k].map (fun i => 48 + n / 10 ^ (k + 1 - 1 - i) % 10) := by
          show [48 + n % 10] = [48 + n / 10 ^ (k + 1 - 1 - k) % 10]
          rw [show k + 1 - 1 - k = 0 by omega, Nat.pow_zero, Nat.div_one]
        rw [k5, List.range_succ, List.map_append, e1, e2]
theorem dg_lt8 (n k : Nat) : 48 + n / 10 ^ k % 10 < 256 := by
  have := Nat.mod_lt (n / 10 ^ k) (show 0 < 10 by omega)
  omega
/-- the digits, last first, into their cells -/
theorem dig_lp {n K : Nat} (hn : n < 10 ^ K) (hn2 : n < 2 ^ 62) (hK1 : 1 ≤ K) (hK : K ≤ 10) (hlo : K = 1 ∨ 10 ^ (K - 1) ≤ n) {L : List Nat} : ∀ (d k N : Nat) (m : Mi), k + 1 + d = K → d < N → PgC m L → (∀ j, j < k → gi m 866 j = bT (48 + n / 10 ^ j % 10)) →
    ∃ m', lp (fun x : Int64 × Int32 × Mi => f_X3_putNumber_l9 TT x.2.2 864 x.1 x.2.1) N (lN (n / 10 ^ k), nI k, m) = some (nI K, m') ∧ PgC m' L ∧ FI FPg m m' ∧ ∀ j, j < K → gi m' 866 j = bT (48 + n / 10 ^ j % 10) := by
  intro d
  induction d with
  | zero =>
    intro k N m hk hN hP hd
    obtain ⟨N, rfl⟩ : ∃ y, N = y + 1 := ⟨N - 1, by omega⟩
    have hle : n / 10 ^ k ≤ n := Nat.div_le_self _ _
    have f1 : FI FPg m (si m 866 k (bT (48 + n / 10 ^ k % 10))) := FI.si (P := FPg) (Or.inr (Or.inl rfl))
    have hz : n / 10 ^ k / 10 = 0 := by
      rw [Nat.div_div_eq_div_mul, show 10 ^ k * 10 = 10 ^ K by rw [← show k + 1 = K by omega, Nat.pow_succ]]
      exact Nat.div_eq_of_lt hn
    refine ⟨si m 866 k (bT (48 + n / 10 ^ k % 10)), lp_exit ?_, ⟨hP.1, hP.2.1, (show gi (si m 866 k (bT (48 + n / 10 ^ k % 10))) 864 1 = gi m 864 1 by simp only [mS]; rw [if_neg (by omega)]).trans hP.2.2.1, fun i b hi => by simp only [mS]; rw [if_neg (by omega)]; exact hP.2.2.2 i b hi⟩, f1, fun j hj => ?_⟩
    · show f_X3_putNumber_l9 TT m 864 (lN (n / 10 ^ k)) (nI k) = _
      unfold f_X3_putNumber_l9
      rw [hP.1.2.1, if_pos (ar_of s_866 (by omega) (by omega)), show (10 : Int64) = lN 10 from rfl, pk_lRem (by omega) (by omega) (by omega), show (48 : Int64) = lN 48 from rfl, lN_add, lN_i, nar_bT _ (dg_lt8 n k), lt_eq, lt_eq, lt_eq, ix_nI (by omega), pk_lDiv (by omega) (by omega) (by omega), hz, if_pos (by decide), nI_1, show k + 1 = K by omega]
    · by_cases hjk : j = k
      · rw [hjk]; exact gi_si _ _ _ _
      · simp only [mS]; rw [if_neg (by omega)]; exact hd j (by omega)
  | succ d ih =>
    intro k N m hk hN hP hd
    obtain ⟨N, rfl⟩ : ∃ y, N = y + 1 := ⟨N - 1, by omega⟩
    have hle : n / 10 ^ k ≤ n := Nat.div_le_self _ _
    have f1 : FI FPg m (si m 866 k (bT (48 + n / 10 ^ k % 10))) := FI.si (P := FPg) (Or.inr (Or.inl rfl))
    have hdiv : n / 10 ^ k / 10 = n / 10 ^ (k + 1) := by rw [Nat.div_div_eq_div_mul, ← Nat.pow_succ]
    have hpos : 1 ≤ n / 10 ^ (k + 1) := by
      have h1 : 10 ^ (K - 1) ≤ n := by rcases hlo with h | h; omega; exact h
      have h2 : 10 ^ (k + 1) ≤ 10 ^ (K - 1) := Nat.pow_le_pow_right (by omega) (by omega)
      exact (Nat.le_div_iff_mul_le (Nat.pow_pos (by omega))).mpr (by omega)
    have hle2 : n / 10 ^ (k + 1) ≤ n := Nat.div_le_self _ _
    have hbody : f_X3_putNumber_l9 TT m 864 (lN (n / 10 ^ k)) (nI k) = some (.inl (lN (n / 10 ^ (k + 1)), nI (k + 1), si m 866 k (bT (48 + n / 10 ^ k % 10)))) := by
      unfold f_X3_putNumber_l9
      rw [hP.1.2.1, if_pos (ar_of s_866 (by omega) (by omega)), show (10 : Int64) = lN 10 from rfl, pk_lRem (by omega) (by omega) (by omega), show (48 : Int64) = lN 48 from rfl, lN_add, lN_i, nar_bT _ (dg_lt8 n k), lt_eq, lt_eq, lt_eq, ix_nI (by omega), pk_lDiv (by omega) (by omega) (by omega), hdiv, if_neg (fun z => by
        have := (lg_cmp_le _ _).mp z
        rw [show (0 : Int64) = lN 0 from rfl, pk_lLE (by omega) (by omega)] at this
        omega), nI_1, if_pos (show nI (k + 1) < 10 from nI_lt (b := 10) (by omega) (by omega))]
    obtain ⟨m', e2, p2, f2, g2⟩ := ih (k + 1) N (si m 866 k (bT (48 + n / 10 ^ k % 10))) (by omega) (by omega) ⟨hP.1, hP.2.1, (show gi (si m 866 k (bT (48 + n / 10 ^ k % 10))) 864 1 = gi m 864 1 by simp only [mS]; rw [if_neg (by omega)]).trans hP.2.2.1, fun i b hi => by simp only [mS]; rw [if_neg (by omega)]; exact hP.2.2.2 i b hi⟩ (fun j hj => by
      by_cases hjk : j = k
      · rw [hjk]; exact gi_si _ _ _ _
      · simp only [mS]; rw [if_neg (by omega)]; exact hd j (by omega))
    rw [lp_step (show (fun x : Int64 × Int32 × Mi => f_X3_putNumber_l9 TT x.2.2 864 x.1 x.2.1) (lN (n / 10 ^ k), nI k, m) = _ from hbody)]
    exact ⟨m', e2, p2, f1.tr f2, g2⟩
/-- and out of them -/
theorem digo_lp {n : Nat} : ∀ (k N : Nat) (m : Mi) (L : List Nat), k < N → k ≤ 10 → PgC m L → L.length + k ≤ 2500 → (∀ j, j < k → gi m 866 j = bT (48 + n / 10 ^ j % 10)) →
    ∃ m', lp (fun x : Int32 × Mi => f_X3_putNumber_l55 TT x.2 864 x.1) N (nI k - 1, m) = some m' ∧ PgC m' (L ++ (List.range k).map (fun i => 48 + n / 10 ^ (k - 1 - i) % 10)) ∧ FI FPg m m' := by
  intro k
  induction k with
  | zero =>
    intro N m L hN _ hP _ _
    obtain ⟨N, rfl⟩ : ∃ y, N = y + 1 := ⟨N - 1, by omega⟩
    refine ⟨m, lp_exit ?_, by simpa using hP, FI.rf⟩
    show f_X3_putNumber_l55 TT m 864 (nI 0 - 1) = _
    unfold f_X3_putNumber_l55
    rw [if_pos (by decide)]
  | succ k ih =>
    intro N m L hN hk hP hL hd
    obtain ⟨N, rfl⟩ : ∃ y, N = y + 1 := ⟨N - 1, by omega⟩
    rw [nI_pred]
    obtain ⟨m1, e1, p1, f1, g1⟩ := sign_C (v := bT (48 + n / 10 ^ k % 10)) hP (by omega) (dg_lt8 n k) (nar_bTT _ (dg_lt8 n k))
    have hbody : f_X3_putNumber_l55 TT m 864 (nI k) = some (.inl (nI k - 1, m1)) := by
      unfold f_X3_putNumber_l55
      rw [if_neg (nI_pos (by omega)), hP.1.2.1, if_pos (ar_of s_866 (by omega) (by omega)), ix_nI (by omega), hd k (by omega), e1, Option.bind_some, lt_eq, ← Int32.sub_eq_add_neg]
    obtain ⟨m', e2, p2, f2⟩ := ih N m1 _ (by omega) (by omega) p1 (by rw [List.length_append, List.length_singleton]; omega) (fun j hj => (g1 j).trans (hd j (by omega)))
    rw [lp_step (show (fun x : Int32 × Mi => f_X3_putNumber_l55 TT x.2 864 x.1) (nI k, m) = _ from hbody)]
    refine ⟨m', e2, ?_, f1.tr f2⟩
    have el : (List.range (k + 1)).map (fun i => 48 + n / 10 ^ (k + 1 - 1 - i) % 10) = [48 + n / 10 ^ k % 10] ++ (List.range k).map (fun i => 48 + n / 10 ^ (k - 1 - i) % 10) := by
      rw [List.range_succ_eq_map, List.map_cons, List.map_map]
      refine congrArg (List.cons (48 + n / 10 ^ k % 10)) (List.map_congr_left (fun i _ => ?_))
      show 48 + n / 10 ^ (k + 1 - 1 - (i + 1)) % 10 = _
      rw [show k + 1 - 1 - (i + 1) = k - 1 - i by omega]
    rw [el, ← List.append_assoc]
    exact p2
theorem number_C {m : Mi} {L : List Nat} {n : Nat} (hn : n < 10 ^ 10) (hP : PgC m L) (hL : L.length + (dgs n).length ≤ 2500) : ∃ m', f_X3_putNumber TT m 864 (lN n) = some m' ∧ PgC m' (L ++ dgs n) ∧ FI FPg m m' := by
  obtain ⟨K, k1, k2, k3, k4, k5⟩ := dgF_eq 10 n hn (by omega)
  have k5 : dgs n = _ := k5
  have hlen : (dgs n).length = K := by rw [k5, List.length_map, List.length_range]
  obtain ⟨m1, e1, p1, f1, g1⟩ := dig_lp (L := L) k3 (by omega) k1 k2 k4 (K - 1) 0 FUEL m (by omega) (by unfold FUEL; omega) hP (fun j hj => by omega)
  obtain ⟨m2, e2, p2, f2⟩ := digo_lp (n := n) K FUEL m1 L (by unfold FUEL; omega) k2 p1 (by omega) g1
  refine ⟨m2, ?_, by rw [k5]; exact p2, f1.tr f2⟩
  unfold f_X3_putNumber f_X3_putNumber_j9
  rw [lt_eq, if_neg (show ¬ lN n < 0 from fun z => by rw [show (0 : Int64) = lN 0 from rfl, pk_lLT (by omega) (by omega)] at z; omega)]
  rw [Nat.pow_zero, Nat.div_one] at e1
  rw [show (lN n, (0 : Int32), m) = (lN n, nI 0, m) from rfl, e1, Option.bind_some]
  unfold f_X3_putNumber_j49 f_X3_putNumber_j55
  rw [lt_eq, e2, Option.bind_some]
  rfl
theorem wbL_zero {w : Nat} (hz : zE w) : ∀ d i, i + d = 8 → kB w i = 0 → wbL w d i = [] := by
  intro d
  induction d with
  | zero => intro i _ _; rfl
  | succ d ih =>
    intro i hi h0
    rw [wbL, if_pos h0]
    cases d with
    | zero => rfl
    | succ d => exact ih (i + 1) (by omega) (hz i (i + 1) (by omega) (by omega) h0)
theorem keyW_lp {w : Nat} (hw : w < 2 ^ 63) (hz : zE w) : ∀ (d i N : Nat) (m : Mi) (L : List Nat) (x : Int32), i + d = 8 → d < N → x = nI (8 * d) - 8 → PgC m L → L.length + d ≤ 2500 →
    ∃ m', lp (fun x : Int32 × Mi => f_X3_putKey_l20 TT x.2 864 (lN w) x.1) N (x, m) = some m' ∧ PgC m' (L ++ wbL w d i) ∧ FI FPg m m' := by
  intro d
  induction d with
  | zero =>
    intro i N m L x hi hN hx hP hL
    obtain ⟨N, rfl⟩ : ∃ y, N = y + 1 := ⟨N - 1, by omega⟩
    refine ⟨m, lp_exit ?_, by rw [wbL, List.append_nil]; exact hP, FI.rf⟩
    show f_X3_putKey_l20 TT m 864 (lN w) x = _
    unfold f_X3_putKey_l20
    rw [hx, if_pos (by decide)]
  | succ d ih =>
    intro i N m L x hi hN hx hP hL
    obtain ⟨N, rfl⟩ : ∃ y, N = y + 1 := ⟨N - 1, by omega⟩
    have hx2 : x = nI (8 * d) := by
      rw [hx, show 8 * (d + 1) = 8 * d + 8 by omega, ← nI_add]
      exact Int32.add_sub_cancel _ _
    have hk := kB_l hw (show d < 8 by omega)
    rw [show 7 - d = i by omega] at hk
    have hb := kB_lt w i
    by_cases h0 : kB w i = 0
    · refine ⟨m, lp_exit ?_, by rw [wbL_zero hz (d + 1) i hi h0, List.append_nil]; exact hP, FI.rf⟩
      show f_X3_putKey_l20 TT m 864 (lN w) x = _
      unfold f_X3_putKey_l20
      rw [hx2, if_neg (nI_pos (by omega)), hk, h0, if_pos (by decide)]
    · obtain ⟨m1, e1, p1, f1, _⟩ := sign_C (v := nI (kB w i)) hP (by omega) hb (nar_bT _ hb)
      have hbody : f_X3_putKey_l20 TT m 864 (lN w) x = some (.inl (nI (8 * d) - 8, m1)) := by
        unfold f_X3_putKey_l20
        rw [hx2, if_neg (nI_pos (by omega)), hk, if_neg (fun z => by
          have := (lg_cmp_eq _ _).mp z
          rw [show (0 : Int64) = lN 0 from rfl, pk_lEQ (by omega) (by omega)] at this
          exact h0 this), lN_i, e1, Option.bind_some, lt_eq, Int32.sub_eq_add_neg]
      obtain ⟨m', e2, p2, f2⟩ := ih (i + 1) N m1 _ (nI (8 * d) - 8) (by omega) (by omega) rfl p1 (by rw [List.length_append, List.length_singleton]; omega)
      rw [lp_step (show (fun x : Int32 × Mi => f_X3_putKey_l20 TT x.2 864 (lN w) x.1) (x, m) = _ from hbody)]
      refine ⟨m', e2, ?_, f1.tr f2⟩
      rw [wbL, if_neg h0]
      rw [List.append_assoc, List.singleton_append] at p2
      exact p2
theorem putKey_C {m : Mi} {L : List Nat} {w : Nat} (hw : okw w) (hP : PgC m L) (hL : L.length + 8 ≤ 2500) : ∃ m', f_X3_putKey TT m 864 (lN (ckey w)) = some m' ∧ PgC m' (L ++ itx w) ∧ FI FPg m m' := by
  have hil := itx_len hw
  have h56 : (((56 : Int32).toInt64 &&& 63).toBitVec.smod 64).toNat = 56 := by decide
  unfold f_X3_putKey
  rcases hw with h | ⟨h1, h2, h3⟩
  · have hck : ckey w = w + 1 := by unfold ckey; rw [if_pos (by omega)]
    have hit : itx w = dgs w := by unfold itx; rw [if_pos (by omega)]
    rw [hit] at hil
    obtain ⟨m', e, p, f⟩ := number_C (n := w) (by omega) hP (by omega)
    refine ⟨m', ?_, by rw [hit]; exact p, f⟩
    rw [hck, lshrN (by omega) _ 56 h56, show (w + 1) / 2 ^ 56 = 0 by omega, if_pos (by decide), show (1 : Int64) = lN 1 from rfl, lN_sub (by omega), Nat.add_sub_cancel, e, Option.bind_some]
  · have hck : ckey w = w := by unfold ckey; rw [if_neg (by omega)]
    have hit : itx w = wb w := by unfold itx; rw [if_neg (by omega)]
    obtain ⟨m', e, p, f⟩ := keyW_lp (show w < 2 ^ 63 by omega) h3 8 0 FUEL m L (nI (8 * 8) - 8) (by omega) (by unfold FUEL; omega) rfl hP hL
    refine ⟨m', ?_, by rw [hit]; exact p, f⟩
    rw [hck, lshrN (show w < 2 ^ 63 by omega) _ 56 h56, if_neg (fun z => by
      have := (lg_cmp_eq _ _).mp z
      rw [show (0 : Int64) = lN 0 from rfl, pk_lEQ (by omega) (by omega)] at this
      omega)]
    unfold f_X3_putKey_j20
    rw [show ((56 : Int32), m) = (nI (8 * 8) - 8, m) from rfl, e, Option.bind_some]
    rfl
