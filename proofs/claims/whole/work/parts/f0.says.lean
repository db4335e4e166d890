/-! Signs, texts and numbers that the reference writes. -/
def PgM (m : Mi) (L : List Nat) : Prop := WFM m ∧ L.length ≤ 4000 ∧ gi m 870 60 = nI L.length ∧ ∀ i b, L[i]? = some b → gi m 912 i = bT b ∧ b < 256
def FPm (x j : Nat) : Prop := x = 912 ∨ (x = 870 ∧ j = 60)
theorem says_M {m : Mi} {L : List Nat} {b : Nat} {v : Int32} (hP : PgM m L) (hL : L.length < 4000) (hb : b < 256) (hv : vp_nar .byte ((Int32.toInt8 v).toInt32) = bT b) : ∃ m', f_X12_says TT m 870 v = some m' ∧ PgM m' (L ++ [b]) ∧ FI FPm m m' := by
  obtain ⟨w, h1, h2, h3⟩ := hP
  have f : FI FPm m (si (si m 912 L.length (bT b)) 870 60 (nI (L.length + 1))) := (FI.si (P := FPm) (Or.inl rfl)).tr (FI.si (P := FPm) (Or.inr ⟨rfl, rfl⟩))
  refine ⟨si (si m 912 L.length (bT b)) 870 60 (nI (L.length + 1)), ?_, ⟨fun k hk => (f.2.2 _ _).trans (w k hk), by rw [List.length_append, List.length_singleton]; omega, by rw [List.length_append, List.length_singleton]; exact gi_si _ _ _ _, fun i c hi => ?_⟩, f⟩
  · unfold f_X12_says
    rw [show gr m 870 59 = 912 from w 59 (by omega), h2, if_pos (ar_of s_912 (by omega) (by omega)), lt_eq, lt_eq, ix_nI (by omega), hv, show gi (si m 912 L.length (bT b)) 870 60 = nI L.length by simp only [mS]; rw [if_neg (by omega)]; exact h2, nI_1]
  · rcases app_get hi with ⟨a1, a2⟩ | ⟨a1, a2⟩
    · simp only [mS]
      rw [if_neg (by omega), if_neg (by omega)]
      exact h3 i c a2
    · simp only [mS]
      rw [if_neg (by omega), if_pos ⟨trivial, a1⟩, a2]
      exact ⟨rfl, hb⟩
theorem saysN_M {m : Mi} {L : List Nat} (b : Nat) (hP : PgM m L) (hL : L.length < 4000) (hb : b < 256) : ∃ m', f_X12_says TT m 870 (nI b) = some m' ∧ PgM m' (L ++ [b]) ∧ FI FPm m m' := says_M hP hL hb (nar_bT b hb)
theorem cutT_cons {T : Nat → Nat} {k b : Nat} (h : k < b) : cutT T k b = T k :: cutT T (k + 1) b := by
  unfold cutT
  rw [show b - k = (b - (k + 1)) + 1 by omega, List.range_succ_eq_map, List.map_cons, List.map_map]
  refine congrArg (List.cons (T k)) (List.map_congr_left (fun j _ => ?_))
  show T (k + (j + 1)) = T (k + 1 + j)
  rw [show k + (j + 1) = k + 1 + j by omega]
theorem textM_lp {s n a b : Nat} {T : Nat → Nat} (hs : s < 2) (hn : n ≤ 2000) (hb : b ≤ n) (hT : ∀ j, j < n → T j < 256) : ∀ (d k N : Nat) (m : Mi) (L : List Nat), a + k + d = b → d < N → PgM m L → gi m 870 21 = nI s → (∀ j, j < n → gi m 880 (2000 * s + j) = bT (T j)) → L.length + d ≤ 4000 → ∃ m', lp (fun x : Int32 × Mi => f_X12_saysText_l2 TT x.2 870 (nI a) (nI (b - a)) x.1) N (nI k, m) = some m' ∧ PgM m' (L ++ cutT T (a + k) b) ∧ FI FPm m m' := by
  intro d
  induction d with
  | zero =>
    intro k N m L hk hN hP h21 hx hL
    obtain ⟨N, rfl⟩ : ∃ y, N = y + 1 := ⟨N - 1, by omega⟩
    have e0 : cutT T (a + k) b = [] := by unfold cutT; rw [show b - (a + k) = 0 by omega]; rfl
    rw [e0, List.append_nil]
    refine ⟨m, lp_exit ?_, hP, FI.rf⟩
    show f_X12_saysText_l2 TT m 870 (nI a) (nI (b - a)) (nI k) = _
    unfold f_X12_saysText_l2
    rw [if_pos (nI_le (by omega) (by omega))]
  | succ d ih =>
    intro k N m L hk hN hP h21 hx hL
    obtain ⟨N, rfl⟩ : ∃ y, N = y + 1 := ⟨N - 1, by omega⟩
    have ht := hT (a + k) (by omega)
    obtain ⟨m1, e1, p1, f1⟩ := says_M (v := bT (T (a + k))) hP (by omega) ht (nar_bTT _ ht)
    have hbody : f_X12_saysText_l2 TT m 870 (nI a) (nI (b - a)) (nI k) = some (.inl (nI (k + 1), m1)) := by
      unfold f_X12_saysText_l2
      rw [if_neg (nI_ge (by omega) (by omega)), show gr m 870 22 = 880 from hP.1 22 (by omega), h21, show (2000 : Int32) = nI 2000 from rfl, pk_mul, nI_add, nI_add, if_pos (ar_of s_880 (by omega) (by omega)), ix_nI (by omega), show 2000 * s + a + k = 2000 * s + (a + k) by omega, hx _ (by omega), e1, Option.bind_some, lt_eq, nI_1]
    obtain ⟨m', e2, p2, f2⟩ := ih (k + 1) N m1 _ (by omega) (by omega) p1 ((f1.1 _ _ (by unfold FPm; omega)).trans h21) (fun j hj => (f1.1 _ _ (by unfold FPm; omega)).trans (hx j hj)) (by rw [List.length_append, List.length_singleton]; omega)
    rw [lp_step (show (fun x : Int32 × Mi => f_X12_saysText_l2 TT x.2 870 (nI a) (nI (b - a)) x.1) (nI k, m) = _ from hbody)]
    refine ⟨m', e2, ?_, f1.tr f2⟩
    rw [cutT_cons (show a + k < b by omega)]
    rw [List.append_assoc, List.singleton_append] at p2
    exact p2
theorem saysText_M {s n a b : Nat} {T : Nat → Nat} {m : Mi} {L : List Nat} (hs : s < 2) (hn : n ≤ 2000) (hab : a ≤ b) (hb : b ≤ n) (hT : ∀ j, j < n → T j < 256) (hP : PgM m L) (h21 : gi m 870 21 = nI s) (hx : ∀ j, j < n → gi m 880 (2000 * s + j) = bT (T j)) (hL : L.length + (b - a) ≤ 4000) : ∃ m', f_X12_saysText TT m 870 (nI a) (nI (b - a)) = some m' ∧ PgM m' (L ++ cutT T a b) ∧ FI FPm m m' := by
  obtain ⟨m', e, p, f⟩ := textM_lp (a := a) (b := b) hs hn hb hT (b - a) 0 FUEL m L (by omega) (by unfold FUEL; omega) hP h21 hx hL
  refine ⟨m', ?_, by rw [Nat.add_zero] at p; exact p, f⟩
  unfold f_X12_saysText f_X12_saysText_j2
  rw [show ((0 : Int32), m) = (nI 0, m) from rfl, e, Option.bind_some]
  rfl
/-- the power of ten of the first digit -/
theorem pow_lp {n K : Nat} {m : Mi} (hn : n < 10 ^ K) (hK1 : 1 ≤ K) (hK : K ≤ 10) (hlo : K = 1 ∨ 10 ^ (K - 1) ≤ n) : ∀ (d k N : Nat), k + d = K - 1 → d < N → lp (fun x : Int64 => f_X12_saysNumber_l2 TT m 870 (lN n) x) N (lN (10 ^ k)) = some (lN (10 ^ (K - 1))) := by
  have hp10 : ∀ k, k ≤ 10 → 10 ^ k ≤ 10 ^ 10 ∧ 1 ≤ 10 ^ k := fun k hk => ⟨Nat.pow_le_pow_right (by omega) hk, Nat.pow_pos (by omega)⟩
  have hn2 : n < 10 ^ 10 := Nat.lt_of_lt_of_le hn (hp10 K hK).1
  intro d
  induction d with
  | zero =>
    intro k N hk hN
    obtain ⟨N, rfl⟩ : ∃ y, N = y + 1 := ⟨N - 1, by omega⟩
    have hk1 := hp10 k (by omega)
    have hdv : n / 10 ^ k < 10 := by
      rw [Nat.div_lt_iff_lt_mul (by omega)]
      rw [show K = k + 1 by omega, Nat.pow_succ] at hn
      omega
    rw [← show k = K - 1 by omega]
    refine lp_exit ?_
    show f_X12_saysNumber_l2 TT m 870 (lN n) (lN (10 ^ k)) = _
    unfold f_X12_saysNumber_l2
    rw [if_pos (show ¬ lN (10 ^ k) = 0 from fun z => by rw [show (0 : Int64) = lN 0 from rfl, pk_lEQ (by omega) (by omega)] at z; omega), pk_lDiv (by omega) (by omega) (by omega), if_pos ((lg_cmp_lt _ _).mpr (by rw [show (10 : Int64) = lN 10 from rfl, pk_lLT (by omega) (by omega)]; exact hdv))]
  | succ d ih =>
    intro k N hk hN
    obtain ⟨N, rfl⟩ : ∃ y, N = y + 1 := ⟨N - 1, by omega⟩
    have hk1 := hp10 k (by omega)
    have h1 : 10 ^ (K - 1) ≤ n := by rcases hlo with h | h; omega; exact h
    have h2 : 10 ^ (k + 1) ≤ 10 ^ (K - 1) := Nat.pow_le_pow_right (by omega) (by omega)
    have hdv : 10 ≤ n / 10 ^ k := by
      rw [Nat.le_div_iff_mul_le (by omega)]
      rw [Nat.pow_succ] at h2
      omega
    have hdl : n / 10 ^ k ≤ n := Nat.div_le_self _ _
    have hbody : f_X12_saysNumber_l2 TT m 870 (lN n) (lN (10 ^ k)) = some (.inl (lN (10 ^ (k + 1)))) := by
      unfold f_X12_saysNumber_l2
      rw [if_pos (show ¬ lN (10 ^ k) = 0 from fun z => by rw [show (0 : Int64) = lN 0 from rfl, pk_lEQ (by omega) (by omega)] at z; omega), pk_lDiv (by omega) (by omega) (by omega), if_neg (fun z => by
        have := (lg_cmp_lt _ _).mp z
        rw [show (10 : Int64) = lN 10 from rfl, pk_lLT (by omega) (by omega)] at this
        omega), lt_eq, show (10 : Int64) = lN 10 from rfl, lN_mul, Nat.pow_succ, Nat.mul_comm]
    rw [lp_step (show (fun x : Int64 => f_X12_saysNumber_l2 TT m 870 (lN n) x) (lN (10 ^ k)) = _ from hbody)]
    exact ih (k + 1) N (by omega) (by omega)
theorem digM_lp {n : Nat} (hn : n < 10 ^ 10) : ∀ (k N : Nat) (m : Mi) (L : List Nat), k < N → k ≤ 10 → PgM m L → L.length + k ≤ 4000 →
    ∃ m', lp (fun x : Int64 × Mi => f_X12_saysNumber_l21 TT x.2 870 (lN n) x.1) N (lN (if k = 0 then 0 else 10 ^ (k - 1)), m) = some m' ∧ PgM m' (L ++ (List.range k).map (fun i => 48 + n / 10 ^ (k - 1 - i) % 10)) ∧ FI FPm m m' := by
  intro k
  induction k with
  | zero =>
    intro N m L hN _ hP _
    obtain ⟨N, rfl⟩ : ∃ y, N = y + 1 := ⟨N - 1, by omega⟩
    refine ⟨m, lp_exit ?_, by simpa using hP, FI.rf⟩
    show f_X12_saysNumber_l21 TT m 870 (lN n) (lN (if 0 = 0 then 0 else 10 ^ (0 - 1))) = _
    unfold f_X12_saysNumber_l21
    rw [if_pos rfl, if_pos (by decide)]
  | succ k ih =>
    intro N m L hN hk hP hL
    obtain ⟨N, rfl⟩ : ∃ y, N = y + 1 := ⟨N - 1, by omega⟩
    have hp : 10 ^ k ≤ 10 ^ 10 ∧ 1 ≤ 10 ^ k := ⟨Nat.pow_le_pow_right (by omega) (by omega), Nat.pow_pos (by omega)⟩
    have hdl : n / 10 ^ k ≤ n := Nat.div_le_self _ _
    obtain ⟨m1, e1, p1, f1⟩ := saysN_M (48 + n / 10 ^ k % 10) hP (by omega) (dg_lt8 n k)
    have hnx : 10 ^ k / 10 = if k = 0 then 0 else 10 ^ (k - 1) := by
      by_cases h0 : k = 0
      · rw [if_pos h0, h0]
      · rw [if_neg h0]
        obtain ⟨j, rfl⟩ : ∃ j, k = j + 1 := ⟨k - 1, by omega⟩
        rw [Nat.add_sub_cancel, Nat.pow_succ, Nat.mul_div_cancel _ (by omega)]
    have hbody : f_X12_saysNumber_l21 TT m 870 (lN n) (lN (10 ^ k)) = some (.inl (lN (if k = 0 then 0 else 10 ^ (k - 1)), m1)) := by
      unfold f_X12_saysNumber_l21
      rw [if_neg (fun z => by
        have := (lg_cmp_le _ _).mp z
        rw [show (0 : Int64) = lN 0 from rfl, pk_lLE (by omega) (by omega)] at this
        omega), if_pos (show ¬ lN (10 ^ k) = 0 from fun z => by rw [show (0 : Int64) = lN 0 from rfl, pk_lEQ (by omega) (by omega)] at z; omega), pk_lDiv (by omega) (by omega) (by omega), show (10 : Int64) = lN 10 from rfl, pk_lRem (by omega) (by omega) (by omega), lN_i, show (48 : Int32) = nI 48 from rfl, nI_add, e1, Option.bind_some, lt_eq, pk_lDiv (by omega) (by omega) (by omega), hnx]
    obtain ⟨m', e2, p2, f2⟩ := ih N m1 _ (by omega) (by omega) p1 (by rw [List.length_append, List.length_singleton]; omega)
    rw [if_neg (by omega), Nat.add_sub_cancel, lp_step (show (fun x : Int64 × Mi => f_X12_saysNumber_l21 TT x.2 870 (lN n) x.1) (lN (10 ^ k), m) = _ from hbody)]
    refine ⟨m', e2, ?_, f1.tr f2⟩
    have el : (List.range (k + 1)).map (fun i => 48 + n / 10 ^ (k - i) % 10) = [48 + n / 10 ^ k % 10] ++ (List.range k).map (fun i => 48 + n / 10 ^ (k - 1 - i) % 10) := by
      rw [List.range_succ_eq_map, List.map_cons, List.map_map]
      refine congrArg (List.cons (48 + n / 10 ^ k % 10)) (List.map_congr_left (fun i _ => ?_))
      show 48 + n / 10 ^ (k - (i + 1)) % 10 = _
      rw [show k - (i + 1) = k - 1 - i by omega]
    rw [el, ← List.append_assoc]
    exact p2
theorem number_M {m : Mi} {L : List Nat} {n : Nat} (hn : n < 10 ^ 10) (hP : PgM m L) (hL : L.length + 10 ≤ 4000) : ∃ m', f_X12_saysNumber TT m 870 (lN n) = some m' ∧ PgM m' (L ++ dgs n) ∧ FI FPm m m' := by
  obtain ⟨K, k1, k2, k3, k4, k5⟩ := dgF_eq 10 n hn (by omega)
  have k5 : dgs n = _ := k5
  obtain ⟨m', e, p, f⟩ := digM_lp hn K FUEL m L (by unfold FUEL; omega) k2 hP (by omega)
  rw [if_neg (by omega)] at e
  refine ⟨m', ?_, by rw [k5]; exact p, f⟩
  unfold f_X12_saysNumber f_X12_saysNumber_j2
  have hp := pow_lp (m := m) k3 k1 k2 k4 (K - 1) 0 FUEL (by omega) (by unfold FUEL; omega)
  rw [show (1 : Int64) = lN (10 ^ 0) from rfl, hp, Option.bind_some]
  unfold f_X12_saysNumber_j21
  rw [e, Option.bind_some]
  rfl
