/-! Rows of the reference: nine longs; how they go over to the class's rows of eight. -/
def cN (x y : Nat → Int64) : Nat → Nat → Int32 → Int32
  | 0, _, e => e
  | d + 1, k, e => if x k = y k then cN x y d (k + 1) e else if x k < y k then -1 else 1
def cK (x y : Nat → Int64) : Nat → Nat → Int32
  | 0, _ => 0
  | d + 1, k => if lN k < x 3 then (if lN k < y 3 then (if x (4 + k) = y (4 + k) then cK x y d (k + 1) else if x (4 + k) < y (4 + k) then -1 else 1) else 1) else (if lN k < y 3 then -1 else 0)
def cmpM (x y : Nat → Int64) : Int32 := cN x y 3 0 (if x 3 = 0 ∨ y 3 = 0 then (if x 3 = y 3 then 0 else if x 3 = 0 then 1 else -1) else cK x y 5 0)
theorem mk_lp {t : List Sh} {m : Mi} {a n i b k j : Nat} (ha : sh t a = some (.inr (.long, n))) (hb : sh t b = some (.inr (.long, k))) (hi : i + 9 ≤ n) (hj : j + 9 ≤ k) (hn : n < 2 ^ 31) (hk : k < 2 ^ 31) : ∀ (d q N : Nat), q + d = 5 → d < N →
    (lp (fun x : Int32 => f_X12_compare_l109 t m a (nI i) b (nI j) (gl m a (i + 3)) (gl m b (j + 3)) x) N (nI q)).bind (Sum.elim (fun _ : Unit => f_X12_compare_j227 t m) (Sum.elim (fun y : Int32 × Int32 => f_X12_compare_j157 t m (y.1) (y.2)) (fun y : Int64 × Int64 => f_X12_compare_j207 t m (y.1) (y.2)))) = some (cK (fun z => gl m a (i + z)) (fun z => gl m b (j + z)) d q) := by
  intro d
  induction d with
  | zero =>
    intro q N hq hN
    obtain ⟨N, rfl⟩ : ∃ z, N = z + 1 := ⟨N - 1, by omega⟩
    rw [lp_exit (y := .inl ())]
    · rfl
    · show f_X12_compare_l109 t m a (nI i) b (nI j) _ _ (nI q) = _
      unfold f_X12_compare_l109
      rw [if_pos (by rw [show (5 : Int32) = nI 5 from rfl]; exact nI_le (by omega) (by omega))]
  | succ d ih =>
    intro q N hq hN
    obtain ⟨N, rfl⟩ : ∃ z, N = z + 1 := ⟨N - 1, by omega⟩
    have e4 : ∀ z : Nat, nI z + 4 + nI q = nI (z + (4 + q)) := fun z => by rw [show (4 : Int32) = nI 4 from rfl, nI_add, nI_add, Nat.add_assoc]
    have hb1 : f_X12_compare_l109 t m a (nI i) b (nI j) (gl m a (i + 3)) (gl m b (j + 3)) (nI q) = if lN q < gl m a (i + 3) then (if lN q < gl m b (j + 3) then (if gl m a (i + (4 + q)) = gl m b (j + (4 + q)) then some (.inl (nI (q + 1))) else some (.inr (.inr (.inr (gl m a (i + (4 + q)), gl m b (j + (4 + q))))))) else some (.inr (.inr (.inl (1, 0))))) else (if lN q < gl m b (j + 3) then some (.inr (.inr (.inl (0, 1)))) else some (.inr (.inr (.inl (0, 0))))) := by
      unfold f_X12_compare_l109 f_X12_compare_j129 f_X12_compare_j145
      rw [if_neg (by rw [show (5 : Int32) = nI 5 from rfl]; exact nI_ge (by omega) (by omega)), nI_l (by omega)]
      simp only [lt_eq, nI_1, e4]
      rw [if_pos (ar_of ha (by omega) hn), if_pos (ar_of hb (by omega) hk), ix_nI (by omega), ix_nI (by omega)]
      by_cases h1 : lN q < gl m a (i + 3)
      · rw [if_neg (fun e => absurd ((lg_cmp_ge _ _).mp e) (Int64.not_le.mpr h1)), if_pos h1]
        by_cases h2 : lN q < gl m b (j + 3)
        · rw [if_neg (fun e => absurd ((lg_cmp_ge _ _).mp e) (Int64.not_le.mpr h2)), if_pos h2, if_neg (by decide), if_neg (by decide)]
          by_cases h : gl m a (i + (4 + q)) = gl m b (j + (4 + q))
          · rw [if_pos ((lg_cmp_eq _ _).mpr h), if_pos h]
          · rw [if_neg (fun e => h ((lg_cmp_eq _ _).mp e)), if_neg h]
        · rw [if_pos ((lg_cmp_ge _ _).mpr (Int64.not_lt.mp h2)), if_neg h2, if_neg (by decide), if_pos trivial]
      · rw [if_pos ((lg_cmp_ge _ _).mpr (Int64.not_lt.mp h1)), if_neg h1]
        by_cases h2 : lN q < gl m b (j + 3)
        · rw [if_neg (fun e => absurd ((lg_cmp_ge _ _).mp e) (Int64.not_le.mpr h2)), if_pos h2, if_pos trivial]
        · rw [if_pos ((lg_cmp_ge _ _).mpr (Int64.not_lt.mp h2)), if_neg h2, if_pos trivial]
    rw [cK]
    by_cases h1 : lN q < gl m a (i + 3)
    · by_cases h2 : lN q < gl m b (j + 3)
      · rw [if_pos h1, if_pos h2] at hb1 ⊢
        by_cases h : gl m a (i + (4 + q)) = gl m b (j + (4 + q))
        · rw [if_pos h] at hb1 ⊢
          rw [lp_step (x' := nI (q + 1)) hb1]
          exact ih (q + 1) N (by omega) (by omega)
        · rw [if_neg h] at hb1 ⊢
          rw [lp_exit hb1]
          show f_X12_compare_j207 t m _ _ = _
          unfold f_X12_compare_j207
          by_cases h3 : gl m a (i + (4 + q)) < gl m b (j + (4 + q))
          · rw [if_pos h3, if_neg (fun e => absurd ((lg_cmp_ge _ _).mp e) (Int64.not_le.mpr h3))]
          · rw [if_neg h3, if_pos ((lg_cmp_ge _ _).mpr (Int64.not_lt.mp h3))]
      · rw [if_pos h1, if_neg h2] at hb1 ⊢
        rw [lp_exit hb1]
        rfl
    · by_cases h2 : lN q < gl m b (j + 3)
      · rw [if_neg h1, if_pos h2] at hb1 ⊢
        rw [lp_exit hb1]
        rfl
      · rw [if_neg h1, if_neg h2] at hb1 ⊢
        rw [lp_exit hb1]
        rfl
theorem m53_spec {t : List Sh} {m : Mi} {a n i b k j : Nat} (ha : sh t a = some (.inr (.long, n))) (hb : sh t b = some (.inr (.long, k))) (hi : i + 9 ≤ n) (hj : j + 9 ≤ k) (hn : n < 2 ^ 31) (hk : k < 2 ^ 31) :
    f_X12_compare_j53 t m a (nI i) b (nI j) = some (if gl m a (i + 3) = 0 ∨ gl m b (j + 3) = 0 then (if gl m a (i + 3) = gl m b (j + 3) then 0 else if gl m a (i + 3) = 0 then 1 else -1) else cK (fun z => gl m a (i + z)) (fun z => gl m b (j + z)) 5 0) := by
  unfold f_X12_compare_j53 f_X12_compare_j81 f_X12_compare_j109
  simp only [lt_eq]
  rw [show (3 : Int32) = nI 3 from rfl, nI_add, nI_add, if_pos (ar_of ha (by omega) hn), if_pos (ar_of hb (by omega) hk), ix_nI (by omega), ix_nI (by omega)]
  have key : (if lg_cmp (gl m a (i + 3)) (gl m b (j + 3)) = 0 then some (0 : Int32) else if lg_cmp (gl m a (i + 3)) 0 = 0 then some 1 else some (-1)) = some (if gl m a (i + 3) = gl m b (j + 3) then 0 else if gl m a (i + 3) = 0 then 1 else -1) := by
    by_cases h : gl m a (i + 3) = gl m b (j + 3)
    · rw [if_pos ((lg_cmp_eq _ _).mpr h), if_pos h]
    · rw [if_neg (fun e => h ((lg_cmp_eq _ _).mp e)), if_neg h]
      by_cases h2 : gl m a (i + 3) = 0
      · rw [if_pos ((lg_cmp_eq _ _).mpr h2), if_pos h2]
      · rw [if_neg (fun e => h2 ((lg_cmp_eq _ _).mp e)), if_neg h2]
  by_cases h1 : gl m a (i + 3) = 0
  · rw [if_pos ((lg_cmp_eq _ _).mpr h1), key, if_pos (Or.inl h1)]
  · rw [if_neg (fun e => h1 ((lg_cmp_eq _ _).mp e))]
    by_cases h2 : gl m b (j + 3) = 0
    · rw [if_pos ((lg_cmp_eq _ _).mpr h2), key, if_pos (Or.inr h2)]
    · rw [if_neg (fun e => h2 ((lg_cmp_eq _ _).mp e)), if_neg (fun h => h.elim h1 h2), show (0 : Int32) = nI 0 from rfl]
      exact mk_lp ha hb hi hj hn hk 5 0 FUEL rfl (by unfold FUEL; omega)
theorem mc_lp {t : List Sh} {m : Mi} {a n i b k j : Nat} (ha : sh t a = some (.inr (.long, n))) (hb : sh t b = some (.inr (.long, k))) (hi : i + 9 ≤ n) (hj : j + 9 ≤ k) (hn : n < 2 ^ 31) (hk : k < 2 ^ 31) {e : Int32} (he : f_X12_compare_j53 t m a (nI i) b (nI j) = some e) : ∀ (d q N : Nat), q + d = 3 → d < N →
    (lp (fun x : Int32 => f_X12_compare_l3 t m a (nI i) b (nI j) x) N (nI q)).bind (Sum.elim (fun _ : Unit => f_X12_compare_j53 t m a (nI i) b (nI j)) (fun y : Int32 => f_X12_compare_j25 t m a (nI i) b (nI j) y)) = some (cN (fun z => gl m a (i + z)) (fun z => gl m b (j + z)) d q e) := by
  intro d
  induction d with
  | zero =>
    intro q N hq hN
    obtain ⟨N, rfl⟩ : ∃ z, N = z + 1 := ⟨N - 1, by omega⟩
    rw [lp_exit (y := .inl ())]
    · exact he
    · show f_X12_compare_l3 t m a (nI i) b (nI j) (nI q) = _
      unfold f_X12_compare_l3
      rw [if_pos (by rw [show (3 : Int32) = nI 3 from rfl]; exact nI_le (by omega) (by omega))]
  | succ d ih =>
    intro q N hq hN
    obtain ⟨N, rfl⟩ : ∃ z, N = z + 1 := ⟨N - 1, by omega⟩
    have hb1 : f_X12_compare_l3 t m a (nI i) b (nI j) (nI q) = if gl m a (i + q) = gl m b (j + q) then some (.inl (nI (q + 1))) else some (.inr (.inr (nI q))) := by
      unfold f_X12_compare_l3
      rw [if_neg (by rw [show (3 : Int32) = nI 3 from rfl]; exact nI_ge (by omega) (by omega)), nI_add, nI_add, if_pos (ar_of ha (by omega) hn), if_pos (ar_of hb (by omega) hk), ix_nI (by omega), ix_nI (by omega), lt_eq, nI_1]
      by_cases h : gl m a (i + q) = gl m b (j + q)
      · rw [if_pos ((lg_cmp_eq _ _).mpr h), if_pos h]
      · rw [if_neg (fun e => h ((lg_cmp_eq _ _).mp e)), if_neg h]
    rw [cN]
    by_cases h : gl m a (i + q) = gl m b (j + q)
    · rw [if_pos h] at hb1 ⊢
      rw [lp_step (x' := nI (q + 1)) hb1]
      exact ih (q + 1) N (by omega) (by omega)
    · rw [if_neg h] at hb1 ⊢
      rw [lp_exit hb1]
      show f_X12_compare_j25 t m a (nI i) b (nI j) (nI q) = _
      unfold f_X12_compare_j25
      rw [nI_add, nI_add, if_pos (ar_of ha (by omega) hn), if_pos (ar_of hb (by omega) hk), ix_nI (by omega), ix_nI (by omega)]
      by_cases h2 : gl m a (i + q) < gl m b (j + q)
      · rw [if_pos h2, if_neg (fun e => absurd ((lg_cmp_ge _ _).mp e) (Int64.not_le.mpr h2))]
      · rw [if_neg h2, if_pos ((lg_cmp_ge _ _).mpr (Int64.not_lt.mp h2))]
theorem mcompare_spec {t : List Sh} {m : Mi} {a n i b k j : Nat} (ha : sh t a = some (.inr (.long, n))) (hb : sh t b = some (.inr (.long, k))) (hi : i + 9 ≤ n) (hj : j + 9 ≤ k) (hn : n < 2 ^ 31) (hk : k < 2 ^ 31) : f_X12_compare t m a (nI i) b (nI j) = some (cmpM (fun z => gl m a (i + z)) (fun z => gl m b (j + z))) := by
  unfold f_X12_compare f_X12_compare_j3
  exact mc_lp ha hb hi hj hn hk (m53_spec ha hb hi hj hn hk) 3 0 FUEL rfl (by unfold FUEL; omega)
theorem mcopy_spec {t : List Sh} {m : Mi} {a n i b k j : Nat} (ha : sh t a = some (.inr (.long, n))) (hb : sh t b = some (.inr (.long, k))) (hi : i + 9 ≤ n) (hj : j + 9 ≤ k) (hn : n < 2 ^ 31) (hk : k < 2 ^ 31) (hne : a ≠ b ∨ i + 9 ≤ j ∨ j + 9 ≤ i) : f_X12_copy t m a (nI i) b (nI j) = some (blkL m a i (i + 9) (fun q => gl m b (j + (q - i)))) := by
  unfold f_X12_copy f_X12_copy_j3
  have h := lp_count (body := fun x : Int32 × Mi => f_X12_copy_l3 t x.2 a (nI i) b (nI j) x.1) (fun z => (nI z, blkL m a i (i + z) (fun q => gl m b (j + (q - i))))) (a := 0) (n := 9) (y := blkL m a i (i + 9) (fun q => gl m b (j + (q - i)))) (by omega) (by omega) (fun z _ hz => ?_) ?_
  · rw [Nat.add_zero, blkL_nil] at h
    rw [show ((0 : Int32), m) = (nI 0, m) from rfl, h]
    rfl
  · show f_X12_copy_l3 t (blkL m a i (i + z) _) a (nI i) b (nI j) (nI z) = _
    unfold f_X12_copy_l3
    rw [if_neg (by rw [show (9 : Int32) = nI 9 from rfl]; exact nI_ge (by omega) (by omega)), nI_add, nI_add, if_pos (ar_of hb (by omega) hk), if_pos (ar_of ha (by omega) hn), lt_eq, lt_eq, ix_nI (by omega), ix_nI (by omega), nI_1]
    congr 3
    rw [← Nat.add_assoc, ← blkL_snoc m a i (i + z) _ (by omega)]
    congr 1
    simp only [mS]
    rw [if_neg (by omega), show j + (i + z - i) = j + z by omega]
  · show f_X12_copy_l3 t (blkL m a i (i + 9) _) a (nI i) b (nI j) (nI 9) = _
    unfold f_X12_copy_l3
    rw [if_pos (by decide)]
