/-! Rows of eight longs: the class's Version's static methods. -/
def cmpL : List Int64 → List Int64 → Int32
  | [], _ => 0
  | _ :: _, [] => 0
  | x :: xs, y :: ys => if x = y then cmpL xs ys else if x < y then -1 else 1
def rowF (f : Nat → Int64) : List Int64 := [f 0, f 1, f 2, f 3, f 4, f 5, f 6, f 7]
def rowL (m : Mi) (a p : Nat) : List Int64 := rowF (fun q => gl m a (p + q))
theorem fits_spec {t : List Sh} {m : Mi} {a n i : Nat} (hs : sh t a = some (.inr (.long, n))) (h8 : 8 ≤ n) (hn : n < 2 ^ 31) (hi : i < 2 ^ 31) : f_X10_fits t m a (nI i) = some (if i + 8 ≤ n then 1 else 0) := by
  unfold f_X10_fits
  rw [if_neg (nI_pos hi), aa_of hs, if_pos rfl, ln_of hs, ofNat_nI, show (8 : Int32) = nI 8 from rfl, pk_sub h8]
  by_cases h : i + 8 ≤ n
  · rw [if_neg (nI_nlt (by omega) (by omega)), if_pos h]
  · rw [if_pos (nI_lt (by omega) hi), if_neg h]
theorem cmp_lp {t : List Sh} {m : Mi} {a n i b k j : Nat} (ha : sh t a = some (.inr (.long, n))) (hb : sh t b = some (.inr (.long, k))) (hi : i + 8 ≤ n) (hj : j + 8 ≤ k) (hn : n < 2 ^ 31) (hk : k < 2 ^ 31) : ∀ (d q N : Nat), q + d = 8 → d < N →
    (lp (fun x : Int32 => f_X10_compare_l21 t m a (nI i) b (nI j) x) N (nI q)).bind (Sum.elim (fun _ : Unit => f_X10_compare_j72 t m) (fun y : Int32 => f_X10_compare_j44 t m a (nI i) b (nI j) y)) = some (cmpL ((List.range' q d).map (fun z => gl m a (i + z))) ((List.range' q d).map (fun z => gl m b (j + z)))) := by
  intro d
  induction d with
  | zero =>
    intro q N hq hN
    obtain ⟨N, rfl⟩ : ∃ z, N = z + 1 := ⟨N - 1, by omega⟩
    rw [lp_exit (y := .inl ())]
    · rfl
    · show f_X10_compare_l21 t m a (nI i) b (nI j) (nI q) = _
      unfold f_X10_compare_l21
      rw [if_pos (by rw [show (8 : Int32) = nI 8 from rfl]; exact nI_le (by omega) (by omega))]
  | succ d ih =>
    intro q N hq hN
    obtain ⟨N, rfl⟩ : ∃ z, N = z + 1 := ⟨N - 1, by omega⟩
    have hb1 : f_X10_compare_l21 t m a (nI i) b (nI j) (nI q) = if gl m a (i + q) = gl m b (j + q) then some (.inl (nI (q + 1))) else some (.inr (.inr (nI q))) := by
      unfold f_X10_compare_l21
      rw [if_neg (by rw [show (8 : Int32) = nI 8 from rfl]; exact nI_ge (by omega) (by omega)), nI_add, nI_add, if_pos (ar_of ha (by omega) hn), if_pos (ar_of hb (by omega) hk), ix_nI (by omega), ix_nI (by omega), lt_eq, nI_1]
      by_cases h : gl m a (i + q) = gl m b (j + q)
      · rw [if_pos ((lg_cmp_eq _ _).mpr h), if_pos h]
      · rw [if_neg (fun e => h ((lg_cmp_eq _ _).mp e)), if_neg h]
    rw [List.range'_succ, List.map_cons, List.map_cons]
    unfold cmpL
    by_cases h : gl m a (i + q) = gl m b (j + q)
    · rw [if_pos h, lp_step (x' := nI (q + 1))]
      · exact ih (q + 1) N (by omega) (by omega)
      · show f_X10_compare_l21 t m a (nI i) b (nI j) (nI q) = _
        rw [hb1, if_pos h]
    · rw [if_neg h, lp_exit (y := .inr (nI q))]
      · show f_X10_compare_j44 t m a (nI i) b (nI j) (nI q) = _
        unfold f_X10_compare_j44
        rw [nI_add, nI_add, if_pos (ar_of ha (by omega) hn), if_pos (ar_of hb (by omega) hk), ix_nI (by omega), ix_nI (by omega)]
        by_cases h2 : gl m a (i + q) < gl m b (j + q)
        · rw [if_pos h2, if_neg (fun e => absurd ((lg_cmp_ge _ _).mp e) (Int64.not_le.mpr h2))]
        · rw [if_neg h2, if_pos ((lg_cmp_ge _ _).mpr (Int64.not_lt.mp h2))]
      · show f_X10_compare_l21 t m a (nI i) b (nI j) (nI q) = _
        rw [hb1, if_neg h]
theorem compare_spec {t : List Sh} {m : Mi} {a n i b k j : Nat} (ha : sh t a = some (.inr (.long, n))) (hb : sh t b = some (.inr (.long, k))) (hi : i + 8 ≤ n) (hj : j + 8 ≤ k) (hn : n < 2 ^ 31) (hk : k < 2 ^ 31) : f_X10_compare t m a (nI i) b (nI j) = some (cmpL (rowL m a i) (rowL m b j)) := by
  unfold f_X10_compare f_X10_compare_j21
  rw [fits_spec ha (by omega) hn (by omega), if_pos hi, Option.bind_some, if_neg (by decide), fits_spec hb (by omega) hk (by omega), if_pos hj, Option.bind_some, if_neg (by decide)]
  exact cmp_lp ha hb hi hj hn hk 8 0 FUEL rfl (by unfold FUEL; omega)
theorem copy_spec {t : List Sh} {m : Mi} {a n i b k j : Nat} (ha : sh t a = some (.inr (.long, n))) (hb : sh t b = some (.inr (.long, k))) (hi : i + 8 ≤ n) (hj : j + 8 ≤ k) (hn : n < 2 ^ 31) (hk : k < 2 ^ 31) : f_X10_copy t m a (nI i) b (nI j) = some (blkL m b j (j + 8) (fun q => gl m a (i + (q - j)))) := by
  unfold f_X10_copy
  rw [fits_spec ha (by omega) hn (by omega), if_pos hi, Option.bind_some, if_neg (by decide), fits_spec hb (by omega) hk (by omega), if_pos hj, Option.bind_some, if_neg (by decide), show (8 : Int32) = nI 8 from rfl, if_pos (inS_of ha hi hn), if_pos (inS_of hb hj hk), lt_eq, ix_nI (by omega), ix_nI (by omega), ix_nI (by omega), cpl_blk]
theorem setId_spec {t : List Sh} {m : Mi} {a n : Nat} {v : Int64} (ha : sh t a = some (.inr (.long, n))) (h8 : 8 ≤ n) (hn : n < 2 ^ 31) : f_X10_setIdentifier t m a v = some (blkL m a 3 8 (fun q => if q = 3 then v else 0)) := by
  unfold f_X10_setIdentifier f_X10_setIdentifier_j2
  have h := lp_count (body := fun x : Int32 × Mi => f_X10_setIdentifier_l2 t x.2 a v x.1) (fun k => (nI k, blkL m a 3 k (fun q => if q = 3 then v else 0))) (a := 3) (n := 8) (y := blkL m a 3 8 (fun q => if q = 3 then v else 0)) (by omega) (by omega) (fun k h3 hk => ?_) ?_
  · rw [blkL_nil] at h
    rw [show ((3 : Int32), m) = (nI 3, m) from rfl, h]
    rfl
  · show f_X10_setIdentifier_l2 t (blkL m a 3 k _) a v (nI k) = _
    unfold f_X10_setIdentifier_l2 f_X10_setIdentifier_j26
    rw [if_neg (by rw [show (8 : Int32) = nI 8 from rfl]; exact nI_ge (by omega) (by omega)), aa_of ha, if_pos rfl, ln_of ha, ofNat_nI, if_neg (nI_ge (by omega) hn), if_pos (ar_of ha (by omega) hn), if_pos (ar_of ha (by omega) hn)]
    simp only [lt_eq]
    rw [ix_nI (by omega), nI_1, ← blkL_snoc m a 3 k _ (by omega), show (3 : Int32) = nI 3 from rfl]
    by_cases h : k = 3
    · rw [if_pos (by rw [h]), if_pos h]
    · rw [if_neg (fun e => h ((nI_eq (by omega) (by omega)).mp e)), if_neg h]
  · show f_X10_setIdentifier_l2 t (blkL m a 3 8 _) a v (nI 8) = _
    unfold f_X10_setIdentifier_l2
    rw [if_pos (by decide)]
theorem blkL_two (m : Mi) (a n : Nat) (g h : Nat → Int64) (lo hi : Nat) (hh : hi ≤ n) : blkL (blkL m a 0 n g) a lo hi h = blkL m a 0 n (fun q => if lo ≤ q ∧ q < hi then h q else g q) := by
  refine Mi.ext' (fun _ _ => rfl) (fun x j => ?_) (fun _ _ => rfl)
  simp only [mS]
  by_cases h1 : x = a ∧ lo ≤ j ∧ j < hi
  · rw [if_pos h1, if_pos (by omega), if_pos h1.2]
  · rw [if_neg h1]
    by_cases h2 : x = a ∧ 0 ≤ j ∧ j < n
    · rw [if_pos h2, if_pos h2, if_neg (fun e => h1 ⟨h2.1, e⟩)]
    · rw [if_neg h2, if_neg h2]
theorem setLeast_spec {t : List Sh} {m : Mi} {a n : Nat} (ha : sh t a = some (.inr (.long, n))) (h8 : 8 ≤ n) (hn : n < 2 ^ 31) : f_X10_setLeast t m a = some (blkL m a 0 n (fun q => if q = 3 then 1 else 0)) := by
  unfold f_X10_setLeast
  rw [fill_l ha hn, Option.bind_some, setId_spec ha h8 hn, Option.bind_some, blkL_two _ _ _ _ _ _ _ h8]
  congr 2
  funext q
  by_cases h : q = 3
  · rw [if_pos (by omega), if_pos h]
  · by_cases h2 : 3 ≤ q ∧ q < 8
    · rw [if_pos h2, if_neg h]
    · rw [if_neg h2, if_neg h]
theorem setEndless_spec {t : List Sh} {m : Mi} {a n : Nat} (ha : sh t a = some (.inr (.long, n))) (h0 : 0 < n) (hn : n < 2 ^ 31) : f_X10_setEndless t m a = some (blkL m a 0 n (fun q => if q = 0 then 9223372036854775807 else 0)) := by
  unfold f_X10_setEndless
  rw [fill_l ha hn, Option.bind_some, aa_of ha, if_pos rfl, ln_of ha, ofNat_nI, if_neg (nI_nle h0 hn), show (0 : Int32) = nI 0 from rfl, if_pos (ar_of ha h0 hn), lt_eq, ix_nI (by omega)]
  congr 1
  refine Mi.ext' (fun _ _ => rfl) (fun x j => ?_) (fun _ _ => rfl)
  simp only [mS]
  by_cases h1 : x = a ∧ j = 0
  · rw [if_pos h1, if_pos (by omega), if_pos h1.2]
  · rw [if_neg h1]
    by_cases h2 : x = a ∧ 0 ≤ j ∧ j < n
    · rw [if_pos h2, if_pos h2, if_neg (fun e => h1 ⟨h2.1, e⟩)]
    · rw [if_neg h2, if_neg h2]
