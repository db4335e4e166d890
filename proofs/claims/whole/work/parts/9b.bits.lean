/-! Bits (begun with the family bt of the kit's starting texts), and masks of flags. -/
def bt (x : Int32) (i : Nat) : Bool := x.toBitVec.getLsbD i
theorem b_ext {x y : Int32} (h : ∀ i, i < 32 → bt x i = bt y i) : x = y := Int32.toBitVec_inj.mp (BitVec.eq_of_getLsbD_eq (fun i hi => h i hi))
theorem b_or (x y : Int32) (i : Nat) : bt (x ||| y) i = (bt x i || bt y i) := by unfold bt; rw [Int32.toBitVec_or, BitVec.getLsbD_or]
theorem b_and (x y : Int32) (i : Nat) : bt (x &&& y) i = (bt x i && bt y i) := by unfold bt; rw [Int32.toBitVec_and, BitVec.getLsbD_and]
theorem b_xor (x y : Int32) (i : Nat) : bt (x ^^^ y) i = (bt x i ^^ bt y i) := by unfold bt; rw [Int32.toBitVec_xor, BitVec.getLsbD_xor]
theorem b_big {x : Int32} {i : Nat} (h : 32 ≤ i) : bt x i = false := BitVec.getLsbD_of_ge _ _ h
theorem b_255 (i : Nat) : bt 255 i = decide (i < 8) := by
  rcases Nat.lt_or_ge i 32 with h | h
  · exact (by decide +kernel : ∀ i, i < 32 → bt 255 i = decide (i < 8)) i h
  · rw [b_big h, decide_eq_false (by omega)]
theorem b_65535 (i : Nat) : bt 65535 i = decide (i < 16) := by
  rcases Nat.lt_or_ge i 32 with h | h
  · exact (by decide +kernel : ∀ i, i < 32 → bt 65535 i = decide (i < 16)) i h
  · rw [b_big h, decide_eq_false (by omega)]
theorem b_m1 : ∀ i, i < 32 → bt (-1) i = true := by decide +kernel
theorem b_0 (i : Nat) : bt 0 i = false := BitVec.getLsbD_zero
theorem s_l : ∀ n, n < 32 → ((nI n &&& 31).toBitVec.smod 32).toNat = n := by decide +kernel
theorem s_u : ∀ n, n < 32 → (((nI n).toUInt32 &&& Int32.toUInt32 31).toBitVec % 32).toNat = n := by decide +kernel
theorem b_shl (n : Nat) (hn : n < 32) (x : Int32) {i : Nat} (hi : i < 32) : bt (x <<< (nI n &&& 31)) i = (decide (n ≤ i) && bt x (i - n)) := by
  unfold bt
  rw [Int32.toBitVec_shiftLeft]
  show (x.toBitVec <<< ((nI n &&& 31).toBitVec.smod 32).toNat).getLsbD i = _
  rw [s_l n hn, BitVec.getLsbD_shiftLeft]
  rcases Nat.lt_or_ge i n with h | h
  · simp [h, Nat.not_le.mpr h]
  · simp [hi, h, Nat.not_lt.mpr h]
theorem b_ushr (n : Nat) (hn : n < 32) (x : Int32) (i : Nat) : bt ((x.toUInt32 >>> ((nI n).toUInt32 &&& Int32.toUInt32 31)).toInt32) i = bt x (n + i) := by
  show (x.toUInt32 >>> ((nI n).toUInt32 &&& Int32.toUInt32 31)).toBitVec.getLsbD i = x.toUInt32.toBitVec.getLsbD (n + i)
  rw [UInt32.toBitVec_shiftRight]
  show (x.toUInt32.toBitVec >>> (((nI n).toUInt32 &&& Int32.toUInt32 31).toBitVec % 32).toNat).getLsbD i = _
  rw [s_u n hn, BitVec.getLsbD_ushiftRight]
theorem b_sshr (n : Nat) (hn : n < 32) (x : Int32) {i : Nat} (hi : i < 32) : bt (x >>> (nI n &&& 31)) i = if n + i < 32 then bt x (n + i) else bt x 31 := by
  unfold bt
  rw [Int32.toBitVec_shiftRight]
  show (x.toBitVec.sshiftRight ((nI n &&& 31).toBitVec.smod 32).toNat).getLsbD i = _
  rw [s_l n hn, BitVec.getLsbD_sshiftRight, BitVec.msb_eq_getLsbD_last]
  simp [hi]
theorem bt_nI {k i : Nat} (h : i < 32) : bt (nI k) i = k.testBit i := by
  show (BitVec.ofNat 32 k).getLsbD i = _
  rw [BitVec.getLsbD_ofNat]
  simp [h]
theorem bt_1 : ∀ i, i < 32 → bt 1 i = decide (i = 0) := by decide +kernel
def mskN (f : Nat → Bool) : Nat → Nat
  | 0 => 0
  | n + 1 => (if f n = true then 2 ^ n else 0) + mskN f n
theorem mskN_lt (f : Nat → Bool) : ∀ n, mskN f n < 2 ^ n := by
  intro n
  induction n with
  | zero => simp [mskN]
  | succ n ih =>
    unfold mskN
    have : 2 ^ (n + 1) = 2 ^ n + 2 ^ n := by rw [Nat.pow_succ]; omega
    split <;> omega
theorem mskN_bit (f : Nat → Bool) : ∀ n i, (mskN f n).testBit i = (decide (i < n) && f i) := by
  intro n
  induction n with
  | zero => intro i; simp [mskN]
  | succ n ih =>
    intro i
    have hl := mskN_lt f n
    by_cases hi : n < i
    · rw [Nat.testBit_lt_two_pow (Nat.lt_of_lt_of_le (mskN_lt f (n + 1)) (Nat.pow_le_pow_right (by omega) (by omega))), decide_eq_false (by omega), Bool.false_and]
    · unfold mskN
      by_cases hn : i = n
      · subst hn
        by_cases hf : f i = true
        · rw [if_pos hf, Nat.testBit_two_pow_add_eq, ih]
          simp [hf]
        · rw [if_neg hf, Nat.zero_add, ih]
          simp [hf]
      · have hlt : i < n := by omega
        by_cases hf : f n = true
        · rw [if_pos hf, Nat.testBit_two_pow_add_gt hlt, ih]
          simp [hlt, Nat.lt_succ_of_lt hlt]
        · rw [if_neg hf, Nat.zero_add, ih]
          simp [hlt, Nat.lt_succ_of_lt hlt]
/-- the flags f as bits -/
def msk (n : Nat) (f : Nat → Bool) : Int32 := nI (mskN f n)
theorem bt_msk {n i : Nat} {f : Nat → Bool} (h : i < 32) : bt (msk n f) i = (decide (i < n) && f i) := by
  unfold msk
  rw [bt_nI h, mskN_bit]
theorem msk_of {n : Nat} {f : Nat → Bool} {x : Int32} (h : ∀ i, i < 32 → bt x i = (decide (i < n) && f i)) : x = msk n f := b_ext (fun i hi => by rw [h i hi, bt_msk hi])
theorem msk_congr {n : Nat} {f g : Nat → Bool} (h : ∀ i, i < n → f i = g i) : msk n f = msk n g := by
  refine msk_of (fun i hi => ?_)
  rw [bt_msk hi]
  by_cases hn : i < n
  · rw [h i hn]
  · rw [decide_eq_false hn, Bool.false_and, Bool.false_and]
theorem msk_inj {n : Nat} {f g : Nat → Bool} (hn : n ≤ 32) (h : msk n f = msk n g) : ∀ i, i < n → f i = g i := by
  intro i hi
  have h1 := bt_msk (n := n) (f := f) (i := i) (by omega)
  rw [h, bt_msk (by omega)] at h1
  simpa [hi] using h1.symm
theorem msk_zero {n : Nat} {f : Nat → Bool} (hn : n ≤ 32) : msk n f = 0 ↔ ∀ i, i < n → f i = false := by
  have h0 : (0 : Int32) = msk n (fun _ => false) := msk_of (fun i hi => by rw [b_0, Bool.and_false])
  rw [h0]
  exact ⟨fun h i hi => msk_inj hn h i hi, fun h => msk_congr h⟩
theorem msk_and (n : Nat) (f g : Nat → Bool) : msk n f &&& msk n g = msk n (fun i => f i && g i) := by
  refine msk_of (fun i hi => ?_)
  rw [b_and, bt_msk hi, bt_msk hi]
  by_cases hn : i < n
  · rw [decide_eq_true hn]; simp
  · rw [decide_eq_false hn]; simp
theorem msk_or (n : Nat) (f g : Nat → Bool) : msk n f ||| msk n g = msk n (fun i => f i || g i) := by
  refine msk_of (fun i hi => ?_)
  rw [b_or, bt_msk hi, bt_msk hi]
  by_cases hn : i < n
  · rw [decide_eq_true hn]; simp
  · rw [decide_eq_false hn]; simp
theorem one_msk {n k : Nat} (hk : k < n) (hn : n ≤ 32) : (1 : Int32) <<< (nI k &&& 31) = msk n (fun i => decide (i = k)) := by
  refine msk_of (fun i hi => ?_)
  rw [b_shl k (by omega) 1 hi, bt_1 _ (by omega)]
  by_cases h : i = k
  · subst h; simp [hk]
  · by_cases h2 : k ≤ i
    · rw [decide_eq_false (show ¬ i - k = 0 by omega), decide_eq_false h]; simp
    · rw [decide_eq_false h2, decide_eq_false h]; simp
/-- without the flags of g -/
theorem msk_without (n : Nat) (f g : Nat → Bool) : msk n f &&& (msk n g ^^^ (-1)) = msk n (fun i => f i && !g i) := by
  refine msk_of (fun i hi => ?_)
  rw [b_and, b_xor, bt_msk hi, bt_msk hi, b_m1 i hi]
  by_cases hn : i < n
  · rw [decide_eq_true hn]; simp
  · rw [decide_eq_false hn]; simp
theorem msk_get {n k : Nat} {f : Nat → Bool} (hk : k < n) (hn : n ≤ 31) : (msk n f >>> (nI k &&& 31)) &&& 1 = bI (f k) := by
  refine b_ext (fun i hi => ?_)
  rw [b_and, b_sshr k (by omega) _ hi, bt_1 i hi]
  by_cases h : i = 0
  · subst h
    rw [if_pos (by omega), bt_msk (by omega), Nat.add_zero, decide_eq_true hk]
    cases f k <;> decide
  · rw [decide_eq_false h, Bool.and_false]
    cases f k
    · exact (b_0 i).symm
    · exact (by rw [show bI true = 1 from rfl, bt_1 i hi, decide_eq_false h])
theorem msk_lt {n : Nat} {f : Nat → Bool} (hn : n ≤ 30) : ∃ k, k < 2 ^ n ∧ msk n f = nI k := ⟨mskN f n, mskN_lt f n, rfl⟩
theorem msk_ne1 {n : Nat} {f : Nat → Bool} (hn : n ≤ 30) : msk n f ≠ -1 := by
  obtain ⟨k, h1, h2⟩ := msk_lt (f := f) hn
  have : 2 ^ n ≤ 2 ^ 30 := Nat.pow_le_pow_right (by omega) hn
  rw [h2]
  exact nneg (by omega)
theorem msk_step {n k : Nat} {P : Nat → Bool} (hk : k < n) (hn : n ≤ 32) :
    (P k = false → msk n (fun j => decide (j < k) && P j) = msk n (fun j => decide (j < k + 1) && P j)) ∧ (P k = true → msk n (fun j => decide (j < k) && P j) ||| ((1 : Int32) <<< (nI k &&& 31)) = msk n (fun j => decide (j < k + 1) && P j)) := by
  have hs : ∀ j, j ≠ k → decide (j < k) = decide (j < k + 1) := fun j hj => by
    by_cases h : j < k
    · rw [decide_eq_true h, decide_eq_true (show j < k + 1 by omega)]
    · rw [decide_eq_false h, decide_eq_false (show ¬ j < k + 1 by omega)]
  refine ⟨fun hP => msk_congr (fun j _ => ?_), fun hP => ?_⟩
  · by_cases h : j = k
    · subst h; rw [hP, Bool.and_false, Bool.and_false]
    · rw [hs j h]
  · rw [one_msk hk hn, msk_or]
    refine msk_congr (fun j _ => ?_)
    by_cases h : j = k
    · subst h; simp [hP]
    · rw [hs j h, decide_eq_false h, Bool.or_false]
theorem msk_none {n : Nat} {f : Nat → Bool} (hn : n ≤ 32) (h : ∀ i, i < n → f i = false) : msk n f = 0 := (msk_zero hn).mpr h
