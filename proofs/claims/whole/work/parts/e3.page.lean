/-! Signs, texts and numbers on the class's page. -/
theorem lshrN {n : Nat} (h : n < 2 ^ 63) (s : Int64) (k : Nat) (hs : (s.toBitVec.smod 64).toNat = k) : lN n >>> s = lN (n / 2 ^ k) := by
  apply Int64.toInt_inj.mp
  have h2 : n / 2 ^ k ≤ n := Nat.div_le_self _ _
  have e : (lN n >>> s).toInt = (lN n).toInt >>> k := by
    show ((lN n).toBitVec.sshiftRight (s.toBitVec.smod 64).toNat).toInt = _
    rw [hs, BitVec.toInt_sshiftRight]
    rfl
  rw [e, pk_lT h, pk_lT (by omega), Int.shiftRight_eq_div_pow]
  rfl
theorem land255 {n : Nat} (h : n < 2 ^ 63) : lN n &&& 255 = lN (n % 256) := by
  apply Int64.toBitVec_inj.mp
  apply BitVec.eq_of_toNat_eq
  show ((lN n).toBitVec &&& (255 : Int64).toBitVec).toNat = _
  rw [BitVec.toNat_and]
  have e1 : (lN n).toBitVec.toNat = n := by
    show (BitVec.ofNat 64 n).toNat = n
    rw [BitVec.toNat_ofNat]
    omega
  have e2 : (lN (n % 256)).toBitVec.toNat = n % 256 := by
    show (BitVec.ofNat 64 (n % 256)).toNat = n % 256
    rw [BitVec.toNat_ofNat]
    omega
  have e3 : (255 : Int64).toBitVec.toNat = 2 ^ 8 - 1 := by decide
  rw [e1, e2, e3, Nat.and_two_pow_sub_one_eq_mod]
theorem shr_k : ∀ j, j < 8 → (((nI (8 * j)).toInt64 &&& 63).toBitVec.smod 64).toNat = 8 * j := by decide +kernel
/-- the byte of a key at place 7 - j -/
theorem kB_l {w j : Nat} (h : w < 2 ^ 63) (hj : j < 8) : (lN w >>> ((nI (8 * j)).toInt64 &&& 63)) &&& 255 = lN (kB w (7 - j)) := by
  have h2 : w / 2 ^ (8 * j) ≤ w := Nat.div_le_self _ _
  rw [lshrN h _ (8 * j) (shr_k j hj), land255 (by omega)]
  unfold kB
  rw [show 7 - (7 - j) = j by omega, show (256 : Nat) ^ j = 2 ^ (8 * j) by rw [Nat.pow_mul]]
theorem kB_lt (w j : Nat) : kB w j < 256 := Nat.mod_lt _ (by omega)
/-- the class's page: what is written -/
def PgW (m : Mi) : Prop := gr m 864 0 = 865 ∧ gr m 864 2 = 866 ∧ gr m 864 3 = 867 ∧ gr m 864 4 = 868 ∧ gr m 864 5 = 869
def PgC (m : Mi) (L : List Nat) : Prop := PgW m ∧ L.length ≤ 2500 ∧ gi m 864 1 = nI L.length ∧ ∀ i b, L[i]? = some b → gi m 865 i = bT b ∧ b < 256
def FPg (x j : Nat) : Prop := x = 865 ∨ x = 866 ∨ (x = 864 ∧ j = 1)
theorem nar_bT : ∀ b, b < 256 → vp_nar .byte ((Int32.toInt8 (nI b)).toInt32) = bT b := by decide +kernel
theorem nar_bTT : ∀ b, b < 256 → vp_nar .byte ((Int32.toInt8 (bT b)).toInt32) = bT b := by decide +kernel
theorem sign_C {m : Mi} {L : List Nat} {b : Nat} {v : Int32} (hP : PgC m L) (hL : L.length < 2500) (hb : b < 256) (hv : vp_nar .byte ((Int32.toInt8 v).toInt32) = bT b) : ∃ m', f_X3_putSign TT m 864 v = some m' ∧ PgC m' (L ++ [b]) ∧ FI FPg m m' ∧ ∀ j, gi m' 866 j = gi m 866 j := by
  obtain ⟨⟨w0, w2, w3, w4, w5⟩, h1, h2, h3⟩ := hP
  have f : FI FPg m (si (si m 865 L.length (bT b)) 864 1 (nI (L.length + 1))) := (FI.si (P := FPg) (Or.inl rfl)).tr (FI.si (P := FPg) (Or.inr (Or.inr ⟨rfl, rfl⟩)))
  refine ⟨si (si m 865 L.length (bT b)) 864 1 (nI (L.length + 1)), ?_, ⟨⟨w0, w2, w3, w4, w5⟩, by rw [List.length_append, List.length_singleton]; omega, by rw [List.length_append, List.length_singleton]; exact gi_si _ _ _ _, fun i c hi => ?_⟩, f, fun j => by simp only [mS]; rw [if_neg (by omega), if_neg (by omega)]⟩
  · unfold f_X3_putSign
    rw [w0, aa_of s_865, if_pos rfl, ln_of s_865, ofNat_nI, h2, if_neg (nI_ge (by omega) (by omega)), if_pos (ar_of s_865 (by omega) (by omega)), lt_eq, lt_eq, ix_nI (by omega), hv, show gi (si m 865 L.length (bT b)) 864 1 = nI L.length by simp only [mS]; rw [if_neg (by omega)]; exact h2, nI_1]
  · rcases app_get hi with ⟨a1, a2⟩ | ⟨a1, a2⟩
    · simp only [mS]
      rw [if_neg (by omega), if_neg (by omega)]
      exact h3 i c a2
    · simp only [mS]
      rw [if_neg (by omega), if_pos ⟨trivial, a1⟩, a2]
      exact ⟨rfl, hb⟩
/-- a list of signs that a loop writes -/
theorem text_C {a : Nat} {W : List Nat} (hl : f_len a = some (nI W.length)) (hc : ∀ i b, W[i]? = some b → f_chr a (nI i) = some (nI b) ∧ b < 256) : ∀ (d k N : Nat) (m : Mi) (L : List Nat), k + d = W.length → d < N → W.length < 2500 → PgC m L → L.length + d ≤ 2500 → ∃ m', lp (fun x : Int32 × Mi => f_X3_putText_l2 TT x.2 864 a x.1) N (nI k, m) = some m' ∧ PgC m' (L ++ W.drop k) ∧ FI FPg m m' := by
  intro d
  induction d with
  | zero =>
    intro k N m L hk hN hW hP hL
    obtain ⟨N, rfl⟩ : ∃ y, N = y + 1 := ⟨N - 1, by omega⟩
    rw [List.drop_eq_nil_of_le (by omega), List.append_nil]
    refine ⟨m, lp_exit ?_, hP, FI.rf⟩
    show f_X3_putText_l2 TT m 864 a (nI k) = _
    unfold f_X3_putText_l2
    rw [hl, Option.bind_some, if_pos (nI_le (by omega) (by omega))]
  | succ d ih =>
    intro k N m L hk hN hW hP hL
    obtain ⟨N, rfl⟩ : ∃ y, N = y + 1 := ⟨N - 1, by omega⟩
    obtain ⟨b, hb⟩ := get_some (l := W) (k := k) (by omega)
    obtain ⟨m1, e1, p1, f1, _⟩ := sign_C (v := nI b) hP (by omega) (hc k b hb).2 (nar_bT b (hc k b hb).2)
    have hbody : f_X3_putText_l2 TT m 864 a (nI k) = some (.inl (nI (k + 1), m1)) := by
      unfold f_X3_putText_l2
      rw [hl, Option.bind_some, if_neg (nI_ge (by omega) (by omega)), (hc k b hb).1, Option.bind_some, e1, Option.bind_some, lt_eq, nI_1]
    obtain ⟨m', e2, p2, f2⟩ := ih (k + 1) N m1 (L ++ [b]) (by omega) (by omega) hW p1 (by rw [List.length_append, List.length_singleton]; omega)
    rw [lp_step (show (fun x : Int32 × Mi => f_X3_putText_l2 TT x.2 864 a x.1) (nI k, m) = _ from hbody)]
    refine ⟨m', e2, ?_, f1.tr f2⟩
    rw [drop_get hb]
    rw [List.append_assoc, List.singleton_append] at p2
    exact p2
/-- the class's words -/
def sTx (a : Nat) : List Nat := if a = 1048577 then [119, 97, 110, 116] else if a = 1048578 then [110, 101, 101, 100, 115] else if a = 1048579 then [99, 108, 97, 115, 104] else if a = 1048580 then [42] else if a = 1048581 then [110, 111, 110, 101] else if a = 1048583 then [32, 124, 124, 32] else if a = 1048584 then [46] else if a = 1048585 then [62, 61] else if a = 1048586 then [32] else []
theorem sTx_ok : ∀ k, k < 10 → f_len (1048577 + k) = some (nI (sTx (1048577 + k)).length) ∧ (∀ i, i < (sTx (1048577 + k)).length → f_chr (1048577 + k) (nI i) = some (nI ((sTx (1048577 + k)).getD i 0)) ∧ (sTx (1048577 + k)).getD i 0 < 256) ∧ (sTx (1048577 + k)).length < 10 := by decide +kernel
theorem words_C {m : Mi} {L : List Nat} (k : Nat) (hk : k < 10) (hP : PgC m L) (hL : L.length + (sTx (1048577 + k)).length ≤ 2500) : ∃ m', f_X3_putText TT m 864 (1048577 + k) = some m' ∧ PgC m' (L ++ sTx (1048577 + k)) ∧ FI FPg m m' := by
  obtain ⟨h1, h2, h3⟩ := sTx_ok k hk
  obtain ⟨m', e, p, f⟩ := text_C h1 (fun i b hb => by
    have hi := get_lt hb
    have h := h2 i hi
    rw [List.getD_eq_getElem?_getD, hb] at h
    exact h) (sTx (1048577 + k)).length 0 FUEL m L (by omega) (by unfold FUEL; omega) (by omega) hP hL
  refine ⟨m', ?_, p, f⟩
  unfold f_X3_putText f_X3_putText_j2
  rw [show ((0 : Int32), m) = (nI 0, m) from rfl, e, Option.bind_some]
  rfl
/-- signs of a text -/
def cutT (T : Nat → Nat) (a b : Nat) : List Nat := (List.range (b - a)).map (fun j => T (a + j))
theorem cutT_len (T : Nat → Nat) (a b : Nat) : (cutT T a b).length = b - a := by unfold cutT; rw [List.length_map, List.length_range]
theorem cutT_get {T : Nat → Nat} {a b j : Nat} (h : j < b - a) : (cutT T a b)[j]? = some (T (a + j)) := by
  unfold cutT
  rw [List.getElem?_map, List.getElem?_range h]
  rfl
theorem bytes_C {c n a b : Nat} {T : Nat → Nat} (hs : sh TT c = some (.inr (.byte, 2000))) (hc : c < 864) (hn : n ≤ 2000) (hab : a ≤ b) (hb : b ≤ n) : ∀ (d k N : Nat) (m : Mi) (L : List Nat), k + d = b → a ≤ k → d < N → PgC m L → L.length + d ≤ 2500 → Tx m c n T → ∃ m', lp (fun x : Int32 × Mi => f_X3_putBytes_l7 TT x.2 864 c (nI b) x.1) N (nI k, m) = some m' ∧ PgC m' (L ++ cutT T k b) ∧ FI FPg m m' := by
  intro d
  induction d with
  | zero =>
    intro k N m L hk hak hN hP hL hT
    obtain ⟨N, rfl⟩ : ∃ y, N = y + 1 := ⟨N - 1, by omega⟩
    have e0 : cutT T k b = [] := by unfold cutT; rw [show b - k = 0 by omega]; rfl
    rw [e0, List.append_nil]
    refine ⟨m, lp_exit ?_, hP, FI.rf⟩
    show f_X3_putBytes_l7 TT m 864 c (nI b) (nI k) = _
    unfold f_X3_putBytes_l7
    rw [if_pos (nI_le (by omega) (by omega))]
  | succ d ih =>
    intro k N m L hk hak hN hP hL hT
    obtain ⟨N, rfl⟩ : ∃ y, N = y + 1 := ⟨N - 1, by omega⟩
    have ht := hT k (by omega)
    obtain ⟨m1, e1, p1, f1, _⟩ := sign_C (v := bT (T k)) hP (by omega) ht.2 (nar_bTT _ ht.2)
    have hbody : f_X3_putBytes_l7 TT m 864 c (nI b) (nI k) = some (.inl (nI (k + 1), m1)) := by
      unfold f_X3_putBytes_l7
      rw [if_neg (nI_ge (by omega) (by omega)), aa_of hs, if_pos rfl, ln_of hs, ofNat_nI, if_neg (nI_ge (by omega) (by omega)), if_pos (ar_of hs (by omega) (by omega)), ix_nI (by omega), ht.1, e1, Option.bind_some, lt_eq, nI_1]
    obtain ⟨m', e2, p2, f2⟩ := ih (k + 1) N m1 (L ++ [T k]) (by omega) (by omega) (by omega) p1 (by rw [List.length_append, List.length_singleton]; omega) (fun j hj => ⟨(f1.1 _ _ (by unfold FPg; omega)).trans (hT j hj).1, (hT j hj).2⟩)
    rw [lp_step (show (fun x : Int32 × Mi => f_X3_putBytes_l7 TT x.2 864 c (nI b) x.1) (nI k, m) = _ from hbody)]
    refine ⟨m', e2, ?_, f1.tr f2⟩
    have ec : cutT T k b = T k :: cutT T (k + 1) b := by
      unfold cutT
      rw [show b - k = (b - (k + 1)) + 1 by omega, List.range_succ_eq_map, List.map_cons, List.map_map]
      refine congrArg (List.cons (T k)) (List.map_congr_left (fun j _ => ?_))
      show T (k + (j + 1)) = T (k + 1 + j)
      rw [show k + (j + 1) = k + 1 + j by omega]
    rw [ec]
    rw [List.append_assoc, List.singleton_append] at p2
    exact p2
theorem putBytes_C {c n a b : Nat} {T : Nat → Nat} {m : Mi} {L : List Nat} (hs : sh TT c = some (.inr (.byte, 2000))) (hc : c < 864) (hn : n ≤ 2000) (hab : a ≤ b) (hb : b ≤ n) (hP : PgC m L) (hL : L.length + (b - a) ≤ 2500) (hT : Tx m c n T) : ∃ m', f_X3_putBytes TT m 864 c (nI a) (nI b) = some m' ∧ PgC m' (L ++ cutT T a b) ∧ FI FPg m m' := by
  obtain ⟨m', e, p, f⟩ := bytes_C hs hc hn hab hb (b - a) a FUEL m L (by omega) (Nat.le_refl _) (by unfold FUEL; omega) hP hL hT
  refine ⟨m', ?_, p, f⟩
  unfold f_X3_putBytes f_X3_putBytes_j7
  rw [lt_eq]
  have ea : (if (0 : Int32) < nI a then nI a else 0) = nI a := by
    by_cases h : (0 : Int32) < nI a
    · rw [if_pos h]
    · rw [if_neg h]
      rcases Nat.eq_zero_or_pos a with h0 | h0
      · rw [h0]; rfl
      · exact absurd (nI_lt (a := 0) h0 (by omega)) h
  rw [ea, e, Option.bind_some]
  rfl
