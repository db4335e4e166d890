/-! The tape: feed of both sides, takes of the reference. -/
/-- the low byte of an int -/
def bN (x : Int32) : Nat := x.toInt8.toBitVec.toNat
theorem bN_lt (x : Int32) : bN x < 256 := x.toInt8.toBitVec.isLt
theorem bN_bT (x : Int32) : vp_nar .byte ((Int32.toInt8 x).toInt32) = bT (bN x) := by
  rw [pk_vb]
  unfold bT bN
  congr 1
  apply Int8.toBitVec_inj.mp
  show _ = BitVec.ofNat 8 _
  rw [BitVec.ofNat_toNat]
  simp
theorem bT_nar : ∀ c, c < 256 → vp_nar .byte (bT c) = bT c := by decide +kernel
/-- the tape's cell c, its count at (o, 1) -/
def Tap (m : Mi) (o c : Nat) (T : Nat → Nat) (n : Nat) : Prop := gi m o 1 = nI n ∧ n ≤ 2000 ∧ Tx m c n T
def lay1 (T : Nat → Nat) (n : Nat) (b : Nat) : Nat → Nat := fun j => if j = n then b else T j
def lay4 (T : Nat → Nat) (n : Nat) (x : Int32) : Nat → Nat := lay1 (lay1 (lay1 (lay1 T n (bN (x >>> 24))) (n + 1) (bN (x >>> 16))) (n + 2) (bN (x >>> 8))) (n + 3) (bN (x >>> 0))
theorem tap1 {m : Mi} {o c n : Nat} {T : Nat → Nat} {v : Int32} (h : Tap m o c T n) (hn : n < 2000) (hoc : o ≠ c) : Tap (si (si m c n (bT (bN v))) o 1 (nI (n + 1))) o c (lay1 T n (bN v)) (n + 1) := by
  refine ⟨gi_si _ _ _ _, by omega, fun j hj => ?_⟩
  unfold lay1
  simp only [mS]
  rw [if_neg (fun e => hoc e.1.symm)]
  by_cases hjn : j = n
  · rw [if_pos ⟨trivial, hjn⟩, if_pos hjn]
    exact ⟨rfl, bN_lt v⟩
  · rw [if_neg (fun e => hjn e.2), if_neg hjn]
    exact h.2.2 j (by omega)
def KTp (o c : Nat) (m m' : Mi) : Prop := (∀ x j, ¬ (x = o ∧ j = 1) → x ≠ c → gi m' x j = gi m x j) ∧ (∀ x j, gl m' x j = gl m x j) ∧ ∀ x j, gr m' x j = gr m x j
theorem KTp.rf {o c : Nat} {m : Mi} : KTp o c m m := ⟨fun _ _ _ _ => rfl, fun _ _ => rfl, fun _ _ => rfl⟩
theorem KTp.tr {o c : Nat} {m m1 m2 : Mi} (h : KTp o c m m1) (h2 : KTp o c m1 m2) : KTp o c m m2 := ⟨fun x j a b => (h2.1 x j a b).trans (h.1 x j a b), fun x j => (h2.2.1 x j).trans (h.2.1 x j), fun x j => (h2.2.2 x j).trans (h.2.2 x j)⟩
theorem KTp.s {o c n : Nat} {m : Mi} {v w : Int32} : KTp o c m (si (si m c n v) o 1 w) := by
  refine ⟨fun x j a b => ?_, fun _ _ => rfl, fun _ _ => rfl⟩
  simp only [mS]
  rw [if_neg a, if_neg (fun e => b e.1)]
theorem fuel5 : ∃ F, FUEL = F + 1 + 1 + 1 + 1 + 1 := ⟨2 ^ 64 - 5, by unfold FUEL; omega⟩
theorem layC {m : Mi} {n : Nat} {T : Nat → Nat} {x : Int32} (hr : gr m 1 0 = 2) (h : Tap m 1 2 T n) (hn : n + 4 ≤ 2000) : ∃ m', f_X11_layFourBytes TT m 1 x = some m' ∧ Tap m' 1 2 (lay4 T n x) (n + 4) ∧ KTp 1 2 m m' := by
  have step : ∀ (m : Mi) (k : Nat) (T : Nat → Nat) (s : Int32) (s' : Int32), gr m 1 0 = 2 → Tap m 1 2 T k → k < 2000 → ¬ s < 0 → s + (-8) = s' → f_X11_layFourBytes_l3 TT m 1 x s = some (.inl (s', si (si m 2 k (bT (bN (x >>> (s &&& 31))))) 1 1 (nI (k + 1)))) := by
    intro m k T s s' hr h hk hs hs'
    unfold f_X11_layFourBytes_l3
    rw [if_neg hs, h.1, if_neg (show ¬ (2000 : Int32) ≤ nI k from nI_ge (b := 2000) (by omega) (by omega)), hr, if_pos (ar_of s_2 hk (by omega)), lt_eq, lt_eq, lt_eq, ix_nI (by omega), bN_bT, hs']
    simp only [mS]
    rw [if_neg (by omega), h.1, nI_1]
  have s1 := step m n T 24 16 hr h (by omega) (by decide) (by decide)
  have t1 := tap1 (v := x >>> (24 &&& 31)) h (show n < 2000 by omega) (by omega)
  have s2 := step _ (n + 1) _ 16 8 (by exact hr) t1 (by omega) (by decide) (by decide)
  have t2 := tap1 (v := x >>> (16 &&& 31)) t1 (show n + 1 < 2000 by omega) (by omega)
  have s3 := step _ (n + 1 + 1) _ 8 0 (by exact hr) t2 (by omega) (by decide) (by decide)
  have t3 := tap1 (v := x >>> (8 &&& 31)) t2 (show n + 1 + 1 < 2000 by omega) (by omega)
  have s4 := step _ (n + 1 + 1 + 1) _ 0 (-8) (by exact hr) t3 (by omega) (by decide) (by decide)
  have t4 := tap1 (v := x >>> (0 &&& 31)) t3 (show n + 1 + 1 + 1 < 2000 by omega) (by omega)
  obtain ⟨F, hF⟩ := fuel5
  refine ⟨_, ?_, t4, ((KTp.s.tr KTp.s).tr KTp.s).tr KTp.s⟩
  unfold f_X11_layFourBytes f_X11_layFourBytes_j3
  rw [hF, lp_step s1, lp_step s2, lp_step s3, lp_step s4, lp_exit (y := si (si (si (si (si (si (si (si m 2 n (bT (bN (x >>> (24 &&& 31))))) 1 1 (nI (n + 1))) 2 (n + 1) (bT (bN (x >>> (16 &&& 31))))) 1 1 (nI (n + 1 + 1))) 2 (n + 1 + 1) (bT (bN (x >>> (8 &&& 31))))) 1 1 (nI (n + 1 + 1 + 1))) 2 (n + 1 + 1 + 1) (bT (bN (x >>> (0 &&& 31))))) 1 1 (nI (n + 1 + 1 + 1 + 1)))]
  · rfl
  · show f_X11_layFourBytes_l3 TT _ 1 x (-8) = _
    unfold f_X11_layFourBytes_l3
    rw [if_pos (by decide)]
theorem layM {m : Mi} {n : Nat} {T : Nat → Nat} {x : Int32} (hr : gr m 870 0 = 871) (h : Tap m 870 871 T n) (hn : n + 4 ≤ 2000) : ∃ m', f_X12_types TT m 870 x = some m' ∧ Tap m' 870 871 (lay4 T n x) (n + 4) ∧ KTp 870 871 m m' := by
  have step : ∀ (m : Mi) (k : Nat) (T : Nat → Nat) (s : Int32) (s' : Int32), gr m 870 0 = 871 → Tap m 870 871 T k → k < 2000 → ¬ s < 0 → s + (-1) = s' → f_X12_types_l2 TT m 870 x s = some (.inl (s', si (si m 871 k (bT (bN (x >>> ((8 * s) &&& 31))))) 870 1 (nI (k + 1)))) := by
    intro m k T s s' hr h hk hs hs'
    unfold f_X12_types_l2
    rw [if_neg hs, h.1, hr, if_pos (ar_of s_871 hk (by omega)), lt_eq, lt_eq, lt_eq, ix_nI (by omega), bN_bT, hs']
    simp only [mS]
    rw [if_neg (by omega), h.1, nI_1]
  have s1 := step m n T 3 2 hr h (by omega) (by decide) (by decide)
  have t1 := tap1 (v := x >>> ((8 * 3) &&& 31)) h (show n < 2000 by omega) (by omega)
  have s2 := step _ (n + 1) _ 2 1 (by exact hr) t1 (by omega) (by decide) (by decide)
  have t2 := tap1 (v := x >>> ((8 * 2) &&& 31)) t1 (show n + 1 < 2000 by omega) (by omega)
  have s3 := step _ (n + 1 + 1) _ 1 0 (by exact hr) t2 (by omega) (by decide) (by decide)
  have t3 := tap1 (v := x >>> ((8 * 1) &&& 31)) t2 (show n + 1 + 1 < 2000 by omega) (by omega)
  have s4 := step _ (n + 1 + 1 + 1) _ 0 (-1) (by exact hr) t3 (by omega) (by decide) (by decide)
  have t4 := tap1 (v := x >>> ((8 * 0) &&& 31)) t3 (show n + 1 + 1 + 1 < 2000 by omega) (by omega)
  obtain ⟨F, hF⟩ := fuel5
  refine ⟨_, ?_, t4, ((KTp.s.tr KTp.s).tr KTp.s).tr KTp.s⟩
  unfold f_X12_types f_X12_types_j2
  rw [hF, lp_step s1, lp_step s2, lp_step s3, lp_step s4, lp_exit (y := si (si (si (si (si (si (si (si m 871 n (bT (bN (x >>> ((8 * 3) &&& 31))))) 870 1 (nI (n + 1))) 871 (n + 1) (bT (bN (x >>> ((8 * 2) &&& 31))))) 870 1 (nI (n + 1 + 1))) 871 (n + 1 + 1) (bT (bN (x >>> ((8 * 1) &&& 31))))) 870 1 (nI (n + 1 + 1 + 1))) 871 (n + 1 + 1 + 1) (bT (bN (x >>> ((8 * 0) &&& 31))))) 870 1 (nI (n + 1 + 1 + 1 + 1)))]
  · rfl
  · show f_X12_types_l2 TT _ 870 x (-1) = _
    unfold f_X12_types_l2
    rw [if_pos (by decide)]
/-- what feed says and does -/
def spFeed (T : Nat → Nat) (n : Nat) (a b c d e : Int32) : Int32 × ((Nat → Nat) × Nat) := if n + 20 ≤ 2000 then (nI (n + 20), (lay4 (lay4 (lay4 (lay4 (lay4 T n a) (n + 4) b) (n + 8) c) (n + 12) d) (n + 16) e, n + 20)) else (-1, (T, n))
theorem feed_C {m : Mi} {n : Nat} {T : Nat → Nat} (hr : gr m 1 0 = 2) (h : Tap m 1 2 T n) (a b c d e : Int32) : ∃ m', f_X11_feed TT m 1 a b c d e = some ((spFeed T n a b c d e).1, m') ∧ Tap m' 1 2 (spFeed T n a b c d e).2.1 (spFeed T n a b c d e).2.2 ∧ KTp 1 2 m m' := by
  unfold f_X11_feed spFeed
  have hn := h.2.1
  rw [h.1, show nI n + 20 = nI (n + 20) from nI_add n 20]
  by_cases h20 : n + 20 ≤ 2000
  · rw [if_pos h20, if_pos (show nI (n + 20) ≤ 2000 from nI_le (b := 2000) h20 (by omega))]
    obtain ⟨m1, e1, t1, k1⟩ := layC (x := a) hr h (by omega)
    obtain ⟨m2, e2, t2, k2⟩ := layC (x := b) ((k1.2.2 _ _).trans hr) t1 (by omega)
    obtain ⟨m3, e3, t3, k3⟩ := layC (x := c) (((k1.tr k2).2.2 _ _).trans hr) t2 (by omega)
    obtain ⟨m4, e4, t4, k4⟩ := layC (x := d) ((((k1.tr k2).tr k3).2.2 _ _).trans hr) t3 (by omega)
    obtain ⟨m5, e5, t5, k5⟩ := layC (x := e) (((((k1.tr k2).tr k3).tr k4).2.2 _ _).trans hr) t4 (by omega)
    rw [e1, Option.bind_some, e2, Option.bind_some, e3, Option.bind_some, e4, Option.bind_some, e5, Option.bind_some, t5.1]
    exact ⟨m5, rfl, t5, (((k1.tr k2).tr k3).tr k4).tr k5⟩
  · rw [if_neg h20, if_neg (show ¬ nI (n + 20) ≤ 2000 from nI_ge (a := 2000) (by omega) (by omega))]
    exact ⟨m, rfl, h, KTp.rf⟩
theorem feed_M {m : Mi} {n : Nat} {T : Nat → Nat} (hr : gr m 870 0 = 871) (h : Tap m 870 871 T n) (a b c d e : Int32) : ∃ m', f_X12_feed TT m 870 a b c d e = some ((spFeed T n a b c d e).1, m') ∧ Tap m' 870 871 (spFeed T n a b c d e).2.1 (spFeed T n a b c d e).2.2 ∧ KTp 870 871 m m' := by
  unfold f_X12_feed spFeed
  have hn := h.2.1
  rw [h.1, show nI n + 20 = nI (n + 20) from nI_add n 20]
  by_cases h20 : n + 20 ≤ 2000
  · rw [if_pos h20, if_pos (show nI (n + 20) ≤ 2000 from nI_le (b := 2000) h20 (by omega))]
    obtain ⟨m1, e1, t1, k1⟩ := layM (x := a) hr h (by omega)
    obtain ⟨m2, e2, t2, k2⟩ := layM (x := b) ((k1.2.2 _ _).trans hr) t1 (by omega)
    obtain ⟨m3, e3, t3, k3⟩ := layM (x := c) (((k1.tr k2).2.2 _ _).trans hr) t2 (by omega)
    obtain ⟨m4, e4, t4, k4⟩ := layM (x := d) ((((k1.tr k2).tr k3).2.2 _ _).trans hr) t3 (by omega)
    obtain ⟨m5, e5, t5, k5⟩ := layM (x := e) (((((k1.tr k2).tr k3).tr k4).2.2 _ _).trans hr) t4 (by omega)
    rw [e1, Option.bind_some, e2, Option.bind_some, e3, Option.bind_some, e4, Option.bind_some, e5, Option.bind_some, t5.1]
    exact ⟨m5, rfl, t5, (((k1.tr k2).tr k3).tr k4).tr k5⟩
  · rw [if_neg h20, if_neg (show ¬ nI (n + 20) ≤ 2000 from nI_ge (a := 2000) (by omega) (by omega))]
    exact ⟨m, rfl, h, KTp.rf⟩
/-- whether n signs are on the tape -/
theorem tap_cases (n : Int32) {f : Nat} (hf : f ≤ 2000) : (n < 0 ∨ nI f < n) ∨ ∃ k, k ≤ f ∧ n = nI k := by
  by_cases h0 : n < 0
  · exact Or.inl (Or.inl h0)
  · obtain ⟨j, hj, rfl⟩ := nI_of h0
    by_cases hjf : j ≤ f
    · exact Or.inr ⟨j, hjf, rfl⟩
    · exact Or.inl (Or.inr (nI_lt (by omega) hj))
theorem onTape_no {m : Mi} {f : Nat} {T : Nat → Nat} {n : Int32} (h : Tap m 1 2 T f) (hn : n < 0 ∨ nI f < n) : f_X11_isOnTape TT m 1 n = some 0 := by
  unfold f_X11_isOnTape
  by_cases h0 : n < 0
  · rw [if_pos h0]
  · rw [if_neg h0, h.1, if_pos (hn.resolve_left h0)]
theorem onTape_yes {m : Mi} {f k : Nat} {T : Nat → Nat} (h : Tap m 1 2 T f) (hk : k ≤ f) : f_X11_isOnTape TT m 1 (nI k) = some 1 := by
  have := h.2.1
  unfold f_X11_isOnTape
  rw [if_neg (nI_pos (by omega)), h.1, if_neg (nI_nlt hk (by omega))]
theorem takes_no {m : Mi} {f : Nat} {T : Nat → Nat} {n : Int32} (h : Tap m 870 871 T f) (hn : n < 0 ∨ nI f < n) : f_X12_takes TT m 870 n = some (0, m) := by
  unfold f_X12_takes
  by_cases h0 : n < 0
  · rw [if_pos h0]
  · rw [if_neg h0, h.1, if_neg (Int32.not_le.mpr (hn.resolve_left h0))]
theorem takes_yes {m : Mi} {f k : Nat} {T : Nat → Nat} (hM : WFM m) (h : Tap m 870 871 T f) (hk : k ≤ f) : ∃ m', f_X12_takes TT m 870 (nI k) = some (1, m') ∧ MT m' k T ∧ gi m' 870 1 = nI 0 ∧ FrM (fun x j => (x = 870 ∧ (j = 1 ∨ j = 3)) ∨ x = 872) m m' := by
  have hf := h.2.1
  have hl := lp_count (body := fun x : Int32 × Mi => f_X12_takes_l16 TT x.2 870 (nI k) x.1) (fun z => (nI z, blkI m 872 0 z (fun q => bT (T q)))) (a := 0) (n := k) (y := blkI m 872 0 k (fun q => bT (T q))) (by omega) (by omega) (fun z _ hz => ?_) ?_
  · rw [blkI_nil] at hl
    have f1 : FrM (fun x j => (x = 870 ∧ (j = 1 ∨ j = 3)) ∨ x = 872) m (si (si (blkI m 872 0 k (fun q => bT (T q))) 870 3 (nI k)) 870 1 0) := by
      refine ⟨fun x j e => ⟨?_, rfl⟩, fun _ _ => rfl⟩
      simp only [mS]
      rw [if_neg (by omega), if_neg (by omega), if_neg (by omega)]
    refine ⟨_, ?_, ⟨hM.keepF f1, ?_, by omega, fun j hj => ⟨?_, (h.2.2 j (by omega)).2⟩⟩, gi_si _ _ _ _, f1⟩
    · unfold f_X12_takes f_X12_takes_j16 f_X12_takes_j39
      rw [if_neg (nI_pos (by omega)), h.1, if_pos (nI_le hk (by omega)), show ((0 : Int32), m) = (nI 0, m) from rfl, hl, Option.bind_some, lt_eq, lt_eq]
    · simp only [mS]; simp
    · simp only [mS]
      rw [if_neg (by omega), if_neg (by omega), if_pos ⟨trivial, by omega, hj⟩]
  · show f_X12_takes_l16 TT (blkI m 872 0 z _) 870 (nI k) (nI z) = _
    unfold f_X12_takes_l16
    have hz2 := h.2.2 z (by omega)
    rw [if_neg (nI_ge hz (by omega))]
    simp only [mS, hM 0 (by omega), hM 2 (by omega), show RM 0 = 871 from rfl, show RM 2 = 872 from rfl]
    rw [if_pos (ar_of s_871 (by omega) (by omega)), if_pos (ar_of s_872 (by omega) (by omega)), ix_nI (by omega), if_neg (by omega), hz2.1, bT_nar _ hz2.2, lt_eq, lt_eq, nI_1, ← blkI_snoc m 872 0 z _ (by omega)]
  · show f_X12_takes_l16 TT (blkI m 872 0 k _) 870 (nI k) (nI k) = _
    unfold f_X12_takes_l16
    rw [if_pos (nI_le (Nat.le_refl _) (by omega))]
