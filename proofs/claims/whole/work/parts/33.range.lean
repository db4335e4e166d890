/-! Ranges of the class: an object r with its rows at r + 1. -/
abbrev Row : Type := List Int64
def bnd (m : Mi) (a n : Nat) : List Row := (List.range n).map (fun b => rowL m a (8 * b))
/-- at r there is a range with the bounds B, and room for cap longs -/
def RG (t : List Sh) (m : Mi) (r cap : Nat) (B : List Row) : Prop :=
  sh t r = some (.inl 4) ∧ gr m r 0 = r + 1 ∧ sh t (r + 1) = some (.inr (.long, cap)) ∧ gi m r 1 = nI B.length ∧ 8 * B.length ≤ cap ∧ 8 ≤ cap ∧ cap < 2 ^ 20 ∧ bnd m (r + 1) B.length = B
/-- nothing but range r has changed -/
def KpR (r : Nat) (m m' : Mi) : Prop := (∀ x j, x ≠ r + 1 → gl m' x j = gl m x j) ∧ (∀ x j, ¬ (x = r ∧ j = 1) → gi m' x j = gi m x j) ∧ ∀ x j, gr m' x j = gr m x j
theorem KpR.rf {r : Nat} {m : Mi} : KpR r m m := ⟨fun _ _ _ => rfl, fun _ _ _ => rfl, fun _ _ => rfl⟩
theorem KpR.tr {r : Nat} {m m1 m2 : Mi} (h : KpR r m m1) (h2 : KpR r m1 m2) : KpR r m m2 :=
  ⟨fun x j hx => (h2.1 x j hx).trans (h.1 x j hx), fun x j hx => (h2.2.1 x j hx).trans (h.2.1 x j hx), fun x j => (h2.2.2 x j).trans (h.2.2 x j)⟩
theorem rowF_congr {f g : Nat → Int64} (h : ∀ q, q < 8 → f q = g q) : rowF f = rowF g := by
  unfold rowF
  rw [h 0 (by omega), h 1 (by omega), h 2 (by omega), h 3 (by omega), h 4 (by omega), h 5 (by omega), h 6 (by omega), h 7 (by omega)]
theorem bnd_congr {m m' : Mi} {a n : Nat} (h : ∀ q, q < 8 * n → gl m' a q = gl m a q) : bnd m' a n = bnd m a n := by
  unfold bnd
  apply List.map_congr_left
  intro b hb
  have hb := List.mem_range.mp hb
  exact rowF_congr (fun q hq => h _ (by omega))
theorem bnd_len (m : Mi) (a n : Nat) : (bnd m a n).length = n := by simp [bnd]
theorem bnd_get {m : Mi} {a n b : Nat} (h : b < n) : (bnd m a n)[b]? = some (rowL m a (8 * b)) := by
  simp [bnd, h]
theorem bnd_succ (m : Mi) (a n : Nat) : bnd m a (n + 1) = bnd m a n ++ [rowL m a (8 * n)] := by
  simp [bnd, List.range_succ]
theorem RG.keep {t : List Sh} {m m' : Mi} {r r' cap : Nat} {B : List Row} (h : RG t m r cap B) (hk : KpR r' m m') (hne : r ≠ r') : RG t m' r cap B := by
  obtain ⟨h1, h2, h3, h4, h5, h6, h7, h8⟩ := h
  refine ⟨h1, (hk.2.2 _ _).trans h2, h3, (hk.2.1 _ _ (fun e => hne e.1)).trans h4, h5, h6, h7, ?_⟩
  rw [bnd_congr (m := m) (fun q _ => hk.1 _ _ (by omega))]
  exact h8
theorem RG.row {t : List Sh} {m : Mi} {r cap b : Nat} {B : List Row} (h : RG t m r cap B) (hb : b < B.length) : B[b]? = some (rowL m (r + 1) (8 * b)) := by
  have h8 := h.2.2.2.2.2.2.2
  rw [← h8, bnd_get hb]
/-- one bound more -/
theorem addBound_spec {t : List Sh} {m : Mi} {r cap a n i : Nat} {B : List Row} (h : RG t m r cap B) (ha : sh t a = some (.inr (.long, n))) (hi : i + 8 ≤ n) (hn : n < 2 ^ 31) (hne : a ≠ r + 1) (hroom : 8 * (B.length + 1) ≤ cap) :
    ∃ m', f_X4_addBound t m r a (nI i) = some m' ∧ RG t m' r cap (B ++ [rowL m a i]) ∧ KpR r m m' := by
  obtain ⟨h1, h2, h3, h4, h5, h6, h7, h8⟩ := h
  have hk : B.length < 2 ^ 20 := by omega
  refine ⟨si (blkL m (r + 1) (8 * B.length) (8 * B.length + 8) (fun q => gl m a (i + (q - 8 * B.length)))) r 1 (nI (B.length + 1)), ?_, ⟨h1, h2, h3, ?_, ?_, h6, h7, ?_⟩, ⟨fun x j hx => ?_, fun x j hx => ?_, fun _ _ => rfl⟩⟩
  · unfold f_X4_addBound
    rw [lt_eq, h4, h2, show (8 : Int32) = nI 8 from rfl, pk_mul, fits_spec h3 h6 (by omega) (by omega), if_pos (by omega), Option.bind_some, if_neg (by decide), copy_spec ha h3 hi (by omega) hn (by omega), Option.bind_some, lt_eq]
    simp only [mS]
    rw [h4, nI_1, show B.length * 8 = 8 * B.length by omega]
  · simp only [mS]
    simp
  · simpa using hroom
  · rw [List.length_append, List.length_singleton, bnd_succ]
    congr 1
    · rw [bnd_congr (m := m)]
      · exact h8
      · intro q hq
        simp only [mS]
        rw [if_neg (by omega)]
    · congr 1
      unfold rowL
      apply rowF_congr
      intro q hq
      simp only [mS]
      rw [if_pos ⟨trivial, by omega, by omega⟩, show i + (8 * B.length + q - 8 * B.length) = i + q by omega]
  · simp only [mS]
    rw [if_neg (by omega)]
  · simp only [mS]
    rw [if_neg hx]
theorem RG.zero {t : List Sh} {m : Mi} {r cap : Nat} {B : List Row} (h : RG t m r cap B) : RG t (si m r 1 0) r cap [] ∧ KpR r m (si m r 1 0) := by
  obtain ⟨h1, h2, h3, h4, h5, h6, h7, h8⟩ := h
  refine ⟨⟨h1, h2, h3, ?_, by simp, h6, h7, by simp [bnd]⟩, ⟨fun _ _ _ => rfl, fun x j hx => ?_, fun _ _ => rfl⟩⟩
  · simp only [mS]
    simp
    rfl
  · simp only [mS]
    rw [if_neg hx]
theorem setTo_lp {t : List Sh} {r r2 cap cap2 : Nat} {B : List Row} (hne : r2 ≠ r) (hne2 : r2 + 1 ≠ r) (hne3 : r2 ≠ r + 1) (hcap : 8 * B.length ≤ cap) : ∀ (d k N : Nat) (m : Mi), k + d = B.length → d < N → RG t m r cap (B.take k) → RG t m r2 cap2 B →
    ∃ m', lp (fun x : Int32 × Mi => f_X4_setTo_l7 t x.2 r r2 x.1) N (nI k, m) = some m' ∧ RG t m' r cap B ∧ KpR r m m' := by
  intro d
  induction d with
  | zero =>
    intro k N m hk hN h h2
    obtain ⟨N, rfl⟩ : ∃ z, N = z + 1 := ⟨N - 1, by omega⟩
    refine ⟨m, lp_exit ?_, ?_, KpR.rf⟩
    · show f_X4_setTo_l7 t m r r2 (nI k) = _
      unfold f_X4_setTo_l7
      rw [ob_of h2.1, if_pos rfl, h2.2.2.2.1, if_pos (nI_le (by omega) (by have := h2.2.2.2.2.1; have := h2.2.2.2.2.2.2.1; omega))]
    · rw [List.take_of_length_le (by omega)] at h
      exact h
  | succ d ih =>
    intro k N m hk hN h h2
    obtain ⟨N, rfl⟩ : ∃ z, N = z + 1 := ⟨N - 1, by omega⟩
    have hB : B.length < 2 ^ 20 := by have := h2.2.2.2.2.1; have := h2.2.2.2.2.2.2.1; omega
    have hlen : (B.take k).length = k := by rw [List.length_take]; omega
    obtain ⟨m1, e1, g1, g2⟩ := addBound_spec (i := 8 * k) h h2.2.2.1 (by have := h2.2.2.2.2.1; omega) (by have := h2.2.2.2.2.2.2.1; omega) (by omega) (by rw [hlen]; omega)
    have hrow : B.take k ++ [rowL m (r2 + 1) (8 * k)] = B.take (k + 1) := by
      have e := h2.row (b := k) (by omega)
      rw [List.take_succ, e]
      rfl
    rw [hrow] at g1
    obtain ⟨m2, e2, g3, g4⟩ := ih (k + 1) N m1 (by omega) (by omega) g1 (h2.keep g2 hne)
    refine ⟨m2, ?_, g3, g2.tr g4⟩
    rw [lp_step (x' := (nI (k + 1), m1))]
    · exact e2
    · show f_X4_setTo_l7 t m r r2 (nI k) = _
      unfold f_X4_setTo_l7
      rw [ob_of h2.1, if_pos rfl, h2.2.2.2.1, if_neg (nI_ge (by omega) (by omega)), h2.2.1, show (8 : Int32) = nI 8 from rfl, pk_mul, Nat.mul_comm k 8, e1, Option.bind_some, lt_eq, nI_1]
theorem setTo_spec {t : List Sh} {m : Mi} {r r2 cap cap2 : Nat} {A B : List Row} (h : RG t m r cap A) (h2 : RG t m r2 cap2 B) (hne : r2 ≠ r) (hne2 : r2 + 1 ≠ r) (hne3 : r2 ≠ r + 1) (hcap : 8 * B.length ≤ cap) :
    ∃ m', f_X4_setTo t m r r2 = some m' ∧ RG t m' r cap B ∧ KpR r m m' := by
  obtain ⟨g1, g2⟩ := h.zero
  obtain ⟨m', e, g3, g4⟩ := setTo_lp (r := r) (r2 := r2) (cap := cap) (cap2 := cap2) (B := B) hne hne2 hne3 hcap B.length 0 FUEL (si m r 1 0) (by omega) (by have := h2.2.2.2.2.1; have := h2.2.2.2.2.2.2.1; unfold FUEL; omega) g1 (h2.keep g2 hne)
  refine ⟨m', ?_, g3, g2.tr g4⟩
  unfold f_X4_setTo f_X4_setTo_j7
  rw [lt_eq, show ((0 : Int32), si m r 1 0) = (nI 0, si m r 1 0) from rfl, e]
  rfl
theorem setStretch_spec {t : List Sh} {m : Mi} {r cap a b n k : Nat} {A : List Row} (h : RG t m r cap A) (ha : sh t a = some (.inr (.long, n))) (hb : sh t b = some (.inr (.long, k))) (hn8 : 8 ≤ n) (hk8 : 8 ≤ k) (hn : n < 2 ^ 31) (hk : k < 2 ^ 31) (hne : a ≠ r + 1) (hne2 : b ≠ r + 1) (hcap : 16 ≤ cap) :
    ∃ m', f_X4_setStretch t m r a b = some m' ∧ RG t m' r cap [rowL m a 0, rowL m b 0] ∧ KpR r m m' := by
  obtain ⟨g1, g2⟩ := h.zero
  obtain ⟨m1, e1, g3, g4⟩ := addBound_spec (i := 0) g1 ha (by omega) hn hne (by simpa using by omega)
  obtain ⟨m2, e2, g5, g6⟩ := addBound_spec (i := 0) g3 hb (by omega) hk hne2 (by simpa using hcap)
  have r1 : rowL (si m r 1 0) a 0 = rowL m a 0 := rfl
  have r2 : rowL m1 b 0 = rowL m b 0 := rowF_congr (fun q _ => (g2.tr g4).1 _ _ hne2)
  refine ⟨m2, ?_, ?_, (g2.tr g4).tr g6⟩
  · unfold f_X4_setStretch
    rw [lt_eq, show (0 : Int32) = nI 0 from rfl]
    rw [show (0 : Int32) = nI 0 from rfl] at e1
    rw [e1, Option.bind_some, e2, Option.bind_some]
  · rw [r1, r2] at g5
    exact g5
