/-! The class reads a version. -/
def VS (m : Mi) (v c L e : Nat) (T : Nat → Nat) : Prop := gr m v 2 = c ∧ c ≠ 0 ∧ c ≠ v ∧ sh TT c = some (.inr (.byte, L)) ∧ L < 100000 ∧ e ≤ L ∧ gi m v 4 = nI e ∧ Tx m c e T
/-- within the reading only places 1 and 3 of the version, and its row, change -/
def KI (v r : Nat) (m m' : Mi) : Prop := (∀ x j, ¬ (x = v ∧ (j = 1 ∨ j = 3)) → gi m' x j = gi m x j) ∧ (∀ x j, x ≠ r → gl m' x j = gl m x j) ∧ ∀ x j, gr m' x j = gr m x j
theorem KI.rf {v r : Nat} {m : Mi} : KI v r m m := ⟨fun _ _ _ => rfl, fun _ _ _ => rfl, fun _ _ => rfl⟩
theorem KI.tr {v r : Nat} {m m1 m2 : Mi} (h : KI v r m m1) (h2 : KI v r m1 m2) : KI v r m m2 := ⟨fun x j a => (h2.1 x j a).trans (h.1 x j a), fun x j a => (h2.2.1 x j a).trans (h.2.1 x j a), fun x j => (h2.2.2 x j).trans (h.2.2 x j)⟩
theorem VS.keep {m m' : Mi} {v r c L e : Nat} {T : Nat → Nat} (h : VS m v c L e T) (k : KI v r m m') : VS m' v c L e T := by
  obtain ⟨h1, h2, h3, h4, h5, h6, h7, h8⟩ := h
  exact ⟨(k.2.2 _ _).trans h1, h2, h3, h4, h5, h6, (k.1 _ _ (by omega)).trans h7, fun j hj => ⟨(k.1 _ _ (by omega)).trans (h8 j hj).1, (h8 j hj).2⟩⟩
theorem KI.s3 {v r : Nat} {m : Mi} (x : Int32) : KI v r m (si m v 3 x) := by
  refine ⟨fun y j h => ?_, fun _ _ _ => rfl, fun _ _ => rfl⟩
  simp only [mS]
  rw [if_neg (by omega)]
theorem KI.s1 {v r : Nat} {m : Mi} (x : Int32) : KI v r m (si m v 1 x) := by
  refine ⟨fun y j h => ?_, fun _ _ _ => rfl, fun _ _ => rfl⟩
  simp only [mS]
  rw [if_neg (by omega)]
theorem KI.sr {v r : Nat} {m : Mi} (k : Nat) (x : Int64) : KI v r m (sl m r k x) := by
  refine ⟨fun y j h => rfl, fun y j h => ?_, fun _ _ => rfl⟩
  simp only [mS]
  rw [if_neg (fun e => h e.1)]
theorem signAt_spec {m : Mi} {v c L e i : Nat} {T : Nat → Nat} (h : VS m v c L e T) (hi : i < 2 ^ 31) : f_X10_signAt TT m v (nI i) = some (sg T e i) := by
  obtain ⟨h1, h2, h3, h4, h5, h6, h7, h8⟩ := h
  unfold f_X10_signAt sg
  rw [h1, if_neg h2, if_neg (nI_pos hi), h7, aa_of h4, ln_of h4]
  by_cases hie : i < e
  · have e8 : gi m c i &&& 255 = nI (T i) := by rw [(h8 i hie).1, bT_and _ (h8 i hie).2]
    rw [if_neg (nI_ge hie (by omega)), if_pos rfl, if_pos (by rw [ofNat_nI]; exact nI_lt (by omega) (by omega)), if_pos (ar_of h4 (by omega) (by omega)), ix_nI hi, e8, if_pos hie]
  · rw [if_pos (nI_le (by omega) hi), if_neg hie]
theorem VS.lt {m : Mi} {v c L e : Nat} {T : Nat → Nat} (h : VS m v c L e T) (i : Nat) (hi : i < e) : T i < 256 := (h.2.2.2.2.2.2.2 i hi).2
theorem si_si (m : Mi) (a k : Nat) (x y : Int32) : si (si m a k x) a k y = si m a k y := by
  refine Mi.ext' (fun b j => ?_) (fun _ _ => rfl) (fun _ _ => rfl)
  simp only [mS]
  split <;> rfl
theorem gi_si (m : Mi) (a k : Nat) (x : Int32) : gi (si m a k x) a k = x := by
  simp only [mS]
  simp
theorem bI_0 (b : Bool) : bI b = 0 ↔ b = false := by cases b <;> decide
/-- the value, as the program's loops make it -/
def dvL (T : Nat → Nat) (p : Nat) : Nat → Int64
  | 0 => 0
  | n + 1 => dvL T p n * 10 + Int32.toInt64 (nI (T (p + n)) - 48)
theorem dvL_dv {T : Nat → Nat} {p : Nat} : ∀ n, (∀ j, j < n → dg (T (p + j)) = true) → dvL T p n = lN (dv T p n) := by
  intro n
  induction n with
  | zero => intro _; rfl
  | succ n ih =>
    intro h
    have h1 := h n (by omega)
    unfold dg at h1
    simp only [Bool.and_eq_true, decide_eq_true_eq] at h1
    rw [dvL, dv, ih (fun j hj => h j (by omega)), show (48 : Int32) = nI 48 from rfl, pk_sub h1.1, nI_l (by omega), show (10 : Int64) = lN 10 from rfl, lN_mul, lN_add, Nat.mul_comm]
theorem num_lp {m : Mi} {v r c L e p : Nat} {a1 : Int32} {T : Nat → Nat} (h : VS m v c L e T) (hp : p ≤ e) :
    ∀ d k N, k + d = 10 → d < N → p + k ≤ e → lp (fun x : Int64 × Mi => f_X10_takeNumbers_l67 TT x.2 v a1 (nI p) x.1) N (dvL T p k, si m v 3 (nI (p + k))) = some (dvL T p (k + run dg T e d (p + k)), si m v 3 (nI (p + (k + run dg T e d (p + k))))) := by
  intro d
  have he := h.2.2.2.2.1
  have he2 := h.2.2.2.2.2.1
  induction d with
  | zero =>
    intro k N hk hN hpk
    obtain ⟨N, rfl⟩ : ∃ z, N = z + 1 := ⟨N - 1, by omega⟩
    refine lp_exit ?_
    show f_X10_takeNumbers_l67 TT _ v a1 (nI p) (dvL T p k) = _
    unfold f_X10_takeNumbers_l67
    rw [gi_si, pk_sub (by omega), show (9 : Int32) = nI 9 from rfl, if_pos (nI_lt (by omega) (by omega))]
    rfl
  | succ d ih =>
    intro k N hk hN hpk
    obtain ⟨N, rfl⟩ : ∃ z, N = z + 1 := ⟨N - 1, by omega⟩
    have h' : VS (si m v 3 (nI (p + k))) v c L e T := h.keep (KI.s3 (r := r) _)
    have hs := signAt_spec (i := p + k) h' (by omega)
    by_cases hd : p + k < e ∧ dg (T (p + k)) = true
    · have hb : f_X10_takeNumbers_l67 TT (si m v 3 (nI (p + k))) v a1 (nI p) (dvL T p k) = some (.inl (dvL T p (k + 1), si m v 3 (nI (p + (k + 1))))) := by
        unfold f_X10_takeNumbers_l67
        rw [gi_si, pk_sub (by omega), show (9 : Int32) = nI 9 from rfl, if_neg (nI_nlt (by omega) (by omega)), hs, Option.bind_some, isDigit_sg (h'.lt _), Option.bind_some, if_neg (by rw [bI_0]; unfold atE; rw [decide_eq_true hd.1, hd.2]; decide), Option.bind_some]
        simp only [bS]
        rw [si_si, nI_1, dvL]
        unfold sg
        rw [if_pos hd.1]
        rfl
      rw [lp_step (x' := (dvL T p (k + 1), si m v 3 (nI (p + (k + 1))))) hb, ih (k + 1) N (by omega) (by omega) (by omega), run, if_pos hd, show p + k + 1 = p + (k + 1) by omega, show k + 1 + run dg T e d (p + (k + 1)) = k + (run dg T e d (p + (k + 1)) + 1) by omega]
    · rw [run, if_neg hd]
      refine lp_exit ?_
      show f_X10_takeNumbers_l67 TT _ v a1 (nI p) (dvL T p k) = _
      unfold f_X10_takeNumbers_l67
      rw [gi_si, pk_sub (by omega), show (9 : Int32) = nI 9 from rfl, if_neg (nI_nlt (by omega) (by omega)), hs, Option.bind_some, isDigit_sg (h'.lt _), Option.bind_some, if_pos (by rw [bI_0]; unfold atE; by_cases h1 : p + k < e; (· rw [decide_eq_true h1, Bool.true_and]; exact Bool.eq_false_iff.mpr (fun e => hd ⟨h1, e⟩)); (· rw [decide_eq_false h1, Bool.false_and]))]
      rfl
/-- a number: what the body of the loop makes of it -/
theorem num_spec {m : Mi} {v r c L e p k : Nat} {T : Nat → Nat} (h : VS m v c L e T) (hv : sh TT v = some (.inl 10)) (hr : sh TT r = some (.inr (.long, 8))) (h0 : gr m v 0 = r) (hp : p ≤ e) (h3 : gi m v 3 = nI p) (h1 : gi m v 1 = nI k) (hk : k < 3) :
    (nmb T e p = none → ∃ m', f_X10_takeNumbers_j67 TT m v (nI k) (nI p) 0 = some (.inr (.inr (.inr m'))) ∧ KI v r m m') ∧
    (∀ w q, nmb T e p = some (w, q) → ∃ m', f_X10_takeNumbers_j67 TT m v (nI k) (nI p) 0 = some (.inl (nI (k + 1), m')) ∧ KI v r m m' ∧ gi m' v 3 = nI q ∧ gi m' v 1 = nI (k + 1) ∧ q ≤ e ∧ ∀ j, gl m' r j = if j = k then lN w else gl m r j) := by
  have he := h.2.2.2.2.1
  have he2 := h.2.2.2.2.2.1
  have e0 : (0, m) = (dvL T p 0, si m v 3 (nI p)) := by
    refine Prod.ext rfl (Mi.ext' (fun b j => ?_) (fun _ _ => rfl) (fun _ _ => rfl))
    simp only [mS]
    by_cases hb : b = v ∧ j = 3
    · rw [if_pos hb, hb.1, hb.2, h3]
    · rw [if_neg hb]
  have hl := num_lp (r := r) (a1 := nI k) h hp 10 0 FUEL (by omega) (by unfold FUEL; omega) (by omega)
  rw [Nat.zero_add, Nat.add_zero] at hl
  have hle := run_le dg T e 10 p
  have hin := run_in (f := dg) (T := T) (e := e) 10 p hp
  have hall := run_all (f := dg) (T := T) (e := e) 10 p
  generalize hn : run dg T e 10 p = n at hl hle hin hall
  have hj : f_X10_takeNumbers_j67 TT m v (nI k) (nI p) 0 = f_X10_takeNumbers_j124 TT (si m v 3 (nI (p + n))) v (nI k) (nI p) (dvL T p n) := by
    unfold f_X10_takeNumbers_j67
    rw [e0, hl]
    rfl
  have h' : VS (si m v 3 (nI (p + n))) v c L e T := h.keep (KI.s3 (r := r) _)
  have hs := signAt_spec (i := p) h' (by omega)
  rw [hj]
  unfold f_X10_takeNumbers_j124
  rw [gi_si, pk_sub (by omega), show p + n - p = n by omega, lt_eq, show (9 : Int32) = nI 9 from rfl, show (1 : Int32) = nI 1 from rfl]
  have stay : nmb T e p = none → f_X10_takeNumbers_j124 TT (si m v 3 (nI (p + n))) v (nI k) (nI p) (dvL T p n) = some (.inr (.inr (.inr (si m v 3 (nI (p + n)))))) := by
    intro hx
    unfold nmb at hx
    rw [hn] at hx
    unfold f_X10_takeNumbers_j124
    rw [gi_si, pk_sub (by omega), show p + n - p = n by omega, lt_eq, show (9 : Int32) = nI 9 from rfl, show (1 : Int32) = nI 1 from rfl]
    by_cases a0 : n = 0
    · rw [if_pos (nI_lt (by omega) (by omega))]
    by_cases a9 : 9 < n
    · rw [if_neg (nI_nlt (by omega) (by omega)), if_pos (nI_lt a9 (by omega))]
    by_cases a1 : 1 < n ∧ T p = 48
    · rw [if_neg (nI_nlt (by omega) (by omega)), if_neg (nI_nlt (by omega) (by omega)), if_neg (nI_ge a1.1 (by omega)), hs, Option.bind_some, if_pos]
      have := (hall 0 (by omega)).1
      unfold sg
      rw [if_pos (by omega), a1.2]
      rfl
    · rw [if_neg (by omega)] at hx
      cases hx
  have fin : ∀ w q, nmb T e p = some (w, q) → (w = dv T p n ∧ q = p + n ∧ 1 ≤ n ∧ n ≤ 9) ∧ f_X10_takeNumbers_j124 TT (si m v 3 (nI (p + n))) v (nI k) (nI p) (dvL T p n) = f_X10_takeNumbers_j163 TT (si m v 3 (nI (p + n))) v (nI k) (dvL T p n) := by
    intro w q hx
    unfold nmb at hx
    rw [hn] at hx
    by_cases hc : n = 0 ∨ 9 < n ∨ (1 < n ∧ T p = 48)
    · rw [if_pos hc] at hx; cases hx
    rw [if_neg hc] at hx
    have hx := Option.some.inj hx
    refine ⟨⟨(congrArg Prod.fst hx).symm, (congrArg Prod.snd hx).symm, by omega, by omega⟩, ?_⟩
    unfold f_X10_takeNumbers_j124
    rw [gi_si, pk_sub (by omega), show p + n - p = n by omega, lt_eq, show (9 : Int32) = nI 9 from rfl, show (1 : Int32) = nI 1 from rfl]
    rw [if_neg (nI_nlt (by omega) (by omega)), if_neg (nI_nlt (by omega) (by omega))]
    by_cases a1 : 1 < n
    · have h0 := (hall 0 (by omega)).1
      have hlt := h'.lt p (by omega)
      rw [if_neg (nI_ge a1 (by omega)), hs, Option.bind_some, if_neg]
      unfold sg
      rw [if_pos (by omega), show (48 : Int32) = nI 48 from rfl, nI_eq (by omega) (by omega)]
      omega
    · rw [if_pos (nI_le (by omega) (by omega))]
  refine ⟨fun hx => ?_, fun w q hx => ?_⟩
  · have := stay hx
    unfold f_X10_takeNumbers_j124 at this
    rw [gi_si, pk_sub (by omega), show p + n - p = n by omega, lt_eq, show (9 : Int32) = nI 9 from rfl, show (1 : Int32) = nI 1 from rfl] at this
    exact ⟨_, this, KI.s3 _⟩
  · obtain ⟨⟨hw, hq, n1, n9⟩, hf⟩ := fin w q hx
    unfold f_X10_takeNumbers_j124 at hf
    rw [gi_si, pk_sub (by omega), show p + n - p = n by omega, lt_eq, show (9 : Int32) = nI 9 from rfl, show (1 : Int32) = nI 1 from rfl] at hf
    rw [hf]
    have g0 : gr (si m v 3 (nI (p + n))) v 0 = r := h0
    have hvr : v ≠ r := fun e => by rw [e, hr] at hv; cases hv
    refine ⟨si (sl (si m v 3 (nI (p + n))) r k (dvL T p n)) v 1 (nI (k + 1)), ?_, ((KI.s3 _).tr (KI.sr _ _)).tr (KI.s1 _), ?_, gi_si _ _ _ _, by omega, fun j => ?_⟩
    · unfold f_X10_takeNumbers_j163
      rw [g0, if_pos (ar_of hr (by omega) (by omega)), ix_nI (by omega)]
      simp only [bS]
      have g1 : gi (sl (si m v 3 (nI (p + n))) r k (dvL T p n)) v 1 = nI k := by
        simp only [mS]
        rw [if_neg (by omega)]
        exact h1
      rw [g1, nI_1]
    · simp only [mS]
      rw [if_neg (by omega), if_pos ⟨trivial, trivial⟩, hq]
    · simp only [mS]
      rw [dvL_dv n (fun j hj => (hall j hj).2), ← hw]
      by_cases hj : j = k
      · rw [if_pos ⟨trivial, hj⟩, if_pos hj]
      · rw [if_neg (fun e => hj e.2), if_neg hj]
