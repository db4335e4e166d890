/-! The class reads a version: its identifiers. -/
def dga (T : Nat → Nat) (p : Nat) : Nat → Bool
  | 0 => true
  | n + 1 => dga T p n && dg (T (p + n))
def byL (T : Nat → Nat) (p : Nat) : Nat → Int64
  | 0 => 0
  | n + 1 => (byL T p n <<< (Int32.toInt64 8 &&& 63)) ||| Int32.toInt64 (nI (T (p + n)))
theorem dga_all {T : Nat → Nat} {p : Nat} : ∀ n, dga T p n = true ↔ ∀ j, j < n → dg (T (p + j)) = true := by
  intro n
  induction n with
  | zero => exact ⟨fun _ j h => (by cases h), fun _ => rfl⟩
  | succ n ih =>
    rw [dga, Bool.and_eq_true, ih]
    refine ⟨fun h j hj => ?_, fun h => ⟨fun j hj => h j (by omega), h n (by omega)⟩⟩
    by_cases hjn : j = n
    · rw [hjn]; exact h.2
    · exact h.1 j (by omega)
theorem dga_run {T : Nat → Nat} {e p n : Nat} (h : p + n ≤ e) : run dg T e n p = n ↔ dga T p n = true := by
  rw [dga_all]
  constructor
  · intro h1 j hj
    exact (run_all (e := e) n p j (by omega)).2
  · intro h1
    exact run_uniq (Nat.le_refl _) (fun j hj => ⟨by omega, h1 j hj⟩) (fun h => absurd h (Nat.lt_irrefl _))
theorem shl_or {x c : Nat} (hx : x < 2 ^ 55) (hc : c < 256) : (lN x <<< (Int32.toInt64 8 &&& 63)) ||| Int32.toInt64 (nI c) = lN (x * 256 + c) := by
  rw [nI_l (by omega)]
  have h1 : lN x <<< (Int32.toInt64 8 &&& 63) = lN (x * 256) := by
    refine Int64.toInt_inj.mp ?_
    rw [Kit.i64_shl (lN x) (Int32.toInt64 8 &&& 63) (k := 8) (by decide) (by rw [pk_lT (by omega)]; omega) (by rw [pk_lT (by omega)]; omega), pk_lT (by omega), pk_lT (by omega)]
    omega
  rw [h1]
  refine Int64.toBitVec_inj.mp ?_
  rw [Int64.toBitVec_or]
  refine BitVec.eq_of_toNat_eq ?_
  rw [BitVec.toNat_or]
  show (BitVec.ofNat 64 (x * 256)).toNat ||| (BitVec.ofNat 64 c).toNat = (BitVec.ofNat 64 (x * 256 + c)).toNat
  rw [BitVec.toNat_ofNat, BitVec.toNat_ofNat, BitVec.toNat_ofNat, Nat.mod_eq_of_lt (by omega), Nat.mod_eq_of_lt (by omega), Nat.mod_eq_of_lt (by omega)]
  have := Nat.shiftLeft_add_eq_or_of_lt (i := 8) (b := c) (by omega) x
  rw [Nat.shiftLeft_eq] at this
  exact this.symm
theorem by8_lt {T : Nat → Nat} {p : Nat} : ∀ n, (∀ j, j < n + 1 → T (p + j) < 123) → by8 T p (n + 1) < 123 * 256 ^ n ∧ T p * 256 ^ n ≤ by8 T p (n + 1) := by
  intro n
  induction n with
  | zero => intro h; have := h 0 (by omega); rw [by8, by8]; simp only [Nat.add_zero] at this ⊢; omega
  | succ n ih =>
    intro h
    obtain ⟨h1, h2⟩ := ih (fun j hj => h j (by omega))
    have h3 := h (n + 1) (by omega)
    rw [by8, Nat.pow_succ, ← Nat.mul_assoc, ← Nat.mul_assoc]
    generalize by8 T p (n + 1) = b at h1 h2 ⊢
    generalize 123 * 256 ^ n = x at h1 ⊢
    generalize T p * 256 ^ n = y at h2 ⊢
    omega
theorem byL_by8 {T : Nat → Nat} {p : Nat} : ∀ n, n ≤ 8 → (∀ j, j < n → T (p + j) < 123) → byL T p n = lN (by8 T p n) := by
  intro n
  induction n with
  | zero => intro _ _; rfl
  | succ n ih =>
    intro hn h
    rw [byL, by8, ih (by omega) (fun j hj => h j (by omega))]
    refine shl_or ?_ (by have := h n (by omega); omega)
    cases n with
    | zero => rw [by8]; omega
    | succ n =>
      have h1 := (by8_lt (T := T) (p := p) n (fun j hj => h j (by omega))).1
      have h2 : 256 ^ n ≤ 256 ^ 6 := Nat.pow_le_pow_right (by omega) (by omega)
      omega
theorem shl_end {x n : Nat} (h1 : 1 ≤ n) (h8 : n ≤ 8) (hx : x * 256 ^ (8 - n) < 2 ^ 63) : lN x <<< (Int32.toInt64 (8 * (8 - nI n)) &&& 63) = lN (x * 256 ^ (8 - n)) := by
  have hpos : 1 ≤ 256 ^ (8 - n) := Nat.pow_pos (by omega)
  have hxx : x ≤ x * 256 ^ (8 - n) := Nat.le_mul_of_pos_right _ hpos
  have hk : ((Int32.toInt64 (8 * (8 - nI n)) &&& 63).toBitVec.smod 64).toNat = 8 * (8 - n) := by
    have h : n = 1 ∨ n = 2 ∨ n = 3 ∨ n = 4 ∨ n = 5 ∨ n = 6 ∨ n = 7 ∨ n = 8 := by omega
    rcases h with rfl | rfl | rfl | rfl | rfl | rfl | rfl | rfl <;> decide
  have e2 : (2 : Int) ^ (8 * (8 - n)) = ((256 ^ (8 - n) : Nat) : Int) := by
    rw [Int.pow_mul, Int.natCast_pow]
    rfl
  refine Int64.toInt_inj.mp ?_
  have hp : (lN x).toInt * 2 ^ (8 * (8 - n)) = ((x * 256 ^ (8 - n) : Nat) : Int) := by
    rw [pk_lT (by omega), e2, Int.natCast_mul]
  rw [Kit.i64_shl (lN x) _ (k := 8 * (8 - n)) hk (by rw [hp]; omega) (by rw [hp]; omega), hp, pk_lT hx]
theorem idc_lt {c : Nat} (h : idc c = true) : c < 123 ∧ 45 ≤ c := by
  unfold idc dg at h
  simp only [Bool.or_eq_true, Bool.and_eq_true, decide_eq_true_eq] at h
  omega
theorem dg_lt {c : Nat} (h : dg c = true) : 48 ≤ c ∧ c ≤ 57 := by
  unfold dg at h
  simpa using h
theorem dv_lt {T : Nat → Nat} {p : Nat} : ∀ n, (∀ j, j < n → dg (T (p + j)) = true) → dv T p n < 10 ^ n := by
  intro n
  induction n with
  | zero => intro _; rw [dv]; omega
  | succ n ih =>
    intro h
    have h1 := ih (fun j hj => h j (by omega))
    have h2 := dg_lt (h n (by omega))
    rw [dv, Nat.pow_succ]
    omega
/-- the class's key of an identifier -/
def ckey (v : Nat) : Nat := if v < 1099511627776 then v + 1 else v
theorem key_lp {m : Mi} {v r c L e p : Nat} {a1 : Int32} {T : Nat → Nat} (h : VS m v c L e T) (hp : p ≤ e) :
    ∀ d k N, k + d = 9 → d < N → p + k ≤ e → lp (fun x : Int64 × Int64 × Int32 × Mi => f_X10_takeKey_l13 TT x.2.2.2 v a1 (nI p) x.1 x.2.1 x.2.2.1) N (byL T p k, dvL T p k, bI (dga T p k), si m v 3 (nI (p + k))) = some (byL T p (k + run idc T e d (p + k)), dvL T p (k + run idc T e d (p + k)), bI (dga T p (k + run idc T e d (p + k))), si m v 3 (nI (p + (k + run idc T e d (p + k))))) := by
  intro d
  have he := h.2.2.2.2.1
  have he2 := h.2.2.2.2.2.1
  induction d with
  | zero =>
    intro k N hk hN hpk
    obtain ⟨N, rfl⟩ : ∃ z, N = z + 1 := ⟨N - 1, by omega⟩
    refine lp_exit ?_
    show f_X10_takeKey_l13 TT _ v a1 (nI p) (byL T p k) (dvL T p k) (bI (dga T p k)) = _
    unfold f_X10_takeKey_l13
    rw [gi_si, pk_sub (by omega), show (8 : Int32) = nI 8 from rfl, if_pos (nI_lt (by omega) (by omega))]
    rfl
  | succ d ih =>
    intro k N hk hN hpk
    obtain ⟨N, rfl⟩ : ∃ z, N = z + 1 := ⟨N - 1, by omega⟩
    have h' : VS (si m v 3 (nI (p + k))) v c L e T := h.keep (KI.s3 (r := r) _)
    have hs := signAt_spec (i := p + k) h' (by omega)
    by_cases hd : p + k < e ∧ idc (T (p + k)) = true
    · have hdd : f_X10_isDigit (nI (T (p + k))) = some (bI (dg (T (p + k)))) := cmC.1 _ (h'.lt _ hd.1)
      have hsg : sg T e (p + k) = nI (T (p + k)) := if_pos hd.1
      have hb : f_X10_takeKey_l13 TT (si m v 3 (nI (p + k))) v a1 (nI p) (byL T p k) (dvL T p k) (bI (dga T p k)) = some (.inl (byL T p (k + 1), dvL T p (k + 1), bI (dga T p (k + 1)), si m v 3 (nI (p + (k + 1))))) := by
        unfold f_X10_takeKey_l13
        rw [gi_si, pk_sub (by omega), if_neg (show ¬ (8 : Int32) < nI (p + k - p) from nI_nlt (a := 8) (by omega) (by omega)), hs, Option.bind_some, isId_sg (h'.lt _), Option.bind_some, if_neg (by rw [bI_0]; unfold atE; rw [decide_eq_true hd.1, hd.2]; decide), Option.bind_some]
        simp only [bS, hsg]
        unfold f_X10_takeKey_j97 f_X10_takeKey_j98
        simp only [bS, hdd, gi_si, si_si, nI_1]
        rw [byL, dvL, dga]
        cases dga T p k <;> cases dg (T (p + k)) <;> rfl
      rw [lp_step (x' := (byL T p (k + 1), dvL T p (k + 1), bI (dga T p (k + 1)), si m v 3 (nI (p + (k + 1))))) hb, ih (k + 1) N (by omega) (by omega) (by omega), run, if_pos hd, show p + k + 1 = p + (k + 1) by omega, show k + 1 + run idc T e d (p + (k + 1)) = k + (run idc T e d (p + (k + 1)) + 1) by omega]
    · rw [run, if_neg hd]
      refine lp_exit ?_
      show f_X10_takeKey_l13 TT _ v a1 (nI p) (byL T p k) (dvL T p k) (bI (dga T p k)) = _
      unfold f_X10_takeKey_l13
      rw [gi_si, pk_sub (by omega), if_neg (show ¬ (8 : Int32) < nI (p + k - p) from nI_nlt (a := 8) (by omega) (by omega)), hs, Option.bind_some, isId_sg (h'.lt _), Option.bind_some, if_pos (by rw [bI_0]; unfold atE; by_cases h1 : p + k < e; (· rw [decide_eq_true h1, Bool.true_and]; exact Bool.eq_false_iff.mpr (fun e => hd ⟨h1, e⟩)); (· rw [decide_eq_false h1, Bool.false_and]))]
      rfl
theorem key_spec {m : Mi} {v r c L e p : Nat} {cn : Bool} {T : Nat → Nat} (h : VS m v c L e T) (hp : p ≤ e) (h3 : gi m v 3 = nI p) :
    (idn T e cn p = none → ∃ m', f_X10_takeKey TT m v (bI cn) = some (0, m') ∧ KI v r m m') ∧
    (∀ w q, idn T e cn p = some (w, q) → ∃ m', f_X10_takeKey TT m v (bI cn) = some (lN (ckey w), m') ∧ m' = si m v 3 (nI q) ∧ q ≤ e ∧ okn w ∧ p < q) := by
  have he := h.2.2.2.2.1
  have he2 := h.2.2.2.2.2.1
  have hsi : si m v 3 (nI p) = m := by
    refine Mi.ext' (fun b j => ?_) (fun _ _ => rfl) (fun _ _ => rfl)
    simp only [mS]
    by_cases hb : b = v ∧ j = 3
    · rw [if_pos hb, hb.1, hb.2, h3]
    · rw [if_neg hb]
  have hl := key_lp (r := r) (a1 := bI cn) h hp 9 0 FUEL (by omega) (by unfold FUEL; omega) (by omega)
  rw [Nat.zero_add, Nat.add_zero] at hl
  have hle := run_le idc T e 9 p
  have hin := run_in (f := idc) (T := T) (e := e) 9 p hp
  have hall := run_all (f := idc) (T := T) (e := e) 9 p
  generalize hn : run idc T e 9 p = n at hl hle hin hall
  rw [show (byL T p 0, dvL T p 0, bI (dga T p 0), si m v 3 (nI p)) = ((0 : Int64), (0 : Int64), (1 : Int32), m) by rw [hsi]; rfl] at hl
  have hj : f_X10_takeKey TT m v (bI cn) = f_X10_takeKey_j113 TT (si m v 3 (nI (p + n))) v (bI cn) (nI p) (byL T p n) (dvL T p n) (bI (dga T p n)) := by
    unfold f_X10_takeKey f_X10_takeKey_j13
    rw [lt_eq, h3, hl]
    rfl
  have h' : VS (si m v 3 (nI (p + n))) v c L e T := h.keep (KI.s3 (r := r) _)
  have hs := signAt_spec (i := p) h' (by omega)
  have hdr := dga_run (T := T) (e := e) (p := p) (n := n) hin
  rw [hj]
  unfold f_X10_takeKey_j113 idn
  rw [gi_si, pk_sub (by omega), show p + n - p = n by omega, lt_eq, hn]
  by_cases a0 : n = 0
  · rw [if_pos (Or.inl a0), if_pos (show nI n < 1 from nI_lt (b := 1) (by omega) (by omega))]
    exact ⟨fun _ => ⟨_, rfl, KI.s3 _⟩, fun w q hx => (by cases hx)⟩
  rw [if_neg (show ¬ nI n < 1 from nI_nlt (b := 1) (by omega) (by omega))]
  by_cases a8 : 8 < n
  · rw [if_pos (Or.inr a8), if_neg (show ¬ nI n ≤ 8 from nI_ge (a := 8) (by omega) (by omega))]
    exact ⟨fun _ => ⟨_, rfl, KI.s3 _⟩, fun w q hx => (by cases hx)⟩
  rw [if_neg (by omega), if_pos (show nI n ≤ 8 from nI_le (b := 8) (by omega) (by omega))]
  have b8 : by8 T p n < 123 * 256 ^ (n - 1) ∧ T p * 256 ^ (n - 1) ≤ by8 T p n := by
    have := by8_lt (T := T) (p := p) (n - 1) (fun j hj => (idc_lt (hall j (by omega)).2).1)
    rw [show n - 1 + 1 = n by omega] at this
    exact this
  by_cases hdg : dga T p n = true
  · rw [hdg, if_neg (show ¬ bI true = 0 by decide), if_pos (hdr.mpr hdg)]
    have hdl := dvL_dv n ((dga_all n).mp hdg)
    have hlt : dv T p n < 10 ^ 8 := Nat.lt_of_lt_of_le (dv_lt n ((dga_all n).mp hdg)) (Nat.pow_le_pow_right (by omega) (by omega))
    have okd : okn (dv T p n) := Or.inl (by omega)
    have hck : (1 : Int64) + dvL T p n = lN (ckey (dv T p n)) := by
      unfold ckey
      rw [hdl, if_pos (by omega), show (1 : Int64) = lN 1 from rfl, lN_add, Nat.add_comm]
    rw [hck]
    have good : ∀ (x : Option (Int64 × Mi)), x = some (lN (ckey (dv T p n)), si m v 3 (nI (p + n))) → ((some (dv T p n, p + n) : Option (Nat × Nat)) = none → ∃ m', x = some (0, m') ∧ KI v r m m') ∧ (∀ w q, some (dv T p n, p + n) = some (w, q) → ∃ m', x = some (lN (ckey w), m') ∧ m' = si m v 3 (nI q) ∧ q ≤ e ∧ okn w ∧ p < q) := by
      intro x hx
      refine ⟨fun hy => (by cases hy), fun w q hy => ?_⟩
      have hy := Option.some.inj hy
      have e3 : w = dv T p n := (congrArg Prod.fst hy).symm
      have e4 : q = p + n := (congrArg Prod.snd hy).symm
      subst e3
      subst e4
      exact ⟨_, hx, rfl, hin, okd, by omega⟩
    cases cn
    · rw [if_neg (by simp)]
      refine good _ ?_
      rfl
    · rw [if_neg (show ¬ bI true = 0 by decide)]
      by_cases h1n : n ≤ 1
      · rw [if_neg (by omega), if_pos (show nI n ≤ 1 from nI_le (b := 1) h1n (by omega))]
        exact good _ rfl
      · have hlt0 := h.lt p (by omega)
        have hsg : sg T e p = nI (T p) := if_pos (by omega)
        rw [if_neg (show ¬ nI n ≤ 1 from nI_ge (a := 1) (by omega) (by omega)), hs, Option.bind_some, hsg]
        by_cases h48 : T p = 48
        · rw [if_pos ⟨rfl, by omega, h48⟩, if_pos (by rw [h48]; rfl)]
          exact ⟨fun _ => ⟨_, rfl, KI.s3 _⟩, fun w q hx => (by cases hx)⟩
        · rw [if_neg (by omega), if_neg (show ¬ nI (T p) = 48 from fun e => h48 ((nI_eq (b := 48) (by omega) (by omega)).mp e))]
          exact good _ rfl
  · rw [Bool.eq_false_iff.mpr hdg, if_pos (show bI false = 0 from rfl), if_neg (fun e => hdg (hdr.mp e))]
    refine ⟨fun hy => (by cases hy), fun w q hy => ?_⟩
    have hy := Option.some.inj hy
    have e3 : w = by8 T p n * 256 ^ (8 - n) := (congrArg Prod.fst hy).symm
    have e4 : q = p + n := (congrArg Prod.snd hy).symm
    have p7 : 256 ^ (n - 1) * 256 ^ (8 - n) = 256 ^ 7 := by rw [← Nat.pow_add, show n - 1 + (8 - n) = 7 by omega]
    have u1 : by8 T p n * 256 ^ (8 - n) < 123 * 256 ^ 7 := by
      rw [← p7, ← Nat.mul_assoc]
      exact Nat.mul_lt_mul_of_pos_right b8.1 (Nat.pow_pos (by omega))
    have u2 : T p * 256 ^ 7 ≤ by8 T p n * 256 ^ (8 - n) := by
      rw [← p7, ← Nat.mul_assoc]
      exact Nat.mul_le_mul_right _ b8.2
    have u3 := (idc_lt (hall 0 (by omega)).2).2
    rw [Nat.add_zero] at u3
    have u4 : 45 * 256 ^ 7 ≤ T p * 256 ^ 7 := Nat.mul_le_mul_right _ u3
    have hby := byL_by8 (T := T) (p := p) n (by omega) (fun j hj => (idc_lt (hall j hj).2).1)
    refine ⟨si m v 3 (nI (p + n)), ?_, by rw [e4], by omega, by rw [e3]; exact Or.inr (by omega), by omega⟩
    rw [hby, shl_end (by omega) (by omega) (by omega), e3]
    unfold ckey
    rw [if_neg (by omega)]
