/-! Level two: facts about the pure functions. Memory, loops, numbers. -/
def blkL (m : Mi) (a lo hi : Nat) (g : Nat → Int64) : Mi := (m.1, (fun x j => if x = a ∧ lo ≤ j ∧ j < hi then g j else m.2.1 x j, m.2.2))
def blkI (m : Mi) (a lo hi : Nat) (g : Nat → Int32) : Mi := (fun x j => if x = a ∧ lo ≤ j ∧ j < hi then g j else m.1 x j, m.2)
theorem mS : (∀ (m : Mi) (a k b j : Nat) (v : Int32), gi (si m a k v) b j = if b = a ∧ j = k then v else gi m b j) ∧
    (∀ (m : Mi) (a k b j : Nat) (v : Int32), gl (si m a k v) b j = gl m b j) ∧ (∀ (m : Mi) (a k b j : Nat) (v : Int32), gr (si m a k v) b j = gr m b j) ∧
    (∀ (m : Mi) (a k b j : Nat) (v : Int64), gi (sl m a k v) b j = gi m b j) ∧ (∀ (m : Mi) (a k b j : Nat) (v : Int64), gl (sl m a k v) b j = if b = a ∧ j = k then v else gl m b j) ∧ (∀ (m : Mi) (a k b j : Nat) (v : Int64), gr (sl m a k v) b j = gr m b j) ∧
    (∀ (m : Mi) (a k b j v : Nat), gi (sr m a k v) b j = gi m b j) ∧ (∀ (m : Mi) (a k b j v : Nat), gl (sr m a k v) b j = gl m b j) ∧ (∀ (m : Mi) (a k b j v : Nat), gr (sr m a k v) b j = if b = a ∧ j = k then v else gr m b j) ∧
    (∀ (m : Mi) (a lo hi b j : Nat) (g : Nat → Int64), gi (blkL m a lo hi g) b j = gi m b j) ∧ (∀ (m : Mi) (a lo hi b j : Nat) (g : Nat → Int64), gl (blkL m a lo hi g) b j = if b = a ∧ lo ≤ j ∧ j < hi then g j else gl m b j) ∧ (∀ (m : Mi) (a lo hi b j : Nat) (g : Nat → Int64), gr (blkL m a lo hi g) b j = gr m b j) ∧
    (∀ (m : Mi) (a lo hi b j : Nat) (g : Nat → Int32), gi (blkI m a lo hi g) b j = if b = a ∧ lo ≤ j ∧ j < hi then g j else gi m b j) ∧ (∀ (m : Mi) (a lo hi b j : Nat) (g : Nat → Int32), gl (blkI m a lo hi g) b j = gl m b j) ∧ (∀ (m : Mi) (a lo hi b j : Nat) (g : Nat → Int32), gr (blkI m a lo hi g) b j = gr m b j) :=
  ⟨fun _ _ _ _ _ _ => rfl, fun _ _ _ _ _ _ => rfl, fun _ _ _ _ _ _ => rfl, fun _ _ _ _ _ _ => rfl, fun _ _ _ _ _ _ => rfl, fun _ _ _ _ _ _ => rfl, fun _ _ _ _ _ _ => rfl, fun _ _ _ _ _ _ => rfl, fun _ _ _ _ _ _ => rfl, fun _ _ _ _ _ _ _ => rfl, fun _ _ _ _ _ _ _ => rfl, fun _ _ _ _ _ _ _ => rfl, fun _ _ _ _ _ _ _ => rfl, fun _ _ _ _ _ _ _ => rfl, fun _ _ _ _ _ _ _ => rfl⟩
theorem Mi.ext' {m m' : Mi} (h1 : ∀ a k, gi m a k = gi m' a k) (h2 : ∀ a k, gl m a k = gl m' a k) (h3 : ∀ a k, gr m a k = gr m' a k) : m = m' := by
  obtain ⟨x, y, z⟩ := m
  obtain ⟨x', y', z'⟩ := m'
  have e1 : x = x' := funext fun a => funext fun k => h1 a k
  have e2 : y = y' := funext fun a => funext fun k => h2 a k
  have e3 : z = z' := funext fun a => funext fun k => h3 a k
  rw [e1, e2, e3]
theorem blkL_nil (m : Mi) (a lo : Nat) (g : Nat → Int64) : blkL m a lo lo g = m := by
  refine Mi.ext' (fun _ _ => rfl) (fun x j => ?_) (fun _ _ => rfl)
  show (if x = a ∧ lo ≤ j ∧ j < lo then g j else gl m x j) = gl m x j
  rw [if_neg (by omega)]
theorem blkI_nil (m : Mi) (a lo : Nat) (g : Nat → Int32) : blkI m a lo lo g = m := by
  refine Mi.ext' (fun x j => ?_) (fun _ _ => rfl) (fun _ _ => rfl)
  show (if x = a ∧ lo ≤ j ∧ j < lo then g j else gi m x j) = gi m x j
  rw [if_neg (by omega)]
theorem blkL_snoc (m : Mi) (a lo k : Nat) (g : Nat → Int64) (h : lo ≤ k) : sl (blkL m a lo k g) a k (g k) = blkL m a lo (k + 1) g := by
  refine Mi.ext' (fun _ _ => rfl) (fun x j => ?_) (fun _ _ => rfl)
  simp only [mS]
  by_cases h1 : x = a ∧ j = k
  · rw [if_pos h1, if_pos (by omega), h1.2]
  · rw [if_neg h1]
    by_cases h2 : x = a ∧ lo ≤ j ∧ j < k
    · rw [if_pos h2, if_pos (by omega)]
    · rw [if_neg h2, if_neg (by omega)]
theorem blkI_snoc (m : Mi) (a lo k : Nat) (g : Nat → Int32) (h : lo ≤ k) : si (blkI m a lo k g) a k (g k) = blkI m a lo (k + 1) g := by
  refine Mi.ext' (fun x j => ?_) (fun _ _ => rfl) (fun _ _ => rfl)
  simp only [mS]
  by_cases h1 : x = a ∧ j = k
  · rw [if_pos h1, if_pos (by omega), h1.2]
  · rw [if_neg h1]
    by_cases h2 : x = a ∧ lo ≤ j ∧ j < k
    · rw [if_pos h2, if_pos (by omega)]
    · rw [if_neg h2, if_neg (by omega)]
theorem cpl_blk (m : Mi) (a0 a1 sp dp n : Nat) : cpl m a0 a1 sp dp n = blkL m a1 dp (dp + n) (fun j => gl m a0 (sp + (j - dp))) := by
  refine Mi.ext' (fun _ _ => rfl) (fun x j => ?_) (fun _ _ => rfl)
  simp only [mS]
  show (if x = a1 then va_cpy (m.2.1 a0) (m.2.1 a1) sp dp n j else m.2.1 x j) = _
  unfold va_cpy
  by_cases h : x = a1
  · subst h
    rw [if_pos rfl]
    by_cases h2 : dp ≤ j ∧ j < dp + n
    · rw [if_pos h2, if_pos ⟨rfl, h2⟩]; rfl
    · rw [if_neg h2, if_neg (fun h => h2 h.2)]; rfl
  · rw [if_neg h, if_neg (fun h2 => h h2.1)]; rfl
theorem cpi_blk (m : Mi) (a0 a1 sp dp n : Nat) : cpi m a0 a1 sp dp n = blkI m a1 dp (dp + n) (fun j => gi m a0 (sp + (j - dp))) := by
  refine Mi.ext' (fun x j => ?_) (fun _ _ => rfl) (fun _ _ => rfl)
  simp only [mS]
  show (if x = a1 then va_cpy (m.1 a0) (m.1 a1) sp dp n j else m.1 x j) = _
  unfold va_cpy
  by_cases h : x = a1
  · subst h
    rw [if_pos rfl]
    by_cases h2 : dp ≤ j ∧ j < dp + n
    · rw [if_pos h2, if_pos ⟨rfl, h2⟩]; rfl
    · rw [if_neg h2, if_neg (fun h => h2 h.2)]; rfl
  · rw [if_neg h, if_neg (fun h2 => h h2.1)]; rfl
/-! loops -/
theorem lp_step {σ ρ : Type} {body : σ → Option (σ ⊕ ρ)} {n : Nat} {x x' : σ} (h : body x = some (.inl x')) : lp body (n + 1) x = lp body n x' := by
  show (body x).bind _ = _
  rw [h]
  rfl
theorem lp_exit {σ ρ : Type} {body : σ → Option (σ ⊕ ρ)} {n : Nat} {x : σ} {y : ρ} (h : body x = some (.inr y)) : lp body (n + 1) x = some y := by
  show (body x).bind _ = _
  rw [h]
  rfl
theorem lp_cnt {σ ρ : Type} {body : σ → Option (σ ⊕ ρ)} (s : Nat → σ) {y : ρ} (d : Nat) : ∀ (a N : Nat), (∀ k, a ≤ k → k < a + d → body (s k) = some (.inl (s (k + 1)))) → body (s (a + d)) = some (.inr y) → d < N → lp body N (s a) = some y := by
  induction d with
  | zero =>
    intro a N _ he hN
    obtain ⟨N, rfl⟩ : ∃ k, N = k + 1 := ⟨N - 1, by omega⟩
    exact lp_exit he
  | succ d ih =>
    intro a N hs he hN
    obtain ⟨N, rfl⟩ : ∃ k, N = k + 1 := ⟨N - 1, by omega⟩
    rw [lp_step (hs a (Nat.le_refl _) (by omega))]
    exact ih (a + 1) N (fun k h1 h2 => hs k (by omega) (by omega)) (by rw [show a + 1 + d = a + (d + 1) by omega]; exact he) (by omega)
/-- a counted loop: from s a by steps to s n, where it ends -/
theorem lp_count {σ ρ : Type} {body : σ → Option (σ ⊕ ρ)} (s : Nat → σ) {y : ρ} {a n : Nat} (han : a ≤ n) (hn : n < 2 ^ 63) (hs : ∀ k, a ≤ k → k < n → body (s k) = some (.inl (s (k + 1)))) (he : body (s n) = some (.inr y)) : lp body FUEL (s a) = some y := by
  refine lp_cnt s (n - a) a FUEL (fun k h1 h2 => hs k h1 (by omega)) (by rw [show a + (n - a) = n by omega]; exact he) ?_
  unfold FUEL
  omega
/-- a loop by an invariant and a measure -/
theorem lp_inv {σ ρ : Type} {body : σ → Option (σ ⊕ ρ)} (P : σ → Prop) (Q : ρ → Prop) (w : σ → Nat) (h : ∀ x, P x → (∃ y, body x = some (.inr y) ∧ Q y) ∨ ∃ x', body x = some (.inl x') ∧ P x' ∧ w x' < w x) : ∀ (N : Nat) (x : σ), P x → w x < N → ∃ y, lp body N x = some y ∧ Q y := by
  intro N
  induction N with
  | zero => intro x _ hw; omega
  | succ N ih =>
    intro x hx hw
    rcases h x hx with ⟨y, h1, h2⟩ | ⟨x', h1, h2, h3⟩
    · exact ⟨y, lp_exit h1, h2⟩
    · rw [lp_step h1]
      exact ih x' h2 (by omega)
theorem bd_some {A B C : Type} (x : A) (y : B) (f : A → B → Option C) : bd (some (x, y)) f = f x y := rfl
theorem lt_eq {A B : Type} (x : A) (f : A → B) : lt x f = f x := rfl
/-! numbers -/
theorem ix_nI {n : Nat} (h : n < 2 ^ 31) : ix (nI n) = n := nI_clamp h
theorem ofNat_nI (n : Nat) : Int32.ofNat n = nI n := rfl
theorem nIlit : (0 : Int32) = nI 0 ∧ (1 : Int32) = nI 1 ∧ (2 : Int32) = nI 2 ∧ (3 : Int32) = nI 3 ∧ (4 : Int32) = nI 4 ∧ (5 : Int32) = nI 5 ∧ (6 : Int32) = nI 6 ∧ (7 : Int32) = nI 7 ∧ (8 : Int32) = nI 8 ∧ (9 : Int32) = nI 9 ∧ (10 : Int32) = nI 10 ∧ (16 : Int32) = nI 16 := by decide
theorem ar_of {t : List Sh} {a n k : Nat} {ty : FieldType} (hs : sh t a = some (.inr (ty, n))) (hk : k < n) (hn : n < 2 ^ 31) : ar t a ty (nI k) = true := by
  unfold ar
  rw [hs]
  simp only [Bool.and_eq_true, decide_eq_true_eq, Bool.not_eq_true', decide_eq_false_iff_not]
  exact ⟨trivial, nI_pos (by omega), by rw [nI_clamp (by omega)]; exact hk⟩
theorem aa_of {t : List Sh} {a n : Nat} {ty : FieldType} (hs : sh t a = some (.inr (ty, n))) : aa t a ty = true := by
  unfold aa
  rw [hs]
  simp
theorem ln_of {t : List Sh} {a n : Nat} {ty : FieldType} (hs : sh t a = some (.inr (ty, n))) : ln t a = n := by
  unfold ln
  rw [hs]
theorem ob_of {t : List Sh} {a c : Nat} (hs : sh t a = some (.inl c)) : ob t a c = true := by
  unfold ob
  rw [hs]
  simp
theorem inS_of {t : List Sh} {a n p k : Nat} {ty : FieldType} (hs : sh t a = some (.inr (ty, n))) (h : p + k ≤ n) (hn : n < 2 ^ 31) : inS t a ty (nI p) (nI k) = true := by
  simp only [inS, aa_of hs, ln_of hs, Bool.and_eq_true, decide_eq_true_eq, Bool.not_eq_true', decide_eq_false_iff_not]
  exact ⟨trivial, nI_pos (by omega), nI_pos (by omega), by rw [nI_clamp (by omega), nI_clamp (by omega)]; exact h⟩
/-! Arrays.fill -/
theorem fill_l {t : List Sh} {m : Mi} {a n : Nat} {v : Int64} (hs : sh t a = some (.inr (.long, n))) (hn : n < 2 ^ 31) : f_J7_fill_d0a16 t m a v = some (blkL m a 0 n (fun _ => v)) := by
  unfold f_J7_fill_d0a16 f_J7_fill_d0a16_j6
  rw [aa_of hs, ln_of hs, if_pos rfl, lt_eq]
  rw [show lp (fun x : Int32 × Mi => f_J7_fill_d0a16_l6 t x.2 a v x.1 (Int32.ofNat n)) FUEL (0, m) = some (blkL m a 0 n (fun _ => v)) from ?_]
  · rfl
  · have h := lp_count (body := fun x : Int32 × Mi => f_J7_fill_d0a16_l6 t x.2 a v x.1 (Int32.ofNat n)) (fun k => (nI k, blkL m a 0 k (fun _ => v))) (a := 0) (n := n) (y := blkL m a 0 n (fun _ => v)) (Nat.zero_le _) (by omega) (fun k _ hk => ?_) ?_
    · rw [blkL_nil] at h
      exact h
    · show f_J7_fill_d0a16_l6 t (blkL m a 0 k fun _ => v) a v (nI k) (nI n) = _
      unfold f_J7_fill_d0a16_l6
      rw [if_neg (nI_ge hk hn), if_pos (ar_of hs hk hn), lt_eq, lt_eq, ix_nI (by omega), nI_1]
      rw [blkL_snoc m a 0 k (fun _ => v) (Nat.zero_le _)]
    · show f_J7_fill_d0a16_l6 t (blkL m a 0 n fun _ => v) a v (nI n) (nI n) = _
      unfold f_J7_fill_d0a16_l6
      rw [if_pos (nI_le (Nat.le_refl _) hn)]
theorem fill_i {t : List Sh} {m : Mi} {a n : Nat} {v : Int32} (hs : sh t a = some (.inr (.int, n))) (hn : n < 2 ^ 31) : f_J7_fill_53178 t m a v = some (blkI m a 0 n (fun _ => v)) := by
  unfold f_J7_fill_53178 f_J7_fill_53178_j5
  rw [aa_of hs, ln_of hs, if_pos rfl, lt_eq]
  rw [show lp (fun x : Int32 × Mi => f_J7_fill_53178_l5 t x.2 a v x.1 (Int32.ofNat n)) FUEL (0, m) = some (blkI m a 0 n (fun _ => v)) from ?_]
  · rfl
  · have h := lp_count (body := fun x : Int32 × Mi => f_J7_fill_53178_l5 t x.2 a v x.1 (Int32.ofNat n)) (fun k => (nI k, blkI m a 0 k (fun _ => v))) (a := 0) (n := n) (y := blkI m a 0 n (fun _ => v)) (Nat.zero_le _) (by omega) (fun k _ hk => ?_) ?_
    · rw [blkI_nil] at h
      exact h
    · show f_J7_fill_53178_l5 t (blkI m a 0 k fun _ => v) a v (nI k) (nI n) = _
      unfold f_J7_fill_53178_l5
      rw [if_neg (nI_ge hk hn), if_pos (ar_of hs hk hn), lt_eq, lt_eq, ix_nI (by omega), nI_1]
      rw [blkI_snoc m a 0 k (fun _ => v) (Nat.zero_le _)]
    · show f_J7_fill_53178_l5 t (blkI m a 0 n fun _ => v) a v (nI n) (nI n) = _
      unfold f_J7_fill_53178_l5
      rw [if_pos (nI_le (Nat.le_refl _) hn)]
