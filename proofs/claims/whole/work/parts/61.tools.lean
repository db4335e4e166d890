/-! Rows for simp: numbers, binds. -/
theorem nlit (n : Nat) : (OfNat.ofNat n : Int32) = nI (OfNat.ofNat n) := rfl
theorem nltI {a b : Nat} (ha : a < 2 ^ 31) (hb : b < 2 ^ 31) : nI a < nI b ↔ a < b := by
  constructor
  · intro h
    rcases Nat.lt_or_ge a b with h1 | h1
    · exact h1
    · exact absurd h (nI_nlt h1 ha)
  · intro h
    exact nI_lt h hb
theorem nneg {n : Nat} (h : n < 2 ^ 31) : nI n ≠ -1 := fun e => by
  have h1 := nI_toInt h
  rw [e] at h1
  have : ((-1 : Int32)).toInt = -1 := by decide
  omega
theorem nS : (∀ a b : Nat, a < 2 ^ 31 → b < 2 ^ 31 → (nI a ≤ nI b ↔ a ≤ b)) ∧ (∀ a b : Nat, a < 2 ^ 31 → b < 2 ^ 31 → (nI a < nI b ↔ a < b)) ∧ (∀ a b : Nat, a < 2 ^ 31 → b < 2 ^ 31 → (nI a = nI b ↔ a = b)) ∧
    (∀ a b : Nat, nI a + nI b = nI (a + b)) ∧ (∀ a b : Nat, nI a * nI b = nI (a * b)) ∧ (∀ a : Nat, a < 2 ^ 31 → ix (nI a) = a) ∧ (∀ a b : Nat, b ≤ a → nI a - nI b = nI (a - b)) ∧ (∀ n : Nat, Int32.ofNat n = nI n) ∧ (∀ a : Nat, a < 2 ^ 31 → (nI a = -nI 1 ↔ False)) :=
  ⟨fun _ _ => nI_leI, fun _ _ => nltI, fun _ _ => nI_eq, nI_add, pk_mul, fun _ => ix_nI, fun _ _ => pk_sub, fun _ => rfl, fun _ h => ⟨fun e => nneg h e, False.elim⟩⟩
theorem bS : (∀ (A B : Type) (x : A) (f : A → Option B), (some x).bind f = f x) ∧ (∀ (A B C : Type) (x : A) (y : B) (f : A → B → Option C), bd (some (x, y)) f = f x y) ∧ (∀ (A B : Type) (x : A) (f : A → B), lt x f = f x) := ⟨fun _ _ _ _ => rfl, fun _ _ _ _ _ _ => rfl, fun _ _ _ _ => rfl⟩
theorem aS : (∀ (t : List Sh) (a n k : Nat) (ty : FieldType), sh t a = some (.inr (ty, n)) → k < n → n < 2 ^ 31 → ar t a ty (nI k) = true) := fun _ _ _ _ _ h h1 h2 => ar_of h h1 h2
