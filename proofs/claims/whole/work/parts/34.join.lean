/-! setJoin: the merge of two lists of bounds. -/
def bI (b : Bool) : Int32 := if b then 1 else 0
def kp (how : Nat) (x y : Bool) : Bool := if how = 0 then x && y else if how = 1 then x || y else x && !y
def od (n : Nat) : Bool := decide (n % 2 = 1)
theorem od_succ (n : Nat) : od (n + 1) = !od n := by
  unfold od
  by_cases h : n % 2 = 1
  · simp [h]; omega
  · simp [h]; omega
theorem par_rw {n : Nat} (h : n < 2 ^ 31) {α : Type} (x y : α) : (if (nI n - nI n / 2 * 2) = 1 then x else y) = if od n = true then x else y := by
  rw [show (2 : Int32) = nI 2 from rfl, pk_rem h (by omega) (by omega), show (1 : Int32) = nI 1 from rfl]
  by_cases h2 : n % 2 = 1
  · rw [if_pos (by rw [h2]), if_pos (by simp [od, h2])]
  · rw [if_neg (fun e => h2 ((nI_eq (by omega) (by omega)).mp e)), if_neg (by simp [od, h2])]
theorem kept_spec {how : Nat} (h : how < 3) (x y : Bool) : f_X4_isKept (nI how) (bI x) (bI y) = some (bI (kp how x y)) := by
  have h3 : how = 0 ∨ how = 1 ∨ how = 2 := by omega
  rcases h3 with rfl | rfl | rfl <;> cases x <;> cases y <;> rfl
theorem bI_eq (x y : Bool) : (bI x = bI y) ↔ x = y := by
  cases x <;> cases y <;> decide
section SJ
variable {t : List Sh} {m : Mi} {a0 a2 a3 a8 : Nat} {al a9 : Int32} {how i j k s : Nat}
theorem sj162 (hh : how < 3) (w x y : Bool) : f_X4_setJoin_j162 t m a0 (nI how) a2 a3 (nI i) (nI j) al (nI s) a8 a9 (bI w) (bI y) (bI x) (nI how) = if kp how x y = w then some (.inl (nI i, nI j, nI (s + 1), m)) else (f_X4_addBound t m a0 a8 a9).bind (fun m' => some (.inl (nI i, nI j, nI (s + 1), m'))) := by
  unfold f_X4_setJoin_j162
  rw [kept_spec hh, Option.bind_some]
  simp only [lt_eq, nI_1]
  by_cases h : kp how x y = w
  · rw [if_pos ((bI_eq _ _).mpr h), if_pos h]
  · rw [if_neg (fun e => h ((bI_eq _ _).mp e)), if_neg h]
theorem sj133 (hh : how < 3) (hi : i < 2 ^ 30) (hj : j < 2 ^ 30) (w : Bool) : f_X4_setJoin_j133 t m a0 (nI how) a2 a3 (nI i) (nI j) al (nI s) a8 a9 (bI w) = if kp how (od i) (od j) = w then some (.inl (nI i, nI j, nI (s + 1), m)) else (f_X4_addBound t m a0 a8 a9).bind (fun m' => some (.inl (nI i, nI j, nI (s + 1), m'))) := by
  unfold f_X4_setJoin_j133 f_X4_setJoin_j149
  simp only [par_rw (show i < 2 ^ 31 by omega), par_rw (show j < 2 ^ 31 by omega)]
  have e1 : (1 : Int32) = bI true := rfl
  have e0 : (0 : Int32) = bI false := rfl
  cases hi2 : od i <;> cases hj2 : od j <;> simp only [e1, e0, if_true, if_false, Bool.false_eq_true] <;> exact sj162 hh _ _ _
theorem sj_body (hh : how < 3) (hi : i < 2 ^ 29) (hj : j < 2 ^ 29) (hk : k < 2 ^ 30) (hb : gi m a0 1 = nI k) (c : Int32) : f_X4_setJoin_j69 t m a0 (nI how) a2 a3 (nI i) (nI j) al (nI s) c a8 = if kp how (od (if 0 < c then i else i + 1)) (od (if c < 0 then j else j + 1)) = od k then some (.inl (nI (if 0 < c then i else i + 1), nI (if c < 0 then j else j + 1), nI (s + 1), m)) else (f_X4_addBound t m a0 a8 (nI (8 * (if 0 < c then j else i)))).bind (fun m' => some (.inl (nI (if 0 < c then i else i + 1), nI (if c < 0 then j else j + 1), nI (s + 1), m'))) := by
  have q : ∀ (i' j' z : Nat), i' < 2 ^ 30 → j' < 2 ^ 30 → (if (gi m a0 1 - gi m a0 1 / 2 * 2) = 1 then f_X4_setJoin_j133 t m a0 (nI how) a2 a3 (nI i') (nI j') al (nI s) a8 (nI z) 1 else f_X4_setJoin_j133 t m a0 (nI how) a2 a3 (nI i') (nI j') al (nI s) a8 (nI z) 0) = if kp how (od i') (od j') = od k then some (.inl (nI i', nI j', nI (s + 1), m)) else (f_X4_addBound t m a0 a8 (nI z)).bind (fun m' => some (.inl (nI i', nI j', nI (s + 1), m'))) := by
    intro i' j' z h1 h2
    rw [hb, par_rw (by omega)]
    have e1 : (1 : Int32) = bI true := rfl
    have e0 : (0 : Int32) = bI false := rfl
    cases hk2 : od k
    · simp only [e0, if_false, Bool.false_eq_true]
      exact sj133 hh h1 h2 _
    · simp only [e1, if_true]
      exact sj133 hh h1 h2 _
  unfold f_X4_setJoin_j69 f_X4_setJoin_j83 f_X4_setJoin_j100 f_X4_setJoin_j115
  simp only [lt_eq]
  have e8 : (8 : Int32) = nI 8 := rfl
  have e1 : ∀ z : Nat, nI z + 1 = nI (z + 1) := nI_1
  have e0 : ∀ z : Nat, nI z + 0 = nI z := fun z => by rw [show (0 : Int32) = nI 0 from rfl, nI_add, Nat.add_zero]
  by_cases h1 : 0 < c
  · have h2 : ¬ c < 0 := fun h => Int32.lt_irrefl (Int32.lt_trans h1 h)
    simp only [if_pos h1, if_neg h2, e8, pk_mul, e1, e0]
    rw [Nat.mul_comm j 8]
    exact q i (j + 1) (8 * j) (by omega) (by omega)
  · by_cases h2 : c < 0
    · simp only [if_neg h1, if_pos h2, e8, pk_mul, e1, e0]
      rw [Nat.mul_comm i 8]
      exact q (i + 1) j (8 * i) (by omega) (by omega)
    · simp only [if_neg h1, if_neg h2, e8, pk_mul, e1, e0]
      rw [Nat.mul_comm i 8]
      exact q (i + 1) (j + 1) (8 * i) (by omega) (by omega)
end SJ
/-- the merge: bounds of the result are where what both say together changes -/
def jn (how : Nat) : Nat → List Row → List Row → Bool → Bool → Bool → List Row
  | 0, _, _, _, _, _ => []
  | _ + 1, [], [], _, _, _ => []
  | n + 1, a :: A, [], p, q, w => if kp how (!p) q = w then jn how n A [] (!p) q w else a :: jn how n A [] (!p) q (!w)
  | n + 1, [], b :: B, p, q, w => if kp how p (!q) = w then jn how n [] B p (!q) w else b :: jn how n [] B p (!q) (!w)
  | n + 1, a :: A, b :: B, p, q, w => if 0 < cmpL a b then (if kp how p (!q) = w then jn how n (a :: A) B p (!q) w else b :: jn how n (a :: A) B p (!q) (!w)) else if cmpL a b < 0 then (if kp how (!p) q = w then jn how n A (b :: B) (!p) q w else a :: jn how n A (b :: B) (!p) q (!w)) else (if kp how (!p) (!q) = w then jn how n A B (!p) (!q) w else a :: jn how n A B (!p) (!q) (!w))
theorem jn_len (how : Nat) : ∀ (n : Nat) (A B : List Row) (p q w : Bool), (jn how n A B p q w).length ≤ A.length + B.length := by
  intro n
  induction n with
  | zero => intro A B p q w; simp [jn]
  | succ n ih =>
    intro A B p q w
    cases A with
    | nil =>
      cases B with
      | nil => simp [jn]
      | cons b B =>
        unfold jn
        split
        · have := ih [] B p (!q) w; simp at this ⊢; omega
        · have := ih [] B p (!q) (!w); simp at this ⊢; omega
    | cons a A =>
      cases B with
      | nil =>
        unfold jn
        split
        · have := ih A [] (!p) q w; simp at this ⊢; omega
        · have := ih A [] (!p) q (!w); simp at this ⊢; omega
      | cons b B =>
        unfold jn
        split
        · split
          · have := ih (a :: A) B p (!q) w; simp at this ⊢; omega
          · have := ih (a :: A) B p (!q) (!w); simp at this ⊢; omega
        · split
          · split
            · have := ih A (b :: B) (!p) q w; simp at this ⊢; omega
            · have := ih A (b :: B) (!p) q (!w); simp at this ⊢; omega
          · split
            · have := ih A B (!p) (!q) w; simp at this ⊢; omega
            · have := ih A B (!p) (!q) (!w); simp at this ⊢; omega
