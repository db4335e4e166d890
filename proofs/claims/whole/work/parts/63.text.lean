/-! Texts, and what a version in a text is. -/
/-- the byte c as it lies in memory -/
def bT (c : Nat) : Int32 := (Int8.ofNat c).toInt32
theorem bT_and : ∀ c, c < 256 → bT c &&& 255 = nI c := by decide +kernel
theorem bT_low : ∀ c, c < 128 → bT c = nI c := by decide +kernel
theorem bT_neg : ∀ c, c < 256 → 128 ≤ c → bT c < 0 := by decide +kernel
theorem bT_eq {c d : Nat} (hc : c < 256) (hd : d < 128) : bT c = nI d ↔ c = d := by
  constructor
  · intro h
    rcases Nat.lt_or_ge c 128 with h1 | h1
    · rw [bT_low c h1] at h
      exact (nI_eq (by omega) (by omega)).mp h
    · have := bT_neg c hc h1
      rw [h] at this
      exact absurd this (nI_pos (by omega))
  · intro h
    rw [h, bT_low d hd]
/-- cell c has the bytes T below n -/
def Tx (m : Mi) (c n : Nat) (T : Nat → Nat) : Prop := ∀ j, j < n → gi m c j = bT (T j) ∧ T j < 256
def dg (c : Nat) : Bool := decide (48 ≤ c) && decide (c ≤ 57)
def idc (c : Nat) : Bool := (decide (97 ≤ c) && decide (c ≤ 122)) || ((decide (65 ≤ c) && decide (c ≤ 90)) || (dg c || decide (c = 45)))
/-- how many signs with f there are from p on, below e, at most d -/
def run (f : Nat → Bool) (T : Nat → Nat) (e : Nat) : Nat → Nat → Nat
  | 0, _ => 0
  | d + 1, p => if p < e ∧ f (T p) = true then run f T e d (p + 1) + 1 else 0
def sg (T : Nat → Nat) (e i : Nat) : Int32 := if i < e then nI (T i) else -1
def atE (f : Nat → Bool) (T : Nat → Nat) (e i : Nat) : Bool := decide (i < e) && f (T i)
theorem run_le (f : Nat → Bool) (T : Nat → Nat) (e : Nat) : ∀ d p, run f T e d p ≤ d := by
  intro d
  induction d with
  | zero => intro p; exact Nat.le_refl _
  | succ d ih =>
    intro p
    rw [run]
    split
    · have := ih (p + 1); omega
    · omega
theorem run_in {f : Nat → Bool} {T : Nat → Nat} {e : Nat} : ∀ d p, p ≤ e → p + run f T e d p ≤ e := by
  intro d
  induction d with
  | zero => intro p h; exact h
  | succ d ih =>
    intro p h
    rw [run]
    split
    · next h1 => have := ih (p + 1) (by omega); omega
    · exact h
theorem run_all {f : Nat → Bool} {T : Nat → Nat} {e : Nat} : ∀ d p j, j < run f T e d p → p + j < e ∧ f (T (p + j)) = true := by
  intro d
  induction d with
  | zero => intro p j h; cases h
  | succ d ih =>
    intro p j h
    rw [run] at h
    split at h
    · next h1 =>
      cases j with
      | zero => exact h1
      | succ j =>
        have := ih (p + 1) j (by omega)
        rw [show p + (j + 1) = p + 1 + j by omega]
        exact this
    · cases h
theorem run_end {f : Nat → Bool} {T : Nat → Nat} {e : Nat} : ∀ d p, run f T e d p < d → ¬ (p + run f T e d p < e ∧ f (T (p + run f T e d p)) = true) := by
  intro d
  induction d with
  | zero => intro p h; cases h
  | succ d ih =>
    intro p h
    rw [run] at h ⊢
    by_cases h1 : p < e ∧ f (T p) = true
    · rw [if_pos h1] at h ⊢
      have := ih (p + 1) (by omega)
      rw [show p + (run f T e d (p + 1) + 1) = p + 1 + run f T e d (p + 1) by omega]
      exact this
    · rw [if_neg h1]
      exact h1
/-- it is told by what it says -/
theorem run_uniq {f : Nat → Bool} {T : Nat → Nat} {e : Nat} {p : Nat} {d n : Nat} (h1 : n ≤ d) (h2 : ∀ j, j < n → p + j < e ∧ f (T (p + j)) = true) (h3 : n < d → ¬ (p + n < e ∧ f (T (p + n)) = true)) : run f T e d p = n := by
  have a1 := run_le f T e d p
  rcases Nat.lt_trichotomy (run f T e d p) n with h | h | h
  · exact absurd (h2 _ h) (run_end d p (by omega))
  · exact h
  · exact absurd (run_all d p n h) (h3 (by omega))
theorem run_min {f : Nat → Bool} {T : Nat → Nat} {e p d D : Nat} (h : d ≤ D) : run f T e d p = min d (run f T e D p) := by
  refine run_uniq (Nat.min_le_left _ _) (fun j hj => run_all D p j (by omega)) (fun hn => ?_)
  have h2 : min d (run f T e D p) = run f T e D p := by omega
  rw [h2] at hn ⊢
  exact run_end D p (by omega)
theorem cmC : (∀ c, c < 256 → f_X10_isDigit (nI c) = some (bI (dg c))) ∧ (∀ c, c < 256 → f_X10_isIdentifierSign (nI c) = some (bI (idc c))) ∧ f_X10_isDigit (-1) = some (bI false) ∧ f_X10_isIdentifierSign (-1) = some (bI false) ∧ (∀ c, c < 256 → f_X12_isDigit (nI c) = some (bI (dg c))) := by decide +kernel
theorem isDigit_sg {T : Nat → Nat} {e i : Nat} (h : i < e → T i < 256) : f_X10_isDigit (sg T e i) = some (bI (atE dg T e i)) := by
  unfold sg atE
  by_cases hi : i < e
  · rw [if_pos hi, decide_eq_true hi, Bool.true_and, cmC.1 _ (h hi)]
  · rw [if_neg hi, decide_eq_false hi, Bool.false_and, cmC.2.2.1]
theorem isId_sg {T : Nat → Nat} {e i : Nat} (h : i < e → T i < 256) : f_X10_isIdentifierSign (sg T e i) = some (bI (atE idc T e i)) := by
  unfold sg atE
  by_cases hi : i < e
  · rw [if_pos hi, decide_eq_true hi, Bool.true_and, cmC.2.1 _ (h hi)]
  · rw [if_neg hi, decide_eq_false hi, Bool.false_and, cmC.2.2.2.1]
theorem sg_eq {T : Nat → Nat} {e i c : Nat} (h : i < e → T i < 256) (hc : c < 256) : sg T e i = nI c ↔ atE (fun x => decide (x = c)) T e i = true := by
  unfold sg atE
  by_cases hi : i < e
  · have := h hi
    rw [if_pos hi, decide_eq_true hi, Bool.true_and, nI_eq (by omega) (by omega)]
    exact ⟨fun e => decide_eq_true e, fun e => of_decide_eq_true e⟩
  · rw [if_neg hi, decide_eq_false hi, Bool.false_and]
    exact ⟨fun e => absurd e.symm (nneg (by omega)), fun e => by cases e⟩
/-- the value of n digits -/
def dv (T : Nat → Nat) (p : Nat) : Nat → Nat
  | 0 => 0
  | n + 1 => 10 * dv T p n + (T (p + n) - 48)
/-- n signs as a number of base 256 -/
def by8 (T : Nat → Nat) (p : Nat) : Nat → Nat
  | 0 => 0
  | n + 1 => by8 T p n * 256 + T (p + n)
def nmb (T : Nat → Nat) (e p : Nat) : Option (Nat × Nat) :=
  if run dg T e 10 p = 0 ∨ 9 < run dg T e 10 p ∨ (1 < run dg T e 10 p ∧ T p = 48) then none else some (dv T p (run dg T e 10 p), p + run dg T e 10 p)
def idn (T : Nat → Nat) (e : Nat) (c : Bool) (p : Nat) : Option (Nat × Nat) :=
  if run idc T e 9 p = 0 ∨ 8 < run idc T e 9 p then none else
  if run dg T e (run idc T e 9 p) p = run idc T e 9 p then (if c = true ∧ 1 < run idc T e 9 p ∧ T p = 48 then none else some (dv T p (run idc T e 9 p), p + run idc T e 9 p))
  else some (by8 T p (run idc T e 9 p) * 256 ^ (8 - run idc T e 9 p), p + run idc T e 9 p)
def ids (T : Nat → Nat) (e : Nat) (c : Bool) : Nat → Nat → Option (List Nat × Nat)
  | 0, _ => none
  | d + 1, p => (idn T e c p).bind fun w => if atE (fun x => decide (x = 46)) T e w.2 = true then (ids T e c d (w.2 + 1)).map (fun r => (w.1 :: r.1, r.2)) else some ([w.1], w.2)
def ntl (T : Nat → Nat) (e : Nat) : Nat → Nat → Option (List Nat × Nat)
  | 0, q => some ([], q)
  | d + 1, q => if (atE (fun x => decide (x = 46)) T e q && atE dg T e (q + 1)) = true then (nmb T e (q + 1)).bind fun w => (ntl T e d w.2).map (fun r => (w.1 :: r.1, r.2)) else some ([], q)
def nums (T : Nat → Nat) (e p : Nat) : Option (List Nat × Nat) := (nmb T e p).bind fun w => (ntl T e 2 w.2).map (fun r => (w.1 :: r.1, r.2))
def isx (T : Nat → Nat) (e p : Nat) : Bool := atE (fun x => decide (x = 46)) T e p && atE (fun x => decide (x = 120)) T e (p + 1)
/-- whether a row of '.x' fills what is left of the numbers, to the end -/
def fil (T : Nat → Nat) (e : Nat) : Nat → Nat → Bool
  | 0, p => decide (p = e)
  | d + 1, p => if isx T e p = true then fil T e d (p + 2) else decide (p = e)
/-- a version: 2 and its numbers and identifiers; one that is short: 1 and its numbers -/
def rdv (T : Nat → Nat) (a e : Nat) : Option (Nat × (List Nat × List Nat)) :=
  (nums T e a).bind fun w =>
  if w.1.length = 3 then
    (if atE (fun x => decide (x = 45)) T e w.2 = true then ids T e true 4 (w.2 + 1) else some ([], w.2)).bind fun i =>
    (if atE (fun x => decide (x = 43)) T e i.2 = true then (ids T e false 4 (i.2 + 1)).map (fun z => z.2) else some i.2).bind fun q =>
    if q = e then some (2, (w.1, i.1)) else none
  else if fil T e (3 - w.1.length) w.2 = true then some (1, (w.1, [])) else none
