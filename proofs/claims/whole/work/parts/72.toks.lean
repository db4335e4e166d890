/-! Tokens of a text: (kind, (begin, end)). -/
def blk (c : Nat) : Bool := decide (c = 32) || decide (c = 10)
def sml (c : Nat) : Bool := decide (97 ≤ c) && decide (c ≤ 122)
def nms (c : Nat) : Bool := sml c || (dg c || decide (c = 95))
def prs (c : Nat) : Bool := idc c || (decide (c = 46) || decide (c = 43))
def opn (T : Nat → Nat) (n p : Nat) : Nat := if T p = 60 ∨ T p = 62 then (if p + 1 < n ∧ T (p + 1) = 61 then 2 else 1) else if T p = 61 ∨ T p = 94 ∨ T p = 126 then 1 else 0
/-- the signs of a word stand at p -/
def wrd (W : List Nat) (T : Nat → Nat) (p l : Nat) : Bool := decide (W = (List.range l).map (fun j => T (p + j)))
def W0 : List Nat := [112, 97, 99, 107, 97, 103, 101]
def W1 : List Nat := [119, 97, 110, 116]
def W2 : List Nat := [110, 101, 101, 100, 115]
def W3 : List Nat := [99, 108, 97, 115, 104]
def knd (T : Nat → Nat) (p l : Nat) : Nat := if wrd W0 T p l = true then 3 else if wrd W1 T p l = true then 4 else if wrd W2 T p l = true then 5 else if wrd W3 T p l = true then 6 else 2
def tkP (T : Nat → Nat) (n p s e : Nat) : Nat × Nat := if rdc T s e = 0 then (1, n) else if rdc T s e = 2 ∧ s = p then (8, e) else (7, e)
/-- the token at p, where no blank stands: its kind and its end -/
def tk (T : Nat → Nat) (n p : Nat) : Nat × Nat :=
  if sml (T p) = true then (if run nms T n (n - p) p ≤ 12 then (knd T p (run nms T n (n - p) p), p + run nms T n (n - p) p) else (1, n))
  else if T p = 124 then (if p + 1 < n ∧ T (p + 1) = 124 then (9, p + 2) else (1, n))
  else if T p = 59 then (12, p + 1) else if T p = 123 then (10, p + 1) else if T p = 125 then (11, p + 1)
  else if T p = 42 then (7, p + 1)
  else tkP T n p (p + opn T n p) (p + opn T n p + run prs T n (n - (p + opn T n p)) (p + opn T n p))
abbrev Tok : Type := Nat × (Nat × Nat)
def toks (T : Nat → Nat) (n : Nat) : Nat → Nat → List Tok
  | 0, _ => []
  | d + 1, p => if p < n then (if blk (T p) = true then toks T n d (p + 1) else ((tk T n p).1, (p, (tk T n p).2)) :: toks T n d (tk T n p).2) else []
theorem opn_in {T : Nat → Nat} {n p : Nat} (h : p < n) : p + opn T n p ≤ n := by
  unfold opn
  split
  · split <;> omega
  · split <;> omega
theorem rdc_nil {T : Nat → Nat} {s : Nat} : rdc T s s = 0 := by
  have : nums T s s = none := by
    unfold nums nmb
    rw [show run dg T s 10 s = 0 by rw [run, if_neg (by omega)], if_pos (Or.inl rfl)]
    rfl
  unfold rdc rdv
  rw [this]
  rfl
theorem nms_sml {c : Nat} (h : sml c = true) : nms c = true := by unfold nms; rw [h]; rfl
theorem tk_gt {T : Nat → Nat} {n p : Nat} (h : p < n) : p < (tk T n p).2 ∧ (tk T n p).2 ≤ n := by
  unfold tk
  split
  · next h1 =>
    split
    · have a1 : run nms T n (n - p) p ≠ 0 := by
        obtain ⟨d, hd⟩ : ∃ d, n - p = d + 1 := ⟨n - p - 1, by omega⟩
        rw [hd, run, if_pos ⟨h, nms_sml h1⟩]
        omega
      have a2 := run_in (f := nms) (T := T) (n - p) p (Nat.le_of_lt h)
      exact ⟨by omega, a2⟩
    · exact ⟨h, Nat.le_refl _⟩
  · split
    · split
      · next h2 => exact ⟨by omega, by omega⟩
      · exact ⟨h, Nat.le_refl _⟩
    · split
      · exact ⟨by omega, by omega⟩
      · split
        · exact ⟨by omega, by omega⟩
        · split
          · exact ⟨by omega, by omega⟩
          · split
            · exact ⟨by omega, by omega⟩
            · unfold tkP
              have a1 := opn_in (T := T) h
              have a2 := run_in (f := prs) (T := T) (n - (p + opn T n p)) (p + opn T n p) a1
              by_cases h0 : rdc T (p + opn T n p) (p + opn T n p + run prs T n (n - (p + opn T n p)) (p + opn T n p)) = 0
              · rw [if_pos h0]
                exact ⟨h, Nat.le_refl _⟩
              · rw [if_neg h0]
                have a3 : run prs T n (n - (p + opn T n p)) (p + opn T n p) ≠ 0 := by
                  intro e
                  rw [e] at h0
                  exact h0 rdc_nil
                split
                · exact ⟨by show p < _; omega, a2⟩
                · exact ⟨by show p < _; omega, a2⟩
theorem toks_fuel {T : Nat → Nat} {n : Nat} : ∀ d d' p, n - p ≤ d → n - p ≤ d' → toks T n d p = toks T n d' p := by
  intro d
  induction d with
  | zero =>
    intro d' p h1 h2
    cases d' with
    | zero => rfl
    | succ d' => rw [toks, toks, if_neg (by omega)]
  | succ d ih =>
    intro d' p h1 h2
    cases d' with
    | zero => rw [toks, toks, if_neg (by omega)]
    | succ d' =>
      rw [toks, toks]
      by_cases hp : p < n
      · rw [if_pos hp, if_pos hp]
        have := tk_gt (T := T) hp
        rw [ih d' (p + 1) (by omega) (by omega), ih d' (tk T n p).2 (by omega) (by omega)]
      · rw [if_neg hp, if_neg hp]
/-- the tokens from p on -/
def tl (T : Nat → Nat) (n p : Nat) : List Tok := toks T n (n - p) p
theorem tl_end {T : Nat → Nat} {n p : Nat} (h : n ≤ p) : tl T n p = [] := by
  unfold tl
  rw [show n - p = 0 by omega]
  rfl
theorem tl_blk {T : Nat → Nat} {n p : Nat} (h : p < n) (hb : blk (T p) = true) : tl T n p = tl T n (p + 1) := by
  unfold tl
  obtain ⟨d, hd⟩ : ∃ d, n - p = d + 1 := ⟨n - p - 1, by omega⟩
  rw [hd, toks, if_pos h, if_pos hb, toks_fuel d (n - (p + 1)) (p + 1) (by omega) (by omega)]
theorem tl_tok {T : Nat → Nat} {n p : Nat} (h : p < n) (hb : ¬ blk (T p) = true) : tl T n p = ((tk T n p).1, (p, (tk T n p).2)) :: tl T n (tk T n p).2 := by
  unfold tl
  obtain ⟨d, hd⟩ : ∃ d, n - p = d + 1 := ⟨n - p - 1, by omega⟩
  have := tk_gt (T := T) h
  rw [hd, toks, if_pos h, if_neg hb, toks_fuel d (n - (tk T n p).2) (tk T n p).2 (by omega) (by omega)]
theorem tl_run {T : Nat → Nat} {n : Nat} : ∀ d p, tl T n p = tl T n (p + run blk T n d p) := by
  intro d
  induction d with
  | zero => intro p; rfl
  | succ d ih =>
    intro p
    rw [run]
    split
    · next h => rw [tl_blk h.1 h.2, ih (p + 1), show p + (run blk T n d (p + 1) + 1) = p + 1 + run blk T n d (p + 1) by omega]
    · rfl
/-- what holds of each token -/
theorem tl_mem {T : Nat → Nat} {n : Nat} : ∀ d p, n - p ≤ d → ∀ x ∈ tl T n p, p ≤ x.2.1 ∧ x.2.1 < n ∧ x.1 = (tk T n x.2.1).1 ∧ x.2.2 = (tk T n x.2.1).2 ∧ blk (T x.2.1) = false := by
  intro d
  induction d with
  | zero =>
    intro p h x hx
    rw [tl_end (by omega)] at hx
    cases hx
  | succ d ih =>
    intro p h x hx
    by_cases hp : p < n
    · by_cases hb : blk (T p) = true
      · rw [tl_blk hp hb] at hx
        have := ih (p + 1) (by omega) x hx
        exact ⟨by omega, this.2⟩
      · have g := tk_gt (T := T) hp
        rw [tl_tok hp hb] at hx
        rcases List.mem_cons.mp hx with hx | hx
        · rw [hx]
          exact ⟨Nat.le_refl _, hp, rfl, rfl, by simpa using hb⟩
        · have := ih _ (by omega) x hx
          exact ⟨by omega, this.2⟩
    · rw [tl_end (by omega)] at hx
      cases hx
theorem tl_len {T : Nat → Nat} {n : Nat} : ∀ d p, n - p ≤ d → (tl T n p).length ≤ n - p := by
  intro d
  induction d with
  | zero =>
    intro p h
    rw [tl_end (by omega)]
    exact Nat.zero_le _
  | succ d ih =>
    intro p h
    by_cases hp : p < n
    · by_cases hb : blk (T p) = true
      · rw [tl_blk hp hb]
        have := ih (p + 1) (by omega)
        omega
      · have g := tk_gt (T := T) hp
        rw [tl_tok hp hb, List.length_cons]
        have := ih (tk T n p).2 (by omega)
        omega
    · rw [tl_end (by omega)]
      exact Nat.zero_le _
