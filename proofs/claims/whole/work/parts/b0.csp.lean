/-! Choices: how many there are. -/
def nsum (w : (Nat → Nat) → Nat) : Nat → Nat → (Nat → Nat) → Nat
  | 0, _, f => w f
  | d + 1, k, f => ((List.range 7).map (fun v => nsum w d (k + 1) (fun j => if j = k then v else f j))).sum
def okd (n : Nat) (D : Nat → Nat → Bool) (f : Nat → Nat) : Bool := (List.range n).all (fun p => D p (f p))
def okb (n : Nat) (B : Nat → Nat → Nat → Nat → Bool) (f : Nat → Nat) : Bool := (List.range n).all (fun p => (List.range n).all (fun q => decide (p = q) || B p (f p) q (f q)))
theorem okd_iff {n : Nat} {D : Nat → Nat → Bool} {f : Nat → Nat} : okd n D f = true ↔ ∀ p, p < n → D p (f p) = true := by
  unfold okd
  rw [List.all_eq_true]
  exact ⟨fun h p hp => h p (List.mem_range.mpr hp), fun h p hp => h p (List.mem_range.mp hp)⟩
theorem okb_iff {n : Nat} {B : Nat → Nat → Nat → Nat → Bool} {f : Nat → Nat} : okb n B f = true ↔ ∀ p q, p < n → q < n → p ≠ q → B p (f p) q (f q) = true := by
  unfold okb
  rw [List.all_eq_true]
  constructor
  · intro h p q hp hq hne
    have h1 := h p (List.mem_range.mpr hp)
    rw [List.all_eq_true] at h1
    have h2 := h1 q (List.mem_range.mpr hq)
    rw [decide_eq_false hne, Bool.false_or] at h2
    exact h2
  · intro h p hp
    rw [List.all_eq_true]
    intro q hq
    by_cases hne : p = q
    · rw [decide_eq_true hne, Bool.true_or]
    · rw [decide_eq_false hne, Bool.false_or]
      exact h p q (List.mem_range.mp hp) (List.mem_range.mp hq) hne
/-- a solution -/
def Sl (n : Nat) (D : Nat → Nat → Bool) (B : Nat → Nat → Nat → Nat → Bool) (f : Nat → Nat) : Prop := (∀ p, p < n → D p (f p) = true) ∧ ∀ p q, p < n → q < n → p ≠ q → B p (f p) q (f q) = true
def slb (n : Nat) (D : Nat → Nat → Bool) (B : Nat → Nat → Nat → Nat → Bool) (f : Nat → Nat) : Bool := okd n D f && okb n B f
theorem slb_iff {n : Nat} {D : Nat → Nat → Bool} {B : Nat → Nat → Nat → Nat → Bool} {f : Nat → Nat} : slb n D B f = true ↔ Sl n D B f := by
  unfold slb Sl
  rw [Bool.and_eq_true, okd_iff, okb_iff]
def wS (n : Nat) (D : Nat → Nat → Bool) (B : Nat → Nat → Nat → Nat → Bool) (f : Nat → Nat) : Nat := if slb n D B f = true then 1 else 0
/-- how many solutions there are -/
def NS (n : Nat) (D : Nat → Nat → Bool) (B : Nat → Nat → Nat → Nat → Bool) : Nat := nsum (wS n D B) n 0 (fun _ => 0)
theorem nsum_congr {w w' : (Nat → Nat) → Nat} (h : ∀ f, w f = w' f) (d k : Nat) (f : Nat → Nat) : nsum w d k f = nsum w' d k f := by
  rw [show w = w' from funext h]
theorem nsum_zero : ∀ (d k : Nat) (f : Nat → Nat), nsum (fun _ => 0) d k f = 0 := by
  intro d
  induction d with
  | zero => intro k f; rfl
  | succ d ih =>
    intro k f
    rw [nsum]
    simp only [ih]
    decide
theorem nsum_add (w w' : (Nat → Nat) → Nat) : ∀ (d k : Nat) (f : Nat → Nat), nsum (fun f => w f + w' f) d k f = nsum w d k f + nsum w' d k f := by
  have hl : ∀ (L : List Nat) (a b : Nat → Nat), (L.map (fun v => a v + b v)).sum = (L.map a).sum + (L.map b).sum := by
    intro L a b
    induction L with
    | nil => rfl
    | cons v L ih =>
      simp only [List.map_cons, List.sum_cons]
      omega
  intro d
  induction d with
  | zero => intro k f; rfl
  | succ d ih =>
    intro k f
    rw [nsum, nsum, nsum]
    simp only [ih]
    exact hl _ _ _
theorem nsum_list (w : Nat → (Nat → Nat) → Nat) (d k : Nat) (f : Nat → Nat) : ∀ L : List Nat, nsum (fun f => (L.map (fun v => w v f)).sum) d k f = (L.map (fun v => nsum (w v) d k f)).sum := by
  intro L
  induction L with
  | nil => exact nsum_zero d k f
  | cons v L ih =>
    simp only [List.map_cons, List.sum_cons]
    rw [nsum_add, ih]
theorem sum_pick {u a : Nat} : ∀ n, ((List.range n).map (fun v => if v = u then a else 0)).sum = if u < n then a else 0 := by
  intro n
  induction n with
  | zero => rfl
  | succ n ih =>
    rw [List.range_succ, List.map_append, List.sum_append, ih]
    simp only [List.map_cons, List.map_nil, List.sum_cons, List.sum_nil]
    by_cases h : n = u
    · rw [if_pos h, if_neg (by omega), if_pos (by omega)]
      omega
    · rw [if_neg h]
      by_cases h2 : u < n
      · rw [if_pos h2, if_pos (by omega)]; omega
      · rw [if_neg h2, if_neg (by omega)]; omega
theorem NS_congr {n : Nat} {D D' : Nat → Nat → Bool} {B B' : Nat → Nat → Nat → Nat → Bool} (h : ∀ f, Sl n D B f ↔ Sl n D' B' f) : NS n D B = NS n D' B' := by
  unfold NS
  refine nsum_congr (fun f => ?_) _ _ _
  unfold wS
  by_cases h1 : slb n D B f = true
  · rw [if_pos h1, if_pos (slb_iff.mpr ((h f).mp (slb_iff.mp h1)))]
  · rw [if_neg h1, if_neg (fun e => h1 (slb_iff.mpr ((h f).mpr (slb_iff.mp e))))]
theorem NS_zero {n : Nat} {D : Nat → Nat → Bool} {B : Nat → Nat → Nat → Nat → Bool} (h : ∀ f, ¬ Sl n D B f) : NS n D B = 0 := by
  unfold NS
  rw [nsum_congr (w' := fun _ => 0) (fun f => ?_), nsum_zero]
  unfold wS
  rw [if_neg (fun e => h f (slb_iff.mp e))]
/-- package p has value v -/
def res (D : Nat → Nat → Bool) (p v : Nat) : Nat → Nat → Bool := fun q u => if q = p then D p u && decide (u = v) else D q u
theorem res_Sl {n p v : Nat} {D : Nat → Nat → Bool} {B : Nat → Nat → Nat → Nat → Bool} {f : Nat → Nat} (hp : p < n) : Sl n (res D p v) B f ↔ Sl n D B f ∧ f p = v := by
  unfold Sl res
  constructor
  · rintro ⟨h1, h2⟩
    have hpp := h1 p hp
    rw [if_pos rfl, Bool.and_eq_true, decide_eq_true_eq] at hpp
    refine ⟨⟨fun q hq => ?_, h2⟩, hpp.2⟩
    have := h1 q hq
    by_cases hqp : q = p
    · rw [hqp]; exact hpp.1
    · rw [if_neg hqp] at this; exact this
  · rintro ⟨⟨h1, h2⟩, h3⟩
    refine ⟨fun q hq => ?_, h2⟩
    by_cases hqp : q = p
    · rw [if_pos hqp, hqp, h1 p hp, decide_eq_true h3]; rfl
    · rw [if_neg hqp]; exact h1 q hq
theorem NS_branch {n p : Nat} {D : Nat → Nat → Bool} {B : Nat → Nat → Nat → Nat → Bool} (hp : p < n) (h7 : ∀ v, D p v = true → v < 7) : NS n D B = ((List.range 7).map (fun v => NS n (res D p v) B)).sum := by
  unfold NS
  rw [← nsum_list (fun v => wS n (res D p v) B)]
  refine nsum_congr (fun f => ?_) _ _ _
  have e : ∀ v, wS n (res D p v) B f = if v = f p then wS n D B f else 0 := by
    intro v
    unfold wS
    by_cases h : v = f p
    · rw [if_pos h]
      by_cases h1 : slb n D B f = true
      · rw [if_pos h1, if_pos (slb_iff.mpr ((res_Sl hp).mpr ⟨slb_iff.mp h1, h.symm⟩))]
      · rw [if_neg h1, if_neg (fun z => h1 (slb_iff.mpr ((res_Sl hp).mp (slb_iff.mp z)).1))]
    · rw [if_neg h, if_neg (fun z => h ((res_Sl hp).mp (slb_iff.mp z)).2.symm)]
  simp only [e]
  rw [sum_pick]
  unfold wS
  by_cases h1 : slb n D B f = true
  · rw [if_pos h1, if_pos (h7 _ ((slb_iff.mp h1).1 p hp))]
  · rw [if_neg h1]
    split <;> rfl
theorem sum_ge {u : Nat} {g : Nat → Nat} : ∀ L : List Nat, u ∈ L → g u ≤ (L.map g).sum := by
  intro L
  induction L with
  | nil => intro h; cases h
  | cons v L ih =>
    intro h
    simp only [List.map_cons, List.sum_cons]
    rcases List.mem_cons.mp h with h | h
    · rw [h]; omega
    · have := ih h; omega
theorem NS_pos {n : Nat} {D : Nat → Nat → Bool} {B : Nat → Nat → Nat → Nat → Bool} (h7 : ∀ p v, p < n → D p v = true → v < 7) : 0 < NS n D B ↔ ∃ f, Sl n D B f := by
  constructor
  · intro h
    by_cases he : ∃ f, Sl n D B f
    · exact he
    · rw [NS_zero (fun f hf => he ⟨f, hf⟩)] at h
      omega
  · rintro ⟨f, hf⟩
    have key : ∀ (d k : Nat) (g : Nat → Nat), k + d = n → (∀ p, p < k → g p = f p) → 1 ≤ nsum (wS n D B) d k g := by
      intro d
      induction d with
      | zero =>
        intro k g hk hg
        show 1 ≤ wS n D B g
        unfold wS
        rw [if_pos (slb_iff.mpr ⟨fun p hp => by rw [hg p (by omega)]; exact hf.1 p hp, fun p q hp hq hne => by rw [hg p (by omega), hg q (by omega)]; exact hf.2 p q hp hq hne⟩)]
        omega
      | succ d ih =>
        intro k g hk hg
        rw [nsum]
        have hfk : f k < 7 := h7 k _ (by omega) (hf.1 k (by omega))
        have := ih (k + 1) (fun j => if j = k then f k else g j) (by omega) (fun p hp => by
          by_cases hpk : p = k
          · rw [if_pos hpk, hpk]
          · rw [if_neg hpk]; exact hg p (by omega))
        have h2 := sum_ge (g := fun v => nsum (wS n D B) d (k + 1) (fun j => if j = k then v else g j)) (List.range 7) (List.mem_range.mpr hfk)
        have h3 : nsum (wS n D B) d (k + 1) (fun j => if j = k then f k else g j) ≤ _ := h2
        omega
    have := key n 0 (fun _ => 0) (by omega) (fun p hp => by omega)
    unfold NS
    omega
theorem NS_one {n : Nat} {D : Nat → Nat → Bool} {B : Nat → Nat → Nat → Nat → Bool} (x : Nat → Nat) (hx : ∀ p, p < n → x p < 7) (h : ∀ f, Sl n D B f ↔ ∀ p, p < n → f p = x p) : NS n D B = 1 := by
  have key : ∀ (d k : Nat) (g : Nat → Nat), k + d = n → nsum (wS n D B) d k g = if (List.range k).all (fun p => decide (g p = x p)) = true then 1 else 0 := by
    intro d
    induction d with
    | zero =>
      intro k g hk
      show wS n D B g = _
      unfold wS
      by_cases h1 : (List.range k).all (fun p => decide (g p = x p)) = true
      · rw [if_pos h1, if_pos]
        rw [slb_iff, h]
        rw [List.all_eq_true] at h1
        intro p hp
        exact of_decide_eq_true (h1 p (List.mem_range.mpr (by omega)))
      · rw [if_neg h1, if_neg]
        intro h2
        apply h1
        rw [slb_iff, h] at h2
        rw [List.all_eq_true]
        intro p hp
        exact decide_eq_true (h2 p (by have := List.mem_range.mp hp; omega))
    | succ d ih =>
      intro k g hk
      rw [nsum]
      have e : ∀ v, nsum (wS n D B) d (k + 1) (fun j => if j = k then v else g j) = if v = x k then (if (List.range k).all (fun p => decide (g p = x p)) = true then 1 else 0) else 0 := by
        intro v
        rw [ih (k + 1) _ (by omega), List.range_succ, List.all_append]
        have e1 : (List.range k).all (fun p => decide ((if p = k then v else g p) = x p)) = (List.range k).all (fun p => decide (g p = x p)) := by
          rw [Bool.eq_iff_iff, List.all_eq_true, List.all_eq_true]
          constructor
          · intro hh p hp
            have := hh p hp
            rw [if_neg (by have := List.mem_range.mp hp; omega)] at this
            exact this
          · intro hh p hp
            rw [if_neg (by have := List.mem_range.mp hp; omega)]
            exact hh p hp
        rw [e1]
        simp only [List.all_cons, List.all_nil, Bool.and_true, if_true]
        by_cases hv : v = x k
        · rw [decide_eq_true hv, Bool.and_true, if_pos hv]
        · rw [decide_eq_false hv, Bool.and_false, if_neg hv]
          rfl
      simp only [e]
      rw [sum_pick, if_pos (hx k (by omega))]
  unfold NS
  rw [key n 0 _ (by omega)]
  rfl
