/-! What a bound may be, so that it can be written: sizes of numbers and identifiers. -/
/-- the byte at place j of a key -/
def kB (w j : Nat) : Nat := w / 256 ^ (7 - j) % 256
def zE (w : Nat) : Prop := ∀ i j, i ≤ j → j < 8 → kB w i = 0 → kB w j = 0
def okw (w : Nat) : Prop := w < 100000000 ∨ (2 ^ 56 ≤ w ∧ w < 2 ^ 63 - 1 ∧ zE w)
theorem by8_dg {T : Nat → Nat} {p : Nat} (hT : ∀ j, T (p + j) < 256) : ∀ k j, j < k → by8 T p k / 256 ^ (k - 1 - j) % 256 = T (p + j) := by
  intro k
  induction k with
  | zero => intro j hj; omega
  | succ k ih =>
    intro j hj
    rw [by8]
    have h1 := hT k
    by_cases hjk : j = k
    · subst hjk
      rw [show j + 1 - 1 - j = 0 by omega, Nat.pow_zero, Nat.div_one]
      omega
    · rw [show k + 1 - 1 - j = (k - 1 - j) + 1 by omega, Nat.pow_succ, Nat.mul_comm (256 ^ (k - 1 - j)) 256, ← Nat.div_div_eq_div_mul, show (by8 T p k * 256 + T (p + k)) / 256 = by8 T p k by omega]
      exact ih j (by omega)
theorem by8_ltQ {T : Nat → Nat} {p : Nat} (hT : ∀ j, T (p + j) < 256) : ∀ k, by8 T p k < 256 ^ k := by
  intro k
  induction k with
  | zero => rw [by8]; decide
  | succ k ih =>
    rw [by8, Nat.pow_succ]
    have := hT k
    omega
theorem kB_by8 {T : Nat → Nat} {p k j : Nat} (hT : ∀ j, T (p + j) < 256) (hk : k ≤ 8) (hj : j < 8) : kB (by8 T p k * 256 ^ (8 - k)) j = if j < k then T (p + j) else 0 := by
  unfold kB
  by_cases h : j < k
  · rw [if_pos h, show 7 - j = (8 - k) + (k - 1 - j) by omega, Nat.pow_add, Nat.mul_comm (256 ^ (8 - k)) (256 ^ (k - 1 - j)), Nat.mul_div_mul_right _ _ (Nat.pow_pos (by omega))]
    exact by8_dg hT k j h
  · rw [if_neg h, show 8 - k = (j - k + 1) + (7 - j) by omega, Nat.pow_add, ← Nat.mul_assoc, Nat.mul_div_cancel _ (Nat.pow_pos (by omega)), Nat.pow_succ, ← Nat.mul_assoc]
    exact Nat.mul_mod_left _ _
theorem kB_top {w : Nat} (h : w < 2 ^ 63) : kB w 0 = w / 2 ^ 56 := by
  unfold kB
  rw [show 256 ^ (7 - 0) = 2 ^ 56 from rfl]
  have : w / 2 ^ 56 < 128 := by omega
  omega
theorem idc_b {c : Nat} (h : idc c = true) : 45 ≤ c ∧ c < 128 := by
  unfold idc dg at h
  simp only [Bool.or_eq_true, Bool.and_eq_true, decide_eq_true_eq] at h
  omega
theorem word_ok {T : Nat → Nat} {p k : Nat} (h1 : 1 ≤ k) (hk : k ≤ 8) (hc : ∀ j, j < k → 45 ≤ T (p + j) ∧ T (p + j) < 128) (hT : ∀ j, T (p + j) < 256) : okw (by8 T p k * 256 ^ (8 - k)) := by
  have hlt := by8_ltQ hT k
  have hb : by8 T p k * 256 ^ (8 - k) < 256 ^ 8 := by
    have := Nat.mul_lt_mul_of_pos_right hlt (show 0 < 256 ^ (8 - k) from Nat.pow_pos (by omega))
    rw [← Nat.pow_add, show k + (8 - k) = 8 by omega] at this
    exact this
  have h0 := kB_by8 (T := T) (p := p) (k := k) (j := 0) hT hk (by omega)
  rw [if_pos (by omega)] at h0
  have hc0 := hc 0 (by omega)
  have h11 : kB (by8 T p k * 256 ^ (8 - k)) 1 < 128 := by
    rw [kB_by8 hT hk (by omega)]
    split
    · next h => exact (hc 1 h).2
    · omega
  have hz : zE (by8 T p k * 256 ^ (8 - k)) := fun i j hij hj hi => by
    rw [kB_by8 hT hk (by omega)] at hi
    rw [kB_by8 hT hk hj]
    by_cases h : i < k
    · rw [if_pos h] at hi
      have := hc i h
      omega
    · rw [if_neg (by omega)]
  generalize by8 T p k * 256 ^ (8 - k) = w at *
  unfold kB at h0 h11
  rw [show 256 ^ (7 - 0) = 2 ^ 56 from rfl] at h0
  rw [show 256 ^ (7 - 1) = 2 ^ 48 from rfl] at h11
  rw [show (256 : Nat) ^ 8 = 2 ^ 64 from rfl] at hb
  exact Or.inr ⟨by omega, by omega, hz⟩
theorem dv_ltQ {T : Nat → Nat} {p : Nat} : ∀ n, (∀ j, j < n → 48 ≤ T (p + j) ∧ T (p + j) ≤ 57) → dv T p n < 10 ^ n := by
  intro n
  induction n with
  | zero => intro _; rw [dv]; decide
  | succ n ih =>
    intro h
    have h1 := ih (fun j hj => h j (by omega))
    have h2 := h n (by omega)
    rw [dv, Nat.pow_succ]
    omega
theorem dg_b {c : Nat} (h : dg c = true) : 48 ≤ c ∧ c ≤ 57 := by
  unfold dg at h
  simp only [Bool.and_eq_true, decide_eq_true_eq] at h
  exact h
/-- a text with nothing but bytes -/
def cut (T : Nat → Nat) (e j : Nat) : Nat := if j < e then T j else 0
theorem by8_cut {T : Nat → Nat} {e p : Nat} : ∀ k, p + k ≤ e → by8 (cut T e) p k = by8 T p k := by
  intro k
  induction k with
  | zero => intro _; rfl
  | succ k ih =>
    intro h
    rw [by8, by8, ih (by omega)]
    unfold cut
    rw [if_pos (by omega)]
theorem idn_ok {T : Nat → Nat} {e p : Nat} {c : Bool} {w : Nat × Nat} (hT : ∀ j, j < e → T j < 256) (h : idn T e c p = some w) : okw w.1 ∧ w.2 = p + run idc T e 9 p := by
  unfold idn at h
  split at h
  · cases h
  · next h1 =>
    have hall := run_all (f := idc) (T := T) (e := e) 9 p
    generalize run idc T e 9 p = k at *
    split at h
    · next h2 =>
      split at h
      · cases h
      · cases h
        refine ⟨Or.inl ?_, rfl⟩
        have hd := run_all (f := dg) (T := T) (e := e) k p
        rw [h2] at hd
        have := dv_ltQ k (fun j hj => dg_b (hd j hj).2)
        have h8 : (10 : Nat) ^ k ≤ 10 ^ 8 := Nat.pow_le_pow_right (by omega) (by omega)
        show dv T p k < 100000000
        omega
    · cases h
      refine ⟨?_, rfl⟩
      show okw (by8 T p k * 256 ^ (8 - k))
      have hpe : p + k ≤ e := by
        have := (hall (k - 1) (by omega)).1
        omega
      rw [← by8_cut k hpe]
      refine word_ok (by omega) (by omega) (fun j hj => ?_) (fun j => ?_)
      · have := hall j hj
        unfold cut
        rw [if_pos this.1]
        exact idc_b this.2
      · unfold cut
        split
        · next hj => exact hT _ hj
        · omega
theorem ids_ok {T : Nat → Nat} {e : Nat} {c : Bool} (hT : ∀ j, j < e → T j < 256) : ∀ d p (r : List Nat × Nat), ids T e c d p = some r → ∀ w ∈ r.1, okw w := by
  intro d
  induction d with
  | zero => intro p r h; rw [ids] at h; cases h
  | succ d ih =>
    intro p r h
    rw [ids] at h
    cases hi : idn T e c p with
    | none => rw [hi] at h; cases h
    | some w =>
      rw [hi, Option.bind_some] at h
      have hw := (idn_ok hT hi).1
      split at h
      · cases hr : ids T e c d (w.2 + 1) with
        | none => rw [hr] at h; cases h
        | some r' =>
          rw [hr] at h
          cases h
          intro x hx
          rcases List.mem_cons.mp hx with hx | hx
          · rw [hx]; exact hw
          · exact ih _ r' hr x hx
      · cases h
        intro x hx
        rw [List.mem_singleton.mp hx]
        exact hw
theorem rdv_ok {T : Nat → Nat} {a e f : Nat} {ns is : List Nat} (hT : ∀ j, j < e → T j < 256) (h : rdv T a e = some (f, (ns, is))) : ∀ w ∈ is, okw w := by
  unfold rdv at h
  cases hn : nums T e a with
  | none => rw [hn] at h; cases h
  | some w =>
    rw [hn, Option.bind_some] at h
    split at h
    · split at h
      · cases hi : ids T e true 4 (w.2 + 1) with
        | none => rw [hi] at h; cases h
        | some i =>
          rw [hi, Option.bind_some] at h
          have := ids_ok hT 4 _ i hi
          cases hq : (if atE (fun x => decide (x = 43)) T e i.2 = true then (ids T e false 4 (i.2 + 1)).map (fun z => z.2) else some i.2) with
          | none => rw [hq] at h; cases h
          | some q =>
            rw [hq, Option.bind_some] at h
            split at h
            · cases h
              exact this
            · cases h
      · rw [Option.bind_some] at h
        cases hq : (if atE (fun x => decide (x = 43)) T e w.2 = true then (ids T e false 4 (w.2 + 1)).map (fun z => z.2) else some w.2) with
        | none => simp only at h; rw [hq] at h; cases h
        | some q =>
          simp only at h
          rw [hq, Option.bind_some] at h
          split at h
          · cases h
            intro x hx
            cases hx
          · cases h
    · split at h
      · cases h
        intro x hx
        cases hx
      · cases h
