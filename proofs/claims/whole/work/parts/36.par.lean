/-! Rows as a total order; strictly rising lists by their parity. -/
def R8 (x : Row) : Prop := x.length = 8
theorem cmpL_rf : ∀ a : Row, cmpL a a = 0 := by
  intro a
  induction a with
  | nil => rfl
  | cons x xs ih => unfold cmpL; rw [if_pos rfl]; exact ih
theorem cmpL_eq : ∀ (a b : Row), a.length = b.length → cmpL a b = 0 → a = b := by
  intro a
  induction a with
  | nil => intro b hl _; exact (List.eq_nil_of_length_eq_zero hl.symm).symm
  | cons x xs ih =>
    intro b hl h
    cases b with
    | nil => cases hl
    | cons y ys =>
      unfold cmpL at h
      by_cases hxy : x = y
      · rw [if_pos hxy] at h
        rw [hxy, ih ys (by simpa using hl) h]
      · rw [if_neg hxy] at h
        split at h <;> exact absurd h (by decide)
theorem cmpL_anti : ∀ (a b : Row), a.length = b.length → cmpL b a = - cmpL a b := by
  intro a
  induction a with
  | nil => intro b hl; rw [List.eq_nil_of_length_eq_zero hl.symm]; rfl
  | cons x xs ih =>
    intro b hl
    cases b with
    | nil => cases hl
    | cons y ys =>
      unfold cmpL
      by_cases hxy : x = y
      · rw [if_pos hxy, if_pos hxy.symm]
        exact ih ys (by simpa using hl)
      · rw [if_neg hxy, if_neg (fun e => hxy e.symm)]
        by_cases hlt : x < y
        · rw [if_pos hlt, if_neg (fun h => Int64.lt_irrefl (Int64.lt_trans hlt h))]
          rfl
        · have hgt : y < x := by
            rcases Int64.lt_or_eq_of_le (Int64.not_lt.mp hlt) with h | h
            · exact h
            · exact absurd h.symm hxy
          rw [if_neg hlt, if_pos hgt]
theorem cmpL_tr : ∀ (a b c : Row), a.length = b.length → b.length = c.length → cmpL a b = -1 → cmpL b c = -1 → cmpL a c = -1 := by
  intro a
  induction a with
  | nil => intro b c _ _ h _; exact absurd (show (0 : Int32) = -1 from h) (by decide)
  | cons x xs ih =>
    intro b c h1 h2 ha hb
    cases b with
    | nil => cases h1
    | cons y ys =>
      cases c with
      | nil => cases h2
      | cons z zs =>
        unfold cmpL at ha hb ⊢
        by_cases hxy : x = y
        · by_cases hyz : y = z
          · rw [if_pos hxy] at ha
            rw [if_pos hyz] at hb
            rw [if_pos (hxy.trans hyz)]
            exact ih ys zs (by simpa using h1) (by simpa using h2) ha hb
          · rw [hxy, if_neg hyz]
            rw [if_neg hyz] at hb
            exact hb
        · rw [if_neg hxy] at ha
          have hlt : x < y := by
            by_cases h : x < y
            · exact h
            · rw [if_neg h] at ha; exact absurd ha (by decide)
          by_cases hyz : y = z
          · rw [← hyz, if_neg hxy, if_pos hlt]
          · rw [if_neg hyz] at hb
            have hlt2 : y < z := by
              by_cases h : y < z
              · exact h
              · rw [if_neg h] at hb; exact absurd hb (by decide)
            have h3 := Int64.lt_trans hlt hlt2
            rw [if_neg (fun e => by rw [e] at h3; exact Int64.lt_irrefl h3), if_pos h3]
theorem cmp_lt_of {a b : Row} (ha : R8 a) (hb : R8 b) (h0 : cmpL a b ≠ 0) (h1 : cmpL a b ≠ 1) : cmpL a b = -1 := by
  rcases cmpL_vals a b with h | h | h
  · exact absurd h h0
  · exact absurd h h1
  · exact h
theorem cmp_sw {a b : Row} (ha : R8 a) (hb : R8 b) : (cmpL a b = 1 ↔ cmpL b a = -1) ∧ (cmpL a b = -1 ↔ cmpL b a = 1) := by
  rw [cmpL_anti a b (ha.trans hb.symm)]
  rcases cmpL_vals a b with h | h | h <;> rw [h] <;> decide
/-- a ≤ x < b gives a < b -/
theorem cmp_le_lt {a x b : Row} (ha : R8 a) (hx : R8 x) (hb : R8 b) (h1 : cmpL a x ≠ 1) (h2 : cmpL x b = -1) : cmpL a b = -1 := by
  by_cases h0 : cmpL a x = 0
  · rw [cmpL_eq a x (ha.trans hx.symm) h0]; exact h2
  · exact cmpL_tr a x b (ha.trans hx.symm) (hx.trans hb.symm) (cmp_lt_of ha hx h0 h1) h2
theorem cmp_lt_le {a x b : Row} (ha : R8 a) (hx : R8 x) (hb : R8 b) (h1 : cmpL a x = -1) (h2 : cmpL x b ≠ 1) : cmpL a b = -1 := by
  by_cases h0 : cmpL x b = 0
  · rw [← cmpL_eq x b (hx.trans hb.symm) h0]; exact h1
  · exact cmpL_tr a x b (ha.trans hx.symm) (hx.trans hb.symm) h1 (cmp_lt_of hx hb h0 h2)
/-- strictly rising rows of eight -/
def Up (A : List Row) : Prop := A.Pairwise (fun a b => cmpL a b = -1) ∧ ∀ a ∈ A, R8 a
theorem Up.tail {a : Row} {A : List Row} (h : Up (a :: A)) : Up A := ⟨(List.pairwise_cons.mp h.1).2, fun b hb => h.2 b (List.mem_cons_of_mem _ hb)⟩
theorem Up.head {a : Row} {A : List Row} (h : Up (a :: A)) : ∀ b ∈ A, cmpL a b = -1 := (List.pairwise_cons.mp h.1).1
theorem Up.r8 {a : Row} {A : List Row} (h : Up (a :: A)) : R8 a := h.2 a List.mem_cons_self
def par (A : List Row) (x : Row) : Bool := match A with
  | [] => false
  | a :: A => if cmpL a x = 1 then par A x else !par A x
theorem par_above {A : List Row} {x : Row} (h : ∀ a ∈ A, cmpL a x = 1) : par A x = false := by
  induction A with
  | nil => rfl
  | cons a A ih =>
    unfold par
    rw [if_pos (h a List.mem_cons_self)]
    exact ih (fun b hb => h b (List.mem_cons_of_mem _ hb))
theorem Up.above {a : Row} {A : List Row} {x : Row} (h : Up (a :: A)) (hx : R8 x) (hax : cmpL a x = 1) : ∀ b ∈ A, cmpL b x = 1 := by
  intro b hb
  have hb8 := h.2 b (List.mem_cons_of_mem _ hb)
  have h1 := h.head b hb
  have h2 := (cmp_sw h.r8 hx).1.mp hax
  exact (cmp_sw hx hb8).2.mp (cmpL_tr x a b (hx.trans h.r8.symm) (h.r8.trans hb8.symm) h2 h1)
/-- a strictly rising list is told by its parities -/
theorem up_uniq : ∀ (X Y : List Row), Up X → Up Y → (∀ x, R8 x → par X x = par Y x) → X = Y := by
  have one : ∀ (a : Row) (A : List Row), Up (a :: A) → par (a :: A) a = true := by
    intro a A h
    unfold par
    rw [if_neg (by rw [cmpL_rf]; decide), par_above (fun b hb => (cmp_sw h.r8 (h.2 b (List.mem_cons_of_mem _ hb))).2.mp (h.head b hb))]
    rfl
  have low : ∀ (a : Row) (A : List Row) (x : Row), Up (a :: A) → R8 x → cmpL x a = -1 → par (a :: A) x = false := by
    intro a A x h hx hxa
    have h1 := (cmp_sw hx h.r8).2.mp hxa
    refine par_above (fun b hb => ?_)
    rcases List.mem_cons.mp hb with e | hb
    · rw [e]; exact h1
    · exact h.above hx h1 b hb
  intro X
  induction X with
  | nil =>
    intro Y _ hY h
    cases Y with
    | nil => rfl
    | cons b Y =>
      have := h b hY.r8
      rw [one b Y hY] at this
      cases this
  | cons a X ih =>
    intro Y hX hY h
    cases Y with
    | nil =>
      have := h a hX.r8
      rw [one a X hX] at this
      cases this
    | cons b Y =>
      have ha := h a hX.r8
      have hb := h b hY.r8
      rw [one a X hX] at ha
      rw [one b Y hY] at hb
      have hab : a = b := by
        rcases cmpL_vals a b with e | e | e
        · exact cmpL_eq a b (hX.r8.trans hY.r8.symm) e
        · rw [low a X b hX hY.r8 ((cmp_sw hX.r8 hY.r8).1.mp e)] at hb
          cases hb
        · rw [low b Y a hY hX.r8 e] at ha
          cases ha
      subst hab
      congr 1
      refine ih Y hX.tail hY.tail (fun x hx => ?_)
      have := h x hx
      unfold par at this
      by_cases hc : cmpL a x = 1
      · rw [par_above (hX.above hx hc), par_above (hY.above hx hc)]
      · rw [if_neg hc, if_neg hc] at this
        simpa using this
theorem jn_mem (how : Nat) : ∀ (n : Nat) (A B : List Row) (p q w : Bool), ∀ x ∈ jn how n A B p q w, x ∈ A ∨ x ∈ B := by
  intro n
  induction n with
  | zero => intro A B p q w x hx; simp [jn] at hx
  | succ n ih =>
    intro A B p q w x hx
    cases A with
    | nil =>
      cases B with
      | nil => simp [jn] at hx
      | cons b B =>
        unfold jn at hx
        split at hx
        · have := ih _ _ _ _ _ _ hx; simp at this ⊢; simp [this]
        · rcases List.mem_cons.mp hx with e | hx
          · simp [e]
          · have := ih _ _ _ _ _ _ hx; simp at this ⊢; simp [this]
    | cons a A =>
      cases B with
      | nil =>
        unfold jn at hx
        split at hx
        · have := ih _ _ _ _ _ _ hx; simp at this ⊢; simp [this]
        · rcases List.mem_cons.mp hx with e | hx
          · simp [e]
          · have := ih _ _ _ _ _ _ hx; simp at this ⊢; simp [this]
      | cons b B =>
        unfold jn at hx
        split at hx
        · split at hx
          · rcases ih _ _ _ _ _ _ hx with h | h
            · exact Or.inl h
            · exact Or.inr (List.mem_cons_of_mem _ h)
          · rcases List.mem_cons.mp hx with e | hx
            · exact Or.inr (by rw [e]; exact List.mem_cons_self)
            · rcases ih _ _ _ _ _ _ hx with h | h
              · exact Or.inl h
              · exact Or.inr (List.mem_cons_of_mem _ h)
        · split at hx
          · split at hx
            · rcases ih _ _ _ _ _ _ hx with h | h
              · exact Or.inl (List.mem_cons_of_mem _ h)
              · exact Or.inr h
            · rcases List.mem_cons.mp hx with e | hx
              · exact Or.inl (by rw [e]; exact List.mem_cons_self)
              · rcases ih _ _ _ _ _ _ hx with h | h
                · exact Or.inl (List.mem_cons_of_mem _ h)
                · exact Or.inr h
          · split at hx
            · rcases ih _ _ _ _ _ _ hx with h | h
              · exact Or.inl (List.mem_cons_of_mem _ h)
              · exact Or.inr (List.mem_cons_of_mem _ h)
            · rcases List.mem_cons.mp hx with e | hx
              · exact Or.inl (by rw [e]; exact List.mem_cons_self)
              · rcases ih _ _ _ _ _ _ hx with h | h
                · exact Or.inl (List.mem_cons_of_mem _ h)
                · exact Or.inr (List.mem_cons_of_mem _ h)
