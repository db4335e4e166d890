/-! Is a version in a range? -/
def hs : List Row → Row → Bool
  | a :: b :: B, x => (decide (cmpL a x ≠ 1) && decide (cmpL x b = -1)) || hs B x
  | _, _ => false
theorem hs_above : ∀ (n : Nat) (B : List Row) (x : Row), B.length ≤ n → R8 x → (∀ b ∈ B, cmpL b x = 1) → hs B x = false := by
  intro n
  induction n with
  | zero => intro B x hn _ _; rw [List.eq_nil_of_length_eq_zero (Nat.le_zero.mp hn)]; rfl
  | succ n ih =>
    intro B x hn hx h
    match B with
    | [] => rfl
    | [_] => rfl
    | a :: b :: C =>
      rw [hs, ih C x (by simp at hn; omega) hx (fun c hc => h c (List.mem_cons_of_mem _ (List.mem_cons_of_mem _ hc))), h a List.mem_cons_self]
      rfl
theorem hs_par : ∀ (n : Nat) (B : List Row) (x : Row), B.length = 2 * n → Up B → R8 x → hs B x = par B x := by
  intro n
  induction n with
  | zero => intro B x hn _ _; rw [List.eq_nil_of_length_eq_zero hn]; rfl
  | succ n ih =>
    intro B x hn hB hx
    match B, hn, hB with
    | a :: b :: C, hn, hB =>
      have hC : C.length = 2 * n := by simp at hn; omega
      have hb8 : R8 b := hB.tail.r8
      rw [hs, ih C x hC hB.tail.tail hx]
      by_cases h1 : cmpL a x = 1
      · rw [par, if_pos h1]
        have hab := hB.above hx h1
        rw [par_above hab, par_above (fun c hc => hab c (List.mem_cons_of_mem _ hc)), h1]
        rfl
      · rw [par, if_neg h1, par]
        by_cases h2 : cmpL b x = 1
        · rw [if_pos h2, par_above (hB.tail.above hx h2)]
          have h3 := (cmp_sw hb8 hx).1.mp h2
          simp [h1, h3]
        · rw [if_neg h2]
          have h3 : ¬ cmpL x b = -1 := fun e => h2 ((cmp_sw hx hb8).2.mp e)
          simp [h3]
theorem cgt (a b : Row) : (0 < cmpL a b) ↔ cmpL a b = 1 := by rcases cmpL_vals a b with h | h | h <;> rw [h] <;> decide
theorem cge (a b : Row) : (0 ≤ cmpL a b) ↔ cmpL a b ≠ -1 := by rcases cmpL_vals a b with h | h | h <;> rw [h] <;> decide
theorem cle (a b : Row) : (cmpL a b ≤ 0) ↔ cmpL a b ≠ 1 := by rcases cmpL_vals a b with h | h | h <;> rw [h] <;> decide
theorem clt (a b : Row) : (cmpL a b < 0) ↔ cmpL a b = -1 := by rcases cmpL_vals a b with h | h | h <;> rw [h] <;> decide
theorem has_lp {t : List Sh} {m : Mi} {r cap a n : Nat} {B : List Row} (h : RG t m r cap B) (ha : sh t a = some (.inr (.long, n))) (h8 : 8 ≤ n) (hn : n < 2 ^ 31) : ∀ (d k N : Nat), 2 * (k + d) = B.length → d < N →
    (lp (fun x : Int32 => f_X4_has_l2 t m r a x) N (nI (2 * k))).bind (Sum.elim (fun _ : Unit => f_X4_has_j52 t m) (fun _ : Unit => f_X4_has_j44 t m)) = some (bI (hs (B.drop (2 * k)) (rowL m a 0))) := by
  obtain ⟨h1, h2, h3, h4, h5, h6, h7, -⟩ := id h
  intro d
  induction d with
  | zero =>
    intro k N hk hN
    obtain ⟨N, rfl⟩ : ∃ z, N = z + 1 := ⟨N - 1, by omega⟩
    rw [lp_exit (y := .inl ()), List.drop_eq_nil_of_le (by omega)]
    · rfl
    · show f_X4_has_l2 t m r a (nI (2 * k)) = _
      unfold f_X4_has_l2
      rw [h4, if_pos (nI_le (by omega) (by omega))]
  | succ d ih =>
    intro k N hk hN
    obtain ⟨N, rfl⟩ : ∃ z, N = z + 1 := ⟨N - 1, by omega⟩
    have d0 : 2 * k < B.length := by omega
    have d1 : 2 * k + 1 < B.length := by omega
    have e0 := h.row d0
    have e1 := h.row d1
    have eD : B.drop (2 * k) = rowL m (r + 1) (8 * (2 * k)) :: rowL m (r + 1) (8 * (2 * k + 1)) :: B.drop (2 * (k + 1)) := by
      rw [List.drop_eq_getElem_cons d0, List.drop_eq_getElem_cons d1]
      rw [List.getElem?_eq_getElem d0] at e0
      rw [List.getElem?_eq_getElem d1] at e1
      rw [Option.some.inj e0, Option.some.inj e1]
      rfl
    have hb1 : f_X4_has_l2 t m r a (nI (2 * k)) = if cmpL (rowL m (r + 1) (8 * (2 * k))) (rowL m a 0) ≠ 1 ∧ cmpL (rowL m a 0) (rowL m (r + 1) (8 * (2 * k + 1))) = -1 then some (.inr (.inr ())) else some (.inl (nI (2 * (k + 1)))) := by
      unfold f_X4_has_l2
      rw [h4, if_neg (nI_ge (by omega) (by omega)), h2, show (8 : Int32) = nI 8 from rfl, show (0 : Int32) = nI 0 from rfl, show (2 : Int32) = nI 2 from rfl, pk_mul, Nat.mul_comm (2 * k) 8, compare_spec h3 ha (by omega) (by omega) (by omega) hn, Option.bind_some, nI_1, pk_mul, Nat.mul_comm (2 * k + 1) 8, compare_spec ha h3 (by omega) (by omega) hn (by omega), Option.bind_some]
      simp only [lt_eq, nI_add]
      rw [show nI 0 = (0 : Int32) from rfl, show 2 * k + 2 = 2 * (k + 1) by omega]
      by_cases c1 : cmpL (rowL m (r + 1) (8 * (2 * k))) (rowL m a 0) = 1
      · rw [if_pos ((cgt _ _).mpr c1), if_neg (fun e => e.1 c1)]
      · rw [if_neg (fun e => c1 ((cgt _ _).mp e))]
        by_cases c2 : cmpL (rowL m a 0) (rowL m (r + 1) (8 * (2 * k + 1))) = -1
        · rw [if_neg (fun e => ((cge _ _).mp e) c2), if_pos ⟨c1, c2⟩]
        · rw [if_pos ((cge _ _).mpr c2), if_neg (fun e => c2 e.2)]
    rw [eD, hs]
    by_cases c : cmpL (rowL m (r + 1) (8 * (2 * k))) (rowL m a 0) ≠ 1 ∧ cmpL (rowL m a 0) (rowL m (r + 1) (8 * (2 * k + 1))) = -1
    · rw [if_pos c] at hb1
      rw [lp_exit hb1, decide_eq_true c.1, decide_eq_true c.2]
      rfl
    · rw [if_neg c] at hb1
      rw [lp_step (x' := nI (2 * (k + 1))) hb1, ih (k + 1) N (by omega) (by omega)]
      have : (decide (cmpL (rowL m (r + 1) (8 * (2 * k))) (rowL m a 0) ≠ 1) && decide (cmpL (rowL m a 0) (rowL m (r + 1) (8 * (2 * k + 1))) = -1)) = false := by
        simp only [Bool.and_eq_false_iff, decide_eq_false_iff_not]
        by_cases c1 : cmpL (rowL m (r + 1) (8 * (2 * k))) (rowL m a 0) = 1
        · exact Or.inl (fun e => e c1)
        · exact Or.inr (fun e => c ⟨c1, e⟩)
      rw [this, Bool.false_or]
theorem has_spec {t : List Sh} {m : Mi} {r cap a n k : Nat} {B : List Row} (h : RG t m r cap B) (ha : sh t a = some (.inr (.long, n))) (h8 : 8 ≤ n) (hn : n < 2 ^ 31) (hk : B.length = 2 * k) (hB : Up B) : f_X4_has t m r a = some (bI (par B (rowL m a 0))) := by
  unfold f_X4_has f_X4_has_j2
  have := has_lp h ha h8 hn k 0 FUEL (by omega) (by have := h.2.2.2.2.1; have := h.2.2.2.2.2.2.1; unfold FUEL; omega)
  rw [Nat.mul_zero, List.drop_zero, hs_par k B (rowL m a 0) hk hB rfl] at this
  exact this
