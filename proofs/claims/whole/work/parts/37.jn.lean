/-! The merge's result: strictly rising, with the parities that are asked for. -/
theorem jn_stp {how : Nat} {A B A' B' J : List Row} {p q p' q' w w' : Bool} {x0 : Row} (hw : w = kp how p q) (hw' : w' = kp how p' q') (h0 : R8 x0) (hJ : Up J) (hJm : ∀ y ∈ J, cmpL x0 y = -1)
    (hJp : ∀ x, R8 x → (w' ^^ par J x) = kp how (p' ^^ par A' x) (q' ^^ par B' x)) (hge : ∀ x, R8 x → cmpL x0 x ≠ 1 → (p ^^ par A x) = (p' ^^ par A' x) ∧ (q ^^ par B x) = (q' ^^ par B' x)) (hlt : ∀ x, R8 x → cmpL x0 x = 1 → par A x = false ∧ par B x = false) :
    Up (if kp how p' q' = w then J else x0 :: J) ∧ ∀ x, R8 x → (w ^^ par (if kp how p' q' = w then J else x0 :: J) x) = kp how (p ^^ par A x) (q ^^ par B x) := by
  have habove : ∀ x, R8 x → cmpL x0 x = 1 → par J x = false := by
    intro x hx h
    refine par_above (fun y hy => ?_)
    have hy8 := hJ.2 y hy
    exact (cmp_sw hx hy8).2.mp (cmpL_tr x x0 y (hx.trans h0.symm) (h0.trans hy8.symm) ((cmp_sw h0 hx).1.mp h) (hJm y hy))
  by_cases hk : kp how p' q' = w
  · rw [if_pos hk]
    refine ⟨hJ, fun x hx => ?_⟩
    by_cases h1 : cmpL x0 x = 1
    · rw [habove x hx h1, (hlt x hx h1).1, (hlt x hx h1).2, Bool.xor_false, Bool.xor_false, Bool.xor_false]
      exact hw
    · rw [(hge x hx h1).1, (hge x hx h1).2, ← hJp x hx, hw', hk]
  · rw [if_neg hk]
    have hww : w' = !w := by rw [hw']; revert hk; cases kp how p' q' <;> cases w <;> simp
    refine ⟨⟨List.pairwise_cons.mpr ⟨hJm, hJ.1⟩, fun a ha => ?_⟩, fun x hx => ?_⟩
    · rcases List.mem_cons.mp ha with e | ha
      · rw [e]; exact h0
      · exact hJ.2 a ha
    · rw [show par (x0 :: J) x = (if cmpL x0 x = 1 then par J x else !par J x) from rfl]
      by_cases h1 : cmpL x0 x = 1
      · rw [if_pos h1, habove x hx h1]
        show (w ^^ false) = _
        have e1 := (hlt x hx h1).1
        have e2 := (hlt x hx h1).2
        rw [Bool.xor_false]
        rw [show kp how (p ^^ par A x) (q ^^ par B x) = kp how (p ^^ false) (q ^^ false) by rw [e1, e2], Bool.xor_false, Bool.xor_false]
        exact hw
      · rw [if_neg h1]
        have e1 := (hge x hx h1).1
        have e2 := (hge x hx h1).2
        have e3 := hJp x hx
        show (w ^^ !par J x) = kp how (p ^^ par A x) (q ^^ par B x)
        rw [e1, e2, ← e3, hww]
        cases w <;> cases par J x <;> rfl
theorem xor_not (p a : Bool) : (p ^^ !a) = (!p ^^ a) := by cases p <;> cases a <;> rfl
theorem par_cons_ge {a : Row} {A : List Row} {x : Row} (h : cmpL a x ≠ 1) (p : Bool) : (p ^^ par (a :: A) x) = (!p ^^ par A x) := by
  rw [par, if_neg h, xor_not]
theorem jn_up (how : Nat) : ∀ (n : Nat) (A B : List Row) (p q w : Bool), A.length + B.length ≤ n → Up A → Up B → w = kp how p q →
    Up (jn how n A B p q w) ∧ ∀ x, R8 x → (w ^^ par (jn how n A B p q w) x) = kp how (p ^^ par A x) (q ^^ par B x) := by
  intro n
  induction n with
  | zero =>
    intro A B p q w hn _ _ hw
    have hA : A = [] := List.eq_nil_of_length_eq_zero (by omega)
    have hB : B = [] := List.eq_nil_of_length_eq_zero (by omega)
    rw [hA, hB]
    refine ⟨⟨List.Pairwise.nil, fun _ h => by cases h⟩, fun x _ => ?_⟩
    simp only [jn, par, Bool.xor_false]
    exact hw
  | succ n ih =>
    intro A B p q w hn hA hB hw
    cases A with
    | nil =>
      cases B with
      | nil =>
        refine ⟨⟨List.Pairwise.nil, fun _ h => by cases h⟩, fun x _ => ?_⟩
        simp only [jn, par, Bool.xor_false]
        exact hw
      | cons b B =>
        have hl : ([] : List Row).length + B.length ≤ n := by simp at hn ⊢; omega
        have e : jn how (n + 1) [] (b :: B) p q w = if kp how p (!q) = w then jn how n [] B p (!q) (kp how p (!q)) else b :: jn how n [] B p (!q) (kp how p (!q)) := by
          rw [jn]
          by_cases hk : kp how p (!q) = w
          · rw [if_pos hk, if_pos hk, hk]
          · rw [if_neg hk, if_neg hk]
            congr 2
            revert hk; cases kp how p (!q) <;> cases w <;> simp
        rw [e]
        obtain ⟨g1, g2⟩ := ih [] B p (!q) (kp how p (!q)) hl hA hB.tail rfl
        have e2 : (if kp how p (!q) = w then jn how n [] B p (!q) (kp how p (!q)) else b :: jn how n [] B p (!q) (kp how p (!q))) = if kp how p (!q) = w then jn how n [] B p (!q) (kp how p (!q)) else b :: jn how n [] B p (!q) (kp how p (!q)) := rfl
        refine jn_stp hw rfl hB.r8 g1 (fun y hy => ?_) g2 (fun x hx h => ⟨rfl, par_cons_ge h q⟩) (fun x hx h => ⟨rfl, ?_⟩)
        · rcases jn_mem how _ _ _ _ _ _ y hy with h | h
          · cases h
          · exact hB.head y h
        · exact par_above (fun y hy => (List.mem_cons.mp hy).elim (fun e => by rw [e]; exact h) (fun hy => hB.above hx h y hy))
    | cons a A =>
      cases B with
      | nil =>
        have hl : A.length + ([] : List Row).length ≤ n := by simp at hn ⊢; omega
        have e : jn how (n + 1) (a :: A) [] p q w = if kp how (!p) q = w then jn how n A [] (!p) q (kp how (!p) q) else a :: jn how n A [] (!p) q (kp how (!p) q) := by
          rw [jn]
          by_cases hk : kp how (!p) q = w
          · rw [if_pos hk, if_pos hk, hk]
          · rw [if_neg hk, if_neg hk]
            congr 2
            revert hk; cases kp how (!p) q <;> cases w <;> simp
        rw [e]
        obtain ⟨g1, g2⟩ := ih A [] (!p) q (kp how (!p) q) hl hA.tail hB rfl
        refine jn_stp hw rfl hA.r8 g1 (fun y hy => ?_) g2 (fun x hx h => ⟨par_cons_ge h p, rfl⟩) (fun x hx h => ⟨?_, rfl⟩)
        · rcases jn_mem how _ _ _ _ _ _ y hy with h | h
          · exact hA.head y h
          · cases h
        · exact par_above (fun y hy => (List.mem_cons.mp hy).elim (fun e => by rw [e]; exact h) (fun hy => hA.above hx h y hy))
      | cons b B =>
        have up : ∀ {c : Row} {C : List Row} {x : Row}, Up (c :: C) → R8 x → cmpL c x = 1 → par (c :: C) x = false := fun hC hx h => par_above (fun y hy => (List.mem_cons.mp hy).elim (fun e => by rw [e]; exact h) (fun hy => hC.above hx h y hy))
        have far : ∀ {c d : Row} {C : List Row}, Up (d :: C) → R8 c → cmpL c d = -1 → ∀ y ∈ d :: C, cmpL c y = -1 := fun {c d C} hC hc h y hy => (List.mem_cons.mp hy).elim (fun e => by rw [e]; exact h) (fun hy => cmpL_tr c d y (hc.trans hC.r8.symm) (hC.r8.trans (hC.2 y (List.mem_cons_of_mem _ hy)).symm) h (hC.head y hy))
        rcases cmpL_vals a b with hc | hc | hc
        · -- the same
          have hab : a = b := cmpL_eq a b (hA.r8.trans hB.r8.symm) hc
          subst hab
          have hl : A.length + B.length ≤ n := by simp at hn ⊢; omega
          have e : jn how (n + 1) (a :: A) (a :: B) p q w = if kp how (!p) (!q) = w then jn how n A B (!p) (!q) (kp how (!p) (!q)) else a :: jn how n A B (!p) (!q) (kp how (!p) (!q)) := by
            rw [jn, hc, if_neg (by decide), if_neg (by decide)]
            by_cases hk : kp how (!p) (!q) = w
            · rw [if_pos hk, if_pos hk, hk]
            · rw [if_neg hk, if_neg hk]
              congr 2
              revert hk; cases kp how (!p) (!q) <;> cases w <;> simp
          rw [e]
          obtain ⟨g1, g2⟩ := ih A B (!p) (!q) (kp how (!p) (!q)) hl hA.tail hB.tail rfl
          refine jn_stp hw rfl hA.r8 g1 (fun y hy => ?_) g2 (fun x hx h => ⟨par_cons_ge h p, par_cons_ge h q⟩) (fun x hx h => ⟨up hA hx h, up hB hx h⟩)
          rcases jn_mem how _ _ _ _ _ _ y hy with h | h
          · exact hA.head y h
          · exact hB.head y h
        · -- b is lower
          have hba : cmpL b a = -1 := (cmp_sw hA.r8 hB.r8).1.mp hc
          have hl : (a :: A).length + B.length ≤ n := by simp at hn ⊢; omega
          have e : jn how (n + 1) (a :: A) (b :: B) p q w = if kp how p (!q) = w then jn how n (a :: A) B p (!q) (kp how p (!q)) else b :: jn how n (a :: A) B p (!q) (kp how p (!q)) := by
            rw [jn, hc, if_pos (by decide)]
            by_cases hk : kp how p (!q) = w
            · rw [if_pos hk, if_pos hk, hk]
            · rw [if_neg hk, if_neg hk]
              congr 2
              revert hk; cases kp how p (!q) <;> cases w <;> simp
          rw [e]
          obtain ⟨g1, g2⟩ := ih (a :: A) B p (!q) (kp how p (!q)) hl hA hB.tail rfl
          refine jn_stp hw rfl hB.r8 g1 (fun y hy => ?_) g2 (fun x hx h => ⟨rfl, par_cons_ge h q⟩) (fun x hx h => ⟨?_, up hB hx h⟩)
          · rcases jn_mem how _ _ _ _ _ _ y hy with h | h
            · exact far hA hB.r8 hba y h
            · exact hB.head y h
          · refine up hA hx ?_
            have h1 := (cmp_sw hB.r8 hx).1.mp h
            exact (cmp_sw hx hA.r8).2.mp (cmpL_tr x b a (hx.trans hB.r8.symm) (hB.r8.trans hA.r8.symm) h1 hba)
        · -- a is lower
          have hl : A.length + (b :: B).length ≤ n := by simp at hn ⊢; omega
          have e : jn how (n + 1) (a :: A) (b :: B) p q w = if kp how (!p) q = w then jn how n A (b :: B) (!p) q (kp how (!p) q) else a :: jn how n A (b :: B) (!p) q (kp how (!p) q) := by
            rw [jn, hc, if_neg (by decide), if_pos (by decide)]
            by_cases hk : kp how (!p) q = w
            · rw [if_pos hk, if_pos hk, hk]
            · rw [if_neg hk, if_neg hk]
              congr 2
              revert hk; cases kp how (!p) q <;> cases w <;> simp
          rw [e]
          obtain ⟨g1, g2⟩ := ih A (b :: B) (!p) q (kp how (!p) q) hl hA.tail hB rfl
          refine jn_stp hw rfl hA.r8 g1 (fun y hy => ?_) g2 (fun x hx h => ⟨par_cons_ge h p, rfl⟩) (fun x hx h => ⟨up hA hx h, ?_⟩)
          · rcases jn_mem how _ _ _ _ _ _ y hy with h | h
            · exact hA.head y h
            · exact far hB hA.r8 hc y h
          · refine up hB hx ?_
            have h1 := (cmp_sw hA.r8 hx).1.mp h
            exact (cmp_sw hx hB.r8).2.mp (cmpL_tr x a b (hx.trans hA.r8.symm) (hA.r8.trans hB.r8.symm) h1 hc)
/-- what the class makes of two ranges -/
def jo (how : Nat) (A B : List Row) : List Row := jn how (A.length + B.length) A B false false false
theorem jo_up {how : Nat} {A B : List Row} (hA : Up A) (hB : Up B) : Up (jo how A B) ∧ ∀ x, R8 x → par (jo how A B) x = kp how (par A x) (par B x) := by
  have h0 : false = kp how false false := by unfold kp; split; rfl; split <;> rfl
  obtain ⟨h1, h2⟩ := jn_up how (A.length + B.length) A B false false false (Nat.le_refl _) hA hB h0
  refine ⟨h1, fun x hx => ?_⟩
  have := h2 x hx
  simp only [Bool.false_xor] at this
  exact this
