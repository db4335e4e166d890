/-! The reference's way of joining two ranges gives the same list as the class's. -/
theorem nx_spec {X : Row} (hX : R8 X) : ∀ (L : List Row) (c : Row), R8 c → (∀ e ∈ L, R8 e) → R8 (nx X c L) ∧ (nx X c L = c ∨ (nx X c L ∈ L ∧ cmpL (nx X c L) X = 1)) ∧ cmpL (nx X c L) c ≠ 1 ∧ ∀ e ∈ L, cmpL e X = 1 → cmpL (nx X c L) e ≠ 1 := by
  intro L
  induction L with
  | nil => intro c hc _; exact ⟨hc, Or.inl rfl, by show cmpL c c ≠ 1; rw [cmpL_rf]; decide, fun _ h => by cases h⟩
  | cons a L ih =>
    intro c hc hL
    have ha := hL a List.mem_cons_self
    have hL' : ∀ e ∈ L, R8 e := fun e he => hL e (List.mem_cons_of_mem _ he)
    rw [nx]
    by_cases q : cmpL a X = 1 ∧ cmpL a c = -1
    · rw [if_pos q]
      obtain ⟨h1, h2, h3, h4⟩ := ih a ha hL'
      refine ⟨h1, ?_, ?_, ?_⟩
      · rcases h2 with h | h
        · exact Or.inr ⟨by rw [h]; exact List.mem_cons_self, by rw [h]; exact q.1⟩
        · exact Or.inr ⟨List.mem_cons_of_mem _ h.1, h.2⟩
      · rw [cmp_le_lt h1 ha hc h3 q.2]; decide
      · intro e he hex
        rcases List.mem_cons.mp he with h | h
        · rw [h]; exact h3
        · exact h4 e h hex
    · rw [if_neg q]
      obtain ⟨h1, h2, h3, h4⟩ := ih c hc hL'
      refine ⟨h1, ?_, h3, ?_⟩
      · rcases h2 with h | h
        · exact Or.inl h
        · exact Or.inr ⟨List.mem_cons_of_mem _ h.1, h.2⟩
      · intro e he hex
        rcases List.mem_cons.mp he with h | h
        · subst h
          have hc2 : cmpL c e ≠ 1 := fun hh => q ⟨hex, (cmp_sw hc ha).1.mp hh⟩
          intro hbad
          have b1 := (cmp_sw h1 ha).1.mp hbad
          have b2 := cmp_lt_le ha h1 hc b1 h3
          exact hc2 ((cmp_sw ha hc).2.mp b2)
        · exact h4 e h hex
theorem par_all {O : List Row} {x : Row} (h : ∀ o ∈ O, cmpL o x ≠ 1) : par O x = od O.length := by
  induction O with
  | nil => rfl
  | cons a O ih =>
    rw [par, if_neg (h a List.mem_cons_self), ih (fun o ho => h o (List.mem_cons_of_mem _ ho)), List.length_cons, od_succ]
theorem par_snoc (O : List Row) (y x : Row) : par (O ++ [y]) x = if cmpL y x = 1 then par O x else !par O x := by
  induction O with
  | nil => rfl
  | cons a O ih =>
    rw [List.cons_append, par, ih, par]
    by_cases h1 : cmpL a x = 1
    · rw [if_pos h1, if_pos h1]
    · rw [if_neg h1, if_neg h1]
      by_cases h2 : cmpL y x = 1
      · rw [if_pos h2, if_pos h2]
      · rw [if_neg h2, if_neg h2]
theorem par_like {A : List Row} {x y : Row} (h : ∀ a ∈ A, (cmpL a x = 1 ↔ cmpL a y = 1)) : par A x = par A y := by
  induction A with
  | nil => rfl
  | cons a A ih =>
    rw [par, par, ih (fun b hb => h b (List.mem_cons_of_mem _ hb))]
    have := h a List.mem_cons_self
    by_cases h1 : cmpL a x = 1
    · rw [if_pos h1, if_pos (this.mp h1)]
    · rw [if_neg h1, if_neg (fun e => h1 (this.mpr e))]
theorem up_snoc {O : List Row} {y : Row} (hO : Up O) (hy : R8 y) (h : ∀ o ∈ O, cmpL o y = -1) : Up (O ++ [y]) := by
  refine ⟨List.pairwise_append.mpr ⟨hO.1, List.pairwise_singleton _ _, fun a ha b hb => ?_⟩, fun a ha => ?_⟩
  · rw [List.mem_singleton.mp hb]; exact h a ha
  · rcases List.mem_append.mp ha with h1 | h1
    · exact hO.2 a h1
    · rw [List.mem_singleton.mp h1]; exact hy
def cbs (how : Nat) (A B : List Row) : Nat → Row → Bool → List Row → Bool × List Row
  | 0, _, i, O => (i, O)
  | n + 1, X, i, O => if nx X (nx X EN A) B = EN then (kp how (par A X) (par B X), if kp how (par A X) (par B X) = i then O else O ++ [X]) else cbs how A B n (nx X (nx X EN A) B) (kp how (par A X) (par B X)) (if kp how (par A X) (par B X) = i then O else O ++ [X])
def fin' (q : Bool × List Row) : List Row := q.2 ++ (if q.1 then [EN] else [])
/-- how many bounds of both are above X -/
def cnt (A B : List Row) (X : Row) : Nat := (A ++ B).countP (fun e => decide (cmpL e X = 1))
theorem countP_lt {L : List Row} {p q : Row → Bool} (h : ∀ a ∈ L, p a = true → q a = true) {y : Row} (hy : y ∈ L) (hp : p y = false) (hq : q y = true) : L.countP p < L.countP q := by
  induction L with
  | nil => cases hy
  | cons a L ih =>
    have hle : L.countP p ≤ L.countP q := List.countP_mono_left (fun b hb => h b (List.mem_cons_of_mem _ hb))
    rcases List.mem_cons.mp hy with e | hy'
    · subst e
      rw [List.countP_cons, List.countP_cons, hp, hq]
      simp
      omega
    · have := ih (fun b hb => h b (List.mem_cons_of_mem _ hb)) hy'
      rw [List.countP_cons, List.countP_cons]
      have h1 := h a List.mem_cons_self
      cases hpa : p a
      · simp; split <;> omega
      · rw [h1 hpa]; simp; omega
theorem EN8 : R8 EN := rfl
theorem LE8 : R8 LE := rfl
theorem cbs_step {how : Nat} {A B : List Row} (hA : Up A) (hB : Up B) {X : Row} {i : Bool} {O : List Row} (hX : R8 X) (hO : Up O) (hOX : ∀ o ∈ O, cmpL o X = -1) (hi : i = od O.length) (hpar : ∀ x, R8 x → cmpL x X = -1 → par O x = kp how (par A x) (par B x)) {s : Bool} (hs : s = kp how (par A X) (par B X)) {O' : List Row} (hO' : O' = if s = i then O else O ++ [X]) {Y : Row} (hY : Y = nx X (nx X EN A) B) :
    Up O' ∧ (∀ o ∈ O', cmpL o X ≠ 1) ∧ s = od O'.length ∧ (∀ x, R8 x → cmpL x Y = -1 → par O' x = kp how (par A x) (par B x)) ∧ R8 Y ∧ (Y = EN ∨ (Y ∈ A ++ B ∧ cmpL Y X = 1)) ∧ cmpL Y EN ≠ 1 ∧ O'.length ≤ O.length + 1 := by
  obtain ⟨a1, a2, a3, a4⟩ := nx_spec hX A EN EN8 hA.2
  obtain ⟨b1, b2, b3, b4⟩ := nx_spec hX B (nx X EN A) a1 hB.2
  rw [← hY] at b1 b2 b3 b4
  have yEN : cmpL Y EN ≠ 1 := by
    intro h
    have h1 := (cmp_sw b1 EN8).1.mp h
    have h2 := cmp_lt_le EN8 b1 a1 h1 b3
    exact a3 ((cmp_sw EN8 a1).2.mp h2)
  have yA : ∀ e ∈ A, cmpL e X = 1 → cmpL Y e ≠ 1 := by
    intro e he hex h
    have e8 := hA.2 e he
    have h1 := (cmp_sw b1 e8).1.mp h
    have h2 := cmp_lt_le e8 b1 a1 h1 b3
    exact a4 e he hex ((cmp_sw e8 a1).2.mp h2)
  have yM : Y = EN ∨ (Y ∈ A ++ B ∧ cmpL Y X = 1) := by
    rcases b2 with h | h
    · rw [h]
      rcases a2 with h' | h'
      · exact Or.inl h'
      · exact Or.inr ⟨List.mem_append_left _ h'.1, h'.2⟩
    · exact Or.inr ⟨List.mem_append_right _ h.1, h.2⟩
  have upO : Up O' := by
    rw [hO']
    split
    · exact hO
    · exact up_snoc hO hX hOX
  have leX : ∀ o ∈ O', cmpL o X ≠ 1 := by
    intro o ho
    rw [hO'] at ho
    split at ho
    · rw [hOX o ho]; decide
    · rcases List.mem_append.mp ho with h | h
      · rw [hOX o h]; decide
      · rw [List.mem_singleton.mp h, cmpL_rf]; decide
  have hod : s = od O'.length := by
    rw [hO']
    by_cases h : s = i
    · rw [if_pos h, h, hi]
    · rw [if_neg h, List.length_append, List.length_singleton, od_succ, ← hi]
      cases s <;> cases i <;> simp at h ⊢
  refine ⟨upO, leX, hod, fun x hx hxY => ?_, b1, yM, yEN, ?_⟩
  · by_cases h : cmpL x X = -1
    · -- below the mark
      rw [← hpar x hx h, hO']
      split
      · rfl
      · rw [par_snoc, if_pos ((cmp_sw hx hX).2.mp h)]
    · -- between the mark and the next end
      have hXx : cmpL X x ≠ 1 := fun e => h ((cmp_sw hX hx).1.mp e)
      have same : ∀ (C : List Row), (∀ e ∈ C, R8 e) → (∀ e ∈ C, cmpL e X = 1 → cmpL Y e ≠ 1) → par C x = par C X := by
        intro C hC8 hC
        refine par_like (fun e he => ⟨fun hex => ?_, fun heX => ?_⟩)
        · -- e above x, so above X
          have h1 := (cmp_sw (hC8 e he) hx).1.mp hex
          exact (cmp_sw hX (hC8 e he)).2.mp (cmp_le_lt hX hx (hC8 e he) hXx h1)
        · have h1 := hC e he heX
          have h2 := cmp_lt_le hx b1 (hC8 e he) hxY h1
          exact (cmp_sw hx (hC8 e he)).2.mp h2
      rw [same A hA.2 yA, same B hB.2 b4, ← hs, hod]
      refine par_all (fun o ho hbad => ?_)
      have o8 := upO.2 o ho
      have h1 := (cmp_sw o8 hx).1.mp hbad
      have h2 := cmp_le_lt hX hx o8 hXx h1
      exact leX o ho ((cmp_sw hX o8).2.mp h2)
  · rw [hO']
    split
    · omega
    · simp
theorem cbs_fin {how : Nat} {A B : List Row} (hA : Up A) (hB : Up B) (eA : ∀ a ∈ A, cmpL a EN ≠ 1) (eB : ∀ b ∈ B, cmpL b EN ≠ 1) (pA : od A.length = false) (pB : od B.length = false) {X : Row} (hX : R8 X) (hXE : cmpL X EN = -1) {s : Bool} {O' : List Row} (h1 : Up O') (h2 : ∀ o ∈ O', cmpL o X ≠ 1) (h3 : s = od O'.length) (h4 : ∀ x, R8 x → cmpL x EN = -1 → par O' x = kp how (par A x) (par B x)) : fin' (s, O') = jo how A B := by
  have k00 : kp how false false = false := by unfold kp; split; rfl; split <;> rfl
  obtain ⟨j1, j2⟩ := jo_up (how := how) hA hB
  have ltE : ∀ o ∈ O', cmpL o EN = -1 := fun o ho => cmp_le_lt (h1.2 o ho) hX EN8 (h2 o ho) hXE
  have high : ∀ x, R8 x → cmpL x EN ≠ -1 → kp how (par A x) (par B x) = false := by
    intro x hx hxe
    have e1 : ∀ (C : List Row), (∀ c ∈ C, R8 c) → (∀ c ∈ C, cmpL c EN ≠ 1) → ∀ c ∈ C, cmpL c x ≠ 1 := by
      intro C c8 hC c hc hbad
      have q1 := (cmp_sw (c8 c hc) hx).1.mp hbad
      exact hxe (cmp_lt_le hx (c8 c hc) EN8 q1 (hC c hc))
    rw [par_all (e1 A hA.2 eA), par_all (e1 B hB.2 eB), pA, pB, k00]
  refine up_uniq _ _ ?_ j1 (fun x hx => ?_)
  · unfold fin'
    cases s
    · simpa using h1
    · exact up_snoc h1 EN8 ltE
  · rw [j2 x hx]
    unfold fin'
    by_cases hxe : cmpL x EN = -1
    · rw [← h4 x hx hxe]
      cases s
      · simp
      · show par (O' ++ [EN]) x = _
        rw [par_snoc, if_pos ((cmp_sw hx EN8).2.mp hxe)]
    · rw [high x hx hxe]
      have hall : ∀ o ∈ O', cmpL o x ≠ 1 := by
        intro o ho hbad
        have q1 := (cmp_sw (h1.2 o ho) hx).1.mp hbad
        exact hxe (cmpL_tr x o EN (hx.trans (h1.2 o ho).symm) ((h1.2 o ho).trans EN8.symm) q1 (ltE o ho))
      have hEx : cmpL EN x ≠ 1 := fun e => hxe ((cmp_sw EN8 hx).1.mp e)
      cases hs : s
      · simp only [Bool.false_eq_true, if_false, List.append_nil]
        rw [par_all hall, ← h3, hs]
      · show par (O' ++ [EN]) x = _
        rw [par_snoc, if_neg hEx, par_all hall, ← h3, hs]
        rfl
theorem cbs_spec {how : Nat} {A B : List Row} (hA : Up A) (hB : Up B) (eA : ∀ a ∈ A, cmpL a EN ≠ 1) (eB : ∀ b ∈ B, cmpL b EN ≠ 1) (pA : od A.length = false) (pB : od B.length = false) :
    ∀ (n : Nat) (X : Row) (i : Bool) (O : List Row), cnt A B X ≤ n → R8 X → cmpL X EN = -1 → Up O → (∀ o ∈ O, cmpL o X = -1) → i = od O.length → (∀ x, R8 x → cmpL x X = -1 → par O x = kp how (par A x) (par B x)) →
    fin' (cbs how A B (n + 1) X i O) = jo how A B ∧ (cbs how A B (n + 1) X i O).2.length ≤ O.length + 1 + cnt A B X := by
  intro n
  induction n with
  | zero =>
    intro X i O hc hX hXE hO hOX hi hpar
    obtain ⟨s1, s2, s3, s4, s5, s6, s7, s8⟩ := cbs_step hA hB hX hO hOX hi hpar rfl rfl rfl
    have hY : nx X (nx X EN A) B = EN := by
      rcases s6 with h | h
      · exact h
      · exfalso
        have : 0 < cnt A B X := List.countP_pos_iff.mpr ⟨_, h.1, decide_eq_true h.2⟩
        omega
    rw [cbs, if_pos hY]
    rw [hY] at s4
    exact ⟨cbs_fin hA hB eA eB pA pB hX hXE s1 s2 s3 s4, by show (if _ then _ else _ : List Row).length ≤ _; omega⟩
  | succ n ih =>
    intro X i O hc hX hXE hO hOX hi hpar
    obtain ⟨s1, s2, s3, s4, s5, s6, s7, s8⟩ := cbs_step hA hB hX hO hOX hi hpar rfl rfl rfl
    rw [cbs]
    by_cases hY : nx X (nx X EN A) B = EN
    · rw [if_pos hY]
      rw [hY] at s4
      exact ⟨cbs_fin hA hB eA eB pA pB hX hXE s1 s2 s3 s4, by show (if _ then _ else _ : List Row).length ≤ _; omega⟩
    · rw [if_neg hY]
      have h6 := s6.resolve_left hY
      have hXY := (cmp_sw s5 hX).1.mp h6.2
      have hlt : cnt A B (nx X (nx X EN A) B) < cnt A B X := by
        unfold cnt
        refine countP_lt (y := nx X (nx X EN A) B) (fun a ha hp => ?_) h6.1 (by rw [cmpL_rf]; rfl) (decide_eq_true h6.2)
        have a8 : R8 a := (List.mem_append.mp ha).elim (hA.2 a) (hB.2 a)
        have q := (cmp_sw a8 s5).1.mp (of_decide_eq_true hp)
        exact decide_eq_true ((cmp_sw hX a8).2.mp (cmpL_tr X _ a (hX.trans s5.symm) (s5.trans a8.symm) hXY q))
      obtain ⟨g1, g2⟩ := ih _ _ _ (by omega) s5 (cmp_lt_of s5 EN8 (fun e => hY (cmpL_eq _ _ (s5.trans EN8.symm) e)) s7) s1 (fun o ho => cmp_le_lt (s1.2 o ho) hX s5 (s2 o ho) hXY) s3 s4
      exact ⟨g1, by omega⟩
