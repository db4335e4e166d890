/-! Texts of versions, and how long they are. -/
def dgF : Nat → Nat → List Nat
  | 0, _ => []
  | d + 1, n => if n < 10 then [48 + n] else dgF d (n / 10) ++ [48 + n % 10]
/-- the digits of a number below ten to the tenth -/
def dgs (n : Nat) : List Nat := dgF 10 n
theorem dgF_len : ∀ d k n, n < 10 ^ k → 1 ≤ k → (dgF d n).length ≤ k := by
  intro d
  induction d with
  | zero => intro k n _ _; exact Nat.zero_le _
  | succ d ih =>
    intro k n h hk
    rw [dgF]
    split
    · simp only [List.length_singleton]; exact hk
    · next h1 =>
      obtain ⟨k, rfl⟩ : ∃ y, k = y + 1 := ⟨k - 1, by omega⟩
      have hk1 : 1 ≤ k := by
        rcases Nat.eq_zero_or_pos k with h0 | h0
        · rw [h0] at h; omega
        · exact h0
      rw [Nat.pow_succ] at h
      have := ih k (n / 10) (by omega) hk1
      rw [List.length_append, List.length_singleton]
      omega
theorem dgF_pos : ∀ d n, 1 ≤ d → 1 ≤ (dgF d n).length := by
  intro d n hd
  obtain ⟨d, rfl⟩ : ∃ y, d = y + 1 := ⟨d - 1, by omega⟩
  rw [dgF]
  split
  · simp
  · rw [List.length_append, List.length_singleton]; omega
/-- the signs of a word -/
def wbL (w : Nat) : Nat → Nat → List Nat
  | 0, _ => []
  | d + 1, i => if kB w i = 0 then wbL w d (i + 1) else kB w i :: wbL w d (i + 1)
def wb (w : Nat) : List Nat := wbL w 8 0
theorem wbL_len (w : Nat) : ∀ d i, (wbL w d i).length ≤ d := by
  intro d
  induction d with
  | zero => intro i; exact Nat.le_refl _
  | succ d ih =>
    intro i
    rw [wbL]
    have := ih (i + 1)
    split
    · omega
    · rw [List.length_cons]; omega
def itx (w : Nat) : List Nat := if w < 1099511627776 then dgs w else wb w
def ity : List Nat → List Nat
  | [] => []
  | w :: r => 46 :: (itx w ++ ity r)
def itz : List Nat → List Nat
  | [] => []
  | w :: r => 45 :: (itx w ++ ity r)
/-- the text of a version -/
def vtx (ns is : List Nat) : List Nat := dgs (ns.getD 0 0) ++ (46 :: (dgs (ns.getD 1 0) ++ (46 :: (dgs (ns.getD 2 0) ++ itz is))))
theorem itx_len {w : Nat} (h : okw w) : (itx w).length ≤ 8 := by
  unfold itx
  split
  · next h1 =>
    rcases h with h | h
    · exact dgF_len 10 8 w (by omega) (by omega)
    · omega
  · exact wbL_len w 8 0
theorem ity_len : ∀ is, (∀ w ∈ is, okw w) → (ity is).length ≤ 9 * is.length := by
  intro is
  induction is with
  | nil => intro _; exact Nat.le_refl _
  | cons w r ih =>
    intro h
    have h1 := itx_len (h w List.mem_cons_self)
    have h2 := ih (fun x hx => h x (List.mem_cons_of_mem _ hx))
    rw [ity, List.length_cons, List.length_append, List.length_cons]
    omega
theorem itz_ity (is : List Nat) : (itz is).length = (ity is).length := by
  cases is with
  | nil => rfl
  | cons w r => rw [itz, ity, List.length_cons, List.length_cons]
theorem ity_app (a b : List Nat) : ity (a ++ b) = ity a ++ ity b := by
  induction a with
  | nil => rfl
  | cons w r ih => rw [List.cons_append, ity, ity, ih, List.cons_append, List.append_assoc]
/-- a bound that can be written: the end, or a version of at most 67 signs -/
def BW (r : Row) : Prop := r = EN ∨ ∃ ns is, r = rW ns is ∧ (∀ j, ns.getD j 0 ≤ 1000000000) ∧ is.length ≤ 5 ∧ (∀ w ∈ is, okw w) ∧ (vtx ns is).length ≤ 67
theorem ok0 : okw 0 := Or.inl (by omega)
theorem dgs_10 {n : Nat} (h : n ≤ 1000000000) : (dgs n).length ≤ 10 := dgF_len 10 10 n (by omega) (by omega)
theorem dgs_9 {n : Nat} (h : n < 1000000000) : (dgs n).length ≤ 9 := dgF_len 10 9 n (by omega) (by omega)
theorem vtx_len (ns is : List Nat) : (vtx ns is).length = (dgs (ns.getD 0 0)).length + 1 + (dgs (ns.getD 1 0)).length + 1 + (dgs (ns.getD 2 0)).length + (ity is).length := by
  unfold vtx
  rw [List.length_append, List.length_cons, List.length_append, List.length_cons, List.length_append, itz_ity]
  omega
theorem BV_LE : BW LE := Or.inr ⟨[0, 0, 0], [0], by decide, fun j => by rcases j with _ | _ | _ | j <;> simp, by decide, fun w hw => by rw [List.mem_singleton.mp hw]; exact ok0, by decide⟩
theorem BV_EN : BW EN := Or.inl rfl
theorem BV_A {f : Nat} {ns is : List Nat} (h : VW f ns is) (hi : ∀ w ∈ is, okw w) : BW (rW ns is) := by
  have hn : ∀ j, ns.getD j 0 < 1000000000 := getD_P h.1.2.2 (by omega)
  refine Or.inr ⟨ns, is, rfl, fun j => by have := hn j; omega, by have := h.2.1.1; omega, hi, ?_⟩
  rw [vtx_len]
  have := dgs_9 (hn 0)
  have := dgs_9 (hn 1)
  have := dgs_9 (hn 2)
  have := ity_len is hi
  have := h.2.1.1
  omega
theorem BV_s {ns is : List Nat} (hn : ∀ j, ns.getD j 0 ≤ 1000000000) (h : is = [] ∨ is = [0]) : BW (rW ns is) := by
  have hl : (ity is).length ≤ 2 ∧ is.length ≤ 1 := by rcases h with h | h <;> rw [h] <;> decide
  refine Or.inr ⟨ns, is, rfl, hn, by omega, fun w hw => ?_, ?_⟩
  · rcases h with h | h
    · rw [h] at hw; cases hw
    · rw [h] at hw; rw [List.mem_singleton.mp hw]; exact ok0
  · rw [vtx_len]
    have := dgs_10 (hn 0)
    have := dgs_10 (hn 1)
    have := dgs_10 (hn 2)
    omega
theorem BV_nxt {f : Nat} {ns is : List Nat} (h : VW f ns is) (hi : ∀ w ∈ is, okw w) : BW (rW (nxt ns is).1 (nxt ns is).2) := by
  have hn : ∀ j, ns.getD j 0 < 1000000000 := getD_P h.1.2.2 (by omega)
  unfold nxt
  split
  · refine BV_s (fun j => ?_) (Or.inr rfl)
    have a := hn 0
    have b := hn 1
    have c := hn 2
    rcases j with _ | _ | _ | j
    · show ns.getD 0 0 ≤ _; omega
    · show ns.getD 1 0 ≤ _; omega
    · show ns.getD 2 0 + 1 ≤ _; omega
    · show 0 ≤ _; omega
  · have h4 := h.2.1.1
    refine Or.inr ⟨ns, is ++ [0], rfl, fun j => by have := hn j; omega, by rw [List.length_append, List.length_singleton]; omega, fun w hw => ?_, ?_⟩
    · rcases List.mem_append.mp hw with hw | hw
      · exact hi w hw
      · rw [List.mem_singleton.mp hw]; exact ok0
    · rw [vtx_len, ity_app, List.length_append]
      have := dgs_9 (hn 0)
      have := dgs_9 (hn 1)
      have := dgs_9 (hn 2)
      have := ity_len is hi
      have : (ity [0]).length = 2 := by decide
      omega
theorem rsN_le {f : Nat} {ns is : List Nat} (h : VW f ns is) (k j : Nat) : (rsN ns k).getD j 0 ≤ 1000000000 := by
  have hn : ∀ j, ns.getD j 0 < 1000000000 := getD_P h.1.2.2 (by omega)
  by_cases hj : j < 3
  · rw [rsN_get ns k j hj]
    have := hn j
    split
    · omega
    · split <;> omega
  · rw [List.getD_eq_getElem?_getD, List.getElem?_eq_none (by unfold rsN; simp only [List.length_cons, List.length_nil]; omega)]
    show 0 ≤ _
    omega
theorem plo_BV {o f : Nat} {ns is : List Nat} (h : VW f ns is) (hi : ∀ w ∈ is, okw w) : BW (plo o f ns is) := by
  unfold plo
  split
  · exact BV_LE
  · split
    · split
      · exact BV_nxt h hi
      · exact BV_s (rsN_le h _) (Or.inl rfl)
    · exact BV_A h hi
theorem phi_BV {o f : Nat} {ns is : List Nat} (h : VW f ns is) (hi : ∀ w ∈ is, okw w) : BW (phi o f ns is) := by
  have hn : ∀ j, ns.getD j 0 < 1000000000 := getD_P h.1.2.2 (by omega)
  unfold phi
  split
  · exact BV_EN
  · split
    · split
      · exact BV_A h hi
      · exact BV_s (fun j => by have := hn j; omega) (Or.inr rfl)
    · split
      · exact BV_s (rsN_le h _) (Or.inr rfl)
      · split
        · exact BV_s (rsN_le h _) (Or.inr rfl)
        · split
          · exact BV_nxt h hi
          · exact BV_s (rsN_le h _) (Or.inr rfl)
theorem prt_BV {T : Nat → Nat} {n b e : Nat} (hV : ∀ f ns is, rdv T (b + opn T n b) e = some (f, (ns, is)) → VW f ns is ∧ ∀ w ∈ is, okw w) : BW (prt T n b e).1 ∧ BW (prt T n b e).2 := by
  unfold prt
  split
  · exact ⟨BV_LE, BV_EN⟩
  · split
    · exact ⟨BV_LE, BV_EN⟩
    · next f ns is h => exact ⟨plo_BV (hV f ns is h).1 (hV f ns is h).2, phi_BV (hV f ns is h).1 (hV f ns is h).2⟩
/-- bounds of a join are bounds of its parts -/
theorem jn_memQ (how : Nat) : ∀ (n : Nat) (A B : List Row) (p q w : Bool), ∀ x ∈ jn how n A B p q w, x ∈ A ∨ x ∈ B := by
  intro n
  induction n with
  | zero => intro A B p q w x hx; simp [jn] at hx
  | succ n ih =>
    intro A B p q w x hx
    cases A with
    | nil =>
      cases B with
      | nil => simp [jn] at hx
      | cons b B =>
        rw [jn] at hx
        split at hx
        · rcases ih _ _ _ _ _ x hx with h | h
          · cases h
          · exact Or.inr (List.mem_cons_of_mem _ h)
        · rcases List.mem_cons.mp hx with h | h
          · exact Or.inr (by rw [h]; exact List.mem_cons_self)
          · rcases ih _ _ _ _ _ x h with h | h
            · cases h
            · exact Or.inr (List.mem_cons_of_mem _ h)
    | cons a A =>
      cases B with
      | nil =>
        rw [jn] at hx
        split at hx
        · rcases ih _ _ _ _ _ x hx with h | h
          · exact Or.inl (List.mem_cons_of_mem _ h)
          · cases h
        · rcases List.mem_cons.mp hx with h | h
          · exact Or.inl (by rw [h]; exact List.mem_cons_self)
          · rcases ih _ _ _ _ _ x h with h | h
            · exact Or.inl (List.mem_cons_of_mem _ h)
            · cases h
      | cons b B =>
        rw [jn] at hx
        split at hx
        · split at hx
          · exact (ih _ _ _ _ _ x hx).imp id (fun h => List.mem_cons_of_mem _ h)
          · rcases List.mem_cons.mp hx with h | h
            · exact Or.inr (by rw [h]; exact List.mem_cons_self)
            · exact (ih _ _ _ _ _ x h).imp id (fun h => List.mem_cons_of_mem _ h)
        · split at hx
          · split at hx
            · exact (ih _ _ _ _ _ x hx).imp (fun h => List.mem_cons_of_mem _ h) id
            · rcases List.mem_cons.mp hx with h | h
              · exact Or.inl (by rw [h]; exact List.mem_cons_self)
              · exact (ih _ _ _ _ _ x h).imp (fun h => List.mem_cons_of_mem _ h) id
          · split at hx
            · exact (ih _ _ _ _ _ x hx).imp (fun h => List.mem_cons_of_mem _ h) (fun h => List.mem_cons_of_mem _ h)
            · rcases List.mem_cons.mp hx with h | h
              · exact Or.inl (by rw [h]; exact List.mem_cons_self)
              · exact (ih _ _ _ _ _ x h).imp (fun h => List.mem_cons_of_mem _ h) (fun h => List.mem_cons_of_mem _ h)
def BVs (R : List Row) : Prop := ∀ x ∈ R, BW x
theorem jo_BV {how : Nat} {A B : List Row} (hA : BVs A) (hB : BVs B) : BVs (jo how A B) := fun x hx => (jn_memQ how _ A B false false false x hx).elim (hA x) (hB x)
theorem iv_BV {a b : Row} (ha : BW a) (hb : BW b) : BVs (iv a b) := fun x hx => by
  unfold iv at hx
  split at hx
  · simp only [List.mem_cons, List.not_mem_nil, or_false] at hx
    rcases hx with rfl | rfl
    · exact ha
    · exact hb
  · cases hx
theorem rgo_BV {P : Tok → Row × Row} : ∀ (l : List Tok) (lo hi : Row) (R : List Row), (∀ x ∈ l, x.1 ≠ 9 → BW (P x).1 ∧ BW (P x).2) → BW lo → BW hi → BVs R → BVs (rgo P l lo hi R) := by
  intro l
  induction l with
  | nil => intro lo hi R _ hlo hhi hR; exact jo_BV hR (iv_BV hlo hhi)
  | cons x l ih =>
    intro lo hi R hP hlo hhi hR
    rw [rgo]
    split
    · exact ih _ _ _ (fun y hy => hP y (List.mem_cons_of_mem _ hy)) BV_LE BV_EN (jo_BV hR (iv_BV hlo hhi))
    · next h9 =>
      have hx := hP x List.mem_cons_self h9
      refine ih _ _ _ (fun y hy => hP y (List.mem_cons_of_mem _ hy)) ?_ ?_ hR
      · unfold mxR
        split
        · exact hx.1
        · exact hlo
      · unfold mnR
        split
        · exact hx.2
        · exact hhi
/-- the slots can be written -/
def BSl (S : Nat → List Row) : Prop := ∀ k, k < 16 → BVs (S k)
