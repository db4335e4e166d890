/-! A stretch on the class's page: its parts. -/
theorem next_rowX {m : Mi} {a : Nat} {ns is : List Nat} (ha : sh TT a = some (.inr (.long, 8))) (h : rowIs m a (cR ns is)) (hv : is.length ≤ 4 ∧ ∀ w ∈ is, okn w) : ∃ m', f_X10_setNext TT m a = some (1, m') ∧ rowIs m' a (cR (nxt ns is).1 (nxt ns is).2) ∧ KL a m m' := by
  have hf : f_X10_fits TT m a 0 = some 1 := by
    have := fits_spec (t := TT) (m := m) (i := 0) ha (by omega) (by omega) (by omega)
    rw [if_pos (by omega)] at this
    exact this
  unfold f_X10_setNext
  rw [hf, Option.bind_some, if_neg (by decide), if_pos (show ar TT a .long 3 = true from ar_of (k := 3) ha (by omega) (by omega)), show ix 3 = 3 from rfl, show ix 2 = 2 from rfl, h 3 (by omega)]
  by_cases hi : is = []
  · have h3 : cR ns is 3 = 9223372036854775807 := by rw [hi]; rfl
    rw [if_pos ((lg_cmp_eq _ _).mpr h3), if_pos (show ar TT a .long 2 = true from ar_of (k := 2) ha (by omega) (by omega)), lt_eq, lt_eq]
    refine ⟨_, rfl, fun j hj => ?_, KL_sl.tr KL_sl⟩
    unfold nxt
    rw [if_pos hi]
    simp only [mS]
    by_cases j3 : j = 3
    · rw [if_pos ⟨trivial, j3⟩, j3]; rfl
    · rw [if_neg (fun e => j3 e.2)]
      by_cases j2 : j = 2
      · rw [if_pos ⟨trivial, j2⟩, h 2 (by omega), j2]
        exact lN_1 _
      · rw [if_neg (fun e => j2 e.2), h j hj, hi]
        have hz : j = 0 ∨ j = 1 ∨ j = 4 ∨ j = 5 ∨ j = 6 ∨ j = 7 := by omega
        rcases hz with rfl | rfl | rfl | rfl | rfl | rfl <;> rfl
  · have hl : ¬ is.length = 0 := fun e => hi (List.length_eq_zero_iff.mp e)
    have h5 := hv.1
    have hk : ∀ j, j < is.length → ckey (is.getD j 0) < 9223372036854775807 ∧ 1 ≤ ckey (is.getD j 0) := fun j hj => ckey_lt (hv.2 _ (getD_in hj))
    have h3 : ¬ cR ns is 3 = 9223372036854775807 := by
      rw [cR_get (by omega) hl, if_pos (by omega), l40.2.1, pk_lEQ (by have := hk (3 - 3) (by omega); omega) (by omega)]
      have := hk (3 - 3) (by omega)
      omega
    rw [if_neg (fun e => h3 ((lg_cmp_eq _ _).mp e))]
    have hloop : ∀ d k N, k + d = is.length → d < N → lp (fun x : Int32 => f_X10_setNext_l35 TT m a x) N (nI (3 + k)) = some (.inr (nI (3 + is.length))) := by
      intro d
      induction d with
      | zero =>
        intro k N hk0 hN
        obtain ⟨N, rfl⟩ : ∃ z, N = z + 1 := ⟨N - 1, by omega⟩
        refine lp_exit ?_
        show f_X10_setNext_l35 TT m a (nI (3 + k)) = _
        unfold f_X10_setNext_l35
        rw [if_neg (show ¬ (8 : Int32) ≤ nI (3 + k) from nI_ge (b := 8) (by omega) (by omega)), if_pos (ar_of ha (by omega) (by omega)), ix_nI (by omega), h _ (by omega), cR_get (by omega) hl, if_neg (show ¬ 3 + k - 3 < is.length by omega), if_pos (by decide)]
        rw [show k = is.length by omega]
      | succ d ih =>
        intro k N hk0 hN
        obtain ⟨N, rfl⟩ : ∃ z, N = z + 1 := ⟨N - 1, by omega⟩
        rw [lp_step (x' := nI (3 + (k + 1)))]
        · exact ih (k + 1) N (by omega) (by omega)
        · show f_X10_setNext_l35 TT m a (nI (3 + k)) = _
          unfold f_X10_setNext_l35
          have hc := hk (3 + k - 3) (by omega)
          rw [if_neg (show ¬ (8 : Int32) ≤ nI (3 + k) from nI_ge (b := 8) (by omega) (by omega)), if_pos (ar_of ha (by omega) (by omega)), ix_nI (by omega), h _ (by omega), cR_get (by omega) hl, if_pos (show 3 + k - 3 < is.length by omega), if_neg (fun e => by
            have := (lg_cmp_eq _ _).mp e
            rw [l0L.1, pk_lEQ (by omega) (by omega)] at this
            omega), lt_eq, nI_1]
          rfl
    unfold f_X10_setNext_j35
    rw [show (3 : Int32) = nI (3 + 0) from rfl, hloop is.length 0 FUEL (by omega) (by unfold FUEL; omega), Option.bind_some]
    show ∃ m', f_X10_setNext_j49 TT m a (nI (3 + is.length)) = _ ∧ _
    unfold f_X10_setNext_j49
    rw [if_pos (ar_of ha (by omega) (by omega)), ix_nI (by omega), lt_eq]
    refine ⟨_, rfl, fun j hj => ?_, KL_sl⟩
    unfold nxt
    rw [if_neg hi]
    simp only [mS]
    by_cases j3 : j < 3
    · rw [if_neg (by omega), h j hj]
      unfold cR
      rw [if_pos j3, if_pos j3]
    · rw [cR_get j3 (by rw [List.length_append]; simp), List.length_append, List.length_singleton]
      by_cases jl : j = 3 + is.length
      · rw [if_pos ⟨trivial, jl⟩, if_pos (by omega), jl, show 3 + is.length - 3 = is.length by omega, List.getD_eq_getElem?_getD, List.getElem?_append_right (Nat.le_refl _), Nat.sub_self]
        rfl
      · rw [if_neg (fun e => jl e.2), h j hj, cR_get j3 hl]
        by_cases jq : j - 3 < is.length
        · rw [if_pos jq, if_pos (by omega), List.getD_eq_getElem?_getD, List.getD_eq_getElem?_getD, List.getElem?_append_left jq]
        · rw [if_neg jq, if_neg (by omega)]

theorem okw_okn {w : Nat} (h : okw w) : okn w := by
  rcases h with h | ⟨h1, h2, _⟩
  · exact Or.inl (by omega)
  · exact Or.inr ⟨by omega, by omega⟩
/-- five identifiers have no next -/
theorem next_no {m : Mi} {a : Nat} {ns is : List Nat} (ha : sh TT a = some (.inr (.long, 8))) (h : rowIs m a (cR ns is)) (h5 : is.length = 5) (hw : ∀ w ∈ is, okn w) : f_X10_setNext TT m a = some (0, m) := by
  have hf : f_X10_fits TT m a 0 = some 1 := by
    have := fits_spec (t := TT) (m := m) (i := 0) ha (by omega) (by omega) (by omega)
    rw [if_pos (by omega)] at this
    exact this
  have hl : ¬ is.length = 0 := by omega
  have hk : ∀ j, j < is.length → ckey (is.getD j 0) < 9223372036854775807 ∧ 1 ≤ ckey (is.getD j 0) := fun j hj => ckey_lt (hw _ (getD_in hj))
  have h3 : ¬ cR ns is 3 = 9223372036854775807 := by
    rw [cR_get (by omega) hl, if_pos (by omega), l40.2.1, pk_lEQ (by have := hk (3 - 3) (by omega); omega) (by omega)]
    have := hk (3 - 3) (by omega)
    omega
  unfold f_X10_setNext
  rw [hf, Option.bind_some, if_neg (by decide), if_pos (show ar TT a .long 3 = true from ar_of (k := 3) ha (by omega) (by omega)), show ix 3 = 3 from rfl, show ix 2 = 2 from rfl, h 3 (by omega), if_neg (fun e => h3 ((lg_cmp_eq _ _).mp e))]
  have hloop : ∀ d k N, k + d = 5 → d < N → lp (fun x : Int32 => f_X10_setNext_l35 TT m a x) N (nI (3 + k)) = some (.inl ()) := by
    intro d
    induction d with
    | zero =>
      intro k N hk0 hN
      obtain ⟨N, rfl⟩ : ∃ z, N = z + 1 := ⟨N - 1, by omega⟩
      refine lp_exit ?_
      show f_X10_setNext_l35 TT m a (nI (3 + k)) = _
      unfold f_X10_setNext_l35
      rw [if_pos (show (8 : Int32) ≤ nI (3 + k) from nI_le (a := 8) (by omega) (by omega))]
    | succ d ih =>
      intro k N hk0 hN
      obtain ⟨N, rfl⟩ : ∃ z, N = z + 1 := ⟨N - 1, by omega⟩
      rw [lp_step (x' := nI (3 + (k + 1)))]
      · exact ih (k + 1) N (by omega) (by omega)
      · show f_X10_setNext_l35 TT m a (nI (3 + k)) = _
        have := hk (3 + k - 3) (by omega)
        unfold f_X10_setNext_l35
        rw [if_neg (show ¬ (8 : Int32) ≤ nI (3 + k) from nI_ge (b := 8) (by omega) (by omega)), if_pos (ar_of ha (by omega) (by omega)), ix_nI (by omega), h _ (by omega), cR_get (by omega) hl, if_pos (show 3 + k - 3 < is.length by omega), if_neg (fun e => by
          have e := (lg_cmp_eq _ _).mp e
          rw [show (0 : Int64) = lN 0 from rfl, pk_lEQ (by omega) (by omega)] at e
          omega), lt_eq, nI_1, show 3 + k + 1 = 3 + (k + 1) by omega]
  unfold f_X10_setNext_j35
  rw [show (3 : Int32) = nI (3 + 0) from rfl, hloop 5 0 FUEL (by omega) (by unfold FUEL; omega), Option.bind_some]
  rfl
theorem rowIs_L {m : Mi} {a : Nat} {g : Nat → Int64} : rowIs m a g ↔ rowL m a 0 = rowF g := by
  constructor
  · intro h
    unfold rowL
    refine rowF_congr (fun q hq => ?_)
    rw [Nat.zero_add]
    exact h q hq
  · intro h j hj
    exact rowL_get h hj
theorem isLeast_C {m : Mi} {a n : Nat} (ha : sh TT a = some (.inr (.long, n))) (h8 : 8 ≤ n) (hn : n < 2 ^ 31) : f_X10_isLeast TT m a 0 = some (if rowL m a 0 = LE then 1 else 0) := by
  have key : ∀ d k N, k + d = 8 → d < N → (∀ j, j < k → gl m a j = if j = 3 then 1 else 0) → (lp (fun x : Int32 => f_X10_isLeast_l12 TT m a 0 x) N (nI k)).bind (Sum.elim (fun y : Unit => f_X10_isLeast_j45 TT m) (fun y : Unit => f_X10_isLeast_j37 TT m)) = some (if rowL m a 0 = LE then 1 else 0) := by
    intro d
    induction d with
    | zero =>
      intro k N hk hN hall
      obtain ⟨N, rfl⟩ : ∃ y, N = y + 1 := ⟨N - 1, by omega⟩
      rw [lp_exit (y := .inl ()) (show f_X10_isLeast_l12 TT m a 0 (nI k) = _ by
        unfold f_X10_isLeast_l12
        rw [if_pos (show (8 : Int32) ≤ nI k from nI_le (a := 8) (by omega) (by omega))])]
      rw [if_pos]
      · rfl
      · rw [LE_F]
        unfold rowL
        refine rowF_congr (fun q hq => ?_)
        rw [Nat.zero_add]
        exact hall q (by omega)
    | succ d ih =>
      intro k N hk hN hall
      obtain ⟨N, rfl⟩ : ∃ y, N = y + 1 := ⟨N - 1, by omega⟩
      have hbody : f_X10_isLeast_l12 TT m a 0 (nI k) = if gl m a k = (if k = 3 then 1 else 0) then some (.inl (nI (k + 1))) else some (.inr (.inr ())) := by
        unfold f_X10_isLeast_l12 f_X10_isLeast_j33
        rw [if_neg (show ¬ (8 : Int32) ≤ nI k from nI_ge (b := 8) (by omega) (by omega)), show (0 : Int32) + nI k = nI k from by rw [show (0 : Int32) = nI 0 from rfl, nI_add, Nat.zero_add], if_pos (ar_of ha (by omega) hn), ix_nI (by omega)]
        by_cases h3 : k = 3
        · rw [if_pos (show nI k = 3 by rw [h3]; rfl), if_pos h3, lt_eq, nI_1]
          by_cases hg : gl m a k = 1
          · rw [if_pos ((lg_cmp_eq _ _).mpr hg), if_pos hg]
          · rw [if_neg (fun z => hg ((lg_cmp_eq _ _).mp z)), if_neg hg]
        · rw [if_neg (show ¬ nI k = 3 from fun z => h3 ((nI_eq (b := 3) (by omega) (by omega)).mp z)), if_neg h3, lt_eq, nI_1]
          by_cases hg : gl m a k = 0
          · rw [if_pos ((lg_cmp_eq _ _).mpr hg), if_pos hg]
          · rw [if_neg (fun z => hg ((lg_cmp_eq _ _).mp z)), if_neg hg]
      by_cases hg : gl m a k = (if k = 3 then 1 else 0)
      · rw [if_pos hg] at hbody
        rw [lp_step (show (fun x : Int32 => f_X10_isLeast_l12 TT m a 0 x) (nI k) = _ from hbody)]
        exact ih (k + 1) N (by omega) (by omega) (fun j hj => by
          by_cases hjk : j = k
          · rw [hjk]; exact hg
          · exact hall j (by omega))
      · rw [if_neg hg] at hbody
        rw [lp_exit (show (fun x : Int32 => f_X10_isLeast_l12 TT m a 0 x) (nI k) = _ from hbody)]
        rw [if_neg]
        · rfl
        · intro z
          rw [LE_F] at z
          exact hg (rowL_get z (by omega))
  unfold f_X10_isLeast f_X10_isLeast_j12
  rw [show (0 : Int32) = nI 0 from rfl, fits_spec ha h8 hn (by omega), if_pos (by omega), Option.bind_some, if_neg (by decide)]
  exact key 8 0 FUEL (by omega) (by unfold FUEL; omega) (fun j hj => by omega)
theorem isEndless_C {m : Mi} {a n i : Nat} (ha : sh TT a = some (.inr (.long, n))) (h8 : i + 8 ≤ n) (hn : n < 2 ^ 31) : f_X10_isEndless TT m a (nI i) = some (if gl m a i = 9223372036854775807 then 1 else 0) := by
  unfold f_X10_isEndless
  rw [fits_spec ha (by omega) hn (by omega), if_pos h8, Option.bind_some, if_neg (by decide), if_pos (ar_of ha (by omega) hn), ix_nI (by omega)]
  by_cases h : gl m a i = 9223372036854775807
  · rw [if_pos ((lg_cmp_eq _ _).mpr h), if_pos h]
  · rw [if_neg (fun z => h ((lg_cmp_eq _ _).mp z)), if_neg h]
