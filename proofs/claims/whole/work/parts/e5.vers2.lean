/-! A version on the class's page. -/
theorem rowL_get {m : Mi} {a : Nat} {g : Nat → Int64} (h : rowL m a 0 = rowF g) {j : Nat} (hj : j < 8) : gl m a j = g j := by
  unfold rowL rowF at h
  simp only [List.cons.injEq, Nat.zero_add] at h
  have : j = 0 ∨ j = 1 ∨ j = 2 ∨ j = 3 ∨ j = 4 ∨ j = 5 ∨ j = 6 ∨ j = 7 := by omega
  rcases this with rfl | rfl | rfl | rfl | rfl | rfl | rfl | rfl
  · exact h.1
  · exact h.2.1
  · exact h.2.2.1
  · exact h.2.2.2.1
  · exact h.2.2.2.2.1
  · exact h.2.2.2.2.2.1
  · exact h.2.2.2.2.2.2.1
  · exact h.2.2.2.2.2.2.2.1
/-- the version of a bound, without its size -/
def BX (ns is : List Nat) : Prop := (∀ j, ns.getD j 0 ≤ 1000000000) ∧ is.length ≤ 5 ∧ ∀ w ∈ is, okw w
theorem ckey_pos {w : Nat} (h : okw w) : 1 ≤ ckey w ∧ ckey w < 2 ^ 63 - 1 := by
  unfold ckey
  rcases h with h | ⟨h1, h2, h3⟩
  · rw [if_pos (by omega)]; omega
  · rw [if_neg (by omega)]
    exact ⟨by omega, h2⟩
theorem idsC_lp {a n : Nat} {ns : List Nat} (ha : sh TT a = some (.inr (.long, n))) (hn8 : 8 ≤ n) (hn : n < 2 ^ 31) {is : List Nat} (h5 : is.length ≤ 5) (hw : ∀ w ∈ is, okw w) (hne : is ≠ []) :
    ∀ (r : List Nat) (k N : Nat) (m : Mi) (L : List Nat), is.drop k = r → r.length < N → PgC m L → rowL m a 0 = rW ns is → L.length + 9 * r.length ≤ 2500 → k ≤ is.length →
    ∃ m', lp (fun x : Int32 × Mi => f_X3_putVersion_l57 TT x.2 864 a x.1) N (nI (k + 3), m) = some m' ∧ PgC m' (L ++ (if k = 0 then itz r else ity r)) ∧ FI FPg m m' := by
  intro r
  induction r with
  | nil =>
    intro k N m L hd hN hP hR hL hk
    obtain ⟨N, rfl⟩ : ∃ y, N = y + 1 := ⟨N - 1, by omega⟩
    have hkl : is.length ≤ k := List.drop_eq_nil_iff.mp hd
    have hl0 : is.length ≠ 0 := fun z => hne (List.length_eq_zero_iff.mp z)
    refine ⟨m, lp_exit ?_, by rw [if_neg (by omega), ity, List.append_nil]; exact hP, FI.rf⟩
    show f_X3_putVersion_l57 TT m 864 a (nI (k + 3)) = _
    unfold f_X3_putVersion_l57
    by_cases h8 : k + 3 = 8
    · rw [if_pos (show (8 : Int32) ≤ nI (k + 3) from nI_le (a := 8) (by omega) (by omega))]
    · have hz : gl m a (k + 3) = 0 := by
        rw [rowL_get (g := cR ns is) hR (by omega)]
        unfold cR
        rw [if_neg (by omega), if_neg hl0, if_neg (by omega)]
      rw [if_neg (show ¬ (8 : Int32) ≤ nI (k + 3) from nI_ge (b := 8) (by omega) (by omega)), if_pos (ar_of ha (by omega) hn), ix_nI (by omega), hz, if_pos (by decide)]
  | cons w r ih =>
    intro k N m L hd hN hP hR hL hk
    obtain ⟨N, rfl⟩ : ∃ y, N = y + 1 := ⟨N - 1, by omega⟩
    have hl0 : is.length ≠ 0 := fun z => hne (List.length_eq_zero_iff.mp z)
    have hkw : is[k]? = some w := by
      have := List.getElem?_drop (xs := is) (i := k) (j := 0)
      rw [hd] at this
      exact this.symm
    have hkl := get_lt hkw
    have hokw := hw w (List.mem_of_getElem? hkw)
    have hck := ckey_pos hokw
    have hg : gl m a (k + 3) = lN (ckey w) := by
      rw [rowL_get (g := cR ns is) hR (by omega)]
      unfold cR
      rw [if_neg (by omega), if_neg hl0, if_pos (by omega), show k + 3 - 3 = k by omega, List.getD_eq_getElem?_getD, hkw]
      rfl
    rw [List.length_cons] at hL
    have hsg : ∀ b, b < 256 → ∃ m1 m2, f_X3_putSign TT m 864 (nI b) = some m1 ∧ f_X3_putKey TT m1 864 (gl m1 a (k + 3)) = some m2 ∧ PgC m2 (L ++ [b] ++ itx w) ∧ FI FPg m m2 := fun b hb => by
      obtain ⟨m1, e1, p1, f1, _⟩ := sign_C (v := nI b) hP (by omega) hb (nar_bT b hb)
      obtain ⟨m2, e2, p2, f2⟩ := putKey_C hokw p1 (by rw [List.length_append, List.length_singleton]; omega)
      exact ⟨m1, m2, e1, by rw [f1.2.1, hg]; exact e2, p2, f1.tr f2⟩
    have hitl := itx_len hokw
    have hdr : is.drop (k + 1) = r := by
      rw [drop_get hkw] at hd
      exact (List.cons.inj hd).2
    by_cases hk0 : k = 0
    · obtain ⟨m1, m2, e1, e2, p2, f2⟩ := hsg 45 (by omega)
      have hbody : f_X3_putVersion_l57 TT m 864 a (nI (k + 3)) = some (.inl (nI (k + 1 + 3), m2)) := by
        unfold f_X3_putVersion_l57 f_X3_putVersion_j84
        rw [if_neg (show ¬ (8 : Int32) ≤ nI (k + 3) from nI_ge (b := 8) (by omega) (by omega)), if_pos (ar_of ha (by omega) hn), ix_nI (by omega), hg, if_neg (fun z => by
          have := (lg_cmp_eq _ _).mp z
          rw [show (0 : Int64) = lN 0 from rfl, pk_lEQ (by omega) (by omega)] at this
          omega), if_pos (show nI (k + 3) = 3 by rw [hk0]; rfl), ob_of s_864, if_pos rfl, show f_X3_putSign TT m 864 45 = _ from e1, Option.bind_some, if_pos (ar_of ha (by omega) hn), e2, Option.bind_some, lt_eq, nI_1, show k + 3 + 1 = k + 1 + 3 by omega]
      obtain ⟨m', e3, p3, f3⟩ := ih (k + 1) N m2 _ hdr (by rw [List.length_cons] at hN; omega) p2 (by
        rw [← hR]
        unfold rowL
        exact rowF_congr (fun q _ => f2.2.1 _ _)) (by rw [List.length_append, List.length_append, List.length_singleton]; omega) (by omega)
      rw [lp_step (show (fun x : Int32 × Mi => f_X3_putVersion_l57 TT x.2 864 a x.1) (nI (k + 3), m) = _ from hbody)]
      refine ⟨m', e3, ?_, f2.tr f3⟩
      rw [if_pos hk0, itz]
      rw [if_neg (by omega), List.append_assoc, List.append_assoc] at p3
      exact p3
    · obtain ⟨m1, m2, e1, e2, p2, f2⟩ := hsg 46 (by omega)
      have hbody : f_X3_putVersion_l57 TT m 864 a (nI (k + 3)) = some (.inl (nI (k + 1 + 3), m2)) := by
        unfold f_X3_putVersion_l57 f_X3_putVersion_j84
        rw [if_neg (show ¬ (8 : Int32) ≤ nI (k + 3) from nI_ge (b := 8) (by omega) (by omega)), if_pos (ar_of ha (by omega) hn), ix_nI (by omega), hg, if_neg (fun z => by
          have := (lg_cmp_eq _ _).mp z
          rw [show (0 : Int64) = lN 0 from rfl, pk_lEQ (by omega) (by omega)] at this
          omega), if_neg (show ¬ nI (k + 3) = 3 from fun z => by have := (nI_eq (b := 3) (by omega) (by omega)).mp z; omega), ob_of s_864, if_pos rfl, show f_X3_putSign TT m 864 46 = _ from e1, Option.bind_some, if_pos (ar_of ha (by omega) hn), e2, Option.bind_some, lt_eq, nI_1, show k + 3 + 1 = k + 1 + 3 by omega]
      obtain ⟨m', e3, p3, f3⟩ := ih (k + 1) N m2 _ hdr (by rw [List.length_cons] at hN; omega) p2 (by
        rw [← hR]
        unfold rowL
        exact rowF_congr (fun q _ => f2.2.1 _ _)) (by rw [List.length_append, List.length_append, List.length_singleton]; omega) (by omega)
      rw [lp_step (show (fun x : Int32 × Mi => f_X3_putVersion_l57 TT x.2 864 a x.1) (nI (k + 3), m) = _ from hbody)]
      refine ⟨m', e3, ?_, f2.tr f3⟩
      rw [if_neg hk0, ity]
      rw [if_neg (by omega), List.append_assoc, List.append_assoc] at p3
      exact p3
/-- the three numbers from place k on -/
def ntx (ns : List Nat) : Nat → Nat → List Nat
  | 0, _ => []
  | d + 1, k => (if k = 0 then [] else [46]) ++ (dgs (ns.getD k 0) ++ ntx ns d (k + 1))
theorem ntx_len {ns : List Nat} (h : ∀ j, ns.getD j 0 ≤ 1000000000) : ∀ d k, (ntx ns d k).length ≤ 11 * d := by
  intro d
  induction d with
  | zero => intro k; exact Nat.le_refl _
  | succ d ih =>
    intro k
    rw [ntx, List.length_append, List.length_append]
    have := ih (k + 1)
    have := dgs_10 (h k)
    have : (if k = 0 then ([] : List Nat) else [46]).length ≤ 1 := by split <;> simp
    omega
theorem vtx_ntx (ns is : List Nat) : vtx ns is = ntx ns 3 0 ++ itz is := by
  unfold vtx
  rw [ntx, ntx, ntx, ntx, if_pos rfl, if_neg (by omega), if_neg (by omega)]
  simp
theorem numsC_lp {a n : Nat} {ns is : List Nat} (ha : sh TT a = some (.inr (.long, n))) (hn8 : 8 ≤ n) (hn : n < 2 ^ 31) (hns : ∀ j, ns.getD j 0 ≤ 1000000000) :
    ∀ (d k N : Nat) (m : Mi) (L : List Nat), k + d = 3 → d < N → PgC m L → rowL m a 0 = rW ns is → L.length + 11 * d ≤ 2500 →
    ∃ m', lp (fun x : Int32 × Mi => f_X3_putVersion_l11 TT x.2 864 a x.1) N (nI k, m) = some m' ∧ PgC m' (L ++ ntx ns d k) ∧ FI FPg m m' := by
  intro d
  induction d with
  | zero =>
    intro k N m L hk hN hP hR hL
    obtain ⟨N, rfl⟩ : ∃ y, N = y + 1 := ⟨N - 1, by omega⟩
    refine ⟨m, lp_exit ?_, by rw [ntx, List.append_nil]; exact hP, FI.rf⟩
    show f_X3_putVersion_l11 TT m 864 a (nI k) = _
    unfold f_X3_putVersion_l11
    rw [if_pos (show (3 : Int32) ≤ nI k from nI_le (a := 3) (by omega) (by omega))]
  | succ d ih =>
    intro k N m L hk hN hP hR hL
    obtain ⟨N, rfl⟩ : ∃ y, N = y + 1 := ⟨N - 1, by omega⟩
    have hw := hns k
    have h10 := dgs_10 hw
    have hg : gl m a k = lN (ns.getD k 0) := by
      rw [rowL_get (g := cR ns is) hR (by omega)]
      unfold cR
      rw [if_pos (by omega)]
    have key : ∃ m1 m2, f_X3_putText TT m 864 (if k = 0 then 1048582 else 1048584) = some m1 ∧ f_X3_putNumber TT m1 864 (gl m1 a k) = some m2 ∧ PgC m2 (L ++ (if k = 0 then [] else [46]) ++ dgs (ns.getD k 0)) ∧ FI FPg m m2 := by
      by_cases hk0 : k = 0
      · rw [if_pos hk0, if_pos hk0]
        obtain ⟨m1, e1, p1, f1⟩ := words_C 5 (by omega) hP (by show L.length + 0 ≤ 2500; omega)
        have p1 : PgC m1 (L ++ []) := p1
        obtain ⟨m2, e2, p2, f2⟩ := number_C (n := ns.getD k 0) (by omega) p1 (by rw [List.append_nil]; omega)
        exact ⟨m1, m2, e1, by rw [f1.2.1, hg]; exact e2, p2, f1.tr f2⟩
      · rw [if_neg hk0, if_neg hk0]
        obtain ⟨m1, e1, p1, f1⟩ := words_C 7 (by omega) hP (by show L.length + 1 ≤ 2500; omega)
        have p1 : PgC m1 (L ++ [46]) := p1
        obtain ⟨m2, e2, p2, f2⟩ := number_C (n := ns.getD k 0) (by omega) p1 (by rw [List.length_append, List.length_singleton]; omega)
        exact ⟨m1, m2, e1, by rw [f1.2.1, hg]; exact e2, p2, f1.tr f2⟩
    obtain ⟨m1, m2, e1, e2, p2, f2⟩ := key
    have hbody : f_X3_putVersion_l11 TT m 864 a (nI k) = some (.inl (nI (k + 1), m2)) := by
      unfold f_X3_putVersion_l11 f_X3_putVersion_j28
      rw [if_neg (show ¬ (3 : Int32) ≤ nI k from nI_ge (b := 3) (by omega) (by omega))]
      by_cases hk0 : k = 0
      · rw [if_pos hk0] at e1
        rw [if_pos (show nI k = 0 by rw [hk0]; rfl), ob_of s_864, if_pos rfl, e1, Option.bind_some, if_pos (ar_of ha (by omega) hn), ix_nI (by omega), e2, Option.bind_some, lt_eq, nI_1]
      · rw [if_neg hk0] at e1
        rw [if_neg (show ¬ nI k = 0 from nI_ne0 (by omega) (by omega)), ob_of s_864, if_pos rfl, e1, Option.bind_some, if_pos (ar_of ha (by omega) hn), ix_nI (by omega), e2, Option.bind_some, lt_eq, nI_1]
    have hlen : (if k = 0 then ([] : List Nat) else [46]).length ≤ 1 := by split <;> simp
    obtain ⟨m', e3, p3, f3⟩ := ih (k + 1) N m2 _ (by omega) (by omega) p2 (by
      rw [← hR]
      unfold rowL
      exact rowF_congr (fun q _ => f2.2.1 _ _)) (by rw [List.length_append, List.length_append]; omega)
    rw [lp_step (show (fun x : Int32 × Mi => f_X3_putVersion_l11 TT x.2 864 a x.1) (nI k, m) = _ from hbody)]
    refine ⟨m', e3, ?_, f2.tr f3⟩
    rw [ntx]
    rw [List.append_assoc, List.append_assoc] at p3
    exact p3
theorem version_C {a n : Nat} {m : Mi} {L : List Nat} {ns is : List Nat} (ha : sh TT a = some (.inr (.long, n))) (hn8 : 8 ≤ n) (hn : n < 2 ^ 31) (hX : BX ns is) (hP : PgC m L) (hR : rowL m a 0 = rW ns is) (hL : L.length + 78 ≤ 2500) : ∃ m', f_X3_putVersion TT m 864 a = some m' ∧ PgC m' (L ++ vtx ns is) ∧ FI FPg m m' := by
  obtain ⟨h1, h2, h3⟩ := hX
  obtain ⟨m1, e1, p1, f1⟩ := numsC_lp (is := is) ha hn8 hn h1 3 0 FUEL m L (by omega) (by unfold FUEL; omega) hP hR (by omega)
  have hR1 : rowL m1 a 0 = rW ns is := by
    rw [← hR]
    unfold rowL
    exact rowF_congr (fun q _ => f1.2.1 _ _)
  have hnl := ntx_len h1 3 0
  have h33 : gl m1 a 3 = cR ns is 3 := rowL_get (g := cR ns is) hR1 (by omega)
  unfold f_X3_putVersion
  rw [show (0 : Int32) = nI 0 from rfl, fits_spec ha hn8 hn (by omega), if_pos (by omega), Option.bind_some, if_neg (by decide)]
  unfold f_X3_putVersion_j11
  rw [e1, Option.bind_some]
  unfold f_X3_putVersion_j44
  rw [if_pos (show ar TT a .long 3 = true from ar_of (k := 3) ha (by omega) hn), show ix 3 = 3 from rfl, h33, vtx_ntx]
  by_cases hi : is = []
  · have e : cR ns is 3 = 9223372036854775807 := by unfold cR; rw [hi]; rfl
    rw [e, if_pos (by decide), hi, itz, List.append_nil]
    exact ⟨m1, rfl, p1, f1⟩
  · cases is with
    | nil => exact absurd rfl hi
    | cons w r =>
      have hck := ckey_pos (h3 w List.mem_cons_self)
      have e : cR ns (w :: r) 3 = lN (ckey w) := by unfold cR; rw [if_neg (by omega), if_neg (by simp), if_pos (by simp)]; rfl
      rw [e, if_neg (fun z => by
        have := (lg_cmp_eq _ _).mp z
        rw [show (9223372036854775807 : Int64) = lN 9223372036854775807 from rfl, pk_lEQ (by omega) (by omega)] at this
        omega)]
      obtain ⟨m2, e2, p2, f2⟩ := idsC_lp (ns := ns) ha hn8 hn h2 h3 hi (w :: r) 0 FUEL m1 _ rfl (by unfold FUEL; omega) p1 hR1 (by rw [List.length_append]; omega) (by omega)
      rw [if_pos rfl, List.append_assoc] at p2
      refine ⟨m2, ?_, p2, f1.tr f2⟩
      unfold f_X3_putVersion_j57
      rw [show ((3 : Int32), m1) = (nI (0 + 3), m1) from rfl, e2, Option.bind_some]
      rfl
