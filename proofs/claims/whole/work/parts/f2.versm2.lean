/-! A version that the reference writes. -/
/-- row i of the reference's bounds stands for a version -/
def RwM (m : Mi) (i : Nat) (r : Row) : Prop := VR (fun z => gl m 875 (i + z)) ∧ trM (fun z => gl m 875 (i + z)) = r
theorem RwM.keep {m m' : Mi} {i : Nat} {r : Row} {P : Nat → Nat → Prop} (h : RwM m i r) (k : FI P m m') : RwM m' i r := by
  obtain ⟨h1, h2⟩ := h
  have e : ∀ z, z < 9 → gl m' 875 (i + z) = gl m 875 (i + z) := fun z _ => k.2.1 _ _
  exact ⟨VR_congr e h1, (trM_congr e).trans h2⟩
theorem numsM_lp {i : Nat} {ns is : List Nat} (hi : i + 9 ≤ 78336) (hX : BX ns is) : ∀ (d k N : Nat) (m : Mi) (L : List Nat), k + d = 3 → d < N → PgM m L → RwM m i (rW ns is) → L.length + 11 * d ≤ 4000 →
    ∃ m', lp (fun x : Int32 × Mi => f_X12_saysVersion_l2 TT x.2 870 875 (nI i) x.1) N (nI k, m) = some m' ∧ PgM m' (L ++ ntx ns d k) ∧ FI FPm m m' := by
  intro d
  induction d with
  | zero =>
    intro k N m L hk hN hP hR hL
    obtain ⟨N, rfl⟩ : ∃ y, N = y + 1 := ⟨N - 1, by omega⟩
    refine ⟨m, lp_exit ?_, by rw [ntx, List.append_nil]; exact hP, FI.rf⟩
    show f_X12_saysVersion_l2 TT m 870 875 (nI i) (nI k) = _
    unfold f_X12_saysVersion_l2
    rw [if_pos (show (3 : Int32) ≤ nI k from nI_le (a := 3) (by omega) (by omega))]
  | succ d ih =>
    intro k N m L hk hN hP hR hL
    obtain ⟨N, rfl⟩ : ∃ y, N = y + 1 := ⟨N - 1, by omega⟩
    have hw := hX.1 k
    have h10 := dgs_10 hw
    have hg : gl m 875 (i + k) = lN (ns.getD k 0) := (tr_inv hR.1 hX hR.2).1 k (by omega)
    have num : ∀ (m1 : Mi) (L1 : List Nat), PgM m1 L1 → FI FPm m m1 → L1.length + 10 ≤ 4000 → ∃ m2, f_X12_saysVersion_j17 TT m1 870 875 (nI i) (nI k) = some (.inl (nI (k + 1), m2)) ∧ PgM m2 (L1 ++ dgs (ns.getD k 0)) ∧ FI FPm m m2 := by
      intro m1 L1 p1 f1 hl
      obtain ⟨m2, e2, p2, f2⟩ := number_M (n := ns.getD k 0) (by omega) p1 hl
      refine ⟨m2, ?_, p2, f1.tr f2⟩
      unfold f_X12_saysVersion_j17
      rw [nI_add, if_pos (ar_of s_875 (by omega) (by omega)), ix_nI (by omega), f1.2.1, hg, e2, Option.bind_some, lt_eq, nI_1]
    have key : ∃ m2, f_X12_saysVersion_l2 TT m 870 875 (nI i) (nI k) = some (.inl (nI (k + 1), m2)) ∧ PgM m2 (L ++ ((if k = 0 then [] else [46]) ++ dgs (ns.getD k 0))) ∧ FI FPm m m2 := by
      unfold f_X12_saysVersion_l2
      rw [if_neg (show ¬ (3 : Int32) ≤ nI k from nI_ge (b := 3) (by omega) (by omega))]
      by_cases h0 : k = 0
      · rw [if_pos (show nI k ≤ 0 by rw [h0]; decide), if_pos h0, List.nil_append]
        exact num m L hP FI.rf (by omega)
      · obtain ⟨m1, e1, p1, f1⟩ := saysN_M 46 hP (by omega) (by omega)
        rw [if_neg (show ¬ nI k ≤ 0 from nI_ge (a := 0) (by omega) (by omega)), if_neg h0, show f_X12_says TT m 870 46 = _ from e1, Option.bind_some]
        obtain ⟨m2, e2, p2, f2⟩ := num m1 _ p1 f1 (by rw [List.length_append, List.length_singleton]; omega)
        exact ⟨m2, e2, by rw [List.append_assoc] at p2; exact p2, f2⟩
    obtain ⟨m2, e2, p2, f2⟩ := key
    have hlen : (if k = 0 then ([] : List Nat) else [46]).length ≤ 1 := by split <;> simp
    obtain ⟨m', e3, p3, f3⟩ := ih (k + 1) N m2 _ (by omega) (by omega) p2 (hR.keep f2) (by rw [List.length_append, List.length_append]; omega)
    rw [lp_step (show (fun x : Int32 × Mi => f_X12_saysVersion_l2 TT x.2 870 875 (nI i) x.1) (nI k, m) = _ from e2)]
    refine ⟨m', e3, ?_, f2.tr f3⟩
    rw [ntx]
    rw [List.append_assoc, List.append_assoc] at p3
    exact p3
theorem idsM_lp {i : Nat} {ns is : List Nat} (hi : i + 9 ≤ 78336) (hX : BX ns is) : ∀ (r : List Nat) (k N : Nat) (m : Mi) (L : List Nat), is.drop k = r → r.length < N → PgM m L → RwM m i (rW ns is) → L.length + 9 * r.length + 5 ≤ 4000 → k ≤ is.length →
    ∃ m', lp (fun x : Int32 × Mi => f_X12_saysVersion_l34 TT x.2 870 875 (nI i) x.1) N (nI k, m) = some m' ∧ PgM m' (L ++ (if k = 0 then itz r else ity r)) ∧ FI FPm m m' := by
  obtain ⟨x1, x2, x3⟩ := hX
  intro r
  induction r with
  | nil =>
    intro k N m L hd hN hP hR hL hk
    obtain ⟨N, rfl⟩ : ∃ y, N = y + 1 := ⟨N - 1, by omega⟩
    have hkl : is.length ≤ k := List.drop_eq_nil_iff.mp hd
    have h3 : gl m 875 (i + 3) = lN is.length := (tr_inv hR.1 ⟨x1, x2, x3⟩ hR.2).2.1
    refine ⟨m, lp_exit ?_, ?_, FI.rf⟩
    · show f_X12_saysVersion_l34 TT m 870 875 (nI i) (nI k) = _
      unfold f_X12_saysVersion_l34
      rw [show nI i + 3 = nI (i + 3) from nI_add i 3, if_pos (ar_of s_875 (by omega) (by omega)), ix_nI (by omega), h3, nI_l (by omega), if_pos ((lg_cmp_ge _ _).mpr (by rw [pk_lLE (by omega) (by omega)]; exact hkl))]
    · have : (if k = 0 then itz [] else ity []) = ([] : List Nat) := by split <;> rfl
      rw [this, List.append_nil]
      exact hP
  | cons w r ih =>
    intro k N m L hd hN hP hR hL hk
    obtain ⟨N, rfl⟩ : ∃ y, N = y + 1 := ⟨N - 1, by omega⟩
    have hkw : is[k]? = some w := by
      have := List.getElem?_drop (xs := is) (i := k) (j := 0)
      rw [hd] at this
      exact this.symm
    have hkl := get_lt hkw
    have hokw := x3 w (List.mem_of_getElem? hkw)
    have hitl := itx_len hokw
    have h3 : gl m 875 (i + 3) = lN is.length := (tr_inv hR.1 ⟨x1, x2, x3⟩ hR.2).2.1
    have hg : gl m 875 (i + 4 + k) = lN w := by
      have := (tr_inv hR.1 ⟨x1, x2, x3⟩ hR.2).2.2 k hkl
      rw [List.getD_eq_getElem?_getD, hkw] at this
      rw [show i + 4 + k = i + (4 + k) by omega]
      exact this
    rw [List.length_cons] at hL
    have hdr : is.drop (k + 1) = r := by
      rw [drop_get hkw] at hd
      exact (List.cons.inj hd).2
    have w63 : w < 2 ^ 63 := by rcases hokw with h | h <;> omega
    -- the sign and the identifier
    have one : ∀ b, b < 256 → ∃ m2, f_X12_saysVersion_j57 TT m 870 875 (nI i) (nI k) (nI b) 870 = some (.inl (nI (k + 1), m2)) ∧ PgM m2 (L ++ (b :: itx w)) ∧ FI FPm m m2 := by
      intro b hb
      obtain ⟨m1, e1, p1, f1⟩ := saysN_M b hP (by omega) hb
      unfold f_X12_saysVersion_j57
      rw [ob_of s_870, if_pos rfl, e1, Option.bind_some, show nI i + 4 = nI (i + 4) from nI_add i 4, nI_add, if_pos (ar_of s_875 (by omega) (by omega)), lt_eq, ix_nI (by omega), f1.2.1, hg]
      by_cases hbig : 1099511627776 ≤ w
      · obtain ⟨m2, e2, p2, f2⟩ := wordV_lp (a1 := 875) (a2 := nI i) (a3 := nI k) w63 8 0 FUEL m1 _ (nI (8 * 8) - 8) (by omega) (by unfold FUEL; omega) rfl p1 (by rw [List.length_append, List.length_singleton]; omega)
        rw [if_pos ((lg_cmp_ge _ _).mpr (by rw [l40.1, pk_lLE (by omega) (by omega)]; exact hbig))]
        refine ⟨m2, ?_, ?_, f1.tr f2⟩
        · unfold f_X12_saysVersion_j91
          rw [show ((56 : Int32), m1) = (nI (8 * 8) - 8, m1) from rfl, e2, Option.bind_some]
          unfold f_X12_saysVersion_j130
          rw [lt_eq, nI_1]
        · have hit : itx w = wbL w 8 0 := by unfold itx; rw [if_neg (by omega)]; rfl
          rw [hit]
          rw [List.append_assoc] at p2
          exact p2
      · obtain ⟨m2, e2, p2, f2⟩ := number_M (n := w) (by rcases hokw with h | h <;> omega) p1 (by rw [List.length_append, List.length_singleton]; omega)
        rw [if_neg (fun z => hbig (by
          have := (lg_cmp_ge _ _).mp z
          rw [l40.1, pk_lLE (by omega) (by omega)] at this
          exact this)), e2, Option.bind_some, lt_eq, nI_1]
        refine ⟨m2, rfl, ?_, f1.tr f2⟩
        have hit : itx w = dgs w := by unfold itx; rw [if_pos (by omega)]
        rw [hit]
        rw [List.append_assoc] at p2
        exact p2
    have hbody : ∃ m2, f_X12_saysVersion_l34 TT m 870 875 (nI i) (nI k) = some (.inl (nI (k + 1), m2)) ∧ PgM m2 (L ++ ((if k = 0 then 45 else 46) :: itx w)) ∧ FI FPm m m2 := by
      unfold f_X12_saysVersion_l34
      rw [show nI i + 3 = nI (i + 3) from nI_add i 3, if_pos (ar_of s_875 (by omega) (by omega)), ix_nI (by omega), h3, nI_l (by omega), if_neg (fun z => by
        have := (lg_cmp_ge _ _).mp z
        rw [pk_lLE (by omega) (by omega)] at this
        omega)]
      by_cases h0 : k = 0
      · rw [if_pos (show nI k = 0 by rw [h0]; rfl), if_pos h0]
        exact one 45 (by omega)
      · rw [if_neg (nI_ne0 (by omega) (by omega)), if_neg h0]
        exact one 46 (by omega)
    obtain ⟨m2, e2, p2, f2⟩ := hbody
    obtain ⟨m', e3, p3, f3⟩ := ih (k + 1) N m2 _ hdr (by rw [List.length_cons] at hN; omega) p2 (hR.keep f2) (by rw [List.length_append, List.length_cons]; omega) (by omega)
    rw [lp_step (body := fun x : Int32 × Mi => f_X12_saysVersion_l34 TT x.2 870 875 (nI i) x.1) (x := (nI k, m)) (x' := (nI (k + 1), m2)) e2]
    refine ⟨m', e3, ?_, f2.tr f3⟩
    rw [if_neg (show ¬ k + 1 = 0 by omega), List.append_assoc, List.cons_append] at p3
    by_cases h0 : k = 0
    · rw [if_pos h0, itz]
      rw [if_pos h0] at p3
      exact p3
    · rw [if_neg h0, ity]
      rw [if_neg h0] at p3
      exact p3
theorem version_M {i : Nat} {m : Mi} {L : List Nat} {ns is : List Nat} (hi : i + 9 ≤ 78336) (hX : BX ns is) (hP : PgM m L) (hR : RwM m i (rW ns is)) (hL : L.length + 90 ≤ 4000) : ∃ m', f_X12_saysVersion TT m 870 875 (nI i) = some m' ∧ PgM m' (L ++ vtx ns is) ∧ FI FPm m m' := by
  obtain ⟨m1, e1, p1, f1⟩ := numsM_lp hi hX 3 0 FUEL m L (by omega) (by unfold FUEL; omega) hP hR (by omega)
  have hnl := ntx_len hX.1 3 0
  have h5 := hX.2.1
  obtain ⟨m2, e2, p2, f2⟩ := idsM_lp hi hX is 0 FUEL m1 _ rfl (by unfold FUEL; omega) p1 (hR.keep f1) (by rw [List.length_append]; omega) (by omega)
  refine ⟨m2, ?_, ?_, f1.tr f2⟩
  · unfold f_X12_saysVersion f_X12_saysVersion_j2
    rw [show ((0 : Int32), m) = (nI 0, m) from rfl, e1, Option.bind_some]
    unfold f_X12_saysVersion_j32 f_X12_saysVersion_j34
    rw [show ((0 : Int32), m1) = (nI 0, m1) from rfl, e2, Option.bind_some]
    rfl
  · rw [if_pos rfl, List.append_assoc] at p2
    rw [vtx_ntx]
    exact p2
