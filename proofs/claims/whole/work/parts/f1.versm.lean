/-! Versions that the reference writes. -/
theorem wordV_lp {w : Nat} {a1 : Nat} {a2 a3 : Int32} (hw : w < 2 ^ 63) : ∀ (d i N : Nat) (m : Mi) (L : List Nat) (x : Int32), i + d = 8 → d < N → x = nI (8 * d) - 8 → PgM m L → L.length + d ≤ 4000 →
    ∃ m', lp (fun x : Int32 × Mi => f_X12_saysVersion_l91 TT x.2 870 a1 a2 a3 (lN w) x.1) N (x, m) = some m' ∧ PgM m' (L ++ wbL w d i) ∧ FI FPm m m' := by
  intro d
  induction d with
  | zero =>
    intro i N m L x hi hN hx hP hL
    obtain ⟨N, rfl⟩ : ∃ y, N = y + 1 := ⟨N - 1, by omega⟩
    refine ⟨m, lp_exit ?_, by rw [wbL, List.append_nil]; exact hP, FI.rf⟩
    show f_X12_saysVersion_l91 TT m 870 a1 a2 a3 (lN w) x = _
    unfold f_X12_saysVersion_l91
    rw [hx, if_pos (by decide)]
  | succ d ih =>
    intro i N m L x hi hN hx hP hL
    obtain ⟨N, rfl⟩ : ∃ y, N = y + 1 := ⟨N - 1, by omega⟩
    have hx2 : x = nI (8 * d) := by
      rw [hx, show 8 * (d + 1) = 8 * d + 8 by omega, ← nI_add]
      exact Int32.add_sub_cancel _ _
    have hk := kB_l hw (show d < 8 by omega)
    rw [show 7 - d = i by omega] at hk
    have hb := kB_lt w i
    by_cases h0 : kB w i = 0
    · have hbody : f_X12_saysVersion_l91 TT m 870 a1 a2 a3 (lN w) x = some (.inl (nI (8 * d) - 8, m)) := by
        unfold f_X12_saysVersion_l91
        rw [hx2, if_neg (nI_pos (by omega)), hk, h0, if_pos (by decide), lt_eq, Int32.sub_eq_add_neg]
      obtain ⟨m', e2, p2, f2⟩ := ih (i + 1) N m L (nI (8 * d) - 8) (by omega) (by omega) rfl hP (by omega)
      rw [lp_step (show (fun x : Int32 × Mi => f_X12_saysVersion_l91 TT x.2 870 a1 a2 a3 (lN w) x.1) (x, m) = _ from hbody), wbL, if_pos h0]
      exact ⟨m', e2, p2, f2⟩
    · obtain ⟨m1, e1, p1, f1⟩ := saysN_M (kB w i) hP (by omega) hb
      have hbody : f_X12_saysVersion_l91 TT m 870 a1 a2 a3 (lN w) x = some (.inl (nI (8 * d) - 8, m1)) := by
        unfold f_X12_saysVersion_l91
        rw [hx2, if_neg (nI_pos (by omega)), hk, if_neg (fun z => by
          have := (lg_cmp_eq _ _).mp z
          rw [show (0 : Int64) = lN 0 from rfl, pk_lEQ (by omega) (by omega)] at this
          exact h0 this), lN_i, e1, Option.bind_some, lt_eq, Int32.sub_eq_add_neg]
      obtain ⟨m', e2, p2, f2⟩ := ih (i + 1) N m1 _ (nI (8 * d) - 8) (by omega) (by omega) rfl p1 (by rw [List.length_append, List.length_singleton]; omega)
      rw [lp_step (show (fun x : Int32 × Mi => f_X12_saysVersion_l91 TT x.2 870 a1 a2 a3 (lN w) x.1) (x, m) = _ from hbody), wbL, if_neg h0]
      refine ⟨m', e2, ?_, f1.tr f2⟩
      rw [List.append_assoc, List.singleton_append] at p2
      exact p2
theorem wordS_lp {w : Nat} (hw : w < 2 ^ 63) : ∀ (d i N : Nat) (m : Mi) (L : List Nat) (x : Int32), i + d = 8 → d < N → x = nI (8 * d) - 8 → PgM m L → L.length + d ≤ 4000 →
    ∃ m', lp (fun x : Int32 × Mi => f_X12_saysWord_l3 TT x.2 870 (lN w) x.1) N (x, m) = some m' ∧ PgM m' (L ++ wbL w d i) ∧ FI FPm m m' := by
  intro d
  induction d with
  | zero =>
    intro i N m L x hi hN hx hP hL
    obtain ⟨N, rfl⟩ : ∃ y, N = y + 1 := ⟨N - 1, by omega⟩
    refine ⟨m, lp_exit ?_, by rw [wbL, List.append_nil]; exact hP, FI.rf⟩
    show f_X12_saysWord_l3 TT m 870 (lN w) x = _
    unfold f_X12_saysWord_l3
    rw [hx, if_pos (by decide)]
  | succ d ih =>
    intro i N m L x hi hN hx hP hL
    obtain ⟨N, rfl⟩ : ∃ y, N = y + 1 := ⟨N - 1, by omega⟩
    have hx2 : x = nI (8 * d) := by
      rw [hx, show 8 * (d + 1) = 8 * d + 8 by omega, ← nI_add]
      exact Int32.add_sub_cancel _ _
    have hk := kB_l hw (show d < 8 by omega)
    rw [show 7 - d = i by omega] at hk
    have hb := kB_lt w i
    by_cases h0 : kB w i = 0
    · have hbody : f_X12_saysWord_l3 TT m 870 (lN w) x = some (.inl (nI (8 * d) - 8, m)) := by
        unfold f_X12_saysWord_l3
        rw [hx2, if_neg (nI_pos (by omega)), hk, h0, if_pos (by decide), lt_eq, Int32.sub_eq_add_neg]
      obtain ⟨m', e2, p2, f2⟩ := ih (i + 1) N m L (nI (8 * d) - 8) (by omega) (by omega) rfl hP (by omega)
      rw [lp_step (show (fun x : Int32 × Mi => f_X12_saysWord_l3 TT x.2 870 (lN w) x.1) (x, m) = _ from hbody), wbL, if_pos h0]
      exact ⟨m', e2, p2, f2⟩
    · obtain ⟨m1, e1, p1, f1⟩ := saysN_M (kB w i) hP (by omega) hb
      have hbody : f_X12_saysWord_l3 TT m 870 (lN w) x = some (.inl (nI (8 * d) - 8, m1)) := by
        unfold f_X12_saysWord_l3
        rw [hx2, if_neg (nI_pos (by omega)), hk, if_neg (fun z => by
          have := (lg_cmp_eq _ _).mp z
          rw [show (0 : Int64) = lN 0 from rfl, pk_lEQ (by omega) (by omega)] at this
          exact h0 this), lN_i, e1, Option.bind_some, lt_eq, Int32.sub_eq_add_neg]
      obtain ⟨m', e2, p2, f2⟩ := ih (i + 1) N m1 _ (nI (8 * d) - 8) (by omega) (by omega) rfl p1 (by rw [List.length_append, List.length_singleton]; omega)
      rw [lp_step (show (fun x : Int32 × Mi => f_X12_saysWord_l3 TT x.2 870 (lN w) x.1) (x, m) = _ from hbody), wbL, if_neg h0]
      refine ⟨m', e2, ?_, f1.tr f2⟩
      rw [List.append_assoc, List.singleton_append] at p2
      exact p2
theorem word_M {m : Mi} {L : List Nat} {w : Nat} (hw : w < 2 ^ 63) (hP : PgM m L) (hL : L.length + 9 ≤ 4000) : ∃ m', f_X12_saysWord TT m 870 (lN w) = some m' ∧ PgM m' (L ++ (wb w ++ [32])) ∧ FI FPm m m' := by
  obtain ⟨m1, e1, p1, f1⟩ := wordS_lp hw 8 0 FUEL m L (nI (8 * 8) - 8) (by omega) (by unfold FUEL; omega) rfl hP (by omega)
  have hl := wbL_len w 8 0
  obtain ⟨m2, e2, p2, f2⟩ := saysN_M 32 p1 (by rw [List.length_append]; omega) (by omega)
  refine ⟨m2, ?_, ?_, f1.tr f2⟩
  · unfold f_X12_saysWord f_X12_saysWord_j3
    rw [show ((56 : Int32), m) = (nI (8 * 8) - 8, m) from rfl, e1, Option.bind_some]
    unfold f_X12_saysWord_j37
    rw [show f_X12_says TT m1 870 32 = _ from e2, Option.bind_some]
  · rw [List.append_assoc] at p2
    exact p2
/-- a row of the reference that stands for a version: its places -/
theorem tr_inv {f : Nat → Int64} {ns is : List Nat} (hf : VR f) (hX : BX ns is) (h : trM f = rW ns is) : (∀ k, k < 3 → f k = lN (ns.getD k 0)) ∧ f 3 = lN is.length ∧ ∀ k, k < is.length → f (4 + k) = lN (is.getD k 0) := by
  obtain ⟨g, hg, hV⟩ := hf
  obtain ⟨h1, h2, h3⟩ := hX
  have hrow : ∀ j, j < 8 → trF f j = cR ns is j := fun j hj => by
    have h : rowF (trF f) = rowF (cR ns is) := h
    unfold rowF at h
    simp only [List.cons.injEq] at h
    have : j = 0 ∨ j = 1 ∨ j = 2 ∨ j = 3 ∨ j = 4 ∨ j = 5 ∨ j = 6 ∨ j = 7 := by omega
    rcases this with rfl | rfl | rfl | rfl | rfl | rfl | rfl | rfl
    · exact h.1
    · exact h.2.1
    · exact h.2.2.1
    · exact h.2.2.2.1
    · exact h.2.2.2.2.1
    · exact h.2.2.2.2.2.1
    · exact h.2.2.2.2.2.2.1
    · exact h.2.2.2.2.2.2.2.1
  have hn0 := h1 0
  have c0 : cR ns is 0 = lN (ns.getD 0 0) := rfl
  rcases hV with ⟨e0, _⟩ | ⟨v0, v1, v2, v3, v4⟩
  · exfalso
    have := hrow 0 (by omega)
    unfold trF at this
    rw [if_pos (by rw [(hg 0 (by omega)).1, e0]; rfl), if_pos rfl, c0, l40.2.1, pk_lEQ (by omega) (by omega)] at this
    omega
  · have hne : ¬ f 0 = 1099511627776 := fun z => by
      rw [(hg 0 (by omega)).1, l40.1, pk_lEQ (by omega) (by omega)] at z
      omega
    have e3 := (hg 3 (by omega)).1
    have hk : ∀ j, j < is.length → 1 ≤ ckey (is.getD j 0) ∧ ckey (is.getD j 0) < 2 ^ 63 - 1 := fun j hj => ckey_pos (h3 _ (getD_in hj))
    have okw' : ∀ j, j < is.length → okn (is.getD j 0) := fun j hj => okw_okn (h3 _ (getD_in hj))
    refine ⟨fun k hk3 => ?_, ?_⟩
    · have := hrow k (by omega)
      unfold trF cR at this
      rw [if_neg hne, if_pos hk3, if_pos hk3] at this
      exact this
    · by_cases hz : g 3 = 0
      · have h33 := hrow 3 (by omega)
        unfold trF at h33
        rw [if_neg hne, if_neg (by omega), if_pos (by rw [e3, hz]; rfl), if_pos rfl] at h33
        have hl : is.length = 0 := by
          by_cases hl : is.length = 0
          · exact hl
          · exfalso
            rw [cR_get (by omega) hl, if_pos (by omega), l40.2.1, pk_lEQ (by omega) (by have := hk (3 - 3) (by omega); omega)] at h33
            have := hk (3 - 3) (by omega)
            omega
        exact ⟨by rw [e3, hz, hl], fun k hk => by omega⟩
      · have hz3 : ¬ f 3 = 0 := fun z => by
          rw [e3, l40.2.2, pk_lEQ (by omega) (by omega)] at z
          exact hz z
        have htr : ∀ k, k < 5 → trF f (k + 3) = if k < g 3 then lN (ckey (g (4 + k))) else 0 := fun k hk5 => by
          unfold trF
          rw [if_neg hne, if_neg (by omega), if_neg hz3, show k + 3 - 3 = k by omega, e3]
          by_cases hkg : k < g 3
          · rw [if_pos ((pk_lLT (by omega) (by omega)).mpr hkg), if_pos hkg, show k + 3 + 1 = 4 + k by omega, (hg (4 + k) (by omega)).1, trk_n (v4 k hkg)]
            rfl
          · rw [if_neg (fun z => hkg ((pk_lLT (by omega) (by omega)).mp z)), if_neg hkg]
        have hgk : ∀ k, k < g 3 → ckey (g (4 + k)) < 9223372036854775807 ∧ 1 ≤ ckey (g (4 + k)) := fun k hk => ckey_lt (v4 k hk)
        have hl : ¬ is.length = 0 := fun z => by
          have h33 := hrow 3 (by omega)
          rw [show (3 : Nat) = 0 + 3 from rfl, htr 0 (by omega), if_pos (by omega)] at h33
          unfold cR at h33
          rw [if_neg (by omega), if_pos z, if_pos rfl, l40.2.1, pk_lEQ (by have := hgk 0 (by omega); omega) (by omega)] at h33
          have := hgk 0 (by omega)
          omega
        have hcr : ∀ k, k < 5 → cR ns is (k + 3) = if k < is.length then lN (ckey (is.getD k 0)) else 0 := fun k hk5 => by
          rw [cR_get (by omega) hl, show k + 3 - 3 = k by omega]
        have hiff : ∀ k, k < 5 → (k < g 3 ↔ k < is.length) := fun k hk5 => by
          have h33 := hrow (k + 3) (by omega)
          rw [htr k hk5, hcr k hk5] at h33
          by_cases a : k < g 3
          · by_cases b : k < is.length
            · exact ⟨fun _ => b, fun _ => a⟩
            · rw [if_pos a, if_neg b, show (0 : Int64) = lN 0 from rfl, pk_lEQ (by have := hgk k a; omega) (by omega)] at h33
              have := hgk k a
              omega
          · by_cases b : k < is.length
            · rw [if_neg a, if_pos b, show (0 : Int64) = lN 0 from rfl, pk_lEQ (by omega) (by have := hk k b; omega)] at h33
              have := hk k b
              omega
            · exact ⟨fun z => absurd z a, fun z => absurd z b⟩
        have hgl : g 3 = is.length := by
          rcases Nat.lt_trichotomy (g 3) is.length with e | e | e
          · have := (hiff (g 3) (by omega)).mpr e
            omega
          · exact e
          · have := (hiff is.length (by omega)).mp e
            omega
        refine ⟨by rw [e3, hgl], fun k hkl => ?_⟩
        have h33 := hrow (k + 3) (by omega)
        rw [htr k (by omega), hcr k (by omega), if_pos (by omega), if_pos hkl, pk_lEQ (by have := hgk k (by omega); omega) (by have := hk k hkl; omega)] at h33
        rw [(hg (4 + k) (by omega)).1]
        have o1 := v4 k (by omega)
        have o2 := okw' k hkl
        refine congrArg lN ?_
        unfold ckey at h33
        unfold okn at o1 o2
        split at h33 <;> split at h33 <;> omega
