/-! write of the reference. -/
theorem MG_row {m : Mi} {r i : Nat} {B : List Row} {b : Row} (h : MG m r B) (hb : B[i]? = some b) : RwM m (288 * r + 9 * i) b := by
  obtain ⟨n, h1, h2, h3, h4, h5⟩ := h
  have hl := get_lt hb
  refine ⟨h4 i (by omega), ?_⟩
  have : (bM m r n)[i]? = some (trM (fun z => gl m 875 (288 * r + 9 * i + z))) := by
    unfold bM
    rw [List.getElem?_map, List.getElem?_range (by omega)]
    rfl
  rw [h5, hb] at this
  exact (Option.some.inj this).symm
theorem MG.kJ {m m' : Mi} {r : Nat} {B : List Row} (h : MG m r B) (k : FJm m m') : MG m' r B := by
  obtain ⟨n, h1, h2, h3, h4, h5⟩ := h
  have e : ∀ b z, gl m' 875 (288 * r + 9 * b + z) = gl m 875 (288 * r + 9 * b + z) := fun b z => k.2.1 _ _ (by omega)
  refine ⟨n, h1, h2, (k.1 _ _ (by unfold FPm; omega)).trans h3, fun b hb => VR_congr (fun z _ => e b z) (h4 b hb), ?_⟩
  rw [← h5]
  unfold bM
  exact List.map_congr_left (fun b _ => trM_congr (fun z _ => e b z))
theorem rangeM_lp {r : Nat} {D : List DB} (hD : GD D) (hr : r < 272) : ∀ (d k N : Nat) (m : Mi) (L : List Nat), 2 * (k + d) = D.length → d < N → PgM m L → MG m r (D.map rwO) → L.length + 142 * d + 220 ≤ 4000 →
    ∃ m', lp (fun x : Int32 × Mi => f_X12_saysRange_l35 TT x.2 870 (nI r) x.1) N (nI k, m) = some m' ∧ PgM m' (L ++ rtx (D.drop (2 * k)) k) ∧ FJm m m' := by
  have h32 := hD.2.2.2.1
  rw [List.length_map] at h32
  intro d
  induction d with
  | zero =>
    intro k N m L hk hN hP hR hL
    obtain ⟨N, rfl⟩ : ∃ y, N = y + 1 := ⟨N - 1, by omega⟩
    obtain ⟨n, q1, q2, q3, _⟩ := hR
    rw [List.length_map] at q1
    rw [List.drop_eq_nil_of_le (by omega), rtx, List.append_nil]
    · refine ⟨m, lp_exit ?_, hP, FJm.rf⟩
      show f_X12_saysRange_l35 TT m 870 (nI r) (nI k) = _
      unfold f_X12_saysRange_l35
      rw [show gr m 870 7 = 874 from hP.1 7 (by omega), if_pos (ar_of s_874 hr (by omega)), ix_nI (by omega), q3, if_pos (nI_le (by omega) (by omega))]
    · intro lo hi r' e; cases e
  | succ d ih =>
    intro k N m L hk hN hP hR hL
    obtain ⟨N, rfl⟩ : ∃ y, N = y + 1 := ⟨N - 1, by omega⟩
    obtain ⟨n, q1, q2, q3, _⟩ := id hR
    rw [List.length_map] at q1
    obtain ⟨lo, hlo⟩ := get_some (l := D) (k := 2 * k) (by omega)
    obtain ⟨hi, hhi⟩ := get_some (l := D) (k := 2 * k + 1) (by omega)
    have hdrop : D.drop (2 * k) = lo :: hi :: D.drop (2 * (k + 1)) := by
      rw [drop_get hlo, drop_get hhi, show 2 * k + 1 + 1 = 2 * (k + 1) by omega]
    obtain ⟨⟨v, rfl⟩, _⟩ := GD_lo hD hlo hhi
    have d1 := hD.1 _ (List.mem_of_getElem? hlo)
    have d2 := hD.1 _ (List.mem_of_getElem? hhi)
    have hlt := Up_lt hD.2.1 (map_get hlo) (map_get hhi) (by omega)
    have hge := (hD.2.2.2.2 _ (List.mem_of_getElem? (map_get hlo))).1
    have hsl := stx_len d1 d2
    have st : ∀ (m1 : Mi) (L1 : List Nat), PgM m1 L1 → FJm m m1 → L1.length + 200 ≤ 4000 → ∃ m2, f_X12_saysRange_j73 TT m1 870 (nI r) (nI k) = some (.inl (nI (k + 1), m2)) ∧ PgM m2 (L1 ++ stx (some v) hi) ∧ FJm m m2 := by
      intro m1 L1 p1 f1 hl1
      have R1 := hR.kJ f1
      have lo1 := MG_row R1 (map_get hlo)
      have hi1 := MG_row R1 (map_get hhi)
      rw [show 288 * r + 9 * (2 * k) = 288 * r + 18 * k by omega] at lo1
      rw [show 288 * r + 9 * (2 * k + 1) = 288 * r + 18 * k + 9 by omega] at hi1
      obtain ⟨m2, e2, p2, f2⟩ := stretch_M (by omega) (by omega) d1 d2 hlt hge p1 lo1 hi1 hl1
      refine ⟨m2, ?_, p2, f1.tr f2⟩
      unfold f_X12_saysRange_j73
      rw [from_spec, Option.bind_some, below_spec, Option.bind_some, e2, Option.bind_some, lt_eq, nI_1]
    have hbody : ∃ m2, f_X12_saysRange_l35 TT m 870 (nI r) (nI k) = some (.inl (nI (k + 1), m2)) ∧ PgM m2 (L ++ ((if k = 0 then [] else [32, 124, 124, 32]) ++ stx (some v) hi)) ∧ FJm m m2 := by
      unfold f_X12_saysRange_l35
      rw [show gr m 870 7 = 874 from hP.1 7 (by omega), if_pos (ar_of s_874 hr (by omega)), ix_nI (by omega), q3, if_neg (nI_ge (by omega) (by omega))]
      by_cases h0 : k = 0
      · rw [if_pos (show nI k ≤ 0 by rw [h0]; decide), if_pos h0, List.nil_append]
        exact st m L hP FJm.rf (by omega)
      · obtain ⟨m1, e1, p1, f1⟩ := saysN_M 32 hP (by omega) (by omega)
        obtain ⟨m2, e2, p2, f2⟩ := saysN_M 124 p1 (by rw [List.length_append, List.length_singleton]; omega) (by omega)
        obtain ⟨m3, e3, p3, f3⟩ := saysN_M 124 p2 (by rw [List.length_append, List.length_append, List.length_singleton, List.length_singleton]; omega) (by omega)
        obtain ⟨m4, e4, p4, f4⟩ := saysN_M 32 p3 (by simp only [List.length_append, List.length_cons, List.length_nil]; omega) (by omega)
        rw [if_neg (show ¬ nI k ≤ 0 from nI_ge (a := 0) (by omega) (by omega)), if_neg h0, show f_X12_says TT m 870 32 = _ from e1, Option.bind_some, show f_X12_says TT m1 870 124 = _ from e2, Option.bind_some, show f_X12_says TT m2 870 124 = _ from e3, Option.bind_some, show f_X12_says TT m3 870 32 = _ from e4, Option.bind_some]
        obtain ⟨m5, e5, p5, f5⟩ := st m4 _ p4 (((f1.tr f2).tr f3).tr f4).Jm (by simp only [List.length_append, List.length_cons, List.length_nil]; omega)
        refine ⟨m5, e5, ?_, f5⟩
        simp only [List.append_assoc, List.singleton_append] at p5
        exact p5
    obtain ⟨m2, e2, p2, f2⟩ := hbody
    have hl4 : (if k = 0 then ([] : List Nat) else [32, 124, 124, 32]).length ≤ 4 := by split <;> simp
    obtain ⟨m', e5, p5, j5⟩ := ih (k + 1) N m2 _ (by omega) (by omega) p2 (hR.kJ f2) (by rw [List.length_append, List.length_append]; omega)
    rw [lp_step (body := fun x : Int32 × Mi => f_X12_saysRange_l35 TT x.2 870 (nI r) x.1) (x := (nI k, m)) (x' := (nI (k + 1), m2)) e2]
    refine ⟨m', e5, ?_, f2.tr j5⟩
    rw [hdrop, rtx]
    rw [List.append_assoc, List.append_assoc] at p5
    exact p5
theorem range_Mw {r : Nat} {D : List DB} {m : Mi} {L : List Nat} (hD : GD D) (hr : r < 272) (hP : PgM m L) (hR : MG m r (D.map rwO)) (hL : L.length ≤ 1000) : ∃ m', f_X12_saysRange TT m 870 (nI r) = some m' ∧ PgM m' (L ++ wtx D) ∧ FJm m m' := by
  have h32 := hD.2.2.2.1
  rw [List.length_map] at h32
  obtain ⟨n, q1, q2, q3, _⟩ := id hR
  rw [List.length_map] at q1
  unfold f_X12_saysRange
  rw [show gr m 870 7 = 874 from hP.1 7 (by omega), if_pos (ar_of s_874 hr (by omega)), ix_nI (by omega), q3]
  have go : ∀ (m1 : Mi) (L1 : List Nat), PgM m1 L1 → FJm m m1 → L1.length ≤ 1010 → ∃ m', f_X12_saysRange_j33 TT m1 870 (nI r) = some m' ∧ PgM m' (L1 ++ rtx D 0) ∧ FJm m m' := by
    intro m1 L1 p1 f1 hl
    obtain ⟨m2, e2, p2, f2⟩ := rangeM_lp hD hr n 0 FUEL m1 L1 (by omega) (by unfold FUEL; omega) p1 (hR.kJ f1) (by omega)
    refine ⟨m2, ?_, p2, f1.tr f2⟩
    unfold f_X12_saysRange_j33 f_X12_saysRange_j35
    rw [show ((0 : Int32), m1) = (nI 0, m1) from rfl, e2, Option.bind_some]
    rfl
  unfold wtx
  by_cases h0 : D = []
  · have hn0 : n = 0 := by rw [h0] at q1; simp at q1; omega
    rw [if_pos (show nI n = 0 by rw [hn0]; rfl), if_pos h0]
    obtain ⟨m1, e1, p1, f1⟩ := saysN_M 110 hP (by omega) (by omega)
    obtain ⟨m2, e2, p2, f2⟩ := saysN_M 111 p1 (by rw [List.length_append, List.length_singleton]; omega) (by omega)
    obtain ⟨m3, e3, p3, f3⟩ := saysN_M 110 p2 (by simp only [List.length_append, List.length_cons, List.length_nil]; omega) (by omega)
    obtain ⟨m4, e4, p4, f4⟩ := saysN_M 101 p3 (by simp only [List.length_append, List.length_cons, List.length_nil]; omega) (by omega)
    rw [show f_X12_says TT m 870 110 = _ from e1, Option.bind_some, show f_X12_says TT m1 870 111 = _ from e2, Option.bind_some, show f_X12_says TT m2 870 110 = _ from e3, Option.bind_some, show f_X12_says TT m3 870 101 = _ from e4, Option.bind_some]
    obtain ⟨m5, e5, p5, f5⟩ := go m4 _ p4 (((f1.tr f2).tr f3).tr f4).Jm (by simp only [List.length_append, List.length_cons, List.length_nil]; omega)
    refine ⟨m5, e5, ?_, f5⟩
    have er : rtx D 0 = [] := by
      rw [h0, rtx]
      intro lo hi r' e; cases e
    rw [er, List.append_nil] at p5
    simp only [List.append_assoc, List.singleton_append] at p5
    exact p5
  · have hn0 : n ≠ 0 := fun z => h0 (List.length_eq_zero_iff.mp (by omega))
    rw [if_neg (nI_ne0 (by omega) (by omega)), if_neg h0]
    exact go m L hP FJm.rf (by omega)
