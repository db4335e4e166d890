/-! nextEnd as a whole; the marks of 'combined'. -/
theorem fuel3 : ∃ F, FUEL = F + 1 + 1 + 1 := ⟨2 ^ 64 - 3, by unfold FUEL; omega⟩
theorem MG.keepN {m m' : Mi} {r : Nat} {B : List Row} (h : MG m r B) (k : KpN m m') : MG m' r B := by
  obtain ⟨n, h1, h2, h3, h4, h5⟩ := h
  have e : ∀ p, (fun z => gl m' 875 (p + z)) = fun z => gl m 875 (p + z) := fun p => funext fun z => k.1 _ _ (by decide) (by decide)
  refine ⟨n, h1, h2, (k.2.1 _ _).trans h3, fun b hb => by rw [e]; exact h4 b hb, ?_⟩
  rw [← h5]
  unfold bM
  apply List.map_congr_left
  intro b _
  rw [e]
theorem WFM.keepN {m m' : Mi} (h : WFM m) (k : KpN m m') : WFM m' := fun z hz => (k.2.2 _ _).trans (h z hz)
/-- one side of nextEnd -/
theorem mne_side {m : Mi} {r ra rb s0 : Nat} {B : List Row} (hM : WFM m) (hr : r < 272) (h : MG m r B) (hx : VR (row9 m 878)) (ho : VR (row9 m 879)) :
    ∃ m', f_X12_nextEnd_j25 TT m 870 (nI ra) (nI rb) (nI s0) (nI r) = some (.inl (nI (s0 + 1), m')) ∧ trM (row9 m' 879) = nx (trM (row9 m 878)) (trM (row9 m 879)) B ∧ VR (row9 m' 879) ∧ (∀ j, gl m' 878 j = gl m 878 j) ∧ KpN m m' := by
  obtain ⟨n, h1, h2, h3, h4, h5⟩ := h
  obtain ⟨m', e, g1, g2, g3, g4⟩ := mne_lp (how1 := ra) (how2 := rb) (s0 := s0) (B := B) (X := trM (row9 m 878)) hr h2 (2 * n) 0 FUEL m (by omega) (by unfold FUEL; omega) hM h3 h4 h5 hx ho rfl
  refine ⟨m', ?_, g1, g2, g3, g4⟩
  unfold f_X12_nextEnd_j25 f_X12_nextEnd_j30
  rw [show ((0 : Int32), m) = (nI 0, m) from rfl, e, Option.bind_some]
  unfold f_X12_nextEnd_j112
  rw [lt_eq, nI_1]
theorem mnext_spec {m : Mi} {ra rb : Nat} {A B : List Row} (hM : WFM m) (hra : ra < 272) (hrb : rb < 272) (ha : MG m ra A) (hb : MG m rb B) (hx : VR (row9 m 878)) :
    ∃ m', KpN m m' ∧ (if nx (trM (row9 m 878)) (nx (trM (row9 m 878)) EN A) B = EN then f_X12_nextEnd TT m 870 (nI ra) (nI rb) = some (0, m') else f_X12_nextEnd TT m 870 (nI ra) (nI rb) = some (1, m') ∧ VR (row9 m' 878) ∧ trM (row9 m' 878) = nx (trM (row9 m 878)) (nx (trM (row9 m 878)) EN A) B) := by
  generalize hX : trM (row9 m 878) = X
  have r13 : gr m 870 13 = 879 := hM 13 (by omega)
  have hnone := mnone_spec (t := TT) (m := m) (z := 870) (a := 879) (i := 0) s_879 (by omega) (by omega)
  generalize hm1 : blkL m 879 0 (0 + 9) (fun q => if q = 0 then 1099511627776 else 0) = m1 at hnone
  have k1 : KpN m m1 := by
    rw [← hm1]
    exact ⟨fun x j _ h => by simp only [mS]; rw [if_neg (fun e => h e.1)], fun _ _ => rfl, fun _ _ => rfl⟩
  have e878 : row9 m1 878 = row9 m 878 := by
    funext z
    unfold row9
    rw [← hm1]
    simp only [mS]
    rw [if_neg (by omega)]
  have e879 : ∀ z, z < 9 → row9 m1 879 z = if z = 0 then 1099511627776 else 0 := by
    intro z hz
    unfold row9
    rw [← hm1]
    simp only [mS]
    rw [if_pos ⟨trivial, by omega, by omega⟩, Nat.zero_add]
  have v879 : VR (row9 m1 879) := VR_end e879
  have t879 : trM (row9 m1 879) = EN := trF_end (e879 0 (by omega))
  obtain ⟨m2, s1, g1, g2, g3, g4⟩ := mne_side (ra := ra) (rb := rb) (s0 := 0) (hM.keepN k1) hra (ha.keepN k1) (by rw [e878]; exact hx) v879
  have f878 : row9 m2 878 = row9 m 878 := by rw [← e878]; funext z; exact g3 _
  obtain ⟨m3, s2, q1, q2, q3, q4⟩ := mne_side (ra := ra) (rb := rb) (s0 := 1) ((hM.keepN k1).keepN g4) hrb ((hb.keepN k1).keepN g4) (by rw [f878]; exact hx) g2
  have f878' : row9 m3 878 = row9 m 878 := by rw [← f878]; funext z; exact q3 _
  rw [e878, hX, t879] at g1
  rw [f878, hX, g1] at q1
  have hM3 : WFM m3 := ((hM.keepN k1).keepN g4).keepN q4
  have r12 : gr m3 870 12 = 878 := hM3 12 (by omega)
  have r13' : gr m3 870 13 = 879 := hM3 13 (by omega)
  have loop : f_X12_nextEnd TT m 870 (nI ra) (nI rb) = f_X12_nextEnd_j118 TT m3 870 := by
    unfold f_X12_nextEnd f_X12_nextEnd_j11
    rw [r13, show (0 : Int32) = nI 0 from rfl, hnone, Option.bind_some]
    rw [show lp (fun x : Int32 × Mi => f_X12_nextEnd_l11 TT x.2 870 (nI ra) (nI rb) x.1) FUEL (nI 0, m1) = some m3 from ?_]
    · rfl
    · obtain ⟨F, hF⟩ := fuel3
      rw [hF, lp_step (x' := (nI 1, m2)), lp_step (x' := (nI 2, m3)), lp_exit (y := m3)]
      · show f_X12_nextEnd_l11 TT m3 870 (nI ra) (nI rb) (nI 2) = _
        unfold f_X12_nextEnd_l11
        rw [if_pos (by decide)]
      · show f_X12_nextEnd_l11 TT m2 870 (nI ra) (nI rb) (nI 1) = _
        unfold f_X12_nextEnd_l11
        rw [if_neg (by decide), if_neg (by decide)]
        exact s2
      · show f_X12_nextEnd_l11 TT m1 870 (nI ra) (nI rb) (nI 0) = _
        unfold f_X12_nextEnd_l11
        rw [if_neg (by decide), if_pos (by decide)]
        exact s1
  have hcp := mcopy_spec (m := m3) (a := 878) (i := 0) (b := 879) (j := 0) s_878 s_879 (by omega) (by omega) (by omega) (by omega) (Or.inl (by decide))
  generalize hm4 : blkL m3 878 0 (0 + 9) (fun q => gl m3 879 (0 + (q - 0))) = m4 at hcp
  have hj : f_X12_nextEnd_j118 TT m3 870 = if gl m3 879 0 = 1099511627776 then some (0, m3) else some (1, m4) := by
    unfold f_X12_nextEnd_j118
    rw [r12, r13', show (0 : Int32) = nI 0 from rfl, if_pos (ar_of s_879 (by omega) (by omega)), ix_nI (by omega), hcp, Option.bind_some, show nI 0 = (0 : Int32) from rfl]
    by_cases h : gl m3 879 0 = 1099511627776
    · rw [if_pos ((lg_cmp_eq _ _).mpr h), if_pos h]
    · rw [if_neg (fun e => h ((lg_cmp_eq _ _).mp e)), if_neg h]
  have hend : gl m3 879 0 = 1099511627776 ↔ nx X (nx X EN A) B = EN := by
    rw [← q1, show gl m3 879 0 = row9 m3 879 0 from rfl]
    exact VR_isEnd q2
  by_cases h : nx X (nx X EN A) B = EN
  · refine ⟨m3, (k1.tr g4).tr q4, ?_⟩
    rw [if_pos h, loop, hj, if_pos (hend.mpr h)]
  · have k4 : KpN m3 m4 := by
      rw [← hm4]
      exact ⟨fun x j h _ => by simp only [mS]; rw [if_neg (fun e => h e.1)], fun _ _ => rfl, fun _ _ => rfl⟩
    have e4 : ∀ z, z < 9 → row9 m4 878 z = row9 m3 879 z := by
      intro z hz
      unfold row9
      rw [← hm4]
      simp only [mS]
      rw [if_pos ⟨trivial, by omega, by omega⟩, show 0 + (0 + z - 0) = 0 + z by omega]
    have tr4 : trM (row9 m4 878) = trM (row9 m3 879) := by
      unfold trM
      apply rowF_congr
      intro z hz
      unfold trF
      rw [e4 0 (by omega), e4 3 (by omega), e4 z (by omega), e4 (z + 1) (by omega)]
    refine ⟨m4, ((k1.tr g4).tr q4).tr k4, ?_⟩
    rw [if_neg h, loop, hj, if_neg (fun e => h (hend.mp e))]
    refine ⟨rfl, ?_, by rw [tr4, q1]⟩
    obtain ⟨g, hg, hv⟩ := q2
    exact ⟨g, fun z hz => by rw [e4 z hz]; exact hg z hz, hv⟩
