/-! The reference's combine and inside. -/
theorem copyRange_lp {m : Mi} {r to : Nat} (hM : WFM m) (hr : r < 272) (hto : to < 272) (hne : r ≠ to) : f_X12_copyRange TT m 870 (nI to) (nI r) = some (blkL (si m 874 to (gi m 874 r)) 875 (288 * to) (288 * to + 288) (fun q => gl m 875 (288 * r + (q - 288 * to)))) := by
  have r7 : gr m 870 7 = 874 := hM 7 (by omega)
  have r8 : gr m 870 8 = 875 := hM 8 (by omega)
  unfold f_X12_copyRange f_X12_copyRange_j14
  rw [r7, if_pos (ar_of s_874 hr (by omega)), if_pos (ar_of s_874 hto (by omega)), lt_eq, ix_nI (by omega), ix_nI (by omega)]
  have h := lp_count (body := fun x : Int32 × Mi => f_X12_copyRange_l14 TT x.2 870 (nI to) (nI r) x.1) (fun k => (nI k, blkL (si m 874 to (gi m 874 r)) 875 (288 * to) (288 * to + k) (fun q => gl m 875 (288 * r + (q - 288 * to))))) (a := 0) (n := 288) (y := blkL (si m 874 to (gi m 874 r)) 875 (288 * to) (288 * to + 288) (fun q => gl m 875 (288 * r + (q - 288 * to)))) (by omega) (by omega) (fun k _ hk => ?_) ?_
  · rw [Nat.add_zero, blkL_nil] at h
    rw [show (0 : Int32) = nI 0 from rfl, h]
    rfl
  · show f_X12_copyRange_l14 TT _ 870 (nI to) (nI r) (nI k) = _
    unfold f_X12_copyRange_l14
    have q8 : gr (blkL (si m 874 to (gi m 874 r)) 875 (288 * to) (288 * to + k) (fun q => gl m 875 (288 * r + (q - 288 * to)))) 870 8 = 875 := r8
    simp (disch := omega) only [nlit, nS, bS, q8]
    rw [if_neg (by omega), show r * 16 * 2 * 9 + k = 288 * r + k by omega, show to * 16 * 2 * 9 + k = 288 * to + k by omega, if_pos (ar_of s_875 (by omega) (by omega)), if_pos (ar_of s_875 (by omega) (by omega))]
    have e : gl (blkL (si m 874 to (gi m 874 r)) 875 (288 * to) (288 * to + k) (fun q => gl m 875 (288 * r + (q - 288 * to)))) 875 (288 * r + k) = (fun q => gl m 875 (288 * r + (q - 288 * to))) (288 * to + k) := by
      simp only [mS]
      rw [if_neg (by omega), show 288 * to + k - 288 * to = k by omega]
    rw [e, blkL_snoc _ _ _ _ _ (by omega)]
    rfl
  · show f_X12_copyRange_l14 TT _ 870 (nI to) (nI r) (nI 288) = _
    unfold f_X12_copyRange_l14
    rw [if_pos (by decide)]
theorem copyRange_spec {m : Mi} {r to : Nat} {B : List Row} (hM : WFM m) (hr : r < 272) (hto : to < 272) (hne : r ≠ to) (h : MG m r B) : ∃ m', f_X12_copyRange TT m 870 (nI to) (nI r) = some m' ∧ KpC to m m' ∧ MG m' to B := by
  refine ⟨_, copyRange_lp hM hr hto hne, ⟨fun x j _ _ _ h1 => ?_, fun x j _ h1 => ?_, fun _ _ => rfl⟩, ?_⟩
  · simp only [mS]
    rw [if_neg h1]
  · simp only [mS]
    rw [if_neg h1]
  · obtain ⟨n, h1, h2, h3, h4, h5⟩ := h
    have e9 : ∀ b, b < 2 * n → ∀ z, z < 9 → gl (blkL (si m 874 to (gi m 874 r)) 875 (288 * to) (288 * to + 288) (fun q => gl m 875 (288 * r + (q - 288 * to)))) 875 (288 * to + 9 * b + z) = gl m 875 (288 * r + 9 * b + z) := by
      intro b hb z hz
      simp only [mS]
      rw [if_pos ⟨trivial, by omega, by omega⟩, show 288 * r + (288 * to + 9 * b + z - 288 * to) = 288 * r + 9 * b + z by omega]
    refine ⟨n, h1, h2, ?_, fun b hb => ?_, ?_⟩
    · simp only [mS]
      rw [if_pos ⟨trivial, trivial⟩]
      exact h3
    · obtain ⟨g, g1, g2⟩ := h4 b hb
      exact ⟨g, fun z hz => by show gl _ _ _ = _ ∧ _; rw [e9 b hb z hz]; exact g1 z hz, g2⟩
    · rw [← h5]
      unfold bM
      apply List.map_congr_left
      intro b hb
      exact trM_congr (fun z hz => e9 b (by simpa using hb) z hz)
theorem MG.keepC {m m' : Mi} {r to : Nat} {B : List Row} (h : MG m r B) (k : KpC to m m') (hne : r ≠ to) : MG m' r B := by
  obtain ⟨n, h1, h2, h3, h4, h5⟩ := h
  have e9 : ∀ b, b < 2 * n → ∀ z, z < 9 → gl m' 875 (288 * r + 9 * b + z) = gl m 875 (288 * r + 9 * b + z) := fun b hb z hz => k.1 _ _ (by decide) (by decide) (by decide) (by omega)
  refine ⟨n, h1, h2, (k.2.1 _ _ (by omega) (by omega)).trans h3, fun b hb => ?_, ?_⟩
  · obtain ⟨g, g1, g2⟩ := h4 b hb
    exact ⟨g, fun z hz => by show gl _ _ _ = _ ∧ _; rw [e9 b hb z hz]; exact g1 z hz, g2⟩
  · rw [← h5]
    unfold bM
    apply List.map_congr_left
    intro b hb
    exact trM_congr (fun z hz => e9 b (by simpa using hb) z hz)
theorem WFM.keepC {m m' : Mi} {to : Nat} (h : WFM m) (k : KpC to m m') : WFM m' := fun z hz => (k.2.2 _ _).trans (h z hz)
/-- only the slots and what combining uses have changed -/
def KpM (m m' : Mi) : Prop := (∀ x j, x ≠ 876 → x ≠ 878 → x ≠ 879 → ¬ (x = 875 ∧ 288 * 250 ≤ j) → gl m' x j = gl m x j) ∧ (∀ x j, ¬ (x = 870 ∧ j = 10) → ¬ (x = 874 ∧ 250 ≤ j) → gi m' x j = gi m x j) ∧ ∀ x j, gr m' x j = gr m x j
theorem KpM.rf {m : Mi} : KpM m m := ⟨fun _ _ _ _ _ _ => rfl, fun _ _ _ _ => rfl, fun _ _ => rfl⟩
theorem KpM.tr {m m1 m2 : Mi} (h : KpM m m1) (h2 : KpM m1 m2) : KpM m m2 := ⟨fun x j a b c d => (h2.1 x j a b c d).trans (h.1 x j a b c d), fun x j a b => (h2.2.1 x j a b).trans (h.2.1 x j a b), fun x j => (h2.2.2 x j).trans (h.2.2 x j)⟩
theorem KpC.M {to : Nat} {m m' : Mi} (h : KpC to m m') (ht : 250 ≤ to) : KpM m m' := ⟨fun x j a b c d => h.1 x j a b c (by omega), fun x j a b => h.2.1 x j a (by omega), h.2.2⟩
theorem slotOf_spec (k : Nat) : f_X12_slotOf (nI k) = some (nI (250 + k)) := by
  unfold f_X12_slotOf
  rw [nlit, nI_add]
theorem combine_M {m : Mi} {S : Nat → List Row} (hW : WFM m) (hS : MSl m S) (hG : GS S) (h a b c : Int32) : ∃ m', f_X12_combine TT m 870 h a b c = some ((spComb S h a b c).1, m') ∧ MSl m' (spComb S h a b c).2 ∧ KpM m m' := by
  unfold f_X12_combine spComb
  by_cases h0 : h < 0
  · rw [if_pos h0]
    simp only [decide_eq_true h0, Bool.not_true, Bool.false_and, Bool.and_false, Bool.false_eq_true, if_false]
    exact ⟨m, rfl, hS, KpM.rf⟩
  by_cases h2 : h ≤ 2
  · obtain ⟨kh, hkh, rfl⟩ : ∃ k, k ≤ 2 ∧ h = nI k := nI_of2 (M := 2) (n := 2) rfl h0 h2
    rw [if_neg h0, if_neg (Int32.not_lt.mpr h2)]
    rcases sOk_cases a with ⟨a1, -, a2⟩ | ⟨ka, ha, rfl, a1, -, a2⟩
    · rw [a1, a2]
      exact ⟨m, rfl, hS, KpM.rf⟩
    rcases sOk_cases b with ⟨b1, -, b2⟩ | ⟨kb, hb, rfl, b1, -, b2⟩
    · rw [a1, a2, b1, b2]
      exact ⟨m, rfl, hS, KpM.rf⟩
    rcases sOk_cases c with ⟨c1, -, c2⟩ | ⟨kc, hc, rfl, c1, -, c2⟩
    · rw [a1, a2, b1, b2, c1, c2]
      exact ⟨m, rfl, hS, KpM.rf⟩
    have gA := hG ka ha
    have gB := hG kb hb
    obtain ⟨m1, e1, k1, g1, g1'⟩ := mcombined_spec (how := kh) (ra := 250 + ka) (rb := 250 + kb) (to := 266) (by omega) (by omega) (by omega) (by omega) hW (hS ka ha) (hS kb hb) gA gB
    rw [a1, a2, b1, b2, c1, c2]
    simp only [decide_eq_false h0, decide_eq_true h2, Bool.not_false, Bool.true_and, if_true, bS, slotOf_spec]
    rw [if_neg (by decide), if_neg (by decide), if_neg (by decide), show (266 : Int32) = nI 266 from rfl, e1]
    simp only [bS, ix_nI (show kh < 2 ^ 31 by omega), ix_nI (show ka < 2 ^ 31 by omega), ix_nI (show kb < 2 ^ 31 by omega), ix_nI (show kc < 2 ^ 31 by omega)]
    have hle := jo_le (how := kh) gA gB
    have hev := jo_even (how := kh) gA gB
    have hev2 : ¬ (jo kh (S ka) (S kb)).length % 2 = 1 := by
      unfold od at hev
      simpa using hev
    by_cases hl : (jo kh (S ka) (S kb)).length ≤ 32
    · obtain ⟨m2, e2, k2, g2⟩ := copyRange_spec (r := 266) (to := 250 + kc) (hW.keepC k1) (by omega) (by omega) (by omega) (g1 hl)
      rw [if_pos (by rw [show (16 : Int32) = nI 16 from rfl]; exact nI_le (by omega) (by omega)), if_pos hl, e2]
      refine ⟨m2, rfl, fun k hk => ?_, (k1.M (by omega)).tr (k2.M (by omega))⟩
      show MG m2 (250 + k) (if k = kc then _ else S k)
      by_cases hkc : k = kc
      · rw [if_pos hkc, hkc]; exact g2
      · rw [if_neg hkc]; exact ((hS k hk).keepC k1 (by omega)).keepC k2 (by omega)
    · rw [if_neg (by rw [show (16 : Int32) = nI 16 from rfl]; exact nI_ge (by omega) (by omega)), if_neg hl]
      exact ⟨m1, rfl, fun k hk => (hS k hk).keepC k1 (by omega), k1.M (by omega)⟩
  · rw [if_neg h0, if_pos (Int32.not_le.mp h2)]
    simp only [decide_eq_false h2, Bool.and_false, Bool.false_eq_true, if_false]
    exact ⟨m, rfl, hS, KpM.rf⟩
theorem inside_M {m : Mi} {S : Nat → List Row} (hW : WFM m) (hS : MSl m S) (hG : GS S) (a b : Int32) : ∃ m', f_X12_inside TT m 870 a b = some (spIns S a b, m') ∧ MSl m' S ∧ KpM m m' := by
  unfold f_X12_inside spIns
  rcases sOk_cases a with ⟨a1, -, a2⟩ | ⟨ka, ha, rfl, a1, -, a2⟩
  · rw [a1, a2]
    exact ⟨m, rfl, hS, KpM.rf⟩
  rcases sOk_cases b with ⟨b1, -, b2⟩ | ⟨kb, hb, rfl, b1, -, b2⟩
  · rw [a1, a2, b1, b2]
    exact ⟨m, rfl, hS, KpM.rf⟩
  have gA := hG ka ha
  have gB := hG kb hb
  obtain ⟨m1, e1, k1, g1, g1'⟩ := mcombined_spec (how := 2) (ra := 250 + ka) (rb := 250 + kb) (to := 266) (by omega) (by omega) (by omega) (by omega) hW (hS ka ha) (hS kb hb) gA gB
  rw [a1, a2, b1, b2]
  simp only [Bool.true_and, if_true, bS, slotOf_spec]
  rw [if_neg (by decide), if_neg (by decide), show (266 : Int32) = nI 266 from rfl, show (2 : Int32) = nI 2 from rfl, e1]
  simp only [bS, ix_nI (show ka < 2 ^ 31 by omega), ix_nI (show kb < 2 ^ 31 by omega)]
  have hle := jo_le (how := 2) gA gB
  have hev := jo_even (how := 2) gA gB
  have hev2 : ¬ (jo 2 (S ka) (S kb)).length % 2 = 1 := by
    unfold od at hev
    simpa using hev
  refine ⟨m1, ?_, fun k hk => (hS k hk).keepC k1 (by omega), k1.M (by omega)⟩
  by_cases hz : (jo 2 (S ka) (S kb)).length = 0
  · rw [if_pos (by rw [hz]; rfl), if_pos hz]
  · have hpos : 0 < (jo 2 (S ka) (S kb)).length / 2 := by omega
    rw [if_neg (nI_ne0 hpos (by omega)), if_neg hz]
