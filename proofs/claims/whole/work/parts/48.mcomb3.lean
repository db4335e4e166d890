/-! 'combined' as a whole. -/
theorem blkL_join (m : Mi) (a lo mid hi : Nat) (g : Nat → Int64) (h1 : lo ≤ mid) (h2 : mid ≤ hi) : blkL (blkL m a lo mid g) a mid hi g = blkL m a lo hi g := by
  refine Mi.ext' (fun _ _ => rfl) (fun x j => ?_) (fun _ _ => rfl)
  simp only [mS]
  by_cases q1 : x = a ∧ mid ≤ j ∧ j < hi
  · rw [if_pos q1, if_pos (by omega)]
  · rw [if_neg q1]
    by_cases q2 : x = a ∧ lo ≤ j ∧ j < mid
    · rw [if_pos q2, if_pos (by omega)]
    · rw [if_neg q2, if_neg (by omega)]
theorem mlay_lp {m : Mi} {to n : Nat} (hM : WFM m) (hto : to < 272) (hn : n ≤ 16) : lp (fun x : Int32 × Mi => f_X12_combined_l162 TT x.2 870 (nI to) (nI n) x.1) FUEL (nI 0, m) = some (blkL m 875 (288 * to) (288 * to + 18 * n) (fun q => gl m 876 (q - 288 * to))) := by
  have h := lp_count (body := fun x : Int32 × Mi => f_X12_combined_l162 TT x.2 870 (nI to) (nI n) x.1) (fun k => (nI k, blkL m 875 (288 * to) (288 * to + 18 * k) (fun q => gl m 876 (q - 288 * to)))) (a := 0) (n := n) (y := blkL m 875 (288 * to) (288 * to + 18 * n) (fun q => gl m 876 (q - 288 * to))) (by omega) (by omega) (fun k _ hk => ?_) ?_
  · rw [Nat.mul_zero, Nat.add_zero, blkL_nil] at h
    exact h
  · show f_X12_combined_l162 TT (blkL m 875 _ _ _) 870 (nI to) (nI n) (nI k) = _
    generalize hm1 : blkL m 875 (288 * to) (288 * to + 18 * k) (fun q => gl m 876 (q - 288 * to)) = m1
    have g1 : ∀ z, gr m1 870 z = gr m 870 z := by intro z; rw [← hm1]; rfl
    have g876 : ∀ j, gl m1 876 j = gl m 876 j := by
      intro j
      rw [← hm1]
      simp only [mS]
      rw [if_neg (by omega)]
    have r8 : gr m1 870 8 = 875 := (g1 8).trans (hM 8 (by omega))
    have r9 : gr m1 870 9 = 876 := (g1 9).trans (hM 9 (by omega))
    have c1 := mcopy_spec (m := m1) (a := 875) (i := 288 * to + 18 * k) (b := 876) (j := 18 * k) s_875 s_876 (by omega) (by omega) (by omega) (by omega) (Or.inl (by decide))
    have e1 : blkL m1 875 (288 * to + 18 * k) (288 * to + 18 * k + 9) (fun q => gl m1 876 (18 * k + (q - (288 * to + 18 * k)))) = blkL m 875 (288 * to) (288 * to + 18 * k + 9) (fun q => gl m 876 (q - 288 * to)) := by
      rw [← blkL_join m 875 (288 * to) (288 * to + 18 * k) (288 * to + 18 * k + 9) _ (by omega) (by omega), hm1]
      refine Mi.ext' (fun _ _ => rfl) (fun x j => ?_) (fun _ _ => rfl)
      simp only [mS]
      by_cases q : x = 875 ∧ 288 * to + 18 * k ≤ j ∧ j < 288 * to + 18 * k + 9
      · rw [if_pos q, if_pos q, g876, show 18 * k + (j - (288 * to + 18 * k)) = j - 288 * to by omega]
      · rw [if_neg q, if_neg q]
    rw [e1] at c1
    generalize hm2 : blkL m 875 (288 * to) (288 * to + 18 * k + 9) (fun q => gl m 876 (q - 288 * to)) = m2 at c1
    have g2 : ∀ z, gr m2 870 z = gr m 870 z := by intro z; rw [← hm2]; rfl
    have g876' : ∀ j, gl m2 876 j = gl m 876 j := by
      intro j
      rw [← hm2]
      simp only [mS]
      rw [if_neg (by omega)]
    have r8' : gr m2 870 8 = 875 := (g2 8).trans (hM 8 (by omega))
    have r9' : gr m2 870 9 = 876 := (g2 9).trans (hM 9 (by omega))
    have c2 := mcopy_spec (m := m2) (a := 875) (i := 288 * to + 18 * k + 9) (b := 876) (j := 18 * k + 9) s_875 s_876 (by omega) (by omega) (by omega) (by omega) (Or.inl (by decide))
    have e2 : blkL m2 875 (288 * to + 18 * k + 9) (288 * to + 18 * k + 9 + 9) (fun q => gl m2 876 (18 * k + 9 + (q - (288 * to + 18 * k + 9)))) = blkL m 875 (288 * to) (288 * to + 18 * (k + 1)) (fun q => gl m 876 (q - 288 * to)) := by
      rw [← blkL_join m 875 (288 * to) (288 * to + 18 * k + 9) (288 * to + 18 * (k + 1)) _ (by omega) (by omega), hm2]
      refine Mi.ext' (fun _ _ => rfl) (fun x j => ?_) (fun _ _ => rfl)
      simp only [mS]
      by_cases q : x = 875 ∧ 288 * to + 18 * k + 9 ≤ j ∧ j < 288 * to + 18 * k + 9 + 9
      · rw [if_pos q, if_pos (by omega), g876', show 18 * k + 9 + (j - (288 * to + 18 * k + 9)) = j - 288 * to by omega]
      · rw [if_neg q, if_neg (by omega)]
    rw [e2] at c2
    unfold f_X12_combined_l162
    rw [if_neg (nI_ge hk (by omega)), from_spec, Option.bind_some, r8, r9, show (2 : Int32) = nI 2 from rfl, show (9 : Int32) = nI 9 from rfl, pk_mul, pk_mul, show 2 * k * 9 = 18 * k by omega, c1, Option.bind_some, below_spec, Option.bind_some, r8', r9', nI_1, pk_mul, show (2 * k + 1) * 9 = 18 * k + 9 by omega, c2, Option.bind_some, lt_eq, nI_1]
  · show f_X12_combined_l162 TT (blkL m 875 _ _ _) 870 (nI to) (nI n) (nI n) = _
    unfold f_X12_combined_l162
    rw [if_pos (nI_le (Nat.le_refl _) (by omega))]
def KpC (to : Nat) (m m' : Mi) : Prop := (∀ x j, x ≠ 876 → x ≠ 878 → x ≠ 879 → ¬ (x = 875 ∧ 288 * to ≤ j ∧ j < 288 * to + 288) → gl m' x j = gl m x j) ∧ (∀ x j, ¬ (x = 870 ∧ j = 10) → ¬ (x = 874 ∧ j = to) → gi m' x j = gi m x j) ∧ ∀ x j, gr m' x j = gr m x j
/-- what is laid down when there are not too many ends -/
theorem mlay_spec {m : Mi} {to n : Nat} {F : List Row} (hM : WFM m) (hto : to < 272) (hF : MO m F) (hl : F.length = 2 * n) (hs : n < 600) :
    ∃ m', f_X12_combined_j132 TT m 870 (nI to) = some (nI n, m') ∧ KpC to m m' ∧ (n ≤ 16 → MG m' to F) ∧ (16 < n → m' = m) := by
  have r7 : gr m 870 7 = 874 := hM 7 (by omega)
  unfold f_X12_combined_j132
  rw [lt_eq, hF.1, show (2 : Int32) = nI 2 from rfl, pk_div (by omega) (by omega) (by omega), hl, Nat.mul_div_cancel_left n (by omega)]
  by_cases hn : n ≤ 16
  · have hM1 : WFM (si m 874 to (nI n)) := fun z hz => hM z hz
    refine ⟨blkL (si m 874 to (nI n)) 875 (288 * to) (288 * to + 18 * n) (fun q => gl (si m 874 to (nI n)) 876 (q - 288 * to)), ?_, ⟨fun x j h1 h2 h3 h4 => ?_, fun x j h1 h2 => ?_, fun _ _ => rfl⟩, fun _ => ⟨n, hl, hn, ?_, fun b hb => ?_, ?_⟩, fun h => absurd hn (by omega)⟩
    · rw [if_pos (by rw [show (16 : Int32) = nI 16 from rfl]; exact nI_le hn (by omega)), r7, if_pos (ar_of s_874 hto (by omega)), lt_eq, ix_nI (by omega)]
      unfold f_X12_combined_j162
      rw [show ((0 : Int32), si m 874 to (nI n)) = (nI 0, si m 874 to (nI n)) from rfl, mlay_lp hM1 hto hn]
      rfl
    · simp only [mS]
      rw [if_neg (fun e => h4 ⟨e.1, by omega, by omega⟩)]
    · simp only [mS]
      rw [if_neg h2]
    · simp only [mS]
      simp
    · obtain ⟨⟨g, hg1, hg2⟩, -⟩ := hF.2 b (by omega)
      refine ⟨g, fun z hz => ?_, hg2⟩
      have := hg1 z hz
      refine ⟨?_, this.2⟩
      rw [← this.1]
      simp only [mS]
      rw [if_pos ⟨trivial, by omega, by omega⟩, show 288 * to + 9 * b + z - 288 * to = 9 * b + z by omega]
    · apply List.ext_getElem?
      intro b
      by_cases hb : b < 2 * n
      · rw [bM_get hb, (hF.2 b (by omega)).2]
        refine congrArg some (trM_congr (fun w hw => ?_))
        simp only [mS]
        rw [if_pos ⟨trivial, by omega, by omega⟩, show 288 * to + 9 * b + w - 288 * to = 9 * b + w by omega]
      · rw [List.getElem?_eq_none (by simp [bM]; omega), List.getElem?_eq_none (by omega)]
  · refine ⟨m, ?_, ⟨fun _ _ _ _ _ _ => rfl, fun _ _ _ _ => rfl, fun _ _ => rfl⟩, fun h => absurd h hn, fun _ => rfl⟩
    rw [if_neg (by rw [show (16 : Int32) = nI 16 from rfl]; exact nI_ge (by omega) (by omega))]
