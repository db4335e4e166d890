/-! 'combined': from its start to its end. -/
theorem mo_end {m : Mi} {O : List Row} (hM : WFM m) (hO : MO m O) (hl : O.length < 650) :
    ∃ m', ((f_X12_none TT m 870 (gr m 870 9) ((gi m 870 10) * 9)).bind fun m14 => some (si m14 870 10 ((gi m14 870 10) + 1))) = some m' ∧ MO m' (O ++ [EN]) ∧ KpL m m' := by
  have r9 : gr m 870 9 = 876 := hM 9 (by omega)
  have hcp := mnone_spec (t := TT) (m := m) (z := 870) (a := 876) (i := 9 * O.length) s_876 (by omega) (by omega)
  refine ⟨si (blkL m 876 (9 * O.length) (9 * O.length + 9) (fun q => if q = 9 * O.length then 1099511627776 else 0)) 870 10 (nI (O.length + 1)), ?_, ⟨?_, fun b hb => ?_⟩, ⟨fun x j h _ _ => ?_, fun x j h => ?_, fun _ _ => rfl⟩⟩
  · rw [r9, hO.1, show (9 : Int32) = nI 9 from rfl, pk_mul, Nat.mul_comm O.length 9, hcp, Option.bind_some]
    simp only [mS]
    rw [hO.1, nI_1]
  · simp only [mS]
    simp
  · by_cases hb2 : b < O.length
    · have e9 : ∀ z, z < 9 → gl (si (blkL m 876 (9 * O.length) (9 * O.length + 9) (fun q => if q = 9 * O.length then 1099511627776 else 0)) 870 10 (nI (O.length + 1))) 876 (9 * b + z) = gl m 876 (9 * b + z) := by
        intro z hz
        simp only [mS]
        rw [if_neg (by omega)]
      obtain ⟨⟨g, hg1, hg2⟩, q2⟩ := hO.2 b hb2
      refine ⟨⟨g, fun z hz => by show gl _ _ _ = _ ∧ _; rw [e9 z hz]; exact hg1 z hz, hg2⟩, ?_⟩
      rw [List.getElem?_append_left hb2, q2]
      exact congrArg some (trM_congr (fun z hz => (e9 z hz).symm))
    · have hb3 : b = O.length := by simp at hb; omega
      subst hb3
      have e9 : ∀ z, z < 9 → gl (si (blkL m 876 (9 * O.length) (9 * O.length + 9) (fun q => if q = 9 * O.length then 1099511627776 else 0)) 870 10 (nI (O.length + 1))) 876 (9 * O.length + z) = if z = 0 then 1099511627776 else 0 := by
        intro z hz
        simp only [mS]
        rw [if_pos ⟨trivial, by omega, by omega⟩]
        by_cases h : z = 0
        · rw [if_pos (by omega), if_pos h]
        · rw [if_neg (by omega), if_neg h]
      refine ⟨VR_end e9, ?_⟩
      rw [List.getElem?_append_right (Nat.le_refl _), Nat.sub_self, trF_end (e9 0 (by omega))]
      rfl
  · simp only [mS]
    rw [if_neg (fun e => h e.1)]
  · simp only [mS]
    rw [if_neg h]
theorem KpL.C {to : Nat} {m m1 m2 : Mi} (h : KpL m m1) (h2 : KpC to m1 m2) : KpC to m m2 := ⟨fun x j a b c d => (h2.1 x j a b c d).trans (h.1 x j a b c), fun x j a b => (h2.2.1 x j a b).trans (h.2.1 x j a), fun x j => (h2.2.2 x j).trans (h.2.2 x j)⟩
/-- what a list of bounds of a range is -/
def GB (B : List Row) : Prop := Up B ∧ od B.length = false ∧ B.length ≤ 32 ∧ ∀ b ∈ B, cmpL LE b ≠ 1 ∧ cmpL b EN ≠ 1
theorem jo_even {how : Nat} {A B : List Row} (hA : GB A) (hB : GB B) : od (jo how A B).length = false := by
  have k00 : kp how false false = false := by unfold kp; split; rfl; split <;> rfl
  obtain ⟨j1, j2⟩ := jo_up (how := how) hA.1 hB.1
  have h := j2 EN EN8
  rw [par_all (fun a ha => (hA.2.2.2 a ha).2), par_all (fun b hb => (hB.2.2.2 b hb).2), hA.2.1, hB.2.1, k00] at h
  rw [← h]
  symm
  refine par_all (fun o ho => ?_)
  rcases jn_mem how _ _ _ _ _ _ o ho with h | h
  · exact (hA.2.2.2 o h).2
  · exact (hB.2.2.2 o h).2
theorem jo_GB {how : Nat} {A B : List Row} (hA : GB A) (hB : GB B) (hl : (jo how A B).length ≤ 32) : GB (jo how A B) := by
  refine ⟨(jo_up hA.1 hB.1).1, jo_even hA hB, hl, fun o ho => ?_⟩
  rcases jn_mem how _ _ _ _ _ _ o ho with h | h
  · exact hA.2.2.2 o h
  · exact hB.2.2.2 o h
theorem mcombined_spec {m : Mi} {how ra rb to : Nat} {A B : List Row} (hh : how < 3) (hra : ra < 272) (hrb : rb < 272) (hto : to < 272) (hM : WFM m) (hA : MG m ra A) (hB : MG m rb B) (gA : GB A) (gB : GB B) :
    ∃ m', f_X12_combined TT m 870 (nI how) (nI ra) (nI rb) (nI to) = some (nI ((jo how A B).length / 2), m') ∧ KpC to m m' ∧ ((jo how A B).length ≤ 32 → MG m' to (jo how A B)) ∧ (32 < (jo how A B).length → KpL m m') := by
  have r12 : gr (si m 870 10 0) 870 12 = 878 := hM 12 (by omega)
  have hfst := mfirst_spec (t := TT) (m := si m 870 10 0) (z := 870) (a := 878) (i := 0) s_878 (by omega) (by omega)
  generalize hm2 : blkL (si m 870 10 0) 878 0 (0 + 9) (fun q => if q = 0 + 3 then 1 else 0) = m2 at hfst
  have k2 : KpL m m2 := by
    rw [← hm2]
    refine ⟨fun x j _ h _ => by simp only [mS]; rw [if_neg (fun e => h e.1)], fun x j h => ?_, fun _ _ => rfl⟩
    simp only [mS]
    rw [if_neg h]
  have e878 : ∀ z, z < 9 → row9 m2 878 z = if z = 3 then 1 else 0 := by
    intro z hz
    unfold row9
    rw [← hm2]
    simp only [mS]
    rw [if_pos ⟨trivial, by omega, by omega⟩, Nat.zero_add, Nat.zero_add]
  have v878 : VR (row9 m2 878) := VR_least e878
  have t878 : trM (row9 m2 878) = LE := by
    have e : ∀ z, z < 8 → trF (row9 m2 878) z = if z = 3 then 1 else 0 := by
      intro z hz
      unfold trF
      rw [e878 0 (by omega), e878 3 (by omega), if_neg (by decide)]
      have hz8 : z = 0 ∨ z = 1 ∨ z = 2 ∨ z = 3 ∨ z = 4 ∨ z = 5 ∨ z = 6 ∨ z = 7 := by omega
      rcases hz8 with h | h | h | h | h | h | h | h <;> subst h <;> (try rw [e878 _ (by omega)]) <;> first | rfl | (rw [if_neg (by decide), if_neg (by decide)]; first | (rw [if_pos (by decide), e878 _ (by omega)]; rfl) | (rw [if_neg (by decide)]; rfl))
    unfold trM rowF
    rw [e 0 (by omega), e 1 (by omega), e 2 (by omega), e 3 (by omega), e 4 (by omega), e 5 (by omega), e 6 (by omega), e 7 (by omega)]
    rfl
  have o2 : MO m2 [] := by
    refine ⟨?_, fun b hb => by cases hb⟩
    rw [← hm2]
    simp only [mS]
    simp
    rfl
  have k00 : kp how false false = false := by unfold kp; split; rfl; split <;> rfl
  have hcnt : cnt A B LE ≤ 64 := by
    have h1 := List.countP_le_length (p := fun e => decide (cmpL e LE = 1)) (l := A ++ B)
    have h2 := gA.2.2.1
    have h3 := gB.2.2.1
    rw [List.length_append] at h1
    unfold cnt
    omega
  obtain ⟨m3, e3, o3, k3⟩ := mcomb_lp (to := nI to) (A := A) (B := B) hh hra hrb gA.1 gB.1 (cnt A B LE) false [] FUEL m2 LE t878 (Nat.le_refl _) (by unfold FUEL; omega) (by simp; omega) (hM.keepL k2) (hA.keepL k2) (hB.keepL k2) v878 o2
  have low : ∀ (C : List Row), (∀ c ∈ C, R8 c) → (∀ c ∈ C, cmpL LE c ≠ 1) → ∀ x, R8 x → cmpL x LE = -1 → par C x = false := by
    intro C c8 hC x hx hxl
    exact par_above (fun c hc => (cmp_sw hx (c8 c hc)).2.mp (cmp_lt_le hx LE8 (c8 c hc) hxl (hC c hc)))
  obtain ⟨f1, f2⟩ := cbs_spec (how := how) gA.1 gB.1 (fun a ha => (gA.2.2.2 a ha).2) (fun b hb => (gB.2.2.2 b hb).2) gA.2.1 gB.2.1 (cnt A B LE) LE false [] (Nat.le_refl _) LE8 (by decide) ⟨List.Pairwise.nil, fun _ h => by cases h⟩ (fun _ h => by cases h) rfl (fun x hx hxl => by rw [low A gA.1.2 (fun a ha => (gA.2.2.2 a ha).1) x hx hxl, low B gB.1.2 (fun b hb => (gB.2.2.2 b hb).1) x hx hxl, k00]; rfl)
  generalize hq : cbs how A B (cnt A B LE + 1) LE false [] = q at e3 o3 f1 f2
  have f2' : q.2.length ≤ 66 := by simp at f2; omega
  have hstart : f_X12_combined TT m 870 (nI how) (nI ra) (nI rb) (nI to) = f_X12_combined_j102 TT m3 870 (nI to) (bI q.1) := by
    unfold f_X12_combined f_X12_combined_j20
    rw [lt_eq, r12, show f_X12_first TT (si m 870 10 0) 870 878 0 = some m2 from hfst, Option.bind_some, show ((0 : Int32), (1 : Int32), m2) = (bI false, 1, m2) from rfl, e3]
    rfl
  have hM3 : WFM m3 := (hM.keepL k2).keepL k3
  have fin4 : ∃ m4, f_X12_combined_j102 TT m3 870 (nI to) (bI q.1) = f_X12_combined_j132 TT m4 870 (nI to) ∧ MO m4 (jo how A B) ∧ KpL m3 m4 := by
    unfold f_X12_combined_j102
    cases hq1 : q.1
    · refine ⟨m3, by rw [if_pos (show bI false = 0 from rfl)], ?_, KpL.rf⟩
      rw [← f1]
      unfold fin'
      rw [hq1]
      simpa using o3
    · obtain ⟨m4, e4, o4, k4⟩ := mo_end hM3 o3 (by omega)
      refine ⟨m4, ?_, ?_, k4⟩
      · rw [if_neg (by decide)]
        simp only [lt_eq]
        cases hc : f_X12_none TT m3 870 (gr m3 870 9) ((gi m3 870 10) * 9) with
        | none => rw [hc] at e4; cases e4
        | some m14 =>
          rw [hc] at e4
          rw [← Option.some.inj e4]
          rfl
      · rw [← f1]
        unfold fin'
        rw [hq1]
        exact o4
  obtain ⟨m4, e4, o4, k4⟩ := fin4
  have hev := jo_even (how := how) gA gB
  have hle : (jo how A B).length ≤ 64 := by
    have := jn_len how (A.length + B.length) A B false false false
    have h2 := gA.2.2.1
    have h3 := gB.2.2.1
    show (jn how (A.length + B.length) A B false false false).length ≤ 64
    omega
  have hdiv : (jo how A B).length = 2 * ((jo how A B).length / 2) := by
    unfold od at hev
    have : ¬ (jo how A B).length % 2 = 1 := by simpa using hev
    omega
  obtain ⟨m5, e5, k5, g5, g6⟩ := mlay_spec (to := to) (n := (jo how A B).length / 2) (hM3.keepL k4) hto o4 hdiv (by omega)
  refine ⟨m5, by rw [hstart, e4, e5], (((k2.tr k3).tr k4)).C k5, fun h => g5 (by omega), fun h => ?_⟩
  rw [g6 (by omega)]
  exact (k2.tr k3).tr k4
