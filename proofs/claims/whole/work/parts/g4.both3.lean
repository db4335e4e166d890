/-! Calls of both sides: write. -/
abbrev wL (s : St) (L' : List Nat) : St := (oT s, (oz s, (oS s, (oR s, (ok s, (oG s, (oF s, L')))))))
theorem SC.page {m m' : Mi} {s : St} {L' : List Nat} (h : SC m s) (hg : SG s) (k : Fr FW9 m m') (hi : InC m') (hj : ∃ J, RG TT m' 36 512 J) (hp : PgC m' L') : SC m' (wL s L') := by
  obtain ⟨h1, h2, h3, h4, h5, h6, h7⟩ := h
  have hB := hg.2.2.1.2.1
  have no : ∀ x, (x < 36 ∨ (59 ≤ x ∧ x < 864)) → ¬ FW9 x := fun x hx => by unfold FW9 FW8; omega
  have n : ∀ x j, x < 36 ∨ (59 ≤ x ∧ x < 864) → gi m' x j = gi m x j := fun x j hx => (k.1 x j (no x hx)).1
  have r : ∀ x j, ¬ NR x j → gr m' x j = gr m x j := k.2
  refine ⟨hi, ⟨fun q hq => (h2.1 q hq).keepF k (no _ (by omega)) (no _ (by omega)) (by unfold NR; omega), hj⟩, ⟨(n _ _ (by omega)).trans h3.1, h3.2.1, fun j hj => ⟨(n _ _ (by omega)).trans (h3.2.2 j hj).1, (h3.2.2 j hj).2⟩⟩, h4.keepF hB k (fun x a b => no x (by omega)), ⟨⟨(r _ _ (by unfold NR; omega)).trans h5.1.1, (r _ _ (by unfold NR; omega)).trans h5.1.2.1, (r _ _ (by unfold NR; omega)).trans h5.1.2.2.1, (r _ _ (by unfold NR; omega)).trans h5.1.2.2.2.1, (r _ _ (by unfold NR; omega)).trans h5.1.2.2.2.2.1, (r _ _ (by unfold NR; omega)).trans h5.1.2.2.2.2.2⟩, fun j hj => (n _ _ (by omega)).trans (h5.2 j hj)⟩, h6.keep (fun x j a b => n _ _ (by omega)) (fun j => r _ _ (by unfold NR; omega)), hp⟩
theorem SC.pageJ {m m' : Mi} {s : St} {L' : List Nat} (h : SC m s) (hg : SG s) (k : FJ m m') (hp : PgC m' L') : SC m' (wL s L') := by
  obtain ⟨J, hJ⟩ := h.2.1.2
  exact h.page hg (k.F.mono (fun x z => Or.inl z)) (h.1.keepF k.F (h.1.2.2.2.1.keepF k.F (fun x a b => by unfold FW8; omega))) ⟨J, hJ.keepJ (by omega) k⟩ hp
theorem SM.page {m m' : Mi} {s : St} {L' : List Nat} (h : SM m s) (hg : SG s) (k : FJm m m') (hp : PgM m' L') : SM m' (wL s L') := by
  obtain ⟨h1, h2, h3, h4, h5, h6⟩ := h
  have hB := hg.2.2.1.2.1
  have n : ∀ x j, ¬ FPm x j → gi m' x j = gi m x j := k.1
  obtain ⟨t, ht, g1, g2⟩ := h4
  refine ⟨hp.1, fun q hq => (h2 q hq).kJ k, ⟨(n _ _ (by unfold FPm; omega)).trans h3.1, h3.2.1, fun j hj => ⟨(n _ _ (by unfold FPm; omega)).trans (h3.2.2 j hj).1, (h3.2.2 j hj).2⟩⟩, ⟨t, ht, (n _ _ (by unfold FPm; omega)).trans g1, g2.keep hB (fun x j hx => ?_) (fun x j hx => n x j (by unfold FPm; omega)) (fun j _ => n _ _ (by unfold FPm; omega)) (fun j _ => k.2.1 _ _ (by omega))⟩, h5.keep (fun j a b => n _ _ (by unfold FPm; omega)) (fun x j a b => n _ _ (by unfold FPm; omega)), hp⟩
  have hx2 : 881 ≤ x ∧ x ≤ 896 := by unfold ON at hx; omega
  exact ⟨n x j (by unfold FPm; omega), k.2.1 x j (by omega)⟩
theorem farW {m m' : Mi} (k : Fr FW9 m m') : ∀ x j, 870 ≤ x → gi m' x j = gi m x j ∧ gl m' x j = gl m x j ∧ gr m' x j = gr m x j := fun x j hx => ⟨(k.1 x j (by unfold FW9 FW8; omega)).1, (k.1 x j (by unfold FW9 FW8; omega)).2, k.2 x j (by unfold NR; omega)⟩
theorem wr_end {m1 m2 : Mi} {s : St} {L' : List Nat} (hg : SG s) (hc1 : SC m1 (wL s L')) (hm1 : SM m1 s) (j2 : FJm m1 m2) (p2 : PgM m2 L') : SC m2 (wL s L') ∧ SM m2 (wL s L') ∧ SG (wL s L') := by
  have hg' : SG (wL s L') := hg
  exact ⟨hc1.far hg' (fun x j hx => ⟨j2.1 x j (by unfold FPm; omega), j2.2.1 x j (by omega)⟩) (fun x j => j2.2.2 x j), hm1.page hg j2 p2, hg'⟩
theorem both_write {m : Mi} {s : St} (hc : SC m s) (hm : SM m s) (hg : SG s) (a b : Int32) : ∃ v m1 m2 s', f_X11_write TT m 1 a b = some (v, m1) ∧ f_X12_write TT m1 870 a b = some (v, m2) ∧ SC m2 s' ∧ SM m2 s' ∧ SG s' := by
  obtain ⟨g1, g2, g3, g4, g5⟩ := id hg
  have hB := g3.2.1
  have hB2 := hB.2.1
  have hB3 := hB.2.2
  have none' : (a = 0 → sOk b = false) → (a = 1 → b < 0 ∨ nI (oG s).2.1.length ≤ b) → (a = 2 → b < 0 ∨ nI (oG s).2.2.length ≤ b) → ∃ v m1 m2 s', f_X11_write TT m 1 a b = some (v, m1) ∧ f_X12_write TT m1 870 a b = some (v, m2) ∧ SC m2 s' ∧ SM m2 s' ∧ SG s' := fun h0 h1 h2 => ⟨-1, m, m, s, writeN_C hc.2.2.2.1 g3 h0 h1 h2, writeN_M hm.1 hm.2.2.2.1 g3 h0 h1 h2, hc, hm, hg⟩
  by_cases a0 : a = 0
  · rcases sOk_cases b with ⟨b1, _⟩ | ⟨k, hk, rfl, _⟩
    · exact none' (fun _ => b1) (fun z => by rw [a0] at z; exact absurd z (by decide)) (fun z => by rw [a0] at z; exact absurd z (by decide))
    · subst a0
      obtain ⟨D, d1, d2⟩ := BVs_D _ (g2 k hk)
      have hD : GD D := ⟨d2, by rw [← d1]; exact g1 k hk⟩
      obtain ⟨m1, e1, p1, j1⟩ := write0_C hc.1.1 hc.2.1 hc.2.2.2.2.2.2 hk hD d1
      have hm1 := hm.far hg (farW (j1.F.mono (fun x z => Or.inl z)))
      obtain ⟨m2, e2, p2, j2⟩ := write0_M hm1.2.1 hm1.2.2.2.2.2 hk hD d1
      exact ⟨_, m1, m2, _, e1, e2, wr_end hg (hc.pageJ hg j1 p1) hm1 j2 p2⟩
  by_cases a1 : a = 1
  · rcases at_cases b (oG s).2.1.length (by omega) with h | ⟨_, h⟩ | ⟨r, hr, rfl⟩
    · exact none' (fun z => absurd z a0) (fun _ => Or.inl h) (fun z => by rw [a1] at z; exact absurd z (by decide))
    · exact none' (fun z => absurd z a0) (fun _ => Or.inr h) (fun z => by rw [a1] at z; exact absurd z (by decide))
    · subst a1
      obtain ⟨m1, e1, p1, j1⟩ := write1_C hc.1.1 hc.2.2.2.1 g3 g4 hc.2.2.2.2.2.2 hr
      have hm1 := hm.far hg (farW (j1.F.mono (fun x z => Or.inl z)))
      obtain ⟨m2, e2, p2, j2⟩ := write1_M hm1.1 hm1.2.2.2.1 g3 g4 hm1.2.2.2.2.2 hr
      exact ⟨_, m1, m2, _, e1, e2, wr_end hg (hc.pageJ hg j1 p1) hm1 j2 p2⟩
  by_cases a2 : a = 2
  · rcases at_cases b (oG s).2.2.length (by omega) with h | ⟨_, h⟩ | ⟨c, hcl, rfl⟩
    · exact none' (fun z => absurd z a0) (fun z => absurd z a1) (fun _ => Or.inl h)
    · exact none' (fun z => absurd z a0) (fun z => absurd z a1) (fun _ => Or.inr h)
    · subst a2
      obtain ⟨x, hx⟩ := get_some hcl
      obtain ⟨D, d1, d2⟩ := BVs_D _ (rgC_BW g3 hx)
      have hD : GD D := ⟨d2, by rw [← d1]; exact rgC_up g3 hx⟩
      obtain ⟨m1, e1, p1, j1, i1, J1⟩ := write2_C hc.1 hc.2.1 hc.2.2.2.1 g3 g4 hc.2.2.2.2.2.2 hx hD d1
      have hm1 := hm.far hg (farW j1)
      obtain ⟨m2, e2, p2, j2⟩ := write2_M hm1.1 hm1.2.2.2.1 g3 g4 hm1.2.2.2.2.2 hx hD d1
      exact ⟨_, m1, m2, _, e1, e2, wr_end hg (hc.page hg j1 i1 J1 p1) hm1 j2 p2⟩
  · exact none' (fun z => absurd z a0) (fun z => absurd z a1) (fun z => absurd z a2)
