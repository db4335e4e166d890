/-! Calls of both sides: solutions, why, and what only looks. -/
theorem wF_same (s : St) : wF s (oF s) = s := rfl
theorem both_solutions {m : Mi} {s : St} (hc : SC m s) (hm : SM m s) (hg : SG s) (a : Int32) : ∃ v m1 m2 s', f_X11_solutions TT m 1 a = some (v, m1) ∧ f_X12_solutions TT m1 870 a = some (v, m2) ∧ SC m2 s' ∧ SM m2 s' ∧ SG s' := by
  have g3 := hg.2.2.1
  obtain ⟨m1, e1, z1, v1⟩ := solutions_C hc.1.1 hc.2.2.2.1 g3 hc.2.2.2.2.1 a
  have z2 : FZ8 (fun x => 853 ≤ x ∧ x ≤ 862) m m1 := ⟨fun x j z => z1.1 x j (fun y => z ⟨y.1, by have := y.2; omega⟩), z1.2.1, z1.2.2⟩
  have hm1 := hm.far hg (farZ z2)
  obtain ⟨m2, e2, f2⟩ := solutions_M hm1.1 hm1.2.2.2.1 g3 a
  have hf : FnC m1 (oG s) (oF s) := hc.2.2.2.2.2.1.keep (fun x j a b => z1.1 x j (fun y => by have := y.2; omega)) (fun j => z1.2.2 _ _ (by omega))
  have hf2 : FnM m2 (oG s) (oF s) := hm1.2.2.2.2.1.keep (fun j a b => f2.1 _ _ (by omega)) (fun x j a b => f2.1 _ _ (by omega))
  exact ⟨_, m1, m2, s, e1, e2, (hc.zap hg z2 v1 hf).far hg (fun x j hx => ⟨f2.1 x j (by omega), f2.2.1 x j⟩) (fun x j => f2.2.2 x j), hm1.near hg f2 (fun x j z => by omega) hf2, hg⟩
theorem SC.side {m m' : Mi} {s : St} (h : SC m s) (hg : SG s) (k : FI (fun x j => x = 863) m m') : SC m' s := by
  obtain ⟨h1, h2, h3, h4, h5, h6, h7⟩ := h
  have hB := hg.2.2.1.2.1
  have f : Fr (fun x => x = 863) m m' := k.Fr (fun x j z => z)
  have kr := k.2.2
  have kg : ∀ x j, x ≠ 863 → gi m' x j = gi m x j := fun x j z => k.1 x j z
  refine ⟨h1.keepF f (h1.2.2.2.1.keepF f (fun x a b => by omega)), h2.keepF f (fun x a b => by omega), ⟨(kg _ _ (by omega)).trans h3.1, h3.2.1, fun j hj => ⟨(kg _ _ (by omega)).trans (h3.2.2 j hj).1, (h3.2.2 j hj).2⟩⟩, h4.keepF hB f (fun x a b => by omega), ⟨⟨(kr _ _).trans h5.1.1, (kr _ _).trans h5.1.2.1, (kr _ _).trans h5.1.2.2.1, (kr _ _).trans h5.1.2.2.2.1, (kr _ _).trans h5.1.2.2.2.2.1, (kr _ _).trans h5.1.2.2.2.2.2⟩, fun j hj => (kg _ _ (by omega)).trans (h5.2 j hj)⟩, h6.keep (fun x j a b => kg _ _ (by omega)) (fun j => kr _ _), h7.kF f ⟨by omega, by omega⟩⟩
theorem both_why {m : Mi} {s : St} (hc : SC m s) (hm : SM m s) (hg : SG s) (a : Int32) : ∃ v m1 m2 s', f_X11_why TT m 1 a = some (v, m1) ∧ f_X12_why TT m1 870 a = some (v, m2) ∧ SC m2 s' ∧ SM m2 s' ∧ SG s' := by
  have g3 := hg.2.2.1
  obtain ⟨v, m1, e1, f1, c1⟩ := why_C hc.1.1 hc.2.2.2.1 g3 hc.2.2.2.2.2.1 a
  have hm1 := hm.far hg (fun x j hx => ⟨f1.1 x j (by omega), f1.2.1 x j, f1.2.2 x j⟩)
  obtain ⟨w, m2, e2, f2, c2⟩ := why_M hm1.1 hm1.2.2.2.1 g3 hm1.2.2.2.2.1 hg.2.2.2.2 a
  have hvw : v = w := by
    rcases c1 with ⟨h1, h2⟩ | ⟨h1, p, hp, ep, hw⟩
    · rcases c2 with ⟨_, h4⟩ | ⟨h3, _⟩
      · rw [h2, h4]
      · exact absurd h1 h3
    · rcases c2 with ⟨h3, _⟩ | ⟨_, q, hq, eq, hw'⟩
      · exact absurd h3 h1
      · have hB1 := g3.2.1.1
        have : p = q := by
          rw [ep] at eq
          exact (nI_eq (by omega) (by omega)).mp eq
        subst this
        exact WhyR_un hw hw'
  have hf2 : FnM m2 (oG s) (oF s) := hm1.2.2.2.2.1.keep (fun j a b => f2.1 _ _ (by omega)) (fun x j a b => f2.1 _ _ (by omega))
  exact ⟨v, m1, m2, s, e1, by rw [hvw]; exact e2, (hc.side hg f1).far hg (fun x j hx => ⟨f2.1 x j (by omega), f2.2.1 x j⟩) (fun x j => f2.2.2 x j), hm1.near hg f2 (fun x j z => by omega) hf2, hg⟩
theorem both_chosen {m : Mi} {s : St} (hc : SC m s) (hm : SM m s) (hg : SG s) (a : Int32) : ∃ v, f_X11_chosen TT m 1 a = some v ∧ f_X12_chosen TT m 870 a = some v := ⟨_, chosen_C hc.1.1 hg.2.2.1 hc.2.2.2.2.2.1 a, chosen_M hm.1 hm.2.2.2.1 hg.2.2.1 hm.2.2.2.2.1 hg.2.2.2.2 a⟩
theorem both_reason {m : Mi} {s : St} (hc : SC m s) (hm : SM m s) (hg : SG s) (a : Int32) : ∃ v, f_X11_reason TT m 1 a = some v ∧ f_X12_reason TT m 870 a = some v := ⟨_, reason_C hc.1.1 hg.2.2.1 hc.2.2.2.2.2.1 hg.2.2.2.2 a, reason_M hm.1 hg.2.2.1 hm.2.2.2.2.1 hg.2.2.2.2 a⟩
theorem both_count {m : Mi} {s : St} (hc : SC m s) (hm : SM m s) (hg : SG s) (a : Int32) : ∃ v, f_X11_count TT m 1 a = some v ∧ f_X12_count TT m 870 a = some v := ⟨_, count_C hc.1.1 hc.2.1 hc.2.2.1 hc.2.2.2.1 hg.2.2.1 hc.2.2.2.2.2.1 hg.2.2.2.2 a, count_M hm.1 hm.2.1 hm.2.2.1 hm.2.2.2.1 hg.2.2.1 hm.2.2.2.2.1 a⟩
theorem both_holds {m : Mi} {s : St} (hc : SC m s) (hm : SM m s) (hg : SG s) (a b : Int32) : ∃ v, f_X11_holds TT m 1 a b = some v ∧ f_X12_holds TT m 870 a b = some v := ⟨_, holds_C hc.1.1 hc.2.1 hg.1 hc.2.2.2.1 hg.2.2.1 a b, holds_M hm.1 hm.2.1 hg.1 hm.2.2.2.1 hg.2.2.1 a b⟩
theorem both_octet {m : Mi} {s : St} (hc : SC m s) (hm : SM m s) (a : Int32) : ∃ v, f_X11_octet TT m 1 a = some v ∧ f_X12_octet TT m 870 a = some v := ⟨_, octet_C hc.1.1 hc.2.2.2.2.2.2 a, octet_M hm.2.2.2.2.2 a⟩
