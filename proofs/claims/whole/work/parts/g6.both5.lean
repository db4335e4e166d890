/-! Calls of both sides: inside, combine and order. -/
theorem KpS.F {m m' : Mi} (k : KpS m m') : Fr (fun x => 4 ≤ x ∧ x ≤ 37) m m' := ⟨fun x j z => ⟨(k.1 x j z).2, (k.1 x j z).1⟩, fun x j _ => k.2 x j⟩
theorem KpM.U {m m' : Mi} (k : KpM m m') : FrM PU m m' := ⟨fun x j z => ⟨k.2.1 x j (fun y => z (by unfold PU PT; omega)) (fun y => z (by unfold PU PT; omega)), k.1 x j (fun y => z (by unfold PU PT; omega)) (fun y => z (by unfold PU PT; omega)) (fun y => z (by unfold PU PT; omega)) (fun y => z (by unfold PU PT; omega))⟩, k.2.2⟩
theorem spComb_GS {S : Nat → List Row} {h a b c : Int32} (hS : GS S) : GS (spComb S h a b c).2 := by
  unfold spComb
  split
  · next hc =>
    split
    · next hl =>
      intro j hj
      simp only
      split
      · have hab := Bool.and_eq_true_iff.mp hc
        have hb := (Bool.and_eq_true_iff.mp hab.2).1
        have ha := hab.1
        refine jo_GB ?_ ?_ hl
        · rcases sOk_cases a with ⟨e, _⟩ | ⟨k, hk, rfl, _⟩
          · rw [e] at ha; cases ha
          · rw [ix_nI (by omega)]; exact hS k hk
        · rcases sOk_cases b with ⟨e, _⟩ | ⟨k, hk, rfl, _⟩
          · rw [e] at hb; cases hb
          · rw [ix_nI (by omega)]; exact hS k hk
      · exact hS j hj
    · exact hS
  · exact hS
theorem Tap_S {m m' : Mi} {T : Nat → Nat} {f : Nat} (h : Tap m 1 2 T f) (k : KpS m m') : Tap m' 1 2 T f := ⟨((k.1 _ _ (by omega)).2).trans h.1, h.2.1, fun j hj => ⟨((k.1 _ _ (by omega)).2).trans (h.2.2 j hj).1, (h.2.2 j hj).2⟩⟩
theorem Tap_M {m m' : Mi} {T : Nat → Nat} {f : Nat} (h : Tap m 870 871 T f) (k : KpM m m') : Tap m' 870 871 T f := ⟨(k.2.1 _ _ (by omega) (by omega)).trans h.1, h.2.1, fun j hj => ⟨(k.2.1 _ _ (by omega) (by omega)).trans (h.2.2 j hj).1, (h.2.2 j hj).2⟩⟩
theorem both_combine {m : Mi} {s : St} (hc : SC m s) (hm : SM m s) (hg : SG s) (h a b c : Int32) : ∃ v m1 m2 s', f_X11_combine TT m 1 h a b c = some (v, m1) ∧ f_X12_combine TT m1 870 h a b c = some (v, m2) ∧ SC m2 s' ∧ SM m2 s' ∧ SG s' := by
  obtain ⟨m1, e1, t1, k1⟩ := combine_C hc.1.1 hc.2.1 hg.1 h a b c
  have f1 := k1.F
  have hm1 := hm.far hg (fun x j hx => ⟨(k1.1 x j (by omega)).2, (k1.1 x j (by omega)).1, k1.2 x j⟩)
  have hc1 := hc.low hg f1 (fun x z => by omega) (hc.1.keepF f1 (hc.1.2.2.2.1.keepF f1 (fun x p q => by omega))) t1 (Tap_S hc.2.2.1 k1)
  obtain ⟨m2, e2, t2, k2⟩ := combine_M hm1.1 hm1.2.1 hg.1 h a b c
  have hm2 := hm1.mid hg k2.U t2 (Tap_M hm1.2.2.1 k2)
  have hg' : SG (wT s (oT s) (oz s) (spComb (oS s) h a b c).2) := ⟨spComb_GS hg.1, spComb_BW hg.2.1, hg.2.2⟩
  exact ⟨_, m1, m2, _, e1, e2, hc1.far hg' (fun x j hx => ⟨k2.2.1 x j (by omega) (by omega), k2.1 x j (by omega) (by omega) (by omega) (by omega)⟩) (fun x j => k2.2.2 x j), hm2, hg'⟩
theorem both_inside {m : Mi} {s : St} (hc : SC m s) (hm : SM m s) (hg : SG s) (a b : Int32) : ∃ v m1 m2 s', f_X11_inside TT m 1 a b = some (v, m1) ∧ f_X12_inside TT m1 870 a b = some (v, m2) ∧ SC m2 s' ∧ SM m2 s' ∧ SG s' := by
  obtain ⟨m1, e1, t1, k1⟩ := inside_C hc.1.1 hc.2.1 hg.1 a b
  have f1 := k1.F
  have hm1 := hm.far hg (fun x j hx => ⟨(k1.1 x j (by omega)).2, (k1.1 x j (by omega)).1, k1.2 x j⟩)
  have hc1 := hc.low hg f1 (fun x z => by omega) (hc.1.keepF f1 (hc.1.2.2.2.1.keepF f1 (fun x p q => by omega))) t1 (Tap_S hc.2.2.1 k1)
  obtain ⟨m2, e2, t2, k2⟩ := inside_M hm1.1 hm1.2.1 hg.1 a b
  have hm2 := hm1.mid hg k2.U t2 (Tap_M hm1.2.2.1 k2)
  exact ⟨_, m1, m2, _, e1, e2, hc1.far hg (fun x j hx => ⟨k2.2.1 x j (by omega) (by omega), k2.1 x j (by omega) (by omega) (by omega) (by omega)⟩) (fun x j => k2.2.2 x j), hm2, hg⟩
