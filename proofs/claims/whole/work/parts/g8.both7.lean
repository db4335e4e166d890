/-! Calls of both sides: read. -/
theorem spRead_nw {T : Nat → Nat} {f : Nat} {n : Int32} {G : Rg} (h : (spRead T f n).2.2 = some G) : nwR T (ix n) = some G := by
  unfold spRead at h
  split at h
  · cases h
  · exact h
theorem both_read {m : Mi} {s : St} (hc : SC m s) (hm : SM m s) (hg : SG s) (n : Int32) : ∃ v m1 m2 s', f_X11_read TT m 1 n = some (v, m1) ∧ f_X12_read TT m1 870 n = some (v, m2) ∧ SC m2 s' ∧ SM m2 s' ∧ SG s' := by
  obtain ⟨g1, g2, g3, g4, g5⟩ := id hg
  obtain ⟨m1, e1, i1, s1, t1, d1, c1⟩ := read_C hc.1 hc.2.1 hc.2.2.1 hc.2.2.2.1 g3 n
  have hm1 := hm.far hg (fun x j hx => ⟨d1.1 x j (by omega) (Or.inr (by omega)), (d1.2 x j (by omega)).1, (d1.2 x j (by omega)).2⟩)
  obtain ⟨m2, e2, w2, s2, t2, f2, c2⟩ := read_M hm1.1 hm1.2.1 hm1.2.2.1 hm1.2.2.2.1 g3 n
  have far : ∀ x j, x < 870 → gi m2 x j = gi m1 x j ∧ gl m2 x j = gl m1 x j := fun x j hx => f2.1 x j (by unfold RdM; omega)
  have hv1 : SVI m1 := ⟨⟨((d1.2 _ _ (by omega)).2).trans hc.2.2.2.2.1.1.1, ((d1.2 _ _ (by omega)).2).trans hc.2.2.2.2.1.1.2.1, ((d1.2 _ _ (by omega)).2).trans hc.2.2.2.2.1.1.2.2.1, ((d1.2 _ _ (by omega)).2).trans hc.2.2.2.2.1.1.2.2.2.1, ((d1.2 _ _ (by omega)).2).trans hc.2.2.2.2.1.1.2.2.2.2.1, ((d1.2 _ _ (by omega)).2).trans hc.2.2.2.2.1.1.2.2.2.2.2⟩, fun j hj => (d1.1 _ _ (by omega) (Or.inr (by omega))).trans (hc.2.2.2.2.1.2 j hj)⟩
  obtain ⟨p1, p2, p3, p4⟩ := hc.2.2.2.2.2.2
  have hp1 : PgC m1 (oL s) := ⟨⟨((d1.2 _ _ (by omega)).2).trans p1.1, ((d1.2 _ _ (by omega)).2).trans p1.2.1, ((d1.2 _ _ (by omega)).2).trans p1.2.2.1, ((d1.2 _ _ (by omega)).2).trans p1.2.2.2.1, ((d1.2 _ _ (by omega)).2).trans p1.2.2.2.2⟩, p2, (d1.1 _ _ (by omega) (Or.inr (by omega))).trans p3, fun i b hi => ⟨(d1.1 _ _ (by omega) (Or.inr (by omega))).trans (p4 i b hi).1, (p4 i b hi).2⟩⟩
  obtain ⟨q1, q2, q3, q4⟩ := hm1.2.2.2.2.2
  have hp2 : PgM m2 (oL s) := ⟨w2, q2, ((f2.1 _ _ (by unfold RdM; omega)).1).trans q3, fun i b hi => ⟨((f2.1 _ _ (by unfold RdM; omega)).1).trans (q4 i b hi).1, (q4 i b hi).2⟩⟩
  cases ho : (spRead (oT s) (oz s) n).2.2 with
  | none =>
    rw [ho] at c1 c2 d1
    have hf1 : FnC m1 (oG s) (oF s) := hc.2.2.2.2.2.1.keep (fun x j a b => d1.1 x j (by omega) (Or.inl rfl)) (fun j => (d1.2 _ _ (by omega)).2)
    have hf2 : FnM m2 (oG s) (oF s) := hm1.2.2.2.2.1.keep (fun j a b => c2.2 j a b) (fun x j a b => (f2.1 x j (by unfold RdM; omega)).1)
    have hc1 : SC m1 (wT s (oT s) (spRead (oT s) (oz s) n).2.1 (oS s)) := ⟨i1, s1, t1, c1, hv1, hf1, hp1⟩
    exact ⟨_, m1, m2, wT s (oT s) (spRead (oT s) (oz s) n).2.1 (oS s), e1, e2, hc1.far hg far (fun x j => f2.2 x j), ⟨w2, s2, t2, c2.1, hf2, hp2⟩, hg⟩
  | some G' =>
    rw [ho] at c1 c2 d1
    obtain ⟨r1, r2, z0, z1, z4, _⟩ := c1
    have hN := nwR_L (spRead_nw ho)
    have hg' : SG (oT s, ((spRead (oT s) (oz s) n).2.1, (oS s, (oT s, (ix n, (G', (none, oL s))))))) := ⟨g1, g2, r2, hN, trivial, trivial⟩
    have hf1 : FnC m1 G' none := ⟨⟨((d1.2 _ _ (by omega)).2).trans hc.2.2.2.2.2.1.1.1, ((d1.2 _ _ (by omega)).2).trans hc.2.2.2.2.2.1.1.2.1, ((d1.2 _ _ (by omega)).2).trans hc.2.2.2.2.2.1.1.2.2⟩, z0, z1, z4⟩
    have hc1 : SC m1 (oT s, ((spRead (oT s) (oz s) n).2.1, (oS s, (oT s, (ix n, (G', (none, oL s))))))) := ⟨i1, s1, t1, r1, hv1, hf1, hp1⟩
    exact ⟨_, m1, m2, _, e1, e2, hc1.far hg' far (fun x j => f2.2 x j), ⟨w2, s2, t2, c2.1, c2.2, hp2⟩, hg'⟩
