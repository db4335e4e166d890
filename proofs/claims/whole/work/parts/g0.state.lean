/-! The state of a run, as each side holds it; a call of one side leaves the other's as it is. -/
abbrev St : Type := (Nat → Nat) × (Nat × ((Nat → List Row) × ((Nat → Nat) × (Nat × (Rg × (Fnd × List Nat))))))
abbrev oT (s : St) : Nat → Nat := s.1
abbrev oz (s : St) : Nat := s.2.1
abbrev oS (s : St) : Nat → List Row := s.2.2.1
abbrev oR (s : St) : Nat → Nat := s.2.2.2.1
abbrev ok (s : St) : Nat := s.2.2.2.2.1
abbrev oG (s : St) : Rg := s.2.2.2.2.2.1
abbrev oF (s : St) : Fnd := s.2.2.2.2.2.2.1
abbrev oL (s : St) : List Nat := s.2.2.2.2.2.2.2
def SC (m : Mi) (s : St) : Prop := InC m ∧ CSl m (oS s) ∧ Tap m 1 2 (oT s) (oz s) ∧ CRg m (oR s) (ok s) (oG s) ∧ SVI m ∧ FnC m (oG s) (oF s) ∧ PgC m (oL s)
def SM (m : Mi) (s : St) : Prop := WFM m ∧ MSl m (oS s) ∧ Tap m 870 871 (oT s) (oz s) ∧ MRg m (oR s) (ok s) (oG s) ∧ FnM m (oG s) (oF s) ∧ PgM m (oL s)
/-- what holds of every state -/
def SG (s : St) : Prop := GS (oS s) ∧ BSl (oS s) ∧ RO (oR s) (ok s) (oG s) ∧ NmL (oG s) ∧ FK (oR s) (oG s) (oF s)
theorem SM.far {m m' : Mi} {s : St} (h : SM m s) (hg : SG s) (k : ∀ x j, 870 ≤ x → gi m' x j = gi m x j ∧ gl m' x j = gl m x j ∧ gr m' x j = gr m x j) : SM m' s := by
  obtain ⟨h1, h2, h3, h4, h5, h6⟩ := h
  have hB := hg.2.2.1.2.1
  have w : WFM m' := fun z hz => ((k 870 z (by omega)).2.2).trans (h1 z hz)
  have mg : ∀ r B, MG m r B → MG m' r B := fun r B hm => by
    obtain ⟨n, a1, a2, a3, a4, a5⟩ := hm
    have e : ∀ b z, gl m' 875 (288 * r + 9 * b + z) = gl m 875 (288 * r + 9 * b + z) := fun b z => (k 875 _ (by omega)).2.1
    refine ⟨n, a1, a2, ((k 874 _ (by omega)).1).trans a3, fun b hb => VR_congr (fun z _ => e b z) (a4 b hb), ?_⟩
    rw [← a5]
    unfold bM
    exact List.map_congr_left (fun b _ => trM_congr (fun z _ => e b z))
  obtain ⟨t, ht, g1, g2⟩ := h4
  refine ⟨w, fun q hq => mg _ _ (h2 q hq), ⟨((k 870 1 (by omega)).1).trans h3.1, h3.2.1, fun j hj => ⟨((k 871 j (by omega)).1).trans (h3.2.2 j hj).1, (h3.2.2 j hj).2⟩⟩, ⟨t, ht, ((k 870 21 (by omega)).1).trans g1, g2.keep hB (fun x j hx => ?_) (fun x j hx => (k x j (by omega)).1) (fun j _ => (k 874 j (by omega)).1) (fun j _ => (k 875 j (by omega)).2.1)⟩, h5.keep (fun j _ _ => (k 870 j (by omega)).1) (fun x j a _ => (k x j (by omega)).1), ⟨w, h6.2.1, ((k 870 60 (by omega)).1).trans h6.2.2.1, fun i b hi => ⟨((k 912 i (by omega)).1).trans (h6.2.2.2 i b hi).1, (h6.2.2.2 i b hi).2⟩⟩⟩
  have hx2 : 870 ≤ x := by unfold ON at hx; omega
  exact ⟨(k x j hx2).1, (k x j hx2).2.1⟩
theorem SC.far {m m' : Mi} {s : St} (h : SC m s) (hg : SG s) (k : ∀ x j, x < 870 → gi m' x j = gi m x j ∧ gl m' x j = gl m x j) (kr : ∀ x j, gr m' x j = gr m x j) : SC m' s := by
  obtain ⟨h1, h2, h3, h4, h5, h6, h7⟩ := h
  have hB := hg.2.2.1.2.1
  have f : Fr (fun x => 870 ≤ x) m m' := ⟨fun x j e => k x j (by omega), fun x j _ => kr x j⟩
  refine ⟨h1.keepF f (h1.2.2.2.1.keepF f (fun x a b => by omega)), h2.keepF f (fun x a b => by omega), ⟨((k 1 1 (by omega)).1).trans h3.1, h3.2.1, fun j hj => ⟨((k 2 j (by omega)).1).trans (h3.2.2 j hj).1, (h3.2.2 j hj).2⟩⟩, h4.keepF hB f (fun x a b => by omega), ⟨⟨(kr _ _).trans h5.1.1, (kr _ _).trans h5.1.2.1, (kr _ _).trans h5.1.2.2.1, (kr _ _).trans h5.1.2.2.2.1, (kr _ _).trans h5.1.2.2.2.2.1, (kr _ _).trans h5.1.2.2.2.2.2⟩, fun j hj => ((k 857 j (by omega)).1).trans (h5.2 j hj)⟩, h6.keep (fun x j a b => (k x j (by omega)).1) (fun j => kr _ _), h7.kF f ⟨by omega, by omega⟩⟩
