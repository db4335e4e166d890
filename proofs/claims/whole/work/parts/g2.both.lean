/-! Calls of both sides: the solver. -/
abbrev wF (s : St) (F' : Fnd) : St := (oT s, (oz s, (oS s, (oR s, (ok s, (oG s, (F', oL s)))))))
theorem SM.near {m m' : Mi} {s : St} {F' : Fnd} {P : Nat → Nat → Prop} (h : SM m s) (hg : SG s) (k : FI P m m') (hp : ∀ x j, P x j → (900 ≤ x ∧ x ≤ 911) ∨ (x = 870 ∧ 49 ≤ j ∧ j ≤ 57)) (hf : FnM m' (oG s) F') : SM m' (wF s F') := by
  obtain ⟨h1, h2, h3, h4, h5, h6⟩ := h
  have hB := hg.2.2.1.2.1
  have n : ∀ x j, ¬ ((900 ≤ x ∧ x ≤ 911) ∨ (x = 870 ∧ 49 ≤ j ∧ j ≤ 57)) → gi m' x j = gi m x j := fun x j z => k.1 x j (fun y => z (hp x j y))
  have w : WFM m' := fun z hz => (k.2.2 _ _).trans (h1 z hz)
  obtain ⟨t, ht, g1, g2⟩ := h4
  have hE : ME t m (oR s) (ok s) (oG s) := ⟨h1, ht, g1, g2⟩
  have hE' := hE.keep hB k (fun x j z => by have := hp x j z; omega)
  refine ⟨w, fun q hq => ?_, ⟨(n _ _ (by omega)).trans h3.1, h3.2.1, fun j hj => ⟨(n _ _ (by omega)).trans (h3.2.2 j hj).1, (h3.2.2 j hj).2⟩⟩, ⟨t, ht, hE'.2.2.1, hE'.2.2.2⟩, hf, ⟨w, h6.2.1, (n _ _ (by omega)).trans h6.2.2.1, fun i b hi => ⟨(n _ _ (by omega)).trans (h6.2.2.2 i b hi).1, (h6.2.2.2 i b hi).2⟩⟩⟩
  obtain ⟨z, a1, a2, a3, a4, a5⟩ := h2 q hq
  have e : ∀ b y, gl m' 875 (288 * (250 + q) + 9 * b + y) = gl m 875 (288 * (250 + q) + 9 * b + y) := fun b y => k.2.1 _ _
  refine ⟨z, a1, a2, (n _ _ (by omega)).trans a3, fun b hb => VR_congr (fun y _ => e b y) (a4 b hb), ?_⟩
  rw [← a5]
  unfold bM
  exact List.map_congr_left (fun b _ => trM_congr (fun y _ => e b y))
theorem nzC_congr {np : Nat} {x y : Nat → Nat} (h : ∀ p, p < np → x p = y p) : nzC np x = nzC np y := by
  unfold nzC
  apply List.countP_congr
  intro p hp
  rw [h p (List.mem_range.mp hp)]
theorem FnM_congr {m : Mi} {G : Rg} {x y : Nat → Nat} (h : ∀ p, p < G.1.length → x p = y p) (hf : FnM m G (some (.inl y))) : FnM m G (some (.inl x)) :=
  ⟨hf.1, hf.2.1, by rw [nzC_congr h]; exact hf.2.2.1, hf.2.2.2.1, fun p hp => by rw [h p hp]; exact hf.2.2.2.2 p hp⟩
theorem farZ {m m' : Mi} (k : FZ8 (fun x => 853 ≤ x ∧ x ≤ 862) m m') : ∀ x j, 870 ≤ x → gi m' x j = gi m x j ∧ gl m' x j = gl m x j ∧ gr m' x j = gr m x j := fun x j hx => ⟨k.1 x j (fun z => by have : 853 ≤ x ∧ x ≤ 862 := z; omega), k.2.1 x j, k.2.2 x j (by omega)⟩
theorem both_resolve {m : Mi} {s : St} (hc : SC m s) (hm : SM m s) (hg : SG s) (a : Int32) : ∃ v m1 m2 s', f_X11_resolve TT m 1 a = some (v, m1) ∧ f_X12_resolve TT m1 870 a = some (v, m2) ∧ SC m2 s' ∧ SM m2 s' ∧ SG s' := by
  obtain ⟨g1, g2, g3, g4, g5⟩ := hg
  obtain ⟨v, m1, e1, z1, v1, c1⟩ := resolve_C hc.1.1 hc.2.2.2.1 g3 hc.2.2.2.2.1 hc.2.2.2.2.2.1 g5.1 a
  have hm1 := hm.far ⟨g1, g2, g3, g4, g5⟩ (farZ z1)
  obtain ⟨w, m2, e2, f2, c2⟩ := resolve_M hm1.1 hm1.2.2.2.1 g3 hm1.2.2.2.2.1 g5.1 a
  have far : ∀ x j, x < 870 → gi m2 x j = gi m1 x j ∧ gl m2 x j = gl m1 x j := fun x j hx => ⟨f2.1 x j (by unfold FR9; omega), f2.2.1 x j⟩
  have hp : ∀ x j, FR9 x j → (900 ≤ x ∧ x ≤ 911) ∨ (x = 870 ∧ 49 ≤ j ∧ j ≤ 57) := fun x j z => by unfold FR9 at z; omega
  rcases c1 with ⟨hy, hv, x, hb, hf⟩ | ⟨hn, hv, hf⟩
  · rcases c2 with ⟨_, hw, y, hb', hf'⟩ | ⟨hn, _⟩
    · have hxy : ∀ p, p < (oG s).1.length → x p = y p := fun p hp => Best_uniq g3 hb hb' (p + 1) p (by omega) hp
      have hk : FK (oR s) (oG s) (some (.inl x)) := ⟨Best_SL (n := ok s) hy hb, trivial⟩
      have sg : SG (wF s (some (.inl x))) := ⟨g1, g2, g3, g4, hk⟩
      refine ⟨v, m1, m2, wF s (some (.inl x)), e1, by rw [e2, hv, hw], (hc.zap ⟨g1, g2, g3, g4, g5⟩ z1 v1 hf).far sg far (fun x j => f2.2.2 x j), hm1.near ⟨g1, g2, g3, g4, g5⟩ f2 hp (FnM_congr hxy hf'), sg⟩
    · exact absurd hy hn
  · rcases c2 with ⟨hy, _⟩ | ⟨_, hw, hf'⟩
    · exact absurd hy hn
    · have sg : SG (wF s (some (.inr (rsL (oR s) (oG s))))) := ⟨g1, g2, g3, g4, ⟨hn, rfl⟩⟩
      exact ⟨v, m1, m2, wF s (some (.inr (rsL (oR s) (oG s)))), e1, by rw [e2, hv, hw], (hc.zap ⟨g1, g2, g3, g4, g5⟩ z1 v1 hf).far sg far (fun x j => f2.2.2 x j), hm1.near ⟨g1, g2, g3, g4, g5⟩ f2 hp hf', sg⟩
