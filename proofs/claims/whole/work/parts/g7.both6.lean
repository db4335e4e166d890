/-! Calls of both sides: order and range. -/
theorem farL {m m' : Mi} {P : Nat → Prop} (k : Fr P m m') (hp : ∀ x, P x → x < 870) : ∀ x j, 870 ≤ x → gi m' x j = gi m x j ∧ gl m' x j = gl m x j ∧ gr m' x j = gr m x j := fun x j hx => by
  have no : ¬ P x := fun z => by have := hp x z; omega
  exact ⟨(k.1 x j no).1, (k.1 x j no).2, k.2 x j (by unfold NR; omega)⟩
theorem both_order {m : Mi} {s : St} (hc : SC m s) (hm : SM m s) (hg : SG s) (n : Int32) : ∃ v m1 m2 s', f_X11_order TT m 1 n = some (v, m1) ∧ f_X12_order TT m1 870 n = some (v, m2) ∧ SC m2 s' ∧ SM m2 s' ∧ SG s' := by
  obtain ⟨m1, e1, t1, f1⟩ := order_C hc.1 hc.2.2.1 n
  have hm1 := hm.far hg (farL f1 (fun x z => by omega))
  have hc1 := hc.low hg f1 (fun x z => by omega) (hc.1.keepF f1 (hc.1.2.2.2.1.keepF f1 (fun x p q => by omega))) (hc.2.1.keepF f1 (fun x p q => by omega)) t1
  obtain ⟨m2, e2, t2, k2⟩ := order_M hm1.1 hm1.2.2.1 n
  have f2 : FrM PU m1 m2 := k2.mono (fun x j z => Or.inr z.1)
  have hS2 : MSl m2 (oS s) := fun q hq => by
    obtain ⟨z, a1, a2, a3, a4, a5⟩ := hm1.2.1 q hq
    have e : ∀ b y, gl m2 875 (288 * (250 + q) + 9 * b + y) = gl m1 875 (288 * (250 + q) + 9 * b + y) := fun b y => (k2.1 _ _ (fun w => w.2 (Or.inr rfl))).2
    refine ⟨z, a1, a2, ((k2.1 _ _ (fun w => w.2 (Or.inl rfl))).1).trans a3, fun b hb => VR_congr (fun y _ => e b y) (a4 b hb), ?_⟩
    rw [← a5]
    unfold bM
    exact List.map_congr_left (fun b _ => trM_congr (fun y _ => e b y))
  have hm2 := hm1.mid hg f2 hS2 t2
  exact ⟨_, m1, m2, _, e1, e2, hc1.far hg (fun x j hx => f2.1 x j (by unfold PU PT; omega)) (fun x j => f2.2 x j), hm2, hg⟩
theorem both_range {m : Mi} {s : St} (hc : SC m s) (hm : SM m s) (hg : SG s) (k n : Int32) : ∃ v m1 m2 s', f_X11_range TT m 1 k n = some (v, m1) ∧ f_X12_range_ TT m1 870 k n = some (v, m2) ∧ SC m2 s' ∧ SM m2 s' ∧ SG s' := by
  obtain ⟨m1, e1, i1, s1, g1, t1, f1⟩ := range_C hc.1 hc.2.1 hg.1 hc.2.2.1 k n
  have hm1 := hm.far hg (farL f1 (fun x z => by unfold Low at z; omega))
  have hc1 := hc.low hg f1 (fun x z => z) i1 s1 t1
  obtain ⟨m2, e2, s2, t2, k2⟩ := range_M hm1.1 hm1.2.1 hg.1 hm1.2.2.1 k n
  have f2 : FrM PU m1 m2 := k2.mono (fun x j z => Or.inr z)
  have hm2 := hm1.mid hg f2 s2 t2
  have hb : BSl (spRange (oT s) (oz s) (oS s) k n).2.2 := spRange_BW hg.2.1 (fun j hj => (hc.2.2.1.2.2 j hj).2) hc.2.2.1.2.1
  have hg' : SG (wT s (oT s) (spRange (oT s) (oz s) (oS s) k n).2.1 (spRange (oT s) (oz s) (oS s) k n).2.2) := ⟨g1, hb, hg.2.2⟩
  exact ⟨_, m1, m2, _, e1, e2, hc1.far hg' (fun x j hx => f2.1 x j (by unfold PU PT; omega)) (fun x j => f2.2 x j), hm2, hg'⟩
