/-! Calls of both sides: inside, and feed. -/
abbrev wT (s : St) (T' : Nat → Nat) (f' : Nat) (S' : Nat → List Row) : St := (T', (f', (S', (oR s, (ok s, (oG s, (oF s, oL s)))))))
def PU (x j : Nat) : Prop := x = 871 ∨ PT x j
theorem SM.mid {m m' : Mi} {s : St} {T' : Nat → Nat} {f' : Nat} {S' : Nat → List Row} (h : SM m s) (hg : SG s) (k : FrM PU m m') (hS : MSl m' S') (hT : Tap m' 870 871 T' f') : SM m' (wT s T' f' S') := by
  obtain ⟨h1, h2, h3, h4, h5, h6⟩ := h
  have hB := hg.2.2.1.2.1
  have w : WFM m' := fun z hz => (k.2 _ _).trans (h1 z hz)
  have n : ∀ x j, ¬ PU x j → gi m' x j = gi m x j := fun x j z => (k.1 x j z).1
  exact ⟨w, hS, hT, h4.keepF hB k (fun x j a b c d => by unfold PU PT; omega) (fun j hj => by unfold PU PT; omega) (fun j hj => by unfold PU PT; omega) (by unfold PU PT; omega), h5.keep (fun j a b => n _ _ (by unfold PU PT; omega)) (fun x j a b => n _ _ (by unfold PU PT; omega)), ⟨w, h6.2.1, (n _ _ (by unfold PU PT; omega)).trans h6.2.2.1, fun i b hi => ⟨(n _ _ (by unfold PU PT; omega)).trans (h6.2.2.2 i b hi).1, (h6.2.2.2 i b hi).2⟩⟩⟩
theorem SC.low {m m' : Mi} {s : St} {T' : Nat → Nat} {f' : Nat} {S' : Nat → List Row} {P : Nat → Prop} (h : SC m s) (hg : SG s) (k : Fr P m m') (hp : ∀ x, P x → x < 59) (hi : InC m') (hS : CSl m' S') (hT : Tap m' 1 2 T' f') : SC m' (wT s T' f' S') := by
  obtain ⟨h1, h2, h3, h4, h5, h6, h7⟩ := h
  have hB := hg.2.2.1.2.1
  have no : ∀ x, 59 ≤ x → ¬ P x := fun x hx z => by have := hp x z; omega
  have n : ∀ x j, 59 ≤ x → gi m' x j = gi m x j := fun x j hx => (k.1 x j (no x hx)).1
  have r : ∀ x j, ¬ NR x j → gr m' x j = gr m x j := k.2
  exact ⟨hi, hS, hT, h4.keepF hB k (fun x a b => no x (by omega)), ⟨⟨(r _ _ (by unfold NR; omega)).trans h5.1.1, (r _ _ (by unfold NR; omega)).trans h5.1.2.1, (r _ _ (by unfold NR; omega)).trans h5.1.2.2.1, (r _ _ (by unfold NR; omega)).trans h5.1.2.2.2.1, (r _ _ (by unfold NR; omega)).trans h5.1.2.2.2.2.1, (r _ _ (by unfold NR; omega)).trans h5.1.2.2.2.2.2⟩, fun j hj => (n _ _ (by omega)).trans (h5.2 j hj)⟩, h6.keep (fun x j a b => n _ _ (by omega)) (fun j => r _ _ (by unfold NR; omega)), h7.kF k ⟨no _ (by omega), no _ (by omega)⟩⟩
theorem both_feed {m : Mi} {s : St} (hc : SC m s) (hm : SM m s) (hg : SG s) (a b c d e : Int32) : ∃ v m1 m2 s', f_X11_feed TT m 1 a b c d e = some (v, m1) ∧ f_X12_feed TT m1 870 a b c d e = some (v, m2) ∧ SC m2 s' ∧ SM m2 s' ∧ SG s' := by
  obtain ⟨m1, e1, t1, k1⟩ := feed_C hc.1.1.1.1 hc.2.2.1 a b c d e
  have f1 : Fr (fun x => x = 1 ∨ x = 2) m m1 := ⟨fun x j z => ⟨k1.1 x j (fun y => z (Or.inl y.1)) (fun y => z (Or.inr y)), k1.2.1 x j⟩, fun x j _ => k1.2.2 x j⟩
  have hm1 := hm.far hg (fun x j hx => ⟨k1.1 x j (by omega) (by omega), k1.2.1 x j, k1.2.2 x j⟩)
  have hc1 := hc.low hg f1 (fun x z => by omega) (hc.1.keepF f1 (hc.1.2.2.2.1.keepF f1 (fun x p q => by omega))) (hc.2.1.keepF f1 (fun x p q => by omega)) t1
  obtain ⟨m2, e2, t2, k2⟩ := feed_M (hm1.1 0 (by omega)) hm1.2.2.1 a b c d e
  have f2 : FrM PU m1 m2 := ⟨fun x j z => ⟨k2.1 x j (fun y => z (by unfold PU PT; omega)) (fun y => z (Or.inl y)), k2.2.1 x j⟩, fun x j => k2.2.2 x j⟩
  have hS2 : MSl m2 (oS s) := fun q hq => by
    obtain ⟨z, a1, a2, a3, a4, a5⟩ := hm1.2.1 q hq
    have e : ∀ b y, gl m2 875 (288 * (250 + q) + 9 * b + y) = gl m1 875 (288 * (250 + q) + 9 * b + y) := fun b y => k2.2.1 _ _
    refine ⟨z, a1, a2, (k2.1 _ _ (by omega) (by omega)).trans a3, fun b hb => VR_congr (fun y _ => e b y) (a4 b hb), ?_⟩
    rw [← a5]
    unfold bM
    exact List.map_congr_left (fun b _ => trM_congr (fun y _ => e b y))
  have hm2 := hm1.mid hg f2 hS2 t2
  exact ⟨_, m1, m2, _, e1, e2, hc1.far hg (fun x j hx => ⟨k2.1 x j (by omega) (by omega), k2.2.1 x j⟩) (fun x j => k2.2.2 x j), hm2, hg⟩
