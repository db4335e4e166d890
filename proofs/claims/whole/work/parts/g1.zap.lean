/-! A call of the class's solver leaves the rest of the class as it is. -/
theorem WQ.zap {q : Nat} {m m' : Mi} {P : Nat → Prop} (h : WQ q m) (hq : QS q) (k : FZ8 P m m') : WQ q m' := by
  obtain ⟨h1, h2, h3, h4, h5, h6, h7, h8, h9⟩ := h
  have n : ∀ x j, x ≠ 853 → gr m' x j = gr m x j := fun x j z => k.2.2 x j (fun y => z y.1)
  have hq1 := hq.1
  refine ⟨(n _ _ (by omega)).trans h1, (n _ _ (by omega)).trans h2, (n _ _ (by omega)).trans h3, (n _ _ (by omega)).trans h4, (n _ _ (by omega)).trans h5, (n _ _ (by omega)).trans h6, fun p hp => ⟨(n _ _ (by omega)).trans (h7 p hp).1, (n _ _ (by omega)).trans (h7 p hp).2⟩, fun r hr => ⟨(n _ _ (by omega)).trans (h8 r hr).1, (n _ _ (by omega)).trans (h8 r hr).2⟩, fun c hc => (n _ _ (by omega)).trans (h9 c hc)⟩
theorem RG.zap {m m' : Mi} {r cap : Nat} {B : List Row} (h : RG TT m r cap B) (hr : r < 800) (k : FZ8 (fun x => 853 ≤ x ∧ x ≤ 862) m m') : RG TT m' r cap B := by
  obtain ⟨h1, h2, h3, h4, h5, h6, h7, h8⟩ := h
  refine ⟨h1, (k.2.2 _ _ (by omega)).trans h2, h3, (k.1 _ _ (by omega)).trans h4, h5, h6, h7, ?_⟩
  rw [bnd_congr (m := m) (fun q _ => k.2.1 _ _)]
  exact h8
theorem DC.zap {q : Nat} {m m' : Mi} {T : Nat → Nat} {G : Rg} (h : DC q m T G) (hq : QS q) (hB : BGd G) (k : FZ8 (fun x => 853 ≤ x ∧ x ≤ 862) m m') : DC q m' T G := by
  have hq1 := hq.1
  have f : Fr (fun x => 853 ≤ x ∧ x ≤ 862) m (m'.1, (m'.2.1, m.2.2)) := ⟨fun x j e => ⟨k.1 x j e, k.2.1 x j⟩, fun _ _ _ => rfl⟩
  have r : DC q (m'.1, (m'.2.1, m.2.2)) T G := h.keepF hB f (fun x a b (z : 853 ≤ x ∧ x ≤ 862) => by omega)
  exact r
theorem SC.zap {m m' : Mi} {s : St} {F' : Fnd} (h : SC m s) (hg : SG s) (k : FZ8 (fun x => 853 ≤ x ∧ x ≤ 862) m m') (hv : SVI m') (hf : FnC m' (oG s) F') : SC m' (oT s, (oz s, (oS s, (oR s, (ok s, (oG s, (F', oL s))))))) := by
  obtain ⟨⟨⟨⟨w1, w2, w3, w4, w5, w6, w7, w8, w9, w10⟩, w11⟩, ⟨t1, t2, t3, t4, t5⟩, ⟨u1, u2, u3, u4, u5, u6, u7, u8⟩, ⟨⟨A, hA⟩, B, hBB⟩, x1, x2⟩, ⟨h2, J, hJ⟩, h3, h4, h5, h6, h7⟩ := h
  have hB := hg.2.2.1.2.1
  have n : ∀ x j, x ≠ 853 → gr m' x j = gr m x j := fun x j z => k.2.2 x j (fun y => z y.1)
  obtain ⟨q, q', hqq, r8, r9, hcg, hwq⟩ := h4
  have hq : QS q := by rcases hqq with e | e <;> rw [e.1]; exact qs59; exact qs456
  have hq' : QS q' := by rcases hqq with e | e <;> rw [e.2]; exact qs456; exact qs59
  have hq1 := hq.1
  refine ⟨⟨⟨⟨(n _ _ (by omega)).trans w1, (n _ _ (by omega)).trans w2, (n _ _ (by omega)).trans w3, (n _ _ (by omega)).trans w4, (n _ _ (by omega)).trans w5, (n _ _ (by omega)).trans w6, (n _ _ (by omega)).trans w7, (n _ _ (by omega)).trans w8, (n _ _ (by omega)).trans w9, (n _ _ (by omega)).trans w10⟩, fun j hj => (n _ _ (by omega)).trans (w11 j hj)⟩, ⟨(n _ _ (by omega)).trans t1, (n _ _ (by omega)).trans t2, (n _ _ (by omega)).trans t3, (n _ _ (by omega)).trans t4, (n _ _ (by omega)).trans t5⟩, ⟨(n _ _ (by omega)).trans u1, (n _ _ (by omega)).trans u2, (n _ _ (by omega)).trans u3, (n _ _ (by omega)).trans u4, (n _ _ (by omega)).trans u5, (n _ _ (by omega)).trans u6, (n _ _ (by omega)).trans u7, (n _ _ (by omega)).trans u8⟩, ⟨⟨A, hA.zap (by omega) k⟩, B, hBB.zap (by omega) k⟩, (n _ _ (by omega)).trans x1, (n _ _ (by omega)).trans x2⟩, ⟨fun j hj => (h2 j hj).zap (by omega) k, J, hJ.zap (by omega) k⟩, ⟨(k.1 _ _ (by omega)).trans h3.1, h3.2.1, fun j hj => ⟨(k.1 _ _ (by omega)).trans (h3.2.2 j hj).1, (h3.2.2 j hj).2⟩⟩, ⟨q, q', hqq, (n _ _ (by omega)).trans r8, (n _ _ (by omega)).trans r9, ⟨⟨hcg.1.1.zap hq k, fun j hj => ⟨(k.1 _ _ (by omega)).trans (hcg.1.2.1 j hj).1, (hcg.1.2.1 j hj).2⟩, hcg.1.2.2.1.zap hq hB k, fun c x (hx : (oG s).2.2[c]? = some x) => (k.1 _ _ (by have := get_lt hx; have := hB.2.2; omega)).trans (hcg.1.2.2.2 c x hx)⟩, fun c x (hx : (oG s).2.2[c]? = some x) => (k.1 _ _ (by have := get_lt hx; have := hB.2.2; omega)).trans (hcg.2 c x hx)⟩, hwq.zap hq' k⟩, hv, hf, ⟨⟨(n _ _ (by omega)).trans h7.1.1, (n _ _ (by omega)).trans h7.1.2.1, (n _ _ (by omega)).trans h7.1.2.2.1, (n _ _ (by omega)).trans h7.1.2.2.2.1, (n _ _ (by omega)).trans h7.1.2.2.2.2⟩, h7.2.1, (k.1 _ _ (by omega)).trans h7.2.2.1, fun i b hi => ⟨(k.1 _ _ (by omega)).trans (h7.2.2.2 i b hi).1, (h7.2.2.2 i b hi).2⟩⟩⟩
