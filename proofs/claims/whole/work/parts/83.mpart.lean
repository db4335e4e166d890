/-! The reference: the range of a part. -/
def rowM (m : Mi) (c i : Nat) (g : Nat → Int64) : Prop := ∀ z, z < 9 → gl m c (i + z) = g z
/-- only the places in P have changed -/
def FrM (P : Nat → Nat → Prop) (m m' : Mi) : Prop := (∀ x j, ¬ P x j → gi m' x j = gi m x j ∧ gl m' x j = gl m x j) ∧ ∀ x j, gr m' x j = gr m x j
theorem FrM.rf {P : Nat → Nat → Prop} {m : Mi} : FrM P m m := ⟨fun _ _ _ => ⟨rfl, rfl⟩, fun _ _ => rfl⟩
theorem FrM.tr {P : Nat → Nat → Prop} {m m1 m2 : Mi} (h : FrM P m m1) (h2 : FrM P m1 m2) : FrM P m m2 := ⟨fun x j a => ⟨(h2.1 x j a).1.trans (h.1 x j a).1, (h2.1 x j a).2.trans (h.1 x j a).2⟩, fun x j => (h2.2 x j).trans (h.2 x j)⟩
theorem FrM.mono {P Q : Nat → Nat → Prop} {m m' : Mi} (h : FrM P m m') (hq : ∀ x j, P x j → Q x j) : FrM Q m m' := ⟨fun x j a => h.1 x j (fun e => a (hq x j e)), h.2⟩
theorem FrM.si {P : Nat → Nat → Prop} {m : Mi} {a k : Nat} {v : Int32} (h : P a k) : FrM P m (si m a k v) := by
  refine ⟨fun x j e => ⟨?_, rfl⟩, fun _ _ => rfl⟩
  simp only [mS]
  rw [if_neg (fun z => e (by rw [z.1, z.2]; exact h))]
theorem FrM.sl {P : Nat → Nat → Prop} {m : Mi} {a k : Nat} {v : Int64} (h : P a k) : FrM P m (sl m a k v) := by
  refine ⟨fun x j e => ⟨rfl, ?_⟩, fun _ _ => rfl⟩
  simp only [mS]
  rw [if_neg (fun z => e (by rw [z.1, z.2]; exact h))]
theorem FrM.blk {P : Nat → Nat → Prop} {m : Mi} {a lo hi : Nat} {g : Nat → Int64} (h : ∀ j, lo ≤ j → j < hi → P a j) : FrM P m (blkL m a lo hi g) := by
  refine ⟨fun x j e => ⟨rfl, ?_⟩, fun _ _ => rfl⟩
  simp only [mS]
  rw [if_neg (fun z => e (by rw [z.1]; exact h j z.2.1 z.2.2))]
theorem WFM.keepF {P : Nat → Nat → Prop} {m m' : Mi} (h : WFM m) (k : FrM P m m') : WFM m' := fun z hz => (k.2 _ _).trans (h z hz)
theorem KD.F {P : Nat → Nat → Prop} {m m' : Mi} (h : KD m m') (h1 : P 870 5) (h2 : P 870 6) (h3 : ∀ j, P 873 j) : FrM P m m' := ⟨fun x j e => ⟨h.1 x j (fun z => e (by rw [z.1, z.2]; exact h1)), h.2.1 x j (fun z => e (by rw [z]; exact h3 j)) (fun z => e (by rw [z.1, z.2]; exact h2))⟩, h.2.2⟩
/-- what partRange of 267 may change -/
def PP (x j : Nat) : Prop := (x = 870 ∧ (j = 5 ∨ j = 6)) ∨ x = 873 ∨ x = 879 ∨ (x = 874 ∧ j = 267) ∨ (x = 875 ∧ 76896 ≤ j ∧ j < 77184)
theorem rowM.keep {P : Nat → Nat → Prop} {m m' : Mi} {c i : Nat} {g : Nat → Int64} (h : rowM m c i g) (k : FrM P m m') (hn : ∀ z, z < 9 → ¬ P c (i + z)) : rowM m' c i g := fun z hz => (k.1 _ _ (hn z hz)).2.trans (h z hz)
theorem copy_rowM {m : Mi} {a b i j n k : Nat} {g : Nat → Int64} (ha : sh TT a = some (.inr (.long, n))) (hb : sh TT b = some (.inr (.long, k))) (hi : i + 9 ≤ n) (hj : j + 9 ≤ k) (hn : n < 2 ^ 31) (hk : k < 2 ^ 31) (hne : a ≠ b) (h : rowM m b j g) :
    ∃ m', f_X12_copy TT m a (nI i) b (nI j) = some m' ∧ rowM m' a i g ∧ FrM (fun x q => x = a ∧ i ≤ q ∧ q < i + 9) m m' := by
  refine ⟨_, mcopy_spec ha hb hi hj hn hk (Or.inl hne), fun z hz => ?_, FrM.blk (fun q h1 h2 => ⟨rfl, h1, h2⟩)⟩
  simp only [mS]
  rw [if_pos ⟨trivial, by omega, by omega⟩, show j + (i + z - i) = j + z by omega]
  exact h z hz
theorem mnext_row {m : Mi} {f i : Nat} {ns is : List Nat} (hi : i + 9 ≤ 78336) (h : rowM m 875 i (mR ns is)) (hv : VW f ns is) (hf : f = 2) : ∃ m', f_X12_next TT m 875 (nI i) = some m' ∧ rowM m' 875 i (mR (nxt ns is).1 (nxt ns is).2) ∧ FrM (fun x q => x = 875 ∧ i ≤ q ∧ q < i + 9) m m' := by
  have h5 := hv.2.1.1
  have hn3 : ns.length = 3 := by have := hv.2.2; omega
  unfold f_X12_next
  rw [show nI i + 3 = nI (i + 3) from nI_add i 3, if_pos (ar_of s_875 (by omega) (by omega)), ix_nI (by omega), lt_eq, h 3 (by omega), show mR ns is 3 = lN is.length from rfl, lN_i]
  by_cases his : is = []
  · rw [his, if_pos (by decide), show nI i + 2 = nI (i + 2) from nI_add i 2, if_pos (ar_of s_875 (by omega) (by omega)), show nI i + 4 = nI (i + 4) from nI_add i 4, lt_eq, lt_eq, if_pos (ar_of s_875 (by omega) (by omega)), ix_nI (by omega), ix_nI (by omega), lt_eq, h 2 (by omega)]
    refine ⟨_, rfl, fun z hz => ?_, ((FrM.sl ⟨rfl, by omega, by omega⟩).tr (FrM.sl ⟨rfl, by omega, by omega⟩)).tr (FrM.sl ⟨rfl, by omega, by omega⟩)⟩
    unfold nxt
    rw [if_pos rfl]
    simp only [mS]
    by_cases z4 : z = 4
    · rw [if_pos ⟨trivial, by omega⟩, z4]; rfl
    · rw [if_neg (by omega)]
      by_cases z3 : z = 3
      · rw [if_pos ⟨trivial, by omega⟩, z3]; rfl
      · rw [if_neg (by omega)]
        by_cases z2 : z = 2
        · rw [if_pos ⟨trivial, by omega⟩, z2]
          exact lN_1 _
        · rw [if_neg (by omega), h z hz, his]
          have hz2 : z = 0 ∨ z = 1 ∨ z = 5 ∨ z = 6 ∨ z = 7 ∨ z = 8 := by omega
          rcases hz2 with rfl | rfl | rfl | rfl | rfl | rfl <;> rfl
  · have hl : is.length ≠ 0 := fun e => his (List.length_eq_zero_iff.mp e)
    rw [if_neg (show ¬ nI is.length = 0 from fun x => hl ((nI_eq (b := 0) (by omega) (by omega)).mp x)), lt_eq, show nI i + 4 + nI is.length = nI (i + 4 + is.length) by rw [show nI i + 4 = nI (i + 4) from nI_add i 4, nI_add], if_pos (ar_of s_875 (by omega) (by omega)), ix_nI (by omega), lt_eq, nI_1, nI_l (by omega)]
    refine ⟨_, rfl, fun z hz => ?_, (FrM.sl ⟨rfl, by omega, by omega⟩).tr (FrM.sl ⟨rfl, by omega, by omega⟩)⟩
    unfold nxt
    rw [if_neg his]
    simp only [mS]
    show _ = mR ns (is ++ [0]) z
    have hlen : (is ++ [0]).length = is.length + 1 := by rw [List.length_append, List.length_singleton]
    by_cases z4 : z = 4 + is.length
    · rw [if_pos ⟨trivial, by omega⟩]
      unfold mR
      rw [if_neg (by omega), if_neg (by omega), if_pos (by omega), z4, show 4 + is.length - 4 = is.length by omega, List.getD_eq_getElem?_getD, List.getElem?_append_right (Nat.le_refl _), Nat.sub_self]
      rfl
    · rw [if_neg (by omega)]
      by_cases z3 : z = 3
      · rw [if_pos ⟨trivial, by omega⟩]
        unfold mR
        rw [if_neg (by omega), if_pos z3, hlen]
      · rw [if_neg (by omega), h z hz]
        unfold mR
        by_cases zz : z < 3
        · rw [if_pos zz, if_pos zz]
        · rw [if_neg zz, if_neg zz, if_neg z3, if_neg z3, hlen]
          by_cases zl : z - 4 < is.length
          · rw [if_pos zl, if_pos (by omega), List.getD_eq_getElem?_getD, List.getD_eq_getElem?_getD, List.getElem?_append_left zl]
          · rw [if_neg zl, if_neg (by omega)]
def mLE (z : Nat) : Int64 := if z = 3 then 1 else 0
def mEN (z : Nat) : Int64 := if z = 0 then 1099511627776 else 0
theorem mLE_tr : VR mLE ∧ trM mLE = LE := ⟨VR_least (fun k hk => rfl), by decide⟩
theorem mEN_tr : VR mEN ∧ trM mEN = EN := ⟨VR_end (fun k hk => rfl), by decide⟩
/-- a bound as the reference has it -/
def mB (g : Nat → Int64) (x : Row) : Prop := VR g ∧ trM g = x
theorem mB_R {ns is : List Nat} (h : VX ns is) : mB (mR ns is) (rW ns is) := ⟨mR_VR h, mR_tr h⟩
theorem mk_MG {m : Mi} {ga gb : Nat → Int64} {lo hi : Row} (ha : rowM m 875 76896 ga) (hb : rowM m 875 76905 gb) (h1 : mB ga lo) (h2 : mB gb hi) (hg : gi m 874 267 = if cmpL lo hi = -1 then 1 else 0) : MG m 267 (iv lo hi) := by
  unfold iv
  by_cases hc : cmpL lo hi = -1
  · rw [if_pos hc] at hg ⊢
    have ea : ∀ z, z < 9 → gl m 875 (288 * 267 + 9 * 0 + z) = ga z := fun z hz => ha z hz
    have eb : ∀ z, z < 9 → gl m 875 (288 * 267 + 9 * 1 + z) = gb z := fun z hz => hb z hz
    refine ⟨1, rfl, by omega, hg, fun b hb2 => ?_, ?_⟩
    · have : b = 0 ∨ b = 1 := by omega
      rcases this with rfl | rfl
      · obtain ⟨g, hg1, hg2⟩ := h1.1
        exact ⟨g, fun k hk => ⟨(ea k hk).trans (hg1 k hk).1, (hg1 k hk).2⟩, hg2⟩
      · obtain ⟨g, hg1, hg2⟩ := h2.1
        exact ⟨g, fun k hk => ⟨(eb k hk).trans (hg1 k hk).1, (hg1 k hk).2⟩, hg2⟩
    · show [trM (fun z => gl m 875 (288 * 267 + 9 * 0 + z)), trM (fun z => gl m 875 (288 * 267 + 9 * 1 + z))] = _
      rw [trM_congr ea, trM_congr eb, h1.2, h2.2]
  · rw [if_neg hc] at hg ⊢
    exact ⟨0, rfl, by omega, hg, fun b hb2 => by omega, rfl⟩
theorem full_spec {m : Mi} {r : Nat} (hM : WFM m) (hr : r < 272) : ∃ m', f_X12_full TT m 870 (nI r) = some m' ∧ rowM m' 875 (288 * r) mLE ∧ rowM m' 875 (288 * r + 9) mEN ∧ gi m' 874 r = 1 ∧ FrM (fun x j => (x = 874 ∧ j = r) ∨ (x = 875 ∧ 288 * r ≤ j ∧ j < 288 * r + 18)) m m' := by
  have r7 : gr m 870 7 = 874 := hM 7 (by omega)
  have r8 : gr m 870 8 = 875 := hM 8 (by omega)
  unfold f_X12_full
  rw [r7, if_pos (ar_of s_874 hr (by omega)), lt_eq, ix_nI (by omega), show f_X12_from (nI r) 0 = _ from from_spec r 0, Option.bind_some]
  simp only [mS, r8]
  rw [Nat.mul_zero, Nat.add_zero, mfirst_spec s_875 (by omega) (by omega), Option.bind_some, show f_X12_below (nI r) 0 = _ from below_spec r 0, Option.bind_some]
  simp only [mS, r8]
  rw [Nat.mul_zero, Nat.add_zero, mnone_spec s_875 (by omega) (by omega), Option.bind_some]
  refine ⟨_, rfl, fun z hz => ?_, fun z hz => ?_, ?_, ((FrM.si (Or.inl ⟨rfl, rfl⟩)).tr (FrM.blk (fun j h1 h2 => Or.inr ⟨rfl, by omega, by omega⟩))).tr (FrM.blk (fun j h1 h2 => Or.inr ⟨rfl, by omega, by omega⟩))⟩
  · simp only [mS]
    rw [if_neg (by omega), if_pos ⟨trivial, by omega, by omega⟩]
    unfold mLE
    by_cases h3 : z = 3
    · rw [if_pos h3, if_pos (by omega)]
    · rw [if_neg h3, if_neg (by omega)]
  · simp only [mS]
    rw [if_pos ⟨trivial, by omega, by omega⟩]
    unfold mEN
    by_cases h3 : z = 0
    · rw [if_pos h3, if_pos (by omega)]
    · rw [if_neg h3, if_neg (by omega)]
  · simp only [mS]
    simp
theorem j372_spec {m : Mi} {ga gb : Nat → Int64} {lo hi : Row} (hM : WFM m) (ha : rowM m 875 76896 ga) (hb : rowM m 875 76905 gb) (h1 : mB ga lo) (h2 : mB gb hi) (hg : gi m 874 267 = 1) : ∃ m', f_X12_partRange_j372 TT m 870 (nI 267) (nI 76896) (nI 76905) = some m' ∧ MG m' 267 (iv lo hi) ∧ FrM PP m m' := by
  have va : VR (fun z => gl m 875 (76896 + z)) := by
    obtain ⟨g, hg1, hg2⟩ := h1.1
    exact ⟨g, fun k hk => ⟨(ha k hk).trans (hg1 k hk).1, (hg1 k hk).2⟩, hg2⟩
  have vb : VR (fun z => gl m 875 (76905 + z)) := by
    obtain ⟨g, hg1, hg2⟩ := h2.1
    exact ⟨g, fun k hk => ⟨(hb k hk).trans (hg1 k hk).1, (hg1 k hk).2⟩, hg2⟩
  have hcmp : f_X12_compare TT m 875 (nI 76896) 875 (nI 76905) = some (cmpL lo hi) := by
    rw [mcompare_spec s_875 s_875 (by omega) (by omega) (by omega) (by omega), cmp_tr va vb, trM_congr ha, trM_congr hb, h1.2, h2.2]
  unfold f_X12_partRange_j372
  rw [hM 8 (by omega), show RM 8 = 875 from rfl, hcmp, Option.bind_some, hM 7 (by omega), show RM 7 = 874 from rfl, if_pos (ar_of (k := 267) s_874 (by omega) (by omega)), lt_eq, ix_nI (by omega)]
  by_cases hc : cmpL lo hi = -1
  · rw [if_pos (by rw [hc]; decide)]
    refine ⟨m, rfl, mk_MG ha hb h1 h2 (by rw [if_pos hc, hg]), FrM.rf⟩
  · rw [if_neg (by rcases cmpL_vals lo hi with z | z | z <;> rw [z] <;> first | decide | exact absurd z hc)]
    refine ⟨_, rfl, mk_MG (ga := ga) (gb := gb) ha hb h1 h2 ?_, FrM.si (by unfold PP; omega)⟩
    rw [if_neg hc]
    exact gi_si _ _ _ _
