/-! The class: a part's bounds. -/
/-- references that the class lays anew as it goes -/
def NR (x j : Nat) : Prop := (x = 42 ∧ j = 4) ∨ (j = 2 ∧ (x = 46 ∨ x = 49 ∨ x = 38 ∨ x = 40 ∨ x = 454 ∨ x = 851))
/-- only the cells in P have changed, and no other reference -/
def Fr (P : Nat → Prop) (m m' : Mi) : Prop := (∀ x j, ¬ P x → gi m' x j = gi m x j ∧ gl m' x j = gl m x j) ∧ ∀ x j, ¬ NR x j → gr m' x j = gr m x j
theorem Fr.rf {P : Nat → Prop} {m : Mi} : Fr P m m := ⟨fun _ _ _ => ⟨rfl, rfl⟩, fun _ _ _ => rfl⟩
theorem Fr.tr {P : Nat → Prop} {m m1 m2 : Mi} (h : Fr P m m1) (h2 : Fr P m1 m2) : Fr P m m2 := ⟨fun x j a => ⟨(h2.1 x j a).1.trans (h.1 x j a).1, (h2.1 x j a).2.trans (h.1 x j a).2⟩, fun x j a => (h2.2 x j a).trans (h.2 x j a)⟩
theorem Fr.mono {P Q : Nat → Prop} {m m' : Mi} (h : Fr P m m') (hq : ∀ x, P x → Q x) : Fr Q m m' := ⟨fun x j a => h.1 x j (fun e => a (hq x e)), h.2⟩
/-- only longs of cell a -/
def KL (a : Nat) (m m' : Mi) : Prop := (∀ x j, gi m' x j = gi m x j) ∧ (∀ x j, x ≠ a → gl m' x j = gl m x j) ∧ ∀ x j, gr m' x j = gr m x j
theorem KL.rf {a : Nat} {m : Mi} : KL a m m := ⟨fun _ _ => rfl, fun _ _ _ => rfl, fun _ _ => rfl⟩
theorem KL.tr {a : Nat} {m m1 m2 : Mi} (h : KL a m m1) (h2 : KL a m1 m2) : KL a m m2 := ⟨fun x j => (h2.1 x j).trans (h.1 x j), fun x j e => (h2.2.1 x j e).trans (h.2.1 x j e), fun x j => (h2.2.2 x j).trans (h.2.2 x j)⟩
theorem KL.toF {a : Nat} {m m' : Mi} {P : Nat → Prop} (h : KL a m m') (hp : P a) : Fr P m m' := ⟨fun x j e => ⟨h.1 x j, h.2.1 x j (fun z => e (z ▸ hp))⟩, fun x j _ => h.2.2 x j⟩
def rowIs (m : Mi) (a : Nat) (g : Nat → Int64) : Prop := ∀ j, j < 8 → gl m a j = g j
theorem rowIs.L {m : Mi} {a : Nat} {g : Nat → Int64} (h : rowIs m a g) : rowL m a 0 = rowF g := rowF_congr (fun q hq => by rw [Nat.zero_add]; exact h q hq)
theorem rowIs.keep {m m' : Mi} {a b : Nat} {g : Nat → Int64} (h : rowIs m a g) (k : KL b m m') (hne : a ≠ b) : rowIs m' a g := fun j hj => (k.2.1 _ _ hne).trans (h j hj)
theorem KL_blk {a lo hi : Nat} {m : Mi} {g : Nat → Int64} : KL a m (blkL m a lo hi g) := by
  refine ⟨fun _ _ => rfl, fun x j e => ?_, fun _ _ => rfl⟩
  simp only [mS]
  rw [if_neg (fun h => e h.1)]
theorem KL_sl {a j : Nat} {m : Mi} {v : Int64} : KL a m (sl m a j v) := by
  refine ⟨fun _ _ => rfl, fun x j e => ?_, fun _ _ => rfl⟩
  simp only [mS]
  rw [if_neg (fun h => e h.1)]
theorem copy_row {m : Mi} {a b : Nat} {g : Nat → Int64} (ha : sh TT a = some (.inr (.long, 8))) (hb : sh TT b = some (.inr (.long, 8))) (h : rowIs m a g) : ∃ m', f_X10_copy TT m a 0 b 0 = some m' ∧ rowIs m' b g ∧ KL b m m' := by
  refine ⟨_, copy_spec (i := 0) (j := 0) ha hb (by omega) (by omega) (by omega) (by omega), fun j hj => ?_, KL_blk⟩
  simp only [mS]
  rw [if_pos ⟨trivial, by omega, by omega⟩, Nat.zero_add, Nat.sub_zero]
  exact h j hj
theorem least_row {m : Mi} {a : Nat} (ha : sh TT a = some (.inr (.long, 8))) : ∃ m', f_X10_setLeast TT m a = some m' ∧ rowL m' a 0 = LE ∧ KL a m m' := by
  refine ⟨_, setLeast_spec ha (by omega) (by omega), ?_, KL_blk⟩
  rw [LE_F]
  refine rowIs.L (fun j hj => ?_)
  simp only [mS]
  rw [if_pos ⟨trivial, by omega, by omega⟩]
theorem end_row {m : Mi} {a : Nat} (ha : sh TT a = some (.inr (.long, 8))) : ∃ m', f_X10_setEndless TT m a = some m' ∧ rowL m' a 0 = EN ∧ KL a m m' := by
  refine ⟨_, setEndless_spec ha (by omega) (by omega), ?_, KL_blk⟩
  rw [EN_F]
  refine rowIs.L (fun j hj => ?_)
  simp only [mS]
  rw [if_pos ⟨trivial, by omega, by omega⟩]
theorem setId_row {m : Mi} {a : Nat} {ns is : List Nat} {v : Int64} (ha : sh TT a = some (.inr (.long, 8))) (h : rowIs m a (cR ns is)) : ∃ m', f_X10_setIdentifier TT m a v = some m' ∧ rowIs m' a (fun q => if q < 3 then lN (ns.getD q 0) else if q = 3 then v else 0) ∧ KL a m m' := by
  refine ⟨_, setId_spec ha (by omega) (by omega), fun j hj => ?_, KL_blk⟩
  simp only [mS]
  by_cases h3 : j < 3
  · rw [if_neg (by omega), if_pos h3, h j hj]
    unfold cR
    rw [if_pos h3]
  · rw [if_pos ⟨trivial, by omega, by omega⟩, if_neg h3]
theorem cR_nil (ns : List Nat) : (fun q => if q < 3 then lN (ns.getD q 0) else if q = 3 then (9223372036854775807 : Int64) else 0) = cR ns [] := by
  funext q
  unfold cR
  split
  · rfl
  · rw [if_pos (show ([] : List Nat).length = 0 from rfl)]
theorem cR_zero (ns : List Nat) : (fun q => if q < 3 then lN (ns.getD q 0) else if q = 3 then (1 : Int64) else 0) = cR ns [0] := by
  funext q
  unfold cR
  split
  · rfl
  · rw [if_neg (show ¬ ([0] : List Nat).length = 0 by decide)]
    by_cases h : q = 3
    · rw [if_pos h, if_pos (by rw [h]; decide), h]
      rfl
    · rw [if_neg h, if_neg (by rw [List.length_singleton]; omega)]
theorem raise_row {m : Mi} {a k : Nat} {ns is : List Nat} (ha : sh TT a = some (.inr (.long, 8))) (h : rowIs m a (cR ns is)) (hk : k < 3) : ∃ m', f_X10_raise TT m a (nI k) = some m' ∧ rowIs m' a (cR (rsN ns k) [0]) ∧ KL a m m' := by
  have hl := lp_count (body := fun x : Int32 × Mi => f_X10_raise_l2 TT x.2 a (nI k) x.1) (fun i => (nI i, blkL m a 0 i (fun q => if q < k then gl m a q else if q = k then gl m a q + 1 else 0))) (a := 0) (n := 3) (y := blkL m a 0 3 (fun q => if q < k then gl m a q else if q = k then gl m a q + 1 else 0)) (by omega) (by omega) (fun i _ hi => ?_) ?_
  · rw [blkL_nil] at hl
    have h1 : rowIs (blkL m a 0 3 (fun q => if q < k then gl m a q else if q = k then gl m a q + 1 else 0)) a (fun q => if q < 3 then lN ((rsN ns k).getD q 0) else cR ns is q) := by
      intro j hj
      simp only [mS]
      by_cases h3 : j < 3
      · rw [if_pos ⟨trivial, by omega, h3⟩, if_pos h3, rsN_get ns k j h3, h j hj]
        have : cR ns is j = lN (ns.getD j 0) := by unfold cR; rw [if_pos h3]
        rw [this]
        by_cases c1 : j < k
        · rw [if_pos c1, if_pos c1]
        · rw [if_neg c1, if_neg c1]
          by_cases c2 : j = k
          · rw [if_pos c2, if_pos c2, lN_1]
          · rw [if_neg c2, if_neg c2]; rfl
      · rw [if_neg (by omega), if_neg h3, h j hj]
    refine ⟨blkL (blkL m a 0 3 (fun q => if q < k then gl m a q else if q = k then gl m a q + 1 else 0)) a 3 8 (fun q => if q = 3 then 1 else 0), ?_, ?_, KL_blk.tr KL_blk⟩
    · unfold f_X10_raise f_X10_raise_j2 f_X10_raise_j43
      rw [show ((0 : Int32), m) = (nI 0, m) from rfl, hl, Option.bind_some, setId_spec ha (by omega) (by omega)]
      rfl
    · intro j hj
      simp only [mS]
      rw [← cR_zero]
      show _ = if j < 3 then lN ((rsN ns k).getD j 0) else if j = 3 then 1 else 0
      by_cases h3 : j < 3
      · rw [if_neg (by omega)]
        have := h1 j hj
        simp only [mS] at this
        rw [this, if_pos h3, if_pos h3]
      · rw [if_pos ⟨trivial, by omega, by omega⟩, if_neg h3]
  · show f_X10_raise_l2 TT (blkL m a 0 i _) a (nI k) (nI i) = _
    unfold f_X10_raise_l2
    rw [if_neg (show ¬ (3 : Int32) ≤ nI i from nI_ge (b := 3) (by omega) (by omega)), aa_of ha, if_pos rfl, ln_of ha, ofNat_nI, if_neg (nI_ge (by omega) (by omega)), if_pos (ar_of ha (by omega) (by omega)), ix_nI (by omega)]
    simp only [lt_eq, nI_1]
    rw [← blkL_snoc m a 0 i _ (by omega)]
    have g1 : gl (blkL m a 0 i (fun q => if q < k then gl m a q else if q = k then gl m a q + 1 else 0)) a i = gl m a i := by
      simp only [mS]
      rw [if_neg (by omega)]
    by_cases c1 : i = k
    · rw [if_pos (by rw [c1]), g1, if_neg (by omega), if_pos c1]
    · rw [if_neg (fun e => c1 ((nI_eq (by omega) (by omega)).mp e))]
      by_cases c2 : i < k
      · rw [if_pos (nI_le (by omega) (by omega)), if_pos c2]
        congr 3
        refine Mi.ext' (fun _ _ => rfl) (fun x j => ?_) (fun _ _ => rfl)
        rw [show gl (sl (blkL m a 0 i (fun q => if q < k then gl m a q else if q = k then gl m a q + 1 else 0)) a i (gl m a i)) x j = if x = a ∧ j = i then gl m a i else gl (blkL m a 0 i (fun q => if q < k then gl m a q else if q = k then gl m a q + 1 else 0)) x j from rfl]
        by_cases c3 : x = a ∧ j = i
        · rw [if_pos c3, c3.1, c3.2, g1]
        · rw [if_neg c3]
      · rw [if_neg (nI_ge (by omega) (by omega)), if_pos (ar_of ha (by omega) (by omega)), if_neg c2, if_neg c1]
  · show f_X10_raise_l2 TT (blkL m a 0 3 _) a (nI k) (nI 3) = _
    unfold f_X10_raise_l2
    rw [if_pos (by decide)]
theorem next_row {m : Mi} {a f : Nat} {ns is : List Nat} (ha : sh TT a = some (.inr (.long, 8))) (h : rowIs m a (cR ns is)) (hv : VW f ns is) : ∃ m', f_X10_setNext TT m a = some (1, m') ∧ rowIs m' a (cR (nxt ns is).1 (nxt ns is).2) ∧ KL a m m' := by
  have hf : f_X10_fits TT m a 0 = some 1 := by
    have := fits_spec (t := TT) (m := m) (i := 0) ha (by omega) (by omega) (by omega)
    rw [if_pos (by omega)] at this
    exact this
  unfold f_X10_setNext
  rw [hf, Option.bind_some, if_neg (by decide), if_pos (show ar TT a .long 3 = true from ar_of (k := 3) ha (by omega) (by omega)), show ix 3 = 3 from rfl, show ix 2 = 2 from rfl, h 3 (by omega)]
  by_cases hi : is = []
  · have h3 : cR ns is 3 = 9223372036854775807 := by rw [hi]; rfl
    rw [if_pos ((lg_cmp_eq _ _).mpr h3), if_pos (show ar TT a .long 2 = true from ar_of (k := 2) ha (by omega) (by omega)), lt_eq, lt_eq]
    refine ⟨_, rfl, fun j hj => ?_, KL_sl.tr KL_sl⟩
    unfold nxt
    rw [if_pos hi]
    simp only [mS]
    by_cases j3 : j = 3
    · rw [if_pos ⟨trivial, j3⟩, j3]; rfl
    · rw [if_neg (fun e => j3 e.2)]
      by_cases j2 : j = 2
      · rw [if_pos ⟨trivial, j2⟩, h 2 (by omega), j2]
        exact lN_1 _
      · rw [if_neg (fun e => j2 e.2), h j hj, hi]
        have hz : j = 0 ∨ j = 1 ∨ j = 4 ∨ j = 5 ∨ j = 6 ∨ j = 7 := by omega
        rcases hz with rfl | rfl | rfl | rfl | rfl | rfl <;> rfl
  · have hl : ¬ is.length = 0 := fun e => hi (List.length_eq_zero_iff.mp e)
    have h5 := hv.2.1.1
    have hk : ∀ j, j < is.length → ckey (is.getD j 0) < 9223372036854775807 ∧ 1 ≤ ckey (is.getD j 0) := fun j hj => ckey_lt (hv.2.1.2 _ (getD_in hj))
    have h3 : ¬ cR ns is 3 = 9223372036854775807 := by
      rw [cR_get (by omega) hl, if_pos (by omega), l40.2.1, pk_lEQ (by have := hk (3 - 3) (by omega); omega) (by omega)]
      have := hk (3 - 3) (by omega)
      omega
    rw [if_neg (fun e => h3 ((lg_cmp_eq _ _).mp e))]
    have hloop : ∀ d k N, k + d = is.length → d < N → lp (fun x : Int32 => f_X10_setNext_l35 TT m a x) N (nI (3 + k)) = some (.inr (nI (3 + is.length))) := by
      intro d
      induction d with
      | zero =>
        intro k N hk0 hN
        obtain ⟨N, rfl⟩ : ∃ z, N = z + 1 := ⟨N - 1, by omega⟩
        refine lp_exit ?_
        show f_X10_setNext_l35 TT m a (nI (3 + k)) = _
        unfold f_X10_setNext_l35
        rw [if_neg (show ¬ (8 : Int32) ≤ nI (3 + k) from nI_ge (b := 8) (by omega) (by omega)), if_pos (ar_of ha (by omega) (by omega)), ix_nI (by omega), h _ (by omega), cR_get (by omega) hl, if_neg (show ¬ 3 + k - 3 < is.length by omega), if_pos (by decide)]
        rw [show k = is.length by omega]
      | succ d ih =>
        intro k N hk0 hN
        obtain ⟨N, rfl⟩ : ∃ z, N = z + 1 := ⟨N - 1, by omega⟩
        rw [lp_step (x' := nI (3 + (k + 1)))]
        · exact ih (k + 1) N (by omega) (by omega)
        · show f_X10_setNext_l35 TT m a (nI (3 + k)) = _
          unfold f_X10_setNext_l35
          have hc := hk (3 + k - 3) (by omega)
          rw [if_neg (show ¬ (8 : Int32) ≤ nI (3 + k) from nI_ge (b := 8) (by omega) (by omega)), if_pos (ar_of ha (by omega) (by omega)), ix_nI (by omega), h _ (by omega), cR_get (by omega) hl, if_pos (show 3 + k - 3 < is.length by omega), if_neg (fun e => by
            have := (lg_cmp_eq _ _).mp e
            rw [l0L.1, pk_lEQ (by omega) (by omega)] at this
            omega), lt_eq, nI_1]
          rfl
    unfold f_X10_setNext_j35
    rw [show (3 : Int32) = nI (3 + 0) from rfl, hloop is.length 0 FUEL (by omega) (by unfold FUEL; omega), Option.bind_some]
    show ∃ m', f_X10_setNext_j49 TT m a (nI (3 + is.length)) = _ ∧ _
    unfold f_X10_setNext_j49
    rw [if_pos (ar_of ha (by omega) (by omega)), ix_nI (by omega), lt_eq]
    refine ⟨_, rfl, fun j hj => ?_, KL_sl⟩
    unfold nxt
    rw [if_neg hi]
    simp only [mS]
    by_cases j3 : j < 3
    · rw [if_neg (by omega), h j hj]
      unfold cR
      rw [if_pos j3, if_pos j3]
    · rw [cR_get j3 (by rw [List.length_append]; simp), List.length_append, List.length_singleton]
      by_cases jl : j = 3 + is.length
      · rw [if_pos ⟨trivial, jl⟩, if_pos (by omega), jl, show 3 + is.length - 3 = is.length by omega, List.getD_eq_getElem?_getD, List.getElem?_append_right (Nat.le_refl _), Nat.sub_self]
        rfl
      · rw [if_neg (fun e => jl e.2), h j hj, cR_get j3 hl]
        by_cases jq : j - 3 < is.length
        · rw [if_pos jq, if_pos (by omega), List.getD_eq_getElem?_getD, List.getD_eq_getElem?_getD, List.getElem?_append_left jq]
        · rw [if_neg jq, if_neg (by omega)]
