/-! The reference: upTo, and partRange as a whole. -/
def PQ (x j : Nat) : Prop := x = 875 ∧ 76896 ≤ j ∧ j < 76914
theorem PQ.P {m m' : Mi} (h : FrM PQ m m') : FrM PP m m' := h.mono (fun x j e => by unfold PQ at e; unfold PP; omega)
def upK (o : Nat) (ns : List Nat) : Nat := if o = 94 then fnz ns else if ns.length = 1 then 0 else 1
theorem upK_lt (o : Nat) (ns : List Nat) : upK o ns < 3 := by
  unfold upK
  split
  · exact fnz_lt ns
  · split <;> omega
theorem upk_lp {m : Mi} {f : Nat} {ns is : List Nat} {a2 : Int32} (hM : WFM m) (hv : VW f ns is) (h5 : gi m 870 5 = nI ns.length) (hr : rowM m 873 0 (mR ns is)) : lp (fun x : Int32 => f_X12_upTo_l38 TT m 870 a2 x) FUEL (nI 0) = some (nI (fnz ns)) := by
  obtain ⟨hl1, hl2, hl3⟩ := hv.1
  have hn : ∀ j, ns.getD j 0 < 1000000000 := getD_P hl3 (by omega)
  have body : ∀ k, k ≤ 2 → f_X12_upTo_l38 TT m 870 a2 (nI k) = if ns.length - 1 ≤ k then some (.inr (nI k)) else if ns.getD k 0 = 0 then some (.inl (nI (k + 1))) else some (.inr (nI k)) := by
    intro k hk
    unfold f_X12_upTo_l38
    rw [h5, show (1 : Int32) = nI 1 from rfl, pk_sub (by omega), hM 4 (by omega), show RM 4 = 873 from rfl]
    by_cases h1 : ns.length - 1 ≤ k
    · rw [if_pos (nI_le h1 (by omega)), if_pos h1]
    · have h0 := hr k (by omega)
      rw [Nat.zero_add] at h0
      rw [if_neg (nI_ge (by omega) (by omega)), if_neg h1, if_pos (ar_of s_873 (by omega) (by omega)), ix_nI (by omega), h0, show mR ns is k = lN (ns.getD k 0) by unfold mR; rw [if_pos (by omega)], lt_eq, nI_add]
      have := hn k
      by_cases h2 : ns.getD k 0 = 0
      · rw [if_pos h2, if_pos ((lg_cmp_eq _ _).mpr (by rw [h2]; rfl))]
      · rw [if_neg h2, if_neg (fun e => h2 (by
          have := (lg_cmp_eq _ _).mp e
          rw [l0L.1, pk_lEQ (by omega) (by omega)] at this
          exact this))]
  obtain ⟨F, hF⟩ := fuel3
  rw [hF]
  have b0 := body 0 (by omega)
  have b1 := body 1 (by omega)
  have b2 := body 2 (by omega)
  by_cases l1 : ns.length = 1
  · rw [if_pos (by omega)] at b0
    rw [lp_exit b0, show fnz ns = 0 by unfold fnz; rw [if_pos (Or.inr l1)]]
  · rw [if_neg (by omega)] at b0
    by_cases c0 : ns.getD 0 0 = 0
    · rw [if_pos c0] at b0
      rw [lp_step b0]
      by_cases l2 : ns.length = 2
      · rw [if_pos (by omega)] at b1
        rw [lp_exit b1, show fnz ns = 1 by unfold fnz; rw [if_neg (by omega), if_pos (Or.inr l2)]]
      · rw [if_neg (by omega)] at b1
        by_cases c1 : ns.getD 1 0 = 0
        · rw [if_pos c1] at b1
          rw [if_pos (by omega)] at b2
          rw [lp_step b1, lp_exit b2, show fnz ns = 2 by unfold fnz; rw [if_neg (by omega), if_neg (by omega)]]
        · rw [if_neg c1] at b1
          rw [lp_exit b1, show fnz ns = 1 by unfold fnz; rw [if_neg (by omega), if_pos (Or.inl c1)]]
    · rw [if_neg c0] at b0
      rw [lp_exit b0, show fnz ns = 0 by unfold fnz; rw [if_pos (Or.inl c0)]]
theorem up66_spec {m : Mi} {k : Nat} {ns is : List Nat} (hM : WFM m) (hr : rowM m 873 0 (mR ns is)) (hk : k < 3) : ∃ m', f_X12_upTo_j66 TT m 870 (nI 76905) (nI k) = some m' ∧ rowM m' 875 76905 (mR (rsN ns k) [0]) ∧ FrM (fun x j => x = 875 ∧ 76905 ≤ j ∧ j < 76914) m m' := by
  have r4 : gr m 870 4 = 873 := hM 4 (by omega)
  have r8 : gr m 870 8 = 875 := hM 8 (by omega)
  have h := lp_count (body := fun x : Int32 × Mi => f_X12_upTo_l69 TT x.2 870 (nI 76905) (nI k) x.1) (fun z => (nI z, blkL m 875 76905 (76905 + z) (fun _ => 0))) (a := 0) (n := 9) (y := blkL m 875 76905 (76905 + 9) (fun _ => 0)) (by omega) (by omega) (fun z _ hz => ?_) ?_
  · rw [Nat.add_zero, blkL_nil] at h
    generalize hm1 : blkL m 875 76905 (76905 + 9) (fun _ => 0) = m1 at h
    have q4 : gr m1 870 4 = 873 := by rw [← hm1]; exact r4
    have q8 : gr m1 870 8 = 875 := by rw [← hm1]; exact r8
    have qr : ∀ z, z < 9 → gl m1 873 z = mR ns is z := by
      intro z hz
      rw [← hm1]
      simp only [mS]
      rw [if_neg (by omega)]
      have := hr z hz
      rw [Nat.zero_add] at this
      exact this
    have h2 := lp_count (body := fun x : Int32 × Mi => f_X12_upTo_l95 TT x.2 870 (nI 76905) (nI k) x.1) (fun z => (nI z, blkL m1 875 76905 (76905 + z) (fun q => gl m1 873 (q - 76905) + if q - 76905 = k then 1 else 0))) (a := 0) (n := k + 1) (y := blkL m1 875 76905 (76905 + (k + 1)) (fun q => gl m1 873 (q - 76905) + if q - 76905 = k then 1 else 0)) (by omega) (by omega) (fun z _ hz => ?_) ?_
    · rw [Nat.add_zero, blkL_nil] at h2
      refine ⟨sl (blkL m1 875 76905 (76905 + (k + 1)) (fun q => gl m1 873 (q - 76905) + if q - 76905 = k then 1 else 0)) 875 76908 1, ?_, fun z hz => ?_, ?_⟩
      · unfold f_X12_upTo_j66 f_X12_upTo_j69 f_X12_upTo_j92 f_X12_upTo_j95 f_X12_upTo_j135
        rw [show ((0 : Int32), m) = (nI 0, m) from rfl, h, Option.bind_some, show ((0 : Int32), m1) = (nI 0, m1) from rfl, h2, Option.bind_some]
        simp only [mS, q8]
        rw [show nI 76905 + 3 = nI 76908 from nI_add 76905 3, if_pos (ar_of s_875 (by omega) (by omega)), ix_nI (by omega), lt_eq]
      · simp only [mS]
        by_cases z3 : z = 3
        · rw [if_pos ⟨trivial, by omega⟩, z3]; rfl
        · rw [if_neg (by omega)]
          by_cases zk : z ≤ k
          · rw [if_pos ⟨trivial, by omega, by omega⟩, show 76905 + z - 76905 = z by omega, qr z hz]
            have e1 : mR ns is z = lN (ns.getD z 0) := by unfold mR; rw [if_pos (by omega)]
            have e2 : mR (rsN ns k) [0] z = lN ((rsN ns k).getD z 0) := by unfold mR; rw [if_pos (by omega)]
            rw [e1, e2, rsN_get ns k z (by omega)]
            by_cases zk2 : z = k
            · rw [if_pos zk2, if_neg (by omega), if_pos zk2, lN_1]
            · rw [if_neg zk2, if_pos (by omega), Int64.add_zero]
          · rw [if_neg (by omega), ← hm1]
            simp only [mS]
            rw [if_pos ⟨trivial, by omega, by omega⟩]
            by_cases z2 : z < 3
            · have e2 : mR (rsN ns k) [0] z = lN ((rsN ns k).getD z 0) := by unfold mR; rw [if_pos z2]
              rw [e2, rsN_get ns k z z2, if_neg (by omega), if_neg (by omega)]
              rfl
            · have hz2 : z = 4 ∨ z = 5 ∨ z = 6 ∨ z = 7 ∨ z = 8 := by omega
              rcases hz2 with rfl | rfl | rfl | rfl | rfl <;> rfl
      · rw [← hm1]
        exact ((FrM.blk (fun j h1 h2 => ⟨rfl, by omega, by omega⟩)).tr (FrM.blk (fun j h1 h2 => ⟨rfl, by omega, by omega⟩))).tr (FrM.sl ⟨rfl, by omega, by omega⟩)
    · show f_X12_upTo_l95 TT (blkL m1 875 76905 (76905 + z) _) 870 (nI 76905) (nI k) (nI z) = _
      unfold f_X12_upTo_l95 f_X12_upTo_j127
      simp only [mS, q4, q8]
      rw [if_neg (nI_nlt (by omega) (by omega)), if_pos (ar_of s_873 (by omega) (by omega)), nI_add, if_pos (ar_of s_875 (by omega) (by omega)), if_pos (ar_of s_875 (by omega) (by omega)), ix_nI (by omega), ix_nI (by omega)]
      simp only [lt_eq, nI_1]
      rw [← Nat.add_assoc, ← blkL_snoc m1 875 76905 (76905 + z) _ (by omega), if_neg (show ¬ ((873 : Nat) = 875 ∧ 76905 ≤ z ∧ z < 76905 + z) by omega), show 76905 + z - 76905 = z by omega]
      by_cases hzk : z = k
      · rw [if_pos (by rw [hzk]), if_pos hzk]
      · rw [if_neg (fun e => hzk ((nI_eq (by omega) (by omega)).mp e)), if_neg hzk]
    · show f_X12_upTo_l95 TT (blkL m1 875 76905 (76905 + (k + 1)) _) 870 (nI 76905) (nI k) (nI (k + 1)) = _
      unfold f_X12_upTo_l95
      rw [if_pos (nI_lt (by omega) (by omega))]
  · show f_X12_upTo_l69 TT (blkL m 875 76905 (76905 + z) _) 870 (nI 76905) (nI k) (nI z) = _
    unfold f_X12_upTo_l69
    simp only [mS, r8]
    rw [if_neg (show ¬ (9 : Int32) ≤ nI z from nI_ge (b := 9) (by omega) (by omega)), nI_add, if_pos (ar_of s_875 (by omega) (by omega)), ix_nI (by omega)]
    simp only [lt_eq, nI_1]
    rw [← Nat.add_assoc, ← blkL_snoc m 875 76905 (76905 + z) _ (by omega)]
  · show f_X12_upTo_l69 TT (blkL m 875 76905 (76905 + 9) _) 870 (nI 76905) (nI k) (nI 9) = _
    unfold f_X12_upTo_l69
    rw [if_pos (by decide)]
theorem upTo_spec {m : Mi} {f o : Nat} {ns is : List Nat} (hM : WFM m) (hv : VW f ns is) (h5 : gi m 870 5 = nI ns.length) (h18 : gi m 870 18 = nI o) (ho : o < 1000) (hr : rowM m 873 0 (mR ns is)) : ∃ m', f_X12_upTo TT m 870 (nI 76896) (nI 76905) = some m' ∧ rowM m' 875 76896 (mR ns is) ∧ rowM m' 875 76905 (mR (rsN ns (upK o ns)) [0]) ∧ FrM PQ m m' := by
  have hl := hv.1
  obtain ⟨m1, e1, r1, f1⟩ := copy_rowM (a := 875) (b := 873) (i := 76896) (j := 0) s_875 s_873 (by omega) (by omega) (by omega) (by omega) (by omega) hr
  have hM1 := hM.keepF f1
  have h51 : gi m1 870 5 = nI ns.length := (f1.1 _ _ (by omega)).1.trans h5
  have h181 : gi m1 870 18 = nI o := (f1.1 _ _ (by omega)).1.trans h18
  have hr1 : rowM m1 873 0 (mR ns is) := hr.keep f1 (fun z hz => by omega)
  obtain ⟨m2, e2, r2, f2⟩ := up66_spec (k := upK o ns) hM1 hr1 (upK_lt o ns)
  refine ⟨m2, ?_, r1.keep f2 (fun z hz => by omega), r2, (f1.mono (fun x j e => by unfold PQ; omega)).tr (f2.mono (fun x j e => by unfold PQ; omega))⟩
  unfold f_X12_upTo
  rw [hM 8 (by omega), show RM 8 = 875 from rfl, hM 4 (by omega), show RM 4 = 873 from rfl, show f_X12_copy TT m 875 (nI 76896) 873 0 = _ from e1, Option.bind_some, h51]
  unfold f_X12_upTo_j26 f_X12_upTo_j38
  rw [h181]
  unfold upK at e2
  by_cases h94 : o = 94
  · rw [if_pos h94] at e2
    rw [if_pos (show nI o = 94 by rw [h94]; rfl), if_pos (show nI o = 94 by rw [h94]; rfl), show (0 : Int32) = nI 0 from rfl, upk_lp hM1 hv h51 hr1, Option.bind_some, e2]
    split <;> rfl
  · rw [if_neg h94] at e2
    rw [if_neg (show ¬ nI o = 94 from fun x => h94 ((nI_eq (b := 94) (by omega) (by omega)).mp x)), if_neg (show ¬ nI o = 94 from fun x => h94 ((nI_eq (b := 94) (by omega) (by omega)).mp x))]
    by_cases h1 : ns.length = 1
    · rw [if_pos h1] at e2
      rw [if_pos (show nI ns.length = 1 by rw [h1]; rfl)]
      exact e2
    · rw [if_neg h1] at e2
      rw [if_neg (show ¬ nI ns.length = 1 from fun x => h1 ((nI_eq (b := 1) (by omega) (by omega)).mp x))]
      exact e2
/-- the memory behind full and reads -/
def PD (m : Mi) (o f : Nat) (ns is : List Nat) : Prop := WFM m ∧ rowM m 875 76896 mLE ∧ rowM m 875 76905 mEN ∧ gi m 874 267 = 1 ∧ rowM m 873 0 (mR ns is) ∧ gi m 870 5 = nI ns.length ∧ gi m 870 18 = nI o ∧ (f ≠ 2 → rowM m 879 0 (mR (rsN ns (ns.length - 1)) [0]))
theorem j105_spec {m : Mi} {o f : Nat} {ns is : List Nat} (h : PD m o f ns is) (hv : VW f ns is) (ho : o = 0 ∨ o = 60 ∨ o = 61 ∨ o = 62 ∨ o = 94 ∨ o = 126 ∨ o = 316 ∨ o = 318) :
    ∃ m', f_X12_partRange_j105 TT m 870 (nI 267) (bI (!decide (f = 2))) (nI 76896) (nI 76905) = some m' ∧ MG m' 267 (iv (plo o f ns is) (phi o f ns is)) ∧ FrM PP m m' := by
  obtain ⟨hM, ha, hb, hg, hr, h5, h18, h9⟩ := h
  have r4 : gr m 870 4 = 873 := hM 4 (by omega)
  have r8 : gr m 870 8 = 875 := hM 8 (by omega)
  have r13 : gr m 870 13 = 879 := hM 13 (by omega)
  have hlen := hv.1
  have hX := hv.X
  have hgt : mB (mR ns is) (rW ns is) := mB_R hX
  have hne : ∀ z, (z = 0 ∨ z = 60 ∨ z = 61 ∨ z = 62 ∨ z = 94 ∨ z = 126 ∨ z = 316 ∨ z = 318) → (nI o = nI z ↔ o = z) := fun z hz => nI_eq (by omega) (by omega)
  -- a row out of read, or out of other
  have cpR : ∀ i, i = 76896 ∨ i = 76905 → ∃ m', f_X12_copy TT m 875 (nI i) 873 0 = some m' ∧ rowM m' 875 i (mR ns is) ∧ FrM (fun x q => x = 875 ∧ i ≤ q ∧ q < i + 9) m m' := fun i hi => copy_rowM (a := 875) (b := 873) (i := i) (j := 0) s_875 s_873 (by omega) (by omega) (by omega) (by omega) (by omega) hr
  have cpO : ∀ i, i = 76896 ∨ i = 76905 → f ≠ 2 → ∃ m', f_X12_copy TT m 875 (nI i) 879 0 = some m' ∧ rowM m' 875 i (mR (rsN ns (ns.length - 1)) [0]) ∧ FrM (fun x q => x = 875 ∧ i ≤ q ∧ q < i + 9) m m' := fun i hi hf => copy_rowM (a := 875) (b := 879) (i := i) (j := 0) s_875 s_879 (by omega) (by omega) (by omega) (by omega) (by omega) (h9 hf)
  have toPP : ∀ {i : Nat} {m1 m2 : Mi}, (i = 76896 ∨ i = 76905) → FrM (fun x q => x = 875 ∧ i ≤ q ∧ q < i + 9) m1 m2 → FrM PP m1 m2 := fun hi h => h.mono (fun x j e => by unfold PP; omega)
  -- one row past the version, at i
  have past : ∀ i, i = 76896 ∨ i = 76905 → ∃ m1 m2, f_X12_copy TT m 875 (nI i) (if f = 2 then 873 else 879) 0 = some m1 ∧ (if f = 2 then f_X12_next TT m1 875 (nI i) = some m2 else m2 = m1) ∧ rowM m2 875 i (if f = 2 then mR (nxt ns is).1 (nxt ns is).2 else mR (rsN ns (ns.length - 1)) [0]) ∧ FrM (fun x q => x = 875 ∧ i ≤ q ∧ q < i + 9) m m1 ∧ FrM (fun x q => x = 875 ∧ i ≤ q ∧ q < i + 9) m m2 := by
    intro i hi
    by_cases hf : f = 2
    · obtain ⟨m1, e1, q1, f1⟩ := cpR i hi
      obtain ⟨m2, e2, q2, f2⟩ := mnext_row (i := i) (by omega) q1 hv hf
      refine ⟨m1, m2, ?_, ?_, ?_, f1, f1.tr f2⟩
      · rw [if_pos hf]; exact e1
      · rw [if_pos hf]; exact e2
      · rw [if_pos hf]; exact q2
    · obtain ⟨m1, e1, q1, f1⟩ := cpO i hi hf
      refine ⟨m1, m1, ?_, ?_, ?_, f1, f1⟩
      · rw [if_neg hf]; exact e1
      · rw [if_neg hf]
      · rw [if_neg hf]; exact q1
  have pastB : mB (if f = 2 then mR (nxt ns is).1 (nxt ns is).2 else mR (rsN ns (ns.length - 1)) [0]) (if f = 2 then rW (nxt ns is).1 (nxt ns is).2 else rW (rsN ns (ns.length - 1)) [0]) := by
    by_cases hf : f = 2
    · rw [if_pos hf, if_pos hf]; exact mB_R (nxt_X hv)
    · rw [if_neg hf, if_neg hf]; exact mB_R (rsN_X hv _)
  have pastLt : cmpL (rW ns is) (if f = 2 then rW (nxt ns is).1 (nxt ns is).2 else rW (rsN ns (ns.length - 1)) [0]) = -1 := by
    by_cases hf : f = 2
    · rw [if_pos hf]; exact rW_nxt hv
    · rw [if_neg hf]; exact rW_rsN hv (by omega)
  unfold f_X12_partRange_j105
  rw [lt_eq, h18, r8, r4, r13]
  -- no operator, or =
  have eqC : (o = 0 ∨ o = 61) → ∃ m', f_X12_partRange_j168 TT m 870 (bI (!decide (f = 2))) (nI 76896) (nI 76905) = some m' ∧ MG m' 267 (iv (plo o f ns is) (phi o f ns is)) ∧ FrM PP m m' := by
    intro hoo
    have hlo : plo o f ns is = rW ns is := by unfold plo; rw [if_neg (by omega), if_neg (by omega)]
    have hhi : phi o f ns is = if f = 2 then rW (nxt ns is).1 (nxt ns is).2 else rW (rsN ns (ns.length - 1)) [0] := by unfold phi; rw [if_neg (by omega), if_neg (by omega), if_neg (by omega), if_neg (by omega)]
    obtain ⟨m1, e1, q1, f1⟩ := cpR 76896 (Or.inl rfl)
    have hM1 := hM.keepF f1
    have hr1 : rowM m1 873 0 (mR ns is) := hr.keep f1 (fun z hz => by omega)
    have hg1 : gi m1 874 267 = 1 := (f1.1 _ _ (by omega)).1.trans hg
    unfold f_X12_partRange_j168 f_X12_partRange_j202
    rw [r8, r4, e1, Option.bind_some, hM1 8 (by omega), show RM 8 = 875 from rfl, hM1 4 (by omega), show RM 4 = 873 from rfl, hM1 13 (by omega), show RM 13 = 879 from rfl]
    rw [hlo, hhi]
    by_cases hf : f = 2
    · rw [decide_eq_true hf, show bI (!true) = 0 from rfl, if_pos rfl]
      obtain ⟨m2, e2, q2, f2⟩ := copy_rowM (a := 875) (b := 873) (i := 76905) (j := 0) s_875 s_873 (by omega) (by omega) (by omega) (by omega) (by omega) hr1
      have hM2 := hM1.keepF f2
      obtain ⟨m3, e3, q3, f3⟩ := mnext_row (i := 76905) (by omega) q2 hv hf
      rw [show f_X12_copy TT m1 875 (nI 76905) 873 0 = _ from e2, Option.bind_some, if_pos rfl, hM2 8 (by omega), show RM 8 = 875 from rfl, e3, Option.bind_some]
      refine ⟨m3, rfl, mk_MG ((q1.keep f2 (fun z hz => by omega)).keep f3 (fun z hz => by omega)) q3 hgt (by have := pastB; rw [if_pos hf, if_pos hf] at this; rw [if_pos hf]; exact this) ?_, ((toPP (Or.inl rfl) f1).tr (toPP (Or.inr rfl) f2)).tr (toPP (Or.inr rfl) f3)⟩
      rw [if_pos pastLt]
      exact (f3.1 _ _ (by omega)).1.trans ((f2.1 _ _ (by omega)).1.trans hg1)
    · rw [decide_eq_false hf, show bI (!false) = 1 from rfl, if_neg (by decide)]
      obtain ⟨m2, e2, q2, f2⟩ := copy_rowM (a := 875) (b := 879) (i := 76905) (j := 0) s_875 s_879 (by omega) (by omega) (by omega) (by omega) (by omega) ((h9 hf).keep f1 (fun z hz => by omega))
      rw [show f_X12_copy TT m1 875 (nI 76905) 879 0 = _ from e2, Option.bind_some, if_neg (by decide)]
      refine ⟨m2, rfl, mk_MG (q1.keep f2 (fun z hz => by omega)) q2 hgt (by have := pastB; rw [if_neg hf, if_neg hf] at this; rw [if_neg hf]; exact this) ?_, (toPP (Or.inl rfl) f1).tr (toPP (Or.inr rfl) f2)⟩
      rw [if_pos pastLt]
      exact (f2.1 _ _ (by omega)).1.trans hg1
  by_cases o0 : o = 0
  · rw [if_pos (show nI o = 0 from (hne 0 (by omega)).mpr o0)]
    exact eqC (Or.inl o0)
  · rw [if_neg (show ¬ nI o = 0 from fun x => o0 ((hne 0 (by omega)).mp x))]
    by_cases o60 : o = 60
    · rw [if_pos (show nI o = 60 from (hne 60 (by omega)).mpr o60)]
      obtain ⟨m1, e1, q1, f1⟩ := cpR 76905 (Or.inr rfl)
      have hM1 := hM.keepF f1
      have hg1 : gi m1 874 267 = 1 := (f1.1 _ _ (by omega)).1.trans hg
      have ha1 := ha.keep f1 (fun z hz => by omega)
      have hlo : plo o f ns is = LE := by unfold plo; rw [if_pos (by omega)]
      have hhi : phi o f ns is = if f = 2 then rW ns is else rW ns [0] := by unfold phi; rw [if_neg (by omega), if_pos o60]
      rw [e1, Option.bind_some, hlo, hhi]
      by_cases hf : f = 2
      · rw [decide_eq_true hf, show bI (!true) = 0 from rfl, if_pos rfl, if_pos hf]
        obtain ⟨m2, e2, q2, f2⟩ := j372_spec hM1 ha1 q1 mLE_tr hgt hg1
        exact ⟨m2, e2, q2, (toPP (Or.inr rfl) f1).tr f2⟩
      · have his : is = [] := by have := hv.2.2; rcases this with h | h; exact absurd h.1 hf; exact h.2.2
        rw [decide_eq_false hf, show bI (!false) = 1 from rfl, if_neg (by decide), if_neg hf, hM1 8 (by omega), show RM 8 = 875 from rfl, show nI 76905 + 3 = nI 76908 from nI_add 76905 3, if_pos (ar_of s_875 (by omega) (by omega)), lt_eq, ix_nI (by omega)]
        rw [show gr (sl m1 875 76908 1) 870 8 = 875 from hM1 8 (by omega), show nI 76905 + 4 = nI 76909 from nI_add 76905 4, if_pos (ar_of s_875 (by omega) (by omega)), lt_eq, ix_nI (by omega)]
        have f3 : FrM (fun x q => x = 875 ∧ 76905 ≤ q ∧ q < 76905 + 9) m1 (sl (sl m1 875 76908 1) 875 76909 0) := (FrM.sl ⟨rfl, by omega, by omega⟩).tr (FrM.sl ⟨rfl, by omega, by omega⟩)
        have q3 : rowM (sl (sl m1 875 76908 1) 875 76909 0) 875 76905 (mR ns [0]) := by
          intro z hz
          simp only [mS]
          by_cases z4 : z = 4
          · rw [if_pos ⟨trivial, by omega⟩, z4]; rfl
          · rw [if_neg (by omega)]
            by_cases z3 : z = 3
            · rw [if_pos ⟨trivial, by omega⟩, z3]; rfl
            · rw [if_neg (by omega), q1 z hz, his]
              have hz2 : z = 0 ∨ z = 1 ∨ z = 2 ∨ z = 5 ∨ z = 6 ∨ z = 7 ∨ z = 8 := by omega
              rcases hz2 with rfl | rfl | rfl | rfl | rfl | rfl | rfl <;> rfl
        obtain ⟨m2, e2, q2, f2⟩ := j372_spec (hM1.keepF f3) (ha1.keep f3 (fun z hz => by omega)) q3 mLE_tr (mB_R hX.zero) ((f3.1 _ _ (by omega)).1.trans hg1)
        exact ⟨m2, e2, q2, ((toPP (Or.inr rfl) f1).tr (toPP (Or.inr rfl) f3)).tr f2⟩
    · rw [if_neg (show ¬ nI o = 60 from fun x => o60 ((hne 60 (by omega)).mp x))]
      by_cases o61 : o = 61
      · rw [if_pos (show nI o = 61 from (hne 61 (by omega)).mpr o61)]
        exact eqC (Or.inr o61)
      · rw [if_neg (show ¬ nI o = 61 from fun x => o61 ((hne 61 (by omega)).mp x))]
        by_cases o62 : o = 62
        · rw [if_pos (show nI o = 62 from (hne 62 (by omega)).mpr o62)]
          obtain ⟨m1, m2, e1, e2, q2, f1, f2⟩ := past 76896 (Or.inl rfl)
          have hM1 := hM.keepF f1
          have hhi : phi o f ns is = EN := by unfold phi; rw [if_pos (by omega)]
          have hlo : plo o f ns is = if f = 2 then rW (nxt ns is).1 (nxt ns is).2 else rW (rsN ns (ns.length - 1)) [] := by unfold plo; rw [if_neg (by omega), if_pos o62]
          unfold f_X12_partRange_j254
          rw [hlo, hhi]
          by_cases hf : f = 2
          · rw [if_pos hf] at e1 e2 q2
            rw [decide_eq_true hf, show bI (!true) = 0 from rfl, if_pos rfl, e1, Option.bind_some, if_pos rfl, hM1 8 (by omega), show RM 8 = 875 from rfl, e2, Option.bind_some, if_pos hf]
            refine ⟨m2, rfl, mk_MG q2 (hb.keep f2 (fun z hz => by omega)) (mB_R (nxt_X hv)) mEN_tr ?_, toPP (Or.inl rfl) f2⟩
            rw [if_pos (rW_lt (nxt_X hv))]
            exact (f2.1 _ _ (by omega)).1.trans hg
          · rw [if_neg hf] at e1 e2 q2
            rw [e2] at q2 f2
            rw [decide_eq_false hf, show bI (!false) = 1 from rfl, if_neg (by decide), e1, Option.bind_some, if_neg (by decide), hM1 8 (by omega), show RM 8 = 875 from rfl, show nI 76896 + 3 = nI 76899 from nI_add 76896 3, if_pos (ar_of s_875 (by omega) (by omega)), lt_eq, ix_nI (by omega), if_neg hf]
            have f3 : FrM (fun x q => x = 875 ∧ 76896 ≤ q ∧ q < 76896 + 9) m1 (sl m1 875 76899 0) := FrM.sl ⟨rfl, by omega, by omega⟩
            have q3 : rowM (sl m1 875 76899 0) 875 76896 (mR (rsN ns (ns.length - 1)) []) := by
              intro z hz
              simp only [mS]
              by_cases z3 : z = 3
              · rw [if_pos ⟨trivial, by omega⟩, z3]; rfl
              · rw [if_neg (by omega), q2 z hz]
                have hz2 : z = 0 ∨ z = 1 ∨ z = 2 ∨ z = 4 ∨ z = 5 ∨ z = 6 ∨ z = 7 ∨ z = 8 := by omega
                rcases hz2 with rfl | rfl | rfl | rfl | rfl | rfl | rfl | rfl <;> rfl
            have hx := (rsN_X hv (ns.length - 1)).nil
            refine ⟨_, rfl, mk_MG q3 ((hb.keep f1 (fun z hz => by omega)).keep f3 (fun z hz => by omega)) (mB_R hx) mEN_tr ?_, (toPP (Or.inl rfl) f1).tr (toPP (Or.inl rfl) f3)⟩
            rw [if_pos (rW_lt hx)]
            exact (f3.1 _ _ (by omega)).1.trans ((f1.1 _ _ (by omega)).1.trans hg)
        · rw [if_neg (show ¬ nI o = 62 from fun x => o62 ((hne 62 (by omega)).mp x))]
          by_cases o316 : o = 316
          · rw [if_pos (show nI o = 316 from (hne 316 (by omega)).mpr o316)]
            obtain ⟨m1, m2, e1, e2, q2, f1, f2⟩ := past 76905 (Or.inr rfl)
            have hM1 := hM.keepF f1
            have hM2 := hM.keepF f2
            have hlo : plo o f ns is = LE := by unfold plo; rw [if_pos (by omega)]
            have hhi : phi o f ns is = if f = 2 then rW (nxt ns is).1 (nxt ns is).2 else rW (rsN ns (ns.length - 1)) [0] := by unfold phi; rw [if_neg (by omega), if_neg (by omega), if_neg (by omega), if_neg (by omega)]
            obtain ⟨m3, e3, q3, f3⟩ := j372_spec hM2 (ha.keep f2 (fun z hz => by omega)) q2 mLE_tr pastB ((f2.1 _ _ (by omega)).1.trans hg)
            unfold f_X12_partRange_j345
            rw [hlo, hhi]
            by_cases hf : f = 2
            · rw [if_pos hf] at e1 e2
              rw [decide_eq_true hf, show bI (!true) = 0 from rfl, if_pos rfl, e1, Option.bind_some, if_pos rfl, hM1 8 (by omega), show RM 8 = 875 from rfl, e2, Option.bind_some, e3]
              exact ⟨m3, rfl, q3, (toPP (Or.inr rfl) f2).tr f3⟩
            · rw [if_neg hf] at e1 e2
              rw [decide_eq_false hf, show bI (!false) = 1 from rfl, if_neg (by decide), e1, Option.bind_some, if_neg (by decide), ← e2, e3]
              exact ⟨m3, rfl, q3, (toPP (Or.inr rfl) f2).tr f3⟩
          · rw [if_neg (show ¬ nI o = 316 from fun x => o316 ((hne 316 (by omega)).mp x))]
            by_cases o318 : o = 318
            · rw [if_pos (show nI o = 318 from (hne 318 (by omega)).mpr o318)]
              obtain ⟨m1, e1, q1, f1⟩ := cpR 76896 (Or.inl rfl)
              have hhi : phi o f ns is = EN := by unfold phi; rw [if_pos (by omega)]
              have hlo : plo o f ns is = rW ns is := by unfold plo; rw [if_neg (by omega), if_neg (by omega)]
              rw [e1, Option.bind_some, hlo, hhi]
              refine ⟨m1, rfl, mk_MG q1 (hb.keep f1 (fun z hz => by omega)) hgt mEN_tr ?_, toPP (Or.inl rfl) f1⟩
              rw [if_pos (rW_lt hX)]
              exact (f1.1 _ _ (by omega)).1.trans hg
            · rw [if_neg (show ¬ nI o = 318 from fun x => o318 ((hne 318 (by omega)).mp x))]
              obtain ⟨m1, e1, q1, q2, f1⟩ := upTo_spec hM hv h5 h18 (by omega) hr
              have hlo : plo o f ns is = rW ns is := by unfold plo; rw [if_neg (by omega), if_neg (by omega)]
              have hhi : phi o f ns is = rW (rsN ns (upK o ns)) [0] := by
                unfold phi upK
                rw [if_neg (by omega), if_neg (by omega)]
                by_cases o94 : o = 94
                · rw [if_pos o94, if_pos o94]
                · rw [if_neg o94, if_neg o94, if_pos (by omega)]
              obtain ⟨m2, e2, q3, f2⟩ := j372_spec (hM.keepF f1) q1 q2 hgt (mB_R (rsN_X hv _)) ((f1.1 _ _ (by unfold PQ; omega)).1.trans hg)
              rw [e1, Option.bind_some, e2, hlo, hhi]
              exact ⟨m2, rfl, q3, (PQ.P f1).tr f2⟩
theorem opv_mem {T : Nat → Nat} {n b : Nat} (h42 : T b ≠ 42) : opv T n b = 0 ∨ opv T n b = 60 ∨ opv T n b = 61 ∨ opv T n b = 62 ∨ opv T n b = 94 ∨ opv T n b = 126 ∨ opv T n b = 316 ∨ opv T n b = 318 := by
  unfold opv
  rw [if_neg h42]
  by_cases h1 : T b = 60 ∨ T b = 62
  · by_cases h2 : b + 1 < n ∧ T (b + 1) = 61
    · have : opn T n b = 2 := by unfold opn; rw [if_pos h1, if_pos h2]
      rw [this, if_neg (by omega), if_neg (by omega)]
      omega
    · have : opn T n b = 1 := by unfold opn; rw [if_pos h1, if_neg h2]
      rw [this, if_neg (by omega), if_pos rfl]
      omega
  · by_cases h2 : T b = 61 ∨ T b = 94 ∨ T b = 126
    · have : opn T n b = 1 := by unfold opn; rw [if_neg h1, if_pos h2]
      rw [this, if_neg (by omega), if_pos rfl]
      omega
    · have : opn T n b = 0 := by unfold opn; rw [if_neg h1, if_neg h2]
      rw [this, if_pos rfl]
      exact Or.inl rfl
theorem partRange_spec {m : Mi} {n b e : Nat} {T : Nat → Nat} (h : MT m n T) (he : e ≤ n) (hs : b + opn T n b ≤ e) (h16 : gi m 870 16 = nI e) (h17 : gi m 870 17 = nI (b + opn T n b)) (h18 : gi m 870 18 = nI (opv T n b)) (hb : T b < 256) (hp : T b = 42 ∨ ∃ f ns is, rdv T (b + opn T n b) e = some (f, (ns, is))) :
    ∃ m', f_X12_partRange TT m 870 (nI 267) = some m' ∧ MG m' 267 (iv (prt T n b e).1 (prt T n b e).2) ∧ FrM PP m m' := by
  have hn := h.2.2.1
  obtain ⟨m1, e1, a1, b1, g1, f1⟩ := full_spec (r := 267) h.1 (by omega)
  have f1' : FrM PP m m1 := f1.mono (fun x j e => by unfold PP; omega)
  have ho : opv T n b < 1000 := by unfold opv; split; omega; split; omega; split <;> omega
  have q16 : gi m1 870 16 = nI e := (f1.1 _ _ (by omega)).1.trans h16
  have q17 : gi m1 870 17 = nI (b + opn T n b) := (f1.1 _ _ (by omega)).1.trans h17
  have q18 : gi m1 870 18 = nI (opv T n b) := (f1.1 _ _ (by omega)).1.trans h18
  unfold f_X12_partRange
  rw [e1, Option.bind_some, q18]
  by_cases h42 : T b = 42
  · have hov : opv T n b = 42 := by unfold opv; rw [if_pos h42]
    rw [hov, if_pos (show nI 42 = 42 from rfl)]
    refine ⟨m1, rfl, ?_, f1'⟩
    unfold prt
    rw [if_pos h42]
    exact mk_MG a1 b1 mLE_tr mEN_tr (by rw [if_pos (by decide)]; exact g1)
  · have hmem := opv_mem (n := n) h42
    rw [if_neg (show ¬ nI (opv T n b) = 42 from fun x => by have := (nI_eq (b := 42) (by omega) (by omega)).mp x; omega)]
    obtain ⟨f, ns, is, hr⟩ := hp.resolve_left h42
    have h1 : MT m1 n T := ⟨h.1.keepF f1, (f1.1 _ _ (by omega)).1.trans h.2.1, hn, fun j hj => ⟨(f1.1 _ _ (by omega)).1.trans (h.2.2.2 j hj).1, (h.2.2.2 j hj).2⟩⟩
    obtain ⟨m2, e2, k2, w2⟩ := reads_spec (a := b + opn T n b) (e := e) h1 he hs
    obtain ⟨t5, row, hv⟩ := w2 f ns is hr
    have hrc : rdc T (b + opn T n b) e = f := by unfold rdc; rw [hr]
    have f2 : FrM PP m1 m2 := k2.F (by unfold PP; omega) (by unfold PP; omega) (fun j => by unfold PP; omega)
    have hprt : prt T n b e = (plo (opv T n b) f ns is, phi (opv T n b) f ns is) := by
      unfold prt
      rw [if_neg h42, hr]
    have hM2 : WFM m2 := h1.1.keepF f2
    have rr : rowM m2 873 0 (mR ns is) := fun z hz => by rw [Nat.zero_add]; exact row z hz
    have aa2 : rowM m2 875 76896 mLE := fun z hz => (k2.2.1 _ _ (by omega) (by omega)).trans (a1 z hz)
    have bb2 : rowM m2 875 76905 mEN := fun z hz => (k2.2.1 _ _ (by omega) (by omega)).trans (b1 z hz)
    have gg2 : gi m2 874 267 = 1 := (k2.1 _ _ (by omega)).trans g1
    have q182 : gi m2 870 18 = nI (opv T n b) := (k2.1 _ _ (by omega)).trans q18
    have hl := hv.1
    rw [q16, q17, e2, bd_some, hrc, hprt]
    have j36 : ∀ s : Int32, s = bI (!decide (f = 2)) → ∃ m', f_X12_partRange_j36 TT m2 870 (nI 267) s = some m' ∧ MG m' 267 (iv (plo (opv T n b) f ns is) (phi (opv T n b) f ns is)) ∧ FrM PP m m' := by
      intro s hs2
      unfold f_X12_partRange_j36
      rw [show f_X12_from (nI 267) 0 = _ from from_spec 267 0, Option.bind_some, show f_X12_below (nI 267) 0 = _ from below_spec 267 0, Option.bind_some, hs2]
      by_cases hf : f = 2
      · rw [if_pos (show bI (!decide (f = 2)) = 0 by rw [decide_eq_true hf]; rfl)]
        obtain ⟨m3, e3, q3, f3⟩ := j105_spec (m := m2) (o := opv T n b) ⟨hM2, aa2, bb2, gg2, rr, t5, q182, fun hx => absurd hf hx⟩ hv hmem
        exact ⟨m3, e3, q3, (f1'.tr f2).tr f3⟩
      · have his : is = [] := by have := hv.2.2; rcases this with h | h; exact absurd h.1 hf; exact h.2.2
        rw [if_neg (show ¬ bI (!decide (f = 2)) = 0 by rw [decide_eq_false hf]; decide)]
        obtain ⟨m3, e3, q3, f3⟩ := copy_rowM (a := 879) (b := 873) (i := 0) (j := 0) s_879 s_873 (by omega) (by omega) (by omega) (by omega) (by omega) rr
        have r13 : gr m3 870 13 = 879 := (f3.2 _ _).trans (hM2 13 (by omega))
        have t53 : gi m3 870 5 = nI ns.length := (f3.1 _ _ (by omega)).1.trans t5
        have q30 : gl m3 879 (ns.length - 1) = lN (ns.getD (ns.length - 1) 0) := by
          have := q3 (ns.length - 1) (by omega)
          rw [Nat.zero_add] at this
          rw [this]
          unfold mR
          rw [if_pos (by omega)]
        rw [hM2 13 (by omega), show RM 13 = 879 from rfl, hM2 4 (by omega), show RM 4 = 873 from rfl, show f_X12_copy TT m2 879 0 873 0 = _ from e3, Option.bind_some, r13, t53, show (1 : Int32) = nI 1 from rfl, pk_sub (by omega), if_pos (ar_of s_879 (by omega) (by omega)), ix_nI (by omega), lt_eq, q30, show (3 : Int32) = nI 3 from rfl, show (4 : Int32) = nI 4 from rfl]
        simp only [mS, r13]
        rw [if_pos (ar_of s_879 (by omega) (by omega)), lt_eq]
        simp only [mS, r13]
        rw [if_pos (ar_of s_879 (by omega) (by omega)), lt_eq, show ix (nI 3) = 3 from rfl, show ix (nI 4) = 4 from rfl]
        have f4 : FrM (fun x q => x = 879) m3 (sl (sl (sl m3 879 (ns.length - 1) (lN (ns.getD (ns.length - 1) 0) + 1)) 879 3 1) 879 4 0) := ((FrM.sl (P := fun x q => x = 879) rfl).tr (FrM.sl (P := fun x q => x = 879) rfl)).tr (FrM.sl (P := fun x q => x = 879) rfl)
        have q4 : rowM (sl (sl (sl m3 879 (ns.length - 1) (lN (ns.getD (ns.length - 1) 0) + 1)) 879 3 1) 879 4 0) 879 0 (mR (rsN ns (ns.length - 1)) [0]) := by
          intro z hz
          rw [Nat.zero_add]
          simp only [mS]
          by_cases z4 : z = 4
          · rw [if_pos ⟨trivial, z4⟩, z4]; rfl
          · rw [if_neg (fun e => z4 e.2)]
            by_cases z3 : z = 3
            · rw [if_pos ⟨trivial, z3⟩, z3]; rfl
            · rw [if_neg (fun e => z3 e.2)]
              by_cases zl : z = ns.length - 1
              · rw [if_pos ⟨trivial, zl⟩]
                have e2 : mR (rsN ns (ns.length - 1)) [0] z = lN ((rsN ns (ns.length - 1)).getD z 0) := by unfold mR; rw [if_pos (by omega)]
                rw [e2, rsN_get ns _ z (by omega), if_neg (by omega), if_pos zl, lN_1, zl]
              · rw [if_neg (fun e => zl e.2)]
                have e1 := q3 z hz
                rw [Nat.zero_add] at e1
                rw [e1]
                by_cases zz : z < 3
                · unfold mR
                  rw [if_pos zz, if_pos zz, rsN_get ns _ z zz]
                  by_cases zk : z < ns.length - 1
                  · rw [if_pos zk]
                  · rw [if_neg zk, if_neg zl, List.getD_eq_getElem?_getD, List.getElem?_eq_none (by omega)]
                    rfl
                · rw [his]
                  have hz2 : z = 5 ∨ z = 6 ∨ z = 7 ∨ z = 8 := by omega
                  rcases hz2 with rfl | rfl | rfl | rfl <;> rfl
        have f34 : FrM (fun x q => x = 879) m2 _ := (f3.mono (fun x j e => e.1)).tr f4
        obtain ⟨m5, e5, q5, f5⟩ := j105_spec (o := opv T n b) (f := f) (ns := ns) (is := is) ⟨hM2.keepF f34, aa2.keep f34 (fun z hz => by omega), bb2.keep f34 (fun z hz => by omega), (f34.1 _ _ (by omega)).1.trans gg2, rr.keep f34 (fun z hz => by omega), (f34.1 _ _ (by omega)).1.trans t5, (f34.1 _ _ (by omega)).1.trans q182, fun _ => q4⟩ hv hmem
        exact ⟨m5, e5, q5, ((f1'.tr f2).tr (f34.mono (fun x j e => by unfold PP; omega))).tr f5⟩
    have hf12 := hv.2.2
    by_cases hf : f = 2
    · rw [if_neg (show ¬ nI f = 1 by rw [hf]; decide)]
      exact j36 0 (by rw [decide_eq_true hf]; rfl)
    · have hf1 : f = 1 := by omega
      rw [if_pos (show nI f = 1 by rw [hf1]; rfl)]
      exact j36 1 (by rw [decide_eq_false hf]; rfl)
