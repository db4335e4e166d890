/-! A stretch that the reference writes. -/
/-- what writing may change at the reference -/
def FJm (m m' : Mi) : Prop := (∀ x j, ¬ FPm x j → gi m' x j = gi m x j) ∧ (∀ x j, ¬ (x = 877 ∨ x = 878) → gl m' x j = gl m x j) ∧ ∀ x j, gr m' x j = gr m x j
theorem FJm.rf {m : Mi} : FJm m m := ⟨fun _ _ _ => rfl, fun _ _ _ => rfl, fun _ _ => rfl⟩
theorem FJm.tr {m m1 m2 : Mi} (h : FJm m m1) (h2 : FJm m1 m2) : FJm m m2 := ⟨fun x j a => (h2.1 x j a).trans (h.1 x j a), fun x j a => (h2.2.1 x j a).trans (h.2.1 x j a), fun x j => (h2.2.2 x j).trans (h.2.2 x j)⟩
theorem FI.Jm {m m' : Mi} (h : FI FPm m m') : FJm m m' := ⟨h.1, fun x j _ => h.2.1 x j, h.2.2⟩
theorem PgM.kp {m m' : Mi} {L : List Nat} (h : PgM m L) (k : ∀ x j, gi m' x j = gi m x j) (kr : ∀ x j, gr m' x j = gr m x j) : PgM m' L := ⟨fun z hz => (kr _ _).trans (h.1 z hz), h.2.1, (k _ _).trans h.2.2.1, fun i b hi => ⟨(k _ _).trans (h.2.2.2 i b hi).1, (h.2.2.2 i b hi).2⟩⟩
theorem RwM.kl {m m' : Mi} {i : Nat} {r : Row} (h : RwM m i r) (k : ∀ j, gl m' 875 j = gl m 875 j) : RwM m' i r := by
  obtain ⟨h1, h2⟩ := h
  have e : ∀ z, z < 9 → gl m' 875 (i + z) = gl m 875 (i + z) := fun z _ => k _
  exact ⟨VR_congr e h1, (trM_congr e).trans h2⟩
theorem BX_LE : BX [0, 0, 0] [0] := ⟨fun j => by rcases j with _ | _ | _ | j <;> simp, by decide, fun w hw => by rw [List.mem_singleton.mp hw]; exact ok0⟩
theorem LE_rW : LE = rW [0, 0, 0] [0] := by decide
theorem rwM_0 {m : Mi} {i : Nat} {hi : DB} (hd : DOk hi) (h : RwM m i (rwO hi)) : (gl m 875 i = 1099511627776 ↔ rwO hi = EN) := by
  constructor
  · intro z
    cases hi with
    | none => rfl
    | some u =>
      exfalso
      have := (tr_inv h.1 hd.1 h.2).1 0 (by omega)
      have this : gl m 875 i = lN (u.1.getD 0 0) := this
      have hn := hd.1.1 0
      rw [z, l40.1, pk_lEQ (by omega) (by omega)] at this
      omega
  · intro z
    have h2 := h.2
    rw [z] at h2
    have e0 : trF (fun z => gl m 875 (i + z)) 0 = 9223372036854775807 := by
      have := congrArg (fun l => l.getD 0 0) h2
      exact this
    unfold trF at e0
    by_cases hz : gl m 875 (i + 0) = 1099511627776
    · exact hz
    · exfalso
      simp only at e0
      rw [if_neg hz, if_pos (by omega)] at e0
      obtain ⟨g, hg, hV⟩ := h.1
      have hg0 : gl m 875 (i + 0) = lN (g 0) := (hg 0 (by omega)).1
      rw [hg0, l40.2.1, pk_lEQ (by have := (hg 0 (by omega)).2; omega) (by omega)] at e0
      rcases hV with hV | hV <;> omega
theorem stretch_M {a b : Nat} {m : Mi} {L : List Nat} {v : List Nat × List Nat} {hi : DB} (ha : a + 9 ≤ 78336) (hb : b + 9 ≤ 78336) (h1 : DOk (some v)) (h2 : DOk hi) (hlt : cmpL (rW v.1 v.2) (rwO hi) = -1) (hge : cmpL LE (rW v.1 v.2) ≠ 1) (hP : PgM m L) (hlo : RwM m a (rW v.1 v.2)) (hhi : RwM m b (rwO hi)) (hL : L.length + 200 ≤ 4000) : ∃ m', f_X12_saysStretch TT m 870 (nI a) (nI b) = some m' ∧ PgM m' (L ++ stx (some v) hi) ∧ FJm m m' := by
  have hv67 := h1.2
  have w8 : gr m 870 8 = 875 := hP.1 8 (by omega)
  have w11 : gr m 870 11 = 877 := hP.1 11 (by omega)
  -- the first version
  have hfst := mfirst_spec (t := TT) (m := m) (z := 870) (i := 0) s_877 (by omega) (by omega)
  have o1 : ∀ x j, x ≠ 877 → gl (blkL m 877 0 (0 + 9) (fun q => if q = 0 + 3 then 1 else 0)) x j = gl m x j := fun x j z => by simp only [mS]; rw [if_neg (fun y => z y.1)]
  have i1 : ∀ x j, gi (blkL m 877 0 (0 + 9) (fun q => if q = 0 + 3 then 1 else 0)) x j = gi m x j := fun _ _ => rfl
  have r1 : ∀ x j, gr (blkL m 877 0 (0 + 9) (fun q => if q = 0 + 3 then 1 else 0)) x j = gr m x j := fun _ _ => rfl
  have c1 : ∀ q, q < 9 → gl (blkL m 877 0 (0 + 9) (fun q => if q = 0 + 3 then 1 else 0)) 877 q = if q = 3 then 1 else 0 := fun q hq => by
    simp only [mS]
    rw [if_pos ⟨trivial, by omega, by omega⟩]
  generalize blkL m 877 0 (0 + 9) (fun q => if q = 0 + 3 then 1 else 0) = m1 at *
  have k1 := tr_of (f := fun z => gl m1 877 (0 + z)) (ns := [0, 0, 0]) (is := [0]) (fun j => by have := BX_LE.1 j; omega) (by decide) (fun w hw => by rw [List.mem_singleton.mp hw]; exact Or.inl (by omega)) (fun k hk => by
    show gl m1 877 (0 + k) = _
    rw [Nat.zero_add, c1 k (by omega), if_neg (by omega)]
    have : k = 0 ∨ k = 1 ∨ k = 2 := by omega
    rcases this with rfl | rfl | rfl <;> rfl) (by show gl m1 877 (0 + 3) = _; rw [Nat.zero_add, c1 3 (by omega), if_pos rfl]; rfl) (fun k hk => by
    have hk0 : k = 0 := by simp at hk; omega
    rw [hk0]
    show gl m1 877 (0 + (4 + 0)) = _
    rw [show 0 + (4 + 0) = 4 from rfl, c1 4 (by omega), if_neg (by omega)]
    rfl) (fun k hk => by
    show ∃ g, gl m1 877 (0 + k) = lN g ∧ _
    rw [Nat.zero_add, c1 k hk]
    by_cases k3 : k = 3
    · rw [if_pos k3]; exact ⟨1, rfl, by omega⟩
    · rw [if_neg k3]; exact ⟨0, rfl, by omega⟩)
  have P1 : PgM m1 L := hP.kp i1 r1
  have lo1 := hlo.kl (fun j => o1 875 j (by omega))
  have hi1 := hhi.kl (fun j => o1 875 j (by omega))
  have hcl : f_X12_compare TT m1 875 (nI a) 877 0 = some (cmpL (rW v.1 v.2) LE) := by
    rw [show (0 : Int32) = nI 0 from rfl, mcompare_spec s_875 s_877 ha (by omega) (by omega) (by omega), cmp_tr lo1.1 k1.1, lo1.2, k1.2, ← LE_rW]
  have hle : (cmpL (rW v.1 v.2) LE ≤ 0) ↔ rW v.1 v.2 = LE := by
    rcases cmpL_vals (rW v.1 v.2) LE with h | h | h
    · rw [h]; exact ⟨fun _ => cmpL_eq _ _ rfl h, fun _ => by decide⟩
    · rw [h]; exact ⟨fun z => absurd z (by decide), fun z => by rw [z, cmpL_rf] at h; exact absurd h (by decide)⟩
    · exfalso
      exact hge ((cmp_sw (a := rW v.1 v.2) (b := LE) rfl rfl).2.mp h)
  -- behind the lower bound
  have hcp := mcopy_spec (t := TT) (m := m1) (i := 0) (j := a) s_878 s_875 (by omega) ha (by omega) (by omega) (Or.inl (by omega))
  have o2 : ∀ x j, x ≠ 878 → gl (blkL m1 878 0 (0 + 9) (fun q => gl m1 875 (a + (q - 0)))) x j = gl m1 x j := fun x j z => by simp only [mS]; rw [if_neg (fun y => z y.1)]
  have i2 : ∀ x j, gi (blkL m1 878 0 (0 + 9) (fun q => gl m1 875 (a + (q - 0)))) x j = gi m1 x j := fun _ _ => rfl
  have r2 : ∀ x j, gr (blkL m1 878 0 (0 + 9) (fun q => gl m1 875 (a + (q - 0)))) x j = gr m1 x j := fun _ _ => rfl
  have c2 : ∀ q, q < 9 → gl (blkL m1 878 0 (0 + 9) (fun q => gl m1 875 (a + (q - 0)))) 878 q = gl m1 875 (a + q) := fun q hq => by
    simp only [mS]
    rw [if_pos ⟨trivial, by omega, by omega⟩, show a + (q - 0) = a + q by omega]
  generalize blkL m1 878 0 (0 + 9) (fun q => gl m1 875 (a + (q - 0))) = m2 at *
  have V2 : VR (fun z => gl m2 878 z) := VR_congr (f := fun z => gl m1 875 (a + z)) (fun z hz => c2 z hz) lo1.1
  have t2 : trM (fun z => gl m2 878 z) = rW v.1 v.2 := (trM_congr (fun z hz => c2 z hz)).trans lo1.2
  have P2 : PgM m2 L := P1.kp i2 r2
  have g3 : gl m2 878 3 = lN v.2.length := (tr_inv V2 h1.1 t2).2.1
  have h5 := h1.1.2.1
  have hnx : ∃ m3, (if 5 ≤ nI v.2.length then some m2 else f_X12_next TT m2 878 0) = some m3 ∧ KL 878 m2 m3 ∧ VR (fun z => gl m3 878 z) ∧ trM (fun z => gl m3 878 z) = (if v.2.length ≤ 4 then rW (nxt v.1 v.2).1 (nxt v.1 v.2).2 else rW v.1 v.2) := by
    by_cases h4 : v.2.length ≤ 4
    · obtain ⟨m3, e, V3, t3, k3⟩ := nextM_X h1.1 h4 V2 t2
      refine ⟨m3, ?_, k3, V3, by rw [if_pos h4]; exact t3⟩
      rw [if_neg (show ¬ (5 : Int32) ≤ nI v.2.length from nI_ge (b := 5) (by omega) (by omega))]
      exact e
    · exact ⟨m2, by rw [if_pos (show (5 : Int32) ≤ nI v.2.length from nI_le (a := 5) (by omega) (by omega))], KL.rf, V2, by rw [if_neg h4]; exact t2⟩
  obtain ⟨m3, e3, k3, V3, t3⟩ := hnx
  have P3 : PgM m3 L := P2.kp k3.1 k3.2.2
  have lo3 : RwM m3 a (rW v.1 v.2) := lo1.kl (fun j => (k3.2.1 _ _ (by omega)).trans (o2 _ _ (by omega)))
  have hi3 : RwM m3 b (rwO hi) := hi1.kl (fun j => (k3.2.1 _ _ (by omega)).trans (o2 _ _ (by omega)))
  have j3 : FJm m m3 := ⟨fun x j _ => (k3.1 x j).trans ((i2 x j).trans (i1 x j)), fun x j z => (k3.2.1 x j (by omega)).trans ((o2 x j (by omega)).trans (o1 x j (by omega))), fun x j => (k3.2.2 x j).trans ((r2 x j).trans (r1 x j))⟩
  have w12 : gr m3 870 12 = 878 := P3.1 12 (by omega)
  have w83 : gr m3 870 8 = 875 := P3.1 8 (by omega)
  -- s: 0 for the least; e: 0 for the endless
  have hstart : f_X12_saysStretch TT m 870 (nI a) (nI b) = f_X12_saysStretch_j83 TT m3 870 (nI a) (nI b) (if rW v.1 v.2 = LE then 0 else 1) (if rwO hi = EN then 0 else 1) := by
    have j49 : ∀ s e, f_X12_saysStretch_j49 TT m1 870 (nI a) (nI b) s e = f_X12_saysStretch_j83 TT m3 870 (nI a) (nI b) s e := fun s e => by
      unfold f_X12_saysStretch_j49
      rw [show gr m1 870 12 = 878 from P1.1 12 (by omega), show gr m1 870 8 = 875 from P1.1 8 (by omega), show f_X12_copy TT m1 878 0 875 (nI a) = _ from hcp, Option.bind_some, show gr m2 870 12 = 878 from P2.1 12 (by omega), if_pos (show ar TT 878 .long 3 = true from ar_of (k := 3) s_878 (by omega) (by omega)), show ix 3 = 3 from rfl, g3, lN_i]
      by_cases h4 : (5 : Int32) ≤ nI v.2.length
      · rw [if_pos h4] at e3 ⊢
        rw [Option.some.inj e3]
      · rw [if_neg h4] at e3 ⊢
        rw [e3, Option.bind_some]
    have j30 : ∀ s, f_X12_saysStretch_j30 TT m1 870 (nI a) (nI b) s = f_X12_saysStretch_j83 TT m3 870 (nI a) (nI b) s (if rwO hi = EN then 0 else 1) := fun s => by
      unfold f_X12_saysStretch_j30
      rw [show gr m1 870 8 = 875 from P1.1 8 (by omega), if_pos (ar_of s_875 (by omega) (by omega)), ix_nI (by omega), j49, j49]
      by_cases hen : rwO hi = EN
      · rw [if_pos ((lg_cmp_eq _ _).mpr ((rwM_0 h2 hi1).mpr hen)), if_pos hen]
      · rw [if_neg (fun z => hen ((rwM_0 h2 hi1).mp ((lg_cmp_eq _ _).mp z))), if_neg hen]
    unfold f_X12_saysStretch
    rw [w11, show f_X12_first TT m 870 877 0 = _ from hfst, Option.bind_some, show gr m1 870 8 = 875 from P1.1 8 (by omega), show gr m1 870 11 = 877 from P1.1 11 (by omega), hcl, Option.bind_some, j30, j30]
    by_cases hl : rW v.1 v.2 = LE
    · rw [if_pos (hle.mpr hl), if_pos hl]
    · rw [if_neg (fun z => hl (hle.mp z)), if_neg hl]
  -- the long form
  have long : (¬ (v.2.length ≤ 4 ∧ rwO hi = rW (nxt v.1 v.2).1 (nxt v.1 v.2).2)) → ∃ m', f_X12_saysStretch_j120 TT m3 870 (nI a) (nI b) (if rW v.1 v.2 = LE then 0 else 1) (if rwO hi = EN then 0 else 1) = some m' ∧ PgM m' (L ++ stx (some v) hi) ∧ FJm m m' := by
    intro hno
    have hst : stx (some v) hi = if rW v.1 v.2 = LE then (if rwO hi = EN then [42] else hiT hi) else if rwO hi = EN then 62 :: 61 :: vtx v.1 v.2 else 62 :: 61 :: (vtx v.1 v.2 ++ (32 :: hiT hi)) := by
      unfold stx
      simp only
      rw [if_neg hno]
    have up : ∀ (m4 : Mi) (L4 : List Nat), PgM m4 L4 → FI FPm m3 m4 → L4.length + 100 ≤ 4000 → ¬ rwO hi = EN → ∃ m', f_X12_saysStretch_j175 TT m4 870 (nI b) 1 = some m' ∧ PgM m' (L4 ++ hiT hi) ∧ FI FPm m3 m' := by
      intro m4 L4 p4 f4 hl4 hen
      obtain ⟨u, rfl⟩ : ∃ u, hi = some u := by
        cases hi with
        | none => exact absurd rfl hen
        | some u => exact ⟨u, rfl⟩
      obtain ⟨m5, e5, p5, f5⟩ := saysN_M 60 p4 (by omega) (by omega)
      obtain ⟨m6, e6, p6, f6⟩ := version_M hb h2.1 p5 (hi3.keep (f4.tr f5)) (by rw [List.length_append, List.length_singleton]; omega)
      refine ⟨m6, ?_, ?_, (f4.tr f5).tr f6⟩
      · unfold f_X12_saysStretch_j175
        rw [if_neg (by decide), show f_X12_says TT m4 870 60 = _ from e5, Option.bind_some, show gr m5 870 8 = 875 from p5.1 8 (by omega), e6, Option.bind_some]
      · rw [List.append_assoc] at p6
        exact p6
    unfold f_X12_saysStretch_j120
    rw [hst]
    by_cases hl : rW v.1 v.2 = LE
    · rw [if_pos hl, if_pos hl]
      by_cases hen : rwO hi = EN
      · rw [if_pos hen, if_pos hen, if_pos rfl, if_pos rfl]
        obtain ⟨m4, e4, p4, f4⟩ := saysN_M 42 P3 (by omega) (by omega)
        rw [show f_X12_says TT m3 870 42 = _ from e4, Option.bind_some]
        refine ⟨m4, ?_, p4, j3.tr f4.Jm⟩
        unfold f_X12_saysStretch_j135 f_X12_saysStretch_j160 f_X12_saysStretch_j175
        rw [if_pos rfl, if_pos rfl, if_pos rfl]
      · rw [if_neg hen, if_neg hen, if_pos rfl, if_neg (by decide)]
        obtain ⟨m4, e4, p4, f4⟩ := up m3 L P3 FI.rf (by omega) hen
        refine ⟨m4, ?_, p4, j3.tr f4.Jm⟩
        unfold f_X12_saysStretch_j135 f_X12_saysStretch_j160
        rw [if_pos rfl, if_pos rfl]
        exact e4
    · rw [if_neg hl, if_neg hl, if_neg (by decide)]
      obtain ⟨m4, e4, p4, f4⟩ := saysN_M 62 P3 (by omega) (by omega)
      obtain ⟨m5, e5, p5, f5⟩ := saysN_M 61 p4 (by rw [List.length_append, List.length_singleton]; omega) (by omega)
      obtain ⟨m6, e6, p6, f6⟩ := version_M ha h1.1 p5 (lo3.keep (f4.tr f5)) (by rw [List.length_append, List.length_append, List.length_singleton, List.length_singleton]; omega)
      unfold f_X12_saysStretch_j135
      rw [if_neg (by decide), show f_X12_says TT m3 870 62 = _ from e4, Option.bind_some, show f_X12_says TT m4 870 61 = _ from e5, Option.bind_some, show gr m5 870 8 = 875 from p5.1 8 (by omega), e6, Option.bind_some]
      have f36 := (f4.tr f5).tr f6
      unfold f_X12_saysStretch_j160
      rw [if_neg (by decide)]
      by_cases hen : rwO hi = EN
      · rw [if_pos hen, if_pos hen, if_pos rfl]
        refine ⟨m6, ?_, ?_, j3.tr f36.Jm⟩
        · unfold f_X12_saysStretch_j175
          rw [if_pos rfl]
        · rw [List.append_assoc, List.append_assoc] at p6
          exact p6
      · rw [if_neg hen, if_neg hen, if_neg (by decide)]
        obtain ⟨m7, e7, p7, f7⟩ := saysN_M 32 p6 (by rw [List.length_append, List.length_append, List.length_append, List.length_singleton, List.length_singleton]; omega) (by omega)
        rw [show f_X12_says TT m6 870 32 = _ from e7, Option.bind_some]
        obtain ⟨m8, e8, p8, f8⟩ := up m7 _ p7 (f36.tr f7) (by rw [List.length_append, List.length_append, List.length_append, List.length_append, List.length_singleton, List.length_singleton, List.length_singleton]; omega) hen
        refine ⟨m8, e8, ?_, j3.tr f8.Jm⟩
        simp only [List.append_assoc, List.singleton_append] at p8
        exact p8
  rw [hstart]
  unfold f_X12_saysStretch_j83
  by_cases hen : rwO hi = EN
  · rw [if_pos hen, if_pos rfl]
    have hno : ¬ (v.2.length ≤ 4 ∧ rwO hi = rW (nxt v.1 v.2).1 (nxt v.1 v.2).2) := fun z => by
      have h3 := z.2
      rw [hen] at h3
      have h0 : cR (nxt v.1 v.2).1 (nxt v.1 v.2).2 0 = 9223372036854775807 := by
        have := congrArg (fun l => l.getD 0 0) h3
        exact this.symm
      have hn0 : (nxt v.1 v.2).1.getD 0 0 = v.1.getD 0 0 := by unfold nxt; split <;> rfl
      have hn := h1.1.1 0
      rw [show cR (nxt v.1 v.2).1 (nxt v.1 v.2).2 0 = lN ((nxt v.1 v.2).1.getD 0 0) from rfl, hn0, l40.2.1, pk_lEQ (by omega) (by omega)] at h0
      omega
    have := long hno
    rw [if_pos hen] at this
    exact this
  · rw [if_neg hen, if_neg (by decide), w12, w83, show f_X12_compare TT m3 878 0 875 (nI b) = some (cmpL (if v.2.length ≤ 4 then rW (nxt v.1 v.2).1 (nxt v.1 v.2).2 else rW v.1 v.2) (rwO hi)) by
      have hV3 : VR (fun z => gl m3 878 (0 + z)) := VR_congr (f := fun z => gl m3 878 z) (fun z _ => by rw [Nat.zero_add]) V3
      have ht3 : trM (fun z => gl m3 878 (0 + z)) = (if v.2.length ≤ 4 then rW (nxt v.1 v.2).1 (nxt v.1 v.2).2 else rW v.1 v.2) := (trM_congr (g := fun z => gl m3 878 z) (fun z _ => by show gl m3 878 (0 + z) = gl m3 878 z; rw [Nat.zero_add])).trans t3
      rw [show (0 : Int32) = nI 0 from rfl, mcompare_spec s_878 s_875 (by omega) hb (by omega) (by omega), cmp_tr hV3 hi3.1, ht3, hi3.2], Option.bind_some]
    have hlong := fun hno => long hno
    rw [if_neg hen] at hlong
    by_cases h4 : v.2.length ≤ 4
    · rw [if_pos h4]
      by_cases heq : rwO hi = rW (nxt v.1 v.2).1 (nxt v.1 v.2).2
      · rw [heq, cmpL_rf, if_pos rfl]
        obtain ⟨m4, e4, p4, f4⟩ := saysN_M 61 P3 (by omega) (by omega)
        obtain ⟨m5, e5, p5, f5⟩ := version_M ha h1.1 p4 (lo3.keep f4) (by rw [List.length_append, List.length_singleton]; omega)
        rw [show f_X12_says TT m3 870 61 = _ from e4, Option.bind_some, show gr m4 870 8 = 875 from p4.1 8 (by omega), e5, Option.bind_some]
        refine ⟨m5, rfl, ?_, j3.tr (f4.tr f5).Jm⟩
        unfold stx
        simp only
        rw [if_pos ⟨h4, heq⟩]
        rw [List.append_assoc] at p5
        exact p5
      · have hne2 : cmpL (rW (nxt v.1 v.2).1 (nxt v.1 v.2).2) (rwO hi) ≠ 0 := fun z => by
          have h8 : (rwO hi).length = 8 := by
            cases hi with
            | none => rfl
            | some u => rfl
          exact heq (cmpL_eq _ _ ((show (rW (nxt v.1 v.2).1 (nxt v.1 v.2).2).length = 8 from rfl).trans h8.symm) z).symm
        rw [if_neg hne2]
        exact hlong (fun z => heq z.2)
    · rw [if_neg h4, hlt, if_neg (by decide)]
      exact hlong (fun z => h4 z.1)
