/-! A stretch on the class's page. -/
abbrev DB : Type := Option (List Nat × List Nat)
def rwO (d : DB) : Row := match d with
  | none => EN
  | some v => rW v.1 v.2
def DOk (d : DB) : Prop := match d with
  | none => True
  | some v => BX v.1 v.2 ∧ (vtx v.1 v.2).length ≤ 67
theorem BVs_D : ∀ R, BVs R → ∃ D : List DB, R = D.map rwO ∧ ∀ d ∈ D, DOk d := by
  intro R
  induction R with
  | nil => intro _; exact ⟨[], rfl, fun d hd => by cases hd⟩
  | cons r R ih =>
    intro h
    obtain ⟨D, h1, h2⟩ := ih (fun x hx => h x (List.mem_cons_of_mem _ hx))
    rcases h r List.mem_cons_self with e | ⟨ns, is, e, a1, a2, a3, a4⟩
    · refine ⟨none :: D, by rw [List.map_cons, ← h1, e]; rfl, fun d hd => ?_⟩
      rcases List.mem_cons.mp hd with hd | hd
      · rw [hd]; exact trivial
      · exact h2 d hd
    · refine ⟨some (ns, is) :: D, by rw [List.map_cons, ← h1, e]; rfl, fun d hd => ?_⟩
      rcases List.mem_cons.mp hd with hd | hd
      · rw [hd]; exact ⟨⟨a1, a2, a3⟩, a4⟩
      · exact h2 d hd
theorem rW_EN {ns is : List Nat} (h : BX ns is) : rW ns is ≠ EN := fun e => by
  have e0 : cR ns is 0 = 9223372036854775807 := by
    have := congrArg (fun l => l.getD 0 0) e
    exact this
  have h0 := h.1 0
  rw [show cR ns is 0 = lN (ns.getD 0 0) from rfl, l40.2.1, pk_lEQ (by omega) (by omega)] at e0
  omega
def hiT (d : DB) : List Nat := match d with
  | none => []
  | some v => 60 :: vtx v.1 v.2
/-- the text of a stretch -/
def stx (lo hi : DB) : List Nat := match lo with
  | none => []
  | some v => if v.2.length ≤ 4 ∧ rwO hi = rW (nxt v.1 v.2).1 (nxt v.1 v.2).2 then 61 :: vtx v.1 v.2
    else if rW v.1 v.2 = LE then (if rwO hi = EN then [42] else hiT hi)
    else if rwO hi = EN then 62 :: 61 :: vtx v.1 v.2 else 62 :: 61 :: (vtx v.1 v.2 ++ (32 :: hiT hi))
theorem stx_len {lo hi : DB} (h1 : DOk lo) (h2 : DOk hi) : (stx lo hi).length ≤ 138 := by
  have hh : (hiT hi).length ≤ 68 := by
    cases hi with
    | none => simp [hiT]
    | some v => simp only [hiT, List.length_cons]; have := h2.2; omega
  cases lo with
  | none => simp [stx]
  | some v =>
    have hv := h1.2
    unfold stx
    simp only
    split
    · rw [List.length_cons]; omega
    · split
      · split
        · simp
        · omega
      · split
        · rw [List.length_cons, List.length_cons]; omega
        · rw [List.length_cons, List.length_cons, List.length_append, List.length_cons]; omega
/-- what writing may change: the page, and its rows -/
def FJ (m m' : Mi) : Prop := (∀ x j, ¬ FPg x j → gi m' x j = gi m x j) ∧ (∀ x j, ¬ (867 ≤ x ∧ x ≤ 869) → gl m' x j = gl m x j) ∧ ∀ x j, gr m' x j = gr m x j
theorem FJ.rf {m : Mi} : FJ m m := ⟨fun _ _ _ => rfl, fun _ _ _ => rfl, fun _ _ => rfl⟩
theorem FJ.tr {m m1 m2 : Mi} (h : FJ m m1) (h2 : FJ m1 m2) : FJ m m2 := ⟨fun x j a => (h2.1 x j a).trans (h.1 x j a), fun x j a => (h2.2.1 x j a).trans (h.2.1 x j a), fun x j => (h2.2.2 x j).trans (h.2.2 x j)⟩
theorem FI.J {m m' : Mi} (h : FI FPg m m') : FJ m m' := ⟨h.1, fun x j _ => h.2.1 x j, h.2.2⟩
theorem PgC.kp {m m' : Mi} {L : List Nat} (h : PgC m L) (k : ∀ x j, gi m' x j = gi m x j) (kr : ∀ x j, gr m' x j = gr m x j) : PgC m' L := ⟨⟨(kr _ _).trans h.1.1, (kr _ _).trans h.1.2.1, (kr _ _).trans h.1.2.2.1, (kr _ _).trans h.1.2.2.2.1, (kr _ _).trans h.1.2.2.2.2⟩, h.2.1, (k _ _).trans h.2.2.1, fun i b hi => ⟨(k _ _).trans (h.2.2.2 i b hi).1, (h.2.2.2 i b hi).2⟩⟩
theorem rowL_FI {m m' : Mi} {a : Nat} {r : Row} {P : Nat → Nat → Prop} (h : rowL m a 0 = r) (k : FI P m m') : rowL m' a 0 = r := by
  rw [← h]
  unfold rowL
  exact rowF_congr (fun q _ => k.2.1 _ _)
theorem rwO_0 {m : Mi} {a : Nat} {hi : DB} (hd : DOk hi) (h : rowL m a 0 = rwO hi) : (gl m a 0 = 9223372036854775807 ↔ rwO hi = EN) := by
  cases hi with
  | none =>
    have h : rowL m a 0 = EN := h
    rw [EN_F] at h
    exact ⟨fun _ => rfl, fun _ => rowL_get h (by omega)⟩
  | some v =>
    have h : rowL m a 0 = rW v.1 v.2 := h
    have h0 := rowL_get (g := cR v.1 v.2) h (show 0 < 8 by omega)
    have hn := hd.1.1 0
    constructor
    · intro z
      rw [h0, show cR v.1 v.2 0 = lN (v.1.getD 0 0) from rfl, l40.2.1, pk_lEQ (by omega) (by omega)] at z
      omega
    · intro z
      exact absurd z (rW_EN hd.1)
theorem stretch_C {m : Mi} {L : List Nat} {v : List Nat × List Nat} {hi : DB} (h1 : DOk (some v)) (h2 : DOk hi) (hne : ¬ (rW v.1 v.2 = LE ∧ rwO hi = EN)) (hP : PgC m L) (hlo : rowL m 867 0 = rW v.1 v.2) (hhi : rowL m 868 0 = rwO hi) (hL : L.length + 160 ≤ 2500) : ∃ m', f_X3_putStretch TT m 864 = some m' ∧ PgC m' (L ++ stx (some v) hi) ∧ FJ m m' := by
  have hv67 := h1.2
  obtain ⟨w0, w2, w3, w4, w5⟩ := hP.1
  -- the row behind the lower bound
  have hcp := copy_spec (t := TT) (m := m) (i := 0) (j := 0) s_867 s_869 (by omega) (by omega) (by omega) (by omega)
  have c1 : rowIs (blkL m 869 0 (0 + 8) (fun q => gl m 867 (0 + (q - 0)))) 869 (cR v.1 v.2) := fun j hj => by
    simp only [mS]
    rw [if_pos ⟨trivial, by omega, by omega⟩, show 0 + (j - 0) = j by omega]
    exact rowL_get (g := cR v.1 v.2) hlo hj
  have j1 : FJ m (blkL m 869 0 (0 + 8) (fun q => gl m 867 (0 + (q - 0)))) := ⟨fun _ _ _ => rfl, fun x j z => by simp only [mS]; rw [if_neg (by omega)], fun _ _ => rfl⟩
  have o1 : ∀ x j, x ≠ 869 → gl (blkL m 869 0 (0 + 8) (fun q => gl m 867 (0 + (q - 0)))) x j = gl m x j := fun x j z => by simp only [mS]; rw [if_neg (by omega)]
  have i1 : ∀ x j, gi (blkL m 869 0 (0 + 8) (fun q => gl m 867 (0 + (q - 0)))) x j = gi m x j := fun _ _ => rfl
  have r1 : ∀ x j, gr (blkL m 869 0 (0 + 8) (fun q => gl m 867 (0 + (q - 0)))) x j = gr m x j := fun _ _ => rfl
  generalize blkL m 869 0 (0 + 8) (fun q => gl m 867 (0 + (q - 0))) = m1 at *
  -- ahead of the text: which form
  have hnx : ∃ x2 m3, f_X10_setNext TT m1 869 = some (x2, m3) ∧ KL 869 m1 m3 ∧ ((x2 = 0 ∧ ¬ v.2.length ≤ 4) ∨ (x2 = 1 ∧ v.2.length ≤ 4 ∧ rowL m3 869 0 = rW (nxt v.1 v.2).1 (nxt v.1 v.2).2)) := by
    by_cases h4 : v.2.length ≤ 4
    · obtain ⟨m3, e, a, b⟩ := next_rowX s_869 c1 ⟨h4, fun w hw => okw_okn (h1.1.2.2 w hw)⟩
      exact ⟨1, m3, e, b, Or.inr ⟨rfl, h4, rowIs_L.mp a⟩⟩
    · exact ⟨0, m1, next_no s_869 c1 (by have := h1.1.2.1; omega) (fun w hw => okw_okn (h1.1.2.2 w hw)), KL.rf, Or.inl ⟨rfl, h4⟩⟩
  obtain ⟨x2, m3, e3, k3, g3⟩ := hnx
  have P3 : PgC m3 L := hP.kp (fun x j => (k3.1 x j).trans (i1 x j)) (fun x j => (k3.2.2 x j).trans (r1 x j))
  have lo3 : rowL m3 867 0 = rW v.1 v.2 := by
    rw [← hlo]
    unfold rowL
    exact rowF_congr (fun q _ => (k3.2.1 _ _ (by omega)).trans (o1 _ _ (by omega)))
  have hi3 : rowL m3 868 0 = rwO hi := by
    rw [← hhi]
    unfold rowL
    exact rowF_congr (fun q _ => (k3.2.1 _ _ (by omega)).trans (o1 _ _ (by omega)))
  have j3 : FJ m m3 := j1.tr ⟨fun x j _ => k3.1 x j, fun x j z => k3.2.1 x j (by omega), k3.2.2⟩
  have hstart : f_X3_putStretch TT m 864 = if x2 = 0 then f_X3_putStretch_j54 TT m3 864 else (f_X10_compare TT m3 869 0 868 0).bind fun x19 => if x19 = 0 then (f_X3_putSign TT m3 864 61).bind fun m21 => (f_X3_putVersion TT m21 864 (gr m21 864 3)).bind fun m22 => some m22 else f_X3_putStretch_j54 TT m3 864 := by
    unfold f_X3_putStretch
    rw [w3, w5, show f_X10_copy TT m 867 0 869 0 = _ from hcp, Option.bind_some, show gr m1 864 5 = 869 from (r1 _ _).trans w5, e3, bd_some, show gr m3 864 5 = 869 from P3.1.2.2.2.2, show gr m3 864 4 = 868 from P3.1.2.2.2.1]
  -- the long form
  have long : (¬ (v.2.length ≤ 4 ∧ rwO hi = rW (nxt v.1 v.2).1 (nxt v.1 v.2).2)) → ∃ m', f_X3_putStretch_j54 TT m3 864 = some m' ∧ PgC m' (L ++ stx (some v) hi) ∧ FJ m m' := by
    intro hno
    have hst : stx (some v) hi = if rW v.1 v.2 = LE then (if rwO hi = EN then [42] else hiT hi) else if rwO hi = EN then 62 :: 61 :: vtx v.1 v.2 else 62 :: 61 :: (vtx v.1 v.2 ++ (32 :: hiT hi)) := by
      unfold stx
      simp only
      rw [if_neg hno]
    -- behind the lower bound
    have tail : ∀ (m4 : Mi) (L4 : List Nat) (a1 a2 : Int32), PgC m4 L4 → FI FPg m3 m4 → L4.length + 80 ≤ 2500 → (a2 = 0 ↔ rwO hi = EN) → (a1 = 0 ∨ a1 = 1) → ∃ m', f_X3_putStretch_j106 TT m4 864 a1 a2 = some m' ∧ PgC m' (L4 ++ (if rwO hi = EN then [] else (if a1 = 0 then [] else [32]) ++ hiT hi)) ∧ FI FPg m3 m' := by
      intro m4 L4 a1 a2 P4 f4 hL4 ha2 ha1
      by_cases hen : rwO hi = EN
      · have e2 := ha2.mpr hen
        obtain ⟨m5, e5, p5, f5⟩ := words_C 5 (by omega) P4 (by show L4.length + 0 ≤ 2500; omega)
        have p5 : PgC m5 (L4 ++ []) := p5
        refine ⟨m5, ?_, by rw [if_pos hen]; exact p5, f4.tr f5⟩
        unfold f_X3_putStretch_j106 f_X3_putStretch_j120 f_X3_putStretch_j122
        rw [show f_X3_putText TT m4 864 1048582 = _ from e5, ob_of s_864, if_pos rfl, Option.bind_some, if_pos e2, if_pos e2]
        by_cases h0 : a1 = 0
        · rw [if_pos h0]
        · rw [if_neg h0]
      · have e2 : ¬ a2 = 0 := fun z => hen (ha2.mp z)
        obtain ⟨u, rfl⟩ : ∃ u, hi = some u := by
          cases hi with
          | none => exact absurd rfl hen
          | some u => exact ⟨u, rfl⟩
        have hu67 := h2.2
        have sp : ∃ m5, (if a1 = 0 then f_X3_putText TT m4 864 1048582 else f_X3_putText TT m4 864 1048586) = some m5 ∧ PgC m5 (L4 ++ (if a1 = 0 then [] else [32])) ∧ FI FPg m4 m5 := by
          by_cases h0 : a1 = 0
          · rw [if_pos h0, if_pos h0]
            exact words_C 5 (by omega) P4 (by show L4.length + 0 ≤ 2500; omega)
          · rw [if_neg h0, if_neg h0]
            exact words_C 9 (by omega) P4 (by show L4.length + 1 ≤ 2500; omega)
        obtain ⟨m5, e5, p5, f5⟩ := sp
        have hl1 : (if a1 = 0 then ([] : List Nat) else [32]).length ≤ 1 := by split <;> simp
        obtain ⟨m6, e6, p6, f6, _⟩ := sign_C (b := 60) (v := 60) p5 (by rw [List.length_append]; omega) (by omega) (nar_bT 60 (by omega))
        obtain ⟨m7, e7, p7, f7⟩ := version_C (n := 8) s_868 (by omega) (by omega) h2.1 p6 (rowL_FI hi3 ((f4.tr f5).tr f6)) (by rw [List.length_append, List.length_append, List.length_singleton]; omega)
        refine ⟨m7, ?_, ?_, ((f4.tr f5).tr f6).tr f7⟩
        · unfold f_X3_putStretch_j106 f_X3_putStretch_j120 f_X3_putStretch_j122
          by_cases h0 : a1 = 0
          · rw [if_pos h0] at e5
            rw [if_pos h0, ob_of s_864, if_pos rfl, e5, Option.bind_some, if_neg e2, e6, Option.bind_some, p6.1.2.2.2.1, e7, Option.bind_some]
          · rw [if_neg h0] at e5
            rw [if_neg h0, if_neg e2, ob_of s_864, if_pos rfl, e5, Option.bind_some, if_neg e2, e6, Option.bind_some, p6.1.2.2.2.1, e7, Option.bind_some]
        · rw [if_neg hen]
          rw [List.append_assoc, List.append_assoc] at p7
          exact p7
    have e70 : ∀ a1, f_X3_putStretch_j70 TT m3 864 a1 = f_X3_putStretch_j87 TT m3 864 a1 (if rwO hi = EN then 0 else 1) := fun a1 => by
      unfold f_X3_putStretch_j70
      rw [P3.1.2.2.2.1, show f_X10_isEndless TT m3 868 0 = _ from isEndless_C (i := 0) s_868 (by omega) (by omega), Option.bind_some]
      by_cases hen : rwO hi = EN
      · rw [if_pos ((rwO_0 h2 hi3).mpr hen), if_neg (by decide), if_pos hen]
      · rw [if_neg (fun z => hen ((rwO_0 h2 hi3).mp z)), if_pos rfl, if_neg hen]
    unfold f_X3_putStretch_j54
    rw [P3.1.2.2.1, isLeast_C s_867 (by omega) (by omega), Option.bind_some, lo3, e70, e70]
    have a2e : ∀ a2 : Int32, (if rwO hi = EN then (0 : Int32) else 1) = a2 → (a2 = 0 ↔ rwO hi = EN) := fun a2 h => by
      rw [← h]
      by_cases hen : rwO hi = EN
      · rw [if_pos hen]; exact ⟨fun _ => hen, fun _ => rfl⟩
      · rw [if_neg hen]; exact ⟨fun z => absurd z (by decide), fun z => absurd z hen⟩
    by_cases hle : rW v.1 v.2 = LE
    · rw [if_pos hle, if_neg (by decide)]
      have hen : ¬ rwO hi = EN := fun z => hne ⟨hle, z⟩
      unfold f_X3_putStretch_j87
      rw [if_pos rfl]
      obtain ⟨m', e, p, f⟩ := tail m3 L 0 (if rwO hi = EN then 0 else 1) P3 FI.rf (by omega) (a2e _ rfl) (Or.inl rfl)
      refine ⟨m', e, ?_, j3.tr f.J⟩
      rw [hst, if_pos hle, if_neg hen]
      rw [if_neg hen, if_pos rfl, List.nil_append] at p
      exact p
    · rw [if_neg hle, if_pos rfl]
      obtain ⟨m4, e4, p4, f4⟩ := words_C 8 (by omega) P3 (by show L.length + 2 ≤ 2500; omega)
      have p4 : PgC m4 (L ++ [62, 61]) := p4
      obtain ⟨m5, e5, p5, f5⟩ := version_C (n := 8) s_867 (by omega) (by omega) h1.1 p4 (rowL_FI lo3 f4) (by rw [List.length_append]; show L.length + 2 + 78 ≤ 2500; omega)
      unfold f_X3_putStretch_j87
      rw [if_neg (show ¬ (1 : Int32) = 0 by decide), show f_X3_putText TT m3 864 1048585 = _ from e4, Option.bind_some, p4.1.2.2.1, e5, Option.bind_some]
      obtain ⟨m', e, p, f⟩ := tail m5 _ 1 (if rwO hi = EN then 0 else 1) p5 (f4.tr f5) (by rw [List.length_append, List.length_append]; show L.length + 2 + _ + 80 ≤ 2500; omega) (a2e _ rfl) (Or.inr rfl)
      refine ⟨m', e, ?_, j3.tr f.J⟩
      rw [hst, if_neg hle]
      rw [if_neg (show ¬ (1 : Int32) = 0 by decide), List.append_assoc, List.append_assoc] at p
      by_cases hen : rwO hi = EN
      · rw [if_pos hen]
        rw [if_pos hen, List.append_nil] at p
        exact p
      · rw [if_neg hen]
        rw [if_neg hen] at p
        exact p
  rw [hstart]
  rcases g3 with ⟨x0, h4⟩ | ⟨x1, h4, r3⟩
  · rw [if_pos x0]
    exact long (fun z => h4 z.1)
  · rw [if_neg (by rw [x1]; decide), show f_X10_compare TT m3 869 0 868 0 = _ from compare_spec (i := 0) (j := 0) s_869 s_868 (by omega) (by omega) (by omega) (by omega), Option.bind_some, r3, hi3]
    by_cases heq : rwO hi = rW (nxt v.1 v.2).1 (nxt v.1 v.2).2
    · rw [heq, cmpL_rf, if_pos rfl]
      obtain ⟨m4, e4, p4, f4, _⟩ := sign_C (b := 61) (v := 61) P3 (by omega) (by omega) (nar_bT 61 (by omega))
      obtain ⟨m5, e5, p5, f5⟩ := version_C (n := 8) s_867 (by omega) (by omega) h1.1 p4 (rowL_FI lo3 f4) (by rw [List.length_append, List.length_singleton]; omega)
      rw [e4, Option.bind_some, p4.1.2.2.1, e5, Option.bind_some]
      refine ⟨m5, rfl, ?_, j3.tr (f4.tr f5).J⟩
      unfold stx
      simp only
      rw [if_pos ⟨h4, heq⟩]
      rw [List.append_assoc] at p5
      exact p5
    · have hne2 : cmpL (rW (nxt v.1 v.2).1 (nxt v.1 v.2).2) (rwO hi) ≠ 0 := fun z => by
        have h8 : (rwO hi).length = 8 := by
          cases hi with
          | none => rfl
          | some u => rfl
        exact heq (cmpL_eq _ _ ((show (rW (nxt v.1 v.2).1 (nxt v.1 v.2).2).length = 8 from rfl).trans h8.symm) z).symm
      rw [if_neg hne2]
      exact long (fun z => heq z.2)
