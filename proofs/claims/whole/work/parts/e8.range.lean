/-! A range on the class's page. -/
def rtx : List DB → Nat → List Nat
  | lo :: hi :: r, k => (if k = 0 then [] else [32, 124, 124, 32]) ++ (stx lo hi ++ rtx r (k + 1))
  | _, _ => []
/-- the text of a range -/
def wtx (D : List DB) : List Nat := if D = [] then [110, 111, 110, 101] else rtx D 0
/-- what the bounds of a range keep to -/
def GD (D : List DB) : Prop := (∀ d ∈ D, DOk d) ∧ GB (D.map rwO)
theorem Up_lt {B : List Row} (h : Up B) {i j : Nat} {a b : Row} (ha : B[i]? = some a) (hb : B[j]? = some b) (hij : i < j) : cmpL a b = -1 := by
  have hp := List.pairwise_iff_getElem.mp h.1 i j (get_lt ha) (get_lt hb) hij
  have e1 : B[i]'(get_lt ha) = a := by
    have := List.getElem?_eq_getElem (get_lt ha)
    rw [ha] at this
    exact (Option.some.inj this).symm
  have e2 : B[j]'(get_lt hb) = b := by
    have := List.getElem?_eq_getElem (get_lt hb)
    rw [hb] at this
    exact (Option.some.inj this).symm
  rw [e1, e2] at hp
  exact hp
theorem map_get {D : List DB} {i : Nat} {d : DB} (h : D[i]? = some d) : (D.map rwO)[i]? = some (rwO d) := by rw [List.getElem?_map, h]; rfl
theorem GD_lo {D : List DB} (h : GD D) {i : Nat} {lo hi : DB} (h1 : D[i]? = some lo) (h2 : D[i + 1]? = some hi) : (∃ v, lo = some v) ∧ (rwO lo = LE → rwO hi = EN → D.length = 2) := by
  have hlt := Up_lt h.2.1 (map_get h1) (map_get h2) (by omega)
  have r8a : R8 (rwO lo) := by cases lo <;> rfl
  have r8b : R8 (rwO hi) := by cases hi <;> rfl
  have g1 := h.2.2.2.2 (rwO hi) (List.mem_of_getElem? (map_get h2))
  refine ⟨?_, fun e1 e2 => ?_⟩
  · cases lo with
    | some v => exact ⟨v, rfl⟩
    | none =>
      exfalso
      have : cmpL EN (rwO hi) = -1 := hlt
      exact g1.2 ((cmp_sw (a := EN) (b := rwO hi) rfl r8b).2.mp this)
  · have hi0 : i = 0 := by
      rcases Nat.eq_zero_or_pos i with h0 | h0
      · exact h0
      · exfalso
        obtain ⟨z, hz⟩ := get_some (l := D) (k := 0) (by have := get_lt h1; omega)
        have hl := Up_lt h.2.1 (map_get hz) (map_get h1) h0
        have gz := h.2.2.2.2 (rwO z) (List.mem_of_getElem? (map_get hz))
        have r8z : R8 (rwO z) := by cases z <;> rfl
        rw [e1] at hl
        exact gz.1 ((cmp_sw (a := rwO z) (b := LE) r8z rfl).2.mp hl)
    have h3 : ¬ 2 < D.length := fun hl => by
      obtain ⟨z, hz⟩ := get_some (l := D) (k := 2) hl
      have hlz := Up_lt h.2.1 (map_get h2) (map_get hz) (by omega)
      have gz := h.2.2.2.2 (rwO z) (List.mem_of_getElem? (map_get hz))
      have r8z : R8 (rwO z) := by cases z <;> rfl
      rw [e2] at hlz
      exact gz.2 ((cmp_sw (a := EN) (b := rwO z) rfl r8z).2.mp hlz)
    have := get_lt h2
    omega
theorem RG.keepJ {m m' : Mi} {r cap : Nat} {B : List Row} (h : RG TT m r cap B) (hr : r < 800) (k : FJ m m') : RG TT m' r cap B := by
  obtain ⟨h1, h2, h3, h4, h5, h6, h7, h8⟩ := h
  refine ⟨h1, (k.2.2 _ _).trans h2, h3, (k.1 _ _ (by unfold FPg; omega)).trans h4, h5, h6, h7, ?_⟩
  rw [bnd_congr (m := m) (fun q _ => k.2.1 _ _ (by omega))]
  exact h8
theorem RG_row {m : Mi} {r cap i : Nat} {B : List Row} {b : Row} (h : RG TT m r cap B) (hb : B[i]? = some b) : rowL m (r + 1) (8 * i) = b := by
  have hl := get_lt hb
  have h8 := h.2.2.2.2.2.2.2
  have := bnd_get (m := m) (a := r + 1) hl
  rw [h8, hb] at this
  exact (Option.some.inj this).symm
/-- a bound is copied onto the page -/
theorem bound_C {m : Mi} {r cap i a : Nat} {B : List Row} {b : Row} (h : RG TT m r cap B) (hr : r < 800) (hb : B[i]? = some b) (ha : sh TT a = some (.inr (.long, 8))) (ha2 : 867 ≤ a ∧ a ≤ 868) : ∃ m', f_X4_copyBound TT m r (nI i) a = some m' ∧ rowL m' a 0 = b ∧ FJ m m' ∧ (∀ x j, gi m' x j = gi m x j) ∧ ∀ x j, x ≠ a → gl m' x j = gl m x j := by
  have hl := get_lt hb
  have h5 := h.2.2.2.2.1
  have h7 := h.2.2.2.2.2.2.1
  have hcp := copy_spec (t := TT) (m := m) (i := i * 8) (j := 0) h.2.2.1 ha (by omega) (by omega) (by omega) (by omega)
  refine ⟨blkL m a 0 (0 + 8) (fun q => gl m (r + 1) (i * 8 + (q - 0))), ?_, ?_, ⟨fun _ _ _ => rfl, fun x j z => by simp only [mS]; rw [if_neg (by omega)], fun _ _ => rfl⟩, fun _ _ => rfl, fun x j z => by simp only [mS]; rw [if_neg (fun y => z y.1)]⟩
  · unfold f_X4_copyBound
    rw [h.2.1, show (8 : Int32) = nI 8 from rfl, pk_mul, show f_X10_copy TT m (r + 1) (nI (i * 8)) a 0 = _ from hcp, Option.bind_some]
  · rw [← RG_row h hb]
    unfold rowL
    refine rowF_congr (fun q hq => ?_)
    simp only [mS]
    rw [if_pos ⟨trivial, by omega, by omega⟩]
    show gl m (r + 1) (i * 8 + (0 + q - 0)) = gl m (r + 1) (8 * i + q)
    rw [show i * 8 + (0 + q - 0) = 8 * i + q by omega]
theorem rangeC_lp {r cap : Nat} {D : List DB} (hD : GD D) (hr : r < 800) (hall : ∀ lo hi, D[0]? = some lo → D[1]? = some hi → ¬ (D.length = 2 ∧ rwO lo = LE ∧ rwO hi = EN)) : ∀ (d k N : Nat) (m : Mi) (L : List Nat), 2 * (k + d) = D.length → d < N → PgC m L → RG TT m r cap (D.map rwO) → L.length + 142 * d + 22 ≤ 2500 →
    ∃ m', lp (fun x : Int32 × Mi => f_X3_putRange_l34 TT x.2 864 r x.1) N (nI k, m) = some m' ∧ PgC m' (L ++ rtx (D.drop (2 * k)) k) ∧ FJ m m' := by
  have h32 := hD.2.2.2.1
  rw [List.length_map] at h32
  intro d
  induction d with
  | zero =>
    intro k N m L hk hN hP hR hL
    obtain ⟨N, rfl⟩ : ∃ y, N = y + 1 := ⟨N - 1, by omega⟩
    rw [List.drop_eq_nil_of_le (by omega), rtx, List.append_nil]
    · refine ⟨m, lp_exit ?_, hP, FJ.rf⟩
      show f_X3_putRange_l34 TT m 864 r (nI k) = _
      unfold f_X3_putRange_l34
      rw [stretches_spec hR, List.length_map, Option.bind_some, if_pos (nI_le (by omega) (by omega))]
    · intro lo hi r' e; cases e
  | succ d ih =>
    intro k N m L hk hN hP hR hL
    obtain ⟨N, rfl⟩ : ∃ y, N = y + 1 := ⟨N - 1, by omega⟩
    obtain ⟨lo, hlo⟩ := get_some (l := D) (k := 2 * k) (by omega)
    obtain ⟨hi, hhi⟩ := get_some (l := D) (k := 2 * k + 1) (by omega)
    have hdrop : D.drop (2 * k) = lo :: hi :: D.drop (2 * (k + 1)) := by
      rw [drop_get hlo, drop_get hhi, show 2 * k + 1 + 1 = 2 * (k + 1) by omega]
    obtain ⟨⟨v, rfl⟩, hle⟩ := GD_lo hD hlo hhi
    have d1 := hD.1 _ (List.mem_of_getElem? hlo)
    have d2 := hD.1 _ (List.mem_of_getElem? hhi)
    have hne : ¬ (rW v.1 v.2 = LE ∧ rwO hi = EN) := fun z => by
      have h2 := hle z.1 z.2
      have hk0 : k = 0 := by omega
      subst hk0
      exact hall (some v) hi hlo hhi ⟨h2, z.1, z.2⟩
    have sp : ∃ m1, (if k = 0 then f_X3_putText TT m 864 1048582 else f_X3_putText TT m 864 1048583) = some m1 ∧ PgC m1 (L ++ (if k = 0 then [] else [32, 124, 124, 32])) ∧ FI FPg m m1 := by
      by_cases h0 : k = 0
      · rw [if_pos h0, if_pos h0]
        exact words_C 5 (by omega) hP (by show L.length + 0 ≤ 2500; omega)
      · rw [if_neg h0, if_neg h0]
        exact words_C 6 (by omega) hP (by show L.length + 4 ≤ 2500; omega)
    obtain ⟨m1, e1, p1, f1⟩ := sp
    have hl4 : (if k = 0 then ([] : List Nat) else [32, 124, 124, 32]).length ≤ 4 := by split <;> simp
    have R1 := hR.keepJ hr f1.J
    obtain ⟨m2, e2, r2, j2, i2, o2⟩ := bound_C R1 hr (map_get hlo) s_867 (by omega)
    have R2 := R1.keepJ hr j2
    obtain ⟨m3, e3, r3, j3, i3, o3⟩ := bound_C R2 hr (map_get hhi) s_868 (by omega)
    have R3 := R2.keepJ hr j3
    have p3 : PgC m3 (L ++ (if k = 0 then [] else [32, 124, 124, 32])) := p1.kp (fun x j => (i3 x j).trans (i2 x j)) (fun x j => (j3.2.2 x j).trans (j2.2.2 x j))
    have lo3 : rowL m3 867 0 = rW v.1 v.2 := by
      rw [show rW v.1 v.2 = rowL m2 867 0 from r2.symm]
      unfold rowL
      exact rowF_congr (fun q _ => o3 _ _ (by omega))
    obtain ⟨m4, e4, p4, j4⟩ := stretch_C d1 d2 hne p3 lo3 r3 (by rw [List.length_append]; omega)
    have hsl := stx_len d1 d2
    have hw3 : gr m1 864 3 = 867 := p1.1.2.2.1
    have hw4 : gr m2 864 4 = 868 := (j2.2.2 _ _).trans p1.1.2.2.2.1
    have hbody : f_X3_putRange_l34 TT m 864 r (nI k) = some (.inl (nI (k + 1), m4)) := by
      unfold f_X3_putRange_l34 f_X3_putRange_j54
      rw [stretches_spec hR, List.length_map, Option.bind_some, if_neg (nI_ge (by omega) (by omega))]
      by_cases h0 : k = 0
      · rw [if_pos h0] at e1
        rw [if_pos (show nI k = 0 by rw [h0]; rfl), ob_of s_864, if_pos rfl, e1, Option.bind_some, hw3, show (2 : Int32) = nI 2 from rfl, pk_mul, e2, Option.bind_some, hw4, nI_1, e3, Option.bind_some, e4, Option.bind_some, lt_eq, nI_1]
      · rw [if_neg h0] at e1
        rw [if_neg (show ¬ nI k = 0 from nI_ne0 (by omega) (by omega)), ob_of s_864, if_pos rfl, e1, Option.bind_some, hw3, show (2 : Int32) = nI 2 from rfl, pk_mul, e2, Option.bind_some, hw4, nI_1, e3, Option.bind_some, e4, Option.bind_some, lt_eq, nI_1]
    have j14 : FJ m m4 := ((f1.J.tr j2).tr j3).tr j4
    obtain ⟨m', e5, p5, j5⟩ := ih (k + 1) N m4 _ (by omega) (by omega) p4 (hR.keepJ hr j14) (by rw [List.length_append, List.length_append]; omega)
    rw [lp_step (show (fun x : Int32 × Mi => f_X3_putRange_l34 TT x.2 864 r x.1) (nI k, m) = _ from hbody)]
    refine ⟨m', e5, ?_, j14.tr j5⟩
    rw [hdrop, rtx]
    rw [List.append_assoc, List.append_assoc] at p5
    exact p5
theorem putRange_C {r cap : Nat} {D : List DB} {m : Mi} {L : List Nat} (hD : GD D) (hr : r < 800) (hP : PgC m L) (hR : RG TT m r cap (D.map rwO)) (hL : L.length ≤ 200) : ∃ m', f_X3_putRange TT m 864 r = some m' ∧ PgC m' (L ++ wtx D) ∧ FJ m m' := by
  have h32 := hD.2.2.2.1
  have hev := hD.2.2.1
  rw [List.length_map] at h32 hev
  obtain ⟨h, hh⟩ : ∃ h, D.length = 2 * h := by
    unfold od at hev
    exact ⟨D.length / 2, by simp at hev; omega⟩
  have h7 := hR.2.2.2.2.2.2.1
  have h5 := hR.2.2.2.2.1
  have h6 := hR.2.2.2.2.2.1
  have g1 : gi m r 1 = nI D.length := by rw [hR.2.2.2.1, List.length_map]
  rw [List.length_map] at h5
  -- whether it is all
  have hall : ∃ b : Bool, f_X4_isAll TT m r = some (bI b) ∧ (b = true ↔ ∃ lo hi, D = [lo, hi] ∧ rwO lo = LE ∧ rwO hi = EN) := by
    unfold f_X4_isAll
    rw [g1]
    by_cases h2 : D.length = 2
    · obtain ⟨lo, hlo⟩ := get_some (l := D) (k := 0) (by omega)
      obtain ⟨hi, hhi⟩ := get_some (l := D) (k := 1) (by omega)
      have hDD : D = [lo, hi] := by
        match D, hlo, hhi, h2 with
        | [a, b], hlo, hhi, _ =>
          cases hlo
          cases hhi
          rfl
      have hh0 : rowL m (r + 1) 0 = rwO lo := RG_row hR (map_get hlo)
      have hh1 : rowL m (r + 1) 8 = rwO hi := RG_row hR (map_get hhi)
      have d2 := hD.1 _ (List.mem_of_getElem? hhi)
      have g8 : gl m (r + 1) 8 = 9223372036854775807 ↔ rwO hi = EN := by
        have e8 : gl m (r + 1) 8 = (rwO hi).getD 0 0 := by rw [← hh1]; rfl
        rw [e8]
        cases hi with
        | none => exact ⟨fun _ => rfl, fun _ => rfl⟩
        | some u =>
          have hn := d2.1.1 0
          constructor
          · intro z
            have z : lN (u.1.getD 0 0) = 9223372036854775807 := z
            rw [l40.2.1, pk_lEQ (by omega) (by omega)] at z
            omega
          · intro z
            exact absurd z (rW_EN d2.1)
      rw [if_pos (show nI D.length = 2 by rw [h2]; rfl), hR.2.1, isLeast_C hR.2.2.1 (by omega) (by omega), Option.bind_some, hh0]
      by_cases hle : rwO lo = LE
      · rw [if_pos hle, if_neg (by decide), show f_X10_isEndless TT m (r + 1) 8 = _ from isEndless_C (i := 8) hR.2.2.1 (by omega) (by omega), Option.bind_some]
        by_cases hen : rwO hi = EN
        · rw [if_pos (g8.mpr hen), if_neg (by decide)]
          exact ⟨true, rfl, fun _ => ⟨lo, hi, hDD, hle, hen⟩, fun _ => rfl⟩
        · rw [if_neg (fun z => hen (g8.mp z)), if_pos rfl]
          refine ⟨false, rfl, fun z => (Bool.false_ne_true z).elim, fun ⟨a, b, e1, _, e3⟩ => ?_⟩
          rw [hDD] at e1
          cases e1
          exact absurd e3 hen
      · rw [if_neg hle, if_pos rfl]
        refine ⟨false, rfl, fun z => (Bool.false_ne_true z).elim, fun ⟨a, b, e1, e2, _⟩ => ?_⟩
        rw [hDD] at e1
        cases e1
        exact absurd e2 hle
    · rw [if_neg (show ¬ nI D.length = 2 from fun z => h2 ((nI_eq (b := 2) (by omega) (by omega)).mp z))]
      refine ⟨false, rfl, fun z => (Bool.false_ne_true z).elim, fun ⟨a, b, e1, _⟩ => ?_⟩
      rw [e1] at h2
      exact absurd rfl h2
  obtain ⟨b, eb, hb⟩ := hall
  unfold f_X3_putRange
  rw [ob_of hR.1, if_pos rfl, eb, Option.bind_some]
  cases b with
  | true =>
    obtain ⟨lo, hi, hDD, e1, e2⟩ := hb.mp rfl
    obtain ⟨m1, a1, p1, f1⟩ := words_C 3 (by omega) hP (by show L.length + 1 ≤ 2500; omega)
    rw [if_neg bTr, show f_X3_putText TT m 864 1048580 = _ from a1, Option.bind_some]
    refine ⟨m1, rfl, ?_, f1.J⟩
    have ew : wtx D = [42] := by
      unfold wtx
      rw [hDD, if_neg (by simp), rtx, rtx, if_pos rfl, List.nil_append, List.append_nil]
      · obtain ⟨⟨v, rfl⟩, _⟩ := GD_lo hD (i := 0) (lo := lo) (hi := hi) (by rw [hDD]; rfl) (by rw [hDD]; rfl)
        unfold stx
        simp only
        have e1 : rW v.1 v.2 = LE := e1
        have hv1 := hD.1 (some v) (by rw [hDD]; exact List.mem_cons_self)
        rw [if_neg (fun z => by
          have h3 := z.2
          rw [e2] at h3
          have hl : BW (rW (nxt v.1 v.2).1 (nxt v.1 v.2).2) ∨ True := Or.inr trivial
          have h0 : cR (nxt v.1 v.2).1 (nxt v.1 v.2).2 0 = 9223372036854775807 := by
            have := congrArg (fun l => l.getD 0 0) h3
            exact this.symm
          have hn0 : (nxt v.1 v.2).1.getD 0 0 = v.1.getD 0 0 := by unfold nxt; split <;> rfl
          have hn := hv1.1.1 0
          rw [show cR (nxt v.1 v.2).1 (nxt v.1 v.2).2 0 = lN ((nxt v.1 v.2).1.getD 0 0) from rfl, hn0, l40.2.1, pk_lEQ (by omega) (by omega)] at h0
          omega), if_pos e1, if_pos e2]
      · intro lo' hi' r' e; cases e
    rw [ew]
    exact p1
  | false =>
    have hnb : ¬ ∃ lo hi, D = [lo, hi] ∧ rwO lo = LE ∧ rwO hi = EN := fun z => Bool.false_ne_true (hb.mpr z)
    rw [if_pos bF, stretches_spec hR, List.length_map, Option.bind_some]
    by_cases h0 : D = []
    · obtain ⟨m1, a1, p1, f1⟩ := words_C 4 (by omega) hP (by show L.length + 4 ≤ 2500; omega)
      rw [if_pos (show nI (D.length / 2) = 0 by rw [h0]; rfl), show f_X3_putText TT m 864 1048581 = _ from a1, Option.bind_some]
      refine ⟨m1, rfl, ?_, f1.J⟩
      unfold wtx
      rw [if_pos h0]
      exact p1
    · have hl0 : D.length ≠ 0 := fun z => h0 (List.length_eq_zero_iff.mp z)
      rw [if_neg (nI_ne0 (by omega) (by omega))]
      obtain ⟨m', e, p, j⟩ := rangeC_lp (r := r) (cap := cap) hD hr (fun lo hi h1 h2 z => hnb ⟨lo, hi, by
        match D, h1, h2, z.1 with
        | [a, b], h1, h2, _ =>
          cases h1
          cases h2
          rfl, z.2.1, z.2.2⟩) h 0 FUEL m L (by omega) (by unfold FUEL; omega) hP hR (by omega)
      refine ⟨m', ?_, ?_, j⟩
      · unfold f_X3_putRange_j34
        rw [show ((0 : Int32), m) = (nI 0, m) from rfl, e, Option.bind_some]
        rfl
      · unfold wtx
        rw [if_neg h0]
        exact p
