/-! The reference: first, none, and the next end above the mark. -/
theorem mfirst_spec {t : List Sh} {m : Mi} {z a n i : Nat} (ha : sh t a = some (.inr (.long, n))) (hi : i + 9 ≤ n) (hn : n < 2 ^ 31) : f_X12_first t m z a (nI i) = some (blkL m a i (i + 9) (fun q => if q = i + 3 then 1 else 0)) := by
  unfold f_X12_first f_X12_first_j2
  have h := lp_count (body := fun x : Int32 × Mi => f_X12_first_l2 t x.2 a (nI i) x.1) (fun k => (nI k, blkL m a i (i + k) (fun _ => 0))) (a := 0) (n := 9) (y := blkL m a i (i + 9) (fun _ => 0)) (by omega) (by omega) (fun k _ hk => ?_) ?_
  · rw [Nat.add_zero, blkL_nil] at h
    rw [show ((0 : Int32), m) = (nI 0, m) from rfl, h, Option.bind_some]
    unfold f_X12_first_j20
    rw [show (3 : Int32) = nI 3 from rfl, nI_add, if_pos (ar_of ha (by omega) hn), lt_eq, ix_nI (by omega)]
    congr 1
    refine Mi.ext' (fun _ _ => rfl) (fun x j => ?_) (fun _ _ => rfl)
    simp only [mS]
    by_cases h1 : x = a ∧ j = i + 3
    · rw [if_pos h1, if_pos (by omega), if_pos h1.2]
    · rw [if_neg h1]
      by_cases h2 : x = a ∧ i ≤ j ∧ j < i + 9
      · rw [if_pos h2, if_pos h2, if_neg (fun e => h1 ⟨h2.1, e⟩)]
      · rw [if_neg h2, if_neg h2]
  · show f_X12_first_l2 t (blkL m a i (i + k) _) a (nI i) (nI k) = _
    unfold f_X12_first_l2
    rw [if_neg (by rw [show (9 : Int32) = nI 9 from rfl]; exact nI_ge (by omega) (by omega)), nI_add, if_pos (ar_of ha (by omega) hn), lt_eq, lt_eq, ix_nI (by omega), nI_1]
    congr 3
    rw [← Nat.add_assoc, ← blkL_snoc m a i (i + k) _ (by omega)]
  · show f_X12_first_l2 t (blkL m a i (i + 9) _) a (nI i) (nI 9) = _
    unfold f_X12_first_l2
    rw [if_pos (by decide)]
theorem mnone_spec {t : List Sh} {m : Mi} {z a n i : Nat} (ha : sh t a = some (.inr (.long, n))) (hi : i + 9 ≤ n) (hn : n < 2 ^ 31) : f_X12_none t m z a (nI i) = some (blkL m a i (i + 9) (fun q => if q = i then 1099511627776 else 0)) := by
  unfold f_X12_none f_X12_none_j2
  have h := lp_count (body := fun x : Int32 × Mi => f_X12_none_l2 t x.2 a (nI i) x.1) (fun k => (nI k, blkL m a i (i + k) (fun _ => 0))) (a := 0) (n := 9) (y := blkL m a i (i + 9) (fun _ => 0)) (by omega) (by omega) (fun k _ hk => ?_) ?_
  · rw [Nat.add_zero, blkL_nil] at h
    rw [show ((0 : Int32), m) = (nI 0, m) from rfl, h, Option.bind_some]
    unfold f_X12_none_j20
    rw [if_pos (ar_of ha (by omega) hn), lt_eq, ix_nI (by omega)]
    congr 1
    refine Mi.ext' (fun _ _ => rfl) (fun x j => ?_) (fun _ _ => rfl)
    simp only [mS]
    by_cases h1 : x = a ∧ j = i
    · rw [if_pos h1, if_pos (by omega), if_pos h1.2]
    · rw [if_neg h1]
      by_cases h2 : x = a ∧ i ≤ j ∧ j < i + 9
      · rw [if_pos h2, if_pos h2, if_neg (fun e => h1 ⟨h2.1, e⟩)]
      · rw [if_neg h2, if_neg h2]
  · show f_X12_none_l2 t (blkL m a i (i + k) _) a (nI i) (nI k) = _
    unfold f_X12_none_l2
    rw [if_neg (by rw [show (9 : Int32) = nI 9 from rfl]; exact nI_ge (by omega) (by omega)), nI_add, if_pos (ar_of ha (by omega) hn), lt_eq, lt_eq, ix_nI (by omega), nI_1]
    congr 3
    rw [← Nat.add_assoc, ← blkL_snoc m a i (i + k) _ (by omega)]
  · show f_X12_none_l2 t (blkL m a i (i + 9) _) a (nI i) (nI 9) = _
    unfold f_X12_none_l2
    rw [if_pos (by decide)]
/-- above every version -/
def EN : Row := [9223372036854775807, 0, 0, 0, 0, 0, 0, 0]
/-- the least version, 0.0.0-0 -/
def LE : Row := [0, 0, 0, 1, 0, 0, 0, 0]
theorem trF_end {f : Nat → Int64} (h : f 0 = 1099511627776) : trM f = EN := by
  unfold trM rowF trF EN
  simp only [h, if_true]
  rfl
theorem VR_end {f : Nat → Int64} (h : ∀ k, k < 9 → f k = if k = 0 then 1099511627776 else 0) : VR f := by
  refine ⟨fun k => if k = 0 then 1099511627776 else 0, fun k hk => ⟨?_, ?_⟩, Or.inl ⟨rfl, rfl, rfl, rfl⟩⟩
  · rw [h k hk]
    show _ = lN (if k = 0 then 1099511627776 else 0)
    by_cases e : k = 0
    · rw [if_pos e, if_pos e]; rfl
    · rw [if_neg e, if_neg e]; rfl
  · show (if k = 0 then 1099511627776 else 0) < _
    split <;> omega
theorem VR_least {f : Nat → Int64} (h : ∀ k, k < 9 → f k = if k = 3 then 1 else 0) : VR f := by
  refine ⟨fun k => if k = 3 then 1 else 0, fun k hk => ⟨?_, ?_⟩, Or.inr ⟨by decide, by decide, by decide, by decide, fun k hk => ?_⟩⟩
  · rw [h k hk]
    show _ = lN (if k = 3 then 1 else 0)
    by_cases e : k = 3
    · rw [if_pos e, if_pos e]; rfl
    · rw [if_neg e, if_neg e]; rfl
  · show (if k = 3 then 1 else 0) < _
    split <;> omega
  · have : k = 0 := by simp at hk; omega
    subst this
    exact Or.inl (by decide)
/-- of a valid row: it is the end just if its first number says so -/
theorem VR_isEnd {f : Nat → Int64} (h : VR f) : (f 0 = 1099511627776) ↔ trM f = EN := by
  refine ⟨trF_end, fun e => ?_⟩
  obtain ⟨g, hg, hv⟩ := h
  have h0 := hg 0 (by omega)
  rcases hv with hv | hv
  · rw [h0.1, hv.1]; rfl
  · exfalso
    have e0 : trF f 0 = 9223372036854775807 := by
      have : (trM f)[0]? = EN[0]? := by rw [e]
      exact Option.some.inj this
    unfold trF at e0
    rw [if_neg (by rw [h0.1, l40.1]; exact fun e2 => by have := (pk_lEQ (by omega) (by omega)).mp e2; omega), if_pos (by omega), h0.1, l40.2.1] at e0
    have := (pk_lEQ (by omega) (by omega)).mp e0
    omega
/-- the least of what is above X, no more than c -/
def nx (X c : Row) : List Row → Row
  | [] => c
  | e :: L => nx X (if cmpL e X = 1 ∧ cmpL e c = -1 then e else c) L
/-- only mark and other may have changed -/
def KpN (m m' : Mi) : Prop := (∀ x j, x ≠ 878 → x ≠ 879 → gl m' x j = gl m x j) ∧ (∀ x j, gi m' x j = gi m x j) ∧ ∀ x j, gr m' x j = gr m x j
theorem KpN.rf {m : Mi} : KpN m m := ⟨fun _ _ _ _ => rfl, fun _ _ => rfl, fun _ _ => rfl⟩
theorem KpN.tr {m m1 m2 : Mi} (h : KpN m m1) (h2 : KpN m1 m2) : KpN m m2 := ⟨fun x j a b => (h2.1 x j a b).trans (h.1 x j a b), fun x j => (h2.2.1 x j).trans (h.2.1 x j), fun x j => (h2.2.2 x j).trans (h.2.2 x j)⟩
def row9 (m : Mi) (a : Nat) : Nat → Int64 := fun z => gl m a (0 + z)
/-- the inner loop of nextEnd, over one range's ends -/
theorem mne_lp {r k0 how1 how2 s0 : Nat} {B : List Row} {X : Row} (hr : r < 272) (hk0 : k0 ≤ 16) :
    ∀ (d k N : Nat) (m : Mi), k + d = 2 * k0 → d < N → WFM m → gi m 874 r = nI k0 → (∀ b, b < 2 * k0 → VR (fun z => gl m 875 (288 * r + 9 * b + z))) → bM m r k0 = B → VR (row9 m 878) → VR (row9 m 879) → trM (row9 m 878) = X →
    ∃ m', lp (fun x : Int32 × Mi => f_X12_nextEnd_l30 TT x.2 870 (nI how1) (nI how2) (nI s0) (nI r) x.1) N (nI k, m) = some m' ∧ trM (row9 m' 879) = nx X (trM (row9 m 879)) (B.drop k) ∧ VR (row9 m' 879) ∧ (∀ j, gl m' 878 j = gl m 878 j) ∧ KpN m m' := by
  intro d
  induction d with
  | zero =>
    intro k N m hk hN hM hg hv hb hx ho hX
    obtain ⟨N, rfl⟩ : ∃ z, N = z + 1 := ⟨N - 1, by omega⟩
    have r7 : gr m 870 7 = 874 := hM 7 (by omega)
    have hl : B.length = 2 * k0 := by rw [← hb]; simp [bM]
    refine ⟨m, lp_exit ?_, ?_, ho, fun _ => rfl, KpN.rf⟩
    · show f_X12_nextEnd_l30 TT m 870 (nI how1) (nI how2) (nI s0) (nI r) (nI k) = _
      unfold f_X12_nextEnd_l30
      rw [r7, if_pos (ar_of s_874 hr (by omega)), ix_nI (by omega), hg, show (2 : Int32) = nI 2 from rfl, pk_mul, if_pos (nI_le (by omega) (by omega))]
    · rw [List.drop_eq_nil_of_le (by omega)]
      rfl
  | succ d ih =>
    intro k N m hk hN hM hg hv hb hx ho hX
    obtain ⟨N, rfl⟩ : ∃ z, N = z + 1 := ⟨N - 1, by omega⟩
    have r7 : gr m 870 7 = 874 := hM 7 (by omega)
    have r8 : gr m 870 8 = 875 := hM 8 (by omega)
    have r12 : gr m 870 12 = 878 := hM 12 (by omega)
    have r13 : gr m 870 13 = 879 := hM 13 (by omega)
    have hl : B.length = 2 * k0 := by rw [← hb]; simp [bM]
    have hkl : k < B.length := by omega
    have hve := hv k (by omega)
    have eD : B.drop k = trM (fun z => gl m 875 (288 * r + 9 * k + z)) :: B.drop (k + 1) := by
      have g0 := bM_get (m := m) (r := r) (n := k0) (b := k) (by omega)
      rw [hb, List.getElem?_eq_getElem hkl] at g0
      rw [List.drop_eq_getElem_cons hkl, Option.some.inj g0]
    have c1 : f_X12_compare TT m 875 (nI (288 * r + 9 * k)) 878 (nI 0) = some (cmpL (trM (fun z => gl m 875 (288 * r + 9 * k + z))) X) := by
      rw [mcompare_spec s_875 s_878 (by omega) (by omega) (by omega) (by omega), ← hX]
      exact congrArg some (cmp_tr hve hx)
    have c2 : f_X12_compare TT m 875 (nI (288 * r + 9 * k)) 879 (nI 0) = some (cmpL (trM (fun z => gl m 875 (288 * r + 9 * k + z))) (trM (row9 m 879))) := by
      rw [mcompare_spec s_875 s_879 (by omega) (by omega) (by omega) (by omega)]
      exact congrArg some (cmp_tr hve ho)
    have hcp := mcopy_spec (m := m) (a := 879) (i := 0) (b := 875) (j := 288 * r + 9 * k) s_879 s_875 (by omega) (by omega) (by omega) (by omega) (Or.inl (by decide))
    generalize hm1 : blkL m 879 0 (0 + 9) (fun q => gl m 875 (288 * r + 9 * k + (q - 0))) = m1 at hcp
    have hb1 : f_X12_nextEnd_l30 TT m 870 (nI how1) (nI how2) (nI s0) (nI r) (nI k) = if cmpL (trM (fun z => gl m 875 (288 * r + 9 * k + z))) X = 1 ∧ cmpL (trM (fun z => gl m 875 (288 * r + 9 * k + z))) (trM (row9 m 879)) = -1 then some (.inl (nI (k + 1), m1)) else some (.inl (nI (k + 1), m)) := by
      unfold f_X12_nextEnd_l30
      rw [r7, if_pos (ar_of s_874 hr (by omega)), ix_nI (by omega), hg, show (2 : Int32) = nI 2 from rfl, show (9 : Int32) = nI 9 from rfl, show (0 : Int32) = nI 0 from rfl, pk_mul, if_neg (nI_ge (by omega) (by omega)), from_spec, Option.bind_some, lt_eq, r8, r12, r13, pk_mul, nI_add, show 288 * r + 18 * 0 + k * 9 = 288 * r + 9 * k by omega, c1, Option.bind_some, c2, Option.bind_some, hcp, Option.bind_some]
      simp only [lt_eq, nI_1]
      rw [show nI 0 = (0 : Int32) from rfl]
      by_cases q1 : cmpL (trM (fun z => gl m 875 (288 * r + 9 * k + z))) X = 1
      · rw [if_neg (fun e => ((cle _ _).mp e) q1)]
        by_cases q2 : cmpL (trM (fun z => gl m 875 (288 * r + 9 * k + z))) (trM (row9 m 879)) = -1
        · rw [if_neg (fun e => ((cge _ _).mp e) q2), if_pos ⟨q1, q2⟩]
        · rw [if_pos ((cge _ _).mpr q2), if_neg (fun e => q2 e.2)]
      · rw [if_pos ((cle _ _).mpr q1), if_neg (fun e => q1 e.1)]
    rw [eD, nx]
    by_cases q : cmpL (trM (fun z => gl m 875 (288 * r + 9 * k + z))) X = 1 ∧ cmpL (trM (fun z => gl m 875 (288 * r + 9 * k + z))) (trM (row9 m 879)) = -1
    · rw [if_pos q] at hb1 ⊢
      have k1 : KpN m m1 := by
        rw [← hm1]
        exact ⟨fun x j _ h => by simp only [mS]; rw [if_neg (fun e => h e.1)], fun _ _ => rfl, fun _ _ => rfl⟩
      have e878 : ∀ j, gl m1 878 j = gl m 878 j := by
        intro j
        rw [← hm1]
        simp only [mS]
        rw [if_neg (by omega)]
      have e879 : trM (row9 m1 879) = trM (fun z => gl m 875 (288 * r + 9 * k + z)) := by
        unfold trM
        apply rowF_congr
        intro z hz
        unfold trF row9
        rw [← hm1]
        simp only [mS]
        simp
        have : ∀ w, w < 9 → (if w < 9 then gl m 875 (288 * r + 9 * k + w) else gl m 879 w) = gl m 875 (288 * r + 9 * k + w) := fun w hw => if_pos hw
        rw [this (z + 1) (by omega), this z (by omega)]
      have v879 : VR (row9 m1 879) := by
        obtain ⟨g, hg1, hg2⟩ := hve
        refine ⟨g, fun w hw => ?_, hg2⟩
        have := hg1 w hw
        refine ⟨?_, this.2⟩
        rw [← this.1, ← hm1]
        unfold row9
        simp only [mS]
        rw [if_pos ⟨trivial, by omega, by omega⟩, show 0 + w - 0 = w by omega]
      obtain ⟨m2, e2, g1, g2, g3, g4⟩ := ih (k + 1) N m1 (by omega) (by omega) (fun z hz => (k1.2.2 _ _).trans (hM z hz)) ((k1.2.1 _ _).trans hg) (fun b hb' => by
        have := hv b hb'
        have e : (fun z => gl m1 875 (288 * r + 9 * b + z)) = fun z => gl m 875 (288 * r + 9 * b + z) := funext fun z => k1.1 _ _ (by decide) (by decide)
        rw [e]; exact this) (by
        rw [← hb]
        unfold bM
        apply List.map_congr_left
        intro b _
        have e : (fun z => gl m1 875 (288 * r + 9 * b + z)) = fun z => gl m 875 (288 * r + 9 * b + z) := funext fun z => k1.1 _ _ (by decide) (by decide)
        rw [e]) (by
        have e : row9 m1 878 = row9 m 878 := funext fun z => e878 _
        rw [e]; exact hx) v879 (by
        have e : row9 m1 878 = row9 m 878 := funext fun z => e878 _
        rw [e]; exact hX)
      refine ⟨m2, ?_, ?_, g2, fun j => (g3 j).trans (e878 j), k1.tr g4⟩
      · rw [lp_step (x' := (nI (k + 1), m1)) hb1]
        exact e2
      · rw [g1, e879]
    · rw [if_neg q] at hb1 ⊢
      obtain ⟨m2, e2, g1, g2, g3, g4⟩ := ih (k + 1) N m (by omega) (by omega) hM hg hv hb hx ho hX
      refine ⟨m2, ?_, g1, g2, g3, g4⟩
      rw [lp_step (x' := (nI (k + 1), m)) hb1]
      exact e2
