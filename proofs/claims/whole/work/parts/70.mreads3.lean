/-! The reference reads a version: all together. -/
theorem mids_lp {n e : Nat} {cn : Bool} {T : Nat → Nat} (he : e ≤ n) :
    ∀ d k p N m, k + d = 4 → d + 1 < N → MT m n T → p ≤ e →
    (ids T e cn d p = none → ∃ m' y, lp (fun x : Int32 × Int32 × Int32 × Mi => f_X12_identifiers_l9 TT x.2.2.2 870 (nI e) (bI cn) x.1 x.2.1 x.2.2.1) N (nI p, nI k, 1, m) = some (.inr y) ∧ (y = .inl m' ∨ y = .inr m') ∧ KD m m') ∧
    (∀ is q', ids T e cn d p = some (is, q') → ∃ m', lp (fun x : Int32 × Int32 × Int32 × Mi => f_X12_identifiers_l9 TT x.2.2.2 870 (nI e) (bI cn) x.1 x.2.1 x.2.2.1) N (nI p, nI k, 1, m) = some (.inl (nI q', m')) ∧ KD m m' ∧ (∀ x j, gi m' x j = gi m x j) ∧ q' ≤ e ∧ 1 ≤ is.length ∧ is.length ≤ d ∧ (∀ w ∈ is, okn w) ∧ ∀ j, gl m' 873 j = if cn = true ∧ 4 + k ≤ j ∧ j < 4 + k + is.length then lN (is.getD (j - (4 + k)) 0) else if cn = true ∧ j = 3 then lN (k + is.length) else gl m 873 j) := by
  intro d
  induction d with
  | zero =>
    intro k p N m hk hN h hp
    obtain ⟨N, rfl⟩ : ∃ z, N = z + 1 := ⟨N - 1, by omega⟩
    obtain ⟨b1, -⟩ := mid_step (cn := cn) (k := k) h he hp (by omega)
    refine ⟨fun _ => ?_, fun is q' hx => by rw [ids] at hx; cases hx⟩
    rcases b1 (Or.inr (by omega)) with hb | hb
    · exact ⟨m, .inl m, lp_exit hb, Or.inl rfl, KD.rf⟩
    · exact ⟨m, .inr m, lp_exit hb, Or.inr rfl, KD.rf⟩
  | succ d ih =>
    intro k p N m hk hN h hp
    have hn := h.2.2.1
    obtain ⟨N, rfl⟩ : ∃ z, N = z + 1 + 1 := ⟨N - 2, by omega⟩
    obtain ⟨b1, b2⟩ := mid_step (cn := cn) (k := k) h he hp (by omega)
    rw [ids]
    cases hid : idn T e cn p with
    | none =>
      refine ⟨fun _ => ?_, fun is q' hx => (by cases hx)⟩
      rcases b1 (Or.inl hid) with hb | hb
      · exact ⟨m, .inl m, lp_exit hb, Or.inl rfl, KD.rf⟩
      · exact ⟨m, .inr m, lp_exit hb, Or.inr rfl, KD.rf⟩
    | some w =>
      obtain ⟨w, q⟩ := w
      obtain ⟨c1, c2, c3, m1, k1, gi1, l1, hb⟩ := b2 w q hid (by omega)
      simp only [Option.bind_some]
      by_cases hc : atE (fun x => decide (x = 46)) T e q = true
      · rw [if_pos hc] at hb ⊢
        have hqe : q < e := by
          unfold atE at hc
          simp only [Bool.and_eq_true, decide_eq_true_eq] at hc
          exact hc.1
        obtain ⟨i1, i2⟩ := ih (k + 1) (q + 1) (N + 1) m1 (by omega) (by omega) (h.keep k1) (by omega)
        rw [lp_step (x' := (nI (q + 1), nI (k + 1), 1, m1)) hb]
        cases ht : ids T e cn d (q + 1) with
        | none =>
          refine ⟨fun _ => ?_, fun is q' hx => (by cases hx)⟩
          obtain ⟨m3, y, e3, hy, k3⟩ := i1 ht
          exact ⟨m3, y, e3, hy, k1.tr k3⟩
        | some r2 =>
          obtain ⟨n2, q2⟩ := r2
          refine ⟨fun hx => (by cases hx), fun is q' hx => ?_⟩
          have hx := Option.some.inj hx
          have e3 : is = w :: n2 := (congrArg Prod.fst hx).symm
          have e4 : q' = q2 := (congrArg Prod.snd hx).symm
          subst e3
          subst e4
          obtain ⟨m3, e3, k3, gi3, aq, al1, al, aw, ar⟩ := i2 n2 q' ht
          refine ⟨m3, e3, k1.tr k3, fun x j => (gi3 x j).trans (gi1 x j), aq, by simp, by simp; omega, fun x hx => ?_, fun j => ?_⟩
          · rcases List.mem_cons.mp hx with h9 | h9
            · rw [h9]; exact c3
            · exact aw x h9
          · rw [ar j, l1 j]
            simp only [List.length_cons]
            by_cases hj : cn = true ∧ 4 + (k + 1) ≤ j ∧ j < 4 + (k + 1) + n2.length
            · rw [if_pos hj, if_pos ⟨hj.1, by omega, by omega⟩, show j - (4 + k) = (j - (4 + (k + 1))) + 1 by omega, List.getD_cons_succ]
            · rw [if_neg hj]
              by_cases hj3 : cn = true ∧ j = 3
              · rw [if_pos hj3, if_neg (by omega), if_pos hj3, show k + 1 + n2.length = k + (n2.length + 1) by omega]
              · rw [if_neg hj3]
                by_cases hjk : cn = true ∧ j = 4 + k
                · rw [if_pos hjk, if_pos ⟨hjk.1, by omega, by omega⟩, show j - (4 + k) = 0 by omega, List.getD_cons_zero]
                · rw [if_neg hjk, if_neg hj3, if_neg (fun e => (by by_cases h9 : j = 4 + k; (exact hjk ⟨e.1, h9⟩); (exact hj ⟨e.1, by omega, by omega⟩))), if_neg hj3]
      · rw [if_neg hc] at hb ⊢
        refine ⟨fun hx => (by cases hx), fun is q' hx => ?_⟩
        have hx := Option.some.inj hx
        have e3 : is = [w] := (congrArg Prod.fst hx).symm
        have e4 : q' = q := (congrArg Prod.snd hx).symm
        subst e3
        subst e4
        refine ⟨m1, ?_, k1, gi1, c1, by simp, by simp, fun x hx => (by simp at hx; rw [hx]; exact c3), fun j => ?_⟩
        · rw [lp_step (x' := (nI q', nI (k + 1), 0, m1)) hb]
          refine lp_exit ?_
          show f_X12_identifiers_l9 TT m1 870 (nI e) (bI cn) (nI q') (nI (k + 1)) 0 = _
          unfold f_X12_identifiers_l9
          rw [if_pos rfl]
        · rw [l1 j]
          simp only [List.length_cons, List.length_nil]
          by_cases hjk : cn = true ∧ j = 4 + k
          · rw [if_pos hjk, if_pos ⟨hjk.1, by omega, by omega⟩, show j - (4 + k) = 0 by omega, List.getD_cons_zero]
          · rw [if_neg hjk, if_neg (show ¬ (cn = true ∧ 4 + k ≤ j ∧ j < 4 + k + (0 + 1)) from fun e => hjk ⟨e.1, by omega⟩)]
theorem idsM_spec {m : Mi} {n e p : Nat} {cn : Bool} {T : Nat → Nat} (h : MT m n T) (he : e ≤ n) (hp : p ≤ e) :
    (ids T e cn 4 p = none → ∃ m', f_X12_identifiers TT m 870 (nI p) (nI e) (bI cn) = some (-1, m') ∧ KD m m') ∧
    (∀ is q', ids T e cn 4 p = some (is, q') → ∃ m', f_X12_identifiers TT m 870 (nI p) (nI e) (bI cn) = some (nI q', m') ∧ KD m m' ∧ (∀ x j, gi m' x j = gi m x j) ∧ q' ≤ e ∧ 1 ≤ is.length ∧ is.length ≤ 4 ∧ (∀ w ∈ is, okn w) ∧ ∀ j, gl m' 873 j = if cn = true ∧ 4 ≤ j ∧ j < 4 + is.length then lN (is.getD (j - 4) 0) else if cn = true ∧ j = 3 then lN is.length else gl m 873 j) := by
  obtain ⟨i1, i2⟩ := mids_lp (cn := cn) he 4 0 p FUEL m (by omega) (by unfold FUEL; omega) h hp
  unfold f_X12_identifiers f_X12_identifiers_j9
  refine ⟨fun hx => ?_, fun is q hx => ?_⟩
  · obtain ⟨m1, y, e1, hy, k1⟩ := i1 hx
    refine ⟨m1, ?_, k1⟩
    rw [show (0 : Int32) = nI 0 from rfl, e1]
    rcases hy with hy | hy <;> rw [hy] <;> rfl
  · obtain ⟨m1, e1, k1, g1, q1, l1, l4, w1, r1⟩ := i2 is q hx
    refine ⟨m1, ?_, k1, g1, q1, l1, l4, w1, fun j => ?_⟩
    · rw [show (0 : Int32) = nI 0 from rfl, e1]
      rfl
    · rw [r1 j, Nat.zero_add]
/-- the reference's row of a version -/
def mR (ns is : List Nat) (j : Nat) : Int64 := if j < 3 then lN (ns.getD j 0) else if j = 3 then lN is.length else if j - 4 < is.length then lN (is.getD (j - 4) 0) else 0
/-- what the numbers and identifiers of a version are -/
def VW (f : Nat) (ns is : List Nat) : Prop := (1 ≤ ns.length ∧ ns.length ≤ 3 ∧ ∀ w ∈ ns, w < 1000000000) ∧ (is.length ≤ 4 ∧ ∀ w ∈ is, okn w) ∧ ((f = 2 ∧ ns.length = 3) ∨ (f = 1 ∧ ns.length < 3 ∧ is = []))
theorem mzero {m : Mi} (hM : WFM m) (a1 a2 : Int32) : lp (fun x : Int32 × Mi => f_X12_reads_l2 TT x.2 870 a1 a2 x.1) FUEL (0, m) = some (blkL m 873 0 9 (fun _ => 0)) := by
  have r4 : gr m 870 4 = 873 := hM 4 (by omega)
  have h := lp_count (body := fun x : Int32 × Mi => f_X12_reads_l2 TT x.2 870 a1 a2 x.1) (fun k => (nI k, blkL m 873 0 k (fun _ => 0))) (a := 0) (n := 9) (y := blkL m 873 0 9 (fun _ => 0)) (by omega) (by omega) (fun k _ hk => ?_) ?_
  · rw [blkL_nil] at h
    exact h
  · show f_X12_reads_l2 TT _ 870 a1 a2 (nI k) = _
    unfold f_X12_reads_l2
    have r4' : gr (blkL m 873 0 k (fun _ => 0)) 870 4 = 873 := r4
    rw [if_neg (show ¬ (9 : Int32) ≤ nI k from nI_ge (b := 9) hk (by omega)), r4', if_pos (ar_of s_873 hk (by omega)), ix_nI (by omega)]
    simp only [bS]
    rw [nI_1, blkL_snoc m 873 0 k (fun _ => 0) (by omega)]
  · show f_X12_reads_l2 TT _ 870 a1 a2 (nI 9) = _
    unfold f_X12_reads_l2
    rw [if_pos (by decide)]
theorem reads_spec {m : Mi} {n a e : Nat} {T : Nat → Nat} (h : MT m n T) (he : e ≤ n) (ha : a ≤ e) :
    ∃ m', f_X12_reads TT m 870 (nI a) (nI e) = some (nI (rdc T a e), m') ∧ KD m m' ∧ ∀ f ns is, rdv T a e = some (f, (ns, is)) → gi m' 870 5 = nI ns.length ∧ (∀ j, j < 9 → gl m' 873 j = mR ns is j) ∧ VW f ns is := by
  have hn := h.2.2.1
  generalize hm1 : blkL m 873 0 9 (fun _ => (0 : Int64)) = m1
  have k1 : KD m m1 := by
    rw [← hm1]
    refine ⟨fun _ _ _ => rfl, fun x j h1 _ => ?_, fun _ _ => rfl⟩
    simp only [mS]
    rw [if_neg (by omega)]
  have l1 : ∀ j, j < 9 → gl m1 873 j = 0 := by
    intro j hj
    rw [← hm1]
    simp only [mS]
    rw [if_pos ⟨trivial, by omega, hj⟩]
  have h1 : MT m1 n T := h.keep k1
  have hst : f_X12_reads TT m 870 (nI a) (nI e) = f_X12_reads_j29 TT m1 870 (nI e) (nI a) 0 1 := by
    unfold f_X12_reads f_X12_reads_j2
    rw [mzero h.1, hm1]
    rfl
  rw [hst]
  unfold f_X12_reads_j29
  obtain ⟨n1, n2⟩ := mnums_lp he 2 0 a FUEL m1 (by omega) (by unfold FUEL; omega) h1 ha
  unfold rdc
  cases hnu : nums T e a with
  | none =>
    obtain ⟨m2, e2, k2⟩ := n1 hnu
    have hrd : rdv T a e = none := by unfold rdv; rw [hnu]; rfl
    rw [show (0 : Int32) = nI 0 from rfl, e2, hrd]
    exact ⟨m2, rfl, k1.tr k2, fun f ns is hx => (by cases hx)⟩
  | some w =>
    obtain ⟨ns, q⟩ := w
    obtain ⟨m2, e2, k2, aq, al1, al, aw, ar⟩ := n2 ns q hnu
    rw [show (0 : Int32) = nI 0 from rfl, e2, Nat.zero_add]
    have hrd : rdv T a e = (if ns.length = 3 then
        (if atE (fun x => decide (x = 45)) T e q = true then ids T e true 4 (q + 1) else some ([], q)).bind fun i =>
        (if atE (fun x => decide (x = 43)) T e i.2 = true then (ids T e false 4 (i.2 + 1)).map (fun z => z.2) else some i.2).bind fun q => if q = e then some (2, (ns, i.1)) else none
      else if fil T e (3 - ns.length) q = true then some (1, (ns, [])) else none) := by
      unfold rdv
      rw [hnu]
      rfl
    show ∃ m', f_X12_reads_j125 TT m2 870 (nI e) (nI q) (nI ns.length) = _ ∧ _
    unfold f_X12_reads_j125
    rw [lt_eq]
    generalize hm3 : si m2 870 5 (nI ns.length) = m3
    have k3 : KD m2 m3 := by
      rw [← hm3]
      refine ⟨fun x j hx => ?_, fun _ _ _ _ => rfl, fun _ _ => rfl⟩
      simp only [mS]
      rw [if_neg hx]
    have g5 : gi m3 870 5 = nI ns.length := by
      rw [← hm3]
      exact gi_si _ _ _ _
    have l3 : ∀ j, j < 9 → gl m3 873 j = if j < ns.length then lN (ns.getD j 0) else 0 := by
      intro j hj
      rw [← hm3]
      show gl m2 873 j = _
      rw [ar j, l1 j hj]
      simp
    have h3 : MT m3 n T := (h1.keep k2).keep k3
    have kk : KD m m3 := (k1.tr k2).tr k3
    by_cases hl3 : ns.length = 3
    · rw [if_pos (show nI ns.length = 3 by rw [hl3]; rfl)]
      rw [if_pos hl3] at hrd
      have done : ∀ (m4 : Mi) (is : List Nat) (q4 : Nat), KD m3 m4 → gi m4 870 5 = gi m3 870 5 → q4 ≤ e → (is.length ≤ 4 ∧ ∀ w ∈ is, okn w) → (∀ j, j < 9 → gl m4 873 j = mR ns is j) → rdv T a e = (if q4 = e then some (2, (ns, is)) else none) → ∃ m', (bd (f_X12_rest_j66 TT m4 (nI e) (nI q4)) fun (x3 : Int32) (m4 : Mi) => if x3 = 0 then some ((0 : Int32), m4) else some (2, m4)) = some (nI (match rdv T a e with | none => 0 | some w => w.1), m') ∧ KD m m' ∧ ∀ f ns is, rdv T a e = some (f, (ns, is)) → gi m' 870 5 = nI ns.length ∧ (∀ j, j < 9 → gl m' 873 j = mR ns is j) ∧ VW f ns is := by
        intro m4 is q4 k4 g4 hq4 hw hl hR
        unfold f_X12_rest_j66
        rw [hR]
        by_cases hqe : q4 = e
        · rw [if_pos (by rw [hqe]), if_pos hqe]
          refine ⟨m4, rfl, kk.tr k4, fun f ns' is' hx => ?_⟩
          have hx := Option.some.inj hx
          have x0 : f = 2 := (congrArg (fun z => z.1) hx).symm
          have x1 : ns' = ns := (congrArg (fun z => z.2.1) hx).symm
          have x2 : is' = is := (congrArg (fun z => z.2.2) hx).symm
          rw [x0, x1, x2]
          exact ⟨g4.trans g5, hl, ⟨al1, al, aw⟩, hw, Or.inl ⟨rfl, hl3⟩⟩
        · rw [if_neg (fun x => hqe ((nI_eq (by omega) (by omega)).mp x)), if_neg hqe]
          exact ⟨m4, rfl, kk.tr k4, fun f ns' is' hx => (by cases hx)⟩
      have atE_mg : ∀ (i c : Nat), c < 256 → i ≤ e → (atE (fun x => decide (x = c)) T e i = true → i < e ∧ mg T n i = nI c) ∧ (¬ atE (fun x => decide (x = c)) T e i = true → i < e → ¬ mg T n i = nI c) := by
        intro i c hc hi
        unfold atE
        simp only [Bool.and_eq_true, decide_eq_true_eq]
        refine ⟨fun x => ⟨x.1, ?_⟩, fun x hlt y => x ⟨hlt, ?_⟩⟩
        · unfold mg
          rw [if_pos (by omega), x.2]
        · unfold mg at y
          rw [if_pos (by omega)] at y
          have := h.lt i (by omega)
          exact (nI_eq (by omega) (by omega)).mp y
      have fin : ∀ (m4 : Mi) (is : List Nat) (q4 : Nat), KD m3 m4 → gi m4 870 5 = gi m3 870 5 → q4 ≤ e → (is.length ≤ 4 ∧ ∀ w ∈ is, okn w) → (∀ j, j < 9 → gl m4 873 j = mR ns is j) → rdv T a e = ((if atE (fun x => decide (x = 43)) T e q4 = true then (ids T e false 4 (q4 + 1)).map (fun z => z.2) else some q4).bind fun q => if q = e then some (2, (ns, is)) else none) → ∃ m', (bd (f_X12_rest_j34 TT m4 870 (nI e) (nI q4)) fun (x3 : Int32) (m4 : Mi) => if x3 = 0 then some ((0 : Int32), m4) else some (2, m4)) = some (nI (match rdv T a e with | none => 0 | some w => w.1), m') ∧ KD m m' ∧ ∀ f ns is, rdv T a e = some (f, (ns, is)) → gi m' 870 5 = nI ns.length ∧ (∀ j, j < 9 → gl m' 873 j = mR ns is j) ∧ VW f ns is := by
        intro m4 is q4 k4 g4 hq4 hw hl hR
        have h4 : MT m4 n T := h3.keep k4
        obtain ⟨x1, x2⟩ := atE_mg q4 43 (by omega) hq4
        unfold f_X12_rest_j34
        by_cases hq : e ≤ q4
        · rw [if_pos (nI_le hq (by omega))]
          rw [if_neg (fun x => absurd (x1 x).1 (by omega))] at hR
          exact done m4 is q4 k4 g4 hq4 hw hl hR
        · rw [if_neg (nI_ge (by omega) (by omega)), at_spec h4 (by omega), Option.bind_some]
          by_cases hp : atE (fun x => decide (x = 43)) T e q4 = true
          · rw [if_pos (show mg T n q4 = 43 from (x1 hp).2), nI_1]
            rw [if_pos hp] at hR
            obtain ⟨i1, i2⟩ := idsM_spec (cn := false) (p := q4 + 1) h4 he (by omega)
            cases hi : ids T e false 4 (q4 + 1) with
            | none =>
              obtain ⟨m5, e5, k5⟩ := i1 hi
              rw [hi] at hR
              rw [show (0 : Int32) = bI false from rfl, e5, bd_some, if_pos rfl, hR]
              exact ⟨m5, rfl, (kk.tr k4).tr k5, fun f ns' is' hx => (by cases hx)⟩
            | some w5 =>
              obtain ⟨is5, q5⟩ := w5
              obtain ⟨m5, e5, k5, g5', q5e, -, -, -, l5⟩ := i2 is5 q5 hi
              rw [hi] at hR
              rw [show (0 : Int32) = bI false from rfl, e5, bd_some, if_neg (nneg (by omega))]
              exact done m5 is q5 (k4.tr k5) ((g5' _ _).trans g4) q5e hw (fun j hj => by rw [l5 j, if_neg (by simp), if_neg (by simp)]; exact hl j hj) hR
          · rw [if_neg (show ¬ mg T n q4 = 43 from x2 hp (by omega))]
            rw [if_neg hp] at hR
            exact done m4 is q4 k4 g4 hq4 hw hl hR
      have base : ∀ j, j < 9 → gl m3 873 j = if j < 3 then lN (ns.getD j 0) else 0 := by
        intro j hj
        rw [l3 j hj, hl3]
      unfold f_X12_rest
      obtain ⟨x1, x2⟩ := atE_mg q 45 (by omega) aq
      have plain : ∀ j, j < 9 → gl m3 873 j = mR ns [] j := by
        intro j hj
        rw [base j hj]
        unfold mR
        by_cases hj3 : j < 3
        · rw [if_pos hj3, if_pos hj3]
        · rw [if_neg hj3, if_neg hj3]
          by_cases hj4 : j = 3
          · rw [if_pos hj4]; rfl
          · rw [if_neg hj4, if_neg (by simp)]
      by_cases hq : e ≤ q
      · rw [if_pos (nI_le hq (by omega))]
        rw [if_neg (fun x => absurd (x1 x).1 (by omega))] at hrd
        exact fin m3 [] q KD.rf rfl aq ⟨by simp, fun w hw => (by cases hw)⟩ plain hrd
      · rw [if_neg (nI_ge (by omega) (by omega)), at_spec h3 (by omega), Option.bind_some]
        by_cases hp : atE (fun x => decide (x = 45)) T e q = true
        · rw [if_pos (show mg T n q = 45 from (x1 hp).2), nI_1]
          rw [if_pos hp] at hrd
          obtain ⟨i1, i2⟩ := idsM_spec (cn := true) (p := q + 1) h3 he (by omega)
          cases hi : ids T e true 4 (q + 1) with
          | none =>
            obtain ⟨m5, e5, k5⟩ := i1 hi
            rw [hi] at hrd
            rw [show f_X12_identifiers TT m3 870 (nI (q + 1)) (nI e) 1 = _ from e5, bd_some, if_pos rfl, hrd]
            exact ⟨m5, rfl, kk.tr k5, fun f ns' is' hx => (by cases hx)⟩
          | some w5 =>
            obtain ⟨is5, q5⟩ := w5
            obtain ⟨m5, e5, k5, g5', q5e, i51, i54, i5w, l5⟩ := i2 is5 q5 hi
            rw [hi] at hrd
            rw [show f_X12_identifiers TT m3 870 (nI (q + 1)) (nI e) 1 = _ from e5, bd_some, if_neg (nneg (by omega))]
            refine fin m5 is5 q5 k5 (g5' _ _) q5e ⟨i54, i5w⟩ (fun j hj => ?_) hrd
            rw [l5 j, base j hj]
            unfold mR
            by_cases hj3 : j < 3
            · rw [if_neg (by omega), if_neg (by omega), if_pos hj3, if_pos hj3]
            · rw [if_neg hj3, if_neg hj3]
              by_cases hj4 : j = 3
              · rw [if_neg (by omega), if_pos ⟨rfl, hj4⟩, if_pos hj4]
              · rw [if_neg hj4]
                by_cases hj5 : j < 4 + is5.length
                · rw [if_pos ⟨rfl, by omega, hj5⟩, if_pos (by omega)]
                · rw [if_neg (by omega), if_neg (by omega), if_neg (by omega)]
        · rw [if_neg (show ¬ mg T n q = 45 from x2 hp (by omega))]
          rw [if_neg hp] at hrd
          exact fin m3 [] q KD.rf rfl aq ⟨by simp, fun w hw => (by cases hw)⟩ plain hrd
    · rw [if_neg (show ¬ nI ns.length = 3 from fun x => hl3 ((nI_eq (b := 3) (by omega) (by omega)).mp x))]
      rw [if_neg hl3] at hrd
      have res : ∀ b : Bool, fil T e (3 - ns.length) q = b → ∃ m', (some (bI b, m3) : Option (Int32 × Mi)) = some (nI (match rdv T a e with | none => 0 | some w => w.1), m') ∧ KD m m' ∧ ∀ f ns is, rdv T a e = some (f, (ns, is)) → gi m' 870 5 = nI ns.length ∧ (∀ j, j < 9 → gl m' 873 j = mR ns is j) ∧ VW f ns is := by
        intro b hb
        rw [hrd, hb]
        cases b with
        | false => exact ⟨m3, rfl, kk, fun f ns' is' hx => (by cases hx)⟩
        | true =>
          refine ⟨m3, rfl, kk, fun f ns' is' hx => ?_⟩
          have hx := Option.some.inj hx
          have x0 : f = 1 := (congrArg (fun z => z.1) hx).symm
          have x1 : ns' = ns := (congrArg (fun z => z.2.1) hx).symm
          have x2 : is' = [] := (congrArg (fun z => z.2.2) hx).symm
          rw [x0, x1, x2]
          refine ⟨g5, fun j hj => ?_, ⟨al1, al, aw⟩, ⟨by simp, fun w hw => (by cases hw)⟩, Or.inr ⟨rfl, by omega, rfl⟩⟩
          rw [l3 j hj]
          unfold mR
          by_cases hj3 : j < 3
          · rw [if_pos hj3]
            by_cases hjn : j < ns.length
            · rw [if_pos hjn]
            · rw [if_neg hjn, show ns.getD j 0 = 0 by rw [List.getD_eq_getElem?_getD, List.getElem?_eq_none (by omega)]; rfl]
              rfl
          · rw [if_neg hj3, if_neg (by omega)]
            by_cases hj4 : j = 3
            · rw [if_pos hj4]; rfl
            · rw [if_neg hj4, if_neg (by simp)]
      have hat : ∀ i, i < e → f_X12_at TT m3 870 (nI i) = some (nI (T i)) := by
        intro i hi
        rw [at_spec h3 (by omega)]
        unfold mg
        rw [if_pos (by omega)]
      have hne : ∀ i c, i < e → c < 256 → (nI (T i) = nI c ↔ T i = c) := fun i c hi hc => nI_eq (by have := h3.lt i (by omega); omega) (by omega)
      have isx_eq : ∀ i, isx T e i = (decide (i + 1 < e) && (decide (T i = 46) && decide (T (i + 1) = 120))) := by
        intro i
        unfold isx atE
        by_cases hi : i + 1 < e
        · rw [decide_eq_true hi, decide_eq_true (show i < e by omega)]
          simp
        · rw [decide_eq_false hi]
          simp
      have j190 : ∀ d, e = q + d → 1 ≤ d → f_X12_reads_j190 TT m3 870 (nI e) (nI q) (nI ns.length) = some (bI (decide (ns.length = 1) && (decide (d = 4) && (isx T e q && isx T e (q + 2)))), m3) := by
        intro d hd hd1
        unfold f_X12_reads_j190
        rw [pk_sub (by omega), show e - q = d by omega]
        by_cases hl1 : ns.length = 1
        · rw [if_pos (show nI ns.length = 1 by rw [hl1]; rfl), decide_eq_true hl1, Bool.true_and]
          by_cases hd4 : d = 4
          · rw [if_pos (show nI d = 4 by rw [hd4]; rfl), decide_eq_true hd4, Bool.true_and, isx_eq, isx_eq, decide_eq_true (show q + 1 < e by omega), decide_eq_true (show q + 2 + 1 < e by omega), Bool.true_and, Bool.true_and, hat q (by omega), Option.bind_some]
            by_cases t0 : T q = 46
            · rw [if_pos (show nI (T q) = 46 from (hne q 46 (by omega) (by omega)).mpr t0), decide_eq_true t0, Bool.true_and, show nI q + 1 = nI (q + 1) from nI_add q 1, hat (q + 1) (by omega), Option.bind_some]
              by_cases t1 : T (q + 1) = 120
              · rw [if_pos (show nI (T (q + 1)) = 120 from (hne _ 120 (by omega) (by omega)).mpr t1), decide_eq_true t1, Bool.true_and, show nI q + 2 = nI (q + 2) from nI_add q 2, hat (q + 2) (by omega), Option.bind_some]
                by_cases t2 : T (q + 2) = 46
                · rw [if_pos (show nI (T (q + 2)) = 46 from (hne _ 46 (by omega) (by omega)).mpr t2), decide_eq_true t2, Bool.true_and, show nI q + 3 = nI (q + 3) from nI_add q 3, hat (q + 3) (by omega), Option.bind_some]
                  by_cases t3 : T (q + 3) = 120
                  · rw [if_pos (show nI (T (q + 3)) = 120 from (hne _ 120 (by omega) (by omega)).mpr t3), decide_eq_true (show T (q + 2 + 1) = 120 from t3)]
                    rfl
                  · rw [if_neg (show ¬ nI (T (q + 3)) = 120 from fun x => t3 ((hne _ 120 (by omega) (by omega)).mp x)), decide_eq_false (show ¬ T (q + 2 + 1) = 120 from t3)]
                    rfl
                · rw [if_neg (show ¬ nI (T (q + 2)) = 46 from fun x => t2 ((hne _ 46 (by omega) (by omega)).mp x)), decide_eq_false t2]
                  rfl
              · rw [if_neg (show ¬ nI (T (q + 1)) = 120 from fun x => t1 ((hne _ 120 (by omega) (by omega)).mp x)), decide_eq_false t1]
                rfl
            · rw [if_neg (show ¬ nI (T q) = 46 from fun x => t0 ((hne q 46 (by omega) (by omega)).mp x)), decide_eq_false t0]
              rfl
          · rw [if_neg (show ¬ nI d = 4 from fun x => hd4 ((nI_eq (b := 4) (by omega) (by omega)).mp x)), decide_eq_false hd4]
            rfl
        · rw [if_neg (show ¬ nI ns.length = 1 from fun x => hl1 ((nI_eq (b := 1) (by omega) (by omega)).mp x)), decide_eq_false hl1]
          rfl
      have isx0 : ∀ i, e ≤ i + 1 → isx T e i = false := by
        intro i hi
        rw [isx_eq, decide_eq_false (by omega)]
        rfl
      have hlen : ns.length = 1 ∨ ns.length = 2 := by omega
      by_cases hqe : q = e
      · rw [if_pos (by rw [hqe])]
        refine res true ?_
        rcases hlen with hl | hl <;> rw [hl] <;> simp only [fil] <;> rw [isx0 q (by omega)] <;> simp [hqe]
      · rw [if_neg (fun x => hqe ((nI_eq (by omega) (by omega)).mp x))]
        obtain ⟨d, hd⟩ : ∃ d, e = q + d := ⟨e - q, by omega⟩
        rw [pk_sub (by omega), show e - q = d by omega, j190 d hd (by omega)]
        by_cases hd2 : d = 2
        · rw [if_pos (show nI d = 2 by rw [hd2]; rfl), hat q (by omega), Option.bind_some]
          have hf : fil T e (3 - ns.length) q = isx T e q := by
            have i2 : isx T e (q + 2) = false := isx0 _ (by omega)
            have e2 : q + 2 = e := by omega
            have i3 : isx T e e = false := isx0 _ (by omega)
            rcases hlen with hl | hl <;> rw [hl] <;> simp only [fil] <;> simp [i2, i3, e2, hqe]
          rw [isx_eq q, decide_eq_true (show q + 1 < e by omega), Bool.true_and] at hf
          rw [decide_eq_false (show ¬ d = 4 by omega), Bool.false_and, Bool.and_false]
          by_cases t0 : T q = 46
          · rw [if_pos (show nI (T q) = 46 from (hne q 46 (by omega) (by omega)).mpr t0), show nI q + 1 = nI (q + 1) from nI_add q 1, hat (q + 1) (by omega), Option.bind_some]
            by_cases t1 : T (q + 1) = 120
            · rw [if_pos (show nI (T (q + 1)) = 120 from (hne _ 120 (by omega) (by omega)).mpr t1)]
              exact res true (by rw [hf, decide_eq_true t0, decide_eq_true t1]; rfl)
            · rw [if_neg (show ¬ nI (T (q + 1)) = 120 from fun x => t1 ((hne _ 120 (by omega) (by omega)).mp x))]
              exact res false (by rw [hf, decide_eq_false t1, Bool.and_false])
          · rw [if_neg (show ¬ nI (T q) = 46 from fun x => t0 ((hne q 46 (by omega) (by omega)).mp x))]
            exact res false (by rw [hf, decide_eq_false t0, Bool.false_and])
        · rw [if_neg (show ¬ nI d = 2 from fun x => hd2 ((nI_eq (b := 2) (by omega) (by omega)).mp x))]
          refine res _ ?_
          have n2 : ¬ q + 2 = e := by omega
          rcases hlen with hl | hl <;> rw [hl] <;> simp only [fil]
          · by_cases hd4 : d = 4
            · have n4 : q + 2 + 2 = e := by omega
              cases isx T e q <;> cases isx T e (q + 2) <;> simp [hqe, n2, n4, hd4]
            · have n4 : ¬ q + 2 + 2 = e := by omega
              cases isx T e q <;> cases isx T e (q + 2) <;> simp [hqe, n2, n4, hd4]
          · cases isx T e q <;> simp [hqe, n2]
