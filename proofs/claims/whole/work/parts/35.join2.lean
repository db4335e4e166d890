/-! setJoin: its loop. -/
theorem cmpL_vals : ∀ (a b : Row), cmpL a b = 0 ∨ cmpL a b = 1 ∨ cmpL a b = -1 := by
  intro a
  induction a with
  | nil => intro b; left; rfl
  | cons x xs ih =>
    intro b
    cases b with
    | nil => left; rfl
    | cons y ys =>
      unfold cmpL
      split
      · exact ih ys
      · split
        · right; right; rfl
        · right; left; rfl
theorem side_spec {t : List Sh} {m : Mi} {ra rb ca cb i j : Nat} {A B : List Row} (ha : RG t m ra ca A) (hb : RG t m rb cb B) (hi : i ≤ A.length) (hj : j ≤ B.length) : f_X4_sideOfLower t m ra (nI i) rb (nI j) = some (if i < A.length then (if j < B.length then cmpL (rowL m (ra + 1) (8 * i)) (rowL m (rb + 1) (8 * j)) else -1) else 1) := by
  obtain ⟨a1, a2, a3, a4, a5, a6, a7, -⟩ := ha
  obtain ⟨b1, b2, b3, b4, b5, b6, b7, -⟩ := hb
  unfold f_X4_sideOfLower
  rw [ob_of a1, ob_of b1, if_pos rfl, if_pos rfl, a4, b4]
  by_cases h1 : i < A.length
  · rw [if_pos (nI_lt h1 (by omega)), if_pos h1]
    by_cases h2 : j < B.length
    · rw [if_pos (nI_lt h2 (by omega)), if_pos h2, a2, b2, show (8 : Int32) = nI 8 from rfl, pk_mul, pk_mul, Nat.mul_comm i 8, Nat.mul_comm j 8, compare_spec a3 b3 (by omega) (by omega) (by omega) (by omega)]
      rfl
    · rw [if_neg (nI_nlt (by omega) (by omega)), if_neg h2]
  · rw [if_neg (nI_nlt (by omega) (by omega)), if_neg h1]
theorem setJoin_lp {t : List Sh} {how r ra rb cap ca cb : Nat} {A B : List Row} (hh : how < 3) (na : ra ≠ r) (nb : rb ≠ r) (hA : 8 * A.length ≤ ca) (hB : 8 * B.length ≤ cb) (hca : ca < 2 ^ 20) (hcb : cb < 2 ^ 20) :
    ∀ (n i j s N : Nat) (m : Mi) (O : List Row), i ≤ A.length → j ≤ B.length → s ≤ i + j → (A.length - i) + (B.length - j) ≤ n → n < N → RG t m r cap O → RG t m ra ca A → RG t m rb cb B → 8 * (O.length + ((A.length - i) + (B.length - j))) ≤ cap →
    ∃ m', lp (fun x : Int32 × Int32 × Int32 × Mi => f_X4_setJoin_l25 t x.2.2.2 r (nI how) ra rb x.1 x.2.1 (nI (A.length + B.length)) x.2.2.1) N (nI i, nI j, nI s, m) = some m' ∧ RG t m' r cap (O ++ jn how n (A.drop i) (B.drop j) (od i) (od j) (od O.length)) ∧ KpR r m m' := by
  intro n
  induction n with
  | zero =>
    intro i j s N m O hi hj hs hn hN hO ha hb hcap
    obtain ⟨N, rfl⟩ : ∃ z, N = z + 1 := ⟨N - 1, by omega⟩
    refine ⟨m, lp_exit ?_, ?_, KpR.rf⟩
    · show f_X4_setJoin_l25 t m r (nI how) ra rb (nI i) (nI j) (nI (A.length + B.length)) (nI s) = _
      unfold f_X4_setJoin_l25
      rw [nI_add, if_pos (show nI (A.length + B.length) ≤ nI (i + j) from nI_le (by omega) (by omega)), ite_self]
    · simp only [jn, List.append_nil]
      exact hO
  | succ n ih =>
    intro i j s N m O hi hj hs hn hN hO ha hb hcap
    obtain ⟨N, rfl⟩ : ∃ z, N = z + 1 := ⟨N - 1, by omega⟩
    by_cases hend : i = A.length ∧ j = B.length
    · refine ⟨m, lp_exit ?_, ?_, KpR.rf⟩
      · show f_X4_setJoin_l25 t m r (nI how) ra rb (nI i) (nI j) (nI (A.length + B.length)) (nI s) = _
        unfold f_X4_setJoin_l25
        rw [nI_add, if_pos (show nI (A.length + B.length) ≤ nI (i + j) from nI_le (by omega) (by omega)), ite_self]
      · rw [hend.1, hend.2, List.drop_length, List.drop_length]
        simp only [jn, List.append_nil]
        exact hO
    · -- one step: from which side, how far, which row
      have key : ∀ (c : Int32) (z s0 n0 : Nat) (i' j' : Nat), f_X4_sideOfLower t m ra (nI i) rb (nI j) = some c → i' = (if 0 < c then i else i + 1) → j' = (if c < 0 then j else j + 1) → z = (if 0 < c then j else i) → s0 = (if 0 < c then rb + 1 else ra + 1) → sh t s0 = some (.inr (.long, n0)) → 8 * z + 8 ≤ n0 → n0 < 2 ^ 20 → s0 ≠ r + 1 → i' ≤ A.length → j' ≤ B.length → (A.length - i') + (B.length - j') + 1 ≤ (A.length - i) + (B.length - j) →
          (jn how (n + 1) (A.drop i) (B.drop j) (od i) (od j) (od O.length) = if kp how (od i') (od j') = od O.length then jn how n (A.drop i') (B.drop j') (od i') (od j') (od O.length) else rowL m s0 (8 * z) :: jn how n (A.drop i') (B.drop j') (od i') (od j') (!od O.length)) →
          ∃ m', lp (fun x : Int32 × Int32 × Int32 × Mi => f_X4_setJoin_l25 t x.2.2.2 r (nI how) ra rb x.1 x.2.1 (nI (A.length + B.length)) x.2.2.1) (N + 1) (nI i, nI j, nI s, m) = some m' ∧ RG t m' r cap (O ++ jn how (n + 1) (A.drop i) (B.drop j) (od i) (od j) (od O.length)) ∧ KpR r m m' := by
        intro c z s0 n0 i' j' hside ei ej ez es hs0 hz hn0 hsr hi' hj' hmes hjn
        have hOl : O.length < 2 ^ 20 := by have := hO.2.2.2.2.1; have := hO.2.2.2.2.2.2.1; omega
        have hbody : f_X4_setJoin_l25 t m r (nI how) ra rb (nI i) (nI j) (nI (A.length + B.length)) (nI s) = if kp how (od i') (od j') = od O.length then some (.inl (nI i', nI j', nI (s + 1), m)) else (f_X4_addBound t m r s0 (nI (8 * z))).bind (fun m' => some (.inl (nI i', nI j', nI (s + 1), m'))) := by
          unfold f_X4_setJoin_l25
          rw [nI_add, if_neg (show ¬ nI (A.length + B.length) ≤ nI s from nI_ge (by omega) (by omega)), if_neg (show ¬ nI (A.length + B.length) ≤ nI (i + j) from nI_ge (by omega) (by omega)), hside, Option.bind_some, sj_body hh (by omega) (by omega) (by omega) hO.2.2.2.1, sj_body hh (by omega) (by omega) (by omega) hO.2.2.2.1, ← ei, ← ej, ← ez, hb.2.1, ha.2.1]
          by_cases h0 : 0 < c
          · rw [if_pos h0] at es ⊢
            rw [es]
          · rw [if_neg h0] at es ⊢
            rw [es]
        by_cases hk : kp how (od i') (od j') = od O.length
        · rw [if_pos hk] at hbody hjn
          obtain ⟨m2, e2, g2, g3⟩ := ih i' j' (s + 1) N m O hi' hj' (by omega) (by omega) (by omega) hO ha hb (by omega)
          refine ⟨m2, ?_, by rw [hjn]; exact g2, g3⟩
          rw [lp_step (x' := (nI i', nI j', nI (s + 1), m))]
          · exact e2
          · exact hbody
        · rw [if_neg hk] at hbody hjn
          obtain ⟨m1, e1, g1, g4⟩ := addBound_spec (i := 8 * z) hO hs0 hz (by omega) hsr (by omega)
          have hol : (O ++ [rowL m s0 (8 * z)]).length = O.length + 1 := by simp
          obtain ⟨m2, e2, g2, g3⟩ := ih i' j' (s + 1) N m1 (O ++ [rowL m s0 (8 * z)]) hi' hj' (by omega) (by omega) (by omega) g1 (ha.keep g4 na) (hb.keep g4 nb) (by rw [hol]; omega)
          refine ⟨m2, ?_, ?_, g4.tr g3⟩
          · rw [lp_step (x' := (nI i', nI j', nI (s + 1), m1))]
            · exact e2
            · show f_X4_setJoin_l25 t m r (nI how) ra rb (nI i) (nI j) (nI (A.length + B.length)) (nI s) = _
              rw [hbody, e1]
              rfl
          · rw [hjn]
            rw [hol, od_succ, List.append_assoc, List.singleton_append] at g2
            exact g2
      have hsp := side_spec ha hb hi hj
      have hra := ha.2.2.1
      have hrb := hb.2.2.1
      by_cases hiA : i < A.length
      · have edA : A.drop i = rowL m (ra + 1) (8 * i) :: A.drop (i + 1) := by
          have e := ha.row hiA
          rw [List.drop_eq_getElem_cons hiA]
          congr 1
          rw [List.getElem?_eq_getElem hiA] at e
          exact Option.some.inj e
        by_cases hjB : j < B.length
        · have edB : B.drop j = rowL m (rb + 1) (8 * j) :: B.drop (j + 1) := by
            have e := hb.row hjB
            rw [List.drop_eq_getElem_cons hjB]
            congr 1
            rw [List.getElem?_eq_getElem hjB] at e
            exact Option.some.inj e
          rw [if_pos hiA, if_pos hjB] at hsp
          generalize hc : cmpL (rowL m (ra + 1) (8 * i)) (rowL m (rb + 1) (8 * j)) = c at hsp
          by_cases h0 : 0 < c
          · have h1 : ¬ c < 0 := fun h => Int32.lt_irrefl (Int32.lt_trans h0 h)
            refine key c j (rb + 1) cb i (j + 1) hsp (by rw [if_pos h0]) (by rw [if_neg h1]) (by rw [if_pos h0]) (by rw [if_pos h0]) hrb (by omega) hcb (by omega) (by omega) (by omega) (by omega) ?_
            rw [edA, edB, jn, hc, if_pos h0, od_succ j]
          · by_cases h1 : c < 0
            · refine key c i (ra + 1) ca (i + 1) j hsp (by rw [if_neg h0]) (by rw [if_pos h1]) (by rw [if_neg h0]) (by rw [if_neg h0]) hra (by omega) hca (by omega) (by omega) (by omega) (by omega) ?_
              rw [edA, edB, jn, hc, if_neg h0, if_pos h1, od_succ i]
            · refine key c i (ra + 1) ca (i + 1) (j + 1) hsp (by rw [if_neg h0]) (by rw [if_neg h1]) (by rw [if_neg h0]) (by rw [if_neg h0]) hra (by omega) hca (by omega) (by omega) (by omega) (by omega) ?_
              rw [edA, edB, jn, hc, if_neg h0, if_neg h1, od_succ i, od_succ j]
        · have edB : B.drop j = [] := List.drop_eq_nil_of_le (by omega)
          rw [if_pos hiA, if_neg hjB] at hsp
          refine key (-1) i (ra + 1) ca (i + 1) j hsp (by rw [if_neg (by decide)]) (by rw [if_pos (by decide)]) (by rw [if_neg (by decide)]) (by rw [if_neg (by decide)]) hra (by omega) hca (by omega) (by omega) (by omega) (by omega) ?_
          rw [edA, edB, jn, od_succ i]
      · have edA : A.drop i = [] := List.drop_eq_nil_of_le (by omega)
        have hjB : j < B.length := by omega
        have edB : B.drop j = rowL m (rb + 1) (8 * j) :: B.drop (j + 1) := by
          have e := hb.row hjB
          rw [List.drop_eq_getElem_cons hjB]
          congr 1
          rw [List.getElem?_eq_getElem hjB] at e
          exact Option.some.inj e
        rw [if_neg hiA] at hsp
        refine key 1 j (rb + 1) cb i (j + 1) hsp (by rw [if_pos (by decide)]) (by rw [if_neg (by decide)]) (by rw [if_pos (by decide)]) (by rw [if_pos (by decide)]) hrb (by omega) hcb (by omega) (by omega) (by omega) (by omega) ?_
        rw [edA, edB, jn, od_succ j]
theorem setJoin_spec {t : List Sh} {m : Mi} {how r ra rb cap ca cb : Nat} {A B C : List Row} (hh : how < 3) (h : RG t m r cap C) (ha : RG t m ra ca A) (hb : RG t m rb cb B) (na : ra ≠ r) (nb : rb ≠ r) (hcap : 8 * (A.length + B.length) ≤ cap) :
    ∃ m', f_X4_setJoin t m r (nI how) ra rb = some m' ∧ RG t m' r cap (jn how (A.length + B.length) A B false false false) ∧ KpR r m m' := by
  obtain ⟨g1, g2⟩ := h.zero
  obtain ⟨m', e, g3, g4⟩ := setJoin_lp (r := r) hh na nb ha.2.2.2.2.1 hb.2.2.2.2.1 ha.2.2.2.2.2.2.1 hb.2.2.2.2.2.2.1 (A.length + B.length) 0 0 0 FUEL (si m r 1 0) [] (by omega) (by omega) (by omega) (by omega) (by have := ha.2.2.2.2.1; have := hb.2.2.2.2.1; have := ha.2.2.2.2.2.2.1; have := hb.2.2.2.2.2.2.1; unfold FUEL; omega) g1 (ha.keep g2 na) (hb.keep g2 nb) (by simpa using hcap)
  refine ⟨m', ?_, g3, g2.tr g4⟩
  unfold f_X4_setJoin f_X4_setJoin_j25
  rw [lt_eq, ob_of ha.1, if_pos rfl, ob_of hb.1, if_pos rfl, lt_eq, (ha.keep g2 na).2.2.2.1, (hb.keep g2 nb).2.2.2.1, nI_add, show ((0 : Int32), (0 : Int32), (0 : Int32), si m r 1 0) = (nI 0, nI 0, nI 0, si m r 1 0) from rfl, e]
  rfl
