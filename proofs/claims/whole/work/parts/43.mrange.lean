/-! The reference's ranges: range r has its stretches' number at (874, r), its bounds in 875 from 288 r on, nine longs each. -/
def RM (k : Nat) : Nat := match k with
  | 0 => 871
  | 2 => 872
  | 4 => 873
  | 7 => 874
  | 8 => 875
  | 9 => 876
  | 11 => 877
  | 12 => 878
  | 13 => 879
  | 22 => 880
  | 23 => 881
  | 24 => 882
  | 25 => 883
  | 26 => 884
  | 27 => 885
  | 28 => 886
  | 29 => 887
  | 30 => 888
  | 31 => 889
  | 32 => 890
  | 33 => 891
  | 34 => 892
  | 35 => 893
  | 36 => 894
  | 37 => 895
  | 38 => 896
  | 39 => 897
  | 40 => 898
  | 41 => 899
  | 42 => 900
  | 43 => 901
  | 44 => 902
  | 45 => 903
  | 46 => 904
  | 47 => 905
  | 48 => 906
  | 53 => 907
  | 54 => 908
  | 55 => 909
  | 56 => 910
  | 58 => 911
  | 59 => 912
  | _ => 0
/-- the reference's own references never change -/
def WFM (m : Mi) : Prop := ∀ k, k < 61 → gr m 870 k = RM k
def bM (m : Mi) (r n : Nat) : List Row := (List.range (2 * n)).map (fun b => trM (fun z => gl m 875 (288 * r + 9 * b + z)))
def MG (m : Mi) (r : Nat) (B : List Row) : Prop := ∃ n, B.length = 2 * n ∧ n ≤ 16 ∧ gi m 874 r = nI n ∧ (∀ b, b < 2 * n → VR (fun z => gl m 875 (288 * r + 9 * b + z))) ∧ bM m r n = B
theorem bM_get {m : Mi} {r n b : Nat} (h : b < 2 * n) : (bM m r n)[b]? = some (trM (fun z => gl m 875 (288 * r + 9 * b + z))) := by
  simp [bM, h]
theorem from_spec (r k : Nat) : f_X12_from (nI r) (nI k) = some (nI (288 * r + 18 * k)) := by
  unfold f_X12_from
  rw [show (16 : Int32) = nI 16 from rfl, show (2 : Int32) = nI 2 from rfl, show (9 : Int32) = nI 9 from rfl, pk_mul, nI_add, pk_mul, pk_mul, show (r * 16 + k) * 2 * 9 = 288 * r + 18 * k by omega]
theorem below_spec (r k : Nat) : f_X12_below (nI r) (nI k) = some (nI (288 * r + 18 * k + 9)) := by
  unfold f_X12_below
  rw [from_spec, Option.bind_some, show (9 : Int32) = nI 9 from rfl, nI_add]
theorem zb_bI (b : Bool) : zb (bI b) = true := by cases b <;> rfl
theorem mhas_lp {m : Mi} {r a n i k0 : Nat} {B : List Row} (hM : WFM m) (hr : r < 272) (hB : B.length = 2 * k0) (hk0 : k0 ≤ 16) (hg : gi m 874 r = nI k0) (hv : ∀ b, b < 2 * k0 → VR (fun z => gl m 875 (288 * r + 9 * b + z))) (hb : bM m r k0 = B) (ha : sh TT a = some (.inr (.long, n))) (hi : i + 9 ≤ n) (hn : n < 2 ^ 31) (hx : VR (fun z => gl m a (i + z))) :
    ∀ (d k : Nat) (w : Bool) (N : Nat), k + d = k0 → d < N → lp (fun x : Int32 × Int32 => f_X12_has_l6 TT m 870 (nI r) a (nI i) x.1 x.2) N (bI w, nI k) = some (bI (w || hs (B.drop (2 * k)) (trM (fun z => gl m a (i + z))))) := by
  have r7 : gr m 870 7 = 874 := hM 7 (by omega)
  have r8 : gr m 870 8 = 875 := hM 8 (by omega)
  have e0 : (0 : Int32) = bI false := rfl
  have e1 : (1 : Int32) = bI true := rfl
  intro d
  induction d with
  | zero =>
    intro k w N hk hN
    obtain ⟨N, rfl⟩ : ∃ z, N = z + 1 := ⟨N - 1, by omega⟩
    rw [List.drop_eq_nil_of_le (by omega)]
    rw [show (w || hs [] (trM fun z => gl m a (i + z))) = w from by show (w || false) = w; simp]
    refine lp_exit ?_
    show f_X12_has_l6 TT m 870 (nI r) a (nI i) (bI w) (nI k) = _
    unfold f_X12_has_l6
    rw [r7, if_pos (ar_of s_874 hr (by omega)), ix_nI (by omega), hg, if_pos (nI_le (by omega) (by omega))]
  | succ d ih =>
    intro k w N hk hN
    obtain ⟨N, rfl⟩ : ∃ z, N = z + 1 := ⟨N - 1, by omega⟩
    have d0 : 2 * k < B.length := by omega
    have d1 : 2 * k + 1 < B.length := by omega
    have eD : B.drop (2 * k) = trM (fun z => gl m 875 (288 * r + 9 * (2 * k) + z)) :: trM (fun z => gl m 875 (288 * r + 9 * (2 * k + 1) + z)) :: B.drop (2 * (k + 1)) := by
      have g0 := bM_get (m := m) (r := r) (n := k0) (b := 2 * k) (by omega)
      have g1 := bM_get (m := m) (r := r) (n := k0) (b := 2 * k + 1) (by omega)
      rw [hb, List.getElem?_eq_getElem d0] at g0
      rw [hb, List.getElem?_eq_getElem d1] at g1
      rw [List.drop_eq_getElem_cons d0, List.drop_eq_getElem_cons d1, Option.some.inj g0, Option.some.inj g1]
      rfl
    generalize hA : trM (fun z => gl m 875 (288 * r + 9 * (2 * k) + z)) = ra at eD
    generalize hB2 : trM (fun z => gl m 875 (288 * r + 9 * (2 * k + 1) + z)) = rb at eD
    generalize hX : trM (fun z => gl m a (i + z)) = X at ih ⊢
    have c1 : f_X12_compare TT m 875 (nI (288 * r + 18 * k)) a (nI i) = some (cmpL ra X) := by
      rw [mcompare_spec s_875 ha (by omega) hi (by omega) hn, cmp_tr (by have := hv (2 * k) (by omega); rw [show 288 * r + 9 * (2 * k) = 288 * r + 18 * k by omega] at this; exact this) hx, hX]
      rw [show 288 * r + 9 * (2 * k) = 288 * r + 18 * k by omega] at hA
      rw [hA]
    have c2 : f_X12_compare TT m a (nI i) 875 (nI (288 * r + 18 * k + 9)) = some (cmpL X rb) := by
      rw [mcompare_spec ha s_875 hi (by omega) hn (by omega), cmp_tr hx (by have := hv (2 * k + 1) (by omega); rw [show 288 * r + 9 * (2 * k + 1) = 288 * r + 18 * k + 9 by omega] at this; exact this), hX]
      rw [show 288 * r + 9 * (2 * k + 1) = 288 * r + 18 * k + 9 by omega] at hB2
      rw [hB2]
    have hb1 : f_X12_has_l6 TT m 870 (nI r) a (nI i) (bI w) (nI k) = some (.inl (bI (w || (decide (cmpL ra X ≠ 1) && decide (cmpL X rb = -1))), nI (k + 1))) := by
      unfold f_X12_has_l6
      rw [r7, if_pos (ar_of s_874 hr (by omega)), ix_nI (by omega), hg, if_neg (nI_ge (by omega) (by omega)), r8, from_spec, Option.bind_some, c1, Option.bind_some, below_spec, Option.bind_some, c2, Option.bind_some]
      simp only [lt_eq, nI_1]
      cases w
      · rw [show bI false = 0 from rfl, if_pos rfl, Bool.false_or]
        by_cases q1 : cmpL ra X = 1
        · rw [if_pos ((cgt _ _).mpr q1), q1]
          rfl
        · rw [if_neg (fun e => q1 ((cgt _ _).mp e))]
          by_cases q2 : cmpL X rb = -1
          · rw [if_neg (fun e => ((cge _ _).mp e) q2), decide_eq_true q1, decide_eq_true q2]
            rfl
          · rw [if_pos ((cge _ _).mpr q2), decide_eq_false q2, Bool.and_false]
            rfl
      · rw [show bI true = 1 from rfl, if_neg (by decide), Bool.true_or]
        rfl
    rw [lp_step (x' := (bI (w || (decide (cmpL ra X ≠ 1) && decide (cmpL X rb = -1))), nI (k + 1))) hb1, ih (k + 1) _ N (by omega) (by omega), eD, hs, Bool.or_assoc]
theorem mhas_spec {m : Mi} {r a n i : Nat} {B : List Row} (hM : WFM m) (hr : r < 272) (h : MG m r B) (hU : Up B) (ha : sh TT a = some (.inr (.long, n))) (hi : i + 9 ≤ n) (hn : n < 2 ^ 31) (hx : VR (fun z => gl m a (i + z))) : f_X12_has TT m 870 (nI r) a (nI i) = some (bI (par B (trM (fun z => gl m a (i + z))))) := by
  obtain ⟨k0, h1, h2, h3, h4, h5⟩ := h
  unfold f_X12_has f_X12_has_j6
  rw [show ((0 : Int32), (0 : Int32)) = (bI false, nI 0) from rfl, mhas_lp hM hr h1 h2 h3 h4 h5 ha hi hn hx k0 0 false FUEL (by omega) (by unfold FUEL; omega), Bool.false_or, Nat.mul_zero, List.drop_zero, hs_par k0 B (trM (fun z => gl m a (i + z))) h1 hU rfl, Option.bind_some]
  unfold f_X12_has_j71
  rw [if_pos (zb_bI _)]
