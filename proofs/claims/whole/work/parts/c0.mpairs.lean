/-! The reference's solver: pairs of values. -/
def ME (s : Nat) (m : Mi) (T : Nat → Nat) (n : Nat) (G : Rg) : Prop := WFM m ∧ s < 2 ∧ gi m 870 21 = nI s ∧ MRs s m T n G
theorem ME.keep {s n : Nat} {m m' : Mi} {P : Nat → Nat → Prop} {T : Nat → Nat} {G : Rg} (h : ME s m T n G) (hB : BGd G) (k : FI P m m') (hp : ∀ x j, P x j → 900 ≤ x ∨ (x = 870 ∧ 49 ≤ j)) : ME s m' T n G := by
  obtain ⟨h1, h2, h3, h4⟩ := h
  have kk : ∀ x j, x < 900 → x ≠ 870 → gi m' x j = gi m x j ∧ gl m' x j = gl m x j := fun x j a b => ⟨k.1 x j (fun z => by have := hp x j z; omega), k.2.1 x j⟩
  refine ⟨fun z hz => (k.2.2 _ _).trans (h1 z hz), h2, (k.1 _ _ (fun z => by have := hp _ _ z; omega)).trans h3, h4.keep hB (fun x j hx => kk x j ?_ ?_) (fun x j hx => (kk x j (by omega) (by omega)).1) (fun j _ => (kk _ _ (by omega) (by omega)).1) (fun j _ => (kk _ _ (by omega) (by omega)).2)⟩
  · unfold ON at hx; omega
  · unfold ON at hx; omega
def OnM (m : Mi) (act : Nat → Bool) : Prop := ∀ c, c < 250 → gi m 900 c = bI (act c)
/-- what is said by the links below k -/
def syK (T : Nat → Nat) (G : Rg) (act : Nat → Bool) (k p v q w : Nat) : Bool := (List.range k).all (fun c => match G.2.2[c]? with
  | some x => !(act c && (decide (x.1 ≠ 4) && (hvB G x p v && decide (tgt T G x = q)))) || kpL T G x w
  | none => true)
theorem syK_succ (T : Nat → Nat) (G : Rg) (act : Nat → Bool) (k p v q w : Nat) {x : CnT} (hx : G.2.2[k]? = some x) : syK T G act (k + 1) p v q w = (syK T G act k p v q w && (!(act k && (decide (x.1 ≠ 4) && (hvB G x p v && decide (tgt T G x = q)))) || kpL T G x w)) := by
  unfold syK
  rw [List.range_succ, List.all_append]
  simp only [List.all_cons, List.all_nil, Bool.and_true, hx]
theorem syK_lnk {T : Nat → Nat} {n : Nat} {G : Rg} (hO : RO T n G) {act : Nat → Bool} {p v q w : Nat} : ∀ j, lnkN G.2.2 + j ≤ G.2.2.length → syK T G act (lnkN G.2.2 + j) p v q w = syK T G act (lnkN G.2.2) p v q w := by
  intro j
  induction j with
  | zero => intro _; rfl
  | succ j ih =>
    intro hj
    obtain ⟨x, hx⟩ := get_some (l := G.2.2) (k := lnkN G.2.2 + j) (by omega)
    have h4 : x.1 = 4 := (hO.1.1.2.2.2.2.2 _ x hx).mpr (by omega)
    rw [show lnkN G.2.2 + (j + 1) = lnkN G.2.2 + j + 1 by omega, syK_succ T G act _ p v q w hx, ih (by omega), h4]
    simp
theorem sy_lnk {T : Nat → Nat} {n : Nat} {G : Rg} (hO : RO T n G) {act : Nat → Bool} {p v q w : Nat} : syK T G act (lnkN G.2.2) p v q w = sy T G act p v q w := by
  have hl := lnkN_le G.2.2
  have := syK_lnk hO (act := act) (p := p) (v := v) (q := q) (w := w) (G.2.2.length - lnkN G.2.2) (by omega)
  rw [show lnkN G.2.2 + (G.2.2.length - lnkN G.2.2) = G.2.2.length by omega] at this
  exact this.symm
theorem mlinks2_lp {s n : Nat} {T : Nat → Nat} {G : Rg} {act : Nat → Bool} {a1 : Int32} (hO : RO T n G) : ∀ (d k N : Nat) (m : Mi), k + d = lnkN G.2.2 → d < N → ME s m T n G → OnM m act → (∀ p v q, p < 10 → v < 7 → q < 10 → gi m 901 ((7 * p + v) * 10 + q) = msk 7 (syK T G act k p v q)) →
    ∃ m', lp (fun x : Int32 × Mi => f_X12_pairs_l35 TT x.2 870 a1 x.1) N (nI k, m) = some m' ∧ FI (fun x j => x = 901) m m' ∧ ∀ p v q, p < 10 → v < 7 → q < 10 → gi m' 901 ((7 * p + v) * 10 + q) = msk 7 (sy T G act p v q) := by
  have hB := hO.2.1
  have hB1 := hB.1
  have hB2 := hB.2.1
  have hB3 := hB.2.2
  have hl := lnkN_le G.2.2
  intro d
  induction d with
  | zero =>
    intro k N m hk hN hE hA h
    obtain ⟨N, rfl⟩ : ∃ y, N = y + 1 := ⟨N - 1, by omega⟩
    refine ⟨m, lp_exit ?_, FI.rf, fun p v q hp hv hq => (h p v q hp hv hq).trans (msk_congr (fun w _ => by rw [show k = lnkN G.2.2 by omega]; exact sy_lnk hO))⟩
    show f_X12_pairs_l35 TT m 870 a1 (nI k) = _
    unfold f_X12_pairs_l35
    rw [hE.2.2.1, hE.1.W.2.2.1, if_pos (ar_of s_883 hE.2.1 (by omega)), ix_nI (by have := hE.2.1; omega), hE.2.2.2.1.1.2.2.1, if_pos (nI_le (by omega) (by omega))]
  | succ d ih =>
    intro k N m hk hN hE hA h
    obtain ⟨N, rfl⟩ : ∃ y, N = y + 1 := ⟨N - 1, by omega⟩
    obtain ⟨hM, hs, h21, hR⟩ := hE
    have hW := hM.W
    have w42 : gr m 870 42 = 900 := hM 42 (by omega)
    have w43 : gr m 870 43 = 901 := hM 43 (by omega)
    obtain ⟨x, hx⟩ := get_some (l := G.2.2) (k := k) (by omega)
    have hxm := List.mem_of_getElem? hx
    have h4 : x.1 ≠ 4 := fun e => by have := (hO.1.1.2.2.2.2.2 k x hx).mp e; omega
    obtain ⟨hp, y, hy, hyp, hpl, l1, l2, un⟩ := hv_of hO hx h4
    have hr := get_lt hy
    have h6 := hO.2.2.2.1.1 hp
    have ut := unk_fnd hO.2.2.1 hxm
    have hkd := (hO.1.2.2.2.1 x hxm).1
    obtain ⟨c1, c2, c3, c4⟩ := hR.1.2.2.2.1 k x hx
    rw [if_neg h4] at c1
    obtain ⟨r1, _⟩ := hR.1.2.2.1 _ y hy
    have lt1 := hR.1.2.2.2.2.1 k x hx
    have tw := hR.2.2.2 k x hx
    have hfi := first_M hM hs h21 hR.1 hO hpl
    -- the links below k + 1
    have step : ∀ m', (∀ j, j ≠ (7 * hp + (x.2.1 - fr G hp + 1)) * 10 + tgt T G x → gi m' 901 j = gi m 901 j) → (act k = true → gi m' 901 ((7 * hp + (x.2.1 - fr G hp + 1)) * 10 + tgt T G x) = msk 7 (fun w => syK T G act k hp (x.2.1 - fr G hp + 1) (tgt T G x) w && kpL T G x w)) → (act k = false → gi m' 901 ((7 * hp + (x.2.1 - fr G hp + 1)) * 10 + tgt T G x) = gi m 901 ((7 * hp + (x.2.1 - fr G hp + 1)) * 10 + tgt T G x)) → ∀ p v q, p < 10 → v < 7 → q < 10 → gi m' 901 ((7 * p + v) * 10 + q) = msk 7 (syK T G act (k + 1) p v q) := by
      intro m' ho ht hf p v q hp' hv' hq'
      by_cases he : p = hp ∧ v = x.2.1 - fr G hp + 1 ∧ q = tgt T G x
      · obtain ⟨rfl, rfl, rfl⟩ := he
        cases hac : act k with
        | true =>
          rw [ht hac]
          refine msk_congr (fun w _ => ?_)
          rw [syK_succ T G act k _ _ _ w hx, hac, hv_is l1 l2, decide_eq_true h4, decide_eq_true rfl]
          simp
        | false =>
          rw [hf hac, h _ _ _ hp' hv' hq']
          refine msk_congr (fun w _ => ?_)
          rw [syK_succ T G act k _ _ _ w hx, hac]
          simp
      · rw [ho _ (by omega), h p v q hp' hv' hq']
        refine msk_congr (fun w _ => ?_)
        rw [syK_succ T G act k _ _ _ w hx]
        cases hv : hvB G x p v with
        | false => simp
        | true =>
          by_cases htt : tgt T G x = q
          · exfalso
            by_cases hpn : p < G.1.length
            · obtain ⟨u1, u2⟩ := un p v hv hpn
              exact he ⟨u1, u2, htt.symm⟩
            · have hz : cntR G.2.1 p = 0 := cntR_zero (fun w hw => by have := hO.1.1.1 w hw; omega)
              have := of_decide_eq_true hv
              omega
          · rw [decide_eq_false htt]
            simp
    have hidx : (7 * hp + (x.2.1 - fr G hp + 1)) * 10 + tgt T G x < 700 := by omega
    have hbody : f_X12_pairs_l35 TT m 870 a1 (nI k) = if bI (act k) = 0 then some (.inl (nI (k + 1), m)) else some (.inl (nI (k + 1), si m 901 ((7 * hp + (x.2.1 - fr G hp + 1)) * 10 + tgt T G x) (msk 7 (fun w => syK T G act k hp (x.2.1 - fr G hp + 1) (tgt T G x) w && kpL T G x w)))) := by
      unfold f_X12_pairs_l35 f_X12_pair
      rw [h21, hW.2.2.1, if_pos (ar_of s_883 hs (by omega)), ix_nI (n := s) (by omega), hR.1.1.2.2.1, if_neg (nI_ge (by omega) (by omega)), lt_eq, show (250 : Int32) = nI 250 from rfl, pk_mul, nI_add, w42, if_pos (ar_of s_900 (by omega) (by omega)), ix_nI (n := k) (by omega), hA k (by omega)]
      cases hac : act k with
      | false => rw [if_pos bF, if_pos bF, lt_eq, nI_1]
      | true =>
        rw [if_neg bTr, if_neg bTr, hW.2.2.2.2.2.2.2.2.2.2.2.1, if_pos (ar_of s_892 (by omega) (by omega)), ix_nI (n := 250 * s + k) (by omega), c1, hW.2.2.2.2.2.2.2.1, show (60 : Int32) = nI 60 from rfl, pk_mul, nI_add, if_pos (ar_of s_888 (by omega) (by omega)), lt_eq, ix_nI (n := 60 * s + x.2.1) (by omega), r1, hyp, hfi, Option.bind_some, hW.2.2.2.2.2.2.2.2.2.2.2.2.2.2.2.1, if_pos (ar_of s_896 (by omega) (by omega)), lt1, Option.bind_some, show (7 : Int32) = nI 7 from rfl, pk_mul, pk_sub l1, nI_1, nI_add, show (10 : Int32) = nI 10 from rfl, pk_mul, nI_add, w43, if_pos (ar_of s_901 hidx (by omega)), hW.2.2.2.2.2.2.2.2.2.2.2.2.1, if_pos (ar_of s_893 (by omega) (by omega)), c2, hW.2.2.2.2.2.2.2.2.2.2.2.2.2.2.2.2.2.2, if_pos (ar_of s_899 (by omega) (by omega)), if_pos (ar_of s_899 (by omega) (by omega)), ix_nI (n := (7 * hp + (x.2.1 - fr G hp + 1)) * 10 + tgt T G x) (by omega), tw, h hp _ _ (by omega) (by omega) (by omega)]
        unfold f_X12_pairs_j161
        rw [if_pos (ar_of s_901 hidx (by omega)), if_pos (ar_of s_901 hidx (by omega))]
        simp only [lt_eq]
        rw [ix_nI (n := (7 * hp + (x.2.1 - fr G hp + 1)) * 10 + tgt T G x) (by omega), msk_and, msk_without, nI_1]
        by_cases h5 : x.1 = 5
        · rw [if_pos (show nI (mk x.1) = nI 10 by rw [h5]; rfl)]
          rw [msk_congr (g := fun w => syK T G act k hp (x.2.1 - fr G hp + 1) (tgt T G x) w && kpL T G x w) (fun w _ => by unfold kpL; rw [if_pos h5])]
        · have h6' : x.1 = 6 := by omega
          rw [if_neg (show ¬ nI (mk x.1) = nI 10 by rw [h6']; decide)]
          rw [msk_congr (g := fun w => syK T G act k hp (x.2.1 - fr G hp + 1) (tgt T G x) w && kpL T G x w) (fun w _ => by unfold kpL; rw [if_neg h5])]
    cases hac : act k with
    | false =>
      rw [hac, if_pos bF] at hbody
      rw [lp_step hbody]
      exact ih (k + 1) N m (by omega) (by omega) ⟨hM, hs, h21, hR⟩ hA (step m (fun j _ => rfl) (fun e => by rw [hac] at e; cases e) (fun _ => rfl))
    | true =>
      rw [hac, if_neg bTr] at hbody
      rw [lp_step hbody]
      have f1 : FI (fun x j => x = 901) m (si m 901 ((7 * hp + (x.2.1 - fr G hp + 1)) * 10 + tgt T G x) (msk 7 (fun w => syK T G act k hp (x.2.1 - fr G hp + 1) (tgt T G x) w && kpL T G x w))) := FI.si (P := fun x j => x = 901) rfl
      obtain ⟨m', e2, f2, g2⟩ := ih (k + 1) N _ (by omega) (by omega) (ME.keep ⟨hM, hs, h21, hR⟩ hB f1 (fun x j z => by omega)) (fun c hc => (f1.1 _ _ (by omega)).trans (hA c hc)) (step _ (fun j hj => by simp only [mS]; rw [if_neg (by omega)]) (fun _ => gi_si _ _ _ _) (fun e => by rw [hac] at e; cases e))
      exact ⟨m', e2, f1.tr f2, g2⟩
/-- both say so; of one package, the same value -/
def BT (T : Nat → Nat) (G : Rg) (act : Nat → Bool) (p v q w : Nat) : Bool := decide (w ≤ cntR G.2.1 q) && ((sy T G act p v q w && sy T G act q w p v) && (decide (p ≠ q) || decide (v = w)))
def AlM (m : Mi) (T : Nat → Nat) (G : Rg) (act : Nat → Bool) : Prop := ∀ p v q, p < 10 → v < 7 → q < 10 → gi m 901 ((7 * p + v) * 10 + q) = msk 7 (sy T G act p v q)
theorem both_in {s n p v q : Nat} {m : Mi} {T : Nat → Nat} {G : Rg} {act : Nat → Bool} {a1 : Int32} (hO : RO T n G) (hE : ME s m T n G) (hL : AlM m T G act) (hp : p < G.1.length) (hv : v ≤ cntR G.2.1 p) (hq : q < G.1.length) : lp (fun x : Int32 × Int32 => f_X12_pairs_l202 TT m 870 a1 (nI p) (nI v) (nI q) x.1 x.2) FUEL (0, 0) = some (msk 7 (BT T G act p v q)) := by
  have hB1 := hO.2.1.1
  have h6 := hO.2.2.2.1.1 q
  have h6p := hO.2.2.2.1.1 p
  obtain ⟨hM, hs, h21, hR⟩ := hE
  have w43 : gr m 870 43 = 901 := hM 43 (by omega)
  have hmany := many_M hM hs h21 hR.1 hO hq
  have h := lp_count (body := fun x : Int32 × Int32 => f_X12_pairs_l202 TT m 870 a1 (nI p) (nI v) (nI q) x.1 x.2) (fun k => (msk 7 (fun w => decide (w < k) && ((sy T G act p v q w && sy T G act q w p v) && (decide (p ≠ q) || decide (v = w)))), nI k)) (a := 0) (n := cntR G.2.1 q + 1) (y := msk 7 (fun w => decide (w < cntR G.2.1 q + 1) && ((sy T G act p v q w && sy T G act q w p v) && (decide (p ≠ q) || decide (v = w))))) (Nat.zero_le _) (by omega) (fun k _ hk => ?_) ?_
  · rw [msk_none (n := 7) (f := fun w => decide (w < 0) && ((sy T G act p v q w && sy T G act q w p v) && (decide (p ≠ q) || decide (v = w)))) (by omega) (fun i _ => by rw [decide_eq_false (by omega), Bool.false_and])] at h
    rw [show ((0 : Int32), (0 : Int32)) = ((0 : Int32), nI 0) from rfl, h]
    congr 1
    refine msk_congr (fun w _ => ?_)
    unfold BT
    by_cases hw : w ≤ cntR G.2.1 q
    · rw [decide_eq_true hw, decide_eq_true (show w < cntR G.2.1 q + 1 by omega)]
    · rw [decide_eq_false hw, decide_eq_false (show ¬ w < cntR G.2.1 q + 1 by omega)]
  · show f_X12_pairs_l202 TT m 870 a1 (nI p) (nI v) (nI q) (msk 7 _) (nI k) = _
    have st := msk_step (n := 7) (k := k) (P := fun w => (sy T G act p v q w && sy T G act q w p v) && (decide (p ≠ q) || decide (v = w))) (by omega) (by omega)
    unfold f_X12_pairs_l202 f_X12_pair f_X12_pairs_j259 f_X12_pairs_j260
    rw [hmany, Option.bind_some, if_neg (nI_nlt (by omega) (by omega)), Option.bind_some, show (7 : Int32) = nI 7 from rfl, show (10 : Int32) = nI 10 from rfl, pk_mul, nI_add, pk_mul, nI_add, w43, if_pos (ar_of s_901 (by omega) (by omega)), ix_nI (n := (7 * p + v) * 10 + q) (by omega), hL p v q (by omega) (by omega) (by omega), msk_get (show k < 7 by omega) (by omega), Option.bind_some, pk_mul, nI_add, pk_mul, nI_add, if_pos (ar_of s_901 (by omega) (by omega)), ix_nI (n := (7 * q + k) * 10 + p) (by omega), hL q k p (by omega) (by omega) (by omega), msk_get (show v < 7 by omega) (by omega), if_pos (show (0 : Int32) = 0 from rfl), if_neg (show ¬ (1 : Int32) = 0 by decide), nI_1]
    simp only [lt_eq]
    have no : ((sy T G act p v q k && sy T G act q k p v) && (decide (p ≠ q) || decide (v = k))) = false → some (Sum.inl (msk 7 (fun w => decide (w < k) && ((sy T G act p v q w && sy T G act q w p v) && (decide (p ≠ q) || decide (v = w)))), nI (k + 1))) = (some (.inl (msk 7 (fun w => decide (w < k + 1) && ((sy T G act p v q w && sy T G act q w p v) && (decide (p ≠ q) || decide (v = w)))), nI (k + 1))) : Option ((Int32 × Int32) ⊕ Int32)) := fun e => by rw [st.1 e]
    have yes : ((sy T G act p v q k && sy T G act q k p v) && (decide (p ≠ q) || decide (v = k))) = true → some (Sum.inl (msk 7 (fun w => decide (w < k) && ((sy T G act p v q w && sy T G act q w p v) && (decide (p ≠ q) || decide (v = w)))) ||| ((1 : Int32) <<< (nI k &&& 31)), nI (k + 1))) = (some (.inl (msk 7 (fun w => decide (w < k + 1) && ((sy T G act p v q w && sy T G act q w p v) && (decide (p ≠ q) || decide (v = w)))), nI (k + 1))) : Option ((Int32 × Int32) ⊕ Int32)) := fun e => by rw [st.2 e]
    cases hsy : sy T G act p v q k with
    | false =>
      rw [if_neg (by decide)]
      exact no (by rw [hsy]; simp)
    | true =>
      rw [if_pos (show bI true = 1 from rfl)]
      cases hsy2 : sy T G act q k p v with
      | false =>
        rw [if_neg (by decide)]
        exact no (by rw [hsy2]; simp)
      | true =>
        rw [if_pos (show bI true = 1 from rfl)]
        by_cases hpq : p = q
        · rw [if_pos (by rw [hpq])]
          by_cases hvk : v = k
          · rw [if_pos (by rw [hvk])]
            exact yes (by rw [hsy, hsy2, decide_eq_true hvk]; simp)
          · rw [if_neg (fun z => hvk ((nI_eq (by omega) (by omega)).mp z))]
            exact no (by rw [decide_eq_false hvk]; simp [hpq])
        · rw [if_neg (fun z => hpq ((nI_eq (by omega) (by omega)).mp z))]
          exact yes (by rw [hsy, hsy2]; simp [hpq])
  · show f_X12_pairs_l202 TT m 870 a1 (nI p) (nI v) (nI q) (msk 7 _) (nI (cntR G.2.1 q + 1)) = _
    unfold f_X12_pairs_l202
    rw [hmany, Option.bind_some, if_pos (nI_lt (by omega) (by omega))]
theorem bothq_lp {s n p v : Nat} {T : Nat → Nat} {G : Rg} {act : Nat → Bool} (hO : RO T n G) (hp : p < G.1.length) (hv : v ≤ cntR G.2.1 p) : ∀ (d k N : Nat) (m : Mi), k + d = G.1.length → d < N → ME s m T n G → AlM m T G act →
    ∃ m', lp (fun x : Int32 × Mi => f_X12_pairs_l190 TT x.2 870 (nI G.1.length) (nI p) (nI v) x.1) N (nI k, m) = some m' ∧ FI (fun x j => x = 902 ∧ (7 * p + v) * 10 + k ≤ j ∧ j < (7 * p + v) * 10 + 10) m m' ∧ ∀ q, k ≤ q → q < G.1.length → gi m' 902 ((7 * p + v) * 10 + q) = msk 7 (BT T G act p v q) := by
  have hB := hO.2.1
  have hB1 := hB.1
  have h6p := hO.2.2.2.1.1 p
  intro d
  induction d with
  | zero =>
    intro k N m hk hN hE hL
    obtain ⟨N, rfl⟩ : ∃ y, N = y + 1 := ⟨N - 1, by omega⟩
    refine ⟨m, lp_exit ?_, FI.rf, fun q h1 h2 => by omega⟩
    show f_X12_pairs_l190 TT m 870 (nI G.1.length) (nI p) (nI v) (nI k) = _
    unfold f_X12_pairs_l190
    rw [if_pos (nI_le (by omega) (by omega))]
  | succ d ih =>
    intro k N m hk hN hE hL
    obtain ⟨N, rfl⟩ : ∃ y, N = y + 1 := ⟨N - 1, by omega⟩
    have w44 : gr m 870 44 = 902 := hE.1 44 (by omega)
    have hin := both_in (a1 := nI G.1.length) (q := k) hO hE hL hp hv (by omega)
    have hbody : f_X12_pairs_l190 TT m 870 (nI G.1.length) (nI p) (nI v) (nI k) = some (.inl (nI (k + 1), si m 902 ((7 * p + v) * 10 + k) (msk 7 (BT T G act p v k)))) := by
      unfold f_X12_pairs_l190 f_X12_pairs_j202
      rw [if_neg (nI_ge (by omega) (by omega)), hin, Option.bind_some]
      unfold f_X12_pairs_j299 f_X12_pair
      rw [Option.bind_some, show (7 : Int32) = nI 7 from rfl, show (10 : Int32) = nI 10 from rfl, pk_mul, nI_add, pk_mul, nI_add, w44, if_pos (ar_of s_902 (by omega) (by omega)), lt_eq, lt_eq, ix_nI (by omega), nI_1]
    rw [lp_step hbody]
    have f1 : FI (fun x j => x = 902 ∧ (7 * p + v) * 10 + k ≤ j ∧ j < (7 * p + v) * 10 + 10) m (si m 902 ((7 * p + v) * 10 + k) (msk 7 (BT T G act p v k))) := FI.si (P := fun x j => x = 902 ∧ (7 * p + v) * 10 + k ≤ j ∧ j < (7 * p + v) * 10 + 10) ⟨rfl, by omega, by omega⟩
    obtain ⟨m', e2, f2, g2⟩ := ih (k + 1) N _ (by omega) (by omega) (hE.keep hB f1 (fun x j z => by omega)) (fun a b c h1 h2 h3 => (f1.1 _ _ (by omega)).trans (hL a b c h1 h2 h3))
    refine ⟨m', e2, f1.tr (f2.mono (fun x j z => by omega)), fun q h1 h2 => ?_⟩
    by_cases hqk : q = k
    · subst hqk
      exact (f2.1 _ _ (by omega)).trans (gi_si _ _ _ _)
    · exact g2 q (by omega) h2
theorem bothv_lp {s n p : Nat} {T : Nat → Nat} {G : Rg} {act : Nat → Bool} (hO : RO T n G) (hp : p < G.1.length) : ∀ (d k N : Nat) (m : Mi), k + d = cntR G.2.1 p + 1 → d < N → ME s m T n G → AlM m T G act →
    ∃ m', lp (fun x : Int32 × Mi => f_X12_pairs_l178 TT x.2 870 (nI G.1.length) (nI p) x.1) N (nI k, m) = some m' ∧ FI (fun x j => x = 902 ∧ (7 * p + k) * 10 ≤ j ∧ j < 70 * p + 70) m m' ∧ ∀ v q, k ≤ v → v ≤ cntR G.2.1 p → q < G.1.length → gi m' 902 ((7 * p + v) * 10 + q) = msk 7 (BT T G act p v q) := by
  have hB := hO.2.1
  have hB1 := hB.1
  have h6p := hO.2.2.2.1.1 p
  intro d
  induction d with
  | zero =>
    intro k N m hk hN hE hL
    obtain ⟨N, rfl⟩ : ∃ y, N = y + 1 := ⟨N - 1, by omega⟩
    refine ⟨m, lp_exit ?_, FI.rf, fun v q h1 h2 => by omega⟩
    show f_X12_pairs_l178 TT m 870 (nI G.1.length) (nI p) (nI k) = _
    unfold f_X12_pairs_l178
    rw [many_M hE.1 hE.2.1 hE.2.2.1 hE.2.2.2.1 hO hp, Option.bind_some, if_pos (nI_lt (by omega) (by omega))]
  | succ d ih =>
    intro k N m hk hN hE hL
    obtain ⟨N, rfl⟩ : ∃ y, N = y + 1 := ⟨N - 1, by omega⟩
    obtain ⟨m1, e1, f1, g1⟩ := bothq_lp (v := k) hO hp (by omega) G.1.length 0 FUEL m (by omega) (by unfold FUEL; omega) hE hL
    have hbody : f_X12_pairs_l178 TT m 870 (nI G.1.length) (nI p) (nI k) = some (.inl (nI (k + 1), m1)) := by
      unfold f_X12_pairs_l178 f_X12_pairs_j190 f_X12_pairs_j319
      rw [many_M hE.1 hE.2.1 hE.2.2.1 hE.2.2.2.1 hO hp, Option.bind_some, if_neg (nI_nlt (by omega) (by omega)), show ((0 : Int32), m) = (nI 0, m) from rfl, e1, Option.bind_some, lt_eq, nI_1]
    rw [lp_step hbody]
    obtain ⟨m', e2, f2, g2⟩ := ih (k + 1) N m1 (by omega) (by omega) (hE.keep hB f1 (fun x j z => by omega)) (fun a b c h1 h2 h3 => (f1.1 _ _ (by omega)).trans (hL a b c h1 h2 h3))
    refine ⟨m', e2, (f1.mono (fun x j z => by omega)).tr (f2.mono (fun x j z => by omega)), fun v q h1 h2 h3 => ?_⟩
    by_cases hvk : v = k
    · subst hvk
      exact (f2.1 _ _ (by omega)).trans (g1 q (by omega) h3)
    · exact g2 v q (by omega) h2 h3
theorem bothp_lp {s n : Nat} {T : Nat → Nat} {G : Rg} {act : Nat → Bool} (hO : RO T n G) : ∀ (d k N : Nat) (m : Mi), k + d = G.1.length → d < N → ME s m T n G → AlM m T G act →
    ∃ m', lp (fun x : Int32 × Mi => f_X12_pairs_l171 TT x.2 870 (nI G.1.length) x.1) N (nI k, m) = some m' ∧ FI (fun x j => x = 902 ∧ 70 * k ≤ j) m m' ∧ ∀ p v q, k ≤ p → p < G.1.length → v ≤ cntR G.2.1 p → q < G.1.length → gi m' 902 ((7 * p + v) * 10 + q) = msk 7 (BT T G act p v q) := by
  have hB := hO.2.1
  have hB1 := hB.1
  intro d
  induction d with
  | zero =>
    intro k N m hk hN hE hL
    obtain ⟨N, rfl⟩ : ∃ y, N = y + 1 := ⟨N - 1, by omega⟩
    refine ⟨m, lp_exit ?_, FI.rf, fun p v q h1 h2 => by omega⟩
    show f_X12_pairs_l171 TT m 870 (nI G.1.length) (nI k) = _
    unfold f_X12_pairs_l171
    rw [if_pos (nI_le (by omega) (by omega))]
  | succ d ih =>
    intro k N m hk hN hE hL
    obtain ⟨N, rfl⟩ : ∃ y, N = y + 1 := ⟨N - 1, by omega⟩
    have h6 := hO.2.2.2.1.1 k
    obtain ⟨m1, e1, f1, g1⟩ := bothv_lp (p := k) hO (by omega) (cntR G.2.1 k + 1) 0 FUEL m (by omega) (by unfold FUEL; omega) hE hL
    have hbody : f_X12_pairs_l171 TT m 870 (nI G.1.length) (nI k) = some (.inl (nI (k + 1), m1)) := by
      unfold f_X12_pairs_l171 f_X12_pairs_j178 f_X12_pairs_j325
      rw [if_neg (nI_ge (by omega) (by omega)), show ((0 : Int32), m) = (nI 0, m) from rfl, e1, Option.bind_some, lt_eq, nI_1]
    rw [lp_step hbody]
    obtain ⟨m', e2, f2, g2⟩ := ih (k + 1) N m1 (by omega) (by omega) (hE.keep hB f1 (fun x j z => by omega)) (fun a b c h1 h2 h3 => (f1.1 _ _ (by omega)).trans (hL a b c h1 h2 h3))
    refine ⟨m', e2, (f1.mono (fun x j z => by omega)).tr (f2.mono (fun x j z => by omega)), fun p v q h1 h2 h3 h4 => ?_⟩
    by_cases hpk : p = k
    · subst hpk
      exact (f2.1 _ _ (by omega)).trans (g1 v q (by omega) h3 h4)
    · exact g2 p v q (by omega) h2 h3 h4
/-- the reference's pairs -/
def PBo (m : Mi) (T : Nat → Nat) (G : Rg) (act : Nat → Bool) : Prop := ∀ p v q, p < G.1.length → v ≤ cntR G.2.1 p → q < G.1.length → gi m 902 ((7 * p + v) * 10 + q) = msk 7 (BT T G act p v q)
theorem pairs_M {s n : Nat} {m : Mi} {T : Nat → Nat} {G : Rg} {act : Nat → Bool} (hO : RO T n G) (hE : ME s m T n G) (hA : OnM m act) : ∃ m', f_X12_pairs TT m 870 = some m' ∧ FI (fun x j => x = 901 ∨ x = 902) m m' ∧ PBo m' T G act := by
  have hB := hO.2.1
  have hB1 := hB.1
  obtain ⟨hM, hs, h21, hR⟩ := hE
  have w43 : gr m 870 43 = 901 := hM 43 (by omega)
  have hf : lp (fun x : Int32 × Mi => f_X12_pairs_l12 TT x.2 870 (nI G.1.length) x.1) FUEL (0, m) = some (blkI m 901 0 700 (fun _ => 127)) := by
    have h := lp_count (body := fun x : Int32 × Mi => f_X12_pairs_l12 TT x.2 870 (nI G.1.length) x.1) (fun k => (nI k, blkI m 901 0 k (fun _ => 127))) (a := 0) (n := 700) (y := blkI m 901 0 700 (fun _ => 127)) (Nat.zero_le _) (by omega) (fun k _ hk => ?_) ?_
    · rw [blkI_nil] at h
      exact h
    · show f_X12_pairs_l12 TT (blkI m 901 0 k (fun _ => 127)) 870 (nI G.1.length) (nI k) = _
      unfold f_X12_pairs_l12
      rw [if_neg (show ¬ (700 : Int32) ≤ nI k from nI_ge (b := 700) hk (by omega)), show gr (blkI m 901 0 k (fun _ => 127)) 870 43 = 901 from w43, if_pos (ar_of s_901 hk (by omega)), lt_eq, lt_eq, ix_nI (by omega), blkI_snoc m 901 0 k (fun _ => 127) (Nat.zero_le _), nI_1]
    · show f_X12_pairs_l12 TT (blkI m 901 0 700 (fun _ => 127)) 870 (nI G.1.length) (nI 700) = _
      unfold f_X12_pairs_l12
      rw [if_pos (by decide)]
  have f1 : FI (fun x j => x = 901) m (blkI m 901 0 700 (fun _ => 127)) := ⟨fun x j e => by simp only [mS]; rw [if_neg (fun z => e z.1)], fun _ _ => rfl, fun _ _ => rfl⟩
  have v1 : ∀ j, j < 700 → gi (blkI m 901 0 700 (fun _ => 127)) 901 j = 127 := fun j hj => by simp only [mS]; rw [if_pos ⟨trivial, Nat.zero_le _, hj⟩]
  unfold f_X12_pairs f_X12_pairs_j12
  rw [h21, hM.W.1, if_pos (ar_of s_881 hs (by omega)), lt_eq, ix_nI (by omega), hR.1.1.1, hf, Option.bind_some]
  generalize blkI m 901 0 700 (fun _ => 127) = m1 at *
  have E1 : ME s m1 T n G := ME.keep ⟨hM, hs, h21, hR⟩ hB f1 (fun x j z => by omega)
  obtain ⟨m2, e2, f2, g2⟩ := mlinks2_lp (a1 := nI G.1.length) (act := act) hO (lnkN G.2.2) 0 FUEL m1 (by omega) (by have := lnkN_le G.2.2; have := hB.2.2; unfold FUEL; omega) E1 (fun c hc => (f1.1 _ _ (by omega)).trans (hA c hc)) (fun p v q hp hv hq => (v1 _ (by omega)).trans m127)
  unfold f_X12_pairs_j33 f_X12_pairs_j35
  rw [show ((0 : Int32), m1) = (nI 0, m1) from rfl, e2, Option.bind_some]
  have E2 := E1.keep hB f2 (fun x j z => by omega)
  obtain ⟨m3, e3, f3, g3⟩ := bothp_lp (act := act) hO G.1.length 0 FUEL m2 (by omega) (by unfold FUEL; omega) E2 g2
  unfold f_X12_pairs_j169 f_X12_pairs_j171
  rw [show ((0 : Int32), m2) = (nI 0, m2) from rfl, e3, Option.bind_some]
  exact ⟨m3, rfl, ((f1.mono (fun x j z => Or.inl z)).tr (f2.mono (fun x j z => Or.inl z))).tr (f3.mono (fun x j z => Or.inr z.1)), fun p v q hp hv hq => g3 p v q (Nat.zero_le _) hp hv hq⟩
