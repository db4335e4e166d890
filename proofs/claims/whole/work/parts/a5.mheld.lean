/-! The reference's registry as it is held. -/
/-- the places of side s -/
def ON (s x j : Nat) : Prop := (881 ≤ x ∧ x ≤ 884 ∧ j = s) ∨ ((x = 885 ∨ x = 886) ∧ 10 * s ≤ j ∧ j < 10 * s + 10) ∨ (x = 887 ∧ 11 * s ≤ j ∧ j < 11 * s + 11) ∨ (888 ≤ x ∧ x ≤ 890 ∧ 60 * s ≤ j ∧ j < 60 * s + 60) ∨ (x = 891 ∧ 540 * s ≤ j ∧ j < 540 * s + 540) ∨ (892 ≤ x ∧ x ≤ 896 ∧ 250 * s ≤ j ∧ j < 250 * s + 250)
theorem FS_no {s s' x j : Nat} (hs : s < 2) (hs' : s' < 2) (hne : s ≠ s') (h : ON s x j) : ¬ FS s' x j := by
  unfold FS PR
  rcases h with h | h | h | h | h | h <;> omega
def MR0 (s : Nat) (m : Mi) (T : Nat → Nat) (G : Rg) : Prop := DN s m G ∧ EP s m G.1 ∧ ER s m T G.2.1 ∧ EC s m T G.2.2 ∧ LT s m T G ∧ PF s m G
theorem MR0.keep {s : Nat} {m m' : Mi} {T : Nat → Nat} {G : Rg} (h : MR0 s m T G) (hB : BGd G) (k : ∀ x j, ON s x j → gi m' x j = gi m x j ∧ gl m' x j = gl m x j) : MR0 s m' T G := by
  obtain ⟨⟨n1, n2, n3, n4⟩, eP, eR, eC, eL, eF⟩ := h
  have hB1 := hB.1
  have hB2 := hB.2.1
  have hB3 := hB.2.2
  refine ⟨⟨?_, ?_, ?_, ?_⟩, fun p x hx => ?_, fun r x hx => ?_, fun c x hx => ?_, fun c x hx => ?_, fun hne => ?_⟩
  · exact (k _ _ (Or.inl ⟨by omega, by omega, rfl⟩)).1.trans n1
  · exact (k _ _ (Or.inl ⟨by omega, by omega, rfl⟩)).1.trans n2
  · exact (k _ _ (Or.inl ⟨by omega, by omega, rfl⟩)).1.trans n3
  · exact (k _ _ (Or.inl ⟨by omega, by omega, rfl⟩)).1.trans n4
  · obtain ⟨a1, a2, a3⟩ := eP p x hx
    have := get_lt hx
    exact ⟨(k _ _ (Or.inr (Or.inl ⟨by omega, by omega, by omega⟩))).1.trans a1, (k _ _ (Or.inr (Or.inl ⟨by omega, by omega, by omega⟩))).1.trans a2, (k _ _ (Or.inr (Or.inr (Or.inl ⟨by omega, by omega, by omega⟩)))).1.trans a3⟩
  · obtain ⟨a1, a2, a3, a4, a5⟩ := eR r x hx
    have := get_lt hx
    have ko : ∀ z, z < 9 → gl m' 891 ((60 * s + r) * 9 + z) = gl m 891 ((60 * s + r) * 9 + z) := fun z hz => (k _ _ (Or.inr (Or.inr (Or.inr (Or.inr (Or.inl ⟨rfl, by omega, by omega⟩)))))).2
    exact ⟨(k _ _ (Or.inr (Or.inr (Or.inr (Or.inl ⟨by omega, by omega, by omega, by omega⟩))))).1.trans a1, (k _ _ (Or.inr (Or.inr (Or.inr (Or.inl ⟨by omega, by omega, by omega, by omega⟩))))).1.trans a2, (k _ _ (Or.inr (Or.inr (Or.inr (Or.inl ⟨by omega, by omega, by omega, by omega⟩))))).1.trans a3, VR_congr ko a4, (trM_congr ko).trans a5⟩
  · obtain ⟨a1, a2, a3, a4⟩ := eC c x hx
    have := get_lt hx
    have kc : ∀ y, 892 ≤ y → y ≤ 896 → gi m' y (250 * s + c) = gi m y (250 * s + c) := fun y h1 h2 => (k _ _ (Or.inr (Or.inr (Or.inr (Or.inr (Or.inr ⟨h1, h2, by omega, by omega⟩)))))).1
    exact ⟨(kc _ (by omega) (by omega)).trans a1, (kc _ (by omega) (by omega)).trans a2, (kc _ (by omega) (by omega)).trans a3, (kc _ (by omega) (by omega)).trans a4⟩
  · have := get_lt hx
    exact (k _ _ (Or.inr (Or.inr (Or.inr (Or.inr (Or.inr ⟨by omega, by omega, by omega, by omega⟩)))))).1.trans (eL c x hx)
  · exact (k _ _ (Or.inr (Or.inr (Or.inl ⟨rfl, by omega, by omega⟩)))).1.trans (eF hne)
/-- what is in the ranges, as the reference has it -/
def inR (T : Nat → Nat) (G : Rg) (x : CnT) (v : Nat) : Bool := decide (0 < v) && wi T G x (v - 1)
def MRs (s : Nat) (m : Mi) (T : Nat → Nat) (n : Nat) (G : Rg) : Prop := MR0 s m T G ∧ (∀ j, j < n → gi m 880 (2000 * s + j) = bT (T j)) ∧ (∀ c x, G.2.2[c]? = some x → MG m c (rgC T x)) ∧ ∀ c x, G.2.2[c]? = some x → gi m 899 c = msk 7 (inR T G x)
theorem MRs.keep {s n : Nat} {m m' : Mi} {T : Nat → Nat} {G : Rg} (h : MRs s m T n G) (hB : BGd G) (k : ∀ x j, ON s x j → gi m' x j = gi m x j ∧ gl m' x j = gl m x j) (k1 : ∀ x j, x = 880 ∨ x = 899 → gi m' x j = gi m x j) (k2 : ∀ j, j < 250 → gi m' 874 j = gi m 874 j) (k3 : ∀ j, j < 72000 → gl m' 875 j = gl m 875 j) : MRs s m' T n G := by
  obtain ⟨h1, h2, h3, h4⟩ := h
  have hB3 := hB.2.2
  refine ⟨h1.keep hB k, fun j hj => (k1 _ _ (Or.inl rfl)).trans (h2 j hj), fun c x hx => ?_, fun c x hx => (k1 _ _ (Or.inr rfl)).trans (h4 c x hx)⟩
  have hc := get_lt hx
  obtain ⟨z, a1, a2, a3, a4, a5⟩ := h3 c x hx
  have e : ∀ b, b < 2 * z → ∀ y, y < 9 → gl m' 875 (288 * c + 9 * b + y) = gl m 875 (288 * c + 9 * b + y) := fun b hb y hy => k3 _ (by omega)
  refine ⟨z, a1, a2, (k2 _ (by omega)).trans a3, fun b hb => VR_congr (e b hb) (a4 b hb), ?_⟩
  rw [← a5]
  unfold bM
  apply List.map_congr_left
  intro b hb
  exact trM_congr (e b (List.mem_range.mp hb))
def MRg (m : Mi) (T : Nat → Nat) (n : Nat) (G : Rg) : Prop := ∃ s, s < 2 ∧ gi m 870 21 = nI s ∧ MRs s m T n G
theorem MRg.keepF {m m' : Mi} {P : Nat → Nat → Prop} {T : Nat → Nat} {n : Nat} {G : Rg} (h : MRg m T n G) (hB : BGd G) (k : FrM P m m') (h1 : ∀ x j, 880 ≤ x → x ≤ 899 → x ≠ 897 → x ≠ 898 → ¬ P x j) (h2 : ∀ j, j < 250 → ¬ P 874 j) (h3 : ∀ j, j < 72000 → ¬ P 875 j) (h4 : ¬ P 870 21) : MRg m' T n G := by
  obtain ⟨s, hs, g1, g2⟩ := h
  refine ⟨s, hs, (k.1 _ _ h4).1.trans g1, g2.keep hB (fun x j hx => k.1 x j (h1 x j ?_ ?_ ?_ ?_)) (fun x j hx => (k.1 x j (h1 x j (by omega) (by omega) (by omega) (by omega))).1) (fun j hj => (k.1 _ _ (h2 j hj)).1) (fun j hj => (k.1 _ _ (h3 j hj)).2)⟩
  · unfold ON at hx; omega
  · unfold ON at hx; omega
  · unfold ON at hx; omega
  · unfold ON at hx; omega
theorem cons_M {s : Nat} {m : Mi} {G : Rg} (hM : WFM m) (hs : s < 2) (h21 : gi m 870 21 = nI s) (h0 : DN s m G) : f_X12_constraints TT m 870 = some (nI G.2.2.length) := by
  have hW := hM.W
  have hlk := lnkN_le G.2.2
  unfold f_X12_constraints
  rw [h21, hW.2.2.1, if_pos (ar_of s_883 hs (by omega)), hW.2.2.2.1, if_pos (ar_of s_884 hs (by omega)), ix_nI (by omega), h0.2.2.1, h0.2.2.2, nI_add, show lnkN G.2.2 + (G.2.2.length - lnkN G.2.2) = G.2.2.length by omega]
theorem first_M {s n p : Nat} {m : Mi} {T : Nat → Nat} {G : Rg} (hM : WFM m) (hs : s < 2) (h21 : gi m 870 21 = nI s) (h0 : MR0 s m T G) (hO : RO T n G) (hp : p < G.1.length) : f_X12_first_ TT m 870 (nI p) = some (nI (fr G p)) := by
  have hW := hM.W
  have hB1 := hO.2.1.1
  obtain ⟨y, hy⟩ := get_some hp
  unfold f_X12_first_
  rw [h21, hW.2.2.2.2.2.2.1, show (11 : Int32) = nI 11 from rfl, pk_mul, nI_add, if_pos (ar_of s_887 (by omega) (by omega)), ix_nI (by omega), (h0.2.1 p y hy).2.2, fr_get hy]
theorem many_M {s n p : Nat} {m : Mi} {T : Nat → Nat} {G : Rg} (hM : WFM m) (hs : s < 2) (h21 : gi m 870 21 = nI s) (h0 : MR0 s m T G) (hO : RO T n G) (hp : p < G.1.length) : f_X12_manyOf TT m 870 (nI p) = some (nI (cntR G.2.1 p)) := by
  have hW := hM.W
  have hB1 := hO.2.1.1
  have hB2 := hO.2.1.2.1
  obtain ⟨y, hy⟩ := get_some hp
  have hfl := fr_le hO hp
  have hnx : gi m 887 (11 * s + p + 1) = nI (fr G p + cntR G.2.1 p) := by
    rw [fr_get hy]
    by_cases hl : p + 1 < G.1.length
    · obtain ⟨y', hy'⟩ := get_some hl
      rw [show 11 * s + p + 1 = 11 * s + (p + 1) by omega, (h0.2.1 _ y' hy').2.2, hO.2.2.2.1.2 p y y' hy hy']
    · have e : p = G.1.length - 1 := by omega
      have hl3 := hO.1.1.2.2.1 y (by rw [← e]; exact hy)
      rw [← e] at hl3
      rw [show 11 * s + p + 1 = 11 * s + G.1.length by omega, h0.2.2.2.2.2 (fun z => by rw [z] at hp; simp at hp), hl3]
  unfold f_X12_manyOf
  rw [h21, hW.1, if_pos (ar_of s_881 hs (by omega)), ix_nI (by omega), h0.1.1, if_neg (nI_ne0 (by omega) (by omega)), hW.2.2.2.2.2.2.1, show (11 : Int32) = nI 11 from rfl, pk_mul, nI_add, nI_1, if_pos (ar_of s_887 (by omega) (by omega)), first_M hM hs h21 h0 hO hp, Option.bind_some, ix_nI (by omega), hnx, pk_sub (by omega), show fr G p + cntR G.2.1 p - fr G p = cntR G.2.1 p by omega]
theorem two_msk {k : Nat} (hk : k < 6) : (2 : Int32) <<< (nI k &&& 31) = msk 7 (fun i => decide (i = k + 1)) := by
  refine msk_of (fun i hi => ?_)
  rw [b_shl k (by omega) 2 hi]
  have h2 : ∀ j, j < 32 → bt 2 j = decide (j = 1) := by decide +kernel
  rw [h2 _ (by omega)]
  by_cases h : i = k + 1
  · subst h
    rw [decide_eq_true (show k ≤ k + 1 by omega), decide_eq_true (show k + 1 - k = 1 by omega), decide_eq_true (show k + 1 < 7 by omega), decide_eq_true rfl]
  · rw [decide_eq_false h, Bool.and_false]
    by_cases h3 : k ≤ i
    · rw [decide_eq_false (show ¬ i - k = 1 by omega), Bool.and_false]
    · rw [decide_eq_false h3, Bool.false_and]
theorem MG.si {m : Mi} {r a j : Nat} {v : Int32} {B : List Row} (h : MG m r B) (ha : a ≠ 874 ∨ j ≠ r) : MG (si m a j v) r B := by
  obtain ⟨n, a1, a2, a3, a4, a5⟩ := h
  exact ⟨n, a1, a2, by simp only [mS]; rw [if_neg (by omega)]; exact a3, a4, a5⟩
theorem MR0.si {s a j : Nat} {m : Mi} {v : Int32} {T : Nat → Nat} {G : Rg} (h : MR0 s m T G) (hB : BGd G) (ha : ¬ (881 ≤ a ∧ a ≤ 896)) : MR0 s (si m a j v) T G := h.keep hB (fun x i hx => ⟨by simp only [mS]; rw [if_neg (by unfold ON at hx; omega)], rfl⟩)
/-- which releases are in the range of constraint c -/
theorem tabIn_M {s n c : Nat} {m : Mi} {T : Nat → Nat} {G : Rg} {x : CnT} (hM : WFM m) (hs : s < 2) (h21 : gi m 870 21 = nI s) (h0 : MR0 s m T G) (hO : RO T n G) (hx : G.2.2[c]? = some x) (hG : MG m c (rgC T x)) (hU : Up (rgC T x)) :
    lp (fun y : Int32 × Mi => f_X12_tables_l35 TT y.2 870 (nI c) (nI (tgt T G x)) y.1) FUEL (0, si m 899 c 0) = some (si m 899 c (msk 7 (inR T G x))) := by
  have hB := hO.2.1
  have hB2 := hB.2.1
  have hB3 := hB.2.2
  have hc := get_lt hx
  have hp := (unk_fnd hO.2.2.1 (List.mem_of_getElem? hx)).2
  have hfl := fr_le hO hp
  have h6 := hO.2.2.2.1.1 (tgt T G x)
  have hm := lp_count (body := fun y : Int32 × Mi => f_X12_tables_l35 TT y.2 870 (nI c) (nI (tgt T G x)) y.1) (fun k => (nI k, si m 899 c (msk 7 (fun v => decide (0 < v) && (decide (v - 1 < k) && par (rgC T x) (rvR T G.2.1 (fr G (tgt T G x) + (v - 1)))))))) (a := 0) (n := cntR G.2.1 (tgt T G x)) (y := si m 899 c (msk 7 (inR T G x))) (Nat.zero_le _) (by omega) (fun k _ hk => ?_) ?_
  · rw [msk_none (n := 7) (f := fun v => decide (0 < v) && (decide (v - 1 < 0) && par (rgC T x) (rvR T G.2.1 (fr G (tgt T G x) + (v - 1))))) (by omega) (fun i _ => by rw [decide_eq_false (show ¬ i - 1 < 0 by omega), Bool.false_and, Bool.and_false])] at hm
    exact hm
  · show f_X12_tables_l35 TT (si m 899 c (msk 7 _)) 870 (nI c) (nI (tgt T G x)) (nI k) = _
    have hrr : fr G (tgt T G x) + k < G.2.1.length := by omega
    obtain ⟨w, hw⟩ := get_some hrr
    obtain ⟨_, _, _, a4, a5⟩ := h0.2.2.1 _ w hw
    have st : par (rgC T x) (rvR T G.2.1 (fr G (tgt T G x) + k)) = false → msk 7 (fun v => decide (0 < v) && (decide (v - 1 < k) && par (rgC T x) (rvR T G.2.1 (fr G (tgt T G x) + (v - 1))))) = msk 7 (fun v => decide (0 < v) && (decide (v - 1 < k + 1) && par (rgC T x) (rvR T G.2.1 (fr G (tgt T G x) + (v - 1))))) := by
      intro hP
      refine msk_congr (fun v _ => ?_)
      by_cases h : v - 1 = k
      · rw [h, hP]; simp
      · by_cases h2 : v - 1 < k
        · rw [decide_eq_true h2, decide_eq_true (show v - 1 < k + 1 by omega)]
        · rw [decide_eq_false h2, decide_eq_false (show ¬ v - 1 < k + 1 by omega)]
    have st2 : par (rgC T x) (rvR T G.2.1 (fr G (tgt T G x) + k)) = true → msk 7 (fun v => decide (0 < v) && (decide (v - 1 < k) && par (rgC T x) (rvR T G.2.1 (fr G (tgt T G x) + (v - 1))))) ||| (2 <<< (nI k &&& 31)) = msk 7 (fun v => decide (0 < v) && (decide (v - 1 < k + 1) && par (rgC T x) (rvR T G.2.1 (fr G (tgt T G x) + (v - 1))))) := by
      intro hP
      rw [two_msk (by omega), msk_or]
      refine msk_congr (fun v _ => ?_)
      by_cases h : v = k + 1
      · subst h
        simp [hP]
      · rw [decide_eq_false h, Bool.or_false]
        by_cases h0 : 0 < v
        · by_cases h2 : v - 1 < k
          · rw [decide_eq_true h2, decide_eq_true (show v - 1 < k + 1 by omega)]
          · rw [decide_eq_false h2, decide_eq_false (show ¬ v - 1 < k + 1 by omega)]
        · rw [decide_eq_false h0, Bool.false_and, Bool.false_and]
    generalize msk 7 (fun v => decide (0 < v) && (decide (v - 1 < k) && par (rgC T x) (rvR T G.2.1 (fr G (tgt T G x) + (v - 1))))) = M at *
    have hM' : WFM (si m 899 c M) := hM
    have h21' : gi (si m 899 c M) 870 21 = nI s := by simp only [mS]; rw [if_neg (by omega)]; exact h21
    have h0' : MR0 s (si m 899 c M) T G := h0.si hB (by omega)
    have hG' : MG (si m 899 c M) c (rgC T x) := hG.si (Or.inl (by omega))
    have hh := mhas_spec (m := si m 899 c M) (r := c) (a := 891) (i := (60 * s + (fr G (tgt T G x) + k)) * 9) hM' (by omega) hG' hU s_891 (by omega) (by omega) a4
    rw [show trM (fun z => gl (si m 899 c M) 891 ((60 * s + (fr G (tgt T G x) + k)) * 9 + z)) = rvR T G.2.1 (fr G (tgt T G x) + k) from a5.trans (rvR_get hw).symm] at hh
    unfold f_X12_tables_l35
    rw [many_M hM' hs h21' h0' hO hp, Option.bind_some, if_neg (nI_ge hk (by omega)), first_M hM' hs h21' h0' hO hp, Option.bind_some, hM'.W.2.2.2.2.2.2.2.2.2.2.1, h21', show (60 : Int32) = nI 60 from rfl, pk_mul, nI_add, nI_add, show (9 : Int32) = nI 9 from rfl, pk_mul, show 60 * s + fr G (tgt T G x) + k = 60 * s + (fr G (tgt T G x) + k) by omega, hh, Option.bind_some]
    cases hP : par (rgC T x) (rvR T G.2.1 (fr G (tgt T G x) + k)) with
    | false =>
      rw [if_pos bF, lt_eq, nI_1, st hP]
    | true =>
      rw [if_neg bTr, hM'.W.2.2.2.2.2.2.2.2.2.2.2.2.2.2.2.2.2.2, if_pos (ar_of s_899 (by omega) (by omega)), lt_eq, lt_eq, ix_nI (by omega), gi_si, st2 hP, si_si, nI_1]
  · show f_X12_tables_l35 TT (si m 899 c (msk 7 _)) 870 (nI c) (nI (tgt T G x)) (nI (cntR G.2.1 (tgt T G x))) = _
    have hM' : ∀ M, WFM (si m 899 c M) := fun M => hM
    have h21' : ∀ M, gi (si m 899 c M) 870 21 = nI s := fun M => by simp only [mS]; rw [if_neg (by omega)]; exact h21
    have h0' : ∀ M, MR0 s (si m 899 c M) T G := fun M => h0.si hB (by omega)
    unfold f_X12_tables_l35
    rw [many_M (hM' _) hs (h21' _) (h0' _) hO hp, Option.bind_some, if_pos (nI_le (Nat.le_refl _) (by omega))]
    rfl
theorem tables_lp {s n : Nat} {T : Nat → Nat} {G : Rg} (hs : s < 2) (hO : RO T n G) (hU : ∀ (c : Nat) (x : CnT), G.2.2[c]? = some x → Up (rgC T x)) : ∀ (d k N : Nat) (m : Mi), k + d = G.2.2.length → d < N → WFM m → gi m 870 21 = nI s → MR0 s m T G → (∀ c x, G.2.2[c]? = some x → MG m c (rgC T x)) → (∀ c x, c < k → G.2.2[c]? = some x → gi m 899 c = msk 7 (inR T G x)) →
    ∃ m', lp (fun y : Int32 × Mi => f_X12_tables_l2 TT y.2 870 y.1) N (nI k, m) = some m' ∧ FrM (fun x j => x = 899) m m' ∧ ∀ c x, G.2.2[c]? = some x → gi m' 899 c = msk 7 (inR T G x) := by
  have hB := hO.2.1
  have hB3 := hB.2.2
  intro d
  induction d with
  | zero =>
    intro k N m hk hN hM h21 h0 hG hc
    obtain ⟨N, rfl⟩ : ∃ y, N = y + 1 := ⟨N - 1, by omega⟩
    refine ⟨m, lp_exit ?_, FrM.rf, fun c x hx => hc c x (by have := get_lt hx; omega) hx⟩
    show f_X12_tables_l2 TT m 870 (nI k) = _
    unfold f_X12_tables_l2
    rw [cons_M hM hs h21 h0.1, Option.bind_some, if_pos (nI_le (by omega) (by omega))]
  | succ d ih =>
    intro k N m hk hN hM h21 h0 hG hc
    obtain ⟨N, rfl⟩ : ∃ y, N = y + 1 := ⟨N - 1, by omega⟩
    obtain ⟨x, hx⟩ := get_some (l := G.2.2) (k := k) (by omega)
    have hin := tabIn_M hM hs h21 h0 hO hx (hG k x hx) (hU k x hx)
    have hbody : f_X12_tables_l2 TT m 870 (nI k) = some (.inl (nI (k + 1), si m 899 k (msk 7 (inR T G x)))) := by
      unfold f_X12_tables_l2 f_X12_tables_j35
      rw [cons_M hM hs h21 h0.1, Option.bind_some, if_neg (nI_ge (by omega) (by omega)), h21, hM.W.2.2.2.2.2.2.2.2.2.2.2.2.2.2.2.1, show (250 : Int32) = nI 250 from rfl, pk_mul, nI_add, if_pos (ar_of s_896 (by omega) (by omega)), lt_eq, ix_nI (n := 250 * s + k) (by omega), h0.2.2.2.2.1 k x hx, hM.W.2.2.2.2.2.2.2.2.2.2.2.2.2.2.2.2.2.2, if_pos (ar_of s_899 (by omega) (by omega)), lt_eq, ix_nI (by omega), hin, Option.bind_some]
      unfold f_X12_tables_j96
      rw [lt_eq, nI_1]
    rw [lp_step hbody]
    have f1 : FrM (fun x j => x = 899) m (si m 899 k (msk 7 (inR T G x))) := FrM.si (P := fun x j => x = 899) rfl
    obtain ⟨m', e1, e2, e3⟩ := ih (k + 1) N (si m 899 k (msk 7 (inR T G x))) (by omega) (by omega) hM (by simp only [mS]; rw [if_neg (by omega)]; exact h21) (h0.si hB (by omega)) (fun c y hy => (hG c y hy).si (Or.inl (by omega))) (fun c y hck hy => by
      by_cases h : c = k
      · subst h
        rw [hx] at hy
        cases hy
        exact gi_si _ _ _ _
      · simp only [mS]
        rw [if_neg (by omega)]
        exact hc c y (by omega) hy)
    exact ⟨m', e1, f1.tr e2, e3⟩
