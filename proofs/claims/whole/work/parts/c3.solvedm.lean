/-! The reference's solver: what is open, and how many solutions. -/
def fxB (fx : Nat → Option Nat) (p v : Nat) : Bool := match fx p with
  | none => true
  | some u => decide (v = u)
def FxM (m : Mi) (fx : Nat → Option Nat) : Prop := ∀ p, p < 10 → (fx p = none ∧ gi m 904 p = -1) ∨ ∃ v, v < 7 ∧ fx p = some v ∧ gi m 904 p = nI v
theorem lo_msk : ∀ c, c < 7 → (2 : Int32) <<< (nI c &&& 31) - 1 = msk 7 (fun v => decide (v ≤ c)) := by decide +kernel
def D0m (G : Rg) (fx : Nat → Option Nat) (p v : Nat) : Bool := decide (v ≤ cntR G.2.1 p) && fxB fx p v
theorem open1_lp {s n : Nat} {T : Nat → Nat} {G : Rg} {fx : Nat → Option Nat} (hO : RO T n G) : ∀ (d k N : Nat) (m : Mi), k + d = G.1.length → d < N → ME s m T n G → FxM m fx → (∀ p, p < k → gi m 903 p = msk 7 (D0m G fx p)) →
    ∃ m', lp (fun x : Int32 × Mi => f_X12_opens_l12 TT x.2 870 (nI G.1.length) x.1) N (nI k, m) = some m' ∧ FI (fun x j => x = 903) m m' ∧ ∀ p, p < G.1.length → gi m' 903 p = msk 7 (D0m G fx p) := by
  have hB := hO.2.1
  have hB1 := hB.1
  intro d
  induction d with
  | zero =>
    intro k N m hk hN hE hF h
    obtain ⟨N, rfl⟩ : ∃ y, N = y + 1 := ⟨N - 1, by omega⟩
    refine ⟨m, lp_exit ?_, FI.rf, fun p hp => h p (by omega)⟩
    show f_X12_opens_l12 TT m 870 (nI G.1.length) (nI k) = _
    unfold f_X12_opens_l12
    rw [if_pos (nI_le (by omega) (by omega))]
  | succ d ih =>
    intro k N m hk hN hE hF h
    obtain ⟨N, rfl⟩ : ∃ y, N = y + 1 := ⟨N - 1, by omega⟩
    have w45 : gr m 870 45 = 903 := hE.1 45 (by omega)
    have w46 : gr m 870 46 = 904 := hE.1 46 (by omega)
    have h6 := hO.2.2.2.1.1 k
    have hmo := many_M hE.1 hE.2.1 hE.2.2.1 hE.2.2.2.1 hO (show k < G.1.length by omega)
    have hbody : ∃ m1, f_X12_opens_l12 TT m 870 (nI G.1.length) (nI k) = some (.inl (nI (k + 1), m1)) ∧ FI (fun x j => x = 903) m m1 ∧ gi m1 903 k = msk 7 (D0m G fx k) ∧ ∀ j, j ≠ k → gi m1 903 j = gi m 903 j := by
      unfold f_X12_opens_l12
      rw [if_neg (nI_ge (by omega) (by omega)), hmo, Option.bind_some, w45, if_pos (ar_of s_903 (by omega) (by omega)), lt_eq, ix_nI (by omega), lo_msk _ (by omega)]
      have g1 : gi (si m 903 k (msk 7 (fun v => decide (v ≤ cntR G.2.1 k)))) 904 k = gi m 904 k := by simp only [mS]; rw [if_neg (by omega)]
      have g2 : gi (si m 903 k (msk 7 (fun v => decide (v ≤ cntR G.2.1 k)))) 903 k = msk 7 (fun v => decide (v ≤ cntR G.2.1 k)) := gi_si _ _ _ _
      have g3 : gr (si m 903 k (msk 7 (fun v => decide (v ≤ cntR G.2.1 k)))) 870 46 = 904 := w46
      have g4 : gr (si m 903 k (msk 7 (fun v => decide (v ≤ cntR G.2.1 k)))) 870 45 = 903 := w45
      have f1 : FI (fun x j => x = 903) m (si m 903 k (msk 7 (fun v => decide (v ≤ cntR G.2.1 k)))) := FI.si (P := fun x j => x = 903) rfl
      have o1 : ∀ j, j ≠ k → gi (si m 903 k (msk 7 (fun v => decide (v ≤ cntR G.2.1 k)))) 903 j = gi m 903 j := fun j hj => by simp only [mS]; rw [if_neg (by omega)]
      generalize si m 903 k (msk 7 (fun v => decide (v ≤ cntR G.2.1 k))) = m1 at *
      rw [g3, if_pos (ar_of s_904 (by omega) (by omega)), g1]
      rcases hF k (by omega) with ⟨e1, e2⟩ | ⟨v, hv, e1, e2⟩
      · rw [e2, if_pos rfl, lt_eq, nI_1]
        refine ⟨m1, rfl, f1, g2.trans (msk_congr (fun i _ => ?_)), o1⟩
        unfold D0m fxB
        rw [e1, Bool.and_true]
      · rw [e2, if_neg (nneg (by omega)), g4, if_pos (ar_of s_903 (by omega) (by omega)), lt_eq, lt_eq, nI_1, g2, one_msk hv (by omega), msk_and]
        refine ⟨_, rfl, f1.tr (FI.si (P := fun x j => x = 903) rfl), ?_, fun j hj => ?_⟩
        · rw [gi_si]
          refine msk_congr (fun i _ => ?_)
          unfold D0m fxB
          rw [e1]
        · simp only [mS]
          rw [if_neg (by omega)]
          exact o1 j hj
    obtain ⟨m1, e1, f1, r1, o1⟩ := hbody
    rw [lp_step e1]
    obtain ⟨m', e2, f2, g2⟩ := ih (k + 1) N m1 (by omega) (by omega) (hE.keep hB f1 (fun x j z => by omega)) (fun p hp => by rw [f1.1 904 p (by omega)]; exact hF p hp) (fun p hp => by
      by_cases hpk : p = k
      · rw [hpk]; exact r1
      · rw [o1 p hpk]; exact h p (by omega))
    exact ⟨m', e2, f1.tr f2, g2⟩
def wtQ (T : Nat → Nat) (G : Rg) (act : Nat → Bool) (k p w : Nat) : Bool := (List.range k).all (fun c => match G.2.2[c]? with
  | some x => !(act c && (decide (x.1 = 4) && decide (tgt T G x = p))) || inR T G x w
  | none => true)
theorem wtQ_succ (T : Nat → Nat) (G : Rg) (act : Nat → Bool) (k p w : Nat) {x : CnT} (hx : G.2.2[k]? = some x) : wtQ T G act (k + 1) p w = (wtQ T G act k p w && (!(act k && (decide (x.1 = 4) && decide (tgt T G x = p))) || inR T G x w)) := by
  unfold wtQ
  rw [List.range_succ, List.all_append]
  simp only [List.all_cons, List.all_nil, Bool.and_true, hx]
theorem wtQ_lnk {T : Nat → Nat} {n : Nat} {G : Rg} (hO : RO T n G) {act : Nat → Bool} {p w : Nat} : wtQ T G act (lnkN G.2.2) p w = true := by
  unfold wtQ
  rw [List.all_eq_true]
  intro c hc
  have hc := List.mem_range.mp hc
  have hl := lnkN_le G.2.2
  obtain ⟨x, hx⟩ := get_some (l := G.2.2) (k := c) (by omega)
  have h4 : x.1 ≠ 4 := fun e => by have := (hO.1.1.2.2.2.2.2 c x hx).mp e; omega
  rw [hx]
  simp [h4]
theorem open2_lp {s n : Nat} {T : Nat → Nat} {G : Rg} {act : Nat → Bool} {D : Nat → Nat → Bool} (hO : RO T n G) : ∀ (d k N : Nat) (m : Mi), k + d = G.2.2.length → lnkN G.2.2 ≤ k → d < N → ME s m T n G → OnM m act → (∀ p, p < G.1.length → gi m 903 p = msk 7 (fun v => D p v && wtQ T G act k p v)) →
    ∃ m', lp (fun x : Int32 × Mi => f_X12_opens_l79 TT x.2 870 x.1) N (nI k, m) = some m' ∧ FI (fun x j => x = 903) m m' ∧ ∀ p, p < G.1.length → gi m' 903 p = msk 7 (fun v => D p v && wt T G act p v) := by
  have hB := hO.2.1
  have hB1 := hB.1
  have hB3 := hB.2.2
  intro d
  induction d with
  | zero =>
    intro k N m hk hlk hN hE hA h
    obtain ⟨N, rfl⟩ : ∃ y, N = y + 1 := ⟨N - 1, by omega⟩
    refine ⟨m, lp_exit ?_, FI.rf, fun p hp => by rw [h p hp, show k = G.2.2.length by omega]; rfl⟩
    show f_X12_opens_l79 TT m 870 (nI k) = _
    unfold f_X12_opens_l79
    rw [cons_M hE.1 hE.2.1 hE.2.2.1 hE.2.2.2.1.1, Option.bind_some, if_pos (nI_le (by omega) (by omega))]
  | succ d ih =>
    intro k N m hk hlk hN hE hA h
    obtain ⟨N, rfl⟩ : ∃ y, N = y + 1 := ⟨N - 1, by omega⟩
    have hs := hE.2.1
    have w38 : gr m 870 38 = 896 := hE.1 38 (by omega)
    have w42 : gr m 870 42 = 900 := hE.1 42 (by omega)
    have w45 : gr m 870 45 = 903 := hE.1 45 (by omega)
    have w41 : gr m 870 41 = 899 := hE.1 41 (by omega)
    obtain ⟨x, hx⟩ := get_some (l := G.2.2) (k := k) (by omega)
    have h4 : x.1 = 4 := (hO.1.1.2.2.2.2.2 k x hx).mpr (by omega)
    have ut := (unk_fnd hO.2.2.1 (List.mem_of_getElem? hx)).2
    have lt1 := hE.2.2.2.1.2.2.2.2.1 k x hx
    have tw := hE.2.2.2.2.2.2 k x hx
    have hbody : f_X12_opens_l79 TT m 870 (nI k) = if bI (act k) = 0 then some (.inl (nI (k + 1), m)) else some (.inl (nI (k + 1), si m 903 (tgt T G x) (msk 7 (fun v => (D (tgt T G x) v && wtQ T G act k (tgt T G x) v) && inR T G x v)))) := by
      unfold f_X12_opens_l79
      rw [cons_M hE.1 hE.2.1 hE.2.2.1 hE.2.2.2.1.1, Option.bind_some, if_neg (nI_ge (by omega) (by omega)), hE.2.2.1, show (250 : Int32) = nI 250 from rfl, pk_mul, nI_add, w38, if_pos (ar_of s_896 (by omega) (by omega)), lt_eq, w42, if_pos (ar_of s_900 (by omega) (by omega)), ix_nI (n := k) (by omega), hA k (by omega), ix_nI (n := 250 * s + k) (by omega), lt1, w45, if_pos (ar_of s_903 (by omega) (by omega)), w41, if_pos (ar_of s_899 (by omega) (by omega)), ix_nI (n := tgt T G x) (by omega), h _ ut, tw, msk_and]
      simp only [lt_eq, nI_1]
    cases hac : act k with
    | false =>
      rw [hac, if_pos bF] at hbody
      rw [lp_step hbody]
      exact ih (k + 1) N m (by omega) (by omega) (by omega) hE hA (fun p hp => (h p hp).trans (msk_congr (fun v _ => by rw [wtQ_succ T G act k p v hx, hac]; simp)))
    | true =>
      rw [hac, if_neg bTr] at hbody
      rw [lp_step hbody]
      have f1 : FI (fun x j => x = 903) m (si m 903 (tgt T G x) (msk 7 (fun v => (D (tgt T G x) v && wtQ T G act k (tgt T G x) v) && inR T G x v))) := FI.si (P := fun x j => x = 903) rfl
      obtain ⟨m', e2, f2, g2⟩ := ih (k + 1) N _ (by omega) (by omega) (by omega) (hE.keep hB f1 (fun x j z => by omega)) (fun c hc => (f1.1 _ _ (by omega)).trans (hA c hc)) (fun p hp => by
        by_cases hpt : p = tgt T G x
        · rw [hpt, gi_si]
          refine msk_congr (fun v _ => ?_)
          rw [wtQ_succ T G act k _ v hx, hac, decide_eq_true h4, decide_eq_true rfl, Bool.and_assoc]
          rfl
        · simp only [mS]
          rw [if_neg (by omega), h p hp]
          refine msk_congr (fun v _ => ?_)
          rw [wtQ_succ T G act k _ v hx, decide_eq_false (p := tgt T G x = p) (fun z => hpt z.symm)]
          simp)
      exact ⟨m', e2, f1.tr f2, g2⟩
/-- the values that the wants and what is fixed leave -/
def D1m (T : Nat → Nat) (G : Rg) (act : Nat → Bool) (fx : Nat → Option Nat) (p v : Nat) : Bool := D0m G fx p v && wt T G act p v
theorem D1_DV {T : Nat → Nat} {G : Rg} {act : Nat → Bool} {fx : Nat → Option Nat} : DV G (D1m T G act fx) := fun p v _ h => by
  unfold D1m D0m at h
  exact of_decide_eq_true (Bool.and_eq_true_iff.mp (Bool.and_eq_true_iff.mp h).1).1
def FSo (x j : Nat) : Prop := x = 901 ∨ x = 902 ∨ x = 903 ∨ x = 905 ∨ x = 906
theorem opens_M {s n : Nat} {m : Mi} {T : Nat → Nat} {G : Rg} {act : Nat → Bool} {fx : Nat → Option Nat} (hO : RO T n G) (hE : ME s m T n G) (hA : OnM m act) (hF : FxM m fx) :
    ∃ r D' m', f_X12_opens TT m 870 = some (bI r, m') ∧ FI FSo m m' ∧ PBo m' T G act ∧ RWm m' G 0 D' ∧ DV G D' ∧ SfR T G act (D1m T G act fx) D' ∧ (r = true → AC T G act D') ∧ (r = false → ∀ f, ¬ SR T G act (D1m T G act fx) f) := by
  have hB := hO.2.1
  have hB1 := hB.1
  have hB3 := hB.2.2
  have hs := hE.2.1
  have hl := lnkN_le G.2.2
  obtain ⟨m1, e1, f1, r1⟩ := open1_lp hO G.1.length 0 FUEL m (by omega) (by unfold FUEL; omega) hE hF (fun p hp => by omega)
  have hE1 := hE.keep hB f1 (fun x j z => by omega)
  have hA1 : OnM m1 act := fun c hc => (f1.1 _ _ (by omega)).trans (hA c hc)
  obtain ⟨m2, e2, f2, r2⟩ := open2_lp (D := D0m G fx) hO (G.2.2.length - lnkN G.2.2) (lnkN G.2.2) FUEL m1 (by omega) (by omega) (by unfold FUEL; omega) hE1 hA1 (fun p hp => (r1 p hp).trans (msk_congr (fun v _ => by rw [wtQ_lnk hO, Bool.and_true])))
  have hE2 := hE1.keep hB f2 (fun x j z => by omega)
  have hA2 : OnM m2 act := fun c hc => (f2.1 _ _ (by omega)).trans (hA1 c hc)
  obtain ⟨m3, e3, f3, p3⟩ := pairs_M hO hE2 hA2
  have hE3 := hE2.keep hB f3 (fun x j z => by omega)
  have r3 : RWm m3 G 0 (D1m T G act fx) := fun p hp => by
    rw [show 10 * 0 + p = p by omega, f3.1 _ _ (by omega), r2 p hp]
    rfl
  obtain ⟨r, D', m4, e4, f4, r4, v4, s4, ok4, no4⟩ := sifts_M (act := act) hO (show 0 ≤ 10 by omega) hE3 p3 r3 D1_DV
  refine ⟨r, D', m4, ?_, ?_, fun x y z h1 h2 h3 => (f4.1 _ _ (by omega)).trans (p3 x y z h1 h2 h3), r4, v4, s4, ok4, no4⟩
  · unfold f_X12_opens f_X12_opens_j12
    rw [hE.2.2.1, hE.1.W.1, if_pos (ar_of s_881 hs (by omega)), lt_eq, ix_nI (by omega), hE.2.2.2.1.1.1, show ((0 : Int32), m) = (nI 0, m) from rfl, e1, Option.bind_some]
    unfold f_X12_opens_j69 f_X12_opens_j79
    rw [hE1.2.2.1, hE1.1.W.2.2.1, if_pos (ar_of s_883 hs (by omega)), lt_eq, ix_nI (by omega), hE1.2.2.2.1.1.2.2.1, e2, Option.bind_some]
    unfold f_X12_opens_j137
    rw [e3, Option.bind_some, show (0 : Int32) = nI 0 from rfl, e4, bd_some, if_pos (by cases r <;> rfl)]
  · have g1 : FI FSo m m1 := f1.mono (fun x j z => by unfold FSo; omega)
    have g2 : FI FSo m1 m2 := f2.mono (fun x j z => by unfold FSo; omega)
    have g3 : FI FSo m2 m3 := f3.mono (fun x j z => by unfold FSo; omega)
    have g4 : FI FSo m3 m4 := f4.mono (fun x j z => by unfold FSo; omega)
    exact ((g1.tr g2).tr g3).tr g4
/-- the solutions that keep what is fixed -/
def NF (T : Nat → Nat) (G : Rg) (act : Nat → Bool) (fx : Nat → Option Nat) : Nat := NS G.1.length (fun p v => dm0 T G act p v && fxB fx p v) (bb T G act)
theorem NF_D1 {T : Nat → Nat} {G : Rg} {act : Nat → Bool} {fx : Nat → Option Nat} : NRm T G act (D1m T G act fx) = NF T G act fx := by
  unfold NRm NF
  refine congrArg (fun D => NS G.1.length D (bb T G act)) ?_
  funext p v
  unfold DSy D1m D0m dm0
  cases decide (v ≤ cntR G.2.1 p) <;> cases fxB fx p v <;> cases wt T G act p v <;> cases sy T G act p v p v <;> rfl
theorem solved_M {s n most : Nat} {m : Mi} {T : Nat → Nat} {G : Rg} {act : Nat → Bool} {fx : Nat → Option Nat} (hO : RO T n G) (hE : ME s m T n G) (hA : OnM m act) (hF : FxM m fx) (h1 : 1 ≤ most) (hm : most ≤ 1000) :
    ∃ m', f_X12_solved TT m 870 (nI most) = some (nI (min most (NF T G act fx)), m') ∧ FI FSo m m' := by
  have hB := hO.2.1
  have hB1 := hB.1
  obtain ⟨r, D, m1, e1, f1, p1, r1, v1, s1, ok1, no1⟩ := opens_M hO hE hA hF
  have hn : NF T G act fx = NRm T G act D := by rw [← NF_D1]; exact NR_sift D1_DV v1 s1
  cases r with
  | false =>
    refine ⟨m1, ?_, f1⟩
    have hz : NF T G act fx = 0 := by rw [← NF_D1]; exact NR_zero D1_DV (no1 rfl)
    unfold f_X12_solved
    rw [e1, bd_some, if_pos bF, hz, Nat.min_zero]
    rfl
  | true =>
    have hAC := ok1 rfl
    have hE1 := hE.keep hB f1 (fun x j z => by unfold FSo at z; omega)
    obtain ⟨rf, ef, gf⟩ := fewest_M hO (show 0 ≤ 10 by omega) hE1 r1
    have w48 : gr m1 870 48 = 906 := hE1.1 48 (by omega)
    have w47 : gr m1 870 47 = 905 := hE1.1 47 (by omega)
    have f2 : FI FSo m1 (si (si m1 906 0 rf) 905 0 (-1)) := (FI.si (P := FSo) (by unfold FSo; omega)).tr (FI.si (P := FSo) (by unfold FSo; omega))
    have hstart : f_X12_solved TT m 870 (nI most) = if rf = -1 then some (1, si (si m1 906 0 rf) 905 0 (-1)) else f_X12_solved_j43 TT (si (si m1 906 0 rf) 905 0 (-1)) 870 (nI most) 0 0 := by
      unfold f_X12_solved
      rw [e1, bd_some, if_neg bTr, show f_X12_fewest TT m1 870 0 = some rf from ef, Option.bind_some, w48, if_pos (show ar TT 906 .int 0 = true from ar_of (k := 0) s_906 (by omega) (by omega)), lt_eq, show gr (si m1 906 (ix 0) rf) 870 47 = 905 from w47, if_pos (show ar TT 905 .int 0 = true from ar_of (k := 0) s_905 (by omega) (by omega)), lt_eq, show gr (si (si m1 906 (ix 0) rf) 905 (ix 0) (-1)) 870 48 = 906 from w48, if_pos (show ar TT 906 .int 0 = true from ar_of (k := 0) s_906 (by omega) (by omega)), show ix 0 = 0 from rfl, show gi (si (si m1 906 0 rf) 905 0 (-1)) 906 0 = rf by simp only [mS]; rw [if_neg (by omega), if_pos ⟨trivial, trivial⟩]]
    rcases gf with ⟨hr1, hall1⟩ | ⟨p', hp', hr1, hp1'⟩
    · rw [if_pos hr1] at hstart
      refine ⟨_, hstart.trans ?_, f1.tr f2⟩
      rw [hn, NR_one hO v1 hAC hall1, show min most 1 = 1 by omega]
      rfl
    · rw [if_neg (show ¬ rf = -1 by rw [hr1]; exact nneg (by omega))] at hstart
      have hE2 := hE1.keep hB f2 (fun x j z => by unfold FSo at z; omega)
      have hP2 : PBo (si (si m1 906 0 rf) 905 0 (-1)) T G act := fun x y z a b c => by simp only [mS]; rw [if_neg (by omega), if_neg (by omega)]; exact p1 x y z a b c
      have hR2 : RWm (si (si m1 906 0 rf) 905 0 (-1)) G 0 D := fun q hq => by simp only [mS]; rw [if_neg (by omega), if_neg (by omega)]; exact r1 q hq
      have at2 : gi (si (si m1 906 0 rf) 905 0 (-1)) 906 0 = nI p' := by simp only [mS]; rw [if_neg (by omega), if_pos ⟨trivial, trivial⟩, hr1]
      have t2 : gi (si (si m1 906 0 rf) 905 0 (-1)) 905 0 = nI 0 - 1 := (gi_si _ _ _ _).trans (by decide)
      generalize si (si m1 906 0 rf) 905 0 (-1) = m2 at *
      have hu := uD_le G.1.length D
      have hup := uD_pos hp' hp1'
      obtain ⟨j, m3, hj, f3, g3⟩ := level (act := act) hO hm 10 7 0 0 0 p' m2 D (by omega) (by omega) (by omega) (by omega) hE2 hP2 hR2 v1 hAC at2 hp' hp1' t2 (by omega)
      rw [show sTm T G act D p' (7 - 0) 0 = NRm T G act D from (NR_branch hO v1 hp').symm, ← hn, Nat.zero_add] at g3
      have hb9 : Bd (10 - 1) < 2 ^ 58 := by decide +kernel
      have hjF : j + 2 < FUEL := by unfold FUEL; omega
      have f3' : FI FSo m2 m3 := f3.mono (fun x j z => by unfold FS9 at z; unfold FSo; omega)
      refine ⟨m3, ?_, (f1.tr f2).tr f3'⟩
      rw [hstart]
      unfold f_X12_solved_j43
      rcases g3 with ⟨hlt, hgo⟩ | ⟨hge, hgo⟩
      · have h := hgo ((FUEL - j - 1) + 1)
        rw [show FUEL - j - 1 + 1 + j = FUEL by omega] at h
        have hex : lp (bdy most) ((FUEL - j - 1) + 1) (nI (NF T G act fx), nI 0 - 1, m3) = some (.inl (nI (NF T G act fx), m3)) := lp_exit (by
          show f_X12_solved_l43 TT m3 870 (nI most) (nI (NF T G act fx)) (nI 0 - 1) = _
          unfold f_X12_solved_l43
          rw [if_pos (by decide)])
        rw [show lp (fun x : Int32 × Int32 × Mi => f_X12_solved_l43 TT x.2.2 870 (nI most) x.1 x.2.1) FUEL (0, 0, m2) = some (.inl (nI (NF T G act fx), m3)) from h.trans hex, show min most (NF T G act fx) = NF T G act fx by omega]
        rfl
      · have h := hgo (FUEL - j)
        rw [show FUEL - j + j = FUEL by omega] at h
        rw [show lp (fun x : Int32 × Int32 × Mi => f_X12_solved_l43 TT x.2.2 870 (nI most) x.1 x.2.1) FUEL (0, 0, m2) = some (.inr (nI most, m3)) from h, show min most (NF T G act fx) = most by omega]
        rfl
