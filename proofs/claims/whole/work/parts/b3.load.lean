/-! The class's solver: what is open; load; constraints left out and taken in. -/
theorem base_msk : ∀ c, c < 7 → (((1 : Int32) <<< (nI c &&& 31)) - 1) ||| 64 = msk 7 (fun b => decide (b < c) || decide (b = 6)) := by decide +kernel
/-- wants below c -/
def wtK (T : Nat → Nat) (G : Rg) (act : Nat → Bool) (p c b : Nat) : Bool := (List.range c).all (fun j => match G.2.2[j]? with
  | some x => !(act j && (decide (x.1 = 4) && decide (tgt T G x = p))) || inR T G x (em b)
  | none => true)
theorem wtK_succ (T : Nat → Nat) (G : Rg) (act : Nat → Bool) (p c b : Nat) {z : CnT} (hz : G.2.2[c]? = some z) : wtK T G act p (c + 1) b = (wtK T G act p c b && (!(act c && (decide (z.1 = 4) && decide (tgt T G z = p))) || inR T G z (em b))) := by
  unfold wtK
  rw [List.range_succ, List.all_append]
  simp only [List.all_cons, List.all_nil, Bool.and_true, hz]
theorem wtK_lnk {T : Nat → Nat} {n : Nat} {G : Rg} (hO : RO T n G) {act : Nat → Bool} {p b : Nat} : wtK T G act p (lnkN G.2.2) b = true := by
  unfold wtK
  rw [List.all_eq_true]
  intro j hj
  have hj := List.mem_range.mp hj
  have hl := lnkN_le G.2.2
  obtain ⟨x, hx⟩ := get_some (l := G.2.2) (k := j) (by omega)
  rw [hx]
  have := hO.1.1.2.2.2.2.2 j x hx
  have h4 : ¬ x.1 = 4 := fun e => by have := this.mp e; omega
  show (!(act j && (decide (x.1 = 4) && decide (tgt T G x = p))) || inR T G x (em b)) = true
  rw [decide_eq_false h4]
  simp
theorem openPack_C {q n p : Nat} {m : Mi} {T : Nat → Nat} {G : Rg} {act : Nat → Bool} {σ : Sg} (hq : QS q) (hC : CG q m T n G) (hO : RO T n G) (hS : SV q m) (hA : Ac m act) (hs : Sa m σ) (hσ : ∀ b, b < 7 → σ p b p b = sy T G act p (em b) p (em b)) (hp : p < G.1.length) : f_X8_openPack TT m 853 (nI p) = some (si m 856 p (msk 7 (fun b => dm0 T G act p (em b)))) := by
  have hB := hO.2.1
  have hB1 := hB.1
  have hB3 := hB.2.2
  have hl := lnkN_le G.2.2
  have h6 := hO.2.2.2.1.1 p
  obtain ⟨y, hy⟩ := get_some hp
  obtain ⟨_, _, _, p4, _⟩ := hC.1.2.2.1.2.2.2.2.1 p y hy
  have hsp := (hq.2.2.2.2.2.2.2.2.1 p (by omega)).1
  -- the wants
  have hw := lp_count (body := fun x : Int32 × Int32 => f_X8_openPack_l45 TT m 853 (nI p) (q + 3 + 2 * p) x.1 x.2) (fun c => (msk 7 (fun b => (decide (b < cntR G.2.1 p) || decide (b = 6)) && wtK T G act p c b), nI c)) (a := lnkN G.2.2) (n := G.2.2.length) (y := msk 7 (fun b => (decide (b < cntR G.2.1 p) || decide (b = 6)) && wtK T G act p G.2.2.length b)) hl (by omega) (fun c hc0 hc => by
    show f_X8_openPack_l45 TT m 853 (nI p) (q + 3 + 2 * p) (msk 7 _) (nI c) = _
    obtain ⟨x, hx⟩ := get_some hc
    obtain ⟨c1, _⟩ := hC.1.2.2.1.2.2.2.2.2.2 c x hx
    have tg := hC.1.2.2.2 c x hx
    have tw := hC.2 c x hx
    have ut := unk_fnd hO.2.2.1 (List.mem_of_getElem? hx)
    rw [wi_msk T G x (hO.2.2.2.1.1 _)] at tw
    have h4 : x.1 = 4 := (hO.1.1.2.2.2.2.2 c x hx).mpr hc0
    have su := fun b => wtK_succ T G act p c b hx
    unfold f_X8_openPack_l45 f_X6_constraints
    rw [hS.1, ob_of hq.2.1, if_pos rfl, Option.bind_some, hC.1.2.2.1.2.2.1, if_neg (nI_ge hc (by omega)), conAt_C hq hC.1.1 hC.1.2.2.1 hB hc, Option.bind_some, if_neg (show ¬ q + 145 + c = 0 by omega), ob_of (hq.2.2.2.2.2.2.2.2.2.2 c (by omega)), if_pos rfl, tg]
    by_cases htt : tgt T G x = p
    · rw [if_pos (by rw [htt]), isActive_C hS hA (by omega), Option.bind_some]
      cases hac : act c with
      | false =>
        rw [if_pos bF, lt_eq, nI_1]
        rw [msk_congr (g := fun b => (decide (b < cntR G.2.1 p) || decide (b = 6)) && wtK T G act p (c + 1) b) (fun b _ => by rw [su, hac]; simp)]
      | true =>
        rw [if_neg bTr, lt_eq, lt_eq, tw, msk_and, nI_1]
        rw [msk_congr (g := fun b => (decide (b < cntR G.2.1 p) || decide (b = 6)) && wtK T G act p (c + 1) b) (fun b _ => by rw [su, hac, decide_eq_true htt, decide_eq_true h4]; simp [Bool.and_assoc])]
    · rw [if_neg (fun e => htt ((nI_eq (by omega) (by omega)).mp e)), lt_eq, nI_1]
      rw [msk_congr (g := fun b => (decide (b < cntR G.2.1 p) || decide (b = 6)) && wtK T G act p (c + 1) b) (fun b _ => by rw [su, decide_eq_false htt]; simp)]) (by
    show f_X8_openPack_l45 TT m 853 (nI p) (q + 3 + 2 * p) (msk 7 _) (nI G.2.2.length) = _
    unfold f_X8_openPack_l45 f_X6_constraints
    rw [hS.1, ob_of hq.2.1, if_pos rfl, Option.bind_some, hC.1.2.2.1.2.2.1, if_pos (nI_le (Nat.le_refl _) (by omega))])
  -- its own links
  have ho := lp_count (body := fun x : Int32 × Int32 => f_X8_openPack_l108 TT m 853 (nI p) (q + 3 + 2 * p) x.1 x.2) (fun k => (msk 7 (fun b => ((decide (b < cntR G.2.1 p) || decide (b = 6)) && wtK T G act p G.2.2.length b) && (!decide (b < k) || sy T G act p (em b) p (em b))), nI k)) (a := 0) (n := cntR G.2.1 p) (y := msk 7 (fun b => ((decide (b < cntR G.2.1 p) || decide (b = 6)) && wtK T G act p G.2.2.length b) && (!decide (b < cntR G.2.1 p) || sy T G act p (em b) p (em b)))) (Nat.zero_le _) (by omega) (fun k _ hk => by
    show f_X8_openPack_l108 TT m 853 (nI p) (q + 3 + 2 * p) (msk 7 _) (nI k) = _
    unfold f_X8_openPack_l108
    rw [ob_of hsp, if_pos rfl, p4, if_neg (nI_ge hk (by omega)), if_neg (show ¬ (6 : Int32) ≤ nI k from nI_ge (b := 6) (by omega) (by omega)), hS.2.1, show (7 : Int32) = nI 7 from rfl, show (10 : Int32) = nI 10 from rfl, pk_mul, nI_add, pk_mul, nI_add, if_pos (ar_of s_854 (by omega) (by omega)), ix_nI (by omega), hs.1 p k p (by omega) (by omega) (by omega), msk_get (show k < 7 by omega) (by omega), hσ k (by omega)]
    have hstep : ∀ b, b ≠ k → decide (b < k) = decide (b < k + 1) := fun b hb => by
      by_cases h : b < k
      · rw [decide_eq_true h, decide_eq_true (show b < k + 1 by omega)]
      · rw [decide_eq_false h, decide_eq_false (show ¬ b < k + 1 by omega)]
    cases hsy : sy T G act p (em k) p (em k) with
    | false =>
      rw [if_pos bF, lt_eq, lt_eq, one_msk (show k < 7 by omega) (by omega), msk_without, nI_1]
      rw [msk_congr (g := fun b => ((decide (b < cntR G.2.1 p) || decide (b = 6)) && wtK T G act p G.2.2.length b) && (!decide (b < k + 1) || sy T G act p (em b) p (em b))) (fun b _ => by
        by_cases hb : b = k
        · rw [hb, hsy]; simp
        · rw [hstep b hb, decide_eq_false hb]; simp)]
    | true =>
      rw [if_neg bTr, lt_eq, nI_1]
      rw [msk_congr (g := fun b => ((decide (b < cntR G.2.1 p) || decide (b = 6)) && wtK T G act p G.2.2.length b) && (!decide (b < k + 1) || sy T G act p (em b) p (em b))) (fun b _ => by
        by_cases hb : b = k
        · rw [hb, hsy]; simp
        · rw [hstep b hb])]) (by
    show f_X8_openPack_l108 TT m 853 (nI p) (q + 3 + 2 * p) (msk 7 _) (nI (cntR G.2.1 p)) = _
    unfold f_X8_openPack_l108
    rw [ob_of hsp, if_pos rfl, p4, if_pos (nI_le (Nat.le_refl _) (by omega))])
  have e1 : msk 7 (fun b => (decide (b < cntR G.2.1 p) || decide (b = 6)) && wtK T G act p (lnkN G.2.2) b) = (((1 : Int32) <<< (nI (cntR G.2.1 p) &&& 31)) - 1) ||| 64 := by
    rw [base_msk _ (by omega)]
    exact msk_congr (fun b _ => by rw [wtK_lnk hO, Bool.and_true])
  have e2 : msk 7 (fun b => ((decide (b < cntR G.2.1 p) || decide (b = 6)) && wtK T G act p G.2.2.length b) && (!decide (b < 0) || sy T G act p (em b) p (em b))) = msk 7 (fun b => (decide (b < cntR G.2.1 p) || decide (b = 6)) && wtK T G act p G.2.2.length b) := msk_congr (fun b _ => by rw [decide_eq_false (show ¬ b < 0 by omega)]; simp)
  have e3 : msk 7 (fun b => ((decide (b < cntR G.2.1 p) || decide (b = 6)) && wtK T G act p G.2.2.length b) && (!decide (b < cntR G.2.1 p) || sy T G act p (em b) p (em b))) = msk 7 (fun b => dm0 T G act p (em b)) := by
    refine msk_congr (fun b hb => ?_)
    unfold dm0
    have hwt : wtK T G act p G.2.2.length b = wt T G act p (em b) := rfl
    rw [hwt]
    by_cases h6' : b = 6
    · rw [h6', em_6, sy_zero]
      simp
    · rw [em_ne h6', decide_eq_false h6', Bool.or_false]
      by_cases hbc : b < cntR G.2.1 p
      · rw [decide_eq_true hbc, decide_eq_true (show b + 1 ≤ cntR G.2.1 p by omega)]
        simp
      · rw [decide_eq_false hbc, decide_eq_false (show ¬ b + 1 ≤ cntR G.2.1 p by omega)]
        simp
  simp only [e1] at hw
  simp only [e2, e3] at ho
  unfold f_X8_openPack f_X6_links f_X8_openPack_j45 f_X8_openPack_j105 f_X8_openPack_j108
  rw [hS.1, ob_of hq.2.1, if_pos rfl, packAt_C hq hC.1.1 hC.1.2.2.1 hB hp, Option.bind_some, if_neg (show ¬ q + 3 + 2 * p = 0 by omega), if_neg (nI_pos (by omega)), if_pos (show nI p < 10 from nI_lt (b := 10) (by omega) (by omega)), ob_of hsp, if_pos rfl, lt_eq, p4, Option.bind_some, hC.1.2.2.1.2.2.2.1, hw, Option.bind_some, show ∀ z : Int32, (z, (0 : Int32)) = (z, nI 0) from fun _ => rfl, ho, Option.bind_some]
  unfold f_X8_openPack_j164
  rw [hS.2.2.2.1, if_pos (ar_of s_856 (by omega) (by omega)), lt_eq, ix_nI (by omega)]
/-- the solver behind load -/
def SW (q : Nat) (m : Mi) (T : Nat → Nat) (n : Nat) (G : Rg) (act : Nat → Bool) : Prop := SV q m ∧ CG q m T n G ∧ gi m 853 1 = nI G.1.length ∧ Ac m act ∧ Sa m (fun p b t c => sy T G act p (em b) t (em c)) ∧ (∀ p, p < G.1.length → gi m 856 p = msk 7 (fun b => dm0 T G act p (em b))) ∧ ∀ j, j < 10 → gi m 857 j = 0
theorem Ac.keep {m m' : Mi} {act : Nat → Bool} (h : Ac m act) (k : ∀ j, gi m' 858 j = gi m 858 j) : Ac m' act := fun c hc => (k c).trans (h c hc)
theorem Sa.keep {m m' : Mi} {σ : Sg} (h : Sa m σ) (k : ∀ x j, x = 854 ∨ x = 855 → gi m' x j = gi m x j) : Sa m' σ := ⟨fun p b q hp hb hq => (k _ _ (Or.inl rfl)).trans (h.1 p b q hp hb hq), fun p b q hp hb hq hne => (k _ _ (Or.inr rfl)).trans (h.2 p b q hp hb hq hne)⟩
theorem Sa.congr {m : Mi} {σ τ : Sg} (h : Sa m σ) (e : ∀ p b q c, p < 10 → b < 7 → q < 10 → c < 7 → σ p b q c = τ p b q c) : Sa m τ := by
  refine ⟨fun p b q hp hb hq => (h.1 p b q hp hb hq).trans (msk_congr (fun c hc => e p b q c hp hb hq hc)), fun p b q hp hb hq hne => (h.2 p b q hp hb hq hne).trans (msk_congr (fun c hc => ?_))⟩
  rw [e p b q c hp hb hq hc, e q c p b hq hc hp hb]
theorem SW.keep {q n : Nat} {m m' : Mi} {P : Nat → Nat → Prop} {T : Nat → Nat} {G : Rg} {act : Nat → Bool} (h : SW q m T n G act) (hq : QS q) (hB : BGd G) (k : FI P m m') (hp : ∀ x j, P x j → 853 ≤ x) (h1 : ¬ P 853 1) (h2 : ∀ x j, P x j → x ≠ 854 ∧ x ≠ 855 ∧ x ≠ 858) (h3 : ∀ j, j < 10 → ¬ P 856 j ∧ ¬ P 857 j) : SW q m' T n G act := by
  obtain ⟨a1, a2, a3, a4, a5, a6, a7⟩ := h
  have hB1 := hB.1
  exact ⟨a1.keep k, a2.keepI hq hB k hp, (k.1 _ _ h1).trans a3, a4.keep (fun j => k.1 _ _ (fun e => (h2 _ _ e).2.2 rfl)), a5.keep (fun x j hx => k.1 _ _ (fun e => by have := h2 _ _ e; omega)), fun p hp => (k.1 _ _ (h3 p (by omega)).1).trans (a6 p hp), fun j hj => (k.1 _ _ (h3 j hj).2).trans (a7 j hj)⟩
/-- links woven so far -/
def WS (m : Mi) (T : Nat → Nat) (G : Rg) (act : Nat → Bool) (Dn : Nat → CnT → Prop) : Prop := ∃ σ, Sa m σ ∧ ∀ p b t, p < 10 → b < 7 → t < 10 → (∀ c, c < 7 → σ p b t c = sy T G act p (em b) t (em c)) ∨ ((∀ c, c < 7 → σ p b t c = true) ∧ ∀ (c : Nat) (x : CnT), Dn c x → G.2.2[c]? = some x → x.1 ≠ 4 → hvB G x p (em b) = true → tgt T G x ≠ t)
theorem WS_step {q n c : Nat} {m : Mi} {T : Nat → Nat} {G : Rg} {act : Nat → Bool} {x : CnT} {Dn : Nat → CnT → Prop} (hq : QS q) (hC : CG q m T n G) (hO : RO T n G) (hS : SV q m) (hA : Ac m act) (hw : WS m T G act Dn) (hx : G.2.2[c]? = some x) (h4 : x.1 ≠ 4) :
    ∃ m', f_X8_weaveLink TT m 853 (nI c) = some m' ∧ FI KW m m' ∧ WS m' T G act (fun j y => Dn j y ∨ j = c) := by
  obtain ⟨σ, hs, hd⟩ := hw
  obtain ⟨m', h, vl, e1, f1, hh, hvl, hvb, s1⟩ := weave_C hq hC hO hS hA hs hx h4
  refine ⟨m', e1, f1, _, s1, fun p b t hp hb ht => ?_⟩
  by_cases he : p = h ∧ b = vl ∧ t = tgt T G x
  · refine Or.inl (fun c hc => ?_)
    simp only [if_pos he]
    rw [he.1, he.2.1, he.2.2, em_ne (show vl ≠ 6 by omega)]
  · simp only [if_neg he]
    rcases hd p b t hp hb ht with h1 | ⟨h1, h2⟩
    · exact Or.inl h1
    · refine Or.inr ⟨h1, fun j y hj hy hy4 hv htt => ?_⟩
      rcases hj with hj | hj
      · exact h2 j y hj hy hy4 hv htt
      · subst hj
        rw [hx] at hy
        cases hy
        by_cases hpl : p < G.1.length
        · obtain ⟨h', y', _, _, _, _, _, un⟩ := hv_of hO hx h4
          have u1 := un p (em b) hv hpl
          have u2 := un h (vl + 1) hvb hh
          refine he ⟨u1.1.trans u2.1.symm, ?_, htt.symm⟩
          have e2 : em b = em vl := by rw [em_ne (show vl ≠ 6 by omega), u1.2, u2.2]
          exact em_inj hb (by omega) e2
        · have hz : cntR G.2.1 p = 0 := cntR_zero (fun w hw => by have := hO.1.1.1 w hw; omega)
          have := of_decide_eq_true hv
          omega
theorem weaveR_lp {q n r : Nat} {T : Nat → Nat} {G : Rg} {act : Nat → Bool} {y : RlT} {a2 : Int32} (hq : QS q) (hO : RO T n G) (hy : G.2.1[r]? = some y) : ∀ (d k N : Nat) (m : Mi), k + d = cntL G.2.2 r → d < N → CG q m T n G → SV q m → Ac m act → WS m T G act (fun c x => x.2.1 < r ∨ (x.2.1 = r ∧ c < y.2.2.2 + k)) →
    ∃ m', lp (fun x : Int32 × Mi => f_X8_load_l79 TT x.2 853 q a2 (q + 24 + 2 * r) x.1) N (nI k, m) = some m' ∧ FI KW m m' ∧ WS m' T G act (fun c x => x.2.1 < r ∨ (x.2.1 = r ∧ c < y.2.2.2 + cntL G.2.2 r)) := by
  have hB := hO.2.1
  have hB2 := hB.2.1
  have hB3 := hB.2.2
  have hr := get_lt hy
  have hcl := hO.1.1.2.2.2.2.1 r y hy
  have hsr := (hq.2.2.2.2.2.2.2.2.2.1 r (by omega)).1
  intro d
  induction d with
  | zero =>
    intro k N m hk hN hC hS hA hw
    obtain ⟨N, rfl⟩ : ∃ y, N = y + 1 := ⟨N - 1, by omega⟩
    obtain ⟨_, _, _, d4, d5, _⟩ := hC.1.2.2.1.2.2.2.2.2.1 r y hy
    refine ⟨m, lp_exit ?_, FI.rf, by rw [show cntL G.2.2 r = k by omega]; exact hw⟩
    show f_X8_load_l79 TT m 853 q a2 (q + 24 + 2 * r) (nI k) = _
    unfold f_X8_load_l79
    rw [if_neg (show ¬ q + 24 + 2 * r = 0 by omega), ob_of hsr, if_pos rfl, d5, if_pos (nI_le (by omega) (by omega))]
  | succ d ih =>
    intro k N m hk hN hC hS hA hw
    obtain ⟨N, rfl⟩ : ∃ y, N = y + 1 := ⟨N - 1, by omega⟩
    obtain ⟨_, _, _, d4, d5, _⟩ := hC.1.2.2.1.2.2.2.2.2.1 r y hy
    obtain ⟨z, hz⟩ := get_some (l := G.2.2) (k := y.2.2.2 + k) (by omega)
    have hl := (hcl.2 _ z hz).mpr ⟨by omega, by omega⟩
    obtain ⟨m1, e1, f1, w1⟩ := WS_step hq hC hO hS hA hw hz hl.1
    have hbody : f_X8_load_l79 TT m 853 q a2 (q + 24 + 2 * r) (nI k) = some (.inl (nI (k + 1), m1)) := by
      unfold f_X8_load_l79
      rw [if_neg (show ¬ q + 24 + 2 * r = 0 by omega), ob_of hsr, if_pos rfl, d5, if_neg (nI_ge (by omega) (by omega)), d4, nI_add, e1, Option.bind_some, lt_eq, nI_1]
    rw [lp_step hbody]
    have w1' : WS m1 T G act (fun c x => x.2.1 < r ∨ (x.2.1 = r ∧ c < y.2.2.2 + (k + 1))) := by
      obtain ⟨σ, a1, a2⟩ := w1
      refine ⟨σ, a1, fun p b t hp hb ht => ?_⟩
      rcases a2 p b t hp hb ht with h1 | ⟨h1, h2⟩
      · exact Or.inl h1
      · refine Or.inr ⟨h1, fun c x hx => h2 c x ?_⟩
        rcases hx with hx | ⟨hx, hc⟩
        · exact Or.inl (Or.inl hx)
        · by_cases hck : c = y.2.2.2 + k
          · exact Or.inr hck
          · exact Or.inl (Or.inr ⟨hx, by omega⟩)
    obtain ⟨m', e2, f2, w2⟩ := ih (k + 1) N m1 (by omega) (by omega) (hC.keepI hq hB f1 (fun x j h => by unfold KW at h; omega)) (hS.keep f1) (hA.keep (fun j => f1.1 _ _ (by unfold KW; omega))) w1'
    exact ⟨m', e2, f1.tr f2, w2⟩
theorem weaveAll_lp {q n : Nat} {T : Nat → Nat} {G : Rg} {act : Nat → Bool} (hq : QS q) (hO : RO T n G) : ∀ (d r N : Nat) (m : Mi), r + d = G.2.1.length → d < N → CG q m T n G → SV q m → Ac m act → WS m T G act (fun _ x => x.2.1 < r) →
    ∃ m', lp (fun x : Int32 × Mi => f_X8_load_l62 TT x.2 853 q x.1) N (nI r, m) = some m' ∧ FI KW m m' ∧ WS m' T G act (fun _ x => x.2.1 < G.2.1.length) := by
  have hB := hO.2.1
  have hB2 := hB.2.1
  intro d
  induction d with
  | zero =>
    intro r N m hr hN hC hS hA hw
    obtain ⟨N, rfl⟩ : ∃ y, N = y + 1 := ⟨N - 1, by omega⟩
    refine ⟨m, lp_exit ?_, FI.rf, by rw [show G.2.1.length = r by omega]; exact hw⟩
    show f_X8_load_l62 TT m 853 q (nI r) = _
    unfold f_X8_load_l62 f_X6_releases
    rw [Option.bind_some, hC.1.2.2.1.2.1, if_pos (nI_le (by omega) (by omega))]
  | succ d ih =>
    intro r N m hr hN hC hS hA hw
    obtain ⟨N, rfl⟩ : ∃ y, N = y + 1 := ⟨N - 1, by omega⟩
    obtain ⟨y, hy⟩ := get_some (l := G.2.1) (k := r) (by omega)
    have hcl := hO.1.1.2.2.2.2.1 r y hy
    have hw0 : WS m T G act (fun c x => x.2.1 < r ∨ (x.2.1 = r ∧ c < y.2.2.2 + 0)) := by
      obtain ⟨σ, a1, a2⟩ := hw
      refine ⟨σ, a1, fun p b t hp hb ht => ?_⟩
      rcases a2 p b t hp hb ht with h1 | ⟨h1, h2⟩
      · exact Or.inl h1
      · refine Or.inr ⟨h1, fun c x hx hg h4 => h2 c x ?_ hg h4⟩
        rcases hx with hx | ⟨hx, hc⟩
        · exact hx
        · have := (hcl.2 c x hg).mp ⟨h4, hx⟩
          omega
    obtain ⟨m1, e1, f1, w1⟩ := weaveR_lp (a2 := nI r) hq hO hy (cntL G.2.2 r) 0 FUEL m (by omega) (by have := hB.2.2; unfold FUEL; omega) hC hS hA hw0
    have hbody : f_X8_load_l62 TT m 853 q (nI r) = some (.inl (nI (r + 1), m1)) := by
      unfold f_X8_load_l62 f_X6_releases f_X8_load_j79 f_X8_load_j109
      rw [Option.bind_some, hC.1.2.2.1.2.1, if_neg (nI_ge (by omega) (by omega)), releaseAt_C hq hC.1.1 hC.1.2.2.1 hB (by omega), Option.bind_some, show ((0 : Int32), m) = (nI 0, m) from rfl, e1, Option.bind_some, lt_eq, nI_1]
    rw [lp_step hbody]
    have w1' : WS m1 T G act (fun _ x => x.2.1 < r + 1) := by
      obtain ⟨σ, a1, a2⟩ := w1
      refine ⟨σ, a1, fun p b t hp hb ht => ?_⟩
      rcases a2 p b t hp hb ht with h1 | ⟨h1, h2⟩
      · exact Or.inl h1
      · refine Or.inr ⟨h1, fun c x hx hg h4 => h2 c x ?_ hg h4⟩
        by_cases hxr : x.2.1 = r
        · exact Or.inr ⟨hxr, ((hcl.2 c x hg).mp ⟨h4, hxr⟩).2⟩
        · exact Or.inl (by omega)
    obtain ⟨m', e2, f2, w2⟩ := ih (r + 1) N m1 (by omega) (by omega) (hC.keepI hq hB f1 (fun x j h => by unfold KW at h; omega)) (hS.keep f1) (hA.keep (fun j => f1.1 _ _ (by unfold KW; omega))) w1'
    exact ⟨m', e2, f1.tr f2, w2⟩
theorem openAll_lp {q n : Nat} {T : Nat → Nat} {G : Rg} {act : Nat → Bool} (hq : QS q) (hO : RO T n G) : ∀ (d k N : Nat) (m : Mi), k + d = G.1.length → d < N → CG q m T n G → SV q m → gi m 853 1 = nI G.1.length → Ac m act → Sa m (fun p b t c => sy T G act p (em b) t (em c)) → (∀ p, p < k → gi m 856 p = msk 7 (fun b => dm0 T G act p (em b))) →
    ∃ m', lp (fun x : Int32 × Mi => f_X8_load_l117 TT x.2 853 x.1) N (nI k, m) = some m' ∧ FI (fun x j => x = 856 ∧ j < 10) m m' ∧ ∀ p, p < G.1.length → gi m' 856 p = msk 7 (fun b => dm0 T G act p (em b)) := by
  have hB := hO.2.1
  have hB1 := hB.1
  intro d
  induction d with
  | zero =>
    intro k N m hk hN hC hS h1 hA hs hp
    obtain ⟨N, rfl⟩ : ∃ y, N = y + 1 := ⟨N - 1, by omega⟩
    refine ⟨m, lp_exit ?_, FI.rf, fun p hpl => hp p (by omega)⟩
    show f_X8_load_l117 TT m 853 (nI k) = _
    unfold f_X8_load_l117
    rw [h1, if_pos (nI_le (by omega) (by omega))]
  | succ d ih =>
    intro k N m hk hN hC hS h1 hA hs hp
    obtain ⟨N, rfl⟩ : ∃ y, N = y + 1 := ⟨N - 1, by omega⟩
    have e1 := openPack_C (p := k) hq hC hO hS hA hs (fun b _ => rfl) (by omega)
    have hbody : f_X8_load_l117 TT m 853 (nI k) = some (.inl (nI (k + 1), si m 856 k (msk 7 (fun b => dm0 T G act k (em b))))) := by
      unfold f_X8_load_l117
      rw [h1, if_neg (nI_ge (by omega) (by omega)), e1, Option.bind_some, lt_eq, nI_1]
    rw [lp_step hbody]
    have f1 : FI (fun x j => x = 856 ∧ j < 10) m (si m 856 k (msk 7 (fun b => dm0 T G act k (em b)))) := FI.si (P := fun x j => x = 856 ∧ j < 10) ⟨rfl, by omega⟩
    obtain ⟨m', e2, f2, w2⟩ := ih (k + 1) N (si m 856 k (msk 7 (fun b => dm0 T G act k (em b)))) (by omega) (by omega) (hC.keepI hq hB f1 (fun x j h => by omega)) (hS.keep f1) ((f1.1 _ _ (by omega)).trans h1) (hA.keep (fun j => f1.1 _ _ (by omega))) (hs.keep (fun x j hx => f1.1 _ _ (by omega))) (fun p hpk => by
      by_cases h : p = k
      · rw [h]; exact gi_si _ _ _ _
      · simp only [mS]; rw [if_neg (by omega)]; exact hp p (by omega))
    exact ⟨m', e2, f1.tr f2, w2⟩
/-- the solver's references but for the registry -/
def SV0 (m : Mi) : Prop := gr m 853 2 = 854 ∧ gr m 853 3 = 855 ∧ gr m 853 4 = 856 ∧ gr m 853 5 = 857 ∧ gr m 853 6 = 858 ∧ gr m 853 7 = 859
/-- what the solver may change -/
def FZ8 (P : Nat → Prop) (m m' : Mi) : Prop := (∀ x j, ¬ P x → gi m' x j = gi m x j) ∧ (∀ x j, gl m' x j = gl m x j) ∧ ∀ x j, ¬ (x = 853 ∧ j = 0) → gr m' x j = gr m x j
theorem FZ8.tr {P : Nat → Prop} {m m1 m2 : Mi} (h : FZ8 P m m1) (h2 : FZ8 P m1 m2) : FZ8 P m m2 := ⟨fun x j a => (h2.1 x j a).trans (h.1 x j a), fun x j => (h2.2.1 x j).trans (h.2.1 x j), fun x j a => (h2.2.2 x j a).trans (h.2.2 x j a)⟩
theorem FZ8.mono {P Q : Nat → Prop} {m m' : Mi} (h : FZ8 P m m') (hq : ∀ x, P x → Q x) : FZ8 Q m m' := ⟨fun x j a => h.1 x j (fun e => a (hq x e)), h.2.1, h.2.2⟩
theorem FI.Z {P : Nat → Nat → Prop} {Q : Nat → Prop} {m m' : Mi} (h : FI P m m') (hq : ∀ x j, P x j → Q x) : FZ8 Q m m' := ⟨fun x j e => h.1 x j (fun z => e (hq x j z)), h.2.1, fun x j _ => h.2.2 x j⟩
theorem CG.keepL {q n : Nat} {m m' : Mi} {P : Nat → Prop} {T : Nat → Nat} {G : Rg} (h : CG q m T n G) (hq : QS q) (hB : BGd G) (k : FZ8 P m m') (hp : ∀ x, P x → 853 ≤ x) : CG q m' T n G := by
  have hq1 := hq.1
  have f : Fr (fun x => 853 ≤ x) m (sr m' 853 0 (gr m 853 0)) := by
    refine ⟨fun x j e => ⟨k.1 x j (fun z => e (hp x z)), k.2.1 x j⟩, fun x j _ => ?_⟩
    simp only [mS]
    by_cases h0 : x = 853 ∧ j = 0
    · rw [if_pos h0, h0.1, h0.2]
    · rw [if_neg h0]; exact k.2.2 x j h0
  have h1 := h.keepF hq hB f (fun x a b => by omega)
  have hw : WQ q m' := by
    obtain ⟨v1, v2, v3, v4, v5, v6, v7, v8, v9⟩ := h.1.1
    have gre : ∀ x j, x < 853 → gr m' x j = gr m x j := fun x j hx => k.2.2 x j (by omega)
    exact ⟨(gre _ _ (by omega)).trans v1, (gre _ _ (by omega)).trans v2, (gre _ _ (by omega)).trans v3, (gre _ _ (by omega)).trans v4, (gre _ _ (by omega)).trans v5, (gre _ _ (by omega)).trans v6, fun p hp => ⟨(gre _ _ (by omega)).trans (v7 p hp).1, (gre _ _ (by omega)).trans (v7 p hp).2⟩, fun p hp => ⟨(gre _ _ (by omega)).trans (v8 p hp).1, (gre _ _ (by omega)).trans (v8 p hp).2⟩, fun p hp => (gre _ _ (by omega)).trans (v9 p hp)⟩
  exact ⟨⟨hw, h1.1.2.1, h1.1.2.2.1, h1.1.2.2.2⟩, h1.2⟩
theorem load_C {q n : Nat} {m : Mi} {T : Nat → Nat} {G : Rg} (hq : QS q) (hC : CG q m T n G) (hO : RO T n G) (hS : SV0 m) (hz : ∀ j, j < 10 → gi m 857 j = 0) : ∃ m', f_X8_load TT m 853 q = some m' ∧ SW q m' T n G (fun _ => true) ∧ FZ8 (fun x => 853 ≤ x ∧ x ≤ 858) m m' := by
  have hB := hO.2.1
  have hB1 := hB.1
  obtain ⟨s2, s3, s4, s5, s6, s7⟩ := hS
  have hq1 := hq.1
  -- what is laid anew
  have f1 : FZ8 (fun x => 853 ≤ x ∧ x ≤ 858) m (blkI (blkI (blkI (si (sr m 853 0 q) 853 1 (nI G.1.length)) 854 0 700 (fun _ => 127)) 855 0 700 (fun _ => 127)) 858 0 250 (fun _ => 1)) := by
    refine ⟨fun x j e => ?_, fun _ _ => rfl, fun x j e => ?_⟩
    · simp only [mS]
      rw [if_neg (by omega), if_neg (by omega), if_neg (by omega), if_neg (by omega)]
    · simp only [mS]
      rw [if_neg e]
  have v0 : gr (blkI (blkI (blkI (si (sr m 853 0 q) 853 1 (nI G.1.length)) 854 0 700 (fun _ => 127)) 855 0 700 (fun _ => 127)) 858 0 250 (fun _ => 1)) 853 0 = q := by
    simp only [mS]
    rw [if_pos ⟨trivial, trivial⟩]
  have v1 : gi (blkI (blkI (blkI (si (sr m 853 0 q) 853 1 (nI G.1.length)) 854 0 700 (fun _ => 127)) 855 0 700 (fun _ => 127)) 858 0 250 (fun _ => 1)) 853 1 = nI G.1.length := by
    simp only [mS]
    rw [if_neg (by omega), if_neg (by omega), if_neg (by omega), if_pos ⟨trivial, trivial⟩]
  have v4 : ∀ j, j < 700 → gi (blkI (blkI (blkI (si (sr m 853 0 q) 853 1 (nI G.1.length)) 854 0 700 (fun _ => 127)) 855 0 700 (fun _ => 127)) 858 0 250 (fun _ => 1)) 854 j = 127 := by
    intro j hj
    simp only [mS]
    rw [if_neg (by omega), if_neg (by omega), if_pos ⟨trivial, Nat.zero_le _, hj⟩]
  have v5 : ∀ j, j < 700 → gi (blkI (blkI (blkI (si (sr m 853 0 q) 853 1 (nI G.1.length)) 854 0 700 (fun _ => 127)) 855 0 700 (fun _ => 127)) 858 0 250 (fun _ => 1)) 855 j = 127 := by
    intro j hj
    simp only [mS]
    rw [if_neg (by omega), if_pos ⟨trivial, Nat.zero_le _, hj⟩]
  have v7 : ∀ j, gi (blkI (blkI (blkI (si (sr m 853 0 q) 853 1 (nI G.1.length)) 854 0 700 (fun _ => 127)) 855 0 700 (fun _ => 127)) 858 0 250 (fun _ => 1)) 857 j = gi m 857 j := by
    intro j
    simp only [mS]
    rw [if_neg (by omega), if_neg (by omega), if_neg (by omega), if_neg (by omega)]
  have v8 : ∀ j, j < 250 → gi (blkI (blkI (blkI (si (sr m 853 0 q) 853 1 (nI G.1.length)) 854 0 700 (fun _ => 127)) 855 0 700 (fun _ => 127)) 858 0 250 (fun _ => 1)) 858 j = 1 := by
    intro j hj
    simp only [mS]
    rw [if_pos ⟨trivial, Nat.zero_le _, hj⟩]
  have hact : lp (fun x : Int32 × Mi => f_X8_load_l38 TT x.2 853 q x.1) FUEL (0, blkI (blkI (si (sr m 853 0 q) 853 1 (nI G.1.length)) 854 0 700 (fun _ => 127)) 855 0 700 (fun _ => 127)) = some (blkI (blkI (blkI (si (sr m 853 0 q) 853 1 (nI G.1.length)) 854 0 700 (fun _ => 127)) 855 0 700 (fun _ => 127)) 858 0 250 (fun _ => 1)) := by
    have r6 : gr (blkI (blkI (si (sr m 853 0 q) 853 1 (nI G.1.length)) 854 0 700 (fun _ => 127)) 855 0 700 (fun _ => 127)) 853 6 = 858 := by
      simp only [mS]
      rw [if_neg (by omega)]
      exact s6
    generalize blkI (blkI (si (sr m 853 0 q) 853 1 (nI G.1.length)) 854 0 700 (fun _ => 127)) 855 0 700 (fun _ => 127) = w at *
    have h := lp_count (body := fun x : Int32 × Mi => f_X8_load_l38 TT x.2 853 q x.1) (fun k => (nI k, blkI w 858 0 k (fun _ => 1))) (a := 0) (n := 250) (y := blkI w 858 0 250 (fun _ => 1)) (Nat.zero_le _) (by omega) (fun k _ hk => ?_) ?_
    · rw [blkI_nil] at h
      exact h
    · show f_X8_load_l38 TT (blkI w 858 0 k (fun _ => 1)) 853 q (nI k) = _
      unfold f_X8_load_l38
      rw [show gr (blkI w 858 0 k (fun _ => 1)) 853 6 = 858 from r6, aa_of s_858, if_pos rfl, ln_of s_858, ofNat_nI, if_neg (nI_ge hk (by omega)), if_pos (ar_of s_858 hk (by omega)), lt_eq, lt_eq, ix_nI (by omega), show vp_nar .boolean 1 = 1 from by decide +kernel, blkI_snoc w 858 0 k (fun _ => 1) (Nat.zero_le _), nI_1]
    · show f_X8_load_l38 TT (blkI w 858 0 250 (fun _ => 1)) 853 q (nI 250) = _
      unfold f_X8_load_l38
      rw [show gr (blkI w 858 0 250 (fun _ => 1)) 853 6 = 858 from r6, aa_of s_858, if_pos rfl, ln_of s_858, ofNat_nI, if_pos (nI_le (Nat.le_refl _) (by omega))]
  have hstart : f_X8_load TT m 853 q = f_X8_load_j62 TT (blkI (blkI (blkI (si (sr m 853 0 q) 853 1 (nI G.1.length)) 854 0 700 (fun _ => 127)) 855 0 700 (fun _ => 127)) 858 0 250 (fun _ => 1)) 853 q 0 := by
    unfold f_X8_load f_X6_packs f_X8_load_j38 f_X8_load_j60
    have r2 : ∀ v, gr (si (sr m 853 0 q) 853 1 v) 853 2 = 854 := fun v => by simp only [mS]; rw [if_neg (by omega)]; exact s2
    have r3 : ∀ v g, gr (blkI (si (sr m 853 0 q) 853 1 v) 854 0 700 g) 853 3 = 855 := fun v g => by simp only [mS]; rw [if_neg (by omega)]; exact s3
    rw [lt_eq, ob_of hq.2.1, if_pos rfl, Option.bind_some, show gi (sr m 853 0 q) q 4 = nI G.1.length from hC.1.2.2.1.1, if_neg (show ¬ (10 : Int32) < nI G.1.length from nI_nlt (a := 10) (by omega) (by omega)), lt_eq, r2, fill_i s_854 (by omega), Option.bind_some, r3, fill_i s_855 (by omega), Option.bind_some, hact, Option.bind_some]
  rw [hstart]
  generalize blkI (blkI (blkI (si (sr m 853 0 q) 853 1 (nI G.1.length)) 854 0 700 (fun _ => 127)) 855 0 700 (fun _ => 127)) 858 0 250 (fun _ => 1) = m1 at *
  have hS1 : SV q m1 := ⟨v0, (f1.2.2 _ _ (by omega)).trans s2, (f1.2.2 _ _ (by omega)).trans s3, (f1.2.2 _ _ (by omega)).trans s4, (f1.2.2 _ _ (by omega)).trans s5, (f1.2.2 _ _ (by omega)).trans s6, (f1.2.2 _ _ (by omega)).trans s7⟩
  have hC1 : CG q m1 T n G := hC.keepL hq hB f1 (fun x h => h.1)
  have hA1 : Ac m1 (fun _ => true) := fun c hc => v8 c hc
  have hs1 : Sa m1 (fun _ _ _ _ => true) := ⟨fun p b t hp hb ht => (v4 _ (by omega)).trans m127, fun p b t hp hb ht _ => (v5 _ (by omega)).trans m127⟩
  have w1 : WS m1 T G (fun _ => true) (fun _ x => x.2.1 < 0) := ⟨_, hs1, fun p b t _ _ _ => Or.inr ⟨fun _ _ => rfl, fun c x h => by omega⟩⟩
  obtain ⟨m2, e2, f2, w2⟩ := weaveAll_lp hq hO G.2.1.length 0 FUEL m1 (by omega) (by have := hB.2.1; unfold FUEL; omega) hC1 hS1 hA1 w1
  have hS2 := hS1.keep f2
  have hC2 := hC1.keepI hq hB f2 (fun x j h => by unfold KW at h; omega)
  have hA2 := hA1.keep (fun j => f2.1 _ j (by unfold KW; omega))
  have hs2 : Sa m2 (fun p b t c => sy T G (fun _ => true) p (em b) t (em c)) := by
    obtain ⟨σ, a1, a2⟩ := w2
    refine a1.congr (fun p b t c hp hb ht hc => ?_)
    rcases a2 p b t hp hb ht with h1 | ⟨h1, h2⟩
    · exact h1 c hc
    · rw [h1 c hc]
      refine (sy_iff.mpr (fun j x hx _ h4 hv htt => ?_)).symm
      exact absurd htt (h2 j x (hO.1.1.2.2.2.1 x (List.mem_of_getElem? hx) h4) hx h4 hv)
  obtain ⟨m3, e3, f3, w3⟩ := openAll_lp hq hO G.1.length 0 FUEL m2 (by omega) (by unfold FUEL; omega) hC2 hS2 ((f2.1 _ _ (by unfold KW; omega)).trans v1) hA2 hs2 (fun p hp => by omega)
  refine ⟨m3, ?_, ⟨hS2.keep f3, hC2.keepI hq hB f3 (fun x j h => by omega), (f3.1 _ _ (by omega)).trans ((f2.1 _ _ (by unfold KW; omega)).trans v1), hA2.keep (fun j => f3.1 _ j (by omega)), hs2.keep (fun x j h => f3.1 _ _ (by omega)), w3, fun j hj => (f3.1 _ _ (by omega)).trans ((f2.1 _ _ (by unfold KW; omega)).trans ((v7 j).trans (hz j hj)))⟩, (f1.tr (f2.Z (fun x j h => by unfold KW at h; omega))).tr (f3.Z (fun x j h => by omega))⟩
  unfold f_X8_load_j62 f_X8_load_j115 f_X8_load_j117
  rw [show ((0 : Int32), m1) = (nI 0, m1) from rfl, e2, Option.bind_some, show ((0 : Int32), m2) = (nI 0, m2) from rfl, e3]
  rfl
/-- one constraint is left out, or taken in again -/
theorem setActive_C {q n c : Nat} {m : Mi} {T : Nat → Nat} {G : Rg} {act : Nat → Bool} (v : Bool) (hq : QS q) (hO : RO T n G) (h : SW q m T n G act) (hc : c < G.2.2.length) : ∃ m', f_X8_setActive TT m 853 (nI c) (bI v) = some m' ∧ SW q m' T n G (fun j => if j = c then v else act j) ∧ FI (fun x j => (x = 856 ∧ j < 10) ∨ x = 854 ∨ x = 855 ∨ x = 858) m m' := by
  have hB := hO.2.1
  have hB1 := hB.1
  have hB3 := hB.2.2
  obtain ⟨hS, hC, h1, hA, hs, hop, hz⟩ := h
  obtain ⟨x, hx⟩ := get_some hc
  obtain ⟨c1, _⟩ := hC.1.2.2.1.2.2.2.2.2.2 c x hx
  have tg := hC.1.2.2.2 c x hx
  have ut := unk_fnd hO.2.2.1 (List.mem_of_getElem? hx)
  have hk := (hO.1.2.2.2.1 x (List.mem_of_getElem? hx)).1
  have ha : ∀ j, j ≠ c → (fun j => if j = c then v else act j) j = act j := fun j hj => by simp only [if_neg hj]
  have f1 : FI (fun x j => x = 858) m (si m 858 c (bI v)) := FI.si (P := fun x j => x = 858) rfl
  have hA1 : Ac (si m 858 c (bI v)) (fun j => if j = c then v else act j) := by
    intro j hj
    by_cases hjc : j = c
    · rw [hjc]
      simp only [if_pos rfl]
      exact gi_si _ _ _ _
    · simp only [if_neg hjc]
      simp only [mS]
      rw [if_neg (by omega)]
      exact hA j hj
  have hb : f_X8_setActive TT m 853 (nI c) (bI v) = if nI x.1 = 4 then f_X8_setActive_j47 TT (si m 858 c (bI v)) 853 (q + 145 + c) else (f_X8_weaveLink TT (si m 858 c (bI v)) 853 (nI c)).bind fun m13 => f_X8_setActive_j47 TT m13 853 (q + 145 + c) := by
    unfold f_X8_setActive
    rw [hS.1, ob_of hq.2.1, if_pos rfl, conAt_C hq hC.1.1 hC.1.2.2.1 hB hc, Option.bind_some, if_neg (show ¬ q + 145 + c = 0 by omega), if_neg (nI_pos (by omega)), hS.2.2.2.2.2.1, aa_of s_858, if_pos rfl, ln_of s_858, ofNat_nI, if_pos (nI_lt (by omega) (by omega)), if_pos (ar_of s_858 (by omega) (by omega)), lt_eq, ix_nI (by omega), ob_of (hq.2.2.2.2.2.2.2.2.2.2 c (by omega)), if_pos rfl, show vp_nar .boolean (bI v) = bI v from by cases v <;> decide +kernel, show gi (si m 858 c (bI v)) (q + 145 + c) 0 = nI x.1 from (f1.1 _ _ (by have := hq.1; omega)).trans c1]
  have hS1 := hS.keep f1
  have hC1 := hC.keepI hq hB f1 (fun z j e => by omega)
  have hs1 : Sa (si m 858 c (bI v)) (fun p b t w => sy T G act p (em b) t (em w)) := hs.keep (fun z j hz => f1.1 _ _ (by omega))
  have g1 : gi (si m 858 c (bI v)) 853 1 = nI G.1.length := (f1.1 _ _ (by omega)).trans h1
  have o1 : ∀ p, p < G.1.length → gi (si m 858 c (bI v)) 856 p = msk 7 (fun b => dm0 T G act p (em b)) := fun p hp => (f1.1 _ _ (by omega)).trans (hop p hp)
  have z1 : ∀ j, j < 10 → gi (si m 858 c (bI v)) 857 j = 0 := fun j hj => (f1.1 _ _ (by omega)).trans (hz j hj)
  rw [hb]
  generalize si m 858 c (bI v) = m1 at *
  generalize hact : (fun j => if j = c then v else act j) = act' at *
  have fin : ∀ m2, FI KW m1 m2 → Sa m2 (fun p b t w => sy T G act' p (em b) t (em w)) → ∃ m', f_X8_setActive_j47 TT m2 853 (q + 145 + c) = some m' ∧ SW q m' T n G act' ∧ FI (fun x j => (x = 856 ∧ j < 10) ∨ x = 854 ∨ x = 855 ∨ x = 858) m m' := by
    intro m2 f2 hs2
    have hS2 := hS1.keep f2
    have hC2 := hC1.keepI hq hB f2 (fun z j e => by unfold KW at e; omega)
    have hA2 := hA1.keep (fun j => f2.1 _ j (by unfold KW; omega))
    have op := openPack_C (p := tgt T G x) hq hC2 hO hS2 hA2 hs2 (fun b _ => rfl) ut.2
    have f3 : FI (fun x j => x = 856 ∧ j < 10) m2 (si m2 856 (tgt T G x) (msk 7 (fun b => dm0 T G act' (tgt T G x) (em b)))) := FI.si (P := fun x j => x = 856 ∧ j < 10) ⟨rfl, by omega⟩
    refine ⟨_, ?_, ⟨hS2.keep f3, hC2.keepI hq hB f3 (fun z j e => by omega), (f3.1 _ _ (by omega)).trans ((f2.1 _ _ (by unfold KW; omega)).trans g1), hA2.keep (fun j => f3.1 _ j (by omega)), hs2.keep (fun z j e => f3.1 _ _ (by omega)), fun p hp => ?_, fun j hj => (f3.1 _ _ (by omega)).trans ((f2.1 _ _ (by unfold KW; omega)).trans (z1 j hj))⟩, ((f1.mono (fun z j e => by omega)).tr (f2.mono (fun z j e => by unfold KW at e; omega))).tr (f3.mono (fun z j e => Or.inl e))⟩
    · unfold f_X8_setActive_j47
      rw [ob_of (hq.2.2.2.2.2.2.2.2.2.2 c (by omega)), if_pos rfl, hC2.1.2.2.2 c x hx, op, Option.bind_some]
    · by_cases hpt : p = tgt T G x
      · rw [hpt]; exact gi_si _ _ _ _
      · simp only [mS]
        rw [if_neg (by omega), f2.1 _ _ (by unfold KW; omega), o1 p hp]
        refine msk_congr (fun b _ => ?_)
        unfold dm0
        rw [wt_upd hx ha (Or.inr (fun e => hpt e.symm)), sy_upd hx ha (Or.inr (Or.inr (fun e => hpt e.symm)))]
  by_cases h4 : x.1 = 4
  · rw [if_pos (show nI x.1 = 4 by rw [h4]; rfl)]
    exact fin m1 FI.rf (hs1.congr (fun p b t w _ _ _ _ => (sy_upd hx ha (Or.inl h4)).symm))
  · rw [if_neg (show ¬ nI x.1 = 4 from fun e => h4 ((nI_eq (b := 4) (by omega) (by omega)).mp e))]
    obtain ⟨m2, h, vl, e2, f2, hh, hvl, hvb, s2⟩ := weave_C hq hC1 hO hS1 hA1 hs1 hx h4
    rw [e2, Option.bind_some]
    refine fin m2 f2 (s2.congr (fun p b t w hp hb ht hw => ?_))
    by_cases he : p = h ∧ b = vl ∧ t = tgt T G x
    · simp only [if_pos he]
      rw [he.1, he.2.1, he.2.2, em_ne (show vl ≠ 6 by omega)]
    · simp only [if_neg he]
      refine (sy_upd hx ha ?_).symm
      by_cases htt : tgt T G x = t
      · refine Or.inr (Or.inl ?_)
        cases hv : hvB G x p (em b) with
        | false => rfl
        | true =>
          exfalso
          by_cases hpl : p < G.1.length
          · obtain ⟨h', y', _, _, _, _, _, un⟩ := hv_of hO hx h4
            have u1 := un p (em b) hv hpl
            have u2 := un h (vl + 1) hvb hh
            refine he ⟨u1.1.trans u2.1.symm, ?_, htt.symm⟩
            have e2 : em b = em vl := by rw [em_ne (show vl ≠ 6 by omega), u1.2, u2.2]
            exact em_inj hb (by omega) e2
          · have hz : cntR G.2.1 p = 0 := cntR_zero (fun w hw => by have := hO.1.1.1 w hw; omega)
            have := of_decide_eq_true hv
            omega
      · exact Or.inr (Or.inr htt)
