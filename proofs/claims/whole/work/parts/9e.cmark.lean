/-! The class: which releases are in the ranges of a registry. -/
theorem DC.keepF {q : Nat} {m m' : Mi} {P : Nat → Prop} {T : Nat → Nat} {G : Rg} (h : DC q m T G) (hB : BGd G) (k : Fr P m m') (hp : ∀ x, q ≤ x → x ≤ q + 396 → ¬ P x) : DC q m' T G := by
  obtain ⟨h1, h2, h3, h4, h5, h6, h7⟩ := h
  exact ⟨(k.1 _ _ (hp _ (by omega) (by omega))).1.trans h1, (k.1 _ _ (hp _ (by omega) (by omega))).1.trans h2, (k.1 _ _ (hp _ (by omega) (by omega))).1.trans h3, (k.1 _ _ (hp _ (by omega) (by omega))).1.trans h4, h5.keep hB.1 (fun x j a b => (k.1 _ _ (hp x (by omega) (by omega))).1), h6.keep hB.2.1 (fun x j a b => k.1 _ _ (hp x (by omega) (by omega))), h7.keep hB.2.2 (fun x j a b => (k.1 _ _ (hp x (by omega) (by omega))).1)⟩
def CG0 (q : Nat) (m : Mi) (T : Nat → Nat) (n : Nat) (G : Rg) : Prop := WQ q m ∧ Tx m (q + 1) n T ∧ DC q m T G ∧ ∀ c x, G.2.2[c]? = some x → gi m (q + 145 + c) 4 = nI (tgt T G x)
theorem CG0.keepF {q n : Nat} {m m' : Mi} {P : Nat → Prop} {T : Nat → Nat} {G : Rg} (h : CG0 q m T n G) (hq : QS q) (hB : BGd G) (k : Fr P m m') (hp : ∀ x, q ≤ x → x ≤ q + 396 → ¬ P x) : CG0 q m' T n G := by
  obtain ⟨h1, h2, h3, h4⟩ := h
  exact ⟨h1.keep k hq, fun j hj => ⟨(k.1 _ _ (hp _ (by omega) (by omega))).1.trans (h2 j hj).1, (h2 j hj).2⟩, h3.keepF hB k hp, fun c x hx => (k.1 _ _ (hp _ (by omega) (by have := get_lt hx; have := hB.2.2; omega))).1.trans (h4 c x hx)⟩
theorem CG0.keepG {q n : Nat} {m m' : Mi} {T : Nat → Nat} {G : Rg} (h : CG0 q m T n G) (hq : QS q) (hB : BGd G) (k : KG q m m') (h4' : ∀ x j, j ≠ 7 → gi m' x j = gi m x j) : CG0 q m' T n G := by
  obtain ⟨h1, h2, h3, h4⟩ := h
  exact ⟨h1.keepG k hq, h2.keepG k, h3.keepG hB k, fun c x hx => (h4' _ _ (by omega)).trans (h4 c x hx)⟩
/-- the registry as it is held: with what is within -/
def CG (q : Nat) (m : Mi) (T : Nat → Nat) (n : Nat) (G : Rg) : Prop := CG0 q m T n G ∧ ∀ c x, G.2.2[c]? = some x → gi m (q + 145 + c) 7 = msk 6 (wi T G x)
theorem CG.keepF {q n : Nat} {m m' : Mi} {P : Nat → Prop} {T : Nat → Nat} {G : Rg} (h : CG q m T n G) (hq : QS q) (hB : BGd G) (k : Fr P m m') (hp : ∀ x, q ≤ x → x ≤ q + 396 → ¬ P x) : CG q m' T n G :=
  ⟨h.1.keepF hq hB k hp, fun c x hx => (k.1 _ _ (hp _ (by omega) (by have := get_lt hx; have := hB.2.2; omega))).1.trans (h.2 c x hx)⟩
theorem packAt_C {q p : Nat} {m : Mi} {T : Nat → Nat} {G : Rg} (hq : QS q) (hW : WQ q m) (hD : DC q m T G) (hB : BGd G) (hp : p < G.1.length) : f_X6_packAt TT m q (nI p) = some (q + 3 + 2 * p) := by
  have := hB.1
  unfold f_X6_packAt
  rw [if_neg (nI_pos (by omega)), hD.1, if_neg (nI_ge hp (by omega)), hW.2.1, if_pos (ar_of hq.2.2.2.1 (by omega) (by omega)), ix_nI (by omega), (hW.2.2.2.2.2.2.1 p (by omega)).1]
theorem packAt_no {q : Nat} {m : Mi} {T : Nat → Nat} {G : Rg} {x : Int32} (hD : DC q m T G) (h : x < 0 ∨ nI G.1.length ≤ x) : f_X6_packAt TT m q x = some 0 := by
  unfold f_X6_packAt
  by_cases h0 : x < 0
  · rw [if_pos h0]
  · rw [if_neg h0, hD.1, if_pos (h.resolve_left h0)]
theorem releaseAt_C {q r : Nat} {m : Mi} {T : Nat → Nat} {G : Rg} (hq : QS q) (hW : WQ q m) (hD : DC q m T G) (hB : BGd G) (hr : r < G.2.1.length) : f_X6_releaseAt TT m q (nI r) = some (q + 24 + 2 * r) := by
  have := hB.2.1
  unfold f_X6_releaseAt
  rw [if_neg (nI_pos (by omega)), hD.2.1, if_neg (nI_ge hr (by omega)), hW.2.2.1, if_pos (ar_of hq.2.2.2.2.1 (by omega) (by omega)), ix_nI (by omega), (hW.2.2.2.2.2.2.2.1 r (by omega)).1]
theorem releaseAt_no {q : Nat} {m : Mi} {T : Nat → Nat} {G : Rg} {x : Int32} (hD : DC q m T G) (h : x < 0 ∨ nI G.2.1.length ≤ x) : f_X6_releaseAt TT m q x = some 0 := by
  unfold f_X6_releaseAt
  by_cases h0 : x < 0
  · rw [if_pos h0]
  · rw [if_neg h0, hD.2.1, if_pos (h.resolve_left h0)]
theorem conAt_C {q c : Nat} {m : Mi} {T : Nat → Nat} {G : Rg} (hq : QS q) (hW : WQ q m) (hD : DC q m T G) (hB : BGd G) (hc : c < G.2.2.length) : f_X6_constraintAt TT m q (nI c) = some (q + 145 + c) := by
  have := hB.2.2
  unfold f_X6_constraintAt
  rw [if_neg (nI_pos (by omega)), hD.2.2.1, if_neg (nI_ge hc (by omega)), hW.2.2.2.1, if_pos (ar_of hq.2.2.2.2.2.1 (by omega) (by omega)), ix_nI (by omega), hW.2.2.2.2.2.2.2.2 c (by omega)]
theorem conAt_no {q : Nat} {m : Mi} {T : Nat → Nat} {G : Rg} {x : Int32} (hD : DC q m T G) (h : x < 0 ∨ nI G.2.2.length ≤ x) : f_X6_constraintAt TT m q x = some 0 := by
  unfold f_X6_constraintAt
  by_cases h0 : x < 0
  · rw [if_pos h0]
  · rw [if_neg h0, hD.2.2.1, if_pos (h.resolve_left h0)]
theorem GB.half {B : List Row} (h : GB B) : ∃ k, B.length = 2 * k := by
  have := h.2.1
  unfold od at this
  have := of_decide_eq_false this
  exact ⟨B.length / 2, by omega⟩
theorem within_C {q n p : Nat} {m : Mi} {T : Nat → Nat} {G : Rg} {R : List Row} (hq : QS q) (hW : WQ q m) (hD : DC q m T G) (hO : RO T n G) (hp : p < G.1.length) (hR : RG TT m 36 512 R) (gR : GB R) :
    f_X6_releasesWithin TT m q (nI p) 36 = some (msk 6 (fun j => decide (j < cntR G.2.1 p) && par R (rvR T G.2.1 (fr G p + j)))) := by
  have hB := hO.2.1
  have hB2 := hB.2.1
  have hB1 := hB.1
  have h6 := hO.2.2.2.1.1 p
  have hfl := fr_le hO hp
  obtain ⟨y, hy⟩ := get_some hp
  obtain ⟨a1, a2, a3, a4, _⟩ := hD.2.2.2.2.1 p y hy
  have hfy := fr_get hy
  obtain ⟨k0, hk0⟩ := gR.half
  unfold f_X6_releasesWithin f_X6_releasesWithin_j12
  rw [packAt_C hq hW hD hB hp, Option.bind_some]
  have h := lp_count (body := fun x : Int32 × Int32 => f_X6_releasesWithin_l12 TT m q 36 (q + 3 + 2 * p) x.1 x.2) (fun k => (msk 6 (fun j => decide (j < k) && par R (rvR T G.2.1 (fr G p + j))), nI k)) (a := 0) (n := cntR G.2.1 p) (y := msk 6 (fun j => decide (j < cntR G.2.1 p) && par R (rvR T G.2.1 (fr G p + j)))) (Nat.zero_le _) (by omega) (fun k _ hk => ?_) ?_
  · rw [msk_none (f := fun j => decide (j < 0) && par R (rvR T G.2.1 (fr G p + j))) (by omega) (fun i _ => by rw [decide_eq_false (by omega), Bool.false_and])] at h
    rw [show ((0 : Int32), (0 : Int32)) = ((0 : Int32), nI 0) from rfl, h]
    rfl
  · show f_X6_releasesWithin_l12 TT m q 36 (q + 3 + 2 * p) (msk 6 _) (nI k) = _
    have hrr : fr G p + k < G.2.1.length := by omega
    obtain ⟨x, hx⟩ := get_some hrr
    obtain ⟨b1, b2, b3, b4, b5, b6⟩ := hD.2.2.2.2.2.1 _ x hx
    have hrow : rowL m (q + 25 + 2 * (fr G p + k)) 0 = rvR T G.2.1 (fr G p + k) := by rw [b6, rvR_get hx]
    have hss := hq.2.2.2.2.2.2.2.2.2.1 (fr G p + k) (by omega)
    have hhas := has_spec hR hss.2 (by omega) (by omega) hk0 gR.1
    rw [hrow] at hhas
    unfold f_X6_releasesWithin_l12
    rw [if_neg (show ¬ q + 3 + 2 * p = 0 by omega), ob_of (hq.2.2.2.2.2.2.2.2.1 p (by omega)).1, if_pos rfl, a4, if_neg (nI_ge hk (by omega)), a3, ← hfy, nI_add, releaseAt_C hq hW hD hB hrr, Option.bind_some, if_neg (show ¬ q + 24 + 2 * (fr G p + k) = 0 by omega), ob_of hss.1, if_pos rfl, ob_of s_36, if_pos rfl, (hW.2.2.2.2.2.2.2.1 (fr G p + k) (by omega)).2, hhas, Option.bind_some]
    have st := msk_step (n := 6) (k := k) (P := fun j => par R (rvR T G.2.1 (fr G p + j))) (by omega) (by omega)
    cases hP : par R (rvR T G.2.1 (fr G p + k)) with
    | false =>
      rw [if_pos bF, lt_eq, nI_1]
      have e := st.1 hP
      rw [e]
    | true =>
      rw [if_neg bTr, lt_eq, lt_eq, nI_1]
      have e := st.2 hP
      rw [e]
  · show f_X6_releasesWithin_l12 TT m q 36 (q + 3 + 2 * p) (msk 6 _) (nI _) = _
    unfold f_X6_releasesWithin_l12
    rw [if_neg (show ¬ q + 3 + 2 * p = 0 by omega), ob_of (hq.2.2.2.2.2.2.2.2.1 p (by omega)).1, if_pos rfl, a4, if_pos (nI_le (Nat.le_refl _) (by omega))]
/-- the tokens of a range, read again out of its piece of the text -/
theorem ts_cut {T : Nat → Nat} {n : Nat} {ts : List Tok} (h : TkO T n ts) : tl T (lst ts) (pl0 0 ts) = ts ∧ lst ts ≤ n ∧ pl0 0 ts ≤ lst ts ∧ ∀ x ∈ ts, isP x.1 = true ∨ x.1 = 9 := by
  obtain ⟨h1, h2, p, rest, h3⟩ := h
  have hall : ∀ x ∈ ts, isP x.1 = true ∨ x.1 = 9 := by
    intro x hx
    have := chk_take ts 1 0 x
    rw [h1, List.take_of_length_le (Nat.le_refl _)] at this
    exact this hx
  obtain ⟨x, l, rfl⟩ := List.exists_cons_of_ne_nil h2
  obtain ⟨z, hz⟩ : ∃ z, (x :: l).getLast? = some z := by
    cases hz : (x :: l).getLast? with
    | none => simp at hz
    | some z => exact ⟨z, rfl⟩
  have hl : lst (x :: l) = z.2.2 := by unfold lst; rw [hz]
  have hzm : z ∈ tl T n p := by
    rw [h3]
    exact List.mem_append_left _ (List.mem_of_getLast? hz)
  have hm := tl_mem (n - p) p (Nat.le_refl _) z hzm
  have hgt := tk_gt (T := T) (n := n) hm.2.1
  have hzn : z.2.2 ≤ n := by rw [hm.2.2.2.1]; exact hgt.2
  have hcut := tl_cut (e := z.2.2) hzn l p rest x h3 hall ⟨z, hz, rfl⟩
  rw [hl]
  refine ⟨hcut, hzn, ?_, hall⟩
  rcases Nat.lt_or_ge z.2.2 x.2.1 with hlt | hge
  · rw [tl_end (by omega)] at hcut
    cases hcut
  · exact hge
/-- what marking may change -/
def FM (q x : Nat) : Prop := (42 ≤ x ∧ x ≤ 58) ∨ x = 36 ∨ x = 37 ∨ (q + 145 ≤ x ∧ x ≤ q + 394)
/-- a constraint's range, read out of the text into the joined range -/
theorem rgRead_C {q n c : Nat} {m : Mi} {T : Nat → Nat} {G : Rg} {x : CnT} {J : List Row} (hq : QS q) (hO : RO T n G) (hI : InC m) (hJ : RG TT m 36 512 J) (hC : CG0 q m T n G) (hx : G.2.2[c]? = some x) :
    ∃ m2 m3, f_X9_scan TT m 42 (q + 1) (gi m (q + 145 + c) 5) (gi m (q + 145 + c) 6) = some m2 ∧ f_X5_take TT m2 48 (q + 1) 42 36 = some m3 ∧ InC m3 ∧ RG TT m3 36 512 (rgC T x) ∧ GB (rgC T x) ∧ Fr (fun y => (42 ≤ y ∧ y ≤ 58) ∨ y = 36 ∨ y = 37) m m2 ∧ Fr (fun y => (42 ≤ y ∧ y ≤ 58) ∨ y = 36 ∨ y = 37) m m3 := by
  obtain ⟨hWF, hWT, hWR, hOB, hI4⟩ := hI
  have hq1 := hq.1
  obtain ⟨a1, a2, a3, a4, a5, a6⟩ := hC.2.2.1.2.2.2.2.2.2 c x hx
  have hxm := List.mem_of_getElem? hx
  obtain ⟨g1, g2, g3, g4⟩ := hO.1.2.2.2.1 x hxm
  obtain ⟨t1, t2, t3, t4⟩ := ts_cut g4
  have hn := hO.2.2.2.2.1
  have hTx : Tx m (q + 1) (lst x.2.2.2) T := fun j hj => hC.2.1 j (by omega)
  obtain ⟨m2, e2, l2, s2, k2, wt2⟩ := scan_spec (m := m) (c := q + 1) (a := pl0 0 x.2.2.2) (e := lst x.2.2.2) (T := T) hWT (by omega) (by omega) hq.2.2.1 (by omega) t3 hTx
  rw [t1] at l2
  have f2 := k2.F
  have hJ2 : RG TT m2 36 512 J := hJ.keepF f2 (by omega) (by omega) (by unfold NR; omega)
  have hOB2 : OB m2 := hOB.keepF f2 (fun x a b => by omega)
  have htk : ∀ y ∈ x.2.2.2, tokR T (lst x.2.2.2) y := by
    intro y hy
    rcases t4 y hy with h | h
    · exact (tl_tokR (p := pl0 0 x.2.2.2) (by rw [t1]; exact hy) h).1
    · exact Or.inl h
  obtain ⟨m3, e3, r3, b3, wr3, ob3, f3⟩ := takeC (m := m2) (c := q + 1) (r := 36) (cap := 512) (e := lst x.2.2.2) (T := T) (l := x.2.2.2) (R := J) (by omega) (by omega) (by omega) (by omega) (by omega) (by omega) hq.2.2.1 (by omega) htk g4.1 (hWR.keep f2) hOB2 wt2 l2 s2.2.2.2.2.2.2 hJ2
  have f2' : Fr (fun y => (42 ≤ y ∧ y ≤ 58) ∨ y = 36 ∨ y = 37) m m2 := f2.mono (fun y h => by omega)
  have f3' : Fr (fun y => (42 ≤ y ∧ y ≤ 58) ∨ y = 36 ∨ y = 37) m2 m3 := f3.mono (fun y h => by unfold FT at h; omega)
  refine ⟨m2, m3, ?_, e3, InC.keepF ⟨hWF, hWT, hWR, hOB, hI4⟩ (f2'.tr f3') ob3, r3, b3, f2', f2'.tr f3'⟩
  rw [a5, a6]
  exact e2
theorem mark_lp {q n : Nat} {T : Nat → Nat} {G : Rg} (hq : QS q) (hO : RO T n G) : ∀ (d k N : Nat) (m : Mi), k + d = G.2.2.length → d < N → InC m → (∃ J, RG TT m 36 512 J) → CG0 q m T n G → (∀ c x, c < k → G.2.2[c]? = some x → gi m (q + 145 + c) 7 = msk 6 (wi T G x)) →
    ∃ m', lp (fun x : Int32 × Mi => f_X11_markReleasesInRanges_l2 TT x.2 1 q x.1) N (nI k, m) = some m' ∧ InC m' ∧ (∃ J, RG TT m' 36 512 J) ∧ CG q m' T n G ∧ Fr (FM q) m m' := by
  have hB := hO.2.1
  have hB3 := hB.2.2
  have hq1 := hq.1
  intro d
  induction d with
  | zero =>
    intro k N m hk hN hI hJ hC hw
    obtain ⟨N, rfl⟩ : ∃ y, N = y + 1 := ⟨N - 1, by omega⟩
    refine ⟨m, lp_exit ?_, hI, hJ, ⟨hC, fun c x hx => hw c x (by have := get_lt hx; omega) hx⟩, Fr.rf⟩
    show f_X11_markReleasesInRanges_l2 TT m 1 q (nI k) = _
    unfold f_X11_markReleasesInRanges_l2 f_X6_constraints
    rw [ob_of hq.2.1, if_pos rfl, Option.bind_some, hC.2.2.1.2.2.1, if_pos (nI_le (by omega) (by omega))]
  | succ d ih =>
    intro k N m hk hN hI hJ hC hw
    obtain ⟨N, rfl⟩ : ∃ y, N = y + 1 := ⟨N - 1, by omega⟩
    obtain ⟨x, hx⟩ := get_some (l := G.2.2) (k := k) (by omega)
    have hxm := List.mem_of_getElem? hx
    obtain ⟨J, hJ⟩ := hJ
    obtain ⟨m2, m3, e2, e3, i3, r3, b3, f2, f3⟩ := rgRead_C hq hO hI hJ hC hx
    obtain ⟨⟨⟨w1, w2, w3, w4, w5, w6, w7, w8, w9, w10⟩, w11⟩, _⟩ := hI
    have hC3 : CG0 q m3 T n G := hC.keepF hq hB f3 (fun y a b => by omega)
    have htg := hC3.2.2.2 k x hx
    have hfn := unk_fnd hO.2.2.1 hxm
    have e4 := within_C hq hC3.1 hC3.2.2.1 hO hfn.2 r3 b3
    have g2 : ∀ y j, ¬ NR y j → gr m2 y j = gr m y j := f2.2
    have g3 : ∀ y j, ¬ NR y j → gr m3 y j = gr m y j := f3.2
    have hbody : f_X11_markReleasesInRanges_l2 TT m 1 q (nI k) = some (.inl (nI (k + 1), si m3 (q + 145 + k) 7 (msk 6 (wi T G x)))) := by
      unfold f_X11_markReleasesInRanges_l2 f_X6_constraints
      rw [ob_of hq.2.1, if_pos rfl, Option.bind_some, hC.2.2.1.2.2.1, if_neg (nI_ge (by omega) (by omega)), conAt_C hq hC.1 hC.2.2.1 hB (by omega), Option.bind_some, if_neg (show ¬ q + 145 + k = 0 by omega), ob_of (hq.2.2.2.2.2.2.2.2.2.2 k (by omega)), if_pos rfl, w6, ob_of s_42, if_pos rfl, hC.1.1, e2, Option.bind_some, g2 1 7 (by unfold NR; omega), w7, ob_of s_48, if_pos rfl, g2 q 0 (by unfold NR; omega), hC.1.1, g2 1 6 (by unfold NR; omega), w6, g2 1 3 (by unfold NR; omega), w3, e3, Option.bind_some, htg, g3 1 3 (by unfold NR; omega), w3, e4, Option.bind_some, lt_eq, lt_eq, nI_1]
      rfl
    rw [lp_step hbody]
    have kg : KG q m3 (si m3 (q + 145 + k) 7 (msk 6 (wi T G x))) := KG.si (by omega) (Or.inr rfl)
    have f4 : Fr (FM q) m3 (si m3 (q + 145 + k) 7 (msk 6 (wi T G x))) := Fr.si (by unfold FM; omega)
    have hC4 : CG0 q (si m3 (q + 145 + k) 7 (msk 6 (wi T G x))) T n G := hC3.keepG hq hB kg (fun y j hj => by simp only [mS]; rw [if_neg (by omega)])
    have ob4 : OB (si m3 (q + 145 + k) 7 (msk 6 (wi T G x))) := i3.2.2.2.1.keepF (Fr.si (P := fun y => 59 ≤ y) (by omega)) (fun y a b => by omega)
    have i4 := i3.keepF f4 ob4
    have r4 : RG TT (si m3 (q + 145 + k) 7 (msk 6 (wi T G x))) 36 512 (rgC T x) := r3.keepF (Fr.si (P := fun y => 59 ≤ y) (by omega)) (by omega) (by omega) (by unfold NR; omega)
    obtain ⟨m', e5, i5, j5, c5, f5⟩ := ih (k + 1) N _ (by omega) (by omega) i4 ⟨_, r4⟩ hC4 (fun c y hck hy => by
      by_cases h : c = k
      · subst h
        rw [hx] at hy
        cases hy
        exact gi_si _ _ _ _
      · simp only [mS]
        rw [if_neg (by omega), (f3.1 _ _ (by omega)).1]
        exact hw c y (by omega) hy)
    exact ⟨m', e5, i5, j5, c5, ((f3.mono (fun y h => by unfold FM; omega)).tr f4).tr f5⟩
