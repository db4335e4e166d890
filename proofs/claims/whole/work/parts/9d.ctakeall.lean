/-! The class: a registry's text is taken as a whole. -/
theorem clear_C {q n : Nat} {m : Mi} {T : Nat → Nat} {L : List Tok} (hq : QS q) (hX : CQ q m T n L) : ∃ m', f_X6_clear TT m q = some m' ∧ CQ q m' T n L ∧ Fr (FQ q) m m' ∧ DC q m' T ([], ([], [])) ∧ At q m' L L := by
  unfold f_X6_clear
  simp only [lt_eq]
  have f : Fr (FQ q) m (si (si (si (si (si (si m q 4 0) q 5 0) q 6 0) q 7 0) q 9 0) q 10 0) := Fr.tr (Fr.tr (Fr.tr (Fr.tr (Fr.tr Fr_q Fr_q) Fr_q) Fr_q) Fr_q) Fr_q
  refine ⟨_, rfl, hX.keep f hq, f, ⟨?_, ?_, ?_, ?_, fun p x h => by simp at h, fun p x h => by simp at h, fun p x h => by simp at h⟩, 0, Nat.zero_le _, ?_, rfl⟩
  · show _ = nI 0
    simp [mS, nI_0]
  · show _ = nI 0
    simp [mS, nI_0]
  · show _ = nI 0
    simp [mS, nI_0]
  · show _ = nI 0
    simp [mS, nI_0]
  · simp [mS, nI_0]
theorem j36_C {q n c : Nat} {m : Mi} {T : Nat → Nat} {L l : List Tok} (hX : CQ q m T n L) (hA : At q m L l) (h10 : gi m q 10 = nI c) : f_X6_take_j36 TT m q 42 = some (nI (c + 8 * pl0 n l), m) := by
  unfold f_X6_take_j36
  rw [ob_of s_42, if_pos rfl, hA.place hX, Option.bind_some, h10, show (8 : Int32) = nI 8 from rfl, pk_mul, nI_add]
/-- only targets, and what is within, have changed -/
def KG (q : Nat) (m m' : Mi) : Prop := (∀ x j, ¬ (q + 145 ≤ x ∧ x ≤ q + 394 ∧ (j = 4 ∨ j = 7)) → gi m' x j = gi m x j) ∧ (∀ x j, gl m' x j = gl m x j) ∧ ∀ x j, gr m' x j = gr m x j
theorem KG.rf {q : Nat} {m : Mi} : KG q m m := ⟨fun _ _ _ => rfl, fun _ _ => rfl, fun _ _ => rfl⟩
theorem KG.tr {q : Nat} {m m1 m2 : Mi} (h : KG q m m1) (h2 : KG q m1 m2) : KG q m m2 := ⟨fun x j a => (h2.1 x j a).trans (h.1 x j a), fun x j => (h2.2.1 x j).trans (h.2.1 x j), fun x j => (h2.2.2 x j).trans (h.2.2 x j)⟩
theorem KG.si {q c j : Nat} {m : Mi} {v : Int32} (hc : c < 250) (hj : j = 4 ∨ j = 7) : KG q m (si m (q + 145 + c) j v) := by
  refine ⟨fun x i a => ?_, fun _ _ => rfl, fun _ _ => rfl⟩
  simp only [mS]
  rw [if_neg (by omega)]
theorem KG.F {q : Nat} {m m' : Mi} (h : KG q m m') : Fr (FQ q) m m' := ⟨fun x j e => ⟨h.1 x j (fun z => e (by unfold FQ; omega)), h.2.1 x j⟩, fun x j _ => h.2.2 x j⟩
theorem DC.keepG {q : Nat} {m m' : Mi} {T : Nat → Nat} {G : Rg} (h : DC q m T G) (hB : BGd G) (k : KG q m m') : DC q m' T G := by
  obtain ⟨h1, h2, h3, h4, h5, h6, h7⟩ := h
  refine ⟨(k.1 _ _ (by omega)).trans h1, (k.1 _ _ (by omega)).trans h2, (k.1 _ _ (by omega)).trans h3, (k.1 _ _ (by omega)).trans h4, h5.keep hB.1 (fun x j a b => k.1 _ _ (by omega)), h6.keep hB.2.1 (fun x j a b => ⟨k.1 _ _ (by omega), k.2.1 _ _⟩), fun c x hx => ?_⟩
  obtain ⟨a1, a2, a3, a4, a5, a6⟩ := h7 c x hx
  exact ⟨(k.1 _ _ (by omega)).trans a1, (k.1 _ _ (by omega)).trans a2, (k.1 _ _ (by omega)).trans a3, (k.1 _ _ (by omega)).trans a4, (k.1 _ _ (by omega)).trans a5, (k.1 _ _ (by omega)).trans a6⟩
theorem WQ.keepG {q : Nat} {m m' : Mi} (h : WQ q m) (k : KG q m m') (hq : QS q) : WQ q m' := h.keep k.F hq
theorem Tx.keepG {q n : Nat} {m m' : Mi} {T : Nat → Nat} (h : Tx m (q + 1) n T) (k : KG q m m') : Tx m' (q + 1) n T := fun j hj => ⟨(k.1 _ _ (by omega)).trans (h j hj).1, (h j hj).2⟩
def noT (T : Nat → Nat) (G : Rg) (x : CnT) : Bool := (fnd T G.1 x.2.2.1.1 x.2.2.1.2).isNone
def fA (o : Option CnT) : Nat := match o with
  | some x => 4 + 8 * x.2.2.1.1
  | none => 0
theorem findT_lp {q n : Nat} {T : Nat → Nat} {G : Rg} (hq : QS q) (hB : BGd G) (hG : GW T n G) (hn : n ≤ 2000) :
    ∀ (d k N : Nat) (m : Mi), k + d = G.2.2.length → d < N → WQ q m → Tx m (q + 1) n T → DC q m T G → (∀ c x, c < k → G.2.2[c]? = some x → gi m (q + 145 + c) 4 = nI (tgt T G x)) →
    ∃ m', (lp (fun x : Int32 × Mi => f_X6_findTargets_l2 TT x.2 q x.1) N (nI k, m)).bind (Sum.elim (fun y : Mi => f_X6_findTargets_j57 TT y) (fun y : Nat × Mi => f_X6_findTargets_j41 TT (y.2) (y.1))) = some (nI (fA ((G.2.2.drop k).find? (noT T G))), m') ∧ KG q m m' ∧ ((G.2.2.drop k).find? (noT T G) = none → ∀ c x, G.2.2[c]? = some x → gi m' (q + 145 + c) 4 = nI (tgt T G x)) := by
  intro d
  induction d with
  | zero =>
    intro k N m hk hN hW hT hD hc
    obtain ⟨N, rfl⟩ : ∃ y, N = y + 1 := ⟨N - 1, by omega⟩
    rw [lp_exit (y := .inl m), List.drop_of_length_le (by omega)]
    · exact ⟨m, rfl, KG.rf, fun _ c x hx => hc c x (by have := get_lt hx; omega) hx⟩
    · show f_X6_findTargets_l2 TT m q (nI k) = _
      unfold f_X6_findTargets_l2
      have := hB.2.2
      rw [hD.2.2.1, if_pos (nI_le (by omega) (by omega))]
  | succ d ih =>
    intro k N m hk hN hW hT hD hc
    obtain ⟨N, rfl⟩ : ∃ y, N = y + 1 := ⟨N - 1, by omega⟩
    have hB3 := hB.2.2
    obtain ⟨x, hx⟩ := get_some (l := G.2.2) (k := k) (by omega)
    have hxm := List.mem_of_getElem? hx
    obtain ⟨g1, g2, g3, g4⟩ := hG.2.2.2.1 x hxm
    obtain ⟨a1, a2, a3, a4, a5, a6⟩ := hD.2.2.2.2.2.2 k x hx
    have hnm := named_C (R := G.2.1) hq hW hT hn hB.1 hD.1 hD.2.2.2.2.1 hG.2.1 g2 g3
    have hfn := fndI_none (fnd T G.1 x.2.2.1.1 x.2.2.1.2) (fun p hp => by have := fnd_lt hp; have := hB.1; omega)
    have hbody : f_X6_findTargets_l2 TT m q (nI k) = if fndI (fnd T G.1 x.2.2.1.1 x.2.2.1.2) = -1 then some (.inr (.inr (q + 145 + k, si m (q + 145 + k) 4 (fndI (fnd T G.1 x.2.2.1.1 x.2.2.1.2))))) else some (.inl (nI (k + 1), si m (q + 145 + k) 4 (fndI (fnd T G.1 x.2.2.1.1 x.2.2.1.2)))) := by
      unfold f_X6_findTargets_l2
      rw [hD.2.2.1, if_neg (nI_ge (by omega) (by omega)), hW.2.2.2.1, if_pos (ar_of hq.2.2.2.2.2.1 (by omega) (by omega)), lt_eq, ix_nI (by omega), hW.2.2.2.2.2.2.2.2 k (by omega), ob_of (hq.2.2.2.2.2.2.2.2.2.2 k (by omega)), if_pos rfl, a3, a4, hnm, Option.bind_some, lt_eq, gi_si]
      simp only [lt_eq, nI_1]
    rw [drop_get hx]
    have kg : KG q m (si m (q + 145 + k) 4 (fndI (fnd T G.1 x.2.2.1.1 x.2.2.1.2))) := KG.si (by omega) (Or.inl rfl)
    cases hf : fnd T G.1 x.2.2.1.1 x.2.2.1.2 with
    | none =>
      rw [hf] at hbody kg
      rw [if_pos (show fndI none = -1 from rfl)] at hbody
      rw [lp_exit (y := .inr (q + 145 + k, si m (q + 145 + k) 4 (fndI none))) hbody, List.find?_cons_of_pos (show noT T G x = true by unfold noT; rw [hf]; rfl)]
      refine ⟨_, ?_, kg, fun e => (by cases e)⟩
      show f_X6_findTargets_j41 TT (si m (q + 145 + k) 4 (fndI none)) (q + 145 + k) = _
      unfold f_X6_findTargets_j41
      rw [ob_of (hq.2.2.2.2.2.2.2.2.2.2 k (by omega)), if_pos rfl]
      simp only [mS]
      rw [if_neg (by omega), a3, show (8 : Int32) = nI 8 from rfl, show (4 : Int32) = nI 4 from rfl, pk_mul, nI_add]
      rfl
    | some p =>
      rw [hf] at hbody kg hfn
      rw [if_neg (fun e => by have := hfn.mp e; cases this)] at hbody
      rw [List.find?_cons_of_neg (show ¬ noT T G x = true by unfold noT; rw [hf]; simp), lp_step hbody]
      have htg : tgt T G x = p := by unfold tgt; rw [hf]; rfl
      obtain ⟨m', e1, e2, e3⟩ := ih (k + 1) N _ (by omega) (by omega) (hW.keepG kg hq) (hT.keepG kg) (hD.keepG hB kg) (fun c y hck hy => by
        by_cases h : c = k
        · subst h
          rw [hx] at hy
          cases hy
          rw [htg]
          exact gi_si _ _ _ _
        · simp only [mS]
          rw [if_neg (by omega)]
          exact hc c y (by omega) hy)
      exact ⟨m', e1, kg.tr e2, e3⟩
theorem findT_C {q n : Nat} {m : Mi} {T : Nat → Nat} {G : Rg} (hq : QS q) (hB : BGd G) (hG : GW T n G) (hn : n ≤ 2000) (hW : WQ q m) (hT : Tx m (q + 1) n T) (hD : DC q m T G) :
    ∃ m', f_X6_findTargets TT m q = some (nI (fA (unk T G)), m') ∧ KG q m m' ∧ (unk T G = none → ∀ c x, G.2.2[c]? = some x → gi m' (q + 145 + c) 4 = nI (tgt T G x)) := by
  have h := findT_lp hq hB hG hn G.2.2.length 0 FUEL m (by omega) (by have := hB.2.2; unfold FUEL; omega) hW hT hD (fun c x hc => by omega)
  rw [List.drop_zero] at h
  exact h
theorem takeAll_C {q n : Nat} {m : Mi} {T : Nat → Nat} {L : List Tok} (hq : QS q) (hX : CQ q m T n L) : ∃ m', f_X6_take TT m q 42 48 = some (nI (rdA T n), m') ∧ CQ q m' T n L ∧ Fr (FQ q) m m' ∧ ∀ l G, pAll T L = .inr (l, G) → unk T G = none → DC q m' T G ∧ ∀ c x, G.2.2[c]? = some x → gi m' (q + 145 + c) 4 = nI (tgt T G x) := by
  obtain ⟨m1, e1, x1, f1, d1, a1⟩ := clear_C hq hX
  have hL : L = tl T n 0 := hX.2.2.2.2.2.2.2
  have hn : n ≤ 2000 := hX.2.2.2.2.2.2.1
  have hF : 12 < FUEL := by unfold FUEL; omega
  obtain ⟨v2, m2, e2, o2⟩ := takePacks_lp hq 10 0 FUEL m1 L ([], ([], [])) (by omega) (by omega) x1 a1 d1 ⟨by simp, by simp, by simp⟩ (GW_nil T n) rfl rfl (by simp) (by simp)
  have e2 : f_X6_takePackages TT m1 q 42 48 = some (v2, m2) := e2
  have o2 := OuC.tr f1 o2
  unfold f_X6_take
  rw [e1, Option.bind_some, e2, bd_some]
  cases hp : pPacks T 10 L ([], ([], [])) with
  | inl e =>
    have hpa : pAll T L = .inl e := by unfold pAll; rw [hp]; rfl
    have hr : rdA T n = e.1 + 8 * pl0 n e.2 := by unfold rdA; rw [← hL, hpa]
    rw [hp] at o2
    obtain ⟨h1, h2, h3⟩ := o2.inl
    rw [h1, if_pos rfl, j36_C o2.1 h3 h2, hr]
    exact ⟨m2, rfl, o2.1, o2.2.1, fun l G h => by rw [hpa] at h; cases h⟩
  | inr w =>
    obtain ⟨l2, G2⟩ := w
    rw [hp] at o2
    obtain ⟨h1, h2, h3⟩ := o2.inr
    have hs : Sfx (tl T n 0) L := ⟨0, by rw [hL]; rfl⟩
    obtain ⟨w1, w2, w3, w4, w5, w6⟩ := pPacks_W 10 _ _ _ _ hs (GW_nil T n) rfl (Nat.zero_le _) (Nat.zero_le _) hp
    have w4 : G2.1.length ≤ 0 + 10 := w4
    have hB2 : BGd G2 := ⟨by omega, by omega, by omega⟩
    obtain ⟨v3, m3, e3, o3⟩ := takeWants_lp hq 10 0 FUEL m2 l2 G2 (by omega) (by omega) o2.1 h3 h2 hB2 w2 (by omega)
    have e3 : f_X6_takeWants TT m2 q 42 48 = some (v3, m3) := e3
    have o3 := OuC.tr o2.2.1 o3
    rw [h1, if_neg (by decide), e3, bd_some]
    cases hw : pWants 10 l2 G2 with
    | inl e =>
      have hpa : pAll T L = .inl e := by unfold pAll; rw [hp]; show bnR (pWants 10 l2 G2) _ = _; rw [hw]; rfl
      have hr : rdA T n = e.1 + 8 * pl0 n e.2 := by unfold rdA; rw [← hL, hpa]
      rw [hw] at o3
      obtain ⟨h4, h5, h6⟩ := o3.inl
      rw [h4, if_pos rfl, j36_C o3.1 h6 h5, hr]
      exact ⟨m3, rfl, o3.1, o3.2.1, fun l G h => by rw [hpa] at h; cases h⟩
    | inr w =>
      obtain ⟨l3, G3⟩ := w
      rw [hw] at o3
      obtain ⟨h4, h5, h6⟩ := o3.inr
      obtain ⟨y1, y2, y3, y4, y5⟩ := pWants_W 10 _ _ _ _ w1 w2 hw
      have hB3 : BGd G3 := ⟨by rw [y3]; exact hB2.1, by rw [y4]; exact hB2.2.1, by omega⟩
      have hpa : pAll T L = if kd0 l3 = 0 then .inr (l3, G3) else .inl (1, l3) := by
        unfold pAll
        rw [hp]
        show bnR (pWants 10 l2 G2) _ = _
        rw [hw]
        rfl
      rw [h4, if_neg (by decide)]
      unfold f_X6_expect
      rw [ob_of s_42, if_pos rfl, h6.kind o3.1, Option.bind_some]
      by_cases h0 : kd0 l3 = 0
      · rw [if_pos h0] at hpa
        rw [if_pos (show nI (kd0 l3) = 0 by rw [h0]; rfl), lt_eq, bd_some, if_neg (by decide)]
        have f4 : Fr (FQ q) m3 (si m3 q 9 (gi m3 q 9 + 1)) := Fr_q
        have x4 := o3.1.keep f4 hq
        obtain ⟨m5, e5, k5, t5⟩ := findT_C hq hB3 y2 hn x4.1 x4.2.2.2.2.2.1 (h5.si9 hB3 hq (Or.inl rfl))
        have hr : rdA T n = fA (unk T G3) := by
          unfold rdA
          rw [← hL, hpa]
          show (match unk T G3 with | some x => 4 + 8 * x.2.2.1.1 | none => 0) = _
          unfold fA
          rfl
        rw [e5, bd_some, hr]
        refine ⟨m5, rfl, x4.keep k5.F hq, (o3.2.1.tr f4).tr k5.F, fun l G h hu => ?_⟩
        rw [hpa] at h
        cases h
        exact ⟨(h5.si9 hB3 hq (Or.inl rfl)).keepG hB3 k5, t5 hu⟩
      · rw [if_neg h0] at hpa
        have hkd : kd0 l3 < 13 := (h6.kd o3.1).1
        have hr : rdA T n = 1 + 8 * pl0 n l3 := by unfold rdA; rw [← hL, hpa]
        have oF := fail_O (c := 1) hq o3.1 h6
        obtain ⟨_, z2, z3⟩ := oF.inl
        rw [if_neg (show ¬ nI (kd0 l3) = 0 from nI_ne0 (by omega) (by omega)), show (1 : Int32) = nI 1 from rfl, fail_C, bd_some, if_pos (show zb 0 = true from rfl), bd_some, if_pos rfl, j36_C oF.1 z3 z2, hr]
        exact ⟨_, rfl, oF.1, o3.2.1.tr oF.2.1, fun l G h => by rw [hpa] at h; cases h⟩
