/-! order: the two texts as tokens. -/
theorem dg_prs {c : Nat} (h : dg c = true) : prs c = true := by
  unfold prs idc
  rw [h]
  simp
theorem idc_prs {c : Nat} (h : idc c = true) : prs c = true := by
  unfold prs
  rw [h]
  rfl
theorem prs_blk {c : Nat} (h : prs c = true) : blk c = false := by
  unfold prs idc dg at h
  unfold blk
  simp only [Bool.or_eq_true, Bool.and_eq_true, decide_eq_true_eq] at h
  rw [decide_eq_false (by omega), decide_eq_false (by omega)]
  rfl
/-- all signs from p up to q are signs of parts -/
def aP (T : Nat → Nat) (p q : Nat) : Prop := ∀ j, p ≤ j → j < q → prs (T j) = true
theorem aP.tr {T : Nat → Nat} {p q r : Nat} (h : aP T p q) (h2 : aP T q r) : aP T p r := fun j a b => by
  rcases Nat.lt_or_ge j q with h1 | h1
  · exact h j a h1
  · exact h2 j h1 b
theorem aP.one {T : Nat → Nat} {p : Nat} (h : prs (T p) = true) : aP T p (p + 1) := fun j a b => by
  rw [show j = p by omega]
  exact h
theorem atE_of {T : Nat → Nat} {e p c : Nat} (h : atE (fun x => decide (x = c)) T e p = true) : p < e ∧ T p = c := by
  unfold atE at h
  rw [Bool.and_eq_true, decide_eq_true_eq, decide_eq_true_eq] at h
  exact h
theorem nmb_P {T : Nat → Nat} {e p w q : Nat} (h : nmb T e p = some (w, q)) : p < q ∧ q ≤ e ∧ dg (T p) = true ∧ aP T p q := by
  unfold nmb at h
  have hall := run_all (f := dg) (T := T) (e := e) 10 p
  generalize run dg T e 10 p = z at h hall
  split at h
  · cases h
  · next hc =>
    have hq : p + z = q := congrArg (fun y => y.2) (Option.some.inj h)
    have h0 := hall 0 (by omega)
    have h1 := hall (z - 1) (by omega)
    refine ⟨by omega, by omega, h0.2, fun j a b => ?_⟩
    have := (hall (j - p) (by omega)).2
    rw [show p + (j - p) = j by omega] at this
    exact dg_prs this
theorem ntl_P {T : Nat → Nat} {e : Nat} : ∀ d q ns q', ntl T e d q = some (ns, q') → q ≤ q' ∧ (q ≤ e → q' ≤ e) ∧ aP T q q' := by
  intro d
  induction d with
  | zero =>
    intro q ns q' h
    have : q = q' := congrArg (fun y => y.2) (Option.some.inj h)
    subst this
    exact ⟨Nat.le_refl _, fun h => h, fun j a b => by omega⟩
  | succ d ih =>
    intro q ns q' h
    rw [ntl] at h
    split at h
    · next hc =>
      rw [Bool.and_eq_true] at hc
      obtain ⟨c1, c2⟩ := atE_of hc.1
      obtain ⟨⟨w, q1⟩, h1, h2⟩ := Option.bind_eq_some_iff.mp h
      obtain ⟨⟨ns2, q2⟩, h3, h4⟩ := Option.map_eq_some_iff.mp h2
      have hq : q2 = q' := congrArg (fun y => y.2) h4
      subst hq
      obtain ⟨a1, a2, a3, a4⟩ := nmb_P h1
      obtain ⟨b1, b2, b3⟩ := ih q1 ns2 q2 h3
      exact ⟨by omega, fun _ => b2 a2, ((aP.one (by rw [c2]; decide)).tr a4).tr b3⟩
    · have : q = q' := congrArg (fun y => y.2) (Option.some.inj h)
      subst this
      exact ⟨Nat.le_refl _, fun h => h, fun j a b => by omega⟩
theorem idn_P {T : Nat → Nat} {e p w q : Nat} {c : Bool} (h : idn T e c p = some (w, q)) : p < q ∧ q ≤ e ∧ aP T p q := by
  unfold idn at h
  have hall := run_all (f := idc) (T := T) (e := e) 9 p
  generalize run idc T e 9 p = z at h hall
  have fin : ¬ (z = 0 ∨ 8 < z) → p + z = q → p < q ∧ q ≤ e ∧ aP T p q := by
    intro hc hq
    have h1 := hall (z - 1) (by omega)
    refine ⟨by omega, by omega, fun j a b => ?_⟩
    have := (hall (j - p) (by omega)).2
    rw [show p + (j - p) = j by omega] at this
    exact idc_prs this
  split at h
  · cases h
  · next hc =>
    split at h
    · split at h
      · cases h
      · exact fin hc (congrArg (fun y => y.2) (Option.some.inj h))
    · exact fin hc (congrArg (fun y => y.2) (Option.some.inj h))
theorem ids_P {T : Nat → Nat} {e : Nat} {c : Bool} : ∀ d p is q, ids T e c d p = some (is, q) → p < q ∧ q ≤ e ∧ aP T p q := by
  intro d
  induction d with
  | zero => intro p is q h; cases h
  | succ d ih =>
    intro p is q h
    rw [ids] at h
    obtain ⟨⟨w, q1⟩, h1, h2⟩ := Option.bind_eq_some_iff.mp h
    obtain ⟨a1, a2, a3⟩ := idn_P h1
    split at h2
    · next hc =>
      obtain ⟨c1, c2⟩ := atE_of hc
      obtain ⟨⟨is2, q2⟩, h3, h4⟩ := Option.map_eq_some_iff.mp h2
      have hq : q2 = q := congrArg (fun y => y.2) h4
      subst hq
      obtain ⟨b1, b2, b3⟩ := ih _ _ _ h3
      have b1 : q1 + 1 < q2 := b1
      exact ⟨by omega, b2, (a3.tr (aP.one (by rw [c2]; decide))).tr b3⟩
    · have hq : q1 = q := congrArg (fun y => y.2) (Option.some.inj h2)
      subst hq
      exact ⟨a1, a2, a3⟩
theorem fil_P {T : Nat → Nat} {e : Nat} : ∀ d p, fil T e d p = true → p ≤ e ∧ aP T p e := by
  intro d
  induction d with
  | zero =>
    intro p h
    have : p = e := of_decide_eq_true h
    subst this
    exact ⟨Nat.le_refl _, fun j a b => by omega⟩
  | succ d ih =>
    intro p h
    rw [fil] at h
    split at h
    · next hc =>
      unfold isx at hc
      rw [Bool.and_eq_true] at hc
      obtain ⟨c1, c2⟩ := atE_of hc.1
      obtain ⟨d1, d2⟩ := atE_of hc.2
      obtain ⟨b1, b2⟩ := ih _ h
      exact ⟨by omega, ((aP.one (by rw [c2]; decide)).tr (aP.one (by rw [d2]; decide))).tr b2⟩
    · have : p = e := of_decide_eq_true h
      subst this
      exact ⟨Nat.le_refl _, fun j a b => by omega⟩
theorem rdv_P {T : Nat → Nat} {a e : Nat} {w : Nat × (List Nat × List Nat)} (h : rdv T a e = some w) : a < e ∧ dg (T a) = true ∧ aP T a e := by
  unfold rdv at h
  obtain ⟨⟨ns, q⟩, h1, h2⟩ := Option.bind_eq_some_iff.mp h
  unfold nums at h1
  obtain ⟨⟨v, q1⟩, h3, h4⟩ := Option.bind_eq_some_iff.mp h1
  obtain ⟨⟨ns2, q2⟩, h5, h6⟩ := Option.map_eq_some_iff.mp h4
  obtain ⟨a1, a2, a3, a4⟩ := nmb_P h3
  have h5 : ntl T e 2 q1 = some (ns2, q2) := h5
  obtain ⟨b1, b2, b3⟩ := ntl_P _ _ _ _ h5
  have hq : q2 = q := congrArg (fun y => y.2) h6
  subst hq
  have b2 := b2 a2
  have hA : aP T a q2 := a4.tr b3
  simp only at h2
  split at h2
  · obtain ⟨⟨is, i2⟩, g1, g2⟩ := Option.bind_eq_some_iff.mp h2
    obtain ⟨q3, g3, g4⟩ := Option.bind_eq_some_iff.mp g2
    have s1 : q2 ≤ i2 ∧ i2 ≤ e ∧ aP T q2 i2 := by
      split at g1
      · next hc =>
        obtain ⟨c1, c2⟩ := atE_of hc
        obtain ⟨d1, d2, d3⟩ := ids_P _ _ _ _ g1
        exact ⟨by omega, d2, (aP.one (by rw [c2]; decide)).tr d3⟩
      · have : q2 = i2 := congrArg (fun y => y.2) (Option.some.inj g1)
        subst this
        exact ⟨Nat.le_refl _, b2, fun j a b => by omega⟩
    have s2 : i2 ≤ q3 ∧ q3 ≤ e ∧ aP T i2 q3 := by
      simp only at g3
      split at g3
      · next hc =>
        obtain ⟨c1, c2⟩ := atE_of hc
        obtain ⟨⟨is3, i3⟩, f1, f2⟩ := Option.map_eq_some_iff.mp g3
        obtain ⟨d1, d2, d3⟩ := ids_P _ _ _ _ f1
        have f2 : i3 = q3 := f2
        subst f2
        exact ⟨by omega, d2, (aP.one (by rw [c2]; decide)).tr d3⟩
      · have : i2 = q3 := Option.some.inj g3
        subst this
        exact ⟨Nat.le_refl _, s1.2.1, fun j a b => by omega⟩
    split at g4
    · next hqe =>
      subst hqe
      exact ⟨by omega, a3, (hA.tr s1.2.2).tr s2.2.2⟩
    · cases g4
  · split at h2
    · next hf =>
      obtain ⟨c1, c2⟩ := fil_P _ _ hf
      exact ⟨by omega, a3, hA.tr c2⟩
    · cases h2
theorem rdc_some {T : Nat → Nat} {a e f : Nat} (h : rdc T a e = f) (hf : f ≠ 0) : ∃ ns is, rdv T a e = some (f, (ns, is)) := by
  unfold rdc at h
  split at h
  · exact absurd h.symm hf
  · next w hw =>
    obtain ⟨f2, ns, is⟩ := w
    have h : f2 = f := h
    subst h
    exact ⟨ns, is, hw⟩
/-- a version, up to where no more signs of parts stand, is a token -/
theorem tk_ver {T : Nat → Nat} {n b e : Nat} (h : rdc T b e = 2) (hen : e ≤ n) (hend : e = n ∨ prs (T e) = false) : b < e ∧ tk T n b = (8, e) ∧ blk (T b) = false := by
  obtain ⟨ns, is, hr⟩ := rdc_some h (by omega)
  obtain ⟨h1, h2, h3⟩ := rdv_P hr
  have hd := dg_lt h2
  have ho : opn T n b = 0 := by unfold opn; rw [if_neg (by omega), if_neg (by omega)]
  have hrun : run prs T n (n - b) b = e - b := by
    refine run_uniq (by omega) (fun j hj => ⟨by omega, h3 _ (by omega) (by omega)⟩) (fun hlt hx => ?_)
    rw [show b + (e - b) = e by omega] at hx
    rcases hend with h4 | h4
    · omega
    · rw [h4] at hx; exact fNt hx.2
  refine ⟨h1, ?_, prs_blk (dg_prs h2)⟩
  have hs : sml (T b) = false := by
    unfold sml
    rw [decide_eq_false (by omega)]
    rfl
  unfold tk tkP
  rw [hs, if_neg fNt, if_neg (by omega), if_neg (by omega), if_neg (by omega), if_neg (by omega), if_neg (by omega), ho, Nat.add_zero, hrun, show b + (e - b) = e by omega, h, if_neg (by omega), if_pos ⟨rfl, rfl⟩]
def nbk (c : Nat) : Bool := !blk c
/-- the class's five places -/
def oB1 (T : Nat → Nat) (n : Nat) : Nat := 0 + run blk T n (n - 0) 0
def oE1 (T : Nat → Nat) (n : Nat) : Nat := oB1 T n + run nbk T n (n - oB1 T n) (oB1 T n)
def oB2 (T : Nat → Nat) (n : Nat) : Nat := oE1 T n + run blk T n (n - oE1 T n) (oE1 T n)
def oE2 (T : Nat → Nat) (n : Nat) : Nat := oB2 T n + run nbk T n (n - oB2 T n) (oB2 T n)
def oB3 (T : Nat → Nat) (n : Nat) : Nat := oE2 T n + run blk T n (n - oE2 T n) (oE2 T n)
theorem run_stop {f : Nat → Bool} {T : Nat → Nat} {n p : Nat} (hp : p ≤ n) : p + run f T n (n - p) p ≤ n ∧ (p + run f T n (n - p) p = n ∨ f (T (p + run f T n (n - p) p)) = false) := by
  have h1 := run_in (f := f) (T := T) (e := n) (n - p) p hp
  refine ⟨h1, ?_⟩
  by_cases h2 : p + run f T n (n - p) p = n
  · exact Or.inl h2
  · right
    cases hx : f (T (p + run f T n (n - p) p)) with
    | false => rfl
    | true => exact absurd ⟨by omega, hx⟩ (run_end (n - p) p (by omega))
theorem run_is {f : Nat → Bool} {T : Nat → Nat} {n p q : Nat} (hpq : p ≤ q) (hq : q ≤ n) (h1 : ∀ j, p ≤ j → j < q → f (T j) = true) (h2 : q = n ∨ f (T q) = false) : p + run f T n (n - p) p = q := by
  have : run f T n (n - p) p = q - p := by
    refine run_uniq (by omega) (fun j hj => ⟨by omega, h1 _ (by omega) (by omega)⟩) (fun hlt hx => ?_)
    rw [show p + (q - p) = q by omega] at hx
    rcases h2 with h | h
    · omega
    · rw [h] at hx; exact fNt hx.2
  omega
theorem nbk_prs {T : Nat → Nat} {n e : Nat} (h : e = n ∨ nbk (T e) = false) : e = n ∨ prs (T e) = false := by
  rcases h with h | h
  · exact Or.inl h
  · right
    cases hp : prs (T e) with
    | false => rfl
    | true =>
      unfold nbk at h
      rw [prs_blk hp] at h
      cases h
theorem order_toks {T : Nat → Nat} {n : Nat} : (oB3 T n = n ∧ rdc T (oB1 T n) (oE1 T n) = 2 ∧ rdc T (oB2 T n) (oE2 T n) = 2) ↔ ∃ x y, tl T n 0 = [x, y] ∧ x = (8, (oB1 T n, oE1 T n)) ∧ y = (8, (oB2 T n, oE2 T n)) := by
  have s1 := run_stop (f := blk) (T := T) (n := n) (p := 0) (Nat.zero_le _)
  have s2 := run_stop (f := nbk) (T := T) (n := n) (p := oB1 T n) s1.1
  have s3 := run_stop (f := blk) (T := T) (n := n) (p := oE1 T n) s2.1
  have s4 := run_stop (f := nbk) (T := T) (n := n) (p := oB2 T n) s3.1
  constructor
  · rintro ⟨h1, h2, h3⟩
    obtain ⟨g1, g2, g3⟩ := tk_ver h2 s2.1 (nbk_prs s2.2)
    obtain ⟨k1, k2, k3⟩ := tk_ver h3 s4.1 (nbk_prs s4.2)
    have e1 : tl T n 0 = tl T n (oB1 T n) := tl_run (n - 0) 0
    have e2 : tl T n (oE1 T n) = tl T n (oB2 T n) := tl_run (n - oE1 T n) (oE1 T n)
    have e3 : tl T n (oE2 T n) = tl T n (oB3 T n) := tl_run (n - oE2 T n) (oE2 T n)
    have b1 : oE1 T n ≤ n := s2.1
    have b2 : oE2 T n ≤ n := s4.1
    refine ⟨_, _, ?_, rfl, rfl⟩
    rw [e1, tl_tok (by omega) (by rw [g3]; exact fNt), g2, e2, tl_tok (by omega) (by rw [k3]; exact fNt), k2, e3, h1, tl_end (Nat.le_refl _)]
  · rintro ⟨x, y, h1, hx, hy⟩
    obtain ⟨a1, a2, a3, a4, a5, a6, a7⟩ := tl_first (n - 0) 0 (Nat.le_refl _) h1
    obtain ⟨c1, c2, c3, c4, c5, c6, c7⟩ := tl_first (n - x.2.2) x.2.2 (Nat.le_refl _) a7.symm
    have hxm : x ∈ tl T n 0 := by rw [h1]; exact List.mem_cons_self
    have hym : y ∈ tl T n 0 := by rw [h1]; exact List.mem_cons_of_mem _ List.mem_cons_self
    have hb := tl_none (n - y.2.2) y.2.2 (Nat.le_refl _) c7.symm
    have vx := (tl_tokR hxm (by rw [hx]; rfl)).2.2.2.2.2.2
    have vy := (tl_tokR hym (by rw [hy]; rfl)).2.2.2.2.2.2
    have ver : ∀ z : Tok, z.1 = 8 → (T z.2.1 = 42 ∨ ∃ f ns is, rdv T (z.2.1 + opn T n z.2.1) z.2.2 = some (f, (ns, is)) ∧ (z.1 = 8 ↔ f = 2 ∧ opn T n z.2.1 = 0)) → z.1 = (tk T n z.2.1).1 → z.2.1 < n → blk (T z.2.1) = false → rdc T z.2.1 z.2.2 = 2 := by
      intro z hz hv hk hzn hzb
      rcases hv with h | ⟨f, ns, is, h, h8⟩
      · exfalso
        have : tk T n z.2.1 = (7, z.2.1 + 1) := by
          unfold tk
          have hs : sml (T z.2.1) = false := by rw [h]; decide
          rw [hs, if_neg fNt, if_neg (by omega), if_neg (by omega), if_neg (by omega), if_neg (by omega), if_pos h]
        rw [this] at hk
        have hk : z.1 = 7 := hk
        omega
      · obtain ⟨hf, ho⟩ := h8.mp hz
        rw [ho, Nat.add_zero] at h
        unfold rdc
        rw [h, hf]
    have r1 := ver x (by rw [hx]) vx a5 a2 a4
    have r2 := ver y (by rw [hy]) vy c5 c2 c4
    have e1 : x.2.1 = oB1 T n := by rw [hx]
    have e2 : x.2.2 = oE1 T n := by rw [hx]
    have e3 : y.2.1 = oB2 T n := by rw [hy]
    have e4 : y.2.2 = oE2 T n := by rw [hy]
    refine ⟨?_, by rw [← e1, ← e2]; exact r1, by rw [← e3, ← e4]; exact r2⟩
    unfold oB3
    exact run_is s4.1 (Nat.le_refl _) (fun j a b => hb j (by rw [e4]; exact a) b) (Or.inl rfl)
/-- of two versions as all tokens: they stand where the class looks -/
theorem order_two {T : Nat → Nat} {n : Nat} {x y : Tok} (h1 : tl T n 0 = [x, y]) (hx : x.1 = 8) (hy : y.1 = 8) : x = (8, (oB1 T n, oE1 T n)) ∧ y = (8, (oB2 T n, oE2 T n)) := by
  obtain ⟨a1, a2, a3, a4, a5, a6, a7⟩ := tl_first (n - 0) 0 (Nat.le_refl _) h1
  obtain ⟨c1, c2, c3, c4, c5, c6, c7⟩ := tl_first (n - x.2.2) x.2.2 (Nat.le_refl _) a7.symm
  have hb := tl_none (n - y.2.2) y.2.2 (Nat.le_refl _) c7.symm
  have gx := tk_gt (T := T) a2
  have gy := tk_gt (T := T) c2
  rw [← a6] at gx
  rw [← c6] at gy
  have px := tk_part a2 (by rw [← a5, hx]; rfl)
  have py := tk_part c2 (by rw [← c5, hy]; rfl)
  have sh : ∀ z : Tok, z.1 = 8 → z.1 = (tk T n z.2.1).1 → z.2.2 = (tk T n z.2.1).2 → z.2.1 < n → (T z.2.1 = 42 ∨ (T z.2.1 ≠ 42 ∧ (tk T n z.2.1).2 = z.2.1 + opn T n z.2.1 + run prs T n (n - (z.2.1 + opn T n z.2.1)) (z.2.1 + opn T n z.2.1) ∧ ∃ f ns is, rdv T (z.2.1 + opn T n z.2.1) (tk T n z.2.1).2 = some (f, (ns, is)) ∧ ((tk T n z.2.1).1 = 8 ↔ f = 2 ∧ opn T n z.2.1 = 0))) → sml (T z.2.1) = false → aP T z.2.1 z.2.2 ∧ (z.2.2 = n ∨ prs (T z.2.2) = false) := by
    intro z hz h1 h2 hzn hv hs
    rcases hv with h | ⟨h42, he, f, ns, is, h, h8⟩
    · exfalso
      have : tk T n z.2.1 = (7, z.2.1 + 1) := by
        unfold tk
        rw [hs, if_neg fNt, if_neg (by omega), if_neg (by omega), if_neg (by omega), if_neg (by omega), if_pos h]
      rw [this] at h1
      have h1 : z.1 = 7 := h1
      omega
    · obtain ⟨hf, ho⟩ := h8.mp (h1 ▸ hz)
      rw [ho, Nat.add_zero] at he h
      rw [← h2] at he h
      obtain ⟨_, _, p3⟩ := rdv_P h
      refine ⟨p3, ?_⟩
      have := (run_stop (f := prs) (T := T) (n := n) (p := z.2.1) (by omega)).2
      rw [← he] at this
      exact this
  have sx := sh x hx a5 a6 a2 px.2.2.2.2.2 px.1
  have sy := sh y hy c5 c6 c2 py.2.2.2.2.2 py.1
  have q1 : oB1 T n = x.2.1 := run_is (Nat.zero_le _) (by omega) (fun j a b => a3 j a b) (Or.inr a4)
  have hlt : x.2.2 < y.2.1 := by
    rcases Nat.lt_or_ge x.2.2 y.2.1 with h | h
    · exact h
    · exfalso
      have he : x.2.2 = y.2.1 := by omega
      have := sy.1 y.2.1 (Nat.le_refl _) gy.1
      rcases sx.2 with h2 | h2
      · omega
      · rw [he, this] at h2; cases h2
  have q2 : oE1 T n = x.2.2 := by
    unfold oE1
    rw [q1]
    refine run_is (by omega) gx.2 (fun j a b => ?_) (Or.inr ?_)
    · unfold nbk; rw [prs_blk (sx.1 j a b)]; rfl
    · unfold nbk; rw [c3 x.2.2 (Nat.le_refl _) hlt]; rfl
  have q3 : oB2 T n = y.2.1 := by
    unfold oB2
    rw [q2]
    exact run_is (by omega) (by omega) (fun j a b => c3 j a b) (Or.inr c4)
  have q4 : oE2 T n = y.2.2 := by
    unfold oE2
    rw [q3]
    refine run_is (by omega) gy.2 (fun j a b => ?_) ?_
    · unfold nbk; rw [prs_blk (sy.1 j a b)]; rfl
    · rcases Nat.lt_or_ge y.2.2 n with h | h
      · right; unfold nbk; rw [hb y.2.2 (Nat.le_refl _) h]; rfl
      · left; omega
  refine ⟨Prod.ext hx (Prod.ext q1.symm q2.symm), Prod.ext hy (Prod.ext q3.symm q4.symm)⟩
