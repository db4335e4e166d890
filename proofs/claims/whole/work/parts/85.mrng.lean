/-! The reference reads a range of tokens. -/
def PR (x j : Nat) : Prop := (x = 870 ∧ (j = 5 ∨ j = 6 ∨ j = 10 ∨ (14 ≤ j ∧ j ≤ 20))) ∨ x = 873 ∨ x = 876 ∨ x = 878 ∨ x = 879 ∨ (x = 874 ∧ 266 ≤ j) ∨ (x = 875 ∧ 76608 ≤ j)
theorem PP.R {m m' : Mi} (h : FrM PP m m') : FrM PR m m' := h.mono (fun x j e => by unfold PP at e; unfold PR; omega)
theorem KK.F {m m' : Mi} (h : KK m m') : FrM PR m m' := ⟨fun x j e => ⟨h.1 x j (fun z => e (by unfold PR; omega)), h.2.1 x j (fun z => e (by unfold PR; omega)) (fun z => e (by unfold PR; omega))⟩, h.2.2⟩
theorem KpC.F {to : Nat} {m m' : Mi} (h : KpC to m m') (ht : 266 ≤ to) : FrM PR m m' := ⟨fun x j e => ⟨h.2.1 x j (fun z => e (by unfold PR; omega)) (fun z => e (by unfold PR; omega)), h.1 x j (fun z => e (by unfold PR; omega)) (fun z => e (by unfold PR; omega)) (fun z => e (by unfold PR; omega)) (fun z => e (by unfold PR; omega))⟩, h.2.2⟩
theorem MT.keepF {m m' : Mi} {n : Nat} {T : Nat → Nat} (h : MT m n T) (k : FrM PR m m') : MT m' n T := ⟨h.1.keepF k, (k.1 _ _ (by unfold PR; omega)).1.trans h.2.1, h.2.2.1, fun j hj => ⟨(k.1 _ _ (by unfold PR; omega)).1.trans (h.2.2.2 j hj).1, (h.2.2.2 j hj).2⟩⟩
theorem MG.keepF {P : Nat → Nat → Prop} {m m' : Mi} {r : Nat} {B : List Row} (h : MG m r B) (k : FrM P m m') (h1 : ¬ P 874 r) (h2 : ∀ j, 288 * r ≤ j → j < 288 * r + 288 → ¬ P 875 j) : MG m' r B := by
  obtain ⟨n, g1, g2, g3, g4, g5⟩ := h
  have hz : ∀ b z, b < 2 * n → z < 9 → gl m' 875 (288 * r + 9 * b + z) = gl m 875 (288 * r + 9 * b + z) := fun b z hb hz => (k.1 _ _ (h2 _ (by omega) (by omega))).2
  refine ⟨n, g1, g2, (k.1 _ _ h1).1.trans g3, fun b hb => ?_, ?_⟩
  · obtain ⟨g, e1, e2⟩ := g4 b hb
    exact ⟨g, fun q hq => ⟨(hz b q hb hq).trans (e1 q hq).1, (e1 q hq).2⟩, e2⟩
  · rw [← g5]
    unfold bM
    apply List.map_congr_left
    intro b hb
    exact trM_congr (fun z hz2 => hz b z (List.mem_range.mp hb) hz2)
theorem CurM.p15 {m : Mi} {T : Nat → Nat} {n : Nat} {l : List Tok} (h : CurM m T n l) : gi m 870 15 = nI (pl0 n l) := by
  cases l with
  | nil => exact h.2.1
  | cons x r => exact h.2.1
theorem CurM.keep {m m' : Mi} {T : Nat → Nat} {n : Nat} {l : List Tok} (h : CurM m T n l) (k : ∀ j, 14 ≤ j → j ≤ 18 → gi m' 870 j = gi m 870 j) : CurM m' T n l := by
  cases l with
  | nil => exact ⟨(k _ (by omega) (by omega)).trans h.1, (k _ (by omega) (by omega)).trans h.2.1, (k _ (by omega) (by omega)).trans h.2.2⟩
  | cons x r => exact ⟨(k _ (by omega) (by omega)).trans h.1, (k _ (by omega) (by omega)).trans h.2.1, fun hx => ⟨(k _ (by omega) (by omega)).trans (h.2.2.1 hx).1, (h.2.2.1 hx).2⟩, fun hx => ⟨(k _ (by omega) (by omega)).trans (h.2.2.2 hx).1, (k _ (by omega) (by omega)).trans (h.2.2.2 hx).2⟩⟩
theorem mk_small : ∀ k, k < 13 → mk k < 13 ∧ (mk k = 2 ↔ isP k = true) ∧ (mk k = 3 ↔ k = 9) ∧ (mk k = 0 ↔ k = 0) := by decide
theorem tk_kind {T : Nat → Nat} {n b : Nat} : 0 < (tk T n b).1 ∧ (tk T n b).1 < 13 := by
  have hk : ∀ l, 0 < knd T b l := by
    intro l
    unfold knd
    split
    · omega
    · split
      · omega
      · split
        · omega
        · split <;> omega
  unfold tk
  split
  · split
    · have := knd_lt T b (run nms T n (n - b) b)
      exact ⟨hk _, by show knd T b _ < 13; omega⟩
    · exact ⟨by show 0 < 1; decide, by show 1 < 13; decide⟩
  · split
    · split
      · exact ⟨by show 0 < 9; decide, by show 9 < 13; decide⟩
      · exact ⟨by show 0 < 1; decide, by show 1 < 13; decide⟩
    · split
      · exact ⟨by show 0 < 12; decide, by show 12 < 13; decide⟩
      · split
        · exact ⟨by show 0 < 10; decide, by show 10 < 13; decide⟩
        · split
          · exact ⟨by show 0 < 11; decide, by show 11 < 13; decide⟩
          · split
            · exact ⟨by show 0 < 7; decide, by show 7 < 13; decide⟩
            · unfold tkP
              split
              · exact ⟨by show 0 < 1; decide, by show 1 < 13; decide⟩
              · split
                · exact ⟨by show 0 < 8; decide, by show 8 < 13; decide⟩
                · exact ⟨by show 0 < 7; decide, by show 7 < 13; decide⟩
theorem tl_kind {T : Nat → Nat} {n p : Nat} {x : Tok} (hx : x ∈ tl T n p) : 0 < x.1 ∧ x.1 < 13 := by
  obtain ⟨h1, h2, h3, h4, h5⟩ := tl_mem (n - p) p (Nat.le_refl _) x hx
  rw [h3]
  exact tk_kind
theorem tl_tail {T : Nat → Nat} {n p : Nat} {x : Tok} {r : List Tok} (h : tl T n p = x :: r) : r = tl T n x.2.2 := (tl_first (n - p) p (Nat.le_refl _) h).2.2.2.2.2.2
theorem rinner {n : Nat} {T : Nat → Nat} {a1 a2 : Int32} : ∀ (l : List Tok) (q p N : Nat) (m : Mi) (lo hi : Row), l = tl T n q → MT m n T → CurM m T n l → MG m 266 (iv lo hi) → BR lo → BR hi → p ≤ 6 → l.length < N →
    (∃ j m' lo2 hi2, lp (fun x : Int32 × Mi => f_X12_range_l55 TT x.2 870 a1 a2 x.1) N (nI p, m) = some (.inl m') ∧ CurM m' T n (l.drop j) ∧ MG m' 266 (iv lo2 hi2) ∧ BR lo2 ∧ BR hi2 ∧ FrM PR m m' ∧ MG m' 268 = MG m 268 ∧ j ≤ l.length ∧ p + j ≤ 6 ∧ (∀ x r, l.drop j = x :: r → isP x.1 = false) ∧ (∀ a, a ≤ 16 → chk l a p = ((chk (l.drop j) a (p + j)).1, (chk (l.drop j) a (p + j)).2 + j)) ∧ (∀ i R, rgo (tP T n) (l.take (i + j)) lo hi R = rgo (tP T n) ((l.drop j).take i) lo2 hi2 R)) ∨
    (∃ j m', lp (fun x : Int32 × Mi => f_X12_range_l55 TT x.2 870 a1 a2 x.1) N (nI p, m) = some (.inr m') ∧ CurM m' T n (l.drop j) ∧ FrM PR m m' ∧ ∀ a, a ≤ 16 → chk l a p = (2, j)) := by
  intro l
  induction l with
  | nil =>
    intro q p N m lo hi hq hM hC hG hlo hhi hp hN
    obtain ⟨N, rfl⟩ : ∃ z, N = z + 1 := ⟨N - 1, by omega⟩
    refine Or.inl ⟨0, m, lo, hi, lp_exit ?_, hC, hG, hlo, hhi, FrM.rf, rfl, Nat.le_refl _, hp, fun x r hx => (by cases hx), fun a _ => ?_, fun i R => rfl⟩
    · show f_X12_range_l55 TT m 870 a1 a2 (nI p) = _
      unfold f_X12_range_l55
      rw [hC.1, if_neg (by decide)]
    · rfl
  | cons x r ih =>
    intro q p N m lo hi hq hM hC hG hlo hhi hp hN
    simp only [List.length_cons] at hN
    obtain ⟨N, rfl⟩ : ∃ z, N = z + 1 := ⟨N - 1, by omega⟩
    have hn := hM.2.2.1
    have hxm : x ∈ tl T n q := by rw [← hq]; exact List.mem_cons_self
    obtain ⟨hk0, hk⟩ := tl_kind hxm
    have hms := mk_small x.1 hk
    by_cases hP : isP x.1 = true
    · have h14 : gi m 870 14 = 2 := by rw [hC.1, hms.2.1.mpr hP]; rfl
      by_cases hp6 : p = 6
      · refine Or.inr ⟨0, m, lp_exit ?_, hC, FrM.rf, fun a _ => ?_⟩
        · show f_X12_range_l55 TT m 870 a1 a2 (nI p) = _
          unfold f_X12_range_l55
          rw [h14, if_pos rfl, if_pos (show nI p = 6 by rw [hp6]; rfl)]
        · rw [chk, if_pos hP, if_pos (Or.inl (by omega))]
      · have hp5 : ¬ 6 < p + 1 := by omega
        have hp5' : p + 1 ≤ 6 := by omega
        have hNr : r.length < N := by omega
        obtain ⟨tR, tEq, tle, tn, tlt, _, tform⟩ := tl_tokR hxm hP
        have h1 : x.1 ≠ 1 := by rcases isP_or hP with h | h <;> omega
        obtain ⟨q16, qr⟩ := hC.2.2.1 h1
        obtain ⟨q17, q18⟩ := hC.2.2.2 (isP_or hP)
        obtain ⟨m1, e1, g1, f1⟩ := partRange_spec hM tn tle q16 q17 q18 (hM.lt _ (by omega)) (by rcases tform with h | ⟨f, ns, is, h, _⟩; exact Or.inl h; exact Or.inr ⟨f, ns, is, h⟩)
        have hbr : BR (tP T n x).1 ∧ BR (tP T n x).2 := by rw [tEq]; exact tokR_BR tR hP hn (fun j hj => hM.lt j hj)
        have hM1 := hM.keepF (PP.R f1)
        have hG1 : MG m1 266 (iv lo hi) := hG.keepF f1 (by unfold PP; omega) (fun j a b => by unfold PP; omega)
        obtain ⟨m2, e2, k2, g2, _⟩ := mcombined_spec (how := 0) (ra := 266) (rb := 267) (to := 266) (by omega) (by omega) (by omega) (by omega) hM1.1 hG1 g1 (iv_GB hlo hhi) (iv_GB hbr.1 hbr.2)
        have hjo : jo 0 (iv lo hi) (iv (prt T n x.2.1 x.2.2).1 (prt T n x.2.1 x.2.2).2) = iv (mxR lo (tP T n x).1) (mnR hi (tP T n x).2) := jo_iv hlo.1 hhi.1 hbr.1.1 hbr.2.1
        rw [hjo] at g2
        have g2 := g2 (by have := iv_len (mxR lo (tP T n x).1) (mnR hi (tP T n x).2); omega)
        have hM2 := hM1.keepF (k2.F (by omega))
        have q162 : gi m2 870 16 = nI x.2.2 := (k2.2.1 _ _ (by omega) (by omega)).trans (((f1.1 _ _ (by unfold PP; omega)).1).trans q16)
        obtain ⟨m3, e3, k3, c3⟩ := token_spec hM2 q162 tn
        rw [← qr] at c3
        have hM3 := hM2.keepK k3
        have hG3 : MG m3 266 (iv (mxR lo (tP T n x).1) (mnR hi (tP T n x).2)) := by
          refine g2.keepF (P := fun x j => x = 870 ∨ x = 873) ⟨fun x j e => ⟨k3.1 x j (by omega), k3.2.1 x j (by omega) (by omega)⟩, k3.2.2⟩ (by omega) (fun j a b => by omega)
        have h268 : MG m3 268 = MG m 268 := by
          funext B
          apply propext
          have kk : ∀ j, 288 * 268 ≤ j → j < 288 * 268 + 288 → gl m3 875 j = gl m 875 j := fun j a b => (k3.2.1 _ _ (by omega) (by omega)).trans ((k2.1 _ _ (by omega) (by omega) (by omega) (by omega)).trans (f1.1 _ _ (by unfold PP; omega)).2)
          have kg : gi m3 874 268 = gi m 874 268 := (k3.1 _ _ (by omega)).trans ((k2.2.1 _ _ (by omega) (by omega)).trans (f1.1 _ _ (by unfold PP; omega)).1)
          have e1 : ∀ b n, b < 2 * n → n ≤ 16 → (fun z => gl m3 875 (288 * 268 + 9 * b + z)) = (fun z => if z < 9 then gl m 875 (288 * 268 + 9 * b + z) else gl m3 875 (288 * 268 + 9 * b + z)) := by
            intro b n hb hn2
            funext z
            by_cases hz : z < 9
            · rw [if_pos hz]; exact kk _ (by omega) (by omega)
            · rw [if_neg hz]
          constructor
          · rintro ⟨n2, a1, a2, a3, a4, a5⟩
            refine ⟨n2, a1, a2, kg.symm.trans a3, fun b hb => ?_, ?_⟩
            · obtain ⟨g, z1, z2⟩ := a4 b hb
              exact ⟨g, fun q hq => ⟨(kk _ (by omega) (by omega)).symm.trans (z1 q hq).1, (z1 q hq).2⟩, z2⟩
            · rw [← a5]
              unfold bM
              apply List.map_congr_left
              intro b hb
              have hb := List.mem_range.mp hb
              exact trM_congr (fun z hz => (kk _ (by omega) (by omega)).symm)
          · rintro ⟨n2, a1, a2, a3, a4, a5⟩
            refine ⟨n2, a1, a2, kg.trans a3, fun b hb => ?_, ?_⟩
            · obtain ⟨g, z1, z2⟩ := a4 b hb
              exact ⟨g, fun q hq => ⟨(kk _ (by omega) (by omega)).trans (z1 q hq).1, (z1 q hq).2⟩, z2⟩
            · rw [← a5]
              unfold bM
              apply List.map_congr_left
              intro b hb
              have hb := List.mem_range.mp hb
              exact trM_congr (fun z hz => kk _ (by omega) (by omega))
        have fm : FrM PR m m3 := ((PP.R f1).tr (k2.F (by omega))).tr k3.F
        have hbody : f_X12_range_l55 TT m 870 a1 a2 (nI p) = some (.inl (nI (p + 1), m3)) := by
          unfold f_X12_range_l55
          rw [h14, if_pos rfl, if_neg (show ¬ nI p = 6 from fun x => hp6 ((nI_eq (b := 6) (by omega) (by omega)).mp x)), lt_eq, nI_1, show f_X12_partRange TT m 870 267 = _ from e1, Option.bind_some, show f_X12_combined TT m1 870 0 266 267 266 = _ from e2, bd_some, e3, Option.bind_some]
        have hstep : lp (fun x : Int32 × Mi => f_X12_range_l55 TT x.2 870 a1 a2 x.1) (N + 1) (nI p, m) = lp (fun x : Int32 × Mi => f_X12_range_l55 TT x.2 870 a1 a2 x.1) N (nI (p + 1), m3) := lp_step hbody
        have h9 : x.1 ≠ 9 := isP_9 hP
        rw [hstep]
        rcases ih x.2.2 (p + 1) N m3 _ _ qr hM3 c3 hG3 (mxBR hlo hbr.1) (mnBR hhi hbr.2) hp5' hNr with ⟨j, m', lo2, hi2, z1, z2, z3, z4, z5, z6, z7, z8, z9, z10, z11, z12⟩ | ⟨j, m', z1, z2, z3, z4⟩
        · refine Or.inl ⟨j + 1, m', lo2, hi2, z1, z2, z3, z4, z5, fm.tr z6, z7.trans h268, Nat.succ_le_succ z8, by rw [Nat.add_comm j 1, ← Nat.add_assoc]; exact z9, z10, fun a ha => ?_, fun i R => ?_⟩
          · show chk (x :: r) a p = ((chk (r.drop j) a (p + (j + 1))).1, (chk (r.drop j) a (p + (j + 1))).2 + (j + 1))
            rw [chk, if_pos hP, if_neg (fun e => e.elim hp5 (Nat.not_lt.mpr ha)), z11 a ha, Nat.add_right_comm p 1 j]
            rfl
          · show rgo (tP T n) ((x :: r).take (i + j + 1)) lo hi R = _
            rw [List.take_succ_cons, rgo, if_neg h9, z12 i R]
            rfl
        · refine Or.inr ⟨j + 1, m', z1, z2, fm.tr z3, fun a ha => ?_⟩
          rw [chk, if_pos hP, if_neg (fun e => e.elim hp5 (Nat.not_lt.mpr ha)), z4 a ha]
    · have hP : isP x.1 = false := by simpa using hP
      refine Or.inl ⟨0, m, lo, hi, lp_exit ?_, hC, hG, hlo, hhi, FrM.rf, rfl, Nat.zero_le _, hp, fun y r' hx => ?_, fun a _ => rfl, fun i R => rfl⟩
      · show f_X12_range_l55 TT m 870 a1 a2 (nI p) = _
        unfold f_X12_range_l55
        rw [hC.1, if_neg (show ¬ nI (mk x.1) = 2 from fun e => by
          have := (nI_eq (b := 2) (by omega) (by omega)).mp e
          rw [hms.2.1, hP] at this
          cases this)]
      · have : x = y := (List.cons.inj hx).1
        rw [← this]
        exact hP
