/-! The reference: range as a whole. -/
theorem fault_spec {m : Mi} {T : Nat → Nat} {n c : Nat} {l : List Tok} (hC : CurM m T n l) : ∃ m', f_X12_fault TT m 870 (nI c) = some (0, m') ∧ gi m' 870 19 = nI c ∧ gi m' 870 20 = nI (pl0 n l) ∧ CurM m' T n l ∧ FrM (fun x j => x = 870 ∧ (j = 19 ∨ j = 20)) m m' := by
  have h15 := hC.p15
  have f : FrM (fun x j => x = 870 ∧ (j = 19 ∨ j = 20)) m (si (si m 870 19 (nI c)) 870 20 (nI (pl0 n l))) := (FrM.si (P := fun x j => x = 870 ∧ (j = 19 ∨ j = 20)) ⟨rfl, Or.inl rfl⟩).tr (FrM.si (P := fun x j => x = 870 ∧ (j = 19 ∨ j = 20)) ⟨rfl, Or.inr rfl⟩)
  refine ⟨_, ?_, ?_, gi_si _ _ _ _, hC.keep (fun j a b => (f.1 _ _ (by omega)).1), f⟩
  · unfold f_X12_fault
    rw [lt_eq, lt_eq]
    simp only [mS]
    rw [if_neg (by omega), h15]
  · simp only [mS]
    simp
theorem F2.R {m m' : Mi} (h : FrM (fun x j => x = 870 ∧ (j = 19 ∨ j = 20)) m m') : FrM PR m m' := h.mono (fun x j e => by unfold PR; omega)
/-- what a range read leaves behind, z the check's answer -/
def RgE (T : Nat → Nat) (n : Nat) (l : List Tok) (z : Nat × Nat) (R : List Row) (m' : Mi) : Prop := CurM m' T n (l.drop z.2) ∧ (z.1 = 0 → MG m' 268 (rgo (tP T n) (l.take z.2) LE EN R) ∧ GB (rgo (tP T n) (l.take z.2) LE EN R)) ∧ (z.1 ≠ 0 → gi m' 870 19 = nI z.1 ∧ gi m' 870 20 = nI (pl0 n (l.drop z.2)))
theorem router {n : Nat} {T : Nat → Nat} : ∀ (d : Nat) (l : List Tok) (q a N : Nat) (m : Mi) (R : List Row), l.length ≤ d → l = tl T n q → MT m n T → CurM m T n l → MG m 268 R → GB R → R.length ≤ 2 * a → a ≤ 16 → d + 1 < N →
    ∃ m', (lp (fun x : Int32 × Int32 × Mi => f_X12_range_l11 TT x.2.2 870 (nI 268) x.1 x.2.1) N (nI a, 1, m)).bind (Sum.elim (fun y : Mi => f_X12_range_j147 TT y) (Sum.elim (fun y : Mi => f_X12_range_j23 TT y 870) (Sum.elim (fun y : Mi => f_X12_range_j35 TT y 870) (fun y : Mi => f_X12_range_j70 TT y 870)))) = some (bI (decide ((chk l (a + 1) 0).1 = 0)), m') ∧ FrM PR m m' ∧ RgE T n l (chk l (a + 1) 0) R m' := by
  intro d
  induction d with
  | zero =>
    intro l q a N m R hd hq hM hC hG hR hl ha hN
    obtain ⟨N, rfl⟩ : ∃ z, N = z + 1 := ⟨N - 1, by omega⟩
    have hl0 : l = [] := List.length_eq_zero_iff.mp (by omega)
    subst hl0
    rw [lp_exit (y := .inr (.inl m))]
    · obtain ⟨m', e1, g1, g2, g3, f1⟩ := fault_spec (c := 1) hC
      refine ⟨m', ?_, F2.R f1, g3, fun hx => absurd hx (by show ¬ (1 = 0); decide), fun _ => ⟨g1, g2⟩⟩
      show f_X12_range_j23 TT m 870 = _
      unfold f_X12_range_j23
      rw [show f_X12_fault TT m 870 1 = _ from e1, bd_some]
      rfl
    · show f_X12_range_l11 TT m 870 (nI 268) (nI a) 1 = _
      unfold f_X12_range_l11
      rw [if_neg (by decide), hC.1, if_neg (by decide)]
  | succ d ih =>
    intro l q a N m R hd hq hM hC hG hR hl ha hN
    obtain ⟨N, rfl⟩ : ∃ z, N = z + 1 := ⟨N - 1, by omega⟩
    cases l with
    | nil =>
      rw [lp_exit (y := .inr (.inl m))]
      · obtain ⟨m', e1, g1, g2, g3, f1⟩ := fault_spec (c := 1) hC
        refine ⟨m', ?_, F2.R f1, g3, fun hx => absurd hx (by show ¬ (1 = 0); decide), fun _ => ⟨g1, g2⟩⟩
        show f_X12_range_j23 TT m 870 = _
        unfold f_X12_range_j23
        rw [show f_X12_fault TT m 870 1 = _ from e1, bd_some]
        rfl
      · show f_X12_range_l11 TT m 870 (nI 268) (nI a) 1 = _
        unfold f_X12_range_l11
        rw [if_neg (by decide), hC.1, if_neg (by decide)]
    | cons x r =>
      have hn := hM.2.2.1
      have hxm : x ∈ tl T n q := by rw [← hq]; exact List.mem_cons_self
      obtain ⟨hk0, hk⟩ := tl_kind hxm
      have hms := mk_small x.1 hk
      simp only [List.length_cons] at hd
      by_cases hP : isP x.1 = true
      · have h14 : gi m 870 14 = 2 := by rw [hC.1, hms.2.1.mpr hP]; rfl
        by_cases ha16 : a = 16
        · have hz : chk (x :: r) (a + 1) 0 = (2, 0) := by rw [chk, if_pos hP, if_pos (Or.inr (by omega))]
          rw [hz, lp_exit (y := .inr (.inr (.inl m)))]
          · obtain ⟨m', e1, g1, g2, g3, f1⟩ := fault_spec (c := 2) hC
            refine ⟨m', ?_, F2.R f1, g3, fun hx => absurd hx (by show ¬ (2 = 0); decide), fun _ => ⟨g1, g2⟩⟩
            show f_X12_range_j35 TT m 870 = _
            unfold f_X12_range_j35
            rw [show f_X12_fault TT m 870 2 = _ from e1, bd_some]
            rfl
          · show f_X12_range_l11 TT m 870 (nI 268) (nI a) 1 = _
            unfold f_X12_range_l11
            rw [if_neg (by decide), h14, if_pos rfl, if_pos (show nI a = 16 by rw [ha16]; rfl)]
        · have ha15 : a + 1 ≤ 16 := by omega
          have hNd : d + 1 < N := by omega
          have hl30 : R.length ≤ 30 := by omega
          have hN1 : ∃ z, N = z + 1 := ⟨N - 1, by omega⟩
          have hrd : r.length ≤ d := by omega
          have hFU : (x :: r).length < FUEL := by
            have := tl_len (T := T) (n := n) (n - q) q (Nat.le_refl _)
            rw [← hq] at this
            unfold FUEL
            omega
          obtain ⟨m1, e1, a1, b1, g1, f1⟩ := full_spec (r := 266) hM.1 (by omega)
          have f1' : FrM PR m m1 := f1.mono (fun x j e => by unfold PR; omega)
          have hM1 := hM.keepF f1'
          have hC1 : CurM m1 T n (x :: r) := hC.keep (fun j a b => (f1.1 _ _ (by omega)).1)
          have hG1 : MG m1 268 R := hG.keepF f1 (by omega) (fun j a b => by omega)
          have h266 : MG m1 266 (iv LE EN) := by
            have ea : ∀ z, z < 9 → gl m1 875 (288 * 266 + 9 * 0 + z) = mLE z := fun z hz => a1 z hz
            have eb : ∀ z, z < 9 → gl m1 875 (288 * 266 + 9 * 1 + z) = mEN z := fun z hz => b1 z hz
            have hiv : iv LE EN = [LE, EN] := by unfold iv; rw [if_pos (by decide)]
            rw [hiv]
            refine ⟨1, rfl, by omega, g1, fun b hb2 => ?_, ?_⟩
            · have : b = 0 ∨ b = 1 := by omega
              rcases this with rfl | rfl
              · obtain ⟨g, hg1, hg2⟩ := mLE_tr.1
                exact ⟨g, fun k hk => ⟨(ea k hk).trans (hg1 k hk).1, (hg1 k hk).2⟩, hg2⟩
              · obtain ⟨g, hg1, hg2⟩ := mEN_tr.1
                exact ⟨g, fun k hk => ⟨(eb k hk).trans (hg1 k hk).1, (hg1 k hk).2⟩, hg2⟩
            · show [trM (fun z => gl m1 875 (288 * 266 + 9 * 0 + z)), trM (fun z => gl m1 875 (288 * 266 + 9 * 1 + z))] = _
              rw [trM_congr ea, trM_congr eb, mLE_tr.2, mEN_tr.2]
          have hbody : f_X12_range_l11 TT m 870 (nI 268) (nI a) 1 = f_X12_range_j55 TT m1 870 (nI 268) (nI (a + 1)) 0 := by
            unfold f_X12_range_l11
            rw [if_neg (by decide), h14, if_pos rfl, if_neg (show ¬ nI a = 16 from fun x => ha16 ((nI_eq (b := 16) (by omega) (by omega)).mp x)), lt_eq, nI_1, show f_X12_full TT m 870 266 = _ from e1, Option.bind_some]
          unfold f_X12_range_j55 at hbody
          rcases rinner (a1 := nI 268) (a2 := nI (a + 1)) (x :: r) q 0 FUEL m1 LE EN hq hM1 hC1 h266 BR_LE BR_EN (by omega) hFU with ⟨j, m2, lo2, hi2, z1, z2, z3, z4, z5, z6, z7, z8, z9, z10, z11, z12⟩ | ⟨j, m2, z1, z2, z3, z4⟩
          · have hchk := z11 (a + 1) ha15
            have hM2 := hM1.keepF z6
            have hG2 : MG m2 268 R := by rw [z7]; exact hG1
            obtain ⟨m3, e3, k3, g3, _⟩ := mcombined_spec (how := 1) (ra := 268) (rb := 266) (to := 268) (by omega) (by omega) (by omega) (by omega) hM2.1 hG2 z3 hR (iv_GB z4 z5)
            obtain ⟨gj1, gj2⟩ := jo1_GB hR hl30 z4 z5
            have g3 := g3 gj1.2.2.1
            have f3 := (f1'.tr z6).tr (k3.F (by omega))
            have hM3 := hM2.keepF (k3.F (by omega))
            have hC3 : CurM m3 T n ((x :: r).drop j) := z2.keep (fun j a b => k3.2.1 _ _ (by omega) (by omega))
            have hj0 : j ≠ 0 := by
              intro h0
              have := z10 x r (by rw [h0]; rfl)
              rw [hP] at this
              cases this
            rw [show (0 : Int32) = nI 0 from rfl, z1, Option.bind_some] at hbody
            have hbody : f_X12_range_l11 TT m 870 (nI 268) (nI a) 1 = f_X12_range_j111 TT m2 870 (nI 268) (nI (a + 1)) := hbody
            unfold f_X12_range_j111 f_X12_range_j135 at hbody
            rw [show f_X12_combined TT m2 870 1 (nI 268) 266 (nI 268) = _ from e3, bd_some] at hbody
            have htake := z12 0 R
            rw [List.take_zero, Nat.zero_add] at htake
            cases hdr : (x :: r).drop j with
            | nil =>
              rw [hdr] at hchk hC3
              have hz : chk (x :: r) (a + 1) 0 = (0, j) := by
                rw [hchk, chk, if_neg (by omega), Nat.zero_add]
              rw [hC3.1, if_neg (by decide), if_pos rfl] at hbody
              rw [hz, lp_step hbody]
              obtain ⟨N, rfl⟩ := hN1
              rw [lp_exit (y := .inl m3)]
              · refine ⟨m3, rfl, f3, by rw [hdr]; exact hC3, fun _ => ?_, fun hx => absurd rfl hx⟩
                show MG m3 268 (rgo (tP T n) ((x :: r).take j) LE EN R) ∧ GB (rgo (tP T n) ((x :: r).take j) LE EN R)
                rw [htake]
                exact ⟨g3, gj1⟩
              · show f_X12_range_l11 TT m3 870 (nI 268) (nI (a + 1)) 0 = _
                unfold f_X12_range_l11
                rw [if_pos rfl]
            | cons y r2 =>
              rw [hdr] at hchk hC3
              have hym : y ∈ tl T n q := by rw [← hq]; exact List.mem_of_mem_drop (by rw [hdr]; exact List.mem_cons_self)
              obtain ⟨hy0, hyk⟩ := tl_kind hym
              have hys := mk_small y.1 hyk
              have hyP := z10 y r2 hdr
              by_cases hy9 : y.1 = 9
              · have hlen : r2.length ≤ d := by
                  have := congrArg List.length hdr
                  rw [List.length_drop] at this
                  simp only [List.length_cons] at this
                  omega
                have hC3' := hC3
                obtain ⟨q16, qr⟩ := hC3.2.2.1 (by rw [hy9]; decide)
                have hyl := (tl_mem (n - q) q (Nat.le_refl _) y hym)
                have hye : y.2.2 ≤ n := by rw [hyl.2.2.2.1]; exact (tk_gt hyl.2.1).2
                obtain ⟨m4, e4, k4, c4⟩ := token_spec hM3 q16 hye
                rw [← qr] at c4
                have hG4 : MG m4 268 (jo 1 R (iv lo2 hi2)) := g3.keepF (P := fun x j => x = 870 ∨ x = 873) ⟨fun x j e => ⟨k4.1 x j (fun z => e (Or.inl z.1)), k4.2.1 x j (fun z => e (Or.inr z)) (fun z => e (Or.inl z.1))⟩, k4.2.2⟩ (by decide) (fun j a b => by decide)
                rw [hC3.1, hy9, if_pos (show nI (mk 9) = 3 from rfl), if_neg (by decide), e4, Option.bind_some] at hbody
                have hzz : chk (y :: r2) (a + 1) (0 + j) = ((chk r2 (a + 2) 0).1, (chk r2 (a + 2) 0).2 + 1) := by
                  rw [chk, hyP, if_neg fNt, if_pos ⟨hy9, by omega⟩]
                rw [hzz] at hchk
                have hchk : chk (x :: r) (a + 1) 0 = ((chk r2 (a + 2) 0).1, (chk r2 (a + 2) 0).2 + 1 + j) := hchk
                obtain ⟨m', e5, f5, g5⟩ := ih r2 y.2.2 (a + 1) N m4 (jo 1 R (iv lo2 hi2)) hlen qr (hM3.keepK k4) c4 hG4 gj1 (by rw [Nat.mul_add]; exact Nat.le_trans gj2 (Nat.add_le_add_right hl 2)) ha15 hNd
                rw [lp_step hbody, e5, hchk]
                have hd2 : (x :: r).drop ((chk r2 (a + 2) 0).2 + 1 + j) = r2.drop (chk r2 (a + 2) 0).2 := by
                  rw [Nat.add_comm _ j, ← List.drop_drop, hdr]
                  rfl
                refine ⟨m', rfl, (f3.tr k4.F).tr f5, ?_, fun hx => ?_, fun hx => ?_⟩
                · show CurM m' T n ((x :: r).drop ((chk r2 (a + 2) 0).2 + 1 + j))
                  rw [hd2]
                  exact g5.1
                · show MG m' 268 (rgo (tP T n) ((x :: r).take ((chk r2 (a + 2) 0).2 + 1 + j)) LE EN R) ∧ GB (rgo (tP T n) ((x :: r).take ((chk r2 (a + 2) 0).2 + 1 + j)) LE EN R)
                  rw [z12, hdr, List.take_succ_cons, rgo, if_pos hy9]
                  exact g5.2.1 hx
                · show gi m' 870 19 = nI (chk r2 (a + 2) 0).1 ∧ gi m' 870 20 = nI (pl0 n ((x :: r).drop ((chk r2 (a + 2) 0).2 + 1 + j)))
                  rw [hd2]
                  exact g5.2.2 hx
              · have hz : chk (x :: r) (a + 1) 0 = (0, j) := by
                  rw [hchk, chk, hyP, if_neg fNt, if_neg (fun e => hy9 e.1), if_neg (by omega), Nat.zero_add]
                rw [hC3.1, if_neg (show ¬ nI (mk y.1) = 3 from fun e => hy9 (hys.2.2.1.mp ((nI_eq (b := 3) (by omega) (by omega)).mp e))), if_pos rfl] at hbody
                rw [hz, lp_step hbody]
                obtain ⟨N, rfl⟩ := hN1
                rw [lp_exit (y := .inl m3)]
                · refine ⟨m3, rfl, f3, by rw [hdr]; exact hC3, fun _ => ?_, fun hx => absurd rfl hx⟩
                  show MG m3 268 (rgo (tP T n) ((x :: r).take j) LE EN R) ∧ GB (rgo (tP T n) ((x :: r).take j) LE EN R)
                  rw [htake]
                  exact ⟨g3, gj1⟩
                · show f_X12_range_l11 TT m3 870 (nI 268) (nI (a + 1)) 0 = _
                  unfold f_X12_range_l11
                  rw [if_pos rfl]
          · have hz := z4 (a + 1) ha15
            rw [show (0 : Int32) = nI 0 from rfl, z1, Option.bind_some] at hbody
            rw [hz, lp_exit (y := .inr (.inr (.inr m2))) hbody]
            obtain ⟨m', e5, g5, g6, g7, f5⟩ := fault_spec (c := 2) z2
            refine ⟨m', ?_, (f1'.tr z3).tr (F2.R f5), g7, fun hx => absurd hx (by show ¬ (2 = 0); decide), fun _ => ⟨g5, g6⟩⟩
            show f_X12_range_j70 TT m2 870 = _
            unfold f_X12_range_j70
            rw [show f_X12_fault TT m2 870 2 = _ from e5, bd_some]
            rfl
      · have hP : isP x.1 = false := by simpa using hP
        have hz : chk (x :: r) (a + 1) 0 = (1, 0) := by rw [chk, hP, if_neg fNt, if_neg (by omega), if_pos rfl]
        rw [hz, lp_exit (y := .inr (.inl m))]
        · obtain ⟨m', e1, g1, g2, g3, f1⟩ := fault_spec (c := 1) hC
          refine ⟨m', ?_, F2.R f1, g3, fun hx => absurd hx (by show ¬ (1 = 0); decide), fun _ => ⟨g1, g2⟩⟩
          show f_X12_range_j23 TT m 870 = _
          unfold f_X12_range_j23
          rw [show f_X12_fault TT m 870 1 = _ from e1, bd_some]
          rfl
        · show f_X12_range_l11 TT m 870 (nI 268) (nI a) 1 = _
          unfold f_X12_range_l11
          rw [if_neg (by decide), hC.1, if_neg (show ¬ nI (mk x.1) = 2 from fun e => by
            have := (nI_eq (b := 2) (by omega) (by omega)).mp e
            rw [hms.2.1, hP] at this
            cases this)]
theorem mrange_spec {m : Mi} {n q : Nat} {T : Nat → Nat} {l : List Tok} (hq : l = tl T n q) (hM : MT m n T) (hC : CurM m T n l) : ∃ m', f_X12_range TT m 870 (nI 268) = some (bI (decide ((chk l 1 0).1 = 0)), m') ∧ FrM PR m m' ∧ RgE T n l (chk l 1 0) [] m' := by
  have hn := hM.2.2.1
  have hll : l.length ≤ 2000 := by
    have := tl_len (T := T) (n := n) (n - q) q (Nat.le_refl _)
    rw [← hq] at this
    omega
  have f0 : FrM PR m (si m 874 268 0) := FrM.si (by unfold PR; omega)
  have hG : MG (si m 874 268 0) 268 [] := ⟨0, rfl, by omega, gi_si _ _ _ _, fun b hb => by omega, rfl⟩
  have hC0 : CurM (si m 874 268 0) T n l := hC.keep (fun j a b => by simp only [mS]; rw [if_neg (by omega)])
  obtain ⟨m', e1, f1, g1⟩ := router l.length l q 0 FUEL _ [] (Nat.le_refl _) hq (hM.keepF f0) hC0 hG GB_nil (by simp) (by omega) (by unfold FUEL; omega)
  refine ⟨m', ?_, f0.tr f1, g1⟩
  unfold f_X12_range f_X12_range_j11
  rw [hM.1 7 (by omega), show RM 7 = 874 from rfl, if_pos (ar_of s_874 (by omega) (by omega)), lt_eq, ix_nI (by omega)]
  exact e1
