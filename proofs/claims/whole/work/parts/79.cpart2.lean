/-! The class: takePart of the range reader. -/
def WR (m : Mi) : Prop := gr m 48 0 = 49 ∧ gr m 48 1 = 51 ∧ gr m 48 2 = 52 ∧ gr m 48 3 = 53 ∧ gr m 48 4 = 54 ∧ gr m 48 5 = 55 ∧ gr m 48 6 = 57 ∧ gr m 49 0 = 50
theorem WR.keep {m m' : Mi} {P : Nat → Prop} (h : WR m) (k : Fr P m m') : WR m' := by
  obtain ⟨h1, h2, h3, h4, h5, h6, h7, h8⟩ := h
  have n : ∀ x j, ¬ NR x j → gr m' x j = gr m x j := k.2
  exact ⟨(n _ _ (by unfold NR; omega)).trans h1, (n _ _ (by unfold NR; omega)).trans h2, (n _ _ (by unfold NR; omega)).trans h3, (n _ _ (by unfold NR; omega)).trans h4, (n _ _ (by unfold NR; omega)).trans h5, (n _ _ (by unfold NR; omega)).trans h6, (n _ _ (by unfold NR; omega)).trans h7, (n _ _ (by unfold NR; omega)).trans h8⟩
theorem WR.keepL {m m' : Mi} {a : Nat} (h : WR m) (k : KL a m m') : WR m' := h.keep (P := fun x => x = a) (k.toF rfl)
theorem KV.toF {m m' : Mi} {v r : Nat} {P : Nat → Prop} (h : KV v r m m') (hv : P v) (hr : P r) (hn : NR v 2) : Fr P m m' := ⟨fun x j e => ⟨h.1 x j (fun z => e (z ▸ hv)), h.2.1 x j (fun z => e (z ▸ hr))⟩, fun x j e => h.2.2 x j (fun z => e (by rw [z.1, z.2]; exact hn))⟩
/-- a version read, its row at 50, its numbers' count told -/
def VD (m : Mi) (ns is : List Nat) : Prop := WR m ∧ gi m 49 1 = nI ns.length ∧ rowIs m 50 (cR ns is)
theorem VD.keep {m m' : Mi} {ns is : List Nat} {a : Nat} (h : VD m ns is) (k : KL a m m') (ha : a ≠ 50) : VD m' ns is := ⟨h.1.keepL k, (k.1 _ _).trans h.2.1, h.2.2.keep k (fun e => ha e.symm)⟩
theorem raisePast_spec {m : Mi} {a f : Nat} {ns is : List Nat} (ha : sh TT a = some (.inr (.long, 8))) (hD : VD m ns is) (h : rowIs m a (cR ns is)) (hv : VW f ns is) : ∃ m', f_X5_raisePast TT m 48 a (bI (decide (f = 2))) = some m' ∧ rowIs m' a (if f = 2 then cR (nxt ns is).1 (nxt ns is).2 else cR (rsN ns (ns.length - 1)) [0]) ∧ KL a m m' := by
  unfold f_X5_raisePast
  have hl := hv.1
  by_cases hf : f = 2
  · rw [decide_eq_true hf, if_neg bTr, if_pos hf]
    obtain ⟨m', e1, h1, k1⟩ := next_row ha h hv
    rw [e1, bd_some]
    exact ⟨m', rfl, h1, k1⟩
  · rw [decide_eq_false hf, if_pos bF, if_neg hf, hD.1.1, ob_of s_49, if_pos rfl]
    unfold f_X10_told
    rw [Option.bind_some, hD.2.1, show (1 : Int32) = nI 1 from rfl, pk_sub (by omega)]
    obtain ⟨m', e1, h1, k1⟩ := raise_row (k := ns.length - 1) ha h (by omega)
    rw [e1, Option.bind_some]
    exact ⟨m', rfl, h1, k1⟩
theorem fuel4 : ∃ F, FUEL = F + 1 + 1 + 1 + 1 := ⟨2 ^ 64 - 4, by unfold FUEL; omega⟩
theorem fnz_spec {m : Mi} {f : Nat} {ns is : List Nat} (hD : VD m ns is) (hv : VW f ns is) : f_X5_firstThatIsNotZero TT m 48 = some (nI (fnz ns)) := by
  obtain ⟨hl1, hl2, hl3⟩ := hv.1
  have hn : ∀ j, ns.getD j 0 < 1000000000 := getD_P hl3 (by omega)
  have body : ∀ k, k ≤ 3 → f_X5_firstThatIsNotZero_l2 TT m 48 (nI k) = if ns.length ≤ k then some (.inr (.inl ())) else if ns.getD k 0 = 0 then some (.inl (nI (k + 1))) else some (.inr (.inr (nI k))) := by
    intro k hk
    unfold f_X5_firstThatIsNotZero_l2 f_X10_told
    rw [hD.1.1, ob_of s_49, if_pos rfl, Option.bind_some, hD.2.1, hD.1.2.2.2.2.2.2.2]
    by_cases h1 : ns.length ≤ k
    · rw [if_pos (nI_le h1 (by omega)), if_pos h1]
    · rw [if_neg (nI_ge (by omega) (by omega)), if_neg h1, if_neg (show ¬ (3 : Int32) ≤ nI k from nI_ge (b := 3) (by omega) (by omega)), if_pos (ar_of s_50 (by omega) (by omega)), ix_nI (by omega), hD.2.2 k (by omega), show cR ns is k = lN (ns.getD k 0) by unfold cR; rw [if_pos (by omega)], lt_eq, nI_1]
      have := hn k
      by_cases h2 : ns.getD k 0 = 0
      · rw [if_pos h2, if_pos ((lg_cmp_eq _ _).mpr (by rw [h2]; rfl))]
      · rw [if_neg h2, if_neg (fun e => h2 (by
          have := (lg_cmp_eq _ _).mp e
          rw [l0L.1, pk_lEQ (by omega) (by omega)] at this
          exact this))]
  have j40 : f_X5_firstThatIsNotZero_j40 TT m 48 = some (nI (ns.length - 1)) := by
    unfold f_X5_firstThatIsNotZero_j40 f_X10_told
    rw [hD.1.1, ob_of s_49, if_pos rfl, Option.bind_some, hD.2.1, show (1 : Int32) = nI 1 from rfl, pk_sub (by omega)]
  unfold f_X5_firstThatIsNotZero f_X5_firstThatIsNotZero_j2
  obtain ⟨F, hF⟩ := fuel4
  rw [hF, show (0 : Int32) = nI 0 from rfl]
  have b0 := body 0 (by omega)
  have b1 := body 1 (by omega)
  have b2 := body 2 (by omega)
  have b3 := body 3 (by omega)
  rw [if_neg (by omega)] at b0
  by_cases c0 : ns.getD 0 0 = 0
  · rw [if_pos c0] at b0
    rw [lp_step b0]
    by_cases l1 : ns.length ≤ 1
    · rw [if_pos l1] at b1
      rw [lp_exit b1]
      show f_X5_firstThatIsNotZero_j40 TT m 48 = _
      rw [j40, show fnz ns = 0 by unfold fnz; rw [if_pos (Or.inr (by omega))], show ns.length - 1 = 0 by omega]
    · rw [if_neg l1] at b1
      by_cases c1 : ns.getD 1 0 = 0
      · rw [if_pos c1] at b1
        rw [lp_step b1]
        by_cases l2 : ns.length ≤ 2
        · rw [if_pos l2] at b2
          rw [lp_exit b2]
          show f_X5_firstThatIsNotZero_j40 TT m 48 = _
          rw [j40, show fnz ns = 1 by unfold fnz; rw [if_neg (by omega), if_pos (Or.inr (by omega))], show ns.length - 1 = 1 by omega]
        · rw [if_neg l2] at b2
          have hz : fnz ns = 2 := by unfold fnz; rw [if_neg (by omega), if_neg (by omega)]
          by_cases c2 : ns.getD 2 0 = 0
          · rw [if_pos c2] at b2
            rw [if_pos (by omega)] at b3
            rw [lp_step b2, lp_exit b3]
            show f_X5_firstThatIsNotZero_j40 TT m 48 = _
            rw [j40, hz, show ns.length - 1 = 2 by omega]
          · rw [if_neg c2] at b2
            rw [lp_exit b2, hz]
            rfl
      · rw [if_neg c1] at b1
        rw [lp_exit b1, show fnz ns = 1 by unfold fnz; rw [if_neg (by omega), if_pos (Or.inl c1)]]
        rfl
  · rw [if_neg c0] at b0
    rw [lp_exit b0, show fnz ns = 0 by unfold fnz; rw [if_pos (Or.inl c0)]]
    rfl
theorem KL.F4 {a : Nat} {m m' : Mi} (h : KL a m m') (ha : 49 ≤ a ∧ a ≤ 52) : Fr (fun x => 49 ≤ x ∧ x ≤ 52) m m' := h.toF ha
theorem takePartC {m : Mi} {c b e : Nat} {T : Nat → Nat} (hW : WR m) (hc0 : c ≠ 0) (hc : c < 48 ∨ 58 < c) (hs : sh TT c = some (.inr (.byte, 2000))) (he : e ≤ 2000) (hb : b < e) (hT : Tx m c e T) (hp : T b = 42 ∨ ∃ f ns is, rdv T (b + opn T e b) e = some (f, (ns, is))) :
    ∃ m', f_X5_takePart TT m 48 c (nI b) (nI e) = some m' ∧ rowL m' 51 0 = (prt T e b e).1 ∧ rowL m' 52 0 = (prt T e b e).2 ∧ Fr (fun x => 49 ≤ x ∧ x ≤ 52) m m' := by
  obtain ⟨m1, e1, r1, k1⟩ := least_row (m := m) s_51
  obtain ⟨m2, e2, r2, k2⟩ := end_row (m := m1) s_52
  have hW1 := hW.keepL k1
  have hW2 := hW1.keepL k2
  have f2 : Fr (fun x => 49 ≤ x ∧ x ≤ 52) m m2 := (k1.F4 (by omega)).tr (k2.F4 (by omega))
  have r1' : rowL m2 51 0 = LE := by rw [← r1]; exact rowF_congr (fun q _ => k2.2.1 _ _ (by omega))
  have hT2 : Tx m2 c e T := fun j hj => ⟨(f2.1 _ _ (by omega)).1.trans (hT j hj).1, (hT j hj).2⟩
  have h0 := hT2 b hb
  unfold f_X5_takePart
  rw [hW.2.1, e1, Option.bind_some, hW1.2.2.1, e2, Option.bind_some, if_neg (nI_pos (by omega)), aa_of hs, if_pos rfl, ln_of hs, ofNat_nI, if_neg (nI_nlt (by omega) (by omega)), if_neg (nI_ge hb (by omega)), if_pos (ar_of hs (by omega) (by omega)), ix_nI (by omega), h0.1]
  by_cases h42 : T b = 42
  · rw [if_pos (show bT (T b) = 42 from (bT_eq (d := 42) h0.2 (by omega)).mpr h42)]
    refine ⟨m2, rfl, ?_, ?_, f2⟩
    · unfold prt; rw [if_pos h42]; exact r1'
    · unfold prt; rw [if_pos h42]; exact r2
  · rw [if_neg (show ¬ bT (T b) = 42 from fun x => h42 ((bT_eq (d := 42) h0.2 (by omega)).mp x)), lt_eq]
    obtain ⟨f, ns, is, hr⟩ := hp.resolve_left h42
    have hon := opn_in (T := T) hb
    have hv : VW f ns is := rdv_VW (fun j hj => (hT j hj).2) he (Nat.le_refl _) hon hr
    have hprt : prt T e b e = (plo (opv T e b) f ns is, phi (opv T e b) f ns is) := by
      unfold prt
      rw [if_neg h42, hr]
    rw [hprt]
    -- the version, read
    obtain ⟨m3, e3, k3, w3⟩ := take_spec (m := m2) (v := 49) (r := 50) (c := c) (L := 2000) (a := b + opn T e b) (e := e) (T := T) s_49 s_50 hW2.2.2.2.2.2.2.2 hc0 hs (by omega) he hon hT2
    obtain ⟨t3, row3⟩ := w3 f ns is hr
    have f3 : Fr (fun x => 49 ≤ x ∧ x ≤ 52) m m3 := f2.tr (k3.toF (by omega) (by omega) (by unfold NR; omega))
    have hW3 : WR m3 := hW.keep f3
    have hD : VD m3 ns is := ⟨hW3, t3, row3⟩
    have hrc : rdc T (b + opn T e b) e = f := by unfold rdc; rw [hr]
    have low3 : rowL m3 51 0 = LE := by rw [← r1']; exact rowF_congr (fun q _ => k3.2.1 _ _ (by omega))
    have high3 : rowL m3 52 0 = EN := by rw [← r2]; exact rowF_congr (fun q _ => k3.2.1 _ _ (by omega))
    -- what is made of it
    have main : ∃ m', f_X5_takePart_j92 TT m3 48 (bT (T b)) (nI (opn T e b)) (bI (decide (f = 2))) = some m' ∧ rowL m' 51 0 = plo (opv T e b) f ns is ∧ rowL m' 52 0 = phi (opv T e b) f ns is ∧ Fr (fun x => 49 ≤ x ∧ x ≤ 52) m m' := by
      unfold f_X5_takePart_j92
      by_cases a62 : T b = 62
      · rw [if_pos (show bT (T b) = 62 from (bT_eq (d := 62) h0.2 (by omega)).mpr a62)]
        have ho : opn T e b = 2 ∨ opn T e b = 1 := by
          unfold opn
          rw [if_pos (Or.inr a62)]
          split
          · exact Or.inl rfl
          · exact Or.inr rfl
        have hsa : ∀ s : Int32, (s = 1 ∧ opv T e b = 318) ∨ (s = 0 ∧ opv T e b = 62) → ∃ m', f_X5_takePart_j115 TT m3 s (bI (decide (f = 2))) 48 = some m' ∧ rowL m' 51 0 = plo (opv T e b) f ns is ∧ rowL m' 52 0 = phi (opv T e b) f ns is ∧ Fr (fun x => 49 ≤ x ∧ x ≤ 52) m m' := by
          intro s hs
          have hphi : phi (opv T e b) f ns is = EN := by unfold phi; rw [if_pos (by omega)]
          unfold f_X5_takePart_j115 f_X5_startAbove
          obtain ⟨m4, e4, r4, k4⟩ := copy_row (b := 51) s_50 s_51 hD.2.2
          rw [ob_of s_48, if_pos rfl, hW3.1, ob_of s_49, if_pos rfl, hW3.2.2.2.2.2.2.2, hW3.2.1, e4, Option.bind_some]
          have hW4 := hW3.keepL k4
          have hD4 := hD.keep k4 (by omega)
          have high4 : rowL m4 52 0 = EN := by rw [← high3]; exact rowF_congr (fun q _ => k4.2.1 _ _ (by omega))
          rcases hs with ⟨rfl, ho⟩ | ⟨rfl, ho⟩
          · rw [if_neg (by decide), Option.bind_some]
            refine ⟨m4, rfl, ?_, by rw [hphi]; exact high4, f3.tr (k4.F4 (by omega))⟩
            rw [r4.L]
            unfold plo
            rw [if_neg (by omega), if_neg (by omega)]
            rfl
          · rw [if_pos rfl, hW4.2.1]
            obtain ⟨m5, e5, r5, k5⟩ := raisePast_spec (a := 51) s_51 hD4 r4 hv
            have hW5 := hW4.keepL k5
            have high5 : rowL m5 52 0 = EN := by rw [← high4]; exact rowF_congr (fun q _ => k5.2.1 _ _ (by omega))
            rw [e5, Option.bind_some]
            by_cases hf : f = 2
            · rw [decide_eq_true hf, if_neg bTr, Option.bind_some]
              refine ⟨m5, rfl, ?_, by rw [hphi]; exact high5, (f3.tr (k4.F4 (by omega))).tr (k5.F4 (by omega))⟩
              rw [if_pos hf] at r5
              rw [r5.L]
              unfold plo
              rw [if_neg (by omega), if_pos ho, if_pos hf]
              rfl
            · rw [decide_eq_false hf, if_pos bF, hW5.2.1]
              rw [if_neg hf] at r5
              obtain ⟨m6, e6, r6, k6⟩ := setId_row (v := 9223372036854775807) s_51 r5
              rw [e6, Option.bind_some, Option.bind_some]
              refine ⟨m6, rfl, ?_, ?_, ((f3.tr (k4.F4 (by omega))).tr (k5.F4 (by omega))).tr (k6.F4 (by omega))⟩
              · rw [r6.L, cR_nil]
                unfold plo
                rw [if_neg (by omega), if_pos ho, if_neg hf]
                rfl
              · rw [hphi, ← high5]
                exact rowF_congr (fun q _ => k6.2.1 _ _ (by omega))
        rcases ho with ho | ho
        · rw [if_pos (show nI (opn T e b) = 2 by rw [ho]; rfl)]
          exact hsa 1 (Or.inl ⟨rfl, by unfold opv; rw [if_neg h42, ho, if_neg (by omega), if_neg (by omega), a62]⟩)
        · rw [if_neg (show ¬ nI (opn T e b) = 2 by rw [ho]; decide)]
          exact hsa 0 (Or.inr ⟨rfl, by unfold opv; rw [if_neg h42, ho, if_neg (by omega), if_pos rfl, a62]⟩)
      · rw [if_neg (show ¬ bT (T b) = 62 from fun x => a62 ((bT_eq (d := 62) h0.2 (by omega)).mp x))]
        by_cases a60 : T b = 60
        · rw [if_pos (show bT (T b) = 60 from (bT_eq (d := 60) h0.2 (by omega)).mpr a60)]
          have ho : opn T e b = 2 ∨ opn T e b = 1 := by
            unfold opn
            rw [if_pos (Or.inl a60)]
            split
            · exact Or.inl rfl
            · exact Or.inr rfl
          have hsa : ∀ s : Int32, (s = 1 ∧ opv T e b = 316) ∨ (s = 0 ∧ opv T e b = 60) → ∃ m', f_X5_takePart_j142 TT m3 s (bI (decide (f = 2))) 48 = some m' ∧ rowL m' 51 0 = plo (opv T e b) f ns is ∧ rowL m' 52 0 = phi (opv T e b) f ns is ∧ Fr (fun x => 49 ≤ x ∧ x ≤ 52) m m' := by
            intro s hs
            have hplo : plo (opv T e b) f ns is = LE := by unfold plo; rw [if_pos (by omega)]
            unfold f_X5_takePart_j142 f_X5_endBelow
            obtain ⟨m4, e4, r4, k4⟩ := copy_row (b := 52) s_50 s_52 hD.2.2
            rw [ob_of s_48, if_pos rfl, hW3.1, ob_of s_49, if_pos rfl, hW3.2.2.2.2.2.2.2, hW3.2.2.1, e4, Option.bind_some]
            have hW4 := hW3.keepL k4
            have hD4 := hD.keep k4 (by omega)
            have low4 : rowL m4 51 0 = LE := by rw [← low3]; exact rowF_congr (fun q _ => k4.2.1 _ _ (by omega))
            rcases hs with ⟨rfl, ho⟩ | ⟨rfl, ho⟩
            · rw [if_neg (by decide), hW4.2.2.1]
              obtain ⟨m5, e5, r5, k5⟩ := raisePast_spec (a := 52) s_52 hD4 r4 hv
              rw [e5, Option.bind_some, Option.bind_some]
              refine ⟨m5, rfl, ?_, ?_, (f3.tr (k4.F4 (by omega))).tr (k5.F4 (by omega))⟩
              · rw [hplo, ← low4]
                exact rowF_congr (fun q _ => k5.2.1 _ _ (by omega))
              · have hph : phi (opv T e b) f ns is = if f = 2 then rW (nxt ns is).1 (nxt ns is).2 else rW (rsN ns (ns.length - 1)) [0] := by
                  unfold phi
                  rw [if_neg (by omega), if_neg (by omega), if_neg (by omega), if_neg (by omega)]
                rw [r5.L, hph]
                by_cases hf : f = 2
                · rw [if_pos hf, if_pos hf]; rfl
                · rw [if_neg hf, if_neg hf]; rfl
            · rw [if_pos rfl]
              by_cases hf : f = 2
              · rw [decide_eq_true hf, if_neg bTr, Option.bind_some]
                refine ⟨m4, rfl, by rw [hplo]; exact low4, ?_, f3.tr (k4.F4 (by omega))⟩
                rw [r4.L]
                unfold phi
                rw [if_neg (by omega), if_pos ho, if_pos hf]
                rfl
              · rw [decide_eq_false hf, if_pos bF, hW4.2.2.1]
                obtain ⟨m6, e6, r6, k6⟩ := setId_row (v := 1) s_52 r4
                rw [e6, Option.bind_some, Option.bind_some]
                refine ⟨m6, rfl, ?_, ?_, (f3.tr (k4.F4 (by omega))).tr (k6.F4 (by omega))⟩
                · rw [hplo, ← low4]
                  exact rowF_congr (fun q _ => k6.2.1 _ _ (by omega))
                · rw [r6.L, cR_zero]
                  unfold phi
                  rw [if_neg (by omega), if_pos ho, if_neg hf]
                  rfl
          rcases ho with ho | ho
          · rw [if_pos (show nI (opn T e b) = 2 by rw [ho]; rfl)]
            exact hsa 1 (Or.inl ⟨rfl, by unfold opv; rw [if_neg h42, ho, if_neg (by omega), if_neg (by omega), a60]⟩)
          · rw [if_neg (show ¬ nI (opn T e b) = 2 by rw [ho]; decide)]
            exact hsa 0 (Or.inr ⟨rfl, by unfold opv; rw [if_neg h42, ho, if_neg (by omega), if_pos rfl, a60]⟩)
        · rw [if_neg (show ¬ bT (T b) = 60 from fun x => a60 ((bT_eq (d := 60) h0.2 (by omega)).mp x))]
          obtain ⟨m4, e4, r4, k4⟩ := copy_row (b := 51) s_50 s_51 hD.2.2
          have hW4 := hW3.keepL k4
          have hD4 := hD.keep k4 (by omega)
          obtain ⟨m5, e5, r5, k5⟩ := copy_row (b := 52) s_50 s_52 hD4.2.2
          have hW5 := hW4.keepL k5
          have hD5 := hD4.keep k5 (by omega)
          have r45 : rowIs m5 51 (cR ns is) := r4.keep k5 (by omega)
          rw [hW3.1, ob_of s_49, if_pos rfl, hW3.2.2.2.2.2.2.2, hW3.2.1, e4, Option.bind_some, hW4.1, ob_of s_49, if_pos rfl, hW4.2.2.2.2.2.2.2, hW4.2.2.1, e5, Option.bind_some]
          have hval : opv T e b = if T b = 61 ∨ T b = 94 ∨ T b = 126 then T b else 0 := by
            have ho : opn T e b = if T b = 61 ∨ T b = 94 ∨ T b = 126 then 1 else 0 := by
              unfold opn
              rw [if_neg (show ¬ (T b = 60 ∨ T b = 62) by omega)]
            unfold opv
            rw [if_neg h42, ho]
            by_cases z : T b = 61 ∨ T b = 94 ∨ T b = 126
            · rw [if_pos z, if_neg (by omega), if_pos rfl, if_pos z]
            · rw [if_neg z, if_pos rfl, if_neg z]
          have hov : opv T e b = 0 ∨ opv T e b = 61 ∨ opv T e b = 94 ∨ opv T e b = 126 := by
            rw [hval]
            split <;> omega
          have hov2 : opv T e b = 94 ↔ T b = 94 := by
            rw [hval]
            split <;> omega
          have hov3 : opv T e b = 126 ↔ T b = 126 := by
            rw [hval]
            split <;> omega
          have hplo : plo (opv T e b) f ns is = rW ns is := by unfold plo; rw [if_neg (by omega), if_neg (by omega)]
          have fin : ∀ m6, KL 52 m5 m6 → rowL m6 52 0 = phi (opv T e b) f ns is → rowL m6 51 0 = plo (opv T e b) f ns is ∧ rowL m6 52 0 = phi (opv T e b) f ns is ∧ Fr (fun x => 49 ≤ x ∧ x ≤ 52) m m6 := by
            intro m6 k6 h6
            refine ⟨?_, h6, ((f3.tr (k4.F4 (by omega))).tr (k5.F4 (by omega))).tr (k6.F4 (by omega))⟩
            rw [hplo, (r45.keep k6 (by omega)).L]
            rfl
          unfold f_X5_raiseEnd f_X5_raiseEnd_j46
          by_cases a94 : T b = 94
          · rw [if_pos (show bT (T b) = 94 from (bT_eq (d := 94) h0.2 (by omega)).mpr a94), fnz_spec hD5 hv, Option.bind_some, hW5.2.2.1]
            obtain ⟨m6, e6, r6, k6⟩ := raise_row (k := fnz ns) s_52 r5 (fnz_lt ns)
            rw [e6, Option.bind_some, Option.bind_some]
            refine ⟨m6, rfl, fin m6 k6 ?_⟩
            rw [r6.L]
            unfold phi
            rw [if_neg (by omega), if_neg (by omega), if_pos (hov2.mpr a94)]
            rfl
          · rw [if_neg (show ¬ bT (T b) = 94 from fun x => a94 ((bT_eq (d := 94) h0.2 (by omega)).mp x))]
            by_cases a126 : T b = 126
            · rw [if_pos (show bT (T b) = 126 from (bT_eq (d := 126) h0.2 (by omega)).mpr a126), hW5.1, ob_of s_49, if_pos rfl]
              unfold f_X10_told
              rw [Option.bind_some, hD5.2.1, hW5.2.2.1]
              have hl := hv.1
              have hph : phi (opv T e b) f ns is = rW (rsN ns (if ns.length = 1 then 0 else 1)) [0] := by
                unfold phi
                rw [if_neg (by omega), if_neg (by omega), if_neg (by omega), if_pos (hov3.mpr a126)]
              rw [hph] at fin ⊢
              by_cases hl1 : ns.length = 1
              · rw [if_pos (show nI ns.length = 1 by rw [hl1]; rfl)]
                obtain ⟨m6, e6, r6, k6⟩ := raise_row (k := 0) s_52 r5 (by omega)
                rw [show f_X10_raise TT m5 52 0 = _ from e6, Option.bind_some, Option.bind_some]
                refine ⟨m6, rfl, fin m6 k6 ?_⟩
                rw [r6.L, if_pos hl1]
                rfl
              · rw [if_neg (show ¬ nI ns.length = 1 from fun x => hl1 ((nI_eq (b := 1) (by omega) (by omega)).mp x))]
                obtain ⟨m6, e6, r6, k6⟩ := raise_row (k := 1) s_52 r5 (by omega)
                rw [show f_X10_raise TT m5 52 1 = _ from e6, Option.bind_some, Option.bind_some]
                refine ⟨m6, rfl, fin m6 k6 ?_⟩
                rw [r6.L, if_neg hl1]
                rfl
            · rw [if_neg (show ¬ bT (T b) = 126 from fun x => a126 ((bT_eq (d := 126) h0.2 (by omega)).mp x)), hW5.2.2.1]
              obtain ⟨m6, e6, r6, k6⟩ := raisePast_spec (a := 52) s_52 hD5 r5 hv
              rw [e6, Option.bind_some, Option.bind_some]
              refine ⟨m6, rfl, fin m6 k6 ?_⟩
              have hph : phi (opv T e b) f ns is = if f = 2 then rW (nxt ns is).1 (nxt ns is).2 else rW (rsN ns (ns.length - 1)) [0] := by
                unfold phi
                rw [if_neg (by omega), if_neg (by omega), if_neg (fun x => a94 (hov2.mp x)), if_neg (fun x => a126 (hov3.mp x))]
              rw [r6.L, hph]
              by_cases hf : f = 2
              · rw [if_pos hf, if_pos hf]; rfl
              · rw [if_neg hf, if_neg hf]; rfl
    have tail : ∀ y : Int32, (y = 61 ↔ (b + 1 < e ∧ T (b + 1) = 61)) → ∃ m', f_X5_takePart_j59 TT m2 48 c (nI b) (nI e) (bT (T b)) y = some m' ∧ rowL m' 51 0 = plo (opv T e b) f ns is ∧ rowL m' 52 0 = phi (opv T e b) f ns is ∧ Fr (fun x => 49 ≤ x ∧ x ≤ 52) m m' := by
      intro y hy
      unfold f_X5_takePart_j59
      rw [opn_gen (T := T) (e := e) (p := b) (fun c hc => bT_eq h0.2 hc) hy, Option.bind_some, hW2.1, ob_of s_49, if_pos rfl, nI_add, e3, bd_some, hrc]
      have hf12 := hv.2.2
      by_cases hf : f = 2
      · rw [if_pos (show nI f = 2 by rw [hf]; rfl)]
        rw [decide_eq_true hf] at main
        exact main
      · rw [if_neg (show ¬ nI f = 2 from fun x => hf ((nI_eq (b := 2) (by omega) (by omega)).mp x))]
        rw [decide_eq_false hf] at main
        exact main
    rw [nI_1]
    by_cases hbe : e ≤ b + 1
    · rw [if_pos (nI_le hbe (by omega))]
      exact tail _ ⟨fun x => (by cases x), fun x => by omega⟩
    · rw [if_neg (nI_ge (by omega) (by omega)), if_pos (ar_of hs (by omega) (by omega)), ix_nI (by omega), (hT2 (b + 1) (by omega)).1]
      exact tail _ ⟨fun x => ⟨by omega, (bT_eq (d := 61) (hT2 (b + 1) (by omega)).2 (by omega)).mp x⟩, fun x => (bT_eq (d := 61) (hT2 (b + 1) (by omega)).2 (by omega)).mpr x.2⟩
