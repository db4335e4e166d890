/-! The class reads a registry: its loops. -/
theorem OuC.inl {q n : Nat} {m m' : Mi} {T : Nat → Nat} {L : List Tok} {e : Nat × List Tok} {v : Int32} (h : OuC q m m' T n L (.inl e) v) : v = 0 ∧ gi m' q 10 = nI e.1 ∧ At q m' L e.2 := h.2.2
theorem OuC.inr {q n : Nat} {m m' : Mi} {T : Nat → Nat} {L : List Tok} {w : List Tok × Rg} {v : Int32} (h : OuC q m m' T n L (.inr w) v) : v = 1 ∧ DC q m' T w.2 ∧ At q m' L w.1 := h.2.2
theorem chk1_le (l : List Tok) : (chk l 1 0).1 ≤ 2 := chk_small l 1 0
theorem takeCon_C {q n : Nat} {m : Mi} {T : Nat → Nat} {L l : List Tok} {G : Rg} (hq : QS q) (hX : CQ q m T n L) (hA : At q m L l) (hD : DC q m T G) (hB : BGd G) (hC : G.2.2.length < 250) (hk : kd0 l = 4 ∨ kd0 l = 5 ∨ kd0 l = 6) (hR : kd0 l ≠ 4 → G.2.1 ≠ []) :
    ∃ v m', f_X6_takeConstraint TT m q 42 48 = some (v, m') ∧ OuC q m m' T n L (pCon (kd0 l) l.tail G) v := by
  have hq1 := hq.1
  have hkd := hA.kd hX
  obtain ⟨i, hi, h9, hd⟩ := hA
  have hl0 : l ≠ [] := fun e => by rw [hkd.2.mpr e] at hk; omega
  have hA1 := At.next ⟨i, hi, h9, hd⟩ hl0
  have hX1 := hX.keep (Fr_q (q := q) (j := 9) (m := m) (v := gi m q 9 + 1)) hq
  have hD1 : DC q (si m q 9 (gi m q 9 + 1)) T G := hD.si9 hB hq (Or.inl rfl)
  obtain ⟨v, m4, e4, o4⟩ := expect_C (k := 2) hq (by omega) (by omega) hX1 hA1 hD1 hB
  unfold f_X6_takeConstraint pCon
  rw [lt_eq, lt_eq, show f_X6_expect TT (si m q 9 (gi m q 9 + 1)) q 42 2 = _ from e4, bd_some]
  by_cases h2 : kd0 l.tail = 2
  · rw [if_pos h2] at o4
    obtain ⟨hv, hD4, hA4⟩ := o4.inr
    have hX4 := o4.1
    have hL4 := hX4.2.2.2.1
    have hLl := hL4.2.1
    obtain ⟨i4, hi4, h94, hd4⟩ := hA4
    have hd4 : L.drop i4 = l.tail.tail := hd4
    have hil : i < L.length := by
      rcases Nat.lt_or_ge i L.length with h | h
      · exact h
      · exfalso; apply hl0; rw [← hd]; exact List.drop_eq_nil_of_le h
    have ht1 : L.drop (i + 1) = l.tail := (kd0_drop hd).symm
    have hil2 : i + 1 < L.length := by
      rcases Nat.lt_or_ge (i + 1) L.length with h | h
      · exact h
      · exfalso
        have : l.tail = [] := by rw [← ht1]; exact List.drop_eq_nil_of_le h
        rw [this] at h2
        cases h2
    have hd2 : L.drop (i + 2) = l.tail.tail := (kd0_drop ht1).symm
    -- where the check begins is two behind the word
    have hck : f_X5_check TT m4 48 42 (gi m4 q 9) = some (nI (chk l.tail.tail 1 0).1, si m4 48 7 (nI (i + 2 + (chk l.tail.tail 1 0).2))) ∧ i4 = i + 2 := by
      have hi4e : i4 = i + 2 := by
        have e1 := congrArg List.length hd4
        have e2 := congrArg List.length hd2
        rw [List.length_drop] at e1 e2
        rcases Nat.lt_or_ge (i + 2) L.length with h | h
        · omega
        · -- both at the end: the place is told by the step
          have : gi m4 q 9 = nI (i + 2) := by
            have he := e4
            unfold f_X6_expect at he
            rw [ob_of s_42, if_pos rfl, hA1.kind hX1, Option.bind_some, h2, if_pos rfl, lt_eq] at he
            have := congrArg (fun z => z.2) (Option.some.inj he)
            have : si (si m q 9 (gi m q 9 + 1)) q 9 (gi (si m q 9 (gi m q 9 + 1)) q 9 + 1) = m4 := this
            rw [← this, gi_si, gi_si, h9, nI_1, nI_1]
          rw [h94] at this
          exact (nI_eq (by omega) (by omega)).mp this
      refine ⟨?_, hi4e⟩
      have h100 : ∀ x ∈ L, x.1 < 100 := fun x hx => by rw [hX.2.2.2.2.2.2.2] at hx; have := (tl_kind hx).2; omega
      rw [h94, hi4e, check_spec h100 (by omega) hX4.2.1 hL4, hd2]
    obtain ⟨hck, hi4e⟩ := hck
    have hz := chk_le l.tail.tail 1 0
    have hzl : i + 2 + (chk l.tail.tail 1 0).2 ≤ L.length := by
      have := congrArg List.length hd2
      rw [List.length_drop] at this
      omega
    have hzs := chk1_le l.tail.tail
    rw [hv, if_neg (by decide), if_pos h2, ob_of s_48, if_pos rfl, hck, bd_some]
    unfold f_X5_stop
    rw [Option.bind_some, gi_si, lt_eq]
    -- the memory behind check and step
    have f8 : Fr (FQ q) m4 (si (si m4 48 7 (nI (i + 2 + (chk l.tail.tail 1 0).2))) q 9 (nI (i + 2 + (chk l.tail.tail 1 0).2))) := (Fr.si (by unfold FQ; omega)).tr (Fr.si (by unfold FQ; omega))
    have hX10 := hX4.keep f8 hq
    have hD10 : DC q (si (si m4 48 7 (nI (i + 2 + (chk l.tail.tail 1 0).2))) q 9 (nI (i + 2 + (chk l.tail.tail 1 0).2))) T G := by
      refine hD4.keep9 hB hq (fun x j a b => ⟨?_, rfl⟩)
      simp only [mS]
      rw [if_neg (by omega), if_neg (by omega)]
    have hA10 : At q (si (si m4 48 7 (nI (i + 2 + (chk l.tail.tail 1 0).2))) q 9 (nI (i + 2 + (chk l.tail.tail 1 0).2))) L (l.tail.tail.drop (chk l.tail.tail 1 0).2) := ⟨_, hzl, gi_si _ _ _ _, by rw [← hd2, List.drop_drop]⟩
    have g9 : gi (si (si m4 48 7 (nI (i + 2 + (chk l.tail.tail 1 0).2))) q 9 (nI (i + 2 + (chk l.tail.tail 1 0).2))) q 9 = nI (i + 2 + (chk l.tail.tail 1 0).2) := gi_si _ _ _ _
    generalize si (si m4 48 7 (nI (i + 2 + (chk l.tail.tail 1 0).2))) q 9 (nI (i + 2 + (chk l.tail.tail 1 0).2)) = m10 at *
    have fm : Fr (FQ q) m m10 := (Fr_q.tr o4.2.1).tr f8
    by_cases hc : (chk l.tail.tail 1 0).1 = 0
    · rw [if_pos hc, if_pos (show nI (chk l.tail.tail 1 0).1 = 0 by rw [hc]; rfl), g9, h9]
      obtain ⟨m12, e12, d12, f12, k12⟩ := addCon_C (w := i) (j := (chk l.tail.tail 1 0).2) hq hX10 hD10 hB hC hzl (chk_pos hc) (by rw [hd]; exact hk) (by rw [hd]; exact hR)
      rw [e12, Option.bind_some]
      rw [hd, ht1, hd2] at d12
      exact ⟨1, m12, rfl, hX10.keep f12 hq, fm.tr f12, rfl, d12, hA10.keep k12⟩
    · rw [if_neg hc, if_neg (show ¬ nI (chk l.tail.tail 1 0).1 = 0 from nI_ne0 (by omega) (by omega)), fail_C, bd_some]
      exact ⟨0, _, rfl, OuC.tr fm (fail_O hq hX10 hA10)⟩
  · rw [if_neg h2] at o4
    obtain ⟨hv, h10, hA4⟩ := o4.inl
    rw [hv, if_pos rfl, if_neg h2]
    exact ⟨0, m4, rfl, OuC.tr Fr_q (by rw [hv] at o4; exact o4)⟩
theorem takeLinks_lp {q n : Nat} {T : Nat → Nat} {L : List Tok} (hq : QS q) : ∀ (d k N : Nat) (m : Mi) (l : List Tok) (G : Rg), k + d = 4 → d + 1 < N → CQ q m T n L → At q m L l → DC q m T G → BGd G → GW T n G → IL G → G.2.1 ≠ [] → G.2.2.length + d < 250 →
    ∃ v m', (lp (fun x : Int32 × Mi => f_X6_takeLinks_l2 TT x.2 q 42 48 x.1) N (nI k, m)).bind (Sum.elim (fun y : Mi => f_X6_takeLinks_j49 TT y) (Sum.elim (fun y : Mi => f_X6_takeLinks_j26 TT y q) (fun y : Mi => f_X6_takeLinks_j41 TT y))) = some (v, m') ∧ OuC q m m' T n L (pLinks d l G) v := by
  have stop : ∀ (k N d : Nat) (m : Mi) (l : List Tok) (G : Rg), k ≤ 4 → 0 < N → CQ q m T n L → At q m L l → DC q m T G → ¬ (kd0 l = 5 ∨ kd0 l = 6) → ∃ v m', (lp (fun x : Int32 × Mi => f_X6_takeLinks_l2 TT x.2 q 42 48 x.1) N (nI k, m)).bind (Sum.elim (fun y : Mi => f_X6_takeLinks_j49 TT y) (Sum.elim (fun y : Mi => f_X6_takeLinks_j26 TT y q) (fun y : Mi => f_X6_takeLinks_j41 TT y))) = some (v, m') ∧ OuC q m m' T n L (.inr (l, G)) v := by
    intro k N d m l G hk hN hX hA hD hno
    obtain ⟨N, rfl⟩ : ∃ y, N = y + 1 := ⟨N - 1, by omega⟩
    have hkd := hA.kd hX
    rw [lp_exit (y := .inl m)]
    · exact ⟨1, m, rfl, hX, Fr.rf, rfl, hD, hA⟩
    · show f_X6_takeLinks_l2 TT m q 42 48 (nI k) = _
      unfold f_X6_takeLinks_l2
      rw [if_neg (show ¬ (4 : Int32) < nI k from nI_nlt (a := 4) (by omega) (by omega)), ob_of s_42, if_pos rfl, hA.kind hX, Option.bind_some, isLink_spec (by omega), Option.bind_some, decide_eq_false hno, if_pos bF]
  intro d
  induction d with
  | zero =>
    intro k N m l G hk hN hX hA hD hB hG hI hR hC
    rw [pLinks]
    by_cases hl : kd0 l = 5 ∨ kd0 l = 6
    · rw [if_pos hl]
      obtain ⟨N, rfl⟩ : ∃ y, N = y + 1 := ⟨N - 1, by omega⟩
      rw [lp_exit (y := .inr (.inl m))]
      · refine ⟨0, _, ?_, fail_O (c := 2) hq hX hA⟩
        show f_X6_takeLinks_j26 TT m q = _
        unfold f_X6_takeLinks_j26
        rw [show (2 : Int32) = nI 2 from rfl, fail_C, bd_some]
        rfl
      · show f_X6_takeLinks_l2 TT m q 42 48 (nI k) = _
        have hkd := hA.kd hX
        unfold f_X6_takeLinks_l2
        rw [if_neg (show ¬ (4 : Int32) < nI k from nI_nlt (a := 4) (by omega) (by omega)), ob_of s_42, if_pos rfl, hA.kind hX, Option.bind_some, isLink_spec (by omega), Option.bind_some, decide_eq_true hl, if_neg bTr, if_pos (show nI k = 4 by rw [show k = 4 by omega]; rfl)]
    · rw [if_neg hl]
      exact stop k N 0 m l G (by omega) (by omega) hX hA hD hl
  | succ d ih =>
    intro k N m l G hk hN hX hA hD hB hG hI hR hC
    rw [pLinks]
    by_cases hl : kd0 l = 5 ∨ kd0 l = 6
    · rw [if_pos hl]
      obtain ⟨N, rfl⟩ : ∃ y, N = y + 1 := ⟨N - 1, by omega⟩
      have hkd := hA.kd hX
      obtain ⟨v, m1, e1, o1⟩ := takeCon_C hq hX hA hD hB (by omega) (by omega) (fun _ => hR)
      have hbody : f_X6_takeLinks_l2 TT m q 42 48 (nI k) = if v = 0 then some (.inr (.inr (.inr m1))) else some (.inl (nI (k + 1), m1)) := by
        unfold f_X6_takeLinks_l2
        rw [if_neg (show ¬ (4 : Int32) < nI k from nI_nlt (a := 4) (by omega) (by omega)), ob_of s_42, if_pos rfl, hA.kind hX, Option.bind_some, isLink_spec (by omega), Option.bind_some, decide_eq_true hl, if_neg bTr, if_neg (show ¬ nI k = 4 from fun e => by have := (nI_eq (b := 4) (by omega) (by omega)).mp e; omega), e1, bd_some, lt_eq, nI_1]
      cases hp : pCon (kd0 l) l.tail G with
      | inl e =>
        rw [hp] at o1
        have hv := o1.inl.1
        rw [hv, if_pos rfl] at hbody
        rw [lp_exit (y := .inr (.inr m1)) hbody]
        exact ⟨0, m1, rfl, by rw [hv] at o1; exact o1⟩
      | inr w =>
        obtain ⟨l2, G2⟩ := w
        rw [hp] at o1
        obtain ⟨hv, hD1, hA1⟩ := o1.inr
        have hsx : Sfx (tl T n 0) l := by
          obtain ⟨i, _, _, hd⟩ := hA
          exact ⟨i, by rw [← hX.2.2.2.2.2.2.2]; exact hd⟩
        obtain ⟨w1, w2, w3, w4, w5, w6⟩ := pCon_W hsx.tail hG (by omega) (fun _ => hI) (fun _ => hR) hp
        rw [hv, if_neg (by decide)] at hbody
        have w4l := congrArg List.length w4
        have w5l := congrArg List.length w5
        obtain ⟨v', m', e', o'⟩ := ih (k + 1) N m1 l2 G2 (by omega) (by omega) o1.1 hA1 hD1 ⟨by have := hB.1; omega, by have := hB.2.1; omega, by omega⟩ w2 (w3 (by omega)) (by rw [w5]; exact hR) (by omega)
        refine ⟨v', m', ?_, OuC.tr o1.2.1 o'⟩
        rw [lp_step hbody]
        exact e'
    · rw [if_neg hl]
      exact stop k N (d + 1) m l G (by omega) (by omega) hX hA hD hl
theorem takeLinks_C {q n : Nat} {m : Mi} {T : Nat → Nat} {L l : List Tok} {G : Rg} (hq : QS q) (hX : CQ q m T n L) (hA : At q m L l) (hD : DC q m T G) (hB : BGd G) (hG : GW T n G) (hI : IL G) (hR : G.2.1 ≠ []) (hC : G.2.2.length + 4 < 250) : ∃ v m', f_X6_takeLinks TT m q 42 48 = some (v, m') ∧ OuC q m m' T n L (pLinks 4 l G) v := by
  obtain ⟨v, m', e, o⟩ := takeLinks_lp hq 4 0 FUEL m l G (by omega) (by unfold FUEL; omega) hX hA hD hB hG hI hR hC
  exact ⟨v, m', e, o⟩
theorem At.sfx {q n : Nat} {m : Mi} {T : Nat → Nat} {L l : List Tok} (hX : CQ q m T n L) (hA : At q m L l) : Sfx (tl T n 0) l := by
  obtain ⟨i, _, _, hd⟩ := hA
  exact ⟨i, by rw [← hX.2.2.2.2.2.2.2]; exact hd⟩
theorem takeWants_lp {q n : Nat} {T : Nat → Nat} {L : List Tok} (hq : QS q) : ∀ (d k N : Nat) (m : Mi) (l : List Tok) (G : Rg), k + d = 10 → d + 1 < N → CQ q m T n L → At q m L l → DC q m T G → BGd G → GW T n G → G.2.2.length + d ≤ 250 →
    ∃ v m', (lp (fun x : Int32 × Mi => f_X6_takeWants_l2 TT x.2 q 42 48 x.1) N (nI k, m)).bind (Sum.elim (fun y : Mi => f_X6_takeWants_j59 TT y) (Sum.elim (fun y : Mi => f_X6_takeWants_j26 TT y q) (fun y : Mi => f_X6_takeWants_j51 TT y))) = some (v, m') ∧ OuC q m m' T n L (pWants d l G) v := by
  have stop : ∀ (k N : Nat) (m : Mi) (l : List Tok) (G : Rg), k ≤ 10 → 0 < N → CQ q m T n L → At q m L l → DC q m T G → ¬ kd0 l = 4 → ∃ v m', (lp (fun x : Int32 × Mi => f_X6_takeWants_l2 TT x.2 q 42 48 x.1) N (nI k, m)).bind (Sum.elim (fun y : Mi => f_X6_takeWants_j59 TT y) (Sum.elim (fun y : Mi => f_X6_takeWants_j26 TT y q) (fun y : Mi => f_X6_takeWants_j51 TT y))) = some (v, m') ∧ OuC q m m' T n L (.inr (l, G)) v := by
    intro k N m l G hk hN hX hA hD hno
    obtain ⟨N, rfl⟩ : ∃ y, N = y + 1 := ⟨N - 1, by omega⟩
    have hkd := hA.kd hX
    rw [lp_exit (y := .inl m)]
    · exact ⟨1, m, rfl, hX, Fr.rf, rfl, hD, hA⟩
    · show f_X6_takeWants_l2 TT m q 42 48 (nI k) = _
      unfold f_X6_takeWants_l2
      rw [if_neg (show ¬ (10 : Int32) < nI k from nI_nlt (a := 10) (by omega) (by omega)), ob_of s_42, if_pos rfl, hA.kind hX, Option.bind_some, if_neg (show ¬ nI (kd0 l) = 4 from fun e => hno ((nI_eq (b := 4) (by omega) (by omega)).mp e))]
  intro d
  induction d with
  | zero =>
    intro k N m l G hk hN hX hA hD hB hG hC
    rw [pWants]
    by_cases hl : kd0 l = 4
    · rw [if_pos hl]
      obtain ⟨N, rfl⟩ : ∃ y, N = y + 1 := ⟨N - 1, by omega⟩
      rw [lp_exit (y := .inr (.inl m))]
      · refine ⟨0, _, ?_, fail_O (c := 2) hq hX hA⟩
        show f_X6_takeWants_j26 TT m q = _
        unfold f_X6_takeWants_j26
        rw [show (2 : Int32) = nI 2 from rfl, fail_C, bd_some]
        rfl
      · show f_X6_takeWants_l2 TT m q 42 48 (nI k) = _
        unfold f_X6_takeWants_l2
        rw [if_neg (show ¬ (10 : Int32) < nI k from nI_nlt (a := 10) (by omega) (by omega)), ob_of s_42, if_pos rfl, hA.kind hX, Option.bind_some, if_pos (show nI (kd0 l) = 4 by rw [hl]; rfl), if_pos (show nI k = 10 by rw [show k = 10 by omega]; rfl)]
    · rw [if_neg hl]
      exact stop k N m l G (by omega) (by omega) hX hA hD hl
  | succ d ih =>
    intro k N m l G hk hN hX hA hD hB hG hC
    rw [pWants]
    by_cases hl : kd0 l = 4
    · rw [if_pos hl]
      obtain ⟨N, rfl⟩ : ∃ y, N = y + 1 := ⟨N - 1, by omega⟩
      obtain ⟨v, m1, e1, o1⟩ := takeCon_C hq hX hA hD hB (by omega) (by omega) (fun e => absurd hl e)
      rw [hl] at o1
      have hbody : f_X6_takeWants_l2 TT m q 42 48 (nI k) = if v = 0 then some (.inr (.inr (.inr m1))) else bd (f_X6_expect TT m1 q 42 12) fun x12 m13 => if x12 = 0 then some (.inr (.inr (.inr m13))) else some (.inl (nI (k + 1), m13)) := by
        unfold f_X6_takeWants_l2
        rw [if_neg (show ¬ (10 : Int32) < nI k from nI_nlt (a := 10) (by omega) (by omega)), ob_of s_42, if_pos rfl, hA.kind hX, Option.bind_some, if_pos (show nI (kd0 l) = 4 by rw [hl]; rfl), if_neg (show ¬ nI k = 10 from fun e => by have := (nI_eq (b := 10) (by omega) (by omega)).mp e; omega), e1, bd_some]
        simp only [lt_eq, nI_1]
      cases hp : pCon 4 l.tail G with
      | inl e =>
        rw [hp] at o1
        have hv := o1.inl.1
        rw [hv, if_pos rfl] at hbody
        rw [lp_exit (y := .inr (.inr m1)) hbody]
        exact ⟨0, m1, rfl, by rw [hv] at o1; exact o1⟩
      | inr w =>
        obtain ⟨l2, G2⟩ := w
        rw [hp] at o1
        obtain ⟨hv, hD1, hA1⟩ := o1.inr
        obtain ⟨w1, w2, w3, w4, w5, w6⟩ := pCon_W (hA.sfx hX).tail hG (Or.inl rfl) (fun e => absurd rfl e) (fun e => absurd rfl e) hp
        have w4l := congrArg List.length w4
        have w5l := congrArg List.length w5
        have hB2 : BGd G2 := ⟨by have := hB.1; omega, by have := hB.2.1; omega, by omega⟩
        rw [hv, if_neg (by decide)] at hbody
        obtain ⟨v2, m2, e2, o2⟩ := expect_C (k := 12) hq (by omega) (by omega) o1.1 hA1 hD1 hB2
        rw [show f_X6_expect TT m1 q 42 12 = _ from e2, bd_some] at hbody
        have o2 := OuC.tr o1.2.1 o2
        show ∃ v m', _ ∧ OuC q m m' T n L (pExp 12 l2 (fun l'' => pWants d l'' G2)) v
        unfold pExp
        by_cases h12 : kd0 l2 = 12
        · rw [if_pos h12] at o2 ⊢
          obtain ⟨hv2, hD2, hA2⟩ := o2.inr
          rw [hv2, if_neg (by decide)] at hbody
          obtain ⟨v', m', e', o'⟩ := ih (k + 1) N m2 l2.tail G2 (by omega) (by omega) o2.1 hA2 hD2 hB2 w2 (by omega)
          refine ⟨v', m', ?_, OuC.tr o2.2.1 o'⟩
          rw [lp_step hbody]
          exact e'
        · rw [if_neg h12] at o2 ⊢
          have hv2 := o2.inl.1
          rw [hv2, if_pos rfl] at hbody
          rw [lp_exit (y := .inr (.inr m2)) hbody]
          exact ⟨0, m2, rfl, by rw [hv2] at o2; exact o2⟩
    · rw [if_neg hl]
      exact stop k N m l G (by omega) (by omega) hX hA hD hl
