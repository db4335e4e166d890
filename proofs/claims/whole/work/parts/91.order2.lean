/-! order of both sides. -/
def rwv (T : Nat → Nat) (b e : Nat) : Row := match rdv T b e with
  | none => LE
  | some (_, (ns, is)) => rW ns is
def ord2 (T : Nat → Nat) (l : List Tok) : Int32 := match l with
  | [x, y] => if x.1 = 8 ∧ y.1 = 8 then cmpL (rwv T x.2.1 x.2.2) (rwv T y.2.1 y.2.2) else 2
  | _ => 2
theorem ord2_two (T : Nat → Nat) (x y : Tok) : ord2 T [x, y] = if x.1 = 8 ∧ y.1 = 8 then cmpL (rwv T x.2.1 x.2.2) (rwv T y.2.1 y.2.2) else 2 := rfl
theorem rwv_some {T : Nat → Nat} {b e f : Nat} {ns is : List Nat} (h : rdv T b e = some (f, (ns, is))) : rwv T b e = rW ns is := by
  unfold rwv
  rw [h]
def spOrder (T : Nat → Nat) (f : Nat) (n : Int32) : Int32 × Nat := if n < 0 ∨ nI f < n then (-2, f) else (ord2 T (tl T (ix n) 0), 0)
theorem isBlank_b : ∀ c, c < 256 → f_X9_isBlank (bT c) = some (bI (blk c)) := by decide +kernel
theorem bBlanks {m : Mi} {p n : Nat} {T : Nat → Nat} (hr : gr m 1 0 = 2) (hT : Tx m 2 n T) (hn : n ≤ 2000) (hp : p ≤ n) : f_X11_behindBlanks TT m 1 (nI p) (nI n) = some (nI (p + run blk T n (n - p) p)) := by
  unfold f_X11_behindBlanks f_X11_behindBlanks_j2
  rw [run_lpF (f := blk) (T := T) (e := n) (p := p) (fun i hi => ?_) hp (by omega)]
  · rfl
  · show f_X11_behindBlanks_l2 TT m 1 (nI n) (nI i) = _
    unfold f_X11_behindBlanks_l2
    by_cases hin : i < n
    · rw [if_neg (nI_ge hin (by omega)), if_neg (show ¬ (2000 : Int32) ≤ nI i from nI_ge (b := 2000) (by omega) (by omega)), hr, if_pos (ar_of s_2 (by omega) (by omega)), ix_nI (by omega), (hT i hin).1, isBlank_b _ (hT i hin).2, Option.bind_some, lt_eq, nI_1]
      cases hb : blk (T i) with
      | false => rw [if_pos bF, if_neg (fun x => fNt x.2)]
      | true => rw [if_neg bTr, if_pos ⟨hin, rfl⟩]
    · rw [if_pos (nI_le (by omega) (by omega)), if_neg (fun x => hin x.1)]
theorem bSigns {m : Mi} {p n : Nat} {T : Nat → Nat} (hr : gr m 1 0 = 2) (hT : Tx m 2 n T) (hn : n ≤ 2000) (hp : p ≤ n) : f_X11_behindSigns TT m 1 (nI p) (nI n) = some (nI (p + run nbk T n (n - p) p)) := by
  unfold f_X11_behindSigns f_X11_behindSigns_j2
  rw [run_lpF (f := nbk) (T := T) (e := n) (p := p) (fun i hi => ?_) hp (by omega)]
  · rfl
  · show f_X11_behindSigns_l2 TT m 1 (nI n) (nI i) = _
    unfold f_X11_behindSigns_l2
    by_cases hin : i < n
    · rw [if_neg (nI_ge hin (by omega)), if_neg (show ¬ (2000 : Int32) ≤ nI i from nI_ge (b := 2000) (by omega) (by omega)), hr, if_pos (ar_of s_2 (by omega) (by omega)), ix_nI (by omega), (hT i hin).1, isBlank_b _ (hT i hin).2, Option.bind_some, lt_eq, nI_1]
      unfold nbk
      cases hb : blk (T i) with
      | false => rw [if_pos bF, if_pos ⟨hin, rfl⟩]
      | true => rw [if_neg bTr, if_neg (fun x => by cases x.2)]
    · rw [if_pos (nI_le (by omega) (by omega)), if_neg (fun x => hin x.1)]
theorem order_C {m : Mi} {T : Nat → Nat} {f : Nat} (hI : InC m) (hT : Tap m 1 2 T f) (n : Int32) :
    ∃ m', f_X11_order TT m 1 n = some ((spOrder T f n).1, m') ∧ Tap m' 1 2 T (spOrder T f n).2 ∧ Fr (fun x => x = 1 ∨ (38 ≤ x ∧ x ≤ 41)) m m' := by
  have hf := hT.2.1
  unfold f_X11_order spOrder
  rcases tap_cases n hf with hn | ⟨nn, hnn, rfl⟩
  · rw [onTape_no hT hn, Option.bind_some, if_pos rfl, if_pos hn]
    exact ⟨m, rfl, hT, Fr.rf⟩
  · obtain ⟨⟨⟨w1, w2, w3, w4, w5, w6, w7, w8, w9, w10⟩, w11⟩, hWT, hWR, hOB, h38, h40⟩ := hI
    have hT1 : Tx (si m 1 1 0) 2 nn T := fun j hj => ⟨by simp only [mS]; rw [if_neg (by omega)]; exact (hT.2.2 j (by omega)).1, (hT.2.2 j (by omega)).2⟩
    have f1 : Fr (fun x => x = 1 ∨ (38 ≤ x ∧ x ≤ 41)) m (si m 1 1 0) := Fr.si (Or.inl rfl)
    have hr1 : gr (si m 1 1 0) 1 0 = 2 := w1
    have hp1 : gi (si m 1 1 0) 1 1 = nI 0 := gi_si _ _ _ _
    have g4 : gr (si m 1 1 0) 1 4 = 38 := w4
    have g5 : gr (si m 1 1 0) 1 5 = 40 := w5
    have g38 : gr (si m 1 1 0) 38 0 = 39 := h38
    have g40 : gr (si m 1 1 0) 40 0 = 41 := h40
    rw [onTape_yes hT hnn, Option.bind_some, if_neg (by decide), if_neg (by
      intro x
      rcases x with x | x
      · exact nI_pos (by omega) x
      · exact nI_nlt hnn (by omega) x), ix_nI (by omega), lt_eq]
    generalize si m 1 1 0 = m1 at *
    have s1 := run_stop (f := blk) (T := T) (n := nn) (p := 0) (Nat.zero_le _)
    have s2 := run_stop (f := nbk) (T := T) (n := nn) (p := oB1 T nn) s1.1
    have s3 := run_stop (f := blk) (T := T) (n := nn) (p := oE1 T nn) s2.1
    have s4 := run_stop (f := nbk) (T := T) (n := nn) (p := oB2 T nn) s3.1
    have l1 : oB1 T nn ≤ oE1 T nn := Nat.le_add_right _ _
    have l2 : oB2 T nn ≤ oE2 T nn := Nat.le_add_right _ _
    have s5 : oB3 T nn ≤ nn := (run_stop (f := blk) (T := T) (n := nn) (p := oE2 T nn) s4.1).1
    have b1 : f_X11_behindBlanks TT m1 1 0 (nI nn) = some (nI (oB1 T nn)) := bBlanks (p := 0) hr1 hT1 (by omega) (by omega)
    have b2 : f_X11_behindSigns TT m1 1 (nI (oB1 T nn)) (nI nn) = some (nI (oE1 T nn)) := bSigns hr1 hT1 (by omega) s1.1
    have b3 : f_X11_behindBlanks TT m1 1 (nI (oE1 T nn)) (nI nn) = some (nI (oB2 T nn)) := bBlanks hr1 hT1 (by omega) s2.1
    have b4 : f_X11_behindSigns TT m1 1 (nI (oB2 T nn)) (nI nn) = some (nI (oE2 T nn)) := bSigns hr1 hT1 (by omega) s3.1
    have b5 : f_X11_behindBlanks TT m1 1 (nI (oE2 T nn)) (nI nn) = some (nI (oB3 T nn)) := bBlanks hr1 hT1 (by omega) s4.1
    rw [b1, Option.bind_some, b2, Option.bind_some, b3, Option.bind_some, b4, Option.bind_some, b5, Option.bind_some]
    have s2e : oE1 T nn ≤ nn := s2.1
    have s4e : oE2 T nn ≤ nn := s4.1
    obtain ⟨m2, e2, k2, v2⟩ := take_spec (m := m1) (v := 38) (r := 39) (c := 2) (L := 2000) (a := oB1 T nn) (e := oE1 T nn) (T := T) s_38 s_39 g38 (by omega) s_2 (by omega) (by omega) l1 (fun j hj => hT1 j (by omega))
    have f2 : Fr (fun x => x = 1 ∨ (38 ≤ x ∧ x ≤ 41)) m1 m2 := k2.toF (by omega) (by omega) (by unfold NR; omega)
    have hT2 : Tx m2 2 nn T := fun j hj => ⟨(f2.1 _ _ (by omega)).1.trans (hT1 j hj).1, (hT1 j hj).2⟩
    obtain ⟨m3, e3, k3, v3⟩ := take_spec (m := m2) (v := 40) (r := 41) (c := 2) (L := 2000) (a := oB2 T nn) (e := oE2 T nn) (T := T) s_40 s_41 ((f2.2 _ _ (by unfold NR; omega)).trans g40) (by omega) s_2 (by omega) (by omega) l2 (fun j hj => hT2 j (by omega))
    have f3 : Fr (fun x => x = 1 ∨ (38 ≤ x ∧ x ≤ 41)) m2 m3 := k3.toF (by omega) (by omega) (by unfold NR; omega)
    have tap : ∀ m', gi m' 1 1 = nI 0 → Tap m' 1 2 T 0 := fun m' h => ⟨h, by omega, fun j hj => by omega⟩
    have q2 : gi m2 1 1 = nI 0 := (k2.1 _ _ (by omega)).trans hp1
    have q3 : gi m3 1 1 = nI 0 := (k3.1 _ _ (by omega)).trans q2
    -- if it isn't two versions, the tokens say so, too
    have no : ¬ (oB3 T nn = nn ∧ rdc T (oB1 T nn) (oE1 T nn) = 2 ∧ rdc T (oB2 T nn) (oE2 T nn) = 2) → ord2 T (tl T nn 0) = 2 := by
      intro hno
      unfold ord2
      split
      · next x y hxy =>
        by_cases h88 : x.1 = 8 ∧ y.1 = 8
        · exfalso
          apply hno
          have := order_two hxy h88.1 h88.2
          exact order_toks.mpr ⟨x, y, hxy, this.1, this.2⟩
        · rw [if_neg h88]
      · rfl
    have lt3 : ∀ a b, rdc T a b < 3 ∨ ∃ f ns is, rdv T a b = some (f, (ns, is)) ∧ rdc T a b = f := by
      intro a b
      unfold rdc
      cases hr : rdv T a b with
      | none => left; show 0 < 3; decide
      | some w => right; exact ⟨w.1, w.2.1, w.2.2, rfl, rfl⟩
    have r31 : ∀ a b, a ≤ b → b ≤ nn → rdc T a b < 2 ^ 31 := by
      intro a b hab hb
      rcases lt3 a b with h | ⟨f, ns, is, h, h2⟩
      · omega
      · have hv := rdv_VW (n := nn) (fun j hj => (hT1 j hj).2) (by omega) hb hab h
        have := hv.2.2
        omega
    by_cases c3 : oB3 T nn = nn
    · rw [if_pos (by rw [c3]), g4, ob_of s_38, if_pos rfl, hr1, e2, bd_some]
      by_cases c1 : rdc T (oB1 T nn) (oE1 T nn) = 2
      · rw [if_pos (show nI (rdc T (oB1 T nn) (oE1 T nn)) = 2 by rw [c1]; rfl), show gr m2 1 5 = 40 from (f2.2 _ _ (by unfold NR; omega)).trans g5, ob_of s_40, if_pos rfl, show gr m2 1 0 = 2 from (f2.2 _ _ (by unfold NR; omega)).trans hr1, e3, bd_some]
        by_cases c2 : rdc T (oB2 T nn) (oE2 T nn) = 2
        · obtain ⟨x, y, hxy, hx, hy⟩ := order_toks.mp ⟨c3, c1, c2⟩
          obtain ⟨ns1, is1, r1⟩ := rdc_some c1 (by omega)
          obtain ⟨ns2, is2, r2⟩ := rdc_some c2 (by omega)
          obtain ⟨_, row1⟩ := v2 _ _ _ r1
          obtain ⟨_, row2⟩ := v3 _ _ _ r2
          have hc := compare_spec (t := TT) (m := m3) (i := 0) (j := 0) s_39 s_41 (by omega) (by omega) (by omega) (by omega)
          have ro1 : rowL m3 39 0 = rW ns1 is1 := rowF_congr (fun q hq => by rw [Nat.zero_add]; exact (k3.2.1 _ _ (by omega)).trans (row1 q hq))
          have ro2 : rowL m3 41 0 = rW ns2 is2 := rowF_congr (fun q hq => by rw [Nat.zero_add]; exact row2 q hq)
          rw [ro1, ro2] at hc
          have h4 : gr m3 1 4 = 38 := (f3.2 _ _ (by unfold NR; omega)).trans ((f2.2 _ _ (by unfold NR; omega)).trans g4)
          have h5 : gr m3 1 5 = 40 := (f3.2 _ _ (by unfold NR; omega)).trans ((f2.2 _ _ (by unfold NR; omega)).trans g5)
          have h6 : gr m3 38 0 = 39 := (f3.2 _ _ (by unfold NR; omega)).trans ((f2.2 _ _ (by unfold NR; omega)).trans g38)
          have h7 : gr m3 40 0 = 41 := (f3.2 _ _ (by unfold NR; omega)).trans ((f2.2 _ _ (by unfold NR; omega)).trans g40)
          rw [if_pos (show nI (rdc T (oB2 T nn) (oE2 T nn)) = 2 by rw [c2]; rfl), h4, h5, ob_of s_38, if_pos rfl, ob_of s_40, if_pos rfl, h6, h7, show f_X10_compare TT m3 39 0 41 0 = _ from hc, Option.bind_some]
          refine ⟨m3, ?_, tap m3 q3, (f1.tr f2).tr f3⟩
          rw [hxy, hx, hy]
          show some (cmpL (rW ns1 is1) (rW ns2 is2), m3) = some (ord2 T [(8, (oB1 T nn, oE1 T nn)), (8, (oB2 T nn, oE2 T nn))], m3)
          rw [ord2_two, if_pos ⟨rfl, rfl⟩, rwv_some r1, rwv_some r2]
        · rw [if_neg (show ¬ nI (rdc T (oB2 T nn) (oE2 T nn)) = 2 from fun x => c2 ((nI_eq (b := 2) (r31 _ _ l2 s4e) (by omega)).mp x)), no (fun x => c2 x.2.2)]
          exact ⟨m3, rfl, tap m3 q3, (f1.tr f2).tr f3⟩
      · rw [if_neg (show ¬ nI (rdc T (oB1 T nn) (oE1 T nn)) = 2 from fun x => c1 ((nI_eq (b := 2) (r31 _ _ l1 s2e) (by omega)).mp x)), no (fun x => c1 x.2.1)]
        exact ⟨m2, rfl, tap m2 q2, f1.tr f2⟩
    · rw [if_neg (fun x => c3 ((nI_eq (by omega) (by omega)).mp x)), no (fun x => c3 x.1)]
      exact ⟨m1, rfl, tap m1 hp1, f1⟩
theorem opv_0 {T : Nat → Nat} {n b : Nat} : opv T n b = 0 ↔ T b ≠ 42 ∧ opn T n b = 0 := by
  unfold opv
  by_cases h42 : T b = 42
  · rw [if_pos h42]
    exact ⟨fun x => (by cases x), fun x => absurd h42 x.1⟩
  · rw [if_neg h42]
    by_cases h0 : opn T n b = 0
    · rw [if_pos h0]
      exact ⟨fun _ => ⟨h42, h0⟩, fun _ => rfl⟩
    · rw [if_neg h0]
      refine ⟨fun x => ?_, fun x => absurd x.2 h0⟩
      exfalso
      by_cases h1 : opn T n b = 1
      · rw [if_pos h1] at x
        unfold opn at h1
        split at h1
        · omega
        · split at h1 <;> omega
      · rw [if_neg h1] at x
        omega
/-- the reference's three questions at a token: it is a version -/
theorem isVer_M {m : Mi} {T : Nat → Nat} {n p : Nat} {x : Tok} {r : List Tok} (hM : MT m n T) (hq : x :: r = tl T n p) (hC : CurM m T n (x :: r)) {α : Type} (Y : Int32 → Mi → Option α) (N : Mi → Option α) (hY : ∀ v m', ¬ v = 2 → Y v m' = N m') :
    (x.1 ≠ 8 ∧ ∃ m', KD m m' ∧ (if gi m 870 14 = 2 then (if gi m 870 18 = 0 then bd (f_X12_reads TT m 870 (gi m 870 17) (gi m 870 16)) Y else N m) else N m) = N m') ∨
    (x.1 = 8 ∧ ∃ m' ns is, KD m m' ∧ (if gi m 870 14 = 2 then (if gi m 870 18 = 0 then bd (f_X12_reads TT m 870 (gi m 870 17) (gi m 870 16)) Y else N m) else N m) = Y 2 m' ∧ rdv T x.2.1 x.2.2 = some (2, (ns, is)) ∧ VW 2 ns is ∧ rowM m' 873 0 (mR ns is)) := by
  have hn := hM.2.2.1
  have hxm : x ∈ tl T n p := by rw [← hq]; exact List.mem_cons_self
  obtain ⟨hk0, hk⟩ := tl_kind hxm
  have hms := mk_small x.1 hk
  by_cases hP : isP x.1 = true
  · have h14 : gi m 870 14 = 2 := by rw [hC.1, hms.2.1.mpr hP]; rfl
    obtain ⟨tR, tEq, tle, tn, tlt, _, tform⟩ := tl_tokR hxm hP
    have h1 : x.1 ≠ 1 := by rcases isP_or hP with h | h <;> omega
    obtain ⟨q16, qr⟩ := hC.2.2.1 h1
    obtain ⟨q17, q18⟩ := hC.2.2.2 (isP_or hP)
    have hov : opv T n x.2.1 < 1000 := by
      have := hM.lt x.2.1 (by omega)
      unfold opv
      split
      · omega
      · split
        · omega
        · split <;> omega
    rw [if_pos h14, q18, q17, q16]
    by_cases ho : opv T n x.2.1 = 0
    · obtain ⟨h42, hop⟩ := opv_0.mp ho
      rw [if_pos (show nI (opv T n x.2.1) = 0 by rw [ho]; rfl), hop, Nat.add_zero]
      rw [hop, Nat.add_zero] at tle tform
      obtain ⟨m', e1, k1, w1⟩ := reads_spec (a := x.2.1) (e := x.2.2) hM tn tle
      rw [e1, bd_some]
      rcases tform with h | ⟨f, ns, is, h, h8⟩
      · exact absurd h h42
      · have hrc : rdc T x.2.1 x.2.2 = f := by unfold rdc; rw [h]
        obtain ⟨w5, wr, wv⟩ := w1 f ns is h
        have hf := wv.2.2
        rw [hrc]
        by_cases hf2 : f = 2
        · refine Or.inr ⟨h8.mpr ⟨hf2, rfl⟩, m', ns, is, k1, by rw [hf2]; rfl, by rw [h, hf2], by rw [hf2] at wv; exact wv, fun z hz => by rw [Nat.zero_add]; exact wr z hz⟩
        · refine Or.inl ⟨fun e => hf2 (h8.mp e).1, m', k1, ?_⟩
          exact hY _ _ (fun e => hf2 ((nI_eq (b := 2) (by omega) (by omega)).mp e))
    · rw [if_neg (show ¬ nI (opv T n x.2.1) = 0 from fun e => ho ((nI_eq (b := 0) (by omega) (by omega)).mp e))]
      refine Or.inl ⟨fun e => ho ?_, m, KD.rf, rfl⟩
      rcases tform with h | ⟨f, ns, is, h, h8⟩
      · exfalso
        obtain ⟨z1, z2, z3, z4, z5⟩ := tl_mem (n - p) p (Nat.le_refl _) x hxm
        have : tk T n x.2.1 = (7, x.2.1 + 1) := by
          unfold tk
          have hs : sml (T x.2.1) = false := by rw [h]; decide
          rw [hs, if_neg fNt, if_neg (by omega), if_neg (by omega), if_neg (by omega), if_neg (by omega), if_pos h]
        rw [this] at z3
        have z3 : x.1 = 7 := z3
        omega
      · refine opv_0.mpr ⟨?_, (h8.mp e).2⟩
        intro h42
        have := (rdv_P h).2.1
        rw [(h8.mp e).2, Nat.add_zero, h42] at this
        cases this
  · have hP : isP x.1 = false := by simpa using hP
    rw [hC.1, if_neg (show ¬ nI (mk x.1) = 2 from fun e => by
      have := (nI_eq (b := 2) (by omega) (by omega)).mp e
      rw [hms.2.1, hP] at this
      cases this)]
    exact Or.inl ⟨fun e => (by rw [e] at hP; cases hP), m, KD.rf, rfl⟩
theorem rowM_tr {m : Mi} {c i : Nat} {g : Nat → Int64} (h : rowM m c i g) : trM (fun z => gl m c (i + z)) = trM g := trM_congr h
theorem rowM_VR {m : Mi} {c i : Nat} {g : Nat → Int64} (h : rowM m c i g) (hv : VR g) : VR (fun z => gl m c (i + z)) := by
  obtain ⟨q, h1, h2⟩ := hv
  exact ⟨q, fun k hk => ⟨(h k hk).trans (h1 k hk).1, (h1 k hk).2⟩, h2⟩
theorem order_M {m : Mi} {T : Nat → Nat} {f : Nat} (hM : WFM m) (hT : Tap m 870 871 T f) (n : Int32) :
    ∃ m', f_X12_order TT m 870 n = some ((spOrder T f n).1, m') ∧ Tap m' 870 871 T (spOrder T f n).2 ∧ FrM (fun x j => PT x j ∧ ¬ (x = 874 ∨ x = 875)) m m' := by
  have hf := hT.2.1
  unfold f_X12_order spOrder
  rcases tap_cases n hf with hn | ⟨nn, hnn, rfl⟩
  · rw [takes_no hT hn, bd_some, if_pos rfl, if_pos hn]
    exact ⟨m, rfl, hT, FrM.rf⟩
  · obtain ⟨m1, e1, t1, g1, f1⟩ := takes_yes hM hT hnn
    have F1 : FrM (fun x j => PT x j ∧ ¬ (x = 874 ∨ x = 875)) m m1 := f1.mono (fun x j e => by unfold PT; omega)
    rw [e1, bd_some, if_neg (by decide), if_neg (by
      intro x
      rcases x with x | x
      · exact nI_pos (by omega) x
      · exact nI_nlt hnn (by omega) x), ix_nI (by omega)]
    have f01 : FrM (fun x j => x = 870 ∧ (j = 16 ∨ j = 19 ∨ j = 20)) m1 (si (si (si m1 870 19 0) 870 20 0) 870 16 0) := ((FrM.si (P := fun x j => x = 870 ∧ (j = 16 ∨ j = 19 ∨ j = 20)) (by omega)).tr (FrM.si (P := fun x j => x = 870 ∧ (j = 16 ∨ j = 19 ∨ j = 20)) (by omega))).tr (FrM.si (P := fun x j => x = 870 ∧ (j = 16 ∨ j = 19 ∨ j = 20)) (by omega))
    have t1' : MT (si (si (si m1 870 19 0) 870 20 0) 870 16 0) nn T := t1.keepF (f01.mono (fun x j e => by unfold PR; omega))
    obtain ⟨m2, e2', k2', c2⟩ := token_spec (p := 0) t1' (gi_si _ _ _ _) (by omega)
    have e2 : f_X12_starts TT m1 870 = some m2 := by
      unfold f_X12_starts
      rw [lt_eq, lt_eq, lt_eq, e2']
      rfl
    have KKF : ∀ {m1 m2 : Mi}, KK m1 m2 → FrM (fun x j => PT x j ∧ ¬ (x = 874 ∨ x = 875)) m1 m2 := fun h => ⟨fun x j e => ⟨h.1 x j (fun z => e (by unfold PT; omega)), h.2.1 x j (fun z => e (by unfold PT; omega)) (fun z => e (by unfold PT; omega))⟩, h.2.2⟩
    have KDF : ∀ {m1 m2 : Mi}, KD m1 m2 → FrM (fun x j => PT x j ∧ ¬ (x = 874 ∨ x = 875)) m1 m2 := fun h => KKF h.K
    have t2 : MT m2 nn T := t1'.keepK k2'
    have F2 : FrM (fun x j => PT x j ∧ ¬ (x = 874 ∨ x = 875)) m m2 := (F1.tr (f01.mono (fun x j e => by unfold PT; omega))).tr (KKF k2')
    have tap : ∀ m', FrM (fun x j => PT x j ∧ ¬ (x = 874 ∨ x = 875)) m m' → gi m' 870 1 = nI 0 → Tap m' 870 871 T 0 := fun m' _ h => ⟨h, by omega, fun j hj => by omega⟩
    have p2 : gi m2 870 1 = nI 0 := (k2'.1 _ _ (by omega)).trans (((f01.1 _ _ (by omega)).1).trans g1)
    rw [e2, Option.bind_some]
    cases hL : tl T nn 0 with
    | nil =>
      rw [hL] at c2
      rw [c2.1, if_neg (by decide)]
      exact ⟨m2, rfl, tap _ F2 p2, F2⟩
    | cons x r =>
      rw [hL] at c2
      rcases isVer_M t2 hL.symm c2 (fun x7 m8 => if x7 = 2 then (f_X12_copy TT m8 (gr m8 870 11) 0 (gr m8 870 4) 0).bind fun m10 => (f_X12_token TT m10 870).bind fun m11 => if gi m11 870 14 = 2 then (if gi m11 870 18 = 0 then bd (f_X12_reads TT m11 870 (gi m11 870 17) (gi m11 870 16)) fun x14 m15 => if x14 = 2 then (f_X12_copy TT m15 (gr m15 870 12) 0 (gr m15 870 4) 0).bind fun m17 => (f_X12_token TT m17 870).bind fun m18 => if gi m18 870 14 = 0 then (f_X12_compare TT m18 (gr m18 870 11) 0 (gr m18 870 12) 0).bind fun x20 => some (x20, m18) else some (2, m18) else some (2, m15) else some (2, m11)) else some (2, m11) else some (2, m8)) (fun m' => some (2, m')) (fun v m' hv => by rw [if_neg hv]) with ⟨hx8, m3, k3, e3⟩ | ⟨hx8, m3, ns1, is1, k3, e3, r1, v1, row1⟩
      · refine ⟨m3, ?_, tap m3 (F2.tr (KDF k3)) ((k3.1 _ _ (by omega)).trans p2), F2.tr (KDF k3)⟩
        rw [e3]
        have : ord2 T (x :: r) = 2 := by
          unfold ord2
          split
          · next a b hab =>
            have : x = a := (List.cons.inj hab).1
            rw [if_neg (fun z => hx8 (this ▸ z.1))]
          · rfl
        rw [this]
      · rw [e3]
        show ∃ m', (if (2 : Int32) = 2 then _ else _) = _ ∧ _
        rw [if_pos rfl]
        have t3 : MT m3 nn T := t2.keep k3
        obtain ⟨m4, e4, ro4, f4⟩ := copy_rowM (m := m3) (a := 877) (b := 873) (i := 0) (j := 0) s_877 s_873 (by omega) (by omega) (by omega) (by omega) (by omega) row1
        have F4 : FrM (fun x j => PT x j ∧ ¬ (x = 874 ∨ x = 875)) m m4 := (F2.tr (KDF k3)).tr (f4.mono (fun x j e => by unfold PT; omega))
        have p4 : gi m4 870 1 = nI 0 := (f4.1 _ _ (by omega)).1.trans ((k3.1 _ _ (by omega)).trans p2)
        have t4 : MT m4 nn T := ⟨t3.1.keepF f4, (f4.1 _ _ (by omega)).1.trans t3.2.1, t3.2.2.1, fun j hj => ⟨(f4.1 _ _ (by omega)).1.trans (t3.2.2.2 j hj).1, (t3.2.2.2 j hj).2⟩⟩
        rw [t3.1 11 (by omega), show RM 11 = 877 from rfl, t3.1 4 (by omega), show RM 4 = 873 from rfl, show f_X12_copy TT m3 877 0 873 0 = _ from e4, Option.bind_some]
        obtain ⟨q16, qr⟩ := c2.2.2.1 (by omega)
        have hxm : x ∈ tl T nn 0 := by rw [hL]; exact List.mem_cons_self
        have hxe := (tl_tokR hxm (by rw [hx8]; rfl)).2.2.2.1
        have q164 : gi m4 870 16 = nI x.2.2 := (f4.1 _ _ (by omega)).1.trans ((k3.1 _ _ (by omega)).trans q16)
        obtain ⟨m5, e5, k5, c5⟩ := token_spec t4 q164 hxe
        have t5 := t4.keepK k5
        have F5 := F4.tr (KKF k5)
        have p5 : gi m5 870 1 = nI 0 := (k5.1 _ _ (by omega)).trans p4
        have ro5 : rowM m5 877 0 (mR ns1 is1) := fun z hz => (k5.2.1 _ _ (by omega) (by omega)).trans (ro4 z hz)
        rw [e5, Option.bind_some]
        rw [← qr] at c5
        cases r with
        | nil =>
          rw [c5.1, if_neg (by decide)]
          exact ⟨m5, rfl, tap _ F5 p5, F5⟩
        | cons y r2 =>
          rcases isVer_M t5 qr c5 (fun x14 m15 => if x14 = 2 then (f_X12_copy TT m15 (gr m15 870 12) 0 (gr m15 870 4) 0).bind fun m17 => (f_X12_token TT m17 870).bind fun m18 => if gi m18 870 14 = 0 then (f_X12_compare TT m18 (gr m18 870 11) 0 (gr m18 870 12) 0).bind fun x20 => some (x20, m18) else some (2, m18) else some (2, m15)) (fun m' => some (2, m')) (fun v m' hv => by rw [if_neg hv]) with ⟨hy8, m6, k6, e6⟩ | ⟨hy8, m6, ns2, is2, k6, e6, r2', v2, row2⟩
          · refine ⟨m6, ?_, tap m6 (F5.tr (KDF k6)) ((k6.1 _ _ (by omega)).trans p5), F5.tr (KDF k6)⟩
            rw [e6]
            have : ord2 T (x :: y :: r2) = 2 := by
              unfold ord2
              split
              · next a b hab =>
                have : y = b := (List.cons.inj (List.cons.inj hab).2).1
                rw [if_neg (fun z => hy8 (this ▸ z.2))]
              · rfl
            rw [this]
          · rw [e6]
            show ∃ m', (if (2 : Int32) = 2 then _ else _) = _ ∧ _
            rw [if_pos rfl]
            have t6 : MT m6 nn T := t5.keep k6
            have ro6 : rowM m6 877 0 (mR ns1 is1) := fun z hz => (k6.2.1 _ _ (by omega) (by omega)).trans (ro5 z hz)
            obtain ⟨m7, e7, ro7, f7⟩ := copy_rowM (m := m6) (a := 878) (b := 873) (i := 0) (j := 0) s_878 s_873 (by omega) (by omega) (by omega) (by omega) (by omega) row2
            have F7 : FrM (fun x j => PT x j ∧ ¬ (x = 874 ∨ x = 875)) m m7 := (F5.tr (KDF k6)).tr (f7.mono (fun x j e => by unfold PT; omega))
            have p7 : gi m7 870 1 = nI 0 := (f7.1 _ _ (by omega)).1.trans ((k6.1 _ _ (by omega)).trans p5)
            have t7 : MT m7 nn T := ⟨t6.1.keepF f7, (f7.1 _ _ (by omega)).1.trans t6.2.1, t6.2.2.1, fun j hj => ⟨(f7.1 _ _ (by omega)).1.trans (t6.2.2.2 j hj).1, (t6.2.2.2 j hj).2⟩⟩
            have ro71 : rowM m7 877 0 (mR ns1 is1) := ro6.keep f7 (fun z hz => by omega)
            rw [t6.1 12 (by omega), show RM 12 = 878 from rfl, t6.1 4 (by omega), show RM 4 = 873 from rfl, show f_X12_copy TT m6 878 0 873 0 = _ from e7, Option.bind_some]
            obtain ⟨s16, sr⟩ := c5.2.2.1 (by omega)
            have hym : y ∈ tl T nn x.2.2 := by rw [← qr]; exact List.mem_cons_self
            have hye := (tl_tokR hym (by rw [hy8]; rfl)).2.2.2.1
            have s167 : gi m7 870 16 = nI y.2.2 := (f7.1 _ _ (by omega)).1.trans ((k6.1 _ _ (by omega)).trans s16)
            obtain ⟨m8, e8, k8, c8⟩ := token_spec t7 s167 hye
            have t8 := t7.keepK k8
            have F8 := F7.tr (KKF k8)
            have p8 : gi m8 870 1 = nI 0 := (k8.1 _ _ (by omega)).trans p7
            rw [e8, Option.bind_some]
            rw [← sr] at c8
            cases r2 with
            | cons z r3 =>
              have hzm : z ∈ tl T nn y.2.2 := by rw [← sr]; exact List.mem_cons_self
              obtain ⟨hz0, hzk⟩ := tl_kind hzm
              have hzs := mk_small z.1 hzk
              rw [c8.1, if_neg (show ¬ nI (mk z.1) = 0 from fun e => by
                have := (nI_eq (b := 0) (by omega) (by omega)).mp e
                rw [hzs.2.2.2] at this
                omega)]
              exact ⟨m8, rfl, tap _ F8 p8, F8⟩
            | nil =>
              have ro81 : rowM m8 877 0 (mR ns1 is1) := fun z hz => (k8.2.1 _ _ (by omega) (by omega)).trans (ro71 z hz)
              have ro82 : rowM m8 878 0 (mR ns2 is2) := fun z hz => (k8.2.1 _ _ (by omega) (by omega)).trans (ro7 z hz)
              have hc : f_X12_compare TT m8 877 (nI 0) 878 (nI 0) = some (cmpL (rW ns1 is1) (rW ns2 is2)) := by
                rw [mcompare_spec s_877 s_878 (by omega) (by omega) (by omega) (by omega), cmp_tr (rowM_VR ro81 (mR_VR v1.X)) (rowM_VR ro82 (mR_VR v2.X)), rowM_tr ro81, rowM_tr ro82, mR_tr v1.X, mR_tr v2.X]
                rfl
              rw [c8.1, if_pos rfl, t8.1 11 (by omega), show RM 11 = 877 from rfl, t8.1 12 (by omega), show RM 12 = 878 from rfl, show f_X12_compare TT m8 877 0 878 0 = _ from hc, Option.bind_some]
              refine ⟨m8, ?_, tap _ F8 p8, F8⟩
              show _ = some (ord2 T [x, y], m8)
              rw [ord2_two, if_pos ⟨hx8, hy8⟩, rwv_some r1, rwv_some r2']
