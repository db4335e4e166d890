/-! resolve of the reference, the whole. -/
def FR9 (x j : Nat) : Prop := (900 ≤ x ∧ x ≤ 910) ∨ (x = 870 ∧ 49 ≤ j ∧ j ≤ 57)
def FSt (x j : Nat) : Prop := (901 ≤ x ∧ x ≤ 906) ∨ x = 910 ∨ (x = 870 ∧ j = 57)
theorem settleM_lp {s n : Nat} {T : Nat → Nat} {G : Rg} {F : Fnd} {a : Int32} (hO : RO T n G) (hFO : FO T G F) : ∀ (d k N : Nat) (m : Mi) (x : Nat → Nat), k + d = G.1.length → d < N → ME s m T n G → OnM m aT → LkM m G F → FxM m (fxL k x) → (∀ i, i < k → x i < 7) → (∀ p, p < k → EX T G p x (x p) ∧ ∀ v, EX T G p x v → ¬ pre T G (lkd F a) p v (x p)) → (∃ f, SL T G aT f ∧ ∀ i, i < k → f i = x i) →
    ∃ m' x', lp (fun y : Int32 × Mi => f_X12_resolve_l36 TT y.2 870 a y.1) N (nI k, m) = some m' ∧ FI FSt m m' ∧ Best T G (lkd F a) x' ∧ ∀ i, i < G.1.length → gi m' 904 i = nI (x' i) ∧ x' i < 7 := by
  have hB := hO.2.1
  have hB1 := hB.1
  intro d
  induction d with
  | zero =>
    intro k N m x hk hN hE hA hL hF h7 hbest hex
    obtain ⟨N, rfl⟩ : ∃ y, N = y + 1 := ⟨N - 1, by omega⟩
    have hkl : k = G.1.length := by omega
    refine ⟨m, x, lp_exit ?_, FI.rf, fun p hp => hbest p (by omega), fun i hi => ⟨?_, h7 i (by omega)⟩⟩
    · show f_X12_resolve_l36 TT m 870 a (nI k) = _
      unfold f_X12_resolve_l36
      rw [hE.2.2.1, hE.1.W.1, if_pos (ar_of s_881 hE.2.1 (by omega)), ix_nI (by have := hE.2.1; omega), hE.2.2.2.1.1.1, if_pos (nI_le (by omega) (by omega))]
    · rcases hF i (by omega) with ⟨h1, _⟩ | ⟨v, _, h2, h3⟩
      · unfold fxL at h1
        rw [if_pos (by omega)] at h1
        cases h1
      · unfold fxL at h2
        rw [if_pos (by omega)] at h2
        rw [h3, Option.some.inj h2]
  | succ d ih =>
    intro k N m x hk hN hE hA hL hF h7 hbest hex
    obtain ⟨N, rfl⟩ : ∃ y, N = y + 1 := ⟨N - 1, by omega⟩
    have hs := hE.2.1
    have hp : k < G.1.length := by omega
    have h6 := hO.2.2.2.1.1 k
    obtain ⟨V, Ln, m1, e1, f1, g57, hLn, g910, hR⟩ := rows_M a hO hE hL hFO hp
    have hE1 := hE.keep hB f1 (fun x j z => by unfold FRw at z; omega)
    obtain ⟨f, hf1, hf2⟩ := hex
    have hEXf : EX T G k x (f k) := ⟨f, hf1, hf2, rfl⟩
    have okv : ∀ v, EX T G k x v → v ≤ cntR G.2.1 k ∧ (v = 0 → ¬ Wn T G k) := fun v hv => ⟨EX_le hv hp, fun h0 hw => by
      obtain ⟨f', h1, _, h3⟩ := hv
      exact Wn_no hw hp h1 (h3.trans h0)⟩
    obtain ⟨i0, hi0, hVi0⟩ := hR.2.1 (f k) (okv _ hEXf).1 (okv _ hEXf).2
    obtain ⟨i, m2, e2, hi, hEXi, hno, g904, f2⟩ := tries_lp (a := a) (x := x) (V := V) hO hp hLn (fun i hi => by have := hR.1 i hi; omega) h7 Ln 0 FUEL m1 (by omega) (by unfold FUEL; omega) hE1 (fun c hc => (f1.1 _ _ (by unfold FRw; omega)).trans (hA c hc)) (fun i hi hik => by
      rw [f1.1 904 i (by unfold FRw; omega)]
      exact hF i hi) g57 g910 (fun i hi => by omega) ⟨i0, hi0, by rw [hVi0]; exact hEXf⟩
    have hbody : f_X12_resolve_l36 TT m 870 a (nI k) = some (.inl (nI (k + 1), m2)) := by
      unfold f_X12_resolve_l36
      rw [hE.2.2.1, hE.1.W.1, if_pos (ar_of s_881 hE.2.1 (by omega)), ix_nI (by have := hE.2.1; omega), hE.2.2.2.1.1.1, if_neg (nI_ge (by omega) (by omega)), e1, Option.bind_some]
      unfold f_X12_resolve_j60
      rw [show ((0 : Int32), (0 : Int32), m1) = (0, nI 0, m1) from rfl, e2, Option.bind_some]
      unfold f_X12_resolve_j107
      rw [lt_eq, nI_1]
    rw [lp_step hbody]
    have f1' : FI FSt m m1 := f1.mono (fun x j z => by unfold FRw at z; unfold FSt; omega)
    have f2' : FI FSt m1 m2 := f2.mono (fun x j z => by unfold FTr FSo at z; unfold FSt; omega)
    have f12 := f1'.tr f2'
    have hx' : ∀ j, (fun j => if j = k then V i else x j) j = if j = k then V i else x j := fun j => rfl
    have hxlt : ∀ j, j < k → (fun j => if j = k then V i else x j) j = x j := fun j hj => by simp only; rw [if_neg (by omega)]
    have hxk : (fun j => if j = k then V i else x j) k = V i := if_pos rfl
    generalize (fun j => if j = k then V i else x j) = x' at hx' hxlt hxk
    obtain ⟨m', x'', e3, f3, hb, hc⟩ := ih (k + 1) N m2 x' (by omega) (by omega) (hE.keep hB f12 (fun x j z => by unfold FSt at z; omega)) (fun c hc => (f12.1 _ _ (by unfold FSt; omega)).trans (hA c hc)) (hL.keep (f12.1 _ _ (by unfold FSt; omega)) (fun j => f12.1 _ _ (by unfold FSt; omega))) (fun j hj => by
      by_cases hjk : j = k
      · refine Or.inr ⟨V i, by have := hR.1 i hi; omega, ?_, by rw [hjk]; exact g904⟩
        unfold fxL
        rw [if_pos (by omega), hjk, hxk]
      · have h := hF j hj
        rw [show gi m2 904 j = gi m 904 j from (f2.1 _ _ (by unfold FTr FSo; omega)).trans (f1.1 _ _ (by unfold FRw; omega))]
        have e : fxL (k + 1) x' j = fxL k x j := by
          unfold fxL
          by_cases hlt : j < k
          · rw [if_pos (by omega), if_pos hlt, hxlt j hlt]
          · rw [if_neg (by omega), if_neg hlt]
        rw [e]
        exact h) (fun j hj => by
      by_cases hjk : j = k
      · rw [hjk, hxk]
        have := hR.1 i hi
        omega
      · rw [hxlt j (by omega)]
        exact h7 j (by omega)) (fun q hq => by
      by_cases hqk : q = k
      · subst hqk
        rw [hxk]
        refine ⟨EX_congr (fun j hj => (hxlt j hj).symm) hEXi, fun v hv hpre => ?_⟩
        have hv' : EX T G q x v := EX_congr (fun j hj => hxlt j hj) hv
        obtain ⟨j, hj1, hj2⟩ := hR.2.2 i v hi hpre (okv v hv').1 (okv v hv').2
        exact hno j hj1 (by rw [hj2]; exact hv')
      · obtain ⟨h1, h2⟩ := hbest q (by omega)
        rw [hxlt q (by omega)]
        exact ⟨EX_congr (fun j hj => (hxlt j (by omega)).symm) h1, fun v hv => h2 v (EX_congr (fun j hj => hxlt j (by omega)) hv)⟩) (by
      obtain ⟨f', h1, h2, h3⟩ := hEXi
      refine ⟨f', h1, fun j hj => ?_⟩
      by_cases hjk : j = k
      · rw [hjk, hxk, h3]
      · rw [hxlt j (by omega)]
        exact h2 j (by omega))
    exact ⟨m', x'', e3, f12.tr f3, hb, hc⟩
theorem store_lp {s n : Nat} {T : Nat → Nat} {G : Rg} {x : Nat → Nat} (hO : RO T n G) (h7 : ∀ i, i < G.1.length → x i < 7) : ∀ (d k N : Nat) (m : Mi), k + d = G.1.length → d < N → ME s m T n G → (∀ i, i < G.1.length → gi m 904 i = nI (x i)) → gi m 870 51 = nI (nzC k x) → (∀ i, i < k → gi m 907 i = nI (x i) ∧ gi m 908 i = nI (x i)) →
    ∃ m', lp (fun y : Int32 × Mi => f_X12_resolve_l120 TT y.2 870 y.1) N (nI k, m) = some m' ∧ FI (fun z j => z = 907 ∨ z = 908 ∨ (z = 870 ∧ j = 51)) m m' ∧ gi m' 870 51 = nI (nzC G.1.length x) ∧ ∀ i, i < G.1.length → gi m' 907 i = nI (x i) ∧ gi m' 908 i = nI (x i) := by
  have hB := hO.2.1
  have hB1 := hB.1
  intro d
  induction d with
  | zero =>
    intro k N m hk hN hE h904 h51 h907
    obtain ⟨N, rfl⟩ : ∃ y, N = y + 1 := ⟨N - 1, by omega⟩
    have hkl : k = G.1.length := by omega
    refine ⟨m, lp_exit ?_, FI.rf, by rw [← hkl]; exact h51, fun i hi => h907 i (by omega)⟩
    show f_X12_resolve_l120 TT m 870 (nI k) = _
    unfold f_X12_resolve_l120
    rw [hE.2.2.1, hE.1.W.1, if_pos (ar_of s_881 hE.2.1 (by omega)), ix_nI (by have := hE.2.1; omega), hE.2.2.2.1.1.1, if_pos (nI_le (by omega) (by omega))]
  | succ d ih =>
    intro k N m hk hN hE h904 h51 h907
    obtain ⟨N, rfl⟩ : ∃ y, N = y + 1 := ⟨N - 1, by omega⟩
    have hz := nzC_le k x
    have h7k := h7 k (by omega)
    have g1 : gi (si m 907 k (nI (x k))) 904 k = nI (x k) := by simp only [mS]; rw [if_neg (by omega)]; exact h904 k (by omega)
    have g2 : gi (si (si m 907 k (nI (x k))) 908 k (nI (x k))) 907 k = nI (x k) := by simp only [mS]; rw [if_neg (by omega), if_pos ⟨trivial, trivial⟩]
    have g3 : gi (si (si m 907 k (nI (x k))) 908 k (nI (x k))) 870 51 = nI (nzC k x) := by simp only [mS]; rw [if_neg (by omega), if_neg (by omega)]; exact h51
    have hbody : f_X12_resolve_l120 TT m 870 (nI k) = some (.inl (nI (k + 1), si (si (si m 907 k (nI (x k))) 908 k (nI (x k))) 870 51 (nI (nzC (k + 1) x)))) := by
      unfold f_X12_resolve_l120 f_X12_resolve_j176
      rw [hE.2.2.1, hE.1.W.1, if_pos (ar_of s_881 hE.2.1 (by omega)), ix_nI (n := s) (by have := hE.2.1; omega), hE.2.2.2.1.1.1, if_neg (nI_ge (by omega) (by omega)), show gr m 870 46 = 904 from hE.1 46 (by omega), if_pos (ar_of s_904 (by omega) (by omega)), show gr m 870 53 = 907 from hE.1 53 (by omega), if_pos (ar_of s_907 (by omega) (by omega)), lt_eq, ix_nI (n := k) (by omega), h904 k (by omega), show gr (si m 907 k (nI (x k))) 870 46 = 904 from hE.1 46 (by omega), if_pos (ar_of s_904 (by omega) (by omega)), show gr (si m 907 k (nI (x k))) 870 54 = 908 from hE.1 54 (by omega), if_pos (ar_of s_908 (by omega) (by omega)), lt_eq, g1, show gr (si (si m 907 k (nI (x k))) 908 k (nI (x k))) 870 53 = 907 from hE.1 53 (by omega), if_pos (ar_of s_907 (by omega) (by omega)), g2, g3, ob_of s_870, if_pos rfl, if_pos rfl, nzC_succ]
      by_cases h0 : x k = 0
      · rw [if_pos (show nI (x k) ≤ 0 by rw [h0]; decide), if_pos h0, lt_eq, lt_eq, nI_1]
        simp
      · rw [if_neg (show ¬ nI (x k) ≤ 0 from nI_ge (a := 0) (by omega) (by omega)), if_neg h0, lt_eq, lt_eq, nI_1, nI_1]
    rw [lp_step hbody]
    have f1 : FI (fun z j => z = 907 ∨ z = 908 ∨ (z = 870 ∧ j = 51)) m (si (si (si m 907 k (nI (x k))) 908 k (nI (x k))) 870 51 (nI (nzC (k + 1) x))) := ((FI.si (P := fun z j => z = 907 ∨ z = 908 ∨ (z = 870 ∧ j = 51)) (Or.inl rfl)).tr (FI.si (P := fun z j => z = 907 ∨ z = 908 ∨ (z = 870 ∧ j = 51)) (Or.inr (Or.inl rfl)))).tr (FI.si (P := fun z j => z = 907 ∨ z = 908 ∨ (z = 870 ∧ j = 51)) (Or.inr (Or.inr ⟨rfl, rfl⟩)))
    obtain ⟨m', e2, f2, c1, c2⟩ := ih (k + 1) N _ (by omega) (by omega) (hE.keep hB f1 (fun z j e => by omega)) (fun i hi => (f1.1 _ _ (by omega)).trans (h904 i hi)) (gi_si _ _ _ _) (fun i hi => by
      by_cases hik : i = k
      · rw [hik]
        constructor
        · simp only [mS]; rw [if_neg (by omega), if_neg (by omega), if_pos ⟨trivial, trivial⟩]
        · simp only [mS]; rw [if_neg (by omega), if_pos ⟨trivial, trivial⟩]
      · have := h907 i (by omega)
        constructor
        · simp only [mS]; rw [if_neg (by omega), if_neg (by omega), if_neg (by omega)]; exact this.1
        · simp only [mS]; rw [if_neg (by omega), if_neg (by omega), if_neg (by omega)]; exact this.2)
    exact ⟨m', e2, f1.tr f2, c1, c2⟩
theorem resolve_M {m : Mi} {T : Nat → Nat} {n : Nat} {G : Rg} {F : Fnd} (hM : WFM m) (hR : MRg m T n G) (hO : RO T n G) (hF : FnM m G F) (hFO : FO T G F) (a : Int32) :
    ∃ v m', f_X12_resolve TT m 870 a = some (v, m') ∧ FI FR9 m m' ∧ (((∃ f, SL T G aT f) ∧ v = 1 ∧ ∃ x, Best T G (lkd F a) x ∧ FnM m' G (some (.inl x))) ∨ ((¬ ∃ f, SL T G aT f) ∧ v = 0 ∧ FnM m' G (some (.inr (rsL T G))))) := by
  have hB := hO.2.1
  have hB1 := hB.1
  obtain ⟨s, hs, h21, hRs⟩ := hR
  have hE : ME s m T n G := ⟨hM, hs, h21, hRs⟩
  obtain ⟨m1, e1, f1, a1, x1⟩ := allOn_M hB hE
  have f1' : FI FR9 m m1 := f1.mono (fun x j z => by unfold FSa at z; unfold FR9; omega)
  have f2 : FI FR9 m (si m1 870 50 0) := f1'.tr (FI.si (P := FR9) (by unfold FR9; omega))
  have hE2 := hE.keep hB f2 (fun x j z => by unfold FR9 at z; omega)
  have hA2 : OnM (si m1 870 50 0) aT := fun c hc => by simp only [mS]; rw [if_neg (by omega)]; exact a1 c hc
  have hF2 : FxM (si m1 870 50 0) nof := fun p hp => by rw [show gi (si m1 870 50 0) 904 p = gi m1 904 p by simp only [mS]; rw [if_neg (by omega)]]; exact x1 p hp
  have hL2 : LkM (si m1 870 50 0) G F := hF.L.keep (by simp only [mS]; rw [if_neg (by omega)]; exact f1.1 _ _ (by unfold FSa; omega)) (fun j => by simp only [mS]; rw [if_neg (by omega)]; exact f1.1 _ _ (by unfold FSa; omega))
  have g50 : gi (si m1 870 50 0) 870 50 = 0 := gi_si _ _ _ _
  have hunf : ∀ y, f_X12_solved TT (si m1 870 50 0) 870 1 = some y → f_X12_resolve TT m 870 a = if y.1 = 0 then (f_X12_findsReason TT y.2 870).bind fun m6 => lt (si m6 870 49 2) fun m7 => lt (si m7 870 51 0) fun m8 => some (0, m8) else f_X12_resolve_j36 TT y.2 870 a 0 := fun y hy => by
    unfold f_X12_resolve
    rw [e1, Option.bind_some, lt_eq, hy]
    rfl
  generalize si m1 870 50 0 = m2 at *
  obtain ⟨m3, e3, f3⟩ := solved_M (most := 1) hO hE2 hA2 hF2 (by omega) (by omega)
  rw [NF_nof] at e3
  have f3' : FI FR9 m2 m3 := f3.mono (fun x j z => by unfold FSo at z; unfold FR9; omega)
  have hE3 := hE2.keep hB f3' (fun x j z => by unfold FR9 at z; omega)
  have hA3 : OnM m3 aT := fun c hc => (f3.1 _ _ (by unfold FSo; omega)).trans (hA2 c hc)
  have hF3 : FxM m3 nof := fun p hp => by rw [f3.1 904 p (by unfold FSo; omega)]; exact hF2 p hp
  have hL3 : LkM m3 G F := hL2.keep (f3.1 _ _ (by unfold FSo; omega)) (fun j => f3.1 _ _ (by unfold FSo; omega))
  have g50' : gi m3 870 50 = 0 := (f3.1 _ _ (by unfold FSo; omega)).trans g50
  have hgo := hunf _ e3
  have f23 := f2.tr f3'
  by_cases hz : NS G.1.length (dm0 T G aT) (bb T G aT) = 0
  · have hno := (NS_0 hO aT).mp hz
    rw [hz, Nat.min_zero] at hgo
    simp only at hgo
    rw [if_pos (show nI 0 = 0 from rfl)] at hgo
    obtain ⟨m4, e4, f4, c1, c2⟩ := findsReason_M hO hE3 hA3 hF3 g50'
    rw [e4, Option.bind_some, lt_eq, lt_eq] at hgo
    have f4' : FI FR9 m3 m4 := f4.mono (fun x j z => by unfold FR9; omega)
    have f5 : FI FR9 m4 (si (si m4 870 49 2) 870 51 0) := (FI.si (P := FR9) (by unfold FR9; omega)).tr (FI.si (P := FR9) (by unfold FR9; omega))
    have g52 : gi m4 870 52 = 0 := by
      rw [f4.1 _ _ (by omega)]
      cases F with
      | none => exact hL3
      | some F =>
        cases F with
        | inl g => exact absurd ⟨g, hFO⟩ hno
        | inr L => exact hL3
    refine ⟨0, _, hgo, (f23.tr f4').tr f5, Or.inr ⟨hno, rfl, ?_, ?_, ?_, ?_, fun i c hi => ?_⟩⟩
    · simp only [mS]; rw [if_neg (by omega), if_pos ⟨trivial, trivial⟩]
    · simp only [mS]; rw [if_neg (by omega), if_neg (by omega)]; exact c1
    · exact gi_si _ _ _ _
    · simp only [mS]; rw [if_neg (by omega), if_neg (by omega)]; exact g52
    · simp only [mS]; rw [if_neg (by omega), if_neg (by omega)]; exact c2 i c hi
  · have hyes : ∃ f, SL T G aT f := by
      by_cases h : ∃ f, SL T G aT f
      · exact h
      · exact absurd ((NS_0 hO aT).mpr h) hz
    rw [show min 1 (NS G.1.length (dm0 T G aT) (bb T G aT)) = 1 by omega] at hgo
    simp only at hgo
    rw [if_neg (show ¬ nI 1 = 0 by decide)] at hgo
    obtain ⟨m4, x, e4, f4, hb, hc⟩ := settleM_lp (a := a) hO hFO G.1.length 0 FUEL m3 (fun _ => 0) (by omega) (by unfold FUEL; omega) hE3 hA3 hL3 (fun p hp => by
      have h := hF3 p hp
      rw [show fxL 0 (fun _ => 0) p = nof p by unfold fxL; rw [if_neg (by omega)]; rfl]
      exact h) (fun i hi => by omega) (fun p hp => by omega) (by
      obtain ⟨f, hf⟩ := hyes
      exact ⟨f, hf, fun i hi => by omega⟩)
    have f4' : FI FR9 m3 m4 := f4.mono (fun x j z => by unfold FSt at z; unfold FR9; omega)
    have f5 : FI FR9 m4 (si m4 870 51 0) := FI.si (P := FR9) (by unfold FR9; omega)
    have f25 := (f23.tr f4').tr f5
    obtain ⟨m6, e6, f6, c1, c2⟩ := store_lp (x := x) hO (fun i hi => (hc i hi).2) G.1.length 0 FUEL (si m4 870 51 0) (by omega) (by unfold FUEL; omega) (hE.keep hB f25 (fun x j z => by unfold FR9 at z; omega)) (fun i hi => by simp only [mS]; rw [if_neg (by omega)]; exact (hc i hi).1) (gi_si _ _ _ _) (fun i hi => by omega)
    have f6' : FI FR9 (si m4 870 51 0) m6 := f6.mono (fun x j z => by unfold FR9; omega)
    have f7 : FI FR9 m6 (si (si m6 870 52 1) 870 49 1) := (FI.si (P := FR9) (by unfold FR9; omega)).tr (FI.si (P := FR9) (by unfold FR9; omega))
    refine ⟨1, si (si m6 870 52 1) 870 49 1, ?_, (f25.tr f6').tr f7, Or.inl ⟨hyes, rfl, x, hb, gi_si _ _ _ _, ?_, ?_, ?_, fun p hp => ?_⟩⟩
    · rw [hgo]
      unfold f_X12_resolve_j36
      rw [show ((0 : Int32), m3) = (nI 0, m3) from rfl, e4, Option.bind_some]
      unfold f_X12_resolve_j113
      rw [lt_eq]
      unfold f_X12_resolve_j120
      rw [show ((0 : Int32), si m4 870 51 0) = (nI 0, si m4 870 51 0) from rfl, e6, Option.bind_some]
      unfold f_X12_resolve_j186
      rw [lt_eq, lt_eq]
    · simp only [mS]; rw [if_neg (by omega), if_neg (by omega)]
      rw [f6.1 _ _ (by omega)]
      simp only [mS]; rw [if_neg (by omega)]
      exact (f4.1 _ _ (by unfold FSt; omega)).trans g50'
    · simp only [mS]; rw [if_neg (by omega), if_neg (by omega)]; exact c1
    · simp only [mS]; rw [if_neg (by omega), if_pos ⟨trivial, trivial⟩]
    · have := c2 p hp
      constructor
      · simp only [mS]; rw [if_neg (by omega), if_neg (by omega)]; exact this.1
      · simp only [mS]; rw [if_neg (by omega), if_neg (by omega)]; exact this.2
