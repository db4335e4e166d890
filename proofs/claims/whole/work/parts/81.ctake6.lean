/-! The class: take of the range reader. -/
/-- a token that a range may have, in a text -/
def tokR (T : Nat → Nat) (e : Nat) (x : Tok) : Prop := x.1 = 9 ∨ (isP x.1 = true ∧ x.2.1 < x.2.2 ∧ x.2.2 ≤ e ∧ (T x.2.1 = 42 ∨ ∃ f ns is, rdv T (x.2.1 + opn T x.2.2 x.2.1) x.2.2 = some (f, (ns, is))))
def cP (T : Nat → Nat) (x : Tok) : Row × Row := prt T x.2.2 x.2.1 x.2.2
theorem tokR_BR {T : Nat → Nat} {e : Nat} {x : Tok} (h : tokR T e x) (hP : isP x.1 = true) (he : e ≤ 2000) (hT : ∀ j, j < e → T j < 256) : BR (cP T x).1 ∧ BR (cP T x).2 := by
  rcases h with h | ⟨_, h1, h2, h3⟩
  · rw [h] at hP; cases hP
  · exact prt_BR (fun f ns is hr => rdv_VW (fun j hj => hT j hj) he h2 (opn_in h1) hr)
theorem isP_9 {k : Nat} (h : isP k = true) : k ≠ 9 := fun e => by rw [e] at h; cases h
theorem takeC_lp {c r cap e : Nat} {T : Nat → Nat} {l : List Tok} (hr : r ≤ 36) (hr4 : 4 ≤ r) (hcap : 256 ≤ cap) (hc0 : c ≠ 0) (hc : c < r ∨ r + 1 < c) (hc2 : c < 42 ∨ 58 < c) (hs : sh TT c = some (.inr (.byte, 2000))) (he : e ≤ 2000) (htk : ∀ x ∈ l, tokR T e x) :
    ∀ (rest : List Tok) (k a p N : Nat) (m : Mi) (lo hi : Row) (R : List Row), l.drop k = rest → rest.length < N → k < 10000 → chk rest a p = (0, rest.length) → (0 < p → a ≤ 16) → 1 ≤ a → R.length ≤ 2 * (a - 1) → GB R → BR lo → BR hi →
      WR m → OB m → WT m → TLs m l → Tx m c e T → RG TT m r cap R → rowL m 53 0 = lo → rowL m 54 0 = hi →
      ∃ m', (lp (fun x : Int32 × Mi => f_X5_take_l11 TT x.2 48 c 42 r x.1) N (nI k, m)).bind (fun y : Mi => f_X5_take_j70 TT y 48 r) = some m' ∧ RG TT m' r cap (rgo (cP T) rest lo hi R) ∧ GB (rgo (cP T) rest lo hi R) ∧ WR m' ∧ OB m' ∧ Fr (FT r) m m' := by
  intro rest
  induction rest with
  | nil =>
    intro k a p N m lo hi R hd hN hk hchk hpa ha1 hl hR hlo hhi hW hO hWT hL hT hRG h53 h54
    have hkl := drop_nil hd
    have h2 := hL.2.1
    obtain ⟨N, rfl⟩ : ∃ z, N = z + 1 := ⟨N - 1, by omega⟩
    have hp : 0 < p := by
      rw [chk] at hchk
      have := congrArg (fun z => z.1) hchk
      simp only at this
      by_cases h0 : p = 0
      · rw [if_pos h0] at this; cases this
      · omega
    have hl30 : R.length ≤ 30 := by have := hpa hp; omega
    rw [lp_exit (y := m)]
    · obtain ⟨m', e1, g1, w1, o1, f1⟩ := closeAll_spec hW hO hr hRG hcap hR hl30 h53 h54
      refine ⟨m', ?_, g1, (jo1_GB hR hl30 hlo hhi).1, w1, o1, f1⟩
      show f_X5_take_j70 TT m 48 r = _
      unfold f_X5_take_j70
      rw [e1]
      rfl
    · show f_X5_take_l11 TT m 48 c 42 r (nI k) = _
      unfold f_X5_take_l11
      rw [ob_of s_42, if_pos rfl, tsize_spec hL, Option.bind_some, if_pos (nI_le hkl (by omega))]
  | cons x rest ih =>
    intro k a p N m lo hi R hd hN hk hchk hpa ha1 hl hR hlo hhi hW hO hWT hL hT hRG h53 h54
    obtain ⟨hx, hd2, hkl⟩ := drop_cons hd
    have h2 := hL.2.1
    simp only [List.length_cons] at hN
    obtain ⟨N, rfl⟩ : ∃ z, N = z + 1 := ⟨N - 1, by omega⟩
    have hxm := htk x (List.mem_of_getElem? hx)
    rw [chk] at hchk
    simp only [List.length_cons] at hchk
    -- the frame keeps what the loop reads
    have keepA : ∀ m1, Fr (FT r) m m1 → WT m1 ∧ TLs m1 l ∧ Tx m1 c e T := by
      intro m1 f1
      exact ⟨hWT.keepF f1, hL.keep (fun y j a b => (f1.1 y j (by unfold FT; omega)).1), fun j hj => ⟨(f1.1 _ _ (by unfold FT; omega)).1.trans (hT j hj).1, (hT j hj).2⟩⟩
    have hbody : f_X5_take_l11 TT m 48 c 42 r (nI k) = if x.1 = 9 then ((f_X5_closeAll TT m 48 r).bind fun m10 => (f_X5_openAll TT m10 48).bind fun m11 => some (.inl (nI (k + 1), m11))) else ((f_X5_takePart TT m 48 c (nI x.2.1) (nI x.2.2)).bind fun m15 => (f_X5_narrowAll TT m15 48).bind fun m16 => some (.inl (nI (k + 1), m16))) := by
      unfold f_X5_take_l11
      have hx100 : x.1 < 100 := by
        rcases hxm with h | ⟨h, _⟩
        · omega
        · unfold isP at h
          simp only [Bool.or_eq_true, decide_eq_true_eq] at h
          omega
      have hpl : f_X9_placeAt TT m 42 (nI k) = some (nI x.2.1) := by
        unfold f_X9_placeAt
        rw [if_neg (nI_pos (by omega)), hL.1, hWT.2.1, if_neg (nI_ge hkl (by omega)), if_pos (ar_of s_44 (by omega) (by omega)), ix_nI (by omega), (hL.2.2 k _ hx).2.1]
      have hen : f_X9_endAt TT m 42 (nI k) = some (nI x.2.2) := by
        unfold f_X9_endAt
        rw [if_neg (nI_pos (by omega)), hL.1, hWT.2.2.1, if_neg (nI_ge hkl (by omega)), if_pos (ar_of s_45 (by omega) (by omega)), ix_nI (by omega), (hL.2.2 k _ hx).2.2]
      rw [ob_of s_42, if_pos rfl, tsize_spec hL, Option.bind_some, if_neg (nI_ge hkl (by omega)), kindAt_spec hWT hL (by omega), hd, Option.bind_some, hpl, hen, show kd0 (x :: rest) = x.1 from rfl]
      simp only [lt_eq, nI_1, Option.bind_some]
      by_cases h9 : x.1 = 9
      · rw [if_pos h9, if_pos (show nI x.1 = 9 by rw [h9]; rfl)]
      · rw [if_neg h9, if_neg (show ¬ nI x.1 = 9 from fun z => h9 ((nI_eq (b := 9) (by omega) (by omega)).mp z))]
    rw [rgo]
    by_cases hP : isP x.1 = true
    · rw [if_pos hP] at hchk
      have hc16 : ¬ (6 < p + 1 ∨ 16 < a) := by
        intro z
        rw [if_pos z] at hchk
        cases hchk
      rw [if_neg hc16] at hchk
      have hchk2 : chk rest a (p + 1) = (0, rest.length) := by
        have h1 := congrArg (fun z => z.1) hchk
        have h2 := congrArg (fun z => z.2) hchk
        simp only at h1 h2
        exact Prod.ext h1 (by show (chk rest a (p + 1)).2 = rest.length; omega)
      have hb := tokR_BR hxm hP he (fun j hj => (hT j hj).2)
      rw [if_neg (isP_9 hP)] at hbody ⊢
      obtain ⟨_, q1, q2, q3⟩ := hxm.resolve_left (isP_9 hP)
      obtain ⟨m1, e1, r1, r2, f1⟩ := takePartC (m := m) (c := c) (b := x.2.1) (e := x.2.2) (T := T) hW hc0 (by omega) hs (by omega) q1 (fun j hj => hT j (by omega)) q3
      have f1' : Fr (FT r) m m1 := f1.mono (fun y hy => by unfold FT; omega)
      have hW1 := hW.keep f1
      have g53 : rowL m1 53 0 = lo := by rw [← h53]; exact rowF_congr (fun q _ => (f1.1 _ _ (by omega)).2)
      have g54 : rowL m1 54 0 = hi := by rw [← h54]; exact rowF_congr (fun q _ => (f1.1 _ _ (by omega)).2)
      obtain ⟨m2, e2, n53, n54, k1, k2, k3⟩ := narrowAll_spec hW1 r1 r2 g53 g54
      have f2 : Fr (FT r) m1 m2 := ⟨fun y j hy => ⟨k1 y j, k2 y j (fun z => hy (by rw [z]; unfold FT; omega)) (fun z => hy (by rw [z]; unfold FT; omega))⟩, fun y j _ => k3 y j⟩
      have fm := f1'.tr f2
      obtain ⟨kw, kl, kx⟩ := keepA m2 fm
      rw [e1, Option.bind_some, e2, Option.bind_some] at hbody
      have hO2 : OB m2 := by
        obtain ⟨⟨A, hA⟩, B, hB⟩ := hO
        exact ⟨⟨A, KL2 (hA.keepF f1 (by omega) (by omega) (by unfold NR; omega)) k1 k2 k3 (by omega) (by omega)⟩, B, KL2 (hB.keepF f1 (by omega) (by omega) (by unfold NR; omega)) k1 k2 k3 (by omega) (by omega)⟩
      have hRG2 : RG TT m2 r cap R := KL2 (hRG.keepF f1 (by omega) (by omega) (by unfold NR; omega)) k1 k2 k3 (by omega) (by omega)
      obtain ⟨m', e3, g1, g2, g3, g4, g5⟩ := ih (k + 1) a (p + 1) N m2 _ _ R hd2 (by omega) (by omega) hchk2 (fun _ => by omega) ha1 hl hR (mxBR hlo hb.1) (mnBR hhi hb.2) (hW1.keep f2) hO2 kw kl kx hRG2 n53 n54
      refine ⟨m', ?_, g1, g2, g3, g4, fm.tr g5⟩
      rw [lp_step (x' := (nI (k + 1), m2)) hbody]
      exact e3
    · rw [if_neg hP] at hchk
      have h9p : x.1 = 9 ∧ 0 < p := by
        by_cases z : x.1 = 9 ∧ 0 < p
        · exact z
        · rw [if_neg z] at hchk
          have := congrArg (fun z => z.2) hchk
          simp at this
      rw [if_pos h9p] at hchk
      have hchk2 : chk rest (a + 1) 0 = (0, rest.length) := by
        have h1 := congrArg (fun z => z.1) hchk
        have h2 := congrArg (fun z => z.2) hchk
        simp only at h1 h2
        exact Prod.ext h1 (by show (chk rest (a + 1) 0).2 = rest.length; omega)
      have ha16 := hpa h9p.2
      have hl30 : R.length ≤ 30 := by omega
      rw [if_pos h9p.1] at hbody ⊢
      obtain ⟨m1, e1, g1, w1, o1, f1⟩ := closeAll_spec hW hO hr hRG hcap hR hl30 h53 h54
      obtain ⟨m2, e2, n53, n54, k1, k2, k3⟩ := openAll_spec w1
      have f2 : Fr (FT r) m1 m2 := ⟨fun y j hy => ⟨k1 y j, k2 y j (fun z => hy (by rw [z]; unfold FT; omega)) (fun z => hy (by rw [z]; unfold FT; omega))⟩, fun y j _ => k3 y j⟩
      have fm := f1.tr f2
      obtain ⟨kw, kl, kx⟩ := keepA m2 fm
      rw [e1, Option.bind_some, e2, Option.bind_some] at hbody
      have hO2 : OB m2 := by
        obtain ⟨⟨A, hA⟩, B, hB⟩ := o1
        exact ⟨⟨A, KL2 hA k1 k2 k3 (by omega) (by omega)⟩, B, KL2 hB k1 k2 k3 (by omega) (by omega)⟩
      have gj := jo1_GB hR hl30 hlo hhi
      obtain ⟨m', e3, q1, q2, q3, q4, q5⟩ := ih (k + 1) (a + 1) 0 N m2 LE EN _ hd2 (by omega) (by omega) hchk2 (fun z => by omega) (by omega) (by omega) gj.1 BR_LE BR_EN (w1.keep f2) hO2 kw kl kx (KL2 g1 k1 k2 k3 (by omega) (by omega)) n53 n54
      refine ⟨m', ?_, q1, q2, q3, q4, fm.tr q5⟩
      rw [lp_step (x' := (nI (k + 1), m2)) hbody]
      exact e3
theorem GB_nil : GB [] := ⟨⟨List.Pairwise.nil, fun x hx => (by cases hx)⟩, rfl, by simp, fun x hx => (by cases hx)⟩
theorem takeC {m : Mi} {c r cap e : Nat} {T : Nat → Nat} {l : List Tok} {R : List Row} (hr : r ≤ 36) (hr4 : 4 ≤ r) (hcap : 256 ≤ cap) (hc0 : c ≠ 0) (hc : c < r ∨ r + 1 < c) (hc2 : c < 42 ∨ 58 < c) (hs : sh TT c = some (.inr (.byte, 2000))) (he : e ≤ 2000) (htk : ∀ x ∈ l, tokR T e x) (hchk : chk l 1 0 = (0, l.length)) (hW : WR m) (hO : OB m) (hWT : WT m) (hL : TLs m l) (hT : Tx m c e T) (hRG : RG TT m r cap R) :
    ∃ m', f_X5_take TT m 48 c 42 r = some m' ∧ RG TT m' r cap (rgo (cP T) l LE EN []) ∧ GB (rgo (cP T) l LE EN []) ∧ WR m' ∧ OB m' ∧ Fr (FT r) m m' := by
  have h2 := hL.2.1
  obtain ⟨z1, z2⟩ := hRG.zero
  have f0 : Fr (FT r) m (si m r 1 0) := z2.F (by unfold FT; omega) (by unfold FT; omega)
  have hW0 := hW.keep f0
  obtain ⟨m2, e2, n53, n54, k1, k2, k3⟩ := openAll_spec hW0
  have f2 : Fr (FT r) (si m r 1 0) m2 := ⟨fun y j hy => ⟨k1 y j, k2 y j (fun z => hy (by rw [z]; unfold FT; omega)) (fun z => hy (by rw [z]; unfold FT; omega))⟩, fun y j _ => k3 y j⟩
  have fm := f0.tr f2
  have hO2 : OB m2 := by
    obtain ⟨⟨A, hA⟩, B, hB⟩ := hO
    exact ⟨⟨A, KL2 (hA.keep z2 (by omega)) k1 k2 k3 (by omega) (by omega)⟩, B, KL2 (hB.keep z2 (by omega)) k1 k2 k3 (by omega) (by omega)⟩
  obtain ⟨m', e3, g1, g2, g3, g4, g5⟩ := takeC_lp hr hr4 hcap hc0 hc hc2 hs he htk l 0 1 0 FUEL m2 LE EN [] rfl (by unfold FUEL; omega) (by omega) hchk (fun z => by omega) (by omega) (by simp) GB_nil BR_LE BR_EN (hW0.keep f2) hO2 (hWT.keepF fm) (hL.keep (fun y j a b => (fm.1 y j (by unfold FT; omega)).1)) (fun j hj => ⟨(fm.1 _ _ (by unfold FT; omega)).1.trans (hT j hj).1, (hT j hj).2⟩) (KL2 z1 k1 k2 k3 (by omega) (by omega)) n53 n54
  refine ⟨m', ?_, g1, g2, g3, g4, fm.tr g5⟩
  unfold f_X5_take f_X5_take_j11 f_X4_clear
  rw [ob_of hRG.1, if_pos rfl, lt_eq, Option.bind_some, e2, Option.bind_some]
  exact e3
