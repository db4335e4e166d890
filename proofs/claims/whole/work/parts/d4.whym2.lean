/-! why of the reference, the whole. -/
theorem linksM_lp {s n r : Nat} {T : Nat → Nat} {G : Rg} {F : Fnd} {a1 a2 : Int32} (hO : RO T n G) (hK : FK T G F) (hr : r < 900) : ∀ (d k N : Nat) (m : Mi), k + d = lnkN G.2.2 → d < N → MW s m T n G F → StM m 911 G.1.length (dK T G F (dS T G F r) r k) →
    ∃ m', lp (fun x : Int32 × Mi => f_X12_why_l123 TT x.2 870 a1 a2 (nI (250 * s)) (nI r) x.1) N (nI k, m) = some m' ∧ FI (fun x j => x = 911) m m' ∧ StM m' 911 G.1.length (dS T G F (r + 1)) := by
  have hB := hO.2.1
  have hB1 := hB.1
  have hB3 := hB.2.2
  have hl := lnkN_le G.2.2
  intro d
  induction d with
  | zero =>
    intro k N m hk hN hW hS
    obtain ⟨N, rfl⟩ : ∃ y, N = y + 1 := ⟨N - 1, by omega⟩
    have hkl : k = lnkN G.2.2 := by omega
    have hs := hW.1.2.1
    refine ⟨m, lp_exit ?_, FI.rf, by rw [dS, ← hkl]; exact hS⟩
    show f_X12_why_l123 TT m 870 a1 a2 (nI (250 * s)) (nI r) (nI k) = _
    unfold f_X12_why_l123
    rw [hW.1.2.2.1, hW.1.1.W.2.2.1, if_pos (ar_of s_883 hs (by omega)), ix_nI (by omega), hW.1.2.2.2.1.1.2.2.1, if_pos (nI_le (by omega) (by omega))]
  | succ d ih =>
    intro k N m hk hN hW hS
    obtain ⟨N, rfl⟩ : ∃ y, N = y + 1 := ⟨N - 1, by omega⟩
    have hs := hW.1.2.1
    obtain ⟨x, hx, c1, c2, c3, c4, c5, c6, c7, c8⟩ := lnk_M hO hW (show k < lnkN G.2.2 by omega)
    have hother : ∀ q', q' ≠ tgc T G k → dK T G F (dS T G F r) r (k + 1) q' = dK T G F (dS T G F r) r k q' := fun q' hq' => dK_no (by
      unfold Qb
      rw [decide_eq_false (p := tgc T G k = q') (fun z => hq' z.symm), Bool.and_false, Bool.and_false])
    have f1 : FI (fun x j => x = 911) m (si m 911 (tgc T G k) (nI (r + 1))) := FI.si (P := fun x j => x = 911) rfl
    have w58 : gr m 870 58 = 911 := hW.1.1 58 (by omega)
    -- what is read
    have hstart : f_X12_why_l123 TT m 870 a1 a2 (nI (250 * s)) (nI r) (nI k) = if gi m 893 (250 * s + k) = 10 then (if spCh G F (nI (hpk G k)) = nI x.2.1 then (if gi m 911 (hpk G k) = nI r then (if gi m 911 (tgc T G k) = -1 then some (.inl (nI (k + 1), si m 911 (tgc T G k) (nI (r + 1)))) else some (.inl (nI (k + 1), m))) else some (.inl (nI (k + 1), m))) else some (.inl (nI (k + 1), m))) else some (.inl (nI (k + 1), m)) := by
      unfold f_X12_why_l123
      rw [hW.1.2.2.1, hW.1.1.W.2.2.1, if_pos (ar_of s_883 hs (by omega)), ix_nI (n := s) (by omega), hW.1.2.2.2.1.1.2.2.1, if_neg (nI_ge (by omega) (by omega)), nI_add, show gr m 870 34 = 892 from hW.1.1 34 (by omega), if_pos (ar_of s_892 (by omega) (by omega)), ix_nI (n := 250 * s + k) (by omega), c1, show (60 : Int32) = nI 60 from rfl, pk_mul, nI_add, show gr m 870 30 = 888 from hW.1.1 30 (by omega), if_pos (ar_of s_888 (by omega) (by omega)), lt_eq, ix_nI (n := 60 * s + x.2.1) (by omega), c4, show gr m 870 38 = 896 from hW.1.1 38 (by omega), if_pos (ar_of s_896 (by omega) (by omega)), lt_eq, c3, show gr m 870 35 = 893 from hW.1.1 35 (by omega), if_pos (ar_of s_893 (by omega) (by omega)), hW.ch hO hK, Option.bind_some, w58, if_pos (ar_of s_911 (by omega) (by omega)), if_pos (ar_of s_911 (by omega) (by omega)), ix_nI (n := hpk G k) (by omega), ix_nI (n := tgc T G k) (by omega)]
      simp only [lt_eq, nI_1]
    have nextm : (∀ q', q' < G.1.length → dK T G F (dS T G F r) r (k + 1) q' = dK T G F (dS T G F r) r k q') → f_X12_why_l123 TT m 870 a1 a2 (nI (250 * s)) (nI r) (nI k) = some (.inl (nI (k + 1), m)) → ∃ m', lp (fun x : Int32 × Mi => f_X12_why_l123 TT x.2 870 a1 a2 (nI (250 * s)) (nI r) x.1) (N + 1) (nI k, m) = some m' ∧ FI (fun x j => x = 911) m m' ∧ StM m' 911 G.1.length (dS T G F (r + 1)) := by
      intro hsame hb
      obtain ⟨m', e2, f2, g2⟩ := ih (k + 1) N m (by omega) (by omega) hW (fun q' hq' => by rw [hsame q' hq']; exact hS q' hq')
      rw [lp_step (show (fun x : Int32 × Mi => f_X12_why_l123 TT x.2 870 a1 a2 (nI (250 * s)) (nI r) x.1) (nI k, m) = _ from hb)]
      exact ⟨m', e2, f2, g2⟩
    have notQ : ¬ (tkB G F k = true ∧ dS T G F r (hpk G k) = some r) → ∀ q', q' < G.1.length → dK T G F (dS T G F r) r (k + 1) q' = dK T G F (dS T G F r) r k q' := fun h q' _ => dK_no (by
      unfold Qb
      cases h1 : tkB G F k with
      | false => rfl
      | true => rw [decide_eq_false (p := dS T G F r (hpk G k) = some r) (fun z => h ⟨h1, z⟩)]; rfl)
    by_cases h5 : x.1 = 5
    · rw [if_pos (c2.mpr h5)] at hstart
      by_cases h6 : spCh G F (nI (hpk G k)) = nI x.2.1
      · rw [if_pos h6] at hstart
        have htk := c8.mpr ⟨h5, h6⟩
        by_cases h7 : dS T G F r (hpk G k) = some r
        · have g7 : gi m 911 (hpk G k) = nI r := by
            rcases hS _ c6 with ⟨e1, _⟩ | ⟨v, hv, e1, e2⟩
            · rw [dK_r.mpr h7] at e1; cases e1
            · rw [dK_r.mpr h7] at e1
              rw [e2, Option.some.inj e1]
          rw [if_pos g7] at hstart
          have hQt : Qb T G F (dS T G F r) r (tgc T G k) k = true := by
            unfold Qb
            rw [htk, decide_eq_true h7, decide_eq_true rfl]
            rfl
          rcases hS _ c7 with ⟨e1, e2⟩ | ⟨v, hv, e1, e2⟩
          · rw [if_pos e2] at hstart
            have hst : dS T G F r (tgc T G k) = none := by
              cases h : dS T G F r (tgc T G k) with
              | none => rfl
              | some v => rw [dK_old h] at e1; cases e1
            obtain ⟨m', e3, f3, g3⟩ := ih (k + 1) N _ (by omega) (by omega) (hW.keep hB f1) (StM_set hS (by omega) (dK_yes hQt hst) hother)
            rw [lp_step (show (fun x : Int32 × Mi => f_X12_why_l123 TT x.2 870 a1 a2 (nI (250 * s)) (nI r) x.1) (nI k, m) = _ from hstart)]
            exact ⟨m', e3, f1.tr f3, g3⟩
          · rw [if_neg (by rw [e2]; exact nneg (by omega))] at hstart
            refine nextm (fun q' hq' => ?_) hstart
            by_cases hqt : q' = tgc T G k
            · rw [hqt, e1]
              cases h : dS T G F r (tgc T G k) with
              | some w => rw [dK_old h] at e1 ⊢; exact e1
              | none =>
                rw [dK_yes hQt h]
                unfold dK at e1
                rw [h] at e1
                simp only at e1
                split at e1
                · exact e1
                · cases e1
            · exact hother q' hqt
        · have g7 : ¬ gi m 911 (hpk G k) = nI r := by
            rcases hS _ c6 with ⟨e1, e2⟩ | ⟨v, hv, e1, e2⟩
            · rw [e2]; exact fun z => nneg (n := r) (by omega) z.symm
            · rw [e2]
              intro z
              have := (nI_eq (by omega) (by omega)).mp z
              rw [this] at e1
              exact h7 (dK_r.mp e1)
          rw [if_neg g7] at hstart
          exact nextm (notQ (fun z => h7 z.2)) hstart
      · rw [if_neg h6] at hstart
        exact nextm (notQ (fun z => h6 (c8.mp z.1).2)) hstart
    · rw [if_neg (fun z => h5 (c2.mp z))] at hstart
      exact nextm (notQ (fun z => h5 (c8.mp z.1).1)) hstart
theorem roundsM_lp {s n : Nat} {T : Nat → Nat} {G : Rg} {F : Fnd} {a1 : Int32} (hO : RO T n G) (hK : FK T G F) : ∀ (d r N : Nat) (m : Mi), r + d = G.1.length → d < N → MW s m T n G F → StM m 911 G.1.length (dS T G F r) →
    ∃ m', lp (fun x : Int32 × Mi => f_X12_why_l114 TT x.2 870 a1 (nI G.1.length) (nI (250 * s)) x.1) N (nI r, m) = some m' ∧ FI (fun x j => x = 911) m m' ∧ StM m' 911 G.1.length (dS T G F G.1.length) := by
  have hB := hO.2.1
  have hB1 := hB.1
  have hB3 := hB.2.2
  have hl := lnkN_le G.2.2
  intro d
  induction d with
  | zero =>
    intro r N m hk hN hW hS
    obtain ⟨N, rfl⟩ : ∃ y, N = y + 1 := ⟨N - 1, by omega⟩
    have hkl : r = G.1.length := by omega
    refine ⟨m, lp_exit ?_, FI.rf, by rw [← hkl]; rw [← hkl] at hS; exact hS⟩
    show f_X12_why_l114 TT m 870 a1 (nI G.1.length) (nI (250 * s)) (nI r) = _
    unfold f_X12_why_l114
    rw [if_pos (nI_le (by omega) (by omega))]
  | succ d ih =>
    intro r N m hk hN hW hS
    obtain ⟨N, rfl⟩ : ∃ y, N = y + 1 := ⟨N - 1, by omega⟩
    obtain ⟨m1, e1, f1, s1⟩ := linksM_lp (a1 := a1) (a2 := nI G.1.length) hO hK (show r < 900 by omega) (lnkN G.2.2) 0 FUEL m (by omega) (by unfold FUEL; omega) hW (fun q' hq' => by rw [dK_zero]; exact hS q' hq')
    have hbody : f_X12_why_l114 TT m 870 a1 (nI G.1.length) (nI (250 * s)) (nI r) = some (.inl (nI (r + 1), m1)) := by
      unfold f_X12_why_l114
      rw [if_neg (nI_ge (by omega) (by omega))]
      unfold f_X12_why_j123
      rw [show ((0 : Int32), m) = (nI 0, m) from rfl, e1, Option.bind_some]
      unfold f_X12_why_j244
      rw [lt_eq, nI_1]
    rw [lp_step hbody]
    obtain ⟨m', e2, f2, g2⟩ := ih (r + 1) N m1 (by omega) (by omega) (hW.keep hB f1) s1
    exact ⟨m', e2, f1.tr f2, g2⟩
theorem seekW_lp {s n p : Nat} {m : Mi} {T : Nat → Nat} {G : Rg} {F : Fnd} (hO : RO T n G) (hp : p < G.1.length) (hW : MW s m T n G F) (h0 : gi m 911 p = 0) (hex : ∃ c, lnkN G.2.2 ≤ c ∧ c < G.2.2.length ∧ tgc T G c = p) : ∀ (d k N : Nat), k + d = G.2.2.length → lnkN G.2.2 ≤ k → d < N → (∀ c, lnkN G.2.2 ≤ c → c < k → tgc T G c ≠ p) →
    ∃ c, FW T G p c ∧ lp (fun x : Int32 => f_X12_why_l261 TT m 870 (nI p) (nI (250 * s)) x) N (nI k) = some (.inr (nI c)) := by
  have hB := hO.2.1
  have hB1 := hB.1
  have hB3 := hB.2.2
  have hs := hW.1.2.1
  intro d
  induction d with
  | zero =>
    intro k N hk hlk hN hno
    obtain ⟨c, c1, c2, c3⟩ := hex
    exact absurd c3 (hno c c1 (by omega))
  | succ d ih =>
    intro k N hk hlk hN hno
    obtain ⟨N, rfl⟩ : ∃ y, N = y + 1 := ⟨N - 1, by omega⟩
    have hc : k < G.2.2.length := by omega
    have ht := tgc_lt hO hc
    obtain ⟨x, hx⟩ := get_some hc
    have lt1 := hW.1.2.2.2.1.2.2.2.2.1 k x hx
    rw [← tgc_get hx] at lt1
    have hbody : f_X12_why_l261 TT m 870 (nI p) (nI (250 * s)) (nI k) = if nI (tgc T G k) = nI p then some (.inr (.inr (nI k))) else some (.inl (nI (k + 1))) := by
      unfold f_X12_why_l261
      rw [cons_M hW.1.1 hW.1.2.1 hW.1.2.2.1 hW.1.2.2.2.1.1, Option.bind_some, if_neg (nI_ge (by omega) (by omega)), show gr m 870 58 = 911 from hW.1.1 58 (by omega), if_pos (ar_of s_911 (by omega) (by omega)), ix_nI (n := p) (by omega), h0, if_pos rfl, nI_add, show gr m 870 38 = 896 from hW.1.1 38 (by omega), if_pos (ar_of s_896 (by omega) (by omega)), ix_nI (n := 250 * s + k) (by omega), lt1, lt_eq, nI_1]
    by_cases htp : tgc T G k = p
    · rw [if_pos (by rw [htp])] at hbody
      exact ⟨k, ⟨hlk, hc, htp, hno⟩, lp_exit hbody⟩
    · rw [if_neg (fun z => htp ((nI_eq (by omega) (by omega)).mp z))] at hbody
      rw [lp_step hbody]
      exact ih (k + 1) N (by omega) (by omega) (by omega) (fun c a1 a2 => by
        by_cases hck : c = k
        · rw [hck]; exact htp
        · exact hno c a1 (by omega))
/-- the reference's search among the links: R is the place of p less one -/
theorem seekL_lp {s n p : Nat} {m : Mi} {T : Nat → Nat} {G : Rg} {F : Fnd} {Q : Nat → Bool} (hO : RO T n G) (hK : FK T G F) (hp : p < G.1.length) (hW : MW s m T n G F) (hQ : ∀ c, c < lnkN G.2.2 → (Q c = true ↔ tkB G F c = true ∧ tgc T G c = p ∧ gi m 911 (hpk G c) ≠ -1 ∧ gi m 911 (hpk G c) = gi m 911 p - 1)) : ∀ (d k N : Nat), k + d = lnkN G.2.2 → d < N → (∀ c, c < k → Q c = false) →
    (∃ c, c < lnkN G.2.2 ∧ Q c = true ∧ (∀ c', c' < c → Q c' = false) ∧ lp (fun x : Int32 => f_X12_why_l304 TT m 870 (nI p) (nI (250 * s)) x) N (nI k) = some (.inr (nI c))) ∨ ((∀ c, c < lnkN G.2.2 → Q c = false) ∧ lp (fun x : Int32 => f_X12_why_l304 TT m 870 (nI p) (nI (250 * s)) x) N (nI k) = some (.inl ())) := by
  have hB := hO.2.1
  have hB1 := hB.1
  have hB3 := hB.2.2
  have hl := lnkN_le G.2.2
  have hs := hW.1.2.1
  intro d
  induction d with
  | zero =>
    intro k N hk hN hno
    obtain ⟨N, rfl⟩ : ∃ y, N = y + 1 := ⟨N - 1, by omega⟩
    refine Or.inr ⟨fun c hc => hno c (by omega), lp_exit ?_⟩
    show f_X12_why_l304 TT m 870 (nI p) (nI (250 * s)) (nI k) = _
    unfold f_X12_why_l304
    rw [hW.1.2.2.1, hW.1.1.W.2.2.1, if_pos (ar_of s_883 hs (by omega)), ix_nI (by omega), hW.1.2.2.2.1.1.2.2.1, if_pos (nI_le (by omega) (by omega))]
  | succ d ih =>
    intro k N hk hN hno
    obtain ⟨N, rfl⟩ : ∃ y, N = y + 1 := ⟨N - 1, by omega⟩
    have hkl : k < lnkN G.2.2 := by omega
    obtain ⟨x, hx, c1, c2, c3, c4, c5, c6, c7, c8⟩ := lnk_M hO hW hkl
    have w58 : gr m 870 58 = 911 := hW.1.1 58 (by omega)
    have hstart : f_X12_why_l304 TT m 870 (nI p) (nI (250 * s)) (nI k) = if gi m 893 (250 * s + k) = 10 then (if nI (tgc T G k) = nI p then (if spCh G F (nI (hpk G k)) = nI x.2.1 then (if gi m 911 (hpk G k) = -1 then some (.inl (nI (k + 1))) else (if gi m 911 (hpk G k) = gi m 911 p - 1 then some (.inr (.inr (nI k))) else some (.inl (nI (k + 1))))) else some (.inl (nI (k + 1)))) else some (.inl (nI (k + 1)))) else some (.inl (nI (k + 1))) := by
      unfold f_X12_why_l304
      rw [hW.1.2.2.1, hW.1.1.W.2.2.1, if_pos (ar_of s_883 hs (by omega)), ix_nI (n := s) (by omega), hW.1.2.2.2.1.1.2.2.1, if_neg (nI_ge (by omega) (by omega)), nI_add, show gr m 870 34 = 892 from hW.1.1 34 (by omega), if_pos (ar_of s_892 (by omega) (by omega)), ix_nI (n := 250 * s + k) (by omega), c1, show (60 : Int32) = nI 60 from rfl, pk_mul, nI_add, show gr m 870 30 = 888 from hW.1.1 30 (by omega), if_pos (ar_of s_888 (by omega) (by omega)), lt_eq, ix_nI (n := 60 * s + x.2.1) (by omega), c4, show gr m 870 35 = 893 from hW.1.1 35 (by omega), if_pos (ar_of s_893 (by omega) (by omega)), show gr m 870 38 = 896 from hW.1.1 38 (by omega), if_pos (ar_of s_896 (by omega) (by omega)), c3, hW.ch hO hK, Option.bind_some, w58, if_pos (ar_of s_911 (by omega) (by omega)), if_pos (ar_of s_911 (by omega) (by omega)), ix_nI (n := hpk G k) (by omega), ix_nI (n := p) (by omega)]
      simp only [lt_eq, nI_1]
    have nextk : Q k = false → f_X12_why_l304 TT m 870 (nI p) (nI (250 * s)) (nI k) = some (.inl (nI (k + 1))) → (∃ c, c < lnkN G.2.2 ∧ Q c = true ∧ (∀ c', c' < c → Q c' = false) ∧ lp (fun x : Int32 => f_X12_why_l304 TT m 870 (nI p) (nI (250 * s)) x) (N + 1) (nI k) = some (.inr (nI c))) ∨ ((∀ c, c < lnkN G.2.2 → Q c = false) ∧ lp (fun x : Int32 => f_X12_why_l304 TT m 870 (nI p) (nI (250 * s)) x) (N + 1) (nI k) = some (.inl ())) := fun hq hb => by
      rw [lp_step (show (fun x : Int32 => f_X12_why_l304 TT m 870 (nI p) (nI (250 * s)) x) (nI k) = _ from hb)]
      exact ih (k + 1) N (by omega) (by omega) (fun c hc => by
        by_cases hck : c = k
        · rw [hck]; exact hq
        · exact hno c (by omega))
    have notQ : ¬ (tkB G F k = true ∧ tgc T G k = p ∧ gi m 911 (hpk G k) ≠ -1 ∧ gi m 911 (hpk G k) = gi m 911 p - 1) → Q k = false := fun h => by
      cases hq : Q k with
      | false => rfl
      | true => exact absurd ((hQ k hkl).mp hq) h
    by_cases h5 : x.1 = 5
    · rw [if_pos (c2.mpr h5)] at hstart
      by_cases htp : tgc T G k = p
      · rw [if_pos (by rw [htp])] at hstart
        by_cases h6 : spCh G F (nI (hpk G k)) = nI x.2.1
        · rw [if_pos h6] at hstart
          have htk := c8.mpr ⟨h5, h6⟩
          by_cases h7 : gi m 911 (hpk G k) = -1
          · rw [if_pos h7] at hstart
            exact nextk (notQ (fun z => z.2.2.1 h7)) hstart
          · rw [if_neg h7] at hstart
            by_cases h8 : gi m 911 (hpk G k) = gi m 911 p - 1
            · rw [if_pos h8] at hstart
              exact Or.inl ⟨k, hkl, (hQ k hkl).mpr ⟨htk, htp, h7, h8⟩, hno, lp_exit hstart⟩
            · rw [if_neg h8] at hstart
              exact nextk (notQ (fun z => h8 z.2.2.2)) hstart
        · rw [if_neg h6] at hstart
          exact nextk (notQ (fun z => h6 (c8.mp z.1).2)) hstart
      · rw [if_neg (fun z => htp ((nI_eq (by omega) (by omega)).mp z))] at hstart
        exact nextk (notQ (fun z => htp z.2.1)) hstart
    · rw [if_neg (fun z => h5 (c2.mp z))] at hstart
      exact nextk (notQ (fun z => h5 (c8.mp z.1).1)) hstart
theorem why_M {m : Mi} {T : Nat → Nat} {n : Nat} {G : Rg} {F : Fnd} (hM : WFM m) (hR : MRg m T n G) (hO : RO T n G) (hF : FnM m G F) (hK : FK T G F) (a : Int32) :
    ∃ v m', f_X12_why TT m 870 a = some (v, m') ∧ FI (fun x j => x = 911) m m' ∧ ((spCh G F a = -1 ∧ v = -1) ∨ (spCh G F a ≠ -1 ∧ ∃ p, p < G.1.length ∧ a = nI p ∧ WhyR T G F p v)) := by
  have hB := hO.2.1
  have hB1 := hB.1
  have hB3 := hB.2.2
  have hl := lnkN_le G.2.2
  obtain ⟨s, hs, h21, hRs⟩ := hR
  have hW : MW s m T n G F := ⟨⟨hM, hs, h21, hRs⟩, hF⟩
  unfold f_X12_why
  rw [hW.ch hO hK, Option.bind_some]
  by_cases hc : spCh G F a = -1
  · rw [if_pos hc]
    exact ⟨-1, m, rfl, FI.rf, Or.inl ⟨hc, rfl⟩⟩
  · rw [if_neg hc]
    obtain ⟨g, rfl, p, hp, rfl⟩ : ∃ g, F = some (.inl g) ∧ ∃ p, p < G.1.length ∧ a = nI p := by
      cases F with
      | none => exact absurd rfl hc
      | some F =>
        cases F with
        | inr L => exact absurd rfl hc
        | inl g =>
          refine ⟨g, rfl, ?_⟩
          rcases at_cases a G.1.length (by omega) with h | ⟨h1, h2⟩ | ⟨j, hj, e⟩
          · exact absurd (if_pos (Or.inl h)) hc
          · exact absurd (if_pos (Or.inr h2)) hc
          · exact ⟨j, hj, e⟩
    rw [h21, hM.W.1, if_pos (ar_of s_881 hs (by omega)), lt_eq, lt_eq, ix_nI (by omega), hRs.1.1.1, show (250 : Int32) = nI 250 from rfl, pk_mul]
    obtain ⟨m1, e1, f1, g1⟩ := clears_lp (a1 := nI p) (a3 := nI (250 * s)) hO G.1.length 0 FUEL m (by omega) (by unfold FUEL; omega) hW (fun q hq => by omega)
    have hW1 := hW.keep hB f1
    obtain ⟨m2, e2, f2, s2⟩ := wantsM_lp (a1 := nI p) (a2 := nI G.1.length) hO hK (G.2.2.length - lnkN G.2.2) (lnkN G.2.2) FUEL m1 (by omega) (by omega) (by unfold FUEL; omega) hW1 (fun q hq => Or.inl ⟨dW_lnk q, g1 q hq⟩)
    have hW2 := hW1.keep hB f2
    obtain ⟨m3, e3, f3, s3⟩ := roundsM_lp (a1 := nI p) hO hK G.1.length 0 FUEL m2 (by omega) (by unfold FUEL; omega) hW2 s2
    have hW3 := hW2.keep hB f3
    have f13 := (f1.tr f2).tr f3
    have hunf : f_X12_why_j33 TT m 870 (nI p) (nI G.1.length) (nI (250 * s)) 0 = f_X12_why_j261 TT m3 870 (nI p) (nI (250 * s)) (nI (lnkN G.2.2)) := by
      unfold f_X12_why_j33
      rw [show ((0 : Int32), m) = (nI 0, m) from rfl, e1, Option.bind_some]
      unfold f_X12_why_j53
      rw [hW1.1.2.2.1, hW1.1.1.W.2.2.1, if_pos (ar_of s_883 hs (by omega)), lt_eq, ix_nI (by omega), hW1.1.2.2.2.1.1.2.2.1]
      unfold f_X12_why_j64
      rw [e2, Option.bind_some]
      unfold f_X12_why_j111 f_X12_why_j114
      rw [show ((0 : Int32), m2) = (nI 0, m2) from rfl, e3, Option.bind_some]
      unfold f_X12_why_j250
      rw [hW3.1.2.2.1, hW3.1.1.W.2.2.1, if_pos (ar_of s_883 hs (by omega)), lt_eq, ix_nI (by omega), hW3.1.2.2.2.1.1.2.2.1]
    rw [hunf]
    unfold f_X12_why_j261
    -- when no want leads to p
    have rest : gi m3 911 p ≠ 0 → lp (fun x : Int32 => f_X12_why_l261 TT m3 870 (nI p) (nI (250 * s)) x) FUEL (nI (lnkN G.2.2)) = some (.inl ()) := fun hne => by
      rw [show FUEL = (FUEL - 1) + 1 from rfl]
      refine lp_exit ?_
      show f_X12_why_l261 TT m3 870 (nI p) (nI (250 * s)) (nI (lnkN G.2.2)) = _
      unfold f_X12_why_l261
      rw [cons_M hW3.1.1 hW3.1.2.1 hW3.1.2.2.1 hW3.1.2.2.2.1.1, Option.bind_some, show gr m3 870 58 = 911 from hW3.1.1 58 (by omega), if_pos (ar_of s_911 (by omega) (by omega)), ix_nI (n := p) (by omega), if_neg hne]
      by_cases hle : nI G.2.2.length ≤ nI (lnkN G.2.2)
      · rw [if_pos hle]
      · rw [if_neg hle]
    have key : ∀ q, q < G.1.length → ∀ r, r < 1000 → (gi m3 911 q = nI r ↔ dS T G (some (.inl g)) G.1.length q = some r) := fun q hq r hr => by
      rcases s3 q hq with ⟨b1, b2⟩ | ⟨v, hv, b1, b2⟩
      · rw [b1, b2]
        exact ⟨fun z => absurd z.symm (nneg (by omega)), fun z => by cases z⟩
      · rw [b1, b2, nI_eq (by omega) (by omega)]
        exact ⟨fun z => by rw [z], fun z => Option.some.inj z⟩
    have dnone : ∀ r, dS T G (some (.inl g)) r p ≠ none → dS T G (some (.inl g)) 0 p = none → ∃ r', r' < r ∧ dS T G (some (.inl g)) (r' + 1) p = some (r' + 1) ∧ dS T G (some (.inl g)) r' p = none := by
      intro r
      induction r with
      | zero => intro h1 h2; exact absurd h2 h1
      | succ r ih =>
        intro h1 h2
        by_cases h3 : dS T G (some (.inl g)) r p = none
        · cases h4 : dS T G (some (.inl g)) (r + 1) p with
          | none => exact absurd h4 h1
          | some v =>
            rcases dS_new h4 with h5 | ⟨h5, _⟩
            · rw [h3] at h5; cases h5
            · exact ⟨r, by omega, by rw [h4, h5], h3⟩
        · obtain ⟨r', c1, c2, c3⟩ := ih h3 h2
          exact ⟨r', by omega, c2, c3⟩
    have nlk : ∀ r, dS T G (some (.inl g)) r p = none → dS T G (some (.inl g)) (r + 1) p = none → NLk T G (some (.inl g)) p r := fun r h1 h2 c hc => by
      cases hq : Qb T G (some (.inl g)) (dS T G (some (.inl g)) r) r p c with
      | false => rfl
      | true =>
        rw [dS] at h2
        unfold dK at h2
        rw [h1] at h2
        simp only at h2
        rw [if_pos (List.any_eq_true.mpr ⟨c, List.mem_range.mpr hc, hq⟩)] at h2
        cases h2
    rcases s3 p hp with ⟨b1, b2⟩ | ⟨v, hv, b1, b2⟩
    · -- p is not reached
      have hn : ∀ r, r ≤ G.1.length → dS T G (some (.inl g)) r p = none := fun r hr => by
        cases h : dS T G (some (.inl g)) r p with
        | none => rfl
        | some w =>
          have := dS_up h (G.1.length - r)
          rw [show r + (G.1.length - r) = G.1.length by omega, b1] at this
          cases this
      rw [rest (by rw [b2]; decide), Option.bind_some]
      show ∃ v m', f_X12_why_j301 TT m3 870 (nI p) (nI (250 * s)) = some (v, m') ∧ _
      unfold f_X12_why_j301 f_X12_why_j304
      rcases seekL_lp (Q := fun _ => false) hO hK hp hW3 (fun c hc => ⟨fun z => (Bool.false_ne_true z).elim, fun z => by
        exfalso
        rcases s3 _ (hpk_lt hO hc) with ⟨d1, d2⟩ | ⟨w, hw, d1, d2⟩
        · exact z.2.2.1 d2
        · have h2 := z.2.2.2
          rw [d2, b2] at h2
          have h3 : nI w + 2 = 0 := by rw [h2]; decide
          rw [show (2 : Int32) = nI 2 from rfl, nI_add] at h3
          exact nI_ne0 (n := w + 2) (by omega) (by omega) h3⟩) (lnkN G.2.2) 0 FUEL (by omega) (by unfold FUEL; omega) (fun c hc => rfl) with ⟨c, _, z, _⟩ | ⟨_, e4⟩
      · cases z
      · rw [show (0 : Int32) = nI 0 from rfl, e4, Option.bind_some]
        refine ⟨-1, m3, rfl, f13, Or.inr ⟨hc, p, hp, rfl, Or.inr ⟨fun c c1 c2 z => ?_, Or.inr ⟨fun r hr => nlk r (hn r (by omega)) (hn (r + 1) (by omega)), rfl⟩⟩⟩⟩
        have h0 := hn 0 (by omega)
        rw [dS] at h0
        unfold dW at h0
        rw [if_pos (List.any_eq_true.mpr ⟨c, List.mem_range.mpr c2, decide_eq_true ⟨c1, z⟩⟩)] at h0
        cases h0
    · cases v with
      | zero =>
        have h00 := dS_down _ b1
        obtain ⟨_, c, c1, c2, c3⟩ := dW_some h00
        obtain ⟨c', hfw, e4⟩ := seekW_lp hO hp hW3 b2 ⟨c, c2, c1, c3⟩ (G.2.2.length - lnkN G.2.2) (lnkN G.2.2) FUEL (by omega) (by omega) (by unfold FUEL; omega) (fun c a1 a2 => by omega)
        rw [e4, Option.bind_some]
        exact ⟨nI c', m3, rfl, f13, Or.inr ⟨hc, p, hp, rfl, Or.inl ⟨c', hfw, rfl⟩⟩⟩
      | succ r =>
        have hdr := dS_down _ b1
        have hd0 : dS T G (some (.inl g)) r p = none := by
          rcases dS_new hdr with h | ⟨_, h, _⟩
          · have := dS_lt r p _ h
            omega
          · exact h
        have hfar := dS_far hO (r + 1) p hp hdr
        have hcl := cntS_le G.1.length (dS T G (some (.inl g)) (r + 1))
        have hn : ∀ r', r' ≤ r → dS T G (some (.inl g)) r' p = none := fun r' hr' => by
          cases h : dS T G (some (.inl g)) r' p with
          | none => rfl
          | some w =>
            have := dS_up h (r - r')
            rw [show r' + (r - r') = r by omega, hd0] at this
            cases this
        have hnw : NW T G p := fun c c1 c2 z => by
          have h0 := hn 0 (by omega)
          rw [dS] at h0
          unfold dW at h0
          rw [if_pos (List.any_eq_true.mpr ⟨c, List.mem_range.mpr c2, decide_eq_true ⟨c1, z⟩⟩)] at h0
          cases h0
        rw [rest (by rw [b2]; exact nI_ne0 (by omega) (by omega)), Option.bind_some]
        show ∃ v m', f_X12_why_j301 TT m3 870 (nI p) (nI (250 * s)) = some (v, m') ∧ _
        unfold f_X12_why_j301 f_X12_why_j304
        have hQ : ∀ c, c < lnkN G.2.2 → (Qb T G (some (.inl g)) (dS T G (some (.inl g)) r) r p c = true ↔ tkB G (some (.inl g)) c = true ∧ tgc T G c = p ∧ gi m3 911 (hpk G c) ≠ -1 ∧ gi m3 911 (hpk G c) = gi m3 911 p - 1) := fun c hc => by
          rw [b2, nI_pred, key _ (hpk_lt hO hc) r (by omega), dS_at]
          unfold Qb
          rw [Bool.and_eq_true_iff, Bool.and_eq_true_iff, decide_eq_true_iff, decide_eq_true_iff]
          constructor
          · rintro ⟨h1, h2, h3⟩
            refine ⟨h1, h3, ?_, by omega, h2⟩
            have := (key _ (hpk_lt hO hc) r (by omega)).mpr (dS_at.mpr ⟨by omega, h2⟩)
            rw [this]
            exact nneg (by omega)
          · rintro ⟨h1, h3, _, _, h2⟩
            exact ⟨h1, h2, h3⟩
        rcases seekL_lp hO hK hp hW3 hQ (lnkN G.2.2) 0 FUEL (by omega) (by unfold FUEL; omega) (fun c hc => by omega) with ⟨c, c1, c2, c3, e4⟩ | ⟨hno, e4⟩
        · rw [show (0 : Int32) = nI 0 from rfl, e4, Option.bind_some]
          exact ⟨nI c, m3, rfl, f13, Or.inr ⟨hc, p, hp, rfl, Or.inr ⟨hnw, Or.inl ⟨r, c, by omega, ⟨c1, c2, c3⟩, fun r' hr' => nlk r' (hn r' (by omega)) (hn (r' + 1) (by omega)), rfl⟩⟩⟩⟩
        · exfalso
          have := NLk_next hno hd0
          rw [hdr] at this
          cases this
