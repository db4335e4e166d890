/-! why of the reference. -/
theorem dS_step {T : Nat → Nat} {G : Rg} {F : Fnd} {r q v : Nat} (h : dS T G F r q = some v) : dS T G F (r + 1) q = some v := by
  rw [dS]
  exact dK_old h
theorem dS_up {T : Nat → Nat} {G : Rg} {F : Fnd} {r q v : Nat} (h : dS T G F r q = some v) : ∀ k, dS T G F (r + k) q = some v := by
  intro k
  induction k with
  | zero => exact h
  | succ k ih => exact dS_step ih
theorem dS_new {T : Nat → Nat} {G : Rg} {F : Fnd} {r q v : Nat} (h : dS T G F (r + 1) q = some v) : dS T G F r q = some v ∨ (v = r + 1 ∧ dS T G F r q = none ∧ ∃ c, c < lnkN G.2.2 ∧ Qb T G F (dS T G F r) r q c = true) := by
  rw [dS] at h
  cases hq : dS T G F r q with
  | some w =>
    rw [dK_old hq] at h
    exact Or.inl h
  | none =>
    unfold dK at h
    rw [hq] at h
    simp only at h
    split at h
    · rename_i h1
      obtain ⟨c, h2, h3⟩ := List.any_eq_true.mp h1
      exact Or.inr ⟨(Option.some.inj h).symm, rfl, c, List.mem_range.mp h2, h3⟩
    · cases h
theorem dS_down {T : Nat → Nat} {G : Rg} {F : Fnd} {q v : Nat} : ∀ R, dS T G F R q = some v → dS T G F v q = some v := by
  intro R
  induction R with
  | zero =>
    intro h
    have := dS_lt 0 q v h
    rw [show v = 0 by omega] at h ⊢
    exact h
  | succ R ih =>
    intro h
    rcases dS_new h with h1 | ⟨h1, _⟩
    · exact ih h1
    · rw [h1] at h ⊢
      exact h
theorem dS_at {T : Nat → Nat} {G : Rg} {F : Fnd} {R q v : Nat} : dS T G F R q = some v ↔ v ≤ R ∧ dS T G F v q = some v := ⟨fun h => ⟨dS_lt R q v h, dS_down R h⟩, fun h => by
  have := dS_up h.2 (R - v)
  rw [show v + (R - v) = R by omega] at this
  exact this⟩
def cntS (np : Nat) (st : Nat → Option Nat) : Nat := ((List.range np).map (fun q => if (st q).isSome = true then 1 else 0)).sum
theorem cntS_le (np : Nat) (st : Nat → Option Nat) : cntS np st ≤ np := by
  unfold cntS
  have : ∀ L : List Nat, (L.map (fun q => if (st q).isSome = true then 1 else 0)).sum ≤ L.length := by
    intro L
    induction L with
    | nil => simp
    | cons a L ih =>
      simp only [List.map_cons, List.sum_cons, List.length_cons]
      split <;> omega
  have h := this (List.range np)
  rw [List.length_range] at h
  exact h
theorem hpk_lt {T : Nat → Nat} {n : Nat} {G : Rg} (hO : RO T n G) {c : Nat} (hc : c < lnkN G.2.2) : hpk G c < G.1.length := by
  have hl := lnkN_le G.2.2
  obtain ⟨x, hx⟩ := get_some (l := G.2.2) (k := c) (by omega)
  have h4 : x.1 ≠ 4 := fun e => by have := (hO.1.1.2.2.2.2.2 c x hx).mp e; omega
  obtain ⟨y, _, h2, h3, _⟩ := hpk_of hO hx h4
  rw [h2]
  exact h3
/-- a distance is smaller than the number of packages -/
theorem dS_far {T : Nat → Nat} {n : Nat} {G : Rg} {F : Fnd} (hO : RO T n G) : ∀ r q, q < G.1.length → dS T G F r q = some r → r + 1 ≤ cntS G.1.length (dS T G F r) := by
  intro r
  induction r with
  | zero =>
    intro q hq h
    have := sum_ge (u := q) (g := fun q => if (dS T G F 0 q).isSome = true then 1 else 0) (List.range G.1.length) (List.mem_range.mpr hq)
    simp only [h, Option.isSome_some, if_true] at this
    exact this
  | succ r ih =>
    intro q hq h
    rcases dS_new h with h1 | ⟨_, h1, c, hc, hQ⟩
    · have := dS_lt r q _ h1
      omega
    · unfold Qb at hQ
      have h2 := of_decide_eq_true (Bool.and_eq_true_iff.mp (Bool.and_eq_true_iff.mp hQ).2).1
      have h3 := ih _ (hpk_lt hO hc) h2
      have h4 := (sum_le_lt (g := fun q => if (dS T G F r q).isSome = true then 1 else 0) (h := fun q => if (dS T G F (r + 1) q).isSome = true then 1 else 0) (p := q) (by simp [h, h1]) (fun q' => by
        cases hq' : dS T G F r q' with
        | none => simp
        | some v => simp [dS_step hq']) (List.range G.1.length)).2 (List.mem_range.mpr hq)
      unfold cntS at h3 ⊢
      omega
/-- the reference's side while it looks for a reason -/
def MW (s : Nat) (m : Mi) (T : Nat → Nat) (n : Nat) (G : Rg) (F : Fnd) : Prop := ME s m T n G ∧ FnM m G F
theorem MW.keep {s n : Nat} {m m' : Mi} {T : Nat → Nat} {G : Rg} {F : Fnd} (h : MW s m T n G F) (hB : BGd G) (k : FI (fun x j => x = 911) m m') : MW s m' T n G F := ⟨h.1.keep hB k (fun x j z => by omega), h.2.keep (fun j a b => k.1 _ _ (by omega)) (fun x j a b => k.1 _ _ (by omega))⟩
theorem MW.ch {s n : Nat} {m : Mi} {T : Nat → Nat} {G : Rg} {F : Fnd} (h : MW s m T n G F) (hO : RO T n G) (hK : FK T G F) (a : Int32) : f_X12_chosen TT m 870 a = some (spCh G F a) := chosen_M h.1.1 ⟨s, h.1.2.1, h.1.2.2.1, h.1.2.2.2⟩ hO h.2 hK a
theorem clears_lp {s n : Nat} {T : Nat → Nat} {G : Rg} {F : Fnd} {a1 a3 : Int32} (hO : RO T n G) : ∀ (d k N : Nat) (m : Mi), k + d = G.1.length → d < N → MW s m T n G F → (∀ q, q < k → gi m 911 q = -1) → ∃ m', lp (fun x : Int32 × Mi => f_X12_why_l33 TT x.2 870 a1 (nI G.1.length) a3 x.1) N (nI k, m) = some m' ∧ FI (fun x j => x = 911) m m' ∧ ∀ q, q < G.1.length → gi m' 911 q = -1 := by
  have hB := hO.2.1
  have hB1 := hB.1
  intro d
  induction d with
  | zero =>
    intro k N m hk hN hW h
    obtain ⟨N, rfl⟩ : ∃ y, N = y + 1 := ⟨N - 1, by omega⟩
    refine ⟨m, lp_exit ?_, FI.rf, fun q hq => h q (by omega)⟩
    show f_X12_why_l33 TT m 870 a1 (nI G.1.length) a3 (nI k) = _
    unfold f_X12_why_l33
    rw [if_pos (nI_le (by omega) (by omega))]
  | succ d ih =>
    intro k N m hk hN hW h
    obtain ⟨N, rfl⟩ : ∃ y, N = y + 1 := ⟨N - 1, by omega⟩
    have hbody : f_X12_why_l33 TT m 870 a1 (nI G.1.length) a3 (nI k) = some (.inl (nI (k + 1), si m 911 k (-1))) := by
      unfold f_X12_why_l33
      rw [if_neg (nI_ge (by omega) (by omega)), show gr m 870 58 = 911 from hW.1.1 58 (by omega), if_pos (ar_of s_911 (by omega) (by omega)), lt_eq, lt_eq, ix_nI (by omega), nI_1]
    rw [lp_step hbody]
    have f1 : FI (fun x j => x = 911) m (si m 911 k (-1)) := FI.si (P := fun x j => x = 911) rfl
    obtain ⟨m', e2, f2, g2⟩ := ih (k + 1) N _ (by omega) (by omega) (hW.keep hB f1) (fun q hq => by
      by_cases hqk : q = k
      · rw [hqk]; exact gi_si _ _ _ _
      · simp only [mS]; rw [if_neg (by omega)]; exact h q (by omega))
    exact ⟨m', e2, f1.tr f2, g2⟩
theorem ch_wn {T : Nat → Nat} {n : Nat} {G : Rg} {g : Nat → Nat} (hO : RO T n G) (hK : FK T G (some (.inl g))) {c : Nat} (hlk : lnkN G.2.2 ≤ c) (hc : c < G.2.2.length) : spCh G (some (.inl g)) (nI (tgc T G c)) ≠ -1 := by
  have hB1 := hO.2.1.1
  have hB2 := hO.2.1.2.1
  have ht := tgc_lt hO hc
  obtain ⟨x, hx⟩ := get_some hc
  have h4 : x.1 = 4 := (hO.1.1.2.2.2.2.2 c x hx).mpr hlk
  have h0 := Wn_no (p := tgc T G c) ⟨c, x, hx, h4, (tgc_get hx).symm⟩ ht (show SL T G aT g from hK.1)
  have hle := SL_le (show SL T G aT g from hK.1) ht
  have hfl := fr_le hO ht
  unfold spCh
  simp only
  rw [if_neg (fun z => z.elim (nI_nlt0 (by omega)) (nI_ge (by omega) (by omega))), ix_nI (by omega), if_neg h0]
  exact nneg (by omega)
theorem wantsM_lp {s n : Nat} {T : Nat → Nat} {G : Rg} {g : Nat → Nat} {a1 a2 : Int32} (hO : RO T n G) (hK : FK T G (some (.inl g))) : ∀ (d k N : Nat) (m : Mi), k + d = G.2.2.length → lnkN G.2.2 ≤ k → d < N → MW s m T n G (some (.inl g)) → StM m 911 G.1.length (dW T G k) →
    ∃ m', lp (fun x : Int32 × Mi => f_X12_why_l64 TT x.2 870 a1 a2 (nI (250 * s)) x.1) N (nI k, m) = some m' ∧ FI (fun x j => x = 911) m m' ∧ StM m' 911 G.1.length (dS T G (some (.inl g)) 0) := by
  have hB := hO.2.1
  have hB1 := hB.1
  have hB3 := hB.2.2
  intro d
  induction d with
  | zero =>
    intro k N m hk hlk hN hW hS
    obtain ⟨N, rfl⟩ : ∃ y, N = y + 1 := ⟨N - 1, by omega⟩
    have hkl : k = G.2.2.length := by omega
    refine ⟨m, lp_exit ?_, FI.rf, by rw [dS, ← hkl]; exact hS⟩
    show f_X12_why_l64 TT m 870 a1 a2 (nI (250 * s)) (nI k) = _
    unfold f_X12_why_l64
    rw [cons_M hW.1.1 hW.1.2.1 hW.1.2.2.1 hW.1.2.2.2.1.1, Option.bind_some, if_pos (nI_le (by omega) (by omega))]
  | succ d ih =>
    intro k N m hk hlk hN hW hS
    obtain ⟨N, rfl⟩ : ∃ y, N = y + 1 := ⟨N - 1, by omega⟩
    have hs := hW.1.2.1
    have hc : k < G.2.2.length := by omega
    have ht := tgc_lt hO hc
    obtain ⟨x, hx⟩ := get_some hc
    have lt1 := hW.1.2.2.2.1.2.2.2.2.1 k x hx
    rw [← tgc_get hx] at lt1
    obtain ⟨dw1, dw2⟩ := dW_succ (T := T) hlk
    have hbody : f_X12_why_l64 TT m 870 a1 a2 (nI (250 * s)) (nI k) = some (.inl (nI (k + 1), si m 911 (tgc T G k) (nI 0))) := by
      unfold f_X12_why_l64
      rw [cons_M hW.1.1 hW.1.2.1 hW.1.2.2.1 hW.1.2.2.2.1.1, Option.bind_some, if_neg (nI_ge (by omega) (by omega)), nI_add, show gr m 870 38 = 896 from hW.1.1 38 (by omega), if_pos (ar_of s_896 (by omega) (by omega)), ix_nI (n := 250 * s + k) (by omega), lt1, hW.ch hO hK, Option.bind_some, if_neg (ch_wn hO hK hlk hc), show gr m 870 58 = 911 from hW.1.1 58 (by omega), if_pos (ar_of s_911 (by omega) (by omega)), lt_eq, lt_eq, ix_nI (by omega), nI_1]
      rfl
    rw [lp_step hbody]
    have f1 : FI (fun x j => x = 911) m (si m 911 (tgc T G k) (nI 0)) := FI.si (P := fun x j => x = 911) rfl
    obtain ⟨m', e2, f2, g2⟩ := ih (k + 1) N _ (by omega) (by omega) (by omega) (hW.keep hB f1) (StM_set hS (by omega) dw2 dw1)
    exact ⟨m', e2, f1.tr f2, g2⟩
/-- of a link: what the reference reads of it -/
theorem lnk_M {s n k : Nat} {m : Mi} {T : Nat → Nat} {G : Rg} {F : Fnd} (hO : RO T n G) (hW : MW s m T n G F) (hk : k < lnkN G.2.2) : ∃ x, G.2.2[k]? = some x ∧ gi m 892 (250 * s + k) = nI x.2.1 ∧ (gi m 893 (250 * s + k) = 10 ↔ x.1 = 5) ∧ gi m 896 (250 * s + k) = nI (tgc T G k) ∧ gi m 888 (60 * s + x.2.1) = nI (hpk G k) ∧ x.2.1 < 60 ∧ hpk G k < G.1.length ∧ tgc T G k < G.1.length ∧ (tkB G F k = true ↔ x.1 = 5 ∧ spCh G F (nI (hpk G k)) = nI x.2.1) := by
  have hl := lnkN_le G.2.2
  have hB2 := hO.2.1.2.1
  obtain ⟨x, hx⟩ := get_some (l := G.2.2) (k := k) (by omega)
  have h4 : x.1 ≠ 4 := fun e => by have := (hO.1.1.2.2.2.2.2 k x hx).mp e; omega
  obtain ⟨y, hy, hyp, hyl, hrl⟩ := hpk_of hO hx h4
  have hkd := (hO.1.2.2.2.1 x (List.mem_of_getElem? hx)).1
  obtain ⟨c1, c2, c3, c4⟩ := hW.1.2.2.2.1.2.2.2.1 k x hx
  rw [if_neg h4] at c1
  have lt1 := hW.1.2.2.2.1.2.2.2.2.1 k x hx
  rw [← tgc_get hx] at lt1
  have r1 := (hW.1.2.2.2.1.2.2.1 _ y hy).1
  refine ⟨x, hx, c1, ?_, lt1, by rw [hyp]; exact r1, by omega, by rw [hyp]; exact hyl, tgc_lt hO (by omega), ?_⟩
  · rw [c2]
    rcases hkd with e | e | e
    · exact absurd e h4
    · rw [e]; decide
    · rw [e]; decide
  · unfold tkB
    rw [hx]
    exact decide_eq_true_iff
