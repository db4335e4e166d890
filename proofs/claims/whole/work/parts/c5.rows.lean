/-! The reference: the values of a package in the order in which they are tried. -/
def cRp (T : Nat → Nat) (G : Rg) (p v w : Nat) : Int32 := cmpL (rvR T G.2.1 (fr G p + (v - 1))) (rvR T G.2.1 (fr G p + (w - 1)))
theorem cR_sw {T : Nat → Nat} {G : Rg} {p v w : Nat} : (cRp T G p v w = 1 ↔ cRp T G p w v = -1) ∧ (cRp T G p v w = -1 ↔ cRp T G p w v = 1) := cmp_sw (rvR8 _ _ _) (rvR8 _ _ _)
theorem cR_ne {T : Nat → Nat} {n : Nat} {G : Rg} (hO : RO T n G) {p v w : Nat} (hp : p < G.1.length) (hv : 1 ≤ v ∧ v ≤ cntR G.2.1 p) (hw : 1 ≤ w ∧ w ≤ cntR G.2.1 p) (hne : v ≠ w) : cRp T G p v w ≠ 0 := fun e => by
  rcases pr0_total hO hp hv.2 hw.2 hne with h | h
  · rcases h with h | h
    · omega
    · rw [show cmpL (rvR T G.2.1 (fr G p + (v - 1))) (rvR T G.2.1 (fr G p + (w - 1))) = cRp T G p v w from rfl, e] at h
      exact absurd h.2.2 (by decide)
  · rcases h with h | h
    · omega
    · have := cR_sw.1.mp (show cRp T G p w v = 1 from h.2.2)
      rw [e] at this
      exact absurd this (by decide)
theorem cR_tr {T : Nat → Nat} {G : Rg} {p u v w : Nat} (h1 : cRp T G p u v = 1) (h2 : cRp T G p v w = 1) : cRp T G p u w = 1 :=
  cR_sw.2.mp (cmpL_tr _ _ _ ((rvR8 _ _ _).trans (rvR8 _ _ _).symm) ((rvR8 _ _ _).trans (rvR8 _ _ _).symm) (cR_sw.1.mp h2) (cR_sw.1.mp h1))
theorem ins_M {s n p v c : Nat} {m : Mi} {T : Nat → Nat} {G : Rg} (hO : RO T n G) (hE : ME s m T n G) (hp : p < G.1.length) (hv : 1 ≤ v ∧ v ≤ cntR G.2.1 p) (hc : 1 ≤ c ∧ c ≤ cntR G.2.1 p) : f_X12_compare TT m 891 (((60 * nI s + nI (fr G p)) + nI v - 1) * 9) 891 (((60 * nI s + nI (fr G p)) + nI c - 1) * 9) = some (cRp T G p v c) := by
  have hs := hE.2.1
  have hB2 := hO.2.1.2.1
  have hfl := fr_le hO hp
  obtain ⟨x, hx⟩ := get_some (l := G.2.1) (k := fr G p + (v - 1)) (by omega)
  obtain ⟨y, hy⟩ := get_some (l := G.2.1) (k := fr G p + (c - 1)) (by omega)
  have ex := hE.2.2.2.1.2.2.1 _ x hx
  have ey := hE.2.2.2.1.2.2.1 _ y hy
  have e1 : ∀ u, 1 ≤ u → ((60 * nI s + nI (fr G p)) + nI u - 1) * 9 = nI ((60 * s + (fr G p + (u - 1))) * 9) := fun u hu => by
    rw [show (60 : Int32) = nI 60 from rfl, pk_mul, nI_add, nI_add, show 60 * s + fr G p + u = (60 * s + (fr G p + (u - 1))) + 1 by omega, nI_pred, show (9 : Int32) = nI 9 from rfl, pk_mul]
  rw [e1 v hv.1, e1 c hc.1, mcompare_spec s_891 s_891 (by omega) (by omega) (by omega) (by omega), cmp_tr ex.2.2.2.1 ey.2.2.2.1, ex.2.2.2.2, ey.2.2.2.2]
  unfold cRp
  rw [rvR_get hx, rvR_get hy]
theorem insM_lp {s n p c base Lh : Nat} {T : Nat → Nat} {G : Rg} {V : Nat → Nat} (hO : RO T n G) (hp : p < G.1.length) (hc : 1 ≤ c ∧ c ≤ cntR G.2.1 p) (hL : Lh ≤ 7) (hV : ∀ i, base ≤ i → i < Lh → 1 ≤ V i ∧ V i ≤ cntR G.2.1 p) :
    ∀ (e x N : Nat) (m : Mi), x = base + e → x ≤ Lh → e < N → ME s m T n G → (∀ i, i < x → gi m 910 i = nI (V i)) → (∀ i, x ≤ i → i < Lh → gi m 910 (i + 1) = nI (V i)) → (∀ i, x ≤ i → i < Lh → cRp T G p (V i) c = -1) →
    ∃ y m', lp (fun z : Int32 × Mi => f_X12_rows_l85 TT z.2 870 (nI p) (nI base) (nI c) z.1) N (nI x, m) = some (nI y, m') ∧ base ≤ y ∧ y ≤ Lh ∧ FI (fun x j => x = 910) m m' ∧ (∀ i, i < y → gi m' 910 i = nI (V i)) ∧ (∀ i, y ≤ i → i < Lh → gi m' 910 (i + 1) = nI (V i)) ∧ (∀ i, y ≤ i → i < Lh → cRp T G p (V i) c = -1) ∧ (base < y → cRp T G p (V (y - 1)) c ≠ -1) := by
  have hB := hO.2.1
  intro e
  induction e with
  | zero =>
    intro x N m hx hxl hN hE h1 h2 h3
    obtain ⟨N, rfl⟩ : ∃ y, N = y + 1 := ⟨N - 1, by omega⟩
    refine ⟨x, m, lp_exit ?_, by omega, hxl, FI.rf, h1, h2, h3, fun z => by omega⟩
    show f_X12_rows_l85 TT m 870 (nI p) (nI base) (nI c) (nI x) = _
    unfold f_X12_rows_l85
    rw [if_pos (nI_le (by omega) (by omega))]
  | succ e ih =>
    intro x N m hx hxl hN hE h1 h2 h3
    obtain ⟨N, rfl⟩ : ∃ y, N = y + 1 := ⟨N - 1, by omega⟩
    obtain ⟨x, rfl⟩ : ∃ y, x = y + 1 := ⟨x - 1, by omega⟩
    have w56 : gr m 870 56 = 910 := hE.1 56 (by omega)
    have w33 : gr m 870 33 = 891 := hE.1 33 (by omega)
    have hVx := hV x (by omega) (by omega)
    have hcm := ins_M hO hE hp hVx hc
    have hfi := first_M hE.1 hE.2.1 hE.2.2.1 hE.2.2.2.1 hO hp
    have hbody : f_X12_rows_l85 TT m 870 (nI p) (nI base) (nI c) (nI (x + 1)) = if 0 ≤ cRp T G p (V x) c then some (.inr (nI (x + 1), m)) else some (.inl (nI x, si m 910 (x + 1) (nI (V x)))) := by
      unfold f_X12_rows_l85
      rw [if_neg (nI_ge (by omega) (by omega)), hfi, Option.bind_some, nI_pred, w56, if_pos (ar_of s_910 (by omega) (by omega)), Option.bind_some, ix_nI (n := x) (by omega), h1 x (by omega), w33, hE.2.2.1, hcm, Option.bind_some, if_pos (ar_of s_910 (by omega) (by omega)), lt_eq, lt_eq, ix_nI (n := x + 1) (by omega)]
    by_cases hle : 0 ≤ cRp T G p (V x) c
    · rw [if_pos hle] at hbody
      refine ⟨x + 1, m, lp_exit hbody, by omega, hxl, FI.rf, h1, h2, h3, fun _ z => ?_⟩
      rw [Nat.add_sub_cancel] at z
      rw [z] at hle
      exact absurd hle (by decide)
    · rw [if_neg hle] at hbody
      rw [lp_step hbody]
      have hlt : cRp T G p (V x) c = -1 := by
        rcases cmpL_vals (rvR T G.2.1 (fr G p + (V x - 1))) (rvR T G.2.1 (fr G p + (c - 1))) with h | h | h
        · exact absurd (show (0 : Int32) ≤ cRp T G p (V x) c by unfold cRp; rw [h]; decide) hle
        · exact absurd (show (0 : Int32) ≤ cRp T G p (V x) c by unfold cRp; rw [h]; decide) hle
        · exact h
      have f1 : FI (fun x j => x = 910) m (si m 910 (x + 1) (nI (V x))) := FI.si (P := fun x j => x = 910) rfl
      obtain ⟨y, m', e2, g1, g2, f2, g3⟩ := ih x N (si m 910 (x + 1) (nI (V x))) (by omega) (by omega) (by omega) (hE.keep hB f1 (fun x j z => by omega)) (fun i hi => by
        simp only [mS]; rw [if_neg (by omega)]; exact h1 i (by omega)) (fun i hi1 hi2 => by
        by_cases hix : i = x
        · rw [hix]; exact gi_si _ _ _ _
        · simp only [mS]; rw [if_neg (by omega)]; exact h2 i (by omega) hi2) (fun i hi1 hi2 => by
        by_cases hix : i = x
        · rw [hix]; exact hlt
        · exact h3 i (by omega) hi2)
      exact ⟨y, m', e2, g1, g2, f1.tr f2, g3⟩
/-- the releases below k, falling, behind the first b places -/
def Fal (T : Nat → Nat) (G : Rg) (p b k : Nat) (V : Nat → Nat) : Prop := (∀ i, b ≤ i → i < b + (k - 1) → 1 ≤ V i ∧ V i < k) ∧ (∀ v, 1 ≤ v → v < k → ∃ i, b ≤ i ∧ i < b + (k - 1) ∧ V i = v) ∧ ∀ i j, b ≤ i → i < j → j < b + (k - 1) → cRp T G p (V i) (V j) = 1
theorem falls_lp {s n p b : Nat} {T : Nat → Nat} {G : Rg} (hO : RO T n G) (hp : p < G.1.length) (hb : b ≤ 2) :
    ∀ (d k N : Nat) (m : Mi) (V : Nat → Nat), k + d = cntR G.2.1 p + 1 → 1 ≤ k → d < N → ME s m T n G → gi m 870 57 = nI (b + (k - 1)) → (∀ i, i < b + (k - 1) → gi m 910 i = nI (V i)) → Fal T G p b k V →
    ∃ m' V', lp (fun z : Int32 × Mi => f_X12_rows_l69 TT z.2 870 (nI p) (nI b) z.1) N (nI k, m) = some m' ∧ FI (fun x j => x = 910 ∨ (x = 870 ∧ j = 57)) m m' ∧ gi m' 870 57 = nI (b + cntR G.2.1 p) ∧ (∀ i, i < b + cntR G.2.1 p → gi m' 910 i = nI (V' i)) ∧ Fal T G p b (cntR G.2.1 p + 1) V' ∧ ∀ i, i < b → V' i = V i := by
  have hB := hO.2.1
  have h6 := hO.2.2.2.1.1 p
  intro d
  induction d with
  | zero =>
    intro k N m V hk h1 hN hE g57 hm hF
    obtain ⟨N, rfl⟩ : ∃ y, N = y + 1 := ⟨N - 1, by omega⟩
    rw [show k - 1 = cntR G.2.1 p by omega] at g57 hm
    refine ⟨m, V, lp_exit ?_, FI.rf, g57, hm, by rw [show cntR G.2.1 p + 1 = k by omega]; exact hF, fun i _ => rfl⟩
    show f_X12_rows_l69 TT m 870 (nI p) (nI b) (nI k) = _
    unfold f_X12_rows_l69
    rw [many_M hE.1 hE.2.1 hE.2.2.1 hE.2.2.2.1 hO hp, Option.bind_some, if_pos (nI_lt (by omega) (by omega))]
  | succ d ih =>
    intro k N m V hk h1 hN hE g57 hm hF
    obtain ⟨N, rfl⟩ : ∃ y, N = y + 1 := ⟨N - 1, by omega⟩
    obtain ⟨F1, F2, F3⟩ := hF
    have hck : 1 ≤ k ∧ k ≤ cntR G.2.1 p := by omega
    obtain ⟨y, m1, e1, y1, y2, f1, c1, c2, c3, c4⟩ := insM_lp (base := b) (Lh := b + (k - 1)) (V := V) hO hp hck (by omega) (fun i a1 a2 => by have := F1 i a1 a2; omega) (k - 1) (b + (k - 1)) FUEL m rfl (Nat.le_refl _) (by unfold FUEL; omega) hE hm (fun i a1 a2 => by omega) (fun i a1 a2 => by omega)
    have hE1 := hE.keep hB f1 (fun x j z => by omega)
    have w56 : gr m1 870 56 = 910 := hE1.1 56 (by omega)
    have hbody : f_X12_rows_l69 TT m 870 (nI p) (nI b) (nI k) = some (.inl (nI (k + 1), si (si m1 910 y (nI k)) 870 57 (nI (b + (k - 1) + 1)))) := by
      unfold f_X12_rows_l69
      rw [many_M hE.1 hE.2.1 hE.2.2.1 hE.2.2.2.1 hO hp, Option.bind_some, if_neg (nI_nlt (by omega) (by omega)), lt_eq, g57]
      unfold f_X12_rows_j85
      rw [e1, Option.bind_some]
      unfold f_X12_rows_j179
      rw [w56, if_pos (ar_of s_910 (by omega) (by omega)), lt_eq, lt_eq, lt_eq, ix_nI (by omega), show gi (si m1 910 y (nI k)) 870 57 = nI (b + (k - 1)) by simp only [mS]; rw [if_neg (by omega)]; exact (f1.1 _ _ (by omega)).trans g57, nI_1, nI_1]
    rw [lp_step hbody]
    have f2 : FI (fun x j => x = 910 ∨ (x = 870 ∧ j = 57)) m (si (si m1 910 y (nI k)) 870 57 (nI (b + (k - 1) + 1))) := ((f1.mono (fun x j z => Or.inl z)).tr (FI.si (P := fun x j => x = 910 ∨ (x = 870 ∧ j = 57)) (Or.inl rfl))).tr (FI.si (P := fun x j => x = 910 ∨ (x = 870 ∧ j = 57)) (Or.inr ⟨rfl, rfl⟩))
    have hV' : ∀ i, (i < y → (fun i => if i < y then V i else if i = y then k else V (i - 1)) i = V i) ∧ ((fun i => if i < y then V i else if i = y then k else V (i - 1)) y = k) ∧ (y < i → (fun i => if i < y then V i else if i = y then k else V (i - 1)) i = V (i - 1)) := fun i => ⟨fun h => if_pos h, by simp, fun h => by simp only; rw [if_neg (by omega), if_neg (by omega)]⟩
    generalize (fun i => if i < y then V i else if i = y then k else V (i - 1)) = V' at hV'
    have hgt : ∀ i, b ≤ i → i < y → cRp T G p (V i) k = 1 := fun i a1 a2 => by
      have hy1 := F1 (y - 1) (by omega) (by omega)
      have hne := cR_ne hO hp (v := V (y - 1)) (w := k) (by omega) hck (by omega)
      have h1 : cRp T G p (V (y - 1)) k = 1 := by
        rcases cmpL_vals (rvR T G.2.1 (fr G p + (V (y - 1) - 1))) (rvR T G.2.1 (fr G p + (k - 1))) with h | h | h
        · exact absurd h hne
        · exact h
        · exact absurd h (c4 (by omega))
      by_cases hi : i = y - 1
      · rw [hi]; exact h1
      · exact cR_tr (F3 i (y - 1) a1 (by omega) (by omega)) h1
    obtain ⟨m', V'', e2, f3, g1, g2, g3, g4⟩ := ih (k + 1) N (si (si m1 910 y (nI k)) 870 57 (nI (b + (k - 1) + 1))) V' (by omega) (by omega) (by omega) (hE.keep hB f2 (fun x j z => by omega)) (by rw [gi_si, show b + (k + 1 - 1) = b + (k - 1) + 1 by omega]) (fun i hi => by
      by_cases h1 : i < y
      · rw [(hV' i).1 h1]
        simp only [mS]; rw [if_neg (by omega), if_neg (by omega)]
        exact c1 i h1
      · by_cases h2 : i = y
        · rw [h2, (hV' i).2.1]
          simp only [mS]; rw [if_neg (by omega), if_pos ⟨trivial, trivial⟩]
        · rw [(hV' i).2.2 (by omega)]
          simp only [mS]; rw [if_neg (by omega), if_neg (by omega)]
          have := c2 (i - 1) (by omega) (by omega)
          rw [show i - 1 + 1 = i by omega] at this
          exact this) ⟨fun i a1 a2 => by
        by_cases h1 : i < y
        · rw [(hV' i).1 h1]
          have := F1 i a1 (by omega)
          omega
        · by_cases h2 : i = y
          · rw [h2, (hV' i).2.1]
            omega
          · rw [(hV' i).2.2 (by omega)]
            have := F1 (i - 1) (by omega) (by omega)
            omega, fun v a1 a2 => by
        by_cases hvk : v = k
        · exact ⟨y, y1, by omega, by rw [(hV' 0).2.1, hvk]⟩
        · obtain ⟨i, b1, b2, b3⟩ := F2 v a1 (by omega)
          by_cases h1 : i < y
          · exact ⟨i, b1, by omega, by rw [(hV' i).1 h1, b3]⟩
          · exact ⟨i + 1, by omega, by omega, by rw [(hV' (i + 1)).2.2 (by omega), Nat.add_sub_cancel, b3]⟩, fun i j a1 a2 a3 => by
        by_cases h1 : j < y
        · rw [(hV' i).1 (by omega), (hV' j).1 h1]
          exact F3 i j a1 a2 (by omega)
        · by_cases h2 : j = y
          · rw [(hV' i).1 (by omega), h2, (hV' 0).2.1]
            exact hgt i a1 (by omega)
          · rw [(hV' j).2.2 (by omega)]
            by_cases h3 : i < y
            · rw [(hV' i).1 h3]
              exact F3 i (j - 1) a1 (by omega) (by omega)
            · by_cases h4 : i = y
              · rw [h4, (hV' 0).2.1]
                exact cR_sw.2.mp (c3 (j - 1) (by omega) (by omega))
              · rw [(hV' i).2.2 (by omega)]
                exact F3 (i - 1) (j - 1) (by omega) (by omega) (by omega)⟩
    exact ⟨m', V'', e2, f2.tr f3, g1, g2, g3, fun i hi => (g4 i hi).trans ((hV' i).1 (by omega))⟩
/-- a want is for p -/
def Wn (T : Nat → Nat) (G : Rg) (p : Nat) : Prop := ∃ (c : Nat) (x : CnT), G.2.2[c]? = some x ∧ x.1 = 4 ∧ tgt T G x = p
theorem Wn_no {T : Nat → Nat} {G : Rg} {p : Nat} {f : Nat → Nat} (h : Wn T G p) (hp : p < G.1.length) (hf : SL T G aT f) : f p ≠ 0 := fun e => by
  obtain ⟨c, x, h1, h2, h3⟩ := h
  have := hf.1 p hp
  unfold dm0 at this
  have hw := (Bool.and_eq_true_iff.mp (Bool.and_eq_true_iff.mp this).2).1
  have h5 := wt_iff.mp hw c x h1 rfl h2 h3
  rw [e] at h5
  unfold inR at h5
  have := of_decide_eq_true (Bool.and_eq_true_iff.mp h5).1
  omega
theorem isWanted_M {s n p : Nat} {m : Mi} {T : Nat → Nat} {G : Rg} (hO : RO T n G) (hE : ME s m T n G) (hp : p < G.1.length) : ∃ r, f_X12_isWanted TT m 870 (nI p) = some (bI r) ∧ (r = true ↔ Wn T G p) := by
  have hB := hO.2.1
  have hB1 := hB.1
  have hB3 := hB.2.2
  have hs := hE.2.1
  have hl := lnkN_le G.2.2
  have key : ∀ (d k N : Nat) (r : Bool), k + d = G.2.2.length → lnkN G.2.2 ≤ k → d < N → (r = true ↔ ∃ (c : Nat) (x : CnT), c < k ∧ G.2.2[c]? = some x ∧ x.1 = 4 ∧ tgt T G x = p) → ∃ r', lp (fun x : Int32 × Int32 => f_X12_isWanted_l12 TT m 870 (nI p) x.1 x.2) N (bI r, nI k) = some (bI r') ∧ (r' = true ↔ Wn T G p) := by
    intro d
    induction d with
    | zero =>
      intro k N r hk hlk hN hr
      obtain ⟨N, rfl⟩ : ∃ y, N = y + 1 := ⟨N - 1, by omega⟩
      refine ⟨r, lp_exit ?_, hr.trans ⟨fun ⟨c, x, _, h⟩ => ⟨c, x, h⟩, fun ⟨c, x, h⟩ => ⟨c, x, by have := get_lt h.1; omega, h⟩⟩⟩
      show f_X12_isWanted_l12 TT m 870 (nI p) (bI r) (nI k) = _
      unfold f_X12_isWanted_l12
      rw [cons_M hE.1 hE.2.1 hE.2.2.1 hE.2.2.2.1.1, Option.bind_some, if_pos (nI_le (by omega) (by omega))]
    | succ d ih =>
      intro k N r hk hlk hN hr
      obtain ⟨N, rfl⟩ : ∃ y, N = y + 1 := ⟨N - 1, by omega⟩
      obtain ⟨x, hx⟩ := get_some (l := G.2.2) (k := k) (by omega)
      have h4 : x.1 = 4 := (hO.1.1.2.2.2.2.2 k x hx).mpr (by omega)
      have ut := (unk_fnd hO.2.2.1 (List.mem_of_getElem? hx)).2
      have lt1 := hE.2.2.2.1.2.2.2.2.1 k x hx
      have hbody : f_X12_isWanted_l12 TT m 870 (nI p) (bI r) (nI k) = some (.inl (bI (r || decide (tgt T G x = p)), nI (k + 1))) := by
        unfold f_X12_isWanted_l12
        rw [cons_M hE.1 hE.2.1 hE.2.2.1 hE.2.2.2.1.1, Option.bind_some, if_neg (nI_ge (by omega) (by omega))]
        cases r with
        | true => rw [if_neg bTr, lt_eq, nI_1]; rfl
        | false =>
          rw [if_pos bF, hE.2.2.1, show gr m 870 38 = 896 from hE.1 38 (by omega), show (250 : Int32) = nI 250 from rfl, pk_mul, nI_add, if_pos (ar_of s_896 (by omega) (by omega)), ix_nI (by omega), lt1, lt_eq, lt_eq, nI_1]
          by_cases ht : tgt T G x = p
          · rw [if_pos (by rw [ht]), decide_eq_true ht]
            rfl
          · rw [if_neg (fun z => ht ((nI_eq (by omega) (by omega)).mp z)), decide_eq_false ht]
            rfl
      rw [lp_step hbody]
      refine ih (k + 1) N _ (by omega) (by omega) (by omega) ?_
      rw [Bool.or_eq_true, hr, decide_eq_true_iff]
      constructor
      · rintro (⟨c, y, h1, h2⟩ | h)
        · exact ⟨c, y, by omega, h2⟩
        · exact ⟨k, x, by omega, hx, h4, h⟩
      · rintro ⟨c, y, h1, h2, h3, h5⟩
        by_cases hck : c = k
        · rw [hck, hx] at h2
          cases h2
          exact Or.inr h5
        · exact Or.inl ⟨c, y, by omega, h2, h3, h5⟩
  obtain ⟨r, e1, h1⟩ := key (G.2.2.length - lnkN G.2.2) (lnkN G.2.2) FUEL false (by omega) (by omega) (by unfold FUEL; omega) ⟨fun z => (Bool.false_ne_true z).elim, fun ⟨c, x, h1, h2, h3, _⟩ => by have := (hO.1.1.2.2.2.2.2 c x h2).mp h3; omega⟩
  refine ⟨r, ?_, h1⟩
  unfold f_X12_isWanted f_X12_isWanted_j12
  rw [hE.2.2.1, hE.1.W.2.2.1, if_pos (ar_of s_883 hs (by omega)), lt_eq, ix_nI (by omega), hE.2.2.2.1.1.2.2.1, show ((0 : Int32), nI (lnkN G.2.2)) = (bI false, nI (lnkN G.2.2)) from rfl, e1, Option.bind_some]
  unfold f_X12_isWanted_j55
  rw [if_pos (by cases r <;> rfl)]
