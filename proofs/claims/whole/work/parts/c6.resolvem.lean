/-! resolve of the reference. -/
def nzC (np : Nat) (g : Nat → Nat) : Nat := (List.range np).countP (fun p => decide (g p ≠ 0))
theorem nzC_succ (k : Nat) (g : Nat → Nat) : nzC (k + 1) g = nzC k g + if g k = 0 then 0 else 1 := by
  unfold nzC
  rw [List.range_succ, List.countP_append]
  by_cases h : g k = 0
  · simp [h]
  · simp [h]
theorem nzC_le (k : Nat) (g : Nat → Nat) : nzC k g ≤ k := by
  have := List.countP_le_length (p := fun p => decide (g p ≠ 0)) (l := List.range k)
  rw [List.length_range] at this
  exact this
/-- what was found, in the reference's memory -/
def FnM (m : Mi) (G : Rg) (F : Fnd) : Prop := match F with
  | none => gi m 870 49 = 0 ∧ gi m 870 50 = 0 ∧ gi m 870 51 = 0 ∧ gi m 870 52 = 0
  | some (.inl g) => gi m 870 49 = 1 ∧ gi m 870 50 = 0 ∧ gi m 870 51 = nI (nzC G.1.length g) ∧ gi m 870 52 = 1 ∧ ∀ p, p < G.1.length → gi m 907 p = nI (g p) ∧ gi m 908 p = nI (g p)
  | some (.inr L) => gi m 870 49 = 2 ∧ gi m 870 50 = nI L.length ∧ gi m 870 51 = 0 ∧ gi m 870 52 = 0 ∧ ∀ i c, L[i]? = some c → gi m 909 i = nI c
theorem FnM.keep {m m' : Mi} {G : Rg} {F : Fnd} (h : FnM m G F) (k : ∀ j, 49 ≤ j → j ≤ 52 → gi m' 870 j = gi m 870 j) (k2 : ∀ x j, 907 ≤ x → x ≤ 909 → gi m' x j = gi m x j) : FnM m' G F := by
  cases F with
  | none => exact ⟨(k _ (by omega) (by omega)).trans h.1, (k _ (by omega) (by omega)).trans h.2.1, (k _ (by omega) (by omega)).trans h.2.2.1, (k _ (by omega) (by omega)).trans h.2.2.2⟩
  | some F =>
    cases F with
    | inl g => exact ⟨(k _ (by omega) (by omega)).trans h.1, (k _ (by omega) (by omega)).trans h.2.1, (k _ (by omega) (by omega)).trans h.2.2.1, (k _ (by omega) (by omega)).trans h.2.2.2.1, fun p hp => ⟨(k2 _ _ (by omega) (by omega)).trans (h.2.2.2.2 p hp).1, (k2 _ _ (by omega) (by omega)).trans (h.2.2.2.2 p hp).2⟩⟩
    | inr L => exact ⟨(k _ (by omega) (by omega)).trans h.1, (k _ (by omega) (by omega)).trans h.2.1, (k _ (by omega) (by omega)).trans h.2.2.1, (k _ (by omega) (by omega)).trans h.2.2.2.1, fun i c hi => (k2 _ _ (by omega) (by omega)).trans (h.2.2.2.2 i c hi)⟩
def LkM (m : Mi) (G : Rg) (F : Fnd) : Prop := match F with
  | some (.inl g) => gi m 870 52 = 1 ∧ ∀ p, p < G.1.length → gi m 908 p = nI (g p)
  | _ => gi m 870 52 = 0
theorem FnM.L {m : Mi} {G : Rg} {F : Fnd} (h : FnM m G F) : LkM m G F := by
  cases F with
  | none => exact h.2.2.2
  | some F =>
    cases F with
    | inl g => exact ⟨h.2.2.2.1, fun p hp => (h.2.2.2.2 p hp).2⟩
    | inr L => exact h.2.2.2.1
theorem LkM.keep {m m' : Mi} {G : Rg} {F : Fnd} (h : LkM m G F) (k : gi m' 870 52 = gi m 870 52) (k2 : ∀ j, gi m' 908 j = gi m 908 j) : LkM m' G F := by
  cases F with
  | none => exact k.trans h
  | some F =>
    cases F with
    | inl g => exact ⟨k.trans h.1, fun p hp => (k2 p).trans (h.2 p hp)⟩
    | inr L => exact k.trans h
def FRw (x j : Nat) : Prop := x = 910 ∨ (x = 870 ∧ j = 57)
theorem rows33 {s n p b1 : Nat} {m : Mi} {T : Nat → Nat} {G : Rg} {V0 : Nat → Nat} (hO : RO T n G) (hE : ME s m T n G) (hp : p < G.1.length) (hb : b1 ≤ 1) (h57 : gi m 870 57 = nI b1) (hV : ∀ i, i < b1 → gi m 910 i = nI (V0 i)) :
    ∃ V b m', f_X12_rows_j33 TT m 870 (nI p) = some m' ∧ FI FRw m m' ∧ b1 ≤ b ∧ b ≤ 2 ∧ gi m' 870 57 = nI (b + cntR G.2.1 p) ∧ (∀ i, i < b + cntR G.2.1 p → gi m' 910 i = nI (V i)) ∧ Fal T G p b (cntR G.2.1 p + 1) V ∧ (∀ i, i < b1 → V i = V0 i) ∧ (∀ i, b1 ≤ i → i < b → V i = 0) ∧ (¬ Wn T G p → b1 < b) := by
  have hB := hO.2.1
  have h6 := hO.2.2.2.1.1 p
  obtain ⟨r, er, hr⟩ := isWanted_M hO hE hp
  have fal0 : ∀ b V, Fal T G p b 1 V := fun b V => ⟨fun i a1 a2 => by omega, fun v a1 a2 => by omega, fun i j a1 a2 a3 => by omega⟩
  cases r with
  | true =>
    obtain ⟨m', V', e1, f1, g1, g2, g3, g4⟩ := falls_lp (b := b1) hO hp (by omega) (cntR G.2.1 p) 1 FUEL m V0 (by omega) (by omega) (by unfold FUEL; omega) hE (by rw [h57]; rfl) (fun i hi => hV i (by omega)) (fal0 _ _)
    refine ⟨V', b1, m', ?_, f1, Nat.le_refl _, by omega, g1, g2, g3, g4, fun i h1 h2 => by omega, fun z => absurd (hr.mp rfl) z⟩
    unfold f_X12_rows_j33
    rw [er, Option.bind_some, if_neg bTr]
    unfold f_X12_rows_j61 f_X12_rows_j69
    rw [lt_eq, h57, show ((1 : Int32), m) = (nI 1, m) from rfl, e1, Option.bind_some]
    rfl
  | false =>
    have w56 : gr m 870 56 = 910 := hE.1 56 (by omega)
    have f0 : FI FRw m (si (si m 910 b1 0) 870 57 (nI (b1 + 1))) := (FI.si (P := FRw) (Or.inl rfl)).tr (FI.si (P := FRw) (Or.inr ⟨rfl, rfl⟩))
    obtain ⟨m', V', e1, f1, g1, g2, g3, g4⟩ := falls_lp (b := b1 + 1) hO hp (by omega) (cntR G.2.1 p) 1 FUEL (si (si m 910 b1 0) 870 57 (nI (b1 + 1))) (fun i => if i < b1 then V0 i else 0) (by omega) (by omega) (by unfold FUEL; omega) (hE.keep hB f0 (fun x j z => by unfold FRw at z; omega)) (gi_si _ _ _ _) (fun i hi => by
      by_cases h : i < b1
      · simp only [mS]
        rw [if_neg (by omega), if_neg (by omega), if_pos h]
        exact hV i h
      · rw [show i = b1 by omega]
        simp only [mS]
        rw [if_neg (by omega), if_pos ⟨trivial, trivial⟩, if_neg (by omega)]
        rfl) (fal0 _ _)
    refine ⟨V', b1 + 1, m', ?_, f0.tr f1, by omega, by omega, g1, g2, g3, fun i hi => (g4 i (by omega)).trans (if_pos hi), fun i h1 h2 => (g4 i (by omega)).trans (if_neg (by omega)), fun _ => by omega⟩
    unfold f_X12_rows_j33
    rw [er, Option.bind_some, if_pos bF, w56, h57, if_pos (ar_of s_910 (by omega) (by omega)), lt_eq, lt_eq, ix_nI (by omega), show gi (si m 910 b1 0) 870 57 = nI b1 by simp only [mS]; rw [if_neg (by omega)]; exact h57, nI_1]
    unfold f_X12_rows_j61 f_X12_rows_j69
    rw [lt_eq, gi_si, show ((1 : Int32), si (si m 910 b1 0) 870 57 (nI (b1 + 1))) = (nI 1, si (si m 910 b1 0) 870 57 (nI (b1 + 1))) from rfl, e1, Option.bind_some]
    rfl
/-- the list of values is in order and misses none -/
def RwO (T : Nat → Nat) (G : Rg) (l : Option (Nat → Nat)) (p Ln : Nat) (V : Nat → Nat) : Prop := (∀ i, i < Ln → V i ≤ cntR G.2.1 p) ∧ (∀ v, v ≤ cntR G.2.1 p → (v = 0 → ¬ Wn T G p) → ∃ i, i < Ln ∧ V i = v) ∧ ∀ i v, i < Ln → pre T G l p v (V i) → v ≤ cntR G.2.1 p → (v = 0 → ¬ Wn T G p) → ∃ j, j < i ∧ V j = v
theorem RwO_of {T : Nat → Nat} {G : Rg} {l : Option (Nat → Nat)} {p b1 b : Nat} {V : Nat → Nat} (hl : match l with | none => b1 = 0 | some g => b1 = 1 ∧ V 0 = g p ∧ g p ≤ cntR G.2.1 p) (hb : b1 ≤ b) (hF : Fal T G p b (cntR G.2.1 p + 1) V) (hz : ∀ i, b1 ≤ i → i < b → V i = 0) (hw : ¬ Wn T G p → b1 < b) : RwO T G l p (b + cntR G.2.1 p) V := by
  obtain ⟨F1, F2, F3⟩ := hF
  rw [Nat.add_sub_cancel] at F1 F2 F3
  have core : ∀ i v, b ≤ i → i < b + cntR G.2.1 p → pr0 T G p v (V i) → v ≤ cntR G.2.1 p → (v = 0 → ¬ Wn T G p) → ∃ j, j < i ∧ V j = v := by
    intro i v h1 h2 hpr hv hw0
    rcases hpr with ⟨h3, _⟩ | ⟨h3, h4, h5⟩
    · have := hw (hw0 h3)
      exact ⟨b1, by omega, by rw [hz b1 (Nat.le_refl _) this, h3]⟩
    · obtain ⟨j, c1, c2, c3⟩ := F2 v (by omega) (by omega)
      refine ⟨j, ?_, c3⟩
      have h5 : cRp T G p v (V i) = 1 := h5
      rcases Nat.lt_trichotomy j i with h | h | h
      · exact h
      · rw [← c3, h] at h5
        unfold cRp at h5
        rw [cmpL_rf] at h5
        exact absurd h5 (by decide)
      · have := F3 i j h1 h c2
        rw [c3] at this
        have := cR_sw.1.mp this
        rw [h5] at this
        exact absurd this (by decide)
  refine ⟨fun i hi => ?_, fun v hv hw0 => ?_, fun i v hi hpre hv hw0 => ?_⟩
  · by_cases h1 : b ≤ i
    · have := F1 i h1 hi
      omega
    · by_cases h2 : b1 ≤ i
      · rw [hz i h2 (by omega)]
        omega
      · cases l with
        | none =>
          have hl : b1 = 0 := hl
          omega
        | some g =>
          rw [show i = 0 by have := hl.1; omega, hl.2.1]
          exact hl.2.2
  · by_cases h0 : v = 0
    · have := hw (hw0 h0)
      exact ⟨b1, by omega, by rw [hz b1 (Nat.le_refl _) this, h0]⟩
    · obtain ⟨j, c1, c2, c3⟩ := F2 v (by omega) (by omega)
      exact ⟨j, c2, c3⟩
  · by_cases h1 : b ≤ i
    · cases l with
      | none => exact core i v h1 hi hpre hv hw0
      | some g =>
        rcases hpre with ⟨h2, h3⟩ | ⟨h2, h3, h4⟩
        · exact ⟨0, by have := hl.1; omega, by rw [hl.2.1, h2]⟩
        · exact core i v h1 hi h4 hv hw0
    · cases l with
      | none =>
        have hl : b1 = 0 := hl
        have := hz i (by omega) (by omega)
        rcases hpre with ⟨_, h3⟩ | ⟨_, h3, _⟩
        · exact absurd this h3
        · exact absurd this h3
      | some g =>
        have h1b := hl.1
        rcases hpre with ⟨h2, h3⟩ | ⟨h2, h3, h4⟩
        · refine ⟨0, ?_, by rw [hl.2.1, h2]⟩
          rcases Nat.eq_zero_or_pos i with h | h
          · rw [h] at h3; exact absurd hl.2.1 h3
          · exact h
        · exfalso
          have hi0 : i ≠ 0 := fun z => h3 (by rw [z]; exact hl.2.1)
          have := hz i (by omega) (by omega)
          rcases h4 with ⟨_, h5⟩ | ⟨_, h5, _⟩
          · exact absurd this h5
          · exact absurd this h5
theorem rows_M {s n p : Nat} {m : Mi} {T : Nat → Nat} {G : Rg} {F : Fnd} (a : Int32) (hO : RO T n G) (hE : ME s m T n G) (hL : LkM m G F) (hFO : FO T G F) (hp : p < G.1.length) :
    ∃ V Ln m', f_X12_rows TT m 870 (nI p) a = some m' ∧ FI FRw m m' ∧ gi m' 870 57 = nI Ln ∧ Ln ≤ 8 ∧ (∀ i, i < Ln → gi m' 910 i = nI (V i)) ∧ RwO T G (lkd F a) p Ln V := by
  have hB := hO.2.1
  have hB1 := hB.1
  have h6 := hO.2.2.2.1.1 p
  have f0 : FI FRw m (si m 870 57 0) := FI.si (P := FRw) (Or.inr ⟨rfl, rfl⟩)
  have hE0 := hE.keep hB f0 (fun x j z => by unfold FRw at z; omega)
  have h52 : gi (si m 870 57 0) 870 52 = gi m 870 52 := by simp only [mS]; rw [if_neg (by omega)]
  have nolock : lkd F a = none → f_X12_rows TT m 870 (nI p) a = f_X12_rows_j33 TT (si m 870 57 0) 870 (nI p) → ∃ V Ln m', f_X12_rows TT m 870 (nI p) a = some m' ∧ FI FRw m m' ∧ gi m' 870 57 = nI Ln ∧ Ln ≤ 8 ∧ (∀ i, i < Ln → gi m' 910 i = nI (V i)) ∧ RwO T G (lkd F a) p Ln V := by
    intro hl he
    obtain ⟨V, b, m', e1, f1, b1, b2, g1, g2, g3, g4, g5, g6⟩ := rows33 (b1 := 0) (V0 := fun _ => 0) hO hE0 hp (by omega) (gi_si _ _ _ _) (fun i hi => by omega)
    rw [hl]
    exact ⟨V, _, m', he.trans e1, f0.tr f1, g1, by omega, g2, RwO_of rfl b1 g3 g5 g6⟩
  by_cases ha : a = 0
  · refine nolock (by unfold lkd; rw [if_pos ha]) ?_
    unfold f_X12_rows
    rw [lt_eq, if_pos ha]
  · have none' : gi m 870 52 = 0 → lkd F a = none → ∃ V Ln m', f_X12_rows TT m 870 (nI p) a = some m' ∧ FI FRw m m' ∧ gi m' 870 57 = nI Ln ∧ Ln ≤ 8 ∧ (∀ i, i < Ln → gi m' 910 i = nI (V i)) ∧ RwO T G (lkd F a) p Ln V := fun h hl => nolock hl (by
      unfold f_X12_rows
      rw [lt_eq, if_neg ha, h52, h, if_pos rfl])
    cases F with
    | none => exact none' hL (by unfold lkd; rw [if_neg ha])
    | some F =>
      cases F with
      | inr L => exact none' hL (by unfold lkd; rw [if_neg ha])
      | inl g =>
        have hl : lkd (some (.inl g)) a = some g := by unfold lkd; rw [if_neg ha]
        have hgp := SL_le (show SL T G aT g from hFO) hp
        have f1 : FI FRw m (si (si (si m 870 57 0) 910 0 (nI (g p))) 870 57 1) := (f0.tr (FI.si (P := FRw) (Or.inl rfl))).tr (FI.si (P := FRw) (Or.inr ⟨rfl, rfl⟩))
        obtain ⟨V, b, m', e1, f2, b1, b2, g1, g2, g3, g4, g5, g6⟩ := rows33 (b1 := 1) (V0 := fun _ => g p) hO (hE.keep hB f1 (fun x j z => by unfold FRw at z; omega)) hp (by omega) (gi_si _ _ _ _) (fun i hi => by
          rw [show i = 0 by omega]
          simp only [mS]
          rw [if_neg (by omega), if_pos ⟨trivial, trivial⟩])
        rw [hl]
        refine ⟨V, _, m', ?_, f1.tr f2, g1, by omega, g2, RwO_of (b1 := 1) ⟨rfl, g4 0 (by omega), hgp⟩ b1 g3 g5 g6⟩
        unfold f_X12_rows
        rw [lt_eq, if_neg ha, h52, hL.1, if_neg (by decide), show gr (si m 870 57 0) 870 54 = 908 from hE.1 54 (by omega), if_pos (ar_of s_908 (by omega) (by omega)), show gr (si m 870 57 0) 870 56 = 910 from hE.1 56 (by omega), if_pos (show ar TT 910 .int 0 = true from ar_of (k := 0) s_910 (by omega) (by omega)), lt_eq, lt_eq, ix_nI (by omega), show gi (si m 870 57 0) 908 p = nI (g p) by simp only [mS]; rw [if_neg (by omega)]; exact hL.2 p hp]
        exact e1
/-- values ahead of p, and v for p -/
def fxP (p : Nat) (x : Nat → Nat) (v : Nat) : Nat → Option Nat := fun i => if i < p then some (x i) else if i = p then some v else none
def fxL (p : Nat) (x : Nat → Nat) : Nat → Option Nat := fun i => if i < p then some (x i) else none
theorem NF_EX {T : Nat → Nat} {n : Nat} {G : Rg} (hO : RO T n G) {p v : Nat} {x : Nat → Nat} (hp : p < G.1.length) : 0 < NF T G aT (fxP p x v) ↔ EX T G p x v := by
  unfold NF
  rw [NS_pos (fun q u _ h => dm0_7 hO (Bool.and_eq_true_iff.mp h).1)]
  constructor
  · rintro ⟨f, h1, h2⟩
    refine ⟨f, ⟨fun q hq => (Bool.and_eq_true_iff.mp (h1 q hq)).1, h2⟩, fun i hi => ?_, ?_⟩
    · have := (Bool.and_eq_true_iff.mp (h1 i (by omega))).2
      unfold fxB fxP at this
      rw [if_pos hi] at this
      exact of_decide_eq_true this
    · have := (Bool.and_eq_true_iff.mp (h1 p hp)).2
      unfold fxB fxP at this
      rw [if_neg (by omega), if_pos rfl] at this
      exact of_decide_eq_true this
  · rintro ⟨f, ⟨h1, h2⟩, h3, h4⟩
    refine ⟨f, fun q hq => Bool.and_eq_true_iff.mpr ⟨h1 q hq, ?_⟩, h2⟩
    unfold fxB fxP
    by_cases hqp : q < p
    · rw [if_pos hqp]
      exact decide_eq_true (h3 q hqp)
    · rw [if_neg hqp]
      by_cases hq2 : q = p
      · rw [if_pos hq2]
        rw [hq2]
        exact decide_eq_true h4
      · rw [if_neg hq2]
def FxN (p : Nat) (m : Mi) (fx : Nat → Option Nat) : Prop := ∀ i, i < 10 → i ≠ p → (fx i = none ∧ gi m 904 i = -1) ∨ ∃ v, v < 7 ∧ fx i = some v ∧ gi m 904 i = nI v
def FTr (p x j : Nat) : Prop := (x = 904 ∧ j = p) ∨ FSo x j
theorem tries_lp {s n p Ln : Nat} {T : Nat → Nat} {G : Rg} {x V : Nat → Nat} {a : Int32} (hO : RO T n G) (hp : p < G.1.length) (hL : Ln ≤ 8) (hV7 : ∀ i, i < Ln → V i < 7) (hx7 : ∀ i, i < p → x i < 7) :
    ∀ (d k N : Nat) (m : Mi), k + d = Ln → d + 1 < N → ME s m T n G → OnM m aT → FxN p m (fxL p x) → gi m 870 57 = nI Ln → (∀ i, i < Ln → gi m 910 i = nI (V i)) → (∀ i, i < k → ¬ EX T G p x (V i)) → (∃ i, i < Ln ∧ EX T G p x (V i)) →
    ∃ i m', lp (fun z : Int32 × Int32 × Mi => f_X12_resolve_l60 TT z.2.2 870 a (nI p) z.1 z.2.1) N (0, nI k, m) = some m' ∧ i < Ln ∧ EX T G p x (V i) ∧ (∀ j, j < i → ¬ EX T G p x (V j)) ∧ gi m' 904 p = nI (V i) ∧ FI (FTr p) m m' := by
  have hB := hO.2.1
  have hB1 := hB.1
  intro d
  induction d with
  | zero =>
    intro k N m hk hN hE hA hF h57 h910 hno hex
    obtain ⟨i, h1, h2⟩ := hex
    exact absurd h2 (hno i (by omega))
  | succ d ih =>
    intro k N m hk hN hE hA hF h57 h910 hno hex
    obtain ⟨N, rfl⟩ : ∃ y, N = y + 1 := ⟨N - 1, by omega⟩
    have hv7 := hV7 k (by omega)
    have w46 : gr m 870 46 = 904 := hE.1 46 (by omega)
    have w56 : gr m 870 56 = 910 := hE.1 56 (by omega)
    have f1 : FI (FTr p) m (si m 904 p (nI (V k))) := FI.si (P := FTr p) (Or.inl ⟨rfl, rfl⟩)
    have hE1 := hE.keep hB f1 (fun x j z => by unfold FTr FSo at z; omega)
    have hA1 : OnM (si m 904 p (nI (V k))) aT := fun c hc => (f1.1 _ _ (by unfold FTr FSo; omega)).trans (hA c hc)
    have hF1 : FxM (si m 904 p (nI (V k))) (fxP p x (V k)) := fun i hi => by
      by_cases hip : i = p
      · refine Or.inr ⟨V k, hv7, ?_, by rw [hip]; exact gi_si _ _ _ _⟩
        unfold fxP
        rw [if_neg (by omega), if_pos hip]
      · have h := hF i hi hip
        have e1 : gi (si m 904 p (nI (V k))) 904 i = gi m 904 i := by simp only [mS]; rw [if_neg (by omega)]
        have e2 : fxP p x (V k) i = fxL p x i := by
          unfold fxP fxL
          by_cases hlt : i < p
          · rw [if_pos hlt, if_pos hlt]
          · rw [if_neg hlt, if_neg hlt, if_neg hip]
        rw [e1, e2]
        exact h
    obtain ⟨m2, e2, f2⟩ := solved_M (most := 1) hO hE1 hA1 hF1 (by omega) (by omega)
    have f2' : FI (FTr p) (si m 904 p (nI (V k))) m2 := f2.mono (fun x j z => Or.inr z)
    have g904 : gi m2 904 p = nI (V k) := (f2.1 _ _ (by unfold FSo; omega)).trans (gi_si _ _ _ _)
    have hstart : f_X12_resolve_l60 TT m 870 a (nI p) 0 (nI k) = if nI (min 1 (NF T G aT (fxP p x (V k)))) = 1 then some (.inl (1, nI (k + 1), m2)) else some (.inl (0, nI (k + 1), m2)) := by
      unfold f_X12_resolve_l60
      rw [h57, if_neg (nI_ge (by omega) (by omega)), if_pos rfl, w56, if_pos (ar_of s_910 (by omega) (by omega)), w46, if_pos (ar_of s_904 (by omega) (by omega)), lt_eq, ix_nI (n := k) (by omega), ix_nI (n := p) (by omega), h910 k (by omega), show f_X12_solved TT (si m 904 p (nI (V k))) 870 1 = _ from e2, bd_some]
      simp only [lt_eq, nI_1]
    have hE2 := hE1.keep hB f2 (fun x j z => by unfold FSo at z; omega)
    have g57 : gi m2 870 57 = nI Ln := ((f1.tr f2').1 _ _ (by unfold FTr FSo; omega)).trans h57
    by_cases hpos : 0 < NF T G aT (fxP p x (V k))
    · rw [show min 1 (NF T G aT (fxP p x (V k))) = 1 by omega, if_pos (show nI 1 = 1 from rfl)] at hstart
      refine ⟨k, m2, ?_, by omega, (NF_EX hO hp).mp hpos, fun j hj => hno j hj, g904, f1.tr f2'⟩
      rw [lp_step hstart]
      obtain ⟨N, rfl⟩ : ∃ y, N = y + 1 := ⟨N - 1, by omega⟩
      refine lp_exit ?_
      show f_X12_resolve_l60 TT m2 870 a (nI p) 1 (nI (k + 1)) = _
      unfold f_X12_resolve_l60
      by_cases hend : gi m2 870 57 ≤ nI (k + 1)
      · rw [if_pos hend]
      · rw [if_neg hend, if_neg (by decide)]
    · rw [show min 1 (NF T G aT (fxP p x (V k))) = 0 by omega, if_neg (show ¬ nI 0 = 1 by decide)] at hstart
      rw [lp_step hstart]
      have hnk : ¬ EX T G p x (V k) := fun z => hpos ((NF_EX hO hp).mpr z)
      obtain ⟨i, m', e3, g1, g2, g3, g4, f3⟩ := ih (k + 1) N m2 (by omega) (by omega) hE2 (fun c hc => ((f1.tr f2').1 _ _ (by unfold FTr FSo; omega)).trans (hA c hc)) (fun i hi hip => by
        rw [(f1.tr f2').1 904 i (by unfold FTr FSo; omega)]
        exact hF i hi hip) g57 (fun i hi => ((f1.tr f2').1 _ _ (by unfold FTr FSo; omega)).trans (h910 i hi)) (fun i hi => by
        by_cases hik : i = k
        · rw [hik]; exact hnk
        · exact hno i (by omega)) hex
      exact ⟨i, m', e3, g1, g2, g3, g4, (f1.tr f2').tr f3⟩
