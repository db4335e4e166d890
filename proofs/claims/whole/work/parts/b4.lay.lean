/-! The class's solver: rows of open values. -/
/-- the solver while it searches: B says which values go together -/
def SS (q : Nat) (m : Mi) (np : Nat) (B : Nat → Nat → Nat → Nat → Bool) : Prop := SV q m ∧ gi m 853 1 = nI np ∧ np ≤ 10 ∧ ∀ p b t, p < np → b < 7 → t < np → p ≠ t → gi m 855 ((p * 7 + b) * 10 + t) = msk 7 (fun c => B p (em b) t (em c))
/-- row d: what is open, and who closed -/
def RI (m : Mi) (np d : Nat) (D K : Nat → Nat → Bool) : Prop := ∀ p, p < np → gi m 856 (d * 10 + p) = msk 7 (fun b => D p (em b)) ∧ gi m 857 (d * 10 + p) = msk 10 (K p)
/-- rows behind d may have changed -/
def FRd (d x j : Nat) : Prop := (x = 856 ∨ x = 857) ∧ (d + 1) * 10 ≤ j
theorem SS.keep {q np d : Nat} {m m' : Mi} {B : Nat → Nat → Nat → Nat → Bool} (h : SS q m np B) (k : FI (FRd d) m m') : SS q m' np B := ⟨h.1.keep k, (k.1 _ _ (by unfold FRd; omega)).trans h.2.1, h.2.2.1, fun p b t hp hb ht hne => (k.1 _ _ (by unfold FRd; omega)).trans (h.2.2.2 p b t hp hb ht hne)⟩
theorem RI.keep {np d : Nat} {m m' : Mi} {D K : Nat → Nat → Bool} (h : RI m np d D K) (hn : np ≤ 10) (k : FI (FRd d) m m') : RI m' np d D K := fun p hp => ⟨(k.1 _ _ (by unfold FRd; omega)).trans (h p hp).1, (k.1 _ _ (by unfold FRd; omega)).trans (h p hp).2⟩
theorem FRd.up {d e : Nat} {m m' : Mi} (h : FI (FRd e) m m') (hd : d ≤ e) : FI (FRd d) m m' := h.mono (fun x j z => by unfold FRd at *; omega)
theorem isOpen_C {q d p b : Nat} {m : Mi} {D : Nat → Nat → Bool} (hS : SV q m) (hd : d < 10) (hp : p < 10) (hb : b < 7) (h : gi m 856 (d * 10 + p) = msk 7 (fun b => D p (em b))) : f_X8_isOpen TT m 853 (nI d) (nI p) (nI b) = some (bI (D p (em b))) := by
  unfold f_X8_isOpen
  rw [if_neg (nI_pos (by omega)), if_neg (show ¬ (10 : Int32) ≤ nI d from nI_ge (b := 10) hd (by omega)), if_neg (nI_pos (by omega)), if_neg (show ¬ (10 : Int32) ≤ nI p from nI_ge (b := 10) hp (by omega)), hS.2.2.2.1, show (10 : Int32) = nI 10 from rfl, pk_mul, nI_add, if_pos (ar_of s_856 (by omega) (by omega)), ix_nI (by omega), h, msk_get hb (by omega)]
  cases D p (em b)
  · rw [if_neg (by decide)]; rfl
  · rw [if_pos (show bI true = 1 from rfl)]; rfl
/-- what is left open when p has value v -/
def ly (B : Nat → Nat → Nat → Nat → Bool) (D : Nat → Nat → Bool) (p v : Nat) : Nat → Nat → Bool := fun t u => D t u && (if t = p then decide (u = v) else B p v t u)
def sm7 (f g : Nat → Bool) : Bool := (List.range 7).all (fun b => decide (f (em b) = g (em b)))
theorem sm7_iff {f g : Nat → Bool} : sm7 f g = true ↔ ∀ b, b < 7 → f (em b) = g (em b) := by
  unfold sm7
  rw [List.all_eq_true]
  exact ⟨fun h b hb => of_decide_eq_true (h b (List.mem_range.mpr hb)), fun h b hb => decide_eq_true (h b (List.mem_range.mp hb))⟩
def lk (D D' K : Nat → Nat → Bool) (p : Nat) : Nat → Nat → Bool := fun t i => K t i || (decide (i = p) && !sm7 (D t) (D' t))
theorem lay_lp {q np d p b : Nat} {B : Nat → Nat → Nat → Nat → Bool} {D K : Nat → Nat → Bool} (hd : d < 10) (hp : p < np) (hb : b < 7) :
    ∀ (e k N : Nat) (m : Mi), k + e = np → e < N → SS q m np B → RI m np d D K → (∀ t, t < k → gi m 856 ((d + 1) * 10 + t) = msk 7 (fun c => ly B D p (em b) t (em c)) ∧ gi m 857 ((d + 1) * 10 + t) = msk 10 (lk D (ly B D p (em b)) K p t) ∧ ∃ c, c < 7 ∧ ly B D p (em b) t (em c) = true) →
    ∃ r m', (lp (fun x : Int32 × Mi => f_X8_lay_l59 TT x.2 853 (nI p) (nI b) (nI (d * 10)) (nI ((d + 1) * 10)) (nI ((p * 7 + b) * 10)) x.1) N (nI k, m)).bind (Sum.elim (fun y : Mi => f_X8_lay_j184 TT y) (fun y : Int32 × Mi => f_X8_lay_j163 TT (y.2) 853 (nI p) (nI ((d + 1) * 10)) (y.1))) = some (r, m') ∧ FI (fun x j => (x = 856 ∨ x = 857) ∧ (d + 1) * 10 ≤ j ∧ j < (d + 1) * 10 + 10) m m' ∧
      ((r = 0 ∧ (∀ t, t < np → gi m' 856 ((d + 1) * 10 + t) = msk 7 (fun c => ly B D p (em b) t (em c)) ∧ gi m' 857 ((d + 1) * 10 + t) = msk 10 (lk D (ly B D p (em b)) K p t) ∧ ∃ c, c < 7 ∧ ly B D p (em b) t (em c) = true)) ∨ (∃ t, t < np ∧ (∀ c, c < 7 → ly B D p (em b) t (em c) = false) ∧ r = msk 10 (fun i => lk D (ly B D p (em b)) K p t i || decide (i = p)))) := by
  intro e
  induction e with
  | zero =>
    intro k N m hk hN hS hR hdone
    obtain ⟨N, rfl⟩ : ∃ y, N = y + 1 := ⟨N - 1, by omega⟩
    rw [lp_exit (y := .inl m)]
    · exact ⟨0, m, rfl, FI.rf, Or.inl ⟨rfl, fun t ht => hdone t (by omega)⟩⟩
    · show f_X8_lay_l59 TT m 853 (nI p) (nI b) (nI (d * 10)) (nI ((d + 1) * 10)) (nI ((p * 7 + b) * 10)) (nI k) = _
      unfold f_X8_lay_l59
      have := hS.2.2.1
      rw [hS.2.1, if_pos (nI_le (by omega) (by omega))]
  | succ e ih =>
    intro k N m hk hN hS hR hdone
    obtain ⟨N, rfl⟩ : ∃ y, N = y + 1 := ⟨N - 1, by omega⟩
    obtain ⟨hV, h1, h10, hal⟩ := hS
    obtain ⟨v0, v2, v3, v4, v5, v6, v7⟩ := hV
    obtain ⟨o1, o2⟩ := hR k (by omega)
    -- what is left
    have hleft : ∃ s0, msk 7 (fun c => D k (em c)) &&& s0 = msk 7 (fun c => ly B D p (em b) k (em c)) ∧ f_X8_lay_l59 TT m 853 (nI p) (nI b) (nI (d * 10)) (nI ((d + 1) * 10)) (nI ((p * 7 + b) * 10)) (nI k) = f_X8_lay_j100 TT m 853 (nI p) (nI b) (nI (d * 10)) (nI ((d + 1) * 10)) (nI ((p * 7 + b) * 10)) (nI k) s0 (msk 7 (fun c => D k (em c))) := by
      unfold f_X8_lay_l59
      rw [h1, if_neg (nI_ge (by omega) (by omega)), v4, nI_add, if_pos (ar_of s_856 (by omega) (by omega)), ix_nI (by omega), o1]
      by_cases hkp : k = p
      · refine ⟨(1 : Int32) <<< (nI b &&& 31), ?_, by rw [if_pos (by rw [hkp])]⟩
        rw [one_msk hb (by omega), msk_and]
        refine msk_congr (fun c hc => ?_)
        unfold ly
        rw [if_pos hkp]
        by_cases hcb : c = b
        · rw [hcb, decide_eq_true rfl, decide_eq_true rfl]
        · rw [decide_eq_false hcb, decide_eq_false (fun z => hcb (em_inj hc hb z))]
      · refine ⟨msk 7 (fun c => B p (em b) k (em c)), ?_, ?_⟩
        · rw [msk_and]
          refine msk_congr (fun c hc => ?_)
          unfold ly
          rw [if_neg hkp]
        · rw [if_neg (fun z => hkp ((nI_eq (by omega) (by omega)).mp z)), v3, nI_add, if_pos (ar_of s_855 (by omega) (by omega)), ix_nI (by omega), hal p b k hp hb (by omega) (fun z => hkp z.symm)]
    obtain ⟨s0, hs0, hstart⟩ := hleft
    have f1 : FI (fun x j => (x = 856 ∨ x = 857) ∧ (d + 1) * 10 ≤ j ∧ j < (d + 1) * 10 + 10) m (si (si m 856 ((d + 1) * 10 + k) (msk 7 (fun c => ly B D p (em b) k (em c)))) 857 ((d + 1) * 10 + k) (msk 10 (lk D (ly B D p (em b)) K p k))) := (FI.si (P := fun x j => (x = 856 ∨ x = 857) ∧ (d + 1) * 10 ≤ j ∧ j < (d + 1) * 10 + 10) (by omega)).tr (FI.si (P := fun x j => (x = 856 ∨ x = 857) ∧ (d + 1) * 10 ≤ j ∧ j < (d + 1) * 10 + 10) (by omega))
    have w1 : gi (si (si m 856 ((d + 1) * 10 + k) (msk 7 (fun c => ly B D p (em b) k (em c)))) 857 ((d + 1) * 10 + k) (msk 10 (lk D (ly B D p (em b)) K p k))) 856 ((d + 1) * 10 + k) = msk 7 (fun c => ly B D p (em b) k (em c)) := by
      simp only [mS]
      rw [if_neg (by omega), if_pos ⟨trivial, trivial⟩]
    have w2 : gi (si (si m 856 ((d + 1) * 10 + k) (msk 7 (fun c => ly B D p (em b) k (em c)))) 857 ((d + 1) * 10 + k) (msk 10 (lk D (ly B D p (em b)) K p k))) 857 ((d + 1) * 10 + k) = msk 10 (lk D (ly B D p (em b)) K p k) := gi_si _ _ _ _
    have w3 : ∀ x j, x = 856 ∨ x = 857 → j ≠ (d + 1) * 10 + k → gi (si (si m 856 ((d + 1) * 10 + k) (msk 7 (fun c => ly B D p (em b) k (em c)))) 857 ((d + 1) * 10 + k) (msk 10 (lk D (ly B D p (em b)) K p k))) x j = gi m x j := by
      intro x j _ hj
      simp only [mS]
      rw [if_neg (by omega), if_neg (by omega)]
    have hbody : f_X8_lay_l59 TT m 853 (nI p) (nI b) (nI (d * 10)) (nI ((d + 1) * 10)) (nI ((p * 7 + b) * 10)) (nI k) = if msk 7 (fun c => ly B D p (em b) k (em c)) = 0 then some (.inr (.inr (nI k, si (si m 856 ((d + 1) * 10 + k) (msk 7 (fun c => ly B D p (em b) k (em c)))) 857 ((d + 1) * 10 + k) (msk 10 (lk D (ly B D p (em b)) K p k))))) else some (.inl (nI (k + 1), si (si m 856 ((d + 1) * 10 + k) (msk 7 (fun c => ly B D p (em b) k (em c)))) 857 ((d + 1) * 10 + k) (msk 10 (lk D (ly B D p (em b)) K p k)))) := by
      rw [hstart]
      unfold f_X8_lay_j100 f_X8_lay_j156
      have g4 : ∀ w, gr (si m 856 ((d + 1) * 10 + k) w) 853 4 = 856 := fun w => v4
      have g5 : ∀ w, gr (si m 856 ((d + 1) * 10 + k) w) 853 5 = 857 := fun w => v5
      have i4 : ∀ w, gi (si m 856 ((d + 1) * 10 + k) w) 856 (d * 10 + k) = msk 7 (fun c => D k (em c)) := fun w => by simp only [mS]; rw [if_neg (by omega)]; exact o1
      have i5 : ∀ w, gi (si m 856 ((d + 1) * 10 + k) w) 857 (d * 10 + k) = msk 10 (K k) := fun w => by simp only [mS]; rw [if_neg (by omega)]; exact o2
      rw [lt_eq, hs0, v4, nI_add, if_pos (ar_of s_856 (by omega) (by omega)), lt_eq, ix_nI (n := (d + 1) * 10 + k) (by omega), g5, g4, nI_add, if_pos (ar_of s_857 (by omega) (by omega)), if_pos (ar_of s_856 (by omega) (by omega)), ix_nI (n := d * 10 + k) (by omega), i4, i5, if_pos (ar_of s_857 (by omega) (by omega)), if_pos (ar_of s_857 (by omega) (by omega)), lt_eq, lt_eq, one_msk (show p < 10 by omega) (by omega), msk_or, nI_1]
      simp only [lt_eq]
      have hsame : (msk 7 (fun c => ly B D p (em b) k (em c)) = msk 7 (fun c => D k (em c))) ↔ sm7 (D k) (ly B D p (em b) k) = true := by
        rw [sm7_iff]
        exact ⟨fun h c hc => (msk_inj (by omega) h c hc).symm, fun h => msk_congr (fun c hc => (h c hc).symm)⟩
      by_cases hsm : sm7 (D k) (ly B D p (em b) k) = true
      · rw [if_pos (hsame.mpr hsm)]
        have : msk 10 (K k) ||| 0 = msk 10 (lk D (ly B D p (em b)) K p k) := by
          have h0 : (0 : Int32) = msk 10 (fun _ => false) := (msk_none (by omega) (fun _ _ => rfl)).symm
          rw [h0, msk_or]
          refine msk_congr (fun i _ => ?_)
          unfold lk
          rw [hsm]
          simp
        rw [this]
      · rw [if_neg (fun z => hsm (hsame.mp z))]
        have : msk 10 (fun i => K k i || decide (i = p)) = msk 10 (lk D (ly B D p (em b)) K p k) := by
          refine msk_congr (fun i _ => ?_)
          unfold lk
          rw [Bool.not_eq_true] at hsm
          rw [hsm]
          simp
        rw [this]
    generalize si (si m 856 ((d + 1) * 10 + k) (msk 7 (fun c => ly B D p (em b) k (em c)))) 857 ((d + 1) * 10 + k) (msk 10 (lk D (ly B D p (em b)) K p k)) = m1 at *
    have f1d : FI (FRd d) m m1 := f1.mono (fun x j z => ⟨z.1, z.2.1⟩)
    have hSm : SS q m np B := ⟨⟨v0, v2, v3, v4, v5, v6, v7⟩, h1, h10, hal⟩
    by_cases hz : msk 7 (fun c => ly B D p (em b) k (em c)) = 0
    · rw [if_pos hz] at hbody
      rw [lp_exit (y := .inr (nI k, m1)) hbody]
      refine ⟨msk 10 (fun i => lk D (ly B D p (em b)) K p k i || decide (i = p)), m1, ?_, f1, Or.inr ⟨k, by omega, (msk_zero (by omega)).mp hz, rfl⟩⟩
      show f_X8_lay_j163 TT m1 853 (nI p) (nI ((d + 1) * 10)) (nI k) = _
      unfold f_X8_lay_j163
      rw [show gr m1 853 5 = 857 from (f1.2.2 _ _).trans v5, nI_add, if_pos (ar_of s_857 (by omega) (by omega)), ix_nI (by omega), w2, one_msk (show p < 10 by omega) (by omega), msk_or]
    · rw [if_neg hz] at hbody
      rw [lp_step hbody]
      have hne : ∃ c, c < 7 ∧ ly B D p (em b) k (em c) = true := by
        by_cases hex : ∃ c, c < 7 ∧ ly B D p (em b) k (em c) = true
        · exact hex
        · exfalso
          apply hz
          refine (msk_zero (by omega)).mpr (fun i hi => ?_)
          cases hh : ly B D p (em b) k (em i) with
          | false => rfl
          | true => exact absurd ⟨i, hi, hh⟩ hex
      obtain ⟨r, m', e2, f2, g2⟩ := ih (k + 1) N m1 (by omega) (by omega) (hSm.keep f1d) (hR.keep h10 f1d) (fun t ht => by
        by_cases htk : t = k
        · rw [htk]; exact ⟨w1, w2, hne⟩
        · obtain ⟨x1, x2, x3⟩ := hdone t (by omega)
          exact ⟨(w3 _ _ (Or.inl rfl) (by omega)).trans x1, (w3 _ _ (Or.inr rfl) (by omega)).trans x2, x3⟩)
      exact ⟨r, m', e2, f1.tr f2, g2⟩
theorem lay_C {q np d p b : Nat} {m : Mi} {B : Nat → Nat → Nat → Nat → Bool} {D K : Nat → Nat → Bool} (hd : d < 10) (hp : p < np) (hb : b < 7) (hS : SS q m np B) (hR : RI m np d D K) :
    ∃ r m', f_X8_lay TT m 853 (nI d) (nI p) (nI b) = some (r, m') ∧ FI (FRd d) m m' ∧ ((r = 0 ∧ RI m' np (d + 1) (ly B D p (em b)) (lk D (ly B D p (em b)) K p) ∧ ∀ t, t < np → ∃ c, c < 7 ∧ ly B D p (em b) t (em c) = true) ∨ (∃ t, t < np ∧ (∀ c, c < 7 → ly B D p (em b) t (em c) = false) ∧ r = msk 10 (fun i => lk D (ly B D p (em b)) K p t i || decide (i = p)) ∧ r ≠ 0)) := by
  have h10 := hS.2.2.1
  obtain ⟨r, m', e1, f1, g1⟩ := lay_lp (q := q) (B := B) (D := D) (K := K) hd hp hb np 0 FUEL m (by omega) (by unfold FUEL; omega) hS hR (fun t ht => by omega)
  refine ⟨r, m', ?_, f1.mono (fun x j z => ⟨z.1, z.2.1⟩), ?_⟩
  · unfold f_X8_lay f_X8_lay_j59
    rw [if_neg (nI_pos (by omega)), if_neg (show ¬ (10 : Int32) ≤ nI d from nI_ge (b := 10) hd (by omega)), if_neg (nI_pos (by omega)), if_neg (show ¬ (10 : Int32) ≤ nI p from nI_ge (b := 10) (by omega) (by omega)), if_neg (nI_pos (by omega)), if_pos (show nI b < 7 from nI_lt (b := 7) hb (by omega)), lt_eq, lt_eq, lt_eq, show (7 : Int32) = nI 7 from rfl, show (10 : Int32) = nI 10 from rfl, pk_mul, nI_add, pk_mul, nI_add, pk_mul, show d * 10 + 10 = (d + 1) * 10 by omega, show ((0 : Int32), m) = (nI 0, m) from rfl]
    exact e1
  · rcases g1 with ⟨h1, h2⟩ | ⟨t, h1, h2, h3⟩
    · exact Or.inl ⟨h1, fun t ht => ⟨(h2 t ht).1, (h2 t ht).2.1⟩, fun t ht => (h2 t ht).2.2⟩
    · refine Or.inr ⟨t, h1, h2, h3, ?_⟩
      rw [h3]
      intro hz
      have := (msk_zero (by omega)).mp hz p (by omega)
      simp at this
theorem bitc_all : ∀ k, k < 128 → f_J6_bitCount_0f7a4 (nI k) = some (nI ((List.range 7).countP (fun i => Nat.testBit k i))) := by decide +kernel
theorem bitc (f : Nat → Bool) : f_J6_bitCount_0f7a4 (msk 7 f) = some (nI ((List.range 7).countP f)) := by
  unfold msk
  rw [bitc_all _ (mskN_lt f 7)]
  congr 2
  refine List.countP_congr (fun i hi => ?_)
  rw [mskN_bit, decide_eq_true (List.mem_range.mp hi), Bool.true_and]
theorem cnt7 (f : Nat → Bool) : (List.range 7).countP f ≤ 7 := by
  have := List.countP_le_length (p := f) (l := List.range 7)
  simpa using this
/-- the package with the fewest open values -/
theorem smallest_C {q np d : Nat} {m : Mi} {B : Nat → Nat → Nat → Nat → Bool} {D K : Nat → Nat → Bool} {L : Nat → Bool} (on : Bool) (hd : d < 10) (hS : SS q m np B) (hR : RI m np d D K) :
    ∃ r, f_X8_smallestPack TT m 853 (nI d) (msk 10 L) (bI on) = some r ∧ ((r = -1 ∧ ∀ p, p < np → L p = true ∨ (on = true ∧ D p 0 = true)) ∨ ∃ p, p < np ∧ r = nI p ∧ L p = false ∧ (on = true → D p 0 = false)) := by
  obtain ⟨hV, h1, h10, hal⟩ := hS
  have key : ∀ (e k N : Nat) (best few : Int32), k + e = np → e < N → ((best = -1 ∧ few = nI 8 ∧ ∀ p, p < k → L p = true ∨ (on = true ∧ D p 0 = true)) ∨ ((∃ p, p < np ∧ best = nI p ∧ L p = false ∧ (on = true → D p 0 = false)) ∧ ∃ c, c ≤ 7 ∧ few = nI c)) →
      ∃ r, lp (fun x : Int32 × Int32 × Int32 => f_X8_smallestPack_l10 TT m 853 (nI d) (msk 10 L) (bI on) x.1 x.2.1 x.2.2) N (best, few, nI k) = some r ∧ ((r = -1 ∧ ∀ p, p < np → L p = true ∨ (on = true ∧ D p 0 = true)) ∨ ∃ p, p < np ∧ r = nI p ∧ L p = false ∧ (on = true → D p 0 = false)) := by
    intro e
    induction e with
    | zero =>
      intro k N best few hk hN hi
      obtain ⟨N, rfl⟩ : ∃ y, N = y + 1 := ⟨N - 1, by omega⟩
      refine ⟨best, lp_exit ?_, ?_⟩
      · show f_X8_smallestPack_l10 TT m 853 (nI d) (msk 10 L) (bI on) best few (nI k) = _
        unfold f_X8_smallestPack_l10
        rw [h1, if_pos (nI_le (by omega) (by omega))]
      · rcases hi with ⟨a, _, c⟩ | ⟨a, _⟩
        · exact Or.inl ⟨a, fun p hp => c p (by omega)⟩
        · exact Or.inr a
    | succ e ih =>
      intro k N best few hk hN hi
      obtain ⟨N, rfl⟩ : ∃ y, N = y + 1 := ⟨N - 1, by omega⟩
      have o1 := (hR k (by omega)).1
      have hbit := bitc (fun b => D k (em b))
      have hc7 := cnt7 (fun b => D k (em b))
      have start : f_X8_smallestPack_l10 TT m 853 (nI d) (msk 10 L) (bI on) best few (nI k) = if L k = false ∧ (on = true → D k 0 = false) then (if few ≤ nI ((List.range 7).countP (fun b => D k (em b))) then some (.inl (best, few, nI (k + 1))) else some (.inl (nI k, nI ((List.range 7).countP (fun b => D k (em b))), nI (k + 1)))) else some (.inl (best, few, nI (k + 1))) := by
        unfold f_X8_smallestPack_l10 f_X8_smallestPack_j66 f_X8_smallestPack_j70 f_X8_smallestPack_j71
        rw [h1, if_neg (nI_ge (by omega) (by omega)), if_neg (nI_pos (by omega)), if_neg (show ¬ (10 : Int32) ≤ nI d from nI_ge (b := 10) hd (by omega)), hV.2.2.2.1, show (10 : Int32) = nI 10 from rfl, pk_mul, nI_add, if_pos (ar_of s_856 (by omega) (by omega)), lt_eq, ix_nI (by omega), o1, msk_get (show k < 10 by omega) (by omega), show (6 : Int32) = nI 6 from rfl, msk_get (show 6 < 7 by omega) (by omega), em_6, if_pos (show (0 : Int32) = 0 from rfl), if_neg (show ¬ (1 : Int32) = 0 by decide), hbit, Option.bind_some, Option.bind_some, nI_1]
        simp only [lt_eq]
        cases hL : L k with
        | true =>
          rw [if_neg bTr, if_neg (show ¬ (true = false ∧ (on = true → D k 0 = false)) from fun z => by cases z.1)]
        | false =>
          rw [if_pos bF]
          cases on with
          | false =>
            rw [if_pos bF, if_pos (show (false = false ∧ (false = true → D k 0 = false)) from ⟨rfl, fun z => by cases z⟩)]
          | true =>
            rw [if_neg bTr]
            cases hD : D k 0 with
            | true =>
              rw [if_neg bTr, if_neg (show ¬ (false = false ∧ (true = true → true = false)) from fun z => by have := z.2 rfl; cases this)]
            | false =>
              rw [if_pos bF, if_pos (show (false = false ∧ (true = true → false = false)) from ⟨rfl, fun _ => rfl⟩)]
      by_cases hcand : L k = false ∧ (on = true → D k 0 = false)
      · rw [if_pos hcand] at start
        by_cases hle : few ≤ nI ((List.range 7).countP (fun b => D k (em b)))
        · rw [if_pos hle] at start
          rcases hi with ⟨a, b, c⟩ | hb
          · exfalso
            rw [b] at hle
            exact absurd hle (nI_ge (by omega) (by omega))
          · obtain ⟨r, e1, e2⟩ := ih (k + 1) N best few (by omega) (by omega) (Or.inr hb)
            exact ⟨r, by rw [lp_step start]; exact e1, e2⟩
        · rw [if_neg hle] at start
          obtain ⟨r, e1, e2⟩ := ih (k + 1) N _ _ (by omega) (by omega) (Or.inr ⟨⟨k, by omega, rfl, hcand⟩, _, hc7, rfl⟩)
          exact ⟨r, by rw [lp_step start]; exact e1, e2⟩
      · rw [if_neg hcand] at start
        have hi' : (best = -1 ∧ few = nI 8 ∧ ∀ p, p < k + 1 → L p = true ∨ (on = true ∧ D p 0 = true)) ∨ ((∃ p, p < np ∧ best = nI p ∧ L p = false ∧ (on = true → D p 0 = false)) ∧ ∃ c, c ≤ 7 ∧ few = nI c) := by
          rcases hi with ⟨a, b, c⟩ | hb
          · refine Or.inl ⟨a, b, fun p hp => ?_⟩
            by_cases hpk : p = k
            · rw [hpk]
              cases hL : L k with
              | true => exact Or.inl rfl
              | false =>
                refine Or.inr ?_
                cases hon : on with
                | false => exact absurd ⟨hL, fun z => by rw [hon] at z; cases z⟩ hcand
                | true =>
                  refine ⟨rfl, ?_⟩
                  cases hD : D k 0 with
                  | true => rfl
                  | false => exact absurd ⟨hL, fun _ => hD⟩ hcand
            · exact c p (by omega)
          · exact Or.inr hb
        obtain ⟨r, e1, e2⟩ := ih (k + 1) N best few (by omega) (by omega) hi'
        exact ⟨r, by rw [lp_step start]; exact e1, e2⟩
  obtain ⟨r, e1, e2⟩ := key np 0 FUEL (-1) (nI 8) (by omega) (by unfold FUEL; omega) (Or.inl ⟨rfl, rfl, fun p hp => by omega⟩)
  refine ⟨r, ?_, e2⟩
  unfold f_X8_smallestPack f_X8_smallestPack_j10
  rw [show ((-1 : Int32), (8 : Int32), (0 : Int32)) = (-1, nI 8, nI 0) from rfl, e1]
  rfl
