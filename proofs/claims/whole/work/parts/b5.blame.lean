/-! The class's solver: is there a solution? -/
/-- what is laid down (L, with the values x), what is open (D), who closed (K) -/
def Iv (np : Nat) (D0 : Nat → Nat → Bool) (B : Nat → Nat → Nat → Nat → Bool) (d : Nat) (D K : Nat → Nat → Bool) (L : Nat → Bool) (x : Nat → Nat) : Prop :=
  (∀ t, t < np → ∀ v, D t v = true → D0 t v = true) ∧
  (∀ t, t < np → ∀ v, D0 t v = true → D t v = false → ∃ p, p < np ∧ K t p = true ∧ L p = true ∧ ((p = t ∧ v ≠ x p) ∨ (p ≠ t ∧ B p (x p) t v = false))) ∧
  (∀ t, t < np → ∀ i, K t i = true → L i = true) ∧
  (∀ p, p < np → L p = true → D p (x p) = true ∧ ∀ v, D p v = true → v = x p) ∧
  (∀ p, p < np → L p = true → ∀ t, t < np → t ≠ p → ∀ v, D t v = true → B p (x p) t v = true) ∧
  (∀ i, L i = true → i < np) ∧ (List.range np).countP L = d
def lU (L : Nat → Bool) (p : Nat) : Nat → Bool := fun i => L i || decide (i = p)
theorem lU_self {L : Nat → Bool} {p : Nat} : lU L p p = true := by unfold lU; simp
theorem lU_ne {L : Nat → Bool} {p i : Nat} (h : i ≠ p) : lU L p i = L i := by unfold lU; rw [decide_eq_false h, Bool.or_false]
theorem lU_of {L : Nat → Bool} {p i : Nat} (h : L i = true) : lU L p i = true := by unfold lU; rw [h, Bool.true_or]
def xU (x : Nat → Nat) (p v : Nat) : Nat → Nat := fun i => if i = p then v else x i
theorem xU_self {x : Nat → Nat} {p v : Nat} : xU x p v p = v := by unfold xU; rw [if_pos rfl]
theorem xU_ne {x : Nat → Nat} {p v i : Nat} (h : i ≠ p) : xU x p v i = x i := by unfold xU; rw [if_neg h]
theorem cnt_upd {L : Nat → Bool} {p : Nat} (hL : L p = false) : ∀ n, p < n → (List.range n).countP (lU L p) = (List.range n).countP L + 1 := by
  have no : ∀ n, n ≤ p → (List.range n).countP (lU L p) = (List.range n).countP L := by
    intro n hn
    refine List.countP_congr (fun i hi => ?_)
    have := List.mem_range.mp hi
    rw [lU_ne (by omega)]
  intro n
  induction n with
  | zero => intro h; omega
  | succ n ih =>
    intro h
    rw [List.range_succ, List.countP_append, List.countP_append]
    by_cases hp : p = n
    · subst hp
      rw [no p (Nat.le_refl _)]
      simp [hL, lU_self]
    · rw [ih (by omega)]
      have : lU L p n = L n := lU_ne (fun e => hp e.symm)
      simp only [List.countP_cons, List.countP_nil, this]
      omega
theorem cnt_full {L : Nat → Bool} : ∀ n, (List.range n).countP L = n → ∀ p, p < n → L p = true := by
  intro n h p hp
  have h2 := List.countP_eq_length.mp (show (List.range n).countP L = (List.range n).length by rw [h, List.length_range])
  exact h2 p (List.mem_range.mpr hp)
theorem cnt_all {L : Nat → Bool} {n : Nat} (h : ∀ p, p < n → L p = true) : (List.range n).countP L = n := by
  have := (List.countP_eq_length (p := L) (l := List.range n)).mpr (fun p hp => h p (List.mem_range.mp hp))
  rw [this, List.length_range]
/-- a value more is laid down -/
theorem Iv.lay {np d p v : Nat} {D0 : Nat → Nat → Bool} {B : Nat → Nat → Nat → Nat → Bool} {D K : Nat → Nat → Bool} {L : Nat → Bool} {x : Nat → Nat} (h : Iv np D0 B d D K L x) (h7 : ∀ t u, t < np → D0 t u = true → u < 7) (hp : p < np) (hL : L p = false) (hv : D p v = true) (hsym : ∀ p v t u, B p v t u = B t u p v) :
    Iv np D0 B (d + 1) (ly B D p v) (lk D (ly B D p v) K p) (lU L p) (xU x p v) := by
  obtain ⟨i1, i2, i3, i4, i5, i6, i7⟩ := h
  have hne : ∀ i, L i = true → i ≠ p := fun i hi e => by rw [e, hL] at hi; cases hi
  refine ⟨fun t ht u hu => ?_, fun t ht u hu hD => ?_, fun t ht i hi => ?_, fun i hi hLi => ?_, fun i hi hLi t ht hti u hu => ?_, fun i hi => ?_, ?_⟩
  · unfold ly at hu
    exact i1 t ht u (Bool.and_eq_true_iff.mp hu).1
  · -- closed
    cases hDt : D t u with
    | false =>
      obtain ⟨z, z1, z2, z3, z4⟩ := i2 t ht u hu hDt
      refine ⟨z, z1, by unfold lk; rw [z2, Bool.true_or], lU_of z3, ?_⟩
      rw [xU_ne (hne z z3)]
      exact z4
    | true =>
      have hch : sm7 (D t) (ly B D p v t) = false := by
        cases hs : sm7 (D t) (ly B D p v t) with
        | false => rfl
        | true =>
          exfalso
          obtain ⟨b, hb, he⟩ := em_sur (h7 t u ht (i1 t ht u hDt))
          have := sm7_iff.mp hs b hb
          rw [he, hDt, hD] at this
          cases this
      refine ⟨p, hp, ?_, ?_, ?_⟩
      · unfold lk
        rw [hch, decide_eq_true rfl]
        simp
      · exact lU_self
      · rw [xU_self]
        unfold ly at hD
        rw [hDt, Bool.true_and] at hD
        by_cases htp : t = p
        · rw [if_pos htp] at hD
          exact Or.inl ⟨htp.symm, of_decide_eq_false hD⟩
        · rw [if_neg htp] at hD
          exact Or.inr ⟨fun e => htp e.symm, hD⟩
  · unfold lk at hi
    rcases Bool.or_eq_true_iff.mp hi with h1 | h1
    · exact lU_of (i3 t ht i h1)
    · rw [of_decide_eq_true (Bool.and_eq_true_iff.mp h1).1]
      exact lU_self
  · by_cases hip : i = p
    · subst hip
      rw [xU_self]
      refine ⟨?_, fun u hu => ?_⟩
      · unfold ly
        rw [if_pos rfl, hv, decide_eq_true rfl]; rfl
      · unfold ly at hu
        rw [if_pos rfl] at hu
        exact of_decide_eq_true (Bool.and_eq_true_iff.mp hu).2
    · have hLi' : L i = true := by
        rw [lU_ne hip] at hLi
        exact hLi
      rw [xU_ne hip]
      obtain ⟨a1, a2⟩ := i4 i hi hLi'
      refine ⟨?_, fun u hu => ?_⟩
      · unfold ly
        rw [if_neg hip, a1, Bool.true_and, hsym]
        exact i5 i hi hLi' p hp (fun e => hip e.symm) v hv
      · unfold ly at hu
        exact a2 u (Bool.and_eq_true_iff.mp hu).1
  · have hu' := Bool.and_eq_true_iff.mp (show (D t u && (if t = p then decide (u = v) else B p v t u)) = true from hu)
    by_cases hip : i = p
    · subst hip
      rw [xU_self]
      rw [if_neg hti] at hu'
      exact hu'.2
    · have hLi' : L i = true := by
        rw [lU_ne hip] at hLi
        exact hLi
      rw [xU_ne hip]
      exact i5 i hi hLi' t ht hti u hu'.1
  · rcases Bool.or_eq_true_iff.mp hi with h1 | h1
    · exact i6 i h1
    · rw [of_decide_eq_true h1]; exact hp
  · rw [cnt_upd hL np hp, i7]
/-- what blameFrom tells -/
def Bl (np : Nat) (D0 : Nat → Nat → Bool) (B : Nat → Nat → Nat → Nat → Bool) (L : Nat → Bool) (x : Nat → Nat) (r : Int32) : Prop := (r = -1 ∧ ∃ f, Sl np D0 B f ∧ ∀ p, L p = true → f p = x p) ∨ (∃ M : Nat → Bool, r = msk 10 M ∧ (∀ i, M i = true → L i = true) ∧ ∀ f, Sl np D0 B f → ∃ i, M i = true ∧ f i ≠ x i)
theorem wiped {np d p v t : Nat} {D0 : Nat → Nat → Bool} {B : Nat → Nat → Nat → Nat → Bool} {D K : Nat → Nat → Bool} {L : Nat → Bool} {x : Nat → Nat} (h : Iv np D0 B d D K L x) (h7 : ∀ t u, t < np → D0 t u = true → u < 7) (hp : p < np) (hL : L p = false) (hv : D p v = true) (ht : t < np) (hw : ∀ c, c < 7 → ly B D p v t (em c) = false) {f : Nat → Nat} (hf : Sl np D0 B f) (hfp : f p = v) : ∃ i, (lk D (ly B D p v) K p t i = true ∧ i ≠ p) ∧ L i = true ∧ f i ≠ x i := by
  obtain ⟨i1, i2, i3, i4, i5, i6, i7⟩ := h
  have hft7 := h7 t _ ht (hf.1 t ht)
  obtain ⟨b, hb, he⟩ := em_sur hft7
  have hwt := hw b hb
  rw [he] at hwt
  unfold ly at hwt
  by_cases htp : t = p
  · exfalso
    subst htp
    rw [if_pos rfl, hfp, hv, decide_eq_true rfl] at hwt
    cases hwt
  · rw [if_neg htp, ← hfp, hf.2 p t hp ht (fun e => htp e.symm), Bool.and_true] at hwt
    obtain ⟨z, z1, z2, z3, z4⟩ := i2 t ht _ (hf.1 t ht) hwt
    refine ⟨z, ⟨by unfold lk; rw [z2, Bool.true_or], fun e => by rw [e, hL] at z3; cases z3⟩, z3, ?_⟩
    rcases z4 with ⟨z5, z6⟩ | ⟨z5, z6⟩
    · rw [z5] at z6 ⊢
      exact z6
    · intro e
      rw [← e, hf.2 z t z1 ht z5] at z6
      cases z6
def mU (M M2 : Nat → Bool) (p : Nat) : Nat → Bool := fun i => M i || (M2 i && !decide (i = p))
theorem mU_l {M M2 : Nat → Bool} {p i : Nat} (h : M i = true) : mU M M2 p i = true := by unfold mU; rw [h, Bool.true_or]
theorem mU_r {M M2 : Nat → Bool} {p i : Nat} (h : M2 i = true) (hp : i ≠ p) : mU M M2 p i = true := by unfold mU; rw [h, decide_eq_false hp]; simp
theorem msk10_get {k : Nat} {f : Nat → Bool} (hk : k < 10) : (msk 10 f >>> (nI k &&& 31)) &&& 1 = bI (f k) := msk_get hk (by omega)
theorem blame_loop {q np d p : Nat} {D0 : Nat → Nat → Bool} {B : Nat → Nat → Nat → Nat → Bool} {D K : Nat → Nat → Bool} {L : Nat → Bool} {x : Nat → Nat} {rc : List Sh → Mi → Nat → Int32 → Int32 → Option (Int32 × Mi)} (h7 : ∀ t u, t < np → D0 t u = true → u < 7) (hsym : ∀ p v t u, B p v t u = B t u p v) (hd : d < np) (hI : Iv np D0 B d D K L x) (hp : p < np) (hL : L p = false) (h0 : D p 0 = false)
    (hrc : ∀ (m : Mi) (D' K' : Nat → Nat → Bool) (L' : Nat → Bool) (x' : Nat → Nat), SS q m np B → RI m np (d + 1) D' K' → Iv np D0 B (d + 1) D' K' L' x' → ∃ r m', rc TT m 853 (nI (d + 1)) (msk 10 L') = some (r, m') ∧ FI (FRd (d + 1)) m m' ∧ Bl np D0 B L' x' r) :
    ∀ (e k N : Nat) (m : Mi) (M : Nat → Bool), k + e = 6 → e < N → SS q m np B → RI m np d D K → (∀ i, M i = true → L i = true) → (∀ i, K p i = true → M i = true) → (∀ b, b < k → D p (em b) = true → ∀ f, Sl np D0 B f → f p = em b → ∃ i, M i = true ∧ f i ≠ x i) →
    ∃ r m', (lp (fun y : Int32 × Int32 × Mi => f_X8_blameFrom_l43 rc TT y.2.2 853 (nI d) (msk 10 L) (nI p) y.1 y.2.1) N (msk 10 M, nI k, m)).bind (Sum.elim (fun y : Int32 × Mi => f_X8_blameFrom_j127 rc TT (y.2) (y.1)) (fun y : Int32 × Mi => f_X8_blameFrom_j105 rc TT (y.2) (y.1))) = some (r, m') ∧ FI (FRd d) m m' ∧ Bl np D0 B L x r := by
  intro e
  induction e with
  | zero =>
    intro k N m M hk hN hS hR hM1 hM2 hM3
    obtain ⟨N, rfl⟩ : ∃ y, N = y + 1 := ⟨N - 1, by omega⟩
    rw [lp_exit (y := .inl (msk 10 M, m))]
    · refine ⟨msk 10 M, m, rfl, FI.rf, Or.inr ⟨M, rfl, hM1, fun f hf => ?_⟩⟩
      have hfp := hf.1 p hp
      have hf7 := h7 p _ hp hfp
      cases hD : D p (f p) with
      | true =>
        obtain ⟨b, hb, he⟩ := em_sur hf7
        have hb6 : b ≠ 6 := fun z => by rw [z, em_6] at he; rw [← he, h0] at hD; cases hD
        exact hM3 b (by omega) (by rw [he]; exact hD) f hf he.symm
      | false =>
        obtain ⟨z, z1, z2, z3, z4⟩ := hI.2.1 p hp _ hfp hD
        refine ⟨z, hM2 z z2, ?_⟩
        rcases z4 with ⟨z5, z6⟩ | ⟨z5, z6⟩
        · rw [z5] at z3
          rw [z3] at hL
          cases hL
        · intro e
          rw [← e, hf.2 z p z1 hp z5] at z6
          cases z6
    · show f_X8_blameFrom_l43 rc TT m 853 (nI d) (msk 10 L) (nI p) (msk 10 M) (nI k) = _
      unfold f_X8_blameFrom_l43
      rw [if_pos (show (6 : Int32) ≤ nI k from nI_le (a := 6) (by omega) (by omega))]
  | succ e ih =>
    intro k N m M hk hN hS hR hM1 hM2 hM3
    obtain ⟨N, rfl⟩ : ∃ y, N = y + 1 := ⟨N - 1, by omega⟩
    have h10 := hS.2.2.1
    have hop := isOpen_C (b := k) hS.1 (show d < 10 by omega) (show p < 10 by omega) (by omega) (hR p hp).1
    have h6 : ¬ (6 : Int32) ≤ nI k := nI_ge (b := 6) (by omega) (by omega)
    cases hDk : D p (em k) with
    | false =>
      rw [hDk] at hop
      have hbody : f_X8_blameFrom_l43 rc TT m 853 (nI d) (msk 10 L) (nI p) (msk 10 M) (nI k) = some (.inl (msk 10 M, nI (k + 1), m)) := by
        unfold f_X8_blameFrom_l43
        rw [if_neg h6, hop, Option.bind_some, if_pos bF, lt_eq, nI_1]
      rw [lp_step hbody]
      exact ih (k + 1) N m M (by omega) (by omega) hS hR hM1 hM2 (fun b hb hDb f hf hfp => by
        by_cases hbk : b = k
        · rw [hbk, hDk] at hDb; cases hDb
        · exact hM3 b (by omega) hDb f hf hfp)
    | true =>
      rw [hDk] at hop
      obtain ⟨r1, m1, e1, f1, g1⟩ := lay_C (show d < 10 by omega) hp (show k < 7 by omega) hS hR
      -- what is done with a blame
      have go : ∀ (m2 : Mi) (M2 : Nat → Bool), FI (FRd d) m m2 → M2 p = true → (∀ i, M2 i = true → i ≠ p → L i = true) → (∀ f, Sl np D0 B f → f p = em k → ∃ i, M2 i = true ∧ i ≠ p ∧ f i ≠ x i) → f_X8_blameFrom_l43 rc TT m 853 (nI d) (msk 10 L) (nI p) (msk 10 M) (nI k) = f_X8_blameFrom_j90 rc TT m2 853 (nI d) (msk 10 L) (nI p) (msk 10 M) (nI k) (msk 10 M2) →
          ∃ r m', (lp (fun y : Int32 × Int32 × Mi => f_X8_blameFrom_l43 rc TT y.2.2 853 (nI d) (msk 10 L) (nI p) y.1 y.2.1) (N + 1) (msk 10 M, nI k, m)).bind (Sum.elim (fun y : Int32 × Mi => f_X8_blameFrom_j127 rc TT (y.2) (y.1)) (fun y : Int32 × Mi => f_X8_blameFrom_j105 rc TT (y.2) (y.1))) = some (r, m') ∧ FI (FRd d) m m' ∧ Bl np D0 B L x r := by
        intro m2 M2 fm hMp hMl hMf hb
        unfold f_X8_blameFrom_j90 at hb
        rw [if_neg (msk_ne1 (by omega)), msk10_get (show p < 10 by omega), hMp, if_neg bTr, lt_eq, lt_eq, one_msk (show p < 10 by omega) (by omega), msk_without, msk_or, nI_1] at hb
        have hb : f_X8_blameFrom_l43 rc TT m 853 (nI d) (msk 10 L) (nI p) (msk 10 M) (nI k) = some (.inl (msk 10 (mU M M2 p), nI (k + 1), m2)) := hb
        rw [lp_step hb]
        obtain ⟨r', m', e', f', g'⟩ := ih (k + 1) N m2 (mU M M2 p) (by omega) (by omega) (hS.keep fm) (hR.keep h10 fm) (fun i hi => by
          rcases Bool.or_eq_true_iff.mp hi with h1 | h1
          · exact hM1 i h1
          · have h2 := Bool.and_eq_true_iff.mp h1
            exact hMl i h2.1 (by simpa using h2.2)) (fun i hi => mU_l (hM2 i hi)) (fun b hb hDb f hf hfp => by
          by_cases hbk : b = k
          · rw [hbk] at hfp
            obtain ⟨i, a1, a2, a3⟩ := hMf f hf hfp
            exact ⟨i, mU_r a1 a2, a3⟩
          · obtain ⟨i, a1, a2⟩ := hM3 b (by omega) hDb f hf hfp
            exact ⟨i, mU_l a1, a2⟩)
        exact ⟨r', m', e', fm.tr f', g'⟩
      have hstart : f_X8_blameFrom_l43 rc TT m 853 (nI d) (msk 10 L) (nI p) (msk 10 M) (nI k) = if r1 = 0 then (bd (rc TT m1 853 (nI (d + 1)) (msk 10 (lU L p))) fun x16 m17 => f_X8_blameFrom_j90 rc TT m17 853 (nI d) (msk 10 L) (nI p) (msk 10 M) (nI k) x16) else f_X8_blameFrom_j90 rc TT m1 853 (nI d) (msk 10 L) (nI p) (msk 10 M) (nI k) r1 := by
        unfold f_X8_blameFrom_l43
        rw [if_neg h6, hop, Option.bind_some, if_neg bTr, e1, bd_some, one_msk (show p < 10 by omega) (by omega), msk_or, nI_1]
        rfl
      rcases g1 with ⟨hr, hR1, hne⟩ | ⟨t, ht, hw, hr, hr0⟩
      · rw [if_pos hr] at hstart
        have hI1 := hI.lay h7 hp hL hDk hsym
        obtain ⟨r2, m2, e2, f2, g2⟩ := hrc m1 _ _ _ _ (hS.keep f1) hR1 hI1
        rw [e2, bd_some] at hstart
        have fm : FI (FRd d) m m2 := f1.tr (FRd.up f2 (by omega))
        rcases g2 with ⟨hr2, f, hf, hfx⟩ | ⟨M2, hr2, hM2l, hM2f⟩
        · -- a solution
          have hb : f_X8_blameFrom_l43 rc TT m 853 (nI d) (msk 10 L) (nI p) (msk 10 M) (nI k) = some (.inr (.inr (r2, m2))) := by
            rw [hstart]
            unfold f_X8_blameFrom_j90
            rw [if_pos hr2]
          rw [lp_exit (y := .inr (r2, m2)) hb]
          refine ⟨r2, m2, rfl, fm, Or.inl ⟨hr2, f, hf, fun i hi => ?_⟩⟩
          have := hfx i (lU_of hi)
          rw [xU_ne (fun z => by rw [z, hL] at hi; cases hi)] at this
          exact this
        · rw [hr2] at hstart
          cases hMp : M2 p with
          | false =>
            have hb : f_X8_blameFrom_l43 rc TT m 853 (nI d) (msk 10 L) (nI p) (msk 10 M) (nI k) = some (.inr (.inr (msk 10 M2, m2))) := by
              rw [hstart]
              unfold f_X8_blameFrom_j90
              rw [if_neg (msk_ne1 (by omega)), msk10_get (show p < 10 by omega), hMp, if_pos bF]
            rw [lp_exit (y := .inr (msk 10 M2, m2)) hb]
            have hne : ∀ i, M2 i = true → i ≠ p := fun i hi z => by rw [z, hMp] at hi; cases hi
            refine ⟨msk 10 M2, m2, rfl, fm, Or.inr ⟨M2, rfl, fun i hi => ?_, fun f hf => ?_⟩⟩
            · have := hM2l i hi
              rw [lU_ne (hne i hi)] at this
              exact this
            · obtain ⟨i, a1, a2⟩ := hM2f f hf
              rw [xU_ne (hne i a1)] at a2
              exact ⟨i, a1, a2⟩
          | true =>
            refine go m2 M2 fm hMp (fun i hi hip => ?_) (fun f hf hfp => ?_) hstart
            · have := hM2l i hi
              rw [lU_ne hip] at this
              exact this
            · obtain ⟨i, a1, a2⟩ := hM2f f hf
              have hip : i ≠ p := fun z => by rw [z, xU_self] at a2; exact a2 hfp
              rw [xU_ne hip] at a2
              exact ⟨i, a1, hip, a2⟩
      · rw [if_neg hr0, hr] at hstart
        refine go m1 (lU (lk D (ly B D p (em k)) K p t) p) f1 lU_self (fun i hi hip => ?_) (fun f hf hfp => ?_) hstart
        · rw [lU_ne hip] at hi
          unfold lk at hi
          rw [decide_eq_false hip, Bool.false_and, Bool.or_false] at hi
          exact hI.2.2.1 t ht i hi
        · obtain ⟨i, ⟨a1, a2⟩, a3, a4⟩ := wiped hI h7 hp hL hDk ht hw hf hfp
          exact ⟨i, lU_of a1, a2, a4⟩
theorem blame_C {q np : Nat} {D0 : Nat → Nat → Bool} {B : Nat → Nat → Nat → Nat → Bool} (h7 : ∀ t u, t < np → D0 t u = true → u < 7) (hsym : ∀ p v t u, B p v t u = B t u p v) (hB0 : ∀ p t, B p 0 t 0 = true) :
    ∀ (fuel d : Nat) (m : Mi) (D K : Nat → Nat → Bool) (L : Nat → Bool) (x : Nat → Nat), np < d + fuel → SS q m np B → RI m np d D K → Iv np D0 B d D K L x → ∃ r m', f_X8_blameFrom fuel TT m 853 (nI d) (msk 10 L) = some (r, m') ∧ FI (FRd d) m m' ∧ Bl np D0 B L x r := by
  intro fuel
  induction fuel with
  | zero =>
    intro d m D K L x hf hS hR hI
    exfalso
    have := hI.2.2.2.2.2.2
    have h2 := List.countP_le_length (p := L) (l := List.range np)
    rw [this, List.length_range] at h2
    omega
  | succ fuel ih =>
    intro d m D K L x hf hS hR hI
    have h10 := hS.2.2.1
    have hcnt := hI.2.2.2.2.2.2
    have hdn : d ≤ np := by
      have h2 := List.countP_le_length (p := L) (l := List.range np)
      rw [hcnt, List.length_range] at h2
      exact h2
    have sol : (∀ p, p < np → L p = true ∨ D p 0 = true) → ∃ f, Sl np D0 B f ∧ ∀ p, L p = true → f p = x p := by
      intro hall
      obtain ⟨i1, i2, i3, i4, i5, i6, i7⟩ := hI
      refine ⟨fun p => if L p = true then x p else 0, ⟨fun p hp => ?_, fun p t hp ht hne => ?_⟩, fun p hp => if_pos hp⟩
      · show D0 p (if L p = true then x p else 0) = true
        by_cases hLp : L p = true
        · rw [if_pos hLp]; exact i1 p hp _ (i4 p hp hLp).1
        · rw [if_neg hLp]; exact i1 p hp _ ((hall p hp).resolve_left hLp)
      · show B p (if L p = true then x p else 0) t (if L t = true then x t else 0) = true
        by_cases hLp : L p = true
        · rw [if_pos hLp]
          by_cases hLt : L t = true
          · rw [if_pos hLt]; exact i5 p hp hLp t ht (fun e => hne e.symm) _ (i4 t ht hLt).1
          · rw [if_neg hLt]; exact i5 p hp hLp t ht (fun e => hne e.symm) _ ((hall t ht).resolve_left hLt)
        · rw [if_neg hLp]
          by_cases hLt : L t = true
          · rw [if_pos hLt, hsym]; exact i5 t ht hLt p hp hne _ ((hall p hp).resolve_left hLp)
          · rw [if_neg hLt]; exact hB0 p t
    show ∃ r m', f_X8_blameFrom_b (f_X8_blameFrom fuel) TT m 853 (nI d) (msk 10 L) = some (r, m') ∧ _
    unfold f_X8_blameFrom_b
    rw [ob_of s_853, if_pos rfl, hS.2.1]
    by_cases hnd : np ≤ d
    · rw [if_pos (nI_le hnd (by omega))]
      unfold f_X8_blameFrom_j19
      rw [if_pos rfl]
      refine ⟨-1, m, rfl, FI.rf, Or.inl ⟨rfl, sol (fun p hp => Or.inl (cnt_full np (by omega) p hp))⟩⟩
    · rw [if_neg (nI_ge (by omega) (by omega))]
      obtain ⟨r, e1, g1⟩ := smallest_C (L := L) true (show d < 10 by omega) hS hR
      rw [show f_X8_smallestPack TT m 853 (nI d) (msk 10 L) 1 = _ from e1, Option.bind_some]
      unfold f_X8_blameFrom_j19
      rcases g1 with ⟨hr, hall⟩ | ⟨p, hp, hr, hL, h0⟩
      · rw [if_pos hr]
        exact ⟨-1, m, rfl, FI.rf, Or.inl ⟨rfl, sol (fun p hp => (hall p hp).imp id (fun z => z.2))⟩⟩
      · have hrne : ¬ r = -1 := by rw [hr]; exact nneg (by omega)
        rw [if_neg hrne, hr, hS.1.2.2.2.2.1, show (10 : Int32) = nI 10 from rfl, pk_mul, nI_add, if_pos (ar_of s_857 (by omega) (by omega)), lt_eq, ix_nI (by omega), (hR p hp).2]
        unfold f_X8_blameFrom_j43
        exact blame_loop h7 hsym (by omega) hI hp hL (h0 rfl) (fun m' D' K' L' x' a1 a2 a3 => ih (d + 1) m' D' K' L' x' (by omega) a1 a2 a3) 6 0 FUEL m (K p) (by omega) (by unfold FUEL; omega) hS hR (fun i hi => hI.2.2.1 p hp i hi) (fun i hi => hi) (fun b hb => by omega)
theorem SW.S {q n : Nat} {m : Mi} {T : Nat → Nat} {G : Rg} {act : Nat → Bool} (h : SW q m T n G act) (hB : BGd G) : SS q m G.1.length (bb T G act) := by
  have hB1 := hB.1
  exact ⟨h.1, h.2.2.1, hB1, fun p b t hp hb ht hne => h.2.2.2.2.1.2 p b t (by omega) hb (by omega) hne⟩
theorem SW.R {q n : Nat} {m : Mi} {T : Nat → Nat} {G : Rg} {act : Nat → Bool} (h : SW q m T n G act) (hB : BGd G) : RI m G.1.length 0 (dm0 T G act) (fun _ _ => false) := by
  have hB1 := hB.1
  intro p hp
  rw [Nat.zero_mul, Nat.zero_add]
  exact ⟨h.2.2.2.2.2.1 p hp, (h.2.2.2.2.2.2 p (by omega)).trans (msk_none (by omega) (fun _ _ => rfl)).symm⟩
theorem Iv_0 (np : Nat) (D0 : Nat → Nat → Bool) (B : Nat → Nat → Nat → Nat → Bool) (x : Nat → Nat) : Iv np D0 B 0 D0 (fun _ _ => false) (fun _ => false) x := by
  refine ⟨fun _ _ _ h => h, fun t _ v h1 h2 => (by rw [h1] at h2; cases h2), fun _ _ _ h => (by cases h), fun _ _ h => (by cases h), fun _ _ h => (by cases h), fun _ h => (by cases h), ?_⟩
  exact List.countP_eq_zero.mpr (fun _ _ => Bool.false_ne_true)
theorem bb_00 (T : Nat → Nat) (G : Rg) (act : Nat → Bool) (p t : Nat) : bb T G act p 0 t 0 = true := by
  unfold bb
  rw [sy_zero, sy_zero]
  rfl
/-- rows behind the first -/
def FR0 (x j : Nat) : Prop := (x = 856 ∨ x = 857) ∧ 10 ≤ j
theorem possible_C {q n : Nat} {m : Mi} {T : Nat → Nat} {G : Rg} {act : Nat → Bool} (hO : RO T n G) (h : SW q m T n G act) : ∃ r m', f_X8_isPossible TT m 853 = some (bI r, m') ∧ FI FR0 m m' ∧ (r = true ↔ ∃ f, SL T G act f) := by
  have hB := hO.2.1
  have hB1 := hB.1
  obtain ⟨r, m', e1, f1, g1⟩ := blame_C (D0 := dm0 T G act) (fun t u _ h => dm0_7 hO h) (fun p v t u => bb_sym) (bb_00 T G act) 12 0 m (dm0 T G act) (fun _ _ => false) (fun _ => false) (fun _ => 0) (by omega) (h.S hB) (h.R hB) (Iv_0 _ _ _ _)
  have hz : msk 10 (fun _ => false) = 0 := msk_none (by omega) (fun _ _ => rfl)
  rw [hz] at e1
  have f0 : FI FR0 m m' := f1.mono (fun x j z => by unfold FRd at z; unfold FR0; omega)
  unfold f_X8_isPossible
  rw [show f_X8_blameFrom 12 TT m 853 0 0 = _ from e1, bd_some]
  rcases g1 with ⟨hr, f, hf, _⟩ | ⟨M, hr, hM1, hM2⟩
  · rw [if_pos hr]
    exact ⟨true, m', rfl, f0, fun _ => ⟨f, hf⟩, fun _ => rfl⟩
  · rw [if_neg (by rw [hr]; exact msk_ne1 (by omega))]
    refine ⟨false, m', rfl, f0, fun h => (by cases h), fun ⟨f, hf⟩ => ?_⟩
    obtain ⟨i, a1, _⟩ := hM2 f hf
    have := hM1 i a1
    cases this
