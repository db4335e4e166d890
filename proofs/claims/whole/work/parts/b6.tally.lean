/-! The class's solver: how many solutions are there? -/
theorem sum7_em (g : Nat → Nat) : ((List.range 7).map g).sum = ((List.range 7).map (fun b => g (em b))).sum := by
  rw [show List.range 7 = [0, 1, 2, 3, 4, 5, 6] from rfl]
  simp only [List.map_cons, List.map_nil, List.sum_cons, List.sum_nil]
  show _ = g 1 + (g 2 + (g 3 + (g 4 + (g 5 + (g 6 + (g 0 + 0))))))
  omega
theorem sum_cnt (f : Nat → Bool) : ∀ L : List Nat, (L.map (fun b => if f b = true then 1 else 0)).sum = L.countP f := by
  intro L
  induction L with
  | nil => rfl
  | cons a L ih =>
    simp only [List.map_cons, List.sum_cons, List.countP_cons, ih]
    cases f a <;> simp <;> omega
def sumE (np : Nat) (B : Nat → Nat → Nat → Nat → Bool) (D : Nat → Nat → Bool) (p k : Nat) : Nat := ((List.range k).map (fun b => NS np (res D p (em b)) B)).sum
theorem sumE_succ (np : Nat) (B : Nat → Nat → Nat → Nat → Bool) (D : Nat → Nat → Bool) (p k : Nat) : sumE np B D p (k + 1) = sumE np B D p k + NS np (res D p (em k)) B := by
  unfold sumE
  rw [List.range_succ, List.map_append, List.sum_append]
  simp
theorem sumE_le (np : Nat) (B : Nat → Nat → Nat → Nat → Bool) (D : Nat → Nat → Bool) (p k : Nat) : ∀ j, sumE np B D p k ≤ sumE np B D p (k + j) := by
  intro j
  induction j with
  | zero => exact Nat.le_refl _
  | succ j ih =>
    rw [show k + (j + 1) = (k + j) + 1 by omega, sumE_succ]
    omega
theorem sumE_7 {np p : Nat} {B : Nat → Nat → Nat → Nat → Bool} {D : Nat → Nat → Bool} (hp : p < np) (h7 : ∀ v, D p v = true → v < 7) : NS np D B = sumE np B D p 7 := by
  rw [NS_branch hp h7, sum7_em]
  rfl
/-- laying a value down leaves its solutions -/
theorem NS_ly {np p v : Nat} {B : Nat → Nat → Nat → Nat → Bool} {D : Nat → Nat → Bool} (hp : p < np) : NS np (res D p v) B = NS np (ly B D p v) B := by
  refine NS_congr (fun f => ?_)
  rw [res_Sl hp]
  constructor
  · rintro ⟨hf, hv⟩
    refine ⟨fun t ht => ?_, hf.2⟩
    unfold ly
    rw [hf.1 t ht, Bool.true_and]
    by_cases htp : t = p
    · rw [if_pos htp, htp]; exact decide_eq_true hv
    · rw [if_neg htp, ← hv]; exact hf.2 p t hp ht (fun e => htp e.symm)
  · intro hf
    have h1 : ∀ t, t < np → D t (f t) = true := fun t ht => (Bool.and_eq_true_iff.mp (hf.1 t ht)).1
    refine ⟨⟨h1, hf.2⟩, ?_⟩
    have := (Bool.and_eq_true_iff.mp (hf.1 p hp)).2
    rw [if_pos rfl] at this
    exact of_decide_eq_true this
theorem NS_closed {np p v : Nat} {B : Nat → Nat → Nat → Nat → Bool} {D : Nat → Nat → Bool} (hp : p < np) (h : D p v = false) : NS np (res D p v) B = 0 := by
  refine NS_zero (fun f hf => ?_)
  obtain ⟨h1, h2⟩ := (res_Sl hp).mp hf
  have := h1.1 p hp
  rw [h2, h] at this
  cases this
/-- all is laid down: one solution -/
theorem NS_laid {np : Nat} {D0 : Nat → Nat → Bool} {B : Nat → Nat → Nat → Nat → Bool} {D K : Nat → Nat → Bool} {L : Nat → Bool} {x : Nat → Nat} (h7 : ∀ t u, t < np → D0 t u = true → u < 7) (h : Iv np D0 B np D K L x) : NS np D B = 1 := by
  obtain ⟨i1, i2, i3, i4, i5, i6, i7⟩ := h
  have hL := cnt_full np i7
  refine NS_one x (fun p hp => h7 p _ hp (i1 p hp _ (i4 p hp (hL p hp)).1)) (fun f => ⟨fun hf p hp => (i4 p hp (hL p hp)).2 _ (hf.1 p hp), fun hf => ⟨fun p hp => ?_, fun p t hp ht hne => ?_⟩⟩)
  · rw [hf p hp]; exact (i4 p hp (hL p hp)).1
  · rw [hf p hp, hf t ht]
    exact i5 p hp (hL p hp) t ht (fun e => hne e.symm) _ (i4 t ht (hL t ht)).1
theorem tally_loop {q np d p most : Nat} {D0 : Nat → Nat → Bool} {B : Nat → Nat → Nat → Nat → Bool} {D K : Nat → Nat → Bool} {L : Nat → Bool} {x : Nat → Nat} {rc : List Sh → Mi → Nat → Int32 → Int32 → Int32 → Option (Int32 × Mi)} (h7 : ∀ t u, t < np → D0 t u = true → u < 7) (hsym : ∀ p v t u, B p v t u = B t u p v) (hd : d < np) (hI : Iv np D0 B d D K L x) (hp : p < np) (hL : L p = false) (hm : most ≤ 1000)
    (hrc : ∀ (m : Mi) (D' K' : Nat → Nat → Bool) (L' : Nat → Bool) (x' : Nat → Nat) (mo : Nat), 1 ≤ mo → mo ≤ 1000 → SS q m np B → RI m np (d + 1) D' K' → Iv np D0 B (d + 1) D' K' L' x' → ∃ m', rc TT m 853 (nI (d + 1)) (msk 10 L') (nI mo) = some (nI (min mo (NS np D' B)), m') ∧ FI (FRd (d + 1)) m m') :
    ∀ (e k N : Nat) (m : Mi) (s : Nat), k + e = 7 → e < N → SS q m np B → RI m np d D K → s = min most (sumE np B D p k) →
    ∃ m', (lp (fun y : Int32 × Int32 × Mi => f_X8_tallyFrom_l84 rc TT y.2.2 853 (nI d) (msk 10 L) (nI most) (nI p) y.1 y.2.1) N (nI s, nI k, m)).bind (fun y : Int32 × Mi => f_X8_tallyFrom_j149 rc TT (y.2) (y.1)) = some (nI (min most (sumE np B D p 7)), m') ∧ FI (FRd d) m m' := by
  intro e
  induction e with
  | zero =>
    intro k N m s hk hN hS hR hs
    obtain ⟨N, rfl⟩ : ∃ y, N = y + 1 := ⟨N - 1, by omega⟩
    rw [lp_exit (y := (nI s, m))]
    · refine ⟨m, ?_, FI.rf⟩
      rw [hs, show k = 7 by omega]
      rfl
    · show f_X8_tallyFrom_l84 rc TT m 853 (nI d) (msk 10 L) (nI most) (nI p) (nI s) (nI k) = _
      unfold f_X8_tallyFrom_l84
      rw [if_pos (show (7 : Int32) ≤ nI k from nI_le (a := 7) (by omega) (by omega))]
  | succ e ih =>
    intro k N m s hk hN hS hR hs
    obtain ⟨N, rfl⟩ : ∃ y, N = y + 1 := ⟨N - 1, by omega⟩
    have h10 := hS.2.2.1
    have h7k : ¬ (7 : Int32) ≤ nI k := nI_ge (b := 7) (by omega) (by omega)
    have hsu := sumE_succ np B D p k
    by_cases hfull : most ≤ s
    · rw [lp_exit (y := (nI s, m))]
      · refine ⟨m, ?_, FI.rf⟩
        have hle := sumE_le np B D p k (7 - k)
        rw [show k + (7 - k) = 7 by omega] at hle
        show some (nI s, m) = _
        rw [show s = min most (sumE np B D p 7) by omega]
      · show f_X8_tallyFrom_l84 rc TT m 853 (nI d) (msk 10 L) (nI most) (nI p) (nI s) (nI k) = _
        unfold f_X8_tallyFrom_l84
        rw [if_neg h7k, if_pos (nI_le hfull (by omega))]
    · have hop := isOpen_C (b := k) hS.1 (show d < 10 by omega) (show p < 10 by omega) (by omega) (hR p hp).1
      have hms : ¬ nI most ≤ nI s := nI_ge (by omega) (by omega)
      cases hDk : D p (em k) with
      | false =>
        rw [hDk] at hop
        have hbody : f_X8_tallyFrom_l84 rc TT m 853 (nI d) (msk 10 L) (nI most) (nI p) (nI s) (nI k) = some (.inl (nI s, nI (k + 1), m)) := by
          unfold f_X8_tallyFrom_l84
          rw [if_neg h7k, if_neg hms, hop, Option.bind_some, if_pos bF, lt_eq, nI_1]
        rw [lp_step hbody]
        exact ih (k + 1) N m s (by omega) (by omega) hS hR (by rw [hsu, NS_closed hp hDk]; exact hs)
      | true =>
        rw [hDk] at hop
        obtain ⟨r1, m1, e1, f1, g1⟩ := lay_C (show d < 10 by omega) hp (show k < 7 by omega) hS hR
        have hstart : f_X8_tallyFrom_l84 rc TT m 853 (nI d) (msk 10 L) (nI most) (nI p) (nI s) (nI k) = if r1 = 0 then (bd (rc TT m1 853 (nI (d + 1)) (msk 10 (lU L p)) (nI (most - s))) fun x14 m15 => some (.inl (nI s + x14, nI (k + 1), m15))) else some (.inl (nI s, nI (k + 1), m1)) := by
          unfold f_X8_tallyFrom_l84
          rw [if_neg h7k, if_neg hms, hop, Option.bind_some, if_neg bTr, e1, bd_some, one_msk (show p < 10 by omega) (by omega), msk_or, nI_1, nI_1, pk_sub (by omega)]
          rfl
        rcases g1 with ⟨hr, hR1, hne⟩ | ⟨t, ht, hw, hr, hr0⟩
        · rw [if_pos hr] at hstart
          have hI1 := hI.lay h7 hp hL hDk hsym
          obtain ⟨m2, e2, f2⟩ := hrc m1 _ _ _ _ (most - s) (by omega) (by omega) (hS.keep f1) hR1 hI1
          rw [e2, bd_some, nI_add] at hstart
          have fm : FI (FRd d) m m2 := f1.tr (FRd.up f2 (by omega))
          rw [lp_step hstart]
          obtain ⟨m', e3, f3⟩ := ih (k + 1) N m2 (s + min (most - s) (NS np (ly B D p (em k)) B)) (by omega) (by omega) (hS.keep fm) (hR.keep h10 fm) (by
            rw [hsu, NS_ly hp]
            omega)
          exact ⟨m', e3, fm.tr f3⟩
        · rw [if_neg hr0] at hstart
          rw [lp_step hstart]
          have hz : NS np (res D p (em k)) B = 0 := by
            rw [NS_ly hp]
            refine NS_zero (fun f hf => ?_)
            have h1 := hf.1 t ht
            have h2 := h7 t _ ht (hI.1 t ht _ (Bool.and_eq_true_iff.mp h1).1)
            obtain ⟨b, hb, he⟩ := em_sur h2
            have := hw b hb
            rw [he, h1] at this
            cases this
          obtain ⟨m', e3, f3⟩ := ih (k + 1) N m1 s (by omega) (by omega) (hS.keep f1) (hR.keep h10 f1) (by rw [hsu, hz]; exact hs)
          exact ⟨m', e3, f1.tr f3⟩
theorem tally_C {q np : Nat} {D0 : Nat → Nat → Bool} {B : Nat → Nat → Nat → Nat → Bool} (h7 : ∀ t u, t < np → D0 t u = true → u < 7) (hsym : ∀ p v t u, B p v t u = B t u p v) :
    ∀ (fuel d : Nat) (m : Mi) (D K : Nat → Nat → Bool) (L : Nat → Bool) (x : Nat → Nat) (most : Nat), np < d + fuel → 1 ≤ most → most ≤ 1000 → SS q m np B → RI m np d D K → Iv np D0 B d D K L x → ∃ m', f_X8_tallyFrom fuel TT m 853 (nI d) (msk 10 L) (nI most) = some (nI (min most (NS np D B)), m') ∧ FI (FRd d) m m' := by
  intro fuel
  induction fuel with
  | zero =>
    intro d m D K L x most hf _ _ hS hR hI
    exfalso
    have := hI.2.2.2.2.2.2
    have h2 := List.countP_le_length (p := L) (l := List.range np)
    rw [this, List.length_range] at h2
    omega
  | succ fuel ih =>
    intro d m D K L x most hf hm1 hm2 hS hR hI
    have h10 := hS.2.2.1
    have hcnt := hI.2.2.2.2.2.2
    have hdn : d ≤ np := by
      have h2 := List.countP_le_length (p := L) (l := List.range np)
      rw [hcnt, List.length_range] at h2
      exact h2
    show ∃ m', f_X8_tallyFrom_b (f_X8_tallyFrom fuel) TT m 853 (nI d) (msk 10 L) (nI most) = some (nI (min most (NS np D B)), m') ∧ _
    unfold f_X8_tallyFrom_b
    rw [ob_of s_853, if_pos rfl, hS.2.1]
    by_cases hnd : np ≤ d
    · rw [if_pos (nI_le hnd (by omega))]
      unfold f_X8_tallyFrom_j40
      rw [if_pos rfl]
      have hdn' : d = np := by omega
      subst hdn'
      rw [NS_laid h7 hI, show min most 1 = 1 by omega]
      exact ⟨m, rfl, FI.rf⟩
    · rw [if_neg (nI_ge (by omega) (by omega))]
      have inner : ∀ p, p < np → L p = false → ∃ m', f_X8_tallyFrom_j40 (f_X8_tallyFrom fuel) TT m 853 (nI d) (msk 10 L) (nI most) (nI p) = some (nI (min most (NS np D B)), m') ∧ FI (FRd d) m m' := by
        intro p hp hL
        have hD7 : ∀ v, D p v = true → v < 7 := fun v hv => h7 p v hp (hI.1 p hp v hv)
        unfold f_X8_tallyFrom_j40
        rw [if_neg (show ¬ nI p = -1 from nneg (by omega)), hS.2.1, show nI np - 1 = nI (np - 1) from pk_sub (b := 1) (by omega)]
        by_cases hlast : d = np - 1
        · rw [if_pos (by rw [hlast]), hS.1.2.2.2.1, show (10 : Int32) = nI 10 from rfl, pk_mul, nI_add, if_pos (ar_of s_856 (by omega) (by omega)), ix_nI (by omega), (hR p hp).1, bitc, Option.bind_some]
          have hN : NS np D B = (List.range 7).countP (fun b => D p (em b)) := by
            rw [sumE_7 hp hD7]
            unfold sumE
            rw [← sum_cnt]
            congr 1
            apply List.map_congr_left
            intro b _
            cases hDb : D p (em b) with
            | false => rw [NS_closed hp hDb]; rfl
            | true =>
              rw [NS_ly hp]
              have hI1 := hI.lay h7 hp hL hDb hsym
              rw [show d + 1 = np by omega] at hI1
              exact NS_laid h7 hI1
          rw [hN]
          have hc7 := cnt7 (fun b => D p (em b))
          refine ⟨m, ?_, FI.rf⟩
          by_cases hlt : (List.range 7).countP (fun b => D p (em b)) < most
          · rw [if_pos (nI_lt hlt (by omega)), show min most ((List.range 7).countP (fun b => D p (em b))) = (List.range 7).countP (fun b => D p (em b)) by omega]
          · rw [if_neg (nI_nlt (by omega) (by omega)), show min most ((List.range 7).countP (fun b => D p (em b))) = most by omega]
        · rw [if_neg (fun z => hlast ((nI_eq (by omega) (by omega)).mp z)), sumE_7 hp hD7]
          unfold f_X8_tallyFrom_j84
          exact tally_loop h7 hsym (by omega) hI hp hL hm2 (fun m' D' K' L' x' mo a0 a00 a1 a2 a3 => ih (d + 1) m' D' K' L' x' mo (by omega) a0 a00 a1 a2 a3) 7 0 FUEL m 0 (by omega) (by unfold FUEL; omega) hS hR (by unfold sumE; simp)
      obtain ⟨r, e1, g1⟩ := smallest_C (L := L) true (show d < 10 by omega) hS hR
      rw [show f_X8_smallestPack TT m 853 (nI d) (msk 10 L) 1 = _ from e1, Option.bind_some]
      unfold f_X8_tallyFrom_j38
      rcases g1 with ⟨hr, hall⟩ | ⟨p, hp, hr, hL, h0⟩
      · rw [if_pos hr]
        obtain ⟨r2, e2, g2⟩ := smallest_C (L := L) false (show d < 10 by omega) hS hR
        rw [show f_X8_smallestPack TT m 853 (nI d) (msk 10 L) 0 = _ from e2, Option.bind_some]
        rcases g2 with ⟨hr2, hall2⟩ | ⟨p, hp, hr2, hL, h0⟩
        · exfalso
          have := cnt_all (L := L) (n := np) (fun p hp => (hall2 p hp).resolve_right (fun z => by cases z.1))
          omega
        · rw [hr2]
          exact inner p hp hL
      · rw [if_neg (show ¬ r = -1 by rw [hr]; exact nneg (by omega)), hr]
        exact inner p hp hL
theorem tallyAll_C {q n most : Nat} {m : Mi} {T : Nat → Nat} {G : Rg} {act : Nat → Bool} (hq : QS q) (hO : RO T n G) (h : SW q m T n G act) (h1 : 1 ≤ most) (h2 : most ≤ 1000) : ∃ m', f_X8_tally TT m 853 (nI most) = some (nI (min most (NS G.1.length (dm0 T G act) (bb T G act))), m') ∧ FI FR0 m m' := by
  have hB := hO.2.1
  have hB1 := hB.1
  obtain ⟨r, m1, e1, f1, g1⟩ := possible_C hO h
  have h1' : SW q m1 T n G act := h.keep hq hB f1 (fun x j z => by unfold FR0 at z; omega) (by unfold FR0; omega) (fun x j z => by unfold FR0 at z; omega) (fun j hj => by unfold FR0; omega)
  unfold f_X8_tally
  rw [e1, bd_some]
  cases r with
  | false =>
    rw [if_pos bF]
    have : NS G.1.length (dm0 T G act) (bb T G act) = 0 := NS_zero (fun f hf => by have := g1.mpr ⟨f, hf⟩; cases this)
    rw [this, Nat.min_zero]
    exact ⟨m1, rfl, f1⟩
  | true =>
    rw [if_neg bTr]
    obtain ⟨m2, e2, f2⟩ := tally_C (D0 := dm0 T G act) (fun t u _ h => dm0_7 hO h) (fun p v t u => bb_sym) 12 0 m1 (dm0 T G act) (fun _ _ => false) (fun _ => false) (fun _ => 0) most (by omega) h1 h2 (h1'.S hB) (h1'.R hB) (Iv_0 _ _ _ _)
    have hz : msk 10 (fun _ => false) = 0 := msk_none (by omega) (fun _ _ => rfl)
    rw [hz] at e2
    rw [show f_X8_tallyFrom 12 TT m1 853 0 0 (nI most) = _ from e2, bd_some]
    exact ⟨m2, rfl, f1.tr (f2.mono (fun x j z => by unfold FRd at z; unfold FR0; omega))⟩
