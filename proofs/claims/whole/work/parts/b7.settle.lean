/-! The class's solver: the best solution. -/
def aT : Nat → Bool := fun _ => true
/-- there is a solution with the values of g ahead of p, and v for p -/
def EX (T : Nat → Nat) (G : Rg) (p : Nat) (g : Nat → Nat) (v : Nat) : Prop := ∃ f, SL T G aT f ∧ (∀ i, i < p → f i = g i) ∧ f p = v
def pr0 (T : Nat → Nat) (G : Rg) (p v w : Nat) : Prop := (v = 0 ∧ w ≠ 0) ∨ (v ≠ 0 ∧ w ≠ 0 ∧ cmpL (rvR T G.2.1 (fr G p + (v - 1))) (rvR T G.2.1 (fr G p + (w - 1))) = 1)
/-- v is tried ahead of w -/
def pre (T : Nat → Nat) (G : Rg) (l : Option (Nat → Nat)) (p v w : Nat) : Prop := match l with
  | some g => (v = g p ∧ w ≠ g p) ∨ (v ≠ g p ∧ w ≠ g p ∧ pr0 T G p v w)
  | none => pr0 T G p v w
def Best (T : Nat → Nat) (G : Rg) (l : Option (Nat → Nat)) (g : Nat → Nat) : Prop := ∀ p, p < G.1.length → EX T G p g (g p) ∧ ∀ v, EX T G p g v → ¬ pre T G l p v (g p)
theorem SL_le {T : Nat → Nat} {G : Rg} {act : Nat → Bool} {f : Nat → Nat} (h : SL T G act f) {p : Nat} (hp : p < G.1.length) : f p ≤ cntR G.2.1 p := by
  have := h.1 p hp
  unfold dm0 at this
  exact of_decide_eq_true (Bool.and_eq_true_iff.mp this).1
theorem EX_le {T : Nat → Nat} {G : Rg} {p v : Nat} {g : Nat → Nat} (h : EX T G p g v) (hp : p < G.1.length) : v ≤ cntR G.2.1 p := by
  obtain ⟨f, h1, _, h3⟩ := h
  rw [← h3]
  exact SL_le h1 hp
theorem pr0_total {T : Nat → Nat} {n : Nat} {G : Rg} (hO : RO T n G) {p v w : Nat} (hp : p < G.1.length) (hv : v ≤ cntR G.2.1 p) (hw : w ≤ cntR G.2.1 p) (hne : v ≠ w) : pr0 T G p v w ∨ pr0 T G p w v := by
  have hfl := fr_le hO hp
  by_cases hv0 : v = 0
  · exact Or.inl (Or.inl ⟨hv0, by omega⟩)
  · by_cases hw0 : w = 0
    · exact Or.inr (Or.inl ⟨hw0, hv0⟩)
    · obtain ⟨y, hy⟩ := get_some hp
      obtain ⟨a, ha⟩ := get_some (l := G.2.1) (k := fr G p + (v - 1)) (by omega)
      obtain ⟨b, hb⟩ := get_some (l := G.2.1) (k := fr G p + (w - 1)) (by omega)
      have hfy := fr_get hy
      have pa := ((hO.1.1.2.1 p y hy).2 _ a ha).mpr ⟨by omega, by omega⟩
      have pb := ((hO.1.1.2.1 p y hy).2 _ b hb).mpr ⟨by omega, by omega⟩
      have h8a := rvR8 T G.2.1 (fr G p + (v - 1))
      have h8b := rvR8 T G.2.1 (fr G p + (w - 1))
      have hc : cmpL (rvR T G.2.1 (fr G p + (v - 1))) (rvR T G.2.1 (fr G p + (w - 1))) ≠ 0 := by
        rw [rvR_get ha, rvR_get hb]
        rcases Nat.lt_or_gt_of_ne (show fr G p + (v - 1) ≠ fr G p + (w - 1) by omega) with h | h
        · exact hO.1.2.2.2.2 _ _ a b ha hb h (by rw [pa, pb])
        · intro e
          have h2 := hO.1.2.2.2.2 _ _ b a hb ha h (by rw [pa, pb])
          rw [← rvR_get ha, ← rvR_get hb] at e
          rw [← rvR_get ha, ← rvR_get hb] at h2
          have e2 := cmpL_eq _ _ (h8a.trans h8b.symm) e
          rw [e2] at h2
          exact h2 (cmpL_rf _)
      rcases cmpL_vals (rvR T G.2.1 (fr G p + (v - 1))) (rvR T G.2.1 (fr G p + (w - 1))) with h | h | h
      · exact absurd h hc
      · exact Or.inl (Or.inr ⟨hv0, hw0, h⟩)
      · exact Or.inr (Or.inr ⟨hw0, hv0, (cmp_sw h8a h8b).2.mp h⟩)
theorem pre_total {T : Nat → Nat} {n : Nat} {G : Rg} (hO : RO T n G) {l : Option (Nat → Nat)} {p v w : Nat} (hp : p < G.1.length) (hv : v ≤ cntR G.2.1 p) (hw : w ≤ cntR G.2.1 p) (hne : v ≠ w) : pre T G l p v w ∨ pre T G l p w v := by
  cases l with
  | none => exact pr0_total hO hp hv hw hne
  | some g =>
    by_cases h1 : v = g p
    · exact Or.inl (Or.inl ⟨h1, fun e => hne (h1.trans e.symm)⟩)
    · by_cases h2 : w = g p
      · exact Or.inr (Or.inl ⟨h2, h1⟩)
      · exact (pr0_total hO hp hv hw hne).imp (fun h => Or.inr ⟨h1, h2, h⟩) (fun h => Or.inr ⟨h2, h1, h⟩)
theorem EX_congr {T : Nat → Nat} {G : Rg} {p v : Nat} {g g' : Nat → Nat} (h : ∀ i, i < p → g i = g' i) (he : EX T G p g v) : EX T G p g' v := by
  obtain ⟨f, h1, h2, h3⟩ := he
  exact ⟨f, h1, fun i hi => (h2 i hi).trans (h i hi), h3⟩
/-- there is one best solution -/
theorem Best_uniq {T : Nat → Nat} {n : Nat} {G : Rg} (hO : RO T n G) {l : Option (Nat → Nat)} {g g' : Nat → Nat} (h : Best T G l g) (h' : Best T G l g') : ∀ k p, p < k → p < G.1.length → g p = g' p := by
  intro k
  induction k with
  | zero => intro p hp; omega
  | succ k ih =>
    intro p hpk hp
    have hpre : ∀ i, i < p → g i = g' i := fun i hi => ih i (by omega) (by omega)
    obtain ⟨a1, a2⟩ := h p hp
    obtain ⟨b1, b2⟩ := h' p hp
    by_cases hne : g p = g' p
    · exact hne
    · exfalso
      rcases pre_total hO (l := l) hp (EX_le a1 hp) (EX_le b1 hp) hne with hq | hq
      · exact b2 _ (EX_congr hpre a1) hq
      · exact a2 _ (EX_congr (fun i hi => (hpre i hi).symm) b1) hq
theorem Best_SL {T : Nat → Nat} {n : Nat} {G : Rg} {l : Option (Nat → Nat)} {g : Nat → Nat} (hne : ∃ f, SL T G aT f) (h : Best T G l g) : SL T G aT g := by
  by_cases h0 : G.1.length = 0
  · obtain ⟨f, hf⟩ := hne
    exact ⟨fun p hp => by omega, fun p q hp => by omega⟩
  · obtain ⟨⟨f, h1, h2, h3⟩, _⟩ := h (G.1.length - 1) (by omega)
    have e : ∀ i, i < G.1.length → f i = g i := fun i hi => by
      by_cases hi2 : i = G.1.length - 1
      · rw [hi2]; exact h3
      · exact h2 i (by omega)
    exact ⟨fun p hp => by rw [← e p hp]; exact h1.1 p hp, fun p q hp hq hpq => by rw [← e p hp, ← e q hq]; exact h1.2 p q hp hq hpq⟩
/-- packages ahead of p -/
def Lp (p : Nat) : Nat → Bool := fun i => decide (i < p)
theorem lU_Lp (p : Nat) : lU (Lp p) p = Lp (p + 1) := by
  funext i
  unfold lU Lp
  by_cases h : i = p
  · rw [decide_eq_true h, Bool.or_true, decide_eq_true (show i < p + 1 by omega)]
  · rw [decide_eq_false h, Bool.or_false]
    by_cases h2 : i < p
    · rw [decide_eq_true h2, decide_eq_true (show i < p + 1 by omega)]
    · rw [decide_eq_false h2, decide_eq_false (show ¬ i < p + 1 by omega)]
theorem Lp_msk : ∀ k, k < 11 → ((1 : Int32) <<< (nI k &&& 31)) - 1 = msk 10 (Lp k) := by decide +kernel
/-- the solver with values x laid down for the packages ahead of p -/
def SP (q : Nat) (m : Mi) (T : Nat → Nat) (n : Nat) (G : Rg) (p : Nat) (x : Nat → Nat) : Prop := SW q m T n G aT ∧ ∃ D K, RI m G.1.length p D K ∧ Iv G.1.length (dm0 T G aT) (bb T G aT) p D K (Lp p) x
theorem leadsOn_C {q n p b : Nat} {m : Mi} {T : Nat → Nat} {G : Rg} {x : Nat → Nat} (hq : QS q) (hO : RO T n G) (h : SP q m T n G p x) (hp : p < G.1.length) (hb : b < 7) :
    ∃ r m', f_X8_leadsOn TT m 853 (nI p) (nI b) = some (bI r, m') ∧ FI FR0 m m' ∧ SP q m' T n G p x ∧ (r = true ↔ EX T G p x (em b)) ∧ (r = true → SP q m' T n G (p + 1) (xU x p (em b))) := by
  have hB := hO.2.1
  have hB1 := hB.1
  obtain ⟨hW, D, K, hR, hI⟩ := h
  have h7 : ∀ t u, t < G.1.length → dm0 T G aT t u = true → u < 7 := fun t u _ h => dm0_7 hO h
  have hsym : ∀ p v t u, bb T G aT p v t u = bb T G aT t u p v := fun p v t u => bb_sym
  have hS := hW.S hB
  have hLp : Lp p p = false := by unfold Lp; exact decide_eq_false (by omega)
  have hop := isOpen_C (b := b) hS.1 (show p < 10 by omega) (show p < 10 by omega) hb (hR p hp).1
  have swk : ∀ m', FI (FRd p) m m' → FI FR0 m m' ∧ SW q m' T n G aT := fun m' f => by
    have f0 : FI FR0 m m' := f.mono (fun x j z => by unfold FRd at z; unfold FR0; omega)
    exact ⟨f0, hW.keep hq hB f0 (fun x j z => by unfold FR0 at z; omega) (by unfold FR0; omega) (fun x j z => by unfold FR0 at z; omega) (fun j hj => by unfold FR0; omega)⟩
  unfold f_X8_leadsOn
  cases hD : D p (em b) with
  | false =>
    rw [hD] at hop
    rw [hop, Option.bind_some, if_pos bF]
    refine ⟨false, m, rfl, FI.rf, ⟨hW, D, K, hR, hI⟩, ⟨fun h => (by cases h), fun ⟨f, h1, h2, h3⟩ => ?_⟩, fun h => (by cases h)⟩
    exfalso
    have hfp := h1.1 p hp
    rw [h3] at hfp
    obtain ⟨z, z1, z2, z3, z4⟩ := hI.2.1 p hp _ hfp hD
    have hz : z < p := of_decide_eq_true z3
    rcases z4 with ⟨z5, _⟩ | ⟨z5, z6⟩
    · omega
    · have := h1.2 z p z1 hp z5
      rw [h2 z hz, h3, z6] at this
      cases this
  | true =>
    rw [hD] at hop
    obtain ⟨r1, m1, e1, f1, g1⟩ := lay_C (show p < 10 by omega) hp hb hS hR
    obtain ⟨f10, hW1⟩ := swk m1 f1
    rw [hop, Option.bind_some, if_neg bTr, e1, bd_some]
    rcases g1 with ⟨hr, hR1, hne⟩ | ⟨t, ht, hw, hr, hr0⟩
    · have hI1 := hI.lay h7 hp hLp hD hsym
      rw [lU_Lp] at hI1
      rw [if_pos hr, nI_1, Lp_msk (p + 1) (by omega)]
      obtain ⟨r2, m2, e2, f2, g2⟩ := blame_C h7 hsym (bb_00 T G aT) 12 (p + 1) m1 _ _ _ _ (by omega) (hS.keep f1) hR1 hI1
      have f12 : FI (FRd p) m m2 := f1.tr (FRd.up f2 (by omega))
      obtain ⟨f20, hW2⟩ := swk m2 f12
      rw [e2, bd_some]
      have hR2 := hR.keep hB1 f12
      have hR12 : RI m2 G.1.length (p + 1) (ly (bb T G aT) D p (em b)) (lk D (ly (bb T G aT) D p (em b)) K p) := hR1.keep hB1 f2
      rcases g2 with ⟨h1, f, hf, hfx⟩ | ⟨M, h1, h2, h3⟩
      · rw [if_pos h1]
        refine ⟨true, m2, rfl, f20, ⟨hW2, D, K, hR2, hI⟩, ⟨fun _ => ⟨f, hf, fun i hi => ?_, ?_⟩, fun _ => rfl⟩, fun _ => ⟨hW2, _, _, hR12, hI1⟩⟩
        · have := hfx i (decide_eq_true (show i < p + 1 by omega))
          rw [xU_ne (by omega)] at this
          exact this
        · have := hfx p (decide_eq_true (show p < p + 1 by omega))
          rw [xU_self] at this
          exact this
      · rw [if_neg (by rw [h1]; exact msk_ne1 (by omega))]
        refine ⟨false, m2, rfl, f20, ⟨hW2, D, K, hR2, hI⟩, ⟨fun h => (by cases h), fun ⟨f, a1, a2, a3⟩ => ?_⟩, fun h => (by cases h)⟩
        exfalso
        obtain ⟨i, b1, b2⟩ := h3 f a1
        have hi : i < p + 1 := of_decide_eq_true (h2 i b1)
        by_cases hip : i = p
        · rw [hip, xU_self] at b2
          exact b2 a3
        · rw [xU_ne hip] at b2
          exact b2 (a2 i (by omega))
    · rw [if_neg hr0]
      refine ⟨false, m1, rfl, f10, ⟨hW1, D, K, hR.keep hB1 f1, hI⟩, ⟨fun h => (by cases h), fun ⟨f, a1, a2, a3⟩ => ?_⟩, fun h => (by cases h)⟩
      exfalso
      obtain ⟨i, _, b3, b4⟩ := wiped hI h7 hp hLp hD ht hw a1 a3
      exact b4 (a2 i (of_decide_eq_true b3))
theorem falling_C {q n p k : Nat} {m : Mi} {T : Nat → Nat} {G : Rg} {F : List Nat} {c : Nat} (hq : QS q) (hC : CG q m T n G) (hO : RO T n G) (hp : p < G.1.length) (hF : ∀ i k : Nat, F[i]? = some k → gi m (q + 4 + 2 * p) i = nI k) (hl : F.length = cntR G.2.1 p) (hk : F[k]? = some c) : f_X2_fallingAt TT m (q + 3 + 2 * p) (nI k) = some (nI c) := by
  have hB1 := hO.2.1.1
  have h6 := hO.2.2.2.1.1 p
  have hkl := get_lt hk
  obtain ⟨y, hy⟩ := get_some hp
  obtain ⟨_, _, _, p4, _⟩ := hC.1.2.2.1.2.2.2.2.1 p y hy
  have hs := (hq.2.2.2.2.2.2.2.2.1 p (by omega)).2
  unfold f_X2_fallingAt
  rw [if_neg (nI_pos (by omega)), p4, if_neg (nI_ge (by omega) (by omega)), (hC.1.1.2.2.2.2.2.2.1 p (by omega)).2, aa_of hs, if_pos rfl, ln_of hs, ofNat_nI, if_neg (nI_ge (by omega) (by omega)), if_pos (ar_of hs (by omega) (by omega)), ix_nI (by omega), hF k c hk]
/-- what bestValue has: the first value that leads on -/
def BV (T : Nat → Nat) (G : Rg) (l : Option (Nat → Nat)) (p : Nat) (x : Nat → Nat) (b : Nat) : Prop := b < 7 ∧ EX T G p x (em b) ∧ ∀ v, EX T G p x v → ¬ pre T G l p v (em b)
theorem fallv_lp {q n p : Nat} {T : Nat → Nat} {G : Rg} {x : Nat → Nat} {F : List Nat} (hq : QS q) (hO : RO T n G) (hp : p < G.1.length) (hl : F.length = cntR G.2.1 p) (hm : ∀ k, k ∈ F ↔ k < cntR G.2.1 p) :
    ∀ (d k N : Nat) (m : Mi), k + d = F.length → d < N → SP q m T n G p x → (∀ i k : Nat, F[i]? = some k → gi m (q + 4 + 2 * p) i = nI k) → (∀ i c : Nat, i < k → F[i]? = some c → ¬ EX T G p x (c + 1)) → (∃ c, c ∈ F ∧ EX T G p x (c + 1)) →
    ∃ (i c : Nat) (m' : Mi), (lp (fun y : Int32 × Mi => f_X8_bestValue_l48 TT y.2 853 (nI p) (q + 3 + 2 * p) y.1) N (nI k, m)).bind (Sum.elim (fun y : Mi => f_X8_bestValue_j84 TT y) (fun y : Int32 × Mi => f_X8_bestValue_j71 TT (y.2) (q + 3 + 2 * p) (y.1))) = some (nI c, m') ∧ F[i]? = some c ∧ FI FR0 m m' ∧ EX T G p x (c + 1) ∧ (∀ j e : Nat, j < i → F[j]? = some e → ¬ EX T G p x (e + 1)) ∧ SP q m' T n G (p + 1) (xU x p (c + 1)) := by
  have hB := hO.2.1
  have hB1 := hB.1
  have h6 := hO.2.2.2.1.1 p
  obtain ⟨y, hy⟩ := get_some hp
  have hsp := (hq.2.2.2.2.2.2.2.2.1 p (by omega)).1
  intro d
  induction d with
  | zero =>
    intro k N m hk hN hS hF hno hex
    exfalso
    obtain ⟨c, hc, he⟩ := hex
    obtain ⟨i, hi⟩ := List.mem_iff_getElem?.mp hc
    exact hno i c (by have := get_lt hi; omega) hi he
  | succ d ih =>
    intro k N m hk hN hS hF hno hex
    obtain ⟨N, rfl⟩ : ∃ y, N = y + 1 := ⟨N - 1, by omega⟩
    obtain ⟨c, hc⟩ := get_some (l := F) (k := k) (by omega)
    have hcl := (hm c).mp (List.mem_of_getElem? hc)
    have hC := hS.1.2.1
    obtain ⟨_, _, _, p4, _⟩ := hC.1.2.2.1.2.2.2.2.1 p y hy
    have hfa := falling_C hq hC hO hp hF hl hc
    obtain ⟨r, m1, e1, f1, s1, i1, n1⟩ := leadsOn_C (b := c) hq hO hS hp (by omega)
    rw [em_ne (show c ≠ 6 by omega)] at i1 n1
    have hbody : f_X8_bestValue_l48 TT m 853 (nI p) (q + 3 + 2 * p) (nI k) = if bI r = 0 then some (.inl (nI (k + 1), m1)) else some (.inr (.inr (nI k, m1))) := by
      unfold f_X8_bestValue_l48
      rw [ob_of hsp, if_pos rfl, p4, if_neg (nI_ge (by omega) (by omega)), hfa, Option.bind_some, e1, bd_some, lt_eq, nI_1]
    have hF1 : ∀ i k : Nat, F[i]? = some k → gi m1 (q + 4 + 2 * p) i = nI k := fun i k h => (f1.1 _ _ (by unfold FR0; have := hq.1; omega)).trans (hF i k h)
    cases r with
    | false =>
      rw [if_pos bF] at hbody
      rw [lp_step hbody]
      obtain ⟨i, c', m', e2, g1, g2, g3, g4, g5⟩ := ih (k + 1) N m1 (by omega) (by omega) s1 hF1 (fun i e hi he => by
        by_cases hik : i = k
        · rw [hik, hc] at he
          cases he
          exact fun z => by have := i1.mpr z; cases this
        · exact hno i e (by omega) he) hex
      exact ⟨i, c', m', e2, g1, f1.tr g2, g3, g4, g5⟩
    | true =>
      rw [if_neg bTr] at hbody
      rw [lp_exit (y := .inr (nI k, m1)) hbody]
      refine ⟨k, c, m1, ?_, hc, f1, i1.mp rfl, hno, n1 rfl⟩
      show f_X8_bestValue_j71 TT m1 (q + 3 + 2 * p) (nI k) = _
      unfold f_X8_bestValue_j71
      rw [ob_of hsp, if_pos rfl, falling_C hq s1.1.2.1 hO hp hF1 hl hc, Option.bind_some]
theorem bestValue_C {q n p : Nat} {m : Mi} {T : Nat → Nat} {G : Rg} {x : Nat → Nat} {l : Option (Nat → Nat)} {lb : Int32} (hq : QS q) (hO : RO T n G) (h : SP q m T n G p x) (hp : p < G.1.length) (hex : ∃ v, EX T G p x v) (hl : match l with | none => lb = -1 | some g => ∃ b, b < 7 ∧ lb = nI b ∧ em b = g p) :
    ∃ b m', f_X8_bestValue TT m 853 (nI p) lb = some (nI b, m') ∧ FI FR0 m m' ∧ BV T G l p x b ∧ SP q m' T n G (p + 1) (xU x p (em b)) := by
  have hB := hO.2.1
  have hB1 := hB.1
  have hq1 := hq.1
  have h6 := hO.2.2.2.1.1 p
  have hfl := fr_le hO hp
  obtain ⟨y, hy⟩ := get_some hp
  have hC := h.1.2.1
  obtain ⟨_, _, _, p4, F, hF, hFl, hFm, hFp⟩ := hC.1.2.2.1.2.2.2.2.1 p y hy
  have hfy := fr_get hy
  -- behind the lock: nothing, then the releases
  have rest : ∀ m1, FI FR0 m m1 → SP q m1 T n G p x → ∃ b m', f_X8_bestValue_j32 TT m1 853 (nI p) (q + 3 + 2 * p) = some (nI b, m') ∧ FI FR0 m m' ∧ b < 7 ∧ EX T G p x (em b) ∧ (∀ v, EX T G p x v → ¬ pr0 T G p v (em b)) ∧ SP q m' T n G (p + 1) (xU x p (em b)) := by
    intro m1 fm hS1
    unfold f_X8_bestValue_j32
    obtain ⟨r, m2, e2, f2, s2, i2, n2⟩ := leadsOn_C (b := 6) hq hO hS1 hp (by omega)
    rw [em_6] at i2 n2
    rw [show f_X8_leadsOn TT m1 853 (nI p) 6 = _ from e2, bd_some]
    cases r with
    | true =>
      rw [if_neg bTr]
      refine ⟨6, m2, rfl, fm.tr f2, by omega, i2.mp rfl, fun v hv hpre => ?_, n2 rfl⟩
      rw [em_6] at hpre
      rcases hpre with ⟨_, h2⟩ | ⟨_, h2, _⟩
      · exact h2 rfl
      · exact h2 rfl
    | false =>
      rw [if_pos bF]
      have hn0 : ¬ EX T G p x 0 := fun z => by have := i2.mpr z; cases this
      obtain ⟨v, hv⟩ := hex
      have hv0 : v ≠ 0 := fun z => by rw [z] at hv; exact hn0 hv
      have hvl := EX_le hv hp
      have f12 := fm.tr f2
      have hF2 : ∀ i k : Nat, F[i]? = some k → gi m2 (q + 4 + 2 * p) i = nI k := fun i k h => (f12.1 _ _ (by unfold FR0; omega)).trans (hF i k h)
      obtain ⟨i, c, m', e3, g1, g2, g3, g4, g5⟩ := fallv_lp hq hO hp hFl hFm F.length 0 FUEL m2 (by omega) (by unfold FUEL; omega) s2 hF2 (fun i c hi => by omega) ⟨v - 1, (hFm _).mpr (by omega), by rw [show v - 1 + 1 = v by omega]; exact hv⟩
      have hcl := (hFm c).mp (List.mem_of_getElem? g1)
      unfold f_X8_bestValue_j48
      refine ⟨c, m', e3, f12.tr g2, by omega, by rw [em_ne (by omega)]; exact g3, fun w hw hpre => ?_, by rw [em_ne (by omega)]; exact g5⟩
      rw [em_ne (show c ≠ 6 by omega)] at hpre
      have hw0 : w ≠ 0 := fun z => by rw [z] at hw; exact hn0 hw
      rcases hpre with ⟨h2, _⟩ | ⟨_, _, h3⟩
      · exact hw0 h2
      · have hwl := EX_le hw hp
        obtain ⟨j, hj⟩ := List.mem_iff_getElem?.mp ((hFm (w - 1)).mpr (by omega))
        rw [Nat.add_sub_cancel] at h3
        by_cases hji : j < i
        · exact g4 j (w - 1) hji hj (by rw [show w - 1 + 1 = w by omega]; exact hw)
        · have h8a := rvR8 T G.2.1 (fr G p + (w - 1))
          have h8b := rvR8 T G.2.1 (fr G p + c)
          by_cases hji2 : j = i
          · rw [hji2, g1] at hj
            cases hj
            rw [cmpL_rf] at h3
            exact absurd h3 (by decide)
          · have hpw := List.pairwise_iff_getElem.mp hFp i j (get_lt g1) (get_lt hj) (by omega)
            have e1 : F[i]'(get_lt g1) = c := by
              have := List.getElem?_eq_getElem (get_lt g1)
              rw [g1] at this
              exact (Option.some.inj this).symm
            have e2 : F[j]'(get_lt hj) = w - 1 := by
              have := List.getElem?_eq_getElem (get_lt hj)
              rw [hj] at this
              exact (Option.some.inj this).symm
            rw [e1, e2, ← hfy] at hpw
            have := (cmp_sw h8a h8b).1.mp h3
            rw [hpw] at this
            exact absurd this (by decide)
  unfold f_X8_bestValue
  rw [h.1.1.1, ob_of hq.2.1, if_pos rfl, packAt_C hq hC.1.1 hC.1.2.2.1 hB hp, Option.bind_some, if_neg (show ¬ q + 3 + 2 * p = 0 by omega)]
  cases l with
  | none =>
    rw [if_pos hl]
    obtain ⟨b, m', e1, f1, hb, hx1, hx2, s1⟩ := rest m FI.rf h
    exact ⟨b, m', e1, f1, ⟨hb, hx1, hx2⟩, s1⟩
  | some g =>
    obtain ⟨b0, hb0, hlb, he0⟩ := hl
    rw [hlb, if_neg (show ¬ nI b0 = -1 from nneg (by omega))]
    obtain ⟨r, m1, e1, f1, s1, i1, n1⟩ := leadsOn_C (b := b0) hq hO h hp hb0
    rw [e1, bd_some]
    cases r with
    | true =>
      rw [if_neg bTr]
      refine ⟨b0, m1, rfl, f1, ⟨hb0, i1.mp rfl, fun v hv hpre => ?_⟩, n1 rfl⟩
      rcases hpre with ⟨_, h2⟩ | ⟨_, h2, _⟩
      · exact h2 he0
      · exact h2 he0
    | false =>
      rw [if_pos bF]
      obtain ⟨b, m', e2, f2, hb, hx1, hx2, s2⟩ := rest m1 f1 s1
      refine ⟨b, m', e2, f2, ⟨hb, hx1, fun v hv hpre => ?_⟩, s2⟩
      have hng : ¬ EX T G p x (g p) := fun z => by rw [← he0] at z; have := i1.mpr z; cases this
      rcases hpre with ⟨h1, _⟩ | ⟨_, _, h3⟩
      · rw [h1] at hv
        exact hng hv
      · exact hx2 v hv h3
