/-! resolve and solutions of the class. -/
abbrev Fnd : Type := Option ((Nat → Nat) ⊕ List Nat)
/-- what was found, in the class's memory -/
def FnC (m : Mi) (G : Rg) (F : Fnd) : Prop := (gr m 860 2 = 861 ∧ gr m 860 3 = 862 ∧ gr m 860 5 = 863) ∧ match F with
  | none => gi m 860 0 = 0 ∧ gi m 860 1 = 0 ∧ gi m 860 4 = 0
  | some (.inl g) => gi m 860 0 = 1 ∧ gi m 860 1 = nI G.1.length ∧ gi m 860 4 = 0 ∧ ∀ p, p < G.1.length → gi m 861 p = if g p = 0 then -1 else nI (fr G p + (g p - 1))
  | some (.inr L) => gi m 860 0 = 2 ∧ gi m 860 1 = 0 ∧ gi m 860 4 = nI L.length ∧ ∀ i c, L[i]? = some c → gi m 862 i = nI c
theorem FnC.keep {m m' : Mi} {G : Rg} {F : Fnd} (h : FnC m G F) (k : ∀ x j, 860 ≤ x → x ≤ 862 → gi m' x j = gi m x j) (kr : ∀ j, gr m' 860 j = gr m 860 j) : FnC m' G F := by
  obtain ⟨⟨h1, h2, h3⟩, h4⟩ := h
  refine ⟨⟨(kr _).trans h1, (kr _).trans h2, (kr _).trans h3⟩, ?_⟩
  match F, h4 with
  | none, ⟨a, b, c⟩ => exact ⟨(k _ _ (by omega) (by omega)).trans a, (k _ _ (by omega) (by omega)).trans b, (k _ _ (by omega) (by omega)).trans c⟩
  | some (.inl g), ⟨a, b, c, d⟩ => exact ⟨(k _ _ (by omega) (by omega)).trans a, (k _ _ (by omega) (by omega)).trans b, (k _ _ (by omega) (by omega)).trans c, fun p hp => (k _ _ (by omega) (by omega)).trans (d p hp)⟩
  | some (.inr L), ⟨a, b, c, d⟩ => exact ⟨(k _ _ (by omega) (by omega)).trans a, (k _ _ (by omega) (by omega)).trans b, (k _ _ (by omega) (by omega)).trans c, fun i c hi => (k _ _ (by omega) (by omega)).trans (d i c hi)⟩
/-- the lock that a finding gives -/
def lkd (F : Fnd) (a : Int32) : Option (Nat → Nat) := if a = 0 then none else match F with
  | some (.inl g) => some g
  | _ => none
/-- what may be found -/
def FO (T : Nat → Nat) (G : Rg) (F : Fnd) : Prop := match F with
  | none => True
  | some (.inl g) => SL T G aT g
  | some (.inr _) => ¬ ∃ f, SL T G aT f
theorem locked_C {q n p : Nat} {m : Mi} {T : Nat → Nat} {G : Rg} {F : Fnd} {a : Int32} (hq : QS q) (hO : RO T n G) (hS : SV q m) (hC : CG q m T n G) (hF : FnC m G F) (hFO : FO T G F) (hp : p < G.1.length) (ha : a ≠ 0) : ∃ lb, f_X8_lockedValue TT m 853 860 (nI p) = some lb ∧ (match lkd F a with | none => lb = -1 | some g => ∃ b, b < 7 ∧ lb = nI b ∧ em b = g p) := by
  have hB := hO.2.1
  have hB1 := hB.1
  have hB2 := hB.2.1
  have hq1 := hq.1
  have h6 := hO.2.2.2.1.1 p
  have hfl := fr_le hO hp
  obtain ⟨y, hy⟩ := get_some hp
  obtain ⟨_, _, p3, _, _⟩ := hC.1.2.2.1.2.2.2.2.1 p y hy
  have hsp := (hq.2.2.2.2.2.2.2.2.1 p (by omega)).1
  unfold lkd
  rw [if_neg ha]
  unfold f_X8_lockedValue f_X1_isSolved f_X1_releaseOf
  rw [hS.1, ob_of hq.2.1, if_pos rfl, packAt_C hq hC.1.1 hC.1.2.2.1 hB hp, Option.bind_some, if_neg (show ¬ q + 3 + 2 * p = 0 by omega), ob_of s_860, if_pos rfl]
  obtain ⟨⟨r1, r2, r3⟩, h4⟩ := hF
  match F, h4, hFO with
  | none, ⟨a1, a2, a3⟩, _ =>
    rw [a1, if_neg (by decide), Option.bind_some, if_pos rfl]
    exact ⟨-1, rfl, rfl⟩
  | some (.inr L), ⟨a1, a2, a3, a4⟩, _ =>
    rw [a1, if_neg (by decide), Option.bind_some, if_pos rfl]
    exact ⟨-1, rfl, rfl⟩
  | some (.inl g), ⟨a1, a2, a3, a4⟩, hg =>
    have hgl := SL_le hg hp
    rw [a1, if_pos rfl, Option.bind_some, if_neg (by decide), if_neg (nI_pos (by omega)), a2, if_neg (nI_ge hp (by omega)), r1, if_pos (ar_of s_861 (by omega) (by omega)), Option.bind_some, ix_nI (by omega), a4 p hp]
    by_cases hg0 : g p = 0
    · rw [if_pos hg0, if_pos rfl]
      exact ⟨6, rfl, 6, by omega, rfl, by rw [em_6, hg0]⟩
    · rw [if_neg hg0, if_neg (nneg (by omega)), ob_of hsp, if_pos rfl, p3, ← fr_get hy, pk_sub (by omega), Nat.add_sub_cancel_left]
      exact ⟨_, rfl, g p - 1, by omega, rfl, by rw [em_ne (by omega)]; omega⟩
theorem settle_lp {q n : Nat} {T : Nat → Nat} {G : Rg} {F : Fnd} {a : Int32} (hq : QS q) (hO : RO T n G) (hFO : FO T G F) : ∀ (d k N : Nat) (m : Mi) (x : Nat → Nat), k + d = G.1.length → d < N → SP q m T n G k x → FnC m G F → (∀ i, i < k → ∃ b, b < 7 ∧ gi m 859 i = nI b ∧ em b = x i) → (∀ p, p < k → EX T G p x (x p) ∧ ∀ v, EX T G p x v → ¬ pre T G (lkd F a) p v (x p)) → (∃ f, SL T G aT f ∧ ∀ i, i < k → f i = x i) →
    ∃ m' x', lp (fun y : Int32 × Mi => f_X8_settle_l2 TT y.2 853 860 a y.1) N (nI k, m) = some m' ∧ SW q m' T n G aT ∧ FnC m' G F ∧ FI (fun z j => FR0 z j ∨ z = 859) m m' ∧ Best T G (lkd F a) x' ∧ ∀ i, i < G.1.length → ∃ b, b < 7 ∧ gi m' 859 i = nI b ∧ em b = x' i := by
  have hB := hO.2.1
  have hB1 := hB.1
  intro d
  induction d with
  | zero =>
    intro k N m x hk hN hS hF hv hb hex
    obtain ⟨N, rfl⟩ : ∃ y, N = y + 1 := ⟨N - 1, by omega⟩
    refine ⟨m, x, lp_exit ?_, hS.1, hF, FI.rf, fun p hp => hb p (by omega), fun i hi => hv i (by omega)⟩
    show f_X8_settle_l2 TT m 853 860 a (nI k) = _
    unfold f_X8_settle_l2
    rw [hS.1.2.2.1, if_pos (nI_le (by omega) (by omega))]
  | succ d ih =>
    intro k N m x hk hN hS hF hv hb hex
    obtain ⟨N, rfl⟩ : ∃ y, N = y + 1 := ⟨N - 1, by omega⟩
    have hkp : k < G.1.length := by omega
    have hexv : ∃ v, EX T G k x v := by
      obtain ⟨f, h1, h2⟩ := hex
      exact ⟨f k, f, h1, h2, rfl⟩
    have hlb : ∃ lb, (if a = 0 then some (-1) else f_X8_lockedValue TT m 853 860 (nI k)) = some lb ∧ (match lkd F a with | none => lb = -1 | some g => ∃ b, b < 7 ∧ lb = nI b ∧ em b = g k) := by
      by_cases ha : a = 0
      · rw [if_pos ha]
        refine ⟨-1, rfl, ?_⟩
        unfold lkd
        rw [if_pos ha]
      · rw [if_neg ha]
        exact locked_C hq hO hS.1.1 hS.1.2.1 hF hFO hkp ha
    obtain ⟨lb, hlb1, hlb2⟩ := hlb
    obtain ⟨b, m1, e1, f1, ⟨hb7, hbx, hbp⟩, s1⟩ := bestValue_C hq hO hS hkp hexv hlb2
    have hbody : f_X8_settle_l2 TT m 853 860 a (nI k) = some (.inl (nI (k + 1), si m1 859 k (nI b))) := by
      have hj : f_X8_settle_j31 TT m 853 860 a (nI k) lb (nI k) 853 (nI k) 859 = some (.inl (nI (k + 1), si m1 859 k (nI b))) := by
        unfold f_X8_settle_j31
        rw [ob_of s_853, if_pos rfl, e1, bd_some, if_pos (ar_of s_859 (by omega) (by omega)), lt_eq, lt_eq, ix_nI (by omega), nI_1]
      unfold f_X8_settle_l2
      rw [hS.1.2.2.1, if_neg (nI_ge hkp (by omega)), hS.1.1.2.2.2.2.2.2]
      by_cases ha : a = 0
      · rw [if_pos ha] at hlb1 ⊢
        cases hlb1
        exact hj
      · rw [if_neg ha] at hlb1 ⊢
        rw [hlb1, Option.bind_some]
        exact hj
    rw [lp_step hbody]
    have f2 : FI (fun z j => z = 859) m1 (si m1 859 k (nI b)) := FI.si (P := fun z j => z = 859) rfl
    have w2 : SW q (si m1 859 k (nI b)) T n G aT := s1.1.keep hq hB f2 (fun z j e => by omega) (by omega) (fun z j e => by omega) (fun j hj => by omega)
    have s2 : SP q (si m1 859 k (nI b)) T n G (k + 1) (xU x k (em b)) := by
      obtain ⟨_, D, K, hR, hI⟩ := s1
      exact ⟨w2, D, K, fun p hp => ⟨(f2.1 _ _ (by omega)).trans (hR p hp).1, (f2.1 _ _ (by omega)).trans (hR p hp).2⟩, hI⟩
    have hF2 : FnC (si m1 859 k (nI b)) G F := hF.keep (fun z j h1 h2 => (f2.1 _ _ (by omega)).trans (f1.1 _ _ (by unfold FR0; omega))) (fun j => (f2.2.2 _ _).trans (f1.2.2 _ _))
    have hcg : ∀ p, p ≤ k → ∀ i, i < p → x i = xU x k (em b) i := fun p hp i hi => (xU_ne (by omega)).symm
    obtain ⟨m', x', e3, w3, F3, f3, b3, v3⟩ := ih (k + 1) N (si m1 859 k (nI b)) (xU x k (em b)) (by omega) (by omega) s2 hF2 (fun i hi => by
      by_cases hik : i = k
      · rw [hik]
        exact ⟨b, hb7, gi_si _ _ _ _, xU_self.symm⟩
      · obtain ⟨b', a1, a2, a3⟩ := hv i (by omega)
        refine ⟨b', a1, ?_, by rw [xU_ne hik]; exact a3⟩
        simp only [mS]
        rw [if_neg (by omega), f1.1 _ _ (by unfold FR0; omega)]
        exact a2) (fun p hp => by
      by_cases hpk : p = k
      · rw [hpk, xU_self]
        exact ⟨EX_congr (hcg k (Nat.le_refl _)) hbx, fun v hv' => hbp v (EX_congr (fun i hi => (hcg k (Nat.le_refl _) i hi).symm) hv')⟩
      · obtain ⟨a1, a2⟩ := hb p (by omega)
        rw [xU_ne hpk]
        exact ⟨EX_congr (hcg p (by omega)) a1, fun v hv' => a2 v (EX_congr (fun i hi => (hcg p (by omega) i hi).symm) hv')⟩) (by
      obtain ⟨f, h1, h2, h3⟩ := hbx
      refine ⟨f, h1, fun i hi => ?_⟩
      by_cases hik : i = k
      · rw [hik, xU_self]; exact h3
      · rw [xU_ne hik]; exact h2 i (by omega))
    exact ⟨m', x', e3, w3, F3, ((f1.mono (fun z j e => Or.inl e)).tr (f2.mono (fun z j e => Or.inr e))).tr f3, b3, v3⟩
theorem pick_lp {q n : Nat} {T : Nat → Nat} {G : Rg} {x : Nat → Nat} (hq : QS q) (hO : RO T n G) : ∀ (d k N : Nat) (m : Mi), k + d = G.1.length → d < N → SW q m T n G aT → gr m 860 2 = 861 → gi m 860 1 = nI G.1.length → (∀ i, i < G.1.length → ∃ b, b < 7 ∧ gi m 859 i = nI b ∧ em b = x i) → (∀ p, p < G.1.length → gi m 861 p = if p < k ∧ x p ≠ 0 then nI (fr G p + (x p - 1)) else -1) →
    ∃ m', lp (fun y : Int32 × Mi => f_X8_settle_l51 TT y.2 853 860 y.1) N (nI k, m) = some m' ∧ FI (fun z j => z = 861) m m' ∧ ∀ p, p < G.1.length → gi m' 861 p = if x p = 0 then -1 else nI (fr G p + (x p - 1)) := by
  have hB := hO.2.1
  have hB1 := hB.1
  have hq1 := hq.1
  intro d
  induction d with
  | zero =>
    intro k N m hk hN hS r2 g1 hv h
    obtain ⟨N, rfl⟩ : ∃ y, N = y + 1 := ⟨N - 1, by omega⟩
    refine ⟨m, lp_exit ?_, FI.rf, fun p hp => ?_⟩
    · show f_X8_settle_l51 TT m 853 860 (nI k) = _
      unfold f_X8_settle_l51
      rw [hS.2.2.1, if_pos (nI_le (by omega) (by omega))]
    · rw [h p hp]
      by_cases hx : x p = 0
      · rw [if_pos hx, if_neg (fun z => z.2 hx)]
      · rw [if_neg hx, if_pos ⟨by omega, hx⟩]
  | succ d ih =>
    intro k N m hk hN hS r2 g1 hv h
    obtain ⟨N, rfl⟩ : ∃ y, N = y + 1 := ⟨N - 1, by omega⟩
    have hkp : k < G.1.length := by omega
    obtain ⟨hV, hC, h1, _⟩ := hS
    obtain ⟨b, hb, hvb, hxb⟩ := hv k hkp
    obtain ⟨y, hy⟩ := get_some hkp
    obtain ⟨_, _, p3, _, _⟩ := hC.1.2.2.1.2.2.2.2.1 k y hy
    have hsp := (hq.2.2.2.2.2.2.2.2.1 k (by omega)).1
    have hbody : f_X8_settle_l51 TT m 853 860 (nI k) = if b = 6 then some (.inl (nI (k + 1), m)) else some (.inl (nI (k + 1), si m 861 k (nI (fr G k + b)))) := by
      unfold f_X8_settle_l51 f_X1_pick
      rw [h1, if_neg (nI_ge hkp (by omega)), hV.1, ob_of hq.2.1, if_pos rfl, packAt_C hq hC.1.1 hC.1.2.2.1 hB hkp, Option.bind_some, if_neg (show ¬ q + 3 + 2 * k = 0 by omega), hV.2.2.2.2.2.2, if_pos (ar_of s_859 (by omega) (by omega)), ix_nI (by omega), hvb]
      by_cases hb6 : b = 6
      · rw [if_pos hb6, if_pos (show nI b = 6 by rw [hb6]; rfl), lt_eq, nI_1]
      · rw [if_neg hb6, if_neg (show ¬ nI b = 6 from fun z => hb6 ((nI_eq (b := 6) (by omega) (by omega)).mp z)), ob_of hsp, if_pos rfl, if_neg (nI_pos (by omega)), g1, if_neg (nI_ge hkp (by omega)), r2, if_pos (ar_of s_861 (by omega) (by omega)), lt_eq, Option.bind_some, lt_eq, p3, ← fr_get hy, nI_add, nI_1]
    by_cases hb6 : b = 6
    · rw [if_pos hb6] at hbody
      rw [lp_step hbody]
      have hx0 : x k = 0 := by rw [← hxb, hb6, em_6]
      exact ih (k + 1) N m (by omega) (by omega) ⟨hV, hC, h1, by assumption⟩ r2 g1 hv (fun p hp => by
        rw [h p hp]
        by_cases hpk : p = k
        · rw [hpk, if_neg (fun z => z.2 hx0), if_neg (fun z => z.2 hx0)]
        · by_cases hlt : p < k ∧ x p ≠ 0
          · rw [if_pos hlt, if_pos ⟨by omega, hlt.2⟩]
          · rw [if_neg hlt, if_neg (fun z => hlt ⟨by omega, z.2⟩)])
    · rw [if_neg hb6] at hbody
      rw [lp_step hbody]
      have hx1 : x k = b + 1 := by rw [← hxb, em_ne hb6]
      have f1 : FI (fun z j => z = 861) m (si m 861 k (nI (fr G k + b))) := FI.si (P := fun z j => z = 861) rfl
      obtain ⟨m', e2, f2, g2⟩ := ih (k + 1) N (si m 861 k (nI (fr G k + b))) (by omega) (by omega) (SW.keep ⟨hV, hC, h1, by assumption⟩ hq hB f1 (fun z j e => by omega) (by omega) (fun z j e => by omega) (fun j hj => by omega)) ((f1.2.2 _ _).trans r2) ((f1.1 _ _ (by omega)).trans g1) (fun i hi => by
        obtain ⟨b', a1, a2, a3⟩ := hv i hi
        exact ⟨b', a1, (f1.1 _ _ (by omega)).trans a2, a3⟩) (fun p hp => by
        by_cases hpk : p = k
        · rw [hpk, if_pos ⟨by omega, by omega⟩, gi_si, hx1, Nat.add_sub_cancel]
        · simp only [mS]
          rw [if_neg (by omega), h p hp]
          by_cases hlt : p < k ∧ x p ≠ 0
          · rw [if_pos hlt, if_pos ⟨by omega, hlt.2⟩]
          · rw [if_neg hlt, if_neg (fun z => hlt ⟨by omega, z.2⟩)])
      exact ⟨m', e2, f1.tr f2, g2⟩
theorem settle_C {q n : Nat} {m : Mi} {T : Nat → Nat} {G : Rg} {F : Fnd} {a : Int32} (hq : QS q) (hO : RO T n G) (hFO : FO T G F) (hS : SW q m T n G aT) (hF : FnC m G F) (hex : ∃ f, SL T G aT f) :
    ∃ m' x', f_X8_settle TT m 853 860 a = some m' ∧ SW q m' T n G aT ∧ FnC m' G (some (.inl x')) ∧ Best T G (lkd F a) x' ∧ FI (fun z j => FR0 z j ∨ z = 859 ∨ z = 860 ∨ z = 861) m m' := by
  have hB := hO.2.1
  have hB1 := hB.1
  have hS0 : SP q m T n G 0 (fun _ => 0) := by
    refine ⟨hS, dm0 T G aT, fun _ _ => false, hS.R hB, ?_⟩
    have h0 : Lp 0 = fun _ => false := by funext i; unfold Lp; exact decide_eq_false (by omega)
    rw [h0]
    exact Iv_0 _ _ _ _
  obtain ⟨m1, x', e1, w1, F1, f1, b1, v1⟩ := settle_lp (a := a) hq hO hFO G.1.length 0 FUEL m (fun _ => 0) (by omega) (by unfold FUEL; omega) hS0 hF (fun i hi => by omega) (fun p hp => by omega) (by obtain ⟨f, hf⟩ := hex; exact ⟨f, hf, fun i hi => by omega⟩)
  unfold f_X8_settle f_X8_settle_j2
  rw [show ((0 : Int32), m) = (nI 0, m) from rfl, e1, Option.bind_some]
  unfold f_X8_settle_j41 f_X1_startSolution
  obtain ⟨⟨r1, r2, r3⟩, _⟩ := F1
  rw [ob_of s_860, if_pos rfl, lt_eq, show gr (si m1 860 0 1) 860 2 = 861 from r1, aa_of s_861, if_pos rfl, ln_of s_861, ofNat_nI, w1.2.2.1, if_neg (nI_nlt (by omega) (by omega)), lt_eq, lt_eq, show gr (si (si (si m1 860 0 1) 860 1 (nI G.1.length)) 860 4 0) 860 2 = 861 from r1, fill_i s_861 (by omega), Option.bind_some, Option.bind_some]
  have f2 : FI (fun z j => z = 860 ∨ z = 861) m1 (blkI (si (si (si m1 860 0 1) 860 1 (nI G.1.length)) 860 4 0) 861 0 10 (fun _ => -1)) := by
    refine ⟨fun z j e => ?_, fun _ _ => rfl, fun _ _ => rfl⟩
    simp only [mS]
    rw [if_neg (by omega), if_neg (by omega), if_neg (by omega), if_neg (by omega)]
  have u0 : gi (blkI (si (si (si m1 860 0 1) 860 1 (nI G.1.length)) 860 4 0) 861 0 10 (fun _ => -1)) 860 0 = 1 := by
    simp only [mS]
    rw [if_neg (by omega), if_neg (by omega), if_neg (by omega), if_pos ⟨trivial, trivial⟩]
  have u1 : gi (blkI (si (si (si m1 860 0 1) 860 1 (nI G.1.length)) 860 4 0) 861 0 10 (fun _ => -1)) 860 1 = nI G.1.length := by
    simp only [mS]
    rw [if_neg (by omega), if_neg (by omega), if_pos ⟨trivial, trivial⟩]
  have u4 : gi (blkI (si (si (si m1 860 0 1) 860 1 (nI G.1.length)) 860 4 0) 861 0 10 (fun _ => -1)) 860 4 = 0 := by
    simp only [mS]
    rw [if_neg (by omega), if_pos ⟨trivial, trivial⟩]
  have u5 : ∀ p, p < 10 → gi (blkI (si (si (si m1 860 0 1) 860 1 (nI G.1.length)) 860 4 0) 861 0 10 (fun _ => -1)) 861 p = -1 := by
    intro p hp
    simp only [mS]
    rw [if_pos ⟨trivial, Nat.zero_le _, hp⟩]
  generalize blkI (si (si (si m1 860 0 1) 860 1 (nI G.1.length)) 860 4 0) 861 0 10 (fun _ => -1) = m2 at *
  have w2 : SW q m2 T n G aT := w1.keep hq hB f2 (fun z j e => by omega) (by omega) (fun z j e => by omega) (fun j hj => by omega)
  obtain ⟨m3, e3, f3, g3⟩ := pick_lp (x := x') hq hO G.1.length 0 FUEL m2 (by omega) (by unfold FUEL; omega) w2 ((f2.2.2 _ _).trans r1) u1 (fun i hi => by
    obtain ⟨b, a1, a2, a3⟩ := v1 i hi
    exact ⟨b, a1, (f2.1 _ _ (by omega)).trans a2, a3⟩) (fun p hp => by rw [u5 p (by omega), if_neg (fun z => by omega)])
  unfold f_X8_settle_j51
  rw [show ((0 : Int32), m2) = (nI 0, m2) from rfl, e3, Option.bind_some]
  refine ⟨m3, x', rfl, w2.keep hq hB f3 (fun z j e => by omega) (by omega) (fun z j e => by omega) (fun j hj => by omega), ⟨⟨(f3.2.2 _ _).trans ((f2.2.2 _ _).trans r1), (f3.2.2 _ _).trans ((f2.2.2 _ _).trans r2), (f3.2.2 _ _).trans ((f2.2.2 _ _).trans r3)⟩, (f3.1 _ _ (by omega)).trans u0, (f3.1 _ _ (by omega)).trans u1, (f3.1 _ _ (by omega)).trans u4, g3⟩, b1, ((f1.mono (fun z j e => e.elim Or.inl (fun h => Or.inr (Or.inl h)))).tr (f2.mono (fun z j e => Or.inr (Or.inr e)))).tr (f3.mono (fun z j e => Or.inr (Or.inr (Or.inr e))))⟩
/-- the constraints that are left when the last j were tried -/
def rsA (T : Nat → Nat) (G : Rg) : Nat → Nat → Bool
  | 0 => aT
  | j + 1 => if NS G.1.length (dm0 T G (fun i => if i = G.2.2.length - 1 - j then false else rsA T G j i)) (bb T G (fun i => if i = G.2.2.length - 1 - j then false else rsA T G j i)) = 0 then (fun i => if i = G.2.2.length - 1 - j then false else rsA T G j i) else rsA T G j
theorem rsA_un {T : Nat → Nat} {G : Rg} : ∀ j c, c + j < G.2.2.length → rsA T G j c = true := by
  intro j
  induction j with
  | zero => intro c _; rfl
  | succ j ih =>
    intro c hc
    rw [rsA]
    split
    · simp only
      rw [if_neg (by omega)]
      exact ih c (by omega)
    · exact ih c (by omega)
/-- the reason -/
def rsL (T : Nat → Nat) (G : Rg) : List Nat := (List.range G.2.2.length).filter (rsA T G G.2.2.length)
theorem NS_0 {T : Nat → Nat} {n : Nat} {G : Rg} (hO : RO T n G) (act : Nat → Bool) : NS G.1.length (dm0 T G act) (bb T G act) = 0 ↔ ¬ ∃ f, SL T G act f := by
  have := NS_pos (n := G.1.length) (D := dm0 T G act) (B := bb T G act) (fun p v _ h => dm0_7 hO h)
  constructor
  · intro h he
    have := this.mpr he
    omega
  · intro h
    rcases Nat.eq_zero_or_pos (NS G.1.length (dm0 T G act) (bb T G act)) with h0 | h0
    · exact h0
    · exact absurd (this.mp h0) h
theorem accuse_lp {q n : Nat} {T : Nat → Nat} {G : Rg} (hq : QS q) (hO : RO T n G) : ∀ (k N : Nat) (m : Mi), k < N → k ≤ G.2.2.length → SW q m T n G (rsA T G (G.2.2.length - k)) →
    ∃ m', lp (fun y : Int32 × Mi => f_X8_accuse_l10 TT y.2 853 860 y.1) N (nI k - 1, m) = some m' ∧ SW q m' T n G (rsA T G G.2.2.length) ∧ FI (fun z j => 854 ≤ z ∧ z ≤ 858) m m' := by
  have hB := hO.2.1
  have hB3 := hB.2.2
  have f0 : ∀ {m m' : Mi}, FI FR0 m m' → FI (fun z j => 854 ≤ z ∧ z ≤ 858) m m' := fun f => f.mono (fun z j e => by unfold FR0 at e; omega)
  have fa : ∀ {m m' : Mi}, FI (fun x j => (x = 856 ∧ j < 10) ∨ x = 854 ∨ x = 855 ∨ x = 858) m m' → FI (fun z j => 854 ≤ z ∧ z ≤ 858) m m' := fun f => f.mono (fun z j e => by omega)
  intro k
  induction k with
  | zero =>
    intro N m hN hk hS
    obtain ⟨N, rfl⟩ : ∃ y, N = y + 1 := ⟨N - 1, by omega⟩
    refine ⟨m, lp_exit ?_, by rw [Nat.sub_zero] at hS; exact hS, FI.rf⟩
    show f_X8_accuse_l10 TT m 853 860 (nI 0 - 1) = _
    unfold f_X8_accuse_l10
    rw [if_pos (by decide)]
  | succ k ih =>
    intro N m hN hk hS
    obtain ⟨N, rfl⟩ : ∃ y, N = y + 1 := ⟨N - 1, by omega⟩
    rw [nI_pred]
    obtain ⟨m1, e1, w1, f1⟩ := setActive_C false hq hO hS (show k < G.2.2.length by omega)
    obtain ⟨r, m2, e2, f2, g2⟩ := possible_C hO w1
    have w2 : SW q m2 T n G (fun j => if j = k then false else rsA T G (G.2.2.length - (k + 1)) j) := w1.keep hq hB f2 (fun x j z => by unfold FR0 at z; omega) (by unfold FR0; omega) (fun x j z => by unfold FR0 at z; omega) (fun j hj => by unfold FR0; omega)
    have hstep : rsA T G (G.2.2.length - k) = if NS G.1.length (dm0 T G (fun i => if i = k then false else rsA T G (G.2.2.length - (k + 1)) i)) (bb T G (fun i => if i = k then false else rsA T G (G.2.2.length - (k + 1)) i)) = 0 then (fun i => if i = k then false else rsA T G (G.2.2.length - (k + 1)) i) else rsA T G (G.2.2.length - (k + 1)) := by
      rw [show G.2.2.length - k = (G.2.2.length - (k + 1)) + 1 by omega, rsA, show G.2.2.length - 1 - (G.2.2.length - (k + 1)) = k by omega]
    have hm1 : nI k + -1 = nI k - 1 := by rw [Int32.sub_eq_add_neg]
    cases r with
    | false =>
      have hno := (NS_0 hO _).mpr (fun he => by have := g2.mpr he; cases this)
      rw [if_pos hno] at hstep
      have hbody : f_X8_accuse_l10 TT m 853 860 (nI k) = some (.inl (nI k - 1, m2)) := by
        unfold f_X8_accuse_l10
        rw [if_neg (nI_pos (by omega)), show f_X8_setActive TT m 853 (nI k) 0 = _ from e1, Option.bind_some, e2, bd_some, if_pos bF, lt_eq, hm1]
      rw [lp_step hbody]
      obtain ⟨m', e3, w3, f3⟩ := ih N m2 (by omega) (by omega) (by rw [hstep]; exact w2)
      exact ⟨m', e3, w3, ((fa f1).tr (f0 f2)).tr f3⟩
    | true =>
      have hyes : ¬ NS G.1.length (dm0 T G (fun i => if i = k then false else rsA T G (G.2.2.length - (k + 1)) i)) (bb T G (fun i => if i = k then false else rsA T G (G.2.2.length - (k + 1)) i)) = 0 := fun z => (NS_0 hO _).mp z (g2.mp rfl)
      rw [if_neg hyes] at hstep
      obtain ⟨m3, e3, w3, f3⟩ := setActive_C true hq hO w2 (show k < G.2.2.length by omega)
      have hbody : f_X8_accuse_l10 TT m 853 860 (nI k) = some (.inl (nI k - 1, m3)) := by
        unfold f_X8_accuse_l10
        rw [if_neg (nI_pos (by omega)), show f_X8_setActive TT m 853 (nI k) 0 = _ from e1, Option.bind_some, e2, bd_some, if_neg bTr, show f_X8_setActive TT m2 853 (nI k) 1 = _ from e3, Option.bind_some, lt_eq, hm1]
      rw [lp_step hbody]
      have hfun : (fun j => if j = k then true else (fun j => if j = k then false else rsA T G (G.2.2.length - (k + 1)) j) j) = rsA T G (G.2.2.length - k) := by
        rw [hstep]
        funext j
        by_cases hj : j = k
        · rw [if_pos hj, hj, rsA_un _ k (by omega)]
        · rw [if_neg hj]
          simp only
          rw [if_neg hj]
      rw [hfun] at w3
      obtain ⟨m', e4, w4, f4⟩ := ih N m3 (by omega) (by omega) w3
      exact ⟨m', e4, w4, (((fa f1).tr (f0 f2)).tr (fa f3)).tr f4⟩
theorem accused_lp {q n : Nat} {T : Nat → Nat} {G : Rg} {act : Nat → Bool} (hq : QS q) (hO : RO T n G) : ∀ (d k N : Nat) (m : Mi), k + d = G.2.2.length → d < N → SW q m T n G act → gr m 860 3 = 862 → gi m 860 4 = nI ((List.range k).filter act).length → (∀ i c, ((List.range k).filter act)[i]? = some c → gi m 862 i = nI c) →
    ∃ m', lp (fun y : Int32 × Mi => f_X8_accuse_l45 TT y.2 853 860 y.1) N (nI k, m) = some m' ∧ FI (fun z j => z = 862 ∨ (z = 860 ∧ j = 4)) m m' ∧ gi m' 860 4 = nI ((List.range G.2.2.length).filter act).length ∧ ∀ i c, ((List.range G.2.2.length).filter act)[i]? = some c → gi m' 862 i = nI c := by
  have hB := hO.2.1
  have hB3 := hB.2.2
  have hq1 := hq.1
  intro d
  induction d with
  | zero =>
    intro k N m hk hN hS r3 g4 g5
    obtain ⟨N, rfl⟩ : ∃ y, N = y + 1 := ⟨N - 1, by omega⟩
    rw [show k = G.2.2.length by omega] at g4 g5
    refine ⟨m, lp_exit ?_, FI.rf, g4, g5⟩
    show f_X8_accuse_l45 TT m 853 860 (nI k) = _
    unfold f_X8_accuse_l45 f_X6_constraints
    rw [hS.1.1, ob_of hq.2.1, if_pos rfl, Option.bind_some, hS.2.1.1.2.2.1.2.2.1, if_pos (nI_le (by omega) (by omega))]
  | succ d ih =>
    intro k N m hk hN hS r3 g4 g5
    obtain ⟨N, rfl⟩ : ∃ y, N = y + 1 := ⟨N - 1, by omega⟩
    obtain ⟨hV, hC, h1, hA, hrest⟩ := hS
    have hll : ((List.range k).filter act).length ≤ k := by
      have := List.length_filter_le act (List.range k)
      rw [List.length_range] at this
      exact this
    have hfil : (List.range (k + 1)).filter act = (List.range k).filter act ++ (if act k = true then [k] else []) := by
      rw [List.range_succ, List.filter_append]
      congr 1
      cases hh : act k with
      | true => simp [hh]
      | false => simp [hh]
    have hbody : f_X8_accuse_l45 TT m 853 860 (nI k) = if act k = true then some (.inl (nI (k + 1), si (si m 862 ((List.range k).filter act).length (nI k)) 860 4 (nI (((List.range k).filter act).length + 1)))) else some (.inl (nI (k + 1), m)) := by
      unfold f_X8_accuse_l45 f_X6_constraints f_X1_accuse
      rw [hV.1, ob_of hq.2.1, if_pos rfl, Option.bind_some, hC.1.2.2.1.2.2.1, if_neg (nI_ge (by omega) (by omega)), hV.2.2.2.2.2.1, aa_of s_858, if_pos rfl, ln_of s_858, ofNat_nI, if_neg (nI_ge (by omega) (by omega)), if_pos (ar_of s_858 (by omega) (by omega)), ix_nI (by omega), hA k (by omega)]
      cases act k with
      | false => rw [if_pos bF, if_neg fNt, lt_eq, nI_1]
      | true =>
        rw [if_neg bTr, if_pos rfl, r3, aa_of s_862, if_pos rfl, ln_of s_862, ofNat_nI, g4, if_neg (nI_ge (by omega) (by omega)), if_pos (ar_of s_862 (by omega) (by omega)), lt_eq, lt_eq, ix_nI (by omega), Option.bind_some, lt_eq, nI_1]
        rw [show gi (si m 862 ((List.range k).filter act).length (nI k)) 860 4 = nI ((List.range k).filter act).length from by simp only [mS]; rw [if_neg (by omega)]; exact g4, nI_1]
    cases hac : act k with
    | false =>
      rw [hac, if_neg fNt] at hbody
      rw [hac, if_neg fNt, List.append_nil] at hfil
      rw [lp_step hbody]
      exact ih (k + 1) N m (by omega) (by omega) ⟨hV, hC, h1, hA, hrest⟩ r3 (by rw [hfil]; exact g4) (by rw [hfil]; exact g5)
    | true =>
      rw [hac, if_pos rfl] at hbody
      rw [hac, if_pos rfl] at hfil
      rw [lp_step hbody]
      have f1 : FI (fun z j => z = 862 ∨ (z = 860 ∧ j = 4)) m (si (si m 862 ((List.range k).filter act).length (nI k)) 860 4 (nI (((List.range k).filter act).length + 1))) := (FI.si (P := fun z j => z = 862 ∨ (z = 860 ∧ j = 4)) (Or.inl rfl)).tr (FI.si (P := fun z j => z = 862 ∨ (z = 860 ∧ j = 4)) (Or.inr ⟨rfl, rfl⟩))
      obtain ⟨m', e2, f2, g6, g7⟩ := ih (k + 1) N (si (si m 862 ((List.range k).filter act).length (nI k)) 860 4 (nI (((List.range k).filter act).length + 1))) (by omega) (by omega) (SW.keep ⟨hV, hC, h1, hA, hrest⟩ hq hB f1 (fun z j e => by omega) (by omega) (fun z j e => by omega) (fun j hj => by omega)) ((f1.2.2 _ _).trans r3) (by rw [hfil, List.length_append, List.length_singleton]; exact gi_si _ _ _ _) (fun i c hi => by
        rw [hfil] at hi
        rcases app_get hi with ⟨h1, h2⟩ | ⟨h1, h2⟩
        · simp only [mS]
          rw [if_neg (by omega), if_neg (by omega)]
          exact g5 i c h2
        · simp only [mS]
          rw [if_neg (by omega), if_pos ⟨trivial, h1⟩, h2])
      exact ⟨m', e2, f1.tr f2, g6, g7⟩
theorem accuse_C {q n : Nat} {m : Mi} {T : Nat → Nat} {G : Rg} {F : Fnd} (hq : QS q) (hO : RO T n G) (hS : SW q m T n G aT) (hF : FnC m G F) :
    ∃ m', f_X8_accuse TT m 853 860 = some m' ∧ SW q m' T n G (rsA T G G.2.2.length) ∧ FnC m' G (some (.inr (rsL T G))) ∧ FI (fun z j => 854 ≤ z ∧ z ≤ 862) m m' := by
  have hB := hO.2.1
  have hB3 := hB.2.2
  obtain ⟨m1, e1, w1, f1⟩ := accuse_lp hq hO G.2.2.length FUEL m (by unfold FUEL; omega) (Nat.le_refl _) (by rw [Nat.sub_self]; exact hS)
  obtain ⟨⟨r1, r2, r3⟩, _⟩ := hF
  unfold f_X8_accuse f_X6_constraints f_X8_accuse_j10
  rw [hS.1.1, ob_of hq.2.1, if_pos rfl, Option.bind_some, lt_eq, hS.2.1.1.2.2.1.2.2.1, e1, Option.bind_some]
  unfold f_X8_accuse_j39 f_X1_startReason f_X8_accuse_j45
  simp only [lt_eq]
  rw [ob_of s_860, if_pos rfl, Option.bind_some]
  have f2 : FI (fun z j => z = 860) m1 (si (si (si m1 860 0 2) 860 1 0) 860 4 0) := ((FI.si (P := fun z j => z = 860) rfl).tr (FI.si (P := fun z j => z = 860) rfl)).tr (FI.si (P := fun z j => z = 860) rfl)
  have u : gi (si (si (si m1 860 0 2) 860 1 0) 860 4 0) 860 0 = 2 ∧ gi (si (si (si m1 860 0 2) 860 1 0) 860 4 0) 860 1 = 0 ∧ gi (si (si (si m1 860 0 2) 860 1 0) 860 4 0) 860 4 = 0 := by simp [mS]
  generalize si (si (si m1 860 0 2) 860 1 0) 860 4 0 = m2 at *
  have w2 : SW q m2 T n G (rsA T G G.2.2.length) := w1.keep hq hB f2 (fun z j e => by omega) (by omega) (fun z j e => by omega) (fun j hj => by omega)
  obtain ⟨m3, e3, f3, g4, g5⟩ := accused_lp hq hO G.2.2.length 0 FUEL m2 (by omega) (by unfold FUEL; omega) w2 ((f2.2.2 _ _).trans ((f1.2.2 _ _).trans r2)) (by rw [u.2.2]; rfl) (fun i c hi => by simp at hi)
  rw [show ((0 : Int32), m2) = (nI 0, m2) from rfl, e3, Option.bind_some]
  refine ⟨m3, rfl, w2.keep hq hB f3 (fun z j e => by omega) (by omega) (fun z j e => by omega) (fun j hj => by omega), ⟨⟨(f3.2.2 _ _).trans ((f2.2.2 _ _).trans ((f1.2.2 _ _).trans r1)), (f3.2.2 _ _).trans ((f2.2.2 _ _).trans ((f1.2.2 _ _).trans r2)), (f3.2.2 _ _).trans ((f2.2.2 _ _).trans ((f1.2.2 _ _).trans r3))⟩, (f3.1 _ _ (by omega)).trans u.1, (f3.1 _ _ (by omega)).trans u.2.1, g4, g5⟩, ((f1.mono (fun z j e => by omega)).tr (f2.mono (fun z j e => by omega))).tr (f3.mono (fun z j e => by omega))⟩
/-- the solver between calls -/
def SVI (m : Mi) : Prop := SV0 m ∧ ∀ j, j < 10 → gi m 857 j = 0
theorem SW.I {q n : Nat} {m : Mi} {T : Nat → Nat} {G : Rg} {act : Nat → Bool} (h : SW q m T n G act) : SVI m := ⟨⟨h.1.2.1, h.1.2.2.1, h.1.2.2.2.1, h.1.2.2.2.2.1, h.1.2.2.2.2.2.1, h.1.2.2.2.2.2.2⟩, h.2.2.2.2.2.2⟩
theorem resolve_C {m : Mi} {T : Nat → Nat} {n : Nat} {G : Rg} {F : Fnd} (hI : WFC m) (hR : CRg m T n G) (hO : RO T n G) (hV : SVI m) (hF : FnC m G F) (hFO : FO T G F) (a : Int32) :
    ∃ v m', f_X11_resolve TT m 1 a = some (v, m') ∧ FZ8 (fun x => 853 ≤ x ∧ x ≤ 862) m m' ∧ SVI m' ∧ (((∃ f, SL T G aT f) ∧ v = 1 ∧ ∃ x, Best T G (lkd F a) x ∧ FnC m' G (some (.inl x))) ∨ ((¬ ∃ f, SL T G aT f) ∧ v = 0 ∧ FnC m' G (some (.inr (rsL T G))))) := by
  obtain ⟨q, q', hqq, r8, r9, hcg, _⟩ := hR
  have hq : QS q := by rcases hqq with e | e <;> rw [e.1]; exact qs59; exact qs456
  have hB := hO.2.1
  obtain ⟨⟨w1, w2, w3, w4, w5, w6, w7, w8, w9, w10⟩, w11⟩ := hI
  obtain ⟨m1, e1, s1, f1⟩ := load_C hq hcg hO hV.1 hV.2
  obtain ⟨r, m2, e2, f2, g2⟩ := possible_C hO s1
  have s2 : SW q m2 T n G aT := s1.keep hq hB f2 (fun x j z => by unfold FR0 at z; omega) (by unfold FR0; omega) (fun x j z => by unfold FR0 at z; omega) (fun j hj => by unfold FR0; omega)
  have f12 : FZ8 (fun x => 853 ≤ x ∧ x ≤ 858) m m2 := f1.tr (f2.Z (fun x j z => by unfold FR0 at z; omega))
  have hF2 : FnC m2 G F := hF.keep (fun x j a b => f12.1 x j (by omega)) (fun j => f12.2.2 _ _ (by omega))
  have g10 : gr m1 1 10 = 853 := (f1.2.2 _ _ (by omega)).trans w8
  have g10' : gr m2 1 10 = 853 := (f12.2.2 _ _ (by omega)).trans w8
  have g11 : gr m2 1 11 = 860 := (f12.2.2 _ _ (by omega)).trans w9
  unfold f_X11_resolve
  rw [w8, ob_of s_853, if_pos rfl, r8, e1, Option.bind_some, g10, ob_of s_853, if_pos rfl, e2, bd_some]
  cases r with
  | false =>
    rw [if_pos bF, g10', ob_of s_853, if_pos rfl, g11]
    obtain ⟨m3, e3, s3, F3, f3⟩ := accuse_C hq hO s2 hF2
    rw [e3, Option.bind_some]
    exact ⟨0, m3, rfl, (f12.mono (fun x h => ⟨h.1, by omega⟩)).tr (f3.Z (fun x j z => by omega)), s3.I, Or.inr ⟨fun z => (by have := g2.mpr z; cases this), rfl, F3⟩⟩
  | true =>
    rw [if_neg bTr, g10', ob_of s_853, if_pos rfl, g11]
    obtain ⟨m3, x, e3, s3, F3, b3, f3⟩ := settle_C (a := a) hq hO hFO s2 hF2 (g2.mp rfl)
    rw [e3, Option.bind_some]
    exact ⟨1, m3, rfl, (f12.mono (fun x h => ⟨h.1, by omega⟩)).tr (f3.Z (fun x j z => by unfold FR0 at z; omega)), s3.I, Or.inl ⟨g2.mp rfl, rfl, x, b3, F3⟩⟩
/-- what solutions says -/
def spSol (T : Nat → Nat) (G : Rg) (a : Int32) : Int32 := if a < 1 ∨ 1000 < a then -1 else nI (min (ix a) (NS G.1.length (dm0 T G aT) (bb T G aT)))
theorem sol_cases (a : Int32) : (a < 1 ∨ 1000 < a) ∨ ∃ k, 1 ≤ k ∧ k ≤ 1000 ∧ a = nI k := by
  by_cases h : a < 1
  · exact Or.inl (Or.inl h)
  · by_cases h2 : 1000 < a
    · exact Or.inl (Or.inr h2)
    · have h0 : ¬ a < 0 := fun z => h (by rw [Int32.lt_iff_toInt_lt] at *; have e0 : (0 : Int32).toInt = 0 := by decide
                                          have e1 : (1 : Int32).toInt = 1 := by decide
                                          omega)
      obtain ⟨k, hk, rfl⟩ := nI_of h0
      refine Or.inr ⟨k, ?_, ?_, rfl⟩
      · rcases Nat.eq_zero_or_pos k with h3 | h3
        · exfalso; apply h; rw [h3]; decide
        · exact h3
      · rcases Nat.lt_or_ge 1000 k with h3 | h3
        · exact absurd (nI_lt (a := 1000) h3 hk) h2
        · exact h3
theorem solutions_C {m : Mi} {T : Nat → Nat} {n : Nat} {G : Rg} (hI : WFC m) (hR : CRg m T n G) (hO : RO T n G) (hV : SVI m) (a : Int32) :
    ∃ m', f_X11_solutions TT m 1 a = some (spSol T G a, m') ∧ FZ8 (fun x => 853 ≤ x ∧ x ≤ 858) m m' ∧ SVI m' := by
  obtain ⟨q, q', hqq, r8, r9, hcg, _⟩ := hR
  have hq : QS q := by rcases hqq with e | e <;> rw [e.1]; exact qs59; exact qs456
  have hB := hO.2.1
  obtain ⟨⟨w1, w2, w3, w4, w5, w6, w7, w8, w9, w10⟩, w11⟩ := hI
  unfold f_X11_solutions spSol
  rcases sol_cases a with h | ⟨k, h1, h2, rfl⟩
  · rw [if_pos h]
    by_cases ha : a < 1
    · rw [if_pos ha]
      exact ⟨m, rfl, ⟨fun _ _ _ => rfl, fun _ _ => rfl, fun _ _ _ => rfl⟩, hV⟩
    · rw [if_neg ha, if_neg (Int32.not_le.mpr (h.resolve_left ha))]
      exact ⟨m, rfl, ⟨fun _ _ _ => rfl, fun _ _ => rfl, fun _ _ _ => rfl⟩, hV⟩
  · have hn1 : ¬ nI k < 1 := nI_nlt (b := 1) h1 (by omega)
    have hn2 : nI k ≤ 1000 := nI_le (b := 1000) h2 (by omega)
    obtain ⟨m1, e1, s1, f1⟩ := load_C hq hcg hO hV.1 hV.2
    obtain ⟨m2, e2, f2⟩ := tallyAll_C hq hO s1 h1 h2
    have s2 : SW q m2 T n G aT := s1.keep hq hB f2 (fun x j z => by unfold FR0 at z; omega) (by unfold FR0; omega) (fun x j z => by unfold FR0 at z; omega) (fun j hj => by unfold FR0; omega)
    rw [if_neg hn1, if_pos hn2, w8, ob_of s_853, if_pos rfl, r8, e1, Option.bind_some, show gr m1 1 10 = 853 from (f1.2.2 _ _ (by omega)).trans w8, ob_of s_853, if_pos rfl, e2, bd_some, if_neg (by rintro (h | h); exact hn1 h; exact absurd hn2 (Int32.not_le.mpr h)), ix_nI (by omega)]
    exact ⟨m2, rfl, f1.tr (f2.Z (fun x j z => by unfold FR0 at z; omega)), s2.I⟩
