/-! why: how far a package is from the wants. -/
def hpk (G : Rg) (c : Nat) : Nat := match G.2.2[c]? with
  | some x => (match G.2.1[x.2.1]? with | some y => y.1 | none => 0)
  | none => 0
def tgc (T : Nat → Nat) (G : Rg) (c : Nat) : Nat := match G.2.2[c]? with
  | some x => tgt T G x
  | none => 0
def tkB (G : Rg) (F : Fnd) (c : Nat) : Bool := match G.2.2[c]? with
  | some x => decide (x.1 = 5 ∧ spCh G F (nI (hpk G c)) = nI x.2.1)
  | none => false
/-- link c leads from distance r to q -/
def Qb (T : Nat → Nat) (G : Rg) (F : Fnd) (st : Nat → Option Nat) (r q c : Nat) : Bool := tkB G F c && (decide (st (hpk G c) = some r) && decide (tgc T G c = q))
def dK (T : Nat → Nat) (G : Rg) (F : Fnd) (st : Nat → Option Nat) (r k q : Nat) : Option Nat := match st q with
  | some v => some v
  | none => if (List.range k).any (Qb T G F st r q) = true then some (r + 1) else none
def dW (T : Nat → Nat) (G : Rg) (k q : Nat) : Option Nat := if (List.range k).any (fun c => decide (lnkN G.2.2 ≤ c ∧ tgc T G c = q)) = true then some 0 else none
def dS (T : Nat → Nat) (G : Rg) (F : Fnd) : Nat → Nat → Option Nat
  | 0 => dW T G G.2.2.length
  | r + 1 => dK T G F (dS T G F r) r (lnkN G.2.2)
def FW (T : Nat → Nat) (G : Rg) (p c : Nat) : Prop := lnkN G.2.2 ≤ c ∧ c < G.2.2.length ∧ tgc T G c = p ∧ ∀ c', lnkN G.2.2 ≤ c' → c' < c → tgc T G c' ≠ p
def NW (T : Nat → Nat) (G : Rg) (p : Nat) : Prop := ∀ c, lnkN G.2.2 ≤ c → c < G.2.2.length → tgc T G c ≠ p
def FLk (T : Nat → Nat) (G : Rg) (F : Fnd) (p r c : Nat) : Prop := c < lnkN G.2.2 ∧ Qb T G F (dS T G F r) r p c = true ∧ ∀ c', c' < c → Qb T G F (dS T G F r) r p c' = false
def NLk (T : Nat → Nat) (G : Rg) (F : Fnd) (p r : Nat) : Prop := ∀ c, c < lnkN G.2.2 → Qb T G F (dS T G F r) r p c = false
/-- what why says -/
def WhyR (T : Nat → Nat) (G : Rg) (F : Fnd) (p : Nat) (v : Int32) : Prop := (∃ c, FW T G p c ∧ v = nI c) ∨ (NW T G p ∧ ((∃ r c, r + 1 < G.1.length ∧ FLk T G F p r c ∧ (∀ r', r' < r → NLk T G F p r') ∧ v = nI c) ∨ ((∀ r, r + 1 < G.1.length → NLk T G F p r) ∧ v = -1)))
theorem FW_un {T : Nat → Nat} {G : Rg} {p c c' : Nat} (h : FW T G p c) (h' : FW T G p c') : c = c' := by
  rcases Nat.lt_trichotomy c c' with e | e | e
  · exact absurd h.2.2.1 (h'.2.2.2 c h.1 e)
  · exact e
  · exact absurd h'.2.2.1 (h.2.2.2 c' h'.1 e)
theorem FLk_un {T : Nat → Nat} {G : Rg} {F : Fnd} {p r c c' : Nat} (h : FLk T G F p r c) (h' : FLk T G F p r c') : c = c' := by
  rcases Nat.lt_trichotomy c c' with e | e | e
  · have := h'.2.2 c e
    rw [h.2.1] at this
    cases this
  · exact e
  · have := h.2.2 c' e
    rw [h'.2.1] at this
    cases this
theorem FLk_no {T : Nat → Nat} {G : Rg} {F : Fnd} {p r c : Nat} (h : FLk T G F p r c) (h' : NLk T G F p r) : False := by
  have := h' c h.1
  rw [h.2.1] at this
  cases this
theorem WhyR_un {T : Nat → Nat} {G : Rg} {F : Fnd} {p : Nat} {v w : Int32} (h : WhyR T G F p v) (h' : WhyR T G F p w) : v = w := by
  rcases h with ⟨c, h1, rfl⟩ | ⟨h1, h2⟩
  · rcases h' with ⟨c', g1, rfl⟩ | ⟨g1, _⟩
    · rw [FW_un h1 g1]
    · exact absurd h1.2.2.1 (g1 c h1.1 h1.2.1)
  · rcases h' with ⟨c', g1, rfl⟩ | ⟨_, g2⟩
    · exact absurd g1.2.2.1 (h1 c' g1.1 g1.2.1)
    · rcases h2 with ⟨r, c, a1, a2, a3, rfl⟩ | ⟨a1, rfl⟩
      · rcases g2 with ⟨r', c', b1, b2, b3, rfl⟩ | ⟨b1, rfl⟩
        · have e : r = r' := by
            rcases Nat.lt_trichotomy r r' with e | e | e
            · exact (FLk_no a2 (b3 r e)).elim
            · exact e
            · exact (FLk_no b2 (a3 r' e)).elim
          subst e
          rw [FLk_un a2 b2]
        · exact (FLk_no a2 (b1 r a1)).elim
      · rcases g2 with ⟨r', c', b1, b2, b3, rfl⟩ | ⟨b1, rfl⟩
        · exact (FLk_no b2 (a1 r' b1)).elim
        · rfl
/-- the distances in memory -/
def StM (m : Mi) (a np : Nat) (st : Nat → Option Nat) : Prop := ∀ q, q < np → (st q = none ∧ gi m a q = -1) ∨ ∃ v, v < 1000 ∧ st q = some v ∧ gi m a q = nI v
theorem tgc_lt {T : Nat → Nat} {n : Nat} {G : Rg} (hO : RO T n G) {c : Nat} (hc : c < G.2.2.length) : tgc T G c < G.1.length := by
  obtain ⟨x, hx⟩ := get_some hc
  unfold tgc
  rw [hx]
  exact (unk_fnd hO.2.2.1 (List.mem_of_getElem? hx)).2
theorem tgc_get {T : Nat → Nat} {G : Rg} {c : Nat} {x : CnT} (h : G.2.2[c]? = some x) : tgc T G c = tgt T G x := by
  unfold tgc
  rw [h]
theorem hpk_of {T : Nat → Nat} {n : Nat} {G : Rg} (hO : RO T n G) {c : Nat} {x : CnT} (hx : G.2.2[c]? = some x) (h4 : x.1 ≠ 4) : ∃ y, G.2.1[x.2.1]? = some y ∧ hpk G c = y.1 ∧ y.1 < G.1.length ∧ x.2.1 < G.2.1.length := by
  obtain ⟨h, y, h1, h2, h3, _⟩ := hv_of hO hx h4
  refine ⟨y, h1, ?_, by rw [h2]; exact h3, get_lt h1⟩
  unfold hpk
  rw [hx]
  show (match G.2.1[x.2.1]? with | some y => y.1 | none => 0) = y.1
  rw [h1]
/-- one more reached, or not -/
theorem StM_set {m : Mi} {a np t v : Nat} {st st' : Nat → Option Nat} (h : StM m a np st) (hv : v < 1000) (h1 : st' t = some v) (h2 : ∀ q, q ≠ t → st' q = st q) : StM (si m a t (nI v)) a np st' := fun q hq => by
  by_cases hqt : q = t
  · exact Or.inr ⟨v, hv, by rw [hqt]; exact h1, by rw [hqt]; exact gi_si _ _ _ _⟩
  · rw [h2 q hqt, show gi (si m a t (nI v)) a q = gi m a q by simp only [mS]; rw [if_neg (by omega)]]
    exact h q hq
theorem dW_succ {T : Nat → Nat} {G : Rg} {k : Nat} (hk : lnkN G.2.2 ≤ k) : (∀ q, q ≠ tgc T G k → dW T G (k + 1) q = dW T G k q) ∧ dW T G (k + 1) (tgc T G k) = some 0 := by
  constructor
  · intro q hq
    unfold dW
    rw [List.range_succ, List.any_append]
    simp only [List.any_cons, List.any_nil, Bool.or_false]
    rw [decide_eq_false (p := lnkN G.2.2 ≤ k ∧ tgc T G k = q) (fun z => hq z.2.symm), Bool.or_false]
  · unfold dW
    rw [List.range_succ, List.any_append]
    simp only [List.any_cons, List.any_nil, Bool.or_false]
    rw [decide_eq_true (p := lnkN G.2.2 ≤ k ∧ True) ⟨hk, trivial⟩, Bool.or_true, if_pos rfl]
theorem dW_lnk {T : Nat → Nat} {G : Rg} (q : Nat) : dW T G (lnkN G.2.2) q = none := by
  unfold dW
  rw [if_neg]
  rw [List.any_eq_true]
  rintro ⟨c, h1, h2⟩
  have := List.mem_range.mp h1
  have := of_decide_eq_true h2
  omega
theorem dW_some {T : Nat → Nat} {G : Rg} {k q v : Nat} (h : dW T G k q = some v) : v = 0 ∧ ∃ c, c < k ∧ lnkN G.2.2 ≤ c ∧ tgc T G c = q := by
  unfold dW at h
  split at h
  · rename_i h1
    obtain ⟨c, h2, h3⟩ := List.any_eq_true.mp h1
    have h3 := of_decide_eq_true h3
    exact ⟨(Option.some.inj h).symm, c, List.mem_range.mp h2, h3.1, h3.2⟩
  · cases h
theorem dK_no {T : Nat → Nat} {G : Rg} {F : Fnd} {st : Nat → Option Nat} {r k q : Nat} (h : Qb T G F st r q k = false) : dK T G F st r (k + 1) q = dK T G F st r k q := by
  unfold dK
  rw [List.range_succ, List.any_append]
  simp only [List.any_cons, List.any_nil, Bool.or_false]
  rw [h, Bool.or_false]
theorem dK_yes {T : Nat → Nat} {G : Rg} {F : Fnd} {st : Nat → Option Nat} {r k q : Nat} (h : Qb T G F st r q k = true) (hn : st q = none) : dK T G F st r (k + 1) q = some (r + 1) := by
  unfold dK
  rw [List.range_succ, List.any_append]
  simp only [List.any_cons, List.any_nil, Bool.or_false]
  rw [h, Bool.or_true, hn]
  exact if_pos rfl
theorem dK_zero {T : Nat → Nat} {G : Rg} {F : Fnd} {st : Nat → Option Nat} {r q : Nat} : dK T G F st r 0 q = st q := by
  unfold dK
  cases st q with
  | some v => rfl
  | none => rfl
theorem dK_old {T : Nat → Nat} {G : Rg} {F : Fnd} {st : Nat → Option Nat} {r k q v : Nat} (h : st q = some v) : dK T G F st r k q = some v := by
  unfold dK
  rw [h]
theorem dK_r {T : Nat → Nat} {G : Rg} {F : Fnd} {st : Nat → Option Nat} {r k q : Nat} : dK T G F st r k q = some r ↔ st q = some r := by
  cases h : st q with
  | some v => rw [dK_old h]
  | none =>
    unfold dK
    rw [h]
    simp only
    constructor
    · intro z
      split at z
      · have := Option.some.inj z
        omega
      · cases z
    · intro z; cases z
/-- the class's side while it looks for a reason -/
def CW (q : Nat) (m : Mi) (T : Nat → Nat) (n : Nat) (G : Rg) (F : Fnd) : Prop := QS q ∧ CG0 q m T n G ∧ FnC m G F
theorem CW.keep {q n : Nat} {m m' : Mi} {T : Nat → Nat} {G : Rg} {F : Fnd} (h : CW q m T n G F) (hB : BGd G) (k : FI (fun x j => x = 863) m m') : CW q m' T n G F := by
  obtain ⟨h1, h2, h3⟩ := h
  refine ⟨h1, h2.keepF h1 hB (k.Fr (Q := fun x => x = 863) (fun x j z => z)) (fun x a b => ?_), h3.keep (fun x j a b => k.1 _ _ (by omega)) (fun j => k.2.2 _ _)⟩
  rcases h1.1 with e | e <;> omega
/-- the target of constraint c is reached at v -/
theorem reaches_C {q n c v : Nat} {m : Mi} {T : Nat → Nat} {G : Rg} {F : Fnd} {st : Nat → Option Nat} (hO : RO T n G) (hW : CW q m T n G F) (hS : StM m 863 G.1.length st) (hc : c < G.2.2.length) :
    f_X1_reaches TT m 860 (q + 145 + c) (nI v) = if st (tgc T G c) = none then some (1, si m 863 (tgc T G c) (nI v)) else some (0, m) := by
  have hB1 := hO.2.1.1
  obtain ⟨x, hx⟩ := get_some hc
  have ht := tgc_lt hO hc
  have h4 := hW.2.1.2.2.2 c x hx
  have hB3 := hO.2.1.2.2
  rw [← tgc_get hx] at h4
  unfold f_X1_reaches
  rw [if_neg (show ¬ q + 145 + c = 0 by omega), ob_of (hW.1.2.2.2.2.2.2.2.2.2.2 c (by omega)), if_pos rfl, h4, if_neg (nI_nlt0 (by omega)), hW.2.2.1.2.2, aa_of s_863, if_pos rfl, ln_of s_863, ofNat_nI, if_neg (nI_ge (by omega) (by omega)), if_pos (ar_of s_863 (by omega) (by omega)), ix_nI (by omega)]
  rcases hS _ ht with ⟨e1, e2⟩ | ⟨v, hv, e1, e2⟩
  · rw [e1, e2, if_pos rfl, if_pos rfl, lt_eq]
  · rw [e1, e2, if_neg (nneg (by omega)), if_neg (by simp)]
theorem targetIs_C {q n c p : Nat} {m : Mi} {T : Nat → Nat} {G : Rg} {F : Fnd} (hO : RO T n G) (hW : CW q m T n G F) (hc : c < G.2.2.length) (hp : p < G.1.length) :
    f_X1_targetIs TT m (q + 145 + c) (nI p) = some (bI (decide (tgc T G c = p))) := by
  have hB1 := hO.2.1.1
  have hB3 := hO.2.1.2.2
  obtain ⟨x, hx⟩ := get_some hc
  have ht := tgc_lt hO hc
  have h4 := hW.2.1.2.2.2 c x hx
  rw [← tgc_get hx] at h4
  unfold f_X1_targetIs
  rw [if_neg (show ¬ q + 145 + c = 0 by omega), ob_of (hW.1.2.2.2.2.2.2.2.2.2.2 c (by omega)), if_pos rfl, h4]
  by_cases h : tgc T G c = p
  · rw [if_pos (by rw [h]), decide_eq_true h]; rfl
  · rw [if_neg (fun z => h ((nI_eq (by omega) (by omega)).mp z)), decide_eq_false h]; rfl
theorem isTaken_C {q n c r : Nat} {m : Mi} {T : Nat → Nat} {G : Rg} {F : Fnd} {st : Nat → Option Nat} (hO : RO T n G) (hW : CW q m T n G F) (hS : StM m 863 G.1.length st) (hc : c < lnkN G.2.2) (hr : r < 1000) :
    f_X1_isTaken TT m 860 q (q + 145 + c) (nI r) = some (bI (tkB G F c && decide (st (hpk G c) = some r))) := by
  have hB1 := hO.2.1.1
  have hB2 := hO.2.1.2.1
  have hB3 := hO.2.1.2.2
  have hl := lnkN_le G.2.2
  obtain ⟨x, hx⟩ := get_some (l := G.2.2) (k := c) (by omega)
  have h4 : x.1 ≠ 4 := fun e => by have := (hO.1.1.2.2.2.2.2 c x hx).mp e; omega
  obtain ⟨y, hy, hyp, hyl, hrl⟩ := hpk_of hO hx h4
  have hk := hW.2.1.2.2.1.2.2.2.2.2.2 c x hx
  have hkd := (hO.1.2.2.2.1 x (List.mem_of_getElem? hx)).1
  have hrr := (hW.2.1.2.2.1.2.2.2.2.2.1 _ y hy).1
  unfold f_X1_isTaken
  rw [if_neg (show ¬ q + 145 + c = 0 by omega), ob_of (hW.1.2.2.2.2.2.2.2.2.2.2 c (by omega)), if_pos rfl, hk.1, hk.2.1, if_neg h4]
  have htk : tkB G F c = decide (x.1 = 5 ∧ spCh G F (nI (hpk G c)) = nI x.2.1) := by unfold tkB; rw [hx]
  rw [htk]
  by_cases h5 : x.1 = 5
  · rw [if_pos (show nI x.1 = 5 by rw [h5]; rfl), ob_of hW.1.2.1, if_pos rfl, releaseAt_C hW.1 hW.2.1.1 hW.2.1.2.2.1 hO.2.1 hrl, Option.bind_some, if_neg (show ¬ q + 24 + 2 * x.2.1 = 0 by omega), ob_of (hW.1.2.2.2.2.2.2.2.2.2.1 x.2.1 (by omega)).1, if_pos rfl, hrr, releaseOf_C hO hW.2.2, Option.bind_some, hyp]
    by_cases h6 : spCh G F (nI y.1) = nI x.2.1
    · rw [if_pos h6, decide_eq_true (p := x.1 = 5 ∧ spCh G F (nI y.1) = nI x.2.1) ⟨h5, h6⟩, hW.2.2.1.2.2, aa_of s_863, if_pos rfl, ln_of s_863, ofNat_nI, if_neg (nI_ge (by omega) (by omega)), if_pos (ar_of s_863 (by omega) (by omega)), ix_nI (by omega)]
      rcases hS _ hyl with ⟨e1, e2⟩ | ⟨v, hv, e1, e2⟩
      · rw [e1, e2, if_neg (fun z => nneg (n := r) (by omega) z.symm)]
        rfl
      · rw [e1, e2]
        by_cases hvr : v = r
        · rw [if_pos (by rw [hvr]), hvr]
          simp
          rfl
        · rw [if_neg (fun z => hvr ((nI_eq (by omega) (by omega)).mp z)), decide_eq_false (p := some v = some r) (fun z => hvr (Option.some.inj z))]
          rfl
    · rw [if_neg h6, decide_eq_false (p := x.1 = 5 ∧ spCh G F (nI y.1) = nI x.2.1) (fun z => h6 z.2)]
      rfl
  · rw [if_neg (show ¬ nI x.1 = 5 from fun z => h5 ((nI_eq (b := 5) (by omega) (by omega)).mp z)), decide_eq_false (p := x.1 = 5 ∧ spCh G F (nI (hpk G c)) = nI x.2.1) (fun z => h5 z.1)]
    rfl
