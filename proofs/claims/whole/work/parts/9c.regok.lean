/-! What holds of every registry that is held: packages one behind the other, six releases at most. -/
def fr (G : Rg) (p : Nat) : Nat := match G.1[p]? with
  | some y => y.2.2
  | none => 0
theorem fr_get {G : Rg} {p : Nat} {y : PkT} (h : G.1[p]? = some y) : fr G p = y.2.2 := by
  unfold fr
  rw [h]
def CT (G : Rg) : Prop := (∀ p, cntR G.2.1 p ≤ 6) ∧ ∀ p y y', G.1[p]? = some y → G.1[p + 1]? = some y' → y'.2.2 = y.2.2 + cntR G.2.1 p
theorem CT_nil : CT ([], ([], [])) := ⟨fun p => by unfold cntR; simp, fun p y y' h => by simp at h⟩
theorem CT_addP {G : Rg} {a b : Nat} (h : CT G) (hI : IW G) : CT (addP a b G) := by
  refine ⟨h.1, fun p y y' h1 h2 => ?_⟩
  have h1 : (G.1 ++ [(a, (b, G.2.1.length))])[p]? = some y := h1
  have h2 : (G.1 ++ [(a, (b, G.2.1.length))])[p + 1]? = some y' := h2
  rcases app_get h2 with ⟨_, g2⟩ | ⟨g1, g2⟩
  · rcases app_get h1 with ⟨_, g3⟩ | ⟨g3, _⟩
    · exact h.2 p y y' g3 g2
    · have := get_lt g2; omega
  · rcases app_get h1 with ⟨_, g3⟩ | ⟨g3, _⟩
    · have e := hI.2.2.1 y (by rw [show G.1.length - 1 = p by omega]; exact g3)
      rw [show G.1.length - 1 = p by omega] at e
      rw [g2]
      exact e.symm
    · omega
theorem CT_addR {G : Rg} {a b : Nat} (h : CT G) (h6 : cntR G.2.1 (G.1.length - 1) < 6) : CT (addR a b G) := by
  have e : ∀ p, cntR (addR a b G).2.1 p = cntR G.2.1 p + if G.1.length - 1 = p then 1 else 0 := fun p => cntR_app _ _ _
  refine ⟨fun p => ?_, fun p y y' h1 h2 => ?_⟩
  · rw [e]
    have := h.1 p
    by_cases hp : G.1.length - 1 = p
    · rw [if_pos hp]; subst hp; omega
    · rw [if_neg hp]; omega
  · have h1 : G.1[p]? = some y := h1
    have h2 : G.1[p + 1]? = some y' := h2
    rw [e, if_neg (by have := get_lt h2; omega)]
    exact h.2 p y y' h1 h2
theorem CT_same {G G' : Rg} (h : CT G) (h1 : G'.1 = G.1) (h2 : G'.2.1 = G.2.1) : CT G' := by
  unfold CT
  rw [h1, h2]
  exact h
theorem pCon_T {k : Nat} {l l' : List Tok} {G G' : Rg} (h : pCon k l G = .inr (l', G')) : G'.1 = G.1 ∧ G'.2.1 = G.2.1 := by
  unfold pCon at h
  split at h
  · split at h
    · cases h
      exact ⟨rfl, rfl⟩
    · cases h
  · cases h
theorem pLinks_T : ∀ (d : Nat) (l : List Tok) (G : Rg) (l' : List Tok) (G' : Rg), pLinks d l G = .inr (l', G') → G'.1 = G.1 ∧ G'.2.1 = G.2.1 := by
  intro d
  induction d with
  | zero =>
    intro l G l' G' h
    rw [pLinks] at h
    split at h
    · cases h
    · cases h
      exact ⟨rfl, rfl⟩
  | succ d ih =>
    intro l G l' G' h
    rw [pLinks] at h
    split at h
    · obtain ⟨l1, G1, h1, h2⟩ := bnR_inr h
      have a := pCon_T h1
      have b := ih _ _ _ _ h2
      exact ⟨b.1.trans a.1, b.2.trans a.2⟩
    · cases h
      exact ⟨rfl, rfl⟩
theorem pRels_T {T : Nat → Nat} : ∀ (d : Nat) (l : List Tok) (G : Rg) (l' : List Tok) (G' : Rg), CT G → cntR G.2.1 (G.1.length - 1) + d ≤ 6 → pRels T d l G = .inr (l', G') → CT G' := by
  intro d
  induction d with
  | zero =>
    intro l G l' G' hC _ h
    rw [pRels] at h
    split at h
    · cases h
    · cases h
      exact hC
  | succ d ih =>
    intro l G l' G' hC h6 h
    rw [pRels] at h
    split at h
    · split at h
      · cases h
      · obtain ⟨l1, G1, h1, h2⟩ := bnR_inr h
        obtain ⟨_, h4⟩ := pExp_inr h2
        obtain ⟨a1, a2⟩ := pLinks_T _ _ _ _ _ h1
        have al := addR_len (a := pl0 0 l) (b := en0 0 l) (G := G)
        have ap : (addR (pl0 0 l) (en0 0 l) G).1 = G.1 := rfl
        refine ih _ _ _ _ (CT_same (CT_addR hC (by omega)) a1 a2) ?_ h4
        rw [a1, a2, ap, al.2]
        omega
    · cases h
      exact hC
theorem pPacks_T {T : Nat → Nat} {n : Nat} : ∀ (d : Nat) (l : List Tok) (G : Rg) (l' : List Tok) (G' : Rg), Sfx (tl T n 0) l → GW T n G → lnkN G.2.2 = G.2.2.length → G.2.1.length ≤ 6 * G.1.length → G.2.2.length ≤ 4 * G.2.1.length → CT G → pPacks T d l G = .inr (l', G') → CT G' := by
  intro d
  induction d with
  | zero =>
    intro l G l' G' _ _ _ _ _ hC h
    rw [pPacks] at h
    split at h
    · cases h
    · cases h
      exact hC
  | succ d ih =>
    intro l G l' G' hs hG hl h6 h4 hC h
    rw [pPacks] at h
    split at h
    · split at h
      · split at h
        · cases h
        · obtain ⟨_, h2⟩ := pExp_inr h
          obtain ⟨l1, G1, h3, h5⟩ := bnR_inr h2
          obtain ⟨_, h7⟩ := pExp_inr h5
          rename_i hk2 _
          have tn := tok_name hs.tail (by omega)
          have gw := GW_addP (a := pl0 0 l.tail) (b := en0 0 l.tail) hG (by omega) tn.2.2.2
          have pl : (addP (pl0 0 l.tail) (en0 0 l.tail) G).1.length = G.1.length + 1 := by
            show (G.1 ++ [_]).length = _
            rw [List.length_append, List.length_singleton]
          have pne : (addP (pl0 0 l.tail) (en0 0 l.tail) G).1 ≠ [] := by
            intro e
            rw [e] at pl
            simp at pl
          have hz : cntR (addP (pl0 0 l.tail) (en0 0 l.tail) G).2.1 ((addP (pl0 0 l.tail) (en0 0 l.tail) G).1.length - 1) = 0 := by
            rw [pl, Nat.add_sub_cancel]
            exact cntR_zero hG.1.1
          have c1 := CT_addP (a := pl0 0 l.tail) (b := en0 0 l.tail) hC hG.1
          have c2 := pRels_T 6 _ _ _ _ c1 (by omega) h3
          obtain ⟨w1, w2, w3, w4, w5, w6⟩ := pRels_W 6 _ _ _ _ hs.tail.tail.tail gw hl pne h4 h3
          have w4l := congrArg List.length w4
          have pr : (addP (pl0 0 l.tail) (en0 0 l.tail) G).2.1 = G.2.1 := rfl
          rw [pr] at w5
          exact ih _ _ _ _ w1.tail w2 w3 (by omega) w6 c2 h7
      · cases h
    · cases h
      exact hC
theorem pWants_T : ∀ (d : Nat) (l : List Tok) (G : Rg) (l' : List Tok) (G' : Rg), pWants d l G = .inr (l', G') → G'.1 = G.1 ∧ G'.2.1 = G.2.1 := by
  intro d
  induction d with
  | zero =>
    intro l G l' G' h
    rw [pWants] at h
    split at h
    · cases h
    · cases h
      exact ⟨rfl, rfl⟩
  | succ d ih =>
    intro l G l' G' h
    rw [pWants] at h
    split at h
    · obtain ⟨l1, G1, h1, h2⟩ := bnR_inr h
      obtain ⟨_, h3⟩ := pExp_inr h2
      have a := pCon_T h1
      have b := ih _ _ _ _ h3
      exact ⟨b.1.trans a.1, b.2.trans a.2⟩
    · cases h
      exact ⟨rfl, rfl⟩
theorem pAll_T {T : Nat → Nat} {n : Nat} {l' : List Tok} {G' : Rg} (h : pAll T (tl T n 0) = .inr (l', G')) : CT G' := by
  unfold pAll at h
  obtain ⟨l1, G1, h1, h2⟩ := bnR_inr h
  obtain ⟨l2, G2, h3, h4⟩ := bnR_inr h2
  have c1 := pPacks_T 10 _ _ _ _ ⟨0, rfl⟩ (GW_nil T n) rfl (Nat.zero_le _) (Nat.zero_le _) CT_nil h1
  obtain ⟨a, b⟩ := pWants_T _ _ _ _ _ h3
  split at h4
  · cases h4
    exact CT_same c1 a b
  · cases h4
/-- a registry that may be held -/
def RO (T : Nat → Nat) (n : Nat) (G : Rg) : Prop := GW T n G ∧ BGd G ∧ unk T G = none ∧ CT G ∧ n ≤ 2000 ∧ ∀ j, j < n → T j < 256
theorem RO_nil (T : Nat → Nat) : RO T 0 ([], ([], [])) := ⟨GW_nil T 0, ⟨by simp, by simp, by simp⟩, rfl, CT_nil, by omega, fun j hj => by omega⟩
theorem RO_of {T : Nat → Nat} {n : Nat} {l : List Tok} {G : Rg} (h : pAll T (tl T n 0) = .inr (l, G)) (hu : unk T G = none) (hn : n ≤ 2000) (hT : ∀ j, j < n → T j < 256) : RO T n G := ⟨(pAll_W h).1, (pAll_W h).2.1, hu, pAll_T h, hn, hT⟩
/-- every target is there -/
theorem unk_fnd {T : Nat → Nat} {G : Rg} (h : unk T G = none) {x : CnT} (hx : x ∈ G.2.2) : fnd T G.1 x.2.2.1.1 x.2.2.1.2 = some (tgt T G x) ∧ tgt T G x < G.1.length := by
  have := List.find?_eq_none.mp h x hx
  unfold tgt
  cases hf : fnd T G.1 x.2.2.1.1 x.2.2.1.2 with
  | none => rw [hf] at this; simp at this
  | some p => exact ⟨rfl, fnd_lt hf⟩
theorem fr_le {T : Nat → Nat} {n : Nat} {G : Rg} (h : RO T n G) {p : Nat} (hp : p < G.1.length) : fr G p + cntR G.2.1 p ≤ G.2.1.length := by
  have hy : G.1[p]? = some G.1[p] := List.getElem?_eq_getElem hp
  rw [fr_get hy]
  exact (h.1.1.2.1 p _ hy).1
/-- the range of a constraint, and whether release k of its target is in it -/
def rgC (T : Nat → Nat) (x : CnT) : List Row := rgo (cP T) x.2.2.2 LE EN []
def wi (T : Nat → Nat) (G : Rg) (x : CnT) (k : Nat) : Bool := decide (k < cntR G.2.1 (tgt T G x)) && par (rgC T x) (rvR T G.2.1 (fr G (tgt T G x) + k))
theorem drop_get {α : Type} {l : List α} {k : Nat} {x : α} (h : l[k]? = some x) : l.drop k = x :: l.drop (k + 1) := by
  obtain ⟨hk, e⟩ := List.getElem?_eq_some_iff.mp h
  rw [List.drop_eq_getElem_cons hk, e]
theorem get_some {α : Type} {l : List α} {k : Nat} (h : k < l.length) : ∃ x, l[k]? = some x := ⟨l[k], List.getElem?_eq_getElem h⟩
