/-! What holds of a registry that was read. -/
/-- a part of the tokens, at its end -/
def Sfx (L l : List Tok) : Prop := ∃ i, L.drop i = l
theorem Sfx.tail {L l : List Tok} (h : Sfx L l) : Sfx L l.tail := by
  obtain ⟨i, hi⟩ := h
  exact ⟨i + 1, (kd0_drop hi).symm⟩
theorem Sfx.drop {L l : List Tok} (h : Sfx L l) (j : Nat) : Sfx L (l.drop j) := by
  obtain ⟨i, hi⟩ := h
  exact ⟨i + j, by rw [← hi, List.drop_drop]⟩
theorem Sfx.mem {L l : List Tok} (h : Sfx L l) {x : Tok} (hx : x ∈ l) : x ∈ L := by
  obtain ⟨i, hi⟩ := h
  exact List.mem_of_mem_drop (by rw [hi]; exact hx)
/-- tokens of a range, as they stand in the text -/
def TkO (T : Nat → Nat) (n : Nat) (ts : List Tok) : Prop := chk ts 1 0 = (0, ts.length) ∧ ts ≠ [] ∧ ∃ p rest, tl T n p = ts ++ rest
def GC (T : Nat → Nat) (n : Nat) (z : CnT) : Prop := (z.1 = 4 ∨ z.1 = 5 ∨ z.1 = 6) ∧ z.2.2.1.1 ≤ z.2.2.1.2 ∧ z.2.2.1.2 ≤ n ∧ TkO T n z.2.2.2
def GR (T : Nat → Nat) (n : Nat) (x : RlT) : Prop := x.2.1 < x.2.2.1 ∧ x.2.2.1 ≤ n ∧ ∃ ns is, rdv T x.2.1 x.2.2.1 = some (2, (ns, is))
def GW (T : Nat → Nat) (n : Nat) (G : Rg) : Prop := IW G ∧ NP n G.1 ∧ (∀ x ∈ G.2.1, GR T n x) ∧ (∀ z ∈ G.2.2, GC T n z) ∧ (∀ (r s : Nat) (x y : RlT), G.2.1[r]? = some x → G.2.1[s]? = some y → r < s → x.1 = y.1 → cmpL (rwv T x.2.1 x.2.2.1) (rwv T y.2.1 y.2.2.1) ≠ 0)
theorem GW_nil (T : Nat → Nat) (n : Nat) : GW T n ([], ([], [])) := ⟨IW_nil, fun x hx => (by cases hx), fun x hx => (by cases hx), fun x hx => (by cases hx), fun r s x y h => by simp at h⟩
theorem GW_addP {T : Nat → Nat} {n a b : Nat} {G : Rg} (h : GW T n G) (hab : a ≤ b) (hb : b ≤ n) : GW T n (addP a b G) := by
  obtain ⟨h1, h2, h3, h4, h5⟩ := h
  refine ⟨IW_addP h1, fun x hx => ?_, h3, h4, h5⟩
  rcases List.mem_append.mp hx with hx | hx
  · exact h2 x hx
  · rw [List.mem_singleton.mp hx]
    exact ⟨hab, hb⟩
theorem GW_addR {T : Nat → Nat} {n a b : Nat} {G : Rg} (h : GW T n G) (hi : lnkN G.2.2 = G.2.2.length) (hP : G.1 ≠ []) (hg : GR T n (G.1.length - 1, (a, (b, G.2.2.length)))) (hd : dupR T G a b = false) : GW T n (addR a b G) ∧ IL (addR a b G) := by
  obtain ⟨h1, h2, h3, h4, h5⟩ := h
  obtain ⟨i1, i2⟩ := IW_addR (a := a) (b := b) h1 hi hP
  refine ⟨⟨i1, h2, fun x hx => ?_, h4, fun r s x y hr hs hrs hxy => ?_⟩, i2⟩
  · rcases List.mem_append.mp hx with hx | hx
    · exact h3 x hx
    · rw [List.mem_singleton.mp hx]
      exact hg
  · rcases app_get hs with ⟨j1, hs⟩ | ⟨j1, hs⟩
    · rcases app_get hr with ⟨j2, hr⟩ | ⟨j2, _⟩
      · exact h5 r s x y hr hs hrs hxy
      · omega
    · rcases app_get hr with ⟨j2, hr⟩ | ⟨j2, _⟩
      · rw [hs] at hxy ⊢
        intro e
        have : dupR T G a b = true := by
          unfold dupR
          rw [List.any_eq_true]
          refine ⟨x, List.mem_of_getElem? hr, ?_⟩
          rw [Bool.and_eq_true, decide_eq_true_eq, decide_eq_true_eq]
          exact ⟨hxy, e⟩
        rw [hd] at this
        cases this
      · omega
theorem GW_addC {T : Nat → Nat} {n k a b : Nat} {ts : List Tok} {G : Rg} (h : GW T n G) (hI : k ≠ 4 → IL G) (hR : k ≠ 4 → G.2.1 ≠ []) (hg : GC T n (k, (G.2.1.length - 1, ((a, b), ts)))) : GW T n (addC k a b ts G) ∧ (k ≠ 4 → IL (addC k a b ts G)) := by
  obtain ⟨h1, h2, h3, h4, h5⟩ := h
  obtain ⟨i1, i2⟩ := IW_addC (k := k) (a := a) (b := b) (ts := ts) h1 hI hR
  refine ⟨⟨i1, h2, h3, fun x hx => ?_, h5⟩, i2⟩
  rcases List.mem_append.mp hx with hx | hx
  · exact h4 x hx
  · rw [List.mem_singleton.mp hx]
    exact hg
theorem chk_pos {l : List Tok} (h : (chk l 1 0).1 = 0) : 1 ≤ (chk l 1 0).2 := by
  cases l with
  | nil => rw [chk] at h; cases h
  | cons x l =>
    rw [chk] at h ⊢
    by_cases hP : isP x.1 = true
    · rw [if_pos hP] at h ⊢
      by_cases hc : 6 < 0 + 1 ∨ 16 < 1
      · rw [if_pos hc] at h; cases h
      · rw [if_neg hc] at h ⊢
        show 1 ≤ _ + 1
        omega
    · rw [if_neg hP] at h ⊢
      rw [if_neg (by omega)] at h
      cases h
theorem tl_sub {T : Nat → Nat} {n : Nat} : ∀ i, ∃ p, (tl T n 0).drop i = tl T n p := by
  intro i
  induction i with
  | zero => exact ⟨0, rfl⟩
  | succ i ih =>
    obtain ⟨p, hp⟩ := ih
    cases h : tl T n p with
    | nil =>
      refine ⟨p, ?_⟩
      rw [← List.drop_drop, hp, h]
      rfl
    | cons x r =>
      refine ⟨x.2.2, ?_⟩
      rw [← List.drop_drop, hp, h, ← tl_tail h]
      rfl
/-- a name's token, a version's token -/
theorem tok_name {T : Nat → Nat} {n : Nat} {l : List Tok} (hs : Sfx (tl T n 0) l) (hk : kd0 l ≠ 0) : pl0 0 l = pl0 n l ∧ en0 0 l = en0 n l ∧ pl0 0 l < en0 0 l ∧ en0 0 l ≤ n := by
  obtain ⟨x, r, rfl⟩ := kd0_ne hk
  have hx := hs.mem (List.mem_cons_self)
  obtain ⟨h1, h2, h3, h4, h5⟩ := tl_mem (n - 0) 0 (Nat.le_refl _) x hx
  have g := tk_gt (T := T) h2
  rw [← h4] at g
  exact ⟨rfl, rfl, g.1, g.2⟩
theorem tok_ver {T : Nat → Nat} {n : Nat} {l : List Tok} (hs : Sfx (tl T n 0) l) (hk : kd0 l = 8) : ∃ ns is, rdv T (pl0 0 l) (en0 0 l) = some (2, (ns, is)) := by
  obtain ⟨x, r, rfl⟩ := kd0_ne (l := l) (by omega)
  have hx := hs.mem (List.mem_cons_self)
  have hk : x.1 = 8 := hk
  have hv := (tl_tokR hx (by rw [hk]; rfl)).2.2.2.2.2.2
  rcases hv with h | ⟨f, ns, is, h, h8⟩
  · exfalso
    obtain ⟨z1, z2, z3, z4, z5⟩ := tl_mem (n - 0) 0 (Nat.le_refl _) x hx
    have : tk T n x.2.1 = (7, x.2.1 + 1) := by
      unfold tk
      have hs : sml (T x.2.1) = false := by rw [h]; decide
      rw [hs, if_neg fNt, if_neg (by omega), if_neg (by omega), if_neg (by omega), if_neg (by omega), if_pos h]
    rw [this] at z3
    have z3 : x.1 = 7 := z3
    omega
  · obtain ⟨hf, ho⟩ := h8.mp hk
    rw [ho, Nat.add_zero, hf] at h
    exact ⟨ns, is, h⟩
theorem tok_ts {T : Nat → Nat} {n : Nat} {l : List Tok} (hs : Sfx (tl T n 0) l) (h : (chk l 1 0).1 = 0) : TkO T n (l.take (chk l 1 0).2) := by
  refine ⟨chk_pre l 1 0 h, ?_, ?_⟩
  · have h1 := chk_pos h
    have h2 := chk_le l 1 0
    intro e
    have := congrArg List.length e
    rw [List.length_take] at this
    simp only [List.length_nil] at this
    omega
  · obtain ⟨i, hi⟩ := hs
    obtain ⟨p, hp⟩ := tl_sub (T := T) (n := n) i
    exact ⟨p, l.drop (chk l 1 0).2, by rw [← hp, hi, List.take_append_drop]⟩
theorem pCon_W {T : Nat → Nat} {n k : Nat} {l l' : List Tok} {G G' : Rg} (hs : Sfx (tl T n 0) l) (hG : GW T n G) (hk : k = 4 ∨ k = 5 ∨ k = 6) (hI : k ≠ 4 → IL G) (hR : k ≠ 4 → G.2.1 ≠ []) (h : pCon k l G = .inr (l', G')) : Sfx (tl T n 0) l' ∧ GW T n G' ∧ (k ≠ 4 → IL G') ∧ G'.1 = G.1 ∧ G'.2.1 = G.2.1 ∧ G'.2.2.length = G.2.2.length + 1 := by
  unfold pCon at h
  by_cases h2 : kd0 l = 2
  · rw [if_pos h2] at h
    by_cases hc : (chk l.tail 1 0).1 = 0
    · rw [if_pos hc] at h
      have h := Sum.inr.inj h
      have e1 : l.tail.drop (chk l.tail 1 0).2 = l' := congrArg (fun z => z.1) h
      have e2 : addC k (pl0 0 l) (en0 0 l) (l.tail.take (chk l.tail 1 0).2) G = G' := congrArg (fun z => z.2) h
      have tn := tok_name hs (by omega)
      obtain ⟨g1, g2⟩ := GW_addC (k := k) (a := pl0 0 l) (b := en0 0 l) (ts := l.tail.take (chk l.tail 1 0).2) hG hI hR ⟨hk, by show pl0 0 l ≤ en0 0 l; omega, tn.2.2.2, tok_ts hs.tail hc⟩
      rw [← e1, ← e2]
      refine ⟨hs.tail.drop _, g1, g2, rfl, rfl, ?_⟩
      show (G.2.2 ++ [_]).length = _
      rw [List.length_append, List.length_singleton]
    · rw [if_neg hc] at h
      cases h
  · rw [if_neg h2] at h
    cases h
theorem bnR_inr {r : RgS} {f : List Tok → Rg → RgS} {w : List Tok × Rg} (h : bnR r f = .inr w) : ∃ l G, r = .inr (l, G) ∧ f l G = .inr w := by
  cases r with
  | inl e => cases h
  | inr z => exact ⟨z.1, z.2, rfl, h⟩
theorem pExp_inr {k : Nat} {l : List Tok} {f : List Tok → RgS} {w : List Tok × Rg} (h : pExp k l f = .inr w) : kd0 l = k ∧ f l.tail = .inr w := by
  unfold pExp at h
  by_cases hk : kd0 l = k
  · rw [if_pos hk] at h; exact ⟨hk, h⟩
  · rw [if_neg hk] at h; cases h
theorem pLinks_W {T : Nat → Nat} {n : Nat} : ∀ (d : Nat) (l : List Tok) (G : Rg) (l' : List Tok) (G' : Rg), Sfx (tl T n 0) l → GW T n G → IL G → G.2.1 ≠ [] → pLinks d l G = .inr (l', G') → Sfx (tl T n 0) l' ∧ GW T n G' ∧ IL G' ∧ G'.1 = G.1 ∧ G'.2.1 = G.2.1 ∧ G'.2.2.length ≤ G.2.2.length + d := by
  intro d
  induction d with
  | zero =>
    intro l G l' G' hs hG hI hR h
    rw [pLinks] at h
    by_cases hk : kd0 l = 5 ∨ kd0 l = 6
    · rw [if_pos hk] at h; cases h
    · rw [if_neg hk] at h
      have h := Sum.inr.inj h
      have e1 : l = l' := congrArg (fun z => z.1) h
      have e2 : G = G' := congrArg (fun z => z.2) h
      subst e1; subst e2
      exact ⟨hs, hG, hI, rfl, rfl, by omega⟩
  | succ d ih =>
    intro l G l' G' hs hG hI hR h
    rw [pLinks] at h
    by_cases hk : kd0 l = 5 ∨ kd0 l = 6
    · rw [if_pos hk] at h
      obtain ⟨l2, G2, h1, h2⟩ := bnR_inr h
      obtain ⟨a1, a2, a3, a4, a5, a6⟩ := pCon_W hs.tail hG (by omega) (fun _ => hI) (fun _ => hR) h1
      obtain ⟨b1, b2, b3, b4, b5, b6⟩ := ih l2 G2 l' G' a1 a2 (a3 (by omega)) (by rw [a5]; exact hR) h2
      exact ⟨b1, b2, b3, b4.trans a4, b5.trans a5, by omega⟩
    · rw [if_neg hk] at h
      have h := Sum.inr.inj h
      have e1 : l = l' := congrArg (fun z => z.1) h
      have e2 : G = G' := congrArg (fun z => z.2) h
      subst e1; subst e2
      exact ⟨hs, hG, hI, rfl, rfl, by omega⟩
theorem addR_ne {a b : Nat} {G : Rg} : (addR a b G).2.1 ≠ [] := by
  show G.2.1 ++ [_] ≠ []
  simp
theorem addR_len {a b : Nat} {G : Rg} : (addR a b G).2.1.length = G.2.1.length + 1 ∧ cntR (addR a b G).2.1 (G.1.length - 1) = cntR G.2.1 (G.1.length - 1) + 1 := by
  refine ⟨?_, ?_⟩
  · show (G.2.1 ++ [_]).length = _
    rw [List.length_append, List.length_singleton]
  · show cntR (G.2.1 ++ [_]) _ = _
    rw [cntR_app, if_pos rfl]
theorem pRels_W {T : Nat → Nat} {n : Nat} : ∀ (d : Nat) (l : List Tok) (G : Rg) (l' : List Tok) (G' : Rg), Sfx (tl T n 0) l → GW T n G → lnkN G.2.2 = G.2.2.length → G.1 ≠ [] → G.2.2.length ≤ 4 * G.2.1.length → pRels T d l G = .inr (l', G') → Sfx (tl T n 0) l' ∧ GW T n G' ∧ lnkN G'.2.2 = G'.2.2.length ∧ G'.1 = G.1 ∧ G'.2.1.length ≤ G.2.1.length + d ∧ G'.2.2.length ≤ 4 * G'.2.1.length := by
  intro d
  induction d with
  | zero =>
    intro l G l' G' hs hG hI hP hC h
    rw [pRels] at h
    by_cases hk : kd0 l = 8
    · rw [if_pos hk] at h; cases h
    · rw [if_neg hk] at h
      have h := Sum.inr.inj h
      have e1 : l = l' := congrArg (fun z => z.1) h
      have e2 : G = G' := congrArg (fun z => z.2) h
      subst e1; subst e2
      exact ⟨hs, hG, hI, rfl, by omega, hC⟩
  | succ d ih =>
    intro l G l' G' hs hG hI hP hC h
    rw [pRels] at h
    by_cases hk : kd0 l = 8
    · rw [if_pos hk] at h
      by_cases hd : dupR T G (pl0 0 l) (en0 0 l) = true
      · rw [if_pos hd] at h; cases h
      · rw [if_neg hd] at h
        have hd : dupR T G (pl0 0 l) (en0 0 l) = false := by simpa using hd
        obtain ⟨l2, G2, h1, h2⟩ := bnR_inr h
        have tn := tok_name hs (by omega)
        obtain ⟨g1, g2⟩ := GW_addR (a := pl0 0 l) (b := en0 0 l) hG hI hP ⟨tn.2.2.1, tn.2.2.2, tok_ver hs hk⟩ hd
        obtain ⟨a1, a2, a3, a4, a5, a6⟩ := pLinks_W 4 _ _ _ _ hs.tail g1 g2 addR_ne h1
        obtain ⟨k12, h3⟩ := pExp_inr h2
        have al := addR_len (a := pl0 0 l) (b := en0 0 l) (G := G)
        have ac : (addR (pl0 0 l) (en0 0 l) G).2.2 = G.2.2 := rfl
        rw [ac] at a6
        have a5l := congrArg List.length a5
        have a41 : G2.1 = G.1 := a4
        obtain ⟨b1, b2, b3, b4, b5, b6⟩ := ih l2.tail G2 l' G' a1.tail a2 a3.1 (by rw [a41]; exact hP) (by omega) h3
        exact ⟨b1, b2, b3, b4.trans a41, by omega, b6⟩
    · rw [if_neg hk] at h
      have h := Sum.inr.inj h
      have e1 : l = l' := congrArg (fun z => z.1) h
      have e2 : G = G' := congrArg (fun z => z.2) h
      subst e1; subst e2
      exact ⟨hs, hG, hI, rfl, by omega, hC⟩
theorem pPacks_W {T : Nat → Nat} {n : Nat} : ∀ (d : Nat) (l : List Tok) (G : Rg) (l' : List Tok) (G' : Rg), Sfx (tl T n 0) l → GW T n G → lnkN G.2.2 = G.2.2.length → G.2.1.length ≤ 6 * G.1.length → G.2.2.length ≤ 4 * G.2.1.length → pPacks T d l G = .inr (l', G') → Sfx (tl T n 0) l' ∧ GW T n G' ∧ lnkN G'.2.2 = G'.2.2.length ∧ G'.1.length ≤ G.1.length + d ∧ G'.2.1.length ≤ 6 * G'.1.length ∧ G'.2.2.length ≤ 4 * G'.2.1.length := by
  intro d
  induction d with
  | zero =>
    intro l G l' G' hs hG hI hR hC h
    rw [pPacks] at h
    by_cases hk : kd0 l = 3
    · rw [if_pos hk] at h; cases h
    · rw [if_neg hk] at h
      have h := Sum.inr.inj h
      have e1 : l = l' := congrArg (fun z => z.1) h
      have e2 : G = G' := congrArg (fun z => z.2) h
      subst e1; subst e2
      exact ⟨hs, hG, hI, by omega, hR, hC⟩
  | succ d ih =>
    intro l G l' G' hs hG hI hR hC h
    rw [pPacks] at h
    by_cases hk : kd0 l = 3
    · rw [if_pos hk] at h
      by_cases hk2 : kd0 l.tail = 2
      · rw [if_pos hk2] at h
        by_cases hf : (fnd T G.1 (pl0 0 l.tail) (en0 0 l.tail)).isSome = true
        · rw [if_pos hf] at h; cases h
        · rw [if_neg hf] at h
          obtain ⟨k10, h1⟩ := pExp_inr h
          obtain ⟨l3, G3, h2, h3⟩ := bnR_inr h1
          obtain ⟨k11, h4⟩ := pExp_inr h3
          have tn := tok_name hs.tail (by omega)
          have g1 := GW_addP (a := pl0 0 l.tail) (b := en0 0 l.tail) hG (by omega) tn.2.2.2
          have pl : (addP (pl0 0 l.tail) (en0 0 l.tail) G).1.length = G.1.length + 1 := by
            show (G.1 ++ [_]).length = _
            rw [List.length_append, List.length_singleton]
          have pr : (addP (pl0 0 l.tail) (en0 0 l.tail) G).2 = G.2 := rfl
          obtain ⟨a1, a2, a3, a4, a5, a6⟩ := pRels_W 6 _ _ _ _ hs.tail.tail.tail g1 (by rw [pr]; exact hI) (by intro e; rw [e] at pl; simp at pl) (by rw [pr]; exact hC) h2
          rw [pr] at a5
          have a4l := congrArg List.length a4
          obtain ⟨b1, b2, b3, b4, b5, b6⟩ := ih l3.tail G3 l' G' a1.tail a2 a3 (by omega) a6 h4
          exact ⟨b1, b2, b3, by omega, b5, b6⟩
      · rw [if_neg hk2] at h; cases h
    · rw [if_neg hk] at h
      have h := Sum.inr.inj h
      have e1 : l = l' := congrArg (fun z => z.1) h
      have e2 : G = G' := congrArg (fun z => z.2) h
      subst e1; subst e2
      exact ⟨hs, hG, hI, by omega, hR, hC⟩
theorem pWants_W {T : Nat → Nat} {n : Nat} : ∀ (d : Nat) (l : List Tok) (G : Rg) (l' : List Tok) (G' : Rg), Sfx (tl T n 0) l → GW T n G → pWants d l G = .inr (l', G') → Sfx (tl T n 0) l' ∧ GW T n G' ∧ G'.1 = G.1 ∧ G'.2.1 = G.2.1 ∧ G'.2.2.length ≤ G.2.2.length + d := by
  intro d
  induction d with
  | zero =>
    intro l G l' G' hs hG h
    rw [pWants] at h
    by_cases hk : kd0 l = 4
    · rw [if_pos hk] at h; cases h
    · rw [if_neg hk] at h
      have h := Sum.inr.inj h
      have e1 : l = l' := congrArg (fun z => z.1) h
      have e2 : G = G' := congrArg (fun z => z.2) h
      subst e1; subst e2
      exact ⟨hs, hG, rfl, rfl, by omega⟩
  | succ d ih =>
    intro l G l' G' hs hG h
    rw [pWants] at h
    by_cases hk : kd0 l = 4
    · rw [if_pos hk] at h
      obtain ⟨l2, G2, h1, h2⟩ := bnR_inr h
      obtain ⟨k12, h3⟩ := pExp_inr h2
      obtain ⟨a1, a2, a3, a4, a5, a6⟩ := pCon_W hs.tail hG (Or.inl rfl) (fun e => absurd rfl e) (fun e => absurd rfl e) h1
      obtain ⟨b1, b2, b3, b4, b5⟩ := ih l2.tail G2 l' G' a1.tail a2 h3
      exact ⟨b1, b2, b3.trans a4, b4.trans a5, by omega⟩
    · rw [if_neg hk] at h
      have h := Sum.inr.inj h
      have e1 : l = l' := congrArg (fun z => z.1) h
      have e2 : G = G' := congrArg (fun z => z.2) h
      subst e1; subst e2
      exact ⟨hs, hG, rfl, rfl, by omega⟩
theorem pAll_W {T : Nat → Nat} {n : Nat} {l' : List Tok} {G' : Rg} (h : pAll T (tl T n 0) = .inr (l', G')) : GW T n G' ∧ BGd G' ∧ G'.2.1.length ≤ 6 * G'.1.length := by
  unfold pAll at h
  obtain ⟨l2, G2, h1, h2⟩ := bnR_inr h
  obtain ⟨l3, G3, h3, h4⟩ := bnR_inr h2
  obtain ⟨a1, a2, a3, a4, a5, a6⟩ := pPacks_W 10 _ _ _ _ ⟨0, rfl⟩ (GW_nil T n) rfl (by simp) (by simp) h1
  obtain ⟨b1, b2, b3, b4, b5⟩ := pWants_W 10 _ _ _ _ a1 a2 h3
  by_cases hk : kd0 l3 = 0
  · rw [if_pos hk] at h4
    have h4 := Sum.inr.inj h4
    have e2 : G3 = G' := congrArg (fun z => z.2) h4
    subst e2
    have b3l := congrArg List.length b3
    have b4l := congrArg List.length b4
    simp only [List.length_nil] at a4
    exact ⟨b2, ⟨by omega, by omega, by omega⟩, by omega⟩
  · rw [if_neg hk] at h4
    cases h4
