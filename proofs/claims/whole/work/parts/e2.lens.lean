/-! How long the texts of a registry are. -/
theorem tk_2 {T : Nat → Nat} {n p : Nat} (h : (tk T n p).1 = 2) : (tk T n p).2 ≤ p + 12 := by
  unfold tk at h ⊢
  split
  · next h1 =>
    rw [if_pos h1] at h
    split
    · show p + _ ≤ p + 12
      omega
    · next h2 =>
      rw [if_neg h2] at h
      cases h
  · next h1 =>
    rw [if_neg h1] at h
    exfalso
    split at h
    · split at h <;> cases h
    · split at h
      · cases h
      · split at h
        · cases h
        · split at h
          · cases h
          · split at h
            · cases h
            · unfold tkP at h
              split at h
              · cases h
              · split at h <;> cases h
/-- names have twelve signs at most -/
def NmL (G : Rg) : Prop := ∀ x ∈ G.1, x.2.1 ≤ x.1 + 12
theorem tok_12 {T : Nat → Nat} {n : Nat} {l : List Tok} (hs : Sfx (tl T n 0) l) (h2 : kd0 l = 2) : en0 0 l ≤ pl0 0 l + 12 := by
  obtain ⟨x, r, rfl⟩ := kd0_ne (l := l) (by omega)
  have hm := tl_mem n 0 (by omega) x (hs.mem List.mem_cons_self)
  have h2 : x.1 = 2 := h2
  rw [hm.2.2.1] at h2
  show x.2.2 ≤ x.2.1 + 12
  rw [hm.2.2.2.1]
  exact tk_2 h2
theorem pRels_P {T : Nat → Nat} : ∀ (d : Nat) (l : List Tok) (G : Rg) (l' : List Tok) (G' : Rg), pRels T d l G = .inr (l', G') → G'.1 = G.1 := by
  intro d
  induction d with
  | zero =>
    intro l G l' G' h
    rw [pRels] at h
    split at h
    · cases h
    · cases h
      rfl
  | succ d ih =>
    intro l G l' G' h
    rw [pRels] at h
    split at h
    · split at h
      · cases h
      · obtain ⟨l1, G1, h1, h2⟩ := bnR_inr h
        obtain ⟨_, h4⟩ := pExp_inr h2
        obtain ⟨a1, a2⟩ := pLinks_T _ _ _ _ _ h1
        have ap : (addR (pl0 0 l) (en0 0 l) G).1 = G.1 := rfl
        rw [ih _ _ _ _ h4, a1, ap]
    · cases h
      rfl
theorem pPacks_L {T : Nat → Nat} {n : Nat} : ∀ (d : Nat) (l : List Tok) (G : Rg) (l' : List Tok) (G' : Rg), Sfx (tl T n 0) l → NmL G → pPacks T d l G = .inr (l', G') → NmL G' := by
  intro d
  induction d with
  | zero =>
    intro l G l' G' _ hN h
    rw [pPacks] at h
    split at h
    · cases h
    · cases h
      exact hN
  | succ d ih =>
    intro l G l' G' hs hN h
    rw [pPacks] at h
    split at h
    · split at h
      · split at h
        · cases h
        · obtain ⟨_, h2⟩ := pExp_inr h
          obtain ⟨l1, G1, h3, h5⟩ := bnR_inr h2
          obtain ⟨_, h7⟩ := pExp_inr h5
          rename_i hk2 _
          have hE := pRels_EO (T := T) 6 l.tail.tail.tail (addP (pl0 0 l.tail) (en0 0 l.tail) G) hs.tail.tail.tail
          rw [h3] at hE
          have hE : Sfx (tl T n 0) l1 := hE
          refine ih _ _ _ _ hE.tail (fun x hx => ?_) h7
          rw [pRels_P _ _ _ _ _ h3] at hx
          rcases List.mem_append.mp hx with hx | hx
          · exact hN x hx
          · rw [List.mem_singleton.mp hx]
            exact tok_12 hs.tail (by assumption)
      · cases h
    · cases h
      exact hN
theorem pAll_L {T : Nat → Nat} {n : Nat} {l : List Tok} {G : Rg} (h : pAll T (tl T n 0) = .inr (l, G)) : NmL G := by
  unfold pAll at h
  obtain ⟨l1, G1, h1, h2⟩ := bnR_inr h
  obtain ⟨l2, G2, h3, h4⟩ := bnR_inr h2
  have hN := pPacks_L 10 _ _ _ _ ⟨0, rfl⟩ (fun x hx => by cases hx) h1
  have hw := (pWants_T 10 _ _ _ _ h3).1
  split at h4
  · cases h4
    intro x hx
    rw [hw] at hx
    exact hN x hx
  · cases h4
theorem nwR_L {T : Nat → Nat} {n : Nat} {G : Rg} (h : nwR T n = some G) : NmL G := by
  unfold nwR at h
  split at h
  · cases h
  · next h1 =>
    split at h
    · cases h
      exact pAll_L h1
    · cases h
/-- the name of a constraint's target is as long -/
theorem con_12 {T : Nat → Nat} {n : Nat} {G : Rg} (hO : RO T n G) (hN : NmL G) {c : Nat} {x : CnT} (hx : G.2.2[c]? = some x) : x.2.2.1.2 ≤ x.2.2.1.1 + 12 := by
  have hm := List.mem_of_getElem? hx
  obtain ⟨h1, h2⟩ := unk_fnd hO.2.2.1 hm
  unfold fnd at h1
  obtain ⟨y, hy⟩ := get_some h2
  obtain ⟨hlt, he, _⟩ := List.findIdx?_eq_some_iff_getElem.mp h1
  have e1 : G.1[tgt T G x]'hlt = y := by
    have := List.getElem?_eq_getElem hlt
    rw [hy] at this
    exact (Option.some.inj this).symm
  rw [e1] at he
  unfold nmE at he
  have h3 := of_decide_eq_true (Bool.and_eq_true_iff.mp he).1
  have h4 := hN y (List.mem_of_getElem? hy)
  have h5 := (hO.1.2.2.2.1 x hm).2.1
  omega
theorem nmb_len {T : Nat → Nat} {e p : Nat} {w : Nat × Nat} (h : nmb T e p = some w) : p < e ∧ w.2 ≤ p + 9 := by
  unfold nmb at h
  split at h
  · cases h
  · next h1 =>
    cases h
    refine ⟨?_, by show p + _ ≤ p + 9; omega⟩
    have := (run_all (f := dg) (T := T) (e := e) 10 p 0 (by omega)).1
    omega
theorem ntl_len {T : Nat → Nat} {e : Nat} : ∀ d q (w : List Nat × Nat), ntl T e d q = some w → w.2 ≤ q + 10 * d := by
  intro d
  induction d with
  | zero => intro q w h; rw [ntl] at h; cases h; exact Nat.le_refl _
  | succ d ih =>
    intro q w h
    rw [ntl] at h
    split at h
    · cases hn : nmb T e (q + 1) with
      | none => rw [hn] at h; cases h
      | some u =>
        rw [hn, Option.bind_some] at h
        cases hr : ntl T e d u.2 with
        | none => rw [hr] at h; cases h
        | some r =>
          rw [hr] at h
          cases h
          have := ih _ r hr
          have := (nmb_len hn).2
          show r.2 ≤ _
          omega
    · cases h
      show q ≤ _
      omega
theorem ids_len {T : Nat → Nat} {e : Nat} {c : Bool} : ∀ d p (r : List Nat × Nat), ids T e c d p = some r → r.2 + 1 ≤ p + 9 * d := by
  intro d
  induction d with
  | zero => intro p r h; rw [ids] at h; cases h
  | succ d ih =>
    intro p r h
    rw [ids] at h
    cases hi : idn T e c p with
    | none => rw [hi] at h; cases h
    | some w =>
      rw [hi, Option.bind_some] at h
      have hw : w.2 ≤ p + 8 := by
        unfold idn at hi
        split at hi
        · cases hi
        · next h1 =>
          split at hi
          · split at hi
            · cases hi
            · cases hi
              show p + _ ≤ p + 8
              omega
          · cases hi
            show p + _ ≤ p + 8
            omega
      split at h
      · cases hr : ids T e c d (w.2 + 1) with
        | none => rw [hr] at h; cases h
        | some r' =>
          rw [hr] at h
          cases h
          have := ih _ r' hr
          show r'.2 + 1 ≤ _
          omega
      · cases h
        show w.2 + 1 ≤ _
        omega
/-- a whole version has 101 signs at most -/
theorem rdv_len {T : Nat → Nat} {a e : Nat} {ns is : List Nat} (h : rdv T a e = some (2, (ns, is))) : a < e ∧ e ≤ a + 101 := by
  unfold rdv at h
  cases hn : nums T e a with
  | none => rw [hn] at h; cases h
  | some w =>
    rw [hn, Option.bind_some] at h
    unfold nums at hn
    cases hb : nmb T e a with
    | none => rw [hb] at hn; cases hn
    | some u =>
      rw [hb, Option.bind_some] at hn
      have hu := nmb_len hb
      refine ⟨hu.1, ?_⟩
      have hw : w.2 ≤ a + 29 := by
        cases hr : ntl T e 2 u.2 with
        | none => rw [hr] at hn; cases hn
        | some r =>
          rw [hr] at hn
          cases hn
          have := ntl_len 2 _ r hr
          show r.2 ≤ _
          omega
      split at h
      · have hi : ∀ i : List Nat × Nat, (if atE (fun x => decide (x = 45)) T e w.2 = true then ids T e true 4 (w.2 + 1) else some ([], w.2)) = some i → i.2 ≤ a + 65 := fun i hi => by
          split at hi
          · have := ids_len 4 _ i hi
            omega
          · cases hi
            show w.2 ≤ _
            omega
        cases hi2 : (if atE (fun x => decide (x = 45)) T e w.2 = true then ids T e true 4 (w.2 + 1) else some ([], w.2)) with
        | none => rw [hi2] at h; cases h
        | some i =>
          rw [hi2, Option.bind_some] at h
          have h65 := hi i hi2
          have hq : ∀ q : Nat, (if atE (fun x => decide (x = 43)) T e i.2 = true then (ids T e false 4 (i.2 + 1)).map (fun z => z.2) else some i.2) = some q → q ≤ a + 101 := fun q hq => by
            split at hq
            · cases hz : ids T e false 4 (i.2 + 1) with
              | none => rw [hz] at hq; cases hq
              | some z =>
                rw [hz] at hq
                cases hq
                have := ids_len 4 _ z hz
                show z.2 ≤ _
                omega
            · cases hq
              omega
          cases hq2 : (if atE (fun x => decide (x = 43)) T e i.2 = true then (ids T e false 4 (i.2 + 1)).map (fun z => z.2) else some i.2) with
          | none => rw [hq2] at h; cases h
          | some q =>
            rw [hq2, Option.bind_some] at h
            have := hq q hq2
            split at h
            · omega
            · cases h
      · split at h
        · cases h
        · cases h
theorem rdv_in {T : Nat → Nat} {a e f : Nat} {ns is : List Nat} (h : rdv T a e = some (f, (ns, is))) : a < e := by
  unfold rdv at h
  cases hn : nums T e a with
  | none => rw [hn] at h; cases h
  | some w =>
    unfold nums at hn
    cases hb : nmb T e a with
    | none => rw [hb] at hn; cases hn
    | some u => exact (nmb_len hb).1
theorem rdv_both {T : Nat → Nat} {n a e f : Nat} {ns is : List Nat} (hT : ∀ j, j < n → T j < 256) (hn : n ≤ 2000) (he : e ≤ n) (h : rdv T a e = some (f, (ns, is))) : VW f ns is ∧ ∀ w ∈ is, okw w := ⟨rdv_VW hT hn he (Nat.le_of_lt (rdv_in h)) h, rdv_ok (fun j hj => hT j (by omega)) h⟩
theorem tl_e {T : Nat → Nat} {n p : Nat} {x : Tok} (hx : x ∈ tl T n p) : x.2.2 ≤ n := by
  have hm := tl_mem (n - p) p (Nat.le_refl _) x hx
  rw [hm.2.2.2.1]
  exact (tk_gt hm.2.1).2
theorem rng_BW {T : Nat → Nat} {n : Nat} (hT : ∀ j, j < n → T j < 256) (hn : n ≤ 2000) : BVs (rgo (tP T n) (tl T n 0) LE EN []) :=
  rgo_BV _ _ _ _ (fun x hx _ => prt_BV (fun f ns is h => rdv_both hT hn (tl_e hx) h)) BV_LE BV_EN (fun x hx => by cases hx)
theorem rgC_BW {T : Nat → Nat} {n : Nat} {G : Rg} (hO : RO T n G) {c : Nat} {x : CnT} (hx : G.2.2[c]? = some x) : BVs (rgC T x) := by
  have hk := (hO.1.2.2.2.1 x (List.mem_of_getElem? hx)).2.2.2
  obtain ⟨_, _, p, rest, hp⟩ := hk
  unfold rgC
  refine rgo_BV _ _ _ _ (fun y hy _ => ?_) BV_LE BV_EN (fun x hx => by cases hx)
  have hm : y ∈ tl T n p := by rw [hp]; exact List.mem_append_left _ hy
  exact prt_BV (fun f ns is h => rdv_both hO.2.2.2.2.2 hO.2.2.2.2.1 (tl_e hm) h)
theorem spRange_BW {T : Nat → Nat} {f : Nat} {S : Nat → List Row} {k n : Int32} (hS : BSl S) (hT : ∀ j, j < f → T j < 256) (hf : f ≤ 2000) : BSl (spRange T f S k n).2.2 := by
  unfold spRange
  split
  · next h =>
    split
    · exact hS
    · split
      · exact hS
      · intro j hj
        simp only
        split
        · rcases tap_cases n hf with h1 | ⟨i, hi, rfl⟩
          · exact absurd h1 h.2
          · rw [ix_nI (by omega)]
            exact rng_BW (fun j hj => hT j (by omega)) (by omega)
        · exact hS j hj
  · exact hS
theorem spComb_BW {S : Nat → List Row} {h a b c : Int32} (hS : BSl S) : BSl (spComb S h a b c).2 := by
  unfold spComb
  split
  · next hc =>
    split
    · intro j hj
      simp only
      split
      · have hab := Bool.and_eq_true_iff.mp hc
        have hb := (Bool.and_eq_true_iff.mp hab.2).1
        have ha := hab.1
        refine jo_BV ?_ ?_
        · rcases sOk_cases a with ⟨e, _⟩ | ⟨k, hk, rfl, _⟩
          · rw [e] at ha; cases ha
          · rw [ix_nI (by omega)]; exact hS k hk
        · rcases sOk_cases b with ⟨e, _⟩ | ⟨k, hk, rfl, _⟩
          · rw [e] at hb; cases hb
          · rw [ix_nI (by omega)]; exact hS k hk
      · exact hS j hj
    · exact hS
  · exact hS
