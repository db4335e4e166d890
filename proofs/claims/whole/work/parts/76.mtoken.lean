/-! The reference's token. -/
theorem mpart_tail {m : Mi} {n p s : Nat} {T : Nat → Nat} (h : MT m n T) (hps : p ≤ s) (hsn : s ≤ n) (h17 : gi m 870 17 = nI s) :
    ∃ m', f_X12_part_j116 TT m 870 (nI p) = some m' ∧ KK m m' ∧ gi m' 870 15 = gi m 870 15 ∧ gi m' 870 17 = nI s ∧ gi m' 870 18 = gi m 870 18 ∧
      gi m' 870 14 = nI (mk (tkP T n p s (s + run prs T n (n - s) s)).1) ∧ ((tkP T n p s (s + run prs T n (n - s) s)).1 ≠ 1 → gi m' 870 16 = nI (tkP T n p s (s + run prs T n (n - s) s)).2) := by
  have hn := h.2.2.1
  have hlp : lp (fun x : Int32 => f_X12_part_l121 TT m 870 (nI p) x) FUEL (nI s) = some (nI (s + run prs T n (n - s) s)) := by
    refine run_lpF (f := prs) (T := T) (e := n) (fun i hi => ?_) (by omega) (by omega)
    show f_X12_part_l121 TT m 870 (nI p) (nI i) = _
    unfold f_X12_part_l121
    rw [h.2.1]
    by_cases hie : i < n
    · rw [if_neg (nI_ge hie (by omega)), at_spec h (by omega), Option.bind_some]
      unfold mg
      rw [if_pos hie, cmM.2 _ (h.lt i hie), Option.bind_some]
      cases hx : prs (T i) with
      | false => rw [if_pos bF, if_neg (by simp)]
      | true => rw [if_neg bTr, if_pos ⟨hie, rfl⟩, lt_eq, nI_1]
    · rw [if_pos (nI_le (by omega) (by omega)), if_neg (fun x => hie x.1)]
  have hr := run_in (f := prs) (T := T) (e := n) (n - s) s hsn
  unfold f_X12_part_j116 f_X12_part_j121
  rw [lt_eq, h17, hlp, Option.bind_some]
  generalize hE : s + run prs T n (n - s) s = q at *
  have main : ∀ v : Int32, (s < q → v = nI q) → ∃ m', f_X12_part_j160 TT m 870 (nI q) v 870 = some m' ∧ KK m m' ∧ gi m' 870 15 = gi m 870 15 ∧ gi m' 870 17 = nI s ∧ gi m' 870 18 = gi m 870 18 ∧ gi m' 870 14 = nI (mk (tkP T n p s q).1) ∧ ((tkP T n p s q).1 ≠ 1 → gi m' 870 16 = nI (tkP T n p s q).2) := by
    intro v hv
    have k0 : KK m (si m 870 16 v) := KK.si 16 v (by omega)
    have bad : ∀ m1, KK m m1 → gi m1 870 15 = gi m 870 15 → gi m1 870 17 = nI s → gi m1 870 18 = gi m 870 18 → rdc T s q = 0 → ∃ m', f_X12_part_j188 TT m1 870 = some m' ∧ KK m m' ∧ gi m' 870 15 = gi m 870 15 ∧ gi m' 870 17 = nI s ∧ gi m' 870 18 = gi m 870 18 ∧ gi m' 870 14 = nI (mk (tkP T n p s q).1) ∧ ((tkP T n p s q).1 ≠ 1 → gi m' 870 16 = nI (tkP T n p s q).2) := by
      intro m1 k1 a15 a17 a18 hz
      refine ⟨si m1 870 14 7, ?_, k1.tr (KK.si 14 7 (by omega)), ?_, ?_, ?_, ?_, ?_⟩
      · unfold f_X12_part_j188 f_X12_part_j190
        rw [ob_of s_870, if_pos rfl, lt_eq]
      · simp only [mS]; rw [if_neg (by omega)]; exact a15
      · simp only [mS]; rw [if_neg (by omega)]; exact a17
      · simp only [mS]; rw [if_neg (by omega)]; exact a18
      · rw [gi_si]
        unfold tkP
        rw [if_pos hz]
        rfl
      · unfold tkP
        rw [if_pos hz]
        intro hx
        exact absurd rfl hx
    have g17 : gi (si m 870 16 v) 870 17 = nI s := by simp only [mS]; rw [if_neg (by omega)]; exact h17
    unfold f_X12_part_j160
    rw [ob_of s_870, if_pos rfl, lt_eq, g17]
    by_cases hqs : q ≤ s
    · rw [if_pos (nI_le hqs (by omega))]
      refine bad _ k0 ?_ ?_ ?_ ?_
      · simp only [mS]; rw [if_neg (by omega)]
      · exact g17
      · simp only [mS]; rw [if_neg (by omega)]
      · rw [show q = s by omega]
        exact rdc_nil
    · rw [if_neg (nI_ge (by omega) (by omega))]
      obtain ⟨m2, e2, k2, _⟩ := reads_spec (a := s) (e := q) (h.keepK k0) (by omega) (by omega)
      rw [e2, bd_some]
      have a15 : gi m2 870 15 = gi m 870 15 := (k2.1 _ _ (by omega)).trans (by simp only [mS]; rw [if_neg (by omega)])
      have a17 : gi m2 870 17 = nI s := (k2.1 _ _ (by omega)).trans g17
      have a18 : gi m2 870 18 = gi m 870 18 := (k2.1 _ _ (by omega)).trans (by simp only [mS]; rw [if_neg (by omega)])
      have a16 : gi m2 870 16 = nI q := (k2.1 _ _ (by omega)).trans (by rw [gi_si]; exact hv (by omega))
      have hc3 : rdc T s q < 2 ^ 31 := by
        unfold rdc
        split
        · omega
        · next w hw =>
          obtain ⟨f, ns, is⟩ := w
          have : f = 1 ∨ f = 2 := by
            obtain ⟨m9, e9, k9, w9⟩ := reads_spec (a := s) (e := q) (h.keepK k0) (by omega) (by omega)
            have := (w9 f ns is hw).2.2.2.2
            omega
          show f < 2 ^ 31
          omega
      by_cases hz : rdc T s q = 0
      · rw [if_pos (show nI (rdc T s q) ≤ 0 by rw [hz]; decide)]
        exact bad _ (k0.tr k2.K) a15 a17 a18 hz
      · rw [if_neg (nI_nle (by omega) hc3)]
        refine ⟨si m2 870 14 2, ?_, (k0.tr k2.K).tr (KK.si 14 2 (by omega)), ?_, ?_, ?_, ?_, ?_⟩
        · unfold f_X12_part_j190
          rw [ob_of s_870, if_pos rfl, lt_eq]
        · simp only [mS]; rw [if_neg (by omega)]; exact a15
        · simp only [mS]; rw [if_neg (by omega)]; exact a17
        · simp only [mS]; rw [if_neg (by omega)]; exact a18
        · rw [gi_si]
          unfold tkP
          rw [if_neg hz]
          split <;> rfl
        · intro _
          simp only [mS]
          rw [if_neg (by omega), a16]
          unfold tkP
          rw [if_neg hz]
          split <;> rfl
  unfold f_X12_part_j147
  by_cases hqp : q ≤ p
  · rw [if_pos (nI_le hqp (by omega))]
    exact main _ (fun x => by omega)
  · rw [if_neg (nI_ge (by omega) (by omega))]
    exact main _ (fun _ => rfl)
theorem mpart_spec {m : Mi} {n p : Nat} {T : Nat → Nat} (h : MT m n T) (hp : p < n) (hs : sml (T p) = false) (hm : ¬ (T p = 124 ∨ T p = 123 ∨ T p = 125 ∨ T p = 59)) :
    ∃ m', f_X12_part TT m 870 (nI p) (nI (T p)) = some m' ∧ KK m m' ∧ gi m' 870 15 = gi m 870 15 ∧ gi m' 870 17 = nI (p + opn T n p) ∧ gi m' 870 18 = nI (opv T n p) ∧ gi m' 870 14 = nI (mk (tk T n p).1) ∧ ((tk T n p).1 ≠ 1 → gi m' 870 16 = nI (tk T n p).2) := by
  have hn := h.2.2.1
  have h0 := h.lt p hp
  have hq : ∀ z, z < 256 → ((nI (T p) = nI z) ↔ T p = z) := fun z hz => nI_eq (by omega) (by omega)
  unfold f_X12_part
  rw [lt_eq, lt_eq]
  have htk : T p ≠ 42 → tk T n p = tkP T n p (p + opn T n p) (p + opn T n p + run prs T n (n - (p + opn T n p)) (p + opn T n p)) := by
    intro h42
    unfold tk
    rw [hs, if_neg Bool.false_ne_true, if_neg (by omega), if_neg (by omega), if_neg (by omega), if_neg (by omega), if_neg h42]
  by_cases a1 : T p = 42
  · rw [if_pos (show nI (T p) = 42 from (hq 42 (by omega)).mpr a1), lt_eq, lt_eq, lt_eq]
    have ho : opn T n p = 0 := by unfold opn; rw [if_neg (by omega), if_neg (by omega)]
    have ht : tk T n p = (7, p + 1) := by
      unfold tk
      rw [hs, if_neg Bool.false_ne_true, if_neg (by omega), if_neg (by omega), if_neg (by omega), if_neg (by omega), if_pos a1]
    refine ⟨_, rfl, ((((KK.si 18 0 (by omega)).tr (KK.si 17 _ (by omega))).tr (KK.si 18 _ (by omega))).tr (KK.si 16 _ (by omega))).tr (KK.si 14 _ (by omega)), ?_, ?_, ?_, ?_, ?_⟩
    · simp only [mS]; simp
    · simp only [mS]; simp [ho]
    · simp only [mS]; unfold opv; simp [a1]
    · rw [gi_si, ht]; rfl
    · intro _; rw [ht]; simp only [mS]; simp [nI_1]
  · rw [if_neg (show ¬ nI (T p) = 42 from fun x => a1 ((hq 42 (by omega)).mp x))]
    rw [htk a1]
    have hsn := opn_in (T := T) hp
    -- the tail from a memory with the two fields
    have fin : ∀ m1, KK m m1 → gi m1 870 15 = gi m 870 15 → gi m1 870 17 = nI (p + opn T n p) → gi m1 870 18 = nI (opv T n p) → ∃ m', f_X12_part_j116 TT m1 870 (nI p) = some m' ∧ KK m m' ∧ gi m' 870 15 = gi m 870 15 ∧ gi m' 870 17 = nI (p + opn T n p) ∧ gi m' 870 18 = nI (opv T n p) ∧ gi m' 870 14 = nI (mk (tkP T n p (p + opn T n p) (p + opn T n p + run prs T n (n - (p + opn T n p)) (p + opn T n p))).1) ∧ ((tkP T n p (p + opn T n p) (p + opn T n p + run prs T n (n - (p + opn T n p)) (p + opn T n p))).1 ≠ 1 → gi m' 870 16 = nI (tkP T n p (p + opn T n p) (p + opn T n p + run prs T n (n - (p + opn T n p)) (p + opn T n p))).2) := by
      intro m1 k1 b15 b17 b18
      obtain ⟨m', e1, k2, c15, c17, c18, c14, c16⟩ := mpart_tail (p := p) (h.keepK k1) (by omega) hsn b17
      exact ⟨m', e1, k1.tr k2, c15.trans b15, c17, c18.trans b18, c14, c16⟩
    have k2 : KK m (si (si m 870 18 0) 870 17 (nI p)) := (KK.si 18 0 (by omega)).tr (KK.si 17 _ (by omega))
    have hm2 : MT (si (si m 870 18 0) 870 17 (nI p)) n T := h.keepK k2
    -- one sign of operator
    have k4 : KK m (si (si (si (si m 870 18 0) 870 17 (nI p)) 870 18 (nI (T p))) 870 17 (nI (p + 1))) := (k2.tr (KK.si 18 _ (by omega))).tr (KK.si 17 _ (by omega))
    have one : opn T n p = 1 → ∃ m', f_X12_part_j116 TT (si (si (si (si m 870 18 0) 870 17 (nI p)) 870 18 (nI (T p))) 870 17 (nI (p + 1))) 870 (nI p) = some m' ∧ KK m m' ∧ gi m' 870 15 = gi m 870 15 ∧ gi m' 870 17 = nI (p + opn T n p) ∧ gi m' 870 18 = nI (opv T n p) ∧ gi m' 870 14 = nI (mk (tkP T n p (p + opn T n p) (p + opn T n p + run prs T n (n - (p + opn T n p)) (p + opn T n p))).1) ∧ ((tkP T n p (p + opn T n p) (p + opn T n p + run prs T n (n - (p + opn T n p)) (p + opn T n p))).1 ≠ 1 → gi m' 870 16 = nI (tkP T n p (p + opn T n p) (p + opn T n p + run prs T n (n - (p + opn T n p)) (p + opn T n p))).2) := by
      intro ho
      refine fin _ k4 ?_ ?_ ?_
      · simp only [mS]; simp
      · simp only [mS]; simp [ho]
      · simp only [mS]; unfold opv; simp [a1, ho]
    have two : ∀ hx : T p = 62 ∨ T p = 60, ∃ m', f_X12_part_j88 TT (si (si (si (si m 870 18 0) 870 17 (nI p)) 870 18 (nI (T p))) 870 17 (nI (p + 1))) 870 (nI p) (nI (T p)) = some m' ∧ KK m m' ∧ gi m' 870 15 = gi m 870 15 ∧ gi m' 870 17 = nI (p + opn T n p) ∧ gi m' 870 18 = nI (opv T n p) ∧ gi m' 870 14 = nI (mk (tkP T n p (p + opn T n p) (p + opn T n p + run prs T n (n - (p + opn T n p)) (p + opn T n p))).1) ∧ ((tkP T n p (p + opn T n p) (p + opn T n p + run prs T n (n - (p + opn T n p)) (p + opn T n p))).1 ≠ 1 → gi m' 870 16 = nI (tkP T n p (p + opn T n p) (p + opn T n p + run prs T n (n - (p + opn T n p)) (p + opn T n p))).2) := by
      intro hx
      unfold f_X12_part_j88
      rw [nI_1, at_spec (h.keepK k4) (by omega), Option.bind_some]
      by_cases h61 : p + 1 < n ∧ T (p + 1) = 61
      · have ho : opn T n p = 2 := by unfold opn; rw [if_pos (by omega), if_pos h61]
        have hm61 : mg T n (p + 1) = 61 := by unfold mg; rw [if_pos h61.1, h61.2]; rfl
        rw [if_pos hm61, lt_eq, lt_eq]
        refine fin _ ((k4.tr (KK.si 18 _ (by omega))).tr (KK.si 17 _ (by omega))) ?_ ?_ ?_
        · simp only [mS]; simp
        · rw [gi_si, ho]; exact nI_add p 2
        · simp only [mS]; unfold opv; rw [if_neg (by omega), if_pos ⟨trivial, trivial⟩, if_neg a1, if_neg (by omega), if_neg (by omega)]; exact nI_add _ 256
      · have ho : opn T n p = 1 := by unfold opn; rw [if_pos (by omega), if_neg h61]
        have hm61 : ¬ mg T n (p + 1) = 61 := by
          unfold mg
          by_cases h1 : p + 1 < n
          · rw [if_pos h1]
            have := h.lt _ h1
            exact fun x => h61 ⟨h1, (nI_eq (b := 61) (by omega) (by omega)).mp x⟩
          · rw [if_neg h1]
            decide
        rw [if_neg hm61]
        exact one ho
    have j64 : (T p = 61 ∨ T p = 62 ∨ T p = 60 ∨ T p = 94 ∨ T p = 126) → ∃ m', f_X12_part_j64 TT (si (si m 870 18 0) 870 17 (nI p)) 870 (nI p) (nI (T p)) = some m' ∧ KK m m' ∧ gi m' 870 15 = gi m 870 15 ∧ gi m' 870 17 = nI (p + opn T n p) ∧ gi m' 870 18 = nI (opv T n p) ∧ gi m' 870 14 = nI (mk (tkP T n p (p + opn T n p) (p + opn T n p + run prs T n (n - (p + opn T n p)) (p + opn T n p))).1) ∧ ((tkP T n p (p + opn T n p) (p + opn T n p + run prs T n (n - (p + opn T n p)) (p + opn T n p))).1 ≠ 1 → gi m' 870 16 = nI (tkP T n p (p + opn T n p) (p + opn T n p + run prs T n (n - (p + opn T n p)) (p + opn T n p))).2) := by
      intro hx
      unfold f_X12_part_j64
      rw [lt_eq, lt_eq, nI_1]
      by_cases b1 : T p = 62
      · rw [if_pos (show nI (T p) = 62 from (hq 62 (by omega)).mpr b1)]
        exact two (Or.inl b1)
      · rw [if_neg (show ¬ nI (T p) = 62 from fun x => b1 ((hq 62 (by omega)).mp x))]
        by_cases b2 : T p = 60
        · rw [if_pos (show nI (T p) = 60 from (hq 60 (by omega)).mpr b2)]
          exact two (Or.inr b2)
        · rw [if_neg (show ¬ nI (T p) = 60 from fun x => b2 ((hq 60 (by omega)).mp x))]
          exact one (by unfold opn; rw [if_neg (by omega), if_pos (by omega)])
    by_cases b1 : T p = 61
    · rw [if_pos (show nI (T p) = 61 from (hq 61 (by omega)).mpr b1)]
      exact j64 (by omega)
    · rw [if_neg (show ¬ nI (T p) = 61 from fun x => b1 ((hq 61 (by omega)).mp x))]
      by_cases b2 : T p = 62
      · rw [if_pos (show nI (T p) = 62 from (hq 62 (by omega)).mpr b2)]
        exact j64 (by omega)
      · rw [if_neg (show ¬ nI (T p) = 62 from fun x => b2 ((hq 62 (by omega)).mp x))]
        by_cases b3 : T p = 60
        · rw [if_pos (show nI (T p) = 60 from (hq 60 (by omega)).mpr b3)]
          exact j64 (by omega)
        · rw [if_neg (show ¬ nI (T p) = 60 from fun x => b3 ((hq 60 (by omega)).mp x))]
          by_cases b4 : T p = 94
          · rw [if_pos (show nI (T p) = 94 from (hq 94 (by omega)).mpr b4)]
            exact j64 (by omega)
          · rw [if_neg (show ¬ nI (T p) = 94 from fun x => b4 ((hq 94 (by omega)).mp x))]
            by_cases b5 : T p = 126
            · rw [if_pos (show nI (T p) = 126 from (hq 126 (by omega)).mpr b5)]
              exact j64 (by omega)
            · rw [if_neg (show ¬ nI (T p) = 126 from fun x => b5 ((hq 126 (by omega)).mp x))]
              have ho : opn T n p = 0 := by unfold opn; rw [if_neg (by omega), if_neg (by omega)]
              refine fin _ k2 ?_ ?_ ?_
              · simp only [mS]; simp
              · rw [gi_si, ho]; rfl
              · simp only [mS]; unfold opv; simp [a1, ho]; rfl
theorem token_spec {m : Mi} {n p : Nat} {T : Nat → Nat} (h : MT m n T) (h16 : gi m 870 16 = nI p) (hp : p ≤ n) : ∃ m', f_X12_token TT m 870 = some m' ∧ KK m m' ∧ CurM m' T n (tl T n p) := by
  have hn := h.2.2.1
  have hlp : lp (fun x : Int32 => f_X12_token_l5 TT m 870 x) FUEL (nI p) = some (nI (p + run blk T n (n - p) p)) := by
    refine run_lpF (f := blk) (T := T) (e := n) (fun i hi => ?_) (by omega) (by omega)
    show f_X12_token_l5 TT m 870 (nI i) = _
    unfold f_X12_token_l5
    rw [h.2.1]
    by_cases hie : i < n
    · have := h.lt i hie
      rw [if_neg (nI_ge hie (by omega)), at_spec h (by omega), Option.bind_some, Option.bind_some]
      unfold mg
      rw [if_pos hie]
      simp only [lt_eq, nI_1]
      by_cases c1 : T i = 32
      · rw [if_pos (show nI (T i) = 32 by rw [c1]; rfl), if_pos ⟨hie, by rw [c1]; rfl⟩]
      · rw [if_neg (show ¬ nI (T i) = 32 from fun x => c1 ((nI_eq (b := 32) (by omega) (by omega)).mp x))]
        by_cases c2 : T i = 10
        · rw [if_pos (show nI (T i) = 10 by rw [c2]; rfl), if_pos ⟨hie, by rw [c2]; rfl⟩]
        · rw [if_neg (show ¬ nI (T i) = 10 from fun x => c2 ((nI_eq (b := 10) (by omega) (by omega)).mp x)), if_neg (fun x => by
            have := x.2
            unfold blk at this
            simp only [Bool.or_eq_true, decide_eq_true_eq] at this
            omega)]
    · rw [if_pos (nI_le (by omega) (by omega)), if_neg (fun x => hie x.1)]
  have hr := run_in (f := blk) (T := T) (e := n) (n - p) p hp
  have hend : p + run blk T n (n - p) p < n → blk (T (p + run blk T n (n - p) p)) = false := by
    intro hx
    cases hb : blk (T (p + run blk T n (n - p) p)) with
    | false => rfl
    | true => exact absurd ⟨hx, hb⟩ (run_end (n - p) p (by omega))
  rw [tl_run (n - p) p]
  unfold f_X12_token f_X12_token_j5
  rw [lt_eq, h16, hlp, Option.bind_some]
  generalize p + run blk T n (n - p) p = b at *
  unfold f_X12_token_j40
  rw [lt_eq]
  have k1 : KK m (si m 870 15 (nI b)) := KK.si 15 _ (by omega)
  have h1 := h.keepK k1
  rw [at_spec h1 (by omega), Option.bind_some, h1.2.1]
  have g15 : gi (si m 870 15 (nI b)) 870 15 = nI b := gi_si _ _ _ _
  by_cases hb : b < n
  · have h0 := h.lt b hb
    have hbl := hend hb
    have hq : ∀ z, z < 256 → ((nI (T b) = nI z) ↔ T b = z) := fun z hz => nI_eq (by omega) (by omega)
    have hmg : mg T n b = nI (T b) := by unfold mg; rw [if_pos hb]
    rw [if_pos (nI_lt hb (by omega)), hmg, cmM.1 _ h0, Option.bind_some, tl_tok hb (by rw [hbl]; decide)]
    cases hs : sml (T b) with
    | true =>
      rw [if_neg bTr]
      have hlp2 : lp (fun x : Int32 => f_X12_token_l79 TT (si m 870 15 (nI b)) 870 x) FUEL (nI b) = some (nI (b + run nms T n (n - b) b)) := by
        refine run_lpF (f := nms) (T := T) (e := n) (fun i hi => ?_) (by omega) (by omega)
        show f_X12_token_l79 TT (si m 870 15 (nI b)) 870 (nI i) = _
        unfold f_X12_token_l79
        rw [at_spec h1 (by omega)]
        simp only [Option.bind_some]
        unfold mg
        by_cases hie : i < n
        · have hi0 := h.lt i hie
          rw [if_pos hie, cmM.1 _ hi0, cmC.2.2.2.2 _ hi0]
          simp only [Option.bind_some, lt_eq, nI_1]
          unfold nms
          cases sml (T i) with
          | true => rw [if_neg bTr, if_pos ⟨hie, rfl⟩]
          | false =>
            rw [if_pos bF]
            cases dg (T i) with
            | true => rw [if_neg bTr, if_pos ⟨hie, rfl⟩]
            | false =>
              rw [if_pos bF]
              by_cases c1 : T i = 95
              · rw [if_pos (show nI (T i) = 95 by rw [c1]; rfl), if_pos ⟨hie, by rw [c1]; rfl⟩]
              · rw [if_neg (show ¬ nI (T i) = 95 from fun x => c1 ((nI_eq (b := 95) (by omega) (by omega)).mp x)), if_neg (fun x => by
                  have := x.2
                  simp at this
                  exact c1 this)]
        · rw [if_neg hie, if_neg (show ¬ (i < n ∧ nms (T i) = true) from fun x => hie x.1)]
          rfl
      have hr2 := run_in (f := nms) (T := T) (e := n) (n - b) b (by omega)
      have hall := run_all (f := nms) (T := T) (e := n) (n - b) b
      unfold f_X12_token_j79
      rw [hlp2, Option.bind_some]
      have htk : tk T n b = if run nms T n (n - b) b ≤ 12 then (knd T b (run nms T n (n - b) b), b + run nms T n (n - b) b) else (1, n) := by
        unfold tk
        rw [if_pos hs]
      generalize run nms T n (n - b) b = z at *
      unfold f_X12_token_j118
      have k2 : KK m (si (si m 870 15 (nI b)) 870 16 (nI (b + z))) := k1.tr (KK.si 16 _ (by omega))
      have g152 : gi (si (si m 870 15 (nI b)) 870 16 (nI (b + z))) 870 15 = nI b := by simp only [mS]; simp
      have g162 : gi (si (si m 870 15 (nI b)) 870 16 (nI (b + z))) 870 16 = nI (b + z) := gi_si _ _ _ _
      have mn := fun k0 => mname_spec (k0 := k0) (h.keepK k2) (show b ≤ b + z by omega) (by omega) g152 g162 (fun j hj => nms_lt (hall j (by omega)).2)
      rw [show b + z - b = z by omega] at mn
      rw [lt_eq, g152, g162, pk_sub (by omega), show b + z - b = z by omega]
      have fin : ∀ v w : Nat, mk w = v → w ≠ 7 → w ≠ 8 → (w ≠ 1 → tk T n b = (w, b + z)) → (w = 1 → (tk T n b).1 = 1) → CurM (si (si (si m 870 15 (nI b)) 870 16 (nI (b + z))) 870 14 (nI v)) T n (((tk T n b).1, (b, (tk T n b).2)) :: tl T n (tk T n b).2) := by
        intro v w hv h7 h8 hw1 hw2
        have e1 : (tk T n b).1 = w := by
          by_cases hx : w = 1
          · rw [hw2 hx, hx]
          · rw [hw1 hx]
        refine ⟨?_, ?_, ?_, ?_⟩
        · rw [gi_si]
          show nI v = nI (mk (tk T n b).1)
          rw [e1, hv]
        · simp only [mS]; simp
        · intro hx
          have hx : (tk T n b).1 ≠ 1 := hx
          rw [e1] at hx
          show _ = nI (tk T n b).2 ∧ _
          rw [hw1 hx]
          refine ⟨?_, rfl⟩
          simp only [mS]; simp
        · intro hx
          exfalso
          have hx : (tk T n b).1 = 7 ∨ (tk T n b).1 = 8 := hx
          omega
      by_cases h12 : z ≤ 12
      · rw [if_pos (show nI z ≤ 12 from nI_le (b := 12) h12 (by omega)), show f_X12_token_j144 TT (si (si m 870 15 (nI b)) 870 16 (nI (b + z))) 870 1 870 = _ from mn 1]
        refine ⟨_, rfl, k2.tr (KK.si 14 _ (by omega)), ?_⟩
        rw [if_pos h12] at htk
        refine fin _ (knd T b z) ?_ ?_ ?_ (fun _ => htk) (fun hx => by rw [htk]; exact hx)
        · unfold knd
          cases wrd W0 T b z <;> cases wrd W1 T b z <;> cases wrd W2 T b z <;> cases wrd W3 T b z <;> rfl
        · unfold knd
          cases wrd W0 T b z <;> cases wrd W1 T b z <;> cases wrd W2 T b z <;> cases wrd W3 T b z <;> decide
        · unfold knd
          cases wrd W0 T b z <;> cases wrd W1 T b z <;> cases wrd W2 T b z <;> cases wrd W3 T b z <;> decide
      · rw [if_neg (show ¬ nI z ≤ 12 from nI_ge (a := 12) (by omega) (by omega)), show f_X12_token_j144 TT (si (si m 870 15 (nI b)) 870 16 (nI (b + z))) 870 7 870 = _ from mn 7]
        refine ⟨_, rfl, k2.tr (KK.si 14 _ (by omega)), ?_⟩
        rw [if_neg h12] at htk
        have nw : ∀ W : List Nat, W.length ≤ 7 → wrd W T b z = false := by
          intro W hW
          cases hx : wrd W T b z with
          | false => rfl
          | true => have := (wrd_iff.mp hx).1; omega
        refine fin _ 1 ?_ (by omega) (by omega) (fun hx => absurd rfl hx) (fun _ => by rw [htk])
        rw [nw W0 (by decide), nw W1 (by decide), nw W2 (by decide), nw W3 (by decide)]
        rfl
    | false =>
      rw [if_pos bF]
      have fin : ∀ (v w e : Nat), mk w = v → w ≠ 7 → w ≠ 8 → tk T n b = (w, e) → ∀ x : Int32, (w ≠ 1 → x = nI e) → CurM (si (si (si m 870 15 (nI b)) 870 16 x) 870 14 (nI v)) T n (((tk T n b).1, (b, (tk T n b).2)) :: tl T n (tk T n b).2) := by
        intro v w e hv h7 h8 hw x hx
        rw [hw]
        refine ⟨?_, ?_, ?_, ?_⟩
        · rw [gi_si, ← hv]
        · simp only [mS]; simp
        · intro h1
          refine ⟨?_, rfl⟩
          rw [← hx h1]
          simp only [mS]; simp
        · intro h1
          have h1 : w = 7 ∨ w = 8 := h1
          omega
      by_cases a1 : T b = 124
      · rw [if_pos (show nI (T b) = 124 from (hq 124 (by omega)).mpr a1), nI_1, at_spec h1 (by omega), Option.bind_some]
        have htk : tk T n b = if b + 1 < n ∧ T (b + 1) = 124 then (9, b + 2) else (1, n) := by
          unfold tk
          rw [hs, if_neg Bool.false_ne_true, if_pos a1]
        have kk : ∀ x v, KK m (si (si (si m 870 15 (nI b)) 870 16 x) 870 14 v) := fun x v => (k1.tr (KK.si 16 x (by omega))).tr (KK.si 14 v (by omega))
        have g16 : ∀ x, gi (si (si m 870 15 (nI b)) 870 16 x) 870 16 = x := fun x => gi_si _ _ _ _
        by_cases c1 : b + 1 < n ∧ T (b + 1) = 124
        · rw [if_pos c1] at htk
          rw [if_pos (show mg T n (b + 1) = 124 by unfold mg; rw [if_pos c1.1, c1.2]; rfl)]
          unfold f_X12_token_j247 f_X12_token_j267
          rw [ob_of s_870, if_pos rfl, lt_eq, g16, if_pos (show nI b + 2 - nI b = 2 by rw [show nI b + 2 = nI (b + 2) from nI_add b 2, pk_sub (by omega), show b + 2 - b = 2 by omega]; rfl), if_pos rfl, lt_eq]
          exact ⟨_, rfl, kk _ _, fin 3 9 (b + 2) rfl (by omega) (by omega) htk _ (fun _ => nI_add b 2)⟩
        · rw [if_neg c1] at htk
          have hm1 : ¬ mg T n (b + 1) = 124 := by
            unfold mg
            by_cases c2 : b + 1 < n
            · rw [if_pos c2]
              have := h.lt _ c2
              exact fun x => c1 ⟨c2, (nI_eq (b := 124) (by omega) (by omega)).mp x⟩
            · rw [if_neg c2]
              decide
          rw [if_neg hm1]
          unfold f_X12_token_j247 f_X12_token_j267
          rw [ob_of s_870, if_pos rfl, lt_eq, g16, if_neg (show ¬ nI (b + 1) - nI b = 2 by rw [pk_sub (by omega), show b + 1 - b = 1 by omega]; decide), if_pos rfl, lt_eq]
          exact ⟨_, rfl, kk _ _, fin 7 1 n rfl (by omega) (by omega) htk _ (fun hx => absurd rfl hx)⟩
      · rw [if_neg (show ¬ nI (T b) = 124 from fun x => a1 ((hq 124 (by omega)).mp x))]
        have j291 : (T b = 123 ∨ T b = 125 ∨ T b = 59) → ∃ m', f_X12_token_j291 TT (si m 870 15 (nI b)) 870 (nI b) (nI (T b)) = some m' ∧ KK m m' ∧ CurM m' T n (((tk T n b).1, (b, (tk T n b).2)) :: tl T n (tk T n b).2) := by
          intro hx
          unfold f_X12_token_j291 f_X12_token_j321
          rw [lt_eq, ob_of s_870, if_pos rfl, nI_1]
          have kk : ∀ x v, KK m (si (si (si m 870 15 (nI b)) 870 16 x) 870 14 v) := fun x v => (k1.tr (KK.si 16 x (by omega))).tr (KK.si 14 v (by omega))
          by_cases c1 : T b = 123
          · rw [if_pos (show nI (T b) = 123 from (hq 123 (by omega)).mpr c1), lt_eq]
            exact ⟨_, rfl, kk _ _, fin 4 10 (b + 1) rfl (by omega) (by omega) (by unfold tk; rw [hs, if_neg Bool.false_ne_true, if_neg a1, if_neg (by omega), if_pos c1]) _ (fun _ => rfl)⟩
          · rw [if_neg (show ¬ nI (T b) = 123 from fun x => c1 ((hq 123 (by omega)).mp x)), if_pos rfl, if_pos rfl]
            by_cases c2 : T b = 125
            · rw [if_pos (show nI (T b) = 125 from (hq 125 (by omega)).mpr c2), lt_eq]
              exact ⟨_, rfl, kk _ _, fin 5 11 (b + 1) rfl (by omega) (by omega) (by unfold tk; rw [hs, if_neg Bool.false_ne_true, if_neg a1, if_neg (by omega), if_neg c1, if_pos c2]) _ (fun _ => rfl)⟩
            · rw [if_neg (show ¬ nI (T b) = 125 from fun x => c2 ((hq 125 (by omega)).mp x)), lt_eq]
              exact ⟨_, rfl, kk _ _, fin 6 12 (b + 1) rfl (by omega) (by omega) (by unfold tk; rw [hs, if_neg Bool.false_ne_true, if_neg a1, if_pos (by omega)]) _ (fun _ => rfl)⟩
        by_cases a2 : T b = 123
        · rw [if_pos (show nI (T b) = 123 from (hq 123 (by omega)).mpr a2)]
          exact j291 (by omega)
        · rw [if_neg (show ¬ nI (T b) = 123 from fun x => a2 ((hq 123 (by omega)).mp x))]
          by_cases a3 : T b = 125
          · rw [if_pos (show nI (T b) = 125 from (hq 125 (by omega)).mpr a3)]
            exact j291 (by omega)
          · rw [if_neg (show ¬ nI (T b) = 125 from fun x => a3 ((hq 125 (by omega)).mp x))]
            by_cases a4 : T b = 59
            · rw [if_pos (show nI (T b) = 59 from (hq 59 (by omega)).mpr a4)]
              exact j291 (by omega)
            · rw [if_neg (show ¬ nI (T b) = 59 from fun x => a4 ((hq 59 (by omega)).mp x))]
              obtain ⟨m', e1, kq, d15, d17, d18, d14, d16⟩ := mpart_spec h1 hb hs (by omega)
              rw [e1, Option.bind_some]
              exact ⟨m', rfl, k1.tr kq, d14, d15.trans g15, fun hx => ⟨d16 hx, rfl⟩, fun _ => ⟨d17, d18⟩⟩
  · rw [if_neg (nI_nlt (by omega) (by omega)), lt_eq, lt_eq, tl_end (by omega)]
    have hbn : b = n := by omega
    refine ⟨_, rfl, (k1.tr (KK.si 16 _ (by omega))).tr (KK.si 14 _ (by omega)), ?_, ?_, ?_⟩
    · exact gi_si _ _ _ _
    · simp only [mS]; simp [hbn]
    · simp only [mS]; simp [hbn]
