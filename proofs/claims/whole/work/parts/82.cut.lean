/-! Tokens of a piece of the text. -/
theorem tl_skip {T : Nat → Nat} {e : Nat} : ∀ d p, (∀ j, p ≤ j → j < p + d → blk (T j) = true) → p + d ≤ e → tl T e p = tl T e (p + d) := by
  intro d
  induction d with
  | zero => intro p _ _; rfl
  | succ d ih =>
    intro p h1 h2
    rw [tl_blk (by omega) (h1 p (Nat.le_refl _) (by omega)), ih (p + 1) (fun j a b => h1 j (by omega) (by omega)) (by omega), show p + 1 + d = p + (d + 1) by omega]
theorem tl_first {T : Nat → Nat} {n : Nat} {y : Tok} {L : List Tok} : ∀ d p, n - p ≤ d → tl T n p = y :: L → p ≤ y.2.1 ∧ y.2.1 < n ∧ (∀ j, p ≤ j → j < y.2.1 → blk (T j) = true) ∧ blk (T y.2.1) = false ∧ y.1 = (tk T n y.2.1).1 ∧ y.2.2 = (tk T n y.2.1).2 ∧ L = tl T n y.2.2 := by
  intro d
  induction d with
  | zero =>
    intro p h1 h2
    rw [tl_end (by omega)] at h2
    cases h2
  | succ d ih =>
    intro p h1 h2
    by_cases hp : p < n
    · by_cases hb : blk (T p) = true
      · rw [tl_blk hp hb] at h2
        obtain ⟨g1, g2, g3, g4⟩ := ih (p + 1) (by omega) h2
        refine ⟨by omega, g2, fun j a b => ?_, g4⟩
        by_cases hj : j = p
        · rw [hj]; exact hb
        · exact g3 j (by omega) b
      · rw [tl_tok hp hb] at h2
        have h3 := (List.cons.inj h2).1
        have h4 := (List.cons.inj h2).2
        rw [← h3]
        refine ⟨Nat.le_refl _, hp, fun j a b => ?_, by simpa using hb, rfl, rfl, h4.symm⟩
        have b : j < p := b
        omega
    · rw [tl_end (by omega)] at h2
      cases h2
theorem tl_none {T : Nat → Nat} {n : Nat} : ∀ d p, n - p ≤ d → tl T n p = [] → ∀ j, p ≤ j → j < n → blk (T j) = true := by
  intro d
  induction d with
  | zero => intro p h1 _ j a b; omega
  | succ d ih =>
    intro p h1 h2 j a b
    have hp : p < n := by omega
    by_cases hb : blk (T p) = true
    · rw [tl_blk hp hb] at h2
      by_cases hj : j = p
      · rw [hj]; exact hb
      · exact ih (p + 1) (by omega) h2 j (by omega) b
    · rw [tl_tok hp hb] at h2
      cases h2
theorem knd_lt (T : Nat → Nat) (p l : Nat) : knd T p l < 7 := by
  unfold knd
  split
  · omega
  · split
    · omega
    · split
      · omega
      · split <;> omega
theorem opn_cut {T : Nat → Nat} {n e p : Nat} (hen : e ≤ n) (h : p + opn T n p ≤ e) : opn T e p = opn T n p := by
  unfold opn at h ⊢
  by_cases h1 : T p = 60 ∨ T p = 62
  · rw [if_pos h1] at h
    rw [if_pos h1, if_pos h1]
    by_cases h2 : p + 1 < n ∧ T (p + 1) = 61
    · rw [if_pos h2] at h
      rw [if_pos h2, if_pos ⟨by omega, h2.2⟩]
    · rw [if_neg h2, if_neg (fun x => h2 ⟨by omega, x.2⟩)]
  · rw [if_neg h1, if_neg h1]
theorem run_cut {T : Nat → Nat} {n e s : Nat} {f : Nat → Bool} (hen : e ≤ n) (hs : s ≤ n) (h : s + run f T n (n - s) s ≤ e) : run f T e (e - s) s = run f T n (n - s) s := by
  refine run_uniq (by omega) (fun j hj => ⟨by omega, (run_all (n - s) s j hj).2⟩) (fun hlt hx => ?_)
  exact run_end (n - s) s (by omega) ⟨by omega, hx.2⟩
/-- the shape of a part's token -/
theorem tk_part {T : Nat → Nat} {n b : Nat} (hb : b < n) (hk : isP (tk T n b).1 = true) : sml (T b) = false ∧ T b ≠ 124 ∧ T b ≠ 59 ∧ T b ≠ 123 ∧ T b ≠ 125 ∧ (T b = 42 ∨ (T b ≠ 42 ∧ (tk T n b).2 = b + opn T n b + run prs T n (n - (b + opn T n b)) (b + opn T n b) ∧ ∃ f ns is, rdv T (b + opn T n b) (tk T n b).2 = some (f, (ns, is)) ∧ ((tk T n b).1 = 8 ↔ f = 2 ∧ opn T n b = 0))) := by
  have bad : ∀ w : Nat × Nat, tk T n b = w → isP w.1 = false → False := by
    intro w hw h
    rw [hw, h] at hk
    cases hk
  cases hs : sml (T b) with
  | true =>
    exfalso
    by_cases h12 : run nms T n (n - b) b ≤ 12
    · refine bad (knd T b (run nms T n (n - b) b), b + run nms T n (n - b) b) (by unfold tk; rw [if_pos hs, if_pos h12]) ?_
      have := knd_lt T b (run nms T n (n - b) b)
      unfold isP
      rw [decide_eq_false (by show ¬ knd T b (run nms T n (n - b) b) = 7; omega), decide_eq_false (by show ¬ knd T b (run nms T n (n - b) b) = 8; omega)]
      rfl
    · exact bad (1, n) (by unfold tk; rw [if_pos hs, if_neg h12]) rfl
  | false =>
    have h1 : T b ≠ 124 := by
      intro h
      by_cases h2 : b + 1 < n ∧ T (b + 1) = 124
      · exact bad (9, b + 2) (by unfold tk; rw [hs, if_neg fNt, if_pos h, if_pos h2]) rfl
      · exact bad (1, n) (by unfold tk; rw [hs, if_neg fNt, if_pos h, if_neg h2]) rfl
    have h2 : T b ≠ 59 := fun h => bad (12, b + 1) (by unfold tk; rw [hs, if_neg fNt, if_neg h1, if_pos h]) rfl
    have h3 : T b ≠ 123 := fun h => bad (10, b + 1) (by unfold tk; rw [hs, if_neg fNt, if_neg h1, if_neg h2, if_pos h]) rfl
    have h4 : T b ≠ 125 := fun h => bad (11, b + 1) (by unfold tk; rw [hs, if_neg fNt, if_neg h1, if_neg h2, if_neg h3, if_pos h]) rfl
    refine ⟨rfl, h1, h2, h3, h4, ?_⟩
    by_cases h42 : T b = 42
    · exact Or.inl h42
    · refine Or.inr ⟨h42, ?_⟩
      have htk : tk T n b = tkP T n b (b + opn T n b) (b + opn T n b + run prs T n (n - (b + opn T n b)) (b + opn T n b)) := by
        unfold tk
        rw [hs, if_neg fNt, if_neg h1, if_neg h2, if_neg h3, if_neg h4, if_neg h42]
      generalize hq : b + opn T n b + run prs T n (n - (b + opn T n b)) (b + opn T n b) = q at htk ⊢
      by_cases h0 : rdc T (b + opn T n b) q = 0
      · exfalso
        exact bad (1, n) (by rw [htk]; unfold tkP; rw [if_pos h0]) rfl
      · have he : (tk T n b).2 = q := by rw [htk]; unfold tkP; rw [if_neg h0]; split <;> rfl
        rw [he]
        refine ⟨rfl, ?_⟩
        cases hr : rdv T (b + opn T n b) q with
        | none =>
          exfalso
          apply h0
          unfold rdc
          rw [hr]
        | some w =>
          obtain ⟨f, ns, is⟩ := w
          have hf : rdc T (b + opn T n b) q = f := by unfold rdc; rw [hr]
          refine ⟨f, ns, is, rfl, ?_⟩
          rw [htk]
          unfold tkP
          rw [if_neg h0, hf]
          by_cases h8 : f = 2 ∧ b + opn T n b = b
          · rw [if_pos h8]
            exact ⟨fun _ => ⟨h8.1, by omega⟩, fun _ => rfl⟩
          · rw [if_neg h8]
            exact ⟨fun x => (by cases x), fun x => absurd ⟨x.1, by omega⟩ h8⟩
theorem tk_cut {T : Nat → Nat} {n e b : Nat} (hb : b < n) (hen : e ≤ n) (hk : isP (tk T n b).1 = true ∨ (tk T n b).1 = 9) (h : (tk T n b).2 ≤ e) : tk T e b = tk T n b := by
  have g := tk_gt (T := T) hb
  rcases hk with hk | hk
  · obtain ⟨h0, h1, h2, h3, h4, h5⟩ := tk_part hb hk
    rcases h5 with h42 | ⟨h42, he, f, ns, is, hr, h8⟩
    · unfold tk
      rw [h0, if_neg fNt, if_neg fNt, if_neg h1, if_neg h1, if_neg h2, if_neg h2, if_neg h3, if_neg h3, if_neg h4, if_neg h4, if_pos h42, if_pos h42]
    · have hs := opn_in (T := T) hb
      have ho : opn T e b = opn T n b := opn_cut hen (by omega)
      have hrn : run prs T e (e - (b + opn T n b)) (b + opn T n b) = run prs T n (n - (b + opn T n b)) (b + opn T n b) := run_cut hen hs (by omega)
      have e1 : tk T e b = tkP T e b (b + opn T n b) (tk T n b).2 := by
        rw [he]
        unfold tk
        rw [h0, if_neg fNt, if_neg h1, if_neg h2, if_neg h3, if_neg h4, if_neg h42, ho, hrn]
      have e2 : tk T n b = tkP T n b (b + opn T n b) (tk T n b).2 := by
        rw [he]
        unfold tk
        rw [h0, if_neg fNt, if_neg h1, if_neg h2, if_neg h3, if_neg h4, if_neg h42]
      have hz : rdc T (b + opn T n b) (tk T n b).2 ≠ 0 := by
        intro hz
        rw [e2] at hk
        unfold tkP at hk
        rw [if_pos hz] at hk
        cases hk
      refine e1.trans (Eq.trans ?_ e2.symm)
      unfold tkP
      rw [if_neg hz, if_neg hz]
  · cases hs : sml (T b) with
    | true =>
      exfalso
      unfold tk at hk
      rw [if_pos hs] at hk
      split at hk
      · have := knd_lt T b (run nms T n (n - b) b)
        have hk : knd T b (run nms T n (n - b) b) = 9 := hk
        omega
      · cases hk
    | false =>
      by_cases h1 : T b = 124
      · have htk : tk T n b = if b + 1 < n ∧ T (b + 1) = 124 then (9, b + 2) else (1, n) := by
          unfold tk
          rw [hs, if_neg fNt, if_pos h1]
        by_cases h2 : b + 1 < n ∧ T (b + 1) = 124
        · rw [if_pos h2] at htk
          rw [htk] at h ⊢
          have h : b + 2 ≤ e := h
          unfold tk
          rw [hs, if_neg fNt, if_pos h1, if_pos ⟨by omega, h2.2⟩]
        · rw [if_neg h2] at htk
          rw [htk] at hk
          cases hk
      · exfalso
        have htk : tk T n b = if T b = 59 then (12, b + 1) else if T b = 123 then (10, b + 1) else if T b = 125 then (11, b + 1) else if T b = 42 then (7, b + 1) else tkP T n b (b + opn T n b) (b + opn T n b + run prs T n (n - (b + opn T n b)) (b + opn T n b)) := by
          unfold tk
          rw [hs, if_neg fNt, if_neg h1]
        rw [htk] at hk
        unfold tkP at hk
        split at hk
        · cases hk
        · split at hk
          · cases hk
          · split at hk
            · cases hk
            · split at hk
              · cases hk
              · split at hk
                · cases hk
                · split at hk <;> cases hk
theorem isP_or {k : Nat} (h : isP k = true) : k = 7 ∨ k = 8 := by
  unfold isP at h
  simp only [Bool.or_eq_true, decide_eq_true_eq] at h
  exact h
/-- of a part's token: what the class's reader wants of it, and that its bounds are the same in the whole text -/
theorem tl_tokR {T : Nat → Nat} {n p : Nat} {x : Tok} (hx : x ∈ tl T n p) (hk : isP x.1 = true) : tokR T n x ∧ tP T n x = cP T x ∧ x.2.1 + opn T n x.2.1 ≤ x.2.2 ∧ x.2.2 ≤ n ∧ x.2.1 < x.2.2 ∧ opn T x.2.2 x.2.1 = opn T n x.2.1 ∧ (T x.2.1 = 42 ∨ ∃ f ns is, rdv T (x.2.1 + opn T n x.2.1) x.2.2 = some (f, (ns, is)) ∧ (x.1 = 8 ↔ f = 2 ∧ opn T n x.2.1 = 0)) := by
  obtain ⟨h1, h2, h3, h4, h5⟩ := tl_mem (n - p) p (Nat.le_refl _) x hx
  have g := tk_gt (T := T) h2
  rw [← h4] at g
  have hk2 := hk
  rw [h3] at hk2
  obtain ⟨q0, q1, q2, q3, q4, q5⟩ := tk_part h2 hk2
  rw [← h4, ← h3] at q5
  have hle : x.2.1 + opn T n x.2.1 ≤ x.2.2 := by
    rcases q5 with h42 | ⟨h42, he, _⟩
    · have : opn T n x.2.1 = 0 := by unfold opn; rw [if_neg (by omega), if_neg (by omega)]
      omega
    · omega
  have ho : opn T x.2.2 x.2.1 = opn T n x.2.1 := opn_cut g.2 hle
  refine ⟨Or.inr ⟨hk, g.1, g.2, ?_⟩, ?_, hle, g.2, g.1, ho, ?_⟩
  · rcases q5 with h42 | ⟨h42, he, f, ns, is, hr, h8⟩
    · exact Or.inl h42
    · exact Or.inr ⟨f, ns, is, by rw [ho]; exact hr⟩
  · unfold tP cP prt opv
    rw [ho]
  · rcases q5 with h42 | ⟨h42, he, f, ns, is, hr, h8⟩
    · exact Or.inl h42
    · exact Or.inr ⟨f, ns, is, hr, h8⟩
theorem tl_cut {T : Nat → Nat} {n e : Nat} (hen : e ≤ n) : ∀ (l : List Tok) (p : Nat) (rest : List Tok) (x : Tok), tl T n p = x :: l ++ rest → (∀ y ∈ x :: l, isP y.1 = true ∨ y.1 = 9) → (∃ z, (x :: l).getLast? = some z ∧ z.2.2 = e) → tl T e x.2.1 = x :: l := by
  intro l
  induction l with
  | nil =>
    intro p rest x h1 h2 h3
    obtain ⟨z, hz, he⟩ := h3
    have hz : x = z := Option.some.inj hz
    rw [← hz] at he
    obtain ⟨g1, g2, g3, g4, g5, g6, g7⟩ := tl_first (n - p) p (Nat.le_refl _) h1
    have g := tk_gt (T := T) g2
    have hc := tk_cut g2 hen (by rw [← g5]; exact h2 x List.mem_cons_self) (by omega)
    rw [tl_tok (by omega) (by rw [g4]; exact fNt), hc, ← g6, he, tl_end (Nat.le_refl _), ← g5, ← he]
  | cons y l ih =>
    intro p rest x h1 h2 h3
    obtain ⟨z, hz, he⟩ := h3
    have h1' : tl T n p = x :: (y :: l ++ rest) := h1
    obtain ⟨g1, g2, g3, g4, g5, g6, g7⟩ := tl_first (n - p) p (Nat.le_refl _) h1'
    have g := tk_gt (T := T) g2
    have i1 := ih x.2.2 rest y g7.symm (fun w hw => h2 w (List.mem_cons_of_mem _ hw)) ⟨z, by rw [← hz]; rfl, he⟩
    obtain ⟨f1, f2, f3, f4, f5, f6, f7⟩ := tl_first (n - x.2.2) x.2.2 (Nat.le_refl _) g7.symm
    have hye : y.2.1 < e := by
      rcases Nat.lt_or_ge y.2.1 e with h | h
      · exact h
      · rw [tl_end h] at i1
        cases i1
    have hc := tk_cut g2 hen (by rw [← g5]; exact h2 x List.mem_cons_self) (by omega)
    rw [tl_tok (by omega) (by rw [g4]; exact fNt), hc, ← g6, ← g5]
    have hsk := tl_skip (T := T) (e := e) (y.2.1 - x.2.2) x.2.2 (fun j a b => f3 j a (by omega)) (by omega)
    rw [hsk, show x.2.2 + (y.2.1 - x.2.2) = y.2.1 by omega, i1]
