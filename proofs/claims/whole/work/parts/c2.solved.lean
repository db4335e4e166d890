/-! The reference's solver: how many solutions. -/
theorem bits_M (f : Nat → Bool) : f_X12_bits (msk 7 f) = some (nI ((List.range 7).countP f)) := by
  unfold f_X12_bits f_X12_bits_j4
  have h := lp_count (body := fun x : Int32 × Int32 => f_X12_bits_l4 (msk 7 f) x.1 x.2) (fun k => (nI ((List.range k).countP f), nI k)) (a := 0) (n := 7) (y := nI ((List.range 7).countP f)) (Nat.zero_le _) (by omega) (fun k _ hk => ?_) ?_
  · rw [show ((0 : Int32), (0 : Int32)) = (nI ((List.range 0).countP f), nI 0) from rfl, h]
    rfl
  · show f_X12_bits_l4 (msk 7 f) (nI ((List.range k).countP f)) (nI k) = _
    unfold f_X12_bits_l4
    rw [if_neg (show ¬ (7 : Int32) ≤ nI k from nI_ge (b := 7) hk (by omega)), lt_eq, lt_eq, msk_get hk (by omega), nI_1, List.range_succ, List.countP_append]
    simp only [List.countP_cons, List.countP_nil]
    cases f k
    · rw [show bI false = nI 0 from rfl, nI_add]
      simp
    · rw [show bI true = nI 1 from rfl, nI_add]
      simp
  · show f_X12_bits_l4 (msk 7 f) (nI ((List.range 7).countP f)) (nI 7) = _
    unfold f_X12_bits_l4
    rw [if_pos (by decide)]
theorem fewest_M {s n d : Nat} {m : Mi} {T : Nat → Nat} {G : Rg} {D : Nat → Nat → Bool} (hO : RO T n G) (hd : d ≤ 10) (hE : ME s m T n G) (hR : RWm m G d D) : ∃ r, f_X12_fewest TT m 870 (nI d) = some r ∧ ((r = -1 ∧ ∀ p, p < G.1.length → (List.range 7).countP (D p) ≤ 1) ∨ ∃ p, p < G.1.length ∧ r = nI p ∧ 1 < (List.range 7).countP (D p)) := by
  have hB1 := hO.2.1.1
  obtain ⟨hM, hs, h21, hRs⟩ := hE
  have w45 : gr m 870 45 = 903 := hM 45 (by omega)
  have key : ∀ (e k N : Nat) (b : Int32), k + e = G.1.length → e < N → ((b = -1 ∧ ∀ p, p < k → (List.range 7).countP (D p) ≤ 1) ∨ ∃ p, p < G.1.length ∧ b = nI p ∧ 1 < (List.range 7).countP (D p)) → ∃ r, lp (fun x : Int32 × Int32 => f_X12_fewest_l4 TT m 870 (nI d) x.1 x.2) N (b, nI k) = some r ∧ ((r = -1 ∧ ∀ p, p < G.1.length → (List.range 7).countP (D p) ≤ 1) ∨ ∃ p, p < G.1.length ∧ r = nI p ∧ 1 < (List.range 7).countP (D p)) := by
    intro e
    induction e with
    | zero =>
      intro k N b hk hN hi
      obtain ⟨N, rfl⟩ : ∃ y, N = y + 1 := ⟨N - 1, by omega⟩
      refine ⟨b, lp_exit ?_, hi.imp (fun h => ⟨h.1, fun p hp => h.2 p (by omega)⟩) id⟩
      show f_X12_fewest_l4 TT m 870 (nI d) b (nI k) = _
      unfold f_X12_fewest_l4
      rw [h21, hM.W.1, if_pos (ar_of s_881 hs (by omega)), ix_nI (by omega), hRs.1.1.1, if_pos (nI_le (by omega) (by omega))]
    | succ e ih =>
      intro k N b hk hN hi
      obtain ⟨N, rfl⟩ : ∃ y, N = y + 1 := ⟨N - 1, by omega⟩
      have hc7 := cnt7 (D k)
      have hstart : f_X12_fewest_l4 TT m 870 (nI d) b (nI k) = if nI ((List.range 7).countP (D k)) ≤ 1 then some (.inl (b, nI (k + 1))) else if b = -1 then some (.inl (nI k, nI (k + 1))) else (if ar TT 903 .int ((10 * nI d) + b) = true then (f_X12_bits (gi m 903 (ix ((10 * nI d) + b)))).bind fun x10 => if x10 ≤ nI ((List.range 7).countP (D k)) then some (.inl (b, nI (k + 1))) else some (.inl (nI k, nI (k + 1))) else none) := by
        unfold f_X12_fewest_l4
        rw [h21, hM.W.1, if_pos (ar_of s_881 hs (by omega)), ix_nI (n := s) (by omega), hRs.1.1.1, if_neg (nI_ge (by omega) (by omega)), w45, show (10 : Int32) = nI 10 from rfl, pk_mul, nI_add, if_pos (ar_of s_903 (by omega) (by omega)), ix_nI (n := 10 * d + k) (by omega), hR k (by omega), bits_M, Option.bind_some]
        simp only [lt_eq, nI_1]
      by_cases hle : (List.range 7).countP (D k) ≤ 1
      · rw [if_pos (show nI ((List.range 7).countP (D k)) ≤ 1 from nI_le (b := 1) hle (by omega))] at hstart
        rw [lp_step hstart]
        refine ih (k + 1) N b (by omega) (by omega) (hi.imp (fun h => ⟨h.1, fun p hp => ?_⟩) id)
        by_cases hpk : p = k
        · rw [hpk]; exact hle
        · exact h.2 p (by omega)
      · rw [if_neg (show ¬ nI ((List.range 7).countP (D k)) ≤ 1 from nI_ge (a := 1) (by omega) (by omega))] at hstart
        have hk' : ∃ p, p < G.1.length ∧ nI k = nI p ∧ 1 < (List.range 7).countP (D p) := ⟨k, by omega, rfl, by omega⟩
        by_cases hb : b = -1
        · rw [if_pos hb] at hstart
          rw [lp_step hstart]
          exact ih (k + 1) N (nI k) (by omega) (by omega) (Or.inr hk')
        · rw [if_neg hb] at hstart
          obtain ⟨p, hp, hbp, hp1⟩ := hi.resolve_left (fun h => hb h.1)
          rw [hbp, show (10 : Int32) = nI 10 from rfl, pk_mul, nI_add, if_pos (ar_of s_903 (by omega) (by omega)), ix_nI (by omega), hR p hp, bits_M, Option.bind_some] at hstart
          by_cases hle2 : nI ((List.range 7).countP (D p)) ≤ nI ((List.range 7).countP (D k))
          · rw [if_pos hle2] at hstart
            rw [hbp, lp_step hstart]
            exact ih (k + 1) N (nI p) (by omega) (by omega) (Or.inr ⟨p, hp, rfl, hp1⟩)
          · rw [if_neg hle2] at hstart
            rw [hbp, lp_step hstart]
            exact ih (k + 1) N (nI k) (by omega) (by omega) (Or.inr hk')
  obtain ⟨r, e1, e2⟩ := key G.1.length 0 FUEL (-1) (by omega) (by unfold FUEL; omega) (Or.inl ⟨rfl, fun p hp => by omega⟩)
  refine ⟨r, ?_, e2⟩
  unfold f_X12_fewest f_X12_fewest_j4
  rw [show ((-1 : Int32), (0 : Int32)) = (-1, nI 0) from rfl, e1]
  rfl
/-- the solutions with the values of D -/
def DSy (T : Nat → Nat) (G : Rg) (act : Nat → Bool) (D : Nat → Nat → Bool) : Nat → Nat → Bool := fun p v => D p v && sy T G act p v p v
def NRm (T : Nat → Nat) (G : Rg) (act : Nat → Bool) (D : Nat → Nat → Bool) : Nat := NS G.1.length (DSy T G act D) (bb T G act)
theorem SR_Sl {T : Nat → Nat} {G : Rg} {act : Nat → Bool} {D : Nat → Nat → Bool} (hV : DV G D) {f : Nat → Nat} : SR T G act D f ↔ Sl G.1.length (DSy T G act D) (bb T G act) f := by
  constructor
  · rintro ⟨h1, h2⟩
    refine ⟨fun p hp => ?_, fun p q hp hq hne => ?_⟩
    · unfold DSy
      have h := h2 p p hp hp
      unfold BT at h
      have h3 := (Bool.and_eq_true_iff.mp (Bool.and_eq_true_iff.mp (Bool.and_eq_true_iff.mp h).2).1).1
      rw [h1 p hp, h3]
      rfl
    · have h := h2 p q hp hq
      unfold BT at h
      exact (Bool.and_eq_true_iff.mp (Bool.and_eq_true_iff.mp h).2).1
  · rintro ⟨h1, h2⟩
    have h3 : ∀ p, p < G.1.length → D p (f p) = true := fun p hp => (Bool.and_eq_true_iff.mp (h1 p hp)).1
    refine ⟨h3, fun p q hp hq => ?_⟩
    unfold BT
    rw [decide_eq_true (hV q _ hq (h3 q hq)), Bool.true_and]
    by_cases hpq : p = q
    · subst hpq
      rw [(Bool.and_eq_true_iff.mp (h1 p hp)).2, decide_eq_true rfl]
      simp
    · have := h2 p q hp hq hpq
      unfold bb at this
      rw [this, decide_eq_true hpq]
      rfl
theorem NR_sift {T : Nat → Nat} {G : Rg} {act : Nat → Bool} {D D' : Nat → Nat → Bool} (hV : DV G D) (hV' : DV G D') (h : SfR T G act D D') : NRm T G act D = NRm T G act D' := by
  unfold NRm
  refine NS_congr (fun f => ?_)
  rw [← SR_Sl hV, ← SR_Sl hV']
  exact ⟨h.2 f, fun hf => ⟨fun p hp => h.1 _ _ (hf.1 p hp), hf.2⟩⟩
theorem NR_zero {T : Nat → Nat} {G : Rg} {act : Nat → Bool} {D : Nat → Nat → Bool} (hV : DV G D) (h : ∀ f, ¬ SR T G act D f) : NRm T G act D = 0 := NS_zero (fun f hf => h f ((SR_Sl hV).mpr hf))
def sTm (T : Nat → Nat) (G : Rg) (act : Nat → Bool) (D : Nat → Nat → Bool) (p : Nat) : Nat → Nat → Nat
  | 0, _ => 0
  | e + 1, t => NRm T G act (res D p t) + sTm T G act D p e (t + 1)
theorem NR_branch {T : Nat → Nat} {n : Nat} {G : Rg} (hO : RO T n G) {act : Nat → Bool} {D : Nat → Nat → Bool} {p : Nat} (hV : DV G D) (hp : p < G.1.length) : NRm T G act D = sTm T G act D p 7 0 := by
  unfold NRm
  rw [NS_branch hp (fun v hv => by have := hV p v hp (Bool.and_eq_true_iff.mp hv).1; have := hO.2.2.2.1.1 p; omega)]
  have e : ∀ v, NS G.1.length (res (DSy T G act D) p v) (bb T G act) = NRm T G act (res D p v) := by
    intro v
    unfold NRm
    congr 1
    funext q u
    unfold res DSy
    by_cases hqp : q = p
    · simp only [if_pos hqp]
      rw [hqp, Bool.and_assoc, Bool.and_assoc, Bool.and_comm (sy T G act p u p u)]
    · simp only [if_neg hqp]
  simp only [e]
  rw [show List.range 7 = [0, 1, 2, 3, 4, 5, 6] from rfl]
  simp only [List.map_cons, List.map_nil, List.sum_cons, List.sum_nil]
  rfl
theorem res_DV {G : Rg} {D : Nat → Nat → Bool} {p v : Nat} (hV : DV G D) : DV G (res D p v) := fun q u hq hu => by
  unfold res at hu
  by_cases hqp : q = p
  · rw [if_pos hqp] at hu
    rw [hqp] at hq ⊢
    exact hV p u hq (Bool.and_eq_true_iff.mp hu).1
  · rw [if_neg hqp] at hu
    exact hV q u hq hu
theorem NR_closed {T : Nat → Nat} {G : Rg} {act : Nat → Bool} {D : Nat → Nat → Bool} {p v : Nat} (hV : DV G D) (hp : p < G.1.length) (h : D p v = false) : NRm T G act (res D p v) = 0 := by
  refine NR_zero (res_DV hV) (fun f hf => ?_)
  have h1 := hf.1 p hp
  unfold res at h1
  rw [if_pos rfl] at h1
  have h2 := Bool.and_eq_true_iff.mp h1
  rw [of_decide_eq_true h2.2, h] at h2
  cases h2.1
theorem cnt_le_one {f : Nat → Bool} {v w : Nat} : ∀ n, (List.range n).countP f ≤ 1 → v < n → w < n → f v = true → f w = true → v = w := by
  have pos : ∀ n u, u < n → f u = true → 1 ≤ (List.range n).countP f := fun n u hu hf => List.countP_pos_iff.mpr ⟨u, List.mem_range.mpr hu, hf⟩
  intro n
  induction n with
  | zero => intro _ hv; omega
  | succ n ih =>
    intro hc hv hw hfv hfw
    rw [List.range_succ, List.countP_append] at hc
    simp only [List.countP_cons, List.countP_nil] at hc
    by_cases h1 : v = n
    · by_cases h2 : w = n
      · omega
      · have := pos n w (by omega) hfw
        have hfn : f n = true := h1 ▸ hfv
        rw [if_pos hfn] at hc
        omega
    · by_cases h2 : w = n
      · have := pos n v (by omega) hfv
        have hfn : f n = true := h2 ▸ hfw
        rw [if_pos hfn] at hc
        omega
      · exact ih (by omega) (by omega) (by omega) hfv hfw
theorem NR_one {T : Nat → Nat} {n : Nat} {G : Rg} (hO : RO T n G) {act : Nat → Bool} {D : Nat → Nat → Bool} (hV : DV G D) (hA : AC T G act D) (h1 : ∀ p, p < G.1.length → (List.range 7).countP (D p) ≤ 1) : NRm T G act D = 1 := by
  have hch : ∀ p, ∃ v, p < G.1.length → v < 7 ∧ D p v = true := fun p => by
    by_cases hp : p < G.1.length
    · obtain ⟨v, hv⟩ := (hA p hp).2
      exact ⟨v, fun _ => hv⟩
    · exact ⟨0, fun z => absurd z hp⟩
  obtain ⟨x, hx⟩ := Classical.axiomOfChoice hch
  have D7 : ∀ p v, p < G.1.length → D p v = true → v < 7 := fun p v hp hv => by have := hV p v hp hv; have := hO.2.2.2.1.1 p; omega
  have uq : ∀ p v, p < G.1.length → D p v = true → v = x p := fun p v hp hv => cnt_le_one 7 (h1 p hp) (D7 p v hp hv) (hx p hp).1 hv (hx p hp).2
  unfold NRm
  refine NS_one x (fun p hp => (hx p hp).1) (fun f => ?_)
  rw [← SR_Sl hV]
  constructor
  · intro hf p hp
    exact uq p _ hp (hf.1 p hp)
  · intro hf
    refine ⟨fun p hp => by rw [hf p hp]; exact (hx p hp).2, fun p q hp hq => ?_⟩
    rw [hf p hp, hf q hq]
    obtain ⟨w, _, w2, w3⟩ := (hA p hp).1 (x p) (hx p hp).2 q hq
    rw [uq q w hq w3] at w2
    exact w2
def uD (np : Nat) (D : Nat → Nat → Bool) : Nat := ((List.range np).map (fun p => if 1 < (List.range 7).countP (D p) then 1 else 0)).sum
theorem uD_lt {np p : Nat} {D D' : Nat → Nat → Bool} (hp : p < np) (hle : ∀ q u, D' q u = true → D q u = true) (h1 : (List.range 7).countP (D' p) ≤ 1) (h2 : 1 < (List.range 7).countP (D p)) : uD np D' < uD np D := by
  unfold uD
  refine (sum_le_lt (g := fun q => if 1 < (List.range 7).countP (D' q) then 1 else 0) (h := fun q => if 1 < (List.range 7).countP (D q) then 1 else 0) (p := p) ?_ (fun q => ?_) (List.range np)).2 (List.mem_range.mpr hp)
  · show (if 1 < (List.range 7).countP (D' p) then 1 else 0) < (if 1 < (List.range 7).countP (D p) then 1 else 0)
    rw [if_neg (by omega), if_pos h2]
    omega
  · show (if 1 < (List.range 7).countP (D' q) then 1 else 0) ≤ (if 1 < (List.range 7).countP (D q) then 1 else 0)
    have := List.countP_mono_left (l := List.range 7) (fun u _ => hle q u)
    split
    · rw [if_pos (by omega)]; omega
    · split <;> omega
theorem uD_le (np : Nat) (D : Nat → Nat → Bool) : uD np D ≤ np := by
  unfold uD
  have : ∀ L : List Nat, (L.map (fun p => if 1 < (List.range 7).countP (D p) then 1 else 0)).sum ≤ L.length := by
    intro L
    induction L with
    | nil => simp
    | cons a L ih =>
      simp only [List.map_cons, List.sum_cons, List.length_cons]
      split <;> omega
  have h := this (List.range np)
  rw [List.length_range] at h
  exact h
theorem uD_pos {np p : Nat} {D : Nat → Nat → Bool} (hp : p < np) (h : 1 < (List.range 7).countP (D p)) : 1 ≤ uD np D := by
  unfold uD
  have := sum_ge (u := p) (g := fun p => if 1 < (List.range 7).countP (D p) then 1 else 0) (List.range np) (List.mem_range.mpr hp)
  have e : (if 1 < (List.range 7).countP (D p) then 1 else 0) = 1 := if_pos h
  have h2 : (if 1 < (List.range 7).countP (D p) then 1 else 0) ≤ _ := this
  rw [e] at h2
  exact h2
def Bd : Nat → Nat
  | 0 => 1
  | u + 1 => 8 * (Bd u + 1)
theorem Bd_10 : Bd 10 < 2 ^ 62 := by decide +kernel
theorem Bd_mono : ∀ u w, u ≤ w → Bd u ≤ Bd w := by
  intro u w h
  induction w with
  | zero => rw [show u = 0 by omega]; exact Nat.le_refl _
  | succ w ih =>
    by_cases he : u = w + 1
    · rw [he]; exact Nat.le_refl _
    · have := ih (by omega)
      show Bd u ≤ 8 * (Bd w + 1)
      omega
/-- what a level may change -/
def FS9 (d x j : Nat) : Prop := (x = 903 ∧ 10 * d + 10 ≤ j) ∨ (x = 905 ∧ d ≤ j) ∨ (x = 906 ∧ d + 1 ≤ j)
theorem next_v {s n d p t : Nat} {m : Mi} {T : Nat → Nat} {G : Rg} {D : Nat → Nat → Bool} {a1 a2 : Int32} (hO : RO T n G) (hd : d ≤ 9) (hE : ME s m T n G) (hR : RWm m G d D) (hp : p < G.1.length) : ∀ (e k N : Nat), k + e = 7 → e < N → t ≤ k → (∀ u, t ≤ u → u < k → D p u = false) → ∃ v, lp (fun x : Int32 => f_X12_solved_l65 TT m 870 a1 a2 (nI d) (nI p) x) N (nI k) = some (nI v) ∧ t ≤ v ∧ v ≤ 7 ∧ (∀ u, t ≤ u → u < v → D p u = false) ∧ (v < 7 → D p v = true) := by
  have hB1 := hO.2.1.1
  have w45 : gr m 870 45 = 903 := hE.1 45 (by omega)
  intro e
  induction e with
  | zero =>
    intro k N hk hN htk hall
    obtain ⟨N, rfl⟩ : ∃ y, N = y + 1 := ⟨N - 1, by omega⟩
    refine ⟨k, lp_exit ?_, htk, by omega, hall, fun h => by omega⟩
    show f_X12_solved_l65 TT m 870 a1 a2 (nI d) (nI p) (nI k) = _
    unfold f_X12_solved_l65
    rw [if_pos (show (6 : Int32) < nI k from nI_lt (a := 6) (by omega) (by omega))]
  | succ e ih =>
    intro k N hk hN htk hall
    obtain ⟨N, rfl⟩ : ∃ y, N = y + 1 := ⟨N - 1, by omega⟩
    have hbody : f_X12_solved_l65 TT m 870 a1 a2 (nI d) (nI p) (nI k) = if bI (D p k) = 0 then some (.inl (nI (k + 1))) else some (.inr (nI k)) := by
      unfold f_X12_solved_l65
      rw [if_neg (show ¬ (6 : Int32) < nI k from nI_nlt (a := 6) (by omega) (by omega)), w45, show (10 : Int32) = nI 10 from rfl, pk_mul, nI_add, if_pos (ar_of s_903 (by omega) (by omega)), ix_nI (by omega), hR p hp, msk_get (show k < 7 by omega) (by omega), lt_eq, nI_1]
    cases hD : D p k with
    | false =>
      rw [hD, if_pos bF] at hbody
      rw [lp_step hbody]
      exact ih (k + 1) N (by omega) (by omega) (by omega) (fun u h1 h2 => by
        by_cases huk : u = k
        · rw [huk]; exact hD
        · exact hall u h1 (by omega))
    | true =>
      rw [hD, if_neg bTr] at hbody
      exact ⟨k, lp_exit hbody, htk, by omega, hall, fun _ => hD⟩
theorem copyrow {s n d p : Nat} {T : Nat → Nat} {G : Rg} {D : Nat → Nat → Bool} {a1 a2 a5 : Int32} (hO : RO T n G) (hd : d ≤ 9) : ∀ (e k N : Nat) (m : Mi), k + e = G.1.length → e < N → ME s m T n G → RWm m G d D → (∀ q, q < k → gi m 903 (10 * (d + 1) + q) = msk 7 (D q)) → ∃ m', lp (fun x : Int32 × Mi => f_X12_solved_l126 TT x.2 870 a1 a2 (nI d) (nI p) a5 x.1) N (nI k, m) = some m' ∧ FI (fun x j => x = 903 ∧ 10 * d + 10 ≤ j ∧ j < 10 * d + 20) m m' ∧ RWm m' G (d + 1) D := by
  have hB := hO.2.1
  have hB1 := hB.1
  intro e
  induction e with
  | zero =>
    intro k N m hk hN hE hR h
    obtain ⟨N, rfl⟩ : ∃ y, N = y + 1 := ⟨N - 1, by omega⟩
    refine ⟨m, lp_exit ?_, FI.rf, fun q hq => h q (by omega)⟩
    show f_X12_solved_l126 TT m 870 a1 a2 (nI d) (nI p) a5 (nI k) = _
    unfold f_X12_solved_l126
    rw [hE.2.2.1, hE.1.W.1, if_pos (ar_of s_881 hE.2.1 (by omega)), ix_nI (by have := hE.2.1; omega), hE.2.2.2.1.1.1, if_pos (nI_le (by omega) (by omega))]
  | succ e ih =>
    intro k N m hk hN hE hR h
    obtain ⟨N, rfl⟩ : ∃ y, N = y + 1 := ⟨N - 1, by omega⟩
    have w45 : gr m 870 45 = 903 := hE.1 45 (by omega)
    have hs := hE.2.1
    have hbody : f_X12_solved_l126 TT m 870 a1 a2 (nI d) (nI p) a5 (nI k) = some (.inl (nI (k + 1), si m 903 (10 * (d + 1) + k) (msk 7 (D k)))) := by
      unfold f_X12_solved_l126
      rw [hE.2.2.1, hE.1.W.1, if_pos (ar_of s_881 hs (by omega)), ix_nI (n := s) (by omega), hE.2.2.2.1.1.1, if_neg (nI_ge (by omega) (by omega)), w45, show (10 : Int32) = nI 10 from rfl, pk_mul, nI_add, nI_add, nI_add, if_pos (ar_of s_903 (by omega) (by omega)), if_pos (ar_of s_903 (by omega) (by omega)), lt_eq, lt_eq, ix_nI (n := 10 * d + k) (by omega), ix_nI (n := 10 * d + 10 + k) (by omega), hR k (by omega), nI_1, show 10 * d + 10 + k = 10 * (d + 1) + k by omega]
    rw [lp_step hbody]
    have f1 : FI (fun x j => x = 903 ∧ 10 * d + 10 ≤ j ∧ j < 10 * d + 20) m (si m 903 (10 * (d + 1) + k) (msk 7 (D k))) := FI.si (P := fun x j => x = 903 ∧ 10 * d + 10 ≤ j ∧ j < 10 * d + 20) ⟨rfl, by omega, by omega⟩
    obtain ⟨m', e2, f2, g2⟩ := ih (k + 1) N _ (by omega) (by omega) (hE.keep hB f1 (fun x j z => by omega)) (fun q hq => (f1.1 _ _ (by omega)).trans (hR q hq)) (fun q hq => by
      by_cases hqk : q = k
      · rw [hqk]; exact gi_si _ _ _ _
      · simp only [mS]; rw [if_neg (by omega)]; exact h q (by omega))
    exact ⟨m', e2, f1.tr f2, g2⟩
theorem sT_skip {T : Nat → Nat} {G : Rg} {act : Nat → Bool} {D : Nat → Nat → Bool} {p : Nat} (hV : DV G D) (hp : p < G.1.length) : ∀ (e t v : Nat), v = t + e → v ≤ 7 → (∀ u, t ≤ u → u < v → D p u = false) → sTm T G act D p (7 - t) t = sTm T G act D p (7 - v) v := by
  intro e
  induction e with
  | zero => intro t v h _ _; rw [show v = t by omega]
  | succ e ih =>
    intro t v h h7 hall
    rw [show 7 - t = (7 - (t + 1)) + 1 by omega, sTm, NR_closed hV hp (hall t (Nat.le_refl _) (by omega)), Nat.zero_add]
    exact ih (t + 1) v (by omega) h7 (fun u h1 h2 => hall u (by omega) h2)
abbrev bdy (most : Nat) : Int32 × Int32 × Mi → Option ((Int32 × Int32 × Mi) ⊕ ((Int32 × Mi) ⊕ (Int32 × Mi))) := fun x => f_X12_solved_l43 TT x.2.2 870 (nI most) x.1 x.2.1
theorem level {s n most : Nat} {T : Nat → Nat} {G : Rg} {act : Nat → Bool} (hO : RO T n G) (hm : most ≤ 1000) :
    ∀ (u : Nat) (e d t a p : Nat) (m : Mi) (D : Nat → Nat → Bool), uD G.1.length D ≤ u → d + uD G.1.length D ≤ 10 → 7 - t ≤ e → t ≤ 7 → ME s m T n G → PBo m T G act → RWm m G d D → DV G D → AC T G act D → gi m 906 d = nI p → p < G.1.length → 1 < (List.range 7).countP (D p) → gi m 905 d = nI t - 1 → a < most →
    ∃ j m', j ≤ e * (Bd (u - 1) + 1) + 1 ∧ FI (FS9 d) m m' ∧ ((a + sTm T G act D p (7 - t) t < most ∧ ∀ N, lp (bdy most) (N + j) (nI a, nI d, m) = lp (bdy most) N (nI (a + sTm T G act D p (7 - t) t), nI d - 1, m')) ∨ (most ≤ a + sTm T G act D p (7 - t) t ∧ ∀ N, lp (bdy most) (N + j) (nI a, nI d, m) = some (.inr (nI most, m')))) := by
  have hB := hO.2.1
  have hB1 := hB.1
  intro u
  induction u with
  | zero =>
    intro e d t a p m D hu
    intros
    rename_i hpl h1 _ _
    have := uD_pos hpl h1
    omega
  | succ u ihu =>
    intro e
    induction e with
    | zero =>
      intro d t a p m D hu hdu he ht hE hP hR hV hA hat hp h1 htr ha
      have hup := uD_pos hp h1
      have w48 : gr m 870 48 = 906 := hE.1 48 (by omega)
      have w47 : gr m 870 47 = 905 := hE.1 47 (by omega)
      have ht7 : t = 7 := by omega
      subst ht7
      obtain ⟨v, ev, _, _, _, _⟩ := next_v (t := 7) (a1 := nI most) (a2 := nI a) hO (show d ≤ 9 by omega) hE hR hp 0 7 FUEL (by omega) (by unfold FUEL; omega) (Nat.le_refl _) (fun u h1 h2 => by omega)
      have hv7 : v = 7 := by omega
      subst hv7
      have hbody : bdy most (nI a, nI d, m) = some (.inl (nI a, nI d - 1, si m 905 d (nI 7))) := by
        show f_X12_solved_l43 TT m 870 (nI most) (nI a) (nI d) = _
        unfold f_X12_solved_l43 f_X12_solved_j65
        rw [if_neg (nI_pos (by omega)), w48, if_pos (ar_of s_906 (by omega) (by omega)), lt_eq, w47, if_pos (ar_of s_905 (by omega) (by omega)), lt_eq, ix_nI (by omega), hat, htr, Int32.sub_add_cancel, ev, Option.bind_some]
        unfold f_X12_solved_j101
        rw [w47, if_pos (ar_of s_905 (by omega) (by omega)), lt_eq, ix_nI (by omega), if_neg (show ¬ nI 7 ≤ 6 by decide), lt_eq]
      refine ⟨1, si m 905 d (nI 7), by omega, FI.si (P := FS9 d) (by unfold FS9; omega), Or.inl ⟨?_, fun N => ?_⟩⟩
      · show a + 0 < most
        omega
      · rw [lp_step hbody]
        rfl
    | succ e ihe =>
      intro d t a p m D hu hdu he ht hE hP hR hV hA hat hp h1 htr ha
      have hup := uD_pos hp h1
      have hd9 : d ≤ 9 := by omega
      have w48 : gr m 870 48 = 906 := hE.1 48 (by omega)
      have w47 : gr m 870 47 = 905 := hE.1 47 (by omega)
      have w45 : gr m 870 45 = 903 := hE.1 45 (by omega)
      obtain ⟨v, ev, tv, v7, vcl, vop⟩ := next_v (t := t) (a1 := nI most) (a2 := nI a) hO hd9 hE hR hp (7 - t) t FUEL (by omega) (by unfold FUEL; omega) (Nat.le_refl _) (fun u h1 h2 => by omega)
      have hsk := sT_skip (T := T) (act := act) hV hp (v - t) t v (by omega) v7 vcl
      have hstart : f_X12_solved_l43 TT m 870 (nI most) (nI a) (nI d) = if nI v ≤ 6 then f_X12_solved_j126 TT (si m 905 d (nI v)) 870 (nI most) (nI a) (nI d) (nI p) (nI v) 0 else some (.inl (nI a, nI d - 1, si m 905 d (nI v))) := by
        unfold f_X12_solved_l43 f_X12_solved_j65
        rw [if_neg (nI_pos (by omega)), w48, if_pos (ar_of s_906 (by omega) (by omega)), lt_eq, w47, if_pos (ar_of s_905 (by omega) (by omega)), lt_eq, ix_nI (by omega), hat, htr, Int32.sub_add_cancel, ev, Option.bind_some]
        unfold f_X12_solved_j101
        rw [w47, if_pos (ar_of s_905 (by omega) (by omega)), lt_eq, ix_nI (by omega), lt_eq]
      by_cases hv7 : v = 7
      · rw [if_neg (show ¬ nI v ≤ 6 by rw [hv7]; decide)] at hstart
        rw [hsk, hv7]
        have hz : sTm T G act D p (7 - 7) 7 = 0 := rfl
        rw [hz]
        refine ⟨1, si m 905 d (nI v), Nat.le_add_left _ _, FI.si (P := FS9 d) (by unfold FS9; omega), Or.inl ⟨by omega, fun N => ?_⟩⟩
        rw [lp_step (show bdy most (nI a, nI d, m) = _ from hstart)]
        rfl
      · have hv6 : v ≤ 6 := by omega
        have hDv := vop (by omega)
        rw [if_pos (show nI v ≤ 6 from nI_le (b := 6) hv6 (by omega))] at hstart
        -- the row behind
        have f1 : FI (FS9 d) m (si m 905 d (nI v)) := FI.si (P := FS9 d) (by unfold FS9; omega)
        have hE1 := hE.keep hB f1 (fun x j z => by unfold FS9 at z; omega)
        have hR1 : RWm (si m 905 d (nI v)) G d D := fun q hq => (f1.1 _ _ (by unfold FS9; omega)).trans (hR q hq)
        have hP1 : PBo (si m 905 d (nI v)) T G act := fun x y z h1 h2 h3 => (f1.1 _ _ (by unfold FS9; omega)).trans (hP x y z h1 h2 h3)
        have t1 : gi (si m 905 d (nI v)) 905 d = nI v := gi_si _ _ _ _
        have at1 : gi (si m 905 d (nI v)) 906 d = nI p := (f1.1 _ _ (by unfold FS9; omega)).trans hat
        generalize si m 905 d (nI v) = m1 at *
        obtain ⟨m2, e2, f2, r2⟩ := copyrow (p := p) (a1 := nI most) (a2 := nI a) (a5 := nI v) hO hd9 G.1.length 0 FUEL m1 (by omega) (by unfold FUEL; omega) hE1 hR1 (fun q hq => by omega)
        unfold f_X12_solved_j126 at hstart
        rw [show ((0 : Int32), m1) = (nI 0, m1) from rfl, e2, Option.bind_some] at hstart
        have hE2 := hE1.keep hB f2 (fun x j z => by omega)
        have w45' : gr m2 870 45 = 903 := hE2.1 45 (by omega)
        unfold f_X12_solved_j173 at hstart
        rw [w45', show (10 : Int32) = nI 10 from rfl, pk_mul, nI_add, nI_add, if_pos (ar_of s_903 (by omega) (by omega)), lt_eq, ix_nI (by omega), one_msk (show v < 7 by omega) (by omega), nI_1] at hstart
        have f3 : FI (FS9 d) m2 (si m2 903 (10 * d + 10 + p) (msk 7 (fun i => decide (i = v)))) := FI.si (P := FS9 d) (by unfold FS9; omega)
        have hE3 := hE2.keep hB f3 (fun x j z => by unfold FS9 at z; omega)
        have f2' : FI (FS9 d) m1 m2 := f2.mono (fun x j z => by unfold FS9; omega)
        have f13 := (f1.tr f2').tr f3
        have hR3 : RWm (si m2 903 (10 * d + 10 + p) (msk 7 (fun i => decide (i = v)))) G (d + 1) (res D p v) := fun q hq => by
          by_cases hqp : q = p
          · rw [hqp, show 10 * (d + 1) + p = 10 * d + 10 + p by omega, gi_si]
            refine msk_congr (fun i _ => ?_)
            unfold res
            rw [if_pos rfl]
            by_cases hiv : i = v
            · rw [hiv, hDv]; rfl
            · rw [decide_eq_false hiv, Bool.and_false]
          · simp only [mS]
            rw [if_neg (by omega), r2 q hq]
            refine msk_congr (fun i _ => ?_)
            unfold res
            rw [if_neg hqp]
        have hP3 : PBo (si m2 903 (10 * d + 10 + p) (msk 7 (fun i => decide (i = v)))) T G act := fun x y z h1 h2 h3 => (f3.1 _ _ (by unfold FS9; omega)).trans ((f2'.1 _ _ (by unfold FS9; omega)).trans (hP1 x y z h1 h2 h3))
        have t3 : gi (si m2 903 (10 * d + 10 + p) (msk 7 (fun i => decide (i = v)))) 905 d = nI v := (by simp only [mS]; rw [if_neg (by omega)]; exact (f2.1 _ _ (by omega)).trans t1)
        have at3 : gi (si m2 903 (10 * d + 10 + p) (msk 7 (fun i => decide (i = v)))) 906 d = nI p := (by simp only [mS]; rw [if_neg (by omega)]; exact (f2.1 _ _ (by omega)).trans at1)
        have hR3d : RWm (si m2 903 (10 * d + 10 + p) (msk 7 (fun i => decide (i = v)))) G d D := fun q hq => (by simp only [mS]; rw [if_neg (by omega)]; exact (f2.1 _ _ (by omega)).trans (hR1 q hq))
        generalize si m2 903 (10 * d + 10 + p) (msk 7 (fun i => decide (i = v))) = m3 at *
        have hVr : DV G (res D p v) := res_DV hV
        obtain ⟨r, D', m4, e4, f4, r4, v4, s4, ok4, no4⟩ := sifts_M (act := act) hO (show d + 1 ≤ 10 by omega) hE3 hP3 hR3 hVr
        rw [e4, bd_some] at hstart
        have f4' : FI (FS9 d) m3 m4 := f4.mono (fun x j z => by unfold FS9; omega)
        have hE4 := hE3.keep hB f4' (fun x j z => by unfold FS9 at z; omega)
        have hP4 : PBo m4 T G act := fun x y z h1 h2 h3 => (f4.1 _ _ (by omega)).trans (hP3 x y z h1 h2 h3)
        have hR4d : RWm m4 G d D := fun q hq => (f4.1 _ _ (by omega)).trans (hR3d q hq)
        have t4 : gi m4 905 d = nI (v + 1) - 1 := by rw [nI_pred]; exact (f4.1 _ _ (by omega)).trans t3
        have at4 : gi m4 906 d = nI p := (f4.1 _ _ (by omega)).trans at3
        have f14 := f13.tr f4'
        have hsum : sTm T G act D p (7 - t) t = NRm T G act (res D p v) + sTm T G act D p (7 - (v + 1)) (v + 1) := by
          rw [hsk, show 7 - v = (7 - (v + 1)) + 1 by omega, sTm]
        have hnr : NRm T G act (res D p v) = NRm T G act D' := NR_sift hVr v4 s4
        -- going on at this level
        have goon : ∀ (b : Nat) (m5 : Mi) (j5 : Nat), b < most → FI (FS9 d) m m5 → ME s m5 T n G → PBo m5 T G act → RWm m5 G d D → gi m5 906 d = nI p → gi m5 905 d = nI (v + 1) - 1 → b = a + NRm T G act (res D p v) → j5 ≤ Bd u + 1 → (∀ N, lp (bdy most) (N + j5) (nI a, nI d, m) = lp (bdy most) N (nI b, nI d, m5)) → ∃ j m', j ≤ (e + 1) * (Bd (u + 1 - 1) + 1) + 1 ∧ FI (FS9 d) m m' ∧ ((a + sTm T G act D p (7 - t) t < most ∧ ∀ N, lp (bdy most) (N + j) (nI a, nI d, m) = lp (bdy most) N (nI (a + sTm T G act D p (7 - t) t), nI d - 1, m')) ∨ (most ≤ a + sTm T G act D p (7 - t) t ∧ ∀ N, lp (bdy most) (N + j) (nI a, nI d, m) = some (.inr (nI most, m')))) := by
          intro b m5 j5 hb f5 E5 P5 R5 a5 t5 hbe hj5 hlp
          obtain ⟨j6, m6, hj6, f6, g6⟩ := ihe d (v + 1) b p m5 D hu hdu (by omega) (by omega) E5 P5 R5 hV hA a5 hp h1 t5 hb
          have esum : b + sTm T G act D p (7 - (v + 1)) (v + 1) = a + sTm T G act D p (7 - t) t := by rw [hsum]; omega
          rw [esum] at g6
          have huu : u + 1 - 1 = u := by omega
          rw [huu] at hj6 ⊢
          have hmul : (e + 1) * (Bd u + 1) = e * (Bd u + 1) + (Bd u + 1) := Nat.succ_mul e _
          refine ⟨j6 + j5, m6, by omega, f5.tr f6, g6.imp (fun h => ⟨h.1, fun N => ?_⟩) (fun h => ⟨h.1, fun N => ?_⟩)⟩
          · rw [← Nat.add_assoc, hlp (N + j6)]
            exact h.2 N
          · rw [← Nat.add_assoc, hlp (N + j6)]
            exact h.2 N
        cases r with
        | false =>
          rw [if_pos bF] at hstart
          have hz : NRm T G act (res D p v) = 0 := NR_zero hVr (no4 rfl)
          exact goon a m4 1 ha f14 hE4 hP4 hR4d at4 t4 (by omega) (by omega) (fun N => lp_step (show bdy most (nI a, nI d, m) = _ from hstart))
        | true =>
          rw [if_neg bTr] at hstart
          have hAC := ok4 rfl
          obtain ⟨rf, ef, gf⟩ := fewest_M hO (show d + 1 ≤ 10 by omega) hE4 r4
          rw [ef, Option.bind_some] at hstart
          rcases gf with ⟨hr1, hall1⟩ | ⟨p', hp', hr1, hp1'⟩
          · -- one solution more
            have hone : NRm T G act (res D p v) = 1 := by rw [hnr]; exact NR_one hO v4 hAC hall1
            rw [if_pos hr1, lt_eq, nI_1] at hstart
            by_cases hfull : a + 1 = most
            · rw [if_pos (by rw [hfull])] at hstart
              refine ⟨1, m4, Nat.le_add_left _ _, f14, Or.inr ⟨by rw [hsum, hone]; omega, fun N => ?_⟩⟩
              rw [lp_exit (show bdy most (nI a, nI d, m) = _ from hstart), hfull]
            · rw [if_neg (fun z => hfull ((nI_eq (by omega) (by omega)).mp z))] at hstart
              exact goon (a + 1) m4 1 (by omega) f14 hE4 hP4 hR4d at4 t4 (by omega) (by omega) (fun N => lp_step (show bdy most (nI a, nI d, m) = _ from hstart))
          · -- a level deeper
            rw [if_neg (show ¬ rf = -1 by rw [hr1]; exact nneg (by omega)), lt_eq, hr1, show gr m4 870 48 = 906 from hE4.1 48 (by omega), if_pos (ar_of s_906 (by omega) (by omega)), lt_eq, ix_nI (by omega), show gr (si m4 906 (d + 1) (nI p')) 870 47 = 905 from hE4.1 47 (by omega), if_pos (ar_of s_905 (by omega) (by omega)), lt_eq] at hstart
            have f5 : FI (FS9 d) m4 (si (si m4 906 (d + 1) (nI p')) 905 (d + 1) (-1)) := (FI.si (P := FS9 d) (by unfold FS9; omega)).tr (FI.si (P := FS9 d) (by unfold FS9; omega))
            have hE5 := hE4.keep hB f5 (fun x j z => by unfold FS9 at z; omega)
            have hP5 : PBo (si (si m4 906 (d + 1) (nI p')) 905 (d + 1) (-1)) T G act := fun x y z h1 h2 h3 => (f5.1 _ _ (by unfold FS9; omega)).trans (hP4 x y z h1 h2 h3)
            have hR5 : RWm (si (si m4 906 (d + 1) (nI p')) 905 (d + 1) (-1)) G (d + 1) D' := fun q hq => (by simp only [mS]; rw [if_neg (by omega), if_neg (by omega)]; exact r4 q hq)
            have hR5d : RWm (si (si m4 906 (d + 1) (nI p')) 905 (d + 1) (-1)) G d D := fun q hq => (by simp only [mS]; rw [if_neg (by omega), if_neg (by omega)]; exact hR4d q hq)
            have at5 : gi (si (si m4 906 (d + 1) (nI p')) 905 (d + 1) (-1)) 906 (d + 1) = nI p' := (by simp only [mS]; rw [if_neg (by omega), if_pos ⟨trivial, trivial⟩])
            have t5 : gi (si (si m4 906 (d + 1) (nI p')) 905 (d + 1) (-1)) 905 (d + 1) = nI 0 - 1 := (gi_si _ _ _ _).trans (by decide)
            have at5d : gi (si (si m4 906 (d + 1) (nI p')) 905 (d + 1) (-1)) 906 d = nI p := (by simp only [mS]; rw [if_neg (by omega), if_neg (by omega)]; exact at4)
            have t5d : gi (si (si m4 906 (d + 1) (nI p')) 905 (d + 1) (-1)) 905 d = nI (v + 1) - 1 := (by simp only [mS]; rw [if_neg (by omega), if_neg (by omega)]; exact t4)
            generalize si (si m4 906 (d + 1) (nI p')) 905 (d + 1) (-1) = m5 at *
            have hsubD : ∀ q u, D' q u = true → D q u = true := fun q u hu => by
              have := s4.1 q u hu
              unfold res at this
              by_cases hqp : q = p
              · rw [if_pos hqp] at this
                rw [hqp]
                exact (Bool.and_eq_true_iff.mp this).1
              · rw [if_neg hqp] at this; exact this
            have hDp1 : (List.range 7).countP (D' p) ≤ 1 := by
              have hmono := List.countP_mono_left (l := List.range 7) (p := D' p) (q := fun i => decide (i = v)) (fun i _ hi => by
                have := s4.1 p i hi
                unfold res at this
                rw [if_pos rfl] at this
                exact (Bool.and_eq_true_iff.mp this).2)
              have h1v : (List.range 7).countP (fun i => decide (i = v)) ≤ 1 := by
                rw [← sum_cnt]
                have := sum_pick (u := v) (a := 1) 7
                have e : (fun b => if decide (b = v) = true then 1 else 0) = (fun b => if b = v then 1 else 0) := by
                  funext b
                  by_cases hb : b = v
                  · rw [if_pos (decide_eq_true hb), if_pos hb]
                  · rw [if_neg (by rw [decide_eq_false hb]; exact Bool.false_ne_true), if_neg hb]
                rw [e, this]
                split <;> omega
              omega
            have hult := uD_lt hp hsubD hDp1 h1
            obtain ⟨j6, m6, hj6, f6, g6⟩ := ihu 7 (d + 1) 0 a p' m5 D' (by omega) (by omega) (by omega) (by omega) hE5 hP5 hR5 v4 hAC at5 hp' hp1' t5 ha
            have hs7 : sTm T G act D' p' (7 - 0) 0 = NRm T G act (res D p v) := by rw [hnr, NR_branch hO v4 hp']
            rw [hs7, nI_pred] at g6
            have hj6' : j6 ≤ Bd u := by
              cases u with
              | zero =>
                have := uD_pos hp' hp1'
                omega
              | succ u' =>
                show j6 ≤ 8 * (Bd u' + 1)
                have : u' + 1 - 1 = u' := by omega
                rw [this] at hj6
                omega
            have f6' : FI (FS9 d) m5 m6 := f6.mono (fun x j z => by unfold FS9 at *; omega)
            have f16 : FI (FS9 d) m m6 := (f14.tr f5).tr f6'
            have hstep : ∀ N, lp (bdy most) (N + j6 + 1) (nI a, nI d, m) = lp (bdy most) (N + j6) (nI a, nI (d + 1), m5) := fun N => lp_step (show bdy most (nI a, nI d, m) = _ from hstart)
            rcases g6 with ⟨hlt, hgo⟩ | ⟨hge, hgo⟩
            · exact goon (a + NRm T G act (res D p v)) m6 (j6 + 1) hlt f16 (hE5.keep hB f6 (fun x j z => by unfold FS9 at z; omega)) (fun x y z h1 h2 h3 => (f6.1 _ _ (by unfold FS9; omega)).trans (hP5 x y z h1 h2 h3)) (fun q hq => (f6.1 _ _ (by unfold FS9; omega)).trans (hR5d q hq)) ((f6.1 _ _ (by unfold FS9; omega)).trans at5d) ((f6.1 _ _ (by unfold FS9; omega)).trans t5d) rfl (by omega) (fun N => by rw [← Nat.add_assoc, hstep N]; exact hgo N)
            · have huu : u + 1 - 1 = u := by omega
              rw [huu]
              have hmul : (e + 1) * (Bd u + 1) = e * (Bd u + 1) + (Bd u + 1) := Nat.succ_mul e _
              refine ⟨j6 + 1, m6, by omega, f16, Or.inr ⟨by rw [hsum]; omega, fun N => ?_⟩⟩
              rw [← Nat.add_assoc, hstep N]
              exact hgo N
