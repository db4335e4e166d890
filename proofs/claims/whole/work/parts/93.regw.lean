/-! What holds of a registry while it is read. -/
/-- packages have their releases in a row, releases their links -/
def IW (G : Rg) : Prop :=
  (∀ x ∈ G.2.1, x.1 < G.1.length) ∧
  (∀ p y, G.1[p]? = some y → y.2.2 + cntR G.2.1 p ≤ G.2.1.length ∧ ∀ r x, G.2.1[r]? = some x → (x.1 = p ↔ y.2.2 ≤ r ∧ r < y.2.2 + cntR G.2.1 p)) ∧
  (∀ y, G.1[G.1.length - 1]? = some y → y.2.2 + cntR G.2.1 (G.1.length - 1) = G.2.1.length) ∧
  (∀ z ∈ G.2.2, z.1 ≠ 4 → z.2.1 < G.2.1.length) ∧
  (∀ r x, G.2.1[r]? = some x → x.2.2.2 + cntL G.2.2 r ≤ G.2.2.length ∧ ∀ c z, G.2.2[c]? = some z → (z.1 ≠ 4 ∧ z.2.1 = r ↔ x.2.2.2 ≤ c ∧ c < x.2.2.2 + cntL G.2.2 r)) ∧
  (∀ c z, G.2.2[c]? = some z → (z.1 = 4 ↔ lnkN G.2.2 ≤ c))
/-- and no want yet: the last release's links are at the end -/
def IL (G : Rg) : Prop := lnkN G.2.2 = G.2.2.length ∧ ∀ x, G.2.1[G.2.1.length - 1]? = some x → x.2.2.2 + cntL G.2.2 (G.2.1.length - 1) = G.2.2.length
theorem cntR_app (R : List RlT) (x : RlT) (p : Nat) : cntR (R ++ [x]) p = cntR R p + if x.1 = p then 1 else 0 := by
  unfold cntR
  rw [List.countP_append]
  by_cases h : x.1 = p
  · rw [if_pos h]; simp [List.countP_cons, h]
  · rw [if_neg h]; simp [List.countP_cons, h]
theorem cntL_app (C : List CnT) (x : CnT) (r : Nat) : cntL (C ++ [x]) r = cntL C r + if x.1 ≠ 4 ∧ x.2.1 = r then 1 else 0 := by
  unfold cntL
  rw [List.countP_append]
  by_cases h : x.1 ≠ 4 ∧ x.2.1 = r
  · rw [if_pos h]; simp [List.countP_cons, h.1, h.2]
  · rw [if_neg h]
    simp only [List.countP_cons, List.countP_nil]
    rw [if_neg (by rw [decide_eq_true_eq]; exact h)]
theorem lnkN_app (C : List CnT) (x : CnT) : lnkN (C ++ [x]) = lnkN C + if x.1 ≠ 4 then 1 else 0 := by
  unfold lnkN
  rw [List.countP_append]
  by_cases h : x.1 ≠ 4
  · rw [if_pos h]; simp [List.countP_cons, h]
  · rw [if_neg h]
    simp only [List.countP_cons, List.countP_nil]
    rw [if_neg (by rw [decide_eq_true_eq]; exact h)]
theorem cntR_zero {R : List RlT} {p : Nat} (h : ∀ x ∈ R, x.1 < p) : cntR R p = 0 := by
  unfold cntR
  rw [List.countP_eq_zero]
  intro x hx
  rw [decide_eq_true_eq]
  have := h x hx
  omega
theorem cntL_zero {C : List CnT} {r : Nat} (h : ∀ z ∈ C, z.1 ≠ 4 → z.2.1 < r) : cntL C r = 0 := by
  unfold cntL
  rw [List.countP_eq_zero]
  intro x hx
  rw [decide_eq_true_eq]
  intro e
  have := h x hx e.1
  omega
theorem lnkN_le (C : List CnT) : lnkN C ≤ C.length := List.countP_le_length
theorem app_get {α : Type} {l : List α} {y x : α} {j : Nat} (h : (l ++ [y])[j]? = some x) : (j < l.length ∧ l[j]? = some x) ∨ (j = l.length ∧ x = y) := by
  rcases Nat.lt_or_ge j l.length with hj | hj
  · rw [List.getElem?_append_left hj] at h
    exact Or.inl ⟨hj, h⟩
  · rw [List.getElem?_append_right hj] at h
    right
    have hj2 : j - l.length = 0 := by
      rcases Nat.eq_zero_or_pos (j - l.length) with h0 | h0
      · exact h0
      · rw [List.getElem?_eq_none (by simp; omega)] at h
        cases h
    rw [hj2] at h
    exact ⟨by omega, (Option.some.inj h).symm⟩
theorem get_lt {α : Type} {l : List α} {x : α} {j : Nat} (h : l[j]? = some x) : j < l.length := by
  rcases Nat.lt_or_ge j l.length with hj | hj
  · exact hj
  · rw [List.getElem?_eq_none hj] at h; cases h
theorem get_app {α : Type} {l : List α} {y x : α} {j : Nat} (h : l[j]? = some x) : (l ++ [y])[j]? = some x := by
  rw [List.getElem?_append_left (get_lt h)]
  exact h
theorem IW_nil : IW ([], ([], [])) := ⟨fun x hx => (by cases hx), fun p y h => by simp at h, fun y h => by simp at h, fun x hx => (by cases hx), fun p y h => by simp at h, fun p y h => by simp at h⟩
theorem IL_nil : IL ([], ([], [])) := ⟨rfl, fun x h => by simp at h⟩
theorem IW_addP {G : Rg} {a b : Nat} (h : IW G) : IW (addP a b G) := by
  obtain ⟨h1, h2, h3, h4, h5, h6⟩ := h
  have hz : cntR G.2.1 G.1.length = 0 := cntR_zero h1
  refine ⟨fun x hx => ?_, fun p y hp => ?_, fun y hy => ?_, h4, h5, h6⟩
  · have := h1 x hx
    show x.1 < (G.1 ++ [_]).length
    rw [List.length_append, List.length_singleton]
    omega
  · rcases app_get hp with ⟨hj, hp⟩ | ⟨hj, hp⟩
    · exact h2 p y hp
    · rw [hp, hj]
      show G.2.1.length + cntR G.2.1 G.1.length ≤ G.2.1.length ∧ ∀ r x, G.2.1[r]? = some x → (x.1 = G.1.length ↔ G.2.1.length ≤ r ∧ r < G.2.1.length + cntR G.2.1 G.1.length)
      rw [hz]
      refine ⟨Nat.le_refl _, fun r x hr => ?_⟩
      have := h1 x (List.mem_of_getElem? hr)
      have := get_lt hr
      omega
  · have hl : (addP a b G).1.length - 1 = G.1.length := by
      show (G.1 ++ [_]).length - 1 = _
      rw [List.length_append, List.length_singleton]
      omega
    rw [hl] at hy ⊢
    rcases app_get hy with ⟨hj, _⟩ | ⟨_, hy⟩
    · omega
    · rw [hy]
      show G.2.1.length + cntR G.2.1 G.1.length = G.2.1.length
      rw [hz, Nat.add_zero]
theorem IW_addR {G : Rg} {a b : Nat} (h : IW G) (hi : lnkN G.2.2 = G.2.2.length) (hP : G.1 ≠ []) : IW (addR a b G) ∧ IL (addR a b G) := by
  obtain ⟨h1, h2, h3, h4, h5, h6⟩ := h
  have hl : 0 < G.1.length := List.length_pos_iff.mpr hP
  have hz : cntL G.2.2 G.2.1.length = 0 := cntL_zero h4
  refine ⟨⟨fun x hx => ?_, fun p y hp => ?_, fun y hy => ?_, fun z hz2 h4z => ?_, fun r x hr => ?_, h6⟩, hi, fun x hx => ?_⟩
  · rcases List.mem_append.mp hx with hx | hx
    · exact h1 x hx
    · rw [List.mem_singleton.mp hx]
      show G.1.length - 1 < G.1.length
      omega
  · have hp : G.1[p]? = some y := hp
    obtain ⟨g1, g2⟩ := h2 p y hp
    have hpl := get_lt hp
    show y.2.2 + cntR (G.2.1 ++ [_]) p ≤ (G.2.1 ++ [_]).length ∧ ∀ r x, (G.2.1 ++ [_])[r]? = some x → (x.1 = p ↔ y.2.2 ≤ r ∧ r < y.2.2 + cntR (G.2.1 ++ [_]) p)
    rw [cntR_app, List.length_append, List.length_singleton]
    by_cases hpe : G.1.length - 1 = p
    · rw [if_pos hpe]
      have h3' := h3 y (by rw [hpe]; exact hp)
      rw [hpe] at h3'
      refine ⟨by omega, fun r x hr => ?_⟩
      rcases app_get hr with ⟨hj, hr⟩ | ⟨hj, hr⟩
      · rw [g2 r x hr]
        omega
      · rw [hr, hj]
        exact ⟨fun _ => by omega, fun _ => hpe⟩
    · rw [if_neg hpe]
      refine ⟨by omega, fun r x hr => ?_⟩
      rcases app_get hr with ⟨hj, hr⟩ | ⟨hj, hr⟩
      · rw [g2 r x hr]
        omega
      · rw [hr, hj]
        exact ⟨fun e => absurd e hpe, fun e => by omega⟩
  · have hy : G.1[G.1.length - 1]? = some y := hy
    have := h3 y hy
    show y.2.2 + cntR (G.2.1 ++ [_]) (G.1.length - 1) = (G.2.1 ++ [_]).length
    rw [cntR_app, List.length_append, List.length_singleton, if_pos rfl]
    omega
  · have := h4 z hz2 h4z
    show z.2.1 < (G.2.1 ++ [_]).length
    rw [List.length_append, List.length_singleton]
    omega
  · rcases app_get hr with ⟨hj, hr⟩ | ⟨hj, hr⟩
    · exact h5 r x hr
    · rw [hr, hj]
      show G.2.2.length + cntL G.2.2 G.2.1.length ≤ G.2.2.length ∧ _
      rw [hz]
      refine ⟨Nat.le_refl _, fun c z hc => ?_⟩
      have hc : G.2.2[c]? = some z := hc
      have q1 := h4 z (List.mem_of_getElem? hc)
      have q2 := get_lt hc
      constructor
      · intro e
        have := q1 e.1
        omega
      · intro e
        have e1 : G.2.2.length ≤ c := e.1
        omega
  · have e1 : (addR a b G).2.1.length - 1 = G.2.1.length := by
      show (G.2.1 ++ [_]).length - 1 = _
      rw [List.length_append, List.length_singleton]
      omega
    rw [e1] at hx ⊢
    rcases app_get hx with ⟨hj, _⟩ | ⟨_, hx⟩
    · omega
    · rw [hx]
      show G.2.2.length + cntL G.2.2 G.2.1.length = G.2.2.length
      rw [hz, Nat.add_zero]
theorem IW_addC {G : Rg} {k a b : Nat} {ts : List Tok} (h : IW G) (hI : k ≠ 4 → IL G) (hR : k ≠ 4 → G.2.1 ≠ []) : IW (addC k a b ts G) ∧ (k ≠ 4 → IL (addC k a b ts G)) := by
  obtain ⟨h1, h2, h3, h4, h5, h6⟩ := h
  have hle := lnkN_le G.2.2
  refine ⟨⟨h1, h2, h3, fun z hz h4z => ?_, fun r x hr => ?_, fun c z hc => ?_⟩, fun hk => ⟨?_, fun x hx => ?_⟩⟩
  · rcases List.mem_append.mp hz with hz | hz
    · exact h4 z hz h4z
    · rw [List.mem_singleton.mp hz] at h4z ⊢
      have := List.length_pos_iff.mpr (hR h4z)
      show G.2.1.length - 1 < G.2.1.length
      omega
  · have hr : G.2.1[r]? = some x := hr
    obtain ⟨g1, g2⟩ := h5 r x hr
    have hrl := get_lt hr
    show x.2.2.2 + cntL (G.2.2 ++ [_]) r ≤ (G.2.2 ++ [_]).length ∧ ∀ c z, (G.2.2 ++ [_])[c]? = some z → (z.1 ≠ 4 ∧ z.2.1 = r ↔ x.2.2.2 ≤ c ∧ c < x.2.2.2 + cntL (G.2.2 ++ [_]) r)
    rw [cntL_app, List.length_append, List.length_singleton]
    by_cases hpe : k ≠ 4 ∧ G.2.1.length - 1 = r
    · rw [if_pos hpe]
      have h3' := (hI hpe.1).2 x (by rw [hpe.2]; exact hr)
      rw [hpe.2] at h3'
      refine ⟨by omega, fun c z hc => ?_⟩
      rcases app_get hc with ⟨hj, hc⟩ | ⟨hj, hc⟩
      · rw [g2 c z hc]
        omega
      · rw [hc, hj]
        exact ⟨fun _ => by omega, fun _ => hpe⟩
    · rw [if_neg hpe]
      refine ⟨by omega, fun c z hc => ?_⟩
      rcases app_get hc with ⟨hj, hc⟩ | ⟨hj, hc⟩
      · rw [g2 c z hc]
        omega
      · rw [hc, hj]
        exact ⟨fun e => absurd e hpe, fun e => by omega⟩
  · show z.1 = 4 ↔ lnkN (G.2.2 ++ [_]) ≤ c
    rw [lnkN_app]
    rcases app_get hc with ⟨hj, hc⟩ | ⟨hj, hc⟩
    · rw [h6 c z hc]
      by_cases hk : k ≠ 4
      · rw [if_pos hk]
        have := (hI hk).1
        omega
      · rw [if_neg hk]
        omega
    · rw [hc, hj]
      by_cases hk : k ≠ 4
      · rw [if_pos hk]
        have := (hI hk).1
        exact ⟨fun e => absurd e hk, fun e => by omega⟩
      · rw [if_neg hk]
        exact ⟨fun _ => by omega, fun _ => by show k = 4; omega⟩
  · show lnkN (G.2.2 ++ [_]) = (G.2.2 ++ [_]).length
    rw [lnkN_app, if_pos hk, List.length_append, List.length_singleton, (hI hk).1]
  · have hx : G.2.1[G.2.1.length - 1]? = some x := hx
    have := (hI hk).2 x hx
    show x.2.2.2 + cntL (G.2.2 ++ [_]) (G.2.1.length - 1) = (G.2.2 ++ [_]).length
    rw [cntL_app, if_pos ⟨hk, rfl⟩, List.length_append, List.length_singleton]
    omega
