/-! The choices of a registry: value 0 is none, k + 1 its release k. -/
/-- the class's bit b as a value -/
def em (b : Nat) : Nat := if b = 6 then 0 else b + 1
theorem em_lt {b : Nat} (h : b < 7) : em b < 7 := by unfold em; split <;> omega
theorem em_6 : em 6 = 0 := rfl
theorem em_ne {b : Nat} (h : b ≠ 6) : em b = b + 1 := by unfold em; rw [if_neg h]
theorem em_inj {b c : Nat} (hb : b < 7) (hc : c < 7) (h : em b = em c) : b = c := by
  unfold em at h
  split at h <;> split at h <;> omega
theorem em_sur {v : Nat} (h : v < 7) : ∃ b, b < 7 ∧ em b = v := by
  by_cases h0 : v = 0
  · exact ⟨6, by omega, by rw [h0]; rfl⟩
  · exact ⟨v - 1, by omega, by rw [em_ne (by omega)]; omega⟩
/-- what a link asks of its target's value -/
def kpL (T : Nat → Nat) (G : Rg) (x : CnT) (w : Nat) : Bool := if x.1 = 5 then inR T G x w else !inR T G x w
/-- the link's holder is value v of package p -/
def hvB (G : Rg) (x : CnT) (p v : Nat) : Bool := decide (0 < v ∧ v ≤ cntR G.2.1 p ∧ x.2.1 = fr G p + (v - 1))
def sy (T : Nat → Nat) (G : Rg) (act : Nat → Bool) (p v q w : Nat) : Bool := (List.range G.2.2.length).all (fun c => match G.2.2[c]? with
  | some x => !(act c && (decide (x.1 ≠ 4) && (hvB G x p v && decide (tgt T G x = q)))) || kpL T G x w
  | none => true)
theorem sy_iff {T : Nat → Nat} {G : Rg} {act : Nat → Bool} {p v q w : Nat} : sy T G act p v q w = true ↔ ∀ (c : Nat) (x : CnT), G.2.2[c]? = some x → act c = true → x.1 ≠ 4 → hvB G x p v = true → tgt T G x = q → kpL T G x w = true := by
  unfold sy
  rw [List.all_eq_true]
  constructor
  · intro h c x hx ha h4 hv ht
    have := h c (List.mem_range.mpr (get_lt hx))
    rw [hx] at this
    simpa [ha, h4, hv, ht] using this
  · intro h c hc
    obtain ⟨x, hx⟩ := get_some (List.mem_range.mp hc)
    rw [hx]
    show (!(act c && (decide (x.1 ≠ 4) && (hvB G x p v && decide (tgt T G x = q)))) || kpL T G x w) = true
    cases ha : act c with
    | false => rfl
    | true =>
      by_cases h4 : x.1 ≠ 4
      · cases hv : hvB G x p v with
        | false => simp
        | true =>
          by_cases ht : tgt T G x = q
          · rw [h c x hx ha h4 hv ht, Bool.or_true]
          · simp [ht]
      · simp [h4]
def wt (T : Nat → Nat) (G : Rg) (act : Nat → Bool) (p w : Nat) : Bool := (List.range G.2.2.length).all (fun c => match G.2.2[c]? with
  | some x => !(act c && (decide (x.1 = 4) && decide (tgt T G x = p))) || inR T G x w
  | none => true)
theorem wt_iff {T : Nat → Nat} {G : Rg} {act : Nat → Bool} {p w : Nat} : wt T G act p w = true ↔ ∀ (c : Nat) (x : CnT), G.2.2[c]? = some x → act c = true → x.1 = 4 → tgt T G x = p → inR T G x w = true := by
  unfold wt
  rw [List.all_eq_true]
  constructor
  · intro h c x hx ha h4 ht
    have := h c (List.mem_range.mpr (get_lt hx))
    rw [hx] at this
    simpa [ha, h4, ht] using this
  · intro h c hc
    obtain ⟨x, hx⟩ := get_some (List.mem_range.mp hc)
    rw [hx]
    show (!(act c && (decide (x.1 = 4) && decide (tgt T G x = p))) || inR T G x w) = true
    cases ha : act c with
    | false => rfl
    | true =>
      by_cases h4 : x.1 = 4
      · by_cases ht : tgt T G x = p
        · rw [h c x hx ha h4 ht, Bool.or_true]
        · simp [ht]
      · simp [h4]
/-- values that the wants and its own links leave a package; values of two packages that go together -/
def dm0 (T : Nat → Nat) (G : Rg) (act : Nat → Bool) (p v : Nat) : Bool := decide (v ≤ cntR G.2.1 p) && (wt T G act p v && sy T G act p v p v)
def bb (T : Nat → Nat) (G : Rg) (act : Nat → Bool) (p v q w : Nat) : Bool := sy T G act p v q w && sy T G act q w p v
theorem sy_zero (T : Nat → Nat) (G : Rg) (act : Nat → Bool) (p q w : Nat) : sy T G act p 0 q w = true := by
  rw [sy_iff]
  intro c x _ _ _ hv
  unfold hvB at hv
  have := of_decide_eq_true hv
  omega
theorem sy_big {T : Nat → Nat} {G : Rg} {act : Nat → Bool} {p v q w : Nat} (h : cntR G.2.1 p < v) : sy T G act p v q w = true := by
  rw [sy_iff]
  intro c x _ _ _ hv
  unfold hvB at hv
  have := of_decide_eq_true hv
  omega
theorem bb_sym {T : Nat → Nat} {G : Rg} {act : Nat → Bool} {p v q w : Nat} : bb T G act p v q w = bb T G act q w p v := by
  unfold bb
  rw [Bool.and_comm]
theorem dm0_7 {T : Nat → Nat} {n : Nat} {G : Rg} (hO : RO T n G) {act : Nat → Bool} {p v : Nat} (h : dm0 T G act p v = true) : v < 7 := by
  unfold dm0 at h
  have := of_decide_eq_true (Bool.and_eq_true_iff.mp h).1
  have := hO.2.2.2.1.1 p
  omega
/-- of a link: its holder's package and value -/
theorem hv_of {T : Nat → Nat} {n : Nat} {G : Rg} (hO : RO T n G) {c : Nat} {x : CnT} (hx : G.2.2[c]? = some x) (h4 : x.1 ≠ 4) : ∃ (h : Nat) (y : RlT), G.2.1[x.2.1]? = some y ∧ y.1 = h ∧ h < G.1.length ∧ fr G h ≤ x.2.1 ∧ x.2.1 < fr G h + cntR G.2.1 h ∧ ∀ p v, hvB G x p v = true → p < G.1.length → p = h ∧ v = x.2.1 - fr G h + 1 := by
  have hxm := List.mem_of_getElem? hx
  have hl := hO.1.1.2.2.2.1 x hxm h4
  obtain ⟨y, hy⟩ := get_some hl
  have hh := hO.1.1.1 y (List.mem_of_getElem? hy)
  obtain ⟨w, hw⟩ := get_some hh
  have h2 := ((hO.1.1.2.1 y.1 w hw).2 x.2.1 y hy).mp rfl
  rw [← fr_get hw] at h2
  refine ⟨y.1, y, hy, rfl, hh, h2.1, h2.2, fun p v hv hp => ?_⟩
  have hv := of_decide_eq_true hv
  obtain ⟨w', hw'⟩ := get_some hp
  have h3 := ((hO.1.1.2.1 p w' hw').2 x.2.1 y hy).mpr ⟨by rw [← fr_get hw']; omega, by rw [← fr_get hw']; omega⟩
  refine ⟨h3.symm, ?_⟩
  rw [h3]
  omega
theorem hv_is {G : Rg} {x : CnT} {h : Nat} (h1 : fr G h ≤ x.2.1) (h2 : x.2.1 < fr G h + cntR G.2.1 h) : hvB G x h (x.2.1 - fr G h + 1) = true := by
  unfold hvB
  exact decide_eq_true ⟨by omega, by omega, by omega⟩
/-- what changes with constraint c alone -/
theorem sy_upd {T : Nat → Nat} {G : Rg} {act act' : Nat → Bool} {c : Nat} {x : CnT} {p v q w : Nat} (hx : G.2.2[c]? = some x) (ha : ∀ j, j ≠ c → act' j = act j) (h : x.1 = 4 ∨ hvB G x p v = false ∨ tgt T G x ≠ q) : sy T G act' p v q w = sy T G act p v q w := by
  rw [Bool.eq_iff_iff, sy_iff, sy_iff]
  have one : ∀ j y, G.2.2[j]? = some y → y.1 ≠ 4 → hvB G y p v = true → tgt T G y = q → j ≠ c := by
    intro j y hy h4 hv ht e
    subst e
    rw [hx] at hy
    cases hy
    rcases h with h | h | h
    · exact h4 h
    · rw [h] at hv; cases hv
    · exact h ht
  constructor
  · intro hh j y hy hj h4 hv ht
    exact hh j y hy (by rw [ha j (one j y hy h4 hv ht)]; exact hj) h4 hv ht
  · intro hh j y hy hj h4 hv ht
    exact hh j y hy (by rw [← ha j (one j y hy h4 hv ht)]; exact hj) h4 hv ht
theorem wt_upd {T : Nat → Nat} {G : Rg} {act act' : Nat → Bool} {c : Nat} {x : CnT} {p w : Nat} (hx : G.2.2[c]? = some x) (ha : ∀ j, j ≠ c → act' j = act j) (h : x.1 ≠ 4 ∨ tgt T G x ≠ p) : wt T G act' p w = wt T G act p w := by
  rw [Bool.eq_iff_iff, wt_iff, wt_iff]
  have one : ∀ j y, G.2.2[j]? = some y → y.1 = 4 → tgt T G y = p → j ≠ c := by
    intro j y hy h4 ht e
    subst e
    rw [hx] at hy
    cases hy
    rcases h with h | h
    · exact h h4
    · exact h ht
  constructor
  · intro hh j y hy hj h4 ht
    exact hh j y hy (by rw [ha j (one j y hy h4 ht)]; exact hj) h4 ht
  · intro hh j y hy hj h4 ht
    exact hh j y hy (by rw [← ha j (one j y hy h4 ht)]; exact hj) h4 ht
/-- the solutions of a registry -/
def SL (T : Nat → Nat) (G : Rg) (act : Nat → Bool) (f : Nat → Nat) : Prop := Sl G.1.length (dm0 T G act) (bb T G act) f
/-- what is within a range, as seven bits -/
theorem wi_msk (T : Nat → Nat) (G : Rg) (x : CnT) (h6 : cntR G.2.1 (tgt T G x) ≤ 6) : msk 6 (wi T G x) = msk 7 (fun b => inR T G x (em b)) := by
  refine msk_of (fun i hi => ?_)
  rw [bt_msk hi]
  by_cases h : i < 6
  · rw [decide_eq_true h, decide_eq_true (show i < 7 by omega), em_ne (by omega)]
    unfold inR
    rw [decide_eq_true (show 0 < i + 1 by omega), Nat.add_sub_cancel]
    simp
  · rw [decide_eq_false h, Bool.false_and]
    by_cases h7 : i < 7
    · rw [show i = 6 by omega]
      rfl
    · rw [decide_eq_false h7, Bool.false_and]
