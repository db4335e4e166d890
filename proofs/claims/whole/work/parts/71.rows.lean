/-! Rows of versions: what the reference's row is in the class. -/
theorem getD_P {P : Nat → Prop} {l : List Nat} (h : ∀ w ∈ l, P w) (h0 : P 0) (j : Nat) : P (l.getD j 0) := by
  rw [List.getD_eq_getElem?_getD]
  cases e : l[j]? with
  | none => exact h0
  | some w => exact h w (List.mem_of_getElem? e)
theorem getD_in {l : List Nat} {j : Nat} (h : j < l.length) : l.getD j 0 ∈ l := by
  rw [List.getD_eq_getElem?_getD, List.getElem?_eq_getElem h]
  exact List.getElem_mem h
/-- numbers and identifiers of a version, or of the next one -/
def VX (ns is : List Nat) : Prop := (∀ w ∈ ns, w < 1099511627776) ∧ is.length ≤ 5 ∧ ∀ w ∈ is, okn w
theorem VW.X {f : Nat} {ns is : List Nat} (h : VW f ns is) : VX ns is := ⟨fun w hw => by have := h.1.2.2 w hw; omega, by have := h.2.1.1; omega, h.2.1.2⟩
def gR (ns is : List Nat) (j : Nat) : Nat := if j < 3 then ns.getD j 0 else if j = 3 then is.length else if j - 4 < is.length then is.getD (j - 4) 0 else 0
theorem mR_g (ns is : List Nat) (j : Nat) : mR ns is j = lN (gR ns is j) := by
  unfold mR gR
  split
  · rfl
  · split
    · rfl
    · split <;> rfl
theorem mR_VR {ns is : List Nat} (h : VX ns is) : VR (mR ns is) := by
  obtain ⟨h1, h2, h3⟩ := h
  have hn : ∀ j, ns.getD j 0 < 1099511627776 := getD_P h1 (by omega)
  have hi : ∀ j, j < is.length → okn (is.getD j 0) := fun j hj => h3 _ (getD_in hj)
  refine ⟨gR ns is, fun k hk => ⟨mR_g ns is k, ?_⟩, Or.inr ⟨?_, ?_, ?_, ?_, ?_⟩⟩
  · unfold gR
    split
    · have := hn k; omega
    · split
      · omega
      · split
        · next hx => have := hi _ hx; unfold okn at this; omega
        · omega
  · exact hn 0
  · exact hn 1
  · exact hn 2
  · show is.length ≤ 5
    exact h2
  · intro k hk
    have hk : k < is.length := hk
    have : gR ns is (4 + k) = is.getD k 0 := by
      unfold gR
      rw [if_neg (by omega), if_neg (by omega), if_pos (by omega), show 4 + k - 4 = k by omega]
    rw [this]
    exact hi k hk
theorem lN3 {a b : Nat} (ha : a < 2 ^ 63) (hb : b < 2 ^ 63) : lN a = lN b ↔ a = b := pk_lEQ ha hb
theorem mR_tr {ns is : List Nat} (h : VX ns is) : trM (mR ns is) = rowF (cR ns is) := by
  obtain ⟨h1, h2, h3⟩ := h
  have hn : ∀ j, ns.getD j 0 < 1099511627776 := getD_P h1 (by omega)
  unfold trM
  apply rowF_congr
  intro k hk
  have h0 : ¬ mR ns is 0 = 1099511627776 := by
    rw [mR_g, l40.1, lN3 (by have := hn 0; show ns.getD 0 0 < _; omega) (by omega)]
    have := hn 0
    show ¬ ns.getD 0 0 = _
    omega
  have h3' : mR ns is 3 = lN is.length := rfl
  unfold trF cR
  rw [if_neg h0, h3']
  by_cases hk3 : k < 3
  · rw [if_pos hk3, if_pos hk3]
    unfold mR
    rw [if_pos hk3]
  · rw [if_neg hk3, if_neg hk3]
    by_cases hl : is.length = 0
    · rw [if_pos (by rw [hl]; rfl), if_pos hl]
    · rw [if_neg (by rw [l40.2.2, lN3 (by omega) (by omega)]; exact hl), if_neg hl]
      by_cases hk4 : k - 3 < is.length
      · rw [if_pos ((pk_lLT (by omega) (by omega)).mpr hk4), if_pos hk4]
        have e : mR ns is (k + 1) = lN (is.getD (k - 3) 0) := by
          unfold mR
          rw [if_neg (by omega), if_neg (by omega), if_pos (by omega), show k + 1 - 4 = k - 3 by omega]
        rw [e, trk_n (h3 _ (getD_in hk4))]
        rfl
      · rw [if_neg (fun x => hk4 ((pk_lLT (by omega) (by omega)).mp x)), if_neg hk4]
theorem bF : bI false = 0 := rfl
theorem bTr : ¬ bI true = 0 := by decide
theorem fNt : ¬ false = true := Bool.false_ne_true
