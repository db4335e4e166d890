/-! The version behind one, as the reference has it. -/
theorem tr_of {f : Nat → Int64} {ns is : List Nat} (hn : ∀ j, ns.getD j 0 < 1099511627776) (h5 : is.length ≤ 5) (hw : ∀ w ∈ is, okn w) (h0 : ∀ k, k < 3 → f k = lN (ns.getD k 0)) (h3 : f 3 = lN is.length) (h4 : ∀ k, k < is.length → f (4 + k) = lN (is.getD k 0)) (hr : ∀ k, k < 9 → ∃ g, f k = lN g ∧ g < 9223372036854775808) : VR f ∧ trM f = rW ns is := by
  have hg : ∀ k, k < 9 → f k = lN ((f k).toInt.toNat) ∧ (f k).toInt.toNat < 9223372036854775808 := fun k hk => by
    obtain ⟨g, e1, e2⟩ := hr k hk
    have : (f k).toInt.toNat = g := by rw [e1, pk_lT (by omega)]; rfl
    rw [this]
    exact ⟨e1, e2⟩
  have gv : ∀ k v, f k = lN v → v < 9223372036854775808 → (f k).toInt.toNat = v := fun k v e h => by rw [e, pk_lT (by omega)]; rfl
  have hok : ∀ k, k < is.length → okn (is.getD k 0) := fun k hk => hw _ (getD_in hk)
  have hne : ¬ f 0 = 1099511627776 := fun z => by
    have := hn 0
    rw [h0 0 (by omega), l40.1, pk_lEQ (by omega) (by omega)] at z
    omega
  refine ⟨⟨fun k => (f k).toInt.toNat, hg, Or.inr ⟨?_, ?_, ?_, ?_, fun k hk => ?_⟩⟩, ?_⟩
  · show (f 0).toInt.toNat < _
    rw [gv 0 _ (h0 0 (by omega)) (by have := hn 0; omega)]
    exact hn 0
  · show (f 1).toInt.toNat < _
    rw [gv 1 _ (h0 1 (by omega)) (by have := hn 1; omega)]
    exact hn 1
  · show (f 2).toInt.toNat < _
    rw [gv 2 _ (h0 2 (by omega)) (by have := hn 2; omega)]
    exact hn 2
  · show (f 3).toInt.toNat ≤ 5
    rw [gv 3 _ h3 (by omega)]
    exact h5
  · have hk : k < (f 3).toInt.toNat := hk
    rw [gv 3 _ h3 (by omega)] at hk
    show okn ((f (4 + k)).toInt.toNat)
    have ho := hok k hk
    rw [gv (4 + k) _ (h4 k hk) (by unfold okn at ho; omega)]
    exact ho
  · show rowF (trF f) = rowF (cR ns is)
    refine rowF_congr (fun j hj => ?_)
    unfold trF cR
    rw [if_neg hne]
    by_cases j3 : j < 3
    · rw [if_pos j3, if_pos j3]
      exact h0 j j3
    · rw [if_neg j3, if_neg j3]
      by_cases hl : is.length = 0
      · rw [if_pos (show f 3 = 0 by rw [h3, hl]; rfl), if_pos hl]
      · rw [if_neg (show ¬ f 3 = 0 from fun z => by rw [h3, show (0 : Int64) = lN 0 from rfl, pk_lEQ (by omega) (by omega)] at z; exact hl z), if_neg hl, h3]
        by_cases hjl : j - 3 < is.length
        · rw [if_pos ((pk_lLT (by omega) (by omega)).mpr hjl), if_pos hjl, show j + 1 = 4 + (j - 3) by omega, h4 _ hjl, trk_n (hok _ hjl)]
          rfl
        · rw [if_neg (fun z => hjl ((pk_lLT (by omega) (by omega)).mp z)), if_neg hjl]
theorem VR_n {f : Nat → Int64} (h : VR f) : ∀ k, k < 9 → ∃ g, f k = lN g ∧ g < 9223372036854775808 := fun k hk => by
  obtain ⟨g, hg, _⟩ := h
  exact ⟨g k, hg k hk⟩
theorem BX_n {ns is : List Nat} (h : BX ns is) : (∀ j, ns.getD j 0 < 1099511627776) ∧ is.length ≤ 5 ∧ ∀ w ∈ is, okn w := ⟨fun j => by have := h.1 j; omega, h.2.1, fun w hw => okw_okn (h.2.2 w hw)⟩
theorem nextM_X {m : Mi} {ns is : List Nat} (hX : BX ns is) (h4 : is.length ≤ 4) (hV : VR (fun z => gl m 878 z)) (ht : trM (fun z => gl m 878 z) = rW ns is) : ∃ m', f_X12_next TT m 878 0 = some m' ∧ VR (fun z => gl m' 878 z) ∧ trM (fun z => gl m' 878 z) = rW (nxt ns is).1 (nxt ns is).2 ∧ KL 878 m m' := by
  obtain ⟨a1, a2, a3⟩ := tr_inv hV hX ht
  obtain ⟨b1, b2, b3⟩ := BX_n hX
  have hn := VR_n hV
  have a1 : ∀ k, k < 3 → gl m 878 k = lN (ns.getD k 0) := a1
  have a2 : gl m 878 3 = lN is.length := a2
  have a3 : ∀ k, k < is.length → gl m 878 (4 + k) = lN (is.getD k 0) := a3
  unfold f_X12_next
  rw [show (0 : Int32) + 3 = nI 3 from rfl, if_pos (ar_of s_878 (by omega) (by omega)), lt_eq, ix_nI (by omega), a2, lN_i]
  by_cases hi : is = []
  · rw [hi, if_pos (show nI ([] : List Nat).length = 0 from rfl), show (0 : Int32) + 2 = nI 2 from rfl, if_pos (ar_of s_878 (by omega) (by omega)), lt_eq, lt_eq, ix_nI (by omega), a1 2 (by omega), lN_1, show (0 : Int32) + 4 = nI 4 from rfl, if_pos (ar_of s_878 (by omega) (by omega)), lt_eq, ix_nI (by omega)]
    have hz : nxt ns [] = ([ns.getD 0 0, ns.getD 1 0, ns.getD 2 0 + 1], [0]) := rfl
    have key := tr_of (f := fun z => gl (sl (sl (sl m 878 2 (lN (ns.getD 2 0 + 1))) 878 3 1) 878 4 0) 878 z) (ns := [ns.getD 0 0, ns.getD 1 0, ns.getD 2 0 + 1]) (is := [0]) (fun j => by
      have h0 := hX.1 0
      have h1 := hX.1 1
      have h2 := hX.1 2
      rcases j with _ | _ | _ | j
      · show ns.getD 0 0 < _; omega
      · show ns.getD 1 0 < _; omega
      · show ns.getD 2 0 + 1 < _; omega
      · show 0 < _; omega) (by decide) (fun w hw => by rw [List.mem_singleton.mp hw]; exact Or.inl (by omega)) (fun k hk => by
      have : k = 0 ∨ k = 1 ∨ k = 2 := by omega
      rcases this with rfl | rfl | rfl
      · simp only [mS]; rw [if_neg (by omega), if_neg (by omega), if_neg (by omega)]; exact a1 0 (by omega)
      · simp only [mS]; rw [if_neg (by omega), if_neg (by omega), if_neg (by omega)]; exact a1 1 (by omega)
      · simp only [mS]; rw [if_neg (by omega), if_neg (by omega), if_pos ⟨trivial, trivial⟩]; rfl) (by simp only [mS]; rw [if_neg (by omega), if_pos ⟨trivial, trivial⟩]; rfl) (fun k hk => by
      have hk0 : k = 0 := by simp at hk; omega
      rw [hk0]
      simp only [mS]
      rw [if_pos ⟨trivial, trivial⟩]
      rfl) (fun k hk => by
      simp only [mS]
      by_cases k4 : k = 4
      · rw [if_pos ⟨trivial, k4⟩]; exact ⟨0, rfl, by omega⟩
      · rw [if_neg (fun z => k4 z.2)]
        by_cases k3 : k = 3
        · rw [if_pos ⟨trivial, k3⟩]; exact ⟨1, rfl, by omega⟩
        · rw [if_neg (fun z => k3 z.2)]
          by_cases k2 : k = 2
          · rw [if_pos ⟨trivial, k2⟩]; exact ⟨ns.getD 2 0 + 1, rfl, by have := hX.1 2; omega⟩
          · rw [if_neg (fun z => k2 z.2)]
            exact hn k hk)
    rw [hz]
    exact ⟨_, rfl, key.1, key.2, (KL_sl.tr KL_sl).tr KL_sl⟩
  · have hl : is.length ≠ 0 := fun z => hi (List.length_eq_zero_iff.mp z)
    rw [if_neg (nI_ne0 (by omega) (by omega)), lt_eq, nI_1, nI_l (by omega), show (0 : Int32) + 4 = nI 4 from rfl, nI_add, if_pos (ar_of s_878 (by omega) (by omega)), lt_eq, ix_nI (by omega)]
    have hz : nxt ns is = (ns, is ++ [0]) := by unfold nxt; rw [if_neg hi]
    have key := tr_of (f := fun z => gl (sl (sl m 878 3 (lN (is.length + 1))) 878 (4 + is.length) 0) 878 z) (ns := ns) (is := is ++ [0]) b1 (by rw [List.length_append, List.length_singleton]; omega) (fun w hw => by
      rcases List.mem_append.mp hw with h | h
      · exact b3 w h
      · rw [List.mem_singleton.mp h]; exact Or.inl (by omega)) (fun k hk => by simp only [mS]; rw [if_neg (by omega), if_neg (by omega)]; exact a1 k hk) (by simp only [mS]; rw [if_neg (by omega), if_pos ⟨trivial, trivial⟩, List.length_append, List.length_singleton]) (fun k hk => by
      rw [List.length_append, List.length_singleton] at hk
      simp only [mS]
      by_cases hkl : k = is.length
      · rw [if_pos ⟨trivial, by omega⟩, hkl, List.getD_eq_getElem?_getD, List.getElem?_append_right (Nat.le_refl _), Nat.sub_self]
        rfl
      · rw [if_neg (by omega), if_neg (by omega), a3 k (by omega), List.getD_eq_getElem?_getD, List.getD_eq_getElem?_getD, List.getElem?_append_left (by omega)]) (fun k hk => by
      simp only [mS]
      by_cases k4 : k = 4 + is.length
      · rw [if_pos ⟨trivial, k4⟩]; exact ⟨0, rfl, by omega⟩
      · rw [if_neg (fun z => k4 z.2)]
        by_cases k3 : k = 3
        · rw [if_pos ⟨trivial, k3⟩]; exact ⟨is.length + 1, rfl, by omega⟩
        · rw [if_neg (fun z => k3 z.2)]
          exact hn k hk)
    rw [hz]
    exact ⟨_, rfl, key.1, key.2, KL_sl.tr KL_sl⟩
