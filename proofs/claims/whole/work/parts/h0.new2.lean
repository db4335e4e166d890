/-! Constructors: the parts of the class. -/
theorem mZ : (∀ (m : Mi) (a b j : Nat), gi (zr m a) b j = if b = a then 0 else gi m b j) ∧ (∀ (m : Mi) (a b j : Nat), gl (zr m a) b j = if b = a then 0 else gl m b j) ∧ (∀ (m : Mi) (a b j : Nat), gr (zr m a) b j = if b = a then 0 else gr m b j) := ⟨fun _ _ _ _ => rfl, fun _ _ _ _ => rfl, fun _ _ _ _ => rfl⟩
theorem ixL : ix 2000 = 2000 ∧ ix 16 = 16 ∧ ix 8 = 8 ∧ ix 10 = 10 ∧ ix 60 = 60 ∧ ix 250 = 250 ∧ ix 700 = 700 ∧ ix 110 = 110 ∧ ix 2500 = 2500 := by decide
theorem new_9 {t : List Sh} {m : Mi} {n : Nat} (hl : t.length = n) (hn : n < 800000) : Wp (f_X9_init (t ++ [.inl 9]) (zr m (n + 1)) (n + 1)) (fun q => q.1 = t ++ [.inl 9, .inr (.byte, 2000), .inr (.int, 2000), .inr (.int, 2000), .inl 10, .inr (.long, 8)] ∧ nwK n m q.2 ∧ gr q.2 (n + 1) 0 = n + 2 ∧ gr q.2 (n + 1) 1 = n + 3 ∧ gr q.2 (n + 1) 2 = n + 4 ∧ gr q.2 (n + 1) 6 = n + 5 ∧ gr q.2 (n + 5) 0 = n + 6) := by
  unfold f_X9_init
  refine wp_arr (n := n + 1) (by simp [hl]) (by omega) (by subst hl; exact sh_new) (fun o => ?_)
  refine wp_arr (n := n + 2) (by simp [hl]) (by omega) o (fun o => ?_)
  refine wp_arr (n := n + 3) (by simp [hl]) (by omega) o (fun o => wp_lt (wp_lt (wp_lt ?_)))
  refine wp_obj (n := n + 4) (L := [.inl 10, .inr (.long, 8)]) (Q := fun m' => gr m' (n + 5) 0 = n + 6) (by simp [hl]) (by omega) o (new_10 (by simp [hl]) (by omega)) (fun m2 k q o => ?_)
  refine wp_some ⟨by simp [ixL], ?_, ?_, ?_, ?_, ?_, ?_⟩
  · refine nwK.sr (nwK.tr ?_ k (by omega)) (by omega)
    exact ((((((((((nwK.rf.zr (by omega)).zr (by omega)).sr (by omega)).zr (by omega)).sr (by omega)).zr (by omega)).sr (by omega)).si (by omega)).sr (by omega)).si (by omega))
  · simp only [mS]
    rw [if_neg (by omega), (k (n + 1) 0 (by omega)).2.2]
    simp [mS, mZ]
  · simp only [mS]
    rw [if_neg (by omega), (k (n + 1) 1 (by omega)).2.2]
    simp [mS, mZ]
  · simp only [mS]
    rw [if_neg (by omega), (k (n + 1) 2 (by omega)).2.2]
    simp [mS, mZ]
  · simp [mS]
  · simp only [mS]
    rw [if_neg (by omega)]
    exact q
theorem new_5 {t : List Sh} {m : Mi} {n : Nat} (hl : t.length = n) (hn : n < 800000) : Wp (f_X5_init (t ++ [.inl 5]) (zr m (n + 1)) (n + 1)) (fun q => q.1 = t ++ [.inl 5, .inl 10, .inr (.long, 8), .inr (.long, 8), .inr (.long, 8), .inr (.long, 8), .inr (.long, 8), .inl 4, .inr (.long, 16), .inl 4, .inr (.long, 512)] ∧ nwK n m q.2 ∧ gr q.2 (n + 1) 0 = n + 2 ∧ gr q.2 (n + 1) 1 = n + 4 ∧ gr q.2 (n + 1) 2 = n + 5 ∧ gr q.2 (n + 1) 3 = n + 6 ∧ gr q.2 (n + 1) 4 = n + 7 ∧ gr q.2 (n + 1) 5 = n + 8 ∧ gr q.2 (n + 1) 6 = n + 10 ∧ gr q.2 (n + 2) 0 = n + 3 ∧ gr q.2 (n + 8) 0 = n + 9 ∧ gi q.2 (n + 8) 1 = 0 ∧ gr q.2 (n + 10) 0 = n + 11 ∧ gi q.2 (n + 10) 1 = 0) := by
  unfold f_X5_init
  refine wp_obj (n := n + 1) (L := [.inl 10, .inr (.long, 8)]) (Q := fun m' => gr m' (n + 2) 0 = n + 3) (by simp [hl]) (by omega) (by subst hl; exact sh_new) (new_10 (by simp [hl]) (by omega)) (fun m1 k1 q1 o => ?_)
  refine wp_arr (n := n + 3) (by simp [hl]) (by omega) o (fun o => ?_)
  refine wp_arr (n := n + 4) (by simp [hl]) (by omega) o (fun o => ?_)
  refine wp_arr (n := n + 5) (by simp [hl]) (by omega) o (fun o => ?_)
  refine wp_arr (n := n + 6) (by simp [hl]) (by omega) o (fun o => ?_)
  refine wp_obj (F := fun t m r => f_X4_init t m r 1) (n := n + 7) (L := [.inl 4, .inr (.long, 16)]) (Q := fun m' => gr m' (n + 8) 0 = n + 9 ∧ gi m' (n + 8) 1 = 0 ∧ ∀ j, gl m' (n + 9) j = 0) (by simp [hl]) (by omega) o (new_4 (by simp [hl]) (by omega) (by decide) (by omega) (by decide)) (fun m2 k2 q2 o => ?_)
  refine wp_obj (F := fun t m r => f_X4_init t m r 32) (n := n + 9) (L := [.inl 4, .inr (.long, 512)]) (Q := fun m' => gr m' (n + 10) 0 = n + 11 ∧ gi m' (n + 10) 1 = 0 ∧ ∀ j, gl m' (n + 11) j = 0) (by simp [hl]) (by omega) o (new_4 (by simp [hl]) (by omega) (by decide) (by omega) (by decide)) (fun m3 k3 q3 o => ?_)
  have g2 : ∀ j, j < 5 → gr m2 (n + 1) j = if j = 0 then n + 2 else n + 3 + j := fun j hj => by
    rw [(k2 (n + 1) j (by omega)).2.2]
    rcases (show j = 0 ∨ j = 1 ∨ j = 2 ∨ j = 3 ∨ j = 4 by omega) with rfl | rfl | rfl | rfl | rfl <;> simp [mS, mZ]
  have h2 : gr m2 (n + 2) 0 = n + 3 := by
    rw [(k2 (n + 2) 0 (by omega)).2.2]
    simp [mS, mZ, q1]
  have g3 : ∀ j, j < 6 → gr m3 (n + 1) j = if j = 0 then n + 2 else n + 3 + j := fun j hj => by
    rw [(k3 (n + 1) j (by omega)).2.2]
    simp only [mS]
    by_cases h5 : j = 5
    · rw [if_pos ⟨trivial, h5⟩, if_neg (by omega)]
      omega
    · rw [if_neg (fun e => h5 e.2)]
      exact g2 j (by omega)
  refine wp_lt (wp_some ⟨by simp [ixL], ?_, ?_, ?_, ?_, ?_, ?_, ?_, ?_, ?_, ?_, ?_, ?_, ?_⟩)
  · refine nwK.si (nwK.sr (nwK.tr ?_ k3 (by omega)) (by omega)) (by omega)
    refine nwK.sr (nwK.tr ?_ k2 (by omega)) (by omega)
    refine ((((((((nwK.sr (nwK.tr ?_ k1 (by omega)) (by omega)).zr (by omega)).sr (by omega)).zr (by omega)).sr (by omega)).zr (by omega)).sr (by omega)).zr (by omega)).sr (by omega)
    exact nwK.rf.zr (by omega)
  · simp only [mS]
    rw [if_neg (by omega)]
    exact g3 0 (by omega)
  · simp only [mS]
    rw [if_neg (by omega)]
    exact g3 1 (by omega)
  · simp only [mS]
    rw [if_neg (by omega)]
    exact g3 2 (by omega)
  · simp only [mS]
    rw [if_neg (by omega)]
    exact g3 3 (by omega)
  · simp only [mS]
    rw [if_neg (by omega)]
    exact g3 4 (by omega)
  · simp only [mS]
    rw [if_neg (by omega)]
    exact g3 5 (by omega)
  · simp [mS]
  · simp only [mS]
    rw [if_neg (by omega), (k3 (n + 2) 0 (by omega)).2.2]
    simp only [mS]
    rw [if_neg (by omega)]
    exact h2
  · simp only [mS]
    rw [if_neg (by omega), (k3 (n + 8) 0 (by omega)).2.2]
    simp only [mS]
    rw [if_neg (by omega)]
    exact q2.1
  · simp only [mS]
    rw [if_neg (by omega), (k3 (n + 8) 1 (by omega)).1]
    simp only [mS]
    exact q2.2.1
  · simp only [mS]
    rw [if_neg (by omega)]
    exact q3.1
  · simp only [mS]
    rw [if_neg (by omega)]
    exact q3.2.1
theorem new_8 {t : List Sh} {m : Mi} {n r : Nat} (hl : t.length = n) (hn : n < 800000) : Wp (f_X8_init (t ++ [.inl 8]) (zr m (n + 1)) (n + 1) r) (fun q => q.1 = t ++ [.inl 8, .inr (.int, 700), .inr (.int, 700), .inr (.int, 110), .inr (.int, 110), .inr (.boolean, 250), .inr (.int, 10)] ∧ nwK n m q.2 ∧ (gr q.2 (n + 1) 0 = r ∧ gr q.2 (n + 1) 2 = n + 2 ∧ gr q.2 (n + 1) 3 = n + 3 ∧ gr q.2 (n + 1) 4 = n + 4 ∧ gr q.2 (n + 1) 5 = n + 5 ∧ gr q.2 (n + 1) 6 = n + 6 ∧ gr q.2 (n + 1) 7 = n + 7) ∧ ∀ j, gi q.2 (n + 5) j = 0) := by
  unfold f_X8_init
  refine wp_lt (wp_lt ?_)
  refine wp_arr (n := n + 1) (by simp [hl]) (by omega) (by subst hl; exact sh_new) (fun o => ?_)
  refine wp_arr (n := n + 2) (by simp [hl]) (by omega) o (fun o => ?_)
  refine wp_arr (n := n + 3) (by simp [hl]) (by omega) o (fun o => ?_)
  refine wp_arr (n := n + 4) (by simp [hl]) (by omega) o (fun o => ?_)
  refine wp_arr (n := n + 5) (by simp [hl]) (by omega) o (fun o => ?_)
  refine wp_arr (n := n + 6) (by simp [hl]) (by omega) o (fun o => ?_)
  refine wp_some ⟨by simp [ixL], ?_, ?_, fun j => ?_⟩
  · exact ((((((((((((((nwK.rf.zr (by omega)).sr (by omega)).si (by omega)).zr (by omega)).sr (by omega)).zr (by omega)).sr (by omega)).zr (by omega)).sr (by omega)).zr (by omega)).sr (by omega)).zr (by omega)).sr (by omega)).zr (by omega)).sr (by omega)
  · simp [mS, mZ]
  · simp [mS, mZ]
theorem new_1 {t : List Sh} {m : Mi} {n : Nat} (hl : t.length = n) (hn : n < 800000) : Wp (f_X1_init (t ++ [.inl 1]) (zr m (n + 1)) (n + 1)) (fun q => q.1 = t ++ [.inl 1, .inr (.int, 10), .inr (.int, 250), .inr (.int, 10)] ∧ nwK n m q.2 ∧ (gr q.2 (n + 1) 2 = n + 2 ∧ gr q.2 (n + 1) 3 = n + 3 ∧ gr q.2 (n + 1) 5 = n + 4) ∧ gi q.2 (n + 1) 0 = 0 ∧ gi q.2 (n + 1) 1 = 0 ∧ gi q.2 (n + 1) 4 = 0) := by
  unfold f_X1_init
  refine wp_lt (wp_lt ?_)
  refine wp_arr (n := n + 1) (by simp [hl]) (by omega) (by subst hl; exact sh_new) (fun o => ?_)
  refine wp_arr (n := n + 2) (by simp [hl]) (by omega) o (fun o => wp_lt ?_)
  refine wp_arr (n := n + 3) (by simp [hl]) (by omega) o (fun o => ?_)
  refine wp_some ⟨by simp [ixL], ?_, ?_, ?_⟩
  · exact (((((((((nwK.rf.zr (by omega)).si (by omega)).si (by omega)).zr (by omega)).sr (by omega)).zr (by omega)).sr (by omega)).si (by omega)).zr (by omega)).sr (by omega)
  · simp [mS, mZ]
  · simp [mS, mZ]
theorem new_3 {t : List Sh} {m : Mi} {n : Nat} (hl : t.length = n) (hn : n < 800000) : Wp (f_X3_init (t ++ [.inl 3]) (zr m (n + 1)) (n + 1)) (fun q => q.1 = t ++ [.inl 3, .inr (.byte, 2500), .inr (.byte, 10), .inr (.long, 8), .inr (.long, 8), .inr (.long, 8)] ∧ nwK n m q.2 ∧ (gr q.2 (n + 1) 0 = n + 2 ∧ gr q.2 (n + 1) 2 = n + 3 ∧ gr q.2 (n + 1) 3 = n + 4 ∧ gr q.2 (n + 1) 4 = n + 5 ∧ gr q.2 (n + 1) 5 = n + 6) ∧ gi q.2 (n + 1) 1 = 0) := by
  unfold f_X3_init
  refine wp_arr (n := n + 1) (by simp [hl]) (by omega) (by subst hl; exact sh_new) (fun o => wp_lt ?_)
  refine wp_arr (n := n + 2) (by simp [hl]) (by omega) o (fun o => ?_)
  refine wp_arr (n := n + 3) (by simp [hl]) (by omega) o (fun o => ?_)
  refine wp_arr (n := n + 4) (by simp [hl]) (by omega) o (fun o => ?_)
  refine wp_arr (n := n + 5) (by simp [hl]) (by omega) o (fun o => ?_)
  refine wp_some ⟨by simp [ixL], ?_, ?_, ?_⟩
  · exact (((((((((((nwK.rf.zr (by omega)).zr (by omega)).sr (by omega)).si (by omega)).zr (by omega)).sr (by omega)).zr (by omega)).sr (by omega)).zr (by omega)).sr (by omega)).zr (by omega)).sr (by omega)
  · simp [mS, mZ]
  · simp [mS, mZ]
