/-! The law: its loop, its beginning. -/
theorem lw_gt {a i : Nat} (ha : a ≤ 3072) (hi : i ≤ 3072) : Int32.ofNat a - 6 < nI i ↔ a < i + 6 := by
  by_cases h6 : 6 ≤ a
  · rw [show Int32.ofNat a = nI a from rfl, show (6 : Int32) = nI 6 from rfl, pk_sub h6, nI_ltI (by omega) (by omega)]
    omega
  · refine ⟨fun _ => by omega, fun _ => ?_⟩
    refine Int32.lt_of_lt_of_le (b := 0) ?_ (nI_pos' (by omega))
    rcases (show a = 0 ∨ a = 1 ∨ a = 2 ∨ a = 3 ∨ a = 4 ∨ a = 5 by omega) with rfl | rfl | rfl | rfl | rfl | rfl <;> decide
theorem and15 (x : Int32) : ∃ k, k < 16 ∧ x &&& 15 = nI k := by
  refine ⟨x.toBitVec.toNat % 16, Nat.mod_lt _ (by omega), ?_⟩
  apply Int32.toBitVec_inj.mp
  apply BitVec.eq_of_toNat_eq
  show (x.toBitVec &&& 15#32).toNat = (BitVec.ofNat 32 (x.toBitVec.toNat % 16)).toNat
  rw [BitVec.toNat_and, show (15#32).toNat = 2 ^ 4 - 1 from rfl, Nat.and_two_pow_sub_one_eq_mod, BitVec.toNat_ofNat]
  have := x.toBitVec.isLt
  omega
set_option maxRecDepth 40000 in
set_option maxHeartbeats 4000000 in
theorem lw_579 {sa : Nat → Nat} {i : Nat} {m : Mi} (h : Lw sa 18 (i + 6) m) : Lw sa 579 i m := by
  obtain ⟨mf, h⟩ := h
  refine ⟨mf, ?_⟩
  refine r_iinc 395 582 3 (L' := [(3, .inl (nI i + 6)), (0, .inr (.inr (1048576 + 23))), (1, .inr (.inr 1)), (2, .inr (.inr 870))]) rfl rfl rfl (by decide) rfl ?_
  refine r_goto 396 18 rfl rfl ?_
  refine r_sub [1, 2, 3, 0] rfl ?_
  rw [show nI i + 6 = nI (i + 6) from nI_add i 6]
  exact h
set_option maxRecDepth 40000 in
set_option maxHeartbeats 4000000 in
theorem lw_sw {sa : Nat → Nat} {i k : Nat} {m : Mi} {s : St} (hs : sa 24 ≤ 3072) (hi : i + 6 ≤ sa 24) (hc : SC m s) (hm : SM m s) (hg : SG s) (n : ∀ m' s', SC m' s' → SM m' s' → SG s' → Lw sa 579 i m') (hk : k < 16) : ∃ m', SmG (fun β => β.2 = sa) u_L EE kLw 33 (LwL (nI i)) [.inl (nI k)] (TT, m) (some (some (.inl 1), (TT, m'))) := by
  rcases (show k = 0 ∨ k = 1 ∨ k = 2 ∨ k = 3 ∨ k = 4 ∨ k = 5 ∨ k = 6 ∨ k = 7 ∨ k = 8 ∨ k = 9 ∨ k = 10 ∨ k = 11 ∨ k = 12 ∨ k = 13 ∨ k = 14 ∨ k = 15 by omega) with rfl | rfl | rfl | rfl | rfl | rfl | rfl | rfl | rfl | rfl | rfl | rfl | rfl | rfl | rfl | rfl
  · obtain ⟨mf, h⟩ := lw_feed hs hi hc hm hg n
    exact ⟨mf, r_tabC 21 108 0 rfl rfl (by decide) (by decide) rfl rfl h⟩
  · obtain ⟨mf, h⟩ := lw_read hs hi hc hm hg n
    exact ⟨mf, r_tabC 21 171 1 rfl rfl (by decide) (by decide) rfl rfl h⟩
  · obtain ⟨mf, h⟩ := lw_range hs hi hc hm hg n
    exact ⟨mf, r_tabC 21 194 2 rfl rfl (by decide) (by decide) rfl rfl h⟩
  · obtain ⟨mf, h⟩ := lw_order hs hi hc hm hg n
    exact ⟨mf, r_tabC 21 227 3 rfl rfl (by decide) (by decide) rfl rfl h⟩
  · obtain ⟨mf, h⟩ := lw_combine hs hi hc hm hg n
    exact ⟨mf, r_tabC 21 250 4 rfl rfl (by decide) (by decide) rfl rfl h⟩
  · obtain ⟨mf, h⟩ := lw_inside hs hi hc hm hg n
    exact ⟨mf, r_tabC 21 303 5 rfl rfl (by decide) (by decide) rfl rfl h⟩
  · obtain ⟨mf, h⟩ := lw_holds hs hi hc hm hg n
    exact ⟨mf, r_tabC 21 336 6 rfl rfl (by decide) (by decide) rfl rfl h⟩
  · obtain ⟨mf, h⟩ := lw_write hs hi hc hm hg n
    exact ⟨mf, r_tabC 21 369 7 rfl rfl (by decide) (by decide) rfl rfl h⟩
  · obtain ⟨mf, h⟩ := lw_octet hs hi hc hm hg n
    exact ⟨mf, r_tabC 21 402 8 rfl rfl (by decide) (by decide) rfl rfl h⟩
  · obtain ⟨mf, h⟩ := lw_resolve hs hi hc hm hg n
    exact ⟨mf, r_tabC 21 425 9 rfl rfl (by decide) (by decide) rfl rfl h⟩
  · obtain ⟨mf, h⟩ := lw_chosen hs hi hc hm hg n
    exact ⟨mf, r_tabC 21 464 10 rfl rfl (by decide) (by decide) rfl rfl h⟩
  · obtain ⟨mf, h⟩ := lw_reason hs hi hc hm hg n
    exact ⟨mf, r_tabC 21 487 11 rfl rfl (by decide) (by decide) rfl rfl h⟩
  · obtain ⟨mf, h⟩ := lw_solutions hs hi hc hm hg n
    exact ⟨mf, r_tabC 21 510 12 rfl rfl (by decide) (by decide) rfl rfl h⟩
  · obtain ⟨mf, h⟩ := lw_why hs hi hc hm hg n
    exact ⟨mf, r_tabC 21 533 13 rfl rfl (by decide) (by decide) rfl rfl h⟩
  · obtain ⟨mf, h⟩ := lw_count hs hi hc hm hg n
    exact ⟨mf, r_tabC 21 556 14 rfl rfl (by decide) (by decide) rfl rfl h⟩
  · obtain ⟨mf, h⟩ := n m s hc hm hg
    exact ⟨mf, r_tabO 21 579 rfl (Or.inr (by decide)) rfl h⟩
set_option maxRecDepth 40000 in
set_option maxHeartbeats 4000000 in
theorem lw_loop {sa : Nat → Nat} (hs : sa 24 ≤ 3072) : ∀ (n i : Nat) (m : Mi) (s : St), i ≤ sa 24 → sa 24 < i + n → SC m s → SM m s → SG s → Lw sa 18 i m := by
  intro n
  induction n with
  | zero => intro i m s h1 h2; omega
  | succ n ih =>
    intro i m s h1 h2 hc hm hg
    by_cases hx : sa 24 < i + 6
    · refine ⟨m, ?_⟩
      refine r_iload_n 10 19 3 rfl rfl rfl rfl ?_
      refine r_aload_n 11 20 0 rfl rfl rfl rfl ?_
      refine r_slen 12 21 rfl rfl ?_
      refine r_bipush 13 23 (v := 6) rfl rfl (by decide) ?_
      refine r_isub 14 24 rfl rfl ?_
      have h := r_icmp_gt (G := fun β => β.2 = sa) (μ := u_L) (E := EE) (κ := kLw) (L := LwL (nI i)) (st := []) (M := (TT, m)) (r1 := some (some (.inl 1), (TT, m))) (r2 := none) (x := nI i) (y := Int32.ofNat (sa 24) - 6) (pc := 24) 15 585 27 rfl rfl rfl (fun _ => ?_) (fun e => absurd ((lw_gt hs (by omega)).mpr hx) e)
      · rw [if_pos ((lw_gt hs (by omega)).mpr hx)] at h
        exact h
      · refine r_iconst 397 586 (v := 1) rfl rfl (by decide) ?_
        exact r_zret 398 (ty := .boolean) rfl rfl rfl rfl
    · have hi : i + 6 ≤ sa 24 := by omega
      obtain ⟨w, hw, ew⟩ := and15 (Int32.ofNat (sa (25 + ix (nI i))))
      obtain ⟨mf, h⟩ := lw_sw hs hi hc hm hg (fun m' s' a b c => lw_579 (ih (i + 6) m' s' hi (by omega) a b c)) hw
      refine ⟨mf, ?_⟩
      refine r_iload_n 10 19 3 rfl rfl rfl rfl ?_
      refine r_aload_n 11 20 0 rfl rfl rfl rfl ?_
      refine r_slen 12 21 rfl rfl ?_
      refine r_bipush 13 23 (v := 6) rfl rfl (by decide) ?_
      refine r_isub 14 24 rfl rfl ?_
      have h' := r_icmp_gt (G := fun β => β.2 = sa) (μ := u_L) (E := EE) (κ := kLw) (L := LwL (nI i)) (st := []) (M := (TT, m)) (r1 := none) (r2 := some (some (.inl 1), (TT, mf))) (x := nI i) (y := Int32.ofNat (sa 24) - 6) (pc := 24) 15 585 27 rfl rfl rfl (fun e => absurd ((lw_gt hs (by omega)).mp e) hx) (fun _ => ?_)
      · rw [if_neg (fun e => hx ((lw_gt hs (by omega)).mp e))] at h'
        exact h'
      · refine r_aload_n 16 28 0 rfl rfl rfl rfl ?_
        refine r_iload_n 17 29 3 rfl rfl rfl rfl ?_
        refine r_sld 18 30 rfl rfl ⟨nI_pos (by omega), by rw [ix_nI (by omega)]; omega⟩ ?_
        refine r_bipush 19 32 (v := 15) rfl rfl (by decide) ?_
        refine r_iand 20 33 rfl rfl ?_
        rw [ew]
        exact h
theorem lw_cl7 : Cond.classLink RL 7 RX11 ∈ TB := tbm 135 (by decide +kernel) rfl
theorem lw_cl10 : Cond.classLink RL 10 RX12 ∈ TB := tbm 1297 (by decide +kernel) rfl
theorem lw_in11 : Cond.instantiable RX11 (fN 11) ∈ TB := tbm 136 (by decide +kernel) rfl
theorem lw_in12 : Cond.instantiable RX12 (fN 12) ∈ TB := tbm 1298 (by decide +kernel) rfl
theorem lw_ini11 : Cond.initialized RX11 ∈ TB := tbm 114 (by decide +kernel) rfl
theorem lw_ini12 : Cond.initialized RX12 ∈ TB := tbm 128 (by decide +kernel) rfl
theorem lk_RL_9 : Cond.methodLink RL 9 yX11_init ∈ TB := tbm 137 (by decide +kernel) rfl
theorem lk_RL_12 : Cond.methodLink RL 12 yX12_init ∈ TB := tbm 1299 (by decide +kernel) rfl
set_option maxRecDepth 40000 in
set_option maxHeartbeats 4000000 in
theorem lw_begin {sa : Nat → Nat} (hs : sa 24 ≤ 3072) (m0 : Mi) : ∃ m', SmG (fun β => β.2 = sa) u_L EE kLw 0 [(0, .inr (.inr (1048576 + 23)))] [] ([], m0) (some (some (.inl 1), (TT, m'))) := by
  obtain ⟨q1, e1, p1, p2⟩ := new_11 m0
  obtain ⟨t1, m1⟩ := q1
  have p1 : t1 = TT.take 869 := p1
  subst p1
  obtain ⟨q2, e2, p3, p4, p5⟩ := new_12 m1
  obtain ⟨t2, m2⟩ := q2
  have p3 : t2 = TT := p3
  subst p3
  have hC : SC m2 s0 := p2 m2 p4
  obtain ⟨mf, h⟩ := lw_loop hs (sa 24 + 1) 0 m2 s0 (by omega) (by omega) hC p5 SG0
  refine ⟨mf, ?_⟩
  refine r_new 0 3 (c := 11) rfl rfl (by decide) rfl inW11 tyX11_ok lw_cl7 lw_in11 lw_ini11 (by decide) ?_
  show SmG _ _ _ _ _ _ _ ([Sum.inl 11], zr m0 1) _
  refine r_dup 1 4 rfl rfl rfl ?_
  refine r_ctor 2 7 (st := [.inr (.inr 1)]) (av := [.inr (.inr 1)]) (av' := []) (μ' := u_X11_init) (d := 4) (q := (TT.take 869, m1)) rfl rfl mc_X11_init rfl rfl ini_X11_init lk_RL_9 (Nat.le_of_ble_eq_true rfl) rfl rfl (x0 := .inl 11) rfl (Nat.le_of_ble_eq_true rfl) (ct_X11_init rfl e1) (mn_X11_init rfl e1) ?_
  refine r_astore_n 3 8 (L' := [(1, .inr (.inr 1)), (0, .inr (.inr (1048576 + 23)))]) rfl rfl rfl (by decide) rfl ?_
  refine r_new 4 11 (c := 12) rfl rfl (by rw [len869]; omega) rfl inW12 tyX12_ok lw_cl10 lw_in12 lw_ini12 (by decide) ?_
  rw [len869]
  show SmG _ _ _ _ _ _ _ (TT.take 869 ++ [Sum.inl 12], zr m1 870) _
  refine r_dup 5 12 rfl rfl rfl ?_
  refine r_ctor 6 15 (st := [.inr (.inr 870)]) (av := [.inr (.inr 870)]) (av' := []) (μ' := u_X12_init) (d := 4) (q := (TT, m2)) rfl rfl mc_X12_init rfl rfl ini_X12_init lk_RL_12 (Nat.le_of_ble_eq_true rfl) rfl rfl (x0 := .inl 12) (nw_at (k := 0) (n := 869) len869 rfl) (Nat.le_of_ble_eq_true rfl) (ct_X12_init (nw_at (k := 0) (n := 869) len869 rfl) e2) (mn_X12_init (nw_at (k := 0) (n := 869) len869 rfl) e2) ?_
  refine r_astore_n 7 16 (L' := [(2, .inr (.inr 870)), (1, .inr (.inr 1)), (0, .inr (.inr (1048576 + 23)))]) rfl rfl rfl (by decide) rfl ?_
  refine r_iconst 8 17 (v := 0) rfl rfl (by decide) ?_
  refine r_istore_n 9 18 (L' := [(3, .inl 0), (2, .inr (.inr 870)), (1, .inr (.inr 1)), (0, .inr (.inr (1048576 + 23)))]) rfl rfl rfl (by decide) rfl ?_
  refine r_sub [3, 2, 1, 0] rfl ?_
  exact h
