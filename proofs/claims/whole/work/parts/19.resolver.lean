theorem fl_RX11_13 : FL RX11 13 11 1 false := ⟨RX11, TX11, 13, rfl, inW11, tyX11_ok, nmX11, by decide, rfl, rfl, rfl, tbm 524 (by decide +kernel) rfl⟩
def tb_X11_isOnTape : Tb := [(0, (.iload_n 1, 1)), (1, (.ifCond .lt 15, 3)), (4, (.iload_n 1, 1)), (5, (.aload_n 0, 1)), (6, (.getfield 13, 3)), (9, (.if_icmp .gt 7, 3)), (12, (.iconst 1, 1)), (13, (.goto 4, 3)), (16, (.iconst 0, 1)), (17, (.ireturn, 1))]
def u_X11_isOnTape : Fx := (yX11_isOnTape, (cX11_isOnTape, (2, ((some .boolean), tb_X11_isOnTape))))
theorem tk_X11_isOnTape : ∀ q ∈ u_X11_isOnTape.2.2.2.2, decode u_X11_isOnTape.2.1 q.1 = .ok q.2 := by decide +kernel
theorem mc_X11_isOnTape : MC u_X11_isOnTape 1 := ⟨tbm 578 (by decide +kernel) rfl, tbm 114 (by decide +kernel) rfl, ⟨by decide, by decide, by decide +kernel⟩, by decide⟩
theorem in_X11_isOnTape : Cond.instanceMethod u_X11_isOnTape.1 ∈ TB ∧ Cond.selects u_X11_isOnTape.1.cls u_X11_isOnTape.1 u_X11_isOnTape.1 ∈ TB := ⟨tbm 577 (by decide +kernel) rfl, tbm 2 (by decide +kernel) rfl⟩
def f_X11_isOnTape (t : List Sh) (m : Mi) (a0 : Nat) (a1 : Int32) : Option (Int32) :=
  if a1 < 0 then
    some 0
  else
    if (gi m a0 1) < a1 then
      some 0
    else
      some 1
set_option maxRecDepth 4000 in
set_option maxHeartbeats 4000000 in
theorem sm_X11_isOnTape (t : List Sh) (m : Mi) (a0 : Nat) (a1 : Int32) (h0 : sh t a0 = some (.inl 11)) : Sm u_X11_isOnTape (1, 0, 0, t.length, zs t) (kIo t m) 0 [(0, .inr (.inr a0)), (1, .inl a1)] [] (t, m) (f_X11_isOnTape t m a0 a1) := by
  unfold f_X11_isOnTape
  refine r_iload_n 0 1 1 rfl rfl rfl rfl ?_
  refine r_if_lt 1 16 4 rfl rfl rfl (fun h1 => ?_) (fun h1 => ?_)
  · refine r_iconst 8 17 (v := 0) rfl rfl (by decide) ?_
    exact r_zret 9 rfl rfl (by decide) rfl
  · refine r_iload_n 2 5 1 rfl rfl rfl rfl ?_
    refine r_aload_n 3 6 0 rfl rfl rfl rfl ?_
    refine r_getI 4 9 rfl rfl fl_RX11_13 rfl h0 ?_
    refine r_icmp_gt 5 16 12 rfl rfl rfl (fun h2 => ?_) (fun h2 => ?_)
    · refine r_iconst 8 17 (v := 0) rfl rfl (by decide) ?_
      exact r_zret 9 rfl rfl (by decide) rfl
    · refine r_iconst 6 13 (v := 1) rfl rfl (by decide) ?_
      refine r_goto 7 17 rfl rfl ?_
      exact r_zret 9 rfl rfl (by decide) rfl
theorem ct_X11_isOnTape {t : List Sh} {m : Mi} {a0 : Nat} {a1 : Int32} {v : Int32}  (h0 : sh t a0 = some (.inl 11)) (h : f_X11_isOnTape t m a0 a1 = some v) : Ct u_X11_isOnTape 1 0 0 [.inr (.inr a0), .inl a1] (t, m) (some (.inl v), (t, m)) :=
  ct_of (by decide) tk_X11_isOnTape (Nat.le_of_ble_eq_true rfl) (sm_X11_isOnTape t m a0 a1 h0) (by rw [h]; rfl) (Nat.le_refl _) (Nat.le_refl _)
def tb_X11_isSlot : Tb := [(0, (.iload_n 0, 1)), (1, (.ifCond .lt 13, 3)), (4, (.iload_n 0, 1)), (5, (.bipush 16, 2)), (7, (.if_icmp .ge 7, 3)), (10, (.iconst 1, 1)), (11, (.goto 4, 3)), (14, (.iconst 0, 1)), (15, (.ireturn, 1))]
def u_X11_isSlot : Fx := (yX11_isSlot, (cX11_isSlot, (1, ((some .boolean), tb_X11_isSlot))))
theorem tk_X11_isSlot : ∀ q ∈ u_X11_isSlot.2.2.2.2, decode u_X11_isSlot.2.1 q.1 = .ok q.2 := by decide +kernel
theorem mc_X11_isSlot : MC u_X11_isSlot 1 := ⟨tbm 963 (by decide +kernel) rfl, tbm 114 (by decide +kernel) rfl, ⟨by decide, by decide, by decide +kernel⟩, by decide⟩
theorem st_X11_isSlot : Cond.static u_X11_isSlot.1 ∈ TB := tbm 962 (by decide +kernel) rfl
def f_X11_isSlot (a0 : Int32) : Option (Int32) :=
  if a0 < 0 then
    some 0
  else
    if 16 ≤ a0 then
      some 0
    else
      some 1
set_option maxRecDepth 4000 in
set_option maxHeartbeats 4000000 in
theorem sm_X11_isSlot (t : List Sh) (m : Mi) (a0 : Int32) : Sm u_X11_isSlot (1, 0, 0, t.length, zs t) (kIo t m) 0 [(0, .inl a0)] [] (t, m) (f_X11_isSlot a0) := by
  unfold f_X11_isSlot
  refine r_iload_n 0 1 0 rfl rfl rfl rfl ?_
  refine r_if_lt 1 14 4 rfl rfl rfl (fun h1 => ?_) (fun h1 => ?_)
  · refine r_iconst 7 15 (v := 0) rfl rfl (by decide) ?_
    exact r_zret 8 rfl rfl (by decide) rfl
  · refine r_iload_n 2 5 0 rfl rfl rfl rfl ?_
    refine r_bipush 3 7 (v := 16) rfl rfl (by decide) ?_
    refine r_icmp_ge 4 14 10 rfl rfl rfl (fun h2 => ?_) (fun h2 => ?_)
    · refine r_iconst 7 15 (v := 0) rfl rfl (by decide) ?_
      exact r_zret 8 rfl rfl (by decide) rfl
    · refine r_iconst 5 11 (v := 1) rfl rfl (by decide) ?_
      refine r_goto 6 15 rfl rfl ?_
      exact r_zret 8 rfl rfl (by decide) rfl
theorem ct_X11_isSlot {t : List Sh} {m : Mi} {a0 : Int32} {v : Int32}  (h : f_X11_isSlot a0 = some v) : Ct u_X11_isSlot 1 0 0 [.inl a0] (t, m) (some (.inl v), (t, m)) :=
  ct_of (by decide) tk_X11_isSlot (Nat.le_of_ble_eq_true rfl) (sm_X11_isSlot t m a0) (by rw [h]; rfl) (Nat.le_refl _) (Nat.le_refl _)
theorem fl_RX11_9 : FL RX11 9 11 0 true := ⟨RX11, TX11, 13, rfl, inW11, tyX11_ok, nmX11, by decide, rfl, rfl, rfl, tbm 523 (by decide +kernel) rfl⟩
def tb_X11_layFourBytes : Tb := [(0, (.bipush 24, 2)), (2, (.istore_n 2, 1)), (3, (.iload_n 2, 1)), (4, (.ifCond .lt 42, 3)), (7, (.aload_n 0, 1)), (8, (.getfield 13, 3)), (11, (.sipush 2000, 3)), (14, (.if_icmp .ge 26, 3)), (17, (.aload_n 0, 1)), (18, (.getfield 9, 3)), (21, (.aload_n 0, 1)), (22, (.getfield 13, 3)), (25, (.iload_n 1, 1)), (26, (.iload_n 2, 1)), (27, (.ishr, 1)), (28, (.i2b, 1)), (29, (.bastore, 1)), (30, (.aload_n 0, 1)), (31, (.dup, 1)), (32, (.getfield 13, 3)), (35, (.iconst 1, 1)), (36, (.iadd, 1)), (37, (.putfield 13, 3)), (40, (.iinc 2 (-8), 3)), (43, (.goto (-40), 3)), (46, (.return_, 1))]
def u_X11_layFourBytes : Fx := (yX11_layFourBytes, (cX11_layFourBytes, (3, (none, tb_X11_layFourBytes))))
theorem tk_X11_layFourBytes : ∀ q ∈ u_X11_layFourBytes.2.2.2.2, decode u_X11_layFourBytes.2.1 q.1 = .ok q.2 := by decide +kernel
theorem mc_X11_layFourBytes : MC u_X11_layFourBytes 1 := ⟨tbm 570 (by decide +kernel) rfl, tbm 114 (by decide +kernel) rfl, ⟨by decide, by decide, by decide +kernel⟩, by decide⟩
theorem in_X11_layFourBytes : Cond.instanceMethod u_X11_layFourBytes.1 ∈ TB ∧ Cond.selects u_X11_layFourBytes.1.cls u_X11_layFourBytes.1 u_X11_layFourBytes.1 ∈ TB := ⟨tbm 569 (by decide +kernel) rfl, tbm 1 (by decide +kernel) rfl⟩
def f_X11_layFourBytes_j46 (t : List Sh) (m : Mi) : Option (Mi) :=
  some m
def f_X11_layFourBytes_l3 (t : List Sh) (m : Mi) (a0 : Nat) (a1 : Int32) (a2 : Int32) : Option ((Int32 × Mi) ⊕ ((Mi))) :=
  if a2 < 0 then
    some (.inr m)
  else
    if 2000 ≤ (gi m a0 1) then
      lt (a2 + (-8)) fun x3 =>
      some (.inl (x3, m))
    else
      (if ar t (gr m a0 0) .byte (gi m a0 1) = true then
      lt (si m (gr m a0 0) (ix (gi m a0 1)) (vp_nar .byte ((Int32.toInt8 (a1 >>> (a2 &&& 31))).toInt32))) fun m5 =>
      lt (si m5 a0 1 ((gi m5 a0 1) + 1)) fun m6 =>
      lt (a2 + (-8)) fun x7 =>
      some (.inl (x7, m6))
      else none)
def f_X11_layFourBytes_j3 (t : List Sh) (m : Mi) (a0 : Nat) (a1 : Int32) (a2 : Int32) : Option (Mi) :=
  (lp (fun x : Int32 × Mi => f_X11_layFourBytes_l3 t x.2 a0 a1 x.1) FUEL (a2, m)).bind (fun y : Mi => f_X11_layFourBytes_j46 t y)
def f_X11_layFourBytes (t : List Sh) (m : Mi) (a0 : Nat) (a1 : Int32) : Option (Mi) :=
  f_X11_layFourBytes_j3 t m a0 a1 24
set_option maxRecDepth 4000 in
set_option maxHeartbeats 4000000 in
theorem sm_X11_layFourBytes (t : List Sh) (m : Mi) (a0 : Nat) (a1 : Int32) (h0 : sh t a0 = some (.inl 11)) : Sm u_X11_layFourBytes (1, 0, 0, t.length, zs t) (kV t) 0 [(0, .inr (.inr a0)), (1, .inl a1)] [] (t, m) (f_X11_layFourBytes t m a0 a1) := by
  unfold f_X11_layFourBytes
  refine r_bipush 0 2 (v := 24) rfl rfl (by decide) ?_
  refine r_istore_n 1 3 (L' := [(2, .inl 24), (0, .inr (.inr a0)), (1, .inl a1)]) rfl rfl rfl (by decide) rfl ?_
  have hj3 : ∀ (m : Mi) (a2 : Int32), Sm u_X11_layFourBytes (1, 0, 0, t.length, zs t) (kV t) 3 [(0, .inr (.inr a0)), (1, .inl a1), (2, .inl a2)] [] (t, m) (f_X11_layFourBytes_j3 t m a0 a1 a2) := by
    intro m a2
    unfold f_X11_layFourBytes_j3
    have hj46 : ∀ (m : Mi), Sm u_X11_layFourBytes (1, 0, 0, t.length, zs t) (kV t) 46 [] [] (t, m) (f_X11_layFourBytes_j46 t m) := by
      intro m
      unfold f_X11_layFourBytes_j46
      exact r_vret 25 rfl rfl rfl
    refine r_lp (Lf := fun x : Int32 × Mi => [(0, .inr (.inr a0)), (1, .inl a1), (2, .inl (x.1))]) (Mf := fun x : Int32 × Mi => (t, x.2)) (a2, m) ?_ FUEL
    rintro ⟨a2, m⟩ κ3 hc3 he3
    refine r_eq (L' := [(0, .inr (.inr a0)), (1, .inl a1), (2, .inl a2)]) (M' := (t, m)) rfl rfl ?_
    refine r_eqr (r' := f_X11_layFourBytes_l3 t m a0 a1 a2) rfl ?_
    unfold f_X11_layFourBytes_l3
    refine r_iload_n 2 4 2 rfl rfl rfl rfl ?_
    refine r_if_lt 3 46 7 rfl rfl rfl (fun h1 => ?_) (fun h1 => ?_)
    · refine r_leaf (r2 := (f_X11_layFourBytes_j46 t m : Option (Mi))) (he3 _) ?_
      exact r_sub [] rfl (hj46 m)
    · refine r_aload_n 4 8 0 rfl rfl rfl rfl ?_
      refine r_getI 5 11 rfl rfl fl_RX11_13 rfl h0 ?_
      refine r_sipush 6 14 (v := 2000) rfl rfl (by decide) ?_
      refine r_icmp_ge 7 40 17 rfl rfl rfl (fun h2 => ?_) (fun h2 => ?_)
      · refine r_iinc 23 43 2 (L' := [(2, .inl (a2 + (-8))), (0, .inr (.inr a0)), (1, .inl a1)]) rfl rfl rfl (by decide) rfl ?_
        refine r_ltV (fun x3 => ?_)
        refine r_goto 24 3 rfl rfl ?_
        exact r_sub [1, 2, 0] rfl (hc3 (x3, m))
      · refine r_aload_n 8 18 0 rfl rfl rfl rfl ?_
        refine r_getR 9 21 rfl rfl fl_RX11_9 rfl h0 ?_
        refine r_aload_n 10 22 0 rfl rfl rfl rfl ?_
        refine r_getI 11 25 rfl rfl fl_RX11_13 rfl h0 ?_
        refine r_iload_n 12 26 1 rfl rfl rfl rfl ?_
        refine r_iload_n 13 27 2 rfl rfl rfl rfl ?_
        refine r_ishr 14 28 rfl rfl ?_
        refine r_i2b 15 29 rfl rfl ?_
        refine r_gd (fun h4 => ?_)
        refine r_bast 16 30 rfl rfl h4 ?_
        refine r_ltM (fun m5 => ?_)
        refine r_aload_n 17 31 0 rfl rfl rfl rfl ?_
        refine r_dup 18 32 rfl rfl rfl ?_
        refine r_getI 19 35 rfl rfl fl_RX11_13 rfl h0 ?_
        refine r_iconst 20 36 (v := 1) rfl rfl (by decide) ?_
        refine r_iadd 21 37 rfl rfl ?_
        refine r_putI 22 40 rfl rfl fl_RX11_13 (fun h => by cases h) (Or.inl rfl) h0 ?_
        refine r_ltM (fun m6 => ?_)
        refine r_iinc 23 43 2 (L' := [(2, .inl (a2 + (-8))), (0, .inr (.inr a0)), (1, .inl a1)]) rfl rfl rfl (by decide) rfl ?_
        refine r_ltV (fun x7 => ?_)
        refine r_goto 24 3 rfl rfl ?_
        exact r_sub [1, 2, 0] rfl (hc3 (x7, m6))
  exact r_sub [1, 2, 0] rfl (hj3 m 24)
theorem ct_X11_layFourBytes {t : List Sh} {m : Mi} {a0 : Nat} {a1 : Int32} {m' : Mi}  (h0 : sh t a0 = some (.inl 11)) (h : f_X11_layFourBytes t m a0 a1 = some m') : Ct u_X11_layFourBytes 1 0 0 [.inr (.inr a0), .inl a1] (t, m) (none, (t, m')) :=
  ct_of (by decide) tk_X11_layFourBytes (Nat.le_of_ble_eq_true rfl) (sm_X11_layFourBytes t m a0 a1 h0) (by rw [h]; rfl) (Nat.le_refl _) (Nat.le_refl _)
theorem lk_RX11_246 : Cond.methodLink RX11 246 yX9_isBlank ∈ TB := tbm 976 (by decide +kernel) rfl
def tb_X11_behindBlanks : Tb := [(0, (.iload_n 1, 1)), (1, (.istore_n 3, 1)), (2, (.iload_n 3, 1)), (3, (.iload_n 2, 1)), (4, (.if_icmp .ge 28, 3)), (7, (.iload_n 3, 1)), (8, (.sipush 2000, 3)), (11, (.if_icmp .ge 21, 3)), (14, (.aload_n 0, 1)), (15, (.getfield 9, 3)), (18, (.iload_n 3, 1)), (19, (.baload, 1)), (20, (.invokestatic 246, 3)), (23, (.ifCond .eq 9, 3)), (26, (.iinc 3 1, 3)), (29, (.goto (-27), 3)), (32, (.iload_n 3, 1)), (33, (.ireturn, 1))]
def u_X11_behindBlanks : Fx := (yX11_behindBlanks, (cX11_behindBlanks, (4, ((some .int), tb_X11_behindBlanks))))
theorem tk_X11_behindBlanks : ∀ q ∈ u_X11_behindBlanks.2.2.2.2, decode u_X11_behindBlanks.2.1 q.1 = .ok q.2 := by decide +kernel
theorem mc_X11_behindBlanks : MC u_X11_behindBlanks 2 := ⟨tbm 975 (by decide +kernel) rfl, tbm 114 (by decide +kernel) rfl, ⟨by decide, by decide, by decide +kernel⟩, by decide⟩
theorem in_X11_behindBlanks : Cond.instanceMethod u_X11_behindBlanks.1 ∈ TB ∧ Cond.selects u_X11_behindBlanks.1.cls u_X11_behindBlanks.1 u_X11_behindBlanks.1 ∈ TB := ⟨tbm 974 (by decide +kernel) rfl, tbm 41 (by decide +kernel) rfl⟩
def f_X11_behindBlanks_j32 (t : List Sh) (m : Mi) (a3 : Int32) : Option (Int32) :=
  some a3
def f_X11_behindBlanks_l2 (t : List Sh) (m : Mi) (a0 : Nat) (a2 : Int32) (a3 : Int32) : Option ((Int32) ⊕ ((Int32))) :=
  if a2 ≤ a3 then
    some (.inr a3)
  else
    if 2000 ≤ a3 then
      some (.inr a3)
    else
      (if ar t (gr m a0 0) .byte a3 = true then
      (f_X9_isBlank (gi m (gr m a0 0) (ix a3))).bind fun x4 =>
      if x4 = 0 then
        some (.inr a3)
      else
        lt (a3 + 1) fun x6 =>
        some (.inl x6)
      else none)
def f_X11_behindBlanks_j2 (t : List Sh) (m : Mi) (a0 : Nat) (a2 : Int32) (a3 : Int32) : Option (Int32) :=
  (lp (fun x : Int32 => f_X11_behindBlanks_l2 t m a0 a2 x) FUEL a3).bind (fun y : Int32 => f_X11_behindBlanks_j32 t m y)
def f_X11_behindBlanks (t : List Sh) (m : Mi) (a0 : Nat) (a1 : Int32) (a2 : Int32) : Option (Int32) :=
  f_X11_behindBlanks_j2 t m a0 a2 a1
set_option maxRecDepth 4000 in
set_option maxHeartbeats 4000000 in
theorem sm_X11_behindBlanks (t : List Sh) (m : Mi) (a0 : Nat) (a1 : Int32) (a2 : Int32) (h0 : sh t a0 = some (.inl 11)) : Sm u_X11_behindBlanks (2, 0, 0, t.length, zs t) (kIo t m) 0 [(0, .inr (.inr a0)), (1, .inl a1), (2, .inl a2)] [] (t, m) (f_X11_behindBlanks t m a0 a1 a2) := by
  unfold f_X11_behindBlanks
  refine r_iload_n 0 1 1 rfl rfl rfl rfl ?_
  refine r_istore_n 1 2 (L' := [(3, .inl a1), (0, .inr (.inr a0)), (1, .inl a1), (2, .inl a2)]) rfl rfl rfl (by decide) rfl ?_
  have hj2 : ∀ (a3 : Int32), Sm u_X11_behindBlanks (2, 0, 0, t.length, zs t) (kIo t m) 2 [(0, .inr (.inr a0)), (2, .inl a2), (3, .inl a3)] [] (t, m) (f_X11_behindBlanks_j2 t m a0 a2 a3) := by
    intro a3
    unfold f_X11_behindBlanks_j2
    have hj32 : ∀ (a3 : Int32), Sm u_X11_behindBlanks (2, 0, 0, t.length, zs t) (kIo t m) 32 [(3, .inl a3)] [] (t, m) (f_X11_behindBlanks_j32 t m a3) := by
      intro a3
      unfold f_X11_behindBlanks_j32
      refine r_iload_n 16 33 0 rfl rfl rfl rfl ?_
      exact r_iret 17 rfl rfl rfl
    refine r_lp (Lf := fun x : Int32 => [(0, .inr (.inr a0)), (2, .inl a2), (3, .inl x)]) (Mf := fun x : Int32 => (t, m)) a3 ?_ FUEL
    rintro a3 κ2 hc2 he2
    refine r_eq (L' := [(0, .inr (.inr a0)), (2, .inl a2), (3, .inl a3)]) (M' := (t, m)) rfl rfl ?_
    refine r_eqr (r' := f_X11_behindBlanks_l2 t m a0 a2 a3) rfl ?_
    unfold f_X11_behindBlanks_l2
    refine r_iload_n 2 3 2 rfl rfl rfl rfl ?_
    refine r_iload_n 3 4 1 rfl rfl rfl rfl ?_
    refine r_icmp_ge 4 32 7 rfl rfl rfl (fun h1 => ?_) (fun h1 => ?_)
    · refine r_leaf (r2 := (f_X11_behindBlanks_j32 t m a3 : Option (Int32))) (he2 _) ?_
      exact r_sub [2] rfl (hj32 a3)
    · refine r_iload_n 5 8 2 rfl rfl rfl rfl ?_
      refine r_sipush 6 11 (v := 2000) rfl rfl (by decide) ?_
      refine r_icmp_ge 7 32 14 rfl rfl rfl (fun h2 => ?_) (fun h2 => ?_)
      · refine r_leaf (r2 := (f_X11_behindBlanks_j32 t m a3 : Option (Int32))) (he2 _) ?_
        exact r_sub [2] rfl (hj32 a3)
      · refine r_aload_n 8 15 0 rfl rfl rfl rfl ?_
        refine r_getR 9 18 rfl rfl fl_RX11_9 rfl h0 ?_
        refine r_iload_n 10 19 2 rfl rfl rfl rfl ?_
        refine r_gd (fun h3 => ?_)
        refine r_bald 11 20 rfl rfl h3 ?_
        refine r_SIo 12 23 (a := 0) (cn := 0) (st := []) (av := [.inl (gi m (gr m a0 0) (ix a3))]) (μ' := u_X9_isBlank) (d := 1) rfl rfl mc_X9_isBlank st_X9_isBlank lk_RX11_246 (Nat.le_of_ble_eq_true rfl) rfl (Nat.le_of_ble_eq_true rfl) (fun _ h => ct_X9_isBlank h) (fun x4 => ?_)
        refine r_if_eq 13 32 26 rfl rfl rfl (fun h5 => ?_) (fun h5 => ?_)
        · refine r_leaf (r2 := (f_X11_behindBlanks_j32 t m a3 : Option (Int32))) (he2 _) ?_
          exact r_sub [2] rfl (hj32 a3)
        · refine r_iinc 14 29 2 (L' := [(3, .inl (a3 + 1)), (0, .inr (.inr a0)), (2, .inl a2)]) rfl rfl rfl (by decide) rfl ?_
          refine r_ltV (fun x6 => ?_)
          refine r_goto 15 2 rfl rfl ?_
          exact r_sub [1, 2, 0] rfl (hc2 x6)
  exact r_sub [1, 3, 0] rfl (hj2 a1)
theorem ct_X11_behindBlanks {t : List Sh} {m : Mi} {a0 : Nat} {a1 : Int32} {a2 : Int32} {v : Int32}  (h0 : sh t a0 = some (.inl 11)) (h : f_X11_behindBlanks t m a0 a1 a2 = some v) : Ct u_X11_behindBlanks 2 0 0 [.inr (.inr a0), .inl a1, .inl a2] (t, m) (some (.inl v), (t, m)) :=
  ct_of (by decide) tk_X11_behindBlanks (Nat.le_of_ble_eq_true rfl) (sm_X11_behindBlanks t m a0 a1 a2 h0) (by rw [h]; rfl) (Nat.le_refl _) (Nat.le_refl _)
def tb_X11_behindSigns : Tb := [(0, (.iload_n 1, 1)), (1, (.istore_n 3, 1)), (2, (.iload_n 3, 1)), (3, (.iload_n 2, 1)), (4, (.if_icmp .ge 28, 3)), (7, (.iload_n 3, 1)), (8, (.sipush 2000, 3)), (11, (.if_icmp .ge 21, 3)), (14, (.aload_n 0, 1)), (15, (.getfield 9, 3)), (18, (.iload_n 3, 1)), (19, (.baload, 1)), (20, (.invokestatic 246, 3)), (23, (.ifCond .ne 9, 3)), (26, (.iinc 3 1, 3)), (29, (.goto (-27), 3)), (32, (.iload_n 3, 1)), (33, (.ireturn, 1))]
def u_X11_behindSigns : Fx := (yX11_behindSigns, (cX11_behindSigns, (4, ((some .int), tb_X11_behindSigns))))
theorem tk_X11_behindSigns : ∀ q ∈ u_X11_behindSigns.2.2.2.2, decode u_X11_behindSigns.2.1 q.1 = .ok q.2 := by decide +kernel
theorem mc_X11_behindSigns : MC u_X11_behindSigns 2 := ⟨tbm 980 (by decide +kernel) rfl, tbm 114 (by decide +kernel) rfl, ⟨by decide, by decide, by decide +kernel⟩, by decide⟩
theorem in_X11_behindSigns : Cond.instanceMethod u_X11_behindSigns.1 ∈ TB ∧ Cond.selects u_X11_behindSigns.1.cls u_X11_behindSigns.1 u_X11_behindSigns.1 ∈ TB := ⟨tbm 979 (by decide +kernel) rfl, tbm 42 (by decide +kernel) rfl⟩
def f_X11_behindSigns_j32 (t : List Sh) (m : Mi) (a3 : Int32) : Option (Int32) :=
  some a3
def f_X11_behindSigns_l2 (t : List Sh) (m : Mi) (a0 : Nat) (a2 : Int32) (a3 : Int32) : Option ((Int32) ⊕ ((Int32))) :=
  if a2 ≤ a3 then
    some (.inr a3)
  else
    if 2000 ≤ a3 then
      some (.inr a3)
    else
      (if ar t (gr m a0 0) .byte a3 = true then
      (f_X9_isBlank (gi m (gr m a0 0) (ix a3))).bind fun x4 =>
      if x4 = 0 then
        lt (a3 + 1) fun x6 =>
        some (.inl x6)
      else
        some (.inr a3)
      else none)
def f_X11_behindSigns_j2 (t : List Sh) (m : Mi) (a0 : Nat) (a2 : Int32) (a3 : Int32) : Option (Int32) :=
  (lp (fun x : Int32 => f_X11_behindSigns_l2 t m a0 a2 x) FUEL a3).bind (fun y : Int32 => f_X11_behindSigns_j32 t m y)
def f_X11_behindSigns (t : List Sh) (m : Mi) (a0 : Nat) (a1 : Int32) (a2 : Int32) : Option (Int32) :=
  f_X11_behindSigns_j2 t m a0 a2 a1
set_option maxRecDepth 4000 in
set_option maxHeartbeats 4000000 in
theorem sm_X11_behindSigns (t : List Sh) (m : Mi) (a0 : Nat) (a1 : Int32) (a2 : Int32) (h0 : sh t a0 = some (.inl 11)) : Sm u_X11_behindSigns (2, 0, 0, t.length, zs t) (kIo t m) 0 [(0, .inr (.inr a0)), (1, .inl a1), (2, .inl a2)] [] (t, m) (f_X11_behindSigns t m a0 a1 a2) := by
  unfold f_X11_behindSigns
  refine r_iload_n 0 1 1 rfl rfl rfl rfl ?_
  refine r_istore_n 1 2 (L' := [(3, .inl a1), (0, .inr (.inr a0)), (1, .inl a1), (2, .inl a2)]) rfl rfl rfl (by decide) rfl ?_
  have hj2 : ∀ (a3 : Int32), Sm u_X11_behindSigns (2, 0, 0, t.length, zs t) (kIo t m) 2 [(0, .inr (.inr a0)), (2, .inl a2), (3, .inl a3)] [] (t, m) (f_X11_behindSigns_j2 t m a0 a2 a3) := by
    intro a3
    unfold f_X11_behindSigns_j2
    have hj32 : ∀ (a3 : Int32), Sm u_X11_behindSigns (2, 0, 0, t.length, zs t) (kIo t m) 32 [(3, .inl a3)] [] (t, m) (f_X11_behindSigns_j32 t m a3) := by
      intro a3
      unfold f_X11_behindSigns_j32
      refine r_iload_n 16 33 0 rfl rfl rfl rfl ?_
      exact r_iret 17 rfl rfl rfl
    refine r_lp (Lf := fun x : Int32 => [(0, .inr (.inr a0)), (2, .inl a2), (3, .inl x)]) (Mf := fun x : Int32 => (t, m)) a3 ?_ FUEL
    rintro a3 κ2 hc2 he2
    refine r_eq (L' := [(0, .inr (.inr a0)), (2, .inl a2), (3, .inl a3)]) (M' := (t, m)) rfl rfl ?_
    refine r_eqr (r' := f_X11_behindSigns_l2 t m a0 a2 a3) rfl ?_
    unfold f_X11_behindSigns_l2
    refine r_iload_n 2 3 2 rfl rfl rfl rfl ?_
    refine r_iload_n 3 4 1 rfl rfl rfl rfl ?_
    refine r_icmp_ge 4 32 7 rfl rfl rfl (fun h1 => ?_) (fun h1 => ?_)
    · refine r_leaf (r2 := (f_X11_behindSigns_j32 t m a3 : Option (Int32))) (he2 _) ?_
      exact r_sub [2] rfl (hj32 a3)
    · refine r_iload_n 5 8 2 rfl rfl rfl rfl ?_
      refine r_sipush 6 11 (v := 2000) rfl rfl (by decide) ?_
      refine r_icmp_ge 7 32 14 rfl rfl rfl (fun h2 => ?_) (fun h2 => ?_)
      · refine r_leaf (r2 := (f_X11_behindSigns_j32 t m a3 : Option (Int32))) (he2 _) ?_
        exact r_sub [2] rfl (hj32 a3)
      · refine r_aload_n 8 15 0 rfl rfl rfl rfl ?_
        refine r_getR 9 18 rfl rfl fl_RX11_9 rfl h0 ?_
        refine r_iload_n 10 19 2 rfl rfl rfl rfl ?_
        refine r_gd (fun h3 => ?_)
        refine r_bald 11 20 rfl rfl h3 ?_
        refine r_SIo 12 23 (a := 0) (cn := 0) (st := []) (av := [.inl (gi m (gr m a0 0) (ix a3))]) (μ' := u_X9_isBlank) (d := 1) rfl rfl mc_X9_isBlank st_X9_isBlank lk_RX11_246 (Nat.le_of_ble_eq_true rfl) rfl (Nat.le_of_ble_eq_true rfl) (fun _ h => ct_X9_isBlank h) (fun x4 => ?_)
        refine r_if_ne 13 32 26 rfl rfl rfl (fun h5 => ?_) (fun h5 => ?_)
        · refine r_iinc 14 29 2 (L' := [(3, .inl (a3 + 1)), (0, .inr (.inr a0)), (2, .inl a2)]) rfl rfl rfl (by decide) rfl ?_
          refine r_ltV (fun x6 => ?_)
          refine r_goto 15 2 rfl rfl ?_
          exact r_sub [1, 2, 0] rfl (hc2 x6)
        · refine r_leaf (r2 := (f_X11_behindSigns_j32 t m a3 : Option (Int32))) (he2 _) ?_
          exact r_sub [2] rfl (hj32 a3)
  exact r_sub [1, 3, 0] rfl (hj2 a1)
theorem ct_X11_behindSigns {t : List Sh} {m : Mi} {a0 : Nat} {a1 : Int32} {a2 : Int32} {v : Int32}  (h0 : sh t a0 = some (.inl 11)) (h : f_X11_behindSigns t m a0 a1 a2 = some v) : Ct u_X11_behindSigns 2 0 0 [.inr (.inr a0), .inl a1, .inl a2] (t, m) (some (.inl v), (t, m)) :=
  ct_of (by decide) tk_X11_behindSigns (Nat.le_of_ble_eq_true rfl) (sm_X11_behindSigns t m a0 a1 a2 h0) (by rw [h]; rfl) (Nat.le_refl _) (Nat.le_refl _)
theorem fl_RX11_79 : FL RX11 79 11 11 true := ⟨RX11, TX11, 13, rfl, inW11, tyX11_ok, nmX11, by decide, rfl, rfl, rfl, tbm 534 (by decide +kernel) rfl⟩
theorem lk_RX11_218 : Cond.methodLink RX11 218 yX1_releaseOf ∈ TB := tbm 1239 (by decide +kernel) rfl
def tb_X11_chosen : Tb := [(0, (.aload_n 0, 1)), (1, (.getfield 79, 3)), (4, (.iload_n 1, 1)), (5, (.invokevirtual 218, 3)), (8, (.ireturn, 1))]
def u_X11_chosen : Fx := (yX11_chosen, (cX11_chosen, (2, ((some .int), tb_X11_chosen))))
theorem tk_X11_chosen : ∀ q ∈ u_X11_chosen.2.2.2.2, decode u_X11_chosen.2.1 q.1 = .ok q.2 := by decide +kernel
theorem mc_X11_chosen : MC u_X11_chosen 1 := ⟨tbm 1238 (by decide +kernel) rfl, tbm 114 (by decide +kernel) rfl, ⟨by decide, by decide, by decide +kernel⟩, by decide⟩
theorem in_X11_chosen : Cond.instanceMethod u_X11_chosen.1 ∈ TB ∧ Cond.selects u_X11_chosen.1.cls u_X11_chosen.1 u_X11_chosen.1 ∈ TB := ⟨tbm 1236 (by decide +kernel) rfl, tbm 1237 (by decide +kernel) rfl⟩
def f_X11_chosen (t : List Sh) (m : Mi) (a0 : Nat) (a1 : Int32) : Option (Int32) :=
  (if ob t (gr m a0 11) 1 = true then
  (f_X1_releaseOf t m (gr m a0 11) a1).bind fun x2 =>
  some x2
  else none)
set_option maxRecDepth 4000 in
set_option maxHeartbeats 4000000 in
theorem sm_X11_chosen (t : List Sh) (m : Mi) (a0 : Nat) (a1 : Int32) (h0 : sh t a0 = some (.inl 11)) : Sm u_X11_chosen (2, 0, 0, t.length, zs t) (kIo t m) 0 [(0, .inr (.inr a0)), (1, .inl a1)] [] (t, m) (f_X11_chosen t m a0 a1) := by
  unfold f_X11_chosen
  refine r_aload_n 0 1 0 rfl rfl rfl rfl ?_
  refine r_getR 1 4 rfl rfl fl_RX11_79 rfl h0 ?_
  refine r_iload_n 2 5 1 rfl rfl rfl rfl ?_
  refine r_gd (fun h1 => ?_)
  refine r_VIo 3 8 (st := []) (av := [.inr (.inr (gr m a0 11)), .inl a1]) (av' := [.inl a1]) (μ' := u_X1_releaseOf) (d := 1) rfl rfl mc_X1_releaseOf in_X1_releaseOf lk_RX11_218 (Nat.le_of_ble_eq_true rfl) rfl rfl (ob_sh h1) rfl (Nat.le_of_ble_eq_true rfl) (fun _ h => ct_X1_releaseOf (ob_sh h1) h) (fun x2 => ?_)
  exact r_iret 4 rfl rfl rfl
theorem ct_X11_chosen {t : List Sh} {m : Mi} {a0 : Nat} {a1 : Int32} {v : Int32}  (h0 : sh t a0 = some (.inl 11)) (h : f_X11_chosen t m a0 a1 = some v) : Ct u_X11_chosen 2 0 0 [.inr (.inr a0), .inl a1] (t, m) (some (.inl v), (t, m)) :=
  ct_of (by decide) tk_X11_chosen (Nat.le_of_ble_eq_true rfl) (sm_X11_chosen t m a0 a1 h0) (by rw [h]; rfl) (Nat.le_refl _) (Nat.le_refl _)
theorem fl_RX11_60 : FL RX11 60 11 8 false := ⟨RX11, TX11, 13, rfl, inW11, tyX11_ok, nmX11, by decide, rfl, rfl, rfl, tbm 531 (by decide +kernel) rfl⟩
theorem lk_RX11_231 : Cond.methodLink RX11 231 yX6_packs ∈ TB := tbm 1287 (by decide +kernel) rfl
theorem lk_RX11_234 : Cond.methodLink RX11 234 yX6_releases ∈ TB := tbm 1288 (by decide +kernel) rfl
theorem lk_RX11_237 : Cond.methodLink RX11 237 yX6_constraints ∈ TB := tbm 842 (by decide +kernel) rfl
theorem lk_RX11_240 : Cond.methodLink RX11 240 yX1_picked ∈ TB := tbm 1289 (by decide +kernel) rfl
theorem lk_RX11_243 : Cond.methodLink RX11 243 yX1_accused ∈ TB := tbm 1293 (by decide +kernel) rfl
theorem lk_RX11_118 : Cond.methodLink RX11 118 yX11_isSlot ∈ TB := tbm 961 (by decide +kernel) rfl
theorem fl_RX11_19 : FL RX11 19 11 2 true := ⟨RX11, TX11, 13, rfl, inW11, tyX11_ok, nmX11, by decide, rfl, rfl, rfl, tbm 525 (by decide +kernel) rfl⟩
theorem lk_RX11_161 : Cond.methodLink RX11 161 yX4_stretches ∈ TB := tbm 988 (by decide +kernel) rfl
def tb_X11_count : Tb := [(0, (.iload_n 1, 1)), (1, (.tableswitch 84 0 5 #[39, 47, 55, 63, 68, 76], 39)), (40, (.aload_n 0, 1)), (41, (.getfield 60, 3)), (44, (.invokevirtual 231, 3)), (47, (.ireturn, 1)), (48, (.aload_n 0, 1)), (49, (.getfield 60, 3)), (52, (.invokevirtual 234, 3)), (55, (.ireturn, 1)), (56, (.aload_n 0, 1)), (57, (.getfield 60, 3)), (60, (.invokevirtual 237, 3)), (63, (.ireturn, 1)), (64, (.aload_n 0, 1)), (65, (.getfield 13, 3)), (68, (.ireturn, 1)), (69, (.aload_n 0, 1)), (70, (.getfield 79, 3)), (73, (.invokevirtual 240, 3)), (76, (.ireturn, 1)), (77, (.aload_n 0, 1)), (78, (.getfield 79, 3)), (81, (.invokevirtual 243, 3)), (84, (.ireturn, 1)), (85, (.iload_n 1, 1)), (86, (.bipush 16, 2)), (88, (.isub, 1)), (89, (.invokestatic 118, 3)), (92, (.ifCond .eq 18, 3)), (95, (.aload_n 0, 1)), (96, (.getfield 19, 3)), (99, (.iload_n 1, 1)), (100, (.bipush 16, 2)), (102, (.isub, 1)), (103, (.aaload, 1)), (104, (.invokevirtual 161, 3)), (107, (.goto 4, 3)), (110, (.iconst (-1), 1)), (111, (.ireturn, 1))]
def u_X11_count : Fx := (yX11_count, (cX11_count, (2, ((some .int), tb_X11_count))))
theorem tk_X11_count : ∀ q ∈ u_X11_count.2.2.2.2, decode u_X11_count.2.1 q.1 = .ok q.2 := by decide +kernel
theorem mc_X11_count : MC u_X11_count 1 := ⟨tbm 1286 (by decide +kernel) rfl, tbm 114 (by decide +kernel) rfl, ⟨by decide, by decide, by decide +kernel⟩, by decide⟩
theorem in_X11_count : Cond.instanceMethod u_X11_count.1 ∈ TB ∧ Cond.selects u_X11_count.1.cls u_X11_count.1 u_X11_count.1 ∈ TB := ⟨tbm 1284 (by decide +kernel) rfl, tbm 1285 (by decide +kernel) rfl⟩
def f_X11_count (t : List Sh) (m : Mi) (a0 : Nat) (a1 : Int32) : Option (Int32) :=
  if a1 = 0 then
    (if ob t (gr m a0 8) 6 = true then
    (f_X6_packs t m (gr m a0 8)).bind fun x3 =>
    some x3
    else none)
  else
    if a1 = 1 then
      (if ob t (gr m a0 8) 6 = true then
      (f_X6_releases t m (gr m a0 8)).bind fun x6 =>
      some x6
      else none)
    else
      if a1 = 2 then
        (if ob t (gr m a0 8) 6 = true then
        (f_X6_constraints t m (gr m a0 8)).bind fun x9 =>
        some x9
        else none)
      else
        if a1 = 3 then
          some (gi m a0 1)
        else
          if a1 = 4 then
            (if ob t (gr m a0 11) 1 = true then
            (f_X1_picked t m (gr m a0 11)).bind fun x13 =>
            some x13
            else none)
          else
            if a1 = 5 then
              (if ob t (gr m a0 11) 1 = true then
              (f_X1_accused t m (gr m a0 11)).bind fun x16 =>
              some x16
              else none)
            else
              (f_X11_isSlot (a1 - 16)).bind fun x17 =>
              if x17 = 0 then
                some (-1)
              else
                (if ar t (gr m a0 2) (.object RX4) (a1 - 16) = true then
                (if ob t (gr m (gr m a0 2) (ix (a1 - 16))) 4 = true then
                (f_X4_stretches t m (gr m (gr m a0 2) (ix (a1 - 16)))).bind fun x21 =>
                some x21
                else none)
                else none)
set_option maxRecDepth 4000 in
set_option maxHeartbeats 4000000 in
theorem sm_X11_count (t : List Sh) (m : Mi) (a0 : Nat) (a1 : Int32) (h0 : sh t a0 = some (.inl 11)) : Sm u_X11_count (2, 0, 0, t.length, zs t) (kIo t m) 0 [(0, .inr (.inr a0)), (1, .inl a1)] [] (t, m) (f_X11_count t m a0 a1) := by
  unfold f_X11_count
  refine r_iload_n 0 1 1 rfl rfl rfl rfl ?_
  refine r_if (fun h1 => ?_) (fun h1 => ?_)
  · refine r_tabC 1 40 0 h1 rfl (by decide) (by decide) rfl rfl ?_
    refine r_aload_n 2 41 0 rfl rfl rfl rfl ?_
    refine r_getR 3 44 rfl rfl fl_RX11_60 rfl h0 ?_
    refine r_gd (fun h2 => ?_)
    refine r_VIo 4 47 (st := []) (av := [.inr (.inr (gr m a0 8))]) (av' := []) (μ' := u_X6_packs) (d := 1) rfl rfl mc_X6_packs in_X6_packs lk_RX11_231 (Nat.le_of_ble_eq_true rfl) rfl rfl (ob_sh h2) rfl (Nat.le_of_ble_eq_true rfl) (fun _ h => ct_X6_packs (ob_sh h2) h) (fun x3 => ?_)
    exact r_iret 5 rfl rfl rfl
  · refine r_if (fun h4 => ?_) (fun h4 => ?_)
    · refine r_tabC 1 48 1 h4 rfl (by decide) (by decide) rfl rfl ?_
      refine r_aload_n 6 49 0 rfl rfl rfl rfl ?_
      refine r_getR 7 52 rfl rfl fl_RX11_60 rfl h0 ?_
      refine r_gd (fun h5 => ?_)
      refine r_VIo 8 55 (st := []) (av := [.inr (.inr (gr m a0 8))]) (av' := []) (μ' := u_X6_releases) (d := 1) rfl rfl mc_X6_releases in_X6_releases lk_RX11_234 (Nat.le_of_ble_eq_true rfl) rfl rfl (ob_sh h5) rfl (Nat.le_of_ble_eq_true rfl) (fun _ h => ct_X6_releases (ob_sh h5) h) (fun x6 => ?_)
      exact r_iret 9 rfl rfl rfl
    · refine r_if (fun h7 => ?_) (fun h7 => ?_)
      · refine r_tabC 1 56 2 h7 rfl (by decide) (by decide) rfl rfl ?_
        refine r_aload_n 10 57 0 rfl rfl rfl rfl ?_
        refine r_getR 11 60 rfl rfl fl_RX11_60 rfl h0 ?_
        refine r_gd (fun h8 => ?_)
        refine r_VIo 12 63 (st := []) (av := [.inr (.inr (gr m a0 8))]) (av' := []) (μ' := u_X6_constraints) (d := 1) rfl rfl mc_X6_constraints in_X6_constraints lk_RX11_237 (Nat.le_of_ble_eq_true rfl) rfl rfl (ob_sh h8) rfl (Nat.le_of_ble_eq_true rfl) (fun _ h => ct_X6_constraints (ob_sh h8) h) (fun x9 => ?_)
        exact r_iret 13 rfl rfl rfl
      · refine r_if (fun h10 => ?_) (fun h10 => ?_)
        · refine r_tabC 1 64 3 h10 rfl (by decide) (by decide) rfl rfl ?_
          refine r_aload_n 14 65 0 rfl rfl rfl rfl ?_
          refine r_getI 15 68 rfl rfl fl_RX11_13 rfl h0 ?_
          exact r_iret 16 rfl rfl rfl
        · refine r_if (fun h11 => ?_) (fun h11 => ?_)
          · refine r_tabC 1 69 4 h11 rfl (by decide) (by decide) rfl rfl ?_
            refine r_aload_n 17 70 0 rfl rfl rfl rfl ?_
            refine r_getR 18 73 rfl rfl fl_RX11_79 rfl h0 ?_
            refine r_gd (fun h12 => ?_)
            refine r_VIo 19 76 (st := []) (av := [.inr (.inr (gr m a0 11))]) (av' := []) (μ' := u_X1_picked) (d := 1) rfl rfl mc_X1_picked in_X1_picked lk_RX11_240 (Nat.le_of_ble_eq_true rfl) rfl rfl (ob_sh h12) rfl (Nat.le_of_ble_eq_true rfl) (fun _ h => ct_X1_picked (ob_sh h12) h) (fun x13 => ?_)
            exact r_iret 20 rfl rfl rfl
          · refine r_if (fun h14 => ?_) (fun h14 => ?_)
            · refine r_tabC 1 77 5 h14 rfl (by decide) (by decide) rfl rfl ?_
              refine r_aload_n 21 78 0 rfl rfl rfl rfl ?_
              refine r_getR 22 81 rfl rfl fl_RX11_79 rfl h0 ?_
              refine r_gd (fun h15 => ?_)
              refine r_VIo 23 84 (st := []) (av := [.inr (.inr (gr m a0 11))]) (av' := []) (μ' := u_X1_accused) (d := 1) rfl rfl mc_X1_accused in_X1_accused lk_RX11_243 (Nat.le_of_ble_eq_true rfl) rfl rfl (ob_sh h15) rfl (Nat.le_of_ble_eq_true rfl) (fun _ h => ct_X1_accused (ob_sh h15) h) (fun x16 => ?_)
              exact r_iret 24 rfl rfl rfl
            · refine r_tabO 1 85 rfl (by have := i32ne h1 (k := 0) rfl; have := i32ne h4 (k := 1) rfl; have := i32ne h7 (k := 2) rfl; have := i32ne h10 (k := 3) rfl; have := i32ne h11 (k := 4) rfl; have := i32ne h14 (k := 5) rfl; omega) rfl ?_
              refine r_iload_n 25 86 1 rfl rfl rfl rfl ?_
              refine r_bipush 26 88 (v := 16) rfl rfl (by decide) ?_
              refine r_isub 27 89 rfl rfl ?_
              refine r_SIo 28 92 (a := 0) (cn := 0) (st := []) (av := [.inl (a1 - 16)]) (μ' := u_X11_isSlot) (d := 1) rfl rfl mc_X11_isSlot st_X11_isSlot lk_RX11_118 (Nat.le_of_ble_eq_true rfl) rfl (Nat.le_of_ble_eq_true rfl) (fun _ h => ct_X11_isSlot h) (fun x17 => ?_)
              refine r_if_eq 29 110 95 rfl rfl rfl (fun h18 => ?_) (fun h18 => ?_)
              · refine r_iconst 38 111 (v := (-1)) rfl rfl (by decide) ?_
                exact r_iret 39 rfl rfl rfl
              · refine r_aload_n 30 96 0 rfl rfl rfl rfl ?_
                refine r_getR 31 99 rfl rfl fl_RX11_19 rfl h0 ?_
                refine r_iload_n 32 100 1 rfl rfl rfl rfl ?_
                refine r_bipush 33 102 (v := 16) rfl rfl (by decide) ?_
                refine r_isub 34 103 rfl rfl ?_
                refine r_gd (fun h19 => ?_)
                refine r_aald 35 104 4 rfl rfl (fun _ => rfl) h19 ?_
                refine r_gd (fun h20 => ?_)
                refine r_VIo 36 107 (st := []) (av := [.inr (.inr (gr m (gr m a0 2) (ix (a1 - 16))))]) (av' := []) (μ' := u_X4_stretches) (d := 1) rfl rfl mc_X4_stretches in_X4_stretches lk_RX11_161 (Nat.le_of_ble_eq_true rfl) rfl rfl (ob_sh h20) rfl (Nat.le_of_ble_eq_true rfl) (fun _ h => ct_X4_stretches (ob_sh h20) h) (fun x21 => ?_)
                refine r_goto 37 111 rfl rfl ?_
                exact r_iret 39 rfl rfl rfl
theorem ct_X11_count {t : List Sh} {m : Mi} {a0 : Nat} {a1 : Int32} {v : Int32}  (h0 : sh t a0 = some (.inl 11)) (h : f_X11_count t m a0 a1 = some v) : Ct u_X11_count 2 0 0 [.inr (.inr a0), .inl a1] (t, m) (some (.inl v), (t, m)) :=
  ct_of (by decide) tk_X11_count (Nat.le_of_ble_eq_true rfl) (sm_X11_count t m a0 a1 h0) (by rw [h]; rfl) (Nat.le_refl _) (Nat.le_refl _)
theorem lk_RX11_90 : Cond.methodLink RX11 90 yX11_layFourBytes ∈ TB := tbm 567 (by decide +kernel) rfl
def tb_X11_feed : Tb := [(0, (.aload_n 0, 1)), (1, (.getfield 13, 3)), (4, (.bipush 20, 2)), (6, (.iadd, 1)), (7, (.sipush 2000, 3)), (10, (.if_icmp .le 5, 3)), (13, (.iconst (-1), 1)), (14, (.ireturn, 1)), (15, (.aload_n 0, 1)), (16, (.iload_n 1, 1)), (17, (.invokevirtual 90, 3)), (20, (.aload_n 0, 1)), (21, (.iload_n 2, 1)), (22, (.invokevirtual 90, 3)), (25, (.aload_n 0, 1)), (26, (.iload_n 3, 1)), (27, (.invokevirtual 90, 3)), (30, (.aload_n 0, 1)), (31, (.iload 4, 2)), (33, (.invokevirtual 90, 3)), (36, (.aload_n 0, 1)), (37, (.iload 5, 2)), (39, (.invokevirtual 90, 3)), (42, (.aload_n 0, 1)), (43, (.getfield 13, 3)), (46, (.ireturn, 1))]
def u_X11_feed : Fx := (yX11_feed, (cX11_feed, (6, ((some .int), tb_X11_feed))))
theorem tk_X11_feed : ∀ q ∈ u_X11_feed.2.2.2.2, decode u_X11_feed.2.1 q.1 = .ok q.2 := by decide +kernel
theorem mc_X11_feed : MC u_X11_feed 5 := ⟨tbm 566 (by decide +kernel) rfl, tbm 114 (by decide +kernel) rfl, ⟨by decide, by decide, by decide +kernel⟩, by decide⟩
theorem in_X11_feed : Cond.instanceMethod u_X11_feed.1 ∈ TB ∧ Cond.selects u_X11_feed.1.cls u_X11_feed.1 u_X11_feed.1 ∈ TB := ⟨tbm 564 (by decide +kernel) rfl, tbm 565 (by decide +kernel) rfl⟩
def f_X11_feed (t : List Sh) (m : Mi) (a0 : Nat) (a1 : Int32) (a2 : Int32) (a3 : Int32) (a4 : Int32) (a5 : Int32) : Option (Int32 × Mi) :=
  if ((gi m a0 1) + 20) ≤ 2000 then
    (f_X11_layFourBytes t m a0 a1).bind fun m2 =>
    (f_X11_layFourBytes t m2 a0 a2).bind fun m3 =>
    (f_X11_layFourBytes t m3 a0 a3).bind fun m4 =>
    (f_X11_layFourBytes t m4 a0 a4).bind fun m5 =>
    (f_X11_layFourBytes t m5 a0 a5).bind fun m6 =>
    some (gi m6 a0 1, m6)
  else
    some ((-1), m)
set_option maxRecDepth 4000 in
set_option maxHeartbeats 4000000 in
theorem sm_X11_feed (t : List Sh) (m : Mi) (a0 : Nat) (a1 : Int32) (a2 : Int32) (a3 : Int32) (a4 : Int32) (a5 : Int32) (h0 : sh t a0 = some (.inl 11)) : Sm u_X11_feed (2, 0, 0, t.length, zs t) (kI t) 0 [(0, .inr (.inr a0)), (1, .inl a1), (2, .inl a2), (3, .inl a3), (4, .inl a4), (5, .inl a5)] [] (t, m) (f_X11_feed t m a0 a1 a2 a3 a4 a5) := by
  unfold f_X11_feed
  refine r_aload_n 0 1 0 rfl rfl rfl rfl ?_
  refine r_getI 1 4 rfl rfl fl_RX11_13 rfl h0 ?_
  refine r_bipush 2 6 (v := 20) rfl rfl (by decide) ?_
  refine r_iadd 3 7 rfl rfl ?_
  refine r_sipush 4 10 (v := 2000) rfl rfl (by decide) ?_
  refine r_icmp_le 5 15 13 rfl rfl rfl (fun h1 => ?_) (fun h1 => ?_)
  · refine r_aload_n 8 16 0 rfl rfl rfl rfl ?_
    refine r_iload_n 9 17 1 rfl rfl rfl rfl ?_
    refine r_VV 10 20 (st := []) (av := [.inr (.inr a0), .inl a1]) (av' := [.inl a1]) (μ' := u_X11_layFourBytes) (d := 1) rfl rfl mc_X11_layFourBytes in_X11_layFourBytes lk_RX11_90 (Nat.le_of_ble_eq_true rfl) rfl rfl h0 rfl (Nat.le_of_ble_eq_true rfl) (fun _ h => ct_X11_layFourBytes h0 h) (fun m2 => ?_)
    refine r_aload_n 11 21 0 rfl rfl rfl rfl ?_
    refine r_iload_n 12 22 2 rfl rfl rfl rfl ?_
    refine r_VV 13 25 (st := []) (av := [.inr (.inr a0), .inl a2]) (av' := [.inl a2]) (μ' := u_X11_layFourBytes) (d := 1) rfl rfl mc_X11_layFourBytes in_X11_layFourBytes lk_RX11_90 (Nat.le_of_ble_eq_true rfl) rfl rfl h0 rfl (Nat.le_of_ble_eq_true rfl) (fun _ h => ct_X11_layFourBytes h0 h) (fun m3 => ?_)
    refine r_aload_n 14 26 0 rfl rfl rfl rfl ?_
    refine r_iload_n 15 27 3 rfl rfl rfl rfl ?_
    refine r_VV 16 30 (st := []) (av := [.inr (.inr a0), .inl a3]) (av' := [.inl a3]) (μ' := u_X11_layFourBytes) (d := 1) rfl rfl mc_X11_layFourBytes in_X11_layFourBytes lk_RX11_90 (Nat.le_of_ble_eq_true rfl) rfl rfl h0 rfl (Nat.le_of_ble_eq_true rfl) (fun _ h => ct_X11_layFourBytes h0 h) (fun m4 => ?_)
    refine r_aload_n 17 31 0 rfl rfl rfl rfl ?_
    refine r_iload 18 33 4 rfl rfl rfl ?_
    refine r_VV 19 36 (st := []) (av := [.inr (.inr a0), .inl a4]) (av' := [.inl a4]) (μ' := u_X11_layFourBytes) (d := 1) rfl rfl mc_X11_layFourBytes in_X11_layFourBytes lk_RX11_90 (Nat.le_of_ble_eq_true rfl) rfl rfl h0 rfl (Nat.le_of_ble_eq_true rfl) (fun _ h => ct_X11_layFourBytes h0 h) (fun m5 => ?_)
    refine r_aload_n 20 37 0 rfl rfl rfl rfl ?_
    refine r_iload 21 39 5 rfl rfl rfl ?_
    refine r_VV 22 42 (st := []) (av := [.inr (.inr a0), .inl a5]) (av' := [.inl a5]) (μ' := u_X11_layFourBytes) (d := 1) rfl rfl mc_X11_layFourBytes in_X11_layFourBytes lk_RX11_90 (Nat.le_of_ble_eq_true rfl) rfl rfl h0 rfl (Nat.le_of_ble_eq_true rfl) (fun _ h => ct_X11_layFourBytes h0 h) (fun m6 => ?_)
    refine r_aload_n 23 43 0 rfl rfl rfl rfl ?_
    refine r_getI 24 46 rfl rfl fl_RX11_13 rfl h0 ?_
    exact r_iret 25 rfl rfl rfl
  · refine r_iconst 6 14 (v := (-1)) rfl rfl (by decide) ?_
    exact r_iret 7 rfl rfl rfl
theorem ct_X11_feed {t : List Sh} {m : Mi} {a0 : Nat} {a1 : Int32} {a2 : Int32} {a3 : Int32} {a4 : Int32} {a5 : Int32} {m' : Mi} {v : Int32}  (h0 : sh t a0 = some (.inl 11)) (h : f_X11_feed t m a0 a1 a2 a3 a4 a5 = some (v, m')) : Ct u_X11_feed 2 0 0 [.inr (.inr a0), .inl a1, .inl a2, .inl a3, .inl a4, .inl a5] (t, m) (some (.inl v), (t, m')) :=
  ct_of (by decide) tk_X11_feed (Nat.le_of_ble_eq_true rfl) (sm_X11_feed t m a0 a1 a2 a3 a4 a5 h0) (by rw [h]; rfl) (Nat.le_refl _) (Nat.le_refl _)
theorem fl_RX11_86 : FL RX11 86 11 12 true := ⟨RX11, TX11, 13, rfl, inW11, tyX11_ok, nmX11, by decide, rfl, rfl, rfl, tbm 535 (by decide +kernel) rfl⟩
theorem lk_RX11_200 : Cond.methodLink RX11 200 yX3_byteAt ∈ TB := tbm 1107 (by decide +kernel) rfl
def tb_X11_octet : Tb := [(0, (.aload_n 0, 1)), (1, (.getfield 86, 3)), (4, (.iload_n 1, 1)), (5, (.invokevirtual 200, 3)), (8, (.ireturn, 1))]
def u_X11_octet : Fx := (yX11_octet, (cX11_octet, (2, ((some .int), tb_X11_octet))))
theorem tk_X11_octet : ∀ q ∈ u_X11_octet.2.2.2.2, decode u_X11_octet.2.1 q.1 = .ok q.2 := by decide +kernel
theorem mc_X11_octet : MC u_X11_octet 1 := ⟨tbm 1106 (by decide +kernel) rfl, tbm 114 (by decide +kernel) rfl, ⟨by decide, by decide, by decide +kernel⟩, by decide⟩
theorem in_X11_octet : Cond.instanceMethod u_X11_octet.1 ∈ TB ∧ Cond.selects u_X11_octet.1.cls u_X11_octet.1 u_X11_octet.1 ∈ TB := ⟨tbm 1104 (by decide +kernel) rfl, tbm 1105 (by decide +kernel) rfl⟩
def f_X11_octet (t : List Sh) (m : Mi) (a0 : Nat) (a1 : Int32) : Option (Int32) :=
  (if ob t (gr m a0 12) 3 = true then
  (f_X3_byteAt t m (gr m a0 12) a1).bind fun x2 =>
  some x2
  else none)
set_option maxRecDepth 4000 in
set_option maxHeartbeats 4000000 in
theorem sm_X11_octet (t : List Sh) (m : Mi) (a0 : Nat) (a1 : Int32) (h0 : sh t a0 = some (.inl 11)) : Sm u_X11_octet (2, 0, 0, t.length, zs t) (kIo t m) 0 [(0, .inr (.inr a0)), (1, .inl a1)] [] (t, m) (f_X11_octet t m a0 a1) := by
  unfold f_X11_octet
  refine r_aload_n 0 1 0 rfl rfl rfl rfl ?_
  refine r_getR 1 4 rfl rfl fl_RX11_86 rfl h0 ?_
  refine r_iload_n 2 5 1 rfl rfl rfl rfl ?_
  refine r_gd (fun h1 => ?_)
  refine r_VIo 3 8 (st := []) (av := [.inr (.inr (gr m a0 12)), .inl a1]) (av' := [.inl a1]) (μ' := u_X3_byteAt) (d := 1) rfl rfl mc_X3_byteAt in_X3_byteAt lk_RX11_200 (Nat.le_of_ble_eq_true rfl) rfl rfl (ob_sh h1) rfl (Nat.le_of_ble_eq_true rfl) (fun _ h => ct_X3_byteAt (ob_sh h1) h) (fun x2 => ?_)
  exact r_iret 4 rfl rfl rfl
theorem ct_X11_octet {t : List Sh} {m : Mi} {a0 : Nat} {a1 : Int32} {v : Int32}  (h0 : sh t a0 = some (.inl 11)) (h : f_X11_octet t m a0 a1 = some v) : Ct u_X11_octet 2 0 0 [.inr (.inr a0), .inl a1] (t, m) (some (.inl v), (t, m)) :=
  ct_of (by decide) tk_X11_octet (Nat.le_of_ble_eq_true rfl) (sm_X11_octet t m a0 a1 h0) (by rw [h]; rfl) (Nat.le_refl _) (Nat.le_refl _)
theorem lk_RX11_221 : Cond.methodLink RX11 221 yX1_accusedAt ∈ TB := tbm 1244 (by decide +kernel) rfl
def tb_X11_reason : Tb := [(0, (.aload_n 0, 1)), (1, (.getfield 79, 3)), (4, (.iload_n 1, 1)), (5, (.invokevirtual 221, 3)), (8, (.ireturn, 1))]
def u_X11_reason : Fx := (yX11_reason, (cX11_reason, (2, ((some .int), tb_X11_reason))))
theorem tk_X11_reason : ∀ q ∈ u_X11_reason.2.2.2.2, decode u_X11_reason.2.1 q.1 = .ok q.2 := by decide +kernel
theorem mc_X11_reason : MC u_X11_reason 1 := ⟨tbm 1243 (by decide +kernel) rfl, tbm 114 (by decide +kernel) rfl, ⟨by decide, by decide, by decide +kernel⟩, by decide⟩
theorem in_X11_reason : Cond.instanceMethod u_X11_reason.1 ∈ TB ∧ Cond.selects u_X11_reason.1.cls u_X11_reason.1 u_X11_reason.1 ∈ TB := ⟨tbm 1241 (by decide +kernel) rfl, tbm 1242 (by decide +kernel) rfl⟩
def f_X11_reason (t : List Sh) (m : Mi) (a0 : Nat) (a1 : Int32) : Option (Int32) :=
  (if ob t (gr m a0 11) 1 = true then
  (f_X1_accusedAt t m (gr m a0 11) a1).bind fun x2 =>
  some x2
  else none)
set_option maxRecDepth 4000 in
set_option maxHeartbeats 4000000 in
theorem sm_X11_reason (t : List Sh) (m : Mi) (a0 : Nat) (a1 : Int32) (h0 : sh t a0 = some (.inl 11)) : Sm u_X11_reason (2, 0, 0, t.length, zs t) (kIo t m) 0 [(0, .inr (.inr a0)), (1, .inl a1)] [] (t, m) (f_X11_reason t m a0 a1) := by
  unfold f_X11_reason
  refine r_aload_n 0 1 0 rfl rfl rfl rfl ?_
  refine r_getR 1 4 rfl rfl fl_RX11_79 rfl h0 ?_
  refine r_iload_n 2 5 1 rfl rfl rfl rfl ?_
  refine r_gd (fun h1 => ?_)
  refine r_VIo 3 8 (st := []) (av := [.inr (.inr (gr m a0 11)), .inl a1]) (av' := [.inl a1]) (μ' := u_X1_accusedAt) (d := 1) rfl rfl mc_X1_accusedAt in_X1_accusedAt lk_RX11_221 (Nat.le_of_ble_eq_true rfl) rfl rfl (ob_sh h1) rfl (Nat.le_of_ble_eq_true rfl) (fun _ h => ct_X1_accusedAt (ob_sh h1) h) (fun x2 => ?_)
  exact r_iret 4 rfl rfl rfl
theorem ct_X11_reason {t : List Sh} {m : Mi} {a0 : Nat} {a1 : Int32} {v : Int32}  (h0 : sh t a0 = some (.inl 11)) (h : f_X11_reason t m a0 a1 = some v) : Ct u_X11_reason 2 0 0 [.inr (.inr a0), .inl a1] (t, m) (some (.inl v), (t, m)) :=
  ct_of (by decide) tk_X11_reason (Nat.le_of_ble_eq_true rfl) (sm_X11_reason t m a0 a1 h0) (by rw [h]; rfl) (Nat.le_refl _) (Nat.le_refl _)
theorem lk_RX11_168 : Cond.methodLink RX11 168 yX6_releaseAt ∈ TB := tbm 1001 (by decide +kernel) rfl
theorem fl_RX11_172 : FL RX11 172 7 0 true := ⟨RX7, TX7, 6, rfl, inW7, tyX7_ok, nmX7, by decide, rfl, rfl, rfl, tbm 312 (by decide +kernel) rfl⟩
theorem lk_RX11_175 : Cond.methodLink RX11 175 yX4_has ∈ TB := tbm 1002 (by decide +kernel) rfl
def tb_X11_holds : Tb := [(0, (.aload_n 0, 1)), (1, (.getfield 60, 3)), (4, (.iload_n 2, 1)), (5, (.invokevirtual 168, 3)), (8, (.astore_n 3, 1)), (9, (.iload_n 1, 1)), (10, (.invokestatic 118, 3)), (13, (.ifCond .eq 7, 3)), (16, (.aload_n 3, 1)), (17, (.ifnonnull 5, 3)), (20, (.iconst (-1), 1)), (21, (.ireturn, 1)), (22, (.aload_n 0, 1)), (23, (.getfield 19, 3)), (26, (.iload_n 1, 1)), (27, (.aaload, 1)), (28, (.aload_n 3, 1)), (29, (.getfield 172, 3)), (32, (.invokevirtual 175, 3)), (35, (.ifCond .eq 7, 3)), (38, (.iconst 1, 1)), (39, (.goto 4, 3)), (42, (.iconst 0, 1)), (43, (.ireturn, 1))]
def u_X11_holds : Fx := (yX11_holds, (cX11_holds, (4, ((some .int), tb_X11_holds))))
theorem tk_X11_holds : ∀ q ∈ u_X11_holds.2.2.2.2, decode u_X11_holds.2.1 q.1 = .ok q.2 := by decide +kernel
theorem mc_X11_holds : MC u_X11_holds 2 := ⟨tbm 1000 (by decide +kernel) rfl, tbm 114 (by decide +kernel) rfl, ⟨by decide, by decide, by decide +kernel⟩, by decide⟩
theorem in_X11_holds : Cond.instanceMethod u_X11_holds.1 ∈ TB ∧ Cond.selects u_X11_holds.1.cls u_X11_holds.1 u_X11_holds.1 ∈ TB := ⟨tbm 998 (by decide +kernel) rfl, tbm 999 (by decide +kernel) rfl⟩
def f_X11_holds (t : List Sh) (m : Mi) (a0 : Nat) (a1 : Int32) (a2 : Int32) : Option (Int32) :=
  (if ob t (gr m a0 8) 6 = true then
  (f_X6_releaseAt t m (gr m a0 8) a2).bind fun x2 =>
  (f_X11_isSlot a1).bind fun x3 =>
  if x3 = 0 then
    some (-1)
  else
    if x2 = 0 then
      some (-1)
    else
      (if ar t (gr m a0 2) (.object RX4) a1 = true then
      (if ob t x2 7 = true then
      (if ob t (gr m (gr m a0 2) (ix a1)) 4 = true then
      (f_X4_has t m (gr m (gr m a0 2) (ix a1)) (gr m x2 0)).bind fun x9 =>
      if x9 = 0 then
        some 0
      else
        some 1
      else none)
      else none)
      else none)
  else none)
set_option maxRecDepth 4000 in
set_option maxHeartbeats 4000000 in
theorem sm_X11_holds (t : List Sh) (m : Mi) (a0 : Nat) (a1 : Int32) (a2 : Int32) (h0 : sh t a0 = some (.inl 11)) : Sm u_X11_holds (4, 0, 0, t.length, zs t) (kIo t m) 0 [(0, .inr (.inr a0)), (1, .inl a1), (2, .inl a2)] [] (t, m) (f_X11_holds t m a0 a1 a2) := by
  unfold f_X11_holds
  refine r_aload_n 0 1 0 rfl rfl rfl rfl ?_
  refine r_getR 1 4 rfl rfl fl_RX11_60 rfl h0 ?_
  refine r_iload_n 2 5 2 rfl rfl rfl rfl ?_
  refine r_gd (fun h1 => ?_)
  refine r_VRo 3 8 (st := []) (av := [.inr (.inr (gr m a0 8)), .inl a2]) (av' := [.inl a2]) (μ' := u_X6_releaseAt) (d := 1) rfl rfl mc_X6_releaseAt in_X6_releaseAt lk_RX11_168 (Nat.le_of_ble_eq_true rfl) rfl rfl (ob_sh h1) rfl (Nat.le_of_ble_eq_true rfl) (fun _ h => ct_X6_releaseAt (ob_sh h1) h) (fun x2 => ?_)
  refine r_astore_n 4 9 (L' := [(3, .inr (.inr x2)), (0, .inr (.inr a0)), (1, .inl a1), (2, .inl a2)]) rfl rfl rfl (by decide) rfl ?_
  refine r_iload_n 5 10 2 rfl rfl rfl rfl ?_
  refine r_SIo 6 13 (a := 0) (cn := 0) (st := []) (av := [.inl a1]) (μ' := u_X11_isSlot) (d := 1) rfl rfl mc_X11_isSlot st_X11_isSlot lk_RX11_118 (Nat.le_of_ble_eq_true rfl) rfl (Nat.le_of_ble_eq_true rfl) (fun _ h => ct_X11_isSlot h) (fun x3 => ?_)
  refine r_if_eq 7 20 16 rfl rfl rfl (fun h4 => ?_) (fun h4 => ?_)
  · refine r_iconst 10 21 (v := (-1)) rfl rfl (by decide) ?_
    exact r_iret 11 rfl rfl rfl
  · refine r_aload_n 8 17 0 rfl rfl rfl rfl ?_
    refine r_ifnonnull 9 22 20 rfl rfl rfl (fun h5 => ?_) (fun h5 => ?_)
    · refine r_iconst 10 21 (v := (-1)) rfl rfl (by decide) ?_
      exact r_iret 11 rfl rfl rfl
    · refine r_aload_n 12 23 1 rfl rfl rfl rfl ?_
      refine r_getR 13 26 rfl rfl fl_RX11_19 rfl h0 ?_
      refine r_iload_n 14 27 2 rfl rfl rfl rfl ?_
      refine r_gd (fun h6 => ?_)
      refine r_aald 15 28 4 rfl rfl (fun _ => rfl) h6 ?_
      refine r_aload_n 16 29 0 rfl rfl rfl rfl ?_
      refine r_gd (fun h7 => ?_)
      refine r_getR 17 32 rfl rfl fl_RX11_172 rfl (ob_sh h7) ?_
      refine r_gd (fun h8 => ?_)
      refine r_VIo 18 35 (st := []) (av := [.inr (.inr (gr m (gr m a0 2) (ix a1))), .inr (.inr (gr m x2 0))]) (av' := [.inr (.inr (gr m x2 0))]) (μ' := u_X4_has) (d := 3) rfl rfl mc_X4_has in_X4_has lk_RX11_175 (Nat.le_of_ble_eq_true rfl) rfl rfl (ob_sh h8) rfl (Nat.le_of_ble_eq_true rfl) (fun _ h => ct_X4_has (ob_sh h8) h) (fun x9 => ?_)
      refine r_if_eq 19 42 38 rfl rfl rfl (fun h10 => ?_) (fun h10 => ?_)
      · refine r_iconst 22 43 (v := 0) rfl rfl (by decide) ?_
        exact r_iret 23 rfl rfl rfl
      · refine r_iconst 20 39 (v := 1) rfl rfl (by decide) ?_
        refine r_goto 21 43 rfl rfl ?_
        exact r_iret 23 rfl rfl rfl
theorem ct_X11_holds {t : List Sh} {m : Mi} {a0 : Nat} {a1 : Int32} {a2 : Int32} {v : Int32}  (h0 : sh t a0 = some (.inl 11)) (h : f_X11_holds t m a0 a1 a2 = some v) : Ct u_X11_holds 4 0 0 [.inr (.inr a0), .inl a1, .inl a2] (t, m) (some (.inl v), (t, m)) :=
  ct_of (by decide) tk_X11_holds (Nat.le_of_ble_eq_true rfl) (sm_X11_holds t m a0 a1 a2 h0) (by rw [h]; rfl) (Nat.le_refl _) (Nat.le_refl _)
theorem lk_RX11_3 : Cond.methodLink RX11 3 Lib.objectInit ∈ TB := tbm 140 (by decide +kernel) rfl
theorem wd_143 : Cond.classLink RX11 17 RX4 ∈ TB := tbm 143 (by decide +kernel) rfl
theorem lk_RX11_23 : Cond.methodLink RX11 23 yX4_init ∈ TB := tbm 146 (by decide +kernel) rfl
theorem fl_RX11_29 : FL RX11 29 11 3 true := ⟨RX11, TX11, 13, rfl, inW11, tyX11_ok, nmX11, by decide, rfl, rfl, rfl, tbm 526 (by decide +kernel) rfl⟩
theorem wd_176 : Cond.classLink RX11 33 RX10 ∈ TB := tbm 176 (by decide +kernel) rfl
theorem lk_RX11_35 : Cond.methodLink RX11 35 yX10_init ∈ TB := tbm 178 (by decide +kernel) rfl
theorem fl_RX11_36 : FL RX11 36 11 4 true := ⟨RX11, TX11, 13, rfl, inW11, tyX11_ok, nmX11, by decide, rfl, rfl, rfl, tbm 527 (by decide +kernel) rfl⟩
theorem fl_RX11_40 : FL RX11 40 11 5 true := ⟨RX11, TX11, 13, rfl, inW11, tyX11_ok, nmX11, by decide, rfl, rfl, rfl, tbm 528 (by decide +kernel) rfl⟩
theorem wd_201 : Cond.classLink RX11 43 RX9 ∈ TB := tbm 201 (by decide +kernel) rfl
theorem wd_202 : Cond.instantiable RX9 (fN 9) ∈ TB := tbm 202 (by decide +kernel) rfl
theorem wd_119 : Cond.initialized RX9 ∈ TB := tbm 119 (by decide +kernel) rfl
theorem lk_RX11_45 : Cond.methodLink RX11 45 yX9_init ∈ TB := tbm 203 (by decide +kernel) rfl
theorem fl_RX11_46 : FL RX11 46 11 6 true := ⟨RX11, TX11, 13, rfl, inW11, tyX11_ok, nmX11, by decide, rfl, rfl, rfl, tbm 529 (by decide +kernel) rfl⟩
theorem wd_232 : Cond.classLink RX11 50 RX5 ∈ TB := tbm 232 (by decide +kernel) rfl
theorem wd_233 : Cond.instantiable RX5 (fN 5) ∈ TB := tbm 233 (by decide +kernel) rfl
theorem wd_120 : Cond.initialized RX5 ∈ TB := tbm 120 (by decide +kernel) rfl
theorem lk_RX11_52 : Cond.methodLink RX11 52 yX5_init ∈ TB := tbm 234 (by decide +kernel) rfl
theorem fl_RX11_53 : FL RX11 53 11 7 true := ⟨RX11, TX11, 13, rfl, inW11, tyX11_ok, nmX11, by decide, rfl, rfl, rfl, tbm 530 (by decide +kernel) rfl⟩
theorem wd_267 : Cond.classLink RX11 57 RX6 ∈ TB := tbm 267 (by decide +kernel) rfl
theorem wd_268 : Cond.instantiable RX6 (fN 6) ∈ TB := tbm 268 (by decide +kernel) rfl
theorem wd_121 : Cond.initialized RX6 ∈ TB := tbm 121 (by decide +kernel) rfl
theorem lk_RX11_59 : Cond.methodLink RX11 59 yX6_init ∈ TB := tbm 269 (by decide +kernel) rfl
theorem fl_RX11_64 : FL RX11 64 11 9 false := ⟨RX11, TX11, 13, rfl, inW11, tyX11_ok, nmX11, by decide, rfl, rfl, rfl, tbm 532 (by decide +kernel) rfl⟩
theorem wd_441 : Cond.classLink RX11 67 RX8 ∈ TB := tbm 441 (by decide +kernel) rfl
theorem wd_442 : Cond.instantiable RX8 (fN 8) ∈ TB := tbm 442 (by decide +kernel) rfl
theorem wd_125 : Cond.initialized RX8 ∈ TB := tbm 125 (by decide +kernel) rfl
theorem lk_RX11_69 : Cond.methodLink RX11 69 yX8_init ∈ TB := tbm 443 (by decide +kernel) rfl
theorem fl_RX11_72 : FL RX11 72 11 10 true := ⟨RX11, TX11, 13, rfl, inW11, tyX11_ok, nmX11, by decide, rfl, rfl, rfl, tbm 533 (by decide +kernel) rfl⟩
theorem wd_473 : Cond.classLink RX11 76 RX1 ∈ TB := tbm 473 (by decide +kernel) rfl
theorem wd_474 : Cond.instantiable RX1 (fN 1) ∈ TB := tbm 474 (by decide +kernel) rfl
theorem wd_126 : Cond.initialized RX1 ∈ TB := tbm 126 (by decide +kernel) rfl
theorem lk_RX11_78 : Cond.methodLink RX11 78 yX1_init ∈ TB := tbm 475 (by decide +kernel) rfl
theorem wd_498 : Cond.classLink RX11 83 RX3 ∈ TB := tbm 498 (by decide +kernel) rfl
theorem wd_499 : Cond.instantiable RX3 (fN 3) ∈ TB := tbm 499 (by decide +kernel) rfl
theorem wd_127 : Cond.initialized RX3 ∈ TB := tbm 127 (by decide +kernel) rfl
theorem lk_RX11_85 : Cond.methodLink RX11 85 yX3_init ∈ TB := tbm 500 (by decide +kernel) rfl
theorem lk_RX11_26 : Cond.methodLink RX11 26 yX4_setAll ∈ TB := tbm 162 (by decide +kernel) rfl
def tb_X11_init : Tb := [(0, (.aload_n 0, 1)), (1, (.invokespecial 3, 3)), (4, (.aload_n 0, 1)), (5, (.sipush 2000, 3)), (8, (.newarray .byte, 2)), (10, (.putfield 9, 3)), (13, (.aload_n 0, 1)), (14, (.iconst 0, 1)), (15, (.putfield 13, 3)), (18, (.aload_n 0, 1)), (19, (.bipush 16, 2)), (21, (.anewarray 17, 3)), (24, (.putfield 19, 3)), (27, (.iconst 0, 1)), (28, (.istore_n 1, 1)), (29, (.iload_n 1, 1)), (30, (.bipush 16, 2)), (32, (.if_icmp .ge 33, 3)), (35, (.aload_n 0, 1)), (36, (.getfield 19, 3)), (39, (.iload_n 1, 1)), (40, (.new 17, 3)), (43, (.dup, 1)), (44, (.bipush 16, 2)), (46, (.invokespecial 23, 3)), (49, (.aastore, 1)), (50, (.aload_n 0, 1)), (51, (.getfield 19, 3)), (54, (.iload_n 1, 1)), (55, (.aaload, 1)), (56, (.invokevirtual 26, 3)), (59, (.iinc 1 1, 3)), (62, (.goto (-33), 3)), (65, (.aload_n 0, 1)), (66, (.new 17, 3)), (69, (.dup, 1)), (70, (.bipush 32, 2)), (72, (.invokespecial 23, 3)), (75, (.putfield 29, 3)), (78, (.aload_n 0, 1)), (79, (.new 33, 3)), (82, (.dup, 1)), (83, (.invokespecial 35, 3)), (86, (.putfield 36, 3)), (89, (.aload_n 0, 1)), (90, (.new 33, 3)), (93, (.dup, 1)), (94, (.invokespecial 35, 3)), (97, (.putfield 40, 3)), (100, (.aload_n 0, 1)), (101, (.new 43, 3)), (104, (.dup, 1)), (105, (.invokespecial 45, 3)), (108, (.putfield 46, 3)), (111, (.aload_n 0, 1)), (112, (.new 50, 3)), (115, (.dup, 1)), (116, (.invokespecial 52, 3)), (119, (.putfield 53, 3)), (122, (.aload_n 0, 1)), (123, (.new 57, 3)), (126, (.dup, 1)), (127, (.invokespecial 59, 3)), (130, (.putfield 60, 3)), (133, (.aload_n 0, 1)), (134, (.new 57, 3)), (137, (.dup, 1)), (138, (.invokespecial 59, 3)), (141, (.putfield 64, 3)), (144, (.aload_n 0, 1)), (145, (.new 67, 3)), (148, (.dup, 1)), (149, (.aload_n 0, 1)), (150, (.getfield 60, 3)), (153, (.invokespecial 69, 3)), (156, (.putfield 72, 3)), (159, (.aload_n 0, 1)), (160, (.new 76, 3)), (163, (.dup, 1)), (164, (.invokespecial 78, 3)), (167, (.putfield 79, 3)), (170, (.aload_n 0, 1)), (171, (.new 83, 3)), (174, (.dup, 1)), (175, (.invokespecial 85, 3)), (178, (.putfield 86, 3)), (181, (.return_, 1))]
def u_X11_init : Fx := (yX11_init, (cX11_init, (2, (none, tb_X11_init))))
theorem tk_X11_init : ∀ q ∈ u_X11_init.2.2.2.2, decode u_X11_init.2.1 q.1 = .ok q.2 := by decide +kernel
theorem mc_X11_init : MC u_X11_init 0 := ⟨tbm 139 (by decide +kernel) rfl, tbm 114 (by decide +kernel) rfl, ⟨by decide, by decide, by decide +kernel⟩, by decide⟩
theorem ini_X11_init : Cond.instanceMethod u_X11_init.1 ∈ TB := tbm 138 (by decide +kernel) rfl
def f_X11_init_j65 (t : List Sh) (m : Mi) (a0 : Nat) : Option (Mm) :=
  (if t.length < 1000000 then
  lt (t.length + 1) fun r15 =>
  lt (t ++ [.inl 4]) fun t16 =>
  lt (zr m (t.length + 1)) fun m17 =>
  (if ob t16 r15 4 = true then
  bd (f_X4_init t16 m17 r15 32) fun t20 m19 =>
  (if ob t20 a0 11 = true then
  lt (sr m19 a0 3 r15) fun m22 =>
  (if t20.length < 1000000 then
  lt (t20.length + 1) fun r24 =>
  lt (t20 ++ [.inl 10]) fun t25 =>
  lt (zr m22 (t20.length + 1)) fun m26 =>
  (if ob t25 r24 10 = true then
  bd (f_X10_init t25 m26 r24) fun t29 m28 =>
  (if ob t29 a0 11 = true then
  lt (sr m28 a0 4 r24) fun m31 =>
  (if t29.length < 1000000 then
  lt (t29.length + 1) fun r33 =>
  lt (t29 ++ [.inl 10]) fun t34 =>
  lt (zr m31 (t29.length + 1)) fun m35 =>
  (if ob t34 r33 10 = true then
  bd (f_X10_init t34 m35 r33) fun t38 m37 =>
  (if ob t38 a0 11 = true then
  lt (sr m37 a0 5 r33) fun m40 =>
  (if t38.length < 1000000 then
  lt (t38.length + 1) fun r42 =>
  lt (t38 ++ [.inl 9]) fun t43 =>
  lt (zr m40 (t38.length + 1)) fun m44 =>
  (if ob t43 r42 9 = true then
  bd (f_X9_init t43 m44 r42) fun t47 m46 =>
  (if ob t47 a0 11 = true then
  lt (sr m46 a0 6 r42) fun m49 =>
  (if t47.length < 1000000 then
  lt (t47.length + 1) fun r51 =>
  lt (t47 ++ [.inl 5]) fun t52 =>
  lt (zr m49 (t47.length + 1)) fun m53 =>
  (if ob t52 r51 5 = true then
  bd (f_X5_init t52 m53 r51) fun t56 m55 =>
  (if ob t56 a0 11 = true then
  lt (sr m55 a0 7 r51) fun m58 =>
  (if t56.length < 1000000 then
  lt (t56.length + 1) fun r60 =>
  lt (t56 ++ [.inl 6]) fun t61 =>
  lt (zr m58 (t56.length + 1)) fun m62 =>
  (if ob t61 r60 6 = true then
  bd (f_X6_init t61 m62 r60) fun t65 m64 =>
  (if ob t65 a0 11 = true then
  lt (sr m64 a0 8 r60) fun m67 =>
  (if t65.length < 1000000 then
  lt (t65.length + 1) fun r69 =>
  lt (t65 ++ [.inl 6]) fun t70 =>
  lt (zr m67 (t65.length + 1)) fun m71 =>
  (if ob t70 r69 6 = true then
  bd (f_X6_init t70 m71 r69) fun t74 m73 =>
  (if ob t74 a0 11 = true then
  lt (sr m73 a0 9 r69) fun m76 =>
  (if t74.length < 1000000 then
  lt (t74.length + 1) fun r78 =>
  lt (t74 ++ [.inl 8]) fun t79 =>
  lt (zr m76 (t74.length + 1)) fun m80 =>
  (if ob t79 a0 11 = true then
  (if ob t79 r78 8 = true then
  bd (f_X8_init t79 m80 r78 (gr m80 a0 8)) fun t84 m83 =>
  (if ob t84 a0 11 = true then
  lt (sr m83 a0 10 r78) fun m86 =>
  (if t84.length < 1000000 then
  lt (t84.length + 1) fun r88 =>
  lt (t84 ++ [.inl 1]) fun t89 =>
  lt (zr m86 (t84.length + 1)) fun m90 =>
  (if ob t89 r88 1 = true then
  bd (f_X1_init t89 m90 r88) fun t93 m92 =>
  (if ob t93 a0 11 = true then
  lt (sr m92 a0 11 r88) fun m95 =>
  (if t93.length < 1000000 then
  lt (t93.length + 1) fun r97 =>
  lt (t93 ++ [.inl 3]) fun t98 =>
  lt (zr m95 (t93.length + 1)) fun m99 =>
  (if ob t98 r97 3 = true then
  bd (f_X3_init t98 m99 r97) fun t102 m101 =>
  (if ob t102 a0 11 = true then
  lt (sr m101 a0 12 r97) fun m104 =>
  some (t102, m104)
  else none)
  else none)
  else none)
  else none)
  else none)
  else none)
  else none)
  else none)
  else none)
  else none)
  else none)
  else none)
  else none)
  else none)
  else none)
  else none)
  else none)
  else none)
  else none)
  else none)
  else none)
  else none)
  else none)
  else none)
  else none)
  else none)
  else none)
  else none)
  else none)
  else none)
  else none)
def f_X11_init_l29 (t : List Sh) (m : Mi) (a0 : Nat) (a1 : Int32) : Option ((Int32 × List Sh × Mi) ⊕ ((List Sh × Mi))) :=
  if 16 ≤ a1 then
    some (.inr (t, m))
  else
    (if ob t a0 11 = true then
    (if t.length < 1000000 then
    lt (t.length + 1) fun r108 =>
    lt (t ++ [.inl 4]) fun t109 =>
    lt (zr m (t.length + 1)) fun m110 =>
    (if ob t109 r108 4 = true then
    bd (f_X4_init t109 m110 r108 16) fun t113 m112 =>
    (if ar t113 (gr m a0 2) (.object RX4) a1 = true then
    (if ob t113 r108 4 = true then
    lt (sr m112 (gr m a0 2) (ix a1) r108) fun m116 =>
    (if ob t113 a0 11 = true then
    (if ar t113 (gr m116 a0 2) (.object RX4) a1 = true then
    (if ob t113 (gr m116 (gr m116 a0 2) (ix a1)) 4 = true then
    (f_X4_setAll t113 m116 (gr m116 (gr m116 a0 2) (ix a1))).bind fun m120 =>
    lt (a1 + 1) fun x121 =>
    some (.inl (x121, t113, m120))
    else none)
    else none)
    else none)
    else none)
    else none)
    else none)
    else none)
    else none)
def f_X11_init_j29 (t : List Sh) (m : Mi) (a0 : Nat) (a1 : Int32) : Option (Mm) :=
  (lp (fun x : Int32 × List Sh × Mi => f_X11_init_l29 x.2.1 x.2.2 a0 x.1) FUEL (a1, t, m)).bind (fun y : List Sh × Mi => f_X11_init_j65 (y.1) (y.2) a0)
set_option maxRecDepth 20000 in
def f_X11_init (t : List Sh) (m : Mi) (a0 : Nat) : Option (Mm) :=
  (if t.length < 1000000 then
  lt (t.length + 1) fun r2 =>
  lt (t ++ [.inr (.byte, ix 2000)]) fun t3 =>
  lt (zr m (t.length + 1)) fun m4 =>
  (if ob t3 a0 11 = true then
  lt (sr m4 a0 0 r2) fun m6 =>
  lt (si m6 a0 1 0) fun m7 =>
  (if t3.length < 1000000 then
  lt (t3.length + 1) fun r9 =>
  lt (t3 ++ [.inr (.object RX4, ix 16)]) fun t10 =>
  lt (zr m7 (t3.length + 1)) fun m11 =>
  (if ob t10 a0 11 = true then
  lt (sr m11 a0 2 r9) fun m13 =>
  f_X11_init_j29 t10 m13 a0 0
  else none)
  else none)
  else none)
  else none)
set_option maxRecDepth 40000 in
set_option maxHeartbeats 4000000 in
theorem sm_X11_init (e2 : Nat × (Nat × (Nat × Nat))) (t : List Sh) (m : Mi) (a0 : Nat) (h0 : sh t a0 = some (.inl 11)) : Sm u_X11_init (4, e2) kA 0 [(0, .inr (.inr a0))] [] (t, m) (f_X11_init t m a0) := by
  unfold f_X11_init
  refine r_aload_n 0 1 0 rfl rfl rfl rfl ?_
  refine r_objI 1 4 rfl rfl lk_RX11_3 (Nat.le_of_ble_eq_true rfl) (Nat.le_of_ble_eq_true rfl) h0 ?_
  refine r_aload_n 2 5 0 rfl rfl rfl rfl ?_
  refine r_sipush 3 8 (v := 2000) rfl rfl (by decide) ?_
  refine r_gd (fun h1 => ?_)
  refine r_newa 4 10 (ty := .byte) (q := 2) rfl rfl h1 rfl (by decide) (fun _ => rfl) wd_160 (by decide) (by decide) ?_
  refine r_ltR (fun r2 => ?_)
  refine r_ltT (fun t3 => ?_)
  refine r_ltM (fun m4 => ?_)
  refine r_gd (fun h5 => ?_)
  refine r_putR 5 13 rfl rfl fl_RX11_9 (fun _ => ⟨rfl, rfl⟩) rfl (ob_sh h5) ?_
  refine r_ltM (fun m6 => ?_)
  refine r_aload_n 6 14 0 rfl rfl rfl rfl ?_
  refine r_iconst 7 15 (v := 0) rfl rfl (by decide) ?_
  refine r_putI 8 18 rfl rfl fl_RX11_13 (fun h => by cases h) (Or.inl rfl) (ob_sh h5) ?_
  refine r_ltM (fun m7 => ?_)
  refine r_aload_n 9 19 0 rfl rfl rfl rfl ?_
  refine r_bipush 10 21 (v := 16) rfl rfl (by decide) ?_
  refine r_gd (fun h8 => ?_)
  refine r_anew 11 24 (C0 := RX4) (q := 4) rfl rfl h8 (fun _ => rfl) wd_143 (fun _ h => h.1) (by decide) (by decide) ?_
  refine r_ltR (fun r9 => ?_)
  refine r_ltT (fun t10 => ?_)
  refine r_ltM (fun m11 => ?_)
  refine r_gd (fun h12 => ?_)
  refine r_putR 12 27 rfl rfl fl_RX11_19 (fun _ => ⟨rfl, rfl⟩) rfl (ob_sh h12) ?_
  refine r_ltM (fun m13 => ?_)
  refine r_iconst 13 28 (v := 0) rfl rfl (by decide) ?_
  refine r_istore_n 14 29 (L' := [(1, .inl 0), (0, .inr (.inr a0))]) rfl rfl rfl (by decide) rfl ?_
  have hj29 : ∀ (t : List Sh) (m : Mi) (a1 : Int32), Sm u_X11_init (4, e2) kA 29 [(0, .inr (.inr a0)), (1, .inl a1)] [] (t, m) (f_X11_init_j29 t m a0 a1) := by
    intro t m a1
    unfold f_X11_init_j29
    have hj65 : ∀ (t : List Sh) (m : Mi), Sm u_X11_init (4, e2) kA 65 [(0, .inr (.inr a0))] [] (t, m) (f_X11_init_j65 t m a0) := by
      intro t m
      unfold f_X11_init_j65
      refine r_aload_n 33 66 0 rfl rfl rfl rfl ?_
      refine r_gd (fun h14 => ?_)
      refine r_new 34 69 (c := 4) rfl rfl h14 rfl inW4 tyX4_ok wd_143 wd_145 wd_115 (by decide) ?_
      refine r_ltR (fun r15 => ?_)
      refine r_ltT (fun t16 => ?_)
      refine r_ltM (fun m17 => ?_)
      refine r_dup 35 70 rfl rfl rfl ?_
      refine r_bipush 36 72 (v := 32) rfl rfl (by decide) ?_
      refine r_gd (fun h18 => ?_)
      refine r_IA 37 75 (st := [.inr (.inr r15), .inr (.inr a0)]) (av := [.inr (.inr r15), .inl 32]) (av' := [.inl 32]) (μ' := u_X4_init) (d := 1) rfl rfl mc_X4_init rfl rfl ini_X4_init lk_RX11_23 (Nat.le_of_ble_eq_true rfl) rfl rfl (ob_sh h18) (Nat.le_of_ble_eq_true rfl) (fun _ h => ct_X4_init (ob_sh h18) h) (fun _ h => mn_X4_init (ob_sh h18) h) (fun t20 m19 => ?_)
      refine r_gd (fun h21 => ?_)
      refine r_putR 38 78 rfl rfl fl_RX11_29 (fun _ => ⟨rfl, rfl⟩) rfl (ob_sh h21) ?_
      refine r_ltM (fun m22 => ?_)
      refine r_aload_n 39 79 0 rfl rfl rfl rfl ?_
      refine r_gd (fun h23 => ?_)
      refine r_new 40 82 (c := 10) rfl rfl h23 rfl inW10 tyX10_ok wd_176 wd_177 wd_117 (by decide) ?_
      refine r_ltR (fun r24 => ?_)
      refine r_ltT (fun t25 => ?_)
      refine r_ltM (fun m26 => ?_)
      refine r_dup 41 83 rfl rfl rfl ?_
      refine r_gd (fun h27 => ?_)
      refine r_IA 42 86 (st := [.inr (.inr r24), .inr (.inr a0)]) (av := [.inr (.inr r24)]) (av' := []) (μ' := u_X10_init) (d := 1) rfl rfl mc_X10_init rfl rfl ini_X10_init lk_RX11_35 (Nat.le_of_ble_eq_true rfl) rfl rfl (ob_sh h27) (Nat.le_of_ble_eq_true rfl) (fun _ h => ct_X10_init (ob_sh h27) h) (fun _ h => mn_X10_init (ob_sh h27) h) (fun t29 m28 => ?_)
      refine r_gd (fun h30 => ?_)
      refine r_putR 43 89 rfl rfl fl_RX11_36 (fun _ => ⟨rfl, rfl⟩) rfl (ob_sh h30) ?_
      refine r_ltM (fun m31 => ?_)
      refine r_aload_n 44 90 0 rfl rfl rfl rfl ?_
      refine r_gd (fun h32 => ?_)
      refine r_new 45 93 (c := 10) rfl rfl h32 rfl inW10 tyX10_ok wd_176 wd_177 wd_117 (by decide) ?_
      refine r_ltR (fun r33 => ?_)
      refine r_ltT (fun t34 => ?_)
      refine r_ltM (fun m35 => ?_)
      refine r_dup 46 94 rfl rfl rfl ?_
      refine r_gd (fun h36 => ?_)
      refine r_IA 47 97 (st := [.inr (.inr r33), .inr (.inr a0)]) (av := [.inr (.inr r33)]) (av' := []) (μ' := u_X10_init) (d := 1) rfl rfl mc_X10_init rfl rfl ini_X10_init lk_RX11_35 (Nat.le_of_ble_eq_true rfl) rfl rfl (ob_sh h36) (Nat.le_of_ble_eq_true rfl) (fun _ h => ct_X10_init (ob_sh h36) h) (fun _ h => mn_X10_init (ob_sh h36) h) (fun t38 m37 => ?_)
      refine r_gd (fun h39 => ?_)
      refine r_putR 48 100 rfl rfl fl_RX11_40 (fun _ => ⟨rfl, rfl⟩) rfl (ob_sh h39) ?_
      refine r_ltM (fun m40 => ?_)
      refine r_aload_n 49 101 0 rfl rfl rfl rfl ?_
      refine r_gd (fun h41 => ?_)
      refine r_new 50 104 (c := 9) rfl rfl h41 rfl inW9 tyX9_ok wd_201 wd_202 wd_119 (by decide) ?_
      refine r_ltR (fun r42 => ?_)
      refine r_ltT (fun t43 => ?_)
      refine r_ltM (fun m44 => ?_)
      refine r_dup 51 105 rfl rfl rfl ?_
      refine r_gd (fun h45 => ?_)
      refine r_IA 52 108 (st := [.inr (.inr r42), .inr (.inr a0)]) (av := [.inr (.inr r42)]) (av' := []) (μ' := u_X9_init) (d := 2) rfl rfl mc_X9_init rfl rfl ini_X9_init lk_RX11_45 (Nat.le_of_ble_eq_true rfl) rfl rfl (ob_sh h45) (Nat.le_of_ble_eq_true rfl) (fun _ h => ct_X9_init (ob_sh h45) h) (fun _ h => mn_X9_init (ob_sh h45) h) (fun t47 m46 => ?_)
      refine r_gd (fun h48 => ?_)
      refine r_putR 53 111 rfl rfl fl_RX11_46 (fun _ => ⟨rfl, rfl⟩) rfl (ob_sh h48) ?_
      refine r_ltM (fun m49 => ?_)
      refine r_aload_n 54 112 0 rfl rfl rfl rfl ?_
      refine r_gd (fun h50 => ?_)
      refine r_new 55 115 (c := 5) rfl rfl h50 rfl inW5 tyX5_ok wd_232 wd_233 wd_120 (by decide) ?_
      refine r_ltR (fun r51 => ?_)
      refine r_ltT (fun t52 => ?_)
      refine r_ltM (fun m53 => ?_)
      refine r_dup 56 116 rfl rfl rfl ?_
      refine r_gd (fun h54 => ?_)
      refine r_IA 57 119 (st := [.inr (.inr r51), .inr (.inr a0)]) (av := [.inr (.inr r51)]) (av' := []) (μ' := u_X5_init) (d := 2) rfl rfl mc_X5_init rfl rfl ini_X5_init lk_RX11_52 (Nat.le_of_ble_eq_true rfl) rfl rfl (ob_sh h54) (Nat.le_of_ble_eq_true rfl) (fun _ h => ct_X5_init (ob_sh h54) h) (fun _ h => mn_X5_init (ob_sh h54) h) (fun t56 m55 => ?_)
      refine r_gd (fun h57 => ?_)
      refine r_putR 58 122 rfl rfl fl_RX11_53 (fun _ => ⟨rfl, rfl⟩) rfl (ob_sh h57) ?_
      refine r_ltM (fun m58 => ?_)
      refine r_aload_n 59 123 0 rfl rfl rfl rfl ?_
      refine r_gd (fun h59 => ?_)
      refine r_new 60 126 (c := 6) rfl rfl h59 rfl inW6 tyX6_ok wd_267 wd_268 wd_121 (by decide) ?_
      refine r_ltR (fun r60 => ?_)
      refine r_ltT (fun t61 => ?_)
      refine r_ltM (fun m62 => ?_)
      refine r_dup 61 127 rfl rfl rfl ?_
      refine r_gd (fun h63 => ?_)
      refine r_IA 62 130 (st := [.inr (.inr r60), .inr (.inr a0)]) (av := [.inr (.inr r60)]) (av' := []) (μ' := u_X6_init) (d := 2) rfl rfl mc_X6_init rfl rfl ini_X6_init lk_RX11_59 (Nat.le_of_ble_eq_true rfl) rfl rfl (ob_sh h63) (Nat.le_of_ble_eq_true rfl) (fun _ h => ct_X6_init (ob_sh h63) h) (fun _ h => mn_X6_init (ob_sh h63) h) (fun t65 m64 => ?_)
      refine r_gd (fun h66 => ?_)
      refine r_putR 63 133 rfl rfl fl_RX11_60 (fun h => by cases h) rfl (ob_sh h66) ?_
      refine r_ltM (fun m67 => ?_)
      refine r_aload_n 64 134 0 rfl rfl rfl rfl ?_
      refine r_gd (fun h68 => ?_)
      refine r_new 65 137 (c := 6) rfl rfl h68 rfl inW6 tyX6_ok wd_267 wd_268 wd_121 (by decide) ?_
      refine r_ltR (fun r69 => ?_)
      refine r_ltT (fun t70 => ?_)
      refine r_ltM (fun m71 => ?_)
      refine r_dup 66 138 rfl rfl rfl ?_
      refine r_gd (fun h72 => ?_)
      refine r_IA 67 141 (st := [.inr (.inr r69), .inr (.inr a0)]) (av := [.inr (.inr r69)]) (av' := []) (μ' := u_X6_init) (d := 2) rfl rfl mc_X6_init rfl rfl ini_X6_init lk_RX11_59 (Nat.le_of_ble_eq_true rfl) rfl rfl (ob_sh h72) (Nat.le_of_ble_eq_true rfl) (fun _ h => ct_X6_init (ob_sh h72) h) (fun _ h => mn_X6_init (ob_sh h72) h) (fun t74 m73 => ?_)
      refine r_gd (fun h75 => ?_)
      refine r_putR 68 144 rfl rfl fl_RX11_64 (fun h => by cases h) rfl (ob_sh h75) ?_
      refine r_ltM (fun m76 => ?_)
      refine r_aload_n 69 145 0 rfl rfl rfl rfl ?_
      refine r_gd (fun h77 => ?_)
      refine r_new 70 148 (c := 8) rfl rfl h77 rfl inW8 tyX8_ok wd_441 wd_442 wd_125 (by decide) ?_
      refine r_ltR (fun r78 => ?_)
      refine r_ltT (fun t79 => ?_)
      refine r_ltM (fun m80 => ?_)
      refine r_dup 71 149 rfl rfl rfl ?_
      refine r_aload_n 72 150 0 rfl rfl rfl rfl ?_
      refine r_gd (fun h81 => ?_)
      refine r_getR 73 153 rfl rfl fl_RX11_60 rfl (ob_sh h81) ?_
      refine r_gd (fun h82 => ?_)
      refine r_IA 74 156 (st := [.inr (.inr r78), .inr (.inr a0)]) (av := [.inr (.inr r78), .inr (.inr (gr m80 a0 8))]) (av' := [.inr (.inr (gr m80 a0 8))]) (μ' := u_X8_init) (d := 1) rfl rfl mc_X8_init rfl rfl ini_X8_init lk_RX11_69 (Nat.le_of_ble_eq_true rfl) rfl rfl (ob_sh h82) (Nat.le_of_ble_eq_true rfl) (fun _ h => ct_X8_init (ob_sh h82) h) (fun _ h => mn_X8_init (ob_sh h82) h) (fun t84 m83 => ?_)
      refine r_gd (fun h85 => ?_)
      refine r_putR 75 159 rfl rfl fl_RX11_72 (fun _ => ⟨rfl, rfl⟩) rfl (ob_sh h85) ?_
      refine r_ltM (fun m86 => ?_)
      refine r_aload_n 76 160 0 rfl rfl rfl rfl ?_
      refine r_gd (fun h87 => ?_)
      refine r_new 77 163 (c := 1) rfl rfl h87 rfl inW1 tyX1_ok wd_473 wd_474 wd_126 (by decide) ?_
      refine r_ltR (fun r88 => ?_)
      refine r_ltT (fun t89 => ?_)
      refine r_ltM (fun m90 => ?_)
      refine r_dup 78 164 rfl rfl rfl ?_
      refine r_gd (fun h91 => ?_)
      refine r_IA 79 167 (st := [.inr (.inr r88), .inr (.inr a0)]) (av := [.inr (.inr r88)]) (av' := []) (μ' := u_X1_init) (d := 1) rfl rfl mc_X1_init rfl rfl ini_X1_init lk_RX11_78 (Nat.le_of_ble_eq_true rfl) rfl rfl (ob_sh h91) (Nat.le_of_ble_eq_true rfl) (fun _ h => ct_X1_init (ob_sh h91) h) (fun _ h => mn_X1_init (ob_sh h91) h) (fun t93 m92 => ?_)
      refine r_gd (fun h94 => ?_)
      refine r_putR 80 170 rfl rfl fl_RX11_79 (fun _ => ⟨rfl, rfl⟩) rfl (ob_sh h94) ?_
      refine r_ltM (fun m95 => ?_)
      refine r_aload_n 81 171 0 rfl rfl rfl rfl ?_
      refine r_gd (fun h96 => ?_)
      refine r_new 82 174 (c := 3) rfl rfl h96 rfl inW3 tyX3_ok wd_498 wd_499 wd_127 (by decide) ?_
      refine r_ltR (fun r97 => ?_)
      refine r_ltT (fun t98 => ?_)
      refine r_ltM (fun m99 => ?_)
      refine r_dup 83 175 rfl rfl rfl ?_
      refine r_gd (fun h100 => ?_)
      refine r_IA 84 178 (st := [.inr (.inr r97), .inr (.inr a0)]) (av := [.inr (.inr r97)]) (av' := []) (μ' := u_X3_init) (d := 1) rfl rfl mc_X3_init rfl rfl ini_X3_init lk_RX11_85 (Nat.le_of_ble_eq_true rfl) rfl rfl (ob_sh h100) (Nat.le_of_ble_eq_true rfl) (fun _ h => ct_X3_init (ob_sh h100) h) (fun _ h => mn_X3_init (ob_sh h100) h) (fun t102 m101 => ?_)
      refine r_gd (fun h103 => ?_)
      refine r_putR 85 181 rfl rfl fl_RX11_86 (fun _ => ⟨rfl, rfl⟩) rfl (ob_sh h103) ?_
      refine r_ltM (fun m104 => ?_)
      exact r_vret 86 rfl rfl rfl
    refine r_lp (Lf := fun x : Int32 × List Sh × Mi => [(0, .inr (.inr a0)), (1, .inl (x.1))]) (Mf := fun x : Int32 × List Sh × Mi => (x.2.1, x.2.2)) (a1, t, m) ?_ FUEL
    rintro ⟨a1, t, m⟩ κ29 hc29 he29
    refine r_eq (L' := [(0, .inr (.inr a0)), (1, .inl a1)]) (M' := (t, m)) rfl rfl ?_
    refine r_eqr (r' := f_X11_init_l29 t m a0 a1) rfl ?_
    unfold f_X11_init_l29
    refine r_iload_n 15 30 1 rfl rfl rfl rfl ?_
    refine r_bipush 16 32 (v := 16) rfl rfl (by decide) ?_
    refine r_icmp_ge 17 65 35 rfl rfl rfl (fun h105 => ?_) (fun h105 => ?_)
    · refine r_leaf (r2 := (f_X11_init_j65 t m a0 : Option (Mm))) (he29 _) ?_
      exact r_sub [0] rfl (hj65 t m)
    · refine r_aload_n 18 36 0 rfl rfl rfl rfl ?_
      refine r_gd (fun h106 => ?_)
      refine r_getR 19 39 rfl rfl fl_RX11_19 rfl (ob_sh h106) ?_
      refine r_iload_n 20 40 1 rfl rfl rfl rfl ?_
      refine r_gd (fun h107 => ?_)
      refine r_new 21 43 (c := 4) rfl rfl h107 rfl inW4 tyX4_ok wd_143 wd_145 wd_115 (by decide) ?_
      refine r_ltR (fun r108 => ?_)
      refine r_ltT (fun t109 => ?_)
      refine r_ltM (fun m110 => ?_)
      refine r_dup 22 44 rfl rfl rfl ?_
      refine r_bipush 23 46 (v := 16) rfl rfl (by decide) ?_
      refine r_gd (fun h111 => ?_)
      refine r_IA 24 49 (st := [.inr (.inr r108), .inl a1, .inr (.inr (gr m a0 2))]) (av := [.inr (.inr r108), .inl 16]) (av' := [.inl 16]) (μ' := u_X4_init) (d := 1) rfl rfl mc_X4_init rfl rfl ini_X4_init lk_RX11_23 (Nat.le_of_ble_eq_true rfl) rfl rfl (ob_sh h111) (Nat.le_of_ble_eq_true rfl) (fun _ h => ct_X4_init (ob_sh h111) h) (fun _ h => mn_X4_init (ob_sh h111) h) (fun t113 m112 => ?_)
      refine r_gd (fun h114 => ?_)
      refine r_gd (fun h115 => ?_)
      refine r_aast 25 50 (ci := 4) (q := 4) (C0 := RX4) rfl rfl (fun _ => rfl) rfl h114 (ob_sh h115) ?_
      refine r_ltM (fun m116 => ?_)
      refine r_aload_n 26 51 0 rfl rfl rfl rfl ?_
      refine r_gd (fun h117 => ?_)
      refine r_getR 27 54 rfl rfl fl_RX11_19 rfl (ob_sh h117) ?_
      refine r_iload_n 28 55 1 rfl rfl rfl rfl ?_
      refine r_gd (fun h118 => ?_)
      refine r_aald 29 56 4 rfl rfl (fun _ => rfl) h118 ?_
      refine r_gd (fun h119 => ?_)
      refine r_VV 30 59 (st := []) (av := [.inr (.inr (gr m116 (gr m116 a0 2) (ix a1)))]) (av' := []) (μ' := u_X4_setAll) (d := 3) rfl rfl mc_X4_setAll in_X4_setAll lk_RX11_26 (Nat.le_of_ble_eq_true rfl) rfl rfl (ob_sh h119) rfl (Nat.le_of_ble_eq_true rfl) (fun _ h => ct_X4_setAll (ob_sh h119) h) (fun m120 => ?_)
      refine r_iinc 31 62 1 (L' := [(1, .inl (a1 + 1)), (0, .inr (.inr a0))]) rfl rfl rfl (by decide) rfl ?_
      refine r_ltV (fun x121 => ?_)
      refine r_goto 32 29 rfl rfl ?_
      exact r_sub [1, 0] rfl (hc29 (x121, t113, m120))
  exact r_sub [1, 0] rfl (hj29 t10 m13 0)
theorem mn_X11_init {t : List Sh} {m : Mi} {a0 : Nat} {q : Mm} (h0 : sh t a0 = some (.inl 11)) (h : f_X11_init t m a0 = some q) : t.length ≤ q.1.length ∧ zs t ≤ zs q.1 := ((sm_X11_init (0, 0, 0, 0) t m a0 h0) (none, q) (by rw [h]; rfl)).1
theorem ct_X11_init {t : List Sh} {m : Mi} {a0 : Nat} {q : Mm} (h0 : sh t a0 = some (.inl 11)) (h : f_X11_init t m a0 = some q) : Ct u_X11_init 4 (q.1.length - t.length) (zs q.1 - zs t) [.inr (.inr a0)] (t, m) (none, q) := by
  have hm := mn_X11_init h0 h
  exact ct_of (by decide) tk_X11_init (Nat.le_of_ble_eq_true rfl) (sm_X11_init (q.1.length - t.length, zs q.1 - zs t, t.length, zs t) t m a0 h0) (by rw [h]; rfl) (by show q.1.length ≤ t.length + (q.1.length - t.length); omega) (by show zs q.1 ≤ zs t + (zs q.1 - zs t); omega)
theorem lk_RX11_227 : Cond.methodLink RX11 227 yX1_reachedBy ∈ TB := tbm 1263 (by decide +kernel) rfl
def tb_X11_why : Tb := [(0, (.aload_n 0, 1)), (1, (.getfield 79, 3)), (4, (.iload_n 1, 1)), (5, (.invokevirtual 218, 3)), (8, (.iconst (-1), 1)), (9, (.if_icmp .ne 5, 3)), (12, (.iconst (-1), 1)), (13, (.ireturn, 1)), (14, (.aload_n 0, 1)), (15, (.getfield 79, 3)), (18, (.aload_n 0, 1)), (19, (.getfield 60, 3)), (22, (.iload_n 1, 1)), (23, (.invokevirtual 227, 3)), (26, (.ireturn, 1))]
def u_X11_why : Fx := (yX11_why, (cX11_why, (2, ((some .int), tb_X11_why))))
theorem tk_X11_why : ∀ q ∈ u_X11_why.2.2.2.2, decode u_X11_why.2.1 q.1 = .ok q.2 := by decide +kernel
theorem mc_X11_why : MC u_X11_why 1 := ⟨tbm 1262 (by decide +kernel) rfl, tbm 114 (by decide +kernel) rfl, ⟨by decide, by decide, by decide +kernel⟩, by decide⟩
theorem in_X11_why : Cond.instanceMethod u_X11_why.1 ∈ TB ∧ Cond.selects u_X11_why.1.cls u_X11_why.1 u_X11_why.1 ∈ TB := ⟨tbm 1260 (by decide +kernel) rfl, tbm 1261 (by decide +kernel) rfl⟩
def f_X11_why (t : List Sh) (m : Mi) (a0 : Nat) (a1 : Int32) : Option (Int32 × Mi) :=
  (if ob t (gr m a0 11) 1 = true then
  (f_X1_releaseOf t m (gr m a0 11) a1).bind fun x2 =>
  if x2 = (-1) then
    some ((-1), m)
  else
    bd (f_X1_reachedBy t m (gr m a0 11) (gr m a0 8) a1) fun x4 m5 =>
    some (x4, m5)
  else none)
set_option maxRecDepth 4000 in
set_option maxHeartbeats 4000000 in
theorem sm_X11_why (t : List Sh) (m : Mi) (a0 : Nat) (a1 : Int32) (h0 : sh t a0 = some (.inl 11)) : Sm u_X11_why (4, 0, 0, t.length, zs t) (kI t) 0 [(0, .inr (.inr a0)), (1, .inl a1)] [] (t, m) (f_X11_why t m a0 a1) := by
  unfold f_X11_why
  refine r_aload_n 0 1 0 rfl rfl rfl rfl ?_
  refine r_getR 1 4 rfl rfl fl_RX11_79 rfl h0 ?_
  refine r_iload_n 2 5 1 rfl rfl rfl rfl ?_
  refine r_gd (fun h1 => ?_)
  refine r_VIo 3 8 (st := []) (av := [.inr (.inr (gr m a0 11)), .inl a1]) (av' := [.inl a1]) (μ' := u_X1_releaseOf) (d := 1) rfl rfl mc_X1_releaseOf in_X1_releaseOf lk_RX11_218 (Nat.le_of_ble_eq_true rfl) rfl rfl (ob_sh h1) rfl (Nat.le_of_ble_eq_true rfl) (fun _ h => ct_X1_releaseOf (ob_sh h1) h) (fun x2 => ?_)
  refine r_iconst 4 9 (v := (-1)) rfl rfl (by decide) ?_
  refine r_icmp_ne 5 14 12 rfl rfl rfl (fun h3 => ?_) (fun h3 => ?_)
  · refine r_iconst 6 13 (v := (-1)) rfl rfl (by decide) ?_
    exact r_iret 7 rfl rfl rfl
  · refine r_aload_n 8 15 0 rfl rfl rfl rfl ?_
    refine r_getR 9 18 rfl rfl fl_RX11_79 rfl h0 ?_
    refine r_aload_n 10 19 0 rfl rfl rfl rfl ?_
    refine r_getR 11 22 rfl rfl fl_RX11_60 rfl h0 ?_
    refine r_iload_n 12 23 1 rfl rfl rfl rfl ?_
    refine r_VI 13 26 (st := []) (av := [.inr (.inr (gr m a0 11)), .inr (.inr (gr m a0 8)), .inl a1]) (av' := [.inr (.inr (gr m a0 8)), .inl a1]) (μ' := u_X1_reachedBy) (d := 3) rfl rfl mc_X1_reachedBy in_X1_reachedBy lk_RX11_227 (Nat.le_of_ble_eq_true rfl) rfl rfl (ob_sh h1) rfl (Nat.le_of_ble_eq_true rfl) (fun _ _ h => ct_X1_reachedBy (ob_sh h1) h) (fun x4 m5 => ?_)
    exact r_iret 14 rfl rfl rfl
theorem ct_X11_why {t : List Sh} {m : Mi} {a0 : Nat} {a1 : Int32} {m' : Mi} {v : Int32}  (h0 : sh t a0 = some (.inl 11)) (h : f_X11_why t m a0 a1 = some (v, m')) : Ct u_X11_why 4 0 0 [.inr (.inr a0), .inl a1] (t, m) (some (.inl v), (t, m')) :=
  ct_of (by decide) tk_X11_why (Nat.le_of_ble_eq_true rfl) (sm_X11_why t m a0 a1 h0) (by rw [h]; rfl) (Nat.le_refl _) (Nat.le_refl _)
theorem lk_RX11_157 : Cond.methodLink RX11 157 yX4_setJoin ∈ TB := tbm 987 (by decide +kernel) rfl
theorem lk_RX11_164 : Cond.methodLink RX11 164 yX4_setTo ∈ TB := tbm 992 (by decide +kernel) rfl
def tb_X11_combine : Tb := [(0, (.iload_n 2, 1)), (1, (.invokestatic 118, 3)), (4, (.ifCond .eq 27, 3)), (7, (.iload_n 3, 1)), (8, (.invokestatic 118, 3)), (11, (.ifCond .eq 20, 3)), (14, (.iload 4, 2)), (16, (.invokestatic 118, 3)), (19, (.ifCond .eq 12, 3)), (22, (.iload_n 1, 1)), (23, (.ifCond .lt 8, 3)), (26, (.iload_n 1, 1)), (27, (.iconst 2, 1)), (28, (.if_icmp .le 5, 3)), (31, (.iconst (-1), 1)), (32, (.ireturn, 1)), (33, (.aload_n 0, 1)), (34, (.getfield 29, 3)), (37, (.iload_n 1, 1)), (38, (.aload_n 0, 1)), (39, (.getfield 19, 3)), (42, (.iload_n 2, 1)), (43, (.aaload, 1)), (44, (.aload_n 0, 1)), (45, (.getfield 19, 3)), (48, (.iload_n 3, 1)), (49, (.aaload, 1)), (50, (.invokevirtual 157, 3)), (53, (.aload_n 0, 1)), (54, (.getfield 29, 3)), (57, (.invokevirtual 161, 3)), (60, (.bipush 16, 2)), (62, (.if_icmp .le 5, 3)), (65, (.iconst (-1), 1)), (66, (.ireturn, 1)), (67, (.aload_n 0, 1)), (68, (.getfield 19, 3)), (71, (.iload 4, 2)), (73, (.aaload, 1)), (74, (.aload_n 0, 1)), (75, (.getfield 29, 3)), (78, (.invokevirtual 164, 3)), (81, (.aload_n 0, 1)), (82, (.getfield 29, 3)), (85, (.invokevirtual 161, 3)), (88, (.ireturn, 1))]
def u_X11_combine : Fx := (yX11_combine, (cX11_combine, (5, ((some .int), tb_X11_combine))))
theorem tk_X11_combine : ∀ q ∈ u_X11_combine.2.2.2.2, decode u_X11_combine.2.1 q.1 = .ok q.2 := by decide +kernel
theorem mc_X11_combine : MC u_X11_combine 4 := ⟨tbm 986 (by decide +kernel) rfl, tbm 114 (by decide +kernel) rfl, ⟨by decide, by decide, by decide +kernel⟩, by decide⟩
theorem in_X11_combine : Cond.instanceMethod u_X11_combine.1 ∈ TB ∧ Cond.selects u_X11_combine.1.cls u_X11_combine.1 u_X11_combine.1 ∈ TB := ⟨tbm 984 (by decide +kernel) rfl, tbm 985 (by decide +kernel) rfl⟩
def f_X11_combine (t : List Sh) (m : Mi) (a0 : Nat) (a1 : Int32) (a2 : Int32) (a3 : Int32) (a4 : Int32) : Option (Int32 × Mi) :=
  (f_X11_isSlot a2).bind fun x1 =>
  if x1 = 0 then
    some ((-1), m)
  else
    (f_X11_isSlot a3).bind fun x3 =>
    if x3 = 0 then
      some ((-1), m)
    else
      (f_X11_isSlot a4).bind fun x5 =>
      if x5 = 0 then
        some ((-1), m)
      else
        if a1 < 0 then
          some ((-1), m)
        else
          if a1 ≤ 2 then
            (if ar t (gr m a0 2) (.object RX4) a2 = true then
            (if ar t (gr m a0 2) (.object RX4) a3 = true then
            (if ob t (gr m a0 3) 4 = true then
            (f_X4_setJoin t m (gr m a0 3) a1 (gr m (gr m a0 2) (ix a2)) (gr m (gr m a0 2) (ix a3))).bind fun m12 =>
            (if ob t (gr m12 a0 3) 4 = true then
            (f_X4_stretches t m12 (gr m12 a0 3)).bind fun x14 =>
            if x14 ≤ 16 then
              (if ar t (gr m12 a0 2) (.object RX4) a4 = true then
              (if ob t (gr m12 (gr m12 a0 2) (ix a4)) 4 = true then
              (f_X4_setTo t m12 (gr m12 (gr m12 a0 2) (ix a4)) (gr m12 a0 3)).bind fun m18 =>
              (if ob t (gr m18 a0 3) 4 = true then
              (f_X4_stretches t m18 (gr m18 a0 3)).bind fun x20 =>
              some (x20, m18)
              else none)
              else none)
              else none)
            else
              some ((-1), m12)
            else none)
            else none)
            else none)
            else none)
          else
            some ((-1), m)
set_option maxRecDepth 4000 in
set_option maxHeartbeats 4000000 in
theorem sm_X11_combine (t : List Sh) (m : Mi) (a0 : Nat) (a1 : Int32) (a2 : Int32) (a3 : Int32) (a4 : Int32) (h0 : sh t a0 = some (.inl 11)) : Sm u_X11_combine (5, 0, 0, t.length, zs t) (kI t) 0 [(0, .inr (.inr a0)), (1, .inl a1), (2, .inl a2), (3, .inl a3), (4, .inl a4)] [] (t, m) (f_X11_combine t m a0 a1 a2 a3 a4) := by
  unfold f_X11_combine
  refine r_iload_n 0 1 2 rfl rfl rfl rfl ?_
  refine r_SIo 1 4 (a := 0) (cn := 0) (st := []) (av := [.inl a2]) (μ' := u_X11_isSlot) (d := 1) rfl rfl mc_X11_isSlot st_X11_isSlot lk_RX11_118 (Nat.le_of_ble_eq_true rfl) rfl (Nat.le_of_ble_eq_true rfl) (fun _ h => ct_X11_isSlot h) (fun x1 => ?_)
  refine r_if_eq 2 31 7 rfl rfl rfl (fun h2 => ?_) (fun h2 => ?_)
  · refine r_iconst 14 32 (v := (-1)) rfl rfl (by decide) ?_
    exact r_iret 15 rfl rfl rfl
  · refine r_iload_n 3 8 3 rfl rfl rfl rfl ?_
    refine r_SIo 4 11 (a := 0) (cn := 0) (st := []) (av := [.inl a3]) (μ' := u_X11_isSlot) (d := 1) rfl rfl mc_X11_isSlot st_X11_isSlot lk_RX11_118 (Nat.le_of_ble_eq_true rfl) rfl (Nat.le_of_ble_eq_true rfl) (fun _ h => ct_X11_isSlot h) (fun x3 => ?_)
    refine r_if_eq 5 31 14 rfl rfl rfl (fun h4 => ?_) (fun h4 => ?_)
    · refine r_iconst 14 32 (v := (-1)) rfl rfl (by decide) ?_
      exact r_iret 15 rfl rfl rfl
    · refine r_iload 6 16 4 rfl rfl rfl ?_
      refine r_SIo 7 19 (a := 0) (cn := 0) (st := []) (av := [.inl a4]) (μ' := u_X11_isSlot) (d := 1) rfl rfl mc_X11_isSlot st_X11_isSlot lk_RX11_118 (Nat.le_of_ble_eq_true rfl) rfl (Nat.le_of_ble_eq_true rfl) (fun _ h => ct_X11_isSlot h) (fun x5 => ?_)
      refine r_if_eq 8 31 22 rfl rfl rfl (fun h6 => ?_) (fun h6 => ?_)
      · refine r_iconst 14 32 (v := (-1)) rfl rfl (by decide) ?_
        exact r_iret 15 rfl rfl rfl
      · refine r_iload_n 9 23 1 rfl rfl rfl rfl ?_
        refine r_if_lt 10 31 26 rfl rfl rfl (fun h7 => ?_) (fun h7 => ?_)
        · refine r_iconst 14 32 (v := (-1)) rfl rfl (by decide) ?_
          exact r_iret 15 rfl rfl rfl
        · refine r_iload_n 11 27 1 rfl rfl rfl rfl ?_
          refine r_iconst 12 28 (v := 2) rfl rfl (by decide) ?_
          refine r_icmp_le 13 33 31 rfl rfl rfl (fun h8 => ?_) (fun h8 => ?_)
          · refine r_aload_n 16 34 0 rfl rfl rfl rfl ?_
            refine r_getR 17 37 rfl rfl fl_RX11_29 rfl h0 ?_
            refine r_iload_n 18 38 1 rfl rfl rfl rfl ?_
            refine r_aload_n 19 39 0 rfl rfl rfl rfl ?_
            refine r_getR 20 42 rfl rfl fl_RX11_19 rfl h0 ?_
            refine r_iload_n 21 43 2 rfl rfl rfl rfl ?_
            refine r_gd (fun h9 => ?_)
            refine r_aald 22 44 4 rfl rfl (fun _ => rfl) h9 ?_
            refine r_aload_n 23 45 0 rfl rfl rfl rfl ?_
            refine r_getR 24 48 rfl rfl fl_RX11_19 rfl h0 ?_
            refine r_iload_n 25 49 3 rfl rfl rfl rfl ?_
            refine r_gd (fun h10 => ?_)
            refine r_aald 26 50 4 rfl rfl (fun _ => rfl) h10 ?_
            refine r_gd (fun h11 => ?_)
            refine r_VV 27 53 (st := []) (av := [.inr (.inr (gr m a0 3)), .inl a1, .inr (.inr (gr m (gr m a0 2) (ix a2))), .inr (.inr (gr m (gr m a0 2) (ix a3)))]) (av' := [.inl a1, .inr (.inr (gr m (gr m a0 2) (ix a2))), .inr (.inr (gr m (gr m a0 2) (ix a3)))]) (μ' := u_X4_setJoin) (d := 4) rfl rfl mc_X4_setJoin in_X4_setJoin lk_RX11_157 (Nat.le_of_ble_eq_true rfl) rfl rfl (ob_sh h11) rfl (Nat.le_of_ble_eq_true rfl) (fun _ h => ct_X4_setJoin (ob_sh h11) h) (fun m12 => ?_)
            refine r_aload_n 28 54 0 rfl rfl rfl rfl ?_
            refine r_getR 29 57 rfl rfl fl_RX11_29 rfl h0 ?_
            refine r_gd (fun h13 => ?_)
            refine r_VIo 30 60 (st := []) (av := [.inr (.inr (gr m12 a0 3))]) (av' := []) (μ' := u_X4_stretches) (d := 1) rfl rfl mc_X4_stretches in_X4_stretches lk_RX11_161 (Nat.le_of_ble_eq_true rfl) rfl rfl (ob_sh h13) rfl (Nat.le_of_ble_eq_true rfl) (fun _ h => ct_X4_stretches (ob_sh h13) h) (fun x14 => ?_)
            refine r_bipush 31 62 (v := 16) rfl rfl (by decide) ?_
            refine r_icmp_le 32 67 65 rfl rfl rfl (fun h15 => ?_) (fun h15 => ?_)
            · refine r_aload_n 35 68 0 rfl rfl rfl rfl ?_
              refine r_getR 36 71 rfl rfl fl_RX11_19 rfl h0 ?_
              refine r_iload 37 73 4 rfl rfl rfl ?_
              refine r_gd (fun h16 => ?_)
              refine r_aald 38 74 4 rfl rfl (fun _ => rfl) h16 ?_
              refine r_aload_n 39 75 0 rfl rfl rfl rfl ?_
              refine r_getR 40 78 rfl rfl fl_RX11_29 rfl h0 ?_
              refine r_gd (fun h17 => ?_)
              refine r_VV 41 81 (st := []) (av := [.inr (.inr (gr m12 (gr m12 a0 2) (ix a4))), .inr (.inr (gr m12 a0 3))]) (av' := [.inr (.inr (gr m12 a0 3))]) (μ' := u_X4_setTo) (d := 4) rfl rfl mc_X4_setTo in_X4_setTo lk_RX11_164 (Nat.le_of_ble_eq_true rfl) rfl rfl (ob_sh h17) rfl (Nat.le_of_ble_eq_true rfl) (fun _ h => ct_X4_setTo (ob_sh h17) h) (fun m18 => ?_)
              refine r_aload_n 42 82 0 rfl rfl rfl rfl ?_
              refine r_getR 43 85 rfl rfl fl_RX11_29 rfl h0 ?_
              refine r_gd (fun h19 => ?_)
              refine r_VIo 44 88 (st := []) (av := [.inr (.inr (gr m18 a0 3))]) (av' := []) (μ' := u_X4_stretches) (d := 1) rfl rfl mc_X4_stretches in_X4_stretches lk_RX11_161 (Nat.le_of_ble_eq_true rfl) rfl rfl (ob_sh h19) rfl (Nat.le_of_ble_eq_true rfl) (fun _ h => ct_X4_stretches (ob_sh h19) h) (fun x20 => ?_)
              exact r_iret 45 rfl rfl rfl
            · refine r_iconst 33 66 (v := (-1)) rfl rfl (by decide) ?_
              exact r_iret 34 rfl rfl rfl
          · refine r_iconst 14 32 (v := (-1)) rfl rfl (by decide) ?_
            exact r_iret 15 rfl rfl rfl
theorem ct_X11_combine {t : List Sh} {m : Mi} {a0 : Nat} {a1 : Int32} {a2 : Int32} {a3 : Int32} {a4 : Int32} {m' : Mi} {v : Int32}  (h0 : sh t a0 = some (.inl 11)) (h : f_X11_combine t m a0 a1 a2 a3 a4 = some (v, m')) : Ct u_X11_combine 5 0 0 [.inr (.inr a0), .inl a1, .inl a2, .inl a3, .inl a4] (t, m) (some (.inl v), (t, m')) :=
  ct_of (by decide) tk_X11_combine (Nat.le_of_ble_eq_true rfl) (sm_X11_combine t m a0 a1 a2 a3 a4 h0) (by rw [h]; rfl) (Nat.le_refl _) (Nat.le_refl _)
def tb_X11_inside : Tb := [(0, (.iload_n 1, 1)), (1, (.invokestatic 118, 3)), (4, (.ifCond .eq 10, 3)), (7, (.iload_n 2, 1)), (8, (.invokestatic 118, 3)), (11, (.ifCond .ne 5, 3)), (14, (.iconst (-1), 1)), (15, (.ireturn, 1)), (16, (.aload_n 0, 1)), (17, (.getfield 29, 3)), (20, (.iconst 2, 1)), (21, (.aload_n 0, 1)), (22, (.getfield 19, 3)), (25, (.iload_n 1, 1)), (26, (.aaload, 1)), (27, (.aload_n 0, 1)), (28, (.getfield 19, 3)), (31, (.iload_n 2, 1)), (32, (.aaload, 1)), (33, (.invokevirtual 157, 3)), (36, (.aload_n 0, 1)), (37, (.getfield 29, 3)), (40, (.invokevirtual 161, 3)), (43, (.ifCond .ne 7, 3)), (46, (.iconst 1, 1)), (47, (.goto 4, 3)), (50, (.iconst 0, 1)), (51, (.ireturn, 1))]
def u_X11_inside : Fx := (yX11_inside, (cX11_inside, (3, ((some .int), tb_X11_inside))))
theorem tk_X11_inside : ∀ q ∈ u_X11_inside.2.2.2.2, decode u_X11_inside.2.1 q.1 = .ok q.2 := by decide +kernel
theorem mc_X11_inside : MC u_X11_inside 2 := ⟨tbm 996 (by decide +kernel) rfl, tbm 114 (by decide +kernel) rfl, ⟨by decide, by decide, by decide +kernel⟩, by decide⟩
theorem in_X11_inside : Cond.instanceMethod u_X11_inside.1 ∈ TB ∧ Cond.selects u_X11_inside.1.cls u_X11_inside.1 u_X11_inside.1 ∈ TB := ⟨tbm 994 (by decide +kernel) rfl, tbm 995 (by decide +kernel) rfl⟩
def f_X11_inside (t : List Sh) (m : Mi) (a0 : Nat) (a1 : Int32) (a2 : Int32) : Option (Int32 × Mi) :=
  (f_X11_isSlot a1).bind fun x1 =>
  if x1 = 0 then
    some ((-1), m)
  else
    (f_X11_isSlot a2).bind fun x3 =>
    if x3 = 0 then
      some ((-1), m)
    else
      (if ar t (gr m a0 2) (.object RX4) a1 = true then
      (if ar t (gr m a0 2) (.object RX4) a2 = true then
      (if ob t (gr m a0 3) 4 = true then
      (f_X4_setJoin t m (gr m a0 3) 2 (gr m (gr m a0 2) (ix a1)) (gr m (gr m a0 2) (ix a2))).bind fun m8 =>
      (if ob t (gr m8 a0 3) 4 = true then
      (f_X4_stretches t m8 (gr m8 a0 3)).bind fun x10 =>
      if x10 = 0 then
        some (1, m8)
      else
        some (0, m8)
      else none)
      else none)
      else none)
      else none)
set_option maxRecDepth 4000 in
set_option maxHeartbeats 4000000 in
theorem sm_X11_inside (t : List Sh) (m : Mi) (a0 : Nat) (a1 : Int32) (a2 : Int32) (h0 : sh t a0 = some (.inl 11)) : Sm u_X11_inside (5, 0, 0, t.length, zs t) (kI t) 0 [(0, .inr (.inr a0)), (1, .inl a1), (2, .inl a2)] [] (t, m) (f_X11_inside t m a0 a1 a2) := by
  unfold f_X11_inside
  refine r_iload_n 0 1 1 rfl rfl rfl rfl ?_
  refine r_SIo 1 4 (a := 0) (cn := 0) (st := []) (av := [.inl a1]) (μ' := u_X11_isSlot) (d := 1) rfl rfl mc_X11_isSlot st_X11_isSlot lk_RX11_118 (Nat.le_of_ble_eq_true rfl) rfl (Nat.le_of_ble_eq_true rfl) (fun _ h => ct_X11_isSlot h) (fun x1 => ?_)
  refine r_if_eq 2 14 7 rfl rfl rfl (fun h2 => ?_) (fun h2 => ?_)
  · refine r_iconst 6 15 (v := (-1)) rfl rfl (by decide) ?_
    exact r_iret 7 rfl rfl rfl
  · refine r_iload_n 3 8 2 rfl rfl rfl rfl ?_
    refine r_SIo 4 11 (a := 0) (cn := 0) (st := []) (av := [.inl a2]) (μ' := u_X11_isSlot) (d := 1) rfl rfl mc_X11_isSlot st_X11_isSlot lk_RX11_118 (Nat.le_of_ble_eq_true rfl) rfl (Nat.le_of_ble_eq_true rfl) (fun _ h => ct_X11_isSlot h) (fun x3 => ?_)
    refine r_if_ne 5 16 14 rfl rfl rfl (fun h4 => ?_) (fun h4 => ?_)
    · refine r_iconst 6 15 (v := (-1)) rfl rfl (by decide) ?_
      exact r_iret 7 rfl rfl rfl
    · refine r_aload_n 8 17 0 rfl rfl rfl rfl ?_
      refine r_getR 9 20 rfl rfl fl_RX11_29 rfl h0 ?_
      refine r_iconst 10 21 (v := 2) rfl rfl (by decide) ?_
      refine r_aload_n 11 22 0 rfl rfl rfl rfl ?_
      refine r_getR 12 25 rfl rfl fl_RX11_19 rfl h0 ?_
      refine r_iload_n 13 26 1 rfl rfl rfl rfl ?_
      refine r_gd (fun h5 => ?_)
      refine r_aald 14 27 4 rfl rfl (fun _ => rfl) h5 ?_
      refine r_aload_n 15 28 0 rfl rfl rfl rfl ?_
      refine r_getR 16 31 rfl rfl fl_RX11_19 rfl h0 ?_
      refine r_iload_n 17 32 2 rfl rfl rfl rfl ?_
      refine r_gd (fun h6 => ?_)
      refine r_aald 18 33 4 rfl rfl (fun _ => rfl) h6 ?_
      refine r_gd (fun h7 => ?_)
      refine r_VV 19 36 (st := []) (av := [.inr (.inr (gr m a0 3)), .inl 2, .inr (.inr (gr m (gr m a0 2) (ix a1))), .inr (.inr (gr m (gr m a0 2) (ix a2)))]) (av' := [.inl 2, .inr (.inr (gr m (gr m a0 2) (ix a1))), .inr (.inr (gr m (gr m a0 2) (ix a2)))]) (μ' := u_X4_setJoin) (d := 4) rfl rfl mc_X4_setJoin in_X4_setJoin lk_RX11_157 (Nat.le_of_ble_eq_true rfl) rfl rfl (ob_sh h7) rfl (Nat.le_of_ble_eq_true rfl) (fun _ h => ct_X4_setJoin (ob_sh h7) h) (fun m8 => ?_)
      refine r_aload_n 20 37 0 rfl rfl rfl rfl ?_
      refine r_getR 21 40 rfl rfl fl_RX11_29 rfl h0 ?_
      refine r_gd (fun h9 => ?_)
      refine r_VIo 22 43 (st := []) (av := [.inr (.inr (gr m8 a0 3))]) (av' := []) (μ' := u_X4_stretches) (d := 1) rfl rfl mc_X4_stretches in_X4_stretches lk_RX11_161 (Nat.le_of_ble_eq_true rfl) rfl rfl (ob_sh h9) rfl (Nat.le_of_ble_eq_true rfl) (fun _ h => ct_X4_stretches (ob_sh h9) h) (fun x10 => ?_)
      refine r_if_ne 23 50 46 rfl rfl rfl (fun h11 => ?_) (fun h11 => ?_)
      · refine r_iconst 24 47 (v := 1) rfl rfl (by decide) ?_
        refine r_goto 25 51 rfl rfl ?_
        exact r_iret 27 rfl rfl rfl
      · refine r_iconst 26 51 (v := 0) rfl rfl (by decide) ?_
        exact r_iret 27 rfl rfl rfl
theorem ct_X11_inside {t : List Sh} {m : Mi} {a0 : Nat} {a1 : Int32} {a2 : Int32} {m' : Mi} {v : Int32}  (h0 : sh t a0 = some (.inl 11)) (h : f_X11_inside t m a0 a1 a2 = some (v, m')) : Ct u_X11_inside 5 0 0 [.inr (.inr a0), .inl a1, .inl a2] (t, m) (some (.inl v), (t, m')) :=
  ct_of (by decide) tk_X11_inside (Nat.le_of_ble_eq_true rfl) (sm_X11_inside t m a0 a1 a2 h0) (by rw [h]; rfl) (Nat.le_refl _) (Nat.le_refl _)
theorem lk_RX11_93 : Cond.methodLink RX11 93 yX11_isOnTape ∈ TB := tbm 575 (by decide +kernel) rfl
theorem lk_RX11_139 : Cond.methodLink RX11 139 yX11_behindBlanks ∈ TB := tbm 972 (by decide +kernel) rfl
theorem lk_RX11_143 : Cond.methodLink RX11 143 yX11_behindSigns ∈ TB := tbm 977 (by decide +kernel) rfl
theorem lk_RX11_146 : Cond.methodLink RX11 146 yX10_take ∈ TB := tbm 981 (by decide +kernel) rfl
theorem fl_RX11_149 : FL RX11 149 10 0 true := ⟨RX10, TX10, 5, rfl, inW10, tyX10_ok, nmX10, by decide, rfl, rfl, rfl, tbm 183 (by decide +kernel) rfl⟩
theorem lk_RX11_153 : Cond.methodLink RX11 153 yX10_compare ∈ TB := tbm 982 (by decide +kernel) rfl
def tb_X11_order : Tb := [(0, (.aload_n 0, 1)), (1, (.iload_n 1, 1)), (2, (.invokevirtual 93, 3)), (5, (.ifCond .ne 6, 3)), (8, (.bipush (-2), 2)), (10, (.ireturn, 1)), (11, (.aload_n 0, 1)), (12, (.iconst 0, 1)), (13, (.putfield 13, 3)), (16, (.aload_n 0, 1)), (17, (.iconst 0, 1)), (18, (.iload_n 1, 1)), (19, (.invokevirtual 139, 3)), (22, (.istore_n 2, 1)), (23, (.aload_n 0, 1)), (24, (.iload_n 2, 1)), (25, (.iload_n 1, 1)), (26, (.invokevirtual 143, 3)), (29, (.istore_n 3, 1)), (30, (.aload_n 0, 1)), (31, (.iload_n 3, 1)), (32, (.iload_n 1, 1)), (33, (.invokevirtual 139, 3)), (36, (.istore 4, 2)), (38, (.aload_n 0, 1)), (39, (.iload 4, 2)), (41, (.iload_n 1, 1)), (42, (.invokevirtual 143, 3)), (45, (.istore 5, 2)), (47, (.aload_n 0, 1)), (48, (.iload 5, 2)), (50, (.iload_n 1, 1)), (51, (.invokevirtual 139, 3)), (54, (.iload_n 1, 1)), (55, (.if_icmp .ne 39, 3)), (58, (.aload_n 0, 1)), (59, (.getfield 36, 3)), (62, (.aload_n 0, 1)), (63, (.getfield 9, 3)), (66, (.iload_n 2, 1)), (67, (.iload_n 3, 1)), (68, (.invokevirtual 146, 3)), (71, (.iconst 2, 1)), (72, (.if_icmp .ne 22, 3)), (75, (.aload_n 0, 1)), (76, (.getfield 40, 3)), (79, (.aload_n 0, 1)), (80, (.getfield 9, 3)), (83, (.iload 4, 2)), (85, (.iload 5, 2)), (87, (.invokevirtual 146, 3)), (90, (.iconst 2, 1)), (91, (.if_icmp .eq 5, 3)), (94, (.iconst 2, 1)), (95, (.ireturn, 1)), (96, (.aload_n 0, 1)), (97, (.getfield 36, 3)), (100, (.getfield 149, 3)), (103, (.iconst 0, 1)), (104, (.aload_n 0, 1)), (105, (.getfield 40, 3)), (108, (.getfield 149, 3)), (111, (.iconst 0, 1)), (112, (.invokestatic 153, 3)), (115, (.ireturn, 1))]
def u_X11_order : Fx := (yX11_order, (cX11_order, (6, ((some .int), tb_X11_order))))
theorem tk_X11_order : ∀ q ∈ u_X11_order.2.2.2.2, decode u_X11_order.2.1 q.1 = .ok q.2 := by decide +kernel
theorem mc_X11_order : MC u_X11_order 1 := ⟨tbm 971 (by decide +kernel) rfl, tbm 114 (by decide +kernel) rfl, ⟨by decide, by decide, by decide +kernel⟩, by decide⟩
theorem in_X11_order : Cond.instanceMethod u_X11_order.1 ∈ TB ∧ Cond.selects u_X11_order.1.cls u_X11_order.1 u_X11_order.1 ∈ TB := ⟨tbm 969 (by decide +kernel) rfl, tbm 970 (by decide +kernel) rfl⟩
def f_X11_order (t : List Sh) (m : Mi) (a0 : Nat) (a1 : Int32) : Option (Int32 × Mi) :=
  (f_X11_isOnTape t m a0 a1).bind fun x1 =>
  if x1 = 0 then
    some ((-2), m)
  else
    lt (si m a0 1 0) fun m3 =>
    (f_X11_behindBlanks t m3 a0 0 a1).bind fun x4 =>
    (f_X11_behindSigns t m3 a0 x4 a1).bind fun x5 =>
    (f_X11_behindBlanks t m3 a0 x5 a1).bind fun x6 =>
    (f_X11_behindSigns t m3 a0 x6 a1).bind fun x7 =>
    (f_X11_behindBlanks t m3 a0 x7 a1).bind fun x8 =>
    if x8 = a1 then
      (if ob t (gr m3 a0 4) 10 = true then
      bd (f_X10_take t m3 (gr m3 a0 4) (gr m3 a0 0) x4 x5) fun x11 m12 =>
      if x11 = 2 then
        (if ob t (gr m12 a0 5) 10 = true then
        bd (f_X10_take t m12 (gr m12 a0 5) (gr m12 a0 0) x6 x7) fun x15 m16 =>
        if x15 = 2 then
          (if ob t (gr m16 a0 4) 10 = true then
          (if ob t (gr m16 a0 5) 10 = true then
          (f_X10_compare t m16 (gr m16 (gr m16 a0 4) 0) 0 (gr m16 (gr m16 a0 5) 0) 0).bind fun x20 =>
          some (x20, m16)
          else none)
          else none)
        else
          some (2, m16)
        else none)
      else
        some (2, m12)
      else none)
    else
      some (2, m3)
set_option maxRecDepth 4000 in
set_option maxHeartbeats 4000000 in
theorem sm_X11_order (t : List Sh) (m : Mi) (a0 : Nat) (a1 : Int32) (h0 : sh t a0 = some (.inl 11)) : Sm u_X11_order (5, 0, 0, t.length, zs t) (kI t) 0 [(0, .inr (.inr a0)), (1, .inl a1)] [] (t, m) (f_X11_order t m a0 a1) := by
  unfold f_X11_order
  refine r_aload_n 0 1 0 rfl rfl rfl rfl ?_
  refine r_iload_n 1 2 1 rfl rfl rfl rfl ?_
  refine r_VIo 2 5 (st := []) (av := [.inr (.inr a0), .inl a1]) (av' := [.inl a1]) (μ' := u_X11_isOnTape) (d := 1) rfl rfl mc_X11_isOnTape in_X11_isOnTape lk_RX11_93 (Nat.le_of_ble_eq_true rfl) rfl rfl h0 rfl (Nat.le_of_ble_eq_true rfl) (fun _ h => ct_X11_isOnTape h0 h) (fun x1 => ?_)
  refine r_if_ne 3 11 8 rfl rfl rfl (fun h2 => ?_) (fun h2 => ?_)
  · refine r_bipush 4 10 (v := (-2)) rfl rfl (by decide) ?_
    exact r_iret 5 rfl rfl rfl
  · refine r_aload_n 6 12 0 rfl rfl rfl rfl ?_
    refine r_iconst 7 13 (v := 0) rfl rfl (by decide) ?_
    refine r_putI 8 16 rfl rfl fl_RX11_13 (fun h => by cases h) (Or.inl rfl) h0 ?_
    refine r_ltM (fun m3 => ?_)
    refine r_aload_n 9 17 0 rfl rfl rfl rfl ?_
    refine r_iconst 10 18 (v := 0) rfl rfl (by decide) ?_
    refine r_iload_n 11 19 1 rfl rfl rfl rfl ?_
    refine r_VIo 12 22 (st := []) (av := [.inr (.inr a0), .inl 0, .inl a1]) (av' := [.inl 0, .inl a1]) (μ' := u_X11_behindBlanks) (d := 2) rfl rfl mc_X11_behindBlanks in_X11_behindBlanks lk_RX11_139 (Nat.le_of_ble_eq_true rfl) rfl rfl h0 rfl (Nat.le_of_ble_eq_true rfl) (fun _ h => ct_X11_behindBlanks h0 h) (fun x4 => ?_)
    refine r_istore_n 13 23 (L' := [(2, .inl x4), (0, .inr (.inr a0)), (1, .inl a1)]) rfl rfl rfl (by decide) rfl ?_
    refine r_aload_n 14 24 1 rfl rfl rfl rfl ?_
    refine r_iload_n 15 25 0 rfl rfl rfl rfl ?_
    refine r_iload_n 16 26 2 rfl rfl rfl rfl ?_
    refine r_VIo 17 29 (st := []) (av := [.inr (.inr a0), .inl x4, .inl a1]) (av' := [.inl x4, .inl a1]) (μ' := u_X11_behindSigns) (d := 2) rfl rfl mc_X11_behindSigns in_X11_behindSigns lk_RX11_143 (Nat.le_of_ble_eq_true rfl) rfl rfl h0 rfl (Nat.le_of_ble_eq_true rfl) (fun _ h => ct_X11_behindSigns h0 h) (fun x5 => ?_)
    refine r_istore_n 18 30 (L' := [(3, .inl x5), (2, .inl x4), (0, .inr (.inr a0)), (1, .inl a1)]) rfl rfl rfl (by decide) rfl ?_
    refine r_aload_n 19 31 2 rfl rfl rfl rfl ?_
    refine r_iload_n 20 32 0 rfl rfl rfl rfl ?_
    refine r_iload_n 21 33 3 rfl rfl rfl rfl ?_
    refine r_VIo 22 36 (st := []) (av := [.inr (.inr a0), .inl x5, .inl a1]) (av' := [.inl x5, .inl a1]) (μ' := u_X11_behindBlanks) (d := 2) rfl rfl mc_X11_behindBlanks in_X11_behindBlanks lk_RX11_139 (Nat.le_of_ble_eq_true rfl) rfl rfl h0 rfl (Nat.le_of_ble_eq_true rfl) (fun _ h => ct_X11_behindBlanks h0 h) (fun x6 => ?_)
    refine r_istore 23 38 (L' := [(4, .inl x6), (3, .inl x5), (2, .inl x4), (0, .inr (.inr a0)), (1, .inl a1)]) rfl rfl (by decide) rfl ?_
    refine r_aload_n 24 39 3 rfl rfl rfl rfl ?_
    refine r_iload 25 41 0 rfl rfl rfl ?_
    refine r_iload_n 26 42 4 rfl rfl rfl rfl ?_
    refine r_VIo 27 45 (st := []) (av := [.inr (.inr a0), .inl x6, .inl a1]) (av' := [.inl x6, .inl a1]) (μ' := u_X11_behindSigns) (d := 2) rfl rfl mc_X11_behindSigns in_X11_behindSigns lk_RX11_143 (Nat.le_of_ble_eq_true rfl) rfl rfl h0 rfl (Nat.le_of_ble_eq_true rfl) (fun _ h => ct_X11_behindSigns h0 h) (fun x7 => ?_)
    refine r_istore 28 47 (L' := [(5, .inl x7), (4, .inl x6), (3, .inl x5), (2, .inl x4), (0, .inr (.inr a0)), (1, .inl a1)]) rfl rfl (by decide) rfl ?_
    refine r_aload_n 29 48 4 rfl rfl rfl rfl ?_
    refine r_iload 30 50 0 rfl rfl rfl ?_
    refine r_iload_n 31 51 5 rfl rfl rfl rfl ?_
    refine r_VIo 32 54 (st := []) (av := [.inr (.inr a0), .inl x7, .inl a1]) (av' := [.inl x7, .inl a1]) (μ' := u_X11_behindBlanks) (d := 2) rfl rfl mc_X11_behindBlanks in_X11_behindBlanks lk_RX11_139 (Nat.le_of_ble_eq_true rfl) rfl rfl h0 rfl (Nat.le_of_ble_eq_true rfl) (fun _ h => ct_X11_behindBlanks h0 h) (fun x8 => ?_)
    refine r_iload_n 33 55 5 rfl rfl rfl rfl ?_
    refine r_icmp_ne 34 94 58 rfl rfl rfl (fun h9 => ?_) (fun h9 => ?_)
    · refine r_aload_n 35 59 4 rfl rfl rfl rfl ?_
      refine r_getR 36 62 rfl rfl fl_RX11_36 rfl h0 ?_
      refine r_aload_n 37 63 4 rfl rfl rfl rfl ?_
      refine r_getR 38 66 rfl rfl fl_RX11_9 rfl h0 ?_
      refine r_iload_n 39 67 3 rfl rfl rfl rfl ?_
      refine r_iload_n 40 68 2 rfl rfl rfl rfl ?_
      refine r_gd (fun h10 => ?_)
      refine r_VI 41 71 (st := []) (av := [.inr (.inr (gr m3 a0 4)), .inr (.inr (gr m3 a0 0)), .inl x4, .inl x5]) (av' := [.inr (.inr (gr m3 a0 0)), .inl x4, .inl x5]) (μ' := u_X10_take) (d := 4) rfl rfl mc_X10_take in_X10_take lk_RX11_146 (Nat.le_of_ble_eq_true rfl) rfl rfl (ob_sh h10) rfl (Nat.le_of_ble_eq_true rfl) (fun _ _ h => ct_X10_take (ob_sh h10) h) (fun x11 m12 => ?_)
      refine r_iconst 42 72 (v := 2) rfl rfl (by decide) ?_
      refine r_icmp_ne 43 94 75 rfl rfl rfl (fun h13 => ?_) (fun h13 => ?_)
      · refine r_aload_n 44 76 4 rfl rfl rfl rfl ?_
        refine r_getR 45 79 rfl rfl fl_RX11_40 rfl h0 ?_
        refine r_aload_n 46 80 4 rfl rfl rfl rfl ?_
        refine r_getR 47 83 rfl rfl fl_RX11_9 rfl h0 ?_
        refine r_iload 48 85 1 rfl rfl rfl ?_
        refine r_iload 49 87 0 rfl rfl rfl ?_
        refine r_gd (fun h14 => ?_)
        refine r_VI 50 90 (st := []) (av := [.inr (.inr (gr m12 a0 5)), .inr (.inr (gr m12 a0 0)), .inl x6, .inl x7]) (av' := [.inr (.inr (gr m12 a0 0)), .inl x6, .inl x7]) (μ' := u_X10_take) (d := 4) rfl rfl mc_X10_take in_X10_take lk_RX11_146 (Nat.le_of_ble_eq_true rfl) rfl rfl (ob_sh h14) rfl (Nat.le_of_ble_eq_true rfl) (fun _ _ h => ct_X10_take (ob_sh h14) h) (fun x15 m16 => ?_)
        refine r_iconst 51 91 (v := 2) rfl rfl (by decide) ?_
        refine r_icmp_eq 52 96 94 rfl rfl rfl (fun h17 => ?_) (fun h17 => ?_)
        · refine r_aload_n 55 97 4 rfl rfl rfl rfl ?_
          refine r_getR 56 100 rfl rfl fl_RX11_36 rfl h0 ?_
          refine r_gd (fun h18 => ?_)
          refine r_getR 57 103 rfl rfl fl_RX11_149 rfl (ob_sh h18) ?_
          refine r_iconst 58 104 (v := 0) rfl rfl (by decide) ?_
          refine r_aload_n 59 105 4 rfl rfl rfl rfl ?_
          refine r_getR 60 108 rfl rfl fl_RX11_40 rfl h0 ?_
          refine r_gd (fun h19 => ?_)
          refine r_getR 61 111 rfl rfl fl_RX11_149 rfl (ob_sh h19) ?_
          refine r_iconst 62 112 (v := 0) rfl rfl (by decide) ?_
          refine r_SIo 63 115 (a := 0) (cn := 0) (st := []) (av := [.inr (.inr (gr m16 (gr m16 a0 4) 0)), .inl 0, .inr (.inr (gr m16 (gr m16 a0 5) 0)), .inl 0]) (μ' := u_X10_compare) (d := 2) rfl rfl mc_X10_compare st_X10_compare lk_RX11_153 (Nat.le_of_ble_eq_true rfl) rfl (Nat.le_of_ble_eq_true rfl) (fun _ h => ct_X10_compare h) (fun x20 => ?_)
          exact r_iret 64 rfl rfl rfl
        · refine r_iconst 53 95 (v := 2) rfl rfl (by decide) ?_
          exact r_iret 54 rfl rfl rfl
      · refine r_iconst 53 95 (v := 2) rfl rfl (by decide) ?_
        exact r_iret 54 rfl rfl rfl
    · refine r_iconst 53 95 (v := 2) rfl rfl (by decide) ?_
      exact r_iret 54 rfl rfl rfl
theorem ct_X11_order {t : List Sh} {m : Mi} {a0 : Nat} {a1 : Int32} {m' : Mi} {v : Int32}  (h0 : sh t a0 = some (.inl 11)) (h : f_X11_order t m a0 a1 = some (v, m')) : Ct u_X11_order 5 0 0 [.inr (.inr a0), .inl a1] (t, m) (some (.inl v), (t, m')) :=
  ct_of (by decide) tk_X11_order (Nat.le_of_ble_eq_true rfl) (sm_X11_order t m a0 a1 h0) (by rw [h]; rfl) (Nat.le_refl _) (Nat.le_refl _)
theorem lk_RX11_192 : Cond.methodLink RX11 192 yX6_constraintAt ∈ TB := tbm 846 (by decide +kernel) rfl
theorem fl_RX11_101 : FL RX11 101 6 0 true := ⟨RX6, TX6, 11, rfl, inW6, tyX6_ok, nmX6, by decide, rfl, rfl, rfl, tbm 406 (by decide +kernel) rfl⟩
theorem fl_RX11_249 : FL RX11 249 0 5 false := ⟨RX0, TX0, 8, rfl, inW0, tyX0_ok, nmX0, by decide, rfl, rfl, rfl, tbm 373 (by decide +kernel) rfl⟩
theorem fl_RX11_254 : FL RX11 254 0 6 false := ⟨RX0, TX0, 8, rfl, inW0, tyX0_ok, nmX0, by decide, rfl, rfl, rfl, tbm 376 (by decide +kernel) rfl⟩
theorem lk_RX11_104 : Cond.methodLink RX11 104 yX9_scan ∈ TB := tbm 586 (by decide +kernel) rfl
theorem lk_RX11_136 : Cond.methodLink RX11 136 yX5_take ∈ TB := tbm 850 (by decide +kernel) rfl
theorem fl_RX11_257 : FL RX11 257 0 4 false := ⟨RX0, TX0, 8, rfl, inW0, tyX0_ok, nmX0, by decide, rfl, rfl, rfl, tbm 371 (by decide +kernel) rfl⟩
theorem lk_RX11_260 : Cond.methodLink RX11 260 yX6_releasesWithin ∈ TB := tbm 941 (by decide +kernel) rfl
theorem fl_RX11_264 : FL RX11 264 0 7 false := ⟨RX0, TX0, 8, rfl, inW0, tyX0_ok, nmX0, by decide, rfl, rfl, rfl, tbm 380 (by decide +kernel) rfl⟩
def tb_X11_markReleasesInRanges : Tb := [(0, (.iconst 0, 1)), (1, (.istore_n 2, 1)), (2, (.iload_n 2, 1)), (3, (.aload_n 1, 1)), (4, (.invokevirtual 237, 3)), (7, (.if_icmp .ge 73, 3)), (10, (.aload_n 1, 1)), (11, (.iload_n 2, 1)), (12, (.invokevirtual 192, 3)), (15, (.astore_n 3, 1)), (16, (.aload_n 3, 1)), (17, (.ifnull 57, 3)), (20, (.aload_n 0, 1)), (21, (.getfield 46, 3)), (24, (.aload_n 1, 1)), (25, (.getfield 101, 3)), (28, (.aload_n 3, 1)), (29, (.getfield 249, 3)), (32, (.aload_n 3, 1)), (33, (.getfield 254, 3)), (36, (.invokevirtual 104, 3)), (39, (.aload_n 0, 1)), (40, (.getfield 53, 3)), (43, (.aload_n 1, 1)), (44, (.getfield 101, 3)), (47, (.aload_n 0, 1)), (48, (.getfield 46, 3)), (51, (.aload_n 0, 1)), (52, (.getfield 29, 3)), (55, (.invokevirtual 136, 3)), (58, (.aload_n 3, 1)), (59, (.aload_n 1, 1)), (60, (.aload_n 3, 1)), (61, (.getfield 257, 3)), (64, (.aload_n 0, 1)), (65, (.getfield 29, 3)), (68, (.invokevirtual 260, 3)), (71, (.putfield 264, 3)), (74, (.iinc 2 1, 3)), (77, (.goto (-75), 3)), (80, (.return_, 1))]
def u_X11_markReleasesInRanges : Fx := (yX11_markReleasesInRanges, (cX11_markReleasesInRanges, (4, (none, tb_X11_markReleasesInRanges))))
theorem tk_X11_markReleasesInRanges : ∀ q ∈ u_X11_markReleasesInRanges.2.2.2.2, decode u_X11_markReleasesInRanges.2.1 q.1 = .ok q.2 := by decide +kernel
theorem mc_X11_markReleasesInRanges : MC u_X11_markReleasesInRanges 1 := ⟨tbm 841 (by decide +kernel) rfl, tbm 114 (by decide +kernel) rfl, ⟨by decide, by decide, by decide +kernel⟩, by decide⟩
theorem in_X11_markReleasesInRanges : Cond.instanceMethod u_X11_markReleasesInRanges.1 ∈ TB ∧ Cond.selects u_X11_markReleasesInRanges.1.cls u_X11_markReleasesInRanges.1 u_X11_markReleasesInRanges.1 ∈ TB := ⟨tbm 840 (by decide +kernel) rfl, tbm 30 (by decide +kernel) rfl⟩
def f_X11_markReleasesInRanges_j80 (t : List Sh) (m : Mi) : Option (Mi) :=
  some m
def f_X11_markReleasesInRanges_l2 (t : List Sh) (m : Mi) (a0 : Nat) (a1 : Nat) (a2 : Int32) : Option ((Int32 × Mi) ⊕ ((Mi))) :=
  (if ob t a1 6 = true then
  (f_X6_constraints t m a1).bind fun x2 =>
  if x2 ≤ a2 then
    some (.inr m)
  else
    (f_X6_constraintAt t m a1 a2).bind fun x4 =>
    if x4 = 0 then
      lt (a2 + 1) fun x6 =>
      some (.inl (x6, m))
    else
      (if ob t x4 0 = true then
      (if ob t (gr m a0 6) 9 = true then
      (f_X9_scan t m (gr m a0 6) (gr m a1 0) (gi m x4 5) (gi m x4 6)).bind fun m9 =>
      (if ob t (gr m9 a0 7) 5 = true then
      (f_X5_take t m9 (gr m9 a0 7) (gr m9 a1 0) (gr m9 a0 6) (gr m9 a0 3)).bind fun m11 =>
      (f_X6_releasesWithin t m11 a1 (gi m11 x4 4) (gr m11 a0 3)).bind fun x12 =>
      lt (si m11 x4 7 x12) fun m13 =>
      lt (a2 + 1) fun x14 =>
      some (.inl (x14, m13))
      else none)
      else none)
      else none)
  else none)
def f_X11_markReleasesInRanges_j2 (t : List Sh) (m : Mi) (a0 : Nat) (a1 : Nat) (a2 : Int32) : Option (Mi) :=
  (lp (fun x : Int32 × Mi => f_X11_markReleasesInRanges_l2 t x.2 a0 a1 x.1) FUEL (a2, m)).bind (fun y : Mi => f_X11_markReleasesInRanges_j80 t y)
def f_X11_markReleasesInRanges (t : List Sh) (m : Mi) (a0 : Nat) (a1 : Nat) : Option (Mi) :=
  f_X11_markReleasesInRanges_j2 t m a0 a1 0
set_option maxRecDepth 4000 in
set_option maxHeartbeats 4000000 in
theorem sm_X11_markReleasesInRanges (t : List Sh) (m : Mi) (a0 : Nat) (a1 : Nat) (h0 : sh t a0 = some (.inl 11)) : Sm u_X11_markReleasesInRanges (10, 0, 0, t.length, zs t) (kV t) 0 [(0, .inr (.inr a0)), (1, .inr (.inr a1))] [] (t, m) (f_X11_markReleasesInRanges t m a0 a1) := by
  unfold f_X11_markReleasesInRanges
  refine r_iconst 0 1 (v := 0) rfl rfl (by decide) ?_
  refine r_istore_n 1 2 (L' := [(2, .inl 0), (0, .inr (.inr a0)), (1, .inr (.inr a1))]) rfl rfl rfl (by decide) rfl ?_
  have hj2 : ∀ (m : Mi) (a2 : Int32), Sm u_X11_markReleasesInRanges (10, 0, 0, t.length, zs t) (kV t) 2 [(0, .inr (.inr a0)), (1, .inr (.inr a1)), (2, .inl a2)] [] (t, m) (f_X11_markReleasesInRanges_j2 t m a0 a1 a2) := by
    intro m a2
    unfold f_X11_markReleasesInRanges_j2
    have hj80 : ∀ (m : Mi), Sm u_X11_markReleasesInRanges (10, 0, 0, t.length, zs t) (kV t) 80 [] [] (t, m) (f_X11_markReleasesInRanges_j80 t m) := by
      intro m
      unfold f_X11_markReleasesInRanges_j80
      exact r_vret 40 rfl rfl rfl
    refine r_lp (Lf := fun x : Int32 × Mi => [(0, .inr (.inr a0)), (1, .inr (.inr a1)), (2, .inl (x.1))]) (Mf := fun x : Int32 × Mi => (t, x.2)) (a2, m) ?_ FUEL
    rintro ⟨a2, m⟩ κ2 hc2 he2
    refine r_eq (L' := [(0, .inr (.inr a0)), (1, .inr (.inr a1)), (2, .inl a2)]) (M' := (t, m)) rfl rfl ?_
    refine r_eqr (r' := f_X11_markReleasesInRanges_l2 t m a0 a1 a2) rfl ?_
    unfold f_X11_markReleasesInRanges_l2
    refine r_iload_n 2 3 2 rfl rfl rfl rfl ?_
    refine r_aload_n 3 4 1 rfl rfl rfl rfl ?_
    refine r_gd (fun h1 => ?_)
    refine r_VIo 4 7 (st := [.inl a2]) (av := [.inr (.inr a1)]) (av' := []) (μ' := u_X6_constraints) (d := 1) rfl rfl mc_X6_constraints in_X6_constraints lk_RX11_237 (Nat.le_of_ble_eq_true rfl) rfl rfl (ob_sh h1) rfl (Nat.le_of_ble_eq_true rfl) (fun _ h => ct_X6_constraints (ob_sh h1) h) (fun x2 => ?_)
    refine r_icmp_ge 5 80 10 rfl rfl rfl (fun h3 => ?_) (fun h3 => ?_)
    · refine r_leaf (r2 := (f_X11_markReleasesInRanges_j80 t m : Option (Mi))) (he2 _) ?_
      exact r_sub [] rfl (hj80 m)
    · refine r_aload_n 6 11 1 rfl rfl rfl rfl ?_
      refine r_iload_n 7 12 2 rfl rfl rfl rfl ?_
      refine r_VRo 8 15 (st := []) (av := [.inr (.inr a1), .inl a2]) (av' := [.inl a2]) (μ' := u_X6_constraintAt) (d := 1) rfl rfl mc_X6_constraintAt in_X6_constraintAt lk_RX11_192 (Nat.le_of_ble_eq_true rfl) rfl rfl (ob_sh h1) rfl (Nat.le_of_ble_eq_true rfl) (fun _ h => ct_X6_constraintAt (ob_sh h1) h) (fun x4 => ?_)
      refine r_astore_n 9 16 (L' := [(3, .inr (.inr x4)), (0, .inr (.inr a0)), (1, .inr (.inr a1)), (2, .inl a2)]) rfl rfl rfl (by decide) rfl ?_
      refine r_aload_n 10 17 0 rfl rfl rfl rfl ?_
      refine r_ifnull 11 74 20 rfl rfl rfl (fun h5 => ?_) (fun h5 => ?_)
      · refine r_iinc 38 77 3 (L' := [(2, .inl (a2 + 1)), (3, .inr (.inr x4)), (0, .inr (.inr a0)), (1, .inr (.inr a1))]) rfl rfl rfl (by decide) rfl ?_
        refine r_ltV (fun x6 => ?_)
        refine r_goto 39 2 rfl rfl ?_
        exact r_sub [2, 3, 0] rfl (hc2 (x6, m))
      · refine r_aload_n 12 21 1 rfl rfl rfl rfl ?_
        refine r_getR 13 24 rfl rfl fl_RX11_46 rfl h0 ?_
        refine r_aload_n 14 25 2 rfl rfl rfl rfl ?_
        refine r_getR 15 28 rfl rfl fl_RX11_101 rfl (ob_sh h1) ?_
        refine r_aload_n 16 29 0 rfl rfl rfl rfl ?_
        refine r_gd (fun h7 => ?_)
        refine r_getI 17 32 rfl rfl fl_RX11_249 rfl (ob_sh h7) ?_
        refine r_aload_n 18 33 0 rfl rfl rfl rfl ?_
        refine r_getI 19 36 rfl rfl fl_RX11_254 rfl (ob_sh h7) ?_
        refine r_gd (fun h8 => ?_)
        refine r_VV 20 39 (st := []) (av := [.inr (.inr (gr m a0 6)), .inr (.inr (gr m a1 0)), .inl (gi m x4 5), .inl (gi m x4 6)]) (av' := [.inr (.inr (gr m a1 0)), .inl (gi m x4 5), .inl (gi m x4 6)]) (μ' := u_X9_scan) (d := 9) rfl rfl mc_X9_scan in_X9_scan lk_RX11_104 (Nat.le_of_ble_eq_true rfl) rfl rfl (ob_sh h8) rfl (Nat.le_of_ble_eq_true rfl) (fun _ h => ct_X9_scan (ob_sh h8) h) (fun m9 => ?_)
        refine r_aload_n 21 40 1 rfl rfl rfl rfl ?_
        refine r_getR 22 43 rfl rfl fl_RX11_53 rfl h0 ?_
        refine r_aload_n 23 44 2 rfl rfl rfl rfl ?_
        refine r_getR 24 47 rfl rfl fl_RX11_101 rfl (ob_sh h1) ?_
        refine r_aload_n 25 48 1 rfl rfl rfl rfl ?_
        refine r_getR 26 51 rfl rfl fl_RX11_46 rfl h0 ?_
        refine r_aload_n 27 52 1 rfl rfl rfl rfl ?_
        refine r_getR 28 55 rfl rfl fl_RX11_29 rfl h0 ?_
        refine r_gd (fun h10 => ?_)
        refine r_VV 29 58 (st := []) (av := [.inr (.inr (gr m9 a0 7)), .inr (.inr (gr m9 a1 0)), .inr (.inr (gr m9 a0 6)), .inr (.inr (gr m9 a0 3))]) (av' := [.inr (.inr (gr m9 a1 0)), .inr (.inr (gr m9 a0 6)), .inr (.inr (gr m9 a0 3))]) (μ' := u_X5_take) (d := 6) rfl rfl mc_X5_take in_X5_take lk_RX11_136 (Nat.le_of_ble_eq_true rfl) rfl rfl (ob_sh h10) rfl (Nat.le_of_ble_eq_true rfl) (fun _ h => ct_X5_take (ob_sh h10) h) (fun m11 => ?_)
        refine r_aload_n 30 59 0 rfl rfl rfl rfl ?_
        refine r_aload_n 31 60 2 rfl rfl rfl rfl ?_
        refine r_aload_n 32 61 0 rfl rfl rfl rfl ?_
        refine r_getI 33 64 rfl rfl fl_RX11_257 rfl (ob_sh h7) ?_
        refine r_aload_n 34 65 1 rfl rfl rfl rfl ?_
        refine r_getR 35 68 rfl rfl fl_RX11_29 rfl h0 ?_
        refine r_VIo 36 71 (st := [.inr (.inr x4)]) (av := [.inr (.inr a1), .inl (gi m11 x4 4), .inr (.inr (gr m11 a0 3))]) (av' := [.inl (gi m11 x4 4), .inr (.inr (gr m11 a0 3))]) (μ' := u_X6_releasesWithin) (d := 4) rfl rfl mc_X6_releasesWithin in_X6_releasesWithin lk_RX11_260 (Nat.le_of_ble_eq_true rfl) rfl rfl (ob_sh h1) rfl (Nat.le_of_ble_eq_true rfl) (fun _ h => ct_X6_releasesWithin (ob_sh h1) h) (fun x12 => ?_)
        refine r_putI 37 74 rfl rfl fl_RX11_264 (fun h => by cases h) (Or.inl rfl) (ob_sh h7) ?_
        refine r_ltM (fun m13 => ?_)
        refine r_iinc 38 77 3 (L' := [(2, .inl (a2 + 1)), (3, .inr (.inr x4)), (0, .inr (.inr a0)), (1, .inr (.inr a1))]) rfl rfl rfl (by decide) rfl ?_
        refine r_ltV (fun x14 => ?_)
        refine r_goto 39 2 rfl rfl ?_
        exact r_sub [2, 3, 0] rfl (hc2 (x14, m13))
  exact r_sub [1, 2, 0] rfl (hj2 m 0)
theorem ct_X11_markReleasesInRanges {t : List Sh} {m : Mi} {a0 : Nat} {a1 : Nat} {m' : Mi}  (h0 : sh t a0 = some (.inl 11)) (h : f_X11_markReleasesInRanges t m a0 a1 = some m') : Ct u_X11_markReleasesInRanges 10 0 0 [.inr (.inr a0), .inr (.inr a1)] (t, m) (none, (t, m')) :=
  ct_of (by decide) tk_X11_markReleasesInRanges (Nat.le_of_ble_eq_true rfl) (sm_X11_markReleasesInRanges t m a0 a1 h0) (by rw [h]; rfl) (Nat.le_refl _) (Nat.le_refl _)
theorem lk_RX11_267 : Cond.methodLink RX11 267 yX3_putLink ∈ TB := tbm 1095 (by decide +kernel) rfl
theorem lk_RX11_182 : Cond.methodLink RX11 182 yX3_putRange ∈ TB := tbm 1011 (by decide +kernel) rfl
def tb_X11_putConstraint : Tb := [(0, (.aload_n 0, 1)), (1, (.getfield 46, 3)), (4, (.aload_n 0, 1)), (5, (.getfield 60, 3)), (8, (.getfield 101, 3)), (11, (.aload_n 1, 1)), (12, (.getfield 249, 3)), (15, (.aload_n 1, 1)), (16, (.getfield 254, 3)), (19, (.invokevirtual 104, 3)), (22, (.aload_n 0, 1)), (23, (.getfield 53, 3)), (26, (.aload_n 0, 1)), (27, (.getfield 60, 3)), (30, (.getfield 101, 3)), (33, (.aload_n 0, 1)), (34, (.getfield 46, 3)), (37, (.aload_n 0, 1)), (38, (.getfield 29, 3)), (41, (.invokevirtual 136, 3)), (44, (.aload_n 0, 1)), (45, (.getfield 86, 3)), (48, (.aload_n 0, 1)), (49, (.getfield 60, 3)), (52, (.aload_n 1, 1)), (53, (.invokevirtual 267, 3)), (56, (.aload_n 0, 1)), (57, (.getfield 86, 3)), (60, (.aload_n 0, 1)), (61, (.getfield 29, 3)), (64, (.invokevirtual 182, 3)), (67, (.return_, 1))]
def u_X11_putConstraint : Fx := (yX11_putConstraint, (cX11_putConstraint, (2, (none, tb_X11_putConstraint))))
theorem tk_X11_putConstraint : ∀ q ∈ u_X11_putConstraint.2.2.2.2, decode u_X11_putConstraint.2.1 q.1 = .ok q.2 := by decide +kernel
theorem mc_X11_putConstraint : MC u_X11_putConstraint 1 := ⟨tbm 1094 (by decide +kernel) rfl, tbm 114 (by decide +kernel) rfl, ⟨by decide, by decide, by decide +kernel⟩, by decide⟩
theorem in_X11_putConstraint : Cond.instanceMethod u_X11_putConstraint.1 ∈ TB ∧ Cond.selects u_X11_putConstraint.1.cls u_X11_putConstraint.1 u_X11_putConstraint.1 ∈ TB := ⟨tbm 1093 (by decide +kernel) rfl, tbm 50 (by decide +kernel) rfl⟩
def f_X11_putConstraint (t : List Sh) (m : Mi) (a0 : Nat) (a1 : Nat) : Option (Mi) :=
  (if ob t (gr m a0 8) 6 = true then
  (if ob t a1 0 = true then
  (if ob t (gr m a0 6) 9 = true then
  (f_X9_scan t m (gr m a0 6) (gr m (gr m a0 8) 0) (gi m a1 5) (gi m a1 6)).bind fun m4 =>
  (if ob t (gr m4 a0 8) 6 = true then
  (if ob t (gr m4 a0 7) 5 = true then
  (f_X5_take t m4 (gr m4 a0 7) (gr m4 (gr m4 a0 8) 0) (gr m4 a0 6) (gr m4 a0 3)).bind fun m7 =>
  (if ob t (gr m7 a0 12) 3 = true then
  (f_X3_putLink t m7 (gr m7 a0 12) (gr m7 a0 8) a1).bind fun m9 =>
  (if ob t (gr m9 a0 12) 3 = true then
  (f_X3_putRange t m9 (gr m9 a0 12) (gr m9 a0 3)).bind fun m11 =>
  some m11
  else none)
  else none)
  else none)
  else none)
  else none)
  else none)
  else none)
set_option maxRecDepth 4000 in
set_option maxHeartbeats 4000000 in
theorem sm_X11_putConstraint (t : List Sh) (m : Mi) (a0 : Nat) (a1 : Nat) (h0 : sh t a0 = some (.inl 11)) : Sm u_X11_putConstraint (10, 0, 0, t.length, zs t) (kV t) 0 [(0, .inr (.inr a0)), (1, .inr (.inr a1))] [] (t, m) (f_X11_putConstraint t m a0 a1) := by
  unfold f_X11_putConstraint
  refine r_aload_n 0 1 0 rfl rfl rfl rfl ?_
  refine r_getR 1 4 rfl rfl fl_RX11_46 rfl h0 ?_
  refine r_aload_n 2 5 0 rfl rfl rfl rfl ?_
  refine r_getR 3 8 rfl rfl fl_RX11_60 rfl h0 ?_
  refine r_gd (fun h1 => ?_)
  refine r_getR 4 11 rfl rfl fl_RX11_101 rfl (ob_sh h1) ?_
  refine r_aload_n 5 12 1 rfl rfl rfl rfl ?_
  refine r_gd (fun h2 => ?_)
  refine r_getI 6 15 rfl rfl fl_RX11_249 rfl (ob_sh h2) ?_
  refine r_aload_n 7 16 1 rfl rfl rfl rfl ?_
  refine r_getI 8 19 rfl rfl fl_RX11_254 rfl (ob_sh h2) ?_
  refine r_gd (fun h3 => ?_)
  refine r_VV 9 22 (st := []) (av := [.inr (.inr (gr m a0 6)), .inr (.inr (gr m (gr m a0 8) 0)), .inl (gi m a1 5), .inl (gi m a1 6)]) (av' := [.inr (.inr (gr m (gr m a0 8) 0)), .inl (gi m a1 5), .inl (gi m a1 6)]) (μ' := u_X9_scan) (d := 9) rfl rfl mc_X9_scan in_X9_scan lk_RX11_104 (Nat.le_of_ble_eq_true rfl) rfl rfl (ob_sh h3) rfl (Nat.le_of_ble_eq_true rfl) (fun _ h => ct_X9_scan (ob_sh h3) h) (fun m4 => ?_)
  refine r_aload_n 10 23 0 rfl rfl rfl rfl ?_
  refine r_getR 11 26 rfl rfl fl_RX11_53 rfl h0 ?_
  refine r_aload_n 12 27 0 rfl rfl rfl rfl ?_
  refine r_getR 13 30 rfl rfl fl_RX11_60 rfl h0 ?_
  refine r_gd (fun h5 => ?_)
  refine r_getR 14 33 rfl rfl fl_RX11_101 rfl (ob_sh h5) ?_
  refine r_aload_n 15 34 0 rfl rfl rfl rfl ?_
  refine r_getR 16 37 rfl rfl fl_RX11_46 rfl h0 ?_
  refine r_aload_n 17 38 0 rfl rfl rfl rfl ?_
  refine r_getR 18 41 rfl rfl fl_RX11_29 rfl h0 ?_
  refine r_gd (fun h6 => ?_)
  refine r_VV 19 44 (st := []) (av := [.inr (.inr (gr m4 a0 7)), .inr (.inr (gr m4 (gr m4 a0 8) 0)), .inr (.inr (gr m4 a0 6)), .inr (.inr (gr m4 a0 3))]) (av' := [.inr (.inr (gr m4 (gr m4 a0 8) 0)), .inr (.inr (gr m4 a0 6)), .inr (.inr (gr m4 a0 3))]) (μ' := u_X5_take) (d := 6) rfl rfl mc_X5_take in_X5_take lk_RX11_136 (Nat.le_of_ble_eq_true rfl) rfl rfl (ob_sh h6) rfl (Nat.le_of_ble_eq_true rfl) (fun _ h => ct_X5_take (ob_sh h6) h) (fun m7 => ?_)
  refine r_aload_n 20 45 0 rfl rfl rfl rfl ?_
  refine r_getR 21 48 rfl rfl fl_RX11_86 rfl h0 ?_
  refine r_aload_n 22 49 0 rfl rfl rfl rfl ?_
  refine r_getR 23 52 rfl rfl fl_RX11_60 rfl h0 ?_
  refine r_aload_n 24 53 1 rfl rfl rfl rfl ?_
  refine r_gd (fun h8 => ?_)
  refine r_VV 25 56 (st := []) (av := [.inr (.inr (gr m7 a0 12)), .inr (.inr (gr m7 a0 8)), .inr (.inr a1)]) (av' := [.inr (.inr (gr m7 a0 8)), .inr (.inr a1)]) (μ' := u_X3_putLink) (d := 7) rfl rfl mc_X3_putLink in_X3_putLink lk_RX11_267 (Nat.le_of_ble_eq_true rfl) rfl rfl (ob_sh h8) rfl (Nat.le_of_ble_eq_true rfl) (fun _ h => ct_X3_putLink (ob_sh h8) h) (fun m9 => ?_)
  refine r_aload_n 26 57 0 rfl rfl rfl rfl ?_
  refine r_getR 27 60 rfl rfl fl_RX11_86 rfl h0 ?_
  refine r_aload_n 28 61 0 rfl rfl rfl rfl ?_
  refine r_getR 29 64 rfl rfl fl_RX11_29 rfl h0 ?_
  refine r_gd (fun h10 => ?_)
  refine r_VV 30 67 (st := []) (av := [.inr (.inr (gr m9 a0 12)), .inr (.inr (gr m9 a0 3))]) (av' := [.inr (.inr (gr m9 a0 3))]) (μ' := u_X3_putRange) (d := 9) rfl rfl mc_X3_putRange in_X3_putRange lk_RX11_182 (Nat.le_of_ble_eq_true rfl) rfl rfl (ob_sh h10) rfl (Nat.le_of_ble_eq_true rfl) (fun _ h => ct_X3_putRange (ob_sh h10) h) (fun m11 => ?_)
  exact r_vret 31 rfl rfl rfl
theorem ct_X11_putConstraint {t : List Sh} {m : Mi} {a0 : Nat} {a1 : Nat} {m' : Mi}  (h0 : sh t a0 = some (.inl 11)) (h : f_X11_putConstraint t m a0 a1 = some m') : Ct u_X11_putConstraint 10 0 0 [.inr (.inr a0), .inr (.inr a1)] (t, m) (none, (t, m')) :=
  ct_of (by decide) tk_X11_putConstraint (Nat.le_of_ble_eq_true rfl) (sm_X11_putConstraint t m a0 a1 h0) (by rw [h]; rfl) (Nat.le_refl _) (Nat.le_refl _)
theorem lk_RX11_121 : Cond.methodLink RX11 121 yX5_check ∈ TB := tbm 964 (by decide +kernel) rfl
theorem lk_RX11_125 : Cond.methodLink RX11 125 yX5_stop ∈ TB := tbm 965 (by decide +kernel) rfl
theorem lk_RX11_133 : Cond.methodLink RX11 133 yX9_placeAt ∈ TB := tbm 967 (by decide +kernel) rfl
theorem lk_RX11_129 : Cond.methodLink RX11 129 yX9_kindAt ∈ TB := tbm 966 (by decide +kernel) rfl
def tb_X11_range : Tb := [(0, (.iload_n 1, 1)), (1, (.invokestatic 118, 3)), (4, (.ifCond .eq 11, 3)), (7, (.aload_n 0, 1)), (8, (.iload_n 2, 1)), (9, (.invokevirtual 93, 3)), (12, (.ifCond .ne 5, 3)), (15, (.iconst (-1), 1)), (16, (.ireturn, 1)), (17, (.aload_n 0, 1)), (18, (.iconst 0, 1)), (19, (.putfield 13, 3)), (22, (.aload_n 0, 1)), (23, (.getfield 46, 3)), (26, (.aload_n 0, 1)), (27, (.getfield 9, 3)), (30, (.iconst 0, 1)), (31, (.iload_n 2, 1)), (32, (.invokevirtual 104, 3)), (35, (.aload_n 0, 1)), (36, (.getfield 53, 3)), (39, (.aload_n 0, 1)), (40, (.getfield 46, 3)), (43, (.iconst 0, 1)), (44, (.invokevirtual 121, 3)), (47, (.istore_n 3, 1)), (48, (.aload_n 0, 1)), (49, (.getfield 53, 3)), (52, (.invokevirtual 125, 3)), (55, (.istore 4, 2)), (57, (.iload_n 3, 1)), (58, (.ifCond .ne 17, 3)), (61, (.aload_n 0, 1)), (62, (.getfield 46, 3)), (65, (.iload 4, 2)), (67, (.invokevirtual 129, 3)), (70, (.ifCond .eq 5, 3)), (73, (.iconst 1, 1)), (74, (.istore_n 3, 1)), (75, (.iload_n 3, 1)), (76, (.ifCond .eq 18, 3)), (79, (.iload_n 3, 1)), (80, (.bipush 8, 2)), (82, (.aload_n 0, 1)), (83, (.getfield 46, 3)), (86, (.iload 4, 2)), (88, (.invokevirtual 133, 3)), (91, (.imul, 1)), (92, (.iadd, 1)), (93, (.ireturn, 1)), (94, (.aload_n 0, 1)), (95, (.getfield 53, 3)), (98, (.aload_n 0, 1)), (99, (.getfield 9, 3)), (102, (.aload_n 0, 1)), (103, (.getfield 46, 3)), (106, (.aload_n 0, 1)), (107, (.getfield 19, 3)), (110, (.iload_n 1, 1)), (111, (.aaload, 1)), (112, (.invokevirtual 136, 3)), (115, (.iconst 0, 1)), (116, (.ireturn, 1))]
def u_X11_range : Fx := (yX11_range, (cX11_range, (5, ((some .int), tb_X11_range))))
theorem tk_X11_range : ∀ q ∈ u_X11_range.2.2.2.2, decode u_X11_range.2.1 q.1 = .ok q.2 := by decide +kernel
theorem mc_X11_range : MC u_X11_range 2 := ⟨tbm 960 (by decide +kernel) rfl, tbm 114 (by decide +kernel) rfl, ⟨by decide, by decide, by decide +kernel⟩, by decide⟩
theorem in_X11_range : Cond.instanceMethod u_X11_range.1 ∈ TB ∧ Cond.selects u_X11_range.1.cls u_X11_range.1 u_X11_range.1 ∈ TB := ⟨tbm 958 (by decide +kernel) rfl, tbm 959 (by decide +kernel) rfl⟩
def f_X11_range_j75 (t : List Sh) (m : Mi) (a0 : Nat) (a1 : Int32) (a3 : Int32) (a4 : Int32) : Option (Int32 × Mi) :=
  if a3 = 0 then
    (if ar t (gr m a0 2) (.object RX4) a1 = true then
    (if ob t (gr m a0 7) 5 = true then
    (f_X5_take t m (gr m a0 7) (gr m a0 0) (gr m a0 6) (gr m (gr m a0 2) (ix a1))).bind fun m16 =>
    some (0, m16)
    else none)
    else none)
  else
    (if ob t (gr m a0 6) 9 = true then
    (f_X9_placeAt t m (gr m a0 6) a4).bind fun x18 =>
    some (a3 + (8 * x18), m)
    else none)
def f_X11_range (t : List Sh) (m : Mi) (a0 : Nat) (a1 : Int32) (a2 : Int32) : Option (Int32 × Mi) :=
  (f_X11_isSlot a1).bind fun x1 =>
  if x1 = 0 then
    some ((-1), m)
  else
    (f_X11_isOnTape t m a0 a2).bind fun x3 =>
    if x3 = 0 then
      some ((-1), m)
    else
      lt (si m a0 1 0) fun m5 =>
      (if ob t (gr m5 a0 6) 9 = true then
      (f_X9_scan t m5 (gr m5 a0 6) (gr m5 a0 0) 0 a2).bind fun m7 =>
      (if ob t (gr m7 a0 7) 5 = true then
      bd (f_X5_check t m7 (gr m7 a0 7) (gr m7 a0 6) 0) fun x9 m10 =>
      (if ob t (gr m10 a0 7) 5 = true then
      (f_X5_stop t m10 (gr m10 a0 7)).bind fun x12 =>
      if x9 = 0 then
        (if ob t (gr m10 a0 6) 9 = true then
        (f_X9_kindAt t m10 (gr m10 a0 6) x12).bind fun x21 =>
        if x21 = 0 then
          f_X11_range_j75 t m10 a0 a1 x9 x12
        else
          f_X11_range_j75 t m10 a0 a1 1 x12
        else none)
      else
        f_X11_range_j75 t m10 a0 a1 x9 x12
      else none)
      else none)
      else none)
set_option maxRecDepth 4000 in
set_option maxHeartbeats 4000000 in
theorem sm_X11_range (t : List Sh) (m : Mi) (a0 : Nat) (a1 : Int32) (a2 : Int32) (h0 : sh t a0 = some (.inl 11)) : Sm u_X11_range (10, 0, 0, t.length, zs t) (kI t) 0 [(0, .inr (.inr a0)), (1, .inl a1), (2, .inl a2)] [] (t, m) (f_X11_range t m a0 a1 a2) := by
  unfold f_X11_range
  refine r_iload_n 0 1 1 rfl rfl rfl rfl ?_
  refine r_SIo 1 4 (a := 0) (cn := 0) (st := []) (av := [.inl a1]) (μ' := u_X11_isSlot) (d := 1) rfl rfl mc_X11_isSlot st_X11_isSlot lk_RX11_118 (Nat.le_of_ble_eq_true rfl) rfl (Nat.le_of_ble_eq_true rfl) (fun _ h => ct_X11_isSlot h) (fun x1 => ?_)
  refine r_if_eq 2 15 7 rfl rfl rfl (fun h2 => ?_) (fun h2 => ?_)
  · refine r_iconst 7 16 (v := (-1)) rfl rfl (by decide) ?_
    exact r_iret 8 rfl rfl rfl
  · refine r_aload_n 3 8 0 rfl rfl rfl rfl ?_
    refine r_iload_n 4 9 2 rfl rfl rfl rfl ?_
    refine r_VIo 5 12 (st := []) (av := [.inr (.inr a0), .inl a2]) (av' := [.inl a2]) (μ' := u_X11_isOnTape) (d := 1) rfl rfl mc_X11_isOnTape in_X11_isOnTape lk_RX11_93 (Nat.le_of_ble_eq_true rfl) rfl rfl h0 rfl (Nat.le_of_ble_eq_true rfl) (fun _ h => ct_X11_isOnTape h0 h) (fun x3 => ?_)
    refine r_if_ne 6 17 15 rfl rfl rfl (fun h4 => ?_) (fun h4 => ?_)
    · refine r_iconst 7 16 (v := (-1)) rfl rfl (by decide) ?_
      exact r_iret 8 rfl rfl rfl
    · refine r_aload_n 9 18 0 rfl rfl rfl rfl ?_
      refine r_iconst 10 19 (v := 0) rfl rfl (by decide) ?_
      refine r_putI 11 22 rfl rfl fl_RX11_13 (fun h => by cases h) (Or.inl rfl) h0 ?_
      refine r_ltM (fun m5 => ?_)
      refine r_aload_n 12 23 0 rfl rfl rfl rfl ?_
      refine r_getR 13 26 rfl rfl fl_RX11_46 rfl h0 ?_
      refine r_aload_n 14 27 0 rfl rfl rfl rfl ?_
      refine r_getR 15 30 rfl rfl fl_RX11_9 rfl h0 ?_
      refine r_iconst 16 31 (v := 0) rfl rfl (by decide) ?_
      refine r_iload_n 17 32 2 rfl rfl rfl rfl ?_
      refine r_gd (fun h6 => ?_)
      refine r_VV 18 35 (st := []) (av := [.inr (.inr (gr m5 a0 6)), .inr (.inr (gr m5 a0 0)), .inl 0, .inl a2]) (av' := [.inr (.inr (gr m5 a0 0)), .inl 0, .inl a2]) (μ' := u_X9_scan) (d := 9) rfl rfl mc_X9_scan in_X9_scan lk_RX11_104 (Nat.le_of_ble_eq_true rfl) rfl rfl (ob_sh h6) rfl (Nat.le_of_ble_eq_true rfl) (fun _ h => ct_X9_scan (ob_sh h6) h) (fun m7 => ?_)
      refine r_aload_n 19 36 0 rfl rfl rfl rfl ?_
      refine r_getR 20 39 rfl rfl fl_RX11_53 rfl h0 ?_
      refine r_aload_n 21 40 0 rfl rfl rfl rfl ?_
      refine r_getR 22 43 rfl rfl fl_RX11_46 rfl h0 ?_
      refine r_iconst 23 44 (v := 0) rfl rfl (by decide) ?_
      refine r_gd (fun h8 => ?_)
      refine r_VI 24 47 (st := []) (av := [.inr (.inr (gr m7 a0 7)), .inr (.inr (gr m7 a0 6)), .inl 0]) (av' := [.inr (.inr (gr m7 a0 6)), .inl 0]) (μ' := u_X5_check) (d := 2) rfl rfl mc_X5_check in_X5_check lk_RX11_121 (Nat.le_of_ble_eq_true rfl) rfl rfl (ob_sh h8) rfl (Nat.le_of_ble_eq_true rfl) (fun _ _ h => ct_X5_check (ob_sh h8) h) (fun x9 m10 => ?_)
      refine r_istore_n 25 48 (L' := [(3, .inl x9), (0, .inr (.inr a0)), (1, .inl a1), (2, .inl a2)]) rfl rfl rfl (by decide) rfl ?_
      refine r_aload_n 26 49 1 rfl rfl rfl rfl ?_
      refine r_getR 27 52 rfl rfl fl_RX11_53 rfl h0 ?_
      refine r_gd (fun h11 => ?_)
      refine r_VIo 28 55 (st := []) (av := [.inr (.inr (gr m10 a0 7))]) (av' := []) (μ' := u_X5_stop) (d := 1) rfl rfl mc_X5_stop in_X5_stop lk_RX11_125 (Nat.le_of_ble_eq_true rfl) rfl rfl (ob_sh h11) rfl (Nat.le_of_ble_eq_true rfl) (fun _ h => ct_X5_stop (ob_sh h11) h) (fun x12 => ?_)
      refine r_istore 29 57 (L' := [(4, .inl x12), (3, .inl x9), (0, .inr (.inr a0)), (1, .inl a1), (2, .inl a2)]) rfl rfl (by decide) rfl ?_
      refine r_iload_n 30 58 1 rfl rfl rfl rfl ?_
      have hj75 : ∀ (m : Mi) (a3 : Int32) (a4 : Int32), Sm u_X11_range (10, 0, 0, t.length, zs t) (kI t) 75 [(0, .inr (.inr a0)), (1, .inl a1), (3, .inl a3), (4, .inl a4)] [] (t, m) (f_X11_range_j75 t m a0 a1 a3 a4) := by
        intro m a3 a4
        unfold f_X11_range_j75
        refine r_iload_n 39 76 2 rfl rfl rfl rfl ?_
        refine r_if_eq 40 94 79 rfl rfl rfl (fun h13 => ?_) (fun h13 => ?_)
        · refine r_aload_n 50 95 0 rfl rfl rfl rfl ?_
          refine r_getR 51 98 rfl rfl fl_RX11_53 rfl h0 ?_
          refine r_aload_n 52 99 0 rfl rfl rfl rfl ?_
          refine r_getR 53 102 rfl rfl fl_RX11_9 rfl h0 ?_
          refine r_aload_n 54 103 0 rfl rfl rfl rfl ?_
          refine r_getR 55 106 rfl rfl fl_RX11_46 rfl h0 ?_
          refine r_aload_n 56 107 0 rfl rfl rfl rfl ?_
          refine r_getR 57 110 rfl rfl fl_RX11_19 rfl h0 ?_
          refine r_iload_n 58 111 1 rfl rfl rfl rfl ?_
          refine r_gd (fun h14 => ?_)
          refine r_aald 59 112 4 rfl rfl (fun _ => rfl) h14 ?_
          refine r_gd (fun h15 => ?_)
          refine r_VV 60 115 (st := []) (av := [.inr (.inr (gr m a0 7)), .inr (.inr (gr m a0 0)), .inr (.inr (gr m a0 6)), .inr (.inr (gr m (gr m a0 2) (ix a1)))]) (av' := [.inr (.inr (gr m a0 0)), .inr (.inr (gr m a0 6)), .inr (.inr (gr m (gr m a0 2) (ix a1)))]) (μ' := u_X5_take) (d := 6) rfl rfl mc_X5_take in_X5_take lk_RX11_136 (Nat.le_of_ble_eq_true rfl) rfl rfl (ob_sh h15) rfl (Nat.le_of_ble_eq_true rfl) (fun _ h => ct_X5_take (ob_sh h15) h) (fun m16 => ?_)
          refine r_iconst 61 116 (v := 0) rfl rfl (by decide) ?_
          exact r_iret 62 rfl rfl rfl
        · refine r_iload_n 41 80 2 rfl rfl rfl rfl ?_
          refine r_bipush 42 82 (v := 8) rfl rfl (by decide) ?_
          refine r_aload_n 43 83 0 rfl rfl rfl rfl ?_
          refine r_getR 44 86 rfl rfl fl_RX11_46 rfl h0 ?_
          refine r_iload 45 88 3 rfl rfl rfl ?_
          refine r_gd (fun h17 => ?_)
          refine r_VIo 46 91 (st := [.inl 8, .inl a3]) (av := [.inr (.inr (gr m a0 6)), .inl a4]) (av' := [.inl a4]) (μ' := u_X9_placeAt) (d := 1) rfl rfl mc_X9_placeAt in_X9_placeAt lk_RX11_133 (Nat.le_of_ble_eq_true rfl) rfl rfl (ob_sh h17) rfl (Nat.le_of_ble_eq_true rfl) (fun _ h => ct_X9_placeAt (ob_sh h17) h) (fun x18 => ?_)
          refine r_imul 47 92 rfl rfl ?_
          refine r_iadd 48 93 rfl rfl ?_
          exact r_iret 49 rfl rfl rfl
      refine r_if_ne 31 75 61 rfl rfl rfl (fun h19 => ?_) (fun h19 => ?_)
      · refine r_aload_n 32 62 2 rfl rfl rfl rfl ?_
        refine r_getR 33 65 rfl rfl fl_RX11_46 rfl h0 ?_
        refine r_iload 34 67 0 rfl rfl rfl ?_
        refine r_gd (fun h20 => ?_)
        refine r_VIo 35 70 (st := []) (av := [.inr (.inr (gr m10 a0 6)), .inl x12]) (av' := [.inl x12]) (μ' := u_X9_kindAt) (d := 1) rfl rfl mc_X9_kindAt in_X9_kindAt lk_RX11_129 (Nat.le_of_ble_eq_true rfl) rfl rfl (ob_sh h20) rfl (Nat.le_of_ble_eq_true rfl) (fun _ h => ct_X9_kindAt (ob_sh h20) h) (fun x21 => ?_)
        refine r_if_eq 36 75 73 rfl rfl rfl (fun h22 => ?_) (fun h22 => ?_)
        · exact r_sub [2, 3, 1, 0] rfl (hj75 m10 x9 x12)
        · refine r_iconst 37 74 (v := 1) rfl rfl (by decide) ?_
          refine r_istore_n 38 75 (L' := [(3, .inl 1), (4, .inl x12), (0, .inr (.inr a0)), (1, .inl a1), (2, .inl a2)]) rfl rfl rfl (by decide) rfl ?_
          exact r_sub [2, 3, 0, 1] rfl (hj75 m10 1 x12)
      · exact r_sub [2, 3, 1, 0] rfl (hj75 m10 x9 x12)
theorem ct_X11_range {t : List Sh} {m : Mi} {a0 : Nat} {a1 : Int32} {a2 : Int32} {m' : Mi} {v : Int32}  (h0 : sh t a0 = some (.inl 11)) (h : f_X11_range t m a0 a1 a2 = some (v, m')) : Ct u_X11_range 10 0 0 [.inr (.inr a0), .inl a1, .inl a2] (t, m) (some (.inl v), (t, m')) :=
  ct_of (by decide) tk_X11_range (Nat.le_of_ble_eq_true rfl) (sm_X11_range t m a0 a1 a2 h0) (by rw [h]; rfl) (Nat.le_refl _) (Nat.le_refl _)
theorem lk_RX11_97 : Cond.methodLink RX11 97 yX6_setText ∈ TB := tbm 579 (by decide +kernel) rfl
theorem lk_RX11_108 : Cond.methodLink RX11 108 yX6_take ∈ TB := tbm 727 (by decide +kernel) rfl
theorem lk_RX11_112 : Cond.methodLink RX11 112 yX11_markReleasesInRanges ∈ TB := tbm 838 (by decide +kernel) rfl
theorem lk_RX11_115 : Cond.methodLink RX11 115 yX1_forget ∈ TB := tbm 953 (by decide +kernel) rfl
def tb_X11_read : Tb := [(0, (.aload_n 0, 1)), (1, (.iload_n 1, 1)), (2, (.invokevirtual 93, 3)), (5, (.ifCond .ne 5, 3)), (8, (.iconst (-1), 1)), (9, (.ireturn, 1)), (10, (.aload_n 0, 1)), (11, (.iconst 0, 1)), (12, (.putfield 13, 3)), (15, (.aload_n 0, 1)), (16, (.getfield 64, 3)), (19, (.aload_n 0, 1)), (20, (.getfield 9, 3)), (23, (.iload_n 1, 1)), (24, (.invokevirtual 97, 3)), (27, (.aload_n 0, 1)), (28, (.getfield 46, 3)), (31, (.aload_n 0, 1)), (32, (.getfield 64, 3)), (35, (.getfield 101, 3)), (38, (.iconst 0, 1)), (39, (.iload_n 1, 1)), (40, (.invokevirtual 104, 3)), (43, (.aload_n 0, 1)), (44, (.getfield 64, 3)), (47, (.aload_n 0, 1)), (48, (.getfield 46, 3)), (51, (.aload_n 0, 1)), (52, (.getfield 53, 3)), (55, (.invokevirtual 108, 3)), (58, (.istore_n 2, 1)), (59, (.iload_n 2, 1)), (60, (.ifCond .eq 5, 3)), (63, (.iload_n 2, 1)), (64, (.ireturn, 1)), (65, (.aload_n 0, 1)), (66, (.aload_n 0, 1)), (67, (.getfield 64, 3)), (70, (.invokevirtual 112, 3)), (73, (.aload_n 0, 1)), (74, (.getfield 60, 3)), (77, (.astore_n 3, 1)), (78, (.aload_n 0, 1)), (79, (.aload_n 0, 1)), (80, (.getfield 64, 3)), (83, (.putfield 60, 3)), (86, (.aload_n 0, 1)), (87, (.aload_n 3, 1)), (88, (.putfield 64, 3)), (91, (.aload_n 0, 1)), (92, (.getfield 79, 3)), (95, (.invokevirtual 115, 3)), (98, (.iconst 0, 1)), (99, (.ireturn, 1))]
def u_X11_read : Fx := (yX11_read, (cX11_read, (4, ((some .int), tb_X11_read))))
theorem tk_X11_read : ∀ q ∈ u_X11_read.2.2.2.2, decode u_X11_read.2.1 q.1 = .ok q.2 := by decide +kernel
theorem mc_X11_read : MC u_X11_read 1 := ⟨tbm 574 (by decide +kernel) rfl, tbm 114 (by decide +kernel) rfl, ⟨by decide, by decide, by decide +kernel⟩, by decide⟩
theorem in_X11_read : Cond.instanceMethod u_X11_read.1 ∈ TB ∧ Cond.selects u_X11_read.1.cls u_X11_read.1 u_X11_read.1 ∈ TB := ⟨tbm 572 (by decide +kernel) rfl, tbm 573 (by decide +kernel) rfl⟩
def f_X11_read (t : List Sh) (m : Mi) (a0 : Nat) (a1 : Int32) : Option (Int32 × Mi) :=
  (f_X11_isOnTape t m a0 a1).bind fun x1 =>
  if x1 = 0 then
    some ((-1), m)
  else
    lt (si m a0 1 0) fun m3 =>
    (if ob t (gr m3 a0 9) 6 = true then
    (f_X6_setText t m3 (gr m3 a0 9) (gr m3 a0 0) a1).bind fun m5 =>
    (if ob t (gr m5 a0 9) 6 = true then
    (if ob t (gr m5 a0 6) 9 = true then
    (f_X9_scan t m5 (gr m5 a0 6) (gr m5 (gr m5 a0 9) 0) 0 a1).bind fun m8 =>
    (if ob t (gr m8 a0 9) 6 = true then
    bd (f_X6_take t m8 (gr m8 a0 9) (gr m8 a0 6) (gr m8 a0 7)) fun x10 m11 =>
    if x10 = 0 then
      (f_X11_markReleasesInRanges t m11 a0 (gr m11 a0 9)).bind fun m13 =>
      lt (gr m13 a0 8) fun x14 =>
      lt (sr m13 a0 8 (gr m13 a0 9)) fun m15 =>
      lt (sr m15 a0 9 x14) fun m16 =>
      (if ob t (gr m16 a0 11) 1 = true then
      (f_X1_forget t m16 (gr m16 a0 11)).bind fun m18 =>
      some (0, m18)
      else none)
    else
      some (x10, m11)
    else none)
    else none)
    else none)
    else none)
set_option maxRecDepth 4000 in
set_option maxHeartbeats 4000000 in
theorem sm_X11_read (t : List Sh) (m : Mi) (a0 : Nat) (a1 : Int32) (h0 : sh t a0 = some (.inl 11)) : Sm u_X11_read (11, 0, 0, t.length, zs t) (kI t) 0 [(0, .inr (.inr a0)), (1, .inl a1)] [] (t, m) (f_X11_read t m a0 a1) := by
  unfold f_X11_read
  refine r_aload_n 0 1 0 rfl rfl rfl rfl ?_
  refine r_iload_n 1 2 1 rfl rfl rfl rfl ?_
  refine r_VIo 2 5 (st := []) (av := [.inr (.inr a0), .inl a1]) (av' := [.inl a1]) (μ' := u_X11_isOnTape) (d := 1) rfl rfl mc_X11_isOnTape in_X11_isOnTape lk_RX11_93 (Nat.le_of_ble_eq_true rfl) rfl rfl h0 rfl (Nat.le_of_ble_eq_true rfl) (fun _ h => ct_X11_isOnTape h0 h) (fun x1 => ?_)
  refine r_if_ne 3 10 8 rfl rfl rfl (fun h2 => ?_) (fun h2 => ?_)
  · refine r_iconst 4 9 (v := (-1)) rfl rfl (by decide) ?_
    exact r_iret 5 rfl rfl rfl
  · refine r_aload_n 6 11 0 rfl rfl rfl rfl ?_
    refine r_iconst 7 12 (v := 0) rfl rfl (by decide) ?_
    refine r_putI 8 15 rfl rfl fl_RX11_13 (fun h => by cases h) (Or.inl rfl) h0 ?_
    refine r_ltM (fun m3 => ?_)
    refine r_aload_n 9 16 0 rfl rfl rfl rfl ?_
    refine r_getR 10 19 rfl rfl fl_RX11_64 rfl h0 ?_
    refine r_aload_n 11 20 0 rfl rfl rfl rfl ?_
    refine r_getR 12 23 rfl rfl fl_RX11_9 rfl h0 ?_
    refine r_iload_n 13 24 1 rfl rfl rfl rfl ?_
    refine r_gd (fun h4 => ?_)
    refine r_VV 14 27 (st := []) (av := [.inr (.inr (gr m3 a0 9)), .inr (.inr (gr m3 a0 0)), .inl a1]) (av' := [.inr (.inr (gr m3 a0 0)), .inl a1]) (μ' := u_X6_setText) (d := 1) rfl rfl mc_X6_setText in_X6_setText lk_RX11_97 (Nat.le_of_ble_eq_true rfl) rfl rfl (ob_sh h4) rfl (Nat.le_of_ble_eq_true rfl) (fun _ h => ct_X6_setText (ob_sh h4) h) (fun m5 => ?_)
    refine r_aload_n 15 28 0 rfl rfl rfl rfl ?_
    refine r_getR 16 31 rfl rfl fl_RX11_46 rfl h0 ?_
    refine r_aload_n 17 32 0 rfl rfl rfl rfl ?_
    refine r_getR 18 35 rfl rfl fl_RX11_64 rfl h0 ?_
    refine r_gd (fun h6 => ?_)
    refine r_getR 19 38 rfl rfl fl_RX11_101 rfl (ob_sh h6) ?_
    refine r_iconst 20 39 (v := 0) rfl rfl (by decide) ?_
    refine r_iload_n 21 40 1 rfl rfl rfl rfl ?_
    refine r_gd (fun h7 => ?_)
    refine r_VV 22 43 (st := []) (av := [.inr (.inr (gr m5 a0 6)), .inr (.inr (gr m5 (gr m5 a0 9) 0)), .inl 0, .inl a1]) (av' := [.inr (.inr (gr m5 (gr m5 a0 9) 0)), .inl 0, .inl a1]) (μ' := u_X9_scan) (d := 9) rfl rfl mc_X9_scan in_X9_scan lk_RX11_104 (Nat.le_of_ble_eq_true rfl) rfl rfl (ob_sh h7) rfl (Nat.le_of_ble_eq_true rfl) (fun _ h => ct_X9_scan (ob_sh h7) h) (fun m8 => ?_)
    refine r_aload_n 23 44 0 rfl rfl rfl rfl ?_
    refine r_getR 24 47 rfl rfl fl_RX11_64 rfl h0 ?_
    refine r_aload_n 25 48 0 rfl rfl rfl rfl ?_
    refine r_getR 26 51 rfl rfl fl_RX11_46 rfl h0 ?_
    refine r_aload_n 27 52 0 rfl rfl rfl rfl ?_
    refine r_getR 28 55 rfl rfl fl_RX11_53 rfl h0 ?_
    refine r_gd (fun h9 => ?_)
    refine r_VI 29 58 (st := []) (av := [.inr (.inr (gr m8 a0 9)), .inr (.inr (gr m8 a0 6)), .inr (.inr (gr m8 a0 7))]) (av' := [.inr (.inr (gr m8 a0 6)), .inr (.inr (gr m8 a0 7))]) (μ' := u_X6_take) (d := 7) rfl rfl mc_X6_take in_X6_take lk_RX11_108 (Nat.le_of_ble_eq_true rfl) rfl rfl (ob_sh h9) rfl (Nat.le_of_ble_eq_true rfl) (fun _ _ h => ct_X6_take (ob_sh h9) h) (fun x10 m11 => ?_)
    refine r_istore_n 30 59 (L' := [(2, .inl x10), (0, .inr (.inr a0)), (1, .inl a1)]) rfl rfl rfl (by decide) rfl ?_
    refine r_iload_n 31 60 0 rfl rfl rfl rfl ?_
    refine r_if_eq 32 65 63 rfl rfl rfl (fun h12 => ?_) (fun h12 => ?_)
    · refine r_aload_n 35 66 1 rfl rfl rfl rfl ?_
      refine r_aload_n 36 67 1 rfl rfl rfl rfl ?_
      refine r_getR 37 70 rfl rfl fl_RX11_64 rfl h0 ?_
      refine r_VV 38 73 (st := []) (av := [.inr (.inr a0), .inr (.inr (gr m11 a0 9))]) (av' := [.inr (.inr (gr m11 a0 9))]) (μ' := u_X11_markReleasesInRanges) (d := 10) rfl rfl mc_X11_markReleasesInRanges in_X11_markReleasesInRanges lk_RX11_112 (Nat.le_of_ble_eq_true rfl) rfl rfl h0 rfl (Nat.le_of_ble_eq_true rfl) (fun _ h => ct_X11_markReleasesInRanges h0 h) (fun m13 => ?_)
      refine r_aload_n 39 74 1 rfl rfl rfl rfl ?_
      refine r_getR 40 77 rfl rfl fl_RX11_60 rfl h0 ?_
      refine r_ltR (fun x14 => ?_)
      refine r_astore_n 41 78 (L' := [(3, .inr (.inr x14)), (2, .inl x10), (0, .inr (.inr a0)), (1, .inl a1)]) rfl rfl rfl (by decide) rfl ?_
      refine r_aload_n 42 79 2 rfl rfl rfl rfl ?_
      refine r_aload_n 43 80 2 rfl rfl rfl rfl ?_
      refine r_getR 44 83 rfl rfl fl_RX11_64 rfl h0 ?_
      refine r_putR 45 86 rfl rfl fl_RX11_60 (fun h => by cases h) rfl h0 ?_
      refine r_ltM (fun m15 => ?_)
      refine r_aload_n 46 87 2 rfl rfl rfl rfl ?_
      refine r_aload_n 47 88 0 rfl rfl rfl rfl ?_
      refine r_putR 48 91 rfl rfl fl_RX11_64 (fun h => by cases h) rfl h0 ?_
      refine r_ltM (fun m16 => ?_)
      refine r_aload_n 49 92 2 rfl rfl rfl rfl ?_
      refine r_getR 50 95 rfl rfl fl_RX11_79 rfl h0 ?_
      refine r_gd (fun h17 => ?_)
      refine r_VV 51 98 (st := []) (av := [.inr (.inr (gr m16 a0 11))]) (av' := []) (μ' := u_X1_forget) (d := 1) rfl rfl mc_X1_forget in_X1_forget lk_RX11_115 (Nat.le_of_ble_eq_true rfl) rfl rfl (ob_sh h17) rfl (Nat.le_of_ble_eq_true rfl) (fun _ h => ct_X1_forget (ob_sh h17) h) (fun m18 => ?_)
      refine r_iconst 52 99 (v := 0) rfl rfl (by decide) ?_
      exact r_iret 53 rfl rfl rfl
    · refine r_iload_n 33 64 0 rfl rfl rfl rfl ?_
      exact r_iret 34 rfl rfl rfl
theorem ct_X11_read {t : List Sh} {m : Mi} {a0 : Nat} {a1 : Int32} {m' : Mi} {v : Int32}  (h0 : sh t a0 = some (.inl 11)) (h : f_X11_read t m a0 a1 = some (v, m')) : Ct u_X11_read 11 0 0 [.inr (.inr a0), .inl a1] (t, m) (some (.inl v), (t, m')) :=
  ct_of (by decide) tk_X11_read (Nat.le_of_ble_eq_true rfl) (sm_X11_read t m a0 a1 h0) (by rw [h]; rfl) (Nat.le_refl _) (Nat.le_refl _)
theorem lk_RX11_179 : Cond.methodLink RX11 179 yX3_clear ∈ TB := tbm 1007 (by decide +kernel) rfl
theorem lk_RX11_196 : Cond.methodLink RX11 196 yX11_putConstraint ∈ TB := tbm 1091 (by decide +kernel) rfl
theorem lk_RX11_185 : Cond.methodLink RX11 185 yX3_length ∈ TB := tbm 1076 (by decide +kernel) rfl
theorem lk_RX11_188 : Cond.methodLink RX11 188 yX3_putRelease ∈ TB := tbm 1080 (by decide +kernel) rfl
def tb_X11_write : Tb := [(0, (.iload_n 1, 1)), (1, (.ifCond .ne 38, 3)), (4, (.iload_n 2, 1)), (5, (.invokestatic 118, 3)), (8, (.ifCond .eq 31, 3)), (11, (.aload_n 0, 1)), (12, (.getfield 86, 3)), (15, (.invokevirtual 179, 3)), (18, (.aload_n 0, 1)), (19, (.getfield 86, 3)), (22, (.aload_n 0, 1)), (23, (.getfield 19, 3)), (26, (.iload_n 2, 1)), (27, (.aaload, 1)), (28, (.invokevirtual 182, 3)), (31, (.aload_n 0, 1)), (32, (.getfield 86, 3)), (35, (.invokevirtual 185, 3)), (38, (.ireturn, 1)), (39, (.iload_n 1, 1)), (40, (.iconst 1, 1)), (41, (.if_icmp .ne 41, 3)), (44, (.aload_n 0, 1)), (45, (.getfield 60, 3)), (48, (.iload_n 2, 1)), (49, (.invokevirtual 168, 3)), (52, (.ifnull 30, 3)), (55, (.aload_n 0, 1)), (56, (.getfield 86, 3)), (59, (.invokevirtual 179, 3)), (62, (.aload_n 0, 1)), (63, (.getfield 86, 3)), (66, (.aload_n 0, 1)), (67, (.getfield 60, 3)), (70, (.iload_n 2, 1)), (71, (.invokevirtual 188, 3)), (74, (.aload_n 0, 1)), (75, (.getfield 86, 3)), (78, (.invokevirtual 185, 3)), (81, (.ireturn, 1)), (82, (.aload_n 0, 1)), (83, (.getfield 60, 3)), (86, (.iload_n 2, 1)), (87, (.invokevirtual 192, 3)), (90, (.astore_n 3, 1)), (91, (.iload_n 1, 1)), (92, (.iconst 2, 1)), (93, (.if_icmp .ne 27, 3)), (96, (.aload_n 3, 1)), (97, (.ifnull 23, 3)), (100, (.aload_n 0, 1)), (101, (.getfield 86, 3)), (104, (.invokevirtual 179, 3)), (107, (.aload_n 0, 1)), (108, (.aload_n 3, 1)), (109, (.invokevirtual 196, 3)), (112, (.aload_n 0, 1)), (113, (.getfield 86, 3)), (116, (.invokevirtual 185, 3)), (119, (.ireturn, 1)), (120, (.iconst (-1), 1)), (121, (.ireturn, 1))]
def u_X11_write : Fx := (yX11_write, (cX11_write, (4, ((some .int), tb_X11_write))))
theorem tk_X11_write : ∀ q ∈ u_X11_write.2.2.2.2, decode u_X11_write.2.1 q.1 = .ok q.2 := by decide +kernel
theorem mc_X11_write : MC u_X11_write 2 := ⟨tbm 1006 (by decide +kernel) rfl, tbm 114 (by decide +kernel) rfl, ⟨by decide, by decide, by decide +kernel⟩, by decide⟩
theorem in_X11_write : Cond.instanceMethod u_X11_write.1 ∈ TB ∧ Cond.selects u_X11_write.1.cls u_X11_write.1 u_X11_write.1 ∈ TB := ⟨tbm 1004 (by decide +kernel) rfl, tbm 1005 (by decide +kernel) rfl⟩
def f_X11_write_j82 (t : List Sh) (m : Mi) (a0 : Nat) (a1 : Int32) (a2 : Int32) : Option (Int32 × Mi) :=
  (if ob t (gr m a0 8) 6 = true then
  (f_X6_constraintAt t m (gr m a0 8) a2).bind fun x2 =>
  if a1 = 2 then
    if x2 = 0 then
      some ((-1), m)
    else
      (if ob t (gr m a0 12) 3 = true then
      (f_X3_clear t m (gr m a0 12)).bind fun m6 =>
      (f_X11_putConstraint t m6 a0 x2).bind fun m7 =>
      (if ob t (gr m7 a0 12) 3 = true then
      (f_X3_length t m7 (gr m7 a0 12)).bind fun x9 =>
      some (x9, m7)
      else none)
      else none)
  else
    some ((-1), m)
  else none)
def f_X11_write_j39 (t : List Sh) (m : Mi) (a0 : Nat) (a1 : Int32) (a2 : Int32) : Option (Int32 × Mi) :=
  if a1 = 1 then
    (if ob t (gr m a0 8) 6 = true then
    (f_X6_releaseAt t m (gr m a0 8) a2).bind fun x12 =>
    if x12 = 0 then
      f_X11_write_j82 t m a0 a1 a2
    else
      (if ob t (gr m a0 12) 3 = true then
      (f_X3_clear t m (gr m a0 12)).bind fun m15 =>
      (if ob t (gr m15 a0 12) 3 = true then
      (f_X3_putRelease t m15 (gr m15 a0 12) (gr m15 a0 8) a2).bind fun m17 =>
      (if ob t (gr m17 a0 12) 3 = true then
      (f_X3_length t m17 (gr m17 a0 12)).bind fun x19 =>
      some (x19, m17)
      else none)
      else none)
      else none)
    else none)
  else
    f_X11_write_j82 t m a0 a1 a2
def f_X11_write (t : List Sh) (m : Mi) (a0 : Nat) (a1 : Int32) (a2 : Int32) : Option (Int32 × Mi) :=
  if a1 = 0 then
    (f_X11_isSlot a2).bind fun x21 =>
    if x21 = 0 then
      f_X11_write_j39 t m a0 a1 a2
    else
      (if ob t (gr m a0 12) 3 = true then
      (f_X3_clear t m (gr m a0 12)).bind fun m24 =>
      (if ar t (gr m24 a0 2) (.object RX4) a2 = true then
      (if ob t (gr m24 a0 12) 3 = true then
      (f_X3_putRange t m24 (gr m24 a0 12) (gr m24 (gr m24 a0 2) (ix a2))).bind fun m27 =>
      (if ob t (gr m27 a0 12) 3 = true then
      (f_X3_length t m27 (gr m27 a0 12)).bind fun x29 =>
      some (x29, m27)
      else none)
      else none)
      else none)
      else none)
  else
    f_X11_write_j39 t m a0 a1 a2
set_option maxRecDepth 4000 in
set_option maxHeartbeats 4000000 in
theorem sm_X11_write (t : List Sh) (m : Mi) (a0 : Nat) (a1 : Int32) (a2 : Int32) (h0 : sh t a0 = some (.inl 11)) : Sm u_X11_write (11, 0, 0, t.length, zs t) (kI t) 0 [(0, .inr (.inr a0)), (1, .inl a1), (2, .inl a2)] [] (t, m) (f_X11_write t m a0 a1 a2) := by
  unfold f_X11_write
  refine r_iload_n 0 1 1 rfl rfl rfl rfl ?_
  have hj39 : ∀ (m : Mi), Sm u_X11_write (11, 0, 0, t.length, zs t) (kI t) 39 [(0, .inr (.inr a0)), (1, .inl a1), (2, .inl a2)] [] (t, m) (f_X11_write_j39 t m a0 a1 a2) := by
    intro m
    unfold f_X11_write_j39
    refine r_iload_n 19 40 1 rfl rfl rfl rfl ?_
    refine r_iconst 20 41 (v := 1) rfl rfl (by decide) ?_
    have hj82 : ∀ (m : Mi), Sm u_X11_write (11, 0, 0, t.length, zs t) (kI t) 82 [(0, .inr (.inr a0)), (1, .inl a1), (2, .inl a2)] [] (t, m) (f_X11_write_j82 t m a0 a1 a2) := by
      intro m
      unfold f_X11_write_j82
      refine r_aload_n 40 83 0 rfl rfl rfl rfl ?_
      refine r_getR 41 86 rfl rfl fl_RX11_60 rfl h0 ?_
      refine r_iload_n 42 87 2 rfl rfl rfl rfl ?_
      refine r_gd (fun h1 => ?_)
      refine r_VRo 43 90 (st := []) (av := [.inr (.inr (gr m a0 8)), .inl a2]) (av' := [.inl a2]) (μ' := u_X6_constraintAt) (d := 1) rfl rfl mc_X6_constraintAt in_X6_constraintAt lk_RX11_192 (Nat.le_of_ble_eq_true rfl) rfl rfl (ob_sh h1) rfl (Nat.le_of_ble_eq_true rfl) (fun _ h => ct_X6_constraintAt (ob_sh h1) h) (fun x2 => ?_)
      refine r_astore_n 44 91 (L' := [(3, .inr (.inr x2)), (0, .inr (.inr a0)), (1, .inl a1), (2, .inl a2)]) rfl rfl rfl (by decide) rfl ?_
      refine r_iload_n 45 92 2 rfl rfl rfl rfl ?_
      refine r_iconst 46 93 (v := 2) rfl rfl (by decide) ?_
      refine r_icmp_ne 47 120 96 rfl rfl rfl (fun h3 => ?_) (fun h3 => ?_)
      · refine r_aload_n 48 97 0 rfl rfl rfl rfl ?_
        refine r_ifnull 49 120 100 rfl rfl rfl (fun h4 => ?_) (fun h4 => ?_)
        · refine r_iconst 60 121 (v := (-1)) rfl rfl (by decide) ?_
          exact r_iret 61 rfl rfl rfl
        · refine r_aload_n 50 101 1 rfl rfl rfl rfl ?_
          refine r_getR 51 104 rfl rfl fl_RX11_86 rfl h0 ?_
          refine r_gd (fun h5 => ?_)
          refine r_VV 52 107 (st := []) (av := [.inr (.inr (gr m a0 12))]) (av' := []) (μ' := u_X3_clear) (d := 1) rfl rfl mc_X3_clear in_X3_clear lk_RX11_179 (Nat.le_of_ble_eq_true rfl) rfl rfl (ob_sh h5) rfl (Nat.le_of_ble_eq_true rfl) (fun _ h => ct_X3_clear (ob_sh h5) h) (fun m6 => ?_)
          refine r_aload_n 53 108 1 rfl rfl rfl rfl ?_
          refine r_aload_n 54 109 0 rfl rfl rfl rfl ?_
          refine r_VV 55 112 (st := []) (av := [.inr (.inr a0), .inr (.inr x2)]) (av' := [.inr (.inr x2)]) (μ' := u_X11_putConstraint) (d := 10) rfl rfl mc_X11_putConstraint in_X11_putConstraint lk_RX11_196 (Nat.le_of_ble_eq_true rfl) rfl rfl h0 rfl (Nat.le_of_ble_eq_true rfl) (fun _ h => ct_X11_putConstraint h0 h) (fun m7 => ?_)
          refine r_aload_n 56 113 1 rfl rfl rfl rfl ?_
          refine r_getR 57 116 rfl rfl fl_RX11_86 rfl h0 ?_
          refine r_gd (fun h8 => ?_)
          refine r_VIo 58 119 (st := []) (av := [.inr (.inr (gr m7 a0 12))]) (av' := []) (μ' := u_X3_length) (d := 1) rfl rfl mc_X3_length in_X3_length lk_RX11_185 (Nat.le_of_ble_eq_true rfl) rfl rfl (ob_sh h8) rfl (Nat.le_of_ble_eq_true rfl) (fun _ h => ct_X3_length (ob_sh h8) h) (fun x9 => ?_)
          exact r_iret 59 rfl rfl rfl
      · refine r_iconst 60 121 (v := (-1)) rfl rfl (by decide) ?_
        exact r_iret 61 rfl rfl rfl
    refine r_icmp_ne 21 82 44 rfl rfl rfl (fun h10 => ?_) (fun h10 => ?_)
    · refine r_aload_n 22 45 0 rfl rfl rfl rfl ?_
      refine r_getR 23 48 rfl rfl fl_RX11_60 rfl h0 ?_
      refine r_iload_n 24 49 2 rfl rfl rfl rfl ?_
      refine r_gd (fun h11 => ?_)
      refine r_VRo 25 52 (st := []) (av := [.inr (.inr (gr m a0 8)), .inl a2]) (av' := [.inl a2]) (μ' := u_X6_releaseAt) (d := 1) rfl rfl mc_X6_releaseAt in_X6_releaseAt lk_RX11_168 (Nat.le_of_ble_eq_true rfl) rfl rfl (ob_sh h11) rfl (Nat.le_of_ble_eq_true rfl) (fun _ h => ct_X6_releaseAt (ob_sh h11) h) (fun x12 => ?_)
      refine r_ifnull 26 82 55 rfl rfl rfl (fun h13 => ?_) (fun h13 => ?_)
      · exact hj82 m
      · refine r_aload_n 27 56 0 rfl rfl rfl rfl ?_
        refine r_getR 28 59 rfl rfl fl_RX11_86 rfl h0 ?_
        refine r_gd (fun h14 => ?_)
        refine r_VV 29 62 (st := []) (av := [.inr (.inr (gr m a0 12))]) (av' := []) (μ' := u_X3_clear) (d := 1) rfl rfl mc_X3_clear in_X3_clear lk_RX11_179 (Nat.le_of_ble_eq_true rfl) rfl rfl (ob_sh h14) rfl (Nat.le_of_ble_eq_true rfl) (fun _ h => ct_X3_clear (ob_sh h14) h) (fun m15 => ?_)
        refine r_aload_n 30 63 0 rfl rfl rfl rfl ?_
        refine r_getR 31 66 rfl rfl fl_RX11_86 rfl h0 ?_
        refine r_aload_n 32 67 0 rfl rfl rfl rfl ?_
        refine r_getR 33 70 rfl rfl fl_RX11_60 rfl h0 ?_
        refine r_iload_n 34 71 2 rfl rfl rfl rfl ?_
        refine r_gd (fun h16 => ?_)
        refine r_VV 35 74 (st := []) (av := [.inr (.inr (gr m15 a0 12)), .inr (.inr (gr m15 a0 8)), .inl a2]) (av' := [.inr (.inr (gr m15 a0 8)), .inl a2]) (μ' := u_X3_putRelease) (d := 3) rfl rfl mc_X3_putRelease in_X3_putRelease lk_RX11_188 (Nat.le_of_ble_eq_true rfl) rfl rfl (ob_sh h16) rfl (Nat.le_of_ble_eq_true rfl) (fun _ h => ct_X3_putRelease (ob_sh h16) h) (fun m17 => ?_)
        refine r_aload_n 36 75 0 rfl rfl rfl rfl ?_
        refine r_getR 37 78 rfl rfl fl_RX11_86 rfl h0 ?_
        refine r_gd (fun h18 => ?_)
        refine r_VIo 38 81 (st := []) (av := [.inr (.inr (gr m17 a0 12))]) (av' := []) (μ' := u_X3_length) (d := 1) rfl rfl mc_X3_length in_X3_length lk_RX11_185 (Nat.le_of_ble_eq_true rfl) rfl rfl (ob_sh h18) rfl (Nat.le_of_ble_eq_true rfl) (fun _ h => ct_X3_length (ob_sh h18) h) (fun x19 => ?_)
        exact r_iret 39 rfl rfl rfl
    · exact hj82 m
  refine r_if_ne 1 39 4 rfl rfl rfl (fun h20 => ?_) (fun h20 => ?_)
  · refine r_iload_n 2 5 2 rfl rfl rfl rfl ?_
    refine r_SIo 3 8 (a := 0) (cn := 0) (st := []) (av := [.inl a2]) (μ' := u_X11_isSlot) (d := 1) rfl rfl mc_X11_isSlot st_X11_isSlot lk_RX11_118 (Nat.le_of_ble_eq_true rfl) rfl (Nat.le_of_ble_eq_true rfl) (fun _ h => ct_X11_isSlot h) (fun x21 => ?_)
    refine r_if_eq 4 39 11 rfl rfl rfl (fun h22 => ?_) (fun h22 => ?_)
    · exact hj39 m
    · refine r_aload_n 5 12 0 rfl rfl rfl rfl ?_
      refine r_getR 6 15 rfl rfl fl_RX11_86 rfl h0 ?_
      refine r_gd (fun h23 => ?_)
      refine r_VV 7 18 (st := []) (av := [.inr (.inr (gr m a0 12))]) (av' := []) (μ' := u_X3_clear) (d := 1) rfl rfl mc_X3_clear in_X3_clear lk_RX11_179 (Nat.le_of_ble_eq_true rfl) rfl rfl (ob_sh h23) rfl (Nat.le_of_ble_eq_true rfl) (fun _ h => ct_X3_clear (ob_sh h23) h) (fun m24 => ?_)
      refine r_aload_n 8 19 0 rfl rfl rfl rfl ?_
      refine r_getR 9 22 rfl rfl fl_RX11_86 rfl h0 ?_
      refine r_aload_n 10 23 0 rfl rfl rfl rfl ?_
      refine r_getR 11 26 rfl rfl fl_RX11_19 rfl h0 ?_
      refine r_iload_n 12 27 2 rfl rfl rfl rfl ?_
      refine r_gd (fun h25 => ?_)
      refine r_aald 13 28 4 rfl rfl (fun _ => rfl) h25 ?_
      refine r_gd (fun h26 => ?_)
      refine r_VV 14 31 (st := []) (av := [.inr (.inr (gr m24 a0 12)), .inr (.inr (gr m24 (gr m24 a0 2) (ix a2)))]) (av' := [.inr (.inr (gr m24 (gr m24 a0 2) (ix a2)))]) (μ' := u_X3_putRange) (d := 9) rfl rfl mc_X3_putRange in_X3_putRange lk_RX11_182 (Nat.le_of_ble_eq_true rfl) rfl rfl (ob_sh h26) rfl (Nat.le_of_ble_eq_true rfl) (fun _ h => ct_X3_putRange (ob_sh h26) h) (fun m27 => ?_)
      refine r_aload_n 15 32 0 rfl rfl rfl rfl ?_
      refine r_getR 16 35 rfl rfl fl_RX11_86 rfl h0 ?_
      refine r_gd (fun h28 => ?_)
      refine r_VIo 17 38 (st := []) (av := [.inr (.inr (gr m27 a0 12))]) (av' := []) (μ' := u_X3_length) (d := 1) rfl rfl mc_X3_length in_X3_length lk_RX11_185 (Nat.le_of_ble_eq_true rfl) rfl rfl (ob_sh h28) rfl (Nat.le_of_ble_eq_true rfl) (fun _ h => ct_X3_length (ob_sh h28) h) (fun x29 => ?_)
      exact r_iret 18 rfl rfl rfl
  · exact hj39 m
theorem ct_X11_write {t : List Sh} {m : Mi} {a0 : Nat} {a1 : Int32} {a2 : Int32} {m' : Mi} {v : Int32}  (h0 : sh t a0 = some (.inl 11)) (h : f_X11_write t m a0 a1 a2 = some (v, m')) : Ct u_X11_write 11 0 0 [.inr (.inr a0), .inl a1, .inl a2] (t, m) (some (.inl v), (t, m')) :=
  ct_of (by decide) tk_X11_write (Nat.le_of_ble_eq_true rfl) (sm_X11_write t m a0 a1 a2 h0) (by rw [h]; rfl) (Nat.le_refl _) (Nat.le_refl _)
theorem lk_RX11_203 : Cond.methodLink RX11 203 yX8_load ∈ TB := tbm 1115 (by decide +kernel) rfl
theorem lk_RX11_224 : Cond.methodLink RX11 224 yX8_tally ∈ TB := tbm 1252 (by decide +kernel) rfl
def tb_X11_solutions : Tb := [(0, (.iload_n 1, 1)), (1, (.iconst 1, 1)), (2, (.if_icmp .lt 10, 3)), (5, (.iload_n 1, 1)), (6, (.sipush 1000, 3)), (9, (.if_icmp .le 5, 3)), (12, (.iconst (-1), 1)), (13, (.ireturn, 1)), (14, (.aload_n 0, 1)), (15, (.getfield 72, 3)), (18, (.aload_n 0, 1)), (19, (.getfield 60, 3)), (22, (.invokevirtual 203, 3)), (25, (.aload_n 0, 1)), (26, (.getfield 72, 3)), (29, (.iload_n 1, 1)), (30, (.invokevirtual 224, 3)), (33, (.ireturn, 1))]
def u_X11_solutions : Fx := (yX11_solutions, (cX11_solutions, (2, ((some .int), tb_X11_solutions))))
theorem tk_X11_solutions : ∀ q ∈ u_X11_solutions.2.2.2.2, decode u_X11_solutions.2.1 q.1 = .ok q.2 := by decide +kernel
theorem mc_X11_solutions : MC u_X11_solutions 1 := ⟨tbm 1251 (by decide +kernel) rfl, tbm 114 (by decide +kernel) rfl, ⟨by decide, by decide, by decide +kernel⟩, by decide⟩
theorem in_X11_solutions : Cond.instanceMethod u_X11_solutions.1 ∈ TB ∧ Cond.selects u_X11_solutions.1.cls u_X11_solutions.1 u_X11_solutions.1 ∈ TB := ⟨tbm 1249 (by decide +kernel) rfl, tbm 1250 (by decide +kernel) rfl⟩
def f_X11_solutions (t : List Sh) (m : Mi) (a0 : Nat) (a1 : Int32) : Option (Int32 × Mi) :=
  if a1 < 1 then
    some ((-1), m)
  else
    if a1 ≤ 1000 then
      (if ob t (gr m a0 10) 8 = true then
      (f_X8_load t m (gr m a0 10) (gr m a0 8)).bind fun m4 =>
      (if ob t (gr m4 a0 10) 8 = true then
      bd (f_X8_tally t m4 (gr m4 a0 10) a1) fun x6 m7 =>
      some (x6, m7)
      else none)
      else none)
    else
      some ((-1), m)
set_option maxRecDepth 4000 in
set_option maxHeartbeats 4000000 in
theorem sm_X11_solutions (t : List Sh) (m : Mi) (a0 : Nat) (a1 : Int32) (h0 : sh t a0 = some (.inl 11)) : Sm u_X11_solutions (18, 0, 0, t.length, zs t) (kI t) 0 [(0, .inr (.inr a0)), (1, .inl a1)] [] (t, m) (f_X11_solutions t m a0 a1) := by
  unfold f_X11_solutions
  refine r_iload_n 0 1 1 rfl rfl rfl rfl ?_
  refine r_iconst 1 2 (v := 1) rfl rfl (by decide) ?_
  refine r_icmp_lt 2 12 5 rfl rfl rfl (fun h1 => ?_) (fun h1 => ?_)
  · refine r_iconst 6 13 (v := (-1)) rfl rfl (by decide) ?_
    exact r_iret 7 rfl rfl rfl
  · refine r_iload_n 3 6 1 rfl rfl rfl rfl ?_
    refine r_sipush 4 9 (v := 1000) rfl rfl (by decide) ?_
    refine r_icmp_le 5 14 12 rfl rfl rfl (fun h2 => ?_) (fun h2 => ?_)
    · refine r_aload_n 8 15 0 rfl rfl rfl rfl ?_
      refine r_getR 9 18 rfl rfl fl_RX11_72 rfl h0 ?_
      refine r_aload_n 10 19 0 rfl rfl rfl rfl ?_
      refine r_getR 11 22 rfl rfl fl_RX11_60 rfl h0 ?_
      refine r_gd (fun h3 => ?_)
      refine r_VV 12 25 (st := []) (av := [.inr (.inr (gr m a0 10)), .inr (.inr (gr m a0 8))]) (av' := [.inr (.inr (gr m a0 8))]) (μ' := u_X8_load) (d := 3) rfl rfl mc_X8_load in_X8_load lk_RX11_203 (Nat.le_of_ble_eq_true rfl) rfl rfl (ob_sh h3) rfl (Nat.le_of_ble_eq_true rfl) (fun _ h => ct_X8_load (ob_sh h3) h) (fun m4 => ?_)
      refine r_aload_n 13 26 0 rfl rfl rfl rfl ?_
      refine r_getR 14 29 rfl rfl fl_RX11_72 rfl h0 ?_
      refine r_iload_n 15 30 1 rfl rfl rfl rfl ?_
      refine r_gd (fun h5 => ?_)
      refine r_VI 16 33 (st := []) (av := [.inr (.inr (gr m4 a0 10)), .inl a1]) (av' := [.inl a1]) (μ' := u_X8_tally) (d := 17) rfl rfl mc_X8_tally in_X8_tally lk_RX11_224 (Nat.le_of_ble_eq_true rfl) rfl rfl (ob_sh h5) rfl (Nat.le_of_ble_eq_true rfl) (fun _ _ h => ct_X8_tally (ob_sh h5) h) (fun x6 m7 => ?_)
      exact r_iret 17 rfl rfl rfl
    · refine r_iconst 6 13 (v := (-1)) rfl rfl (by decide) ?_
      exact r_iret 7 rfl rfl rfl
theorem ct_X11_solutions {t : List Sh} {m : Mi} {a0 : Nat} {a1 : Int32} {m' : Mi} {v : Int32}  (h0 : sh t a0 = some (.inl 11)) (h : f_X11_solutions t m a0 a1 = some (v, m')) : Ct u_X11_solutions 18 0 0 [.inr (.inr a0), .inl a1] (t, m) (some (.inl v), (t, m')) :=
  ct_of (by decide) tk_X11_solutions (Nat.le_of_ble_eq_true rfl) (sm_X11_solutions t m a0 a1 h0) (by rw [h]; rfl) (Nat.le_refl _) (Nat.le_refl _)
theorem lk_RX11_206 : Cond.methodLink RX11 206 yX8_isPossible ∈ TB := tbm 1155 (by decide +kernel) rfl
theorem lk_RX11_214 : Cond.methodLink RX11 214 yX8_accuse ∈ TB := tbm 1218 (by decide +kernel) rfl
theorem lk_RX11_210 : Cond.methodLink RX11 210 yX8_settle ∈ TB := tbm 1180 (by decide +kernel) rfl
def tb_X11_resolve : Tb := [(0, (.aload_n 0, 1)), (1, (.getfield 72, 3)), (4, (.aload_n 0, 1)), (5, (.getfield 60, 3)), (8, (.invokevirtual 203, 3)), (11, (.aload_n 0, 1)), (12, (.getfield 72, 3)), (15, (.invokevirtual 206, 3)), (18, (.ifCond .eq 17, 3)), (21, (.aload_n 0, 1)), (22, (.getfield 72, 3)), (25, (.aload_n 0, 1)), (26, (.getfield 79, 3)), (29, (.iload_n 1, 1)), (30, (.invokevirtual 210, 3)), (33, (.iconst 1, 1)), (34, (.ireturn, 1)), (35, (.aload_n 0, 1)), (36, (.getfield 72, 3)), (39, (.aload_n 0, 1)), (40, (.getfield 79, 3)), (43, (.invokevirtual 214, 3)), (46, (.iconst 0, 1)), (47, (.ireturn, 1))]
def u_X11_resolve : Fx := (yX11_resolve, (cX11_resolve, (2, ((some .int), tb_X11_resolve))))
theorem tk_X11_resolve : ∀ q ∈ u_X11_resolve.2.2.2.2, decode u_X11_resolve.2.1 q.1 = .ok q.2 := by decide +kernel
theorem mc_X11_resolve : MC u_X11_resolve 1 := ⟨tbm 1114 (by decide +kernel) rfl, tbm 114 (by decide +kernel) rfl, ⟨by decide, by decide, by decide +kernel⟩, by decide⟩
theorem in_X11_resolve : Cond.instanceMethod u_X11_resolve.1 ∈ TB ∧ Cond.selects u_X11_resolve.1.cls u_X11_resolve.1 u_X11_resolve.1 ∈ TB := ⟨tbm 1112 (by decide +kernel) rfl, tbm 1113 (by decide +kernel) rfl⟩
def f_X11_resolve (t : List Sh) (m : Mi) (a0 : Nat) (a1 : Int32) : Option (Int32 × Mi) :=
  (if ob t (gr m a0 10) 8 = true then
  (f_X8_load t m (gr m a0 10) (gr m a0 8)).bind fun m2 =>
  (if ob t (gr m2 a0 10) 8 = true then
  bd (f_X8_isPossible t m2 (gr m2 a0 10)) fun x4 m5 =>
  if x4 = 0 then
    (if ob t (gr m5 a0 10) 8 = true then
    (f_X8_accuse t m5 (gr m5 a0 10) (gr m5 a0 11)).bind fun m8 =>
    some (0, m8)
    else none)
  else
    (if ob t (gr m5 a0 10) 8 = true then
    (f_X8_settle t m5 (gr m5 a0 10) (gr m5 a0 11) a1).bind fun m10 =>
    some (1, m10)
    else none)
  else none)
  else none)
set_option maxRecDepth 4000 in
set_option maxHeartbeats 4000000 in
theorem sm_X11_resolve (t : List Sh) (m : Mi) (a0 : Nat) (a1 : Int32) (h0 : sh t a0 = some (.inl 11)) : Sm u_X11_resolve (19, 0, 0, t.length, zs t) (kI t) 0 [(0, .inr (.inr a0)), (1, .inl a1)] [] (t, m) (f_X11_resolve t m a0 a1) := by
  unfold f_X11_resolve
  refine r_aload_n 0 1 0 rfl rfl rfl rfl ?_
  refine r_getR 1 4 rfl rfl fl_RX11_72 rfl h0 ?_
  refine r_aload_n 2 5 0 rfl rfl rfl rfl ?_
  refine r_getR 3 8 rfl rfl fl_RX11_60 rfl h0 ?_
  refine r_gd (fun h1 => ?_)
  refine r_VV 4 11 (st := []) (av := [.inr (.inr (gr m a0 10)), .inr (.inr (gr m a0 8))]) (av' := [.inr (.inr (gr m a0 8))]) (μ' := u_X8_load) (d := 3) rfl rfl mc_X8_load in_X8_load lk_RX11_203 (Nat.le_of_ble_eq_true rfl) rfl rfl (ob_sh h1) rfl (Nat.le_of_ble_eq_true rfl) (fun _ h => ct_X8_load (ob_sh h1) h) (fun m2 => ?_)
  refine r_aload_n 5 12 0 rfl rfl rfl rfl ?_
  refine r_getR 6 15 rfl rfl fl_RX11_72 rfl h0 ?_
  refine r_gd (fun h3 => ?_)
  refine r_VI 7 18 (st := []) (av := [.inr (.inr (gr m2 a0 10))]) (av' := []) (μ' := u_X8_isPossible) (d := 16) rfl rfl mc_X8_isPossible in_X8_isPossible lk_RX11_206 (Nat.le_of_ble_eq_true rfl) rfl rfl (ob_sh h3) rfl (Nat.le_of_ble_eq_true rfl) (fun _ _ h => ct_X8_isPossible (ob_sh h3) h) (fun x4 m5 => ?_)
  refine r_if_eq 8 35 21 rfl rfl rfl (fun h6 => ?_) (fun h6 => ?_)
  · refine r_aload_n 17 36 0 rfl rfl rfl rfl ?_
    refine r_getR 18 39 rfl rfl fl_RX11_72 rfl h0 ?_
    refine r_aload_n 19 40 0 rfl rfl rfl rfl ?_
    refine r_getR 20 43 rfl rfl fl_RX11_79 rfl h0 ?_
    refine r_gd (fun h7 => ?_)
    refine r_VV 21 46 (st := []) (av := [.inr (.inr (gr m5 a0 10)), .inr (.inr (gr m5 a0 11))]) (av' := [.inr (.inr (gr m5 a0 11))]) (μ' := u_X8_accuse) (d := 17) rfl rfl mc_X8_accuse in_X8_accuse lk_RX11_214 (Nat.le_of_ble_eq_true rfl) rfl rfl (ob_sh h7) rfl (Nat.le_of_ble_eq_true rfl) (fun _ h => ct_X8_accuse (ob_sh h7) h) (fun m8 => ?_)
    refine r_iconst 22 47 (v := 0) rfl rfl (by decide) ?_
    exact r_iret 23 rfl rfl rfl
  · refine r_aload_n 9 22 0 rfl rfl rfl rfl ?_
    refine r_getR 10 25 rfl rfl fl_RX11_72 rfl h0 ?_
    refine r_aload_n 11 26 0 rfl rfl rfl rfl ?_
    refine r_getR 12 29 rfl rfl fl_RX11_79 rfl h0 ?_
    refine r_iload_n 13 30 1 rfl rfl rfl rfl ?_
    refine r_gd (fun h9 => ?_)
    refine r_VV 14 33 (st := []) (av := [.inr (.inr (gr m5 a0 10)), .inr (.inr (gr m5 a0 11)), .inl a1]) (av' := [.inr (.inr (gr m5 a0 11)), .inl a1]) (μ' := u_X8_settle) (d := 18) rfl rfl mc_X8_settle in_X8_settle lk_RX11_210 (Nat.le_of_ble_eq_true rfl) rfl rfl (ob_sh h9) rfl (Nat.le_of_ble_eq_true rfl) (fun _ h => ct_X8_settle (ob_sh h9) h) (fun m10 => ?_)
    refine r_iconst 15 34 (v := 1) rfl rfl (by decide) ?_
    exact r_iret 16 rfl rfl rfl
theorem ct_X11_resolve {t : List Sh} {m : Mi} {a0 : Nat} {a1 : Int32} {m' : Mi} {v : Int32}  (h0 : sh t a0 = some (.inl 11)) (h : f_X11_resolve t m a0 a1 = some (v, m')) : Ct u_X11_resolve 19 0 0 [.inr (.inr a0), .inl a1] (t, m) (some (.inl v), (t, m')) :=
  ct_of (by decide) tk_X11_resolve (Nat.le_of_ble_eq_true rfl) (sm_X11_resolve t m a0 a1 h0) (by rw [h]; rfl) (Nat.le_refl _) (Nat.le_refl _)
