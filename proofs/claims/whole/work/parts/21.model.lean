theorem kc_RX12_409 : Cond.constantLong RX12 409 (255) ∈ TB := tbm 1775 (by decide +kernel) rfl
def tb_X12_saysWord : Tb := [(0, (.bipush 56, 2)), (2, (.istore_n 3, 1)), (3, (.iload_n 3, 1)), (4, (.ifCond .lt 33, 3)), (7, (.lload_n 1, 1)), (8, (.iload_n 3, 1)), (9, (.lshr, 1)), (10, (.ldc2_w 409, 3)), (13, (.land, 1)), (14, (.lconst 0, 1)), (15, (.lcmp, 1)), (16, (.ifCond .eq 15, 3)), (19, (.aload_n 0, 1)), (20, (.lload_n 1, 1)), (21, (.iload_n 3, 1)), (22, (.lshr, 1)), (23, (.ldc2_w 409, 3)), (26, (.land, 1)), (27, (.l2i, 1)), (28, (.invokevirtual 402, 3)), (31, (.iinc 3 (-8), 3)), (34, (.goto (-31), 3)), (37, (.aload_n 0, 1)), (38, (.bipush 32, 2)), (40, (.invokevirtual 402, 3)), (43, (.return_, 1))]
def u_X12_saysWord : Fx := (yX12_saysWord, (cX12_saysWord, (4, (none, tb_X12_saysWord))))
theorem tk_X12_saysWord : ∀ q ∈ u_X12_saysWord.2.2.2.2, decode u_X12_saysWord.2.1 q.1 = .ok q.2 := by decide +kernel
theorem mc_X12_saysWord : MC u_X12_saysWord 1 := ⟨tbm 1787 (by decide +kernel) rfl, tbm 128 (by decide +kernel) rfl, ⟨by decide, by decide, by decide +kernel⟩, by decide⟩
theorem in_X12_saysWord : Cond.instanceMethod u_X12_saysWord.1 ∈ TB ∧ Cond.selects u_X12_saysWord.1.cls u_X12_saysWord.1 u_X12_saysWord.1 ∈ TB := ⟨tbm 1786 (by decide +kernel) rfl, tbm 112 (by decide +kernel) rfl⟩
def f_X12_saysWord_j37 (t : List Sh) (m : Mi) (a0 : Nat) : Option (Mi) :=
  (f_X12_says t m a0 32).bind fun m1 =>
  some m1
def f_X12_saysWord_l3 (t : List Sh) (m : Mi) (a0 : Nat) (a1 : Int64) (a3 : Int32) : Option ((Int32 × Mi) ⊕ ((Mi))) :=
  if a3 < 0 then
    some (.inr m)
  else
    if (lg_cmp ((a1 >>> (Int32.toInt64 a3 &&& 63)) &&& 255) 0) = 0 then
      lt (a3 + (-8)) fun x4 =>
      some (.inl (x4, m))
    else
      (f_X12_says t m a0 (Int64.toInt32 ((a1 >>> (Int32.toInt64 a3 &&& 63)) &&& 255))).bind fun m5 =>
      lt (a3 + (-8)) fun x6 =>
      some (.inl (x6, m5))
def f_X12_saysWord_j3 (t : List Sh) (m : Mi) (a0 : Nat) (a1 : Int64) (a3 : Int32) : Option (Mi) :=
  (lp (fun x : Int32 × Mi => f_X12_saysWord_l3 t x.2 a0 a1 x.1) FUEL (a3, m)).bind (fun y : Mi => f_X12_saysWord_j37 t y a0)
def f_X12_saysWord (t : List Sh) (m : Mi) (a0 : Nat) (a1 : Int64) : Option (Mi) :=
  f_X12_saysWord_j3 t m a0 a1 56
set_option maxRecDepth 4000 in
set_option maxHeartbeats 4000000 in
theorem sm_X12_saysWord (t : List Sh) (m : Mi) (a0 : Nat) (a1 : Int64) (h0 : sh t a0 = some (.inl 12)) : Sm u_X12_saysWord (2, 0, 0, t.length, zs t) (kV t) 0 [(0, .inr (.inr a0)), (1, .inr (.inl a1))] [] (t, m) (f_X12_saysWord t m a0 a1) := by
  unfold f_X12_saysWord
  refine r_bipush 0 2 (v := 56) rfl rfl (by decide) ?_
  refine r_istore_n 1 3 (L' := [(3, .inl 56), (0, .inr (.inr a0)), (1, .inr (.inl a1))]) rfl rfl rfl (by decide) rfl ?_
  have hj3 : ∀ (m : Mi) (a3 : Int32), Sm u_X12_saysWord (2, 0, 0, t.length, zs t) (kV t) 3 [(0, .inr (.inr a0)), (1, .inr (.inl a1)), (3, .inl a3)] [] (t, m) (f_X12_saysWord_j3 t m a0 a1 a3) := by
    intro m a3
    unfold f_X12_saysWord_j3
    have hj37 : ∀ (m : Mi), Sm u_X12_saysWord (2, 0, 0, t.length, zs t) (kV t) 37 [(0, .inr (.inr a0))] [] (t, m) (f_X12_saysWord_j37 t m a0) := by
      intro m
      unfold f_X12_saysWord_j37
      refine r_aload_n 22 38 0 rfl rfl rfl rfl ?_
      refine r_bipush 23 40 (v := 32) rfl rfl (by decide) ?_
      refine r_VV 24 43 (st := []) (av := [.inr (.inr a0), .inl 32]) (av' := [.inl 32]) (μ' := u_X12_says) (d := 1) rfl rfl mc_X12_says in_X12_says lk_RX12_402 (Nat.le_of_ble_eq_true rfl) rfl rfl h0 rfl (Nat.le_of_ble_eq_true rfl) (fun _ h => ct_X12_says h0 h) (fun m1 => ?_)
      exact r_vret 25 rfl rfl rfl
    refine r_lp (Lf := fun x : Int32 × Mi => [(0, .inr (.inr a0)), (1, .inr (.inl a1)), (3, .inl (x.1))]) (Mf := fun x : Int32 × Mi => (t, x.2)) (a3, m) ?_ FUEL
    rintro ⟨a3, m⟩ κ3 hc3 he3
    refine r_eq (L' := [(0, .inr (.inr a0)), (1, .inr (.inl a1)), (3, .inl a3)]) (M' := (t, m)) rfl rfl ?_
    refine r_eqr (r' := f_X12_saysWord_l3 t m a0 a1 a3) rfl ?_
    unfold f_X12_saysWord_l3
    refine r_iload_n 2 4 2 rfl rfl rfl rfl ?_
    refine r_if_lt 3 37 7 rfl rfl rfl (fun h2 => ?_) (fun h2 => ?_)
    · refine r_leaf (r2 := (f_X12_saysWord_j37 t m a0 : Option (Mi))) (he3 _) ?_
      exact r_sub [0] rfl (hj37 m)
    · refine r_lload_n 4 8 1 rfl rfl rfl rfl ?_
      refine r_iload_n 5 9 2 rfl rfl rfl rfl ?_
      refine r_lshr 6 10 rfl rfl ?_
      refine r_ldc2 7 13 rfl rfl kc_RX12_409 ?_
      refine r_land 8 14 rfl rfl ?_
      refine r_lconst 9 15 (v := 0) rfl rfl (by decide) ?_
      refine r_lcmp 10 16 rfl rfl ?_
      refine r_if_eq 11 31 19 rfl rfl rfl (fun h3 => ?_) (fun h3 => ?_)
      · refine r_iinc 20 34 2 (L' := [(3, .inl (a3 + (-8))), (0, .inr (.inr a0)), (1, .inr (.inl a1))]) rfl rfl rfl (by decide) rfl ?_
        refine r_ltV (fun x4 => ?_)
        refine r_goto 21 3 rfl rfl ?_
        exact r_sub [1, 2, 0] rfl (hc3 (x4, m))
      · refine r_aload_n 12 20 0 rfl rfl rfl rfl ?_
        refine r_lload_n 13 21 1 rfl rfl rfl rfl ?_
        refine r_iload_n 14 22 2 rfl rfl rfl rfl ?_
        refine r_lshr 15 23 rfl rfl ?_
        refine r_ldc2 16 26 rfl rfl kc_RX12_409 ?_
        refine r_land 17 27 rfl rfl ?_
        refine r_l2i 18 28 rfl rfl ?_
        refine r_VV 19 31 (st := []) (av := [.inr (.inr a0), .inl (Int64.toInt32 ((a1 >>> (Int32.toInt64 a3 &&& 63)) &&& 255))]) (av' := [.inl (Int64.toInt32 ((a1 >>> (Int32.toInt64 a3 &&& 63)) &&& 255))]) (μ' := u_X12_says) (d := 1) rfl rfl mc_X12_says in_X12_says lk_RX12_402 (Nat.le_of_ble_eq_true rfl) rfl rfl h0 rfl (Nat.le_of_ble_eq_true rfl) (fun _ h => ct_X12_says h0 h) (fun m5 => ?_)
        refine r_iinc 20 34 2 (L' := [(3, .inl (a3 + (-8))), (0, .inr (.inr a0)), (1, .inr (.inl a1))]) rfl rfl rfl (by decide) rfl ?_
        refine r_ltV (fun x6 => ?_)
        refine r_goto 21 3 rfl rfl ?_
        exact r_sub [1, 2, 0] rfl (hc3 (x6, m5))
  exact r_sub [1, 2, 0] rfl (hj3 m 56)
theorem ct_X12_saysWord {t : List Sh} {m : Mi} {a0 : Nat} {a1 : Int64} {m' : Mi}  (h0 : sh t a0 = some (.inl 12)) (h : f_X12_saysWord t m a0 a1 = some m') : Ct u_X12_saysWord 2 0 0 [.inr (.inr a0), .inr (.inl a1)] (t, m) (none, (t, m')) :=
  ct_of (by decide) tk_X12_saysWord (Nat.le_of_ble_eq_true rfl) (sm_X12_saysWord t m a0 a1 h0) (by rw [h]; rfl) (Nat.le_refl _) (Nat.le_refl _)
theorem fl_RX12_16 : FL RX12 16 12 4 true := ⟨RX12, TX12, 61, rfl, inW12, tyX12_ok, nmX12, by decide, rfl, rfl, rfl, tbm 1331 (by decide +kernel) rfl⟩
theorem fl_RX12_183 : FL RX12 183 12 5 false := ⟨RX12, TX12, 61, rfl, inW12, tyX12_ok, nmX12, by decide, rfl, rfl, rfl, tbm 1332 (by decide +kernel) rfl⟩
theorem fl_RX12_256 : FL RX12 256 12 18 false := ⟨RX12, TX12, 61, rfl, inW12, tyX12_ok, nmX12, by decide, rfl, rfl, rfl, tbm 1345 (by decide +kernel) rfl⟩
def tb_X12_upTo : Tb := [(0, (.aload_n 0, 1)), (1, (.getfield 25, 3)), (4, (.iload_n 1, 1)), (5, (.aload_n 0, 1)), (6, (.getfield 16, 3)), (9, (.iconst 0, 1)), (10, (.invokestatic 224, 3)), (13, (.aload_n 0, 1)), (14, (.getfield 183, 3)), (17, (.iconst 1, 1)), (18, (.if_icmp .ne 7, 3)), (21, (.iconst 0, 1)), (22, (.goto 4, 3)), (25, (.iconst 1, 1)), (26, (.istore_n 3, 1)), (27, (.aload_n 0, 1)), (28, (.getfield 256, 3)), (31, (.bipush 94, 2)), (33, (.if_icmp .ne 33, 3)), (36, (.iconst 0, 1)), (37, (.istore_n 3, 1)), (38, (.iload_n 3, 1)), (39, (.aload_n 0, 1)), (40, (.getfield 183, 3)), (43, (.iconst 1, 1)), (44, (.isub, 1)), (45, (.if_icmp .ge 21, 3)), (48, (.aload_n 0, 1)), (49, (.getfield 16, 3)), (52, (.iload_n 3, 1)), (53, (.laload, 1)), (54, (.lconst 0, 1)), (55, (.lcmp, 1)), (56, (.ifCond .ne 10, 3)), (59, (.iload_n 3, 1)), (60, (.iconst 1, 1)), (61, (.iadd, 1)), (62, (.istore_n 3, 1)), (63, (.goto (-25), 3)), (66, (.iconst 0, 1)), (67, (.istore 4, 2)), (69, (.iload 4, 2)), (71, (.bipush 9, 2)), (73, (.if_icmp .ge 19, 3)), (76, (.aload_n 0, 1)), (77, (.getfield 25, 3)), (80, (.iload_n 2, 1)), (81, (.iload 4, 2)), (83, (.iadd, 1)), (84, (.lconst 0, 1)), (85, (.lastore, 1)), (86, (.iinc 4 1, 3)), (89, (.goto (-20), 3)), (92, (.iconst 0, 1)), (93, (.istore 4, 2)), (95, (.iload 4, 2)), (97, (.iload_n 3, 1)), (98, (.if_icmp .gt 37, 3)), (101, (.aload_n 0, 1)), (102, (.getfield 25, 3)), (105, (.iload_n 2, 1)), (106, (.iload 4, 2)), (108, (.iadd, 1)), (109, (.aload_n 0, 1)), (110, (.getfield 16, 3)), (113, (.iload 4, 2)), (115, (.laload, 1)), (116, (.iload 4, 2)), (118, (.iload_n 3, 1)), (119, (.if_icmp .ne 7, 3)), (122, (.lconst 1, 1)), (123, (.goto 4, 3)), (126, (.lconst 0, 1)), (127, (.ladd, 1)), (128, (.lastore, 1)), (129, (.iinc 4 1, 3)), (132, (.goto (-37), 3)), (135, (.aload_n 0, 1)), (136, (.getfield 25, 3)), (139, (.iload_n 2, 1)), (140, (.iconst 3, 1)), (141, (.iadd, 1)), (142, (.lconst 1, 1)), (143, (.lastore, 1)), (144, (.return_, 1))]
def u_X12_upTo : Fx := (yX12_upTo, (cX12_upTo, (5, (none, tb_X12_upTo))))
theorem tk_X12_upTo : ∀ q ∈ u_X12_upTo.2.2.2.2, decode u_X12_upTo.2.1 q.1 = .ok q.2 := by decide +kernel
theorem mc_X12_upTo : MC u_X12_upTo 2 := ⟨tbm 1602 (by decide +kernel) rfl, tbm 128 (by decide +kernel) rfl, ⟨by decide, by decide, by decide +kernel⟩, by decide⟩
theorem in_X12_upTo : Cond.instanceMethod u_X12_upTo.1 ∈ TB ∧ Cond.selects u_X12_upTo.1.cls u_X12_upTo.1 u_X12_upTo.1 ∈ TB := ⟨tbm 1601 (by decide +kernel) rfl, tbm 81 (by decide +kernel) rfl⟩
def f_X12_upTo_j135 (t : List Sh) (m : Mi) (a0 : Nat) (a2 : Int32) : Option (Mi) :=
  (if ar t (gr m a0 8) .long (a2 + 3) = true then
  lt (sl m (gr m a0 8) (ix (a2 + 3)) 1) fun m3 =>
  some m3
  else none)
def f_X12_upTo_j127 (t : List Sh) (m : Mi) (a0 : Nat) (a2 : Int32) (a3 : Int32) (a4 : Int32) (s0 : Int64) (s1 : Int64) (s2 : Int32) (s3 : Nat) : Option ((Int32 × Mi) ⊕ ((Mi))) :=
  (if ar t s3 .long s2 = true then
  lt (sl m s3 (ix s2) (s1 + s0)) fun m7 =>
  lt (a4 + 1) fun x8 =>
  some (.inl (x8, m7))
  else none)
def f_X12_upTo_l95 (t : List Sh) (m : Mi) (a0 : Nat) (a2 : Int32) (a3 : Int32) (a4 : Int32) : Option ((Int32 × Mi) ⊕ ((Mi))) :=
  if a3 < a4 then
    some (.inr m)
  else
    (if ar t (gr m a0 4) .long a4 = true then
    if a4 = a3 then
      f_X12_upTo_j127 t m a0 a2 a3 a4 1 (gl m (gr m a0 4) (ix a4)) (a2 + a4) (gr m a0 8)
    else
      f_X12_upTo_j127 t m a0 a2 a3 a4 0 (gl m (gr m a0 4) (ix a4)) (a2 + a4) (gr m a0 8)
    else none)
def f_X12_upTo_j95 (t : List Sh) (m : Mi) (a0 : Nat) (a2 : Int32) (a3 : Int32) (a4 : Int32) : Option (Mi) :=
  (lp (fun x : Int32 × Mi => f_X12_upTo_l95 t x.2 a0 a2 a3 x.1) FUEL (a4, m)).bind (fun y : Mi => f_X12_upTo_j135 t y a0 a2)
def f_X12_upTo_j92 (t : List Sh) (m : Mi) (a0 : Nat) (a2 : Int32) (a3 : Int32) : Option (Mi) :=
  f_X12_upTo_j95 t m a0 a2 a3 0
def f_X12_upTo_l69 (t : List Sh) (m : Mi) (a0 : Nat) (a2 : Int32) (a3 : Int32) (a4 : Int32) : Option ((Int32 × Mi) ⊕ ((Mi))) :=
  if 9 ≤ a4 then
    some (.inr m)
  else
    (if ar t (gr m a0 8) .long (a2 + a4) = true then
    lt (sl m (gr m a0 8) (ix (a2 + a4)) 0) fun m12 =>
    lt (a4 + 1) fun x13 =>
    some (.inl (x13, m12))
    else none)
def f_X12_upTo_j69 (t : List Sh) (m : Mi) (a0 : Nat) (a2 : Int32) (a3 : Int32) (a4 : Int32) : Option (Mi) :=
  (lp (fun x : Int32 × Mi => f_X12_upTo_l69 t x.2 a0 a2 a3 x.1) FUEL (a4, m)).bind (fun y : Mi => f_X12_upTo_j92 t y a0 a2 a3)
def f_X12_upTo_j66 (t : List Sh) (m : Mi) (a0 : Nat) (a2 : Int32) (a3 : Int32) : Option (Mi) :=
  f_X12_upTo_j69 t m a0 a2 a3 0
def f_X12_upTo_l38 (t : List Sh) (m : Mi) (a0 : Nat) (a2 : Int32) (a3 : Int32) : Option ((Int32) ⊕ ((Int32))) :=
  if ((gi m a0 5) - 1) ≤ a3 then
    some (.inr a3)
  else
    (if ar t (gr m a0 4) .long a3 = true then
    if (lg_cmp (gl m (gr m a0 4) (ix a3)) 0) = 0 then
      lt (a3 + 1) fun x18 =>
      some (.inl x18)
    else
      some (.inr a3)
    else none)
def f_X12_upTo_j38 (t : List Sh) (m : Mi) (a0 : Nat) (a2 : Int32) (a3 : Int32) : Option (Mi) :=
  (lp (fun x : Int32 => f_X12_upTo_l38 t m a0 a2 x) FUEL a3).bind (fun y : Int32 => f_X12_upTo_j66 t m a0 a2 y)
def f_X12_upTo_j26 (t : List Sh) (m : Mi) (a0 : Nat) (a2 : Int32) (s0 : Int32) : Option (Mi) :=
  if (gi m a0 18) = 94 then
    f_X12_upTo_j38 t m a0 a2 0
  else
    f_X12_upTo_j66 t m a0 a2 s0
def f_X12_upTo (t : List Sh) (m : Mi) (a0 : Nat) (a1 : Int32) (a2 : Int32) : Option (Mi) :=
  (f_X12_copy t m (gr m a0 8) a1 (gr m a0 4) 0).bind fun m1 =>
  if (gi m1 a0 5) = 1 then
    f_X12_upTo_j26 t m1 a0 a2 0
  else
    f_X12_upTo_j26 t m1 a0 a2 1
set_option maxRecDepth 4000 in
set_option maxHeartbeats 4000000 in
theorem sm_X12_upTo (t : List Sh) (m : Mi) (a0 : Nat) (a1 : Int32) (a2 : Int32) (h0 : sh t a0 = some (.inl 12)) : Sm u_X12_upTo (2, 0, 0, t.length, zs t) (kV t) 0 [(0, .inr (.inr a0)), (1, .inl a1), (2, .inl a2)] [] (t, m) (f_X12_upTo t m a0 a1 a2) := by
  unfold f_X12_upTo
  refine r_aload_n 0 1 0 rfl rfl rfl rfl ?_
  refine r_getR 1 4 rfl rfl fl_RX12_25 rfl h0 ?_
  refine r_iload_n 2 5 1 rfl rfl rfl rfl ?_
  refine r_aload_n 3 6 0 rfl rfl rfl rfl ?_
  refine r_getR 4 9 rfl rfl fl_RX12_16 rfl h0 ?_
  refine r_iconst 5 10 (v := 0) rfl rfl (by decide) ?_
  refine r_SV 6 13 (a := 0) (cn := 0) (st := []) (av := [.inr (.inr (gr m a0 8)), .inl a1, .inr (.inr (gr m a0 4)), .inl 0]) (μ' := u_X12_copy) (d := 1) rfl rfl mc_X12_copy st_X12_copy lk_RX12_224 (Nat.le_of_ble_eq_true rfl) rfl (Nat.le_of_ble_eq_true rfl) (fun _ h => ct_X12_copy h) (fun m1 => ?_)
  refine r_aload_n 7 14 0 rfl rfl rfl rfl ?_
  refine r_getI 8 17 rfl rfl fl_RX12_183 rfl h0 ?_
  refine r_iconst 9 18 (v := 1) rfl rfl (by decide) ?_
  have hj26 : ∀ (m : Mi) (s0 : Int32), Sm u_X12_upTo (2, 0, 0, t.length, zs t) (kV t) 26 [(0, .inr (.inr a0)), (2, .inl a2)] [.inl s0] (t, m) (f_X12_upTo_j26 t m a0 a2 s0) := by
    intro m s0
    unfold f_X12_upTo_j26
    refine r_istore_n 14 27 (L' := [(3, .inl s0), (0, .inr (.inr a0)), (2, .inl a2)]) rfl rfl rfl (by decide) rfl ?_
    refine r_aload_n 15 28 1 rfl rfl rfl rfl ?_
    refine r_getI 16 31 rfl rfl fl_RX12_256 rfl h0 ?_
    refine r_bipush 17 33 (v := 94) rfl rfl (by decide) ?_
    have hj66 : ∀ (m : Mi) (a3 : Int32), Sm u_X12_upTo (2, 0, 0, t.length, zs t) (kV t) 66 [(0, .inr (.inr a0)), (2, .inl a2), (3, .inl a3)] [] (t, m) (f_X12_upTo_j66 t m a0 a2 a3) := by
      intro m a3
      unfold f_X12_upTo_j66
      refine r_iconst 39 67 (v := 0) rfl rfl (by decide) ?_
      refine r_istore 40 69 (L' := [(4, .inl 0), (0, .inr (.inr a0)), (2, .inl a2), (3, .inl a3)]) rfl rfl (by decide) rfl ?_
      have hj69 : ∀ (m : Mi) (a3 : Int32) (a4 : Int32), Sm u_X12_upTo (2, 0, 0, t.length, zs t) (kV t) 69 [(0, .inr (.inr a0)), (2, .inl a2), (3, .inl a3), (4, .inl a4)] [] (t, m) (f_X12_upTo_j69 t m a0 a2 a3 a4) := by
        intro m a3 a4
        unfold f_X12_upTo_j69
        have hj92 : ∀ (m : Mi) (a3 : Int32), Sm u_X12_upTo (2, 0, 0, t.length, zs t) (kV t) 92 [(0, .inr (.inr a0)), (2, .inl a2), (3, .inl a3)] [] (t, m) (f_X12_upTo_j92 t m a0 a2 a3) := by
          intro m a3
          unfold f_X12_upTo_j92
          refine r_iconst 53 93 (v := 0) rfl rfl (by decide) ?_
          refine r_istore 54 95 (L' := [(4, .inl 0), (0, .inr (.inr a0)), (2, .inl a2), (3, .inl a3)]) rfl rfl (by decide) rfl ?_
          have hj95 : ∀ (m : Mi) (a3 : Int32) (a4 : Int32), Sm u_X12_upTo (2, 0, 0, t.length, zs t) (kV t) 95 [(0, .inr (.inr a0)), (2, .inl a2), (3, .inl a3), (4, .inl a4)] [] (t, m) (f_X12_upTo_j95 t m a0 a2 a3 a4) := by
            intro m a3 a4
            unfold f_X12_upTo_j95
            have hj135 : ∀ (m : Mi), Sm u_X12_upTo (2, 0, 0, t.length, zs t) (kV t) 135 [(0, .inr (.inr a0)), (2, .inl a2)] [] (t, m) (f_X12_upTo_j135 t m a0 a2) := by
              intro m
              unfold f_X12_upTo_j135
              refine r_aload_n 77 136 0 rfl rfl rfl rfl ?_
              refine r_getR 78 139 rfl rfl fl_RX12_25 rfl h0 ?_
              refine r_iload_n 79 140 1 rfl rfl rfl rfl ?_
              refine r_iconst 80 141 (v := 3) rfl rfl (by decide) ?_
              refine r_iadd 81 142 rfl rfl ?_
              refine r_lconst 82 143 (v := 1) rfl rfl (by decide) ?_
              refine r_gd (fun h2 => ?_)
              refine r_last 83 144 rfl rfl h2 ?_
              refine r_ltM (fun m3 => ?_)
              exact r_vret 84 rfl rfl rfl
            refine r_lp (Lf := fun x : Int32 × Mi => [(0, .inr (.inr a0)), (2, .inl a2), (3, .inl a3), (4, .inl (x.1))]) (Mf := fun x : Int32 × Mi => (t, x.2)) (a4, m) ?_ FUEL
            rintro ⟨a4, m⟩ κ95 hc95 he95
            refine r_eq (L' := [(0, .inr (.inr a0)), (2, .inl a2), (3, .inl a3), (4, .inl a4)]) (M' := (t, m)) rfl rfl ?_
            refine r_eqr (r' := f_X12_upTo_l95 t m a0 a2 a3 a4) rfl ?_
            unfold f_X12_upTo_l95
            refine r_iload 55 97 3 rfl rfl rfl ?_
            refine r_iload_n 56 98 2 rfl rfl rfl rfl ?_
            refine r_icmp_gt 57 135 101 rfl rfl rfl (fun h4 => ?_) (fun h4 => ?_)
            · refine r_leaf (r2 := (f_X12_upTo_j135 t m a0 a2 : Option (Mi))) (he95 _) ?_
              exact r_sub [0, 1] rfl (hj135 m)
            · refine r_aload_n 58 102 0 rfl rfl rfl rfl ?_
              refine r_getR 59 105 rfl rfl fl_RX12_25 rfl h0 ?_
              refine r_iload_n 60 106 1 rfl rfl rfl rfl ?_
              refine r_iload 61 108 3 rfl rfl rfl ?_
              refine r_iadd 62 109 rfl rfl ?_
              refine r_aload_n 63 110 0 rfl rfl rfl rfl ?_
              refine r_getR 64 113 rfl rfl fl_RX12_16 rfl h0 ?_
              refine r_iload 65 115 3 rfl rfl rfl ?_
              refine r_gd (fun h5 => ?_)
              refine r_lald 66 116 rfl rfl h5 ?_
              refine r_iload 67 118 3 rfl rfl rfl ?_
              refine r_iload_n 68 119 2 rfl rfl rfl rfl ?_
              have hj127 : ∀ (m : Mi) (a4 : Int32) (s0 : Int64) (s1 : Int64) (s2 : Int32) (s3 : Nat), Sm u_X12_upTo (2, 0, 0, t.length, zs t) κ95 127 [(0, .inr (.inr a0)), (2, .inl a2), (3, .inl a3), (4, .inl a4)] [.inr (.inl s0), .inr (.inl s1), .inl s2, .inr (.inr s3)] (t, m) (f_X12_upTo_j127 t m a0 a2 a3 a4 s0 s1 s2 s3) := by
                intro m a4 s0 s1 s2 s3
                unfold f_X12_upTo_j127
                refine r_ladd 73 128 rfl rfl ?_
                refine r_gd (fun h6 => ?_)
                refine r_last 74 129 rfl rfl h6 ?_
                refine r_ltM (fun m7 => ?_)
                refine r_iinc 75 132 3 (L' := [(4, .inl (a4 + 1)), (0, .inr (.inr a0)), (2, .inl a2), (3, .inl a3)]) rfl rfl rfl (by decide) rfl ?_
                refine r_ltV (fun x8 => ?_)
                refine r_goto 76 95 rfl rfl ?_
                exact r_sub [1, 2, 3, 0] rfl (hc95 (x8, m7))
              refine r_icmp_ne 69 126 122 rfl rfl rfl (fun h9 => ?_) (fun h9 => ?_)
              · refine r_lconst 70 123 (v := 1) rfl rfl (by decide) ?_
                refine r_goto 71 127 rfl rfl ?_
                exact hj127 m a4 1 (gl m (gr m a0 4) (ix a4)) (a2 + a4) (gr m a0 8)
              · refine r_lconst 72 127 (v := 0) rfl rfl (by decide) ?_
                exact hj127 m a4 0 (gl m (gr m a0 4) (ix a4)) (a2 + a4) (gr m a0 8)
          exact r_sub [1, 2, 3, 0] rfl (hj95 m a3 0)
        refine r_lp (Lf := fun x : Int32 × Mi => [(0, .inr (.inr a0)), (2, .inl a2), (3, .inl a3), (4, .inl (x.1))]) (Mf := fun x : Int32 × Mi => (t, x.2)) (a4, m) ?_ FUEL
        rintro ⟨a4, m⟩ κ69 hc69 he69
        refine r_eq (L' := [(0, .inr (.inr a0)), (2, .inl a2), (3, .inl a3), (4, .inl a4)]) (M' := (t, m)) rfl rfl ?_
        refine r_eqr (r' := f_X12_upTo_l69 t m a0 a2 a3 a4) rfl ?_
        unfold f_X12_upTo_l69
        refine r_iload 41 71 3 rfl rfl rfl ?_
        refine r_bipush 42 73 (v := 9) rfl rfl (by decide) ?_
        refine r_icmp_ge 43 92 76 rfl rfl rfl (fun h10 => ?_) (fun h10 => ?_)
        · refine r_leaf (r2 := (f_X12_upTo_j92 t m a0 a2 a3 : Option (Mi))) (he69 _) ?_
          exact r_sub [0, 1, 2] rfl (hj92 m a3)
        · refine r_aload_n 44 77 0 rfl rfl rfl rfl ?_
          refine r_getR 45 80 rfl rfl fl_RX12_25 rfl h0 ?_
          refine r_iload_n 46 81 1 rfl rfl rfl rfl ?_
          refine r_iload 47 83 3 rfl rfl rfl ?_
          refine r_iadd 48 84 rfl rfl ?_
          refine r_lconst 49 85 (v := 0) rfl rfl (by decide) ?_
          refine r_gd (fun h11 => ?_)
          refine r_last 50 86 rfl rfl h11 ?_
          refine r_ltM (fun m12 => ?_)
          refine r_iinc 51 89 3 (L' := [(4, .inl (a4 + 1)), (0, .inr (.inr a0)), (2, .inl a2), (3, .inl a3)]) rfl rfl rfl (by decide) rfl ?_
          refine r_ltV (fun x13 => ?_)
          refine r_goto 52 69 rfl rfl ?_
          exact r_sub [1, 2, 3, 0] rfl (hc69 (x13, m12))
      exact r_sub [1, 2, 3, 0] rfl (hj69 m a3 0)
    refine r_icmp_ne 18 66 36 rfl rfl rfl (fun h14 => ?_) (fun h14 => ?_)
    · refine r_iconst 19 37 (v := 0) rfl rfl (by decide) ?_
      refine r_istore_n 20 38 (L' := [(3, .inl 0), (0, .inr (.inr a0)), (2, .inl a2)]) rfl rfl rfl (by decide) rfl ?_
      have hj38 : ∀ (m : Mi) (a3 : Int32), Sm u_X12_upTo (2, 0, 0, t.length, zs t) (kV t) 38 [(0, .inr (.inr a0)), (2, .inl a2), (3, .inl a3)] [] (t, m) (f_X12_upTo_j38 t m a0 a2 a3) := by
        intro m a3
        unfold f_X12_upTo_j38
        refine r_lp (Lf := fun x : Int32 => [(0, .inr (.inr a0)), (2, .inl a2), (3, .inl x)]) (Mf := fun x : Int32 => (t, m)) a3 ?_ FUEL
        rintro a3 κ38 hc38 he38
        refine r_eq (L' := [(0, .inr (.inr a0)), (2, .inl a2), (3, .inl a3)]) (M' := (t, m)) rfl rfl ?_
        refine r_eqr (r' := f_X12_upTo_l38 t m a0 a2 a3) rfl ?_
        unfold f_X12_upTo_l38
        refine r_iload_n 21 39 2 rfl rfl rfl rfl ?_
        refine r_aload_n 22 40 0 rfl rfl rfl rfl ?_
        refine r_getI 23 43 rfl rfl fl_RX12_183 rfl h0 ?_
        refine r_iconst 24 44 (v := 1) rfl rfl (by decide) ?_
        refine r_isub 25 45 rfl rfl ?_
        refine r_icmp_ge 26 66 48 rfl rfl rfl (fun h15 => ?_) (fun h15 => ?_)
        · refine r_leaf (r2 := (f_X12_upTo_j66 t m a0 a2 a3 : Option (Mi))) (he38 _) ?_
          exact hj66 m a3
        · refine r_aload_n 27 49 0 rfl rfl rfl rfl ?_
          refine r_getR 28 52 rfl rfl fl_RX12_16 rfl h0 ?_
          refine r_iload_n 29 53 2 rfl rfl rfl rfl ?_
          refine r_gd (fun h16 => ?_)
          refine r_lald 30 54 rfl rfl h16 ?_
          refine r_lconst 31 55 (v := 0) rfl rfl (by decide) ?_
          refine r_lcmp 32 56 rfl rfl ?_
          refine r_if_ne 33 66 59 rfl rfl rfl (fun h17 => ?_) (fun h17 => ?_)
          · refine r_iload_n 34 60 2 rfl rfl rfl rfl ?_
            refine r_iconst 35 61 (v := 1) rfl rfl (by decide) ?_
            refine r_iadd 36 62 rfl rfl ?_
            refine r_ltI (fun x18 => ?_)
            refine r_istore_n 37 63 (L' := [(3, .inl x18), (0, .inr (.inr a0)), (2, .inl a2)]) rfl rfl rfl (by decide) rfl ?_
            refine r_goto 38 38 rfl rfl ?_
            exact r_sub [1, 2, 0] rfl (hc38 x18)
          · refine r_leaf (r2 := (f_X12_upTo_j66 t m a0 a2 a3 : Option (Mi))) (he38 _) ?_
            exact hj66 m a3
      exact r_sub [1, 2, 0] rfl (hj38 m 0)
    · exact r_sub [1, 2, 0] rfl (hj66 m s0)
  refine r_icmp_ne 10 25 21 rfl rfl rfl (fun h19 => ?_) (fun h19 => ?_)
  · refine r_iconst 11 22 (v := 0) rfl rfl (by decide) ?_
    refine r_goto 12 26 rfl rfl ?_
    exact r_sub [0, 2] rfl (hj26 m1 0)
  · refine r_iconst 13 26 (v := 1) rfl rfl (by decide) ?_
    exact r_sub [0, 2] rfl (hj26 m1 1)
theorem ct_X12_upTo {t : List Sh} {m : Mi} {a0 : Nat} {a1 : Int32} {a2 : Int32} {m' : Mi}  (h0 : sh t a0 = some (.inl 12)) (h : f_X12_upTo t m a0 a1 a2 = some m') : Ct u_X12_upTo 2 0 0 [.inr (.inr a0), .inl a1, .inl a2] (t, m) (none, (t, m')) :=
  ct_of (by decide) tk_X12_upTo (Nat.le_of_ble_eq_true rfl) (sm_X12_upTo t m a0 a1 a2 h0) (by rw [h]; rfl) (Nat.le_refl _) (Nat.le_refl _)
theorem lk_RX12_199 : Cond.methodLink RX12 199 yX12_first ∈ TB := tbm 1315 (by decide +kernel) rfl
theorem lk_RX12_203 : Cond.methodLink RX12 203 yX12_below ∈ TB := tbm 1319 (by decide +kernel) rfl
def tb_X12_full : Tb := [(0, (.aload_n 0, 1)), (1, (.getfield 20, 3)), (4, (.iload_n 1, 1)), (5, (.iconst 1, 1)), (6, (.iastore, 1)), (7, (.aload_n 0, 1)), (8, (.aload_n 0, 1)), (9, (.getfield 25, 3)), (12, (.iload_n 1, 1)), (13, (.iconst 0, 1)), (14, (.invokestatic 194, 3)), (17, (.invokevirtual 199, 3)), (20, (.aload_n 0, 1)), (21, (.aload_n 0, 1)), (22, (.getfield 25, 3)), (25, (.iload_n 1, 1)), (26, (.iconst 0, 1)), (27, (.invokestatic 203, 3)), (30, (.invokevirtual 206, 3)), (33, (.return_, 1))]
def u_X12_full : Fx := (yX12_full, (cX12_full, (2, (none, tb_X12_full))))
theorem tk_X12_full : ∀ q ∈ u_X12_full.2.2.2.2, decode u_X12_full.2.1 q.1 = .ok q.2 := by decide +kernel
theorem mc_X12_full : MC u_X12_full 1 := ⟨tbm 1311 (by decide +kernel) rfl, tbm 128 (by decide +kernel) rfl, ⟨by decide, by decide, by decide +kernel⟩, by decide⟩
theorem in_X12_full : Cond.instanceMethod u_X12_full.1 ∈ TB ∧ Cond.selects u_X12_full.1.cls u_X12_full.1 u_X12_full.1 ∈ TB := ⟨tbm 1310 (by decide +kernel) rfl, tbm 64 (by decide +kernel) rfl⟩
def f_X12_full (t : List Sh) (m : Mi) (a0 : Nat) (a1 : Int32) : Option (Mi) :=
  (if ar t (gr m a0 7) .int a1 = true then
  lt (si m (gr m a0 7) (ix a1) 1) fun m2 =>
  (f_X12_from a1 0).bind fun x3 =>
  (f_X12_first t m2 a0 (gr m2 a0 8) x3).bind fun m4 =>
  (f_X12_below a1 0).bind fun x5 =>
  (f_X12_none t m4 a0 (gr m4 a0 8) x5).bind fun m6 =>
  some m6
  else none)
set_option maxRecDepth 4000 in
set_option maxHeartbeats 4000000 in
theorem sm_X12_full (t : List Sh) (m : Mi) (a0 : Nat) (a1 : Int32) (h0 : sh t a0 = some (.inl 12)) : Sm u_X12_full (3, 0, 0, t.length, zs t) (kV t) 0 [(0, .inr (.inr a0)), (1, .inl a1)] [] (t, m) (f_X12_full t m a0 a1) := by
  unfold f_X12_full
  refine r_aload_n 0 1 0 rfl rfl rfl rfl ?_
  refine r_getR 1 4 rfl rfl fl_RX12_20 rfl h0 ?_
  refine r_iload_n 2 5 1 rfl rfl rfl rfl ?_
  refine r_iconst 3 6 (v := 1) rfl rfl (by decide) ?_
  refine r_gd (fun h1 => ?_)
  refine r_iast 4 7 rfl rfl h1 ?_
  refine r_ltM (fun m2 => ?_)
  refine r_aload_n 5 8 0 rfl rfl rfl rfl ?_
  refine r_aload_n 6 9 0 rfl rfl rfl rfl ?_
  refine r_getR 7 12 rfl rfl fl_RX12_25 rfl h0 ?_
  refine r_iload_n 8 13 1 rfl rfl rfl rfl ?_
  refine r_iconst 9 14 (v := 0) rfl rfl (by decide) ?_
  refine r_SIo 10 17 (a := 0) (cn := 0) (st := [.inr (.inr (gr m2 a0 8)), .inr (.inr a0)]) (av := [.inl a1, .inl 0]) (μ' := u_X12_from) (d := 1) rfl rfl mc_X12_from st_X12_from lk_RX12_194 (Nat.le_of_ble_eq_true rfl) rfl (Nat.le_of_ble_eq_true rfl) (fun _ h => ct_X12_from h) (fun x3 => ?_)
  refine r_VV 11 20 (st := []) (av := [.inr (.inr a0), .inr (.inr (gr m2 a0 8)), .inl x3]) (av' := [.inr (.inr (gr m2 a0 8)), .inl x3]) (μ' := u_X12_first) (d := 1) rfl rfl mc_X12_first in_X12_first lk_RX12_199 (Nat.le_of_ble_eq_true rfl) rfl rfl h0 rfl (Nat.le_of_ble_eq_true rfl) (fun _ h => ct_X12_first h0 h) (fun m4 => ?_)
  refine r_aload_n 12 21 0 rfl rfl rfl rfl ?_
  refine r_aload_n 13 22 0 rfl rfl rfl rfl ?_
  refine r_getR 14 25 rfl rfl fl_RX12_25 rfl h0 ?_
  refine r_iload_n 15 26 1 rfl rfl rfl rfl ?_
  refine r_iconst 16 27 (v := 0) rfl rfl (by decide) ?_
  refine r_SIo 17 30 (a := 0) (cn := 0) (st := [.inr (.inr (gr m4 a0 8)), .inr (.inr a0)]) (av := [.inl a1, .inl 0]) (μ' := u_X12_below) (d := 2) rfl rfl mc_X12_below st_X12_below lk_RX12_203 (Nat.le_of_ble_eq_true rfl) rfl (Nat.le_of_ble_eq_true rfl) (fun _ h => ct_X12_below h) (fun x5 => ?_)
  refine r_VV 18 33 (st := []) (av := [.inr (.inr a0), .inr (.inr (gr m4 a0 8)), .inl x5]) (av' := [.inr (.inr (gr m4 a0 8)), .inl x5]) (μ' := u_X12_none) (d := 1) rfl rfl mc_X12_none in_X12_none lk_RX12_206 (Nat.le_of_ble_eq_true rfl) rfl rfl h0 rfl (Nat.le_of_ble_eq_true rfl) (fun _ h => ct_X12_none h0 h) (fun m6 => ?_)
  exact r_vret 19 rfl rfl rfl
theorem ct_X12_full {t : List Sh} {m : Mi} {a0 : Nat} {a1 : Int32} {m' : Mi}  (h0 : sh t a0 = some (.inl 12)) (h : f_X12_full t m a0 a1 = some m') : Ct u_X12_full 3 0 0 [.inr (.inr a0), .inl a1] (t, m) (none, (t, m')) :=
  ct_of (by decide) tk_X12_full (Nat.le_of_ble_eq_true rfl) (sm_X12_full t m a0 a1 h0) (by rw [h]; rfl) (Nat.le_refl _) (Nat.le_refl _)
def tb_X12_has : Tb := [(0, (.iconst 0, 1)), (1, (.istore 4, 2)), (3, (.iconst 0, 1)), (4, (.istore 5, 2)), (6, (.iload 5, 2)), (8, (.aload_n 0, 1)), (9, (.getfield 20, 3)), (12, (.iload_n 1, 1)), (13, (.iaload, 1)), (14, (.if_icmp .ge 57, 3)), (17, (.iload 4, 2)), (19, (.ifCond .ne 39, 3)), (22, (.aload_n 0, 1)), (23, (.getfield 25, 3)), (26, (.iload_n 1, 1)), (27, (.iload 5, 2)), (29, (.invokestatic 194, 3)), (32, (.aload_n 2, 1)), (33, (.iload_n 3, 1)), (34, (.invokestatic 209, 3)), (37, (.ifCond .gt 25, 3)), (40, (.aload_n 2, 1)), (41, (.iload_n 3, 1)), (42, (.aload_n 0, 1)), (43, (.getfield 25, 3)), (46, (.iload_n 1, 1)), (47, (.iload 5, 2)), (49, (.invokestatic 203, 3)), (52, (.invokestatic 209, 3)), (55, (.ifCond .ge 7, 3)), (58, (.iconst 1, 1)), (59, (.goto 4, 3)), (62, (.iconst 0, 1)), (63, (.istore 4, 2)), (65, (.iinc 5 1, 3)), (68, (.goto (-62), 3)), (71, (.iload 4, 2)), (73, (.ireturn, 1))]
def u_X12_has : Fx := (yX12_has, (cX12_has, (6, ((some .boolean), tb_X12_has))))
theorem tk_X12_has : ∀ q ∈ u_X12_has.2.2.2.2, decode u_X12_has.2.1 q.1 = .ok q.2 := by decide +kernel
theorem mc_X12_has : MC u_X12_has 3 := ⟨tbm 1613 (by decide +kernel) rfl, tbm 128 (by decide +kernel) rfl, ⟨by decide, by decide, by decide +kernel⟩, by decide⟩
theorem in_X12_has : Cond.instanceMethod u_X12_has.1 ∈ TB ∧ Cond.selects u_X12_has.1.cls u_X12_has.1 u_X12_has.1 ∈ TB := ⟨tbm 1612 (by decide +kernel) rfl, tbm 83 (by decide +kernel) rfl⟩
def f_X12_has_j71 (t : List Sh) (m : Mi) (a4 : Int32) : Option (Int32) :=
  (if zb a4 = true then
  some a4
  else none)
def f_X12_has_l6 (t : List Sh) (m : Mi) (a0 : Nat) (a1 : Int32) (a2 : Nat) (a3 : Int32) (a4 : Int32) (a5 : Int32) : Option ((Int32 × Int32) ⊕ ((Int32))) :=
  (if ar t (gr m a0 7) .int a1 = true then
  if (gi m (gr m a0 7) (ix a1)) ≤ a5 then
    some (.inr a4)
  else
    if a4 = 0 then
      (f_X12_from a1 a5).bind fun x5 =>
      (f_X12_compare t m (gr m a0 8) x5 a2 a3).bind fun x6 =>
      if 0 < x6 then
        lt (a5 + 1) fun x8 =>
        some (.inl (0, x8))
      else
        (f_X12_below a1 a5).bind fun x9 =>
        (f_X12_compare t m a2 a3 (gr m a0 8) x9).bind fun x10 =>
        if 0 ≤ x10 then
          lt (a5 + 1) fun x12 =>
          some (.inl (0, x12))
        else
          lt (a5 + 1) fun x13 =>
          some (.inl (1, x13))
    else
      lt (a5 + 1) fun x14 =>
      some (.inl (1, x14))
  else none)
def f_X12_has_j6 (t : List Sh) (m : Mi) (a0 : Nat) (a1 : Int32) (a2 : Nat) (a3 : Int32) (a4 : Int32) (a5 : Int32) : Option (Int32) :=
  (lp (fun x : Int32 × Int32 => f_X12_has_l6 t m a0 a1 a2 a3 x.1 x.2) FUEL (a4, a5)).bind (fun y : Int32 => f_X12_has_j71 t m y)
def f_X12_has (t : List Sh) (m : Mi) (a0 : Nat) (a1 : Int32) (a2 : Nat) (a3 : Int32) : Option (Int32) :=
  f_X12_has_j6 t m a0 a1 a2 a3 0 0
set_option maxRecDepth 4000 in
set_option maxHeartbeats 4000000 in
theorem sm_X12_has (t : List Sh) (m : Mi) (a0 : Nat) (a1 : Int32) (a2 : Nat) (a3 : Int32) (h0 : sh t a0 = some (.inl 12)) : Sm u_X12_has (3, 0, 0, t.length, zs t) (kIo t m) 0 [(0, .inr (.inr a0)), (1, .inl a1), (2, .inr (.inr a2)), (3, .inl a3)] [] (t, m) (f_X12_has t m a0 a1 a2 a3) := by
  unfold f_X12_has
  refine r_iconst 0 1 (v := 0) rfl rfl (by decide) ?_
  refine r_istore 1 3 (L' := [(4, .inl 0), (0, .inr (.inr a0)), (1, .inl a1), (2, .inr (.inr a2)), (3, .inl a3)]) rfl rfl (by decide) rfl ?_
  refine r_iconst 2 4 (v := 0) rfl rfl (by decide) ?_
  refine r_istore 3 6 (L' := [(5, .inl 0), (4, .inl 0), (0, .inr (.inr a0)), (1, .inl a1), (2, .inr (.inr a2)), (3, .inl a3)]) rfl rfl (by decide) rfl ?_
  have hj6 : ∀ (a4 : Int32) (a5 : Int32), Sm u_X12_has (3, 0, 0, t.length, zs t) (kIo t m) 6 [(0, .inr (.inr a0)), (1, .inl a1), (2, .inr (.inr a2)), (3, .inl a3), (4, .inl a4), (5, .inl a5)] [] (t, m) (f_X12_has_j6 t m a0 a1 a2 a3 a4 a5) := by
    intro a4 a5
    unfold f_X12_has_j6
    have hj71 : ∀ (a4 : Int32), Sm u_X12_has (3, 0, 0, t.length, zs t) (kIo t m) 71 [(4, .inl a4)] [] (t, m) (f_X12_has_j71 t m a4) := by
      intro a4
      unfold f_X12_has_j71
      refine r_iload 36 73 0 rfl rfl rfl ?_
      refine r_gd (fun h1 => ?_)
      exact r_zret 37 rfl rfl (zb_nar h1) rfl
    refine r_lp (Lf := fun x : Int32 × Int32 => [(0, .inr (.inr a0)), (1, .inl a1), (2, .inr (.inr a2)), (3, .inl a3), (4, .inl (x.1)), (5, .inl (x.2))]) (Mf := fun x : Int32 × Int32 => (t, m)) (a4, a5) ?_ FUEL
    rintro ⟨a4, a5⟩ κ6 hc6 he6
    refine r_eq (L' := [(0, .inr (.inr a0)), (1, .inl a1), (2, .inr (.inr a2)), (3, .inl a3), (4, .inl a4), (5, .inl a5)]) (M' := (t, m)) rfl rfl ?_
    refine r_eqr (r' := f_X12_has_l6 t m a0 a1 a2 a3 a4 a5) rfl ?_
    unfold f_X12_has_l6
    refine r_iload 4 8 5 rfl rfl rfl ?_
    refine r_aload_n 5 9 0 rfl rfl rfl rfl ?_
    refine r_getR 6 12 rfl rfl fl_RX12_20 rfl h0 ?_
    refine r_iload_n 7 13 1 rfl rfl rfl rfl ?_
    refine r_gd (fun h2 => ?_)
    refine r_iald 8 14 rfl rfl h2 ?_
    refine r_icmp_ge 9 71 17 rfl rfl rfl (fun h3 => ?_) (fun h3 => ?_)
    · refine r_leaf (r2 := (f_X12_has_j71 t m a4 : Option (Int32))) (he6 _) ?_
      exact r_sub [4] rfl (hj71 a4)
    · refine r_iload 10 19 4 rfl rfl rfl ?_
      refine r_if_ne 11 58 22 rfl rfl rfl (fun h4 => ?_) (fun h4 => ?_)
      · refine r_aload_n 12 23 0 rfl rfl rfl rfl ?_
        refine r_getR 13 26 rfl rfl fl_RX12_25 rfl h0 ?_
        refine r_iload_n 14 27 1 rfl rfl rfl rfl ?_
        refine r_iload 15 29 5 rfl rfl rfl ?_
        refine r_SIo 16 32 (a := 0) (cn := 0) (st := [.inr (.inr (gr m a0 8))]) (av := [.inl a1, .inl a5]) (μ' := u_X12_from) (d := 1) rfl rfl mc_X12_from st_X12_from lk_RX12_194 (Nat.le_of_ble_eq_true rfl) rfl (Nat.le_of_ble_eq_true rfl) (fun _ h => ct_X12_from h) (fun x5 => ?_)
        refine r_aload_n 17 33 2 rfl rfl rfl rfl ?_
        refine r_iload_n 18 34 3 rfl rfl rfl rfl ?_
        refine r_SIo 19 37 (a := 0) (cn := 0) (st := []) (av := [.inr (.inr (gr m a0 8)), .inl x5, .inr (.inr a2), .inl a3]) (μ' := u_X12_compare) (d := 1) rfl rfl mc_X12_compare st_X12_compare lk_RX12_209 (Nat.le_of_ble_eq_true rfl) rfl (Nat.le_of_ble_eq_true rfl) (fun _ h => ct_X12_compare h) (fun x6 => ?_)
        refine r_if_gt 20 62 40 rfl rfl rfl (fun h7 => ?_) (fun h7 => ?_)
        · refine r_iconst 32 63 (v := 0) rfl rfl (by decide) ?_
          refine r_istore 33 65 (L' := [(4, .inl 0), (0, .inr (.inr a0)), (1, .inl a1), (2, .inr (.inr a2)), (3, .inl a3), (5, .inl a5)]) rfl rfl (by decide) rfl ?_
          refine r_iinc 34 68 5 (L' := [(5, .inl (a5 + 1)), (4, .inl 0), (0, .inr (.inr a0)), (1, .inl a1), (2, .inr (.inr a2)), (3, .inl a3)]) rfl rfl rfl (by decide) rfl ?_
          refine r_ltV (fun x8 => ?_)
          refine r_goto 35 6 rfl rfl ?_
          exact r_sub [2, 3, 4, 5, 1, 0] rfl (hc6 (0, x8))
        · refine r_aload_n 21 41 2 rfl rfl rfl rfl ?_
          refine r_iload_n 22 42 3 rfl rfl rfl rfl ?_
          refine r_aload_n 23 43 0 rfl rfl rfl rfl ?_
          refine r_getR 24 46 rfl rfl fl_RX12_25 rfl h0 ?_
          refine r_iload_n 25 47 1 rfl rfl rfl rfl ?_
          refine r_iload 26 49 5 rfl rfl rfl ?_
          refine r_SIo 27 52 (a := 0) (cn := 0) (st := [.inr (.inr (gr m a0 8)), .inl a3, .inr (.inr a2)]) (av := [.inl a1, .inl a5]) (μ' := u_X12_below) (d := 2) rfl rfl mc_X12_below st_X12_below lk_RX12_203 (Nat.le_of_ble_eq_true rfl) rfl (Nat.le_of_ble_eq_true rfl) (fun _ h => ct_X12_below h) (fun x9 => ?_)
          refine r_SIo 28 55 (a := 0) (cn := 0) (st := []) (av := [.inr (.inr a2), .inl a3, .inr (.inr (gr m a0 8)), .inl x9]) (μ' := u_X12_compare) (d := 1) rfl rfl mc_X12_compare st_X12_compare lk_RX12_209 (Nat.le_of_ble_eq_true rfl) rfl (Nat.le_of_ble_eq_true rfl) (fun _ h => ct_X12_compare h) (fun x10 => ?_)
          refine r_if_ge 29 62 58 rfl rfl rfl (fun h11 => ?_) (fun h11 => ?_)
          · refine r_iconst 32 63 (v := 0) rfl rfl (by decide) ?_
            refine r_istore 33 65 (L' := [(4, .inl 0), (0, .inr (.inr a0)), (1, .inl a1), (2, .inr (.inr a2)), (3, .inl a3), (5, .inl a5)]) rfl rfl (by decide) rfl ?_
            refine r_iinc 34 68 5 (L' := [(5, .inl (a5 + 1)), (4, .inl 0), (0, .inr (.inr a0)), (1, .inl a1), (2, .inr (.inr a2)), (3, .inl a3)]) rfl rfl rfl (by decide) rfl ?_
            refine r_ltV (fun x12 => ?_)
            refine r_goto 35 6 rfl rfl ?_
            exact r_sub [2, 3, 4, 5, 1, 0] rfl (hc6 (0, x12))
          · refine r_iconst 30 59 (v := 1) rfl rfl (by decide) ?_
            refine r_goto 31 63 rfl rfl ?_
            refine r_istore 33 65 (L' := [(4, .inl 1), (0, .inr (.inr a0)), (1, .inl a1), (2, .inr (.inr a2)), (3, .inl a3), (5, .inl a5)]) rfl rfl (by decide) rfl ?_
            refine r_iinc 34 68 5 (L' := [(5, .inl (a5 + 1)), (4, .inl 1), (0, .inr (.inr a0)), (1, .inl a1), (2, .inr (.inr a2)), (3, .inl a3)]) rfl rfl rfl (by decide) rfl ?_
            refine r_ltV (fun x13 => ?_)
            refine r_goto 35 6 rfl rfl ?_
            exact r_sub [2, 3, 4, 5, 1, 0] rfl (hc6 (1, x13))
      · refine r_iconst 30 59 (v := 1) rfl rfl (by decide) ?_
        refine r_goto 31 63 rfl rfl ?_
        refine r_istore 33 65 (L' := [(4, .inl 1), (0, .inr (.inr a0)), (1, .inl a1), (2, .inr (.inr a2)), (3, .inl a3), (5, .inl a5)]) rfl rfl (by decide) rfl ?_
        refine r_iinc 34 68 5 (L' := [(5, .inl (a5 + 1)), (4, .inl 1), (0, .inr (.inr a0)), (1, .inl a1), (2, .inr (.inr a2)), (3, .inl a3)]) rfl rfl rfl (by decide) rfl ?_
        refine r_ltV (fun x14 => ?_)
        refine r_goto 35 6 rfl rfl ?_
        exact r_sub [2, 3, 4, 5, 1, 0] rfl (hc6 (1, x14))
  exact r_sub [2, 3, 4, 5, 1, 0] rfl (hj6 0 0)
theorem ct_X12_has {t : List Sh} {m : Mi} {a0 : Nat} {a1 : Int32} {a2 : Nat} {a3 : Int32} {v : Int32}  (h0 : sh t a0 = some (.inl 12)) (h : f_X12_has t m a0 a1 a2 a3 = some v) : Ct u_X12_has 3 0 0 [.inr (.inr a0), .inl a1, .inr (.inr a2), .inl a3] (t, m) (some (.inl v), (t, m)) :=
  ct_of (by decide) tk_X12_has (Nat.le_of_ble_eq_true rfl) (sm_X12_has t m a0 a1 a2 a3 h0) (by rw [h]; rfl) (Nat.le_refl _) (Nat.le_refl _)
theorem lk_RX12_166 : Cond.methodLink RX12 166 yX12_isLetter ∈ TB := tbm 1560 (by decide +kernel) rfl
def tb_X12_identifiers : Tb := [(0, (.iload_n 1, 1)), (1, (.istore 4, 2)), (3, (.iconst 0, 1)), (4, (.istore 5, 2)), (6, (.iconst 1, 1)), (7, (.istore 6, 2)), (9, (.iload 6, 2)), (11, (.ifCond .eq 303, 3)), (14, (.iload 4, 2)), (16, (.istore 7, 2)), (18, (.iconst 1, 1)), (19, (.istore 8, 2)), (21, (.lconst 0, 1)), (22, (.lstore 9, 2)), (24, (.iload 7, 2)), (26, (.iload_n 2, 1)), (27, (.if_icmp .ge 71, 3)), (30, (.aload_n 0, 1)), (31, (.iload 7, 2)), (33, (.invokevirtual 169, 3)), (36, (.invokestatic 163, 3)), (39, (.ifCond .ne 26, 3)), (42, (.aload_n 0, 1)), (43, (.iload 7, 2)), (45, (.invokevirtual 169, 3)), (48, (.invokestatic 166, 3)), (51, (.ifCond .ne 14, 3)), (54, (.aload_n 0, 1)), (55, (.iload 7, 2)), (57, (.invokevirtual 169, 3)), (60, (.bipush 45, 2)), (62, (.if_icmp .ne 36, 3)), (65, (.iload 8, 2)), (67, (.ifCond .eq 19, 3)), (70, (.aload_n 0, 1)), (71, (.iload 7, 2)), (73, (.invokevirtual 169, 3)), (76, (.invokestatic 163, 3)), (79, (.ifCond .eq 7, 3)), (82, (.iconst 1, 1)), (83, (.goto 4, 3)), (86, (.iconst 0, 1)), (87, (.istore 8, 2)), (89, (.iload 7, 2)), (91, (.iconst 1, 1)), (92, (.iadd, 1)), (93, (.istore 7, 2)), (95, (.goto (-71), 3)), (98, (.iload 7, 2)), (100, (.iload 4, 2)), (102, (.isub, 1)), (103, (.istore 11, 2)), (105, (.iload 11, 2)), (107, (.ifCond .eq 16, 3)), (110, (.iload 11, 2)), (112, (.bipush 8, 2)), (114, (.if_icmp .gt 9, 3)), (117, (.iload 5, 2)), (119, (.iconst 4, 1)), (120, (.if_icmp .ne 5, 3)), (123, (.iconst (-1), 1)), (124, (.ireturn, 1)), (125, (.iload_n 3, 1)), (126, (.ifCond .eq 27, 3)), (129, (.iload 8, 2)), (131, (.ifCond .eq 22, 3)), (134, (.iload 11, 2)), (136, (.iconst 1, 1)), (137, (.if_icmp .le 16, 3)), (140, (.aload_n 0, 1)), (141, (.iload 4, 2)), (143, (.invokevirtual 169, 3)), (146, (.bipush 48, 2)), (148, (.if_icmp .ne 5, 3)), (151, (.iconst (-1), 1)), (152, (.ireturn, 1)), (153, (.iconst 0, 1)), (154, (.istore 12, 2)), (156, (.iload 12, 2)), (158, (.iload 8, 2)), (160, (.ifCond .eq 8, 3)), (163, (.iload 11, 2)), (165, (.goto 5, 3)), (168, (.bipush 8, 2)), (170, (.if_icmp .ge 67, 3)), (173, (.iload 8, 2)), (175, (.ifCond .eq 27, 3)), (178, (.ldc2_w 171, 3)), (181, (.lload 9, 2)), (183, (.lmul, 1)), (184, (.aload_n 0, 1)), (185, (.iload 4, 2)), (187, (.iload 12, 2)), (189, (.iadd, 1)), (190, (.invokevirtual 169, 3)), (193, (.i2l, 1)), (194, (.ladd, 1)), (195, (.ldc2_w 173, 3)), (198, (.lsub, 1)), (199, (.goto 30, 3)), (202, (.lload 9, 2)), (204, (.bipush 8, 2)), (206, (.lshl, 1)), (207, (.iload 12, 2)), (209, (.iload 11, 2)), (211, (.if_icmp .ge 15, 3)), (214, (.aload_n 0, 1)), (215, (.iload 4, 2)), (217, (.iload 12, 2)), (219, (.iadd, 1)), (220, (.invokevirtual 169, 3)), (223, (.goto 4, 3)), (226, (.iconst 0, 1)), (227, (.i2l, 1)), (228, (.lor, 1)), (229, (.lstore 9, 2)), (231, (.iinc 12 1, 3)), (234, (.goto (-78), 3)), (237, (.iload_n 3, 1)), (238, (.ifCond .eq 14, 3)), (241, (.aload_n 0, 1)), (242, (.getfield 16, 3)), (245, (.iconst 4, 1)), (246, (.iload 5, 2)), (248, (.iadd, 1)), (249, (.lload 9, 2)), (251, (.lastore, 1)), (252, (.iload 5, 2)), (254, (.iconst 1, 1)), (255, (.iadd, 1)), (256, (.istore 5, 2)), (258, (.iload_n 3, 1)), (259, (.ifCond .eq 12, 3)), (262, (.aload_n 0, 1)), (263, (.getfield 16, 3)), (266, (.iconst 3, 1)), (267, (.iload 5, 2)), (269, (.i2l, 1)), (270, (.lastore, 1)), (271, (.iload 7, 2)), (273, (.iload_n 2, 1)), (274, (.if_icmp .ge 18, 3)), (277, (.aload_n 0, 1)), (278, (.iload 7, 2)), (280, (.invokevirtual 169, 3)), (283, (.bipush 46, 2)), (285, (.if_icmp .ne 7, 3)), (288, (.iconst 1, 1)), (289, (.goto 4, 3)), (292, (.iconst 0, 1)), (293, (.istore 6, 2)), (295, (.iload 6, 2)), (297, (.ifCond .eq 10, 3)), (300, (.iload 7, 2)), (302, (.iconst 1, 1)), (303, (.iadd, 1)), (304, (.goto 5, 3)), (307, (.iload 7, 2)), (309, (.istore 4, 2)), (311, (.goto (-302), 3)), (314, (.iload 4, 2)), (316, (.ireturn, 1))]
def u_X12_identifiers : Fx := (yX12_identifiers, (cX12_identifiers, (13, ((some .int), tb_X12_identifiers))))
theorem tk_X12_identifiers : ∀ q ∈ u_X12_identifiers.2.2.2.2, decode u_X12_identifiers.2.1 q.1 = .ok q.2 := by decide +kernel
theorem mc_X12_identifiers : MC u_X12_identifiers 3 := ⟨tbm 1580 (by decide +kernel) rfl, tbm 128 (by decide +kernel) rfl, ⟨by decide, by decide, by decide +kernel⟩, by decide⟩
theorem in_X12_identifiers : Cond.instanceMethod u_X12_identifiers.1 ∈ TB ∧ Cond.selects u_X12_identifiers.1.cls u_X12_identifiers.1 u_X12_identifiers.1 ∈ TB := ⟨tbm 1579 (by decide +kernel) rfl, tbm 77 (by decide +kernel) rfl⟩
def f_X12_identifiers_j123 (t : List Sh) (m : Mi) : Option (Int32 × Mi) :=
  some ((-1), m)
def f_X12_identifiers_j151 (t : List Sh) (m : Mi) : Option (Int32 × Mi) :=
  some ((-1), m)
def f_X12_identifiers_j314 (t : List Sh) (m : Mi) (a4 : Int32) : Option (Int32 × Mi) :=
  some (a4, m)
def f_X12_identifiers_j293 (t : List Sh) (m : Mi) (a0 : Nat) (a2 : Int32) (a3 : Int32) (a5 : Int32) (a7 : Int32) (s0 : Int32) : Option ((Int32 × Int32 × Int32 × Mi) ⊕ (((Int32 × Mi) ⊕ ((Mi) ⊕ (Mi))))) :=
  if s0 = 0 then
    some (.inl (a7, a5, s0, m))
  else
    lt (a7 + 1) fun x8 =>
    some (.inl (x8, a5, s0, m))
def f_X12_identifiers_j292 (t : List Sh) (m : Mi) (a0 : Nat) (a2 : Int32) (a3 : Int32) (a5 : Int32) (a7 : Int32) : Option ((Int32 × Int32 × Int32 × Mi) ⊕ (((Int32 × Mi) ⊕ ((Mi) ⊕ (Mi))))) :=
  f_X12_identifiers_j293 t m a0 a2 a3 a5 a7 0
def f_X12_identifiers_j271 (t : List Sh) (m : Mi) (a0 : Nat) (a2 : Int32) (a3 : Int32) (a5 : Int32) (a7 : Int32) : Option ((Int32 × Int32 × Int32 × Mi) ⊕ (((Int32 × Mi) ⊕ ((Mi) ⊕ (Mi))))) :=
  if a2 ≤ a7 then
    f_X12_identifiers_j292 t m a0 a2 a3 a5 a7
  else
    (f_X12_at t m a0 a7).bind fun x10 =>
    if x10 = 46 then
      f_X12_identifiers_j293 t m a0 a2 a3 a5 a7 1
    else
      f_X12_identifiers_j292 t m a0 a2 a3 a5 a7
def f_X12_identifiers_j252 (t : List Sh) (m : Mi) (a0 : Nat) (a2 : Int32) (a3 : Int32) (a5 : Int32) (a7 : Int32) : Option ((Int32 × Int32 × Int32 × Mi) ⊕ (((Int32 × Mi) ⊕ ((Mi) ⊕ (Mi))))) :=
  lt (a5 + 1) fun x6 =>
  if a3 = 0 then
    f_X12_identifiers_j271 t m a0 a2 a3 x6 a7
  else
    (if ar t (gr m a0 4) .long 3 = true then
    lt (sl m (gr m a0 4) (ix 3) (Int32.toInt64 x6)) fun m14 =>
    f_X12_identifiers_j271 t m14 a0 a2 a3 x6 a7
    else none)
def f_X12_identifiers_j237 (t : List Sh) (m : Mi) (a0 : Nat) (a2 : Int32) (a3 : Int32) (a5 : Int32) (a7 : Int32) (a9 : Int64) : Option ((Int32 × Int32 × Int32 × Mi) ⊕ (((Int32 × Mi) ⊕ ((Mi) ⊕ (Mi))))) :=
  if a3 = 0 then
    f_X12_identifiers_j252 t m a0 a2 a3 a5 a7
  else
    (if ar t (gr m a0 4) .long (4 + a5) = true then
    lt (sl m (gr m a0 4) (ix (4 + a5)) a9) fun m17 =>
    f_X12_identifiers_j252 t m17 a0 a2 a3 a5 a7
    else none)
def f_X12_identifiers_j170 (t : List Sh) (m : Mi) (a0 : Nat) (a2 : Int32) (a3 : Int32) (a4 : Int32) (a5 : Int32) (a7 : Int32) (a8 : Int32) (a9 : Int64) (a11 : Int32) (a12 : Int32) (s0 : Int32) (s1 : Int32) : Option ((Int64 × Int32) ⊕ ((Int64))) :=
  if s0 ≤ s1 then
    some (.inr a9)
  else
    if a8 = 0 then
      if a11 ≤ a12 then
        lt ((a9 <<< (Int32.toInt64 8 &&& 63)) ||| (Int32.toInt64 0)) fun x21 =>
        lt (a12 + 1) fun x22 =>
        some (.inl (x21, x22))
      else
        (f_X12_at t m a0 (a4 + a12)).bind fun x23 =>
        lt ((a9 <<< (Int32.toInt64 8 &&& 63)) ||| (Int32.toInt64 x23)) fun x24 =>
        lt (a12 + 1) fun x25 =>
        some (.inl (x24, x25))
    else
      (f_X12_at t m a0 (a4 + a12)).bind fun x26 =>
      lt (((10 * a9) + (Int32.toInt64 x26)) - 48) fun x27 =>
      lt (a12 + 1) fun x28 =>
      some (.inl (x27, x28))
def f_X12_identifiers_l156 (t : List Sh) (m : Mi) (a0 : Nat) (a2 : Int32) (a3 : Int32) (a4 : Int32) (a5 : Int32) (a7 : Int32) (a8 : Int32) (a9 : Int64) (a11 : Int32) (a12 : Int32) : Option ((Int64 × Int32) ⊕ ((Int64))) :=
  if a8 = 0 then
    f_X12_identifiers_j170 t m a0 a2 a3 a4 a5 a7 a8 a9 a11 a12 8 a12
  else
    f_X12_identifiers_j170 t m a0 a2 a3 a4 a5 a7 a8 a9 a11 a12 a11 a12
def f_X12_identifiers_j156 (t : List Sh) (m : Mi) (a0 : Nat) (a2 : Int32) (a3 : Int32) (a4 : Int32) (a5 : Int32) (a7 : Int32) (a8 : Int32) (a9 : Int64) (a11 : Int32) (a12 : Int32) : Option ((Int32 × Int32 × Int32 × Mi) ⊕ (((Int32 × Mi) ⊕ ((Mi) ⊕ (Mi))))) :=
  (lp (fun x : Int64 × Int32 => f_X12_identifiers_l156 t m a0 a2 a3 a4 a5 a7 a8 x.1 a11 x.2) FUEL (a9, a12)).bind (fun y : Int64 => f_X12_identifiers_j237 t m a0 a2 a3 a5 a7 y)
def f_X12_identifiers_j153 (t : List Sh) (m : Mi) (a0 : Nat) (a2 : Int32) (a3 : Int32) (a4 : Int32) (a5 : Int32) (a7 : Int32) (a8 : Int32) (a9 : Int64) (a11 : Int32) : Option ((Int32 × Int32 × Int32 × Mi) ⊕ (((Int32 × Mi) ⊕ ((Mi) ⊕ (Mi))))) :=
  f_X12_identifiers_j156 t m a0 a2 a3 a4 a5 a7 a8 a9 a11 0
def f_X12_identifiers_j98 (t : List Sh) (m : Mi) (a0 : Nat) (a2 : Int32) (a3 : Int32) (a4 : Int32) (a5 : Int32) (a7 : Int32) (a8 : Int32) (a9 : Int64) : Option ((Int32 × Int32 × Int32 × Mi) ⊕ (((Int32 × Mi) ⊕ ((Mi) ⊕ (Mi))))) :=
  lt (a7 - a4) fun x2 =>
  if x2 = 0 then
    some (.inr (.inr (.inl m)))
  else
    if 8 < x2 then
      some (.inr (.inr (.inl m)))
    else
      if a5 = 4 then
        some (.inr (.inr (.inl m)))
      else
        if a3 = 0 then
          f_X12_identifiers_j153 t m a0 a2 a3 a4 a5 a7 a8 a9 x2
        else
          if a8 = 0 then
            f_X12_identifiers_j153 t m a0 a2 a3 a4 a5 a7 a8 a9 x2
          else
            if x2 ≤ 1 then
              f_X12_identifiers_j153 t m a0 a2 a3 a4 a5 a7 a8 a9 x2
            else
              (f_X12_at t m a0 a4).bind fun x33 =>
              if x33 = 48 then
                some (.inr (.inr (.inr m)))
              else
                f_X12_identifiers_j153 t m a0 a2 a3 a4 a5 a7 a8 a9 x2
def f_X12_identifiers_j65 (t : List Sh) (m : Mi) (a0 : Nat) (a2 : Int32) (a3 : Int32) (a4 : Int32) (a5 : Int32) (a7 : Int32) (a8 : Int32) (a9 : Int64) : Option ((Int32 × Int32) ⊕ ((Int32 × Int32))) :=
  if a8 = 0 then
    lt (a7 + 1) fun x39 =>
    some (.inl (x39, 0))
  else
    (f_X12_at t m a0 a7).bind fun x40 =>
    (f_X12_isDigit x40).bind fun x41 =>
    if x41 = 0 then
      lt (a7 + 1) fun x43 =>
      some (.inl (x43, 0))
    else
      lt (a7 + 1) fun x44 =>
      some (.inl (x44, 1))
def f_X12_identifiers_l24 (t : List Sh) (m : Mi) (a0 : Nat) (a2 : Int32) (a3 : Int32) (a4 : Int32) (a5 : Int32) (a7 : Int32) (a8 : Int32) (a9 : Int64) : Option ((Int32 × Int32) ⊕ ((Int32 × Int32))) :=
  if a2 ≤ a7 then
    some (.inr (a7, a8))
  else
    (f_X12_at t m a0 a7).bind fun x36 =>
    (f_X12_isDigit x36).bind fun x37 =>
    if x37 = 0 then
      (f_X12_at t m a0 a7).bind fun x46 =>
      (f_X12_isLetter x46).bind fun x47 =>
      if x47 = 0 then
        (f_X12_at t m a0 a7).bind fun x49 =>
        if x49 = 45 then
          f_X12_identifiers_j65 t m a0 a2 a3 a4 a5 a7 a8 a9
        else
          some (.inr (a7, a8))
      else
        f_X12_identifiers_j65 t m a0 a2 a3 a4 a5 a7 a8 a9
    else
      f_X12_identifiers_j65 t m a0 a2 a3 a4 a5 a7 a8 a9
def f_X12_identifiers_j24 (t : List Sh) (m : Mi) (a0 : Nat) (a2 : Int32) (a3 : Int32) (a4 : Int32) (a5 : Int32) (a7 : Int32) (a8 : Int32) (a9 : Int64) : Option ((Int32 × Int32 × Int32 × Mi) ⊕ (((Int32 × Mi) ⊕ ((Mi) ⊕ (Mi))))) :=
  (lp (fun x : Int32 × Int32 => f_X12_identifiers_l24 t m a0 a2 a3 a4 a5 x.1 x.2 a9) FUEL (a7, a8)).bind (fun y : Int32 × Int32 => f_X12_identifiers_j98 t m a0 a2 a3 a4 a5 (y.1) (y.2) a9)
def f_X12_identifiers_l9 (t : List Sh) (m : Mi) (a0 : Nat) (a2 : Int32) (a3 : Int32) (a4 : Int32) (a5 : Int32) (a6 : Int32) : Option ((Int32 × Int32 × Int32 × Mi) ⊕ (((Int32 × Mi) ⊕ ((Mi) ⊕ (Mi))))) :=
  if a6 = 0 then
    some (.inr (.inl (a4, m)))
  else
    f_X12_identifiers_j24 t m a0 a2 a3 a4 a5 a4 1 0
def f_X12_identifiers_j9 (t : List Sh) (m : Mi) (a0 : Nat) (a2 : Int32) (a3 : Int32) (a4 : Int32) (a5 : Int32) (a6 : Int32) : Option (Int32 × Mi) :=
  (lp (fun x : Int32 × Int32 × Int32 × Mi => f_X12_identifiers_l9 t x.2.2.2 a0 a2 a3 x.1 x.2.1 x.2.2.1) FUEL (a4, a5, a6, m)).bind (Sum.elim (fun y : Int32 × Mi => f_X12_identifiers_j314 t (y.2) (y.1)) (Sum.elim (fun y : Mi => f_X12_identifiers_j123 t y) (fun y : Mi => f_X12_identifiers_j151 t y)))
def f_X12_identifiers (t : List Sh) (m : Mi) (a0 : Nat) (a1 : Int32) (a2 : Int32) (a3 : Int32) : Option (Int32 × Mi) :=
  f_X12_identifiers_j9 t m a0 a2 a3 a1 0 1
set_option maxRecDepth 4000 in
set_option maxHeartbeats 4000000 in
theorem sm_X12_identifiers (t : List Sh) (m : Mi) (a0 : Nat) (a1 : Int32) (a2 : Int32) (a3 : Int32) (h0 : sh t a0 = some (.inl 12)) : Sm u_X12_identifiers (3, 0, 0, t.length, zs t) (kI t) 0 [(0, .inr (.inr a0)), (1, .inl a1), (2, .inl a2), (3, .inl a3)] [] (t, m) (f_X12_identifiers t m a0 a1 a2 a3) := by
  unfold f_X12_identifiers
  refine r_iload_n 0 1 1 rfl rfl rfl rfl ?_
  refine r_istore 1 3 (L' := [(4, .inl a1), (0, .inr (.inr a0)), (1, .inl a1), (2, .inl a2), (3, .inl a3)]) rfl rfl (by decide) rfl ?_
  refine r_iconst 2 4 (v := 0) rfl rfl (by decide) ?_
  refine r_istore 3 6 (L' := [(5, .inl 0), (4, .inl a1), (0, .inr (.inr a0)), (1, .inl a1), (2, .inl a2), (3, .inl a3)]) rfl rfl (by decide) rfl ?_
  refine r_iconst 4 7 (v := 1) rfl rfl (by decide) ?_
  refine r_istore 5 9 (L' := [(6, .inl 1), (5, .inl 0), (4, .inl a1), (0, .inr (.inr a0)), (1, .inl a1), (2, .inl a2), (3, .inl a3)]) rfl rfl (by decide) rfl ?_
  have hj9 : ∀ (m : Mi) (a4 : Int32) (a5 : Int32) (a6 : Int32), Sm u_X12_identifiers (3, 0, 0, t.length, zs t) (kI t) 9 [(0, .inr (.inr a0)), (2, .inl a2), (3, .inl a3), (4, .inl a4), (5, .inl a5), (6, .inl a6)] [] (t, m) (f_X12_identifiers_j9 t m a0 a2 a3 a4 a5 a6) := by
    intro m a4 a5 a6
    unfold f_X12_identifiers_j9
    have hj123 : ∀ (m : Mi), Sm u_X12_identifiers (3, 0, 0, t.length, zs t) (kI t) 123 [] [] (t, m) (f_X12_identifiers_j123 t m) := by
      intro m
      unfold f_X12_identifiers_j123
      refine r_iconst 60 124 (v := (-1)) rfl rfl (by decide) ?_
      exact r_iret 61 rfl rfl rfl
    have hj151 : ∀ (m : Mi), Sm u_X12_identifiers (3, 0, 0, t.length, zs t) (kI t) 151 [] [] (t, m) (f_X12_identifiers_j151 t m) := by
      intro m
      unfold f_X12_identifiers_j151
      refine r_iconst 74 152 (v := (-1)) rfl rfl (by decide) ?_
      exact r_iret 75 rfl rfl rfl
    have hj314 : ∀ (m : Mi) (a4 : Int32), Sm u_X12_identifiers (3, 0, 0, t.length, zs t) (kI t) 314 [(4, .inl a4)] [] (t, m) (f_X12_identifiers_j314 t m a4) := by
      intro m a4
      unfold f_X12_identifiers_j314
      refine r_iload 160 316 0 rfl rfl rfl ?_
      exact r_iret 161 rfl rfl rfl
    refine r_lp (Lf := fun x : Int32 × Int32 × Int32 × Mi => [(0, .inr (.inr a0)), (2, .inl a2), (3, .inl a3), (4, .inl (x.1)), (5, .inl (x.2.1)), (6, .inl (x.2.2.1))]) (Mf := fun x : Int32 × Int32 × Int32 × Mi => (t, x.2.2.2)) (a4, a5, a6, m) ?_ FUEL
    rintro ⟨a4, a5, a6, m⟩ κ9 hc9 he9
    refine r_eq (L' := [(0, .inr (.inr a0)), (2, .inl a2), (3, .inl a3), (4, .inl a4), (5, .inl a5), (6, .inl a6)]) (M' := (t, m)) rfl rfl ?_
    refine r_eqr (r' := f_X12_identifiers_l9 t m a0 a2 a3 a4 a5 a6) rfl ?_
    unfold f_X12_identifiers_l9
    refine r_iload 6 11 5 rfl rfl rfl ?_
    refine r_if_eq 7 314 14 rfl rfl rfl (fun h1 => ?_) (fun h1 => ?_)
    · refine r_leaf (r2 := (f_X12_identifiers_j314 t m a4 : Option (Int32 × Mi))) (he9 _) ?_
      exact r_sub [3] rfl (hj314 m a4)
    · refine r_iload 8 16 3 rfl rfl rfl ?_
      refine r_istore 9 18 (L' := [(7, .inl a4), (0, .inr (.inr a0)), (2, .inl a2), (3, .inl a3), (4, .inl a4), (5, .inl a5), (6, .inl a6)]) rfl rfl (by decide) rfl ?_
      refine r_iconst 10 19 (v := 1) rfl rfl (by decide) ?_
      refine r_istore 11 21 (L' := [(8, .inl 1), (7, .inl a4), (0, .inr (.inr a0)), (2, .inl a2), (3, .inl a3), (4, .inl a4), (5, .inl a5), (6, .inl a6)]) rfl rfl (by decide) rfl ?_
      refine r_lconst 12 22 (v := 0) rfl rfl (by decide) ?_
      refine r_lstore 13 24 (L' := [(9, .inr (.inl 0)), (8, .inl 1), (7, .inl a4), (0, .inr (.inr a0)), (2, .inl a2), (3, .inl a3), (4, .inl a4), (5, .inl a5), (6, .inl a6)]) rfl rfl (by decide) rfl ?_
      have hj24 : ∀ (m : Mi) (a4 : Int32) (a5 : Int32) (a7 : Int32) (a8 : Int32) (a9 : Int64), Sm u_X12_identifiers (3, 0, 0, t.length, zs t) κ9 24 [(0, .inr (.inr a0)), (2, .inl a2), (3, .inl a3), (4, .inl a4), (5, .inl a5), (7, .inl a7), (8, .inl a8), (9, .inr (.inl a9))] [] (t, m) (f_X12_identifiers_j24 t m a0 a2 a3 a4 a5 a7 a8 a9) := by
        intro m a4 a5 a7 a8 a9
        unfold f_X12_identifiers_j24
        have hj98 : ∀ (m : Mi) (a4 : Int32) (a5 : Int32) (a7 : Int32) (a8 : Int32) (a9 : Int64), Sm u_X12_identifiers (3, 0, 0, t.length, zs t) κ9 98 [(0, .inr (.inr a0)), (2, .inl a2), (3, .inl a3), (4, .inl a4), (5, .inl a5), (7, .inl a7), (8, .inl a8), (9, .inr (.inl a9))] [] (t, m) (f_X12_identifiers_j98 t m a0 a2 a3 a4 a5 a7 a8 a9) := by
          intro m a4 a5 a7 a8 a9
          unfold f_X12_identifiers_j98
          refine r_iload 48 100 5 rfl rfl rfl ?_
          refine r_iload 49 102 3 rfl rfl rfl ?_
          refine r_isub 50 103 rfl rfl ?_
          refine r_ltI (fun x2 => ?_)
          refine r_istore 51 105 (L' := [(11, .inl x2), (0, .inr (.inr a0)), (2, .inl a2), (3, .inl a3), (4, .inl a4), (5, .inl a5), (7, .inl a7), (8, .inl a8), (9, .inr (.inl a9))]) rfl rfl (by decide) rfl ?_
          refine r_iload 52 107 0 rfl rfl rfl ?_
          refine r_if_eq 53 123 110 rfl rfl rfl (fun h3 => ?_) (fun h3 => ?_)
          · refine r_leaf (r2 := (f_X12_identifiers_j123 t m : Option (Int32 × Mi))) (he9 _) ?_
            exact r_sub [] rfl (hj123 m)
          · refine r_iload 54 112 0 rfl rfl rfl ?_
            refine r_bipush 55 114 (v := 8) rfl rfl (by decide) ?_
            refine r_icmp_gt 56 123 117 rfl rfl rfl (fun h4 => ?_) (fun h4 => ?_)
            · refine r_leaf (r2 := (f_X12_identifiers_j123 t m : Option (Int32 × Mi))) (he9 _) ?_
              exact r_sub [] rfl (hj123 m)
            · refine r_iload 57 119 5 rfl rfl rfl ?_
              refine r_iconst 58 120 (v := 4) rfl rfl (by decide) ?_
              refine r_icmp_ne 59 125 123 rfl rfl rfl (fun h5 => ?_) (fun h5 => ?_)
              · refine r_leaf (r2 := (f_X12_identifiers_j123 t m : Option (Int32 × Mi))) (he9 _) ?_
                exact r_sub [] rfl (hj123 m)
              · refine r_iload_n 62 126 3 rfl rfl rfl rfl ?_
                have hj153 : ∀ (m : Mi) (a4 : Int32) (a5 : Int32) (a7 : Int32) (a8 : Int32) (a9 : Int64) (a11 : Int32), Sm u_X12_identifiers (3, 0, 0, t.length, zs t) κ9 153 [(0, .inr (.inr a0)), (2, .inl a2), (3, .inl a3), (4, .inl a4), (5, .inl a5), (7, .inl a7), (8, .inl a8), (9, .inr (.inl a9)), (11, .inl a11)] [] (t, m) (f_X12_identifiers_j153 t m a0 a2 a3 a4 a5 a7 a8 a9 a11) := by
                  intro m a4 a5 a7 a8 a9 a11
                  unfold f_X12_identifiers_j153
                  refine r_iconst 76 154 (v := 0) rfl rfl (by decide) ?_
                  refine r_istore 77 156 (L' := [(12, .inl 0), (0, .inr (.inr a0)), (2, .inl a2), (3, .inl a3), (4, .inl a4), (5, .inl a5), (7, .inl a7), (8, .inl a8), (9, .inr (.inl a9)), (11, .inl a11)]) rfl rfl (by decide) rfl ?_
                  have hj156 : ∀ (m : Mi) (a4 : Int32) (a5 : Int32) (a7 : Int32) (a8 : Int32) (a9 : Int64) (a11 : Int32) (a12 : Int32), Sm u_X12_identifiers (3, 0, 0, t.length, zs t) κ9 156 [(0, .inr (.inr a0)), (2, .inl a2), (3, .inl a3), (4, .inl a4), (5, .inl a5), (7, .inl a7), (8, .inl a8), (9, .inr (.inl a9)), (11, .inl a11), (12, .inl a12)] [] (t, m) (f_X12_identifiers_j156 t m a0 a2 a3 a4 a5 a7 a8 a9 a11 a12) := by
                    intro m a4 a5 a7 a8 a9 a11 a12
                    unfold f_X12_identifiers_j156
                    have hj237 : ∀ (m : Mi) (a5 : Int32) (a7 : Int32) (a9 : Int64), Sm u_X12_identifiers (3, 0, 0, t.length, zs t) κ9 237 [(0, .inr (.inr a0)), (2, .inl a2), (3, .inl a3), (5, .inl a5), (7, .inl a7), (9, .inr (.inl a9))] [] (t, m) (f_X12_identifiers_j237 t m a0 a2 a3 a5 a7 a9) := by
                      intro m a5 a7 a9
                      unfold f_X12_identifiers_j237
                      refine r_iload_n 118 238 2 rfl rfl rfl rfl ?_
                      have hj252 : ∀ (m : Mi) (a5 : Int32) (a7 : Int32), Sm u_X12_identifiers (3, 0, 0, t.length, zs t) κ9 252 [(0, .inr (.inr a0)), (2, .inl a2), (3, .inl a3), (5, .inl a5), (7, .inl a7)] [] (t, m) (f_X12_identifiers_j252 t m a0 a2 a3 a5 a7) := by
                        intro m a5 a7
                        unfold f_X12_identifiers_j252
                        refine r_iload 127 254 3 rfl rfl rfl ?_
                        refine r_iconst 128 255 (v := 1) rfl rfl (by decide) ?_
                        refine r_iadd 129 256 rfl rfl ?_
                        refine r_ltI (fun x6 => ?_)
                        refine r_istore 130 258 (L' := [(5, .inl x6), (0, .inr (.inr a0)), (2, .inl a2), (3, .inl a3), (7, .inl a7)]) rfl rfl (by decide) rfl ?_
                        refine r_iload_n 131 259 3 rfl rfl rfl rfl ?_
                        have hj271 : ∀ (m : Mi) (a5 : Int32) (a7 : Int32), Sm u_X12_identifiers (3, 0, 0, t.length, zs t) κ9 271 [(0, .inr (.inr a0)), (2, .inl a2), (3, .inl a3), (5, .inl a5), (7, .inl a7)] [] (t, m) (f_X12_identifiers_j271 t m a0 a2 a3 a5 a7) := by
                          intro m a5 a7
                          unfold f_X12_identifiers_j271
                          refine r_iload 139 273 4 rfl rfl rfl ?_
                          refine r_iload_n 140 274 1 rfl rfl rfl rfl ?_
                          have hj293 : ∀ (m : Mi) (a5 : Int32) (a7 : Int32) (s0 : Int32), Sm u_X12_identifiers (3, 0, 0, t.length, zs t) κ9 293 [(0, .inr (.inr a0)), (2, .inl a2), (3, .inl a3), (5, .inl a5), (7, .inl a7)] [.inl s0] (t, m) (f_X12_identifiers_j293 t m a0 a2 a3 a5 a7 s0) := by
                            intro m a5 a7 s0
                            unfold f_X12_identifiers_j293
                            refine r_istore 150 295 (L' := [(6, .inl s0), (0, .inr (.inr a0)), (2, .inl a2), (3, .inl a3), (5, .inl a5), (7, .inl a7)]) rfl rfl (by decide) rfl ?_
                            refine r_iload 151 297 0 rfl rfl rfl ?_
                            refine r_if_eq 152 307 300 rfl rfl rfl (fun h7 => ?_) (fun h7 => ?_)
                            · refine r_iload 157 309 5 rfl rfl rfl ?_
                              refine r_istore 158 311 (L' := [(4, .inl a7), (6, .inl s0), (0, .inr (.inr a0)), (2, .inl a2), (3, .inl a3), (5, .inl a5), (7, .inl a7)]) rfl rfl (by decide) rfl ?_
                              refine r_goto 159 9 rfl rfl ?_
                              exact r_sub [2, 3, 4, 0, 5, 1] rfl (hc9 (a7, a5, s0, m))
                            · refine r_iload 153 302 5 rfl rfl rfl ?_
                              refine r_iconst 154 303 (v := 1) rfl rfl (by decide) ?_
                              refine r_iadd 155 304 rfl rfl ?_
                              refine r_goto 156 309 rfl rfl ?_
                              refine r_ltI (fun x8 => ?_)
                              refine r_istore 158 311 (L' := [(4, .inl x8), (6, .inl s0), (0, .inr (.inr a0)), (2, .inl a2), (3, .inl a3), (5, .inl a5), (7, .inl a7)]) rfl rfl (by decide) rfl ?_
                              refine r_goto 159 9 rfl rfl ?_
                              exact r_sub [2, 3, 4, 0, 5, 1] rfl (hc9 (x8, a5, s0, m))
                          have hj292 : ∀ (m : Mi) (a5 : Int32) (a7 : Int32), Sm u_X12_identifiers (3, 0, 0, t.length, zs t) κ9 292 [(0, .inr (.inr a0)), (2, .inl a2), (3, .inl a3), (5, .inl a5), (7, .inl a7)] [] (t, m) (f_X12_identifiers_j292 t m a0 a2 a3 a5 a7) := by
                            intro m a5 a7
                            unfold f_X12_identifiers_j292
                            refine r_iconst 149 293 (v := 0) rfl rfl (by decide) ?_
                            exact hj293 m a5 a7 0
                          refine r_icmp_ge 141 292 277 rfl rfl rfl (fun h9 => ?_) (fun h9 => ?_)
                          · exact hj292 m a5 a7
                          · refine r_aload_n 142 278 0 rfl rfl rfl rfl ?_
                            refine r_iload 143 280 4 rfl rfl rfl ?_
                            refine r_VIo 144 283 (st := []) (av := [.inr (.inr a0), .inl a7]) (av' := [.inl a7]) (μ' := u_X12_at) (d := 1) rfl rfl mc_X12_at in_X12_at lk_RX12_169 (Nat.le_of_ble_eq_true rfl) rfl rfl h0 rfl (Nat.le_of_ble_eq_true rfl) (fun _ h => ct_X12_at h0 h) (fun x10 => ?_)
                            refine r_bipush 145 285 (v := 46) rfl rfl (by decide) ?_
                            refine r_icmp_ne 146 292 288 rfl rfl rfl (fun h11 => ?_) (fun h11 => ?_)
                            · refine r_iconst 147 289 (v := 1) rfl rfl (by decide) ?_
                              refine r_goto 148 293 rfl rfl ?_
                              exact hj293 m a5 a7 1
                            · exact hj292 m a5 a7
                        refine r_if_eq 132 271 262 rfl rfl rfl (fun h12 => ?_) (fun h12 => ?_)
                        · exact r_sub [1, 2, 3, 0, 4] rfl (hj271 m x6 a7)
                        · refine r_aload_n 133 263 1 rfl rfl rfl rfl ?_
                          refine r_getR 134 266 rfl rfl fl_RX12_16 rfl h0 ?_
                          refine r_iconst 135 267 (v := 3) rfl rfl (by decide) ?_
                          refine r_iload 136 269 0 rfl rfl rfl ?_
                          refine r_i2l 137 270 rfl rfl ?_
                          refine r_gd (fun h13 => ?_)
                          refine r_last 138 271 rfl rfl h13 ?_
                          refine r_ltM (fun m14 => ?_)
                          exact r_sub [1, 2, 3, 0, 4] rfl (hj271 m14 x6 a7)
                      refine r_if_eq 119 252 241 rfl rfl rfl (fun h15 => ?_) (fun h15 => ?_)
                      · exact r_sub [0, 1, 2, 3, 4] rfl (hj252 m a5 a7)
                      · refine r_aload_n 120 242 0 rfl rfl rfl rfl ?_
                        refine r_getR 121 245 rfl rfl fl_RX12_16 rfl h0 ?_
                        refine r_iconst 122 246 (v := 4) rfl rfl (by decide) ?_
                        refine r_iload 123 248 3 rfl rfl rfl ?_
                        refine r_iadd 124 249 rfl rfl ?_
                        refine r_lload 125 251 5 rfl rfl rfl ?_
                        refine r_gd (fun h16 => ?_)
                        refine r_last 126 252 rfl rfl h16 ?_
                        refine r_ltM (fun m17 => ?_)
                        exact r_sub [0, 1, 2, 3, 4] rfl (hj252 m17 a5 a7)
                    refine r_lp (Lf := fun x : Int64 × Int32 => [(0, .inr (.inr a0)), (2, .inl a2), (3, .inl a3), (4, .inl a4), (5, .inl a5), (7, .inl a7), (8, .inl a8), (9, .inr (.inl (x.1))), (11, .inl a11), (12, .inl (x.2))]) (Mf := fun x : Int64 × Int32 => (t, m)) (a9, a12) ?_ FUEL
                    rintro ⟨a9, a12⟩ κ156 hc156 he156
                    refine r_eq (L' := [(0, .inr (.inr a0)), (2, .inl a2), (3, .inl a3), (4, .inl a4), (5, .inl a5), (7, .inl a7), (8, .inl a8), (9, .inr (.inl a9)), (11, .inl a11), (12, .inl a12)]) (M' := (t, m)) rfl rfl ?_
                    refine r_eqr (r' := f_X12_identifiers_l156 t m a0 a2 a3 a4 a5 a7 a8 a9 a11 a12) rfl ?_
                    unfold f_X12_identifiers_l156
                    refine r_iload 78 158 9 rfl rfl rfl ?_
                    refine r_iload 79 160 6 rfl rfl rfl ?_
                    have hj170 : ∀ (a9 : Int64) (a12 : Int32) (s0 : Int32) (s1 : Int32), Sm u_X12_identifiers (3, 0, 0, t.length, zs t) κ156 170 [(0, .inr (.inr a0)), (2, .inl a2), (3, .inl a3), (4, .inl a4), (5, .inl a5), (7, .inl a7), (8, .inl a8), (9, .inr (.inl a9)), (11, .inl a11), (12, .inl a12)] [.inl s0, .inl s1] (t, m) (f_X12_identifiers_j170 t m a0 a2 a3 a4 a5 a7 a8 a9 a11 a12 s0 s1) := by
                      intro a9 a12 s0 s1
                      unfold f_X12_identifiers_j170
                      refine r_icmp_ge 84 237 173 rfl rfl rfl (fun h18 => ?_) (fun h18 => ?_)
                      · refine r_leaf (r2 := (f_X12_identifiers_j237 t m a0 a2 a3 a5 a7 a9 : Option ((Int32 × Int32 × Int32 × Mi) ⊕ (((Int32 × Mi) ⊕ ((Mi) ⊕ (Mi))))))) (he156 _) ?_
                        exact r_sub [0, 1, 2, 4, 5, 7] rfl (hj237 m a5 a7 a9)
                      · refine r_iload 85 175 6 rfl rfl rfl ?_
                        refine r_if_eq 86 202 178 rfl rfl rfl (fun h19 => ?_) (fun h19 => ?_)
                        · refine r_lload 100 204 7 rfl rfl rfl ?_
                          refine r_bipush 101 206 (v := 8) rfl rfl (by decide) ?_
                          refine r_lshl 102 207 rfl rfl ?_
                          refine r_iload 103 209 9 rfl rfl rfl ?_
                          refine r_iload 104 211 8 rfl rfl rfl ?_
                          refine r_icmp_ge 105 226 214 rfl rfl rfl (fun h20 => ?_) (fun h20 => ?_)
                          · refine r_iconst 112 227 (v := 0) rfl rfl (by decide) ?_
                            refine r_i2l 113 228 rfl rfl ?_
                            refine r_lor 114 229 rfl rfl ?_
                            refine r_ltL (fun x21 => ?_)
                            refine r_lstore 115 231 (L' := [(9, .inr (.inl x21)), (0, .inr (.inr a0)), (2, .inl a2), (3, .inl a3), (4, .inl a4), (5, .inl a5), (7, .inl a7), (8, .inl a8), (11, .inl a11), (12, .inl a12)]) rfl rfl (by decide) rfl ?_
                            refine r_iinc 116 234 9 (L' := [(12, .inl (a12 + 1)), (9, .inr (.inl x21)), (0, .inr (.inr a0)), (2, .inl a2), (3, .inl a3), (4, .inl a4), (5, .inl a5), (7, .inl a7), (8, .inl a8), (11, .inl a11)]) rfl rfl rfl (by decide) rfl ?_
                            refine r_ltV (fun x22 => ?_)
                            refine r_goto 117 156 rfl rfl ?_
                            exact r_sub [2, 3, 4, 5, 6, 7, 8, 1, 9, 0] rfl (hc156 (x21, x22))
                          · refine r_aload_n 106 215 0 rfl rfl rfl rfl ?_
                            refine r_iload 107 217 3 rfl rfl rfl ?_
                            refine r_iload 108 219 9 rfl rfl rfl ?_
                            refine r_iadd 109 220 rfl rfl ?_
                            refine r_VIo 110 223 (st := [.inr (.inl (a9 <<< (Int32.toInt64 8 &&& 63)))]) (av := [.inr (.inr a0), .inl (a4 + a12)]) (av' := [.inl (a4 + a12)]) (μ' := u_X12_at) (d := 1) rfl rfl mc_X12_at in_X12_at lk_RX12_169 (Nat.le_of_ble_eq_true rfl) rfl rfl h0 rfl (Nat.le_of_ble_eq_true rfl) (fun _ h => ct_X12_at h0 h) (fun x23 => ?_)
                            refine r_goto 111 227 rfl rfl ?_
                            refine r_i2l 113 228 rfl rfl ?_
                            refine r_lor 114 229 rfl rfl ?_
                            refine r_ltL (fun x24 => ?_)
                            refine r_lstore 115 231 (L' := [(9, .inr (.inl x24)), (0, .inr (.inr a0)), (2, .inl a2), (3, .inl a3), (4, .inl a4), (5, .inl a5), (7, .inl a7), (8, .inl a8), (11, .inl a11), (12, .inl a12)]) rfl rfl (by decide) rfl ?_
                            refine r_iinc 116 234 9 (L' := [(12, .inl (a12 + 1)), (9, .inr (.inl x24)), (0, .inr (.inr a0)), (2, .inl a2), (3, .inl a3), (4, .inl a4), (5, .inl a5), (7, .inl a7), (8, .inl a8), (11, .inl a11)]) rfl rfl rfl (by decide) rfl ?_
                            refine r_ltV (fun x25 => ?_)
                            refine r_goto 117 156 rfl rfl ?_
                            exact r_sub [2, 3, 4, 5, 6, 7, 8, 1, 9, 0] rfl (hc156 (x24, x25))
                        · refine r_ldc2 87 181 rfl rfl kc_RX12_171 ?_
                          refine r_lload 88 183 7 rfl rfl rfl ?_
                          refine r_lmul 89 184 rfl rfl ?_
                          refine r_aload_n 90 185 0 rfl rfl rfl rfl ?_
                          refine r_iload 91 187 3 rfl rfl rfl ?_
                          refine r_iload 92 189 9 rfl rfl rfl ?_
                          refine r_iadd 93 190 rfl rfl ?_
                          refine r_VIo 94 193 (st := [.inr (.inl (10 * a9))]) (av := [.inr (.inr a0), .inl (a4 + a12)]) (av' := [.inl (a4 + a12)]) (μ' := u_X12_at) (d := 1) rfl rfl mc_X12_at in_X12_at lk_RX12_169 (Nat.le_of_ble_eq_true rfl) rfl rfl h0 rfl (Nat.le_of_ble_eq_true rfl) (fun _ h => ct_X12_at h0 h) (fun x26 => ?_)
                          refine r_i2l 95 194 rfl rfl ?_
                          refine r_ladd 96 195 rfl rfl ?_
                          refine r_ldc2 97 198 rfl rfl kc_RX12_173 ?_
                          refine r_lsub 98 199 rfl rfl ?_
                          refine r_goto 99 229 rfl rfl ?_
                          refine r_ltL (fun x27 => ?_)
                          refine r_lstore 115 231 (L' := [(9, .inr (.inl x27)), (0, .inr (.inr a0)), (2, .inl a2), (3, .inl a3), (4, .inl a4), (5, .inl a5), (7, .inl a7), (8, .inl a8), (11, .inl a11), (12, .inl a12)]) rfl rfl (by decide) rfl ?_
                          refine r_iinc 116 234 9 (L' := [(12, .inl (a12 + 1)), (9, .inr (.inl x27)), (0, .inr (.inr a0)), (2, .inl a2), (3, .inl a3), (4, .inl a4), (5, .inl a5), (7, .inl a7), (8, .inl a8), (11, .inl a11)]) rfl rfl rfl (by decide) rfl ?_
                          refine r_ltV (fun x28 => ?_)
                          refine r_goto 117 156 rfl rfl ?_
                          exact r_sub [2, 3, 4, 5, 6, 7, 8, 1, 9, 0] rfl (hc156 (x27, x28))
                    refine r_if_eq 80 168 163 rfl rfl rfl (fun h29 => ?_) (fun h29 => ?_)
                    · refine r_bipush 83 170 (v := 8) rfl rfl (by decide) ?_
                      exact hj170 a9 a12 8 a12
                    · refine r_iload 81 165 8 rfl rfl rfl ?_
                      refine r_goto 82 170 rfl rfl ?_
                      exact hj170 a9 a12 a11 a12
                  exact r_sub [1, 2, 3, 4, 5, 6, 7, 8, 9, 0] rfl (hj156 m a4 a5 a7 a8 a9 a11 0)
                refine r_if_eq 63 153 129 rfl rfl rfl (fun h30 => ?_) (fun h30 => ?_)
                · exact r_sub [1, 2, 3, 4, 5, 6, 7, 8, 0] rfl (hj153 m a4 a5 a7 a8 a9 x2)
                · refine r_iload 64 131 7 rfl rfl rfl ?_
                  refine r_if_eq 65 153 134 rfl rfl rfl (fun h31 => ?_) (fun h31 => ?_)
                  · exact r_sub [1, 2, 3, 4, 5, 6, 7, 8, 0] rfl (hj153 m a4 a5 a7 a8 a9 x2)
                  · refine r_iload 66 136 0 rfl rfl rfl ?_
                    refine r_iconst 67 137 (v := 1) rfl rfl (by decide) ?_
                    refine r_icmp_le 68 153 140 rfl rfl rfl (fun h32 => ?_) (fun h32 => ?_)
                    · exact r_sub [1, 2, 3, 4, 5, 6, 7, 8, 0] rfl (hj153 m a4 a5 a7 a8 a9 x2)
                    · refine r_aload_n 69 141 1 rfl rfl rfl rfl ?_
                      refine r_iload 70 143 4 rfl rfl rfl ?_
                      refine r_VIo 71 146 (st := []) (av := [.inr (.inr a0), .inl a4]) (av' := [.inl a4]) (μ' := u_X12_at) (d := 1) rfl rfl mc_X12_at in_X12_at lk_RX12_169 (Nat.le_of_ble_eq_true rfl) rfl rfl h0 rfl (Nat.le_of_ble_eq_true rfl) (fun _ h => ct_X12_at h0 h) (fun x33 => ?_)
                      refine r_bipush 72 148 (v := 48) rfl rfl (by decide) ?_
                      refine r_icmp_ne 73 153 151 rfl rfl rfl (fun h34 => ?_) (fun h34 => ?_)
                      · refine r_leaf (r2 := (f_X12_identifiers_j151 t m : Option (Int32 × Mi))) (he9 _) ?_
                        exact r_sub [] rfl (hj151 m)
                      · exact r_sub [1, 2, 3, 4, 5, 6, 7, 8, 0] rfl (hj153 m a4 a5 a7 a8 a9 x2)
        refine r_lp (Lf := fun x : Int32 × Int32 => [(0, .inr (.inr a0)), (2, .inl a2), (3, .inl a3), (4, .inl a4), (5, .inl a5), (7, .inl (x.1)), (8, .inl (x.2)), (9, .inr (.inl a9))]) (Mf := fun x : Int32 × Int32 => (t, m)) (a7, a8) ?_ FUEL
        rintro ⟨a7, a8⟩ κ24 hc24 he24
        refine r_eq (L' := [(0, .inr (.inr a0)), (2, .inl a2), (3, .inl a3), (4, .inl a4), (5, .inl a5), (7, .inl a7), (8, .inl a8), (9, .inr (.inl a9))]) (M' := (t, m)) rfl rfl ?_
        refine r_eqr (r' := f_X12_identifiers_l24 t m a0 a2 a3 a4 a5 a7 a8 a9) rfl ?_
        unfold f_X12_identifiers_l24
        refine r_iload 14 26 5 rfl rfl rfl ?_
        refine r_iload_n 15 27 1 rfl rfl rfl rfl ?_
        refine r_icmp_ge 16 98 30 rfl rfl rfl (fun h35 => ?_) (fun h35 => ?_)
        · refine r_leaf (r2 := (f_X12_identifiers_j98 t m a0 a2 a3 a4 a5 a7 a8 a9 : Option ((Int32 × Int32 × Int32 × Mi) ⊕ (((Int32 × Mi) ⊕ ((Mi) ⊕ (Mi))))))) (he24 _) ?_
          exact hj98 m a4 a5 a7 a8 a9
        · refine r_aload_n 17 31 0 rfl rfl rfl rfl ?_
          refine r_iload 18 33 5 rfl rfl rfl ?_
          refine r_VIo 19 36 (st := []) (av := [.inr (.inr a0), .inl a7]) (av' := [.inl a7]) (μ' := u_X12_at) (d := 1) rfl rfl mc_X12_at in_X12_at lk_RX12_169 (Nat.le_of_ble_eq_true rfl) rfl rfl h0 rfl (Nat.le_of_ble_eq_true rfl) (fun _ h => ct_X12_at h0 h) (fun x36 => ?_)
          refine r_SIo 20 39 (a := 0) (cn := 0) (st := []) (av := [.inl x36]) (μ' := u_X12_isDigit) (d := 1) rfl rfl mc_X12_isDigit st_X12_isDigit lk_RX12_163 (Nat.le_of_ble_eq_true rfl) rfl (Nat.le_of_ble_eq_true rfl) (fun _ h => ct_X12_isDigit h) (fun x37 => ?_)
          have hj65 : ∀ (a7 : Int32) (a8 : Int32), Sm u_X12_identifiers (3, 0, 0, t.length, zs t) κ24 65 [(0, .inr (.inr a0)), (2, .inl a2), (3, .inl a3), (4, .inl a4), (5, .inl a5), (7, .inl a7), (8, .inl a8), (9, .inr (.inl a9))] [] (t, m) (f_X12_identifiers_j65 t m a0 a2 a3 a4 a5 a7 a8 a9) := by
            intro a7 a8
            unfold f_X12_identifiers_j65
            refine r_iload 32 67 6 rfl rfl rfl ?_
            refine r_if_eq 33 86 70 rfl rfl rfl (fun h38 => ?_) (fun h38 => ?_)
            · refine r_iconst 41 87 (v := 0) rfl rfl (by decide) ?_
              refine r_istore 42 89 (L' := [(8, .inl 0), (0, .inr (.inr a0)), (2, .inl a2), (3, .inl a3), (4, .inl a4), (5, .inl a5), (7, .inl a7), (9, .inr (.inl a9))]) rfl rfl (by decide) rfl ?_
              refine r_iload 43 91 6 rfl rfl rfl ?_
              refine r_iconst 44 92 (v := 1) rfl rfl (by decide) ?_
              refine r_iadd 45 93 rfl rfl ?_
              refine r_ltI (fun x39 => ?_)
              refine r_istore 46 95 (L' := [(7, .inl x39), (8, .inl 0), (0, .inr (.inr a0)), (2, .inl a2), (3, .inl a3), (4, .inl a4), (5, .inl a5), (9, .inr (.inl a9))]) rfl rfl (by decide) rfl ?_
              refine r_goto 47 24 rfl rfl ?_
              exact r_sub [2, 3, 4, 5, 6, 0, 1, 7] rfl (hc24 (x39, 0))
            · refine r_aload_n 34 71 0 rfl rfl rfl rfl ?_
              refine r_iload 35 73 5 rfl rfl rfl ?_
              refine r_VIo 36 76 (st := []) (av := [.inr (.inr a0), .inl a7]) (av' := [.inl a7]) (μ' := u_X12_at) (d := 1) rfl rfl mc_X12_at in_X12_at lk_RX12_169 (Nat.le_of_ble_eq_true rfl) rfl rfl h0 rfl (Nat.le_of_ble_eq_true rfl) (fun _ h => ct_X12_at h0 h) (fun x40 => ?_)
              refine r_SIo 37 79 (a := 0) (cn := 0) (st := []) (av := [.inl x40]) (μ' := u_X12_isDigit) (d := 1) rfl rfl mc_X12_isDigit st_X12_isDigit lk_RX12_163 (Nat.le_of_ble_eq_true rfl) rfl (Nat.le_of_ble_eq_true rfl) (fun _ h => ct_X12_isDigit h) (fun x41 => ?_)
              refine r_if_eq 38 86 82 rfl rfl rfl (fun h42 => ?_) (fun h42 => ?_)
              · refine r_iconst 41 87 (v := 0) rfl rfl (by decide) ?_
                refine r_istore 42 89 (L' := [(8, .inl 0), (0, .inr (.inr a0)), (2, .inl a2), (3, .inl a3), (4, .inl a4), (5, .inl a5), (7, .inl a7), (9, .inr (.inl a9))]) rfl rfl (by decide) rfl ?_
                refine r_iload 43 91 6 rfl rfl rfl ?_
                refine r_iconst 44 92 (v := 1) rfl rfl (by decide) ?_
                refine r_iadd 45 93 rfl rfl ?_
                refine r_ltI (fun x43 => ?_)
                refine r_istore 46 95 (L' := [(7, .inl x43), (8, .inl 0), (0, .inr (.inr a0)), (2, .inl a2), (3, .inl a3), (4, .inl a4), (5, .inl a5), (9, .inr (.inl a9))]) rfl rfl (by decide) rfl ?_
                refine r_goto 47 24 rfl rfl ?_
                exact r_sub [2, 3, 4, 5, 6, 0, 1, 7] rfl (hc24 (x43, 0))
              · refine r_iconst 39 83 (v := 1) rfl rfl (by decide) ?_
                refine r_goto 40 87 rfl rfl ?_
                refine r_istore 42 89 (L' := [(8, .inl 1), (0, .inr (.inr a0)), (2, .inl a2), (3, .inl a3), (4, .inl a4), (5, .inl a5), (7, .inl a7), (9, .inr (.inl a9))]) rfl rfl (by decide) rfl ?_
                refine r_iload 43 91 6 rfl rfl rfl ?_
                refine r_iconst 44 92 (v := 1) rfl rfl (by decide) ?_
                refine r_iadd 45 93 rfl rfl ?_
                refine r_ltI (fun x44 => ?_)
                refine r_istore 46 95 (L' := [(7, .inl x44), (8, .inl 1), (0, .inr (.inr a0)), (2, .inl a2), (3, .inl a3), (4, .inl a4), (5, .inl a5), (9, .inr (.inl a9))]) rfl rfl (by decide) rfl ?_
                refine r_goto 47 24 rfl rfl ?_
                exact r_sub [2, 3, 4, 5, 6, 0, 1, 7] rfl (hc24 (x44, 1))
          refine r_if_ne 21 65 42 rfl rfl rfl (fun h45 => ?_) (fun h45 => ?_)
          · refine r_aload_n 22 43 0 rfl rfl rfl rfl ?_
            refine r_iload 23 45 5 rfl rfl rfl ?_
            refine r_VIo 24 48 (st := []) (av := [.inr (.inr a0), .inl a7]) (av' := [.inl a7]) (μ' := u_X12_at) (d := 1) rfl rfl mc_X12_at in_X12_at lk_RX12_169 (Nat.le_of_ble_eq_true rfl) rfl rfl h0 rfl (Nat.le_of_ble_eq_true rfl) (fun _ h => ct_X12_at h0 h) (fun x46 => ?_)
            refine r_SIo 25 51 (a := 0) (cn := 0) (st := []) (av := [.inl x46]) (μ' := u_X12_isLetter) (d := 2) rfl rfl mc_X12_isLetter st_X12_isLetter lk_RX12_166 (Nat.le_of_ble_eq_true rfl) rfl (Nat.le_of_ble_eq_true rfl) (fun _ h => ct_X12_isLetter h) (fun x47 => ?_)
            refine r_if_ne 26 65 54 rfl rfl rfl (fun h48 => ?_) (fun h48 => ?_)
            · refine r_aload_n 27 55 0 rfl rfl rfl rfl ?_
              refine r_iload 28 57 5 rfl rfl rfl ?_
              refine r_VIo 29 60 (st := []) (av := [.inr (.inr a0), .inl a7]) (av' := [.inl a7]) (μ' := u_X12_at) (d := 1) rfl rfl mc_X12_at in_X12_at lk_RX12_169 (Nat.le_of_ble_eq_true rfl) rfl rfl h0 rfl (Nat.le_of_ble_eq_true rfl) (fun _ h => ct_X12_at h0 h) (fun x49 => ?_)
              refine r_bipush 30 62 (v := 45) rfl rfl (by decide) ?_
              refine r_icmp_ne 31 98 65 rfl rfl rfl (fun h50 => ?_) (fun h50 => ?_)
              · exact hj65 a7 a8
              · refine r_leaf (r2 := (f_X12_identifiers_j98 t m a0 a2 a3 a4 a5 a7 a8 a9 : Option ((Int32 × Int32 × Int32 × Mi) ⊕ (((Int32 × Mi) ⊕ ((Mi) ⊕ (Mi))))))) (he24 _) ?_
                exact hj98 m a4 a5 a7 a8 a9
            · exact hj65 a7 a8
          · exact hj65 a7 a8
      exact r_sub [3, 4, 5, 6, 7, 2, 1, 0] rfl (hj24 m a4 a5 a4 1 0)
  exact r_sub [3, 5, 6, 2, 1, 0] rfl (hj9 m a1 0 1)
theorem ct_X12_identifiers {t : List Sh} {m : Mi} {a0 : Nat} {a1 : Int32} {a2 : Int32} {a3 : Int32} {m' : Mi} {v : Int32}  (h0 : sh t a0 = some (.inl 12)) (h : f_X12_identifiers t m a0 a1 a2 a3 = some (v, m')) : Ct u_X12_identifiers 3 0 0 [.inr (.inr a0), .inl a1, .inl a2, .inl a3] (t, m) (some (.inl v), (t, m')) :=
  ct_of (by decide) tk_X12_identifiers (Nat.le_of_ble_eq_true rfl) (sm_X12_identifiers t m a0 a1 a2 a3 h0) (by rw [h]; rfl) (Nat.le_refl _) (Nat.le_refl _)
def tb_X12_isSign : Tb := [(0, (.iload_n 0, 1)), (1, (.invokestatic 163, 3)), (4, (.ifCond .ne 28, 3)), (7, (.iload_n 0, 1)), (8, (.invokestatic 166, 3)), (11, (.ifCond .ne 21, 3)), (14, (.iload_n 0, 1)), (15, (.bipush 46, 2)), (17, (.if_icmp .eq 15, 3)), (20, (.iload_n 0, 1)), (21, (.bipush 45, 2)), (23, (.if_icmp .eq 9, 3)), (26, (.iload_n 0, 1)), (27, (.bipush 43, 2)), (29, (.if_icmp .ne 7, 3)), (32, (.iconst 1, 1)), (33, (.goto 4, 3)), (36, (.iconst 0, 1)), (37, (.ireturn, 1))]
def u_X12_isSign : Fx := (yX12_isSign, (cX12_isSign, (1, ((some .boolean), tb_X12_isSign))))
theorem tk_X12_isSign : ∀ q ∈ u_X12_isSign.2.2.2.2, decode u_X12_isSign.2.1 q.1 = .ok q.2 := by decide +kernel
theorem mc_X12_isSign : MC u_X12_isSign 1 := ⟨tbm 1559 (by decide +kernel) rfl, tbm 128 (by decide +kernel) rfl, ⟨by decide, by decide, by decide +kernel⟩, by decide⟩
theorem st_X12_isSign : Cond.static u_X12_isSign.1 ∈ TB := tbm 1558 (by decide +kernel) rfl
def f_X12_isSign (a0 : Int32) : Option (Int32) :=
  (f_X12_isDigit a0).bind fun x1 =>
  if x1 = 0 then
    (f_X12_isLetter a0).bind fun x3 =>
    if x3 = 0 then
      if a0 = 46 then
        some 1
      else
        if a0 = 45 then
          some 1
        else
          if a0 = 43 then
            some 1
          else
            some 0
    else
      some 1
  else
    some 1
set_option maxRecDepth 4000 in
set_option maxHeartbeats 4000000 in
theorem sm_X12_isSign (t : List Sh) (m : Mi) (a0 : Int32) : Sm u_X12_isSign (3, 0, 0, t.length, zs t) (kIo t m) 0 [(0, .inl a0)] [] (t, m) (f_X12_isSign a0) := by
  unfold f_X12_isSign
  refine r_iload_n 0 1 0 rfl rfl rfl rfl ?_
  refine r_SIo 1 4 (a := 0) (cn := 0) (st := []) (av := [.inl a0]) (μ' := u_X12_isDigit) (d := 1) rfl rfl mc_X12_isDigit st_X12_isDigit lk_RX12_163 (Nat.le_of_ble_eq_true rfl) rfl (Nat.le_of_ble_eq_true rfl) (fun _ h => ct_X12_isDigit h) (fun x1 => ?_)
  refine r_if_ne 2 32 7 rfl rfl rfl (fun h2 => ?_) (fun h2 => ?_)
  · refine r_iload_n 3 8 0 rfl rfl rfl rfl ?_
    refine r_SIo 4 11 (a := 0) (cn := 0) (st := []) (av := [.inl a0]) (μ' := u_X12_isLetter) (d := 2) rfl rfl mc_X12_isLetter st_X12_isLetter lk_RX12_166 (Nat.le_of_ble_eq_true rfl) rfl (Nat.le_of_ble_eq_true rfl) (fun _ h => ct_X12_isLetter h) (fun x3 => ?_)
    refine r_if_ne 5 32 14 rfl rfl rfl (fun h4 => ?_) (fun h4 => ?_)
    · refine r_iload_n 6 15 0 rfl rfl rfl rfl ?_
      refine r_bipush 7 17 (v := 46) rfl rfl (by decide) ?_
      refine r_icmp_eq 8 32 20 rfl rfl rfl (fun h5 => ?_) (fun h5 => ?_)
      · refine r_iconst 15 33 (v := 1) rfl rfl (by decide) ?_
        refine r_goto 16 37 rfl rfl ?_
        exact r_zret 18 rfl rfl (by decide) rfl
      · refine r_iload_n 9 21 0 rfl rfl rfl rfl ?_
        refine r_bipush 10 23 (v := 45) rfl rfl (by decide) ?_
        refine r_icmp_eq 11 32 26 rfl rfl rfl (fun h6 => ?_) (fun h6 => ?_)
        · refine r_iconst 15 33 (v := 1) rfl rfl (by decide) ?_
          refine r_goto 16 37 rfl rfl ?_
          exact r_zret 18 rfl rfl (by decide) rfl
        · refine r_iload_n 12 27 0 rfl rfl rfl rfl ?_
          refine r_bipush 13 29 (v := 43) rfl rfl (by decide) ?_
          refine r_icmp_ne 14 36 32 rfl rfl rfl (fun h7 => ?_) (fun h7 => ?_)
          · refine r_iconst 15 33 (v := 1) rfl rfl (by decide) ?_
            refine r_goto 16 37 rfl rfl ?_
            exact r_zret 18 rfl rfl (by decide) rfl
          · refine r_iconst 17 37 (v := 0) rfl rfl (by decide) ?_
            exact r_zret 18 rfl rfl (by decide) rfl
    · refine r_iconst 15 33 (v := 1) rfl rfl (by decide) ?_
      refine r_goto 16 37 rfl rfl ?_
      exact r_zret 18 rfl rfl (by decide) rfl
  · refine r_iconst 15 33 (v := 1) rfl rfl (by decide) ?_
    refine r_goto 16 37 rfl rfl ?_
    exact r_zret 18 rfl rfl (by decide) rfl
theorem ct_X12_isSign {t : List Sh} {m : Mi} {a0 : Int32} {v : Int32}  (h : f_X12_isSign a0 = some v) : Ct u_X12_isSign 3 0 0 [.inl a0] (t, m) (some (.inl v), (t, m)) :=
  ct_of (by decide) tk_X12_isSign (Nat.le_of_ble_eq_true rfl) (sm_X12_isSign t m a0) (by rw [h]; rfl) (Nat.le_refl _) (Nat.le_refl _)
theorem lk_RX12_354 : Cond.methodLink RX12 354 yX12_manyOf ∈ TB := tbm 1676 (by decide +kernel) rfl
theorem fl_RX12_108 : FL RX12 108 12 44 true := ⟨RX12, TX12, 61, rfl, inW12, tyX12_ok, nmX12, by decide, rfl, rfl, rfl, tbm 1371 (by decide +kernel) rfl⟩
theorem lk_RX12_357 : Cond.methodLink RX12 357 yX12_pair ∈ TB := tbm 1704 (by decide +kernel) rfl
theorem fl_RX12_105 : FL RX12 105 12 43 true := ⟨RX12, TX12, 61, rfl, inW12, tyX12_ok, nmX12, by decide, rfl, rfl, rfl, tbm 1370 (by decide +kernel) rfl⟩
theorem fl_RX12_64 : FL RX12 64 12 30 true := ⟨RX12, TX12, 61, rfl, inW12, tyX12_ok, nmX12, by decide, rfl, rfl, rfl, tbm 1357 (by decide +kernel) rfl⟩
theorem fl_RX12_76 : FL RX12 76 12 34 true := ⟨RX12, TX12, 61, rfl, inW12, tyX12_ok, nmX12, by decide, rfl, rfl, rfl, tbm 1361 (by decide +kernel) rfl⟩
theorem fl_RX12_79 : FL RX12 79 12 35 true := ⟨RX12, TX12, 61, rfl, inW12, tyX12_ok, nmX12, by decide, rfl, rfl, rfl, tbm 1362 (by decide +kernel) rfl⟩
theorem fl_RX12_98 : FL RX12 98 12 41 true := ⟨RX12, TX12, 61, rfl, inW12, tyX12_ok, nmX12, by decide, rfl, rfl, rfl, tbm 1368 (by decide +kernel) rfl⟩
def tb_X12_pairs : Tb := [(0, (.aload_n 0, 1)), (1, (.getfield 43, 3)), (4, (.aload_n 0, 1)), (5, (.getfield 326, 3)), (8, (.iaload, 1)), (9, (.istore_n 1, 1)), (10, (.iconst 0, 1)), (11, (.istore_n 2, 1)), (12, (.iload_n 2, 1)), (13, (.sipush 700, 3)), (16, (.if_icmp .ge 17, 3)), (19, (.aload_n 0, 1)), (20, (.getfield 105, 3)), (23, (.iload_n 2, 1)), (24, (.bipush 127, 2)), (26, (.iastore, 1)), (27, (.iinc 2 1, 3)), (30, (.goto (-18), 3)), (33, (.iconst 0, 1)), (34, (.istore_n 2, 1)), (35, (.iload_n 2, 1)), (36, (.aload_n 0, 1)), (37, (.getfield 49, 3)), (40, (.aload_n 0, 1)), (41, (.getfield 326, 3)), (44, (.iaload, 1)), (45, (.if_icmp .ge 124, 3)), (48, (.sipush 250, 3)), (51, (.aload_n 0, 1)), (52, (.getfield 326, 3)), (55, (.imul, 1)), (56, (.iload_n 2, 1)), (57, (.iadd, 1)), (58, (.istore_n 3, 1)), (59, (.aload_n 0, 1)), (60, (.getfield 101, 3)), (63, (.iload_n 2, 1)), (64, (.baload, 1)), (65, (.ifCond .ne 6, 3)), (68, (.goto 95, 3)), (71, (.aload_n 0, 1)), (72, (.getfield 64, 3)), (75, (.bipush 60, 2)), (77, (.aload_n 0, 1)), (78, (.getfield 326, 3)), (81, (.imul, 1)), (82, (.aload_n 0, 1)), (83, (.getfield 76, 3)), (86, (.iload_n 3, 1)), (87, (.iaload, 1)), (88, (.iadd, 1)), (89, (.iaload, 1)), (90, (.istore 4, 2)), (92, (.iload 4, 2)), (94, (.aload_n 0, 1)), (95, (.getfield 76, 3)), (98, (.iload_n 3, 1)), (99, (.iaload, 1)), (100, (.aload_n 0, 1)), (101, (.iload 4, 2)), (103, (.invokevirtual 352, 3)), (106, (.isub, 1)), (107, (.iconst 1, 1)), (108, (.iadd, 1)), (109, (.aload_n 0, 1)), (110, (.getfield 88, 3)), (113, (.iload_n 3, 1)), (114, (.iaload, 1)), (115, (.invokestatic 357, 3)), (118, (.istore 5, 2)), (120, (.aload_n 0, 1)), (121, (.getfield 105, 3)), (124, (.iload 5, 2)), (126, (.aload_n 0, 1)), (127, (.getfield 105, 3)), (130, (.iload 5, 2)), (132, (.iaload, 1)), (133, (.aload_n 0, 1)), (134, (.getfield 79, 3)), (137, (.iload_n 3, 1)), (138, (.iaload, 1)), (139, (.bipush 10, 2)), (141, (.if_icmp .ne 12, 3)), (144, (.aload_n 0, 1)), (145, (.getfield 98, 3)), (148, (.iload_n 2, 1)), (149, (.iaload, 1)), (150, (.goto 11, 3)), (153, (.aload_n 0, 1)), (154, (.getfield 98, 3)), (157, (.iload_n 2, 1)), (158, (.iaload, 1)), (159, (.iconst (-1), 1)), (160, (.ixor, 1)), (161, (.iand, 1)), (162, (.iastore, 1)), (163, (.iinc 2 1, 3)), (166, (.goto (-131), 3)), (169, (.iconst 0, 1)), (170, (.istore_n 2, 1)), (171, (.iload_n 2, 1)), (172, (.iload_n 1, 1)), (173, (.if_icmp .ge 158, 3)), (176, (.iconst 0, 1)), (177, (.istore_n 3, 1)), (178, (.iload_n 3, 1)), (179, (.aload_n 0, 1)), (180, (.iload_n 2, 1)), (181, (.invokevirtual 354, 3)), (184, (.if_icmp .gt 141, 3)), (187, (.iconst 0, 1)), (188, (.istore 4, 2)), (190, (.iload 4, 2)), (192, (.iload_n 1, 1)), (193, (.if_icmp .ge 126, 3)), (196, (.iconst 0, 1)), (197, (.istore 5, 2)), (199, (.iconst 0, 1)), (200, (.istore 6, 2)), (202, (.iload 6, 2)), (204, (.aload_n 0, 1)), (205, (.iload 4, 2)), (207, (.invokevirtual 354, 3)), (210, (.if_icmp .gt 89, 3)), (213, (.aload_n 0, 1)), (214, (.getfield 105, 3)), (217, (.iload_n 2, 1)), (218, (.iload_n 3, 1)), (219, (.iload 4, 2)), (221, (.invokestatic 357, 3)), (224, (.iaload, 1)), (225, (.iload 6, 2)), (227, (.ishr, 1)), (228, (.iconst 1, 1)), (229, (.iand, 1)), (230, (.iconst 1, 1)), (231, (.if_icmp .ne 28, 3)), (234, (.aload_n 0, 1)), (235, (.getfield 105, 3)), (238, (.iload 4, 2)), (240, (.iload 6, 2)), (242, (.iload_n 2, 1)), (243, (.invokestatic 357, 3)), (246, (.iaload, 1)), (247, (.iload_n 3, 1)), (248, (.ishr, 1)), (249, (.iconst 1, 1)), (250, (.iand, 1)), (251, (.iconst 1, 1)), (252, (.if_icmp .ne 7, 3)), (255, (.iconst 1, 1)), (256, (.goto 4, 3)), (259, (.iconst 0, 1)), (260, (.istore 7, 2)), (262, (.iload 7, 2)), (264, (.ifCond .eq 25, 3)), (267, (.iload_n 2, 1)), (268, (.iload 4, 2)), (270, (.if_icmp .ne 9, 3)), (273, (.iload_n 3, 1)), (274, (.iload 6, 2)), (276, (.if_icmp .ne 13, 3)), (279, (.iload 5, 2)), (281, (.iconst 1, 1)), (282, (.iload 6, 2)), (284, (.ishl, 1)), (285, (.ior, 1)), (286, (.goto 5, 3)), (289, (.iload 5, 2)), (291, (.istore 5, 2)), (293, (.iinc 6 1, 3)), (296, (.goto (-94), 3)), (299, (.aload_n 0, 1)), (300, (.getfield 108, 3)), (303, (.iload_n 2, 1)), (304, (.iload_n 3, 1)), (305, (.iload 4, 2)), (307, (.invokestatic 357, 3)), (310, (.iload 5, 2)), (312, (.iastore, 1)), (313, (.iinc 4 1, 3)), (316, (.goto (-126), 3)), (319, (.iinc 3 1, 3)), (322, (.goto (-144), 3)), (325, (.iinc 2 1, 3)), (328, (.goto (-157), 3)), (331, (.return_, 1))]
def u_X12_pairs : Fx := (yX12_pairs, (cX12_pairs, (8, (none, tb_X12_pairs))))
theorem tk_X12_pairs : ∀ q ∈ u_X12_pairs.2.2.2.2, decode u_X12_pairs.2.1 q.1 = .ok q.2 := by decide +kernel
theorem mc_X12_pairs : MC u_X12_pairs 0 := ⟨tbm 1703 (by decide +kernel) rfl, tbm 128 (by decide +kernel) rfl, ⟨by decide, by decide, by decide +kernel⟩, by decide⟩
theorem in_X12_pairs : Cond.instanceMethod u_X12_pairs.1 ∈ TB ∧ Cond.selects u_X12_pairs.1.cls u_X12_pairs.1 u_X12_pairs.1 ∈ TB := ⟨tbm 1702 (by decide +kernel) rfl, tbm 99 (by decide +kernel) rfl⟩
def f_X12_pairs_j331 (t : List Sh) (m : Mi) : Option (Mi) :=
  some m
def f_X12_pairs_j325 (t : List Sh) (m : Mi) (a0 : Nat) (a1 : Int32) (a2 : Int32) : Option ((Int32 × Mi) ⊕ ((Mi))) :=
  lt (a2 + 1) fun x4 =>
  some (.inl (x4, m))
def f_X12_pairs_j319 (t : List Sh) (m : Mi) (a0 : Nat) (a1 : Int32) (a2 : Int32) (a3 : Int32) : Option ((Int32 × Mi) ⊕ ((Mi))) :=
  lt (a3 + 1) fun x7 =>
  some (.inl (x7, m))
def f_X12_pairs_j299 (t : List Sh) (m : Mi) (a0 : Nat) (a1 : Int32) (a2 : Int32) (a3 : Int32) (a4 : Int32) (a5 : Int32) : Option ((Int32 × Mi) ⊕ ((Mi))) :=
  (f_X12_pair a2 a3 a4).bind fun x9 =>
  (if ar t (gr m a0 44) .int x9 = true then
  lt (si m (gr m a0 44) (ix x9) a5) fun m11 =>
  lt (a4 + 1) fun x12 =>
  some (.inl (x12, m11))
  else none)
def f_X12_pairs_j260 (t : List Sh) (m : Mi) (a0 : Nat) (a1 : Int32) (a2 : Int32) (a3 : Int32) (a4 : Int32) (a5 : Int32) (a6 : Int32) (s0 : Int32) : Option ((Int32 × Int32) ⊕ ((Int32))) :=
  if s0 = 0 then
    lt (a6 + 1) fun x18 =>
    some (.inl (a5, x18))
  else
    if a2 = a4 then
      if a3 = a6 then
        lt (a5 ||| (1 <<< (a6 &&& 31))) fun x21 =>
        lt (a6 + 1) fun x22 =>
        some (.inl (x21, x22))
      else
        lt (a6 + 1) fun x23 =>
        some (.inl (a5, x23))
    else
      lt (a5 ||| (1 <<< (a6 &&& 31))) fun x24 =>
      lt (a6 + 1) fun x25 =>
      some (.inl (x24, x25))
def f_X12_pairs_j259 (t : List Sh) (m : Mi) (a0 : Nat) (a1 : Int32) (a2 : Int32) (a3 : Int32) (a4 : Int32) (a5 : Int32) (a6 : Int32) : Option ((Int32 × Int32) ⊕ ((Int32))) :=
  f_X12_pairs_j260 t m a0 a1 a2 a3 a4 a5 a6 0
def f_X12_pairs_l202 (t : List Sh) (m : Mi) (a0 : Nat) (a1 : Int32) (a2 : Int32) (a3 : Int32) (a4 : Int32) (a5 : Int32) (a6 : Int32) : Option ((Int32 × Int32) ⊕ ((Int32))) :=
  (f_X12_manyOf t m a0 a4).bind fun x13 =>
  if x13 < a6 then
    some (.inr a5)
  else
    (f_X12_pair a2 a3 a4).bind fun x15 =>
    (if ar t (gr m a0 43) .int x15 = true then
    if (((gi m (gr m a0 43) (ix x15)) >>> (a6 &&& 31)) &&& 1) = 1 then
      (f_X12_pair a4 a6 a2).bind fun x27 =>
      (if ar t (gr m a0 43) .int x27 = true then
      if (((gi m (gr m a0 43) (ix x27)) >>> (a3 &&& 31)) &&& 1) = 1 then
        f_X12_pairs_j260 t m a0 a1 a2 a3 a4 a5 a6 1
      else
        f_X12_pairs_j259 t m a0 a1 a2 a3 a4 a5 a6
      else none)
    else
      f_X12_pairs_j259 t m a0 a1 a2 a3 a4 a5 a6
    else none)
def f_X12_pairs_j202 (t : List Sh) (m : Mi) (a0 : Nat) (a1 : Int32) (a2 : Int32) (a3 : Int32) (a4 : Int32) (a5 : Int32) (a6 : Int32) : Option ((Int32 × Mi) ⊕ ((Mi))) :=
  (lp (fun x : Int32 × Int32 => f_X12_pairs_l202 t m a0 a1 a2 a3 a4 x.1 x.2) FUEL (a5, a6)).bind (fun y : Int32 => f_X12_pairs_j299 t m a0 a1 a2 a3 a4 y)
def f_X12_pairs_l190 (t : List Sh) (m : Mi) (a0 : Nat) (a1 : Int32) (a2 : Int32) (a3 : Int32) (a4 : Int32) : Option ((Int32 × Mi) ⊕ ((Mi))) :=
  if a1 ≤ a4 then
    some (.inr m)
  else
    f_X12_pairs_j202 t m a0 a1 a2 a3 a4 0 0
def f_X12_pairs_j190 (t : List Sh) (m : Mi) (a0 : Nat) (a1 : Int32) (a2 : Int32) (a3 : Int32) (a4 : Int32) : Option ((Int32 × Mi) ⊕ ((Mi))) :=
  (lp (fun x : Int32 × Mi => f_X12_pairs_l190 t x.2 a0 a1 a2 a3 x.1) FUEL (a4, m)).bind (fun y : Mi => f_X12_pairs_j319 t y a0 a1 a2 a3)
def f_X12_pairs_l178 (t : List Sh) (m : Mi) (a0 : Nat) (a1 : Int32) (a2 : Int32) (a3 : Int32) : Option ((Int32 × Mi) ⊕ ((Mi))) :=
  (f_X12_manyOf t m a0 a2).bind fun x5 =>
  if x5 < a3 then
    some (.inr m)
  else
    f_X12_pairs_j190 t m a0 a1 a2 a3 0
def f_X12_pairs_j178 (t : List Sh) (m : Mi) (a0 : Nat) (a1 : Int32) (a2 : Int32) (a3 : Int32) : Option ((Int32 × Mi) ⊕ ((Mi))) :=
  (lp (fun x : Int32 × Mi => f_X12_pairs_l178 t x.2 a0 a1 a2 x.1) FUEL (a3, m)).bind (fun y : Mi => f_X12_pairs_j325 t y a0 a1 a2)
def f_X12_pairs_l171 (t : List Sh) (m : Mi) (a0 : Nat) (a1 : Int32) (a2 : Int32) : Option ((Int32 × Mi) ⊕ ((Mi))) :=
  if a1 ≤ a2 then
    some (.inr m)
  else
    f_X12_pairs_j178 t m a0 a1 a2 0
def f_X12_pairs_j171 (t : List Sh) (m : Mi) (a0 : Nat) (a1 : Int32) (a2 : Int32) : Option (Mi) :=
  (lp (fun x : Int32 × Mi => f_X12_pairs_l171 t x.2 a0 a1 x.1) FUEL (a2, m)).bind (fun y : Mi => f_X12_pairs_j331 t y)
def f_X12_pairs_j169 (t : List Sh) (m : Mi) (a0 : Nat) (a1 : Int32) : Option (Mi) :=
  f_X12_pairs_j171 t m a0 a1 0
def f_X12_pairs_j161 (t : List Sh) (m : Mi) (a0 : Nat) (a1 : Int32) (a2 : Int32) (s0 : Int32) (s1 : Int32) (s2 : Int32) (s3 : Nat) : Option ((Int32 × Mi) ⊕ ((Mi))) :=
  (if ar t s3 .int s2 = true then
  lt (si m s3 (ix s2) (s1 &&& s0)) fun m45 =>
  lt (a2 + 1) fun x46 =>
  some (.inl (x46, m45))
  else none)
def f_X12_pairs_l35 (t : List Sh) (m : Mi) (a0 : Nat) (a1 : Int32) (a2 : Int32) : Option ((Int32 × Mi) ⊕ ((Mi))) :=
  (if ar t (gr m a0 25) .int (gi m a0 21) = true then
  if (gi m (gr m a0 25) (ix (gi m a0 21))) ≤ a2 then
    some (.inr m)
  else
    lt ((250 * (gi m a0 21)) + a2) fun x32 =>
    (if ar t (gr m a0 42) .boolean a2 = true then
    if (gi m (gr m a0 42) (ix a2)) = 0 then
      lt (a2 + 1) fun x35 =>
      some (.inl (x35, m))
    else
      (if ar t (gr m a0 34) .int x32 = true then
      (if ar t (gr m a0 30) .int ((60 * (gi m a0 21)) + (gi m (gr m a0 34) (ix x32))) = true then
      lt (gi m (gr m a0 30) (ix ((60 * (gi m a0 21)) + (gi m (gr m a0 34) (ix x32))))) fun x38 =>
      (f_X12_first_ t m a0 x38).bind fun x39 =>
      (if ar t (gr m a0 38) .int x32 = true then
      (f_X12_pair x38 (((gi m (gr m a0 34) (ix x32)) - x39) + 1) (gi m (gr m a0 38) (ix x32))).bind fun x41 =>
      (if ar t (gr m a0 43) .int x41 = true then
      (if ar t (gr m a0 35) .int x32 = true then
      if (gi m (gr m a0 35) (ix x32)) = 10 then
        (if ar t (gr m a0 41) .int a2 = true then
        f_X12_pairs_j161 t m a0 a1 a2 (gi m (gr m a0 41) (ix a2)) (gi m (gr m a0 43) (ix x41)) x41 (gr m a0 43)
        else none)
      else
        (if ar t (gr m a0 41) .int a2 = true then
        f_X12_pairs_j161 t m a0 a1 a2 ((gi m (gr m a0 41) (ix a2)) ^^^ (-1)) (gi m (gr m a0 43) (ix x41)) x41 (gr m a0 43)
        else none)
      else none)
      else none)
      else none)
      else none)
      else none)
    else none)
  else none)
def f_X12_pairs_j35 (t : List Sh) (m : Mi) (a0 : Nat) (a1 : Int32) (a2 : Int32) : Option (Mi) :=
  (lp (fun x : Int32 × Mi => f_X12_pairs_l35 t x.2 a0 a1 x.1) FUEL (a2, m)).bind (fun y : Mi => f_X12_pairs_j169 t y a0 a1)
def f_X12_pairs_j33 (t : List Sh) (m : Mi) (a0 : Nat) (a1 : Int32) : Option (Mi) :=
  f_X12_pairs_j35 t m a0 a1 0
def f_X12_pairs_l12 (t : List Sh) (m : Mi) (a0 : Nat) (a1 : Int32) (a2 : Int32) : Option ((Int32 × Mi) ⊕ ((Mi))) :=
  if 700 ≤ a2 then
    some (.inr m)
  else
    (if ar t (gr m a0 43) .int a2 = true then
    lt (si m (gr m a0 43) (ix a2) 127) fun m52 =>
    lt (a2 + 1) fun x53 =>
    some (.inl (x53, m52))
    else none)
def f_X12_pairs_j12 (t : List Sh) (m : Mi) (a0 : Nat) (a1 : Int32) (a2 : Int32) : Option (Mi) :=
  (lp (fun x : Int32 × Mi => f_X12_pairs_l12 t x.2 a0 a1 x.1) FUEL (a2, m)).bind (fun y : Mi => f_X12_pairs_j33 t y a0 a1)
def f_X12_pairs (t : List Sh) (m : Mi) (a0 : Nat) : Option (Mi) :=
  (if ar t (gr m a0 23) .int (gi m a0 21) = true then
  lt (gi m (gr m a0 23) (ix (gi m a0 21))) fun x2 =>
  f_X12_pairs_j12 t m a0 x2 0
  else none)
set_option maxRecDepth 4000 in
set_option maxHeartbeats 4000000 in
theorem sm_X12_pairs (t : List Sh) (m : Mi) (a0 : Nat) (h0 : sh t a0 = some (.inl 12)) : Sm u_X12_pairs (3, 0, 0, t.length, zs t) (kV t) 0 [(0, .inr (.inr a0))] [] (t, m) (f_X12_pairs t m a0) := by
  unfold f_X12_pairs
  refine r_aload_n 0 1 0 rfl rfl rfl rfl ?_
  refine r_getR 1 4 rfl rfl fl_RX12_43 rfl h0 ?_
  refine r_aload_n 2 5 0 rfl rfl rfl rfl ?_
  refine r_getI 3 8 rfl rfl fl_RX12_326 rfl h0 ?_
  refine r_gd (fun h1 => ?_)
  refine r_iald 4 9 rfl rfl h1 ?_
  refine r_ltI (fun x2 => ?_)
  refine r_istore_n 5 10 (L' := [(1, .inl x2), (0, .inr (.inr a0))]) rfl rfl rfl (by decide) rfl ?_
  refine r_iconst 6 11 (v := 0) rfl rfl (by decide) ?_
  refine r_istore_n 7 12 (L' := [(2, .inl 0), (1, .inl x2), (0, .inr (.inr a0))]) rfl rfl rfl (by decide) rfl ?_
  have hj12 : ∀ (m : Mi) (a1 : Int32) (a2 : Int32), Sm u_X12_pairs (3, 0, 0, t.length, zs t) (kV t) 12 [(0, .inr (.inr a0)), (1, .inl a1), (2, .inl a2)] [] (t, m) (f_X12_pairs_j12 t m a0 a1 a2) := by
    intro m a1 a2
    unfold f_X12_pairs_j12
    have hj33 : ∀ (m : Mi) (a1 : Int32), Sm u_X12_pairs (3, 0, 0, t.length, zs t) (kV t) 33 [(0, .inr (.inr a0)), (1, .inl a1)] [] (t, m) (f_X12_pairs_j33 t m a0 a1) := by
      intro m a1
      unfold f_X12_pairs_j33
      refine r_iconst 18 34 (v := 0) rfl rfl (by decide) ?_
      refine r_istore_n 19 35 (L' := [(2, .inl 0), (0, .inr (.inr a0)), (1, .inl a1)]) rfl rfl rfl (by decide) rfl ?_
      have hj35 : ∀ (m : Mi) (a1 : Int32) (a2 : Int32), Sm u_X12_pairs (3, 0, 0, t.length, zs t) (kV t) 35 [(0, .inr (.inr a0)), (1, .inl a1), (2, .inl a2)] [] (t, m) (f_X12_pairs_j35 t m a0 a1 a2) := by
        intro m a1 a2
        unfold f_X12_pairs_j35
        have hj169 : ∀ (m : Mi) (a1 : Int32), Sm u_X12_pairs (3, 0, 0, t.length, zs t) (kV t) 169 [(0, .inr (.inr a0)), (1, .inl a1)] [] (t, m) (f_X12_pairs_j169 t m a0 a1) := by
          intro m a1
          unfold f_X12_pairs_j169
          refine r_iconst 98 170 (v := 0) rfl rfl (by decide) ?_
          refine r_istore_n 99 171 (L' := [(2, .inl 0), (0, .inr (.inr a0)), (1, .inl a1)]) rfl rfl rfl (by decide) rfl ?_
          have hj171 : ∀ (m : Mi) (a1 : Int32) (a2 : Int32), Sm u_X12_pairs (3, 0, 0, t.length, zs t) (kV t) 171 [(0, .inr (.inr a0)), (1, .inl a1), (2, .inl a2)] [] (t, m) (f_X12_pairs_j171 t m a0 a1 a2) := by
            intro m a1 a2
            unfold f_X12_pairs_j171
            have hj331 : ∀ (m : Mi), Sm u_X12_pairs (3, 0, 0, t.length, zs t) (kV t) 331 [] [] (t, m) (f_X12_pairs_j331 t m) := by
              intro m
              unfold f_X12_pairs_j331
              exact r_vret 186 rfl rfl rfl
            refine r_lp (Lf := fun x : Int32 × Mi => [(0, .inr (.inr a0)), (1, .inl a1), (2, .inl (x.1))]) (Mf := fun x : Int32 × Mi => (t, x.2)) (a2, m) ?_ FUEL
            rintro ⟨a2, m⟩ κ171 hc171 he171
            refine r_eq (L' := [(0, .inr (.inr a0)), (1, .inl a1), (2, .inl a2)]) (M' := (t, m)) rfl rfl ?_
            refine r_eqr (r' := f_X12_pairs_l171 t m a0 a1 a2) rfl ?_
            unfold f_X12_pairs_l171
            refine r_iload_n 100 172 2 rfl rfl rfl rfl ?_
            refine r_iload_n 101 173 1 rfl rfl rfl rfl ?_
            refine r_icmp_ge 102 331 176 rfl rfl rfl (fun h3 => ?_) (fun h3 => ?_)
            · refine r_leaf (r2 := (f_X12_pairs_j331 t m : Option (Mi))) (he171 _) ?_
              exact r_sub [] rfl (hj331 m)
            · refine r_iconst 103 177 (v := 0) rfl rfl (by decide) ?_
              refine r_istore_n 104 178 (L' := [(3, .inl 0), (0, .inr (.inr a0)), (1, .inl a1), (2, .inl a2)]) rfl rfl rfl (by decide) rfl ?_
              have hj178 : ∀ (m : Mi) (a2 : Int32) (a3 : Int32), Sm u_X12_pairs (3, 0, 0, t.length, zs t) κ171 178 [(0, .inr (.inr a0)), (1, .inl a1), (2, .inl a2), (3, .inl a3)] [] (t, m) (f_X12_pairs_j178 t m a0 a1 a2 a3) := by
                intro m a2 a3
                unfold f_X12_pairs_j178
                have hj325 : ∀ (m : Mi) (a2 : Int32), Sm u_X12_pairs (3, 0, 0, t.length, zs t) κ171 325 [(0, .inr (.inr a0)), (1, .inl a1), (2, .inl a2)] [] (t, m) (f_X12_pairs_j325 t m a0 a1 a2) := by
                  intro m a2
                  unfold f_X12_pairs_j325
                  refine r_iinc 184 328 2 (L' := [(2, .inl (a2 + 1)), (0, .inr (.inr a0)), (1, .inl a1)]) rfl rfl rfl (by decide) rfl ?_
                  refine r_ltV (fun x4 => ?_)
                  refine r_goto 185 171 rfl rfl ?_
                  exact r_sub [1, 2, 0] rfl (hc171 (x4, m))
                refine r_lp (Lf := fun x : Int32 × Mi => [(0, .inr (.inr a0)), (1, .inl a1), (2, .inl a2), (3, .inl (x.1))]) (Mf := fun x : Int32 × Mi => (t, x.2)) (a3, m) ?_ FUEL
                rintro ⟨a3, m⟩ κ178 hc178 he178
                refine r_eq (L' := [(0, .inr (.inr a0)), (1, .inl a1), (2, .inl a2), (3, .inl a3)]) (M' := (t, m)) rfl rfl ?_
                refine r_eqr (r' := f_X12_pairs_l178 t m a0 a1 a2 a3) rfl ?_
                unfold f_X12_pairs_l178
                refine r_iload_n 105 179 3 rfl rfl rfl rfl ?_
                refine r_aload_n 106 180 0 rfl rfl rfl rfl ?_
                refine r_iload_n 107 181 2 rfl rfl rfl rfl ?_
                refine r_VIo 108 184 (st := [.inl a3]) (av := [.inr (.inr a0), .inl a2]) (av' := [.inl a2]) (μ' := u_X12_manyOf) (d := 2) rfl rfl mc_X12_manyOf in_X12_manyOf lk_RX12_354 (Nat.le_of_ble_eq_true rfl) rfl rfl h0 rfl (Nat.le_of_ble_eq_true rfl) (fun _ h => ct_X12_manyOf h0 h) (fun x5 => ?_)
                refine r_icmp_gt 109 325 187 rfl rfl rfl (fun h6 => ?_) (fun h6 => ?_)
                · refine r_leaf (r2 := (f_X12_pairs_j325 t m a0 a1 a2 : Option ((Int32 × Mi) ⊕ ((Mi))))) (he178 _) ?_
                  exact r_sub [0, 1, 2] rfl (hj325 m a2)
                · refine r_iconst 110 188 (v := 0) rfl rfl (by decide) ?_
                  refine r_istore 111 190 (L' := [(4, .inl 0), (0, .inr (.inr a0)), (1, .inl a1), (2, .inl a2), (3, .inl a3)]) rfl rfl (by decide) rfl ?_
                  have hj190 : ∀ (m : Mi) (a3 : Int32) (a4 : Int32), Sm u_X12_pairs (3, 0, 0, t.length, zs t) κ178 190 [(0, .inr (.inr a0)), (1, .inl a1), (2, .inl a2), (3, .inl a3), (4, .inl a4)] [] (t, m) (f_X12_pairs_j190 t m a0 a1 a2 a3 a4) := by
                    intro m a3 a4
                    unfold f_X12_pairs_j190
                    have hj319 : ∀ (m : Mi) (a3 : Int32), Sm u_X12_pairs (3, 0, 0, t.length, zs t) κ178 319 [(0, .inr (.inr a0)), (1, .inl a1), (2, .inl a2), (3, .inl a3)] [] (t, m) (f_X12_pairs_j319 t m a0 a1 a2 a3) := by
                      intro m a3
                      unfold f_X12_pairs_j319
                      refine r_iinc 182 322 3 (L' := [(3, .inl (a3 + 1)), (0, .inr (.inr a0)), (1, .inl a1), (2, .inl a2)]) rfl rfl rfl (by decide) rfl ?_
                      refine r_ltV (fun x7 => ?_)
                      refine r_goto 183 178 rfl rfl ?_
                      exact r_sub [1, 2, 3, 0] rfl (hc178 (x7, m))
                    refine r_lp (Lf := fun x : Int32 × Mi => [(0, .inr (.inr a0)), (1, .inl a1), (2, .inl a2), (3, .inl a3), (4, .inl (x.1))]) (Mf := fun x : Int32 × Mi => (t, x.2)) (a4, m) ?_ FUEL
                    rintro ⟨a4, m⟩ κ190 hc190 he190
                    refine r_eq (L' := [(0, .inr (.inr a0)), (1, .inl a1), (2, .inl a2), (3, .inl a3), (4, .inl a4)]) (M' := (t, m)) rfl rfl ?_
                    refine r_eqr (r' := f_X12_pairs_l190 t m a0 a1 a2 a3 a4) rfl ?_
                    unfold f_X12_pairs_l190
                    refine r_iload 112 192 4 rfl rfl rfl ?_
                    refine r_iload_n 113 193 1 rfl rfl rfl rfl ?_
                    refine r_icmp_ge 114 319 196 rfl rfl rfl (fun h8 => ?_) (fun h8 => ?_)
                    · refine r_leaf (r2 := (f_X12_pairs_j319 t m a0 a1 a2 a3 : Option ((Int32 × Mi) ⊕ ((Mi))))) (he190 _) ?_
                      exact r_sub [0, 1, 2, 3] rfl (hj319 m a3)
                    · refine r_iconst 115 197 (v := 0) rfl rfl (by decide) ?_
                      refine r_istore 116 199 (L' := [(5, .inl 0), (0, .inr (.inr a0)), (1, .inl a1), (2, .inl a2), (3, .inl a3), (4, .inl a4)]) rfl rfl (by decide) rfl ?_
                      refine r_iconst 117 200 (v := 0) rfl rfl (by decide) ?_
                      refine r_istore 118 202 (L' := [(6, .inl 0), (5, .inl 0), (0, .inr (.inr a0)), (1, .inl a1), (2, .inl a2), (3, .inl a3), (4, .inl a4)]) rfl rfl (by decide) rfl ?_
                      have hj202 : ∀ (m : Mi) (a4 : Int32) (a5 : Int32) (a6 : Int32), Sm u_X12_pairs (3, 0, 0, t.length, zs t) κ190 202 [(0, .inr (.inr a0)), (1, .inl a1), (2, .inl a2), (3, .inl a3), (4, .inl a4), (5, .inl a5), (6, .inl a6)] [] (t, m) (f_X12_pairs_j202 t m a0 a1 a2 a3 a4 a5 a6) := by
                        intro m a4 a5 a6
                        unfold f_X12_pairs_j202
                        have hj299 : ∀ (m : Mi) (a4 : Int32) (a5 : Int32), Sm u_X12_pairs (3, 0, 0, t.length, zs t) κ190 299 [(0, .inr (.inr a0)), (1, .inl a1), (2, .inl a2), (3, .inl a3), (4, .inl a4), (5, .inl a5)] [] (t, m) (f_X12_pairs_j299 t m a0 a1 a2 a3 a4 a5) := by
                          intro m a4 a5
                          unfold f_X12_pairs_j299
                          refine r_aload_n 172 300 0 rfl rfl rfl rfl ?_
                          refine r_getR 173 303 rfl rfl fl_RX12_108 rfl h0 ?_
                          refine r_iload_n 174 304 2 rfl rfl rfl rfl ?_
                          refine r_iload_n 175 305 3 rfl rfl rfl rfl ?_
                          refine r_iload 176 307 4 rfl rfl rfl ?_
                          refine r_SIo 177 310 (a := 0) (cn := 0) (st := [.inr (.inr (gr m a0 44))]) (av := [.inl a2, .inl a3, .inl a4]) (μ' := u_X12_pair) (d := 1) rfl rfl mc_X12_pair st_X12_pair lk_RX12_357 (Nat.le_of_ble_eq_true rfl) rfl (Nat.le_of_ble_eq_true rfl) (fun _ h => ct_X12_pair h) (fun x9 => ?_)
                          refine r_iload 178 312 5 rfl rfl rfl ?_
                          refine r_gd (fun h10 => ?_)
                          refine r_iast 179 313 rfl rfl h10 ?_
                          refine r_ltM (fun m11 => ?_)
                          refine r_iinc 180 316 4 (L' := [(4, .inl (a4 + 1)), (0, .inr (.inr a0)), (1, .inl a1), (2, .inl a2), (3, .inl a3), (5, .inl a5)]) rfl rfl rfl (by decide) rfl ?_
                          refine r_ltV (fun x12 => ?_)
                          refine r_goto 181 190 rfl rfl ?_
                          exact r_sub [1, 2, 3, 4, 0] rfl (hc190 (x12, m11))
                        refine r_lp (Lf := fun x : Int32 × Int32 => [(0, .inr (.inr a0)), (1, .inl a1), (2, .inl a2), (3, .inl a3), (4, .inl a4), (5, .inl (x.1)), (6, .inl (x.2))]) (Mf := fun x : Int32 × Int32 => (t, m)) (a5, a6) ?_ FUEL
                        rintro ⟨a5, a6⟩ κ202 hc202 he202
                        refine r_eq (L' := [(0, .inr (.inr a0)), (1, .inl a1), (2, .inl a2), (3, .inl a3), (4, .inl a4), (5, .inl a5), (6, .inl a6)]) (M' := (t, m)) rfl rfl ?_
                        refine r_eqr (r' := f_X12_pairs_l202 t m a0 a1 a2 a3 a4 a5 a6) rfl ?_
                        unfold f_X12_pairs_l202
                        refine r_iload 119 204 6 rfl rfl rfl ?_
                        refine r_aload_n 120 205 0 rfl rfl rfl rfl ?_
                        refine r_iload 121 207 4 rfl rfl rfl ?_
                        refine r_VIo 122 210 (st := [.inl a6]) (av := [.inr (.inr a0), .inl a4]) (av' := [.inl a4]) (μ' := u_X12_manyOf) (d := 2) rfl rfl mc_X12_manyOf in_X12_manyOf lk_RX12_354 (Nat.le_of_ble_eq_true rfl) rfl rfl h0 rfl (Nat.le_of_ble_eq_true rfl) (fun _ h => ct_X12_manyOf h0 h) (fun x13 => ?_)
                        refine r_icmp_gt 123 299 213 rfl rfl rfl (fun h14 => ?_) (fun h14 => ?_)
                        · refine r_leaf (r2 := (f_X12_pairs_j299 t m a0 a1 a2 a3 a4 a5 : Option ((Int32 × Mi) ⊕ ((Mi))))) (he202 _) ?_
                          exact r_sub [0, 1, 2, 3, 4, 5] rfl (hj299 m a4 a5)
                        · refine r_aload_n 124 214 0 rfl rfl rfl rfl ?_
                          refine r_getR 125 217 rfl rfl fl_RX12_105 rfl h0 ?_
                          refine r_iload_n 126 218 2 rfl rfl rfl rfl ?_
                          refine r_iload_n 127 219 3 rfl rfl rfl rfl ?_
                          refine r_iload 128 221 4 rfl rfl rfl ?_
                          refine r_SIo 129 224 (a := 0) (cn := 0) (st := [.inr (.inr (gr m a0 43))]) (av := [.inl a2, .inl a3, .inl a4]) (μ' := u_X12_pair) (d := 1) rfl rfl mc_X12_pair st_X12_pair lk_RX12_357 (Nat.le_of_ble_eq_true rfl) rfl (Nat.le_of_ble_eq_true rfl) (fun _ h => ct_X12_pair h) (fun x15 => ?_)
                          refine r_gd (fun h16 => ?_)
                          refine r_iald 130 225 rfl rfl h16 ?_
                          refine r_iload 131 227 6 rfl rfl rfl ?_
                          refine r_ishr 132 228 rfl rfl ?_
                          refine r_iconst 133 229 (v := 1) rfl rfl (by decide) ?_
                          refine r_iand 134 230 rfl rfl ?_
                          refine r_iconst 135 231 (v := 1) rfl rfl (by decide) ?_
                          have hj260 : ∀ (a5 : Int32) (a6 : Int32) (s0 : Int32), Sm u_X12_pairs (3, 0, 0, t.length, zs t) κ202 260 [(0, .inr (.inr a0)), (1, .inl a1), (2, .inl a2), (3, .inl a3), (4, .inl a4), (5, .inl a5), (6, .inl a6)] [.inl s0] (t, m) (f_X12_pairs_j260 t m a0 a1 a2 a3 a4 a5 a6 s0) := by
                            intro a5 a6 s0
                            unfold f_X12_pairs_j260
                            refine r_istore 153 262 (L' := [(7, .inl s0), (0, .inr (.inr a0)), (1, .inl a1), (2, .inl a2), (3, .inl a3), (4, .inl a4), (5, .inl a5), (6, .inl a6)]) rfl rfl (by decide) rfl ?_
                            refine r_iload 154 264 0 rfl rfl rfl ?_
                            refine r_if_eq 155 289 267 rfl rfl rfl (fun h17 => ?_) (fun h17 => ?_)
                            · refine r_iload 168 291 6 rfl rfl rfl ?_
                              refine r_istore 169 293 (L' := [(5, .inl a5), (7, .inl s0), (0, .inr (.inr a0)), (1, .inl a1), (2, .inl a2), (3, .inl a3), (4, .inl a4), (6, .inl a6)]) rfl rfl (by decide) rfl ?_
                              refine r_iinc 170 296 7 (L' := [(6, .inl (a6 + 1)), (5, .inl a5), (7, .inl s0), (0, .inr (.inr a0)), (1, .inl a1), (2, .inl a2), (3, .inl a3), (4, .inl a4)]) rfl rfl rfl (by decide) rfl ?_
                              refine r_ltV (fun x18 => ?_)
                              refine r_goto 171 202 rfl rfl ?_
                              exact r_sub [3, 4, 5, 6, 7, 1, 0] rfl (hc202 (a5, x18))
                            · refine r_iload_n 156 268 3 rfl rfl rfl rfl ?_
                              refine r_iload 157 270 5 rfl rfl rfl ?_
                              refine r_icmp_ne 158 279 273 rfl rfl rfl (fun h19 => ?_) (fun h19 => ?_)
                              · refine r_iload_n 159 274 4 rfl rfl rfl rfl ?_
                                refine r_iload 160 276 7 rfl rfl rfl ?_
                                refine r_icmp_ne 161 289 279 rfl rfl rfl (fun h20 => ?_) (fun h20 => ?_)
                                · refine r_iload 162 281 6 rfl rfl rfl ?_
                                  refine r_iconst 163 282 (v := 1) rfl rfl (by decide) ?_
                                  refine r_iload 164 284 7 rfl rfl rfl ?_
                                  refine r_ishl 165 285 rfl rfl ?_
                                  refine r_ior 166 286 rfl rfl ?_
                                  refine r_goto 167 291 rfl rfl ?_
                                  refine r_ltI (fun x21 => ?_)
                                  refine r_istore 169 293 (L' := [(5, .inl x21), (7, .inl s0), (0, .inr (.inr a0)), (1, .inl a1), (2, .inl a2), (3, .inl a3), (4, .inl a4), (6, .inl a6)]) rfl rfl (by decide) rfl ?_
                                  refine r_iinc 170 296 7 (L' := [(6, .inl (a6 + 1)), (5, .inl x21), (7, .inl s0), (0, .inr (.inr a0)), (1, .inl a1), (2, .inl a2), (3, .inl a3), (4, .inl a4)]) rfl rfl rfl (by decide) rfl ?_
                                  refine r_ltV (fun x22 => ?_)
                                  refine r_goto 171 202 rfl rfl ?_
                                  exact r_sub [3, 4, 5, 6, 7, 1, 0] rfl (hc202 (x21, x22))
                                · refine r_iload 168 291 6 rfl rfl rfl ?_
                                  refine r_istore 169 293 (L' := [(5, .inl a5), (7, .inl s0), (0, .inr (.inr a0)), (1, .inl a1), (2, .inl a2), (3, .inl a3), (4, .inl a4), (6, .inl a6)]) rfl rfl (by decide) rfl ?_
                                  refine r_iinc 170 296 7 (L' := [(6, .inl (a6 + 1)), (5, .inl a5), (7, .inl s0), (0, .inr (.inr a0)), (1, .inl a1), (2, .inl a2), (3, .inl a3), (4, .inl a4)]) rfl rfl rfl (by decide) rfl ?_
                                  refine r_ltV (fun x23 => ?_)
                                  refine r_goto 171 202 rfl rfl ?_
                                  exact r_sub [3, 4, 5, 6, 7, 1, 0] rfl (hc202 (a5, x23))
                              · refine r_iload 162 281 6 rfl rfl rfl ?_
                                refine r_iconst 163 282 (v := 1) rfl rfl (by decide) ?_
                                refine r_iload 164 284 7 rfl rfl rfl ?_
                                refine r_ishl 165 285 rfl rfl ?_
                                refine r_ior 166 286 rfl rfl ?_
                                refine r_goto 167 291 rfl rfl ?_
                                refine r_ltI (fun x24 => ?_)
                                refine r_istore 169 293 (L' := [(5, .inl x24), (7, .inl s0), (0, .inr (.inr a0)), (1, .inl a1), (2, .inl a2), (3, .inl a3), (4, .inl a4), (6, .inl a6)]) rfl rfl (by decide) rfl ?_
                                refine r_iinc 170 296 7 (L' := [(6, .inl (a6 + 1)), (5, .inl x24), (7, .inl s0), (0, .inr (.inr a0)), (1, .inl a1), (2, .inl a2), (3, .inl a3), (4, .inl a4)]) rfl rfl rfl (by decide) rfl ?_
                                refine r_ltV (fun x25 => ?_)
                                refine r_goto 171 202 rfl rfl ?_
                                exact r_sub [3, 4, 5, 6, 7, 1, 0] rfl (hc202 (x24, x25))
                          have hj259 : ∀ (a5 : Int32) (a6 : Int32), Sm u_X12_pairs (3, 0, 0, t.length, zs t) κ202 259 [(0, .inr (.inr a0)), (1, .inl a1), (2, .inl a2), (3, .inl a3), (4, .inl a4), (5, .inl a5), (6, .inl a6)] [] (t, m) (f_X12_pairs_j259 t m a0 a1 a2 a3 a4 a5 a6) := by
                            intro a5 a6
                            unfold f_X12_pairs_j259
                            refine r_iconst 152 260 (v := 0) rfl rfl (by decide) ?_
                            exact hj260 a5 a6 0
                          refine r_icmp_ne 136 259 234 rfl rfl rfl (fun h26 => ?_) (fun h26 => ?_)
                          · refine r_aload_n 137 235 0 rfl rfl rfl rfl ?_
                            refine r_getR 138 238 rfl rfl fl_RX12_105 rfl h0 ?_
                            refine r_iload 139 240 4 rfl rfl rfl ?_
                            refine r_iload 140 242 6 rfl rfl rfl ?_
                            refine r_iload_n 141 243 2 rfl rfl rfl rfl ?_
                            refine r_SIo 142 246 (a := 0) (cn := 0) (st := [.inr (.inr (gr m a0 43))]) (av := [.inl a4, .inl a6, .inl a2]) (μ' := u_X12_pair) (d := 1) rfl rfl mc_X12_pair st_X12_pair lk_RX12_357 (Nat.le_of_ble_eq_true rfl) rfl (Nat.le_of_ble_eq_true rfl) (fun _ h => ct_X12_pair h) (fun x27 => ?_)
                            refine r_gd (fun h28 => ?_)
                            refine r_iald 143 247 rfl rfl h28 ?_
                            refine r_iload_n 144 248 3 rfl rfl rfl rfl ?_
                            refine r_ishr 145 249 rfl rfl ?_
                            refine r_iconst 146 250 (v := 1) rfl rfl (by decide) ?_
                            refine r_iand 147 251 rfl rfl ?_
                            refine r_iconst 148 252 (v := 1) rfl rfl (by decide) ?_
                            refine r_icmp_ne 149 259 255 rfl rfl rfl (fun h29 => ?_) (fun h29 => ?_)
                            · refine r_iconst 150 256 (v := 1) rfl rfl (by decide) ?_
                              refine r_goto 151 260 rfl rfl ?_
                              exact hj260 a5 a6 1
                            · exact hj259 a5 a6
                          · exact hj259 a5 a6
                      exact r_sub [2, 3, 4, 5, 6, 1, 0] rfl (hj202 m a4 0 0)
                  exact r_sub [1, 2, 3, 4, 0] rfl (hj190 m a3 0)
              exact r_sub [1, 2, 3, 0] rfl (hj178 m a2 0)
          exact r_sub [1, 2, 0] rfl (hj171 m a1 0)
        refine r_lp (Lf := fun x : Int32 × Mi => [(0, .inr (.inr a0)), (1, .inl a1), (2, .inl (x.1))]) (Mf := fun x : Int32 × Mi => (t, x.2)) (a2, m) ?_ FUEL
        rintro ⟨a2, m⟩ κ35 hc35 he35
        refine r_eq (L' := [(0, .inr (.inr a0)), (1, .inl a1), (2, .inl a2)]) (M' := (t, m)) rfl rfl ?_
        refine r_eqr (r' := f_X12_pairs_l35 t m a0 a1 a2) rfl ?_
        unfold f_X12_pairs_l35
        refine r_iload_n 20 36 2 rfl rfl rfl rfl ?_
        refine r_aload_n 21 37 0 rfl rfl rfl rfl ?_
        refine r_getR 22 40 rfl rfl fl_RX12_49 rfl h0 ?_
        refine r_aload_n 23 41 0 rfl rfl rfl rfl ?_
        refine r_getI 24 44 rfl rfl fl_RX12_326 rfl h0 ?_
        refine r_gd (fun h30 => ?_)
        refine r_iald 25 45 rfl rfl h30 ?_
        refine r_icmp_ge 26 169 48 rfl rfl rfl (fun h31 => ?_) (fun h31 => ?_)
        · refine r_leaf (r2 := (f_X12_pairs_j169 t m a0 a1 : Option (Mi))) (he35 _) ?_
          exact r_sub [0, 1] rfl (hj169 m a1)
        · refine r_sipush 27 51 (v := 250) rfl rfl (by decide) ?_
          refine r_aload_n 28 52 0 rfl rfl rfl rfl ?_
          refine r_getI 29 55 rfl rfl fl_RX12_326 rfl h0 ?_
          refine r_imul 30 56 rfl rfl ?_
          refine r_iload_n 31 57 2 rfl rfl rfl rfl ?_
          refine r_iadd 32 58 rfl rfl ?_
          refine r_ltI (fun x32 => ?_)
          refine r_istore_n 33 59 (L' := [(3, .inl x32), (0, .inr (.inr a0)), (1, .inl a1), (2, .inl a2)]) rfl rfl rfl (by decide) rfl ?_
          refine r_aload_n 34 60 1 rfl rfl rfl rfl ?_
          refine r_getR 35 63 rfl rfl fl_RX12_101 rfl h0 ?_
          refine r_iload_n 36 64 3 rfl rfl rfl rfl ?_
          refine r_gd (fun h33 => ?_)
          refine r_zald 37 65 rfl rfl h33 ?_
          refine r_if_ne 38 71 68 rfl rfl rfl (fun h34 => ?_) (fun h34 => ?_)
          · refine r_goto 39 163 rfl rfl ?_
            refine r_iinc 96 166 3 (L' := [(2, .inl (a2 + 1)), (3, .inl x32), (0, .inr (.inr a0)), (1, .inl a1)]) rfl rfl rfl (by decide) rfl ?_
            refine r_ltV (fun x35 => ?_)
            refine r_goto 97 35 rfl rfl ?_
            exact r_sub [2, 3, 0] rfl (hc35 (x35, m))
          · refine r_aload_n 40 72 1 rfl rfl rfl rfl ?_
            refine r_getR 41 75 rfl rfl fl_RX12_64 rfl h0 ?_
            refine r_bipush 42 77 (v := 60) rfl rfl (by decide) ?_
            refine r_aload_n 43 78 1 rfl rfl rfl rfl ?_
            refine r_getI 44 81 rfl rfl fl_RX12_326 rfl h0 ?_
            refine r_imul 45 82 rfl rfl ?_
            refine r_aload_n 46 83 1 rfl rfl rfl rfl ?_
            refine r_getR 47 86 rfl rfl fl_RX12_76 rfl h0 ?_
            refine r_iload_n 48 87 0 rfl rfl rfl rfl ?_
            refine r_gd (fun h36 => ?_)
            refine r_iald 49 88 rfl rfl h36 ?_
            refine r_iadd 50 89 rfl rfl ?_
            refine r_gd (fun h37 => ?_)
            refine r_iald 51 90 rfl rfl h37 ?_
            refine r_ltI (fun x38 => ?_)
            refine r_istore 52 92 (L' := [(4, .inl x38), (3, .inl x32), (0, .inr (.inr a0)), (1, .inl a1), (2, .inl a2)]) rfl rfl (by decide) rfl ?_
            refine r_iload 53 94 0 rfl rfl rfl ?_
            refine r_aload_n 54 95 2 rfl rfl rfl rfl ?_
            refine r_getR 55 98 rfl rfl fl_RX12_76 rfl h0 ?_
            refine r_iload_n 56 99 1 rfl rfl rfl rfl ?_
            refine r_iald 57 100 rfl rfl h36 ?_
            refine r_aload_n 58 101 2 rfl rfl rfl rfl ?_
            refine r_iload 59 103 0 rfl rfl rfl ?_
            refine r_VIo 60 106 (st := [.inl (gi m (gr m a0 34) (ix x32)), .inl x38]) (av := [.inr (.inr a0), .inl x38]) (av' := [.inl x38]) (μ' := u_X12_first_) (d := 1) rfl rfl mc_X12_first_ in_X12_first_ lk_RX12_352 (Nat.le_of_ble_eq_true rfl) rfl rfl h0 rfl (Nat.le_of_ble_eq_true rfl) (fun _ h => ct_X12_first_ h0 h) (fun x39 => ?_)
            refine r_isub 61 107 rfl rfl ?_
            refine r_iconst 62 108 (v := 1) rfl rfl (by decide) ?_
            refine r_iadd 63 109 rfl rfl ?_
            refine r_aload_n 64 110 2 rfl rfl rfl rfl ?_
            refine r_getR 65 113 rfl rfl fl_RX12_88 rfl h0 ?_
            refine r_iload_n 66 114 1 rfl rfl rfl rfl ?_
            refine r_gd (fun h40 => ?_)
            refine r_iald 67 115 rfl rfl h40 ?_
            refine r_SIo 68 118 (a := 0) (cn := 0) (st := []) (av := [.inl x38, .inl (((gi m (gr m a0 34) (ix x32)) - x39) + 1), .inl (gi m (gr m a0 38) (ix x32))]) (μ' := u_X12_pair) (d := 1) rfl rfl mc_X12_pair st_X12_pair lk_RX12_357 (Nat.le_of_ble_eq_true rfl) rfl (Nat.le_of_ble_eq_true rfl) (fun _ h => ct_X12_pair h) (fun x41 => ?_)
            refine r_istore 69 120 (L' := [(5, .inl x41), (4, .inl x38), (3, .inl x32), (0, .inr (.inr a0)), (1, .inl a1), (2, .inl a2)]) rfl rfl (by decide) rfl ?_
            refine r_aload_n 70 121 3 rfl rfl rfl rfl ?_
            refine r_getR 71 124 rfl rfl fl_RX12_105 rfl h0 ?_
            refine r_iload 72 126 0 rfl rfl rfl ?_
            refine r_aload_n 73 127 3 rfl rfl rfl rfl ?_
            refine r_getR 74 130 rfl rfl fl_RX12_105 rfl h0 ?_
            refine r_iload 75 132 0 rfl rfl rfl ?_
            refine r_gd (fun h42 => ?_)
            refine r_iald 76 133 rfl rfl h42 ?_
            refine r_aload_n 77 134 3 rfl rfl rfl rfl ?_
            refine r_getR 78 137 rfl rfl fl_RX12_79 rfl h0 ?_
            refine r_iload_n 79 138 2 rfl rfl rfl rfl ?_
            refine r_gd (fun h43 => ?_)
            refine r_iald 80 139 rfl rfl h43 ?_
            refine r_bipush 81 141 (v := 10) rfl rfl (by decide) ?_
            have hj161 : ∀ (m : Mi) (a2 : Int32) (s0 : Int32) (s1 : Int32) (s2 : Int32) (s3 : Nat), Sm u_X12_pairs (3, 0, 0, t.length, zs t) κ35 161 [(0, .inr (.inr a0)), (1, .inl a1), (2, .inl a2)] [.inl s0, .inl s1, .inl s2, .inr (.inr s3)] (t, m) (f_X12_pairs_j161 t m a0 a1 a2 s0 s1 s2 s3) := by
              intro m a2 s0 s1 s2 s3
              unfold f_X12_pairs_j161
              refine r_iand 94 162 rfl rfl ?_
              refine r_gd (fun h44 => ?_)
              refine r_iast 95 163 rfl rfl h44 ?_
              refine r_ltM (fun m45 => ?_)
              refine r_iinc 96 166 2 (L' := [(2, .inl (a2 + 1)), (0, .inr (.inr a0)), (1, .inl a1)]) rfl rfl rfl (by decide) rfl ?_
              refine r_ltV (fun x46 => ?_)
              refine r_goto 97 35 rfl rfl ?_
              exact r_sub [1, 2, 0] rfl (hc35 (x46, m45))
            refine r_icmp_ne 82 153 144 rfl rfl rfl (fun h47 => ?_) (fun h47 => ?_)
            · refine r_aload_n 83 145 3 rfl rfl rfl rfl ?_
              refine r_getR 84 148 rfl rfl fl_RX12_98 rfl h0 ?_
              refine r_iload_n 85 149 5 rfl rfl rfl rfl ?_
              refine r_gd (fun h48 => ?_)
              refine r_iald 86 150 rfl rfl h48 ?_
              refine r_goto 87 161 rfl rfl ?_
              exact r_sub [3, 4, 5] rfl (hj161 m a2 (gi m (gr m a0 41) (ix a2)) (gi m (gr m a0 43) (ix x41)) x41 (gr m a0 43))
            · refine r_aload_n 88 154 3 rfl rfl rfl rfl ?_
              refine r_getR 89 157 rfl rfl fl_RX12_98 rfl h0 ?_
              refine r_iload_n 90 158 5 rfl rfl rfl rfl ?_
              refine r_gd (fun h49 => ?_)
              refine r_iald 91 159 rfl rfl h49 ?_
              refine r_iconst 92 160 (v := (-1)) rfl rfl (by decide) ?_
              refine r_ixor 93 161 rfl rfl ?_
              exact r_sub [3, 4, 5] rfl (hj161 m a2 ((gi m (gr m a0 41) (ix a2)) ^^^ (-1)) (gi m (gr m a0 43) (ix x41)) x41 (gr m a0 43))
      exact r_sub [1, 2, 0] rfl (hj35 m a1 0)
    refine r_lp (Lf := fun x : Int32 × Mi => [(0, .inr (.inr a0)), (1, .inl a1), (2, .inl (x.1))]) (Mf := fun x : Int32 × Mi => (t, x.2)) (a2, m) ?_ FUEL
    rintro ⟨a2, m⟩ κ12 hc12 he12
    refine r_eq (L' := [(0, .inr (.inr a0)), (1, .inl a1), (2, .inl a2)]) (M' := (t, m)) rfl rfl ?_
    refine r_eqr (r' := f_X12_pairs_l12 t m a0 a1 a2) rfl ?_
    unfold f_X12_pairs_l12
    refine r_iload_n 8 13 2 rfl rfl rfl rfl ?_
    refine r_sipush 9 16 (v := 700) rfl rfl (by decide) ?_
    refine r_icmp_ge 10 33 19 rfl rfl rfl (fun h50 => ?_) (fun h50 => ?_)
    · refine r_leaf (r2 := (f_X12_pairs_j33 t m a0 a1 : Option (Mi))) (he12 _) ?_
      exact r_sub [0, 1] rfl (hj33 m a1)
    · refine r_aload_n 11 20 0 rfl rfl rfl rfl ?_
      refine r_getR 12 23 rfl rfl fl_RX12_105 rfl h0 ?_
      refine r_iload_n 13 24 2 rfl rfl rfl rfl ?_
      refine r_bipush 14 26 (v := 127) rfl rfl (by decide) ?_
      refine r_gd (fun h51 => ?_)
      refine r_iast 15 27 rfl rfl h51 ?_
      refine r_ltM (fun m52 => ?_)
      refine r_iinc 16 30 2 (L' := [(2, .inl (a2 + 1)), (0, .inr (.inr a0)), (1, .inl a1)]) rfl rfl rfl (by decide) rfl ?_
      refine r_ltV (fun x53 => ?_)
      refine r_goto 17 12 rfl rfl ?_
      exact r_sub [1, 2, 0] rfl (hc12 (x53, m52))
  exact r_sub [2, 1, 0] rfl (hj12 m x2 0)
theorem ct_X12_pairs {t : List Sh} {m : Mi} {a0 : Nat} {m' : Mi}  (h0 : sh t a0 = some (.inl 12)) (h : f_X12_pairs t m a0 = some m') : Ct u_X12_pairs 3 0 0 [.inr (.inr a0)] (t, m) (none, (t, m')) :=
  ct_of (by decide) tk_X12_pairs (Nat.le_of_ble_eq_true rfl) (sm_X12_pairs t m a0 h0) (by rw [h]; rfl) (Nat.le_refl _) (Nat.le_refl _)
theorem fl_RX12_376 : FL RX12 376 12 57 false := ⟨RX12, TX12, 61, rfl, inW12, tyX12_ok, nmX12, by decide, rfl, rfl, rfl, tbm 1384 (by decide +kernel) rfl⟩
theorem lk_RX12_379 : Cond.methodLink RX12 379 yX12_isWanted ∈ TB := tbm 1726 (by decide +kernel) rfl
theorem fl_RX12_132 : FL RX12 132 12 56 true := ⟨RX12, TX12, 61, rfl, inW12, tyX12_ok, nmX12, by decide, rfl, rfl, rfl, tbm 1383 (by decide +kernel) rfl⟩
theorem fl_RX12_73 : FL RX12 73 12 33 true := ⟨RX12, TX12, 61, rfl, inW12, tyX12_ok, nmX12, by decide, rfl, rfl, rfl, tbm 1360 (by decide +kernel) rfl⟩
theorem fl_RX12_339 : FL RX12 339 12 52 false := ⟨RX12, TX12, 61, rfl, inW12, tyX12_ok, nmX12, by decide, rfl, rfl, rfl, tbm 1379 (by decide +kernel) rfl⟩
theorem fl_RX12_126 : FL RX12 126 12 54 true := ⟨RX12, TX12, 61, rfl, inW12, tyX12_ok, nmX12, by decide, rfl, rfl, rfl, tbm 1381 (by decide +kernel) rfl⟩
def tb_X12_rows : Tb := [(0, (.aload_n 0, 1)), (1, (.iconst 0, 1)), (2, (.putfield 376, 3)), (5, (.iload_n 2, 1)), (6, (.ifCond .eq 27, 3)), (9, (.aload_n 0, 1)), (10, (.getfield 339, 3)), (13, (.ifCond .eq 20, 3)), (16, (.aload_n 0, 1)), (17, (.getfield 132, 3)), (20, (.iconst 0, 1)), (21, (.aload_n 0, 1)), (22, (.getfield 126, 3)), (25, (.iload_n 1, 1)), (26, (.iaload, 1)), (27, (.iastore, 1)), (28, (.aload_n 0, 1)), (29, (.iconst 1, 1)), (30, (.putfield 376, 3)), (33, (.aload_n 0, 1)), (34, (.iload_n 1, 1)), (35, (.invokevirtual 379, 3)), (38, (.ifCond .ne 23, 3)), (41, (.aload_n 0, 1)), (42, (.getfield 132, 3)), (45, (.aload_n 0, 1)), (46, (.getfield 376, 3)), (49, (.iconst 0, 1)), (50, (.iastore, 1)), (51, (.aload_n 0, 1)), (52, (.aload_n 0, 1)), (53, (.getfield 376, 3)), (56, (.iconst 1, 1)), (57, (.iadd, 1)), (58, (.putfield 376, 3)), (61, (.aload_n 0, 1)), (62, (.getfield 376, 3)), (65, (.istore_n 3, 1)), (66, (.iconst 1, 1)), (67, (.istore 4, 2)), (69, (.iload 4, 2)), (71, (.aload_n 0, 1)), (72, (.iload_n 1, 1)), (73, (.invokevirtual 354, 3)), (76, (.if_icmp .gt 128, 3)), (79, (.aload_n 0, 1)), (80, (.getfield 376, 3)), (83, (.istore 5, 2)), (85, (.iload 5, 2)), (87, (.iload_n 3, 1)), (88, (.if_icmp .le 91, 3)), (91, (.aload_n 0, 1)), (92, (.getfield 73, 3)), (95, (.bipush 60, 2)), (97, (.aload_n 0, 1)), (98, (.getfield 326, 3)), (101, (.imul, 1)), (102, (.aload_n 0, 1)), (103, (.iload_n 1, 1)), (104, (.invokevirtual 352, 3)), (107, (.iadd, 1)), (108, (.aload_n 0, 1)), (109, (.getfield 132, 3)), (112, (.iload 5, 2)), (114, (.iconst 1, 1)), (115, (.isub, 1)), (116, (.iaload, 1)), (117, (.iadd, 1)), (118, (.iconst 1, 1)), (119, (.isub, 1)), (120, (.bipush 9, 2)), (122, (.imul, 1)), (123, (.aload_n 0, 1)), (124, (.getfield 73, 3)), (127, (.bipush 60, 2)), (129, (.aload_n 0, 1)), (130, (.getfield 326, 3)), (133, (.imul, 1)), (134, (.aload_n 0, 1)), (135, (.iload_n 1, 1)), (136, (.invokevirtual 352, 3)), (139, (.iadd, 1)), (140, (.iload 4, 2)), (142, (.iadd, 1)), (143, (.iconst 1, 1)), (144, (.isub, 1)), (145, (.bipush 9, 2)), (147, (.imul, 1)), (148, (.invokestatic 209, 3)), (151, (.ifCond .ge 28, 3)), (154, (.aload_n 0, 1)), (155, (.getfield 132, 3)), (158, (.iload 5, 2)), (160, (.aload_n 0, 1)), (161, (.getfield 132, 3)), (164, (.iload 5, 2)), (166, (.iconst 1, 1)), (167, (.isub, 1)), (168, (.iaload, 1)), (169, (.iastore, 1)), (170, (.iload 5, 2)), (172, (.iconst 1, 1)), (173, (.isub, 1)), (174, (.istore 5, 2)), (176, (.goto (-91), 3)), (179, (.aload_n 0, 1)), (180, (.getfield 132, 3)), (183, (.iload 5, 2)), (185, (.iload 4, 2)), (187, (.iastore, 1)), (188, (.aload_n 0, 1)), (189, (.aload_n 0, 1)), (190, (.getfield 376, 3)), (193, (.iconst 1, 1)), (194, (.iadd, 1)), (195, (.putfield 376, 3)), (198, (.iinc 4 1, 3)), (201, (.goto (-132), 3)), (204, (.return_, 1))]
def u_X12_rows : Fx := (yX12_rows, (cX12_rows, (6, (none, tb_X12_rows))))
theorem tk_X12_rows : ∀ q ∈ u_X12_rows.2.2.2.2, decode u_X12_rows.2.1 q.1 = .ok q.2 := by decide +kernel
theorem mc_X12_rows : MC u_X12_rows 2 := ⟨tbm 1725 (by decide +kernel) rfl, tbm 128 (by decide +kernel) rfl, ⟨by decide, by decide, by decide +kernel⟩, by decide⟩
theorem in_X12_rows : Cond.instanceMethod u_X12_rows.1 ∈ TB ∧ Cond.selects u_X12_rows.1.cls u_X12_rows.1 u_X12_rows.1 ∈ TB := ⟨tbm 1724 (by decide +kernel) rfl, tbm 103 (by decide +kernel) rfl⟩
def f_X12_rows_j204 (t : List Sh) (m : Mi) : Option (Mi) :=
  some m
def f_X12_rows_j179 (t : List Sh) (m : Mi) (a0 : Nat) (a1 : Int32) (a3 : Int32) (a4 : Int32) (a5 : Int32) : Option ((Int32 × Mi) ⊕ ((Mi))) :=
  (if ar t (gr m a0 56) .int a5 = true then
  lt (si m (gr m a0 56) (ix a5) a4) fun m8 =>
  lt (si m8 a0 57 ((gi m8 a0 57) + 1)) fun m9 =>
  lt (a4 + 1) fun x10 =>
  some (.inl (x10, m9))
  else none)
def f_X12_rows_l85 (t : List Sh) (m : Mi) (a0 : Nat) (a1 : Int32) (a3 : Int32) (a4 : Int32) (a5 : Int32) : Option ((Int32 × Mi) ⊕ ((Int32 × Mi))) :=
  if a5 ≤ a3 then
    some (.inr (a5, m))
  else
    (f_X12_first_ t m a0 a1).bind fun x12 =>
    (if ar t (gr m a0 56) .int (a5 - 1) = true then
    (f_X12_first_ t m a0 a1).bind fun x14 =>
    (f_X12_compare t m (gr m a0 33) (((((60 * (gi m a0 21)) + x12) + (gi m (gr m a0 56) (ix (a5 - 1)))) - 1) * 9) (gr m a0 33) (((((60 * (gi m a0 21)) + x14) + a4) - 1) * 9)).bind fun x15 =>
    if 0 ≤ x15 then
      some (.inr (a5, m))
    else
      (if ar t (gr m a0 56) .int a5 = true then
      lt (si m (gr m a0 56) (ix a5) (gi m (gr m a0 56) (ix (a5 - 1)))) fun m18 =>
      lt (a5 - 1) fun x19 =>
      some (.inl (x19, m18))
      else none)
    else none)
def f_X12_rows_j85 (t : List Sh) (m : Mi) (a0 : Nat) (a1 : Int32) (a3 : Int32) (a4 : Int32) (a5 : Int32) : Option ((Int32 × Mi) ⊕ ((Mi))) :=
  (lp (fun x : Int32 × Mi => f_X12_rows_l85 t x.2 a0 a1 a3 a4 x.1) FUEL (a5, m)).bind (fun y : Int32 × Mi => f_X12_rows_j179 t (y.2) a0 a1 a3 a4 (y.1))
def f_X12_rows_l69 (t : List Sh) (m : Mi) (a0 : Nat) (a1 : Int32) (a3 : Int32) (a4 : Int32) : Option ((Int32 × Mi) ⊕ ((Mi))) :=
  (f_X12_manyOf t m a0 a1).bind fun x4 =>
  if x4 < a4 then
    some (.inr m)
  else
    lt (gi m a0 57) fun x6 =>
    f_X12_rows_j85 t m a0 a1 a3 a4 x6
def f_X12_rows_j69 (t : List Sh) (m : Mi) (a0 : Nat) (a1 : Int32) (a3 : Int32) (a4 : Int32) : Option (Mi) :=
  (lp (fun x : Int32 × Mi => f_X12_rows_l69 t x.2 a0 a1 a3 x.1) FUEL (a4, m)).bind (fun y : Mi => f_X12_rows_j204 t y)
def f_X12_rows_j61 (t : List Sh) (m : Mi) (a0 : Nat) (a1 : Int32) : Option (Mi) :=
  lt (gi m a0 57) fun x3 =>
  f_X12_rows_j69 t m a0 a1 x3 1
def f_X12_rows_j33 (t : List Sh) (m : Mi) (a0 : Nat) (a1 : Int32) : Option (Mi) :=
  (f_X12_isWanted t m a0 a1).bind fun x2 =>
  if x2 = 0 then
    (if ar t (gr m a0 56) .int (gi m a0 57) = true then
    lt (si m (gr m a0 56) (ix (gi m a0 57)) 0) fun m22 =>
    lt (si m22 a0 57 ((gi m22 a0 57) + 1)) fun m23 =>
    f_X12_rows_j61 t m23 a0 a1
    else none)
  else
    f_X12_rows_j61 t m a0 a1
def f_X12_rows (t : List Sh) (m : Mi) (a0 : Nat) (a1 : Int32) (a2 : Int32) : Option (Mi) :=
  lt (si m a0 57 0) fun m1 =>
  if a2 = 0 then
    f_X12_rows_j33 t m1 a0 a1
  else
    if (gi m1 a0 52) = 0 then
      f_X12_rows_j33 t m1 a0 a1
    else
      (if ar t (gr m1 a0 54) .int a1 = true then
      (if ar t (gr m1 a0 56) .int 0 = true then
      lt (si m1 (gr m1 a0 56) (ix 0) (gi m1 (gr m1 a0 54) (ix a1))) fun m28 =>
      lt (si m28 a0 57 1) fun m29 =>
      f_X12_rows_j33 t m29 a0 a1
      else none)
      else none)
set_option maxRecDepth 4000 in
set_option maxHeartbeats 4000000 in
theorem sm_X12_rows (t : List Sh) (m : Mi) (a0 : Nat) (a1 : Int32) (a2 : Int32) (h0 : sh t a0 = some (.inl 12)) : Sm u_X12_rows (3, 0, 0, t.length, zs t) (kV t) 0 [(0, .inr (.inr a0)), (1, .inl a1), (2, .inl a2)] [] (t, m) (f_X12_rows t m a0 a1 a2) := by
  unfold f_X12_rows
  refine r_aload_n 0 1 0 rfl rfl rfl rfl ?_
  refine r_iconst 1 2 (v := 0) rfl rfl (by decide) ?_
  refine r_putI 2 5 rfl rfl fl_RX12_376 (fun h => by cases h) (Or.inl rfl) h0 ?_
  refine r_ltM (fun m1 => ?_)
  refine r_iload_n 3 6 2 rfl rfl rfl rfl ?_
  have hj33 : ∀ (m : Mi), Sm u_X12_rows (3, 0, 0, t.length, zs t) (kV t) 33 [(0, .inr (.inr a0)), (1, .inl a1)] [] (t, m) (f_X12_rows_j33 t m a0 a1) := by
    intro m
    unfold f_X12_rows_j33
    refine r_aload_n 19 34 0 rfl rfl rfl rfl ?_
    refine r_iload_n 20 35 1 rfl rfl rfl rfl ?_
    refine r_VIo 21 38 (st := []) (av := [.inr (.inr a0), .inl a1]) (av' := [.inl a1]) (μ' := u_X12_isWanted) (d := 2) rfl rfl mc_X12_isWanted in_X12_isWanted lk_RX12_379 (Nat.le_of_ble_eq_true rfl) rfl rfl h0 rfl (Nat.le_of_ble_eq_true rfl) (fun _ h => ct_X12_isWanted h0 h) (fun x2 => ?_)
    have hj61 : ∀ (m : Mi), Sm u_X12_rows (3, 0, 0, t.length, zs t) (kV t) 61 [(0, .inr (.inr a0)), (1, .inl a1)] [] (t, m) (f_X12_rows_j61 t m a0 a1) := by
      intro m
      unfold f_X12_rows_j61
      refine r_aload_n 35 62 0 rfl rfl rfl rfl ?_
      refine r_getI 36 65 rfl rfl fl_RX12_376 rfl h0 ?_
      refine r_ltI (fun x3 => ?_)
      refine r_istore_n 37 66 (L' := [(3, .inl x3), (0, .inr (.inr a0)), (1, .inl a1)]) rfl rfl rfl (by decide) rfl ?_
      refine r_iconst 38 67 (v := 1) rfl rfl (by decide) ?_
      refine r_istore 39 69 (L' := [(4, .inl 1), (3, .inl x3), (0, .inr (.inr a0)), (1, .inl a1)]) rfl rfl (by decide) rfl ?_
      have hj69 : ∀ (m : Mi) (a3 : Int32) (a4 : Int32), Sm u_X12_rows (3, 0, 0, t.length, zs t) (kV t) 69 [(0, .inr (.inr a0)), (1, .inl a1), (3, .inl a3), (4, .inl a4)] [] (t, m) (f_X12_rows_j69 t m a0 a1 a3 a4) := by
        intro m a3 a4
        unfold f_X12_rows_j69
        have hj204 : ∀ (m : Mi), Sm u_X12_rows (3, 0, 0, t.length, zs t) (kV t) 204 [] [] (t, m) (f_X12_rows_j204 t m) := by
          intro m
          unfold f_X12_rows_j204
          exact r_vret 118 rfl rfl rfl
        refine r_lp (Lf := fun x : Int32 × Mi => [(0, .inr (.inr a0)), (1, .inl a1), (3, .inl a3), (4, .inl (x.1))]) (Mf := fun x : Int32 × Mi => (t, x.2)) (a4, m) ?_ FUEL
        rintro ⟨a4, m⟩ κ69 hc69 he69
        refine r_eq (L' := [(0, .inr (.inr a0)), (1, .inl a1), (3, .inl a3), (4, .inl a4)]) (M' := (t, m)) rfl rfl ?_
        refine r_eqr (r' := f_X12_rows_l69 t m a0 a1 a3 a4) rfl ?_
        unfold f_X12_rows_l69
        refine r_iload 40 71 3 rfl rfl rfl ?_
        refine r_aload_n 41 72 0 rfl rfl rfl rfl ?_
        refine r_iload_n 42 73 1 rfl rfl rfl rfl ?_
        refine r_VIo 43 76 (st := [.inl a4]) (av := [.inr (.inr a0), .inl a1]) (av' := [.inl a1]) (μ' := u_X12_manyOf) (d := 2) rfl rfl mc_X12_manyOf in_X12_manyOf lk_RX12_354 (Nat.le_of_ble_eq_true rfl) rfl rfl h0 rfl (Nat.le_of_ble_eq_true rfl) (fun _ h => ct_X12_manyOf h0 h) (fun x4 => ?_)
        refine r_icmp_gt 44 204 79 rfl rfl rfl (fun h5 => ?_) (fun h5 => ?_)
        · refine r_leaf (r2 := (f_X12_rows_j204 t m : Option (Mi))) (he69 _) ?_
          exact r_sub [] rfl (hj204 m)
        · refine r_aload_n 45 80 0 rfl rfl rfl rfl ?_
          refine r_getI 46 83 rfl rfl fl_RX12_376 rfl h0 ?_
          refine r_ltI (fun x6 => ?_)
          refine r_istore 47 85 (L' := [(5, .inl x6), (0, .inr (.inr a0)), (1, .inl a1), (3, .inl a3), (4, .inl a4)]) rfl rfl (by decide) rfl ?_
          have hj85 : ∀ (m : Mi) (a4 : Int32) (a5 : Int32), Sm u_X12_rows (3, 0, 0, t.length, zs t) κ69 85 [(0, .inr (.inr a0)), (1, .inl a1), (3, .inl a3), (4, .inl a4), (5, .inl a5)] [] (t, m) (f_X12_rows_j85 t m a0 a1 a3 a4 a5) := by
            intro m a4 a5
            unfold f_X12_rows_j85
            have hj179 : ∀ (m : Mi) (a4 : Int32) (a5 : Int32), Sm u_X12_rows (3, 0, 0, t.length, zs t) κ69 179 [(0, .inr (.inr a0)), (1, .inl a1), (3, .inl a3), (4, .inl a4), (5, .inl a5)] [] (t, m) (f_X12_rows_j179 t m a0 a1 a3 a4 a5) := by
              intro m a4 a5
              unfold f_X12_rows_j179
              refine r_aload_n 105 180 0 rfl rfl rfl rfl ?_
              refine r_getR 106 183 rfl rfl fl_RX12_132 rfl h0 ?_
              refine r_iload 107 185 4 rfl rfl rfl ?_
              refine r_iload 108 187 3 rfl rfl rfl ?_
              refine r_gd (fun h7 => ?_)
              refine r_iast 109 188 rfl rfl h7 ?_
              refine r_ltM (fun m8 => ?_)
              refine r_aload_n 110 189 0 rfl rfl rfl rfl ?_
              refine r_aload_n 111 190 0 rfl rfl rfl rfl ?_
              refine r_getI 112 193 rfl rfl fl_RX12_376 rfl h0 ?_
              refine r_iconst 113 194 (v := 1) rfl rfl (by decide) ?_
              refine r_iadd 114 195 rfl rfl ?_
              refine r_putI 115 198 rfl rfl fl_RX12_376 (fun h => by cases h) (Or.inl rfl) h0 ?_
              refine r_ltM (fun m9 => ?_)
              refine r_iinc 116 201 3 (L' := [(4, .inl (a4 + 1)), (0, .inr (.inr a0)), (1, .inl a1), (3, .inl a3), (5, .inl a5)]) rfl rfl rfl (by decide) rfl ?_
              refine r_ltV (fun x10 => ?_)
              refine r_goto 117 69 rfl rfl ?_
              exact r_sub [1, 2, 3, 0] rfl (hc69 (x10, m9))
            refine r_lp (Lf := fun x : Int32 × Mi => [(0, .inr (.inr a0)), (1, .inl a1), (3, .inl a3), (4, .inl a4), (5, .inl (x.1))]) (Mf := fun x : Int32 × Mi => (t, x.2)) (a5, m) ?_ FUEL
            rintro ⟨a5, m⟩ κ85 hc85 he85
            refine r_eq (L' := [(0, .inr (.inr a0)), (1, .inl a1), (3, .inl a3), (4, .inl a4), (5, .inl a5)]) (M' := (t, m)) rfl rfl ?_
            refine r_eqr (r' := f_X12_rows_l85 t m a0 a1 a3 a4 a5) rfl ?_
            unfold f_X12_rows_l85
            refine r_iload 48 87 4 rfl rfl rfl ?_
            refine r_iload_n 49 88 2 rfl rfl rfl rfl ?_
            refine r_icmp_le 50 179 91 rfl rfl rfl (fun h11 => ?_) (fun h11 => ?_)
            · refine r_leaf (r2 := (f_X12_rows_j179 t m a0 a1 a3 a4 a5 : Option ((Int32 × Mi) ⊕ ((Mi))))) (he85 _) ?_
              exact hj179 m a4 a5
            · refine r_aload_n 51 92 0 rfl rfl rfl rfl ?_
              refine r_getR 52 95 rfl rfl fl_RX12_73 rfl h0 ?_
              refine r_bipush 53 97 (v := 60) rfl rfl (by decide) ?_
              refine r_aload_n 54 98 0 rfl rfl rfl rfl ?_
              refine r_getI 55 101 rfl rfl fl_RX12_326 rfl h0 ?_
              refine r_imul 56 102 rfl rfl ?_
              refine r_aload_n 57 103 0 rfl rfl rfl rfl ?_
              refine r_iload_n 58 104 1 rfl rfl rfl rfl ?_
              refine r_VIo 59 107 (st := [.inl (60 * (gi m a0 21)), .inr (.inr (gr m a0 33))]) (av := [.inr (.inr a0), .inl a1]) (av' := [.inl a1]) (μ' := u_X12_first_) (d := 1) rfl rfl mc_X12_first_ in_X12_first_ lk_RX12_352 (Nat.le_of_ble_eq_true rfl) rfl rfl h0 rfl (Nat.le_of_ble_eq_true rfl) (fun _ h => ct_X12_first_ h0 h) (fun x12 => ?_)
              refine r_iadd 60 108 rfl rfl ?_
              refine r_aload_n 61 109 0 rfl rfl rfl rfl ?_
              refine r_getR 62 112 rfl rfl fl_RX12_132 rfl h0 ?_
              refine r_iload 63 114 4 rfl rfl rfl ?_
              refine r_iconst 64 115 (v := 1) rfl rfl (by decide) ?_
              refine r_isub 65 116 rfl rfl ?_
              refine r_gd (fun h13 => ?_)
              refine r_iald 66 117 rfl rfl h13 ?_
              refine r_iadd 67 118 rfl rfl ?_
              refine r_iconst 68 119 (v := 1) rfl rfl (by decide) ?_
              refine r_isub 69 120 rfl rfl ?_
              refine r_bipush 70 122 (v := 9) rfl rfl (by decide) ?_
              refine r_imul 71 123 rfl rfl ?_
              refine r_aload_n 72 124 0 rfl rfl rfl rfl ?_
              refine r_getR 73 127 rfl rfl fl_RX12_73 rfl h0 ?_
              refine r_bipush 74 129 (v := 60) rfl rfl (by decide) ?_
              refine r_aload_n 75 130 0 rfl rfl rfl rfl ?_
              refine r_getI 76 133 rfl rfl fl_RX12_326 rfl h0 ?_
              refine r_imul 77 134 rfl rfl ?_
              refine r_aload_n 78 135 0 rfl rfl rfl rfl ?_
              refine r_iload_n 79 136 1 rfl rfl rfl rfl ?_
              refine r_VIo 80 139 (st := [.inl (60 * (gi m a0 21)), .inr (.inr (gr m a0 33)), .inl (((((60 * (gi m a0 21)) + x12) + (gi m (gr m a0 56) (ix (a5 - 1)))) - 1) * 9), .inr (.inr (gr m a0 33))]) (av := [.inr (.inr a0), .inl a1]) (av' := [.inl a1]) (μ' := u_X12_first_) (d := 1) rfl rfl mc_X12_first_ in_X12_first_ lk_RX12_352 (Nat.le_of_ble_eq_true rfl) rfl rfl h0 rfl (Nat.le_of_ble_eq_true rfl) (fun _ h => ct_X12_first_ h0 h) (fun x14 => ?_)
              refine r_iadd 81 140 rfl rfl ?_
              refine r_iload 82 142 3 rfl rfl rfl ?_
              refine r_iadd 83 143 rfl rfl ?_
              refine r_iconst 84 144 (v := 1) rfl rfl (by decide) ?_
              refine r_isub 85 145 rfl rfl ?_
              refine r_bipush 86 147 (v := 9) rfl rfl (by decide) ?_
              refine r_imul 87 148 rfl rfl ?_
              refine r_SIo 88 151 (a := 0) (cn := 0) (st := []) (av := [.inr (.inr (gr m a0 33)), .inl (((((60 * (gi m a0 21)) + x12) + (gi m (gr m a0 56) (ix (a5 - 1)))) - 1) * 9), .inr (.inr (gr m a0 33)), .inl (((((60 * (gi m a0 21)) + x14) + a4) - 1) * 9)]) (μ' := u_X12_compare) (d := 1) rfl rfl mc_X12_compare st_X12_compare lk_RX12_209 (Nat.le_of_ble_eq_true rfl) rfl (Nat.le_of_ble_eq_true rfl) (fun _ h => ct_X12_compare h) (fun x15 => ?_)
              refine r_if_ge 89 179 154 rfl rfl rfl (fun h16 => ?_) (fun h16 => ?_)
              · refine r_leaf (r2 := (f_X12_rows_j179 t m a0 a1 a3 a4 a5 : Option ((Int32 × Mi) ⊕ ((Mi))))) (he85 _) ?_
                exact hj179 m a4 a5
              · refine r_aload_n 90 155 0 rfl rfl rfl rfl ?_
                refine r_getR 91 158 rfl rfl fl_RX12_132 rfl h0 ?_
                refine r_iload 92 160 4 rfl rfl rfl ?_
                refine r_aload_n 93 161 0 rfl rfl rfl rfl ?_
                refine r_getR 94 164 rfl rfl fl_RX12_132 rfl h0 ?_
                refine r_iload 95 166 4 rfl rfl rfl ?_
                refine r_iconst 96 167 (v := 1) rfl rfl (by decide) ?_
                refine r_isub 97 168 rfl rfl ?_
                refine r_iald 98 169 rfl rfl h13 ?_
                refine r_gd (fun h17 => ?_)
                refine r_iast 99 170 rfl rfl h17 ?_
                refine r_ltM (fun m18 => ?_)
                refine r_iload 100 172 4 rfl rfl rfl ?_
                refine r_iconst 101 173 (v := 1) rfl rfl (by decide) ?_
                refine r_isub 102 174 rfl rfl ?_
                refine r_ltI (fun x19 => ?_)
                refine r_istore 103 176 (L' := [(5, .inl x19), (0, .inr (.inr a0)), (1, .inl a1), (3, .inl a3), (4, .inl a4)]) rfl rfl (by decide) rfl ?_
                refine r_goto 104 85 rfl rfl ?_
                exact r_sub [1, 2, 3, 4, 0] rfl (hc85 (x19, m18))
          exact r_sub [1, 2, 3, 4, 0] rfl (hj85 m a4 x6)
      exact r_sub [2, 3, 1, 0] rfl (hj69 m x3 1)
    refine r_if_ne 22 61 41 rfl rfl rfl (fun h20 => ?_) (fun h20 => ?_)
    · refine r_aload_n 23 42 0 rfl rfl rfl rfl ?_
      refine r_getR 24 45 rfl rfl fl_RX12_132 rfl h0 ?_
      refine r_aload_n 25 46 0 rfl rfl rfl rfl ?_
      refine r_getI 26 49 rfl rfl fl_RX12_376 rfl h0 ?_
      refine r_iconst 27 50 (v := 0) rfl rfl (by decide) ?_
      refine r_gd (fun h21 => ?_)
      refine r_iast 28 51 rfl rfl h21 ?_
      refine r_ltM (fun m22 => ?_)
      refine r_aload_n 29 52 0 rfl rfl rfl rfl ?_
      refine r_aload_n 30 53 0 rfl rfl rfl rfl ?_
      refine r_getI 31 56 rfl rfl fl_RX12_376 rfl h0 ?_
      refine r_iconst 32 57 (v := 1) rfl rfl (by decide) ?_
      refine r_iadd 33 58 rfl rfl ?_
      refine r_putI 34 61 rfl rfl fl_RX12_376 (fun h => by cases h) (Or.inl rfl) h0 ?_
      refine r_ltM (fun m23 => ?_)
      exact hj61 m23
    · exact hj61 m
  refine r_if_eq 4 33 9 rfl rfl rfl (fun h24 => ?_) (fun h24 => ?_)
  · exact r_sub [0, 1] rfl (hj33 m1)
  · refine r_aload_n 5 10 0 rfl rfl rfl rfl ?_
    refine r_getI 6 13 rfl rfl fl_RX12_339 rfl h0 ?_
    refine r_if_eq 7 33 16 rfl rfl rfl (fun h25 => ?_) (fun h25 => ?_)
    · exact r_sub [0, 1] rfl (hj33 m1)
    · refine r_aload_n 8 17 0 rfl rfl rfl rfl ?_
      refine r_getR 9 20 rfl rfl fl_RX12_132 rfl h0 ?_
      refine r_iconst 10 21 (v := 0) rfl rfl (by decide) ?_
      refine r_aload_n 11 22 0 rfl rfl rfl rfl ?_
      refine r_getR 12 25 rfl rfl fl_RX12_126 rfl h0 ?_
      refine r_iload_n 13 26 1 rfl rfl rfl rfl ?_
      refine r_gd (fun h26 => ?_)
      refine r_iald 14 27 rfl rfl h26 ?_
      refine r_gd (fun h27 => ?_)
      refine r_iast 15 28 rfl rfl h27 ?_
      refine r_ltM (fun m28 => ?_)
      refine r_aload_n 16 29 0 rfl rfl rfl rfl ?_
      refine r_iconst 17 30 (v := 1) rfl rfl (by decide) ?_
      refine r_putI 18 33 rfl rfl fl_RX12_376 (fun h => by cases h) (Or.inl rfl) h0 ?_
      refine r_ltM (fun m29 => ?_)
      exact r_sub [0, 1] rfl (hj33 m29)
theorem ct_X12_rows {t : List Sh} {m : Mi} {a0 : Nat} {a1 : Int32} {a2 : Int32} {m' : Mi}  (h0 : sh t a0 = some (.inl 12)) (h : f_X12_rows t m a0 a1 a2 = some m') : Ct u_X12_rows 3 0 0 [.inr (.inr a0), .inl a1, .inl a2] (t, m) (none, (t, m')) :=
  ct_of (by decide) tk_X12_rows (Nat.le_of_ble_eq_true rfl) (sm_X12_rows t m a0 a1 a2 h0) (by rw [h]; rfl) (Nat.le_refl _) (Nat.le_refl _)
theorem lk_RX12_417 : Cond.methodLink RX12 417 yX12_saysText ∈ TB := tbm 1780 (by decide +kernel) rfl
theorem fl_RX12_67 : FL RX12 67 12 31 true := ⟨RX12, TX12, 61, rfl, inW12, tyX12_ok, nmX12, by decide, rfl, rfl, rfl, tbm 1358 (by decide +kernel) rfl⟩
theorem fl_RX12_70 : FL RX12 70 12 32 true := ⟨RX12, TX12, 61, rfl, inW12, tyX12_ok, nmX12, by decide, rfl, rfl, rfl, tbm 1359 (by decide +kernel) rfl⟩
def tb_X12_saysRelease : Tb := [(0, (.aload_n 0, 1)), (1, (.getfield 64, 3)), (4, (.bipush 60, 2)), (6, (.aload_n 0, 1)), (7, (.getfield 326, 3)), (10, (.imul, 1)), (11, (.iload_n 1, 1)), (12, (.iadd, 1)), (13, (.iaload, 1)), (14, (.istore_n 2, 1)), (15, (.aload_n 0, 1)), (16, (.aload_n 0, 1)), (17, (.getfield 55, 3)), (20, (.bipush 10, 2)), (22, (.aload_n 0, 1)), (23, (.getfield 326, 3)), (26, (.imul, 1)), (27, (.iload_n 2, 1)), (28, (.iadd, 1)), (29, (.iaload, 1)), (30, (.aload_n 0, 1)), (31, (.getfield 58, 3)), (34, (.bipush 10, 2)), (36, (.aload_n 0, 1)), (37, (.getfield 326, 3)), (40, (.imul, 1)), (41, (.iload_n 2, 1)), (42, (.iadd, 1)), (43, (.iaload, 1)), (44, (.invokevirtual 417, 3)), (47, (.aload_n 0, 1)), (48, (.bipush 32, 2)), (50, (.invokevirtual 402, 3)), (53, (.aload_n 0, 1)), (54, (.aload_n 0, 1)), (55, (.getfield 67, 3)), (58, (.bipush 60, 2)), (60, (.aload_n 0, 1)), (61, (.getfield 326, 3)), (64, (.imul, 1)), (65, (.iload_n 1, 1)), (66, (.iadd, 1)), (67, (.iaload, 1)), (68, (.aload_n 0, 1)), (69, (.getfield 70, 3)), (72, (.bipush 60, 2)), (74, (.aload_n 0, 1)), (75, (.getfield 326, 3)), (78, (.imul, 1)), (79, (.iload_n 1, 1)), (80, (.iadd, 1)), (81, (.iaload, 1)), (82, (.invokevirtual 417, 3)), (85, (.return_, 1))]
def u_X12_saysRelease : Fx := (yX12_saysRelease, (cX12_saysRelease, (3, (none, tb_X12_saysRelease))))
theorem tk_X12_saysRelease : ∀ q ∈ u_X12_saysRelease.2.2.2.2, decode u_X12_saysRelease.2.1 q.1 = .ok q.2 := by decide +kernel
theorem mc_X12_saysRelease : MC u_X12_saysRelease 1 := ⟨tbm 1779 (by decide +kernel) rfl, tbm 128 (by decide +kernel) rfl, ⟨by decide, by decide, by decide +kernel⟩, by decide⟩
theorem in_X12_saysRelease : Cond.instanceMethod u_X12_saysRelease.1 ∈ TB ∧ Cond.selects u_X12_saysRelease.1.cls u_X12_saysRelease.1 u_X12_saysRelease.1 ∈ TB := ⟨tbm 1778 (by decide +kernel) rfl, tbm 110 (by decide +kernel) rfl⟩
def f_X12_saysRelease (t : List Sh) (m : Mi) (a0 : Nat) (a1 : Int32) : Option (Mi) :=
  (if ar t (gr m a0 30) .int ((60 * (gi m a0 21)) + a1) = true then
  lt (gi m (gr m a0 30) (ix ((60 * (gi m a0 21)) + a1))) fun x2 =>
  (if ar t (gr m a0 27) .int ((10 * (gi m a0 21)) + x2) = true then
  (if ar t (gr m a0 28) .int ((10 * (gi m a0 21)) + x2) = true then
  (f_X12_saysText t m a0 (gi m (gr m a0 27) (ix ((10 * (gi m a0 21)) + x2))) (gi m (gr m a0 28) (ix ((10 * (gi m a0 21)) + x2)))).bind fun m5 =>
  (f_X12_says t m5 a0 32).bind fun m6 =>
  (if ar t (gr m6 a0 31) .int ((60 * (gi m6 a0 21)) + a1) = true then
  (if ar t (gr m6 a0 32) .int ((60 * (gi m6 a0 21)) + a1) = true then
  (f_X12_saysText t m6 a0 (gi m6 (gr m6 a0 31) (ix ((60 * (gi m6 a0 21)) + a1))) (gi m6 (gr m6 a0 32) (ix ((60 * (gi m6 a0 21)) + a1)))).bind fun m9 =>
  some m9
  else none)
  else none)
  else none)
  else none)
  else none)
set_option maxRecDepth 4000 in
set_option maxHeartbeats 4000000 in
theorem sm_X12_saysRelease (t : List Sh) (m : Mi) (a0 : Nat) (a1 : Int32) (h0 : sh t a0 = some (.inl 12)) : Sm u_X12_saysRelease (3, 0, 0, t.length, zs t) (kV t) 0 [(0, .inr (.inr a0)), (1, .inl a1)] [] (t, m) (f_X12_saysRelease t m a0 a1) := by
  unfold f_X12_saysRelease
  refine r_aload_n 0 1 0 rfl rfl rfl rfl ?_
  refine r_getR 1 4 rfl rfl fl_RX12_64 rfl h0 ?_
  refine r_bipush 2 6 (v := 60) rfl rfl (by decide) ?_
  refine r_aload_n 3 7 0 rfl rfl rfl rfl ?_
  refine r_getI 4 10 rfl rfl fl_RX12_326 rfl h0 ?_
  refine r_imul 5 11 rfl rfl ?_
  refine r_iload_n 6 12 1 rfl rfl rfl rfl ?_
  refine r_iadd 7 13 rfl rfl ?_
  refine r_gd (fun h1 => ?_)
  refine r_iald 8 14 rfl rfl h1 ?_
  refine r_ltI (fun x2 => ?_)
  refine r_istore_n 9 15 (L' := [(2, .inl x2), (0, .inr (.inr a0)), (1, .inl a1)]) rfl rfl rfl (by decide) rfl ?_
  refine r_aload_n 10 16 1 rfl rfl rfl rfl ?_
  refine r_aload_n 11 17 1 rfl rfl rfl rfl ?_
  refine r_getR 12 20 rfl rfl fl_RX12_55 rfl h0 ?_
  refine r_bipush 13 22 (v := 10) rfl rfl (by decide) ?_
  refine r_aload_n 14 23 1 rfl rfl rfl rfl ?_
  refine r_getI 15 26 rfl rfl fl_RX12_326 rfl h0 ?_
  refine r_imul 16 27 rfl rfl ?_
  refine r_iload_n 17 28 0 rfl rfl rfl rfl ?_
  refine r_iadd 18 29 rfl rfl ?_
  refine r_gd (fun h3 => ?_)
  refine r_iald 19 30 rfl rfl h3 ?_
  refine r_aload_n 20 31 1 rfl rfl rfl rfl ?_
  refine r_getR 21 34 rfl rfl fl_RX12_58 rfl h0 ?_
  refine r_bipush 22 36 (v := 10) rfl rfl (by decide) ?_
  refine r_aload_n 23 37 1 rfl rfl rfl rfl ?_
  refine r_getI 24 40 rfl rfl fl_RX12_326 rfl h0 ?_
  refine r_imul 25 41 rfl rfl ?_
  refine r_iload_n 26 42 0 rfl rfl rfl rfl ?_
  refine r_iadd 27 43 rfl rfl ?_
  refine r_gd (fun h4 => ?_)
  refine r_iald 28 44 rfl rfl h4 ?_
  refine r_VV 29 47 (st := []) (av := [.inr (.inr a0), .inl (gi m (gr m a0 27) (ix ((10 * (gi m a0 21)) + x2))), .inl (gi m (gr m a0 28) (ix ((10 * (gi m a0 21)) + x2)))]) (av' := [.inl (gi m (gr m a0 27) (ix ((10 * (gi m a0 21)) + x2))), .inl (gi m (gr m a0 28) (ix ((10 * (gi m a0 21)) + x2)))]) (μ' := u_X12_saysText) (d := 2) rfl rfl mc_X12_saysText in_X12_saysText lk_RX12_417 (Nat.le_of_ble_eq_true rfl) rfl rfl h0 rfl (Nat.le_of_ble_eq_true rfl) (fun _ h => ct_X12_saysText h0 h) (fun m5 => ?_)
  refine r_aload_n 30 48 1 rfl rfl rfl rfl ?_
  refine r_bipush 31 50 (v := 32) rfl rfl (by decide) ?_
  refine r_VV 32 53 (st := []) (av := [.inr (.inr a0), .inl 32]) (av' := [.inl 32]) (μ' := u_X12_says) (d := 1) rfl rfl mc_X12_says in_X12_says lk_RX12_402 (Nat.le_of_ble_eq_true rfl) rfl rfl h0 rfl (Nat.le_of_ble_eq_true rfl) (fun _ h => ct_X12_says h0 h) (fun m6 => ?_)
  refine r_aload_n 33 54 1 rfl rfl rfl rfl ?_
  refine r_aload_n 34 55 1 rfl rfl rfl rfl ?_
  refine r_getR 35 58 rfl rfl fl_RX12_67 rfl h0 ?_
  refine r_bipush 36 60 (v := 60) rfl rfl (by decide) ?_
  refine r_aload_n 37 61 1 rfl rfl rfl rfl ?_
  refine r_getI 38 64 rfl rfl fl_RX12_326 rfl h0 ?_
  refine r_imul 39 65 rfl rfl ?_
  refine r_iload_n 40 66 2 rfl rfl rfl rfl ?_
  refine r_iadd 41 67 rfl rfl ?_
  refine r_gd (fun h7 => ?_)
  refine r_iald 42 68 rfl rfl h7 ?_
  refine r_aload_n 43 69 1 rfl rfl rfl rfl ?_
  refine r_getR 44 72 rfl rfl fl_RX12_70 rfl h0 ?_
  refine r_bipush 45 74 (v := 60) rfl rfl (by decide) ?_
  refine r_aload_n 46 75 1 rfl rfl rfl rfl ?_
  refine r_getI 47 78 rfl rfl fl_RX12_326 rfl h0 ?_
  refine r_imul 48 79 rfl rfl ?_
  refine r_iload_n 49 80 2 rfl rfl rfl rfl ?_
  refine r_iadd 50 81 rfl rfl ?_
  refine r_gd (fun h8 => ?_)
  refine r_iald 51 82 rfl rfl h8 ?_
  refine r_VV 52 85 (st := []) (av := [.inr (.inr a0), .inl (gi m6 (gr m6 a0 31) (ix ((60 * (gi m6 a0 21)) + a1))), .inl (gi m6 (gr m6 a0 32) (ix ((60 * (gi m6 a0 21)) + a1)))]) (av' := [.inl (gi m6 (gr m6 a0 31) (ix ((60 * (gi m6 a0 21)) + a1))), .inl (gi m6 (gr m6 a0 32) (ix ((60 * (gi m6 a0 21)) + a1)))]) (μ' := u_X12_saysText) (d := 2) rfl rfl mc_X12_saysText in_X12_saysText lk_RX12_417 (Nat.le_of_ble_eq_true rfl) rfl rfl h0 rfl (Nat.le_of_ble_eq_true rfl) (fun _ h => ct_X12_saysText h0 h) (fun m9 => ?_)
  exact r_vret 53 rfl rfl rfl
theorem ct_X12_saysRelease {t : List Sh} {m : Mi} {a0 : Nat} {a1 : Int32} {m' : Mi}  (h0 : sh t a0 = some (.inl 12)) (h : f_X12_saysRelease t m a0 a1 = some m') : Ct u_X12_saysRelease 3 0 0 [.inr (.inr a0), .inl a1] (t, m) (none, (t, m')) :=
  ct_of (by decide) tk_X12_saysRelease (Nat.le_of_ble_eq_true rfl) (sm_X12_saysRelease t m a0 a1 h0) (by rw [h]; rfl) (Nat.le_refl _) (Nat.le_refl _)
theorem lk_RX12_405 : Cond.methodLink RX12 405 yX12_saysNumber ∈ TB := tbm 1771 (by decide +kernel) rfl
def tb_X12_saysVersion : Tb := [(0, (.iconst 0, 1)), (1, (.istore_n 3, 1)), (2, (.iload_n 3, 1)), (3, (.iconst 3, 1)), (4, (.if_icmp .ge 28, 3)), (7, (.iload_n 3, 1)), (8, (.ifCond .le 9, 3)), (11, (.aload_n 0, 1)), (12, (.bipush 46, 2)), (14, (.invokevirtual 402, 3)), (17, (.aload_n 0, 1)), (18, (.aload_n 1, 1)), (19, (.iload_n 2, 1)), (20, (.iload_n 3, 1)), (21, (.iadd, 1)), (22, (.laload, 1)), (23, (.invokevirtual 405, 3)), (26, (.iinc 3 1, 3)), (29, (.goto (-27), 3)), (32, (.iconst 0, 1)), (33, (.istore_n 3, 1)), (34, (.iload_n 3, 1)), (35, (.i2l, 1)), (36, (.aload_n 1, 1)), (37, (.iload_n 2, 1)), (38, (.iconst 3, 1)), (39, (.iadd, 1)), (40, (.laload, 1)), (41, (.lcmp, 1)), (42, (.ifCond .ge 94, 3)), (45, (.aload_n 0, 1)), (46, (.iload_n 3, 1)), (47, (.ifCond .ne 8, 3)), (50, (.bipush 45, 2)), (52, (.goto 5, 3)), (55, (.bipush 46, 2)), (57, (.invokevirtual 402, 3)), (60, (.aload_n 1, 1)), (61, (.iload_n 2, 1)), (62, (.iconst 4, 1)), (63, (.iadd, 1)), (64, (.iload_n 3, 1)), (65, (.iadd, 1)), (66, (.laload, 1)), (67, (.lstore 4, 2)), (69, (.lload 4, 2)), (71, (.ldc2_w 197, 3)), (74, (.lcmp, 1)), (75, (.ifCond .ge 12, 3)), (78, (.aload_n 0, 1)), (79, (.lload 4, 2)), (81, (.invokevirtual 405, 3)), (84, (.goto 46, 3)), (87, (.bipush 56, 2)), (89, (.istore 6, 2)), (91, (.iload 6, 2)), (93, (.ifCond .lt 37, 3)), (96, (.lload 4, 2)), (98, (.iload 6, 2)), (100, (.lshr, 1)), (101, (.ldc2_w 409, 3)), (104, (.land, 1)), (105, (.lconst 0, 1)), (106, (.lcmp, 1)), (107, (.ifCond .eq 17, 3)), (110, (.aload_n 0, 1)), (111, (.lload 4, 2)), (113, (.iload 6, 2)), (115, (.lshr, 1)), (116, (.ldc2_w 409, 3)), (119, (.land, 1)), (120, (.l2i, 1)), (121, (.invokevirtual 402, 3)), (124, (.iinc 6 (-8), 3)), (127, (.goto (-36), 3)), (130, (.iinc 3 1, 3)), (133, (.goto (-99), 3)), (136, (.return_, 1))]
def u_X12_saysVersion : Fx := (yX12_saysVersion, (cX12_saysVersion, (7, (none, tb_X12_saysVersion))))
theorem tk_X12_saysVersion : ∀ q ∈ u_X12_saysVersion.2.2.2.2, decode u_X12_saysVersion.2.1 q.1 = .ok q.2 := by decide +kernel
theorem mc_X12_saysVersion : MC u_X12_saysVersion 2 := ⟨tbm 1770 (by decide +kernel) rfl, tbm 128 (by decide +kernel) rfl, ⟨by decide, by decide, by decide +kernel⟩, by decide⟩
theorem in_X12_saysVersion : Cond.instanceMethod u_X12_saysVersion.1 ∈ TB ∧ Cond.selects u_X12_saysVersion.1.cls u_X12_saysVersion.1 u_X12_saysVersion.1 ∈ TB := ⟨tbm 1769 (by decide +kernel) rfl, tbm 108 (by decide +kernel) rfl⟩
def f_X12_saysVersion_j136 (t : List Sh) (m : Mi) : Option (Mi) :=
  some m
def f_X12_saysVersion_j130 (t : List Sh) (m : Mi) (a0 : Nat) (a1 : Nat) (a2 : Int32) (a3 : Int32) : Option ((Int32 × Mi) ⊕ ((Mi))) :=
  lt (a3 + 1) fun x8 =>
  some (.inl (x8, m))
def f_X12_saysVersion_l91 (t : List Sh) (m : Mi) (a0 : Nat) (a1 : Nat) (a2 : Int32) (a3 : Int32) (a4 : Int64) (a6 : Int32) : Option ((Int32 × Mi) ⊕ ((Mi))) :=
  if a6 < 0 then
    some (.inr m)
  else
    if (lg_cmp ((a4 >>> (Int32.toInt64 a6 &&& 63)) &&& 255) 0) = 0 then
      lt (a6 + (-8)) fun x11 =>
      some (.inl (x11, m))
    else
      (f_X12_says t m a0 (Int64.toInt32 ((a4 >>> (Int32.toInt64 a6 &&& 63)) &&& 255))).bind fun m12 =>
      lt (a6 + (-8)) fun x13 =>
      some (.inl (x13, m12))
def f_X12_saysVersion_j91 (t : List Sh) (m : Mi) (a0 : Nat) (a1 : Nat) (a2 : Int32) (a3 : Int32) (a4 : Int64) (a6 : Int32) : Option ((Int32 × Mi) ⊕ ((Mi))) :=
  (lp (fun x : Int32 × Mi => f_X12_saysVersion_l91 t x.2 a0 a1 a2 a3 a4 x.1) FUEL (a6, m)).bind (fun y : Mi => f_X12_saysVersion_j130 t y a0 a1 a2 a3)
def f_X12_saysVersion_j57 (t : List Sh) (m : Mi) (a0 : Nat) (a1 : Nat) (a2 : Int32) (a3 : Int32) (s0 : Int32) (s1 : Nat) : Option ((Int32 × Mi) ⊕ ((Mi))) :=
  (if ob t s1 12 = true then
  (f_X12_says t m s1 s0).bind fun m4 =>
  (if ar t a1 .long ((a2 + 4) + a3) = true then
  lt (gl m4 a1 (ix ((a2 + 4) + a3))) fun x6 =>
  if 0 ≤ (lg_cmp x6 1099511627776) then
    f_X12_saysVersion_j91 t m4 a0 a1 a2 a3 x6 56
  else
    (f_X12_saysNumber t m4 a0 x6).bind fun m14 =>
    lt (a3 + 1) fun x15 =>
    some (.inl (x15, m14))
  else none)
  else none)
def f_X12_saysVersion_l34 (t : List Sh) (m : Mi) (a0 : Nat) (a1 : Nat) (a2 : Int32) (a3 : Int32) : Option ((Int32 × Mi) ⊕ ((Mi))) :=
  (if ar t a1 .long (a2 + 3) = true then
  if 0 ≤ (lg_cmp (Int32.toInt64 a3) (gl m a1 (ix (a2 + 3)))) then
    some (.inr m)
  else
    if a3 = 0 then
      f_X12_saysVersion_j57 t m a0 a1 a2 a3 45 a0
    else
      f_X12_saysVersion_j57 t m a0 a1 a2 a3 46 a0
  else none)
def f_X12_saysVersion_j34 (t : List Sh) (m : Mi) (a0 : Nat) (a1 : Nat) (a2 : Int32) (a3 : Int32) : Option (Mi) :=
  (lp (fun x : Int32 × Mi => f_X12_saysVersion_l34 t x.2 a0 a1 a2 x.1) FUEL (a3, m)).bind (fun y : Mi => f_X12_saysVersion_j136 t y)
def f_X12_saysVersion_j32 (t : List Sh) (m : Mi) (a0 : Nat) (a1 : Nat) (a2 : Int32) : Option (Mi) :=
  f_X12_saysVersion_j34 t m a0 a1 a2 0
def f_X12_saysVersion_j17 (t : List Sh) (m : Mi) (a0 : Nat) (a1 : Nat) (a2 : Int32) (a3 : Int32) : Option ((Int32 × Mi) ⊕ ((Mi))) :=
  (if ar t a1 .long (a2 + a3) = true then
  (f_X12_saysNumber t m a0 (gl m a1 (ix (a2 + a3)))).bind fun m19 =>
  lt (a3 + 1) fun x20 =>
  some (.inl (x20, m19))
  else none)
def f_X12_saysVersion_l2 (t : List Sh) (m : Mi) (a0 : Nat) (a1 : Nat) (a2 : Int32) (a3 : Int32) : Option ((Int32 × Mi) ⊕ ((Mi))) :=
  if 3 ≤ a3 then
    some (.inr m)
  else
    if a3 ≤ 0 then
      f_X12_saysVersion_j17 t m a0 a1 a2 a3
    else
      (f_X12_says t m a0 46).bind fun m22 =>
      f_X12_saysVersion_j17 t m22 a0 a1 a2 a3
def f_X12_saysVersion_j2 (t : List Sh) (m : Mi) (a0 : Nat) (a1 : Nat) (a2 : Int32) (a3 : Int32) : Option (Mi) :=
  (lp (fun x : Int32 × Mi => f_X12_saysVersion_l2 t x.2 a0 a1 a2 x.1) FUEL (a3, m)).bind (fun y : Mi => f_X12_saysVersion_j32 t y a0 a1 a2)
def f_X12_saysVersion (t : List Sh) (m : Mi) (a0 : Nat) (a1 : Nat) (a2 : Int32) : Option (Mi) :=
  f_X12_saysVersion_j2 t m a0 a1 a2 0
set_option maxRecDepth 4000 in
set_option maxHeartbeats 4000000 in
theorem sm_X12_saysVersion (t : List Sh) (m : Mi) (a0 : Nat) (a1 : Nat) (a2 : Int32) (h0 : sh t a0 = some (.inl 12)) : Sm u_X12_saysVersion (3, 0, 0, t.length, zs t) (kV t) 0 [(0, .inr (.inr a0)), (1, .inr (.inr a1)), (2, .inl a2)] [] (t, m) (f_X12_saysVersion t m a0 a1 a2) := by
  unfold f_X12_saysVersion
  refine r_iconst 0 1 (v := 0) rfl rfl (by decide) ?_
  refine r_istore_n 1 2 (L' := [(3, .inl 0), (0, .inr (.inr a0)), (1, .inr (.inr a1)), (2, .inl a2)]) rfl rfl rfl (by decide) rfl ?_
  have hj2 : ∀ (m : Mi) (a3 : Int32), Sm u_X12_saysVersion (3, 0, 0, t.length, zs t) (kV t) 2 [(0, .inr (.inr a0)), (1, .inr (.inr a1)), (2, .inl a2), (3, .inl a3)] [] (t, m) (f_X12_saysVersion_j2 t m a0 a1 a2 a3) := by
    intro m a3
    unfold f_X12_saysVersion_j2
    have hj32 : ∀ (m : Mi), Sm u_X12_saysVersion (3, 0, 0, t.length, zs t) (kV t) 32 [(0, .inr (.inr a0)), (1, .inr (.inr a1)), (2, .inl a2)] [] (t, m) (f_X12_saysVersion_j32 t m a0 a1 a2) := by
      intro m
      unfold f_X12_saysVersion_j32
      refine r_iconst 19 33 (v := 0) rfl rfl (by decide) ?_
      refine r_istore_n 20 34 (L' := [(3, .inl 0), (0, .inr (.inr a0)), (1, .inr (.inr a1)), (2, .inl a2)]) rfl rfl rfl (by decide) rfl ?_
      have hj34 : ∀ (m : Mi) (a3 : Int32), Sm u_X12_saysVersion (3, 0, 0, t.length, zs t) (kV t) 34 [(0, .inr (.inr a0)), (1, .inr (.inr a1)), (2, .inl a2), (3, .inl a3)] [] (t, m) (f_X12_saysVersion_j34 t m a0 a1 a2 a3) := by
        intro m a3
        unfold f_X12_saysVersion_j34
        have hj136 : ∀ (m : Mi), Sm u_X12_saysVersion (3, 0, 0, t.length, zs t) (kV t) 136 [] [] (t, m) (f_X12_saysVersion_j136 t m) := by
          intro m
          unfold f_X12_saysVersion_j136
          exact r_vret 77 rfl rfl rfl
        refine r_lp (Lf := fun x : Int32 × Mi => [(0, .inr (.inr a0)), (1, .inr (.inr a1)), (2, .inl a2), (3, .inl (x.1))]) (Mf := fun x : Int32 × Mi => (t, x.2)) (a3, m) ?_ FUEL
        rintro ⟨a3, m⟩ κ34 hc34 he34
        refine r_eq (L' := [(0, .inr (.inr a0)), (1, .inr (.inr a1)), (2, .inl a2), (3, .inl a3)]) (M' := (t, m)) rfl rfl ?_
        refine r_eqr (r' := f_X12_saysVersion_l34 t m a0 a1 a2 a3) rfl ?_
        unfold f_X12_saysVersion_l34
        refine r_iload_n 21 35 3 rfl rfl rfl rfl ?_
        refine r_i2l 22 36 rfl rfl ?_
        refine r_aload_n 23 37 1 rfl rfl rfl rfl ?_
        refine r_iload_n 24 38 2 rfl rfl rfl rfl ?_
        refine r_iconst 25 39 (v := 3) rfl rfl (by decide) ?_
        refine r_iadd 26 40 rfl rfl ?_
        refine r_gd (fun h1 => ?_)
        refine r_lald 27 41 rfl rfl h1 ?_
        refine r_lcmp 28 42 rfl rfl ?_
        refine r_if_ge 29 136 45 rfl rfl rfl (fun h2 => ?_) (fun h2 => ?_)
        · refine r_leaf (r2 := (f_X12_saysVersion_j136 t m : Option (Mi))) (he34 _) ?_
          exact r_sub [] rfl (hj136 m)
        · refine r_aload_n 30 46 0 rfl rfl rfl rfl ?_
          refine r_iload_n 31 47 3 rfl rfl rfl rfl ?_
          have hj57 : ∀ (m : Mi) (a3 : Int32) (s0 : Int32) (s1 : Nat), Sm u_X12_saysVersion (3, 0, 0, t.length, zs t) κ34 57 [(0, .inr (.inr a0)), (1, .inr (.inr a1)), (2, .inl a2), (3, .inl a3)] [.inl s0, .inr (.inr s1)] (t, m) (f_X12_saysVersion_j57 t m a0 a1 a2 a3 s0 s1) := by
            intro m a3 s0 s1
            unfold f_X12_saysVersion_j57
            refine r_gd (fun h3 => ?_)
            refine r_VV 36 60 (st := []) (av := [.inr (.inr s1), .inl s0]) (av' := [.inl s0]) (μ' := u_X12_says) (d := 1) rfl rfl mc_X12_says in_X12_says lk_RX12_402 (Nat.le_of_ble_eq_true rfl) rfl rfl (ob_sh h3) rfl (Nat.le_of_ble_eq_true rfl) (fun _ h => ct_X12_says (ob_sh h3) h) (fun m4 => ?_)
            refine r_aload_n 37 61 1 rfl rfl rfl rfl ?_
            refine r_iload_n 38 62 2 rfl rfl rfl rfl ?_
            refine r_iconst 39 63 (v := 4) rfl rfl (by decide) ?_
            refine r_iadd 40 64 rfl rfl ?_
            refine r_iload_n 41 65 3 rfl rfl rfl rfl ?_
            refine r_iadd 42 66 rfl rfl ?_
            refine r_gd (fun h5 => ?_)
            refine r_lald 43 67 rfl rfl h5 ?_
            refine r_ltL (fun x6 => ?_)
            refine r_lstore 44 69 (L' := [(4, .inr (.inl x6)), (0, .inr (.inr a0)), (1, .inr (.inr a1)), (2, .inl a2), (3, .inl a3)]) rfl rfl (by decide) rfl ?_
            refine r_lload 45 71 0 rfl rfl rfl ?_
            refine r_ldc2 46 74 rfl rfl kc_RX12_197 ?_
            refine r_lcmp 47 75 rfl rfl ?_
            refine r_if_ge 48 87 78 rfl rfl rfl (fun h7 => ?_) (fun h7 => ?_)
            · refine r_bipush 53 89 (v := 56) rfl rfl (by decide) ?_
              refine r_istore 54 91 (L' := [(6, .inl 56), (4, .inr (.inl x6)), (0, .inr (.inr a0)), (1, .inr (.inr a1)), (2, .inl a2), (3, .inl a3)]) rfl rfl (by decide) rfl ?_
              have hj91 : ∀ (m : Mi) (a3 : Int32) (a4 : Int64) (a6 : Int32), Sm u_X12_saysVersion (3, 0, 0, t.length, zs t) κ34 91 [(0, .inr (.inr a0)), (1, .inr (.inr a1)), (2, .inl a2), (3, .inl a3), (4, .inr (.inl a4)), (6, .inl a6)] [] (t, m) (f_X12_saysVersion_j91 t m a0 a1 a2 a3 a4 a6) := by
                intro m a3 a4 a6
                unfold f_X12_saysVersion_j91
                have hj130 : ∀ (m : Mi) (a3 : Int32), Sm u_X12_saysVersion (3, 0, 0, t.length, zs t) κ34 130 [(0, .inr (.inr a0)), (1, .inr (.inr a1)), (2, .inl a2), (3, .inl a3)] [] (t, m) (f_X12_saysVersion_j130 t m a0 a1 a2 a3) := by
                  intro m a3
                  unfold f_X12_saysVersion_j130
                  refine r_iinc 75 133 3 (L' := [(3, .inl (a3 + 1)), (0, .inr (.inr a0)), (1, .inr (.inr a1)), (2, .inl a2)]) rfl rfl rfl (by decide) rfl ?_
                  refine r_ltV (fun x8 => ?_)
                  refine r_goto 76 34 rfl rfl ?_
                  exact r_sub [1, 2, 3, 0] rfl (hc34 (x8, m))
                refine r_lp (Lf := fun x : Int32 × Mi => [(0, .inr (.inr a0)), (1, .inr (.inr a1)), (2, .inl a2), (3, .inl a3), (4, .inr (.inl a4)), (6, .inl (x.1))]) (Mf := fun x : Int32 × Mi => (t, x.2)) (a6, m) ?_ FUEL
                rintro ⟨a6, m⟩ κ91 hc91 he91
                refine r_eq (L' := [(0, .inr (.inr a0)), (1, .inr (.inr a1)), (2, .inl a2), (3, .inl a3), (4, .inr (.inl a4)), (6, .inl a6)]) (M' := (t, m)) rfl rfl ?_
                refine r_eqr (r' := f_X12_saysVersion_l91 t m a0 a1 a2 a3 a4 a6) rfl ?_
                unfold f_X12_saysVersion_l91
                refine r_iload 55 93 5 rfl rfl rfl ?_
                refine r_if_lt 56 130 96 rfl rfl rfl (fun h9 => ?_) (fun h9 => ?_)
                · refine r_leaf (r2 := (f_X12_saysVersion_j130 t m a0 a1 a2 a3 : Option ((Int32 × Mi) ⊕ ((Mi))))) (he91 _) ?_
                  exact r_sub [0, 1, 2, 3] rfl (hj130 m a3)
                · refine r_lload 57 98 4 rfl rfl rfl ?_
                  refine r_iload 58 100 5 rfl rfl rfl ?_
                  refine r_lshr 59 101 rfl rfl ?_
                  refine r_ldc2 60 104 rfl rfl kc_RX12_409 ?_
                  refine r_land 61 105 rfl rfl ?_
                  refine r_lconst 62 106 (v := 0) rfl rfl (by decide) ?_
                  refine r_lcmp 63 107 rfl rfl ?_
                  refine r_if_eq 64 124 110 rfl rfl rfl (fun h10 => ?_) (fun h10 => ?_)
                  · refine r_iinc 73 127 5 (L' := [(6, .inl (a6 + (-8))), (0, .inr (.inr a0)), (1, .inr (.inr a1)), (2, .inl a2), (3, .inl a3), (4, .inr (.inl a4))]) rfl rfl rfl (by decide) rfl ?_
                    refine r_ltV (fun x11 => ?_)
                    refine r_goto 74 91 rfl rfl ?_
                    exact r_sub [1, 2, 3, 4, 5, 0] rfl (hc91 (x11, m))
                  · refine r_aload_n 65 111 0 rfl rfl rfl rfl ?_
                    refine r_lload 66 113 4 rfl rfl rfl ?_
                    refine r_iload 67 115 5 rfl rfl rfl ?_
                    refine r_lshr 68 116 rfl rfl ?_
                    refine r_ldc2 69 119 rfl rfl kc_RX12_409 ?_
                    refine r_land 70 120 rfl rfl ?_
                    refine r_l2i 71 121 rfl rfl ?_
                    refine r_VV 72 124 (st := []) (av := [.inr (.inr a0), .inl (Int64.toInt32 ((a4 >>> (Int32.toInt64 a6 &&& 63)) &&& 255))]) (av' := [.inl (Int64.toInt32 ((a4 >>> (Int32.toInt64 a6 &&& 63)) &&& 255))]) (μ' := u_X12_says) (d := 1) rfl rfl mc_X12_says in_X12_says lk_RX12_402 (Nat.le_of_ble_eq_true rfl) rfl rfl h0 rfl (Nat.le_of_ble_eq_true rfl) (fun _ h => ct_X12_says h0 h) (fun m12 => ?_)
                    refine r_iinc 73 127 5 (L' := [(6, .inl (a6 + (-8))), (0, .inr (.inr a0)), (1, .inr (.inr a1)), (2, .inl a2), (3, .inl a3), (4, .inr (.inl a4))]) rfl rfl rfl (by decide) rfl ?_
                    refine r_ltV (fun x13 => ?_)
                    refine r_goto 74 91 rfl rfl ?_
                    exact r_sub [1, 2, 3, 4, 5, 0] rfl (hc91 (x13, m12))
              exact r_sub [2, 3, 4, 5, 1, 0] rfl (hj91 m4 a3 x6 56)
            · refine r_aload_n 49 79 1 rfl rfl rfl rfl ?_
              refine r_lload 50 81 0 rfl rfl rfl ?_
              refine r_VV 51 84 (st := []) (av := [.inr (.inr a0), .inr (.inl x6)]) (av' := [.inr (.inl x6)]) (μ' := u_X12_saysNumber) (d := 2) rfl rfl mc_X12_saysNumber in_X12_saysNumber lk_RX12_405 (Nat.le_of_ble_eq_true rfl) rfl rfl h0 rfl (Nat.le_of_ble_eq_true rfl) (fun _ h => ct_X12_saysNumber h0 h) (fun m14 => ?_)
              refine r_goto 52 130 rfl rfl ?_
              refine r_iinc 75 133 4 (L' := [(3, .inl (a3 + 1)), (4, .inr (.inl x6)), (0, .inr (.inr a0)), (1, .inr (.inr a1)), (2, .inl a2)]) rfl rfl rfl (by decide) rfl ?_
              refine r_ltV (fun x15 => ?_)
              refine r_goto 76 34 rfl rfl ?_
              exact r_sub [2, 3, 4, 0] rfl (hc34 (x15, m14))
          refine r_if_ne 32 55 50 rfl rfl rfl (fun h16 => ?_) (fun h16 => ?_)
          · refine r_bipush 33 52 (v := 45) rfl rfl (by decide) ?_
            refine r_goto 34 57 rfl rfl ?_
            exact hj57 m a3 45 a0
          · refine r_bipush 35 57 (v := 46) rfl rfl (by decide) ?_
            exact hj57 m a3 46 a0
      exact r_sub [1, 2, 3, 0] rfl (hj34 m 0)
    refine r_lp (Lf := fun x : Int32 × Mi => [(0, .inr (.inr a0)), (1, .inr (.inr a1)), (2, .inl a2), (3, .inl (x.1))]) (Mf := fun x : Int32 × Mi => (t, x.2)) (a3, m) ?_ FUEL
    rintro ⟨a3, m⟩ κ2 hc2 he2
    refine r_eq (L' := [(0, .inr (.inr a0)), (1, .inr (.inr a1)), (2, .inl a2), (3, .inl a3)]) (M' := (t, m)) rfl rfl ?_
    refine r_eqr (r' := f_X12_saysVersion_l2 t m a0 a1 a2 a3) rfl ?_
    unfold f_X12_saysVersion_l2
    refine r_iload_n 2 3 3 rfl rfl rfl rfl ?_
    refine r_iconst 3 4 (v := 3) rfl rfl (by decide) ?_
    refine r_icmp_ge 4 32 7 rfl rfl rfl (fun h17 => ?_) (fun h17 => ?_)
    · refine r_leaf (r2 := (f_X12_saysVersion_j32 t m a0 a1 a2 : Option (Mi))) (he2 _) ?_
      exact r_sub [0, 1, 2] rfl (hj32 m)
    · refine r_iload_n 5 8 3 rfl rfl rfl rfl ?_
      have hj17 : ∀ (m : Mi) (a3 : Int32), Sm u_X12_saysVersion (3, 0, 0, t.length, zs t) κ2 17 [(0, .inr (.inr a0)), (1, .inr (.inr a1)), (2, .inl a2), (3, .inl a3)] [] (t, m) (f_X12_saysVersion_j17 t m a0 a1 a2 a3) := by
        intro m a3
        unfold f_X12_saysVersion_j17
        refine r_aload_n 10 18 0 rfl rfl rfl rfl ?_
        refine r_aload_n 11 19 1 rfl rfl rfl rfl ?_
        refine r_iload_n 12 20 2 rfl rfl rfl rfl ?_
        refine r_iload_n 13 21 3 rfl rfl rfl rfl ?_
        refine r_iadd 14 22 rfl rfl ?_
        refine r_gd (fun h18 => ?_)
        refine r_lald 15 23 rfl rfl h18 ?_
        refine r_VV 16 26 (st := []) (av := [.inr (.inr a0), .inr (.inl (gl m a1 (ix (a2 + a3))))]) (av' := [.inr (.inl (gl m a1 (ix (a2 + a3))))]) (μ' := u_X12_saysNumber) (d := 2) rfl rfl mc_X12_saysNumber in_X12_saysNumber lk_RX12_405 (Nat.le_of_ble_eq_true rfl) rfl rfl h0 rfl (Nat.le_of_ble_eq_true rfl) (fun _ h => ct_X12_saysNumber h0 h) (fun m19 => ?_)
        refine r_iinc 17 29 3 (L' := [(3, .inl (a3 + 1)), (0, .inr (.inr a0)), (1, .inr (.inr a1)), (2, .inl a2)]) rfl rfl rfl (by decide) rfl ?_
        refine r_ltV (fun x20 => ?_)
        refine r_goto 18 2 rfl rfl ?_
        exact r_sub [1, 2, 3, 0] rfl (hc2 (x20, m19))
      refine r_if_le 6 17 11 rfl rfl rfl (fun h21 => ?_) (fun h21 => ?_)
      · exact hj17 m a3
      · refine r_aload_n 7 12 0 rfl rfl rfl rfl ?_
        refine r_bipush 8 14 (v := 46) rfl rfl (by decide) ?_
        refine r_VV 9 17 (st := []) (av := [.inr (.inr a0), .inl 46]) (av' := [.inl 46]) (μ' := u_X12_says) (d := 1) rfl rfl mc_X12_says in_X12_says lk_RX12_402 (Nat.le_of_ble_eq_true rfl) rfl rfl h0 rfl (Nat.le_of_ble_eq_true rfl) (fun _ h => ct_X12_says h0 h) (fun m22 => ?_)
        exact hj17 m22 a3
  exact r_sub [1, 2, 3, 0] rfl (hj2 m 0)
theorem ct_X12_saysVersion {t : List Sh} {m : Mi} {a0 : Nat} {a1 : Nat} {a2 : Int32} {m' : Mi}  (h0 : sh t a0 = some (.inl 12)) (h : f_X12_saysVersion t m a0 a1 a2 = some m') : Ct u_X12_saysVersion 3 0 0 [.inr (.inr a0), .inr (.inr a1), .inl a2] (t, m) (none, (t, m')) :=
  ct_of (by decide) tk_X12_saysVersion (Nat.le_of_ble_eq_true rfl) (sm_X12_saysVersion t m a0 a1 a2 h0) (by rw [h]; rfl) (Nat.le_refl _) (Nat.le_refl _)
def tb_X12_sifts : Tb := [(0, (.aload_n 0, 1)), (1, (.getfield 43, 3)), (4, (.aload_n 0, 1)), (5, (.getfield 326, 3)), (8, (.iaload, 1)), (9, (.istore_n 2, 1)), (10, (.bipush 10, 2)), (12, (.iload_n 1, 1)), (13, (.imul, 1)), (14, (.istore_n 3, 1)), (15, (.iconst 1, 1)), (16, (.istore 4, 2)), (18, (.iload 4, 2)), (20, (.ifCond .eq 171, 3)), (23, (.iconst 0, 1)), (24, (.istore 4, 2)), (26, (.iconst 0, 1)), (27, (.istore 5, 2)), (29, (.iload 5, 2)), (31, (.iload_n 2, 1)), (32, (.if_icmp .ge 156, 3)), (35, (.iconst 0, 1)), (36, (.istore 6, 2)), (38, (.iload 6, 2)), (40, (.aload_n 0, 1)), (41, (.iload 5, 2)), (43, (.invokevirtual 354, 3)), (46, (.if_icmp .gt 122, 3)), (49, (.aload_n 0, 1)), (50, (.getfield 111, 3)), (53, (.iload_n 3, 1)), (54, (.iload 5, 2)), (56, (.iadd, 1)), (57, (.iaload, 1)), (58, (.iload 6, 2)), (60, (.ishr, 1)), (61, (.iconst 1, 1)), (62, (.iand, 1)), (63, (.ifCond .ne 6, 3)), (66, (.goto 96, 3)), (69, (.iconst 1, 1)), (70, (.istore 7, 2)), (72, (.iconst 0, 1)), (73, (.istore 8, 2)), (75, (.iload 8, 2)), (77, (.iload_n 2, 1)), (78, (.if_icmp .ge 48, 3)), (81, (.iload 7, 2)), (83, (.ifCond .eq 43, 3)), (86, (.aload_n 0, 1)), (87, (.getfield 108, 3)), (90, (.iload 5, 2)), (92, (.iload 6, 2)), (94, (.iload 8, 2)), (96, (.invokestatic 357, 3)), (99, (.iaload, 1)), (100, (.aload_n 0, 1)), (101, (.getfield 111, 3)), (104, (.iload_n 3, 1)), (105, (.iload 8, 2)), (107, (.iadd, 1)), (108, (.iaload, 1)), (109, (.iand, 1)), (110, (.ifCond .eq 7, 3)), (113, (.iconst 1, 1)), (114, (.goto 4, 3)), (117, (.iconst 0, 1)), (118, (.istore 7, 2)), (120, (.iinc 8 1, 3)), (123, (.goto (-48), 3)), (126, (.iload 7, 2)), (128, (.ifCond .eq 6, 3)), (131, (.goto 31, 3)), (134, (.aload_n 0, 1)), (135, (.getfield 111, 3)), (138, (.iload_n 3, 1)), (139, (.iload 5, 2)), (141, (.iadd, 1)), (142, (.aload_n 0, 1)), (143, (.getfield 111, 3)), (146, (.iload_n 3, 1)), (147, (.iload 5, 2)), (149, (.iadd, 1)), (150, (.iaload, 1)), (151, (.iconst 1, 1)), (152, (.iload 6, 2)), (154, (.ishl, 1)), (155, (.iconst (-1), 1)), (156, (.ixor, 1)), (157, (.iand, 1)), (158, (.iastore, 1)), (159, (.iconst 1, 1)), (160, (.istore 4, 2)), (162, (.iinc 6 1, 3)), (165, (.goto (-127), 3)), (168, (.aload_n 0, 1)), (169, (.getfield 111, 3)), (172, (.iload_n 3, 1)), (173, (.iload 5, 2)), (175, (.iadd, 1)), (176, (.iaload, 1)), (177, (.ifCond .ne 5, 3)), (180, (.iconst 0, 1)), (181, (.ireturn, 1)), (182, (.iinc 5 1, 3)), (185, (.goto (-156), 3)), (188, (.goto (-170), 3)), (191, (.iconst 1, 1)), (192, (.ireturn, 1))]
def u_X12_sifts : Fx := (yX12_sifts, (cX12_sifts, (9, ((some .boolean), tb_X12_sifts))))
theorem tk_X12_sifts : ∀ q ∈ u_X12_sifts.2.2.2.2, decode u_X12_sifts.2.1 q.1 = .ok q.2 := by decide +kernel
theorem mc_X12_sifts : MC u_X12_sifts 1 := ⟨tbm 1710 (by decide +kernel) rfl, tbm 128 (by decide +kernel) rfl, ⟨by decide, by decide, by decide +kernel⟩, by decide⟩
theorem in_X12_sifts : Cond.instanceMethod u_X12_sifts.1 ∈ TB ∧ Cond.selects u_X12_sifts.1.cls u_X12_sifts.1 u_X12_sifts.1 ∈ TB := ⟨tbm 1709 (by decide +kernel) rfl, tbm 100 (by decide +kernel) rfl⟩
def f_X12_sifts_j180 (t : List Sh) (m : Mi) : Option (Int32 × Mi) :=
  some (0, m)
def f_X12_sifts_j191 (t : List Sh) (m : Mi) : Option (Int32 × Mi) :=
  some (1, m)
def f_X12_sifts_j188 (t : List Sh) (m : Mi) (a0 : Nat) (a2 : Int32) (a3 : Int32) (a4 : Int32) : Option ((Int32 × Mi) ⊕ ((Mi) ⊕ (Mi))) :=
  some (.inl (a4, m))
def f_X12_sifts_j168 (t : List Sh) (m : Mi) (a0 : Nat) (a2 : Int32) (a3 : Int32) (a4 : Int32) (a5 : Int32) : Option ((Int32 × Int32 × Mi) ⊕ ((Int32 × Mi) ⊕ (Mi))) :=
  (if ar t (gr m a0 45) .int (a3 + a5) = true then
  if (gi m (gr m a0 45) (ix (a3 + a5))) = 0 then
    some (.inr (.inr m))
  else
    lt (a5 + 1) fun x8 =>
    some (.inl (a4, x8, m))
  else none)
def f_X12_sifts_j126 (t : List Sh) (m : Mi) (a0 : Nat) (a2 : Int32) (a3 : Int32) (a4 : Int32) (a5 : Int32) (a6 : Int32) (a7 : Int32) : Option ((Int32 × Int32 × Mi) ⊕ ((Int32 × Mi))) :=
  if a7 = 0 then
    (if ar t (gr m a0 45) .int (a3 + a5) = true then
    lt (si m (gr m a0 45) (ix (a3 + a5)) ((gi m (gr m a0 45) (ix (a3 + a5))) &&& ((1 <<< (a6 &&& 31)) ^^^ (-1)))) fun m16 =>
    lt (a6 + 1) fun x17 =>
    some (.inl (1, x17, m16))
    else none)
  else
    lt (a6 + 1) fun x18 =>
    some (.inl (a4, x18, m))
def f_X12_sifts_l75 (t : List Sh) (m : Mi) (a0 : Nat) (a2 : Int32) (a3 : Int32) (a4 : Int32) (a5 : Int32) (a6 : Int32) (a7 : Int32) (a8 : Int32) : Option ((Int32 × Int32) ⊕ ((Int32))) :=
  if a2 ≤ a8 then
    some (.inr a7)
  else
    if a7 = 0 then
      some (.inr a7)
    else
      (f_X12_pair a5 a6 a8).bind fun x21 =>
      (if ar t (gr m a0 44) .int x21 = true then
      (if ar t (gr m a0 45) .int (a3 + a8) = true then
      if ((gi m (gr m a0 44) (ix x21)) &&& (gi m (gr m a0 45) (ix (a3 + a8)))) = 0 then
        lt (a8 + 1) fun x25 =>
        some (.inl (0, x25))
      else
        lt (a8 + 1) fun x26 =>
        some (.inl (1, x26))
      else none)
      else none)
def f_X12_sifts_j75 (t : List Sh) (m : Mi) (a0 : Nat) (a2 : Int32) (a3 : Int32) (a4 : Int32) (a5 : Int32) (a6 : Int32) (a7 : Int32) (a8 : Int32) : Option ((Int32 × Int32 × Mi) ⊕ ((Int32 × Mi))) :=
  (lp (fun x : Int32 × Int32 => f_X12_sifts_l75 t m a0 a2 a3 a4 a5 a6 x.1 x.2) FUEL (a7, a8)).bind (fun y : Int32 => f_X12_sifts_j126 t m a0 a2 a3 a4 a5 a6 y)
def f_X12_sifts_l38 (t : List Sh) (m : Mi) (a0 : Nat) (a2 : Int32) (a3 : Int32) (a4 : Int32) (a5 : Int32) (a6 : Int32) : Option ((Int32 × Int32 × Mi) ⊕ ((Int32 × Mi))) :=
  (f_X12_manyOf t m a0 a5).bind fun x9 =>
  if x9 < a6 then
    some (.inr (a4, m))
  else
    (if ar t (gr m a0 45) .int (a3 + a5) = true then
    if (((gi m (gr m a0 45) (ix (a3 + a5))) >>> (a6 &&& 31)) &&& 1) = 0 then
      lt (a6 + 1) fun x13 =>
      some (.inl (a4, x13, m))
    else
      f_X12_sifts_j75 t m a0 a2 a3 a4 a5 a6 1 0
    else none)
def f_X12_sifts_j38 (t : List Sh) (m : Mi) (a0 : Nat) (a2 : Int32) (a3 : Int32) (a4 : Int32) (a5 : Int32) (a6 : Int32) : Option ((Int32 × Int32 × Mi) ⊕ ((Int32 × Mi) ⊕ (Mi))) :=
  (lp (fun x : Int32 × Int32 × Mi => f_X12_sifts_l38 t x.2.2 a0 a2 a3 x.1 a5 x.2.1) FUEL (a4, a6, m)).bind (fun y : Int32 × Mi => f_X12_sifts_j168 t (y.2) a0 a2 a3 (y.1) a5)
def f_X12_sifts_l29 (t : List Sh) (m : Mi) (a0 : Nat) (a2 : Int32) (a3 : Int32) (a4 : Int32) (a5 : Int32) : Option ((Int32 × Int32 × Mi) ⊕ ((Int32 × Mi) ⊕ (Mi))) :=
  if a2 ≤ a5 then
    some (.inr (.inl (a4, m)))
  else
    f_X12_sifts_j38 t m a0 a2 a3 a4 a5 0
def f_X12_sifts_j29 (t : List Sh) (m : Mi) (a0 : Nat) (a2 : Int32) (a3 : Int32) (a4 : Int32) (a5 : Int32) : Option ((Int32 × Mi) ⊕ ((Mi) ⊕ (Mi))) :=
  (lp (fun x : Int32 × Int32 × Mi => f_X12_sifts_l29 t x.2.2 a0 a2 a3 x.1 x.2.1) FUEL (a4, a5, m)).bind (Sum.elim (fun y : Int32 × Mi => f_X12_sifts_j188 t (y.2) a0 a2 a3 (y.1)) (fun y : Mi => some (.inr (.inr y))))
def f_X12_sifts_l18 (t : List Sh) (m : Mi) (a0 : Nat) (a2 : Int32) (a3 : Int32) (a4 : Int32) : Option ((Int32 × Mi) ⊕ ((Mi) ⊕ (Mi))) :=
  if a4 = 0 then
    some (.inr (.inl m))
  else
    f_X12_sifts_j29 t m a0 a2 a3 0 0
def f_X12_sifts_j18 (t : List Sh) (m : Mi) (a0 : Nat) (a2 : Int32) (a3 : Int32) (a4 : Int32) : Option (Int32 × Mi) :=
  (lp (fun x : Int32 × Mi => f_X12_sifts_l18 t x.2 a0 a2 a3 x.1) FUEL (a4, m)).bind (Sum.elim (fun y : Mi => f_X12_sifts_j191 t y) (fun y : Mi => f_X12_sifts_j180 t y))
def f_X12_sifts (t : List Sh) (m : Mi) (a0 : Nat) (a1 : Int32) : Option (Int32 × Mi) :=
  (if ar t (gr m a0 23) .int (gi m a0 21) = true then
  lt (gi m (gr m a0 23) (ix (gi m a0 21))) fun x2 =>
  lt (10 * a1) fun x3 =>
  f_X12_sifts_j18 t m a0 x2 x3 1
  else none)
set_option maxRecDepth 4000 in
set_option maxHeartbeats 4000000 in
theorem sm_X12_sifts (t : List Sh) (m : Mi) (a0 : Nat) (a1 : Int32) (h0 : sh t a0 = some (.inl 12)) : Sm u_X12_sifts (3, 0, 0, t.length, zs t) (kI t) 0 [(0, .inr (.inr a0)), (1, .inl a1)] [] (t, m) (f_X12_sifts t m a0 a1) := by
  unfold f_X12_sifts
  refine r_aload_n 0 1 0 rfl rfl rfl rfl ?_
  refine r_getR 1 4 rfl rfl fl_RX12_43 rfl h0 ?_
  refine r_aload_n 2 5 0 rfl rfl rfl rfl ?_
  refine r_getI 3 8 rfl rfl fl_RX12_326 rfl h0 ?_
  refine r_gd (fun h1 => ?_)
  refine r_iald 4 9 rfl rfl h1 ?_
  refine r_ltI (fun x2 => ?_)
  refine r_istore_n 5 10 (L' := [(2, .inl x2), (0, .inr (.inr a0)), (1, .inl a1)]) rfl rfl rfl (by decide) rfl ?_
  refine r_bipush 6 12 (v := 10) rfl rfl (by decide) ?_
  refine r_iload_n 7 13 2 rfl rfl rfl rfl ?_
  refine r_imul 8 14 rfl rfl ?_
  refine r_ltI (fun x3 => ?_)
  refine r_istore_n 9 15 (L' := [(3, .inl x3), (2, .inl x2), (0, .inr (.inr a0)), (1, .inl a1)]) rfl rfl rfl (by decide) rfl ?_
  refine r_iconst 10 16 (v := 1) rfl rfl (by decide) ?_
  refine r_istore 11 18 (L' := [(4, .inl 1), (3, .inl x3), (2, .inl x2), (0, .inr (.inr a0)), (1, .inl a1)]) rfl rfl (by decide) rfl ?_
  have hj18 : ∀ (m : Mi) (a2 : Int32) (a3 : Int32) (a4 : Int32), Sm u_X12_sifts (3, 0, 0, t.length, zs t) (kI t) 18 [(0, .inr (.inr a0)), (2, .inl a2), (3, .inl a3), (4, .inl a4)] [] (t, m) (f_X12_sifts_j18 t m a0 a2 a3 a4) := by
    intro m a2 a3 a4
    unfold f_X12_sifts_j18
    have hj180 : ∀ (m : Mi), Sm u_X12_sifts (3, 0, 0, t.length, zs t) (kI t) 180 [] [] (t, m) (f_X12_sifts_j180 t m) := by
      intro m
      unfold f_X12_sifts_j180
      refine r_iconst 102 181 (v := 0) rfl rfl (by decide) ?_
      exact r_zret 103 rfl rfl (by decide) rfl
    have hj191 : ∀ (m : Mi), Sm u_X12_sifts (3, 0, 0, t.length, zs t) (kI t) 191 [] [] (t, m) (f_X12_sifts_j191 t m) := by
      intro m
      unfold f_X12_sifts_j191
      refine r_iconst 107 192 (v := 1) rfl rfl (by decide) ?_
      exact r_zret 108 rfl rfl (by decide) rfl
    refine r_lp (Lf := fun x : Int32 × Mi => [(0, .inr (.inr a0)), (2, .inl a2), (3, .inl a3), (4, .inl (x.1))]) (Mf := fun x : Int32 × Mi => (t, x.2)) (a4, m) ?_ FUEL
    rintro ⟨a4, m⟩ κ18 hc18 he18
    refine r_eq (L' := [(0, .inr (.inr a0)), (2, .inl a2), (3, .inl a3), (4, .inl a4)]) (M' := (t, m)) rfl rfl ?_
    refine r_eqr (r' := f_X12_sifts_l18 t m a0 a2 a3 a4) rfl ?_
    unfold f_X12_sifts_l18
    refine r_iload 12 20 3 rfl rfl rfl ?_
    refine r_if_eq 13 191 23 rfl rfl rfl (fun h4 => ?_) (fun h4 => ?_)
    · refine r_leaf (r2 := (f_X12_sifts_j191 t m : Option (Int32 × Mi))) (he18 _) ?_
      exact r_sub [] rfl (hj191 m)
    · refine r_iconst 14 24 (v := 0) rfl rfl (by decide) ?_
      refine r_istore 15 26 (L' := [(4, .inl 0), (0, .inr (.inr a0)), (2, .inl a2), (3, .inl a3)]) rfl rfl (by decide) rfl ?_
      refine r_iconst 16 27 (v := 0) rfl rfl (by decide) ?_
      refine r_istore 17 29 (L' := [(5, .inl 0), (4, .inl 0), (0, .inr (.inr a0)), (2, .inl a2), (3, .inl a3)]) rfl rfl (by decide) rfl ?_
      have hj29 : ∀ (m : Mi) (a4 : Int32) (a5 : Int32), Sm u_X12_sifts (3, 0, 0, t.length, zs t) κ18 29 [(0, .inr (.inr a0)), (2, .inl a2), (3, .inl a3), (4, .inl a4), (5, .inl a5)] [] (t, m) (f_X12_sifts_j29 t m a0 a2 a3 a4 a5) := by
        intro m a4 a5
        unfold f_X12_sifts_j29
        have hj188 : ∀ (m : Mi) (a4 : Int32), Sm u_X12_sifts (3, 0, 0, t.length, zs t) κ18 188 [(0, .inr (.inr a0)), (2, .inl a2), (3, .inl a3), (4, .inl a4)] [] (t, m) (f_X12_sifts_j188 t m a0 a2 a3 a4) := by
          intro m a4
          unfold f_X12_sifts_j188
          refine r_goto 106 18 rfl rfl ?_
          exact hc18 (a4, m)
        refine r_lp (Lf := fun x : Int32 × Int32 × Mi => [(0, .inr (.inr a0)), (2, .inl a2), (3, .inl a3), (4, .inl (x.1)), (5, .inl (x.2.1))]) (Mf := fun x : Int32 × Int32 × Mi => (t, x.2.2)) (a4, a5, m) ?_ FUEL
        rintro ⟨a4, a5, m⟩ κ29 hc29 he29
        refine r_eq (L' := [(0, .inr (.inr a0)), (2, .inl a2), (3, .inl a3), (4, .inl a4), (5, .inl a5)]) (M' := (t, m)) rfl rfl ?_
        refine r_eqr (r' := f_X12_sifts_l29 t m a0 a2 a3 a4 a5) rfl ?_
        unfold f_X12_sifts_l29
        refine r_iload 18 31 4 rfl rfl rfl ?_
        refine r_iload_n 19 32 1 rfl rfl rfl rfl ?_
        refine r_icmp_ge 20 188 35 rfl rfl rfl (fun h5 => ?_) (fun h5 => ?_)
        · refine r_leaf (r2 := (f_X12_sifts_j188 t m a0 a2 a3 a4 : Option ((Int32 × Mi) ⊕ ((Mi) ⊕ (Mi))))) (he29 _) ?_
          exact r_sub [0, 1, 2, 3] rfl (hj188 m a4)
        · refine r_iconst 21 36 (v := 0) rfl rfl (by decide) ?_
          refine r_istore 22 38 (L' := [(6, .inl 0), (0, .inr (.inr a0)), (2, .inl a2), (3, .inl a3), (4, .inl a4), (5, .inl a5)]) rfl rfl (by decide) rfl ?_
          have hj38 : ∀ (m : Mi) (a4 : Int32) (a5 : Int32) (a6 : Int32), Sm u_X12_sifts (3, 0, 0, t.length, zs t) κ29 38 [(0, .inr (.inr a0)), (2, .inl a2), (3, .inl a3), (4, .inl a4), (5, .inl a5), (6, .inl a6)] [] (t, m) (f_X12_sifts_j38 t m a0 a2 a3 a4 a5 a6) := by
            intro m a4 a5 a6
            unfold f_X12_sifts_j38
            have hj168 : ∀ (m : Mi) (a4 : Int32) (a5 : Int32), Sm u_X12_sifts (3, 0, 0, t.length, zs t) κ29 168 [(0, .inr (.inr a0)), (2, .inl a2), (3, .inl a3), (4, .inl a4), (5, .inl a5)] [] (t, m) (f_X12_sifts_j168 t m a0 a2 a3 a4 a5) := by
              intro m a4 a5
              unfold f_X12_sifts_j168
              refine r_aload_n 95 169 0 rfl rfl rfl rfl ?_
              refine r_getR 96 172 rfl rfl fl_RX12_111 rfl h0 ?_
              refine r_iload_n 97 173 2 rfl rfl rfl rfl ?_
              refine r_iload 98 175 4 rfl rfl rfl ?_
              refine r_iadd 99 176 rfl rfl ?_
              refine r_gd (fun h6 => ?_)
              refine r_iald 100 177 rfl rfl h6 ?_
              refine r_if_ne 101 182 180 rfl rfl rfl (fun h7 => ?_) (fun h7 => ?_)
              · refine r_leaf (r2 := (some (.inr (.inr m)) : Option ((Int32 × Mi) ⊕ ((Mi) ⊕ (Mi))))) (he29 _) ?_
                refine r_leaf (r2 := (f_X12_sifts_j180 t m : Option (Int32 × Mi))) (he18 _) ?_
                exact r_sub [] rfl (hj180 m)
              · refine r_iinc 104 185 4 (L' := [(5, .inl (a5 + 1)), (0, .inr (.inr a0)), (2, .inl a2), (3, .inl a3), (4, .inl a4)]) rfl rfl rfl (by decide) rfl ?_
                refine r_ltV (fun x8 => ?_)
                refine r_goto 105 29 rfl rfl ?_
                exact r_sub [1, 2, 3, 4, 0] rfl (hc29 (a4, x8, m))
            refine r_lp (Lf := fun x : Int32 × Int32 × Mi => [(0, .inr (.inr a0)), (2, .inl a2), (3, .inl a3), (4, .inl (x.1)), (5, .inl a5), (6, .inl (x.2.1))]) (Mf := fun x : Int32 × Int32 × Mi => (t, x.2.2)) (a4, a6, m) ?_ FUEL
            rintro ⟨a4, a6, m⟩ κ38 hc38 he38
            refine r_eq (L' := [(0, .inr (.inr a0)), (2, .inl a2), (3, .inl a3), (4, .inl a4), (5, .inl a5), (6, .inl a6)]) (M' := (t, m)) rfl rfl ?_
            refine r_eqr (r' := f_X12_sifts_l38 t m a0 a2 a3 a4 a5 a6) rfl ?_
            unfold f_X12_sifts_l38
            refine r_iload 23 40 5 rfl rfl rfl ?_
            refine r_aload_n 24 41 0 rfl rfl rfl rfl ?_
            refine r_iload 25 43 4 rfl rfl rfl ?_
            refine r_VIo 26 46 (st := [.inl a6]) (av := [.inr (.inr a0), .inl a5]) (av' := [.inl a5]) (μ' := u_X12_manyOf) (d := 2) rfl rfl mc_X12_manyOf in_X12_manyOf lk_RX12_354 (Nat.le_of_ble_eq_true rfl) rfl rfl h0 rfl (Nat.le_of_ble_eq_true rfl) (fun _ h => ct_X12_manyOf h0 h) (fun x9 => ?_)
            refine r_icmp_gt 27 168 49 rfl rfl rfl (fun h10 => ?_) (fun h10 => ?_)
            · refine r_leaf (r2 := (f_X12_sifts_j168 t m a0 a2 a3 a4 a5 : Option ((Int32 × Int32 × Mi) ⊕ ((Int32 × Mi) ⊕ (Mi))))) (he38 _) ?_
              exact r_sub [0, 1, 2, 3, 4] rfl (hj168 m a4 a5)
            · refine r_aload_n 28 50 0 rfl rfl rfl rfl ?_
              refine r_getR 29 53 rfl rfl fl_RX12_111 rfl h0 ?_
              refine r_iload_n 30 54 2 rfl rfl rfl rfl ?_
              refine r_iload 31 56 4 rfl rfl rfl ?_
              refine r_iadd 32 57 rfl rfl ?_
              refine r_gd (fun h11 => ?_)
              refine r_iald 33 58 rfl rfl h11 ?_
              refine r_iload 34 60 5 rfl rfl rfl ?_
              refine r_ishr 35 61 rfl rfl ?_
              refine r_iconst 36 62 (v := 1) rfl rfl (by decide) ?_
              refine r_iand 37 63 rfl rfl ?_
              refine r_if_ne 38 69 66 rfl rfl rfl (fun h12 => ?_) (fun h12 => ?_)
              · refine r_goto 39 162 rfl rfl ?_
                refine r_iinc 93 165 5 (L' := [(6, .inl (a6 + 1)), (0, .inr (.inr a0)), (2, .inl a2), (3, .inl a3), (4, .inl a4), (5, .inl a5)]) rfl rfl rfl (by decide) rfl ?_
                refine r_ltV (fun x13 => ?_)
                refine r_goto 94 38 rfl rfl ?_
                exact r_sub [1, 2, 3, 4, 5, 0] rfl (hc38 (a4, x13, m))
              · refine r_iconst 40 70 (v := 1) rfl rfl (by decide) ?_
                refine r_istore 41 72 (L' := [(7, .inl 1), (0, .inr (.inr a0)), (2, .inl a2), (3, .inl a3), (4, .inl a4), (5, .inl a5), (6, .inl a6)]) rfl rfl (by decide) rfl ?_
                refine r_iconst 42 73 (v := 0) rfl rfl (by decide) ?_
                refine r_istore 43 75 (L' := [(8, .inl 0), (7, .inl 1), (0, .inr (.inr a0)), (2, .inl a2), (3, .inl a3), (4, .inl a4), (5, .inl a5), (6, .inl a6)]) rfl rfl (by decide) rfl ?_
                have hj75 : ∀ (m : Mi) (a4 : Int32) (a6 : Int32) (a7 : Int32) (a8 : Int32), Sm u_X12_sifts (3, 0, 0, t.length, zs t) κ38 75 [(0, .inr (.inr a0)), (2, .inl a2), (3, .inl a3), (4, .inl a4), (5, .inl a5), (6, .inl a6), (7, .inl a7), (8, .inl a8)] [] (t, m) (f_X12_sifts_j75 t m a0 a2 a3 a4 a5 a6 a7 a8) := by
                  intro m a4 a6 a7 a8
                  unfold f_X12_sifts_j75
                  have hj126 : ∀ (m : Mi) (a4 : Int32) (a6 : Int32) (a7 : Int32), Sm u_X12_sifts (3, 0, 0, t.length, zs t) κ38 126 [(0, .inr (.inr a0)), (2, .inl a2), (3, .inl a3), (4, .inl a4), (5, .inl a5), (6, .inl a6), (7, .inl a7)] [] (t, m) (f_X12_sifts_j126 t m a0 a2 a3 a4 a5 a6 a7) := by
                    intro m a4 a6 a7
                    unfold f_X12_sifts_j126
                    refine r_iload 70 128 6 rfl rfl rfl ?_
                    refine r_if_eq 71 134 131 rfl rfl rfl (fun h14 => ?_) (fun h14 => ?_)
                    · refine r_aload_n 73 135 0 rfl rfl rfl rfl ?_
                      refine r_getR 74 138 rfl rfl fl_RX12_111 rfl h0 ?_
                      refine r_iload_n 75 139 2 rfl rfl rfl rfl ?_
                      refine r_iload 76 141 4 rfl rfl rfl ?_
                      refine r_iadd 77 142 rfl rfl ?_
                      refine r_aload_n 78 143 0 rfl rfl rfl rfl ?_
                      refine r_getR 79 146 rfl rfl fl_RX12_111 rfl h0 ?_
                      refine r_iload_n 80 147 2 rfl rfl rfl rfl ?_
                      refine r_iload 81 149 4 rfl rfl rfl ?_
                      refine r_iadd 82 150 rfl rfl ?_
                      refine r_gd (fun h15 => ?_)
                      refine r_iald 83 151 rfl rfl h15 ?_
                      refine r_iconst 84 152 (v := 1) rfl rfl (by decide) ?_
                      refine r_iload 85 154 5 rfl rfl rfl ?_
                      refine r_ishl 86 155 rfl rfl ?_
                      refine r_iconst 87 156 (v := (-1)) rfl rfl (by decide) ?_
                      refine r_ixor 88 157 rfl rfl ?_
                      refine r_iand 89 158 rfl rfl ?_
                      refine r_iast 90 159 rfl rfl h15 ?_
                      refine r_ltM (fun m16 => ?_)
                      refine r_iconst 91 160 (v := 1) rfl rfl (by decide) ?_
                      refine r_istore 92 162 (L' := [(4, .inl 1), (0, .inr (.inr a0)), (2, .inl a2), (3, .inl a3), (5, .inl a5), (6, .inl a6), (7, .inl a7)]) rfl rfl (by decide) rfl ?_
                      refine r_iinc 93 165 5 (L' := [(6, .inl (a6 + 1)), (4, .inl 1), (0, .inr (.inr a0)), (2, .inl a2), (3, .inl a3), (5, .inl a5), (7, .inl a7)]) rfl rfl rfl (by decide) rfl ?_
                      refine r_ltV (fun x17 => ?_)
                      refine r_goto 94 38 rfl rfl ?_
                      exact r_sub [2, 3, 4, 1, 5, 0] rfl (hc38 (1, x17, m16))
                    · refine r_goto 72 162 rfl rfl ?_
                      refine r_iinc 93 165 5 (L' := [(6, .inl (a6 + 1)), (0, .inr (.inr a0)), (2, .inl a2), (3, .inl a3), (4, .inl a4), (5, .inl a5), (7, .inl a7)]) rfl rfl rfl (by decide) rfl ?_
                      refine r_ltV (fun x18 => ?_)
                      refine r_goto 94 38 rfl rfl ?_
                      exact r_sub [1, 2, 3, 4, 5, 0] rfl (hc38 (a4, x18, m))
                  refine r_lp (Lf := fun x : Int32 × Int32 => [(0, .inr (.inr a0)), (2, .inl a2), (3, .inl a3), (4, .inl a4), (5, .inl a5), (6, .inl a6), (7, .inl (x.1)), (8, .inl (x.2))]) (Mf := fun x : Int32 × Int32 => (t, m)) (a7, a8) ?_ FUEL
                  rintro ⟨a7, a8⟩ κ75 hc75 he75
                  refine r_eq (L' := [(0, .inr (.inr a0)), (2, .inl a2), (3, .inl a3), (4, .inl a4), (5, .inl a5), (6, .inl a6), (7, .inl a7), (8, .inl a8)]) (M' := (t, m)) rfl rfl ?_
                  refine r_eqr (r' := f_X12_sifts_l75 t m a0 a2 a3 a4 a5 a6 a7 a8) rfl ?_
                  unfold f_X12_sifts_l75
                  refine r_iload 44 77 7 rfl rfl rfl ?_
                  refine r_iload_n 45 78 1 rfl rfl rfl rfl ?_
                  refine r_icmp_ge 46 126 81 rfl rfl rfl (fun h19 => ?_) (fun h19 => ?_)
                  · refine r_leaf (r2 := (f_X12_sifts_j126 t m a0 a2 a3 a4 a5 a6 a7 : Option ((Int32 × Int32 × Mi) ⊕ ((Int32 × Mi))))) (he75 _) ?_
                    exact r_sub [0, 1, 2, 3, 4, 5, 6] rfl (hj126 m a4 a6 a7)
                  · refine r_iload 47 83 6 rfl rfl rfl ?_
                    refine r_if_eq 48 126 86 rfl rfl rfl (fun h20 => ?_) (fun h20 => ?_)
                    · refine r_leaf (r2 := (f_X12_sifts_j126 t m a0 a2 a3 a4 a5 a6 a7 : Option ((Int32 × Int32 × Mi) ⊕ ((Int32 × Mi))))) (he75 _) ?_
                      exact r_sub [0, 1, 2, 3, 4, 5, 6] rfl (hj126 m a4 a6 a7)
                    · refine r_aload_n 49 87 0 rfl rfl rfl rfl ?_
                      refine r_getR 50 90 rfl rfl fl_RX12_108 rfl h0 ?_
                      refine r_iload 51 92 4 rfl rfl rfl ?_
                      refine r_iload 52 94 5 rfl rfl rfl ?_
                      refine r_iload 53 96 7 rfl rfl rfl ?_
                      refine r_SIo 54 99 (a := 0) (cn := 0) (st := [.inr (.inr (gr m a0 44))]) (av := [.inl a5, .inl a6, .inl a8]) (μ' := u_X12_pair) (d := 1) rfl rfl mc_X12_pair st_X12_pair lk_RX12_357 (Nat.le_of_ble_eq_true rfl) rfl (Nat.le_of_ble_eq_true rfl) (fun _ h => ct_X12_pair h) (fun x21 => ?_)
                      refine r_gd (fun h22 => ?_)
                      refine r_iald 55 100 rfl rfl h22 ?_
                      refine r_aload_n 56 101 0 rfl rfl rfl rfl ?_
                      refine r_getR 57 104 rfl rfl fl_RX12_111 rfl h0 ?_
                      refine r_iload_n 58 105 2 rfl rfl rfl rfl ?_
                      refine r_iload 59 107 7 rfl rfl rfl ?_
                      refine r_iadd 60 108 rfl rfl ?_
                      refine r_gd (fun h23 => ?_)
                      refine r_iald 61 109 rfl rfl h23 ?_
                      refine r_iand 62 110 rfl rfl ?_
                      refine r_if_eq 63 117 113 rfl rfl rfl (fun h24 => ?_) (fun h24 => ?_)
                      · refine r_iconst 66 118 (v := 0) rfl rfl (by decide) ?_
                        refine r_istore 67 120 (L' := [(7, .inl 0), (0, .inr (.inr a0)), (2, .inl a2), (3, .inl a3), (4, .inl a4), (5, .inl a5), (6, .inl a6), (8, .inl a8)]) rfl rfl (by decide) rfl ?_
                        refine r_iinc 68 123 7 (L' := [(8, .inl (a8 + 1)), (7, .inl 0), (0, .inr (.inr a0)), (2, .inl a2), (3, .inl a3), (4, .inl a4), (5, .inl a5), (6, .inl a6)]) rfl rfl rfl (by decide) rfl ?_
                        refine r_ltV (fun x25 => ?_)
                        refine r_goto 69 75 rfl rfl ?_
                        exact r_sub [2, 3, 4, 5, 6, 7, 1, 0] rfl (hc75 (0, x25))
                      · refine r_iconst 64 114 (v := 1) rfl rfl (by decide) ?_
                        refine r_goto 65 118 rfl rfl ?_
                        refine r_istore 67 120 (L' := [(7, .inl 1), (0, .inr (.inr a0)), (2, .inl a2), (3, .inl a3), (4, .inl a4), (5, .inl a5), (6, .inl a6), (8, .inl a8)]) rfl rfl (by decide) rfl ?_
                        refine r_iinc 68 123 7 (L' := [(8, .inl (a8 + 1)), (7, .inl 1), (0, .inr (.inr a0)), (2, .inl a2), (3, .inl a3), (4, .inl a4), (5, .inl a5), (6, .inl a6)]) rfl rfl rfl (by decide) rfl ?_
                        refine r_ltV (fun x26 => ?_)
                        refine r_goto 69 75 rfl rfl ?_
                        exact r_sub [2, 3, 4, 5, 6, 7, 1, 0] rfl (hc75 (1, x26))
                exact r_sub [2, 3, 4, 5, 6, 7, 1, 0] rfl (hj75 m a4 a6 1 0)
          exact r_sub [1, 2, 3, 4, 5, 0] rfl (hj38 m a4 a5 0)
      exact r_sub [2, 3, 4, 1, 0] rfl (hj29 m 0 0)
  exact r_sub [3, 2, 1, 0] rfl (hj18 m x2 x3 1)
theorem ct_X12_sifts {t : List Sh} {m : Mi} {a0 : Nat} {a1 : Int32} {m' : Mi} {v : Int32}  (h0 : sh t a0 = some (.inl 12)) (h : f_X12_sifts t m a0 a1 = some (v, m')) : Ct u_X12_sifts 3 0 0 [.inr (.inr a0), .inl a1] (t, m) (some (.inl v), (t, m')) :=
  ct_of (by decide) tk_X12_sifts (Nat.le_of_ble_eq_true rfl) (sm_X12_sifts t m a0 a1 h0) (by rw [h]; rfl) (Nat.le_refl _) (Nat.le_refl _)
theorem lk_RX12_396 : Cond.methodLink RX12 396 yX12_chosen ∈ TB := tbm 1746 (by decide +kernel) rfl
theorem fl_RX12_135 : FL RX12 135 12 58 true := ⟨RX12, TX12, 61, rfl, inW12, tyX12_ok, nmX12, by decide, rfl, rfl, rfl, tbm 1385 (by decide +kernel) rfl⟩
def tb_X12_why : Tb := [(0, (.aload_n 0, 1)), (1, (.iload_n 1, 1)), (2, (.invokevirtual 396, 3)), (5, (.iconst (-1), 1)), (6, (.if_icmp .ne 5, 3)), (9, (.iconst (-1), 1)), (10, (.ireturn, 1)), (11, (.aload_n 0, 1)), (12, (.getfield 43, 3)), (15, (.aload_n 0, 1)), (16, (.getfield 326, 3)), (19, (.iaload, 1)), (20, (.istore_n 2, 1)), (21, (.sipush 250, 3)), (24, (.aload_n 0, 1)), (25, (.getfield 326, 3)), (28, (.imul, 1)), (29, (.istore_n 3, 1)), (30, (.iconst 0, 1)), (31, (.istore 4, 2)), (33, (.iload 4, 2)), (35, (.iload_n 2, 1)), (36, (.if_icmp .ge 17, 3)), (39, (.aload_n 0, 1)), (40, (.getfield 135, 3)), (43, (.iload 4, 2)), (45, (.iconst (-1), 1)), (46, (.iastore, 1)), (47, (.iinc 4 1, 3)), (50, (.goto (-17), 3)), (53, (.aload_n 0, 1)), (54, (.getfield 49, 3)), (57, (.aload_n 0, 1)), (58, (.getfield 326, 3)), (61, (.iaload, 1)), (62, (.istore 4, 2)), (64, (.iload 4, 2)), (66, (.aload_n 0, 1)), (67, (.invokevirtual 332, 3)), (70, (.if_icmp .ge 41, 3)), (73, (.aload_n 0, 1)), (74, (.aload_n 0, 1)), (75, (.getfield 88, 3)), (78, (.iload_n 3, 1)), (79, (.iload 4, 2)), (81, (.iadd, 1)), (82, (.iaload, 1)), (83, (.invokevirtual 396, 3)), (86, (.iconst (-1), 1)), (87, (.if_icmp .eq 18, 3)), (90, (.aload_n 0, 1)), (91, (.getfield 135, 3)), (94, (.aload_n 0, 1)), (95, (.getfield 88, 3)), (98, (.iload_n 3, 1)), (99, (.iload 4, 2)), (101, (.iadd, 1)), (102, (.iaload, 1)), (103, (.iconst 0, 1)), (104, (.iastore, 1)), (105, (.iinc 4 1, 3)), (108, (.goto (-44), 3)), (111, (.iconst 0, 1)), (112, (.istore 4, 2)), (114, (.iload 4, 2)), (116, (.iload_n 2, 1)), (117, (.if_icmp .ge 133, 3)), (120, (.iconst 0, 1)), (121, (.istore 5, 2)), (123, (.iload 5, 2)), (125, (.aload_n 0, 1)), (126, (.getfield 49, 3)), (129, (.aload_n 0, 1)), (130, (.getfield 326, 3)), (133, (.iaload, 1)), (134, (.if_icmp .ge 110, 3)), (137, (.aload_n 0, 1)), (138, (.getfield 64, 3)), (141, (.bipush 60, 2)), (143, (.aload_n 0, 1)), (144, (.getfield 326, 3)), (147, (.imul, 1)), (148, (.aload_n 0, 1)), (149, (.getfield 76, 3)), (152, (.iload_n 3, 1)), (153, (.iload 5, 2)), (155, (.iadd, 1)), (156, (.iaload, 1)), (157, (.iadd, 1)), (158, (.iaload, 1)), (159, (.istore 6, 2)), (161, (.aload_n 0, 1)), (162, (.getfield 88, 3)), (165, (.iload_n 3, 1)), (166, (.iload 5, 2)), (168, (.iadd, 1)), (169, (.iaload, 1)), (170, (.istore 7, 2)), (172, (.aload_n 0, 1)), (173, (.getfield 79, 3)), (176, (.iload_n 3, 1)), (177, (.iload 5, 2)), (179, (.iadd, 1)), (180, (.iaload, 1)), (181, (.bipush 10, 2)), (183, (.if_icmp .ne 55, 3)), (186, (.aload_n 0, 1)), (187, (.iload 6, 2)), (189, (.invokevirtual 396, 3)), (192, (.aload_n 0, 1)), (193, (.getfield 76, 3)), (196, (.iload_n 3, 1)), (197, (.iload 5, 2)), (199, (.iadd, 1)), (200, (.iaload, 1)), (201, (.if_icmp .ne 37, 3)), (204, (.aload_n 0, 1)), (205, (.getfield 135, 3)), (208, (.iload 6, 2)), (210, (.iaload, 1)), (211, (.iload 4, 2)), (213, (.if_icmp .ne 25, 3)), (216, (.aload_n 0, 1)), (217, (.getfield 135, 3)), (220, (.iload 7, 2)), (222, (.iaload, 1)), (223, (.iconst (-1), 1)), (224, (.if_icmp .ne 14, 3)), (227, (.aload_n 0, 1)), (228, (.getfield 135, 3)), (231, (.iload 7, 2)), (233, (.iload 4, 2)), (235, (.iconst 1, 1)), (236, (.iadd, 1)), (237, (.iastore, 1)), (238, (.iinc 5 1, 3)), (241, (.goto (-118), 3)), (244, (.iinc 4 1, 3)), (247, (.goto (-133), 3)), (250, (.aload_n 0, 1)), (251, (.getfield 49, 3)), (254, (.aload_n 0, 1)), (255, (.getfield 326, 3)), (258, (.iaload, 1)), (259, (.istore 4, 2)), (261, (.iload 4, 2)), (263, (.aload_n 0, 1)), (264, (.invokevirtual 332, 3)), (267, (.if_icmp .ge 34, 3)), (270, (.aload_n 0, 1)), (271, (.getfield 135, 3)), (274, (.iload_n 1, 1)), (275, (.iaload, 1)), (276, (.ifCond .ne 25, 3)), (279, (.aload_n 0, 1)), (280, (.getfield 88, 3)), (283, (.iload_n 3, 1)), (284, (.iload 4, 2)), (286, (.iadd, 1)), (287, (.iaload, 1)), (288, (.iload_n 1, 1)), (289, (.if_icmp .ne 6, 3)), (292, (.iload 4, 2)), (294, (.ireturn, 1)), (295, (.iinc 4 1, 3)), (298, (.goto (-37), 3)), (301, (.iconst 0, 1)), (302, (.istore 4, 2)), (304, (.iload 4, 2)), (306, (.aload_n 0, 1)), (307, (.getfield 49, 3)), (310, (.aload_n 0, 1)), (311, (.getfield 326, 3)), (314, (.iaload, 1)), (315, (.if_icmp .ge 110, 3)), (318, (.aload_n 0, 1)), (319, (.getfield 64, 3)), (322, (.bipush 60, 2)), (324, (.aload_n 0, 1)), (325, (.getfield 326, 3)), (328, (.imul, 1)), (329, (.aload_n 0, 1)), (330, (.getfield 76, 3)), (333, (.iload_n 3, 1)), (334, (.iload 4, 2)), (336, (.iadd, 1)), (337, (.iaload, 1)), (338, (.iadd, 1)), (339, (.iaload, 1)), (340, (.istore 5, 2)), (342, (.aload_n 0, 1)), (343, (.getfield 79, 3)), (346, (.iload_n 3, 1)), (347, (.iload 4, 2)), (349, (.iadd, 1)), (350, (.iaload, 1)), (351, (.bipush 10, 2)), (353, (.if_icmp .ne 66, 3)), (356, (.aload_n 0, 1)), (357, (.getfield 88, 3)), (360, (.iload_n 3, 1)), (361, (.iload 4, 2)), (363, (.iadd, 1)), (364, (.iaload, 1)), (365, (.iload_n 1, 1)), (366, (.if_icmp .ne 53, 3)), (369, (.aload_n 0, 1)), (370, (.iload 5, 2)), (372, (.invokevirtual 396, 3)), (375, (.aload_n 0, 1)), (376, (.getfield 76, 3)), (379, (.iload_n 3, 1)), (380, (.iload 4, 2)), (382, (.iadd, 1)), (383, (.iaload, 1)), (384, (.if_icmp .ne 35, 3)), (387, (.aload_n 0, 1)), (388, (.getfield 135, 3)), (391, (.iload 5, 2)), (393, (.iaload, 1)), (394, (.iconst (-1), 1)), (395, (.if_icmp .eq 24, 3)), (398, (.aload_n 0, 1)), (399, (.getfield 135, 3)), (402, (.iload 5, 2)), (404, (.iaload, 1)), (405, (.aload_n 0, 1)), (406, (.getfield 135, 3)), (409, (.iload_n 1, 1)), (410, (.iaload, 1)), (411, (.iconst 1, 1)), (412, (.isub, 1)), (413, (.if_icmp .ne 6, 3)), (416, (.iload 4, 2)), (418, (.ireturn, 1)), (419, (.iinc 4 1, 3)), (422, (.goto (-118), 3)), (425, (.iconst (-1), 1)), (426, (.ireturn, 1))]
def u_X12_why : Fx := (yX12_why, (cX12_why, (8, ((some .int), tb_X12_why))))
theorem tk_X12_why : ∀ q ∈ u_X12_why.2.2.2.2, decode u_X12_why.2.1 q.1 = .ok q.2 := by decide +kernel
theorem mc_X12_why : MC u_X12_why 1 := ⟨tbm 1745 (by decide +kernel) rfl, tbm 128 (by decide +kernel) rfl, ⟨by decide, by decide, by decide +kernel⟩, by decide⟩
theorem in_X12_why : Cond.instanceMethod u_X12_why.1 ∈ TB ∧ Cond.selects u_X12_why.1.cls u_X12_why.1 u_X12_why.1 ∈ TB := ⟨tbm 1743 (by decide +kernel) rfl, tbm 1744 (by decide +kernel) rfl⟩
def f_X12_why_j292 (t : List Sh) (m : Mi) (a4 : Int32) : Option (Int32 × Mi) :=
  some (a4, m)
def f_X12_why_j416 (t : List Sh) (m : Mi) (a4 : Int32) : Option (Int32 × Mi) :=
  some (a4, m)
def f_X12_why_j425 (t : List Sh) (m : Mi) : Option (Int32 × Mi) :=
  some ((-1), m)
def f_X12_why_l304 (t : List Sh) (m : Mi) (a0 : Nat) (a1 : Int32) (a3 : Int32) (a4 : Int32) : Option ((Int32) ⊕ ((Unit) ⊕ (Int32))) :=
  (if ar t (gr m a0 25) .int (gi m a0 21) = true then
  if (gi m (gr m a0 25) (ix (gi m a0 21))) ≤ a4 then
    some (.inr (.inl ()))
  else
    (if ar t (gr m a0 34) .int (a3 + a4) = true then
    (if ar t (gr m a0 30) .int ((60 * (gi m a0 21)) + (gi m (gr m a0 34) (ix (a3 + a4)))) = true then
    lt (gi m (gr m a0 30) (ix ((60 * (gi m a0 21)) + (gi m (gr m a0 34) (ix (a3 + a4)))))) fun x14 =>
    (if ar t (gr m a0 35) .int (a3 + a4) = true then
    if (gi m (gr m a0 35) (ix (a3 + a4))) = 10 then
      (if ar t (gr m a0 38) .int (a3 + a4) = true then
      if (gi m (gr m a0 38) (ix (a3 + a4))) = a1 then
        (f_X12_chosen t m a0 x14).bind fun x19 =>
        if x19 = (gi m (gr m a0 34) (ix (a3 + a4))) then
          (if ar t (gr m a0 58) .int x14 = true then
          if (gi m (gr m a0 58) (ix x14)) = (-1) then
            lt (a4 + 1) fun x23 =>
            some (.inl x23)
          else
            (if ar t (gr m a0 58) .int a1 = true then
            if (gi m (gr m a0 58) (ix x14)) = ((gi m (gr m a0 58) (ix a1)) - 1) then
              some (.inr (.inr a4))
            else
              lt (a4 + 1) fun x26 =>
              some (.inl x26)
            else none)
          else none)
        else
          lt (a4 + 1) fun x27 =>
          some (.inl x27)
      else
        lt (a4 + 1) fun x28 =>
        some (.inl x28)
      else none)
    else
      lt (a4 + 1) fun x29 =>
      some (.inl x29)
    else none)
    else none)
    else none)
  else none)
def f_X12_why_j304 (t : List Sh) (m : Mi) (a0 : Nat) (a1 : Int32) (a3 : Int32) (a4 : Int32) : Option (Int32 × Mi) :=
  (lp (fun x : Int32 => f_X12_why_l304 t m a0 a1 a3 x) FUEL a4).bind (Sum.elim (fun y : Unit => f_X12_why_j425 t m) (fun y : Int32 => f_X12_why_j416 t m y))
def f_X12_why_j301 (t : List Sh) (m : Mi) (a0 : Nat) (a1 : Int32) (a3 : Int32) : Option (Int32 × Mi) :=
  f_X12_why_j304 t m a0 a1 a3 0
def f_X12_why_l261 (t : List Sh) (m : Mi) (a0 : Nat) (a1 : Int32) (a3 : Int32) (a4 : Int32) : Option ((Int32) ⊕ ((Unit) ⊕ (Int32))) :=
  (f_X12_constraints t m a0).bind fun x30 =>
  if x30 ≤ a4 then
    some (.inr (.inl ()))
  else
    (if ar t (gr m a0 58) .int a1 = true then
    if (gi m (gr m a0 58) (ix a1)) = 0 then
      (if ar t (gr m a0 38) .int (a3 + a4) = true then
      if (gi m (gr m a0 38) (ix (a3 + a4))) = a1 then
        some (.inr (.inr a4))
      else
        lt (a4 + 1) fun x36 =>
        some (.inl x36)
      else none)
    else
      some (.inr (.inl ()))
    else none)
def f_X12_why_j261 (t : List Sh) (m : Mi) (a0 : Nat) (a1 : Int32) (a3 : Int32) (a4 : Int32) : Option (Int32 × Mi) :=
  (lp (fun x : Int32 => f_X12_why_l261 t m a0 a1 a3 x) FUEL a4).bind (Sum.elim (fun y : Unit => f_X12_why_j301 t m a0 a1 a3) (fun y : Int32 => f_X12_why_j292 t m y))
def f_X12_why_j250 (t : List Sh) (m : Mi) (a0 : Nat) (a1 : Int32) (a3 : Int32) : Option (Int32 × Mi) :=
  (if ar t (gr m a0 25) .int (gi m a0 21) = true then
  lt (gi m (gr m a0 25) (ix (gi m a0 21))) fun x9 =>
  f_X12_why_j261 t m a0 a1 a3 x9
  else none)
def f_X12_why_j244 (t : List Sh) (m : Mi) (a0 : Nat) (a1 : Int32) (a2 : Int32) (a3 : Int32) (a4 : Int32) : Option ((Int32 × Mi) ⊕ ((Mi))) :=
  lt (a4 + 1) fun x38 =>
  some (.inl (x38, m))
def f_X12_why_l123 (t : List Sh) (m : Mi) (a0 : Nat) (a1 : Int32) (a2 : Int32) (a3 : Int32) (a4 : Int32) (a5 : Int32) : Option ((Int32 × Mi) ⊕ ((Mi))) :=
  (if ar t (gr m a0 25) .int (gi m a0 21) = true then
  if (gi m (gr m a0 25) (ix (gi m a0 21))) ≤ a5 then
    some (.inr m)
  else
    (if ar t (gr m a0 34) .int (a3 + a5) = true then
    (if ar t (gr m a0 30) .int ((60 * (gi m a0 21)) + (gi m (gr m a0 34) (ix (a3 + a5)))) = true then
    lt (gi m (gr m a0 30) (ix ((60 * (gi m a0 21)) + (gi m (gr m a0 34) (ix (a3 + a5)))))) fun x43 =>
    (if ar t (gr m a0 38) .int (a3 + a5) = true then
    lt (gi m (gr m a0 38) (ix (a3 + a5))) fun x45 =>
    (if ar t (gr m a0 35) .int (a3 + a5) = true then
    if (gi m (gr m a0 35) (ix (a3 + a5))) = 10 then
      (f_X12_chosen t m a0 x43).bind fun x48 =>
      if x48 = (gi m (gr m a0 34) (ix (a3 + a5))) then
        (if ar t (gr m a0 58) .int x43 = true then
        if (gi m (gr m a0 58) (ix x43)) = a4 then
          (if ar t (gr m a0 58) .int x45 = true then
          if (gi m (gr m a0 58) (ix x45)) = (-1) then
            lt (si m (gr m a0 58) (ix x45) (a4 + 1)) fun m54 =>
            lt (a5 + 1) fun x55 =>
            some (.inl (x55, m54))
          else
            lt (a5 + 1) fun x56 =>
            some (.inl (x56, m))
          else none)
        else
          lt (a5 + 1) fun x57 =>
          some (.inl (x57, m))
        else none)
      else
        lt (a5 + 1) fun x58 =>
        some (.inl (x58, m))
    else
      lt (a5 + 1) fun x59 =>
      some (.inl (x59, m))
    else none)
    else none)
    else none)
    else none)
  else none)
def f_X12_why_j123 (t : List Sh) (m : Mi) (a0 : Nat) (a1 : Int32) (a2 : Int32) (a3 : Int32) (a4 : Int32) (a5 : Int32) : Option ((Int32 × Mi) ⊕ ((Mi))) :=
  (lp (fun x : Int32 × Mi => f_X12_why_l123 t x.2 a0 a1 a2 a3 a4 x.1) FUEL (a5, m)).bind (fun y : Mi => f_X12_why_j244 t y a0 a1 a2 a3 a4)
def f_X12_why_l114 (t : List Sh) (m : Mi) (a0 : Nat) (a1 : Int32) (a2 : Int32) (a3 : Int32) (a4 : Int32) : Option ((Int32 × Mi) ⊕ ((Mi))) :=
  if a2 ≤ a4 then
    some (.inr m)
  else
    f_X12_why_j123 t m a0 a1 a2 a3 a4 0
def f_X12_why_j114 (t : List Sh) (m : Mi) (a0 : Nat) (a1 : Int32) (a2 : Int32) (a3 : Int32) (a4 : Int32) : Option (Int32 × Mi) :=
  (lp (fun x : Int32 × Mi => f_X12_why_l114 t x.2 a0 a1 a2 a3 x.1) FUEL (a4, m)).bind (fun y : Mi => f_X12_why_j250 t y a0 a1 a3)
def f_X12_why_j111 (t : List Sh) (m : Mi) (a0 : Nat) (a1 : Int32) (a2 : Int32) (a3 : Int32) : Option (Int32 × Mi) :=
  f_X12_why_j114 t m a0 a1 a2 a3 0
def f_X12_why_l64 (t : List Sh) (m : Mi) (a0 : Nat) (a1 : Int32) (a2 : Int32) (a3 : Int32) (a4 : Int32) : Option ((Int32 × Mi) ⊕ ((Mi))) :=
  (f_X12_constraints t m a0).bind fun x60 =>
  if x60 ≤ a4 then
    some (.inr m)
  else
    (if ar t (gr m a0 38) .int (a3 + a4) = true then
    (f_X12_chosen t m a0 (gi m (gr m a0 38) (ix (a3 + a4)))).bind fun x63 =>
    if x63 = (-1) then
      lt (a4 + 1) fun x65 =>
      some (.inl (x65, m))
    else
      (if ar t (gr m a0 58) .int (gi m (gr m a0 38) (ix (a3 + a4))) = true then
      lt (si m (gr m a0 58) (ix (gi m (gr m a0 38) (ix (a3 + a4)))) 0) fun m67 =>
      lt (a4 + 1) fun x68 =>
      some (.inl (x68, m67))
      else none)
    else none)
def f_X12_why_j64 (t : List Sh) (m : Mi) (a0 : Nat) (a1 : Int32) (a2 : Int32) (a3 : Int32) (a4 : Int32) : Option (Int32 × Mi) :=
  (lp (fun x : Int32 × Mi => f_X12_why_l64 t x.2 a0 a1 a2 a3 x.1) FUEL (a4, m)).bind (fun y : Mi => f_X12_why_j111 t y a0 a1 a2 a3)
def f_X12_why_j53 (t : List Sh) (m : Mi) (a0 : Nat) (a1 : Int32) (a2 : Int32) (a3 : Int32) : Option (Int32 × Mi) :=
  (if ar t (gr m a0 25) .int (gi m a0 21) = true then
  lt (gi m (gr m a0 25) (ix (gi m a0 21))) fun x7 =>
  f_X12_why_j64 t m a0 a1 a2 a3 x7
  else none)
def f_X12_why_l33 (t : List Sh) (m : Mi) (a0 : Nat) (a1 : Int32) (a2 : Int32) (a3 : Int32) (a4 : Int32) : Option ((Int32 × Mi) ⊕ ((Mi))) :=
  if a2 ≤ a4 then
    some (.inr m)
  else
    (if ar t (gr m a0 58) .int a4 = true then
    lt (si m (gr m a0 58) (ix a4) (-1)) fun m71 =>
    lt (a4 + 1) fun x72 =>
    some (.inl (x72, m71))
    else none)
def f_X12_why_j33 (t : List Sh) (m : Mi) (a0 : Nat) (a1 : Int32) (a2 : Int32) (a3 : Int32) (a4 : Int32) : Option (Int32 × Mi) :=
  (lp (fun x : Int32 × Mi => f_X12_why_l33 t x.2 a0 a1 a2 a3 x.1) FUEL (a4, m)).bind (fun y : Mi => f_X12_why_j53 t y a0 a1 a2 a3)
def f_X12_why (t : List Sh) (m : Mi) (a0 : Nat) (a1 : Int32) : Option (Int32 × Mi) :=
  (f_X12_chosen t m a0 a1).bind fun x1 =>
  if x1 = (-1) then
    some ((-1), m)
  else
    (if ar t (gr m a0 23) .int (gi m a0 21) = true then
    lt (gi m (gr m a0 23) (ix (gi m a0 21))) fun x4 =>
    lt (250 * (gi m a0 21)) fun x5 =>
    f_X12_why_j33 t m a0 a1 x4 x5 0
    else none)
set_option maxRecDepth 4000 in
set_option maxHeartbeats 4000000 in
theorem sm_X12_why (t : List Sh) (m : Mi) (a0 : Nat) (a1 : Int32) (h0 : sh t a0 = some (.inl 12)) : Sm u_X12_why (3, 0, 0, t.length, zs t) (kI t) 0 [(0, .inr (.inr a0)), (1, .inl a1)] [] (t, m) (f_X12_why t m a0 a1) := by
  unfold f_X12_why
  refine r_aload_n 0 1 0 rfl rfl rfl rfl ?_
  refine r_iload_n 1 2 1 rfl rfl rfl rfl ?_
  refine r_VIo 2 5 (st := []) (av := [.inr (.inr a0), .inl a1]) (av' := [.inl a1]) (μ' := u_X12_chosen) (d := 2) rfl rfl mc_X12_chosen in_X12_chosen lk_RX12_396 (Nat.le_of_ble_eq_true rfl) rfl rfl h0 rfl (Nat.le_of_ble_eq_true rfl) (fun _ h => ct_X12_chosen h0 h) (fun x1 => ?_)
  refine r_iconst 3 6 (v := (-1)) rfl rfl (by decide) ?_
  refine r_icmp_ne 4 11 9 rfl rfl rfl (fun h2 => ?_) (fun h2 => ?_)
  · refine r_iconst 5 10 (v := (-1)) rfl rfl (by decide) ?_
    exact r_iret 6 rfl rfl rfl
  · refine r_aload_n 7 12 0 rfl rfl rfl rfl ?_
    refine r_getR 8 15 rfl rfl fl_RX12_43 rfl h0 ?_
    refine r_aload_n 9 16 0 rfl rfl rfl rfl ?_
    refine r_getI 10 19 rfl rfl fl_RX12_326 rfl h0 ?_
    refine r_gd (fun h3 => ?_)
    refine r_iald 11 20 rfl rfl h3 ?_
    refine r_ltI (fun x4 => ?_)
    refine r_istore_n 12 21 (L' := [(2, .inl x4), (0, .inr (.inr a0)), (1, .inl a1)]) rfl rfl rfl (by decide) rfl ?_
    refine r_sipush 13 24 (v := 250) rfl rfl (by decide) ?_
    refine r_aload_n 14 25 1 rfl rfl rfl rfl ?_
    refine r_getI 15 28 rfl rfl fl_RX12_326 rfl h0 ?_
    refine r_imul 16 29 rfl rfl ?_
    refine r_ltI (fun x5 => ?_)
    refine r_istore_n 17 30 (L' := [(3, .inl x5), (2, .inl x4), (0, .inr (.inr a0)), (1, .inl a1)]) rfl rfl rfl (by decide) rfl ?_
    refine r_iconst 18 31 (v := 0) rfl rfl (by decide) ?_
    refine r_istore 19 33 (L' := [(4, .inl 0), (3, .inl x5), (2, .inl x4), (0, .inr (.inr a0)), (1, .inl a1)]) rfl rfl (by decide) rfl ?_
    have hj33 : ∀ (m : Mi) (a2 : Int32) (a3 : Int32) (a4 : Int32), Sm u_X12_why (3, 0, 0, t.length, zs t) (kI t) 33 [(0, .inr (.inr a0)), (1, .inl a1), (2, .inl a2), (3, .inl a3), (4, .inl a4)] [] (t, m) (f_X12_why_j33 t m a0 a1 a2 a3 a4) := by
      intro m a2 a3 a4
      unfold f_X12_why_j33
      have hj53 : ∀ (m : Mi) (a2 : Int32) (a3 : Int32), Sm u_X12_why (3, 0, 0, t.length, zs t) (kI t) 53 [(0, .inr (.inr a0)), (1, .inl a1), (2, .inl a2), (3, .inl a3)] [] (t, m) (f_X12_why_j53 t m a0 a1 a2 a3) := by
        intro m a2 a3
        unfold f_X12_why_j53
        refine r_aload_n 30 54 0 rfl rfl rfl rfl ?_
        refine r_getR 31 57 rfl rfl fl_RX12_49 rfl h0 ?_
        refine r_aload_n 32 58 0 rfl rfl rfl rfl ?_
        refine r_getI 33 61 rfl rfl fl_RX12_326 rfl h0 ?_
        refine r_gd (fun h6 => ?_)
        refine r_iald 34 62 rfl rfl h6 ?_
        refine r_ltI (fun x7 => ?_)
        refine r_istore 35 64 (L' := [(4, .inl x7), (0, .inr (.inr a0)), (1, .inl a1), (2, .inl a2), (3, .inl a3)]) rfl rfl (by decide) rfl ?_
        have hj64 : ∀ (m : Mi) (a2 : Int32) (a3 : Int32) (a4 : Int32), Sm u_X12_why (3, 0, 0, t.length, zs t) (kI t) 64 [(0, .inr (.inr a0)), (1, .inl a1), (2, .inl a2), (3, .inl a3), (4, .inl a4)] [] (t, m) (f_X12_why_j64 t m a0 a1 a2 a3 a4) := by
          intro m a2 a3 a4
          unfold f_X12_why_j64
          have hj111 : ∀ (m : Mi) (a2 : Int32) (a3 : Int32), Sm u_X12_why (3, 0, 0, t.length, zs t) (kI t) 111 [(0, .inr (.inr a0)), (1, .inl a1), (2, .inl a2), (3, .inl a3)] [] (t, m) (f_X12_why_j111 t m a0 a1 a2 a3) := by
            intro m a2 a3
            unfold f_X12_why_j111
            refine r_iconst 62 112 (v := 0) rfl rfl (by decide) ?_
            refine r_istore 63 114 (L' := [(4, .inl 0), (0, .inr (.inr a0)), (1, .inl a1), (2, .inl a2), (3, .inl a3)]) rfl rfl (by decide) rfl ?_
            have hj114 : ∀ (m : Mi) (a2 : Int32) (a3 : Int32) (a4 : Int32), Sm u_X12_why (3, 0, 0, t.length, zs t) (kI t) 114 [(0, .inr (.inr a0)), (1, .inl a1), (2, .inl a2), (3, .inl a3), (4, .inl a4)] [] (t, m) (f_X12_why_j114 t m a0 a1 a2 a3 a4) := by
              intro m a2 a3 a4
              unfold f_X12_why_j114
              have hj250 : ∀ (m : Mi) (a3 : Int32), Sm u_X12_why (3, 0, 0, t.length, zs t) (kI t) 250 [(0, .inr (.inr a0)), (1, .inl a1), (3, .inl a3)] [] (t, m) (f_X12_why_j250 t m a0 a1 a3) := by
                intro m a3
                unfold f_X12_why_j250
                refine r_aload_n 139 251 0 rfl rfl rfl rfl ?_
                refine r_getR 140 254 rfl rfl fl_RX12_49 rfl h0 ?_
                refine r_aload_n 141 255 0 rfl rfl rfl rfl ?_
                refine r_getI 142 258 rfl rfl fl_RX12_326 rfl h0 ?_
                refine r_gd (fun h8 => ?_)
                refine r_iald 143 259 rfl rfl h8 ?_
                refine r_ltI (fun x9 => ?_)
                refine r_istore 144 261 (L' := [(4, .inl x9), (0, .inr (.inr a0)), (1, .inl a1), (3, .inl a3)]) rfl rfl (by decide) rfl ?_
                have hj261 : ∀ (m : Mi) (a3 : Int32) (a4 : Int32), Sm u_X12_why (3, 0, 0, t.length, zs t) (kI t) 261 [(0, .inr (.inr a0)), (1, .inl a1), (3, .inl a3), (4, .inl a4)] [] (t, m) (f_X12_why_j261 t m a0 a1 a3 a4) := by
                  intro m a3 a4
                  unfold f_X12_why_j261
                  have hj292 : ∀ (m : Mi) (a4 : Int32), Sm u_X12_why (3, 0, 0, t.length, zs t) (kI t) 292 [(4, .inl a4)] [] (t, m) (f_X12_why_j292 t m a4) := by
                    intro m a4
                    unfold f_X12_why_j292
                    refine r_iload 162 294 0 rfl rfl rfl ?_
                    exact r_iret 163 rfl rfl rfl
                  have hj301 : ∀ (m : Mi) (a3 : Int32), Sm u_X12_why (3, 0, 0, t.length, zs t) (kI t) 301 [(0, .inr (.inr a0)), (1, .inl a1), (3, .inl a3)] [] (t, m) (f_X12_why_j301 t m a0 a1 a3) := by
                    intro m a3
                    unfold f_X12_why_j301
                    refine r_iconst 166 302 (v := 0) rfl rfl (by decide) ?_
                    refine r_istore 167 304 (L' := [(4, .inl 0), (0, .inr (.inr a0)), (1, .inl a1), (3, .inl a3)]) rfl rfl (by decide) rfl ?_
                    have hj304 : ∀ (m : Mi) (a3 : Int32) (a4 : Int32), Sm u_X12_why (3, 0, 0, t.length, zs t) (kI t) 304 [(0, .inr (.inr a0)), (1, .inl a1), (3, .inl a3), (4, .inl a4)] [] (t, m) (f_X12_why_j304 t m a0 a1 a3 a4) := by
                      intro m a3 a4
                      unfold f_X12_why_j304
                      have hj416 : ∀ (m : Mi) (a4 : Int32), Sm u_X12_why (3, 0, 0, t.length, zs t) (kI t) 416 [(4, .inl a4)] [] (t, m) (f_X12_why_j416 t m a4) := by
                        intro m a4
                        unfold f_X12_why_j416
                        refine r_iload 233 418 0 rfl rfl rfl ?_
                        exact r_iret 234 rfl rfl rfl
                      have hj425 : ∀ (m : Mi), Sm u_X12_why (3, 0, 0, t.length, zs t) (kI t) 425 [] [] (t, m) (f_X12_why_j425 t m) := by
                        intro m
                        unfold f_X12_why_j425
                        refine r_iconst 237 426 (v := (-1)) rfl rfl (by decide) ?_
                        exact r_iret 238 rfl rfl rfl
                      refine r_lp (Lf := fun x : Int32 => [(0, .inr (.inr a0)), (1, .inl a1), (3, .inl a3), (4, .inl x)]) (Mf := fun x : Int32 => (t, m)) a4 ?_ FUEL
                      rintro a4 κ304 hc304 he304
                      refine r_eq (L' := [(0, .inr (.inr a0)), (1, .inl a1), (3, .inl a3), (4, .inl a4)]) (M' := (t, m)) rfl rfl ?_
                      refine r_eqr (r' := f_X12_why_l304 t m a0 a1 a3 a4) rfl ?_
                      unfold f_X12_why_l304
                      refine r_iload 168 306 3 rfl rfl rfl ?_
                      refine r_aload_n 169 307 0 rfl rfl rfl rfl ?_
                      refine r_getR 170 310 rfl rfl fl_RX12_49 rfl h0 ?_
                      refine r_aload_n 171 311 0 rfl rfl rfl rfl ?_
                      refine r_getI 172 314 rfl rfl fl_RX12_326 rfl h0 ?_
                      refine r_gd (fun h10 => ?_)
                      refine r_iald 173 315 rfl rfl h10 ?_
                      refine r_icmp_ge 174 425 318 rfl rfl rfl (fun h11 => ?_) (fun h11 => ?_)
                      · refine r_leaf (r2 := (f_X12_why_j425 t m : Option (Int32 × Mi))) (he304 _) ?_
                        exact r_sub [] rfl (hj425 m)
                      · refine r_aload_n 175 319 0 rfl rfl rfl rfl ?_
                        refine r_getR 176 322 rfl rfl fl_RX12_64 rfl h0 ?_
                        refine r_bipush 177 324 (v := 60) rfl rfl (by decide) ?_
                        refine r_aload_n 178 325 0 rfl rfl rfl rfl ?_
                        refine r_getI 179 328 rfl rfl fl_RX12_326 rfl h0 ?_
                        refine r_imul 180 329 rfl rfl ?_
                        refine r_aload_n 181 330 0 rfl rfl rfl rfl ?_
                        refine r_getR 182 333 rfl rfl fl_RX12_76 rfl h0 ?_
                        refine r_iload_n 183 334 2 rfl rfl rfl rfl ?_
                        refine r_iload 184 336 3 rfl rfl rfl ?_
                        refine r_iadd 185 337 rfl rfl ?_
                        refine r_gd (fun h12 => ?_)
                        refine r_iald 186 338 rfl rfl h12 ?_
                        refine r_iadd 187 339 rfl rfl ?_
                        refine r_gd (fun h13 => ?_)
                        refine r_iald 188 340 rfl rfl h13 ?_
                        refine r_ltI (fun x14 => ?_)
                        refine r_istore 189 342 (L' := [(5, .inl x14), (0, .inr (.inr a0)), (1, .inl a1), (3, .inl a3), (4, .inl a4)]) rfl rfl (by decide) rfl ?_
                        refine r_aload_n 190 343 1 rfl rfl rfl rfl ?_
                        refine r_getR 191 346 rfl rfl fl_RX12_79 rfl h0 ?_
                        refine r_iload_n 192 347 3 rfl rfl rfl rfl ?_
                        refine r_iload 193 349 4 rfl rfl rfl ?_
                        refine r_iadd 194 350 rfl rfl ?_
                        refine r_gd (fun h15 => ?_)
                        refine r_iald 195 351 rfl rfl h15 ?_
                        refine r_bipush 196 353 (v := 10) rfl rfl (by decide) ?_
                        refine r_icmp_ne 197 419 356 rfl rfl rfl (fun h16 => ?_) (fun h16 => ?_)
                        · refine r_aload_n 198 357 1 rfl rfl rfl rfl ?_
                          refine r_getR 199 360 rfl rfl fl_RX12_88 rfl h0 ?_
                          refine r_iload_n 200 361 3 rfl rfl rfl rfl ?_
                          refine r_iload 201 363 4 rfl rfl rfl ?_
                          refine r_iadd 202 364 rfl rfl ?_
                          refine r_gd (fun h17 => ?_)
                          refine r_iald 203 365 rfl rfl h17 ?_
                          refine r_iload_n 204 366 2 rfl rfl rfl rfl ?_
                          refine r_icmp_ne 205 419 369 rfl rfl rfl (fun h18 => ?_) (fun h18 => ?_)
                          · refine r_aload_n 206 370 1 rfl rfl rfl rfl ?_
                            refine r_iload 207 372 0 rfl rfl rfl ?_
                            refine r_VIo 208 375 (st := []) (av := [.inr (.inr a0), .inl x14]) (av' := [.inl x14]) (μ' := u_X12_chosen) (d := 2) rfl rfl mc_X12_chosen in_X12_chosen lk_RX12_396 (Nat.le_of_ble_eq_true rfl) rfl rfl h0 rfl (Nat.le_of_ble_eq_true rfl) (fun _ h => ct_X12_chosen h0 h) (fun x19 => ?_)
                            refine r_aload_n 209 376 1 rfl rfl rfl rfl ?_
                            refine r_getR 210 379 rfl rfl fl_RX12_76 rfl h0 ?_
                            refine r_iload_n 211 380 3 rfl rfl rfl rfl ?_
                            refine r_iload 212 382 4 rfl rfl rfl ?_
                            refine r_iadd 213 383 rfl rfl ?_
                            refine r_iald 214 384 rfl rfl h12 ?_
                            refine r_icmp_ne 215 419 387 rfl rfl rfl (fun h20 => ?_) (fun h20 => ?_)
                            · refine r_aload_n 216 388 1 rfl rfl rfl rfl ?_
                              refine r_getR 217 391 rfl rfl fl_RX12_135 rfl h0 ?_
                              refine r_iload 218 393 0 rfl rfl rfl ?_
                              refine r_gd (fun h21 => ?_)
                              refine r_iald 219 394 rfl rfl h21 ?_
                              refine r_iconst 220 395 (v := (-1)) rfl rfl (by decide) ?_
                              refine r_icmp_eq 221 419 398 rfl rfl rfl (fun h22 => ?_) (fun h22 => ?_)
                              · refine r_iinc 235 422 4 (L' := [(4, .inl (a4 + 1)), (5, .inl x14), (0, .inr (.inr a0)), (1, .inl a1), (3, .inl a3)]) rfl rfl rfl (by decide) rfl ?_
                                refine r_ltV (fun x23 => ?_)
                                refine r_goto 236 304 rfl rfl ?_
                                exact r_sub [2, 3, 4, 0] rfl (hc304 x23)
                              · refine r_aload_n 222 399 1 rfl rfl rfl rfl ?_
                                refine r_getR 223 402 rfl rfl fl_RX12_135 rfl h0 ?_
                                refine r_iload 224 404 0 rfl rfl rfl ?_
                                refine r_iald 225 405 rfl rfl h21 ?_
                                refine r_aload_n 226 406 1 rfl rfl rfl rfl ?_
                                refine r_getR 227 409 rfl rfl fl_RX12_135 rfl h0 ?_
                                refine r_iload_n 228 410 2 rfl rfl rfl rfl ?_
                                refine r_gd (fun h24 => ?_)
                                refine r_iald 229 411 rfl rfl h24 ?_
                                refine r_iconst 230 412 (v := 1) rfl rfl (by decide) ?_
                                refine r_isub 231 413 rfl rfl ?_
                                refine r_icmp_ne 232 419 416 rfl rfl rfl (fun h25 => ?_) (fun h25 => ?_)
                                · refine r_leaf (r2 := (f_X12_why_j416 t m a4 : Option (Int32 × Mi))) (he304 _) ?_
                                  exact r_sub [4] rfl (hj416 m a4)
                                · refine r_iinc 235 422 4 (L' := [(4, .inl (a4 + 1)), (5, .inl x14), (0, .inr (.inr a0)), (1, .inl a1), (3, .inl a3)]) rfl rfl rfl (by decide) rfl ?_
                                  refine r_ltV (fun x26 => ?_)
                                  refine r_goto 236 304 rfl rfl ?_
                                  exact r_sub [2, 3, 4, 0] rfl (hc304 x26)
                            · refine r_iinc 235 422 4 (L' := [(4, .inl (a4 + 1)), (5, .inl x14), (0, .inr (.inr a0)), (1, .inl a1), (3, .inl a3)]) rfl rfl rfl (by decide) rfl ?_
                              refine r_ltV (fun x27 => ?_)
                              refine r_goto 236 304 rfl rfl ?_
                              exact r_sub [2, 3, 4, 0] rfl (hc304 x27)
                          · refine r_iinc 235 422 4 (L' := [(4, .inl (a4 + 1)), (5, .inl x14), (0, .inr (.inr a0)), (1, .inl a1), (3, .inl a3)]) rfl rfl rfl (by decide) rfl ?_
                            refine r_ltV (fun x28 => ?_)
                            refine r_goto 236 304 rfl rfl ?_
                            exact r_sub [2, 3, 4, 0] rfl (hc304 x28)
                        · refine r_iinc 235 422 4 (L' := [(4, .inl (a4 + 1)), (5, .inl x14), (0, .inr (.inr a0)), (1, .inl a1), (3, .inl a3)]) rfl rfl rfl (by decide) rfl ?_
                          refine r_ltV (fun x29 => ?_)
                          refine r_goto 236 304 rfl rfl ?_
                          exact r_sub [2, 3, 4, 0] rfl (hc304 x29)
                    exact r_sub [1, 2, 3, 0] rfl (hj304 m a3 0)
                  refine r_lp (Lf := fun x : Int32 => [(0, .inr (.inr a0)), (1, .inl a1), (3, .inl a3), (4, .inl x)]) (Mf := fun x : Int32 => (t, m)) a4 ?_ FUEL
                  rintro a4 κ261 hc261 he261
                  refine r_eq (L' := [(0, .inr (.inr a0)), (1, .inl a1), (3, .inl a3), (4, .inl a4)]) (M' := (t, m)) rfl rfl ?_
                  refine r_eqr (r' := f_X12_why_l261 t m a0 a1 a3 a4) rfl ?_
                  unfold f_X12_why_l261
                  refine r_iload 145 263 3 rfl rfl rfl ?_
                  refine r_aload_n 146 264 0 rfl rfl rfl rfl ?_
                  refine r_VIo 147 267 (st := [.inl a4]) (av := [.inr (.inr a0)]) (av' := []) (μ' := u_X12_constraints) (d := 1) rfl rfl mc_X12_constraints in_X12_constraints lk_RX12_332 (Nat.le_of_ble_eq_true rfl) rfl rfl h0 rfl (Nat.le_of_ble_eq_true rfl) (fun _ h => ct_X12_constraints h0 h) (fun x30 => ?_)
                  refine r_icmp_ge 148 301 270 rfl rfl rfl (fun h31 => ?_) (fun h31 => ?_)
                  · refine r_leaf (r2 := (f_X12_why_j301 t m a0 a1 a3 : Option (Int32 × Mi))) (he261 _) ?_
                    exact r_sub [0, 1, 2] rfl (hj301 m a3)
                  · refine r_aload_n 149 271 0 rfl rfl rfl rfl ?_
                    refine r_getR 150 274 rfl rfl fl_RX12_135 rfl h0 ?_
                    refine r_iload_n 151 275 1 rfl rfl rfl rfl ?_
                    refine r_gd (fun h32 => ?_)
                    refine r_iald 152 276 rfl rfl h32 ?_
                    refine r_if_ne 153 301 279 rfl rfl rfl (fun h33 => ?_) (fun h33 => ?_)
                    · refine r_aload_n 154 280 0 rfl rfl rfl rfl ?_
                      refine r_getR 155 283 rfl rfl fl_RX12_88 rfl h0 ?_
                      refine r_iload_n 156 284 2 rfl rfl rfl rfl ?_
                      refine r_iload 157 286 3 rfl rfl rfl ?_
                      refine r_iadd 158 287 rfl rfl ?_
                      refine r_gd (fun h34 => ?_)
                      refine r_iald 159 288 rfl rfl h34 ?_
                      refine r_iload_n 160 289 1 rfl rfl rfl rfl ?_
                      refine r_icmp_ne 161 295 292 rfl rfl rfl (fun h35 => ?_) (fun h35 => ?_)
                      · refine r_leaf (r2 := (f_X12_why_j292 t m a4 : Option (Int32 × Mi))) (he261 _) ?_
                        exact r_sub [3] rfl (hj292 m a4)
                      · refine r_iinc 164 298 3 (L' := [(4, .inl (a4 + 1)), (0, .inr (.inr a0)), (1, .inl a1), (3, .inl a3)]) rfl rfl rfl (by decide) rfl ?_
                        refine r_ltV (fun x36 => ?_)
                        refine r_goto 165 261 rfl rfl ?_
                        exact r_sub [1, 2, 3, 0] rfl (hc261 x36)
                    · refine r_leaf (r2 := (f_X12_why_j301 t m a0 a1 a3 : Option (Int32 × Mi))) (he261 _) ?_
                      exact r_sub [0, 1, 2] rfl (hj301 m a3)
                exact r_sub [1, 2, 3, 0] rfl (hj261 m a3 x9)
              refine r_lp (Lf := fun x : Int32 × Mi => [(0, .inr (.inr a0)), (1, .inl a1), (2, .inl a2), (3, .inl a3), (4, .inl (x.1))]) (Mf := fun x : Int32 × Mi => (t, x.2)) (a4, m) ?_ FUEL
              rintro ⟨a4, m⟩ κ114 hc114 he114
              refine r_eq (L' := [(0, .inr (.inr a0)), (1, .inl a1), (2, .inl a2), (3, .inl a3), (4, .inl a4)]) (M' := (t, m)) rfl rfl ?_
              refine r_eqr (r' := f_X12_why_l114 t m a0 a1 a2 a3 a4) rfl ?_
              unfold f_X12_why_l114
              refine r_iload 64 116 4 rfl rfl rfl ?_
              refine r_iload_n 65 117 2 rfl rfl rfl rfl ?_
              refine r_icmp_ge 66 250 120 rfl rfl rfl (fun h37 => ?_) (fun h37 => ?_)
              · refine r_leaf (r2 := (f_X12_why_j250 t m a0 a1 a3 : Option (Int32 × Mi))) (he114 _) ?_
                exact r_sub [0, 1, 3] rfl (hj250 m a3)
              · refine r_iconst 67 121 (v := 0) rfl rfl (by decide) ?_
                refine r_istore 68 123 (L' := [(5, .inl 0), (0, .inr (.inr a0)), (1, .inl a1), (2, .inl a2), (3, .inl a3), (4, .inl a4)]) rfl rfl (by decide) rfl ?_
                have hj123 : ∀ (m : Mi) (a4 : Int32) (a5 : Int32), Sm u_X12_why (3, 0, 0, t.length, zs t) κ114 123 [(0, .inr (.inr a0)), (1, .inl a1), (2, .inl a2), (3, .inl a3), (4, .inl a4), (5, .inl a5)] [] (t, m) (f_X12_why_j123 t m a0 a1 a2 a3 a4 a5) := by
                  intro m a4 a5
                  unfold f_X12_why_j123
                  have hj244 : ∀ (m : Mi) (a4 : Int32), Sm u_X12_why (3, 0, 0, t.length, zs t) κ114 244 [(0, .inr (.inr a0)), (1, .inl a1), (2, .inl a2), (3, .inl a3), (4, .inl a4)] [] (t, m) (f_X12_why_j244 t m a0 a1 a2 a3 a4) := by
                    intro m a4
                    unfold f_X12_why_j244
                    refine r_iinc 137 247 4 (L' := [(4, .inl (a4 + 1)), (0, .inr (.inr a0)), (1, .inl a1), (2, .inl a2), (3, .inl a3)]) rfl rfl rfl (by decide) rfl ?_
                    refine r_ltV (fun x38 => ?_)
                    refine r_goto 138 114 rfl rfl ?_
                    exact r_sub [1, 2, 3, 4, 0] rfl (hc114 (x38, m))
                  refine r_lp (Lf := fun x : Int32 × Mi => [(0, .inr (.inr a0)), (1, .inl a1), (2, .inl a2), (3, .inl a3), (4, .inl a4), (5, .inl (x.1))]) (Mf := fun x : Int32 × Mi => (t, x.2)) (a5, m) ?_ FUEL
                  rintro ⟨a5, m⟩ κ123 hc123 he123
                  refine r_eq (L' := [(0, .inr (.inr a0)), (1, .inl a1), (2, .inl a2), (3, .inl a3), (4, .inl a4), (5, .inl a5)]) (M' := (t, m)) rfl rfl ?_
                  refine r_eqr (r' := f_X12_why_l123 t m a0 a1 a2 a3 a4 a5) rfl ?_
                  unfold f_X12_why_l123
                  refine r_iload 69 125 5 rfl rfl rfl ?_
                  refine r_aload_n 70 126 0 rfl rfl rfl rfl ?_
                  refine r_getR 71 129 rfl rfl fl_RX12_49 rfl h0 ?_
                  refine r_aload_n 72 130 0 rfl rfl rfl rfl ?_
                  refine r_getI 73 133 rfl rfl fl_RX12_326 rfl h0 ?_
                  refine r_gd (fun h39 => ?_)
                  refine r_iald 74 134 rfl rfl h39 ?_
                  refine r_icmp_ge 75 244 137 rfl rfl rfl (fun h40 => ?_) (fun h40 => ?_)
                  · refine r_leaf (r2 := (f_X12_why_j244 t m a0 a1 a2 a3 a4 : Option ((Int32 × Mi) ⊕ ((Mi))))) (he123 _) ?_
                    exact r_sub [0, 1, 2, 3, 4] rfl (hj244 m a4)
                  · refine r_aload_n 76 138 0 rfl rfl rfl rfl ?_
                    refine r_getR 77 141 rfl rfl fl_RX12_64 rfl h0 ?_
                    refine r_bipush 78 143 (v := 60) rfl rfl (by decide) ?_
                    refine r_aload_n 79 144 0 rfl rfl rfl rfl ?_
                    refine r_getI 80 147 rfl rfl fl_RX12_326 rfl h0 ?_
                    refine r_imul 81 148 rfl rfl ?_
                    refine r_aload_n 82 149 0 rfl rfl rfl rfl ?_
                    refine r_getR 83 152 rfl rfl fl_RX12_76 rfl h0 ?_
                    refine r_iload_n 84 153 3 rfl rfl rfl rfl ?_
                    refine r_iload 85 155 5 rfl rfl rfl ?_
                    refine r_iadd 86 156 rfl rfl ?_
                    refine r_gd (fun h41 => ?_)
                    refine r_iald 87 157 rfl rfl h41 ?_
                    refine r_iadd 88 158 rfl rfl ?_
                    refine r_gd (fun h42 => ?_)
                    refine r_iald 89 159 rfl rfl h42 ?_
                    refine r_ltI (fun x43 => ?_)
                    refine r_istore 90 161 (L' := [(6, .inl x43), (0, .inr (.inr a0)), (1, .inl a1), (2, .inl a2), (3, .inl a3), (4, .inl a4), (5, .inl a5)]) rfl rfl (by decide) rfl ?_
                    refine r_aload_n 91 162 1 rfl rfl rfl rfl ?_
                    refine r_getR 92 165 rfl rfl fl_RX12_88 rfl h0 ?_
                    refine r_iload_n 93 166 4 rfl rfl rfl rfl ?_
                    refine r_iload 94 168 6 rfl rfl rfl ?_
                    refine r_iadd 95 169 rfl rfl ?_
                    refine r_gd (fun h44 => ?_)
                    refine r_iald 96 170 rfl rfl h44 ?_
                    refine r_ltI (fun x45 => ?_)
                    refine r_istore 97 172 (L' := [(7, .inl x45), (6, .inl x43), (0, .inr (.inr a0)), (1, .inl a1), (2, .inl a2), (3, .inl a3), (4, .inl a4), (5, .inl a5)]) rfl rfl (by decide) rfl ?_
                    refine r_aload_n 98 173 2 rfl rfl rfl rfl ?_
                    refine r_getR 99 176 rfl rfl fl_RX12_79 rfl h0 ?_
                    refine r_iload_n 100 177 5 rfl rfl rfl rfl ?_
                    refine r_iload 101 179 7 rfl rfl rfl ?_
                    refine r_iadd 102 180 rfl rfl ?_
                    refine r_gd (fun h46 => ?_)
                    refine r_iald 103 181 rfl rfl h46 ?_
                    refine r_bipush 104 183 (v := 10) rfl rfl (by decide) ?_
                    refine r_icmp_ne 105 238 186 rfl rfl rfl (fun h47 => ?_) (fun h47 => ?_)
                    · refine r_aload_n 106 187 2 rfl rfl rfl rfl ?_
                      refine r_iload 107 189 1 rfl rfl rfl ?_
                      refine r_VIo 108 192 (st := []) (av := [.inr (.inr a0), .inl x43]) (av' := [.inl x43]) (μ' := u_X12_chosen) (d := 2) rfl rfl mc_X12_chosen in_X12_chosen lk_RX12_396 (Nat.le_of_ble_eq_true rfl) rfl rfl h0 rfl (Nat.le_of_ble_eq_true rfl) (fun _ h => ct_X12_chosen h0 h) (fun x48 => ?_)
                      refine r_aload_n 109 193 2 rfl rfl rfl rfl ?_
                      refine r_getR 110 196 rfl rfl fl_RX12_76 rfl h0 ?_
                      refine r_iload_n 111 197 5 rfl rfl rfl rfl ?_
                      refine r_iload 112 199 7 rfl rfl rfl ?_
                      refine r_iadd 113 200 rfl rfl ?_
                      refine r_iald 114 201 rfl rfl h41 ?_
                      refine r_icmp_ne 115 238 204 rfl rfl rfl (fun h49 => ?_) (fun h49 => ?_)
                      · refine r_aload_n 116 205 2 rfl rfl rfl rfl ?_
                        refine r_getR 117 208 rfl rfl fl_RX12_135 rfl h0 ?_
                        refine r_iload 118 210 1 rfl rfl rfl ?_
                        refine r_gd (fun h50 => ?_)
                        refine r_iald 119 211 rfl rfl h50 ?_
                        refine r_iload 120 213 6 rfl rfl rfl ?_
                        refine r_icmp_ne 121 238 216 rfl rfl rfl (fun h51 => ?_) (fun h51 => ?_)
                        · refine r_aload_n 122 217 2 rfl rfl rfl rfl ?_
                          refine r_getR 123 220 rfl rfl fl_RX12_135 rfl h0 ?_
                          refine r_iload 124 222 0 rfl rfl rfl ?_
                          refine r_gd (fun h52 => ?_)
                          refine r_iald 125 223 rfl rfl h52 ?_
                          refine r_iconst 126 224 (v := (-1)) rfl rfl (by decide) ?_
                          refine r_icmp_ne 127 238 227 rfl rfl rfl (fun h53 => ?_) (fun h53 => ?_)
                          · refine r_aload_n 128 228 2 rfl rfl rfl rfl ?_
                            refine r_getR 129 231 rfl rfl fl_RX12_135 rfl h0 ?_
                            refine r_iload 130 233 0 rfl rfl rfl ?_
                            refine r_iload 131 235 6 rfl rfl rfl ?_
                            refine r_iconst 132 236 (v := 1) rfl rfl (by decide) ?_
                            refine r_iadd 133 237 rfl rfl ?_
                            refine r_iast 134 238 rfl rfl h52 ?_
                            refine r_ltM (fun m54 => ?_)
                            refine r_iinc 135 241 7 (L' := [(5, .inl (a5 + 1)), (7, .inl x45), (6, .inl x43), (0, .inr (.inr a0)), (1, .inl a1), (2, .inl a2), (3, .inl a3), (4, .inl a4)]) rfl rfl rfl (by decide) rfl ?_
                            refine r_ltV (fun x55 => ?_)
                            refine r_goto 136 123 rfl rfl ?_
                            exact r_sub [3, 4, 5, 6, 7, 0] rfl (hc123 (x55, m54))
                          · refine r_iinc 135 241 7 (L' := [(5, .inl (a5 + 1)), (7, .inl x45), (6, .inl x43), (0, .inr (.inr a0)), (1, .inl a1), (2, .inl a2), (3, .inl a3), (4, .inl a4)]) rfl rfl rfl (by decide) rfl ?_
                            refine r_ltV (fun x56 => ?_)
                            refine r_goto 136 123 rfl rfl ?_
                            exact r_sub [3, 4, 5, 6, 7, 0] rfl (hc123 (x56, m))
                        · refine r_iinc 135 241 7 (L' := [(5, .inl (a5 + 1)), (7, .inl x45), (6, .inl x43), (0, .inr (.inr a0)), (1, .inl a1), (2, .inl a2), (3, .inl a3), (4, .inl a4)]) rfl rfl rfl (by decide) rfl ?_
                          refine r_ltV (fun x57 => ?_)
                          refine r_goto 136 123 rfl rfl ?_
                          exact r_sub [3, 4, 5, 6, 7, 0] rfl (hc123 (x57, m))
                      · refine r_iinc 135 241 7 (L' := [(5, .inl (a5 + 1)), (7, .inl x45), (6, .inl x43), (0, .inr (.inr a0)), (1, .inl a1), (2, .inl a2), (3, .inl a3), (4, .inl a4)]) rfl rfl rfl (by decide) rfl ?_
                        refine r_ltV (fun x58 => ?_)
                        refine r_goto 136 123 rfl rfl ?_
                        exact r_sub [3, 4, 5, 6, 7, 0] rfl (hc123 (x58, m))
                    · refine r_iinc 135 241 7 (L' := [(5, .inl (a5 + 1)), (7, .inl x45), (6, .inl x43), (0, .inr (.inr a0)), (1, .inl a1), (2, .inl a2), (3, .inl a3), (4, .inl a4)]) rfl rfl rfl (by decide) rfl ?_
                      refine r_ltV (fun x59 => ?_)
                      refine r_goto 136 123 rfl rfl ?_
                      exact r_sub [3, 4, 5, 6, 7, 0] rfl (hc123 (x59, m))
                exact r_sub [1, 2, 3, 4, 5, 0] rfl (hj123 m a4 0)
            exact r_sub [1, 2, 3, 4, 0] rfl (hj114 m a2 a3 0)
          refine r_lp (Lf := fun x : Int32 × Mi => [(0, .inr (.inr a0)), (1, .inl a1), (2, .inl a2), (3, .inl a3), (4, .inl (x.1))]) (Mf := fun x : Int32 × Mi => (t, x.2)) (a4, m) ?_ FUEL
          rintro ⟨a4, m⟩ κ64 hc64 he64
          refine r_eq (L' := [(0, .inr (.inr a0)), (1, .inl a1), (2, .inl a2), (3, .inl a3), (4, .inl a4)]) (M' := (t, m)) rfl rfl ?_
          refine r_eqr (r' := f_X12_why_l64 t m a0 a1 a2 a3 a4) rfl ?_
          unfold f_X12_why_l64
          refine r_iload 36 66 4 rfl rfl rfl ?_
          refine r_aload_n 37 67 0 rfl rfl rfl rfl ?_
          refine r_VIo 38 70 (st := [.inl a4]) (av := [.inr (.inr a0)]) (av' := []) (μ' := u_X12_constraints) (d := 1) rfl rfl mc_X12_constraints in_X12_constraints lk_RX12_332 (Nat.le_of_ble_eq_true rfl) rfl rfl h0 rfl (Nat.le_of_ble_eq_true rfl) (fun _ h => ct_X12_constraints h0 h) (fun x60 => ?_)
          refine r_icmp_ge 39 111 73 rfl rfl rfl (fun h61 => ?_) (fun h61 => ?_)
          · refine r_leaf (r2 := (f_X12_why_j111 t m a0 a1 a2 a3 : Option (Int32 × Mi))) (he64 _) ?_
            exact r_sub [0, 1, 2, 3] rfl (hj111 m a2 a3)
          · refine r_aload_n 40 74 0 rfl rfl rfl rfl ?_
            refine r_aload_n 41 75 0 rfl rfl rfl rfl ?_
            refine r_getR 42 78 rfl rfl fl_RX12_88 rfl h0 ?_
            refine r_iload_n 43 79 3 rfl rfl rfl rfl ?_
            refine r_iload 44 81 4 rfl rfl rfl ?_
            refine r_iadd 45 82 rfl rfl ?_
            refine r_gd (fun h62 => ?_)
            refine r_iald 46 83 rfl rfl h62 ?_
            refine r_VIo 47 86 (st := []) (av := [.inr (.inr a0), .inl (gi m (gr m a0 38) (ix (a3 + a4)))]) (av' := [.inl (gi m (gr m a0 38) (ix (a3 + a4)))]) (μ' := u_X12_chosen) (d := 2) rfl rfl mc_X12_chosen in_X12_chosen lk_RX12_396 (Nat.le_of_ble_eq_true rfl) rfl rfl h0 rfl (Nat.le_of_ble_eq_true rfl) (fun _ h => ct_X12_chosen h0 h) (fun x63 => ?_)
            refine r_iconst 48 87 (v := (-1)) rfl rfl (by decide) ?_
            refine r_icmp_eq 49 105 90 rfl rfl rfl (fun h64 => ?_) (fun h64 => ?_)
            · refine r_iinc 60 108 4 (L' := [(4, .inl (a4 + 1)), (0, .inr (.inr a0)), (1, .inl a1), (2, .inl a2), (3, .inl a3)]) rfl rfl rfl (by decide) rfl ?_
              refine r_ltV (fun x65 => ?_)
              refine r_goto 61 64 rfl rfl ?_
              exact r_sub [1, 2, 3, 4, 0] rfl (hc64 (x65, m))
            · refine r_aload_n 50 91 0 rfl rfl rfl rfl ?_
              refine r_getR 51 94 rfl rfl fl_RX12_135 rfl h0 ?_
              refine r_aload_n 52 95 0 rfl rfl rfl rfl ?_
              refine r_getR 53 98 rfl rfl fl_RX12_88 rfl h0 ?_
              refine r_iload_n 54 99 3 rfl rfl rfl rfl ?_
              refine r_iload 55 101 4 rfl rfl rfl ?_
              refine r_iadd 56 102 rfl rfl ?_
              refine r_iald 57 103 rfl rfl h62 ?_
              refine r_iconst 58 104 (v := 0) rfl rfl (by decide) ?_
              refine r_gd (fun h66 => ?_)
              refine r_iast 59 105 rfl rfl h66 ?_
              refine r_ltM (fun m67 => ?_)
              refine r_iinc 60 108 4 (L' := [(4, .inl (a4 + 1)), (0, .inr (.inr a0)), (1, .inl a1), (2, .inl a2), (3, .inl a3)]) rfl rfl rfl (by decide) rfl ?_
              refine r_ltV (fun x68 => ?_)
              refine r_goto 61 64 rfl rfl ?_
              exact r_sub [1, 2, 3, 4, 0] rfl (hc64 (x68, m67))
        exact r_sub [1, 2, 3, 4, 0] rfl (hj64 m a2 a3 x7)
      refine r_lp (Lf := fun x : Int32 × Mi => [(0, .inr (.inr a0)), (1, .inl a1), (2, .inl a2), (3, .inl a3), (4, .inl (x.1))]) (Mf := fun x : Int32 × Mi => (t, x.2)) (a4, m) ?_ FUEL
      rintro ⟨a4, m⟩ κ33 hc33 he33
      refine r_eq (L' := [(0, .inr (.inr a0)), (1, .inl a1), (2, .inl a2), (3, .inl a3), (4, .inl a4)]) (M' := (t, m)) rfl rfl ?_
      refine r_eqr (r' := f_X12_why_l33 t m a0 a1 a2 a3 a4) rfl ?_
      unfold f_X12_why_l33
      refine r_iload 20 35 4 rfl rfl rfl ?_
      refine r_iload_n 21 36 2 rfl rfl rfl rfl ?_
      refine r_icmp_ge 22 53 39 rfl rfl rfl (fun h69 => ?_) (fun h69 => ?_)
      · refine r_leaf (r2 := (f_X12_why_j53 t m a0 a1 a2 a3 : Option (Int32 × Mi))) (he33 _) ?_
        exact r_sub [0, 1, 2, 3] rfl (hj53 m a2 a3)
      · refine r_aload_n 23 40 0 rfl rfl rfl rfl ?_
        refine r_getR 24 43 rfl rfl fl_RX12_135 rfl h0 ?_
        refine r_iload 25 45 4 rfl rfl rfl ?_
        refine r_iconst 26 46 (v := (-1)) rfl rfl (by decide) ?_
        refine r_gd (fun h70 => ?_)
        refine r_iast 27 47 rfl rfl h70 ?_
        refine r_ltM (fun m71 => ?_)
        refine r_iinc 28 50 4 (L' := [(4, .inl (a4 + 1)), (0, .inr (.inr a0)), (1, .inl a1), (2, .inl a2), (3, .inl a3)]) rfl rfl rfl (by decide) rfl ?_
        refine r_ltV (fun x72 => ?_)
        refine r_goto 29 33 rfl rfl ?_
        exact r_sub [1, 2, 3, 4, 0] rfl (hc33 (x72, m71))
    exact r_sub [3, 4, 2, 1, 0] rfl (hj33 m x4 x5 0)
theorem ct_X12_why {t : List Sh} {m : Mi} {a0 : Nat} {a1 : Int32} {m' : Mi} {v : Int32}  (h0 : sh t a0 = some (.inl 12)) (h : f_X12_why t m a0 a1 = some (v, m')) : Ct u_X12_why 3 0 0 [.inr (.inr a0), .inl a1] (t, m) (some (.inl v), (t, m')) :=
  ct_of (by decide) tk_X12_why (Nat.le_of_ble_eq_true rfl) (sm_X12_why t m a0 a1 h0) (by rw [h]; rfl) (Nat.le_refl _) (Nat.le_refl _)
