theorem fl_RX12_114 : FL RX12 114 12 46 true := ⟨RX12, TX12, 61, rfl, inW12, tyX12_ok, nmX12, by decide, rfl, rfl, rfl, tbm 1373 (by decide +kernel) rfl⟩
theorem fl_RX12_101 : FL RX12 101 12 42 true := ⟨RX12, TX12, 61, rfl, inW12, tyX12_ok, nmX12, by decide, rfl, rfl, rfl, tbm 1369 (by decide +kernel) rfl⟩
def tb_X12_allOn : Tb := [(0, (.iconst 0, 1)), (1, (.istore_n 2, 1)), (2, (.iload_n 2, 1)), (3, (.sipush 250, 3)), (6, (.if_icmp .ge 16, 3)), (9, (.aload_n 0, 1)), (10, (.getfield 101, 3)), (13, (.iload_n 2, 1)), (14, (.iload_n 1, 1)), (15, (.bastore, 1)), (16, (.iinc 2 1, 3)), (19, (.goto (-17), 3)), (22, (.iconst 0, 1)), (23, (.istore_n 2, 1)), (24, (.iload_n 2, 1)), (25, (.bipush 10, 2)), (27, (.if_icmp .ge 16, 3)), (30, (.aload_n 0, 1)), (31, (.getfield 114, 3)), (34, (.iload_n 2, 1)), (35, (.iconst (-1), 1)), (36, (.iastore, 1)), (37, (.iinc 2 1, 3)), (40, (.goto (-16), 3)), (43, (.return_, 1))]
def u_X12_allOn : Fx := (yX12_allOn, (cX12_allOn, (3, (none, tb_X12_allOn))))
theorem tk_X12_allOn : ∀ q ∈ u_X12_allOn.2.2.2.2, decode u_X12_allOn.2.1 q.1 = .ok q.2 := by decide +kernel
theorem mc_X12_allOn : MC u_X12_allOn 1 := ⟨tbm 1691 (by decide +kernel) rfl, tbm 128 (by decide +kernel) rfl, ⟨by decide, by decide, by decide +kernel⟩, by decide⟩
theorem in_X12_allOn : Cond.instanceMethod u_X12_allOn.1 ∈ TB ∧ Cond.selects u_X12_allOn.1.cls u_X12_allOn.1 u_X12_allOn.1 ∈ TB := ⟨tbm 1690 (by decide +kernel) rfl, tbm 96 (by decide +kernel) rfl⟩
def f_X12_allOn_j43 (t : List Sh) (m : Mi) : Option (Mi) :=
  some m
def f_X12_allOn_l24 (t : List Sh) (m : Mi) (a0 : Nat) (a2 : Int32) : Option ((Int32 × Mi) ⊕ ((Mi))) :=
  if 10 ≤ a2 then
    some (.inr m)
  else
    (if ar t (gr m a0 46) .int a2 = true then
    lt (si m (gr m a0 46) (ix a2) (-1)) fun m3 =>
    lt (a2 + 1) fun x4 =>
    some (.inl (x4, m3))
    else none)
def f_X12_allOn_j24 (t : List Sh) (m : Mi) (a0 : Nat) (a2 : Int32) : Option (Mi) :=
  (lp (fun x : Int32 × Mi => f_X12_allOn_l24 t x.2 a0 x.1) FUEL (a2, m)).bind (fun y : Mi => f_X12_allOn_j43 t y)
def f_X12_allOn_j22 (t : List Sh) (m : Mi) (a0 : Nat) : Option (Mi) :=
  f_X12_allOn_j24 t m a0 0
def f_X12_allOn_l2 (t : List Sh) (m : Mi) (a0 : Nat) (a1 : Int32) (a2 : Int32) : Option ((Int32 × Mi) ⊕ ((Mi))) :=
  if 250 ≤ a2 then
    some (.inr m)
  else
    (if ar t (gr m a0 42) .boolean a2 = true then
    lt (si m (gr m a0 42) (ix a2) (vp_nar .boolean a1)) fun m7 =>
    lt (a2 + 1) fun x8 =>
    some (.inl (x8, m7))
    else none)
def f_X12_allOn_j2 (t : List Sh) (m : Mi) (a0 : Nat) (a1 : Int32) (a2 : Int32) : Option (Mi) :=
  (lp (fun x : Int32 × Mi => f_X12_allOn_l2 t x.2 a0 a1 x.1) FUEL (a2, m)).bind (fun y : Mi => f_X12_allOn_j22 t y a0)
def f_X12_allOn (t : List Sh) (m : Mi) (a0 : Nat) (a1 : Int32) : Option (Mi) :=
  f_X12_allOn_j2 t m a0 a1 0
set_option maxRecDepth 4000 in
set_option maxHeartbeats 4000000 in
theorem sm_X12_allOn (t : List Sh) (m : Mi) (a0 : Nat) (a1 : Int32) (h0 : sh t a0 = some (.inl 12)) : Sm u_X12_allOn (1, 0, 0, t.length, zs t) (kV t) 0 [(0, .inr (.inr a0)), (1, .inl a1)] [] (t, m) (f_X12_allOn t m a0 a1) := by
  unfold f_X12_allOn
  refine r_iconst 0 1 (v := 0) rfl rfl (by decide) ?_
  refine r_istore_n 1 2 (L' := [(2, .inl 0), (0, .inr (.inr a0)), (1, .inl a1)]) rfl rfl rfl (by decide) rfl ?_
  have hj2 : ∀ (m : Mi) (a2 : Int32), Sm u_X12_allOn (1, 0, 0, t.length, zs t) (kV t) 2 [(0, .inr (.inr a0)), (1, .inl a1), (2, .inl a2)] [] (t, m) (f_X12_allOn_j2 t m a0 a1 a2) := by
    intro m a2
    unfold f_X12_allOn_j2
    have hj22 : ∀ (m : Mi), Sm u_X12_allOn (1, 0, 0, t.length, zs t) (kV t) 22 [(0, .inr (.inr a0))] [] (t, m) (f_X12_allOn_j22 t m a0) := by
      intro m
      unfold f_X12_allOn_j22
      refine r_iconst 12 23 (v := 0) rfl rfl (by decide) ?_
      refine r_istore_n 13 24 (L' := [(2, .inl 0), (0, .inr (.inr a0))]) rfl rfl rfl (by decide) rfl ?_
      have hj24 : ∀ (m : Mi) (a2 : Int32), Sm u_X12_allOn (1, 0, 0, t.length, zs t) (kV t) 24 [(0, .inr (.inr a0)), (2, .inl a2)] [] (t, m) (f_X12_allOn_j24 t m a0 a2) := by
        intro m a2
        unfold f_X12_allOn_j24
        have hj43 : ∀ (m : Mi), Sm u_X12_allOn (1, 0, 0, t.length, zs t) (kV t) 43 [] [] (t, m) (f_X12_allOn_j43 t m) := by
          intro m
          unfold f_X12_allOn_j43
          exact r_vret 24 rfl rfl rfl
        refine r_lp (Lf := fun x : Int32 × Mi => [(0, .inr (.inr a0)), (2, .inl (x.1))]) (Mf := fun x : Int32 × Mi => (t, x.2)) (a2, m) ?_ FUEL
        rintro ⟨a2, m⟩ κ24 hc24 he24
        refine r_eq (L' := [(0, .inr (.inr a0)), (2, .inl a2)]) (M' := (t, m)) rfl rfl ?_
        refine r_eqr (r' := f_X12_allOn_l24 t m a0 a2) rfl ?_
        unfold f_X12_allOn_l24
        refine r_iload_n 14 25 1 rfl rfl rfl rfl ?_
        refine r_bipush 15 27 (v := 10) rfl rfl (by decide) ?_
        refine r_icmp_ge 16 43 30 rfl rfl rfl (fun h1 => ?_) (fun h1 => ?_)
        · refine r_leaf (r2 := (f_X12_allOn_j43 t m : Option (Mi))) (he24 _) ?_
          exact r_sub [] rfl (hj43 m)
        · refine r_aload_n 17 31 0 rfl rfl rfl rfl ?_
          refine r_getR 18 34 rfl rfl fl_RX12_114 rfl h0 ?_
          refine r_iload_n 19 35 1 rfl rfl rfl rfl ?_
          refine r_iconst 20 36 (v := (-1)) rfl rfl (by decide) ?_
          refine r_gd (fun h2 => ?_)
          refine r_iast 21 37 rfl rfl h2 ?_
          refine r_ltM (fun m3 => ?_)
          refine r_iinc 22 40 1 (L' := [(2, .inl (a2 + 1)), (0, .inr (.inr a0))]) rfl rfl rfl (by decide) rfl ?_
          refine r_ltV (fun x4 => ?_)
          refine r_goto 23 24 rfl rfl ?_
          exact r_sub [1, 0] rfl (hc24 (x4, m3))
      exact r_sub [1, 0] rfl (hj24 m 0)
    refine r_lp (Lf := fun x : Int32 × Mi => [(0, .inr (.inr a0)), (1, .inl a1), (2, .inl (x.1))]) (Mf := fun x : Int32 × Mi => (t, x.2)) (a2, m) ?_ FUEL
    rintro ⟨a2, m⟩ κ2 hc2 he2
    refine r_eq (L' := [(0, .inr (.inr a0)), (1, .inl a1), (2, .inl a2)]) (M' := (t, m)) rfl rfl ?_
    refine r_eqr (r' := f_X12_allOn_l2 t m a0 a1 a2) rfl ?_
    unfold f_X12_allOn_l2
    refine r_iload_n 2 3 2 rfl rfl rfl rfl ?_
    refine r_sipush 3 6 (v := 250) rfl rfl (by decide) ?_
    refine r_icmp_ge 4 22 9 rfl rfl rfl (fun h5 => ?_) (fun h5 => ?_)
    · refine r_leaf (r2 := (f_X12_allOn_j22 t m a0 : Option (Mi))) (he2 _) ?_
      exact r_sub [0] rfl (hj22 m)
    · refine r_aload_n 5 10 0 rfl rfl rfl rfl ?_
      refine r_getR 6 13 rfl rfl fl_RX12_101 rfl h0 ?_
      refine r_iload_n 7 14 2 rfl rfl rfl rfl ?_
      refine r_iload_n 8 15 1 rfl rfl rfl rfl ?_
      refine r_gd (fun h6 => ?_)
      refine r_zast 9 16 rfl rfl h6 ?_
      refine r_ltM (fun m7 => ?_)
      refine r_iinc 10 19 2 (L' := [(2, .inl (a2 + 1)), (0, .inr (.inr a0)), (1, .inl a1)]) rfl rfl rfl (by decide) rfl ?_
      refine r_ltV (fun x8 => ?_)
      refine r_goto 11 2 rfl rfl ?_
      exact r_sub [1, 2, 0] rfl (hc2 (x8, m7))
  exact r_sub [1, 2, 0] rfl (hj2 m 0)
theorem ct_X12_allOn {t : List Sh} {m : Mi} {a0 : Nat} {a1 : Int32} {m' : Mi}  (h0 : sh t a0 = some (.inl 12)) (h : f_X12_allOn t m a0 a1 = some m') : Ct u_X12_allOn 1 0 0 [.inr (.inr a0), .inl a1] (t, m) (none, (t, m')) :=
  ct_of (by decide) tk_X12_allOn (Nat.le_of_ble_eq_true rfl) (sm_X12_allOn t m a0 a1 h0) (by rw [h]; rfl) (Nat.le_refl _) (Nat.le_refl _)
theorem fl_RX12_156 : FL RX12 156 12 3 false := ⟨RX12, TX12, 61, rfl, inW12, tyX12_ok, nmX12, by decide, rfl, rfl, rfl, tbm 1330 (by decide +kernel) rfl⟩
theorem fl_RX12_13 : FL RX12 13 12 2 true := ⟨RX12, TX12, 61, rfl, inW12, tyX12_ok, nmX12, by decide, rfl, rfl, rfl, tbm 1329 (by decide +kernel) rfl⟩
def tb_X12_at : Tb := [(0, (.iload_n 1, 1)), (1, (.aload_n 0, 1)), (2, (.getfield 156, 3)), (5, (.if_icmp .ge 16, 3)), (8, (.aload_n 0, 1)), (9, (.getfield 13, 3)), (12, (.iload_n 1, 1)), (13, (.baload, 1)), (14, (.sipush 255, 3)), (17, (.iand, 1)), (18, (.goto 4, 3)), (21, (.iconst 0, 1)), (22, (.ireturn, 1))]
def u_X12_at : Fx := (yX12_at, (cX12_at, (2, ((some .int), tb_X12_at))))
theorem tk_X12_at : ∀ q ∈ u_X12_at.2.2.2.2, decode u_X12_at.2.1 q.1 = .ok q.2 := by decide +kernel
theorem mc_X12_at : MC u_X12_at 1 := ⟨tbm 1538 (by decide +kernel) rfl, tbm 128 (by decide +kernel) rfl, ⟨by decide, by decide, by decide +kernel⟩, by decide⟩
theorem in_X12_at : Cond.instanceMethod u_X12_at.1 ∈ TB ∧ Cond.selects u_X12_at.1.cls u_X12_at.1 u_X12_at.1 ∈ TB := ⟨tbm 1537 (by decide +kernel) rfl, tbm 71 (by decide +kernel) rfl⟩
def f_X12_at (t : List Sh) (m : Mi) (a0 : Nat) (a1 : Int32) : Option (Int32) :=
  if (gi m a0 3) ≤ a1 then
    some 0
  else
    (if ar t (gr m a0 2) .byte a1 = true then
    some ((gi m (gr m a0 2) (ix a1)) &&& 255)
    else none)
set_option maxRecDepth 4000 in
set_option maxHeartbeats 4000000 in
theorem sm_X12_at (t : List Sh) (m : Mi) (a0 : Nat) (a1 : Int32) (h0 : sh t a0 = some (.inl 12)) : Sm u_X12_at (1, 0, 0, t.length, zs t) (kIo t m) 0 [(0, .inr (.inr a0)), (1, .inl a1)] [] (t, m) (f_X12_at t m a0 a1) := by
  unfold f_X12_at
  refine r_iload_n 0 1 1 rfl rfl rfl rfl ?_
  refine r_aload_n 1 2 0 rfl rfl rfl rfl ?_
  refine r_getI 2 5 rfl rfl fl_RX12_156 rfl h0 ?_
  refine r_icmp_ge 3 21 8 rfl rfl rfl (fun h1 => ?_) (fun h1 => ?_)
  · refine r_iconst 11 22 (v := 0) rfl rfl (by decide) ?_
    exact r_iret 12 rfl rfl rfl
  · refine r_aload_n 4 9 0 rfl rfl rfl rfl ?_
    refine r_getR 5 12 rfl rfl fl_RX12_13 rfl h0 ?_
    refine r_iload_n 6 13 1 rfl rfl rfl rfl ?_
    refine r_gd (fun h2 => ?_)
    refine r_bald 7 14 rfl rfl h2 ?_
    refine r_sipush 8 17 (v := 255) rfl rfl (by decide) ?_
    refine r_iand 9 18 rfl rfl ?_
    refine r_goto 10 22 rfl rfl ?_
    exact r_iret 12 rfl rfl rfl
theorem ct_X12_at {t : List Sh} {m : Mi} {a0 : Nat} {a1 : Int32} {v : Int32}  (h0 : sh t a0 = some (.inl 12)) (h : f_X12_at t m a0 a1 = some v) : Ct u_X12_at 1 0 0 [.inr (.inr a0), .inl a1] (t, m) (some (.inl v), (t, m)) :=
  ct_of (by decide) tk_X12_at (Nat.le_of_ble_eq_true rfl) (sm_X12_at t m a0 a1 h0) (by rw [h]; rfl) (Nat.le_refl _) (Nat.le_refl _)
def tb_X12_bits : Tb := [(0, (.iconst 0, 1)), (1, (.istore_n 1, 1)), (2, (.iconst 0, 1)), (3, (.istore_n 2, 1)), (4, (.iload_n 2, 1)), (5, (.bipush 7, 2)), (7, (.if_icmp .ge 17, 3)), (10, (.iload_n 1, 1)), (11, (.iload_n 0, 1)), (12, (.iload_n 2, 1)), (13, (.ishr, 1)), (14, (.iconst 1, 1)), (15, (.iand, 1)), (16, (.iadd, 1)), (17, (.istore_n 1, 1)), (18, (.iinc 2 1, 3)), (21, (.goto (-17), 3)), (24, (.iload_n 1, 1)), (25, (.ireturn, 1))]
def u_X12_bits : Fx := (yX12_bits, (cX12_bits, (3, ((some .int), tb_X12_bits))))
theorem tk_X12_bits : ∀ q ∈ u_X12_bits.2.2.2.2, decode u_X12_bits.2.1 q.1 = .ok q.2 := by decide +kernel
theorem mc_X12_bits : MC u_X12_bits 1 := ⟨tbm 1717 (by decide +kernel) rfl, tbm 128 (by decide +kernel) rfl, ⟨by decide, by decide, by decide +kernel⟩, by decide⟩
theorem st_X12_bits : Cond.static u_X12_bits.1 ∈ TB := tbm 1716 (by decide +kernel) rfl
def f_X12_bits_j24 (a1 : Int32) : Option (Int32) :=
  some a1
def f_X12_bits_l4 (a0 : Int32) (a1 : Int32) (a2 : Int32) : Option ((Int32 × Int32) ⊕ ((Int32))) :=
  if 7 ≤ a2 then
    some (.inr a1)
  else
    lt (a1 + ((a0 >>> (a2 &&& 31)) &&& 1)) fun x2 =>
    lt (a2 + 1) fun x3 =>
    some (.inl (x2, x3))
def f_X12_bits_j4 (a0 : Int32) (a1 : Int32) (a2 : Int32) : Option (Int32) :=
  (lp (fun x : Int32 × Int32 => f_X12_bits_l4 a0 x.1 x.2) FUEL (a1, a2)).bind (fun y : Int32 => f_X12_bits_j24 y)
def f_X12_bits (a0 : Int32) : Option (Int32) :=
  f_X12_bits_j4 a0 0 0
set_option maxRecDepth 4000 in
set_option maxHeartbeats 4000000 in
theorem sm_X12_bits (t : List Sh) (m : Mi) (a0 : Int32) : Sm u_X12_bits (1, 0, 0, t.length, zs t) (kIo t m) 0 [(0, .inl a0)] [] (t, m) (f_X12_bits a0) := by
  unfold f_X12_bits
  refine r_iconst 0 1 (v := 0) rfl rfl (by decide) ?_
  refine r_istore_n 1 2 (L' := [(1, .inl 0), (0, .inl a0)]) rfl rfl rfl (by decide) rfl ?_
  refine r_iconst 2 3 (v := 0) rfl rfl (by decide) ?_
  refine r_istore_n 3 4 (L' := [(2, .inl 0), (1, .inl 0), (0, .inl a0)]) rfl rfl rfl (by decide) rfl ?_
  have hj4 : ∀ (a1 : Int32) (a2 : Int32), Sm u_X12_bits (1, 0, 0, t.length, zs t) (kIo t m) 4 [(0, .inl a0), (1, .inl a1), (2, .inl a2)] [] (t, m) (f_X12_bits_j4 a0 a1 a2) := by
    intro a1 a2
    unfold f_X12_bits_j4
    have hj24 : ∀ (a1 : Int32), Sm u_X12_bits (1, 0, 0, t.length, zs t) (kIo t m) 24 [(1, .inl a1)] [] (t, m) (f_X12_bits_j24 a1) := by
      intro a1
      unfold f_X12_bits_j24
      refine r_iload_n 17 25 0 rfl rfl rfl rfl ?_
      exact r_iret 18 rfl rfl rfl
    refine r_lp (Lf := fun x : Int32 × Int32 => [(0, .inl a0), (1, .inl (x.1)), (2, .inl (x.2))]) (Mf := fun x : Int32 × Int32 => (t, m)) (a1, a2) ?_ FUEL
    rintro ⟨a1, a2⟩ κ4 hc4 he4
    refine r_eq (L' := [(0, .inl a0), (1, .inl a1), (2, .inl a2)]) (M' := (t, m)) rfl rfl ?_
    refine r_eqr (r' := f_X12_bits_l4 a0 a1 a2) rfl ?_
    unfold f_X12_bits_l4
    refine r_iload_n 4 5 2 rfl rfl rfl rfl ?_
    refine r_bipush 5 7 (v := 7) rfl rfl (by decide) ?_
    refine r_icmp_ge 6 24 10 rfl rfl rfl (fun h1 => ?_) (fun h1 => ?_)
    · refine r_leaf (r2 := (f_X12_bits_j24 a1 : Option (Int32))) (he4 _) ?_
      exact r_sub [1] rfl (hj24 a1)
    · refine r_iload_n 7 11 1 rfl rfl rfl rfl ?_
      refine r_iload_n 8 12 0 rfl rfl rfl rfl ?_
      refine r_iload_n 9 13 2 rfl rfl rfl rfl ?_
      refine r_ishr 10 14 rfl rfl ?_
      refine r_iconst 11 15 (v := 1) rfl rfl (by decide) ?_
      refine r_iand 12 16 rfl rfl ?_
      refine r_iadd 13 17 rfl rfl ?_
      refine r_ltI (fun x2 => ?_)
      refine r_istore_n 14 18 (L' := [(1, .inl x2), (0, .inl a0), (2, .inl a2)]) rfl rfl rfl (by decide) rfl ?_
      refine r_iinc 15 21 2 (L' := [(2, .inl (a2 + 1)), (1, .inl x2), (0, .inl a0)]) rfl rfl rfl (by decide) rfl ?_
      refine r_ltV (fun x3 => ?_)
      refine r_goto 16 4 rfl rfl ?_
      exact r_sub [2, 1, 0] rfl (hc4 (x2, x3))
  exact r_sub [2, 1, 0] rfl (hj4 0 0)
theorem ct_X12_bits {t : List Sh} {m : Mi} {a0 : Int32} {v : Int32}  (h : f_X12_bits a0 = some v) : Ct u_X12_bits 1 0 0 [.inl a0] (t, m) (some (.inl v), (t, m)) :=
  ct_of (by decide) tk_X12_bits (Nat.le_of_ble_eq_true rfl) (sm_X12_bits t m a0) (by rw [h]; rfl) (Nat.le_refl _) (Nat.le_refl _)
def tb_X12_compare : Tb := [(0, (.iconst 0, 1)), (1, (.istore 4, 2)), (3, (.iload 4, 2)), (5, (.iconst 3, 1)), (6, (.if_icmp .ge 47, 3)), (9, (.aload_n 0, 1)), (10, (.iload_n 1, 1)), (11, (.iload 4, 2)), (13, (.iadd, 1)), (14, (.laload, 1)), (15, (.aload_n 2, 1)), (16, (.iload_n 3, 1)), (17, (.iload 4, 2)), (19, (.iadd, 1)), (20, (.laload, 1)), (21, (.lcmp, 1)), (22, (.ifCond .eq 25, 3)), (25, (.aload_n 0, 1)), (26, (.iload_n 1, 1)), (27, (.iload 4, 2)), (29, (.iadd, 1)), (30, (.laload, 1)), (31, (.aload_n 2, 1)), (32, (.iload_n 3, 1)), (33, (.iload 4, 2)), (35, (.iadd, 1)), (36, (.laload, 1)), (37, (.lcmp, 1)), (38, (.ifCond .ge 7, 3)), (41, (.iconst (-1), 1)), (42, (.goto 4, 3)), (45, (.iconst 1, 1)), (46, (.ireturn, 1)), (47, (.iinc 4 1, 3)), (50, (.goto (-47), 3)), (53, (.aload_n 0, 1)), (54, (.iload_n 1, 1)), (55, (.iconst 3, 1)), (56, (.iadd, 1)), (57, (.laload, 1)), (58, (.lstore 4, 2)), (60, (.aload_n 2, 1)), (61, (.iload_n 3, 1)), (62, (.iconst 3, 1)), (63, (.iadd, 1)), (64, (.laload, 1)), (65, (.lstore 6, 2)), (67, (.lload 4, 2)), (69, (.lconst 0, 1)), (70, (.lcmp, 1)), (71, (.ifCond .eq 10, 3)), (74, (.lload 6, 2)), (76, (.lconst 0, 1)), (77, (.lcmp, 1)), (78, (.ifCond .ne 28, 3)), (81, (.lload 4, 2)), (83, (.lload 6, 2)), (85, (.lcmp, 1)), (86, (.ifCond .ne 7, 3)), (89, (.iconst 0, 1)), (90, (.goto 15, 3)), (93, (.lload 4, 2)), (95, (.lconst 0, 1)), (96, (.lcmp, 1)), (97, (.ifCond .ne 7, 3)), (100, (.iconst 1, 1)), (101, (.goto 4, 3)), (104, (.iconst (-1), 1)), (105, (.ireturn, 1)), (106, (.iconst 0, 1)), (107, (.istore 8, 2)), (109, (.iload 8, 2)), (111, (.iconst 5, 1)), (112, (.if_icmp .ge 115, 3)), (115, (.iload 8, 2)), (117, (.i2l, 1)), (118, (.lload 4, 2)), (120, (.lcmp, 1)), (121, (.ifCond .ge 7, 3)), (124, (.iconst 1, 1)), (125, (.goto 4, 3)), (128, (.iconst 0, 1)), (129, (.istore 9, 2)), (131, (.iload 8, 2)), (133, (.i2l, 1)), (134, (.lload 6, 2)), (136, (.lcmp, 1)), (137, (.ifCond .ge 7, 3)), (140, (.iconst 1, 1)), (141, (.goto 4, 3)), (144, (.iconst 0, 1)), (145, (.istore 10, 2)), (147, (.iload 9, 2)), (149, (.ifCond .eq 8, 3)), (152, (.iload 10, 2)), (154, (.ifCond .ne 25, 3)), (157, (.iload 9, 2)), (159, (.iload 10, 2)), (161, (.if_icmp .ne 7, 3)), (164, (.iconst 0, 1)), (165, (.goto 13, 3)), (168, (.iload 9, 2)), (170, (.ifCond .eq 7, 3)), (173, (.iconst 1, 1)), (174, (.goto 4, 3)), (177, (.iconst (-1), 1)), (178, (.ireturn, 1)), (179, (.aload_n 0, 1)), (180, (.iload_n 1, 1)), (181, (.iconst 4, 1)), (182, (.iadd, 1)), (183, (.iload 8, 2)), (185, (.iadd, 1)), (186, (.laload, 1)), (187, (.lstore 11, 2)), (189, (.aload_n 2, 1)), (190, (.iload_n 3, 1)), (191, (.iconst 4, 1)), (192, (.iadd, 1)), (193, (.iload 8, 2)), (195, (.iadd, 1)), (196, (.laload, 1)), (197, (.lstore 13, 2)), (199, (.lload 11, 2)), (201, (.lload 13, 2)), (203, (.lcmp, 1)), (204, (.ifCond .eq 17, 3)), (207, (.lload 11, 2)), (209, (.lload 13, 2)), (211, (.lcmp, 1)), (212, (.ifCond .ge 7, 3)), (215, (.iconst (-1), 1)), (216, (.goto 4, 3)), (219, (.iconst 1, 1)), (220, (.ireturn, 1)), (221, (.iinc 8 1, 3)), (224, (.goto (-115), 3)), (227, (.iconst 0, 1)), (228, (.ireturn, 1))]
def u_X12_compare : Fx := (yX12_compare, (cX12_compare, (15, ((some .int), tb_X12_compare))))
theorem tk_X12_compare : ∀ q ∈ u_X12_compare.2.2.2.2, decode u_X12_compare.2.1 q.1 = .ok q.2 := by decide +kernel
theorem mc_X12_compare : MC u_X12_compare 4 := ⟨tbm 1605 (by decide +kernel) rfl, tbm 128 (by decide +kernel) rfl, ⟨by decide, by decide, by decide +kernel⟩, by decide⟩
theorem st_X12_compare : Cond.static u_X12_compare.1 ∈ TB := tbm 1604 (by decide +kernel) rfl
def f_X12_compare_j25 (t : List Sh) (m : Mi) (a0 : Nat) (a1 : Int32) (a2 : Nat) (a3 : Int32) (a4 : Int32) : Option (Int32) :=
  (if ar t a0 .long (a1 + a4) = true then
  (if ar t a2 .long (a3 + a4) = true then
  if 0 ≤ (lg_cmp (gl m a0 (ix (a1 + a4))) (gl m a2 (ix (a3 + a4)))) then
    some 1
  else
    some (-1)
  else none)
  else none)
def f_X12_compare_j81 (t : List Sh) (m : Mi) (a4 : Int64) (a6 : Int64) : Option (Int32) :=
  if (lg_cmp a4 a6) = 0 then
    some 0
  else
    if (lg_cmp a4 0) = 0 then
      some 1
    else
      some (-1)
def f_X12_compare_j157 (t : List Sh) (m : Mi) (a9 : Int32) (a10 : Int32) : Option (Int32) :=
  if a9 = a10 then
    some 0
  else
    if a9 = 0 then
      some (-1)
    else
      some 1
def f_X12_compare_j207 (t : List Sh) (m : Mi) (a11 : Int64) (a13 : Int64) : Option (Int32) :=
  if 0 ≤ (lg_cmp a11 a13) then
    some 1
  else
    some (-1)
def f_X12_compare_j227 (t : List Sh) (m : Mi) : Option (Int32) :=
  some 0
def f_X12_compare_j145 (t : List Sh) (m : Mi) (a0 : Nat) (a1 : Int32) (a2 : Nat) (a3 : Int32) (a4 : Int64) (a6 : Int64) (a8 : Int32) (a9 : Int32) (s0 : Int32) : Option ((Int32) ⊕ (((Unit) ⊕ ((Int32 × Int32) ⊕ (Int64 × Int64))))) :=
  if a9 = 0 then
    some (.inr (.inr (.inl (a9, s0))))
  else
    if s0 = 0 then
      some (.inr (.inr (.inl (a9, s0))))
    else
      (if ar t a0 .long ((a1 + 4) + a8) = true then
      lt (gl m a0 (ix ((a1 + 4) + a8))) fun x19 =>
      (if ar t a2 .long ((a3 + 4) + a8) = true then
      lt (gl m a2 (ix ((a3 + 4) + a8))) fun x21 =>
      if (lg_cmp x19 x21) = 0 then
        lt (a8 + 1) fun x23 =>
        some (.inl x23)
      else
        some (.inr (.inr (.inr (x19, x21))))
      else none)
      else none)
def f_X12_compare_j129 (t : List Sh) (m : Mi) (a0 : Nat) (a1 : Int32) (a2 : Nat) (a3 : Int32) (a4 : Int64) (a6 : Int64) (a8 : Int32) (s0 : Int32) : Option ((Int32) ⊕ (((Unit) ⊕ ((Int32 × Int32) ⊕ (Int64 × Int64))))) :=
  if 0 ≤ (lg_cmp (Int32.toInt64 a8) a6) then
    f_X12_compare_j145 t m a0 a1 a2 a3 a4 a6 a8 s0 0
  else
    f_X12_compare_j145 t m a0 a1 a2 a3 a4 a6 a8 s0 1
def f_X12_compare_l109 (t : List Sh) (m : Mi) (a0 : Nat) (a1 : Int32) (a2 : Nat) (a3 : Int32) (a4 : Int64) (a6 : Int64) (a8 : Int32) : Option ((Int32) ⊕ (((Unit) ⊕ ((Int32 × Int32) ⊕ (Int64 × Int64))))) :=
  if 5 ≤ a8 then
    some (.inr (.inl ()))
  else
    if 0 ≤ (lg_cmp (Int32.toInt64 a8) a4) then
      f_X12_compare_j129 t m a0 a1 a2 a3 a4 a6 a8 0
    else
      f_X12_compare_j129 t m a0 a1 a2 a3 a4 a6 a8 1
def f_X12_compare_j109 (t : List Sh) (m : Mi) (a0 : Nat) (a1 : Int32) (a2 : Nat) (a3 : Int32) (a4 : Int64) (a6 : Int64) (a8 : Int32) : Option (Int32) :=
  (lp (fun x : Int32 => f_X12_compare_l109 t m a0 a1 a2 a3 a4 a6 x) FUEL a8).bind (Sum.elim (fun y : Unit => f_X12_compare_j227 t m) (Sum.elim (fun y : Int32 × Int32 => f_X12_compare_j157 t m (y.1) (y.2)) (fun y : Int64 × Int64 => f_X12_compare_j207 t m (y.1) (y.2))))
def f_X12_compare_j53 (t : List Sh) (m : Mi) (a0 : Nat) (a1 : Int32) (a2 : Nat) (a3 : Int32) : Option (Int32) :=
  (if ar t a0 .long (a1 + 3) = true then
  lt (gl m a0 (ix (a1 + 3))) fun x5 =>
  (if ar t a2 .long (a3 + 3) = true then
  lt (gl m a2 (ix (a3 + 3))) fun x7 =>
  if (lg_cmp x5 0) = 0 then
    f_X12_compare_j81 t m x5 x7
  else
    if (lg_cmp x7 0) = 0 then
      f_X12_compare_j81 t m x5 x7
    else
      f_X12_compare_j109 t m a0 a1 a2 a3 x5 x7 0
  else none)
  else none)
def f_X12_compare_l3 (t : List Sh) (m : Mi) (a0 : Nat) (a1 : Int32) (a2 : Nat) (a3 : Int32) (a4 : Int32) : Option ((Int32) ⊕ ((Unit) ⊕ (Int32))) :=
  if 3 ≤ a4 then
    some (.inr (.inl ()))
  else
    (if ar t a0 .long (a1 + a4) = true then
    (if ar t a2 .long (a3 + a4) = true then
    if (lg_cmp (gl m a0 (ix (a1 + a4))) (gl m a2 (ix (a3 + a4)))) = 0 then
      lt (a4 + 1) fun x30 =>
      some (.inl x30)
    else
      some (.inr (.inr a4))
    else none)
    else none)
def f_X12_compare_j3 (t : List Sh) (m : Mi) (a0 : Nat) (a1 : Int32) (a2 : Nat) (a3 : Int32) (a4 : Int32) : Option (Int32) :=
  (lp (fun x : Int32 => f_X12_compare_l3 t m a0 a1 a2 a3 x) FUEL a4).bind (Sum.elim (fun y : Unit => f_X12_compare_j53 t m a0 a1 a2 a3) (fun y : Int32 => f_X12_compare_j25 t m a0 a1 a2 a3 y))
def f_X12_compare (t : List Sh) (m : Mi) (a0 : Nat) (a1 : Int32) (a2 : Nat) (a3 : Int32) : Option (Int32) :=
  f_X12_compare_j3 t m a0 a1 a2 a3 0
set_option maxRecDepth 4000 in
set_option maxHeartbeats 4000000 in
theorem sm_X12_compare (t : List Sh) (m : Mi) (a0 : Nat) (a1 : Int32) (a2 : Nat) (a3 : Int32) : Sm u_X12_compare (1, 0, 0, t.length, zs t) (kIo t m) 0 [(0, .inr (.inr a0)), (1, .inl a1), (2, .inr (.inr a2)), (3, .inl a3)] [] (t, m) (f_X12_compare t m a0 a1 a2 a3) := by
  unfold f_X12_compare
  refine r_iconst 0 1 (v := 0) rfl rfl (by decide) ?_
  refine r_istore 1 3 (L' := [(4, .inl 0), (0, .inr (.inr a0)), (1, .inl a1), (2, .inr (.inr a2)), (3, .inl a3)]) rfl rfl (by decide) rfl ?_
  have hj3 : ∀ (a4 : Int32), Sm u_X12_compare (1, 0, 0, t.length, zs t) (kIo t m) 3 [(0, .inr (.inr a0)), (1, .inl a1), (2, .inr (.inr a2)), (3, .inl a3), (4, .inl a4)] [] (t, m) (f_X12_compare_j3 t m a0 a1 a2 a3 a4) := by
    intro a4
    unfold f_X12_compare_j3
    have hj25 : ∀ (a4 : Int32), Sm u_X12_compare (1, 0, 0, t.length, zs t) (kIo t m) 25 [(0, .inr (.inr a0)), (1, .inl a1), (2, .inr (.inr a2)), (3, .inl a3), (4, .inl a4)] [] (t, m) (f_X12_compare_j25 t m a0 a1 a2 a3 a4) := by
      intro a4
      unfold f_X12_compare_j25
      refine r_aload_n 17 26 0 rfl rfl rfl rfl ?_
      refine r_iload_n 18 27 1 rfl rfl rfl rfl ?_
      refine r_iload 19 29 4 rfl rfl rfl ?_
      refine r_iadd 20 30 rfl rfl ?_
      refine r_gd (fun h1 => ?_)
      refine r_lald 21 31 rfl rfl h1 ?_
      refine r_aload_n 22 32 2 rfl rfl rfl rfl ?_
      refine r_iload_n 23 33 3 rfl rfl rfl rfl ?_
      refine r_iload 24 35 4 rfl rfl rfl ?_
      refine r_iadd 25 36 rfl rfl ?_
      refine r_gd (fun h2 => ?_)
      refine r_lald 26 37 rfl rfl h2 ?_
      refine r_lcmp 27 38 rfl rfl ?_
      refine r_if_ge 28 45 41 rfl rfl rfl (fun h3 => ?_) (fun h3 => ?_)
      · refine r_iconst 31 46 (v := 1) rfl rfl (by decide) ?_
        exact r_iret 32 rfl rfl rfl
      · refine r_iconst 29 42 (v := (-1)) rfl rfl (by decide) ?_
        refine r_goto 30 46 rfl rfl ?_
        exact r_iret 32 rfl rfl rfl
    have hj53 : Sm u_X12_compare (1, 0, 0, t.length, zs t) (kIo t m) 53 [(0, .inr (.inr a0)), (1, .inl a1), (2, .inr (.inr a2)), (3, .inl a3)] [] (t, m) (f_X12_compare_j53 t m a0 a1 a2 a3) := by
      unfold f_X12_compare_j53
      refine r_aload_n 35 54 0 rfl rfl rfl rfl ?_
      refine r_iload_n 36 55 1 rfl rfl rfl rfl ?_
      refine r_iconst 37 56 (v := 3) rfl rfl (by decide) ?_
      refine r_iadd 38 57 rfl rfl ?_
      refine r_gd (fun h4 => ?_)
      refine r_lald 39 58 rfl rfl h4 ?_
      refine r_ltL (fun x5 => ?_)
      refine r_lstore 40 60 (L' := [(4, .inr (.inl x5)), (0, .inr (.inr a0)), (1, .inl a1), (2, .inr (.inr a2)), (3, .inl a3)]) rfl rfl (by decide) rfl ?_
      refine r_aload_n 41 61 3 rfl rfl rfl rfl ?_
      refine r_iload_n 42 62 4 rfl rfl rfl rfl ?_
      refine r_iconst 43 63 (v := 3) rfl rfl (by decide) ?_
      refine r_iadd 44 64 rfl rfl ?_
      refine r_gd (fun h6 => ?_)
      refine r_lald 45 65 rfl rfl h6 ?_
      refine r_ltL (fun x7 => ?_)
      refine r_lstore 46 67 (L' := [(6, .inr (.inl x7)), (4, .inr (.inl x5)), (0, .inr (.inr a0)), (1, .inl a1), (2, .inr (.inr a2)), (3, .inl a3)]) rfl rfl (by decide) rfl ?_
      refine r_lload 47 69 1 rfl rfl rfl ?_
      refine r_lconst 48 70 (v := 0) rfl rfl (by decide) ?_
      refine r_lcmp 49 71 rfl rfl ?_
      have hj81 : ∀ (a4 : Int64) (a6 : Int64), Sm u_X12_compare (1, 0, 0, t.length, zs t) (kIo t m) 81 [(4, .inr (.inl a4)), (6, .inr (.inl a6))] [] (t, m) (f_X12_compare_j81 t m a4 a6) := by
        intro a4 a6
        unfold f_X12_compare_j81
        refine r_lload 55 83 0 rfl rfl rfl ?_
        refine r_lload 56 85 1 rfl rfl rfl ?_
        refine r_lcmp 57 86 rfl rfl ?_
        refine r_if_ne 58 93 89 rfl rfl rfl (fun h8 => ?_) (fun h8 => ?_)
        · refine r_iconst 59 90 (v := 0) rfl rfl (by decide) ?_
          refine r_goto 60 105 rfl rfl ?_
          exact r_iret 68 rfl rfl rfl
        · refine r_lload 61 95 0 rfl rfl rfl ?_
          refine r_lconst 62 96 (v := 0) rfl rfl (by decide) ?_
          refine r_lcmp 63 97 rfl rfl ?_
          refine r_if_ne 64 104 100 rfl rfl rfl (fun h9 => ?_) (fun h9 => ?_)
          · refine r_iconst 65 101 (v := 1) rfl rfl (by decide) ?_
            refine r_goto 66 105 rfl rfl ?_
            exact r_iret 68 rfl rfl rfl
          · refine r_iconst 67 105 (v := (-1)) rfl rfl (by decide) ?_
            exact r_iret 68 rfl rfl rfl
      refine r_if_eq 50 81 74 rfl rfl rfl (fun h10 => ?_) (fun h10 => ?_)
      · exact r_sub [1, 0] rfl (hj81 x5 x7)
      · refine r_lload 51 76 0 rfl rfl rfl ?_
        refine r_lconst 52 77 (v := 0) rfl rfl (by decide) ?_
        refine r_lcmp 53 78 rfl rfl ?_
        refine r_if_ne 54 106 81 rfl rfl rfl (fun h11 => ?_) (fun h11 => ?_)
        · exact r_sub [1, 0] rfl (hj81 x5 x7)
        · refine r_iconst 69 107 (v := 0) rfl rfl (by decide) ?_
          refine r_istore 70 109 (L' := [(8, .inl 0), (6, .inr (.inl x7)), (4, .inr (.inl x5)), (0, .inr (.inr a0)), (1, .inl a1), (2, .inr (.inr a2)), (3, .inl a3)]) rfl rfl (by decide) rfl ?_
          have hj109 : ∀ (a4 : Int64) (a6 : Int64) (a8 : Int32), Sm u_X12_compare (1, 0, 0, t.length, zs t) (kIo t m) 109 [(0, .inr (.inr a0)), (1, .inl a1), (2, .inr (.inr a2)), (3, .inl a3), (4, .inr (.inl a4)), (6, .inr (.inl a6)), (8, .inl a8)] [] (t, m) (f_X12_compare_j109 t m a0 a1 a2 a3 a4 a6 a8) := by
            intro a4 a6 a8
            unfold f_X12_compare_j109
            have hj157 : ∀ (a9 : Int32) (a10 : Int32), Sm u_X12_compare (1, 0, 0, t.length, zs t) (kIo t m) 157 [(9, .inl a9), (10, .inl a10)] [] (t, m) (f_X12_compare_j157 t m a9 a10) := by
              intro a9 a10
              unfold f_X12_compare_j157
              refine r_iload 96 159 0 rfl rfl rfl ?_
              refine r_iload 97 161 1 rfl rfl rfl ?_
              refine r_icmp_ne 98 168 164 rfl rfl rfl (fun h12 => ?_) (fun h12 => ?_)
              · refine r_iconst 99 165 (v := 0) rfl rfl (by decide) ?_
                refine r_goto 100 178 rfl rfl ?_
                exact r_iret 106 rfl rfl rfl
              · refine r_iload 101 170 0 rfl rfl rfl ?_
                refine r_if_eq 102 177 173 rfl rfl rfl (fun h13 => ?_) (fun h13 => ?_)
                · refine r_iconst 105 178 (v := (-1)) rfl rfl (by decide) ?_
                  exact r_iret 106 rfl rfl rfl
                · refine r_iconst 103 174 (v := 1) rfl rfl (by decide) ?_
                  refine r_goto 104 178 rfl rfl ?_
                  exact r_iret 106 rfl rfl rfl
            have hj207 : ∀ (a11 : Int64) (a13 : Int64), Sm u_X12_compare (1, 0, 0, t.length, zs t) (kIo t m) 207 [(11, .inr (.inl a11)), (13, .inr (.inl a13))] [] (t, m) (f_X12_compare_j207 t m a11 a13) := by
              intro a11 a13
              unfold f_X12_compare_j207
              refine r_lload 127 209 0 rfl rfl rfl ?_
              refine r_lload 128 211 1 rfl rfl rfl ?_
              refine r_lcmp 129 212 rfl rfl ?_
              refine r_if_ge 130 219 215 rfl rfl rfl (fun h14 => ?_) (fun h14 => ?_)
              · refine r_iconst 133 220 (v := 1) rfl rfl (by decide) ?_
                exact r_iret 134 rfl rfl rfl
              · refine r_iconst 131 216 (v := (-1)) rfl rfl (by decide) ?_
                refine r_goto 132 220 rfl rfl ?_
                exact r_iret 134 rfl rfl rfl
            have hj227 : Sm u_X12_compare (1, 0, 0, t.length, zs t) (kIo t m) 227 [] [] (t, m) (f_X12_compare_j227 t m) := by
              unfold f_X12_compare_j227
              refine r_iconst 137 228 (v := 0) rfl rfl (by decide) ?_
              exact r_iret 138 rfl rfl rfl
            refine r_lp (Lf := fun x : Int32 => [(0, .inr (.inr a0)), (1, .inl a1), (2, .inr (.inr a2)), (3, .inl a3), (4, .inr (.inl a4)), (6, .inr (.inl a6)), (8, .inl x)]) (Mf := fun x : Int32 => (t, m)) a8 ?_ FUEL
            rintro a8 κ109 hc109 he109
            refine r_eq (L' := [(0, .inr (.inr a0)), (1, .inl a1), (2, .inr (.inr a2)), (3, .inl a3), (4, .inr (.inl a4)), (6, .inr (.inl a6)), (8, .inl a8)]) (M' := (t, m)) rfl rfl ?_
            refine r_eqr (r' := f_X12_compare_l109 t m a0 a1 a2 a3 a4 a6 a8) rfl ?_
            unfold f_X12_compare_l109
            refine r_iload 71 111 6 rfl rfl rfl ?_
            refine r_iconst 72 112 (v := 5) rfl rfl (by decide) ?_
            refine r_icmp_ge 73 227 115 rfl rfl rfl (fun h15 => ?_) (fun h15 => ?_)
            · refine r_leaf (r2 := (f_X12_compare_j227 t m : Option (Int32))) (he109 _) ?_
              exact r_sub [] rfl (hj227)
            · refine r_iload 74 117 6 rfl rfl rfl ?_
              refine r_i2l 75 118 rfl rfl ?_
              refine r_lload 76 120 4 rfl rfl rfl ?_
              refine r_lcmp 77 121 rfl rfl ?_
              have hj129 : ∀ (a8 : Int32) (s0 : Int32), Sm u_X12_compare (1, 0, 0, t.length, zs t) κ109 129 [(0, .inr (.inr a0)), (1, .inl a1), (2, .inr (.inr a2)), (3, .inl a3), (4, .inr (.inl a4)), (6, .inr (.inl a6)), (8, .inl a8)] [.inl s0] (t, m) (f_X12_compare_j129 t m a0 a1 a2 a3 a4 a6 a8 s0) := by
                intro a8 s0
                unfold f_X12_compare_j129
                refine r_istore 82 131 (L' := [(9, .inl s0), (0, .inr (.inr a0)), (1, .inl a1), (2, .inr (.inr a2)), (3, .inl a3), (4, .inr (.inl a4)), (6, .inr (.inl a6)), (8, .inl a8)]) rfl rfl (by decide) rfl ?_
                refine r_iload 83 133 7 rfl rfl rfl ?_
                refine r_i2l 84 134 rfl rfl ?_
                refine r_lload 85 136 6 rfl rfl rfl ?_
                refine r_lcmp 86 137 rfl rfl ?_
                have hj145 : ∀ (a8 : Int32) (a9 : Int32) (s0 : Int32), Sm u_X12_compare (1, 0, 0, t.length, zs t) κ109 145 [(0, .inr (.inr a0)), (1, .inl a1), (2, .inr (.inr a2)), (3, .inl a3), (4, .inr (.inl a4)), (6, .inr (.inl a6)), (8, .inl a8), (9, .inl a9)] [.inl s0] (t, m) (f_X12_compare_j145 t m a0 a1 a2 a3 a4 a6 a8 a9 s0) := by
                  intro a8 a9 s0
                  unfold f_X12_compare_j145
                  refine r_istore 91 147 (L' := [(10, .inl s0), (0, .inr (.inr a0)), (1, .inl a1), (2, .inr (.inr a2)), (3, .inl a3), (4, .inr (.inl a4)), (6, .inr (.inl a6)), (8, .inl a8), (9, .inl a9)]) rfl rfl (by decide) rfl ?_
                  refine r_iload 92 149 8 rfl rfl rfl ?_
                  refine r_if_eq 93 157 152 rfl rfl rfl (fun h16 => ?_) (fun h16 => ?_)
                  · refine r_leaf (r2 := (f_X12_compare_j157 t m a9 s0 : Option (Int32))) (he109 _) ?_
                    exact r_sub [8, 0] rfl (hj157 a9 s0)
                  · refine r_iload 94 154 0 rfl rfl rfl ?_
                    refine r_if_ne 95 179 157 rfl rfl rfl (fun h17 => ?_) (fun h17 => ?_)
                    · refine r_leaf (r2 := (f_X12_compare_j157 t m a9 s0 : Option (Int32))) (he109 _) ?_
                      exact r_sub [8, 0] rfl (hj157 a9 s0)
                    · refine r_aload_n 107 180 1 rfl rfl rfl rfl ?_
                      refine r_iload_n 108 181 2 rfl rfl rfl rfl ?_
                      refine r_iconst 109 182 (v := 4) rfl rfl (by decide) ?_
                      refine r_iadd 110 183 rfl rfl ?_
                      refine r_iload 111 185 7 rfl rfl rfl ?_
                      refine r_iadd 112 186 rfl rfl ?_
                      refine r_gd (fun h18 => ?_)
                      refine r_lald 113 187 rfl rfl h18 ?_
                      refine r_ltL (fun x19 => ?_)
                      refine r_lstore 114 189 (L' := [(11, .inr (.inl x19)), (10, .inl s0), (0, .inr (.inr a0)), (1, .inl a1), (2, .inr (.inr a2)), (3, .inl a3), (4, .inr (.inl a4)), (6, .inr (.inl a6)), (8, .inl a8), (9, .inl a9)]) rfl rfl (by decide) rfl ?_
                      refine r_aload_n 115 190 4 rfl rfl rfl rfl ?_
                      refine r_iload_n 116 191 5 rfl rfl rfl rfl ?_
                      refine r_iconst 117 192 (v := 4) rfl rfl (by decide) ?_
                      refine r_iadd 118 193 rfl rfl ?_
                      refine r_iload 119 195 8 rfl rfl rfl ?_
                      refine r_iadd 120 196 rfl rfl ?_
                      refine r_gd (fun h20 => ?_)
                      refine r_lald 121 197 rfl rfl h20 ?_
                      refine r_ltL (fun x21 => ?_)
                      refine r_lstore 122 199 (L' := [(13, .inr (.inl x21)), (11, .inr (.inl x19)), (10, .inl s0), (0, .inr (.inr a0)), (1, .inl a1), (2, .inr (.inr a2)), (3, .inl a3), (4, .inr (.inl a4)), (6, .inr (.inl a6)), (8, .inl a8), (9, .inl a9)]) rfl rfl (by decide) rfl ?_
                      refine r_lload 123 201 1 rfl rfl rfl ?_
                      refine r_lload 124 203 0 rfl rfl rfl ?_
                      refine r_lcmp 125 204 rfl rfl ?_
                      refine r_if_eq 126 221 207 rfl rfl rfl (fun h22 => ?_) (fun h22 => ?_)
                      · refine r_iinc 135 224 9 (L' := [(8, .inl (a8 + 1)), (13, .inr (.inl x21)), (11, .inr (.inl x19)), (10, .inl s0), (0, .inr (.inr a0)), (1, .inl a1), (2, .inr (.inr a2)), (3, .inl a3), (4, .inr (.inl a4)), (6, .inr (.inl a6)), (9, .inl a9)]) rfl rfl rfl (by decide) rfl ?_
                        refine r_ltV (fun x23 => ?_)
                        refine r_goto 136 109 rfl rfl ?_
                        exact r_sub [4, 5, 6, 7, 8, 9, 0] rfl (hc109 x23)
                      · refine r_leaf (r2 := (f_X12_compare_j207 t m x19 x21 : Option (Int32))) (he109 _) ?_
                        exact r_sub [1, 0] rfl (hj207 x19 x21)
                refine r_if_ge 87 144 140 rfl rfl rfl (fun h24 => ?_) (fun h24 => ?_)
                · refine r_iconst 90 145 (v := 0) rfl rfl (by decide) ?_
                  exact r_sub [1, 2, 3, 4, 5, 6, 7, 0] rfl (hj145 a8 s0 0)
                · refine r_iconst 88 141 (v := 1) rfl rfl (by decide) ?_
                  refine r_goto 89 145 rfl rfl ?_
                  exact r_sub [1, 2, 3, 4, 5, 6, 7, 0] rfl (hj145 a8 s0 1)
              refine r_if_ge 78 128 124 rfl rfl rfl (fun h25 => ?_) (fun h25 => ?_)
              · refine r_iconst 81 129 (v := 0) rfl rfl (by decide) ?_
                exact hj129 a8 0
              · refine r_iconst 79 125 (v := 1) rfl rfl (by decide) ?_
                refine r_goto 80 129 rfl rfl ?_
                exact hj129 a8 1
          exact r_sub [3, 4, 5, 6, 2, 1, 0] rfl (hj109 x5 x7 0)
    refine r_lp (Lf := fun x : Int32 => [(0, .inr (.inr a0)), (1, .inl a1), (2, .inr (.inr a2)), (3, .inl a3), (4, .inl x)]) (Mf := fun x : Int32 => (t, m)) a4 ?_ FUEL
    rintro a4 κ3 hc3 he3
    refine r_eq (L' := [(0, .inr (.inr a0)), (1, .inl a1), (2, .inr (.inr a2)), (3, .inl a3), (4, .inl a4)]) (M' := (t, m)) rfl rfl ?_
    refine r_eqr (r' := f_X12_compare_l3 t m a0 a1 a2 a3 a4) rfl ?_
    unfold f_X12_compare_l3
    refine r_iload 2 5 4 rfl rfl rfl ?_
    refine r_iconst 3 6 (v := 3) rfl rfl (by decide) ?_
    refine r_icmp_ge 4 53 9 rfl rfl rfl (fun h26 => ?_) (fun h26 => ?_)
    · refine r_leaf (r2 := (f_X12_compare_j53 t m a0 a1 a2 a3 : Option (Int32))) (he3 _) ?_
      exact r_sub [0, 1, 2, 3] rfl (hj53)
    · refine r_aload_n 5 10 0 rfl rfl rfl rfl ?_
      refine r_iload_n 6 11 1 rfl rfl rfl rfl ?_
      refine r_iload 7 13 4 rfl rfl rfl ?_
      refine r_iadd 8 14 rfl rfl ?_
      refine r_gd (fun h27 => ?_)
      refine r_lald 9 15 rfl rfl h27 ?_
      refine r_aload_n 10 16 2 rfl rfl rfl rfl ?_
      refine r_iload_n 11 17 3 rfl rfl rfl rfl ?_
      refine r_iload 12 19 4 rfl rfl rfl ?_
      refine r_iadd 13 20 rfl rfl ?_
      refine r_gd (fun h28 => ?_)
      refine r_lald 14 21 rfl rfl h28 ?_
      refine r_lcmp 15 22 rfl rfl ?_
      refine r_if_eq 16 47 25 rfl rfl rfl (fun h29 => ?_) (fun h29 => ?_)
      · refine r_iinc 33 50 4 (L' := [(4, .inl (a4 + 1)), (0, .inr (.inr a0)), (1, .inl a1), (2, .inr (.inr a2)), (3, .inl a3)]) rfl rfl rfl (by decide) rfl ?_
        refine r_ltV (fun x30 => ?_)
        refine r_goto 34 3 rfl rfl ?_
        exact r_sub [1, 2, 3, 4, 0] rfl (hc3 x30)
      · refine r_leaf (r2 := (f_X12_compare_j25 t m a0 a1 a2 a3 a4 : Option (Int32))) (he3 _) ?_
        exact hj25 a4
  exact r_sub [1, 2, 3, 4, 0] rfl (hj3 0)
theorem ct_X12_compare {t : List Sh} {m : Mi} {a0 : Nat} {a1 : Int32} {a2 : Nat} {a3 : Int32} {v : Int32}  (h : f_X12_compare t m a0 a1 a2 a3 = some v) : Ct u_X12_compare 1 0 0 [.inr (.inr a0), .inl a1, .inr (.inr a2), .inl a3] (t, m) (some (.inl v), (t, m)) :=
  ct_of (by decide) tk_X12_compare (Nat.le_of_ble_eq_true rfl) (sm_X12_compare t m a0 a1 a2 a3) (by rw [h]; rfl) (Nat.le_refl _) (Nat.le_refl _)
theorem fl_RX12_49 : FL RX12 49 12 25 true := ⟨RX12, TX12, 61, rfl, inW12, tyX12_ok, nmX12, by decide, rfl, rfl, rfl, tbm 1352 (by decide +kernel) rfl⟩
theorem fl_RX12_326 : FL RX12 326 12 21 false := ⟨RX12, TX12, 61, rfl, inW12, tyX12_ok, nmX12, by decide, rfl, rfl, rfl, tbm 1348 (by decide +kernel) rfl⟩
theorem fl_RX12_52 : FL RX12 52 12 26 true := ⟨RX12, TX12, 61, rfl, inW12, tyX12_ok, nmX12, by decide, rfl, rfl, rfl, tbm 1353 (by decide +kernel) rfl⟩
def tb_X12_constraints : Tb := [(0, (.aload_n 0, 1)), (1, (.getfield 49, 3)), (4, (.aload_n 0, 1)), (5, (.getfield 326, 3)), (8, (.iaload, 1)), (9, (.aload_n 0, 1)), (10, (.getfield 52, 3)), (13, (.aload_n 0, 1)), (14, (.getfield 326, 3)), (17, (.iaload, 1)), (18, (.iadd, 1)), (19, (.ireturn, 1))]
def u_X12_constraints : Fx := (yX12_constraints, (cX12_constraints, (1, ((some .int), tb_X12_constraints))))
theorem tk_X12_constraints : ∀ q ∈ u_X12_constraints.2.2.2.2, decode u_X12_constraints.2.1 q.1 = .ok q.2 := by decide +kernel
theorem mc_X12_constraints : MC u_X12_constraints 0 := ⟨tbm 1671 (by decide +kernel) rfl, tbm 128 (by decide +kernel) rfl, ⟨by decide, by decide, by decide +kernel⟩, by decide⟩
theorem in_X12_constraints : Cond.instanceMethod u_X12_constraints.1 ∈ TB ∧ Cond.selects u_X12_constraints.1.cls u_X12_constraints.1 u_X12_constraints.1 ∈ TB := ⟨tbm 1670 (by decide +kernel) rfl, tbm 92 (by decide +kernel) rfl⟩
def f_X12_constraints (t : List Sh) (m : Mi) (a0 : Nat) : Option (Int32) :=
  (if ar t (gr m a0 25) .int (gi m a0 21) = true then
  (if ar t (gr m a0 26) .int (gi m a0 21) = true then
  some ((gi m (gr m a0 25) (ix (gi m a0 21))) + (gi m (gr m a0 26) (ix (gi m a0 21))))
  else none)
  else none)
set_option maxRecDepth 4000 in
set_option maxHeartbeats 4000000 in
theorem sm_X12_constraints (t : List Sh) (m : Mi) (a0 : Nat) (h0 : sh t a0 = some (.inl 12)) : Sm u_X12_constraints (1, 0, 0, t.length, zs t) (kIo t m) 0 [(0, .inr (.inr a0))] [] (t, m) (f_X12_constraints t m a0) := by
  unfold f_X12_constraints
  refine r_aload_n 0 1 0 rfl rfl rfl rfl ?_
  refine r_getR 1 4 rfl rfl fl_RX12_49 rfl h0 ?_
  refine r_aload_n 2 5 0 rfl rfl rfl rfl ?_
  refine r_getI 3 8 rfl rfl fl_RX12_326 rfl h0 ?_
  refine r_gd (fun h1 => ?_)
  refine r_iald 4 9 rfl rfl h1 ?_
  refine r_aload_n 5 10 0 rfl rfl rfl rfl ?_
  refine r_getR 6 13 rfl rfl fl_RX12_52 rfl h0 ?_
  refine r_aload_n 7 14 0 rfl rfl rfl rfl ?_
  refine r_getI 8 17 rfl rfl fl_RX12_326 rfl h0 ?_
  refine r_gd (fun h2 => ?_)
  refine r_iald 9 18 rfl rfl h2 ?_
  refine r_iadd 10 19 rfl rfl ?_
  exact r_iret 11 rfl rfl rfl
theorem ct_X12_constraints {t : List Sh} {m : Mi} {a0 : Nat} {v : Int32}  (h0 : sh t a0 = some (.inl 12)) (h : f_X12_constraints t m a0 = some v) : Ct u_X12_constraints 1 0 0 [.inr (.inr a0)] (t, m) (some (.inl v), (t, m)) :=
  ct_of (by decide) tk_X12_constraints (Nat.le_of_ble_eq_true rfl) (sm_X12_constraints t m a0 h0) (by rw [h]; rfl) (Nat.le_refl _) (Nat.le_refl _)
def tb_X12_copy : Tb := [(0, (.iconst 0, 1)), (1, (.istore 4, 2)), (3, (.iload 4, 2)), (5, (.bipush 9, 2)), (7, (.if_icmp .ge 21, 3)), (10, (.aload_n 0, 1)), (11, (.iload_n 1, 1)), (12, (.iload 4, 2)), (14, (.iadd, 1)), (15, (.aload_n 2, 1)), (16, (.iload_n 3, 1)), (17, (.iload 4, 2)), (19, (.iadd, 1)), (20, (.laload, 1)), (21, (.lastore, 1)), (22, (.iinc 4 1, 3)), (25, (.goto (-22), 3)), (28, (.return_, 1))]
def u_X12_copy : Fx := (yX12_copy, (cX12_copy, (5, (none, tb_X12_copy))))
theorem tk_X12_copy : ∀ q ∈ u_X12_copy.2.2.2.2, decode u_X12_copy.2.1 q.1 = .ok q.2 := by decide +kernel
theorem mc_X12_copy : MC u_X12_copy 4 := ⟨tbm 1595 (by decide +kernel) rfl, tbm 128 (by decide +kernel) rfl, ⟨by decide, by decide, by decide +kernel⟩, by decide⟩
theorem st_X12_copy : Cond.static u_X12_copy.1 ∈ TB := tbm 1594 (by decide +kernel) rfl
def f_X12_copy_j28 (t : List Sh) (m : Mi) : Option (Mi) :=
  some m
def f_X12_copy_l3 (t : List Sh) (m : Mi) (a0 : Nat) (a1 : Int32) (a2 : Nat) (a3 : Int32) (a4 : Int32) : Option ((Int32 × Mi) ⊕ ((Mi))) :=
  if 9 ≤ a4 then
    some (.inr m)
  else
    (if ar t a2 .long (a3 + a4) = true then
    (if ar t a0 .long (a1 + a4) = true then
    lt (sl m a0 (ix (a1 + a4)) (gl m a2 (ix (a3 + a4)))) fun m4 =>
    lt (a4 + 1) fun x5 =>
    some (.inl (x5, m4))
    else none)
    else none)
def f_X12_copy_j3 (t : List Sh) (m : Mi) (a0 : Nat) (a1 : Int32) (a2 : Nat) (a3 : Int32) (a4 : Int32) : Option (Mi) :=
  (lp (fun x : Int32 × Mi => f_X12_copy_l3 t x.2 a0 a1 a2 a3 x.1) FUEL (a4, m)).bind (fun y : Mi => f_X12_copy_j28 t y)
def f_X12_copy (t : List Sh) (m : Mi) (a0 : Nat) (a1 : Int32) (a2 : Nat) (a3 : Int32) : Option (Mi) :=
  f_X12_copy_j3 t m a0 a1 a2 a3 0
set_option maxRecDepth 4000 in
set_option maxHeartbeats 4000000 in
theorem sm_X12_copy (t : List Sh) (m : Mi) (a0 : Nat) (a1 : Int32) (a2 : Nat) (a3 : Int32) : Sm u_X12_copy (1, 0, 0, t.length, zs t) (kV t) 0 [(0, .inr (.inr a0)), (1, .inl a1), (2, .inr (.inr a2)), (3, .inl a3)] [] (t, m) (f_X12_copy t m a0 a1 a2 a3) := by
  unfold f_X12_copy
  refine r_iconst 0 1 (v := 0) rfl rfl (by decide) ?_
  refine r_istore 1 3 (L' := [(4, .inl 0), (0, .inr (.inr a0)), (1, .inl a1), (2, .inr (.inr a2)), (3, .inl a3)]) rfl rfl (by decide) rfl ?_
  have hj3 : ∀ (m : Mi) (a4 : Int32), Sm u_X12_copy (1, 0, 0, t.length, zs t) (kV t) 3 [(0, .inr (.inr a0)), (1, .inl a1), (2, .inr (.inr a2)), (3, .inl a3), (4, .inl a4)] [] (t, m) (f_X12_copy_j3 t m a0 a1 a2 a3 a4) := by
    intro m a4
    unfold f_X12_copy_j3
    have hj28 : ∀ (m : Mi), Sm u_X12_copy (1, 0, 0, t.length, zs t) (kV t) 28 [] [] (t, m) (f_X12_copy_j28 t m) := by
      intro m
      unfold f_X12_copy_j28
      exact r_vret 17 rfl rfl rfl
    refine r_lp (Lf := fun x : Int32 × Mi => [(0, .inr (.inr a0)), (1, .inl a1), (2, .inr (.inr a2)), (3, .inl a3), (4, .inl (x.1))]) (Mf := fun x : Int32 × Mi => (t, x.2)) (a4, m) ?_ FUEL
    rintro ⟨a4, m⟩ κ3 hc3 he3
    refine r_eq (L' := [(0, .inr (.inr a0)), (1, .inl a1), (2, .inr (.inr a2)), (3, .inl a3), (4, .inl a4)]) (M' := (t, m)) rfl rfl ?_
    refine r_eqr (r' := f_X12_copy_l3 t m a0 a1 a2 a3 a4) rfl ?_
    unfold f_X12_copy_l3
    refine r_iload 2 5 4 rfl rfl rfl ?_
    refine r_bipush 3 7 (v := 9) rfl rfl (by decide) ?_
    refine r_icmp_ge 4 28 10 rfl rfl rfl (fun h1 => ?_) (fun h1 => ?_)
    · refine r_leaf (r2 := (f_X12_copy_j28 t m : Option (Mi))) (he3 _) ?_
      exact r_sub [] rfl (hj28 m)
    · refine r_aload_n 5 11 0 rfl rfl rfl rfl ?_
      refine r_iload_n 6 12 1 rfl rfl rfl rfl ?_
      refine r_iload 7 14 4 rfl rfl rfl ?_
      refine r_iadd 8 15 rfl rfl ?_
      refine r_aload_n 9 16 2 rfl rfl rfl rfl ?_
      refine r_iload_n 10 17 3 rfl rfl rfl rfl ?_
      refine r_iload 11 19 4 rfl rfl rfl ?_
      refine r_iadd 12 20 rfl rfl ?_
      refine r_gd (fun h2 => ?_)
      refine r_lald 13 21 rfl rfl h2 ?_
      refine r_gd (fun h3 => ?_)
      refine r_last 14 22 rfl rfl h3 ?_
      refine r_ltM (fun m4 => ?_)
      refine r_iinc 15 25 4 (L' := [(4, .inl (a4 + 1)), (0, .inr (.inr a0)), (1, .inl a1), (2, .inr (.inr a2)), (3, .inl a3)]) rfl rfl rfl (by decide) rfl ?_
      refine r_ltV (fun x5 => ?_)
      refine r_goto 16 3 rfl rfl ?_
      exact r_sub [1, 2, 3, 4, 0] rfl (hc3 (x5, m4))
  exact r_sub [1, 2, 3, 4, 0] rfl (hj3 m 0)
theorem ct_X12_copy {t : List Sh} {m : Mi} {a0 : Nat} {a1 : Int32} {a2 : Nat} {a3 : Int32} {m' : Mi}  (h : f_X12_copy t m a0 a1 a2 a3 = some m') : Ct u_X12_copy 1 0 0 [.inr (.inr a0), .inl a1, .inr (.inr a2), .inl a3] (t, m) (none, (t, m')) :=
  ct_of (by decide) tk_X12_copy (Nat.le_of_ble_eq_true rfl) (sm_X12_copy t m a0 a1 a2 a3) (by rw [h]; rfl) (Nat.le_refl _) (Nat.le_refl _)
theorem fl_RX12_20 : FL RX12 20 12 7 true := ⟨RX12, TX12, 61, rfl, inW12, tyX12_ok, nmX12, by decide, rfl, rfl, rfl, tbm 1334 (by decide +kernel) rfl⟩
theorem fl_RX12_25 : FL RX12 25 12 8 true := ⟨RX12, TX12, 61, rfl, inW12, tyX12_ok, nmX12, by decide, rfl, rfl, rfl, tbm 1335 (by decide +kernel) rfl⟩
def tb_X12_copyRange : Tb := [(0, (.aload_n 0, 1)), (1, (.getfield 20, 3)), (4, (.iload_n 1, 1)), (5, (.aload_n 0, 1)), (6, (.getfield 20, 3)), (9, (.iload_n 2, 1)), (10, (.iaload, 1)), (11, (.iastore, 1)), (12, (.iconst 0, 1)), (13, (.istore_n 3, 1)), (14, (.iload_n 3, 1)), (15, (.sipush 288, 3)), (18, (.if_icmp .ge 41, 3)), (21, (.aload_n 0, 1)), (22, (.getfield 25, 3)), (25, (.iload_n 1, 1)), (26, (.bipush 16, 2)), (28, (.imul, 1)), (29, (.iconst 2, 1)), (30, (.imul, 1)), (31, (.bipush 9, 2)), (33, (.imul, 1)), (34, (.iload_n 3, 1)), (35, (.iadd, 1)), (36, (.aload_n 0, 1)), (37, (.getfield 25, 3)), (40, (.iload_n 2, 1)), (41, (.bipush 16, 2)), (43, (.imul, 1)), (44, (.iconst 2, 1)), (45, (.imul, 1)), (46, (.bipush 9, 2)), (48, (.imul, 1)), (49, (.iload_n 3, 1)), (50, (.iadd, 1)), (51, (.laload, 1)), (52, (.lastore, 1)), (53, (.iinc 3 1, 3)), (56, (.goto (-42), 3)), (59, (.return_, 1))]
def u_X12_copyRange : Fx := (yX12_copyRange, (cX12_copyRange, (4, (none, tb_X12_copyRange))))
theorem tk_X12_copyRange : ∀ q ∈ u_X12_copyRange.2.2.2.2, decode u_X12_copyRange.2.1 q.1 = .ok q.2 := by decide +kernel
theorem mc_X12_copyRange : MC u_X12_copyRange 2 := ⟨tbm 1624 (by decide +kernel) rfl, tbm 128 (by decide +kernel) rfl, ⟨by decide, by decide, by decide +kernel⟩, by decide⟩
theorem in_X12_copyRange : Cond.instanceMethod u_X12_copyRange.1 ∈ TB ∧ Cond.selects u_X12_copyRange.1.cls u_X12_copyRange.1 u_X12_copyRange.1 ∈ TB := ⟨tbm 1623 (by decide +kernel) rfl, tbm 85 (by decide +kernel) rfl⟩
def f_X12_copyRange_j59 (t : List Sh) (m : Mi) : Option (Mi) :=
  some m
def f_X12_copyRange_l14 (t : List Sh) (m : Mi) (a0 : Nat) (a1 : Int32) (a2 : Int32) (a3 : Int32) : Option ((Int32 × Mi) ⊕ ((Mi))) :=
  if 288 ≤ a3 then
    some (.inr m)
  else
    (if ar t (gr m a0 8) .long ((((a2 * 16) * 2) * 9) + a3) = true then
    (if ar t (gr m a0 8) .long ((((a1 * 16) * 2) * 9) + a3) = true then
    lt (sl m (gr m a0 8) (ix ((((a1 * 16) * 2) * 9) + a3)) (gl m (gr m a0 8) (ix ((((a2 * 16) * 2) * 9) + a3)))) fun m7 =>
    lt (a3 + 1) fun x8 =>
    some (.inl (x8, m7))
    else none)
    else none)
def f_X12_copyRange_j14 (t : List Sh) (m : Mi) (a0 : Nat) (a1 : Int32) (a2 : Int32) (a3 : Int32) : Option (Mi) :=
  (lp (fun x : Int32 × Mi => f_X12_copyRange_l14 t x.2 a0 a1 a2 x.1) FUEL (a3, m)).bind (fun y : Mi => f_X12_copyRange_j59 t y)
def f_X12_copyRange (t : List Sh) (m : Mi) (a0 : Nat) (a1 : Int32) (a2 : Int32) : Option (Mi) :=
  (if ar t (gr m a0 7) .int a2 = true then
  (if ar t (gr m a0 7) .int a1 = true then
  lt (si m (gr m a0 7) (ix a1) (gi m (gr m a0 7) (ix a2))) fun m3 =>
  f_X12_copyRange_j14 t m3 a0 a1 a2 0
  else none)
  else none)
set_option maxRecDepth 4000 in
set_option maxHeartbeats 4000000 in
theorem sm_X12_copyRange (t : List Sh) (m : Mi) (a0 : Nat) (a1 : Int32) (a2 : Int32) (h0 : sh t a0 = some (.inl 12)) : Sm u_X12_copyRange (1, 0, 0, t.length, zs t) (kV t) 0 [(0, .inr (.inr a0)), (1, .inl a1), (2, .inl a2)] [] (t, m) (f_X12_copyRange t m a0 a1 a2) := by
  unfold f_X12_copyRange
  refine r_aload_n 0 1 0 rfl rfl rfl rfl ?_
  refine r_getR 1 4 rfl rfl fl_RX12_20 rfl h0 ?_
  refine r_iload_n 2 5 1 rfl rfl rfl rfl ?_
  refine r_aload_n 3 6 0 rfl rfl rfl rfl ?_
  refine r_getR 4 9 rfl rfl fl_RX12_20 rfl h0 ?_
  refine r_iload_n 5 10 2 rfl rfl rfl rfl ?_
  refine r_gd (fun h1 => ?_)
  refine r_iald 6 11 rfl rfl h1 ?_
  refine r_gd (fun h2 => ?_)
  refine r_iast 7 12 rfl rfl h2 ?_
  refine r_ltM (fun m3 => ?_)
  refine r_iconst 8 13 (v := 0) rfl rfl (by decide) ?_
  refine r_istore_n 9 14 (L' := [(3, .inl 0), (0, .inr (.inr a0)), (1, .inl a1), (2, .inl a2)]) rfl rfl rfl (by decide) rfl ?_
  have hj14 : ∀ (m : Mi) (a3 : Int32), Sm u_X12_copyRange (1, 0, 0, t.length, zs t) (kV t) 14 [(0, .inr (.inr a0)), (1, .inl a1), (2, .inl a2), (3, .inl a3)] [] (t, m) (f_X12_copyRange_j14 t m a0 a1 a2 a3) := by
    intro m a3
    unfold f_X12_copyRange_j14
    have hj59 : ∀ (m : Mi), Sm u_X12_copyRange (1, 0, 0, t.length, zs t) (kV t) 59 [] [] (t, m) (f_X12_copyRange_j59 t m) := by
      intro m
      unfold f_X12_copyRange_j59
      exact r_vret 39 rfl rfl rfl
    refine r_lp (Lf := fun x : Int32 × Mi => [(0, .inr (.inr a0)), (1, .inl a1), (2, .inl a2), (3, .inl (x.1))]) (Mf := fun x : Int32 × Mi => (t, x.2)) (a3, m) ?_ FUEL
    rintro ⟨a3, m⟩ κ14 hc14 he14
    refine r_eq (L' := [(0, .inr (.inr a0)), (1, .inl a1), (2, .inl a2), (3, .inl a3)]) (M' := (t, m)) rfl rfl ?_
    refine r_eqr (r' := f_X12_copyRange_l14 t m a0 a1 a2 a3) rfl ?_
    unfold f_X12_copyRange_l14
    refine r_iload_n 10 15 3 rfl rfl rfl rfl ?_
    refine r_sipush 11 18 (v := 288) rfl rfl (by decide) ?_
    refine r_icmp_ge 12 59 21 rfl rfl rfl (fun h4 => ?_) (fun h4 => ?_)
    · refine r_leaf (r2 := (f_X12_copyRange_j59 t m : Option (Mi))) (he14 _) ?_
      exact r_sub [] rfl (hj59 m)
    · refine r_aload_n 13 22 0 rfl rfl rfl rfl ?_
      refine r_getR 14 25 rfl rfl fl_RX12_25 rfl h0 ?_
      refine r_iload_n 15 26 1 rfl rfl rfl rfl ?_
      refine r_bipush 16 28 (v := 16) rfl rfl (by decide) ?_
      refine r_imul 17 29 rfl rfl ?_
      refine r_iconst 18 30 (v := 2) rfl rfl (by decide) ?_
      refine r_imul 19 31 rfl rfl ?_
      refine r_bipush 20 33 (v := 9) rfl rfl (by decide) ?_
      refine r_imul 21 34 rfl rfl ?_
      refine r_iload_n 22 35 3 rfl rfl rfl rfl ?_
      refine r_iadd 23 36 rfl rfl ?_
      refine r_aload_n 24 37 0 rfl rfl rfl rfl ?_
      refine r_getR 25 40 rfl rfl fl_RX12_25 rfl h0 ?_
      refine r_iload_n 26 41 2 rfl rfl rfl rfl ?_
      refine r_bipush 27 43 (v := 16) rfl rfl (by decide) ?_
      refine r_imul 28 44 rfl rfl ?_
      refine r_iconst 29 45 (v := 2) rfl rfl (by decide) ?_
      refine r_imul 30 46 rfl rfl ?_
      refine r_bipush 31 48 (v := 9) rfl rfl (by decide) ?_
      refine r_imul 32 49 rfl rfl ?_
      refine r_iload_n 33 50 3 rfl rfl rfl rfl ?_
      refine r_iadd 34 51 rfl rfl ?_
      refine r_gd (fun h5 => ?_)
      refine r_lald 35 52 rfl rfl h5 ?_
      refine r_gd (fun h6 => ?_)
      refine r_last 36 53 rfl rfl h6 ?_
      refine r_ltM (fun m7 => ?_)
      refine r_iinc 37 56 3 (L' := [(3, .inl (a3 + 1)), (0, .inr (.inr a0)), (1, .inl a1), (2, .inl a2)]) rfl rfl rfl (by decide) rfl ?_
      refine r_ltV (fun x8 => ?_)
      refine r_goto 38 14 rfl rfl ?_
      exact r_sub [1, 2, 3, 0] rfl (hc14 (x8, m7))
  exact r_sub [1, 2, 3, 0] rfl (hj14 m3 0)
theorem ct_X12_copyRange {t : List Sh} {m : Mi} {a0 : Nat} {a1 : Int32} {a2 : Int32} {m' : Mi}  (h0 : sh t a0 = some (.inl 12)) (h : f_X12_copyRange t m a0 a1 a2 = some m') : Ct u_X12_copyRange 1 0 0 [.inr (.inr a0), .inl a1, .inl a2] (t, m) (none, (t, m')) :=
  ct_of (by decide) tk_X12_copyRange (Nat.le_of_ble_eq_true rfl) (sm_X12_copyRange t m a0 a1 a2 h0) (by rw [h]; rfl) (Nat.le_refl _) (Nat.le_refl _)
theorem fl_RX12_274 : FL RX12 274 12 19 false := ⟨RX12, TX12, 61, rfl, inW12, tyX12_ok, nmX12, by decide, rfl, rfl, rfl, tbm 1346 (by decide +kernel) rfl⟩
theorem fl_RX12_231 : FL RX12 231 12 15 false := ⟨RX12, TX12, 61, rfl, inW12, tyX12_ok, nmX12, by decide, rfl, rfl, rfl, tbm 1342 (by decide +kernel) rfl⟩
theorem fl_RX12_277 : FL RX12 277 12 20 false := ⟨RX12, TX12, 61, rfl, inW12, tyX12_ok, nmX12, by decide, rfl, rfl, rfl, tbm 1347 (by decide +kernel) rfl⟩
def tb_X12_fault : Tb := [(0, (.aload_n 0, 1)), (1, (.iload_n 1, 1)), (2, (.putfield 274, 3)), (5, (.aload_n 0, 1)), (6, (.aload_n 0, 1)), (7, (.getfield 231, 3)), (10, (.putfield 277, 3)), (13, (.iconst 0, 1)), (14, (.ireturn, 1))]
def u_X12_fault : Fx := (yX12_fault, (cX12_fault, (2, ((some .boolean), tb_X12_fault))))
theorem tk_X12_fault : ∀ q ∈ u_X12_fault.2.2.2.2, decode u_X12_fault.2.1 q.1 = .ok q.2 := by decide +kernel
theorem mc_X12_fault : MC u_X12_fault 1 := ⟨tbm 1588 (by decide +kernel) rfl, tbm 128 (by decide +kernel) rfl, ⟨by decide, by decide, by decide +kernel⟩, by decide⟩
theorem in_X12_fault : Cond.instanceMethod u_X12_fault.1 ∈ TB ∧ Cond.selects u_X12_fault.1.cls u_X12_fault.1 u_X12_fault.1 ∈ TB := ⟨tbm 1587 (by decide +kernel) rfl, tbm 79 (by decide +kernel) rfl⟩
def f_X12_fault (t : List Sh) (m : Mi) (a0 : Nat) (a1 : Int32) : Option (Int32 × Mi) :=
  lt (si m a0 19 a1) fun m1 =>
  lt (si m1 a0 20 (gi m1 a0 15)) fun m2 =>
  some (0, m2)
set_option maxRecDepth 4000 in
set_option maxHeartbeats 4000000 in
theorem sm_X12_fault (t : List Sh) (m : Mi) (a0 : Nat) (a1 : Int32) (h0 : sh t a0 = some (.inl 12)) : Sm u_X12_fault (1, 0, 0, t.length, zs t) (kI t) 0 [(0, .inr (.inr a0)), (1, .inl a1)] [] (t, m) (f_X12_fault t m a0 a1) := by
  unfold f_X12_fault
  refine r_aload_n 0 1 0 rfl rfl rfl rfl ?_
  refine r_iload_n 1 2 1 rfl rfl rfl rfl ?_
  refine r_putI 2 5 rfl rfl fl_RX12_274 (fun h => by cases h) (Or.inl rfl) h0 ?_
  refine r_ltM (fun m1 => ?_)
  refine r_aload_n 3 6 0 rfl rfl rfl rfl ?_
  refine r_aload_n 4 7 0 rfl rfl rfl rfl ?_
  refine r_getI 5 10 rfl rfl fl_RX12_231 rfl h0 ?_
  refine r_putI 6 13 rfl rfl fl_RX12_277 (fun h => by cases h) (Or.inl rfl) h0 ?_
  refine r_ltM (fun m2 => ?_)
  refine r_iconst 7 14 (v := 0) rfl rfl (by decide) ?_
  exact r_zret 8 rfl rfl (by decide) rfl
theorem ct_X12_fault {t : List Sh} {m : Mi} {a0 : Nat} {a1 : Int32} {m' : Mi} {v : Int32}  (h0 : sh t a0 = some (.inl 12)) (h : f_X12_fault t m a0 a1 = some (v, m')) : Ct u_X12_fault 1 0 0 [.inr (.inr a0), .inl a1] (t, m) (some (.inl v), (t, m')) :=
  ct_of (by decide) tk_X12_fault (Nat.le_of_ble_eq_true rfl) (sm_X12_fault t m a0 a1 h0) (by rw [h]; rfl) (Nat.le_refl _) (Nat.le_refl _)
def tb_X12_first : Tb := [(0, (.iconst 0, 1)), (1, (.istore_n 3, 1)), (2, (.iload_n 3, 1)), (3, (.bipush 9, 2)), (5, (.if_icmp .ge 15, 3)), (8, (.aload_n 1, 1)), (9, (.iload_n 2, 1)), (10, (.iload_n 3, 1)), (11, (.iadd, 1)), (12, (.lconst 0, 1)), (13, (.lastore, 1)), (14, (.iinc 3 1, 3)), (17, (.goto (-15), 3)), (20, (.aload_n 1, 1)), (21, (.iload_n 2, 1)), (22, (.iconst 3, 1)), (23, (.iadd, 1)), (24, (.lconst 1, 1)), (25, (.lastore, 1)), (26, (.return_, 1))]
def u_X12_first : Fx := (yX12_first, (cX12_first, (4, (none, tb_X12_first))))
theorem tk_X12_first : ∀ q ∈ u_X12_first.2.2.2.2, decode u_X12_first.2.1 q.1 = .ok q.2 := by decide +kernel
theorem mc_X12_first : MC u_X12_first 2 := ⟨tbm 1318 (by decide +kernel) rfl, tbm 128 (by decide +kernel) rfl, ⟨by decide, by decide, by decide +kernel⟩, by decide⟩
theorem in_X12_first : Cond.instanceMethod u_X12_first.1 ∈ TB ∧ Cond.selects u_X12_first.1.cls u_X12_first.1 u_X12_first.1 ∈ TB := ⟨tbm 1317 (by decide +kernel) rfl, tbm 65 (by decide +kernel) rfl⟩
def f_X12_first_j20 (t : List Sh) (m : Mi) (a1 : Nat) (a2 : Int32) : Option (Mi) :=
  (if ar t a1 .long (a2 + 3) = true then
  lt (sl m a1 (ix (a2 + 3)) 1) fun m2 =>
  some m2
  else none)
def f_X12_first_l2 (t : List Sh) (m : Mi) (a1 : Nat) (a2 : Int32) (a3 : Int32) : Option ((Int32 × Mi) ⊕ ((Mi))) :=
  if 9 ≤ a3 then
    some (.inr m)
  else
    (if ar t a1 .long (a2 + a3) = true then
    lt (sl m a1 (ix (a2 + a3)) 0) fun m5 =>
    lt (a3 + 1) fun x6 =>
    some (.inl (x6, m5))
    else none)
def f_X12_first_j2 (t : List Sh) (m : Mi) (a1 : Nat) (a2 : Int32) (a3 : Int32) : Option (Mi) :=
  (lp (fun x : Int32 × Mi => f_X12_first_l2 t x.2 a1 a2 x.1) FUEL (a3, m)).bind (fun y : Mi => f_X12_first_j20 t y a1 a2)
def f_X12_first (t : List Sh) (m : Mi) (a0 : Nat) (a1 : Nat) (a2 : Int32) : Option (Mi) :=
  f_X12_first_j2 t m a1 a2 0
set_option maxRecDepth 4000 in
set_option maxHeartbeats 4000000 in
theorem sm_X12_first (t : List Sh) (m : Mi) (a0 : Nat) (a1 : Nat) (a2 : Int32) (h0 : sh t a0 = some (.inl 12)) : Sm u_X12_first (1, 0, 0, t.length, zs t) (kV t) 0 [(0, .inr (.inr a0)), (1, .inr (.inr a1)), (2, .inl a2)] [] (t, m) (f_X12_first t m a0 a1 a2) := by
  unfold f_X12_first
  refine r_iconst 0 1 (v := 0) rfl rfl (by decide) ?_
  refine r_istore_n 1 2 (L' := [(3, .inl 0), (0, .inr (.inr a0)), (1, .inr (.inr a1)), (2, .inl a2)]) rfl rfl rfl (by decide) rfl ?_
  have hj2 : ∀ (m : Mi) (a3 : Int32), Sm u_X12_first (1, 0, 0, t.length, zs t) (kV t) 2 [(1, .inr (.inr a1)), (2, .inl a2), (3, .inl a3)] [] (t, m) (f_X12_first_j2 t m a1 a2 a3) := by
    intro m a3
    unfold f_X12_first_j2
    have hj20 : ∀ (m : Mi), Sm u_X12_first (1, 0, 0, t.length, zs t) (kV t) 20 [(1, .inr (.inr a1)), (2, .inl a2)] [] (t, m) (f_X12_first_j20 t m a1 a2) := by
      intro m
      unfold f_X12_first_j20
      refine r_aload_n 13 21 0 rfl rfl rfl rfl ?_
      refine r_iload_n 14 22 1 rfl rfl rfl rfl ?_
      refine r_iconst 15 23 (v := 3) rfl rfl (by decide) ?_
      refine r_iadd 16 24 rfl rfl ?_
      refine r_lconst 17 25 (v := 1) rfl rfl (by decide) ?_
      refine r_gd (fun h1 => ?_)
      refine r_last 18 26 rfl rfl h1 ?_
      refine r_ltM (fun m2 => ?_)
      exact r_vret 19 rfl rfl rfl
    refine r_lp (Lf := fun x : Int32 × Mi => [(1, .inr (.inr a1)), (2, .inl a2), (3, .inl (x.1))]) (Mf := fun x : Int32 × Mi => (t, x.2)) (a3, m) ?_ FUEL
    rintro ⟨a3, m⟩ κ2 hc2 he2
    refine r_eq (L' := [(1, .inr (.inr a1)), (2, .inl a2), (3, .inl a3)]) (M' := (t, m)) rfl rfl ?_
    refine r_eqr (r' := f_X12_first_l2 t m a1 a2 a3) rfl ?_
    unfold f_X12_first_l2
    refine r_iload_n 2 3 2 rfl rfl rfl rfl ?_
    refine r_bipush 3 5 (v := 9) rfl rfl (by decide) ?_
    refine r_icmp_ge 4 20 8 rfl rfl rfl (fun h3 => ?_) (fun h3 => ?_)
    · refine r_leaf (r2 := (f_X12_first_j20 t m a1 a2 : Option (Mi))) (he2 _) ?_
      exact r_sub [0, 1] rfl (hj20 m)
    · refine r_aload_n 5 9 0 rfl rfl rfl rfl ?_
      refine r_iload_n 6 10 1 rfl rfl rfl rfl ?_
      refine r_iload_n 7 11 2 rfl rfl rfl rfl ?_
      refine r_iadd 8 12 rfl rfl ?_
      refine r_lconst 9 13 (v := 0) rfl rfl (by decide) ?_
      refine r_gd (fun h4 => ?_)
      refine r_last 10 14 rfl rfl h4 ?_
      refine r_ltM (fun m5 => ?_)
      refine r_iinc 11 17 2 (L' := [(3, .inl (a3 + 1)), (1, .inr (.inr a1)), (2, .inl a2)]) rfl rfl rfl (by decide) rfl ?_
      refine r_ltV (fun x6 => ?_)
      refine r_goto 12 2 rfl rfl ?_
      exact r_sub [1, 2, 0] rfl (hc2 (x6, m5))
  exact r_sub [2, 3, 0] rfl (hj2 m 0)
theorem ct_X12_first {t : List Sh} {m : Mi} {a0 : Nat} {a1 : Nat} {a2 : Int32} {m' : Mi}  (h0 : sh t a0 = some (.inl 12)) (h : f_X12_first t m a0 a1 a2 = some m') : Ct u_X12_first 1 0 0 [.inr (.inr a0), .inr (.inr a1), .inl a2] (t, m) (none, (t, m')) :=
  ct_of (by decide) tk_X12_first (Nat.le_of_ble_eq_true rfl) (sm_X12_first t m a0 a1 a2 h0) (by rw [h]; rfl) (Nat.le_refl _) (Nat.le_refl _)
theorem fl_RX12_61 : FL RX12 61 12 29 true := ⟨RX12, TX12, 61, rfl, inW12, tyX12_ok, nmX12, by decide, rfl, rfl, rfl, tbm 1356 (by decide +kernel) rfl⟩
def tb_X12_first_ : Tb := [(0, (.aload_n 0, 1)), (1, (.getfield 61, 3)), (4, (.bipush 11, 2)), (6, (.aload_n 0, 1)), (7, (.getfield 326, 3)), (10, (.imul, 1)), (11, (.iload_n 1, 1)), (12, (.iadd, 1)), (13, (.iaload, 1)), (14, (.ireturn, 1))]
def u_X12_first_ : Fx := (yX12_first_, (cX12_first_, (2, ((some .int), tb_X12_first_))))
theorem tk_X12_first_ : ∀ q ∈ u_X12_first_.2.2.2.2, decode u_X12_first_.2.1 q.1 = .ok q.2 := by decide +kernel
theorem mc_X12_first_ : MC u_X12_first_ 1 := ⟨tbm 1683 (by decide +kernel) rfl, tbm 128 (by decide +kernel) rfl, ⟨by decide, by decide, by decide +kernel⟩, by decide⟩
theorem in_X12_first_ : Cond.instanceMethod u_X12_first_.1 ∈ TB ∧ Cond.selects u_X12_first_.1.cls u_X12_first_.1 u_X12_first_.1 ∈ TB := ⟨tbm 1682 (by decide +kernel) rfl, tbm 95 (by decide +kernel) rfl⟩
def f_X12_first_ (t : List Sh) (m : Mi) (a0 : Nat) (a1 : Int32) : Option (Int32) :=
  (if ar t (gr m a0 29) .int ((11 * (gi m a0 21)) + a1) = true then
  some (gi m (gr m a0 29) (ix ((11 * (gi m a0 21)) + a1)))
  else none)
set_option maxRecDepth 4000 in
set_option maxHeartbeats 4000000 in
theorem sm_X12_first_ (t : List Sh) (m : Mi) (a0 : Nat) (a1 : Int32) (h0 : sh t a0 = some (.inl 12)) : Sm u_X12_first_ (1, 0, 0, t.length, zs t) (kIo t m) 0 [(0, .inr (.inr a0)), (1, .inl a1)] [] (t, m) (f_X12_first_ t m a0 a1) := by
  unfold f_X12_first_
  refine r_aload_n 0 1 0 rfl rfl rfl rfl ?_
  refine r_getR 1 4 rfl rfl fl_RX12_61 rfl h0 ?_
  refine r_bipush 2 6 (v := 11) rfl rfl (by decide) ?_
  refine r_aload_n 3 7 0 rfl rfl rfl rfl ?_
  refine r_getI 4 10 rfl rfl fl_RX12_326 rfl h0 ?_
  refine r_imul 5 11 rfl rfl ?_
  refine r_iload_n 6 12 1 rfl rfl rfl rfl ?_
  refine r_iadd 7 13 rfl rfl ?_
  refine r_gd (fun h1 => ?_)
  refine r_iald 8 14 rfl rfl h1 ?_
  exact r_iret 9 rfl rfl rfl
theorem ct_X12_first_ {t : List Sh} {m : Mi} {a0 : Nat} {a1 : Int32} {v : Int32}  (h0 : sh t a0 = some (.inl 12)) (h : f_X12_first_ t m a0 a1 = some v) : Ct u_X12_first_ 1 0 0 [.inr (.inr a0), .inl a1] (t, m) (some (.inl v), (t, m)) :=
  ct_of (by decide) tk_X12_first_ (Nat.le_of_ble_eq_true rfl) (sm_X12_first_ t m a0 a1 h0) (by rw [h]; rfl) (Nat.le_refl _) (Nat.le_refl _)
def tb_X12_from : Tb := [(0, (.iload_n 0, 1)), (1, (.bipush 16, 2)), (3, (.imul, 1)), (4, (.iload_n 1, 1)), (5, (.iadd, 1)), (6, (.iconst 2, 1)), (7, (.imul, 1)), (8, (.bipush 9, 2)), (10, (.imul, 1)), (11, (.ireturn, 1))]
def u_X12_from : Fx := (yX12_from, (cX12_from, (2, ((some .int), tb_X12_from))))
theorem tk_X12_from : ∀ q ∈ u_X12_from.2.2.2.2, decode u_X12_from.2.1 q.1 = .ok q.2 := by decide +kernel
theorem mc_X12_from : MC u_X12_from 2 := ⟨tbm 1314 (by decide +kernel) rfl, tbm 128 (by decide +kernel) rfl, ⟨by decide, by decide, by decide +kernel⟩, by decide⟩
theorem st_X12_from : Cond.static u_X12_from.1 ∈ TB := tbm 1313 (by decide +kernel) rfl
def f_X12_from (a0 : Int32) (a1 : Int32) : Option (Int32) :=
  some ((((a0 * 16) + a1) * 2) * 9)
set_option maxRecDepth 4000 in
set_option maxHeartbeats 4000000 in
theorem sm_X12_from (t : List Sh) (m : Mi) (a0 : Int32) (a1 : Int32) : Sm u_X12_from (1, 0, 0, t.length, zs t) (kIo t m) 0 [(0, .inl a0), (1, .inl a1)] [] (t, m) (f_X12_from a0 a1) := by
  unfold f_X12_from
  refine r_iload_n 0 1 0 rfl rfl rfl rfl ?_
  refine r_bipush 1 3 (v := 16) rfl rfl (by decide) ?_
  refine r_imul 2 4 rfl rfl ?_
  refine r_iload_n 3 5 1 rfl rfl rfl rfl ?_
  refine r_iadd 4 6 rfl rfl ?_
  refine r_iconst 5 7 (v := 2) rfl rfl (by decide) ?_
  refine r_imul 6 8 rfl rfl ?_
  refine r_bipush 7 10 (v := 9) rfl rfl (by decide) ?_
  refine r_imul 8 11 rfl rfl ?_
  exact r_iret 9 rfl rfl rfl
theorem ct_X12_from {t : List Sh} {m : Mi} {a0 : Int32} {a1 : Int32} {v : Int32}  (h : f_X12_from a0 a1 = some v) : Ct u_X12_from 1 0 0 [.inl a0, .inl a1] (t, m) (some (.inl v), (t, m)) :=
  ct_of (by decide) tk_X12_from (Nat.le_of_ble_eq_true rfl) (sm_X12_from t m a0 a1) (by rw [h]; rfl) (Nat.le_refl _) (Nat.le_refl _)
def tb_X12_isDigit : Tb := [(0, (.iload_n 0, 1)), (1, (.bipush 48, 2)), (3, (.if_icmp .lt 13, 3)), (6, (.iload_n 0, 1)), (7, (.bipush 57, 2)), (9, (.if_icmp .gt 7, 3)), (12, (.iconst 1, 1)), (13, (.goto 4, 3)), (16, (.iconst 0, 1)), (17, (.ireturn, 1))]
def u_X12_isDigit : Fx := (yX12_isDigit, (cX12_isDigit, (1, ((some .boolean), tb_X12_isDigit))))
theorem tk_X12_isDigit : ∀ q ∈ u_X12_isDigit.2.2.2.2, decode u_X12_isDigit.2.1 q.1 = .ok q.2 := by decide +kernel
theorem mc_X12_isDigit : MC u_X12_isDigit 1 := ⟨tbm 1544 (by decide +kernel) rfl, tbm 128 (by decide +kernel) rfl, ⟨by decide, by decide, by decide +kernel⟩, by decide⟩
theorem st_X12_isDigit : Cond.static u_X12_isDigit.1 ∈ TB := tbm 1543 (by decide +kernel) rfl
def f_X12_isDigit (a0 : Int32) : Option (Int32) :=
  if a0 < 48 then
    some 0
  else
    if 57 < a0 then
      some 0
    else
      some 1
set_option maxRecDepth 4000 in
set_option maxHeartbeats 4000000 in
theorem sm_X12_isDigit (t : List Sh) (m : Mi) (a0 : Int32) : Sm u_X12_isDigit (1, 0, 0, t.length, zs t) (kIo t m) 0 [(0, .inl a0)] [] (t, m) (f_X12_isDigit a0) := by
  unfold f_X12_isDigit
  refine r_iload_n 0 1 0 rfl rfl rfl rfl ?_
  refine r_bipush 1 3 (v := 48) rfl rfl (by decide) ?_
  refine r_icmp_lt 2 16 6 rfl rfl rfl (fun h1 => ?_) (fun h1 => ?_)
  · refine r_iconst 8 17 (v := 0) rfl rfl (by decide) ?_
    exact r_zret 9 rfl rfl (by decide) rfl
  · refine r_iload_n 3 7 0 rfl rfl rfl rfl ?_
    refine r_bipush 4 9 (v := 57) rfl rfl (by decide) ?_
    refine r_icmp_gt 5 16 12 rfl rfl rfl (fun h2 => ?_) (fun h2 => ?_)
    · refine r_iconst 8 17 (v := 0) rfl rfl (by decide) ?_
      exact r_zret 9 rfl rfl (by decide) rfl
    · refine r_iconst 6 13 (v := 1) rfl rfl (by decide) ?_
      refine r_goto 7 17 rfl rfl ?_
      exact r_zret 9 rfl rfl (by decide) rfl
theorem ct_X12_isDigit {t : List Sh} {m : Mi} {a0 : Int32} {v : Int32}  (h : f_X12_isDigit a0 = some v) : Ct u_X12_isDigit 1 0 0 [.inl a0] (t, m) (some (.inl v), (t, m)) :=
  ct_of (by decide) tk_X12_isDigit (Nat.le_of_ble_eq_true rfl) (sm_X12_isDigit t m a0) (by rw [h]; rfl) (Nat.le_refl _) (Nat.le_refl _)
def tb_X12_isSame : Tb := [(0, (.iload_n 2, 1)), (1, (.iload 4, 2)), (3, (.if_icmp .ne 7, 3)), (6, (.iconst 1, 1)), (7, (.goto 4, 3)), (10, (.iconst 0, 1)), (11, (.istore 5, 2)), (13, (.iconst 0, 1)), (14, (.istore 6, 2)), (16, (.iload 6, 2)), (18, (.iload_n 2, 1)), (19, (.if_icmp .ge 42, 3)), (22, (.iload 5, 2)), (24, (.ifCond .eq 37, 3)), (27, (.aload_n 0, 1)), (28, (.getfield 13, 3)), (31, (.iload_n 1, 1)), (32, (.iload 6, 2)), (34, (.iadd, 1)), (35, (.baload, 1)), (36, (.aload_n 0, 1)), (37, (.getfield 13, 3)), (40, (.iload_n 3, 1)), (41, (.iload 6, 2)), (43, (.iadd, 1)), (44, (.baload, 1)), (45, (.if_icmp .ne 7, 3)), (48, (.iconst 1, 1)), (49, (.goto 4, 3)), (52, (.iconst 0, 1)), (53, (.istore 5, 2)), (55, (.iinc 6 1, 3)), (58, (.goto (-42), 3)), (61, (.iload 5, 2)), (63, (.ireturn, 1))]
def u_X12_isSame : Fx := (yX12_isSame, (cX12_isSame, (7, ((some .boolean), tb_X12_isSame))))
theorem tk_X12_isSame : ∀ q ∈ u_X12_isSame.2.2.2.2, decode u_X12_isSame.2.1 q.1 = .ok q.2 := by decide +kernel
theorem mc_X12_isSame : MC u_X12_isSame 4 := ⟨tbm 1655 (by decide +kernel) rfl, tbm 128 (by decide +kernel) rfl, ⟨by decide, by decide, by decide +kernel⟩, by decide⟩
theorem in_X12_isSame : Cond.instanceMethod u_X12_isSame.1 ∈ TB ∧ Cond.selects u_X12_isSame.1.cls u_X12_isSame.1 u_X12_isSame.1 ∈ TB := ⟨tbm 1654 (by decide +kernel) rfl, tbm 88 (by decide +kernel) rfl⟩
def f_X12_isSame_j61 (t : List Sh) (m : Mi) (a5 : Int32) : Option (Int32) :=
  (if zb a5 = true then
  some a5
  else none)
def f_X12_isSame_l16 (t : List Sh) (m : Mi) (a0 : Nat) (a1 : Int32) (a2 : Int32) (a3 : Int32) (a5 : Int32) (a6 : Int32) : Option ((Int32 × Int32) ⊕ ((Int32))) :=
  if a2 ≤ a6 then
    some (.inr a5)
  else
    if a5 = 0 then
      some (.inr a5)
    else
      (if ar t (gr m a0 2) .byte (a1 + a6) = true then
      (if ar t (gr m a0 2) .byte (a3 + a6) = true then
      if (gi m (gr m a0 2) (ix (a1 + a6))) = (gi m (gr m a0 2) (ix (a3 + a6))) then
        lt (a6 + 1) fun x7 =>
        some (.inl (1, x7))
      else
        lt (a6 + 1) fun x8 =>
        some (.inl (0, x8))
      else none)
      else none)
def f_X12_isSame_j16 (t : List Sh) (m : Mi) (a0 : Nat) (a1 : Int32) (a2 : Int32) (a3 : Int32) (a5 : Int32) (a6 : Int32) : Option (Int32) :=
  (lp (fun x : Int32 × Int32 => f_X12_isSame_l16 t m a0 a1 a2 a3 x.1 x.2) FUEL (a5, a6)).bind (fun y : Int32 => f_X12_isSame_j61 t m y)
def f_X12_isSame_j11 (t : List Sh) (m : Mi) (a0 : Nat) (a1 : Int32) (a2 : Int32) (a3 : Int32) (s0 : Int32) : Option (Int32) :=
  f_X12_isSame_j16 t m a0 a1 a2 a3 s0 0
def f_X12_isSame (t : List Sh) (m : Mi) (a0 : Nat) (a1 : Int32) (a2 : Int32) (a3 : Int32) (a4 : Int32) : Option (Int32) :=
  if a2 = a4 then
    f_X12_isSame_j11 t m a0 a1 a2 a3 1
  else
    f_X12_isSame_j11 t m a0 a1 a2 a3 0
set_option maxRecDepth 4000 in
set_option maxHeartbeats 4000000 in
theorem sm_X12_isSame (t : List Sh) (m : Mi) (a0 : Nat) (a1 : Int32) (a2 : Int32) (a3 : Int32) (a4 : Int32) (h0 : sh t a0 = some (.inl 12)) : Sm u_X12_isSame (1, 0, 0, t.length, zs t) (kIo t m) 0 [(0, .inr (.inr a0)), (1, .inl a1), (2, .inl a2), (3, .inl a3), (4, .inl a4)] [] (t, m) (f_X12_isSame t m a0 a1 a2 a3 a4) := by
  unfold f_X12_isSame
  refine r_iload_n 0 1 2 rfl rfl rfl rfl ?_
  refine r_iload 1 3 4 rfl rfl rfl ?_
  have hj11 : ∀ (s0 : Int32), Sm u_X12_isSame (1, 0, 0, t.length, zs t) (kIo t m) 11 [(0, .inr (.inr a0)), (1, .inl a1), (2, .inl a2), (3, .inl a3)] [.inl s0] (t, m) (f_X12_isSame_j11 t m a0 a1 a2 a3 s0) := by
    intro s0
    unfold f_X12_isSame_j11
    refine r_istore 6 13 (L' := [(5, .inl s0), (0, .inr (.inr a0)), (1, .inl a1), (2, .inl a2), (3, .inl a3)]) rfl rfl (by decide) rfl ?_
    refine r_iconst 7 14 (v := 0) rfl rfl (by decide) ?_
    refine r_istore 8 16 (L' := [(6, .inl 0), (5, .inl s0), (0, .inr (.inr a0)), (1, .inl a1), (2, .inl a2), (3, .inl a3)]) rfl rfl (by decide) rfl ?_
    have hj16 : ∀ (a5 : Int32) (a6 : Int32), Sm u_X12_isSame (1, 0, 0, t.length, zs t) (kIo t m) 16 [(0, .inr (.inr a0)), (1, .inl a1), (2, .inl a2), (3, .inl a3), (5, .inl a5), (6, .inl a6)] [] (t, m) (f_X12_isSame_j16 t m a0 a1 a2 a3 a5 a6) := by
      intro a5 a6
      unfold f_X12_isSame_j16
      have hj61 : ∀ (a5 : Int32), Sm u_X12_isSame (1, 0, 0, t.length, zs t) (kIo t m) 61 [(5, .inl a5)] [] (t, m) (f_X12_isSame_j61 t m a5) := by
        intro a5
        unfold f_X12_isSame_j61
        refine r_iload 33 63 0 rfl rfl rfl ?_
        refine r_gd (fun h1 => ?_)
        exact r_zret 34 rfl rfl (zb_nar h1) rfl
      refine r_lp (Lf := fun x : Int32 × Int32 => [(0, .inr (.inr a0)), (1, .inl a1), (2, .inl a2), (3, .inl a3), (5, .inl (x.1)), (6, .inl (x.2))]) (Mf := fun x : Int32 × Int32 => (t, m)) (a5, a6) ?_ FUEL
      rintro ⟨a5, a6⟩ κ16 hc16 he16
      refine r_eq (L' := [(0, .inr (.inr a0)), (1, .inl a1), (2, .inl a2), (3, .inl a3), (5, .inl a5), (6, .inl a6)]) (M' := (t, m)) rfl rfl ?_
      refine r_eqr (r' := f_X12_isSame_l16 t m a0 a1 a2 a3 a5 a6) rfl ?_
      unfold f_X12_isSame_l16
      refine r_iload 9 18 5 rfl rfl rfl ?_
      refine r_iload_n 10 19 2 rfl rfl rfl rfl ?_
      refine r_icmp_ge 11 61 22 rfl rfl rfl (fun h2 => ?_) (fun h2 => ?_)
      · refine r_leaf (r2 := (f_X12_isSame_j61 t m a5 : Option (Int32))) (he16 _) ?_
        exact r_sub [4] rfl (hj61 a5)
      · refine r_iload 12 24 4 rfl rfl rfl ?_
        refine r_if_eq 13 61 27 rfl rfl rfl (fun h3 => ?_) (fun h3 => ?_)
        · refine r_leaf (r2 := (f_X12_isSame_j61 t m a5 : Option (Int32))) (he16 _) ?_
          exact r_sub [4] rfl (hj61 a5)
        · refine r_aload_n 14 28 0 rfl rfl rfl rfl ?_
          refine r_getR 15 31 rfl rfl fl_RX12_13 rfl h0 ?_
          refine r_iload_n 16 32 1 rfl rfl rfl rfl ?_
          refine r_iload 17 34 5 rfl rfl rfl ?_
          refine r_iadd 18 35 rfl rfl ?_
          refine r_gd (fun h4 => ?_)
          refine r_bald 19 36 rfl rfl h4 ?_
          refine r_aload_n 20 37 0 rfl rfl rfl rfl ?_
          refine r_getR 21 40 rfl rfl fl_RX12_13 rfl h0 ?_
          refine r_iload_n 22 41 3 rfl rfl rfl rfl ?_
          refine r_iload 23 43 5 rfl rfl rfl ?_
          refine r_iadd 24 44 rfl rfl ?_
          refine r_gd (fun h5 => ?_)
          refine r_bald 25 45 rfl rfl h5 ?_
          refine r_icmp_ne 26 52 48 rfl rfl rfl (fun h6 => ?_) (fun h6 => ?_)
          · refine r_iconst 27 49 (v := 1) rfl rfl (by decide) ?_
            refine r_goto 28 53 rfl rfl ?_
            refine r_istore 30 55 (L' := [(5, .inl 1), (0, .inr (.inr a0)), (1, .inl a1), (2, .inl a2), (3, .inl a3), (6, .inl a6)]) rfl rfl (by decide) rfl ?_
            refine r_iinc 31 58 5 (L' := [(6, .inl (a6 + 1)), (5, .inl 1), (0, .inr (.inr a0)), (1, .inl a1), (2, .inl a2), (3, .inl a3)]) rfl rfl rfl (by decide) rfl ?_
            refine r_ltV (fun x7 => ?_)
            refine r_goto 32 16 rfl rfl ?_
            exact r_sub [2, 3, 4, 5, 1, 0] rfl (hc16 (1, x7))
          · refine r_iconst 29 53 (v := 0) rfl rfl (by decide) ?_
            refine r_istore 30 55 (L' := [(5, .inl 0), (0, .inr (.inr a0)), (1, .inl a1), (2, .inl a2), (3, .inl a3), (6, .inl a6)]) rfl rfl (by decide) rfl ?_
            refine r_iinc 31 58 5 (L' := [(6, .inl (a6 + 1)), (5, .inl 0), (0, .inr (.inr a0)), (1, .inl a1), (2, .inl a2), (3, .inl a3)]) rfl rfl rfl (by decide) rfl ?_
            refine r_ltV (fun x8 => ?_)
            refine r_goto 32 16 rfl rfl ?_
            exact r_sub [2, 3, 4, 5, 1, 0] rfl (hc16 (0, x8))
    exact r_sub [2, 3, 4, 5, 1, 0] rfl (hj16 s0 0)
  refine r_icmp_ne 2 10 6 rfl rfl rfl (fun h9 => ?_) (fun h9 => ?_)
  · refine r_iconst 3 7 (v := 1) rfl rfl (by decide) ?_
    refine r_goto 4 11 rfl rfl ?_
    exact r_sub [0, 1, 2, 3] rfl (hj11 1)
  · refine r_iconst 5 11 (v := 0) rfl rfl (by decide) ?_
    exact r_sub [0, 1, 2, 3] rfl (hj11 0)
theorem ct_X12_isSame {t : List Sh} {m : Mi} {a0 : Nat} {a1 : Int32} {a2 : Int32} {a3 : Int32} {a4 : Int32} {v : Int32}  (h0 : sh t a0 = some (.inl 12)) (h : f_X12_isSame t m a0 a1 a2 a3 a4 = some v) : Ct u_X12_isSame 1 0 0 [.inr (.inr a0), .inl a1, .inl a2, .inl a3, .inl a4] (t, m) (some (.inl v), (t, m)) :=
  ct_of (by decide) tk_X12_isSame (Nat.le_of_ble_eq_true rfl) (sm_X12_isSame t m a0 a1 a2 a3 a4 h0) (by rw [h]; rfl) (Nat.le_refl _) (Nat.le_refl _)
def tb_X12_isSlot : Tb := [(0, (.iload_n 0, 1)), (1, (.ifCond .lt 13, 3)), (4, (.iload_n 0, 1)), (5, (.bipush 16, 2)), (7, (.if_icmp .ge 7, 3)), (10, (.iconst 1, 1)), (11, (.goto 4, 3)), (14, (.iconst 0, 1)), (15, (.ireturn, 1))]
def u_X12_isSlot : Fx := (yX12_isSlot, (cX12_isSlot, (1, ((some .boolean), tb_X12_isSlot))))
theorem tk_X12_isSlot : ∀ q ∈ u_X12_isSlot.2.2.2.2, decode u_X12_isSlot.2.1 q.1 = .ok q.2 := by decide +kernel
theorem mc_X12_isSlot : MC u_X12_isSlot 1 := ⟨tbm 1635 (by decide +kernel) rfl, tbm 128 (by decide +kernel) rfl, ⟨by decide, by decide, by decide +kernel⟩, by decide⟩
theorem st_X12_isSlot : Cond.static u_X12_isSlot.1 ∈ TB := tbm 1634 (by decide +kernel) rfl
def f_X12_isSlot (a0 : Int32) : Option (Int32) :=
  if a0 < 0 then
    some 0
  else
    if 16 ≤ a0 then
      some 0
    else
      some 1
set_option maxRecDepth 4000 in
set_option maxHeartbeats 4000000 in
theorem sm_X12_isSlot (t : List Sh) (m : Mi) (a0 : Int32) : Sm u_X12_isSlot (1, 0, 0, t.length, zs t) (kIo t m) 0 [(0, .inl a0)] [] (t, m) (f_X12_isSlot a0) := by
  unfold f_X12_isSlot
  refine r_iload_n 0 1 0 rfl rfl rfl rfl ?_
  refine r_if_lt 1 14 4 rfl rfl rfl (fun h1 => ?_) (fun h1 => ?_)
  · refine r_iconst 7 15 (v := 0) rfl rfl (by decide) ?_
    exact r_zret 8 rfl rfl (by decide) rfl
  · refine r_iload_n 2 5 0 rfl rfl rfl rfl ?_
    refine r_bipush 3 7 (v := 16) rfl rfl (by decide) ?_
    refine r_icmp_ge 4 14 10 rfl rfl rfl (fun h2 => ?_) (fun h2 => ?_)
    · refine r_iconst 7 15 (v := 0) rfl rfl (by decide) ?_
      exact r_zret 8 rfl rfl (by decide) rfl
    · refine r_iconst 5 11 (v := 1) rfl rfl (by decide) ?_
      refine r_goto 6 15 rfl rfl ?_
      exact r_zret 8 rfl rfl (by decide) rfl
theorem ct_X12_isSlot {t : List Sh} {m : Mi} {a0 : Int32} {v : Int32}  (h : f_X12_isSlot a0 = some v) : Ct u_X12_isSlot 1 0 0 [.inl a0] (t, m) (some (.inl v), (t, m)) :=
  ct_of (by decide) tk_X12_isSlot (Nat.le_of_ble_eq_true rfl) (sm_X12_isSlot t m a0) (by rw [h]; rfl) (Nat.le_refl _) (Nat.le_refl _)
def tb_X12_isSmall : Tb := [(0, (.iload_n 0, 1)), (1, (.bipush 97, 2)), (3, (.if_icmp .lt 13, 3)), (6, (.iload_n 0, 1)), (7, (.bipush 122, 2)), (9, (.if_icmp .gt 7, 3)), (12, (.iconst 1, 1)), (13, (.goto 4, 3)), (16, (.iconst 0, 1)), (17, (.ireturn, 1))]
def u_X12_isSmall : Fx := (yX12_isSmall, (cX12_isSmall, (1, ((some .boolean), tb_X12_isSmall))))
theorem tk_X12_isSmall : ∀ q ∈ u_X12_isSmall.2.2.2.2, decode u_X12_isSmall.2.1 q.1 = .ok q.2 := by decide +kernel
theorem mc_X12_isSmall : MC u_X12_isSmall 1 := ⟨tbm 1541 (by decide +kernel) rfl, tbm 128 (by decide +kernel) rfl, ⟨by decide, by decide, by decide +kernel⟩, by decide⟩
theorem st_X12_isSmall : Cond.static u_X12_isSmall.1 ∈ TB := tbm 1540 (by decide +kernel) rfl
def f_X12_isSmall (a0 : Int32) : Option (Int32) :=
  if a0 < 97 then
    some 0
  else
    if 122 < a0 then
      some 0
    else
      some 1
set_option maxRecDepth 4000 in
set_option maxHeartbeats 4000000 in
theorem sm_X12_isSmall (t : List Sh) (m : Mi) (a0 : Int32) : Sm u_X12_isSmall (1, 0, 0, t.length, zs t) (kIo t m) 0 [(0, .inl a0)] [] (t, m) (f_X12_isSmall a0) := by
  unfold f_X12_isSmall
  refine r_iload_n 0 1 0 rfl rfl rfl rfl ?_
  refine r_bipush 1 3 (v := 97) rfl rfl (by decide) ?_
  refine r_icmp_lt 2 16 6 rfl rfl rfl (fun h1 => ?_) (fun h1 => ?_)
  · refine r_iconst 8 17 (v := 0) rfl rfl (by decide) ?_
    exact r_zret 9 rfl rfl (by decide) rfl
  · refine r_iload_n 3 7 0 rfl rfl rfl rfl ?_
    refine r_bipush 4 9 (v := 122) rfl rfl (by decide) ?_
    refine r_icmp_gt 5 16 12 rfl rfl rfl (fun h2 => ?_) (fun h2 => ?_)
    · refine r_iconst 8 17 (v := 0) rfl rfl (by decide) ?_
      exact r_zret 9 rfl rfl (by decide) rfl
    · refine r_iconst 6 13 (v := 1) rfl rfl (by decide) ?_
      refine r_goto 7 17 rfl rfl ?_
      exact r_zret 9 rfl rfl (by decide) rfl
theorem ct_X12_isSmall {t : List Sh} {m : Mi} {a0 : Int32} {v : Int32}  (h : f_X12_isSmall a0 = some v) : Ct u_X12_isSmall 1 0 0 [.inl a0] (t, m) (some (.inl v), (t, m)) :=
  ct_of (by decide) tk_X12_isSmall (Nat.le_of_ble_eq_true rfl) (sm_X12_isSmall t m a0) (by rw [h]; rfl) (Nat.le_refl _) (Nat.le_refl _)
def tb_X12_joins : Tb := [(0, (.iload_n 0, 1)), (1, (.ifCond .ne 19, 3)), (4, (.iload_n 1, 1)), (5, (.ifCond .eq 11, 3)), (8, (.iload_n 2, 1)), (9, (.ifCond .eq 7, 3)), (12, (.iconst 1, 1)), (13, (.goto 41, 3)), (16, (.iconst 0, 1)), (17, (.goto 37, 3)), (20, (.iload_n 0, 1)), (21, (.iconst 1, 1)), (22, (.if_icmp .ne 19, 3)), (25, (.iload_n 1, 1)), (26, (.ifCond .ne 7, 3)), (29, (.iload_n 2, 1)), (30, (.ifCond .eq 7, 3)), (33, (.iconst 1, 1)), (34, (.goto 20, 3)), (37, (.iconst 0, 1)), (38, (.goto 16, 3)), (41, (.iload_n 1, 1)), (42, (.ifCond .eq 11, 3)), (45, (.iload_n 2, 1)), (46, (.ifCond .ne 7, 3)), (49, (.iconst 1, 1)), (50, (.goto 4, 3)), (53, (.iconst 0, 1)), (54, (.ireturn, 1))]
def u_X12_joins : Fx := (yX12_joins, (cX12_joins, (3, ((some .boolean), tb_X12_joins))))
theorem tk_X12_joins : ∀ q ∈ u_X12_joins.2.2.2.2, decode u_X12_joins.2.1 q.1 = .ok q.2 := by decide +kernel
theorem mc_X12_joins : MC u_X12_joins 3 := ⟨tbm 1616 (by decide +kernel) rfl, tbm 128 (by decide +kernel) rfl, ⟨by decide, by decide, by decide +kernel⟩, by decide⟩
theorem st_X12_joins : Cond.static u_X12_joins.1 ∈ TB := tbm 1615 (by decide +kernel) rfl
def f_X12_joins (a0 : Int32) (a1 : Int32) (a2 : Int32) : Option (Int32) :=
  if a0 = 0 then
    if a1 = 0 then
      some 0
    else
      if a2 = 0 then
        some 0
      else
        some 1
  else
    if a0 = 1 then
      if a1 = 0 then
        if a2 = 0 then
          some 0
        else
          some 1
      else
        some 1
    else
      if a1 = 0 then
        some 0
      else
        if a2 = 0 then
          some 1
        else
          some 0
set_option maxRecDepth 4000 in
set_option maxHeartbeats 4000000 in
theorem sm_X12_joins (t : List Sh) (m : Mi) (a0 : Int32) (a1 : Int32) (a2 : Int32) : Sm u_X12_joins (1, 0, 0, t.length, zs t) (kIo t m) 0 [(0, .inl a0), (1, .inl a1), (2, .inl a2)] [] (t, m) (f_X12_joins a0 a1 a2) := by
  unfold f_X12_joins
  refine r_iload_n 0 1 0 rfl rfl rfl rfl ?_
  refine r_if_ne 1 20 4 rfl rfl rfl (fun h1 => ?_) (fun h1 => ?_)
  · refine r_iload_n 2 5 1 rfl rfl rfl rfl ?_
    refine r_if_eq 3 16 8 rfl rfl rfl (fun h2 => ?_) (fun h2 => ?_)
    · refine r_iconst 8 17 (v := 0) rfl rfl (by decide) ?_
      refine r_goto 9 54 rfl rfl ?_
      exact r_zret 28 rfl rfl (by decide) rfl
    · refine r_iload_n 4 9 2 rfl rfl rfl rfl ?_
      refine r_if_eq 5 16 12 rfl rfl rfl (fun h3 => ?_) (fun h3 => ?_)
      · refine r_iconst 8 17 (v := 0) rfl rfl (by decide) ?_
        refine r_goto 9 54 rfl rfl ?_
        exact r_zret 28 rfl rfl (by decide) rfl
      · refine r_iconst 6 13 (v := 1) rfl rfl (by decide) ?_
        refine r_goto 7 54 rfl rfl ?_
        exact r_zret 28 rfl rfl (by decide) rfl
  · refine r_iload_n 10 21 0 rfl rfl rfl rfl ?_
    refine r_iconst 11 22 (v := 1) rfl rfl (by decide) ?_
    refine r_icmp_ne 12 41 25 rfl rfl rfl (fun h4 => ?_) (fun h4 => ?_)
    · refine r_iload_n 13 26 1 rfl rfl rfl rfl ?_
      refine r_if_ne 14 33 29 rfl rfl rfl (fun h5 => ?_) (fun h5 => ?_)
      · refine r_iload_n 15 30 2 rfl rfl rfl rfl ?_
        refine r_if_eq 16 37 33 rfl rfl rfl (fun h6 => ?_) (fun h6 => ?_)
        · refine r_iconst 19 38 (v := 0) rfl rfl (by decide) ?_
          refine r_goto 20 54 rfl rfl ?_
          exact r_zret 28 rfl rfl (by decide) rfl
        · refine r_iconst 17 34 (v := 1) rfl rfl (by decide) ?_
          refine r_goto 18 54 rfl rfl ?_
          exact r_zret 28 rfl rfl (by decide) rfl
      · refine r_iconst 17 34 (v := 1) rfl rfl (by decide) ?_
        refine r_goto 18 54 rfl rfl ?_
        exact r_zret 28 rfl rfl (by decide) rfl
    · refine r_iload_n 21 42 1 rfl rfl rfl rfl ?_
      refine r_if_eq 22 53 45 rfl rfl rfl (fun h7 => ?_) (fun h7 => ?_)
      · refine r_iconst 27 54 (v := 0) rfl rfl (by decide) ?_
        exact r_zret 28 rfl rfl (by decide) rfl
      · refine r_iload_n 23 46 2 rfl rfl rfl rfl ?_
        refine r_if_ne 24 53 49 rfl rfl rfl (fun h8 => ?_) (fun h8 => ?_)
        · refine r_iconst 25 50 (v := 1) rfl rfl (by decide) ?_
          refine r_goto 26 54 rfl rfl ?_
          exact r_zret 28 rfl rfl (by decide) rfl
        · refine r_iconst 27 54 (v := 0) rfl rfl (by decide) ?_
          exact r_zret 28 rfl rfl (by decide) rfl
theorem ct_X12_joins {t : List Sh} {m : Mi} {a0 : Int32} {a1 : Int32} {a2 : Int32} {v : Int32}  (h : f_X12_joins a0 a1 a2 = some v) : Ct u_X12_joins 1 0 0 [.inl a0, .inl a1, .inl a2] (t, m) (some (.inl v), (t, m)) :=
  ct_of (by decide) tk_X12_joins (Nat.le_of_ble_eq_true rfl) (sm_X12_joins t m a0 a1 a2) (by rw [h]; rfl) (Nat.le_refl _) (Nat.le_refl _)
theorem fl_RX12_91 : FL RX12 91 12 39 true := ⟨RX12, TX12, 61, rfl, inW12, tyX12_ok, nmX12, by decide, rfl, rfl, rfl, tbm 1366 (by decide +kernel) rfl⟩
theorem fl_RX12_95 : FL RX12 95 12 40 true := ⟨RX12, TX12, 61, rfl, inW12, tyX12_ok, nmX12, by decide, rfl, rfl, rfl, tbm 1367 (by decide +kernel) rfl⟩
def tb_X12_keepRange : Tb := [(0, (.sipush 288, 3)), (3, (.istore_n 2, 1)), (4, (.aload_n 0, 1)), (5, (.getfield 91, 3)), (8, (.iload_n 1, 1)), (9, (.aload_n 0, 1)), (10, (.getfield 20, 3)), (13, (.sipush 268, 3)), (16, (.iaload, 1)), (17, (.iastore, 1)), (18, (.iconst 0, 1)), (19, (.istore_n 3, 1)), (20, (.iload_n 3, 1)), (21, (.iload_n 2, 1)), (22, (.if_icmp .ge 31, 3)), (25, (.aload_n 0, 1)), (26, (.getfield 95, 3)), (29, (.iload_n 1, 1)), (30, (.iload_n 2, 1)), (31, (.imul, 1)), (32, (.iload_n 3, 1)), (33, (.iadd, 1)), (34, (.aload_n 0, 1)), (35, (.getfield 25, 3)), (38, (.sipush 268, 3)), (41, (.iload_n 2, 1)), (42, (.imul, 1)), (43, (.iload_n 3, 1)), (44, (.iadd, 1)), (45, (.laload, 1)), (46, (.lastore, 1)), (47, (.iinc 3 1, 3)), (50, (.goto (-30), 3)), (53, (.return_, 1))]
def u_X12_keepRange : Fx := (yX12_keepRange, (cX12_keepRange, (4, (none, tb_X12_keepRange))))
theorem tk_X12_keepRange : ∀ q ∈ u_X12_keepRange.2.2.2.2, decode u_X12_keepRange.2.1 q.1 = .ok q.2 := by decide +kernel
theorem mc_X12_keepRange : MC u_X12_keepRange 1 := ⟨tbm 1667 (by decide +kernel) rfl, tbm 128 (by decide +kernel) rfl, ⟨by decide, by decide, by decide +kernel⟩, by decide⟩
theorem in_X12_keepRange : Cond.instanceMethod u_X12_keepRange.1 ∈ TB ∧ Cond.selects u_X12_keepRange.1.cls u_X12_keepRange.1 u_X12_keepRange.1 ∈ TB := ⟨tbm 1666 (by decide +kernel) rfl, tbm 91 (by decide +kernel) rfl⟩
def f_X12_keepRange_j53 (t : List Sh) (m : Mi) : Option (Mi) :=
  some m
def f_X12_keepRange_l20 (t : List Sh) (m : Mi) (a0 : Nat) (a1 : Int32) (a2 : Int32) (a3 : Int32) : Option ((Int32 × Mi) ⊕ ((Mi))) :=
  if a2 ≤ a3 then
    some (.inr m)
  else
    (if ar t (gr m a0 8) .long ((268 * a2) + a3) = true then
    (if ar t (gr m a0 40) .long ((a1 * a2) + a3) = true then
    lt (sl m (gr m a0 40) (ix ((a1 * a2) + a3)) (gl m (gr m a0 8) (ix ((268 * a2) + a3)))) fun m7 =>
    lt (a3 + 1) fun x8 =>
    some (.inl (x8, m7))
    else none)
    else none)
def f_X12_keepRange_j20 (t : List Sh) (m : Mi) (a0 : Nat) (a1 : Int32) (a2 : Int32) (a3 : Int32) : Option (Mi) :=
  (lp (fun x : Int32 × Mi => f_X12_keepRange_l20 t x.2 a0 a1 a2 x.1) FUEL (a3, m)).bind (fun y : Mi => f_X12_keepRange_j53 t y)
def f_X12_keepRange (t : List Sh) (m : Mi) (a0 : Nat) (a1 : Int32) : Option (Mi) :=
  (if ar t (gr m a0 7) .int 268 = true then
  (if ar t (gr m a0 39) .int a1 = true then
  lt (si m (gr m a0 39) (ix a1) (gi m (gr m a0 7) (ix 268))) fun m3 =>
  f_X12_keepRange_j20 t m3 a0 a1 288 0
  else none)
  else none)
set_option maxRecDepth 4000 in
set_option maxHeartbeats 4000000 in
theorem sm_X12_keepRange (t : List Sh) (m : Mi) (a0 : Nat) (a1 : Int32) (h0 : sh t a0 = some (.inl 12)) : Sm u_X12_keepRange (1, 0, 0, t.length, zs t) (kV t) 0 [(0, .inr (.inr a0)), (1, .inl a1)] [] (t, m) (f_X12_keepRange t m a0 a1) := by
  unfold f_X12_keepRange
  refine r_sipush 0 3 (v := 288) rfl rfl (by decide) ?_
  refine r_istore_n 1 4 (L' := [(2, .inl 288), (0, .inr (.inr a0)), (1, .inl a1)]) rfl rfl rfl (by decide) rfl ?_
  refine r_aload_n 2 5 1 rfl rfl rfl rfl ?_
  refine r_getR 3 8 rfl rfl fl_RX12_91 rfl h0 ?_
  refine r_iload_n 4 9 2 rfl rfl rfl rfl ?_
  refine r_aload_n 5 10 1 rfl rfl rfl rfl ?_
  refine r_getR 6 13 rfl rfl fl_RX12_20 rfl h0 ?_
  refine r_sipush 7 16 (v := 268) rfl rfl (by decide) ?_
  refine r_gd (fun h1 => ?_)
  refine r_iald 8 17 rfl rfl h1 ?_
  refine r_gd (fun h2 => ?_)
  refine r_iast 9 18 rfl rfl h2 ?_
  refine r_ltM (fun m3 => ?_)
  refine r_iconst 10 19 (v := 0) rfl rfl (by decide) ?_
  refine r_istore_n 11 20 (L' := [(3, .inl 0), (2, .inl 288), (0, .inr (.inr a0)), (1, .inl a1)]) rfl rfl rfl (by decide) rfl ?_
  have hj20 : ∀ (m : Mi) (a2 : Int32) (a3 : Int32), Sm u_X12_keepRange (1, 0, 0, t.length, zs t) (kV t) 20 [(0, .inr (.inr a0)), (1, .inl a1), (2, .inl a2), (3, .inl a3)] [] (t, m) (f_X12_keepRange_j20 t m a0 a1 a2 a3) := by
    intro m a2 a3
    unfold f_X12_keepRange_j20
    have hj53 : ∀ (m : Mi), Sm u_X12_keepRange (1, 0, 0, t.length, zs t) (kV t) 53 [] [] (t, m) (f_X12_keepRange_j53 t m) := by
      intro m
      unfold f_X12_keepRange_j53
      exact r_vret 33 rfl rfl rfl
    refine r_lp (Lf := fun x : Int32 × Mi => [(0, .inr (.inr a0)), (1, .inl a1), (2, .inl a2), (3, .inl (x.1))]) (Mf := fun x : Int32 × Mi => (t, x.2)) (a3, m) ?_ FUEL
    rintro ⟨a3, m⟩ κ20 hc20 he20
    refine r_eq (L' := [(0, .inr (.inr a0)), (1, .inl a1), (2, .inl a2), (3, .inl a3)]) (M' := (t, m)) rfl rfl ?_
    refine r_eqr (r' := f_X12_keepRange_l20 t m a0 a1 a2 a3) rfl ?_
    unfold f_X12_keepRange_l20
    refine r_iload_n 12 21 3 rfl rfl rfl rfl ?_
    refine r_iload_n 13 22 2 rfl rfl rfl rfl ?_
    refine r_icmp_ge 14 53 25 rfl rfl rfl (fun h4 => ?_) (fun h4 => ?_)
    · refine r_leaf (r2 := (f_X12_keepRange_j53 t m : Option (Mi))) (he20 _) ?_
      exact r_sub [] rfl (hj53 m)
    · refine r_aload_n 15 26 0 rfl rfl rfl rfl ?_
      refine r_getR 16 29 rfl rfl fl_RX12_95 rfl h0 ?_
      refine r_iload_n 17 30 1 rfl rfl rfl rfl ?_
      refine r_iload_n 18 31 2 rfl rfl rfl rfl ?_
      refine r_imul 19 32 rfl rfl ?_
      refine r_iload_n 20 33 3 rfl rfl rfl rfl ?_
      refine r_iadd 21 34 rfl rfl ?_
      refine r_aload_n 22 35 0 rfl rfl rfl rfl ?_
      refine r_getR 23 38 rfl rfl fl_RX12_25 rfl h0 ?_
      refine r_sipush 24 41 (v := 268) rfl rfl (by decide) ?_
      refine r_iload_n 25 42 2 rfl rfl rfl rfl ?_
      refine r_imul 26 43 rfl rfl ?_
      refine r_iload_n 27 44 3 rfl rfl rfl rfl ?_
      refine r_iadd 28 45 rfl rfl ?_
      refine r_gd (fun h5 => ?_)
      refine r_lald 29 46 rfl rfl h5 ?_
      refine r_gd (fun h6 => ?_)
      refine r_last 30 47 rfl rfl h6 ?_
      refine r_ltM (fun m7 => ?_)
      refine r_iinc 31 50 3 (L' := [(3, .inl (a3 + 1)), (0, .inr (.inr a0)), (1, .inl a1), (2, .inl a2)]) rfl rfl rfl (by decide) rfl ?_
      refine r_ltV (fun x8 => ?_)
      refine r_goto 32 20 rfl rfl ?_
      exact r_sub [1, 2, 3, 0] rfl (hc20 (x8, m7))
  exact r_sub [2, 3, 1, 0] rfl (hj20 m3 288 0)
theorem ct_X12_keepRange {t : List Sh} {m : Mi} {a0 : Nat} {a1 : Int32} {m' : Mi}  (h0 : sh t a0 = some (.inl 12)) (h : f_X12_keepRange t m a0 a1 = some m') : Ct u_X12_keepRange 1 0 0 [.inr (.inr a0), .inl a1] (t, m) (none, (t, m')) :=
  ct_of (by decide) tk_X12_keepRange (Nat.le_of_ble_eq_true rfl) (sm_X12_keepRange t m a0 a1 h0) (by rw [h]; rfl) (Nat.le_refl _) (Nat.le_refl _)
def tb_X12_next : Tb := [(0, (.aload_n 0, 1)), (1, (.iload_n 1, 1)), (2, (.iconst 3, 1)), (3, (.iadd, 1)), (4, (.laload, 1)), (5, (.l2i, 1)), (6, (.istore_n 2, 1)), (7, (.iload_n 2, 1)), (8, (.ifCond .ne 28, 3)), (11, (.aload_n 0, 1)), (12, (.iload_n 1, 1)), (13, (.iconst 2, 1)), (14, (.iadd, 1)), (15, (.aload_n 0, 1)), (16, (.iload_n 1, 1)), (17, (.iconst 2, 1)), (18, (.iadd, 1)), (19, (.laload, 1)), (20, (.lconst 1, 1)), (21, (.ladd, 1)), (22, (.lastore, 1)), (23, (.aload_n 0, 1)), (24, (.iload_n 1, 1)), (25, (.iconst 3, 1)), (26, (.iadd, 1)), (27, (.lconst 1, 1)), (28, (.lastore, 1)), (29, (.aload_n 0, 1)), (30, (.iload_n 1, 1)), (31, (.iconst 4, 1)), (32, (.iadd, 1)), (33, (.lconst 0, 1)), (34, (.lastore, 1)), (35, (.return_, 1)), (36, (.aload_n 0, 1)), (37, (.iload_n 1, 1)), (38, (.iconst 3, 1)), (39, (.iadd, 1)), (40, (.iload_n 2, 1)), (41, (.iconst 1, 1)), (42, (.iadd, 1)), (43, (.i2l, 1)), (44, (.lastore, 1)), (45, (.aload_n 0, 1)), (46, (.iload_n 1, 1)), (47, (.iconst 4, 1)), (48, (.iadd, 1)), (49, (.iload_n 2, 1)), (50, (.iadd, 1)), (51, (.lconst 0, 1)), (52, (.lastore, 1)), (53, (.return_, 1))]
def u_X12_next : Fx := (yX12_next, (cX12_next, (3, (none, tb_X12_next))))
theorem tk_X12_next : ∀ q ∈ u_X12_next.2.2.2.2, decode u_X12_next.2.1 q.1 = .ok q.2 := by decide +kernel
theorem mc_X12_next : MC u_X12_next 2 := ⟨tbm 1598 (by decide +kernel) rfl, tbm 128 (by decide +kernel) rfl, ⟨by decide, by decide, by decide +kernel⟩, by decide⟩
theorem st_X12_next : Cond.static u_X12_next.1 ∈ TB := tbm 1597 (by decide +kernel) rfl
def f_X12_next (t : List Sh) (m : Mi) (a0 : Nat) (a1 : Int32) : Option (Mi) :=
  (if ar t a0 .long (a1 + 3) = true then
  lt (Int64.toInt32 (gl m a0 (ix (a1 + 3)))) fun x2 =>
  if x2 = 0 then
    (if ar t a0 .long (a1 + 2) = true then
    lt (sl m a0 (ix (a1 + 2)) ((gl m a0 (ix (a1 + 2))) + 1)) fun m5 =>
    lt (sl m5 a0 (ix (a1 + 3)) 1) fun m6 =>
    (if ar t a0 .long (a1 + 4) = true then
    lt (sl m6 a0 (ix (a1 + 4)) 0) fun m8 =>
    some m8
    else none)
    else none)
  else
    lt (sl m a0 (ix (a1 + 3)) (Int32.toInt64 (x2 + 1))) fun m9 =>
    (if ar t a0 .long ((a1 + 4) + x2) = true then
    lt (sl m9 a0 (ix ((a1 + 4) + x2)) 0) fun m11 =>
    some m11
    else none)
  else none)
set_option maxRecDepth 4000 in
set_option maxHeartbeats 4000000 in
theorem sm_X12_next (t : List Sh) (m : Mi) (a0 : Nat) (a1 : Int32) : Sm u_X12_next (1, 0, 0, t.length, zs t) (kV t) 0 [(0, .inr (.inr a0)), (1, .inl a1)] [] (t, m) (f_X12_next t m a0 a1) := by
  unfold f_X12_next
  refine r_aload_n 0 1 0 rfl rfl rfl rfl ?_
  refine r_iload_n 1 2 1 rfl rfl rfl rfl ?_
  refine r_iconst 2 3 (v := 3) rfl rfl (by decide) ?_
  refine r_iadd 3 4 rfl rfl ?_
  refine r_gd (fun h1 => ?_)
  refine r_lald 4 5 rfl rfl h1 ?_
  refine r_l2i 5 6 rfl rfl ?_
  refine r_ltI (fun x2 => ?_)
  refine r_istore_n 6 7 (L' := [(2, .inl x2), (0, .inr (.inr a0)), (1, .inl a1)]) rfl rfl rfl (by decide) rfl ?_
  refine r_iload_n 7 8 0 rfl rfl rfl rfl ?_
  refine r_if_ne 8 36 11 rfl rfl rfl (fun h3 => ?_) (fun h3 => ?_)
  · refine r_aload_n 9 12 1 rfl rfl rfl rfl ?_
    refine r_iload_n 10 13 2 rfl rfl rfl rfl ?_
    refine r_iconst 11 14 (v := 2) rfl rfl (by decide) ?_
    refine r_iadd 12 15 rfl rfl ?_
    refine r_aload_n 13 16 1 rfl rfl rfl rfl ?_
    refine r_iload_n 14 17 2 rfl rfl rfl rfl ?_
    refine r_iconst 15 18 (v := 2) rfl rfl (by decide) ?_
    refine r_iadd 16 19 rfl rfl ?_
    refine r_gd (fun h4 => ?_)
    refine r_lald 17 20 rfl rfl h4 ?_
    refine r_lconst 18 21 (v := 1) rfl rfl (by decide) ?_
    refine r_ladd 19 22 rfl rfl ?_
    refine r_last 20 23 rfl rfl h4 ?_
    refine r_ltM (fun m5 => ?_)
    refine r_aload_n 21 24 1 rfl rfl rfl rfl ?_
    refine r_iload_n 22 25 2 rfl rfl rfl rfl ?_
    refine r_iconst 23 26 (v := 3) rfl rfl (by decide) ?_
    refine r_iadd 24 27 rfl rfl ?_
    refine r_lconst 25 28 (v := 1) rfl rfl (by decide) ?_
    refine r_last 26 29 rfl rfl h1 ?_
    refine r_ltM (fun m6 => ?_)
    refine r_aload_n 27 30 1 rfl rfl rfl rfl ?_
    refine r_iload_n 28 31 2 rfl rfl rfl rfl ?_
    refine r_iconst 29 32 (v := 4) rfl rfl (by decide) ?_
    refine r_iadd 30 33 rfl rfl ?_
    refine r_lconst 31 34 (v := 0) rfl rfl (by decide) ?_
    refine r_gd (fun h7 => ?_)
    refine r_last 32 35 rfl rfl h7 ?_
    refine r_ltM (fun m8 => ?_)
    exact r_vret 33 rfl rfl rfl
  · refine r_aload_n 34 37 1 rfl rfl rfl rfl ?_
    refine r_iload_n 35 38 2 rfl rfl rfl rfl ?_
    refine r_iconst 36 39 (v := 3) rfl rfl (by decide) ?_
    refine r_iadd 37 40 rfl rfl ?_
    refine r_iload_n 38 41 0 rfl rfl rfl rfl ?_
    refine r_iconst 39 42 (v := 1) rfl rfl (by decide) ?_
    refine r_iadd 40 43 rfl rfl ?_
    refine r_i2l 41 44 rfl rfl ?_
    refine r_last 42 45 rfl rfl h1 ?_
    refine r_ltM (fun m9 => ?_)
    refine r_aload_n 43 46 1 rfl rfl rfl rfl ?_
    refine r_iload_n 44 47 2 rfl rfl rfl rfl ?_
    refine r_iconst 45 48 (v := 4) rfl rfl (by decide) ?_
    refine r_iadd 46 49 rfl rfl ?_
    refine r_iload_n 47 50 0 rfl rfl rfl rfl ?_
    refine r_iadd 48 51 rfl rfl ?_
    refine r_lconst 49 52 (v := 0) rfl rfl (by decide) ?_
    refine r_gd (fun h10 => ?_)
    refine r_last 50 53 rfl rfl h10 ?_
    refine r_ltM (fun m11 => ?_)
    exact r_vret 51 rfl rfl rfl
theorem ct_X12_next {t : List Sh} {m : Mi} {a0 : Nat} {a1 : Int32} {m' : Mi}  (h : f_X12_next t m a0 a1 = some m') : Ct u_X12_next 1 0 0 [.inr (.inr a0), .inl a1] (t, m) (none, (t, m')) :=
  ct_of (by decide) tk_X12_next (Nat.le_of_ble_eq_true rfl) (sm_X12_next t m a0 a1) (by rw [h]; rfl) (Nat.le_refl _) (Nat.le_refl _)
theorem kc_RX12_197 : Cond.constantLong RX12 197 (1099511627776) ∈ TB := tbm 1326 (by decide +kernel) rfl
def tb_X12_none : Tb := [(0, (.iconst 0, 1)), (1, (.istore_n 3, 1)), (2, (.iload_n 3, 1)), (3, (.bipush 9, 2)), (5, (.if_icmp .ge 15, 3)), (8, (.aload_n 1, 1)), (9, (.iload_n 2, 1)), (10, (.iload_n 3, 1)), (11, (.iadd, 1)), (12, (.lconst 0, 1)), (13, (.lastore, 1)), (14, (.iinc 3 1, 3)), (17, (.goto (-15), 3)), (20, (.aload_n 1, 1)), (21, (.iload_n 2, 1)), (22, (.ldc2_w 197, 3)), (25, (.lastore, 1)), (26, (.return_, 1))]
def u_X12_none : Fx := (yX12_none, (cX12_none, (4, (none, tb_X12_none))))
theorem tk_X12_none : ∀ q ∈ u_X12_none.2.2.2.2, decode u_X12_none.2.1 q.1 = .ok q.2 := by decide +kernel
theorem mc_X12_none : MC u_X12_none 2 := ⟨tbm 1325 (by decide +kernel) rfl, tbm 128 (by decide +kernel) rfl, ⟨by decide, by decide, by decide +kernel⟩, by decide⟩
theorem in_X12_none : Cond.instanceMethod u_X12_none.1 ∈ TB ∧ Cond.selects u_X12_none.1.cls u_X12_none.1 u_X12_none.1 ∈ TB := ⟨tbm 1324 (by decide +kernel) rfl, tbm 66 (by decide +kernel) rfl⟩
def f_X12_none_j20 (t : List Sh) (m : Mi) (a1 : Nat) (a2 : Int32) : Option (Mi) :=
  (if ar t a1 .long a2 = true then
  lt (sl m a1 (ix a2) 1099511627776) fun m2 =>
  some m2
  else none)
def f_X12_none_l2 (t : List Sh) (m : Mi) (a1 : Nat) (a2 : Int32) (a3 : Int32) : Option ((Int32 × Mi) ⊕ ((Mi))) :=
  if 9 ≤ a3 then
    some (.inr m)
  else
    (if ar t a1 .long (a2 + a3) = true then
    lt (sl m a1 (ix (a2 + a3)) 0) fun m5 =>
    lt (a3 + 1) fun x6 =>
    some (.inl (x6, m5))
    else none)
def f_X12_none_j2 (t : List Sh) (m : Mi) (a1 : Nat) (a2 : Int32) (a3 : Int32) : Option (Mi) :=
  (lp (fun x : Int32 × Mi => f_X12_none_l2 t x.2 a1 a2 x.1) FUEL (a3, m)).bind (fun y : Mi => f_X12_none_j20 t y a1 a2)
def f_X12_none (t : List Sh) (m : Mi) (a0 : Nat) (a1 : Nat) (a2 : Int32) : Option (Mi) :=
  f_X12_none_j2 t m a1 a2 0
set_option maxRecDepth 4000 in
set_option maxHeartbeats 4000000 in
theorem sm_X12_none (t : List Sh) (m : Mi) (a0 : Nat) (a1 : Nat) (a2 : Int32) (h0 : sh t a0 = some (.inl 12)) : Sm u_X12_none (1, 0, 0, t.length, zs t) (kV t) 0 [(0, .inr (.inr a0)), (1, .inr (.inr a1)), (2, .inl a2)] [] (t, m) (f_X12_none t m a0 a1 a2) := by
  unfold f_X12_none
  refine r_iconst 0 1 (v := 0) rfl rfl (by decide) ?_
  refine r_istore_n 1 2 (L' := [(3, .inl 0), (0, .inr (.inr a0)), (1, .inr (.inr a1)), (2, .inl a2)]) rfl rfl rfl (by decide) rfl ?_
  have hj2 : ∀ (m : Mi) (a3 : Int32), Sm u_X12_none (1, 0, 0, t.length, zs t) (kV t) 2 [(1, .inr (.inr a1)), (2, .inl a2), (3, .inl a3)] [] (t, m) (f_X12_none_j2 t m a1 a2 a3) := by
    intro m a3
    unfold f_X12_none_j2
    have hj20 : ∀ (m : Mi), Sm u_X12_none (1, 0, 0, t.length, zs t) (kV t) 20 [(1, .inr (.inr a1)), (2, .inl a2)] [] (t, m) (f_X12_none_j20 t m a1 a2) := by
      intro m
      unfold f_X12_none_j20
      refine r_aload_n 13 21 0 rfl rfl rfl rfl ?_
      refine r_iload_n 14 22 1 rfl rfl rfl rfl ?_
      refine r_ldc2 15 25 rfl rfl kc_RX12_197 ?_
      refine r_gd (fun h1 => ?_)
      refine r_last 16 26 rfl rfl h1 ?_
      refine r_ltM (fun m2 => ?_)
      exact r_vret 17 rfl rfl rfl
    refine r_lp (Lf := fun x : Int32 × Mi => [(1, .inr (.inr a1)), (2, .inl a2), (3, .inl (x.1))]) (Mf := fun x : Int32 × Mi => (t, x.2)) (a3, m) ?_ FUEL
    rintro ⟨a3, m⟩ κ2 hc2 he2
    refine r_eq (L' := [(1, .inr (.inr a1)), (2, .inl a2), (3, .inl a3)]) (M' := (t, m)) rfl rfl ?_
    refine r_eqr (r' := f_X12_none_l2 t m a1 a2 a3) rfl ?_
    unfold f_X12_none_l2
    refine r_iload_n 2 3 2 rfl rfl rfl rfl ?_
    refine r_bipush 3 5 (v := 9) rfl rfl (by decide) ?_
    refine r_icmp_ge 4 20 8 rfl rfl rfl (fun h3 => ?_) (fun h3 => ?_)
    · refine r_leaf (r2 := (f_X12_none_j20 t m a1 a2 : Option (Mi))) (he2 _) ?_
      exact r_sub [0, 1] rfl (hj20 m)
    · refine r_aload_n 5 9 0 rfl rfl rfl rfl ?_
      refine r_iload_n 6 10 1 rfl rfl rfl rfl ?_
      refine r_iload_n 7 11 2 rfl rfl rfl rfl ?_
      refine r_iadd 8 12 rfl rfl ?_
      refine r_lconst 9 13 (v := 0) rfl rfl (by decide) ?_
      refine r_gd (fun h4 => ?_)
      refine r_last 10 14 rfl rfl h4 ?_
      refine r_ltM (fun m5 => ?_)
      refine r_iinc 11 17 2 (L' := [(3, .inl (a3 + 1)), (1, .inr (.inr a1)), (2, .inl a2)]) rfl rfl rfl (by decide) rfl ?_
      refine r_ltV (fun x6 => ?_)
      refine r_goto 12 2 rfl rfl ?_
      exact r_sub [1, 2, 0] rfl (hc2 (x6, m5))
  exact r_sub [2, 3, 0] rfl (hj2 m 0)
theorem ct_X12_none {t : List Sh} {m : Mi} {a0 : Nat} {a1 : Nat} {a2 : Int32} {m' : Mi}  (h0 : sh t a0 = some (.inl 12)) (h : f_X12_none t m a0 a1 a2 = some m') : Ct u_X12_none 1 0 0 [.inr (.inr a0), .inr (.inr a1), .inl a2] (t, m) (none, (t, m')) :=
  ct_of (by decide) tk_X12_none (Nat.le_of_ble_eq_true rfl) (sm_X12_none t m a0 a1 a2 h0) (by rw [h]; rfl) (Nat.le_refl _) (Nat.le_refl _)
theorem fl_RX12_399 : FL RX12 399 12 60 false := ⟨RX12, TX12, 61, rfl, inW12, tyX12_ok, nmX12, by decide, rfl, rfl, rfl, tbm 1387 (by decide +kernel) rfl⟩
theorem fl_RX12_138 : FL RX12 138 12 59 true := ⟨RX12, TX12, 61, rfl, inW12, tyX12_ok, nmX12, by decide, rfl, rfl, rfl, tbm 1386 (by decide +kernel) rfl⟩
def tb_X12_octet : Tb := [(0, (.iload_n 1, 1)), (1, (.ifCond .lt 24, 3)), (4, (.iload_n 1, 1)), (5, (.aload_n 0, 1)), (6, (.getfield 399, 3)), (9, (.if_icmp .ge 16, 3)), (12, (.aload_n 0, 1)), (13, (.getfield 138, 3)), (16, (.iload_n 1, 1)), (17, (.baload, 1)), (18, (.sipush 255, 3)), (21, (.iand, 1)), (22, (.goto 4, 3)), (25, (.iconst (-1), 1)), (26, (.ireturn, 1))]
def u_X12_octet : Fx := (yX12_octet, (cX12_octet, (2, ((some .int), tb_X12_octet))))
theorem tk_X12_octet : ∀ q ∈ u_X12_octet.2.2.2.2, decode u_X12_octet.2.1 q.1 = .ok q.2 := by decide +kernel
theorem mc_X12_octet : MC u_X12_octet 1 := ⟨tbm 1791 (by decide +kernel) rfl, tbm 128 (by decide +kernel) rfl, ⟨by decide, by decide, by decide +kernel⟩, by decide⟩
theorem in_X12_octet : Cond.instanceMethod u_X12_octet.1 ∈ TB ∧ Cond.selects u_X12_octet.1.cls u_X12_octet.1 u_X12_octet.1 ∈ TB := ⟨tbm 1789 (by decide +kernel) rfl, tbm 1790 (by decide +kernel) rfl⟩
def f_X12_octet (t : List Sh) (m : Mi) (a0 : Nat) (a1 : Int32) : Option (Int32) :=
  if a1 < 0 then
    some (-1)
  else
    if (gi m a0 60) ≤ a1 then
      some (-1)
    else
      (if ar t (gr m a0 59) .byte a1 = true then
      some ((gi m (gr m a0 59) (ix a1)) &&& 255)
      else none)
set_option maxRecDepth 4000 in
set_option maxHeartbeats 4000000 in
theorem sm_X12_octet (t : List Sh) (m : Mi) (a0 : Nat) (a1 : Int32) (h0 : sh t a0 = some (.inl 12)) : Sm u_X12_octet (1, 0, 0, t.length, zs t) (kIo t m) 0 [(0, .inr (.inr a0)), (1, .inl a1)] [] (t, m) (f_X12_octet t m a0 a1) := by
  unfold f_X12_octet
  refine r_iload_n 0 1 1 rfl rfl rfl rfl ?_
  refine r_if_lt 1 25 4 rfl rfl rfl (fun h1 => ?_) (fun h1 => ?_)
  · refine r_iconst 13 26 (v := (-1)) rfl rfl (by decide) ?_
    exact r_iret 14 rfl rfl rfl
  · refine r_iload_n 2 5 1 rfl rfl rfl rfl ?_
    refine r_aload_n 3 6 0 rfl rfl rfl rfl ?_
    refine r_getI 4 9 rfl rfl fl_RX12_399 rfl h0 ?_
    refine r_icmp_ge 5 25 12 rfl rfl rfl (fun h2 => ?_) (fun h2 => ?_)
    · refine r_iconst 13 26 (v := (-1)) rfl rfl (by decide) ?_
      exact r_iret 14 rfl rfl rfl
    · refine r_aload_n 6 13 0 rfl rfl rfl rfl ?_
      refine r_getR 7 16 rfl rfl fl_RX12_138 rfl h0 ?_
      refine r_iload_n 8 17 1 rfl rfl rfl rfl ?_
      refine r_gd (fun h3 => ?_)
      refine r_bald 9 18 rfl rfl h3 ?_
      refine r_sipush 10 21 (v := 255) rfl rfl (by decide) ?_
      refine r_iand 11 22 rfl rfl ?_
      refine r_goto 12 26 rfl rfl ?_
      exact r_iret 14 rfl rfl rfl
theorem ct_X12_octet {t : List Sh} {m : Mi} {a0 : Nat} {a1 : Int32} {v : Int32}  (h0 : sh t a0 = some (.inl 12)) (h : f_X12_octet t m a0 a1 = some v) : Ct u_X12_octet 1 0 0 [.inr (.inr a0), .inl a1] (t, m) (some (.inl v), (t, m)) :=
  ct_of (by decide) tk_X12_octet (Nat.le_of_ble_eq_true rfl) (sm_X12_octet t m a0 a1 h0) (by rw [h]; rfl) (Nat.le_refl _) (Nat.le_refl _)
def tb_X12_pair : Tb := [(0, (.bipush 7, 2)), (2, (.iload_n 0, 1)), (3, (.imul, 1)), (4, (.iload_n 1, 1)), (5, (.iadd, 1)), (6, (.bipush 10, 2)), (8, (.imul, 1)), (9, (.iload_n 2, 1)), (10, (.iadd, 1)), (11, (.ireturn, 1))]
def u_X12_pair : Fx := (yX12_pair, (cX12_pair, (3, ((some .int), tb_X12_pair))))
theorem tk_X12_pair : ∀ q ∈ u_X12_pair.2.2.2.2, decode u_X12_pair.2.1 q.1 = .ok q.2 := by decide +kernel
theorem mc_X12_pair : MC u_X12_pair 3 := ⟨tbm 1706 (by decide +kernel) rfl, tbm 128 (by decide +kernel) rfl, ⟨by decide, by decide, by decide +kernel⟩, by decide⟩
theorem st_X12_pair : Cond.static u_X12_pair.1 ∈ TB := tbm 1705 (by decide +kernel) rfl
def f_X12_pair (a0 : Int32) (a1 : Int32) (a2 : Int32) : Option (Int32) :=
  some ((((7 * a0) + a1) * 10) + a2)
set_option maxRecDepth 4000 in
set_option maxHeartbeats 4000000 in
theorem sm_X12_pair (t : List Sh) (m : Mi) (a0 : Int32) (a1 : Int32) (a2 : Int32) : Sm u_X12_pair (1, 0, 0, t.length, zs t) (kIo t m) 0 [(0, .inl a0), (1, .inl a1), (2, .inl a2)] [] (t, m) (f_X12_pair a0 a1 a2) := by
  unfold f_X12_pair
  refine r_bipush 0 2 (v := 7) rfl rfl (by decide) ?_
  refine r_iload_n 1 3 0 rfl rfl rfl rfl ?_
  refine r_imul 2 4 rfl rfl ?_
  refine r_iload_n 3 5 1 rfl rfl rfl rfl ?_
  refine r_iadd 4 6 rfl rfl ?_
  refine r_bipush 5 8 (v := 10) rfl rfl (by decide) ?_
  refine r_imul 6 9 rfl rfl ?_
  refine r_iload_n 7 10 2 rfl rfl rfl rfl ?_
  refine r_iadd 8 11 rfl rfl ?_
  exact r_iret 9 rfl rfl rfl
theorem ct_X12_pair {t : List Sh} {m : Mi} {a0 : Int32} {a1 : Int32} {a2 : Int32} {v : Int32}  (h : f_X12_pair a0 a1 a2 = some v) : Ct u_X12_pair 1 0 0 [.inl a0, .inl a1, .inl a2] (t, m) (some (.inl v), (t, m)) :=
  ct_of (by decide) tk_X12_pair (Nat.le_of_ble_eq_true rfl) (sm_X12_pair t m a0 a1 a2) (by rw [h]; rfl) (Nat.le_refl _) (Nat.le_refl _)
theorem fl_RX12_343 : FL RX12 343 12 50 false := ⟨RX12, TX12, 61, rfl, inW12, tyX12_ok, nmX12, by decide, rfl, rfl, rfl, tbm 1377 (by decide +kernel) rfl⟩
theorem fl_RX12_129 : FL RX12 129 12 55 true := ⟨RX12, TX12, 61, rfl, inW12, tyX12_ok, nmX12, by decide, rfl, rfl, rfl, tbm 1382 (by decide +kernel) rfl⟩
def tb_X12_reason : Tb := [(0, (.iload_n 1, 1)), (1, (.ifCond .lt 20, 3)), (4, (.iload_n 1, 1)), (5, (.aload_n 0, 1)), (6, (.getfield 343, 3)), (9, (.if_icmp .ge 12, 3)), (12, (.aload_n 0, 1)), (13, (.getfield 129, 3)), (16, (.iload_n 1, 1)), (17, (.iaload, 1)), (18, (.goto 4, 3)), (21, (.iconst (-1), 1)), (22, (.ireturn, 1))]
def u_X12_reason : Fx := (yX12_reason, (cX12_reason, (2, ((some .int), tb_X12_reason))))
theorem tk_X12_reason : ∀ q ∈ u_X12_reason.2.2.2.2, decode u_X12_reason.2.1 q.1 = .ok q.2 := by decide +kernel
theorem mc_X12_reason : MC u_X12_reason 1 := ⟨tbm 1737 (by decide +kernel) rfl, tbm 128 (by decide +kernel) rfl, ⟨by decide, by decide, by decide +kernel⟩, by decide⟩
theorem in_X12_reason : Cond.instanceMethod u_X12_reason.1 ∈ TB ∧ Cond.selects u_X12_reason.1.cls u_X12_reason.1 u_X12_reason.1 ∈ TB := ⟨tbm 1735 (by decide +kernel) rfl, tbm 1736 (by decide +kernel) rfl⟩
def f_X12_reason (t : List Sh) (m : Mi) (a0 : Nat) (a1 : Int32) : Option (Int32) :=
  if a1 < 0 then
    some (-1)
  else
    if (gi m a0 50) ≤ a1 then
      some (-1)
    else
      (if ar t (gr m a0 55) .int a1 = true then
      some (gi m (gr m a0 55) (ix a1))
      else none)
set_option maxRecDepth 4000 in
set_option maxHeartbeats 4000000 in
theorem sm_X12_reason (t : List Sh) (m : Mi) (a0 : Nat) (a1 : Int32) (h0 : sh t a0 = some (.inl 12)) : Sm u_X12_reason (1, 0, 0, t.length, zs t) (kIo t m) 0 [(0, .inr (.inr a0)), (1, .inl a1)] [] (t, m) (f_X12_reason t m a0 a1) := by
  unfold f_X12_reason
  refine r_iload_n 0 1 1 rfl rfl rfl rfl ?_
  refine r_if_lt 1 21 4 rfl rfl rfl (fun h1 => ?_) (fun h1 => ?_)
  · refine r_iconst 11 22 (v := (-1)) rfl rfl (by decide) ?_
    exact r_iret 12 rfl rfl rfl
  · refine r_iload_n 2 5 1 rfl rfl rfl rfl ?_
    refine r_aload_n 3 6 0 rfl rfl rfl rfl ?_
    refine r_getI 4 9 rfl rfl fl_RX12_343 rfl h0 ?_
    refine r_icmp_ge 5 21 12 rfl rfl rfl (fun h2 => ?_) (fun h2 => ?_)
    · refine r_iconst 11 22 (v := (-1)) rfl rfl (by decide) ?_
      exact r_iret 12 rfl rfl rfl
    · refine r_aload_n 6 13 0 rfl rfl rfl rfl ?_
      refine r_getR 7 16 rfl rfl fl_RX12_129 rfl h0 ?_
      refine r_iload_n 8 17 1 rfl rfl rfl rfl ?_
      refine r_gd (fun h3 => ?_)
      refine r_iald 9 18 rfl rfl h3 ?_
      refine r_goto 10 22 rfl rfl ?_
      exact r_iret 12 rfl rfl rfl
theorem ct_X12_reason {t : List Sh} {m : Mi} {a0 : Nat} {a1 : Int32} {v : Int32}  (h0 : sh t a0 = some (.inl 12)) (h : f_X12_reason t m a0 a1 = some v) : Ct u_X12_reason 1 0 0 [.inr (.inr a0), .inl a1] (t, m) (some (.inl v), (t, m)) :=
  ct_of (by decide) tk_X12_reason (Nat.le_of_ble_eq_true rfl) (sm_X12_reason t m a0 a1 h0) (by rw [h]; rfl) (Nat.le_refl _) (Nat.le_refl _)
def tb_X12_says : Tb := [(0, (.aload_n 0, 1)), (1, (.getfield 138, 3)), (4, (.aload_n 0, 1)), (5, (.getfield 399, 3)), (8, (.iload_n 1, 1)), (9, (.i2b, 1)), (10, (.bastore, 1)), (11, (.aload_n 0, 1)), (12, (.aload_n 0, 1)), (13, (.getfield 399, 3)), (16, (.iconst 1, 1)), (17, (.iadd, 1)), (18, (.putfield 399, 3)), (21, (.return_, 1))]
def u_X12_says : Fx := (yX12_says, (cX12_says, (2, (none, tb_X12_says))))
theorem tk_X12_says : ∀ q ∈ u_X12_says.2.2.2.2, decode u_X12_says.2.1 q.1 = .ok q.2 := by decide +kernel
theorem mc_X12_says : MC u_X12_says 1 := ⟨tbm 1762 (by decide +kernel) rfl, tbm 128 (by decide +kernel) rfl, ⟨by decide, by decide, by decide +kernel⟩, by decide⟩
theorem in_X12_says : Cond.instanceMethod u_X12_says.1 ∈ TB ∧ Cond.selects u_X12_says.1.cls u_X12_says.1 u_X12_says.1 ∈ TB := ⟨tbm 1761 (by decide +kernel) rfl, tbm 106 (by decide +kernel) rfl⟩
def f_X12_says (t : List Sh) (m : Mi) (a0 : Nat) (a1 : Int32) : Option (Mi) :=
  (if ar t (gr m a0 59) .byte (gi m a0 60) = true then
  lt (si m (gr m a0 59) (ix (gi m a0 60)) (vp_nar .byte ((Int32.toInt8 a1).toInt32))) fun m2 =>
  lt (si m2 a0 60 ((gi m2 a0 60) + 1)) fun m3 =>
  some m3
  else none)
set_option maxRecDepth 4000 in
set_option maxHeartbeats 4000000 in
theorem sm_X12_says (t : List Sh) (m : Mi) (a0 : Nat) (a1 : Int32) (h0 : sh t a0 = some (.inl 12)) : Sm u_X12_says (1, 0, 0, t.length, zs t) (kV t) 0 [(0, .inr (.inr a0)), (1, .inl a1)] [] (t, m) (f_X12_says t m a0 a1) := by
  unfold f_X12_says
  refine r_aload_n 0 1 0 rfl rfl rfl rfl ?_
  refine r_getR 1 4 rfl rfl fl_RX12_138 rfl h0 ?_
  refine r_aload_n 2 5 0 rfl rfl rfl rfl ?_
  refine r_getI 3 8 rfl rfl fl_RX12_399 rfl h0 ?_
  refine r_iload_n 4 9 1 rfl rfl rfl rfl ?_
  refine r_i2b 5 10 rfl rfl ?_
  refine r_gd (fun h1 => ?_)
  refine r_bast 6 11 rfl rfl h1 ?_
  refine r_ltM (fun m2 => ?_)
  refine r_aload_n 7 12 0 rfl rfl rfl rfl ?_
  refine r_aload_n 8 13 0 rfl rfl rfl rfl ?_
  refine r_getI 9 16 rfl rfl fl_RX12_399 rfl h0 ?_
  refine r_iconst 10 17 (v := 1) rfl rfl (by decide) ?_
  refine r_iadd 11 18 rfl rfl ?_
  refine r_putI 12 21 rfl rfl fl_RX12_399 (fun h => by cases h) (Or.inl rfl) h0 ?_
  refine r_ltM (fun m3 => ?_)
  exact r_vret 13 rfl rfl rfl
theorem ct_X12_says {t : List Sh} {m : Mi} {a0 : Nat} {a1 : Int32} {m' : Mi}  (h0 : sh t a0 = some (.inl 12)) (h : f_X12_says t m a0 a1 = some m') : Ct u_X12_says 1 0 0 [.inr (.inr a0), .inl a1] (t, m) (none, (t, m')) :=
  ct_of (by decide) tk_X12_says (Nat.le_of_ble_eq_true rfl) (sm_X12_says t m a0 a1 h0) (by rw [h]; rfl) (Nat.le_refl _) (Nat.le_refl _)
def tb_X12_slotOf : Tb := [(0, (.sipush 250, 3)), (3, (.iload_n 0, 1)), (4, (.iadd, 1)), (5, (.ireturn, 1))]
def u_X12_slotOf : Fx := (yX12_slotOf, (cX12_slotOf, (1, ((some .int), tb_X12_slotOf))))
theorem tk_X12_slotOf : ∀ q ∈ u_X12_slotOf.2.2.2.2, decode u_X12_slotOf.2.1 q.1 = .ok q.2 := by decide +kernel
theorem mc_X12_slotOf : MC u_X12_slotOf 1 := ⟨tbm 1307 (by decide +kernel) rfl, tbm 128 (by decide +kernel) rfl, ⟨by decide, by decide, by decide +kernel⟩, by decide⟩
theorem st_X12_slotOf : Cond.static u_X12_slotOf.1 ∈ TB := tbm 1306 (by decide +kernel) rfl
def f_X12_slotOf (a0 : Int32) : Option (Int32) :=
  some (250 + a0)
set_option maxRecDepth 4000 in
set_option maxHeartbeats 4000000 in
theorem sm_X12_slotOf (t : List Sh) (m : Mi) (a0 : Int32) : Sm u_X12_slotOf (1, 0, 0, t.length, zs t) (kIo t m) 0 [(0, .inl a0)] [] (t, m) (f_X12_slotOf a0) := by
  unfold f_X12_slotOf
  refine r_sipush 0 3 (v := 250) rfl rfl (by decide) ?_
  refine r_iload_n 1 4 0 rfl rfl rfl rfl ?_
  refine r_iadd 2 5 rfl rfl ?_
  exact r_iret 3 rfl rfl rfl
theorem ct_X12_slotOf {t : List Sh} {m : Mi} {a0 : Int32} {v : Int32}  (h : f_X12_slotOf a0 = some v) : Ct u_X12_slotOf 1 0 0 [.inl a0] (t, m) (some (.inl v), (t, m)) :=
  ct_of (by decide) tk_X12_slotOf (Nat.le_of_ble_eq_true rfl) (sm_X12_slotOf t m a0) (by rw [h]; rfl) (Nat.le_refl _) (Nat.le_refl _)
theorem fl_RX12_149 : FL RX12 149 12 1 false := ⟨RX12, TX12, 61, rfl, inW12, tyX12_ok, nmX12, by decide, rfl, rfl, rfl, tbm 1328 (by decide +kernel) rfl⟩
theorem fl_RX12_9 : FL RX12 9 12 0 true := ⟨RX12, TX12, 61, rfl, inW12, tyX12_ok, nmX12, by decide, rfl, rfl, rfl, tbm 1327 (by decide +kernel) rfl⟩
def tb_X12_takes : Tb := [(0, (.iload_n 1, 1)), (1, (.ifCond .lt 11, 3)), (4, (.iload_n 1, 1)), (5, (.aload_n 0, 1)), (6, (.getfield 149, 3)), (9, (.if_icmp .le 5, 3)), (12, (.iconst 0, 1)), (13, (.ireturn, 1)), (14, (.iconst 0, 1)), (15, (.istore_n 2, 1)), (16, (.iload_n 2, 1)), (17, (.iload_n 1, 1)), (18, (.if_icmp .ge 21, 3)), (21, (.aload_n 0, 1)), (22, (.getfield 13, 3)), (25, (.iload_n 2, 1)), (26, (.aload_n 0, 1)), (27, (.getfield 9, 3)), (30, (.iload_n 2, 1)), (31, (.baload, 1)), (32, (.bastore, 1)), (33, (.iinc 2 1, 3)), (36, (.goto (-20), 3)), (39, (.aload_n 0, 1)), (40, (.iload_n 1, 1)), (41, (.putfield 156, 3)), (44, (.aload_n 0, 1)), (45, (.iconst 0, 1)), (46, (.putfield 149, 3)), (49, (.iconst 1, 1)), (50, (.ireturn, 1))]
def u_X12_takes : Fx := (yX12_takes, (cX12_takes, (3, ((some .boolean), tb_X12_takes))))
theorem tk_X12_takes : ∀ q ∈ u_X12_takes.2.2.2.2, decode u_X12_takes.2.1 q.1 = .ok q.2 := by decide +kernel
theorem mc_X12_takes : MC u_X12_takes 1 := ⟨tbm 1526 (by decide +kernel) rfl, tbm 128 (by decide +kernel) rfl, ⟨by decide, by decide, by decide +kernel⟩, by decide⟩
theorem in_X12_takes : Cond.instanceMethod u_X12_takes.1 ∈ TB ∧ Cond.selects u_X12_takes.1.cls u_X12_takes.1 u_X12_takes.1 ∈ TB := ⟨tbm 1525 (by decide +kernel) rfl, tbm 68 (by decide +kernel) rfl⟩
def f_X12_takes_j39 (t : List Sh) (m : Mi) (a0 : Nat) (a1 : Int32) : Option (Int32 × Mi) :=
  lt (si m a0 3 a1) fun m3 =>
  lt (si m3 a0 1 0) fun m4 =>
  some (1, m4)
def f_X12_takes_l16 (t : List Sh) (m : Mi) (a0 : Nat) (a1 : Int32) (a2 : Int32) : Option ((Int32 × Mi) ⊕ ((Mi))) :=
  if a1 ≤ a2 then
    some (.inr m)
  else
    (if ar t (gr m a0 0) .byte a2 = true then
    (if ar t (gr m a0 2) .byte a2 = true then
    lt (si m (gr m a0 2) (ix a2) (vp_nar .byte (gi m (gr m a0 0) (ix a2)))) fun m8 =>
    lt (a2 + 1) fun x9 =>
    some (.inl (x9, m8))
    else none)
    else none)
def f_X12_takes_j16 (t : List Sh) (m : Mi) (a0 : Nat) (a1 : Int32) (a2 : Int32) : Option (Int32 × Mi) :=
  (lp (fun x : Int32 × Mi => f_X12_takes_l16 t x.2 a0 a1 x.1) FUEL (a2, m)).bind (fun y : Mi => f_X12_takes_j39 t y a0 a1)
def f_X12_takes (t : List Sh) (m : Mi) (a0 : Nat) (a1 : Int32) : Option (Int32 × Mi) :=
  if a1 < 0 then
    some (0, m)
  else
    if a1 ≤ (gi m a0 1) then
      f_X12_takes_j16 t m a0 a1 0
    else
      some (0, m)
set_option maxRecDepth 4000 in
set_option maxHeartbeats 4000000 in
theorem sm_X12_takes (t : List Sh) (m : Mi) (a0 : Nat) (a1 : Int32) (h0 : sh t a0 = some (.inl 12)) : Sm u_X12_takes (1, 0, 0, t.length, zs t) (kI t) 0 [(0, .inr (.inr a0)), (1, .inl a1)] [] (t, m) (f_X12_takes t m a0 a1) := by
  unfold f_X12_takes
  refine r_iload_n 0 1 1 rfl rfl rfl rfl ?_
  refine r_if_lt 1 12 4 rfl rfl rfl (fun h1 => ?_) (fun h1 => ?_)
  · refine r_iconst 6 13 (v := 0) rfl rfl (by decide) ?_
    exact r_zret 7 rfl rfl (by decide) rfl
  · refine r_iload_n 2 5 1 rfl rfl rfl rfl ?_
    refine r_aload_n 3 6 0 rfl rfl rfl rfl ?_
    refine r_getI 4 9 rfl rfl fl_RX12_149 rfl h0 ?_
    refine r_icmp_le 5 14 12 rfl rfl rfl (fun h2 => ?_) (fun h2 => ?_)
    · refine r_iconst 8 15 (v := 0) rfl rfl (by decide) ?_
      refine r_istore_n 9 16 (L' := [(2, .inl 0), (0, .inr (.inr a0)), (1, .inl a1)]) rfl rfl rfl (by decide) rfl ?_
      have hj16 : ∀ (m : Mi) (a2 : Int32), Sm u_X12_takes (1, 0, 0, t.length, zs t) (kI t) 16 [(0, .inr (.inr a0)), (1, .inl a1), (2, .inl a2)] [] (t, m) (f_X12_takes_j16 t m a0 a1 a2) := by
        intro m a2
        unfold f_X12_takes_j16
        have hj39 : ∀ (m : Mi), Sm u_X12_takes (1, 0, 0, t.length, zs t) (kI t) 39 [(0, .inr (.inr a0)), (1, .inl a1)] [] (t, m) (f_X12_takes_j39 t m a0 a1) := by
          intro m
          unfold f_X12_takes_j39
          refine r_aload_n 23 40 0 rfl rfl rfl rfl ?_
          refine r_iload_n 24 41 1 rfl rfl rfl rfl ?_
          refine r_putI 25 44 rfl rfl fl_RX12_156 (fun h => by cases h) (Or.inl rfl) h0 ?_
          refine r_ltM (fun m3 => ?_)
          refine r_aload_n 26 45 0 rfl rfl rfl rfl ?_
          refine r_iconst 27 46 (v := 0) rfl rfl (by decide) ?_
          refine r_putI 28 49 rfl rfl fl_RX12_149 (fun h => by cases h) (Or.inl rfl) h0 ?_
          refine r_ltM (fun m4 => ?_)
          refine r_iconst 29 50 (v := 1) rfl rfl (by decide) ?_
          exact r_zret 30 rfl rfl (by decide) rfl
        refine r_lp (Lf := fun x : Int32 × Mi => [(0, .inr (.inr a0)), (1, .inl a1), (2, .inl (x.1))]) (Mf := fun x : Int32 × Mi => (t, x.2)) (a2, m) ?_ FUEL
        rintro ⟨a2, m⟩ κ16 hc16 he16
        refine r_eq (L' := [(0, .inr (.inr a0)), (1, .inl a1), (2, .inl a2)]) (M' := (t, m)) rfl rfl ?_
        refine r_eqr (r' := f_X12_takes_l16 t m a0 a1 a2) rfl ?_
        unfold f_X12_takes_l16
        refine r_iload_n 10 17 2 rfl rfl rfl rfl ?_
        refine r_iload_n 11 18 1 rfl rfl rfl rfl ?_
        refine r_icmp_ge 12 39 21 rfl rfl rfl (fun h5 => ?_) (fun h5 => ?_)
        · refine r_leaf (r2 := (f_X12_takes_j39 t m a0 a1 : Option (Int32 × Mi))) (he16 _) ?_
          exact r_sub [0, 1] rfl (hj39 m)
        · refine r_aload_n 13 22 0 rfl rfl rfl rfl ?_
          refine r_getR 14 25 rfl rfl fl_RX12_13 rfl h0 ?_
          refine r_iload_n 15 26 2 rfl rfl rfl rfl ?_
          refine r_aload_n 16 27 0 rfl rfl rfl rfl ?_
          refine r_getR 17 30 rfl rfl fl_RX12_9 rfl h0 ?_
          refine r_iload_n 18 31 2 rfl rfl rfl rfl ?_
          refine r_gd (fun h6 => ?_)
          refine r_bald 19 32 rfl rfl h6 ?_
          refine r_gd (fun h7 => ?_)
          refine r_bast 20 33 rfl rfl h7 ?_
          refine r_ltM (fun m8 => ?_)
          refine r_iinc 21 36 2 (L' := [(2, .inl (a2 + 1)), (0, .inr (.inr a0)), (1, .inl a1)]) rfl rfl rfl (by decide) rfl ?_
          refine r_ltV (fun x9 => ?_)
          refine r_goto 22 16 rfl rfl ?_
          exact r_sub [1, 2, 0] rfl (hc16 (x9, m8))
      exact r_sub [1, 2, 0] rfl (hj16 m 0)
    · refine r_iconst 6 13 (v := 0) rfl rfl (by decide) ?_
      exact r_zret 7 rfl rfl (by decide) rfl
theorem ct_X12_takes {t : List Sh} {m : Mi} {a0 : Nat} {a1 : Int32} {m' : Mi} {v : Int32}  (h0 : sh t a0 = some (.inl 12)) (h : f_X12_takes t m a0 a1 = some (v, m')) : Ct u_X12_takes 1 0 0 [.inr (.inr a0), .inl a1] (t, m) (some (.inl v), (t, m')) :=
  ct_of (by decide) tk_X12_takes (Nat.le_of_ble_eq_true rfl) (sm_X12_takes t m a0 a1 h0) (by rw [h]; rfl) (Nat.le_refl _) (Nat.le_refl _)
def tb_X12_types : Tb := [(0, (.iconst 3, 1)), (1, (.istore_n 2, 1)), (2, (.iload_n 2, 1)), (3, (.ifCond .lt 35, 3)), (6, (.aload_n 0, 1)), (7, (.getfield 9, 3)), (10, (.aload_n 0, 1)), (11, (.getfield 149, 3)), (14, (.iload_n 1, 1)), (15, (.bipush 8, 2)), (17, (.iload_n 2, 1)), (18, (.imul, 1)), (19, (.ishr, 1)), (20, (.i2b, 1)), (21, (.bastore, 1)), (22, (.aload_n 0, 1)), (23, (.aload_n 0, 1)), (24, (.getfield 149, 3)), (27, (.iconst 1, 1)), (28, (.iadd, 1)), (29, (.putfield 149, 3)), (32, (.iinc 2 (-1), 3)), (35, (.goto (-33), 3)), (38, (.return_, 1))]
def u_X12_types : Fx := (yX12_types, (cX12_types, (3, (none, tb_X12_types))))
theorem tk_X12_types : ∀ q ∈ u_X12_types.2.2.2.2, decode u_X12_types.2.1 q.1 = .ok q.2 := by decide +kernel
theorem mc_X12_types : MC u_X12_types 1 := ⟨tbm 1518 (by decide +kernel) rfl, tbm 128 (by decide +kernel) rfl, ⟨by decide, by decide, by decide +kernel⟩, by decide⟩
theorem in_X12_types : Cond.instanceMethod u_X12_types.1 ∈ TB ∧ Cond.selects u_X12_types.1.cls u_X12_types.1 u_X12_types.1 ∈ TB := ⟨tbm 1517 (by decide +kernel) rfl, tbm 67 (by decide +kernel) rfl⟩
def f_X12_types_j38 (t : List Sh) (m : Mi) : Option (Mi) :=
  some m
def f_X12_types_l2 (t : List Sh) (m : Mi) (a0 : Nat) (a1 : Int32) (a2 : Int32) : Option ((Int32 × Mi) ⊕ ((Mi))) :=
  if a2 < 0 then
    some (.inr m)
  else
    (if ar t (gr m a0 0) .byte (gi m a0 1) = true then
    lt (si m (gr m a0 0) (ix (gi m a0 1)) (vp_nar .byte ((Int32.toInt8 (a1 >>> ((8 * a2) &&& 31))).toInt32))) fun m3 =>
    lt (si m3 a0 1 ((gi m3 a0 1) + 1)) fun m4 =>
    lt (a2 + (-1)) fun x5 =>
    some (.inl (x5, m4))
    else none)
def f_X12_types_j2 (t : List Sh) (m : Mi) (a0 : Nat) (a1 : Int32) (a2 : Int32) : Option (Mi) :=
  (lp (fun x : Int32 × Mi => f_X12_types_l2 t x.2 a0 a1 x.1) FUEL (a2, m)).bind (fun y : Mi => f_X12_types_j38 t y)
def f_X12_types (t : List Sh) (m : Mi) (a0 : Nat) (a1 : Int32) : Option (Mi) :=
  f_X12_types_j2 t m a0 a1 3
set_option maxRecDepth 4000 in
set_option maxHeartbeats 4000000 in
theorem sm_X12_types (t : List Sh) (m : Mi) (a0 : Nat) (a1 : Int32) (h0 : sh t a0 = some (.inl 12)) : Sm u_X12_types (1, 0, 0, t.length, zs t) (kV t) 0 [(0, .inr (.inr a0)), (1, .inl a1)] [] (t, m) (f_X12_types t m a0 a1) := by
  unfold f_X12_types
  refine r_iconst 0 1 (v := 3) rfl rfl (by decide) ?_
  refine r_istore_n 1 2 (L' := [(2, .inl 3), (0, .inr (.inr a0)), (1, .inl a1)]) rfl rfl rfl (by decide) rfl ?_
  have hj2 : ∀ (m : Mi) (a2 : Int32), Sm u_X12_types (1, 0, 0, t.length, zs t) (kV t) 2 [(0, .inr (.inr a0)), (1, .inl a1), (2, .inl a2)] [] (t, m) (f_X12_types_j2 t m a0 a1 a2) := by
    intro m a2
    unfold f_X12_types_j2
    have hj38 : ∀ (m : Mi), Sm u_X12_types (1, 0, 0, t.length, zs t) (kV t) 38 [] [] (t, m) (f_X12_types_j38 t m) := by
      intro m
      unfold f_X12_types_j38
      exact r_vret 23 rfl rfl rfl
    refine r_lp (Lf := fun x : Int32 × Mi => [(0, .inr (.inr a0)), (1, .inl a1), (2, .inl (x.1))]) (Mf := fun x : Int32 × Mi => (t, x.2)) (a2, m) ?_ FUEL
    rintro ⟨a2, m⟩ κ2 hc2 he2
    refine r_eq (L' := [(0, .inr (.inr a0)), (1, .inl a1), (2, .inl a2)]) (M' := (t, m)) rfl rfl ?_
    refine r_eqr (r' := f_X12_types_l2 t m a0 a1 a2) rfl ?_
    unfold f_X12_types_l2
    refine r_iload_n 2 3 2 rfl rfl rfl rfl ?_
    refine r_if_lt 3 38 6 rfl rfl rfl (fun h1 => ?_) (fun h1 => ?_)
    · refine r_leaf (r2 := (f_X12_types_j38 t m : Option (Mi))) (he2 _) ?_
      exact r_sub [] rfl (hj38 m)
    · refine r_aload_n 4 7 0 rfl rfl rfl rfl ?_
      refine r_getR 5 10 rfl rfl fl_RX12_9 rfl h0 ?_
      refine r_aload_n 6 11 0 rfl rfl rfl rfl ?_
      refine r_getI 7 14 rfl rfl fl_RX12_149 rfl h0 ?_
      refine r_iload_n 8 15 1 rfl rfl rfl rfl ?_
      refine r_bipush 9 17 (v := 8) rfl rfl (by decide) ?_
      refine r_iload_n 10 18 2 rfl rfl rfl rfl ?_
      refine r_imul 11 19 rfl rfl ?_
      refine r_ishr 12 20 rfl rfl ?_
      refine r_i2b 13 21 rfl rfl ?_
      refine r_gd (fun h2 => ?_)
      refine r_bast 14 22 rfl rfl h2 ?_
      refine r_ltM (fun m3 => ?_)
      refine r_aload_n 15 23 0 rfl rfl rfl rfl ?_
      refine r_aload_n 16 24 0 rfl rfl rfl rfl ?_
      refine r_getI 17 27 rfl rfl fl_RX12_149 rfl h0 ?_
      refine r_iconst 18 28 (v := 1) rfl rfl (by decide) ?_
      refine r_iadd 19 29 rfl rfl ?_
      refine r_putI 20 32 rfl rfl fl_RX12_149 (fun h => by cases h) (Or.inl rfl) h0 ?_
      refine r_ltM (fun m4 => ?_)
      refine r_iinc 21 35 2 (L' := [(2, .inl (a2 + (-1))), (0, .inr (.inr a0)), (1, .inl a1)]) rfl rfl rfl (by decide) rfl ?_
      refine r_ltV (fun x5 => ?_)
      refine r_goto 22 2 rfl rfl ?_
      exact r_sub [1, 2, 0] rfl (hc2 (x5, m4))
  exact r_sub [1, 2, 0] rfl (hj2 m 3)
theorem ct_X12_types {t : List Sh} {m : Mi} {a0 : Nat} {a1 : Int32} {m' : Mi}  (h0 : sh t a0 = some (.inl 12)) (h : f_X12_types t m a0 a1 = some m') : Ct u_X12_types 1 0 0 [.inr (.inr a0), .inl a1] (t, m) (none, (t, m')) :=
  ct_of (by decide) tk_X12_types (Nat.le_of_ble_eq_true rfl) (sm_X12_types t m a0 a1 h0) (by rw [h]; rfl) (Nat.le_refl _) (Nat.le_refl _)
theorem lk_RX12_194 : Cond.methodLink RX12 194 yX12_from ∈ TB := tbm 1312 (by decide +kernel) rfl
def tb_X12_below : Tb := [(0, (.iload_n 0, 1)), (1, (.iload_n 1, 1)), (2, (.invokestatic 194, 3)), (5, (.bipush 9, 2)), (7, (.iadd, 1)), (8, (.ireturn, 1))]
def u_X12_below : Fx := (yX12_below, (cX12_below, (2, ((some .int), tb_X12_below))))
theorem tk_X12_below : ∀ q ∈ u_X12_below.2.2.2.2, decode u_X12_below.2.1 q.1 = .ok q.2 := by decide +kernel
theorem mc_X12_below : MC u_X12_below 2 := ⟨tbm 1321 (by decide +kernel) rfl, tbm 128 (by decide +kernel) rfl, ⟨by decide, by decide, by decide +kernel⟩, by decide⟩
theorem st_X12_below : Cond.static u_X12_below.1 ∈ TB := tbm 1320 (by decide +kernel) rfl
def f_X12_below (a0 : Int32) (a1 : Int32) : Option (Int32) :=
  (f_X12_from a0 a1).bind fun x1 =>
  some (x1 + 9)
set_option maxRecDepth 4000 in
set_option maxHeartbeats 4000000 in
theorem sm_X12_below (t : List Sh) (m : Mi) (a0 : Int32) (a1 : Int32) : Sm u_X12_below (2, 0, 0, t.length, zs t) (kIo t m) 0 [(0, .inl a0), (1, .inl a1)] [] (t, m) (f_X12_below a0 a1) := by
  unfold f_X12_below
  refine r_iload_n 0 1 0 rfl rfl rfl rfl ?_
  refine r_iload_n 1 2 1 rfl rfl rfl rfl ?_
  refine r_SIo 2 5 (a := 0) (cn := 0) (st := []) (av := [.inl a0, .inl a1]) (μ' := u_X12_from) (d := 1) rfl rfl mc_X12_from st_X12_from lk_RX12_194 (Nat.le_of_ble_eq_true rfl) rfl (Nat.le_of_ble_eq_true rfl) (fun _ h => ct_X12_from h) (fun x1 => ?_)
  refine r_bipush 3 7 (v := 9) rfl rfl (by decide) ?_
  refine r_iadd 4 8 rfl rfl ?_
  exact r_iret 5 rfl rfl rfl
theorem ct_X12_below {t : List Sh} {m : Mi} {a0 : Int32} {a1 : Int32} {v : Int32}  (h : f_X12_below a0 a1 = some v) : Ct u_X12_below 2 0 0 [.inl a0, .inl a1] (t, m) (some (.inl v), (t, m)) :=
  ct_of (by decide) tk_X12_below (Nat.le_of_ble_eq_true rfl) (sm_X12_below t m a0 a1) (by rw [h]; rfl) (Nat.le_refl _) (Nat.le_refl _)
theorem fl_RX12_336 : FL RX12 336 12 49 false := ⟨RX12, TX12, 61, rfl, inW12, tyX12_ok, nmX12, by decide, rfl, rfl, rfl, tbm 1376 (by decide +kernel) rfl⟩
theorem fl_RX12_43 : FL RX12 43 12 23 true := ⟨RX12, TX12, 61, rfl, inW12, tyX12_ok, nmX12, by decide, rfl, rfl, rfl, tbm 1350 (by decide +kernel) rfl⟩
theorem fl_RX12_123 : FL RX12 123 12 53 true := ⟨RX12, TX12, 61, rfl, inW12, tyX12_ok, nmX12, by decide, rfl, rfl, rfl, tbm 1380 (by decide +kernel) rfl⟩
theorem lk_RX12_352 : Cond.methodLink RX12 352 yX12_first_ ∈ TB := tbm 1680 (by decide +kernel) rfl
def tb_X12_chosen : Tb := [(0, (.aload_n 0, 1)), (1, (.getfield 336, 3)), (4, (.iconst 1, 1)), (5, (.if_icmp .ne 46, 3)), (8, (.iload_n 1, 1)), (9, (.ifCond .lt 42, 3)), (12, (.iload_n 1, 1)), (13, (.aload_n 0, 1)), (14, (.getfield 43, 3)), (17, (.aload_n 0, 1)), (18, (.getfield 326, 3)), (21, (.iaload, 1)), (22, (.if_icmp .ge 29, 3)), (25, (.aload_n 0, 1)), (26, (.getfield 123, 3)), (29, (.iload_n 1, 1)), (30, (.iaload, 1)), (31, (.ifCond .le 20, 3)), (34, (.aload_n 0, 1)), (35, (.iload_n 1, 1)), (36, (.invokevirtual 352, 3)), (39, (.aload_n 0, 1)), (40, (.getfield 123, 3)), (43, (.iload_n 1, 1)), (44, (.iaload, 1)), (45, (.iadd, 1)), (46, (.iconst 1, 1)), (47, (.isub, 1)), (48, (.goto 4, 3)), (51, (.iconst (-1), 1)), (52, (.ireturn, 1))]
def u_X12_chosen : Fx := (yX12_chosen, (cX12_chosen, (2, ((some .int), tb_X12_chosen))))
theorem tk_X12_chosen : ∀ q ∈ u_X12_chosen.2.2.2.2, decode u_X12_chosen.2.1 q.1 = .ok q.2 := by decide +kernel
theorem mc_X12_chosen : MC u_X12_chosen 1 := ⟨tbm 1733 (by decide +kernel) rfl, tbm 128 (by decide +kernel) rfl, ⟨by decide, by decide, by decide +kernel⟩, by decide⟩
theorem in_X12_chosen : Cond.instanceMethod u_X12_chosen.1 ∈ TB ∧ Cond.selects u_X12_chosen.1.cls u_X12_chosen.1 u_X12_chosen.1 ∈ TB := ⟨tbm 1731 (by decide +kernel) rfl, tbm 1732 (by decide +kernel) rfl⟩
def f_X12_chosen (t : List Sh) (m : Mi) (a0 : Nat) (a1 : Int32) : Option (Int32) :=
  if (gi m a0 49) = 1 then
    if a1 < 0 then
      some (-1)
    else
      (if ar t (gr m a0 23) .int (gi m a0 21) = true then
      if (gi m (gr m a0 23) (ix (gi m a0 21))) ≤ a1 then
        some (-1)
      else
        (if ar t (gr m a0 53) .int a1 = true then
        if (gi m (gr m a0 53) (ix a1)) ≤ 0 then
          some (-1)
        else
          (f_X12_first_ t m a0 a1).bind fun x7 =>
          some ((x7 + (gi m (gr m a0 53) (ix a1))) - 1)
        else none)
      else none)
  else
    some (-1)
set_option maxRecDepth 4000 in
set_option maxHeartbeats 4000000 in
theorem sm_X12_chosen (t : List Sh) (m : Mi) (a0 : Nat) (a1 : Int32) (h0 : sh t a0 = some (.inl 12)) : Sm u_X12_chosen (2, 0, 0, t.length, zs t) (kIo t m) 0 [(0, .inr (.inr a0)), (1, .inl a1)] [] (t, m) (f_X12_chosen t m a0 a1) := by
  unfold f_X12_chosen
  refine r_aload_n 0 1 0 rfl rfl rfl rfl ?_
  refine r_getI 1 4 rfl rfl fl_RX12_336 rfl h0 ?_
  refine r_iconst 2 5 (v := 1) rfl rfl (by decide) ?_
  refine r_icmp_ne 3 51 8 rfl rfl rfl (fun h1 => ?_) (fun h1 => ?_)
  · refine r_iload_n 4 9 1 rfl rfl rfl rfl ?_
    refine r_if_lt 5 51 12 rfl rfl rfl (fun h2 => ?_) (fun h2 => ?_)
    · refine r_iconst 29 52 (v := (-1)) rfl rfl (by decide) ?_
      exact r_iret 30 rfl rfl rfl
    · refine r_iload_n 6 13 1 rfl rfl rfl rfl ?_
      refine r_aload_n 7 14 0 rfl rfl rfl rfl ?_
      refine r_getR 8 17 rfl rfl fl_RX12_43 rfl h0 ?_
      refine r_aload_n 9 18 0 rfl rfl rfl rfl ?_
      refine r_getI 10 21 rfl rfl fl_RX12_326 rfl h0 ?_
      refine r_gd (fun h3 => ?_)
      refine r_iald 11 22 rfl rfl h3 ?_
      refine r_icmp_ge 12 51 25 rfl rfl rfl (fun h4 => ?_) (fun h4 => ?_)
      · refine r_iconst 29 52 (v := (-1)) rfl rfl (by decide) ?_
        exact r_iret 30 rfl rfl rfl
      · refine r_aload_n 13 26 0 rfl rfl rfl rfl ?_
        refine r_getR 14 29 rfl rfl fl_RX12_123 rfl h0 ?_
        refine r_iload_n 15 30 1 rfl rfl rfl rfl ?_
        refine r_gd (fun h5 => ?_)
        refine r_iald 16 31 rfl rfl h5 ?_
        refine r_if_le 17 51 34 rfl rfl rfl (fun h6 => ?_) (fun h6 => ?_)
        · refine r_iconst 29 52 (v := (-1)) rfl rfl (by decide) ?_
          exact r_iret 30 rfl rfl rfl
        · refine r_aload_n 18 35 0 rfl rfl rfl rfl ?_
          refine r_iload_n 19 36 1 rfl rfl rfl rfl ?_
          refine r_VIo 20 39 (st := []) (av := [.inr (.inr a0), .inl a1]) (av' := [.inl a1]) (μ' := u_X12_first_) (d := 1) rfl rfl mc_X12_first_ in_X12_first_ lk_RX12_352 (Nat.le_of_ble_eq_true rfl) rfl rfl h0 rfl (Nat.le_of_ble_eq_true rfl) (fun _ h => ct_X12_first_ h0 h) (fun x7 => ?_)
          refine r_aload_n 21 40 0 rfl rfl rfl rfl ?_
          refine r_getR 22 43 rfl rfl fl_RX12_123 rfl h0 ?_
          refine r_iload_n 23 44 1 rfl rfl rfl rfl ?_
          refine r_iald 24 45 rfl rfl h5 ?_
          refine r_iadd 25 46 rfl rfl ?_
          refine r_iconst 26 47 (v := 1) rfl rfl (by decide) ?_
          refine r_isub 27 48 rfl rfl ?_
          refine r_goto 28 52 rfl rfl ?_
          exact r_iret 30 rfl rfl rfl
  · refine r_iconst 29 52 (v := (-1)) rfl rfl (by decide) ?_
    exact r_iret 30 rfl rfl rfl
theorem ct_X12_chosen {t : List Sh} {m : Mi} {a0 : Nat} {a1 : Int32} {v : Int32}  (h0 : sh t a0 = some (.inl 12)) (h : f_X12_chosen t m a0 a1 = some v) : Ct u_X12_chosen 2 0 0 [.inr (.inr a0), .inl a1] (t, m) (some (.inl v), (t, m)) :=
  ct_of (by decide) tk_X12_chosen (Nat.le_of_ble_eq_true rfl) (sm_X12_chosen t m a0 a1 h0) (by rw [h]; rfl) (Nat.le_refl _) (Nat.le_refl _)
theorem fl_RX12_46 : FL RX12 46 12 24 true := ⟨RX12, TX12, 61, rfl, inW12, tyX12_ok, nmX12, by decide, rfl, rfl, rfl, tbm 1351 (by decide +kernel) rfl⟩
theorem lk_RX12_332 : Cond.methodLink RX12 332 yX12_constraints ∈ TB := tbm 1668 (by decide +kernel) rfl
theorem fl_RX12_346 : FL RX12 346 12 51 false := ⟨RX12, TX12, 61, rfl, inW12, tyX12_ok, nmX12, by decide, rfl, rfl, rfl, tbm 1378 (by decide +kernel) rfl⟩
theorem lk_RX12_141 : Cond.methodLink RX12 141 yX12_slotOf ∈ TB := tbm 1305 (by decide +kernel) rfl
def tb_X12_count : Tb := [(0, (.iload_n 1, 1)), (1, (.tableswitch 79 0 5 #[39, 49, 59, 64, 69, 74], 39)), (40, (.aload_n 0, 1)), (41, (.getfield 43, 3)), (44, (.aload_n 0, 1)), (45, (.getfield 326, 3)), (48, (.iaload, 1)), (49, (.ireturn, 1)), (50, (.aload_n 0, 1)), (51, (.getfield 46, 3)), (54, (.aload_n 0, 1)), (55, (.getfield 326, 3)), (58, (.iaload, 1)), (59, (.ireturn, 1)), (60, (.aload_n 0, 1)), (61, (.invokevirtual 332, 3)), (64, (.ireturn, 1)), (65, (.aload_n 0, 1)), (66, (.getfield 149, 3)), (69, (.ireturn, 1)), (70, (.aload_n 0, 1)), (71, (.getfield 346, 3)), (74, (.ireturn, 1)), (75, (.aload_n 0, 1)), (76, (.getfield 343, 3)), (79, (.ireturn, 1)), (80, (.iload_n 1, 1)), (81, (.bipush 16, 2)), (83, (.if_icmp .lt 24, 3)), (86, (.iload_n 1, 1)), (87, (.bipush 32, 2)), (89, (.if_icmp .ge 18, 3)), (92, (.aload_n 0, 1)), (93, (.getfield 20, 3)), (96, (.iload_n 1, 1)), (97, (.bipush 16, 2)), (99, (.isub, 1)), (100, (.invokestatic 141, 3)), (103, (.iaload, 1)), (104, (.goto 4, 3)), (107, (.iconst (-1), 1)), (108, (.ireturn, 1))]
def u_X12_count : Fx := (yX12_count, (cX12_count, (2, ((some .int), tb_X12_count))))
theorem tk_X12_count : ∀ q ∈ u_X12_count.2.2.2.2, decode u_X12_count.2.1 q.1 = .ok q.2 := by decide +kernel
theorem mc_X12_count : MC u_X12_count 1 := ⟨tbm 1795 (by decide +kernel) rfl, tbm 128 (by decide +kernel) rfl, ⟨by decide, by decide, by decide +kernel⟩, by decide⟩
theorem in_X12_count : Cond.instanceMethod u_X12_count.1 ∈ TB ∧ Cond.selects u_X12_count.1.cls u_X12_count.1 u_X12_count.1 ∈ TB := ⟨tbm 1793 (by decide +kernel) rfl, tbm 1794 (by decide +kernel) rfl⟩
def f_X12_count (t : List Sh) (m : Mi) (a0 : Nat) (a1 : Int32) : Option (Int32) :=
  if a1 = 0 then
    (if ar t (gr m a0 23) .int (gi m a0 21) = true then
    some (gi m (gr m a0 23) (ix (gi m a0 21)))
    else none)
  else
    if a1 = 1 then
      (if ar t (gr m a0 24) .int (gi m a0 21) = true then
      some (gi m (gr m a0 24) (ix (gi m a0 21)))
      else none)
    else
      if a1 = 2 then
        (f_X12_constraints t m a0).bind fun x6 =>
        some x6
      else
        if a1 = 3 then
          some (gi m a0 1)
        else
          if a1 = 4 then
            some (gi m a0 51)
          else
            if a1 = 5 then
              some (gi m a0 50)
            else
              if a1 < 16 then
                some (-1)
              else
                if 32 ≤ a1 then
                  some (-1)
                else
                  (f_X12_slotOf (a1 - 16)).bind fun x12 =>
                  (if ar t (gr m a0 7) .int x12 = true then
                  some (gi m (gr m a0 7) (ix x12))
                  else none)
set_option maxRecDepth 4000 in
set_option maxHeartbeats 4000000 in
theorem sm_X12_count (t : List Sh) (m : Mi) (a0 : Nat) (a1 : Int32) (h0 : sh t a0 = some (.inl 12)) : Sm u_X12_count (2, 0, 0, t.length, zs t) (kIo t m) 0 [(0, .inr (.inr a0)), (1, .inl a1)] [] (t, m) (f_X12_count t m a0 a1) := by
  unfold f_X12_count
  refine r_iload_n 0 1 1 rfl rfl rfl rfl ?_
  refine r_if (fun h1 => ?_) (fun h1 => ?_)
  · refine r_tabC 1 40 0 h1 rfl (by decide) (by decide) rfl rfl ?_
    refine r_aload_n 2 41 0 rfl rfl rfl rfl ?_
    refine r_getR 3 44 rfl rfl fl_RX12_43 rfl h0 ?_
    refine r_aload_n 4 45 0 rfl rfl rfl rfl ?_
    refine r_getI 5 48 rfl rfl fl_RX12_326 rfl h0 ?_
    refine r_gd (fun h2 => ?_)
    refine r_iald 6 49 rfl rfl h2 ?_
    exact r_iret 7 rfl rfl rfl
  · refine r_if (fun h3 => ?_) (fun h3 => ?_)
    · refine r_tabC 1 50 1 h3 rfl (by decide) (by decide) rfl rfl ?_
      refine r_aload_n 8 51 0 rfl rfl rfl rfl ?_
      refine r_getR 9 54 rfl rfl fl_RX12_46 rfl h0 ?_
      refine r_aload_n 10 55 0 rfl rfl rfl rfl ?_
      refine r_getI 11 58 rfl rfl fl_RX12_326 rfl h0 ?_
      refine r_gd (fun h4 => ?_)
      refine r_iald 12 59 rfl rfl h4 ?_
      exact r_iret 13 rfl rfl rfl
    · refine r_if (fun h5 => ?_) (fun h5 => ?_)
      · refine r_tabC 1 60 2 h5 rfl (by decide) (by decide) rfl rfl ?_
        refine r_aload_n 14 61 0 rfl rfl rfl rfl ?_
        refine r_VIo 15 64 (st := []) (av := [.inr (.inr a0)]) (av' := []) (μ' := u_X12_constraints) (d := 1) rfl rfl mc_X12_constraints in_X12_constraints lk_RX12_332 (Nat.le_of_ble_eq_true rfl) rfl rfl h0 rfl (Nat.le_of_ble_eq_true rfl) (fun _ h => ct_X12_constraints h0 h) (fun x6 => ?_)
        exact r_iret 16 rfl rfl rfl
      · refine r_if (fun h7 => ?_) (fun h7 => ?_)
        · refine r_tabC 1 65 3 h7 rfl (by decide) (by decide) rfl rfl ?_
          refine r_aload_n 17 66 0 rfl rfl rfl rfl ?_
          refine r_getI 18 69 rfl rfl fl_RX12_149 rfl h0 ?_
          exact r_iret 19 rfl rfl rfl
        · refine r_if (fun h8 => ?_) (fun h8 => ?_)
          · refine r_tabC 1 70 4 h8 rfl (by decide) (by decide) rfl rfl ?_
            refine r_aload_n 20 71 0 rfl rfl rfl rfl ?_
            refine r_getI 21 74 rfl rfl fl_RX12_346 rfl h0 ?_
            exact r_iret 22 rfl rfl rfl
          · refine r_if (fun h9 => ?_) (fun h9 => ?_)
            · refine r_tabC 1 75 5 h9 rfl (by decide) (by decide) rfl rfl ?_
              refine r_aload_n 23 76 0 rfl rfl rfl rfl ?_
              refine r_getI 24 79 rfl rfl fl_RX12_343 rfl h0 ?_
              exact r_iret 25 rfl rfl rfl
            · refine r_tabO 1 80 rfl (by have := i32ne h1 (k := 0) rfl; have := i32ne h3 (k := 1) rfl; have := i32ne h5 (k := 2) rfl; have := i32ne h7 (k := 3) rfl; have := i32ne h8 (k := 4) rfl; have := i32ne h9 (k := 5) rfl; omega) rfl ?_
              refine r_iload_n 26 81 1 rfl rfl rfl rfl ?_
              refine r_bipush 27 83 (v := 16) rfl rfl (by decide) ?_
              refine r_icmp_lt 28 107 86 rfl rfl rfl (fun h10 => ?_) (fun h10 => ?_)
              · refine r_iconst 40 108 (v := (-1)) rfl rfl (by decide) ?_
                exact r_iret 41 rfl rfl rfl
              · refine r_iload_n 29 87 1 rfl rfl rfl rfl ?_
                refine r_bipush 30 89 (v := 32) rfl rfl (by decide) ?_
                refine r_icmp_ge 31 107 92 rfl rfl rfl (fun h11 => ?_) (fun h11 => ?_)
                · refine r_iconst 40 108 (v := (-1)) rfl rfl (by decide) ?_
                  exact r_iret 41 rfl rfl rfl
                · refine r_aload_n 32 93 0 rfl rfl rfl rfl ?_
                  refine r_getR 33 96 rfl rfl fl_RX12_20 rfl h0 ?_
                  refine r_iload_n 34 97 1 rfl rfl rfl rfl ?_
                  refine r_bipush 35 99 (v := 16) rfl rfl (by decide) ?_
                  refine r_isub 36 100 rfl rfl ?_
                  refine r_SIo 37 103 (a := 0) (cn := 0) (st := [.inr (.inr (gr m a0 7))]) (av := [.inl (a1 - 16)]) (μ' := u_X12_slotOf) (d := 1) rfl rfl mc_X12_slotOf st_X12_slotOf lk_RX12_141 (Nat.le_of_ble_eq_true rfl) rfl (Nat.le_of_ble_eq_true rfl) (fun _ h => ct_X12_slotOf h) (fun x12 => ?_)
                  refine r_gd (fun h13 => ?_)
                  refine r_iald 38 104 rfl rfl h13 ?_
                  refine r_goto 39 108 rfl rfl ?_
                  exact r_iret 41 rfl rfl rfl
theorem ct_X12_count {t : List Sh} {m : Mi} {a0 : Nat} {a1 : Int32} {v : Int32}  (h0 : sh t a0 = some (.inl 12)) (h : f_X12_count t m a0 a1 = some v) : Ct u_X12_count 2 0 0 [.inr (.inr a0), .inl a1] (t, m) (some (.inl v), (t, m)) :=
  ct_of (by decide) tk_X12_count (Nat.le_of_ble_eq_true rfl) (sm_X12_count t m a0 a1 h0) (by rw [h]; rfl) (Nat.le_refl _) (Nat.le_refl _)
theorem lk_RX12_153 : Cond.methodLink RX12 153 yX12_types ∈ TB := tbm 1515 (by decide +kernel) rfl
def tb_X12_feed : Tb := [(0, (.aload_n 0, 1)), (1, (.getfield 149, 3)), (4, (.bipush 20, 2)), (6, (.iadd, 1)), (7, (.sipush 2000, 3)), (10, (.if_icmp .le 5, 3)), (13, (.iconst (-1), 1)), (14, (.ireturn, 1)), (15, (.aload_n 0, 1)), (16, (.iload_n 1, 1)), (17, (.invokevirtual 153, 3)), (20, (.aload_n 0, 1)), (21, (.iload_n 2, 1)), (22, (.invokevirtual 153, 3)), (25, (.aload_n 0, 1)), (26, (.iload_n 3, 1)), (27, (.invokevirtual 153, 3)), (30, (.aload_n 0, 1)), (31, (.iload 4, 2)), (33, (.invokevirtual 153, 3)), (36, (.aload_n 0, 1)), (37, (.iload 5, 2)), (39, (.invokevirtual 153, 3)), (42, (.aload_n 0, 1)), (43, (.getfield 149, 3)), (46, (.ireturn, 1))]
def u_X12_feed : Fx := (yX12_feed, (cX12_feed, (6, ((some .int), tb_X12_feed))))
theorem tk_X12_feed : ∀ q ∈ u_X12_feed.2.2.2.2, decode u_X12_feed.2.1 q.1 = .ok q.2 := by decide +kernel
theorem mc_X12_feed : MC u_X12_feed 5 := ⟨tbm 1514 (by decide +kernel) rfl, tbm 128 (by decide +kernel) rfl, ⟨by decide, by decide, by decide +kernel⟩, by decide⟩
theorem in_X12_feed : Cond.instanceMethod u_X12_feed.1 ∈ TB ∧ Cond.selects u_X12_feed.1.cls u_X12_feed.1 u_X12_feed.1 ∈ TB := ⟨tbm 1512 (by decide +kernel) rfl, tbm 1513 (by decide +kernel) rfl⟩
def f_X12_feed (t : List Sh) (m : Mi) (a0 : Nat) (a1 : Int32) (a2 : Int32) (a3 : Int32) (a4 : Int32) (a5 : Int32) : Option (Int32 × Mi) :=
  if ((gi m a0 1) + 20) ≤ 2000 then
    (f_X12_types t m a0 a1).bind fun m2 =>
    (f_X12_types t m2 a0 a2).bind fun m3 =>
    (f_X12_types t m3 a0 a3).bind fun m4 =>
    (f_X12_types t m4 a0 a4).bind fun m5 =>
    (f_X12_types t m5 a0 a5).bind fun m6 =>
    some (gi m6 a0 1, m6)
  else
    some ((-1), m)
set_option maxRecDepth 4000 in
set_option maxHeartbeats 4000000 in
theorem sm_X12_feed (t : List Sh) (m : Mi) (a0 : Nat) (a1 : Int32) (a2 : Int32) (a3 : Int32) (a4 : Int32) (a5 : Int32) (h0 : sh t a0 = some (.inl 12)) : Sm u_X12_feed (2, 0, 0, t.length, zs t) (kI t) 0 [(0, .inr (.inr a0)), (1, .inl a1), (2, .inl a2), (3, .inl a3), (4, .inl a4), (5, .inl a5)] [] (t, m) (f_X12_feed t m a0 a1 a2 a3 a4 a5) := by
  unfold f_X12_feed
  refine r_aload_n 0 1 0 rfl rfl rfl rfl ?_
  refine r_getI 1 4 rfl rfl fl_RX12_149 rfl h0 ?_
  refine r_bipush 2 6 (v := 20) rfl rfl (by decide) ?_
  refine r_iadd 3 7 rfl rfl ?_
  refine r_sipush 4 10 (v := 2000) rfl rfl (by decide) ?_
  refine r_icmp_le 5 15 13 rfl rfl rfl (fun h1 => ?_) (fun h1 => ?_)
  · refine r_aload_n 8 16 0 rfl rfl rfl rfl ?_
    refine r_iload_n 9 17 1 rfl rfl rfl rfl ?_
    refine r_VV 10 20 (st := []) (av := [.inr (.inr a0), .inl a1]) (av' := [.inl a1]) (μ' := u_X12_types) (d := 1) rfl rfl mc_X12_types in_X12_types lk_RX12_153 (Nat.le_of_ble_eq_true rfl) rfl rfl h0 rfl (Nat.le_of_ble_eq_true rfl) (fun _ h => ct_X12_types h0 h) (fun m2 => ?_)
    refine r_aload_n 11 21 0 rfl rfl rfl rfl ?_
    refine r_iload_n 12 22 2 rfl rfl rfl rfl ?_
    refine r_VV 13 25 (st := []) (av := [.inr (.inr a0), .inl a2]) (av' := [.inl a2]) (μ' := u_X12_types) (d := 1) rfl rfl mc_X12_types in_X12_types lk_RX12_153 (Nat.le_of_ble_eq_true rfl) rfl rfl h0 rfl (Nat.le_of_ble_eq_true rfl) (fun _ h => ct_X12_types h0 h) (fun m3 => ?_)
    refine r_aload_n 14 26 0 rfl rfl rfl rfl ?_
    refine r_iload_n 15 27 3 rfl rfl rfl rfl ?_
    refine r_VV 16 30 (st := []) (av := [.inr (.inr a0), .inl a3]) (av' := [.inl a3]) (μ' := u_X12_types) (d := 1) rfl rfl mc_X12_types in_X12_types lk_RX12_153 (Nat.le_of_ble_eq_true rfl) rfl rfl h0 rfl (Nat.le_of_ble_eq_true rfl) (fun _ h => ct_X12_types h0 h) (fun m4 => ?_)
    refine r_aload_n 17 31 0 rfl rfl rfl rfl ?_
    refine r_iload 18 33 4 rfl rfl rfl ?_
    refine r_VV 19 36 (st := []) (av := [.inr (.inr a0), .inl a4]) (av' := [.inl a4]) (μ' := u_X12_types) (d := 1) rfl rfl mc_X12_types in_X12_types lk_RX12_153 (Nat.le_of_ble_eq_true rfl) rfl rfl h0 rfl (Nat.le_of_ble_eq_true rfl) (fun _ h => ct_X12_types h0 h) (fun m5 => ?_)
    refine r_aload_n 20 37 0 rfl rfl rfl rfl ?_
    refine r_iload 21 39 5 rfl rfl rfl ?_
    refine r_VV 22 42 (st := []) (av := [.inr (.inr a0), .inl a5]) (av' := [.inl a5]) (μ' := u_X12_types) (d := 1) rfl rfl mc_X12_types in_X12_types lk_RX12_153 (Nat.le_of_ble_eq_true rfl) rfl rfl h0 rfl (Nat.le_of_ble_eq_true rfl) (fun _ h => ct_X12_types h0 h) (fun m6 => ?_)
    refine r_aload_n 23 43 0 rfl rfl rfl rfl ?_
    refine r_getI 24 46 rfl rfl fl_RX12_149 rfl h0 ?_
    exact r_iret 25 rfl rfl rfl
  · refine r_iconst 6 14 (v := (-1)) rfl rfl (by decide) ?_
    exact r_iret 7 rfl rfl rfl
theorem ct_X12_feed {t : List Sh} {m : Mi} {a0 : Nat} {a1 : Int32} {a2 : Int32} {a3 : Int32} {a4 : Int32} {a5 : Int32} {m' : Mi} {v : Int32}  (h0 : sh t a0 = some (.inl 12)) (h : f_X12_feed t m a0 a1 a2 a3 a4 a5 = some (v, m')) : Ct u_X12_feed 2 0 0 [.inr (.inr a0), .inl a1, .inl a2, .inl a3, .inl a4, .inl a5] (t, m) (some (.inl v), (t, m')) :=
  ct_of (by decide) tk_X12_feed (Nat.le_of_ble_eq_true rfl) (sm_X12_feed t m a0 a1 a2 a3 a4 a5 h0) (by rw [h]; rfl) (Nat.le_refl _) (Nat.le_refl _)
theorem fl_RX12_111 : FL RX12 111 12 45 true := ⟨RX12, TX12, 61, rfl, inW12, tyX12_ok, nmX12, by decide, rfl, rfl, rfl, tbm 1372 (by decide +kernel) rfl⟩
theorem lk_RX12_366 : Cond.methodLink RX12 366 yX12_bits ∈ TB := tbm 1715 (by decide +kernel) rfl
def tb_X12_fewest : Tb := [(0, (.iconst (-1), 1)), (1, (.istore_n 2, 1)), (2, (.iconst 0, 1)), (3, (.istore_n 3, 1)), (4, (.iload_n 3, 1)), (5, (.aload_n 0, 1)), (6, (.getfield 43, 3)), (9, (.aload_n 0, 1)), (10, (.getfield 326, 3)), (13, (.iaload, 1)), (14, (.if_icmp .ge 57, 3)), (17, (.aload_n 0, 1)), (18, (.getfield 111, 3)), (21, (.bipush 10, 2)), (23, (.iload_n 1, 1)), (24, (.imul, 1)), (25, (.iload_n 3, 1)), (26, (.iadd, 1)), (27, (.iaload, 1)), (28, (.invokestatic 366, 3)), (31, (.istore 4, 2)), (33, (.iload 4, 2)), (35, (.iconst 1, 1)), (36, (.if_icmp .le 29, 3)), (39, (.iload_n 2, 1)), (40, (.iconst (-1), 1)), (41, (.if_icmp .eq 22, 3)), (44, (.iload 4, 2)), (46, (.aload_n 0, 1)), (47, (.getfield 111, 3)), (50, (.bipush 10, 2)), (52, (.iload_n 1, 1)), (53, (.imul, 1)), (54, (.iload_n 2, 1)), (55, (.iadd, 1)), (56, (.iaload, 1)), (57, (.invokestatic 366, 3)), (60, (.if_icmp .ge 5, 3)), (63, (.iload_n 3, 1)), (64, (.istore_n 2, 1)), (65, (.iinc 3 1, 3)), (68, (.goto (-64), 3)), (71, (.iload_n 2, 1)), (72, (.ireturn, 1))]
def u_X12_fewest : Fx := (yX12_fewest, (cX12_fewest, (5, ((some .int), tb_X12_fewest))))
theorem tk_X12_fewest : ∀ q ∈ u_X12_fewest.2.2.2.2, decode u_X12_fewest.2.1 q.1 = .ok q.2 := by decide +kernel
theorem mc_X12_fewest : MC u_X12_fewest 1 := ⟨tbm 1714 (by decide +kernel) rfl, tbm 128 (by decide +kernel) rfl, ⟨by decide, by decide, by decide +kernel⟩, by decide⟩
theorem in_X12_fewest : Cond.instanceMethod u_X12_fewest.1 ∈ TB ∧ Cond.selects u_X12_fewest.1.cls u_X12_fewest.1 u_X12_fewest.1 ∈ TB := ⟨tbm 1713 (by decide +kernel) rfl, tbm 101 (by decide +kernel) rfl⟩
def f_X12_fewest_j71 (t : List Sh) (m : Mi) (a2 : Int32) : Option (Int32) :=
  some a2
def f_X12_fewest_l4 (t : List Sh) (m : Mi) (a0 : Nat) (a1 : Int32) (a2 : Int32) (a3 : Int32) : Option ((Int32 × Int32) ⊕ ((Int32))) :=
  (if ar t (gr m a0 23) .int (gi m a0 21) = true then
  if (gi m (gr m a0 23) (ix (gi m a0 21))) ≤ a3 then
    some (.inr a2)
  else
    (if ar t (gr m a0 45) .int ((10 * a1) + a3) = true then
    (f_X12_bits (gi m (gr m a0 45) (ix ((10 * a1) + a3)))).bind fun x4 =>
    if x4 ≤ 1 then
      lt (a3 + 1) fun x6 =>
      some (.inl (a2, x6))
    else
      if a2 = (-1) then
        lt (a3 + 1) fun x8 =>
        some (.inl (a3, x8))
      else
        (if ar t (gr m a0 45) .int ((10 * a1) + a2) = true then
        (f_X12_bits (gi m (gr m a0 45) (ix ((10 * a1) + a2)))).bind fun x10 =>
        if x10 ≤ x4 then
          lt (a3 + 1) fun x12 =>
          some (.inl (a2, x12))
        else
          lt (a3 + 1) fun x13 =>
          some (.inl (a3, x13))
        else none)
    else none)
  else none)
def f_X12_fewest_j4 (t : List Sh) (m : Mi) (a0 : Nat) (a1 : Int32) (a2 : Int32) (a3 : Int32) : Option (Int32) :=
  (lp (fun x : Int32 × Int32 => f_X12_fewest_l4 t m a0 a1 x.1 x.2) FUEL (a2, a3)).bind (fun y : Int32 => f_X12_fewest_j71 t m y)
def f_X12_fewest (t : List Sh) (m : Mi) (a0 : Nat) (a1 : Int32) : Option (Int32) :=
  f_X12_fewest_j4 t m a0 a1 (-1) 0
set_option maxRecDepth 4000 in
set_option maxHeartbeats 4000000 in
theorem sm_X12_fewest (t : List Sh) (m : Mi) (a0 : Nat) (a1 : Int32) (h0 : sh t a0 = some (.inl 12)) : Sm u_X12_fewest (2, 0, 0, t.length, zs t) (kIo t m) 0 [(0, .inr (.inr a0)), (1, .inl a1)] [] (t, m) (f_X12_fewest t m a0 a1) := by
  unfold f_X12_fewest
  refine r_iconst 0 1 (v := (-1)) rfl rfl (by decide) ?_
  refine r_istore_n 1 2 (L' := [(2, .inl (-1)), (0, .inr (.inr a0)), (1, .inl a1)]) rfl rfl rfl (by decide) rfl ?_
  refine r_iconst 2 3 (v := 0) rfl rfl (by decide) ?_
  refine r_istore_n 3 4 (L' := [(3, .inl 0), (2, .inl (-1)), (0, .inr (.inr a0)), (1, .inl a1)]) rfl rfl rfl (by decide) rfl ?_
  have hj4 : ∀ (a2 : Int32) (a3 : Int32), Sm u_X12_fewest (2, 0, 0, t.length, zs t) (kIo t m) 4 [(0, .inr (.inr a0)), (1, .inl a1), (2, .inl a2), (3, .inl a3)] [] (t, m) (f_X12_fewest_j4 t m a0 a1 a2 a3) := by
    intro a2 a3
    unfold f_X12_fewest_j4
    have hj71 : ∀ (a2 : Int32), Sm u_X12_fewest (2, 0, 0, t.length, zs t) (kIo t m) 71 [(2, .inl a2)] [] (t, m) (f_X12_fewest_j71 t m a2) := by
      intro a2
      unfold f_X12_fewest_j71
      refine r_iload_n 42 72 0 rfl rfl rfl rfl ?_
      exact r_iret 43 rfl rfl rfl
    refine r_lp (Lf := fun x : Int32 × Int32 => [(0, .inr (.inr a0)), (1, .inl a1), (2, .inl (x.1)), (3, .inl (x.2))]) (Mf := fun x : Int32 × Int32 => (t, m)) (a2, a3) ?_ FUEL
    rintro ⟨a2, a3⟩ κ4 hc4 he4
    refine r_eq (L' := [(0, .inr (.inr a0)), (1, .inl a1), (2, .inl a2), (3, .inl a3)]) (M' := (t, m)) rfl rfl ?_
    refine r_eqr (r' := f_X12_fewest_l4 t m a0 a1 a2 a3) rfl ?_
    unfold f_X12_fewest_l4
    refine r_iload_n 4 5 3 rfl rfl rfl rfl ?_
    refine r_aload_n 5 6 0 rfl rfl rfl rfl ?_
    refine r_getR 6 9 rfl rfl fl_RX12_43 rfl h0 ?_
    refine r_aload_n 7 10 0 rfl rfl rfl rfl ?_
    refine r_getI 8 13 rfl rfl fl_RX12_326 rfl h0 ?_
    refine r_gd (fun h1 => ?_)
    refine r_iald 9 14 rfl rfl h1 ?_
    refine r_icmp_ge 10 71 17 rfl rfl rfl (fun h2 => ?_) (fun h2 => ?_)
    · refine r_leaf (r2 := (f_X12_fewest_j71 t m a2 : Option (Int32))) (he4 _) ?_
      exact r_sub [2] rfl (hj71 a2)
    · refine r_aload_n 11 18 0 rfl rfl rfl rfl ?_
      refine r_getR 12 21 rfl rfl fl_RX12_111 rfl h0 ?_
      refine r_bipush 13 23 (v := 10) rfl rfl (by decide) ?_
      refine r_iload_n 14 24 1 rfl rfl rfl rfl ?_
      refine r_imul 15 25 rfl rfl ?_
      refine r_iload_n 16 26 3 rfl rfl rfl rfl ?_
      refine r_iadd 17 27 rfl rfl ?_
      refine r_gd (fun h3 => ?_)
      refine r_iald 18 28 rfl rfl h3 ?_
      refine r_SIo 19 31 (a := 0) (cn := 0) (st := []) (av := [.inl (gi m (gr m a0 45) (ix ((10 * a1) + a3)))]) (μ' := u_X12_bits) (d := 1) rfl rfl mc_X12_bits st_X12_bits lk_RX12_366 (Nat.le_of_ble_eq_true rfl) rfl (Nat.le_of_ble_eq_true rfl) (fun _ h => ct_X12_bits h) (fun x4 => ?_)
      refine r_istore 20 33 (L' := [(4, .inl x4), (0, .inr (.inr a0)), (1, .inl a1), (2, .inl a2), (3, .inl a3)]) rfl rfl (by decide) rfl ?_
      refine r_iload 21 35 0 rfl rfl rfl ?_
      refine r_iconst 22 36 (v := 1) rfl rfl (by decide) ?_
      refine r_icmp_le 23 65 39 rfl rfl rfl (fun h5 => ?_) (fun h5 => ?_)
      · refine r_iinc 40 68 4 (L' := [(3, .inl (a3 + 1)), (4, .inl x4), (0, .inr (.inr a0)), (1, .inl a1), (2, .inl a2)]) rfl rfl rfl (by decide) rfl ?_
        refine r_ltV (fun x6 => ?_)
        refine r_goto 41 4 rfl rfl ?_
        exact r_sub [2, 3, 4, 0] rfl (hc4 (a2, x6))
      · refine r_iload_n 24 40 3 rfl rfl rfl rfl ?_
        refine r_iconst 25 41 (v := (-1)) rfl rfl (by decide) ?_
        refine r_icmp_eq 26 63 44 rfl rfl rfl (fun h7 => ?_) (fun h7 => ?_)
        · refine r_iload_n 38 64 4 rfl rfl rfl rfl ?_
          refine r_istore_n 39 65 (L' := [(2, .inl a3), (4, .inl x4), (0, .inr (.inr a0)), (1, .inl a1), (3, .inl a3)]) rfl rfl rfl (by decide) rfl ?_
          refine r_iinc 40 68 4 (L' := [(3, .inl (a3 + 1)), (2, .inl a3), (4, .inl x4), (0, .inr (.inr a0)), (1, .inl a1)]) rfl rfl rfl (by decide) rfl ?_
          refine r_ltV (fun x8 => ?_)
          refine r_goto 41 4 rfl rfl ?_
          exact r_sub [3, 4, 1, 0] rfl (hc4 (a3, x8))
        · refine r_iload 27 46 0 rfl rfl rfl ?_
          refine r_aload_n 28 47 1 rfl rfl rfl rfl ?_
          refine r_getR 29 50 rfl rfl fl_RX12_111 rfl h0 ?_
          refine r_bipush 30 52 (v := 10) rfl rfl (by decide) ?_
          refine r_iload_n 31 53 2 rfl rfl rfl rfl ?_
          refine r_imul 32 54 rfl rfl ?_
          refine r_iload_n 33 55 3 rfl rfl rfl rfl ?_
          refine r_iadd 34 56 rfl rfl ?_
          refine r_gd (fun h9 => ?_)
          refine r_iald 35 57 rfl rfl h9 ?_
          refine r_SIo 36 60 (a := 0) (cn := 0) (st := [.inl x4]) (av := [.inl (gi m (gr m a0 45) (ix ((10 * a1) + a2)))]) (μ' := u_X12_bits) (d := 1) rfl rfl mc_X12_bits st_X12_bits lk_RX12_366 (Nat.le_of_ble_eq_true rfl) rfl (Nat.le_of_ble_eq_true rfl) (fun _ h => ct_X12_bits h) (fun x10 => ?_)
          refine r_icmp_ge 37 65 63 rfl rfl rfl (fun h11 => ?_) (fun h11 => ?_)
          · refine r_iinc 40 68 4 (L' := [(3, .inl (a3 + 1)), (4, .inl x4), (0, .inr (.inr a0)), (1, .inl a1), (2, .inl a2)]) rfl rfl rfl (by decide) rfl ?_
            refine r_ltV (fun x12 => ?_)
            refine r_goto 41 4 rfl rfl ?_
            exact r_sub [2, 3, 4, 0] rfl (hc4 (a2, x12))
          · refine r_iload_n 38 64 4 rfl rfl rfl rfl ?_
            refine r_istore_n 39 65 (L' := [(2, .inl a3), (4, .inl x4), (0, .inr (.inr a0)), (1, .inl a1), (3, .inl a3)]) rfl rfl rfl (by decide) rfl ?_
            refine r_iinc 40 68 4 (L' := [(3, .inl (a3 + 1)), (2, .inl a3), (4, .inl x4), (0, .inr (.inr a0)), (1, .inl a1)]) rfl rfl rfl (by decide) rfl ?_
            refine r_ltV (fun x13 => ?_)
            refine r_goto 41 4 rfl rfl ?_
            exact r_sub [3, 4, 1, 0] rfl (hc4 (a3, x13))
  exact r_sub [2, 3, 1, 0] rfl (hj4 (-1) 0)
theorem ct_X12_fewest {t : List Sh} {m : Mi} {a0 : Nat} {a1 : Int32} {v : Int32}  (h0 : sh t a0 = some (.inl 12)) (h : f_X12_fewest t m a0 a1 = some v) : Ct u_X12_fewest 2 0 0 [.inr (.inr a0), .inl a1] (t, m) (some (.inl v), (t, m)) :=
  ct_of (by decide) tk_X12_fewest (Nat.le_of_ble_eq_true rfl) (sm_X12_fewest t m a0 a1 h0) (by rw [h]; rfl) (Nat.le_refl _) (Nat.le_refl _)
theorem lk_RX12_159 : Cond.methodLink RX12 159 yX12_isSmall ∈ TB := tbm 1539 (by decide +kernel) rfl
def tb_X12_isLetter : Tb := [(0, (.iload_n 0, 1)), (1, (.invokestatic 159, 3)), (4, (.ifCond .ne 15, 3)), (7, (.iload_n 0, 1)), (8, (.bipush 65, 2)), (10, (.if_icmp .lt 13, 3)), (13, (.iload_n 0, 1)), (14, (.bipush 90, 2)), (16, (.if_icmp .gt 7, 3)), (19, (.iconst 1, 1)), (20, (.goto 4, 3)), (23, (.iconst 0, 1)), (24, (.ireturn, 1))]
def u_X12_isLetter : Fx := (yX12_isLetter, (cX12_isLetter, (1, ((some .boolean), tb_X12_isLetter))))
theorem tk_X12_isLetter : ∀ q ∈ u_X12_isLetter.2.2.2.2, decode u_X12_isLetter.2.1 q.1 = .ok q.2 := by decide +kernel
theorem mc_X12_isLetter : MC u_X12_isLetter 1 := ⟨tbm 1562 (by decide +kernel) rfl, tbm 128 (by decide +kernel) rfl, ⟨by decide, by decide, by decide +kernel⟩, by decide⟩
theorem st_X12_isLetter : Cond.static u_X12_isLetter.1 ∈ TB := tbm 1561 (by decide +kernel) rfl
def f_X12_isLetter (a0 : Int32) : Option (Int32) :=
  (f_X12_isSmall a0).bind fun x1 =>
  if x1 = 0 then
    if a0 < 65 then
      some 0
    else
      if 90 < a0 then
        some 0
      else
        some 1
  else
    some 1
set_option maxRecDepth 4000 in
set_option maxHeartbeats 4000000 in
theorem sm_X12_isLetter (t : List Sh) (m : Mi) (a0 : Int32) : Sm u_X12_isLetter (2, 0, 0, t.length, zs t) (kIo t m) 0 [(0, .inl a0)] [] (t, m) (f_X12_isLetter a0) := by
  unfold f_X12_isLetter
  refine r_iload_n 0 1 0 rfl rfl rfl rfl ?_
  refine r_SIo 1 4 (a := 0) (cn := 0) (st := []) (av := [.inl a0]) (μ' := u_X12_isSmall) (d := 1) rfl rfl mc_X12_isSmall st_X12_isSmall lk_RX12_159 (Nat.le_of_ble_eq_true rfl) rfl (Nat.le_of_ble_eq_true rfl) (fun _ h => ct_X12_isSmall h) (fun x1 => ?_)
  refine r_if_ne 2 19 7 rfl rfl rfl (fun h2 => ?_) (fun h2 => ?_)
  · refine r_iload_n 3 8 0 rfl rfl rfl rfl ?_
    refine r_bipush 4 10 (v := 65) rfl rfl (by decide) ?_
    refine r_icmp_lt 5 23 13 rfl rfl rfl (fun h3 => ?_) (fun h3 => ?_)
    · refine r_iconst 11 24 (v := 0) rfl rfl (by decide) ?_
      exact r_zret 12 rfl rfl (by decide) rfl
    · refine r_iload_n 6 14 0 rfl rfl rfl rfl ?_
      refine r_bipush 7 16 (v := 90) rfl rfl (by decide) ?_
      refine r_icmp_gt 8 23 19 rfl rfl rfl (fun h4 => ?_) (fun h4 => ?_)
      · refine r_iconst 11 24 (v := 0) rfl rfl (by decide) ?_
        exact r_zret 12 rfl rfl (by decide) rfl
      · refine r_iconst 9 20 (v := 1) rfl rfl (by decide) ?_
        refine r_goto 10 24 rfl rfl ?_
        exact r_zret 12 rfl rfl (by decide) rfl
  · refine r_iconst 9 20 (v := 1) rfl rfl (by decide) ?_
    refine r_goto 10 24 rfl rfl ?_
    exact r_zret 12 rfl rfl (by decide) rfl
theorem ct_X12_isLetter {t : List Sh} {m : Mi} {a0 : Int32} {v : Int32}  (h : f_X12_isLetter a0 = some v) : Ct u_X12_isLetter 2 0 0 [.inl a0] (t, m) (some (.inl v), (t, m)) :=
  ct_of (by decide) tk_X12_isLetter (Nat.le_of_ble_eq_true rfl) (sm_X12_isLetter t m a0) (by rw [h]; rfl) (Nat.le_refl _) (Nat.le_refl _)
theorem fl_RX12_88 : FL RX12 88 12 38 true := ⟨RX12, TX12, 61, rfl, inW12, tyX12_ok, nmX12, by decide, rfl, rfl, rfl, tbm 1365 (by decide +kernel) rfl⟩
def tb_X12_isWanted : Tb := [(0, (.iconst 0, 1)), (1, (.istore_n 2, 1)), (2, (.aload_n 0, 1)), (3, (.getfield 49, 3)), (6, (.aload_n 0, 1)), (7, (.getfield 326, 3)), (10, (.iaload, 1)), (11, (.istore_n 3, 1)), (12, (.iload_n 3, 1)), (13, (.aload_n 0, 1)), (14, (.invokevirtual 332, 3)), (17, (.if_icmp .ge 38, 3)), (20, (.iload_n 2, 1)), (21, (.ifCond .ne 22, 3)), (24, (.aload_n 0, 1)), (25, (.getfield 88, 3)), (28, (.sipush 250, 3)), (31, (.aload_n 0, 1)), (32, (.getfield 326, 3)), (35, (.imul, 1)), (36, (.iload_n 3, 1)), (37, (.iadd, 1)), (38, (.iaload, 1)), (39, (.iload_n 1, 1)), (40, (.if_icmp .ne 7, 3)), (43, (.iconst 1, 1)), (44, (.goto 4, 3)), (47, (.iconst 0, 1)), (48, (.istore_n 2, 1)), (49, (.iinc 3 1, 3)), (52, (.goto (-40), 3)), (55, (.iload_n 2, 1)), (56, (.ireturn, 1))]
def u_X12_isWanted : Fx := (yX12_isWanted, (cX12_isWanted, (4, ((some .boolean), tb_X12_isWanted))))
theorem tk_X12_isWanted : ∀ q ∈ u_X12_isWanted.2.2.2.2, decode u_X12_isWanted.2.1 q.1 = .ok q.2 := by decide +kernel
theorem mc_X12_isWanted : MC u_X12_isWanted 1 := ⟨tbm 1729 (by decide +kernel) rfl, tbm 128 (by decide +kernel) rfl, ⟨by decide, by decide, by decide +kernel⟩, by decide⟩
theorem in_X12_isWanted : Cond.instanceMethod u_X12_isWanted.1 ∈ TB ∧ Cond.selects u_X12_isWanted.1.cls u_X12_isWanted.1 u_X12_isWanted.1 ∈ TB := ⟨tbm 1728 (by decide +kernel) rfl, tbm 104 (by decide +kernel) rfl⟩
def f_X12_isWanted_j55 (t : List Sh) (m : Mi) (a2 : Int32) : Option (Int32) :=
  (if zb a2 = true then
  some a2
  else none)
def f_X12_isWanted_l12 (t : List Sh) (m : Mi) (a0 : Nat) (a1 : Int32) (a2 : Int32) (a3 : Int32) : Option ((Int32 × Int32) ⊕ ((Int32))) :=
  (f_X12_constraints t m a0).bind fun x4 =>
  if x4 ≤ a3 then
    some (.inr a2)
  else
    if a2 = 0 then
      (if ar t (gr m a0 38) .int ((250 * (gi m a0 21)) + a3) = true then
      if (gi m (gr m a0 38) (ix ((250 * (gi m a0 21)) + a3))) = a1 then
        lt (a3 + 1) fun x9 =>
        some (.inl (1, x9))
      else
        lt (a3 + 1) fun x10 =>
        some (.inl (0, x10))
      else none)
    else
      lt (a3 + 1) fun x11 =>
      some (.inl (1, x11))
def f_X12_isWanted_j12 (t : List Sh) (m : Mi) (a0 : Nat) (a1 : Int32) (a2 : Int32) (a3 : Int32) : Option (Int32) :=
  (lp (fun x : Int32 × Int32 => f_X12_isWanted_l12 t m a0 a1 x.1 x.2) FUEL (a2, a3)).bind (fun y : Int32 => f_X12_isWanted_j55 t m y)
def f_X12_isWanted (t : List Sh) (m : Mi) (a0 : Nat) (a1 : Int32) : Option (Int32) :=
  (if ar t (gr m a0 25) .int (gi m a0 21) = true then
  lt (gi m (gr m a0 25) (ix (gi m a0 21))) fun x2 =>
  f_X12_isWanted_j12 t m a0 a1 0 x2
  else none)
set_option maxRecDepth 4000 in
set_option maxHeartbeats 4000000 in
theorem sm_X12_isWanted (t : List Sh) (m : Mi) (a0 : Nat) (a1 : Int32) (h0 : sh t a0 = some (.inl 12)) : Sm u_X12_isWanted (2, 0, 0, t.length, zs t) (kIo t m) 0 [(0, .inr (.inr a0)), (1, .inl a1)] [] (t, m) (f_X12_isWanted t m a0 a1) := by
  unfold f_X12_isWanted
  refine r_iconst 0 1 (v := 0) rfl rfl (by decide) ?_
  refine r_istore_n 1 2 (L' := [(2, .inl 0), (0, .inr (.inr a0)), (1, .inl a1)]) rfl rfl rfl (by decide) rfl ?_
  refine r_aload_n 2 3 1 rfl rfl rfl rfl ?_
  refine r_getR 3 6 rfl rfl fl_RX12_49 rfl h0 ?_
  refine r_aload_n 4 7 1 rfl rfl rfl rfl ?_
  refine r_getI 5 10 rfl rfl fl_RX12_326 rfl h0 ?_
  refine r_gd (fun h1 => ?_)
  refine r_iald 6 11 rfl rfl h1 ?_
  refine r_ltI (fun x2 => ?_)
  refine r_istore_n 7 12 (L' := [(3, .inl x2), (2, .inl 0), (0, .inr (.inr a0)), (1, .inl a1)]) rfl rfl rfl (by decide) rfl ?_
  have hj12 : ∀ (a2 : Int32) (a3 : Int32), Sm u_X12_isWanted (2, 0, 0, t.length, zs t) (kIo t m) 12 [(0, .inr (.inr a0)), (1, .inl a1), (2, .inl a2), (3, .inl a3)] [] (t, m) (f_X12_isWanted_j12 t m a0 a1 a2 a3) := by
    intro a2 a3
    unfold f_X12_isWanted_j12
    have hj55 : ∀ (a2 : Int32), Sm u_X12_isWanted (2, 0, 0, t.length, zs t) (kIo t m) 55 [(2, .inl a2)] [] (t, m) (f_X12_isWanted_j55 t m a2) := by
      intro a2
      unfold f_X12_isWanted_j55
      refine r_iload_n 31 56 0 rfl rfl rfl rfl ?_
      refine r_gd (fun h3 => ?_)
      exact r_zret 32 rfl rfl (zb_nar h3) rfl
    refine r_lp (Lf := fun x : Int32 × Int32 => [(0, .inr (.inr a0)), (1, .inl a1), (2, .inl (x.1)), (3, .inl (x.2))]) (Mf := fun x : Int32 × Int32 => (t, m)) (a2, a3) ?_ FUEL
    rintro ⟨a2, a3⟩ κ12 hc12 he12
    refine r_eq (L' := [(0, .inr (.inr a0)), (1, .inl a1), (2, .inl a2), (3, .inl a3)]) (M' := (t, m)) rfl rfl ?_
    refine r_eqr (r' := f_X12_isWanted_l12 t m a0 a1 a2 a3) rfl ?_
    unfold f_X12_isWanted_l12
    refine r_iload_n 8 13 3 rfl rfl rfl rfl ?_
    refine r_aload_n 9 14 0 rfl rfl rfl rfl ?_
    refine r_VIo 10 17 (st := [.inl a3]) (av := [.inr (.inr a0)]) (av' := []) (μ' := u_X12_constraints) (d := 1) rfl rfl mc_X12_constraints in_X12_constraints lk_RX12_332 (Nat.le_of_ble_eq_true rfl) rfl rfl h0 rfl (Nat.le_of_ble_eq_true rfl) (fun _ h => ct_X12_constraints h0 h) (fun x4 => ?_)
    refine r_icmp_ge 11 55 20 rfl rfl rfl (fun h5 => ?_) (fun h5 => ?_)
    · refine r_leaf (r2 := (f_X12_isWanted_j55 t m a2 : Option (Int32))) (he12 _) ?_
      exact r_sub [2] rfl (hj55 a2)
    · refine r_iload_n 12 21 2 rfl rfl rfl rfl ?_
      refine r_if_ne 13 43 24 rfl rfl rfl (fun h6 => ?_) (fun h6 => ?_)
      · refine r_aload_n 14 25 0 rfl rfl rfl rfl ?_
        refine r_getR 15 28 rfl rfl fl_RX12_88 rfl h0 ?_
        refine r_sipush 16 31 (v := 250) rfl rfl (by decide) ?_
        refine r_aload_n 17 32 0 rfl rfl rfl rfl ?_
        refine r_getI 18 35 rfl rfl fl_RX12_326 rfl h0 ?_
        refine r_imul 19 36 rfl rfl ?_
        refine r_iload_n 20 37 3 rfl rfl rfl rfl ?_
        refine r_iadd 21 38 rfl rfl ?_
        refine r_gd (fun h7 => ?_)
        refine r_iald 22 39 rfl rfl h7 ?_
        refine r_iload_n 23 40 1 rfl rfl rfl rfl ?_
        refine r_icmp_ne 24 47 43 rfl rfl rfl (fun h8 => ?_) (fun h8 => ?_)
        · refine r_iconst 25 44 (v := 1) rfl rfl (by decide) ?_
          refine r_goto 26 48 rfl rfl ?_
          refine r_istore_n 28 49 (L' := [(2, .inl 1), (0, .inr (.inr a0)), (1, .inl a1), (3, .inl a3)]) rfl rfl rfl (by decide) rfl ?_
          refine r_iinc 29 52 3 (L' := [(3, .inl (a3 + 1)), (2, .inl 1), (0, .inr (.inr a0)), (1, .inl a1)]) rfl rfl rfl (by decide) rfl ?_
          refine r_ltV (fun x9 => ?_)
          refine r_goto 30 12 rfl rfl ?_
          exact r_sub [2, 3, 1, 0] rfl (hc12 (1, x9))
        · refine r_iconst 27 48 (v := 0) rfl rfl (by decide) ?_
          refine r_istore_n 28 49 (L' := [(2, .inl 0), (0, .inr (.inr a0)), (1, .inl a1), (3, .inl a3)]) rfl rfl rfl (by decide) rfl ?_
          refine r_iinc 29 52 3 (L' := [(3, .inl (a3 + 1)), (2, .inl 0), (0, .inr (.inr a0)), (1, .inl a1)]) rfl rfl rfl (by decide) rfl ?_
          refine r_ltV (fun x10 => ?_)
          refine r_goto 30 12 rfl rfl ?_
          exact r_sub [2, 3, 1, 0] rfl (hc12 (0, x10))
      · refine r_iconst 25 44 (v := 1) rfl rfl (by decide) ?_
        refine r_goto 26 48 rfl rfl ?_
        refine r_istore_n 28 49 (L' := [(2, .inl 1), (0, .inr (.inr a0)), (1, .inl a1), (3, .inl a3)]) rfl rfl rfl (by decide) rfl ?_
        refine r_iinc 29 52 3 (L' := [(3, .inl (a3 + 1)), (2, .inl 1), (0, .inr (.inr a0)), (1, .inl a1)]) rfl rfl rfl (by decide) rfl ?_
        refine r_ltV (fun x11 => ?_)
        refine r_goto 30 12 rfl rfl ?_
        exact r_sub [2, 3, 1, 0] rfl (hc12 (1, x11))
  exact r_sub [2, 3, 1, 0] rfl (hj12 0 x2)
theorem ct_X12_isWanted {t : List Sh} {m : Mi} {a0 : Nat} {a1 : Int32} {v : Int32}  (h0 : sh t a0 = some (.inl 12)) (h : f_X12_isWanted t m a0 a1 = some v) : Ct u_X12_isWanted 2 0 0 [.inr (.inr a0), .inl a1] (t, m) (some (.inl v), (t, m)) :=
  ct_of (by decide) tk_X12_isWanted (Nat.le_of_ble_eq_true rfl) (sm_X12_isWanted t m a0 a1 h0) (by rw [h]; rfl) (Nat.le_refl _) (Nat.le_refl _)
theorem fl_RX12_234 : FL RX12 234 12 16 false := ⟨RX12, TX12, 61, rfl, inW12, tyX12_ok, nmX12, by decide, rfl, rfl, rfl, tbm 1343 (by decide +kernel) rfl⟩
theorem lk_RX12_169 : Cond.methodLink RX12 169 yX12_at ∈ TB := tbm 1535 (by decide +kernel) rfl
def tb_X12_isWord : Tb := [(0, (.lconst 0, 1)), (1, (.lstore 4, 2)), (3, (.aload_n 0, 1)), (4, (.getfield 231, 3)), (7, (.istore 6, 2)), (9, (.iload 6, 2)), (11, (.aload_n 0, 1)), (12, (.getfield 234, 3)), (15, (.if_icmp .ge 24, 3)), (18, (.lload 4, 2)), (20, (.bipush 8, 2)), (22, (.lshl, 1)), (23, (.aload_n 0, 1)), (24, (.iload 6, 2)), (26, (.invokevirtual 169, 3)), (29, (.i2l, 1)), (30, (.lor, 1)), (31, (.lstore 4, 2)), (33, (.iinc 6 1, 3)), (36, (.goto (-27), 3)), (39, (.aload_n 0, 1)), (40, (.getfield 234, 3)), (43, (.aload_n 0, 1)), (44, (.getfield 231, 3)), (47, (.isub, 1)), (48, (.iload_n 3, 1)), (49, (.if_icmp .ne 14, 3)), (52, (.lload 4, 2)), (54, (.lload_n 1, 1)), (55, (.lcmp, 1)), (56, (.ifCond .ne 7, 3)), (59, (.iconst 1, 1)), (60, (.goto 4, 3)), (63, (.iconst 0, 1)), (64, (.ireturn, 1))]
def u_X12_isWord : Fx := (yX12_isWord, (cX12_isWord, (7, ((some .boolean), tb_X12_isWord))))
theorem tk_X12_isWord : ∀ q ∈ u_X12_isWord.2.2.2.2, decode u_X12_isWord.2.1 q.1 = .ok q.2 := by decide +kernel
theorem mc_X12_isWord : MC u_X12_isWord 2 := ⟨tbm 1549 (by decide +kernel) rfl, tbm 128 (by decide +kernel) rfl, ⟨by decide, by decide, by decide +kernel⟩, by decide⟩
theorem in_X12_isWord : Cond.instanceMethod u_X12_isWord.1 ∈ TB ∧ Cond.selects u_X12_isWord.1.cls u_X12_isWord.1 u_X12_isWord.1 ∈ TB := ⟨tbm 1548 (by decide +kernel) rfl, tbm 72 (by decide +kernel) rfl⟩
def f_X12_isWord_j39 (t : List Sh) (m : Mi) (a0 : Nat) (a1 : Int64) (a3 : Int32) (a4 : Int64) : Option (Int32) :=
  if ((gi m a0 16) - (gi m a0 15)) = a3 then
    if (lg_cmp a4 a1) = 0 then
      some 1
    else
      some 0
  else
    some 0
def f_X12_isWord_l9 (t : List Sh) (m : Mi) (a0 : Nat) (a1 : Int64) (a3 : Int32) (a4 : Int64) (a6 : Int32) : Option ((Int64 × Int32) ⊕ ((Int64))) :=
  if (gi m a0 16) ≤ a6 then
    some (.inr a4)
  else
    (f_X12_at t m a0 a6).bind fun x5 =>
    lt ((a4 <<< (Int32.toInt64 8 &&& 63)) ||| (Int32.toInt64 x5)) fun x6 =>
    lt (a6 + 1) fun x7 =>
    some (.inl (x6, x7))
def f_X12_isWord_j9 (t : List Sh) (m : Mi) (a0 : Nat) (a1 : Int64) (a3 : Int32) (a4 : Int64) (a6 : Int32) : Option (Int32) :=
  (lp (fun x : Int64 × Int32 => f_X12_isWord_l9 t m a0 a1 a3 x.1 x.2) FUEL (a4, a6)).bind (fun y : Int64 => f_X12_isWord_j39 t m a0 a1 a3 y)
def f_X12_isWord (t : List Sh) (m : Mi) (a0 : Nat) (a1 : Int64) (a3 : Int32) : Option (Int32) :=
  lt (gi m a0 15) fun x1 =>
  f_X12_isWord_j9 t m a0 a1 a3 0 x1
set_option maxRecDepth 4000 in
set_option maxHeartbeats 4000000 in
theorem sm_X12_isWord (t : List Sh) (m : Mi) (a0 : Nat) (a1 : Int64) (a3 : Int32) (h0 : sh t a0 = some (.inl 12)) : Sm u_X12_isWord (2, 0, 0, t.length, zs t) (kIo t m) 0 [(0, .inr (.inr a0)), (1, .inr (.inl a1)), (3, .inl a3)] [] (t, m) (f_X12_isWord t m a0 a1 a3) := by
  unfold f_X12_isWord
  refine r_lconst 0 1 (v := 0) rfl rfl (by decide) ?_
  refine r_lstore 1 3 (L' := [(4, .inr (.inl 0)), (0, .inr (.inr a0)), (1, .inr (.inl a1)), (3, .inl a3)]) rfl rfl (by decide) rfl ?_
  refine r_aload_n 2 4 1 rfl rfl rfl rfl ?_
  refine r_getI 3 7 rfl rfl fl_RX12_231 rfl h0 ?_
  refine r_ltI (fun x1 => ?_)
  refine r_istore 4 9 (L' := [(6, .inl x1), (4, .inr (.inl 0)), (0, .inr (.inr a0)), (1, .inr (.inl a1)), (3, .inl a3)]) rfl rfl (by decide) rfl ?_
  have hj9 : ∀ (a4 : Int64) (a6 : Int32), Sm u_X12_isWord (2, 0, 0, t.length, zs t) (kIo t m) 9 [(0, .inr (.inr a0)), (1, .inr (.inl a1)), (3, .inl a3), (4, .inr (.inl a4)), (6, .inl a6)] [] (t, m) (f_X12_isWord_j9 t m a0 a1 a3 a4 a6) := by
    intro a4 a6
    unfold f_X12_isWord_j9
    have hj39 : ∀ (a4 : Int64), Sm u_X12_isWord (2, 0, 0, t.length, zs t) (kIo t m) 39 [(0, .inr (.inr a0)), (1, .inr (.inl a1)), (3, .inl a3), (4, .inr (.inl a4))] [] (t, m) (f_X12_isWord_j39 t m a0 a1 a3 a4) := by
      intro a4
      unfold f_X12_isWord_j39
      refine r_aload_n 20 40 0 rfl rfl rfl rfl ?_
      refine r_getI 21 43 rfl rfl fl_RX12_234 rfl h0 ?_
      refine r_aload_n 22 44 0 rfl rfl rfl rfl ?_
      refine r_getI 23 47 rfl rfl fl_RX12_231 rfl h0 ?_
      refine r_isub 24 48 rfl rfl ?_
      refine r_iload_n 25 49 2 rfl rfl rfl rfl ?_
      refine r_icmp_ne 26 63 52 rfl rfl rfl (fun h2 => ?_) (fun h2 => ?_)
      · refine r_lload 27 54 3 rfl rfl rfl ?_
        refine r_lload_n 28 55 1 rfl rfl rfl rfl ?_
        refine r_lcmp 29 56 rfl rfl ?_
        refine r_if_ne 30 63 59 rfl rfl rfl (fun h3 => ?_) (fun h3 => ?_)
        · refine r_iconst 31 60 (v := 1) rfl rfl (by decide) ?_
          refine r_goto 32 64 rfl rfl ?_
          exact r_zret 34 rfl rfl (by decide) rfl
        · refine r_iconst 33 64 (v := 0) rfl rfl (by decide) ?_
          exact r_zret 34 rfl rfl (by decide) rfl
      · refine r_iconst 33 64 (v := 0) rfl rfl (by decide) ?_
        exact r_zret 34 rfl rfl (by decide) rfl
    refine r_lp (Lf := fun x : Int64 × Int32 => [(0, .inr (.inr a0)), (1, .inr (.inl a1)), (3, .inl a3), (4, .inr (.inl (x.1))), (6, .inl (x.2))]) (Mf := fun x : Int64 × Int32 => (t, m)) (a4, a6) ?_ FUEL
    rintro ⟨a4, a6⟩ κ9 hc9 he9
    refine r_eq (L' := [(0, .inr (.inr a0)), (1, .inr (.inl a1)), (3, .inl a3), (4, .inr (.inl a4)), (6, .inl a6)]) (M' := (t, m)) rfl rfl ?_
    refine r_eqr (r' := f_X12_isWord_l9 t m a0 a1 a3 a4 a6) rfl ?_
    unfold f_X12_isWord_l9
    refine r_iload 5 11 4 rfl rfl rfl ?_
    refine r_aload_n 6 12 0 rfl rfl rfl rfl ?_
    refine r_getI 7 15 rfl rfl fl_RX12_234 rfl h0 ?_
    refine r_icmp_ge 8 39 18 rfl rfl rfl (fun h4 => ?_) (fun h4 => ?_)
    · refine r_leaf (r2 := (f_X12_isWord_j39 t m a0 a1 a3 a4 : Option (Int32))) (he9 _) ?_
      exact r_sub [0, 1, 2, 3] rfl (hj39 a4)
    · refine r_lload 9 20 3 rfl rfl rfl ?_
      refine r_bipush 10 22 (v := 8) rfl rfl (by decide) ?_
      refine r_lshl 11 23 rfl rfl ?_
      refine r_aload_n 12 24 0 rfl rfl rfl rfl ?_
      refine r_iload 13 26 4 rfl rfl rfl ?_
      refine r_VIo 14 29 (st := [.inr (.inl (a4 <<< (Int32.toInt64 8 &&& 63)))]) (av := [.inr (.inr a0), .inl a6]) (av' := [.inl a6]) (μ' := u_X12_at) (d := 1) rfl rfl mc_X12_at in_X12_at lk_RX12_169 (Nat.le_of_ble_eq_true rfl) rfl rfl h0 rfl (Nat.le_of_ble_eq_true rfl) (fun _ h => ct_X12_at h0 h) (fun x5 => ?_)
      refine r_i2l 15 30 rfl rfl ?_
      refine r_lor 16 31 rfl rfl ?_
      refine r_ltL (fun x6 => ?_)
      refine r_lstore 17 33 (L' := [(4, .inr (.inl x6)), (0, .inr (.inr a0)), (1, .inr (.inl a1)), (3, .inl a3), (6, .inl a6)]) rfl rfl (by decide) rfl ?_
      refine r_iinc 18 36 4 (L' := [(6, .inl (a6 + 1)), (4, .inr (.inl x6)), (0, .inr (.inr a0)), (1, .inr (.inl a1)), (3, .inl a3)]) rfl rfl rfl (by decide) rfl ?_
      refine r_ltV (fun x7 => ?_)
      refine r_goto 19 9 rfl rfl ?_
      exact r_sub [2, 3, 4, 1, 0] rfl (hc9 (x6, x7))
  exact r_sub [2, 3, 4, 1, 0] rfl (hj9 0 x1)
theorem ct_X12_isWord {t : List Sh} {m : Mi} {a0 : Nat} {a1 : Int64} {a3 : Int32} {v : Int32}  (h0 : sh t a0 = some (.inl 12)) (h : f_X12_isWord t m a0 a1 a3 = some v) : Ct u_X12_isWord 2 0 0 [.inr (.inr a0), .inr (.inl a1), .inl a3] (t, m) (some (.inl v), (t, m)) :=
  ct_of (by decide) tk_X12_isWord (Nat.le_of_ble_eq_true rfl) (sm_X12_isWord t m a0 a1 a3 h0) (by rw [h]; rfl) (Nat.le_refl _) (Nat.le_refl _)
def tb_X12_manyOf : Tb := [(0, (.aload_n 0, 1)), (1, (.getfield 43, 3)), (4, (.aload_n 0, 1)), (5, (.getfield 326, 3)), (8, (.iaload, 1)), (9, (.ifCond .ne 7, 3)), (12, (.iconst 0, 1)), (13, (.goto 25, 3)), (16, (.aload_n 0, 1)), (17, (.getfield 61, 3)), (20, (.bipush 11, 2)), (22, (.aload_n 0, 1)), (23, (.getfield 326, 3)), (26, (.imul, 1)), (27, (.iload_n 1, 1)), (28, (.iadd, 1)), (29, (.iconst 1, 1)), (30, (.iadd, 1)), (31, (.iaload, 1)), (32, (.aload_n 0, 1)), (33, (.iload_n 1, 1)), (34, (.invokevirtual 352, 3)), (37, (.isub, 1)), (38, (.ireturn, 1))]
def u_X12_manyOf : Fx := (yX12_manyOf, (cX12_manyOf, (2, ((some .int), tb_X12_manyOf))))
theorem tk_X12_manyOf : ∀ q ∈ u_X12_manyOf.2.2.2.2, decode u_X12_manyOf.2.1 q.1 = .ok q.2 := by decide +kernel
theorem mc_X12_manyOf : MC u_X12_manyOf 1 := ⟨tbm 1679 (by decide +kernel) rfl, tbm 128 (by decide +kernel) rfl, ⟨by decide, by decide, by decide +kernel⟩, by decide⟩
theorem in_X12_manyOf : Cond.instanceMethod u_X12_manyOf.1 ∈ TB ∧ Cond.selects u_X12_manyOf.1.cls u_X12_manyOf.1 u_X12_manyOf.1 ∈ TB := ⟨tbm 1678 (by decide +kernel) rfl, tbm 94 (by decide +kernel) rfl⟩
def f_X12_manyOf (t : List Sh) (m : Mi) (a0 : Nat) (a1 : Int32) : Option (Int32) :=
  (if ar t (gr m a0 23) .int (gi m a0 21) = true then
  if (gi m (gr m a0 23) (ix (gi m a0 21))) = 0 then
    some 0
  else
    (if ar t (gr m a0 29) .int (((11 * (gi m a0 21)) + a1) + 1) = true then
    (f_X12_first_ t m a0 a1).bind fun x4 =>
    some ((gi m (gr m a0 29) (ix (((11 * (gi m a0 21)) + a1) + 1))) - x4)
    else none)
  else none)
set_option maxRecDepth 4000 in
set_option maxHeartbeats 4000000 in
theorem sm_X12_manyOf (t : List Sh) (m : Mi) (a0 : Nat) (a1 : Int32) (h0 : sh t a0 = some (.inl 12)) : Sm u_X12_manyOf (2, 0, 0, t.length, zs t) (kIo t m) 0 [(0, .inr (.inr a0)), (1, .inl a1)] [] (t, m) (f_X12_manyOf t m a0 a1) := by
  unfold f_X12_manyOf
  refine r_aload_n 0 1 0 rfl rfl rfl rfl ?_
  refine r_getR 1 4 rfl rfl fl_RX12_43 rfl h0 ?_
  refine r_aload_n 2 5 0 rfl rfl rfl rfl ?_
  refine r_getI 3 8 rfl rfl fl_RX12_326 rfl h0 ?_
  refine r_gd (fun h1 => ?_)
  refine r_iald 4 9 rfl rfl h1 ?_
  refine r_if_ne 5 16 12 rfl rfl rfl (fun h2 => ?_) (fun h2 => ?_)
  · refine r_iconst 6 13 (v := 0) rfl rfl (by decide) ?_
    refine r_goto 7 38 rfl rfl ?_
    exact r_iret 23 rfl rfl rfl
  · refine r_aload_n 8 17 0 rfl rfl rfl rfl ?_
    refine r_getR 9 20 rfl rfl fl_RX12_61 rfl h0 ?_
    refine r_bipush 10 22 (v := 11) rfl rfl (by decide) ?_
    refine r_aload_n 11 23 0 rfl rfl rfl rfl ?_
    refine r_getI 12 26 rfl rfl fl_RX12_326 rfl h0 ?_
    refine r_imul 13 27 rfl rfl ?_
    refine r_iload_n 14 28 1 rfl rfl rfl rfl ?_
    refine r_iadd 15 29 rfl rfl ?_
    refine r_iconst 16 30 (v := 1) rfl rfl (by decide) ?_
    refine r_iadd 17 31 rfl rfl ?_
    refine r_gd (fun h3 => ?_)
    refine r_iald 18 32 rfl rfl h3 ?_
    refine r_aload_n 19 33 0 rfl rfl rfl rfl ?_
    refine r_iload_n 20 34 1 rfl rfl rfl rfl ?_
    refine r_VIo 21 37 (st := [.inl (gi m (gr m a0 29) (ix (((11 * (gi m a0 21)) + a1) + 1)))]) (av := [.inr (.inr a0), .inl a1]) (av' := [.inl a1]) (μ' := u_X12_first_) (d := 1) rfl rfl mc_X12_first_ in_X12_first_ lk_RX12_352 (Nat.le_of_ble_eq_true rfl) rfl rfl h0 rfl (Nat.le_of_ble_eq_true rfl) (fun _ h => ct_X12_first_ h0 h) (fun x4 => ?_)
    refine r_isub 22 38 rfl rfl ?_
    exact r_iret 23 rfl rfl rfl
theorem ct_X12_manyOf {t : List Sh} {m : Mi} {a0 : Nat} {a1 : Int32} {v : Int32}  (h0 : sh t a0 = some (.inl 12)) (h : f_X12_manyOf t m a0 a1 = some v) : Ct u_X12_manyOf 2 0 0 [.inr (.inr a0), .inl a1] (t, m) (some (.inl v), (t, m)) :=
  ct_of (by decide) tk_X12_manyOf (Nat.le_of_ble_eq_true rfl) (sm_X12_manyOf t m a0 a1 h0) (by rw [h]; rfl) (Nat.le_refl _) (Nat.le_refl _)
theorem fl_RX12_37 : FL RX12 37 12 13 true := ⟨RX12, TX12, 61, rfl, inW12, tyX12_ok, nmX12, by decide, rfl, rfl, rfl, tbm 1340 (by decide +kernel) rfl⟩
theorem lk_RX12_206 : Cond.methodLink RX12 206 yX12_none ∈ TB := tbm 1322 (by decide +kernel) rfl
theorem fl_RX12_34 : FL RX12 34 12 12 true := ⟨RX12, TX12, 61, rfl, inW12, tyX12_ok, nmX12, by decide, rfl, rfl, rfl, tbm 1339 (by decide +kernel) rfl⟩
theorem lk_RX12_224 : Cond.methodLink RX12 224 yX12_copy ∈ TB := tbm 1593 (by decide +kernel) rfl
theorem lk_RX12_209 : Cond.methodLink RX12 209 yX12_compare ∈ TB := tbm 1603 (by decide +kernel) rfl
def tb_X12_nextEnd : Tb := [(0, (.aload_n 0, 1)), (1, (.aload_n 0, 1)), (2, (.getfield 37, 3)), (5, (.iconst 0, 1)), (6, (.invokevirtual 206, 3)), (9, (.iconst 0, 1)), (10, (.istore_n 3, 1)), (11, (.iload_n 3, 1)), (12, (.iconst 2, 1)), (13, (.if_icmp .ge 105, 3)), (16, (.iload_n 3, 1)), (17, (.ifCond .ne 7, 3)), (20, (.iload_n 1, 1)), (21, (.goto 4, 3)), (24, (.iload_n 2, 1)), (25, (.istore 4, 2)), (27, (.iconst 0, 1)), (28, (.istore 5, 2)), (30, (.iload 5, 2)), (32, (.iconst 2, 1)), (33, (.aload_n 0, 1)), (34, (.getfield 20, 3)), (37, (.iload 4, 2)), (39, (.iaload, 1)), (40, (.imul, 1)), (41, (.if_icmp .ge 71, 3)), (44, (.iload 4, 2)), (46, (.iconst 0, 1)), (47, (.invokestatic 194, 3)), (50, (.iload 5, 2)), (52, (.bipush 9, 2)), (54, (.imul, 1)), (55, (.iadd, 1)), (56, (.istore 6, 2)), (58, (.aload_n 0, 1)), (59, (.getfield 25, 3)), (62, (.iload 6, 2)), (64, (.aload_n 0, 1)), (65, (.getfield 34, 3)), (68, (.iconst 0, 1)), (69, (.invokestatic 209, 3)), (72, (.ifCond .le 34, 3)), (75, (.aload_n 0, 1)), (76, (.getfield 25, 3)), (79, (.iload 6, 2)), (81, (.aload_n 0, 1)), (82, (.getfield 37, 3)), (85, (.iconst 0, 1)), (86, (.invokestatic 209, 3)), (89, (.ifCond .ge 17, 3)), (92, (.aload_n 0, 1)), (93, (.getfield 37, 3)), (96, (.iconst 0, 1)), (97, (.aload_n 0, 1)), (98, (.getfield 25, 3)), (101, (.iload 6, 2)), (103, (.invokestatic 224, 3)), (106, (.iinc 5 1, 3)), (109, (.goto (-79), 3)), (112, (.iinc 3 1, 3)), (115, (.goto (-104), 3)), (118, (.aload_n 0, 1)), (119, (.getfield 37, 3)), (122, (.iconst 0, 1)), (123, (.laload, 1)), (124, (.ldc2_w 197, 3)), (127, (.lcmp, 1)), (128, (.ifCond .ne 5, 3)), (131, (.iconst 0, 1)), (132, (.ireturn, 1)), (133, (.aload_n 0, 1)), (134, (.getfield 34, 3)), (137, (.iconst 0, 1)), (138, (.aload_n 0, 1)), (139, (.getfield 37, 3)), (142, (.iconst 0, 1)), (143, (.invokestatic 224, 3)), (146, (.iconst 1, 1)), (147, (.ireturn, 1))]
def u_X12_nextEnd : Fx := (yX12_nextEnd, (cX12_nextEnd, (7, ((some .boolean), tb_X12_nextEnd))))
theorem tk_X12_nextEnd : ∀ q ∈ u_X12_nextEnd.2.2.2.2, decode u_X12_nextEnd.2.1 q.1 = .ok q.2 := by decide +kernel
theorem mc_X12_nextEnd : MC u_X12_nextEnd 2 := ⟨tbm 1620 (by decide +kernel) rfl, tbm 128 (by decide +kernel) rfl, ⟨by decide, by decide, by decide +kernel⟩, by decide⟩
theorem in_X12_nextEnd : Cond.instanceMethod u_X12_nextEnd.1 ∈ TB ∧ Cond.selects u_X12_nextEnd.1.cls u_X12_nextEnd.1 u_X12_nextEnd.1 ∈ TB := ⟨tbm 1619 (by decide +kernel) rfl, tbm 84 (by decide +kernel) rfl⟩
def f_X12_nextEnd_j118 (t : List Sh) (m : Mi) (a0 : Nat) : Option (Int32 × Mi) :=
  (if ar t (gr m a0 13) .long 0 = true then
  if (lg_cmp (gl m (gr m a0 13) (ix 0)) 1099511627776) = 0 then
    some (0, m)
  else
    (f_X12_copy t m (gr m a0 12) 0 (gr m a0 13) 0).bind fun m4 =>
    some (1, m4)
  else none)
def f_X12_nextEnd_j112 (t : List Sh) (m : Mi) (a0 : Nat) (a1 : Int32) (a2 : Int32) (a3 : Int32) : Option ((Int32 × Mi) ⊕ ((Mi))) :=
  lt (a3 + 1) fun x6 =>
  some (.inl (x6, m))
def f_X12_nextEnd_l30 (t : List Sh) (m : Mi) (a0 : Nat) (a1 : Int32) (a2 : Int32) (a3 : Int32) (a4 : Int32) (a5 : Int32) : Option ((Int32 × Mi) ⊕ ((Mi))) :=
  (if ar t (gr m a0 7) .int a4 = true then
  if (2 * (gi m (gr m a0 7) (ix a4))) ≤ a5 then
    some (.inr m)
  else
    (f_X12_from a4 0).bind fun x9 =>
    lt (x9 + (a5 * 9)) fun x10 =>
    (f_X12_compare t m (gr m a0 8) x10 (gr m a0 12) 0).bind fun x11 =>
    if x11 ≤ 0 then
      lt (a5 + 1) fun x13 =>
      some (.inl (x13, m))
    else
      (f_X12_compare t m (gr m a0 8) x10 (gr m a0 13) 0).bind fun x14 =>
      if 0 ≤ x14 then
        lt (a5 + 1) fun x16 =>
        some (.inl (x16, m))
      else
        (f_X12_copy t m (gr m a0 13) 0 (gr m a0 8) x10).bind fun m17 =>
        lt (a5 + 1) fun x18 =>
        some (.inl (x18, m17))
  else none)
def f_X12_nextEnd_j30 (t : List Sh) (m : Mi) (a0 : Nat) (a1 : Int32) (a2 : Int32) (a3 : Int32) (a4 : Int32) (a5 : Int32) : Option ((Int32 × Mi) ⊕ ((Mi))) :=
  (lp (fun x : Int32 × Mi => f_X12_nextEnd_l30 t x.2 a0 a1 a2 a3 a4 x.1) FUEL (a5, m)).bind (fun y : Mi => f_X12_nextEnd_j112 t y a0 a1 a2 a3)
def f_X12_nextEnd_j25 (t : List Sh) (m : Mi) (a0 : Nat) (a1 : Int32) (a2 : Int32) (a3 : Int32) (s0 : Int32) : Option ((Int32 × Mi) ⊕ ((Mi))) :=
  f_X12_nextEnd_j30 t m a0 a1 a2 a3 s0 0
def f_X12_nextEnd_l11 (t : List Sh) (m : Mi) (a0 : Nat) (a1 : Int32) (a2 : Int32) (a3 : Int32) : Option ((Int32 × Mi) ⊕ ((Mi))) :=
  if 2 ≤ a3 then
    some (.inr m)
  else
    if a3 = 0 then
      f_X12_nextEnd_j25 t m a0 a1 a2 a3 a1
    else
      f_X12_nextEnd_j25 t m a0 a1 a2 a3 a2
def f_X12_nextEnd_j11 (t : List Sh) (m : Mi) (a0 : Nat) (a1 : Int32) (a2 : Int32) (a3 : Int32) : Option (Int32 × Mi) :=
  (lp (fun x : Int32 × Mi => f_X12_nextEnd_l11 t x.2 a0 a1 a2 x.1) FUEL (a3, m)).bind (fun y : Mi => f_X12_nextEnd_j118 t y a0)
def f_X12_nextEnd (t : List Sh) (m : Mi) (a0 : Nat) (a1 : Int32) (a2 : Int32) : Option (Int32 × Mi) :=
  (f_X12_none t m a0 (gr m a0 13) 0).bind fun m1 =>
  f_X12_nextEnd_j11 t m1 a0 a1 a2 0
set_option maxRecDepth 4000 in
set_option maxHeartbeats 4000000 in
theorem sm_X12_nextEnd (t : List Sh) (m : Mi) (a0 : Nat) (a1 : Int32) (a2 : Int32) (h0 : sh t a0 = some (.inl 12)) : Sm u_X12_nextEnd (2, 0, 0, t.length, zs t) (kI t) 0 [(0, .inr (.inr a0)), (1, .inl a1), (2, .inl a2)] [] (t, m) (f_X12_nextEnd t m a0 a1 a2) := by
  unfold f_X12_nextEnd
  refine r_aload_n 0 1 0 rfl rfl rfl rfl ?_
  refine r_aload_n 1 2 0 rfl rfl rfl rfl ?_
  refine r_getR 2 5 rfl rfl fl_RX12_37 rfl h0 ?_
  refine r_iconst 3 6 (v := 0) rfl rfl (by decide) ?_
  refine r_VV 4 9 (st := []) (av := [.inr (.inr a0), .inr (.inr (gr m a0 13)), .inl 0]) (av' := [.inr (.inr (gr m a0 13)), .inl 0]) (μ' := u_X12_none) (d := 1) rfl rfl mc_X12_none in_X12_none lk_RX12_206 (Nat.le_of_ble_eq_true rfl) rfl rfl h0 rfl (Nat.le_of_ble_eq_true rfl) (fun _ h => ct_X12_none h0 h) (fun m1 => ?_)
  refine r_iconst 5 10 (v := 0) rfl rfl (by decide) ?_
  refine r_istore_n 6 11 (L' := [(3, .inl 0), (0, .inr (.inr a0)), (1, .inl a1), (2, .inl a2)]) rfl rfl rfl (by decide) rfl ?_
  have hj11 : ∀ (m : Mi) (a3 : Int32), Sm u_X12_nextEnd (2, 0, 0, t.length, zs t) (kI t) 11 [(0, .inr (.inr a0)), (1, .inl a1), (2, .inl a2), (3, .inl a3)] [] (t, m) (f_X12_nextEnd_j11 t m a0 a1 a2 a3) := by
    intro m a3
    unfold f_X12_nextEnd_j11
    have hj118 : ∀ (m : Mi), Sm u_X12_nextEnd (2, 0, 0, t.length, zs t) (kI t) 118 [(0, .inr (.inr a0))] [] (t, m) (f_X12_nextEnd_j118 t m a0) := by
      intro m
      unfold f_X12_nextEnd_j118
      refine r_aload_n 61 119 0 rfl rfl rfl rfl ?_
      refine r_getR 62 122 rfl rfl fl_RX12_37 rfl h0 ?_
      refine r_iconst 63 123 (v := 0) rfl rfl (by decide) ?_
      refine r_gd (fun h2 => ?_)
      refine r_lald 64 124 rfl rfl h2 ?_
      refine r_ldc2 65 127 rfl rfl kc_RX12_197 ?_
      refine r_lcmp 66 128 rfl rfl ?_
      refine r_if_ne 67 133 131 rfl rfl rfl (fun h3 => ?_) (fun h3 => ?_)
      · refine r_iconst 68 132 (v := 0) rfl rfl (by decide) ?_
        exact r_zret 69 rfl rfl (by decide) rfl
      · refine r_aload_n 70 134 0 rfl rfl rfl rfl ?_
        refine r_getR 71 137 rfl rfl fl_RX12_34 rfl h0 ?_
        refine r_iconst 72 138 (v := 0) rfl rfl (by decide) ?_
        refine r_aload_n 73 139 0 rfl rfl rfl rfl ?_
        refine r_getR 74 142 rfl rfl fl_RX12_37 rfl h0 ?_
        refine r_iconst 75 143 (v := 0) rfl rfl (by decide) ?_
        refine r_SV 76 146 (a := 0) (cn := 0) (st := []) (av := [.inr (.inr (gr m a0 12)), .inl 0, .inr (.inr (gr m a0 13)), .inl 0]) (μ' := u_X12_copy) (d := 1) rfl rfl mc_X12_copy st_X12_copy lk_RX12_224 (Nat.le_of_ble_eq_true rfl) rfl (Nat.le_of_ble_eq_true rfl) (fun _ h => ct_X12_copy h) (fun m4 => ?_)
        refine r_iconst 77 147 (v := 1) rfl rfl (by decide) ?_
        exact r_zret 78 rfl rfl (by decide) rfl
    refine r_lp (Lf := fun x : Int32 × Mi => [(0, .inr (.inr a0)), (1, .inl a1), (2, .inl a2), (3, .inl (x.1))]) (Mf := fun x : Int32 × Mi => (t, x.2)) (a3, m) ?_ FUEL
    rintro ⟨a3, m⟩ κ11 hc11 he11
    refine r_eq (L' := [(0, .inr (.inr a0)), (1, .inl a1), (2, .inl a2), (3, .inl a3)]) (M' := (t, m)) rfl rfl ?_
    refine r_eqr (r' := f_X12_nextEnd_l11 t m a0 a1 a2 a3) rfl ?_
    unfold f_X12_nextEnd_l11
    refine r_iload_n 7 12 3 rfl rfl rfl rfl ?_
    refine r_iconst 8 13 (v := 2) rfl rfl (by decide) ?_
    refine r_icmp_ge 9 118 16 rfl rfl rfl (fun h5 => ?_) (fun h5 => ?_)
    · refine r_leaf (r2 := (f_X12_nextEnd_j118 t m a0 : Option (Int32 × Mi))) (he11 _) ?_
      exact r_sub [0] rfl (hj118 m)
    · refine r_iload_n 10 17 3 rfl rfl rfl rfl ?_
      have hj25 : ∀ (m : Mi) (a3 : Int32) (s0 : Int32), Sm u_X12_nextEnd (2, 0, 0, t.length, zs t) κ11 25 [(0, .inr (.inr a0)), (1, .inl a1), (2, .inl a2), (3, .inl a3)] [.inl s0] (t, m) (f_X12_nextEnd_j25 t m a0 a1 a2 a3 s0) := by
        intro m a3 s0
        unfold f_X12_nextEnd_j25
        refine r_istore 15 27 (L' := [(4, .inl s0), (0, .inr (.inr a0)), (1, .inl a1), (2, .inl a2), (3, .inl a3)]) rfl rfl (by decide) rfl ?_
        refine r_iconst 16 28 (v := 0) rfl rfl (by decide) ?_
        refine r_istore 17 30 (L' := [(5, .inl 0), (4, .inl s0), (0, .inr (.inr a0)), (1, .inl a1), (2, .inl a2), (3, .inl a3)]) rfl rfl (by decide) rfl ?_
        have hj30 : ∀ (m : Mi) (a3 : Int32) (a4 : Int32) (a5 : Int32), Sm u_X12_nextEnd (2, 0, 0, t.length, zs t) κ11 30 [(0, .inr (.inr a0)), (1, .inl a1), (2, .inl a2), (3, .inl a3), (4, .inl a4), (5, .inl a5)] [] (t, m) (f_X12_nextEnd_j30 t m a0 a1 a2 a3 a4 a5) := by
          intro m a3 a4 a5
          unfold f_X12_nextEnd_j30
          have hj112 : ∀ (m : Mi) (a3 : Int32), Sm u_X12_nextEnd (2, 0, 0, t.length, zs t) κ11 112 [(0, .inr (.inr a0)), (1, .inl a1), (2, .inl a2), (3, .inl a3)] [] (t, m) (f_X12_nextEnd_j112 t m a0 a1 a2 a3) := by
            intro m a3
            unfold f_X12_nextEnd_j112
            refine r_iinc 59 115 3 (L' := [(3, .inl (a3 + 1)), (0, .inr (.inr a0)), (1, .inl a1), (2, .inl a2)]) rfl rfl rfl (by decide) rfl ?_
            refine r_ltV (fun x6 => ?_)
            refine r_goto 60 11 rfl rfl ?_
            exact r_sub [1, 2, 3, 0] rfl (hc11 (x6, m))
          refine r_lp (Lf := fun x : Int32 × Mi => [(0, .inr (.inr a0)), (1, .inl a1), (2, .inl a2), (3, .inl a3), (4, .inl a4), (5, .inl (x.1))]) (Mf := fun x : Int32 × Mi => (t, x.2)) (a5, m) ?_ FUEL
          rintro ⟨a5, m⟩ κ30 hc30 he30
          refine r_eq (L' := [(0, .inr (.inr a0)), (1, .inl a1), (2, .inl a2), (3, .inl a3), (4, .inl a4), (5, .inl a5)]) (M' := (t, m)) rfl rfl ?_
          refine r_eqr (r' := f_X12_nextEnd_l30 t m a0 a1 a2 a3 a4 a5) rfl ?_
          unfold f_X12_nextEnd_l30
          refine r_iload 18 32 5 rfl rfl rfl ?_
          refine r_iconst 19 33 (v := 2) rfl rfl (by decide) ?_
          refine r_aload_n 20 34 0 rfl rfl rfl rfl ?_
          refine r_getR 21 37 rfl rfl fl_RX12_20 rfl h0 ?_
          refine r_iload 22 39 4 rfl rfl rfl ?_
          refine r_gd (fun h7 => ?_)
          refine r_iald 23 40 rfl rfl h7 ?_
          refine r_imul 24 41 rfl rfl ?_
          refine r_icmp_ge 25 112 44 rfl rfl rfl (fun h8 => ?_) (fun h8 => ?_)
          · refine r_leaf (r2 := (f_X12_nextEnd_j112 t m a0 a1 a2 a3 : Option ((Int32 × Mi) ⊕ ((Mi))))) (he30 _) ?_
            exact r_sub [0, 1, 2, 3] rfl (hj112 m a3)
          · refine r_iload 26 46 4 rfl rfl rfl ?_
            refine r_iconst 27 47 (v := 0) rfl rfl (by decide) ?_
            refine r_SIo 28 50 (a := 0) (cn := 0) (st := []) (av := [.inl a4, .inl 0]) (μ' := u_X12_from) (d := 1) rfl rfl mc_X12_from st_X12_from lk_RX12_194 (Nat.le_of_ble_eq_true rfl) rfl (Nat.le_of_ble_eq_true rfl) (fun _ h => ct_X12_from h) (fun x9 => ?_)
            refine r_iload 29 52 5 rfl rfl rfl ?_
            refine r_bipush 30 54 (v := 9) rfl rfl (by decide) ?_
            refine r_imul 31 55 rfl rfl ?_
            refine r_iadd 32 56 rfl rfl ?_
            refine r_ltI (fun x10 => ?_)
            refine r_istore 33 58 (L' := [(6, .inl x10), (0, .inr (.inr a0)), (1, .inl a1), (2, .inl a2), (3, .inl a3), (4, .inl a4), (5, .inl a5)]) rfl rfl (by decide) rfl ?_
            refine r_aload_n 34 59 1 rfl rfl rfl rfl ?_
            refine r_getR 35 62 rfl rfl fl_RX12_25 rfl h0 ?_
            refine r_iload 36 64 0 rfl rfl rfl ?_
            refine r_aload_n 37 65 1 rfl rfl rfl rfl ?_
            refine r_getR 38 68 rfl rfl fl_RX12_34 rfl h0 ?_
            refine r_iconst 39 69 (v := 0) rfl rfl (by decide) ?_
            refine r_SIo 40 72 (a := 0) (cn := 0) (st := []) (av := [.inr (.inr (gr m a0 8)), .inl x10, .inr (.inr (gr m a0 12)), .inl 0]) (μ' := u_X12_compare) (d := 1) rfl rfl mc_X12_compare st_X12_compare lk_RX12_209 (Nat.le_of_ble_eq_true rfl) rfl (Nat.le_of_ble_eq_true rfl) (fun _ h => ct_X12_compare h) (fun x11 => ?_)
            refine r_if_le 41 106 75 rfl rfl rfl (fun h12 => ?_) (fun h12 => ?_)
            · refine r_iinc 57 109 6 (L' := [(5, .inl (a5 + 1)), (6, .inl x10), (0, .inr (.inr a0)), (1, .inl a1), (2, .inl a2), (3, .inl a3), (4, .inl a4)]) rfl rfl rfl (by decide) rfl ?_
              refine r_ltV (fun x13 => ?_)
              refine r_goto 58 30 rfl rfl ?_
              exact r_sub [2, 3, 4, 5, 6, 0] rfl (hc30 (x13, m))
            · refine r_aload_n 42 76 1 rfl rfl rfl rfl ?_
              refine r_getR 43 79 rfl rfl fl_RX12_25 rfl h0 ?_
              refine r_iload 44 81 0 rfl rfl rfl ?_
              refine r_aload_n 45 82 1 rfl rfl rfl rfl ?_
              refine r_getR 46 85 rfl rfl fl_RX12_37 rfl h0 ?_
              refine r_iconst 47 86 (v := 0) rfl rfl (by decide) ?_
              refine r_SIo 48 89 (a := 0) (cn := 0) (st := []) (av := [.inr (.inr (gr m a0 8)), .inl x10, .inr (.inr (gr m a0 13)), .inl 0]) (μ' := u_X12_compare) (d := 1) rfl rfl mc_X12_compare st_X12_compare lk_RX12_209 (Nat.le_of_ble_eq_true rfl) rfl (Nat.le_of_ble_eq_true rfl) (fun _ h => ct_X12_compare h) (fun x14 => ?_)
              refine r_if_ge 49 106 92 rfl rfl rfl (fun h15 => ?_) (fun h15 => ?_)
              · refine r_iinc 57 109 6 (L' := [(5, .inl (a5 + 1)), (6, .inl x10), (0, .inr (.inr a0)), (1, .inl a1), (2, .inl a2), (3, .inl a3), (4, .inl a4)]) rfl rfl rfl (by decide) rfl ?_
                refine r_ltV (fun x16 => ?_)
                refine r_goto 58 30 rfl rfl ?_
                exact r_sub [2, 3, 4, 5, 6, 0] rfl (hc30 (x16, m))
              · refine r_aload_n 50 93 1 rfl rfl rfl rfl ?_
                refine r_getR 51 96 rfl rfl fl_RX12_37 rfl h0 ?_
                refine r_iconst 52 97 (v := 0) rfl rfl (by decide) ?_
                refine r_aload_n 53 98 1 rfl rfl rfl rfl ?_
                refine r_getR 54 101 rfl rfl fl_RX12_25 rfl h0 ?_
                refine r_iload 55 103 0 rfl rfl rfl ?_
                refine r_SV 56 106 (a := 0) (cn := 0) (st := []) (av := [.inr (.inr (gr m a0 13)), .inl 0, .inr (.inr (gr m a0 8)), .inl x10]) (μ' := u_X12_copy) (d := 1) rfl rfl mc_X12_copy st_X12_copy lk_RX12_224 (Nat.le_of_ble_eq_true rfl) rfl (Nat.le_of_ble_eq_true rfl) (fun _ h => ct_X12_copy h) (fun m17 => ?_)
                refine r_iinc 57 109 6 (L' := [(5, .inl (a5 + 1)), (6, .inl x10), (0, .inr (.inr a0)), (1, .inl a1), (2, .inl a2), (3, .inl a3), (4, .inl a4)]) rfl rfl rfl (by decide) rfl ?_
                refine r_ltV (fun x18 => ?_)
                refine r_goto 58 30 rfl rfl ?_
                exact r_sub [2, 3, 4, 5, 6, 0] rfl (hc30 (x18, m17))
        exact r_sub [2, 3, 4, 5, 1, 0] rfl (hj30 m a3 s0 0)
      refine r_if_ne 11 24 20 rfl rfl rfl (fun h19 => ?_) (fun h19 => ?_)
      · refine r_iload_n 12 21 1 rfl rfl rfl rfl ?_
        refine r_goto 13 25 rfl rfl ?_
        exact hj25 m a3 a1
      · refine r_iload_n 14 25 2 rfl rfl rfl rfl ?_
        exact hj25 m a3 a2
  exact r_sub [1, 2, 3, 0] rfl (hj11 m1 0)
theorem ct_X12_nextEnd {t : List Sh} {m : Mi} {a0 : Nat} {a1 : Int32} {a2 : Int32} {m' : Mi} {v : Int32}  (h0 : sh t a0 = some (.inl 12)) (h : f_X12_nextEnd t m a0 a1 a2 = some (v, m')) : Ct u_X12_nextEnd 2 0 0 [.inr (.inr a0), .inl a1, .inl a2] (t, m) (some (.inl v), (t, m')) :=
  ct_of (by decide) tk_X12_nextEnd (Nat.le_of_ble_eq_true rfl) (sm_X12_nextEnd t m a0 a1 a2 h0) (by rw [h]; rfl) (Nat.le_refl _) (Nat.le_refl _)
theorem fl_RX12_175 : FL RX12 175 12 6 false := ⟨RX12, TX12, 61, rfl, inW12, tyX12_ok, nmX12, by decide, rfl, rfl, rfl, tbm 1333 (by decide +kernel) rfl⟩
theorem lk_RX12_163 : Cond.methodLink RX12 163 yX12_isDigit ∈ TB := tbm 1542 (by decide +kernel) rfl
theorem kc_RX12_171 : Cond.constantLong RX12 171 (10) ∈ TB := tbm 1571 (by decide +kernel) rfl
theorem kc_RX12_173 : Cond.constantLong RX12 173 (48) ∈ TB := tbm 1572 (by decide +kernel) rfl
def tb_X12_number : Tb := [(0, (.iload_n 1, 1)), (1, (.istore_n 3, 1)), (2, (.lconst 0, 1)), (3, (.lstore 4, 2)), (5, (.iload_n 3, 1)), (6, (.iload_n 2, 1)), (7, (.if_icmp .ge 48, 3)), (10, (.aload_n 0, 1)), (11, (.iload_n 3, 1)), (12, (.invokevirtual 169, 3)), (15, (.invokestatic 163, 3)), (18, (.ifCond .eq 37, 3)), (21, (.iload_n 3, 1)), (22, (.iload_n 1, 1)), (23, (.isub, 1)), (24, (.bipush 10, 2)), (26, (.if_icmp .ge 29, 3)), (29, (.ldc2_w 171, 3)), (32, (.lload 4, 2)), (34, (.lmul, 1)), (35, (.aload_n 0, 1)), (36, (.iload_n 3, 1)), (37, (.invokevirtual 169, 3)), (40, (.i2l, 1)), (41, (.ladd, 1)), (42, (.ldc2_w 173, 3)), (45, (.lsub, 1)), (46, (.lstore 4, 2)), (48, (.iload_n 3, 1)), (49, (.iconst 1, 1)), (50, (.iadd, 1)), (51, (.istore_n 3, 1)), (52, (.goto (-47), 3)), (55, (.iload_n 3, 1)), (56, (.iload_n 1, 1)), (57, (.isub, 1)), (58, (.istore 6, 2)), (60, (.iload 6, 2)), (62, (.ifCond .eq 26, 3)), (65, (.iload 6, 2)), (67, (.bipush 9, 2)), (69, (.if_icmp .gt 19, 3)), (72, (.iload 6, 2)), (74, (.iconst 1, 1)), (75, (.if_icmp .le 15, 3)), (78, (.aload_n 0, 1)), (79, (.iload_n 1, 1)), (80, (.invokevirtual 169, 3)), (83, (.bipush 48, 2)), (85, (.if_icmp .ne 5, 3)), (88, (.iconst (-1), 1)), (89, (.ireturn, 1)), (90, (.aload_n 0, 1)), (91, (.lload 4, 2)), (93, (.putfield 175, 3)), (96, (.iload_n 3, 1)), (97, (.ireturn, 1))]
def u_X12_number : Fx := (yX12_number, (cX12_number, (7, ((some .int), tb_X12_number))))
theorem tk_X12_number : ∀ q ∈ u_X12_number.2.2.2.2, decode u_X12_number.2.1 q.1 = .ok q.2 := by decide +kernel
theorem mc_X12_number : MC u_X12_number 2 := ⟨tbm 1570 (by decide +kernel) rfl, tbm 128 (by decide +kernel) rfl, ⟨by decide, by decide, by decide +kernel⟩, by decide⟩
theorem in_X12_number : Cond.instanceMethod u_X12_number.1 ∈ TB ∧ Cond.selects u_X12_number.1.cls u_X12_number.1 u_X12_number.1 ∈ TB := ⟨tbm 1569 (by decide +kernel) rfl, tbm 75 (by decide +kernel) rfl⟩
def f_X12_number_j90 (t : List Sh) (m : Mi) (a0 : Nat) (a3 : Int32) (a4 : Int64) : Option (Int32 × Mi) :=
  lt (sl m a0 6 a4) fun m4 =>
  some (a3, m4)
def f_X12_number_j55 (t : List Sh) (m : Mi) (a0 : Nat) (a1 : Int32) (a3 : Int32) (a4 : Int64) : Option (Int32 × Mi) :=
  lt (a3 - a1) fun x1 =>
  if x1 = 0 then
    some ((-1), m)
  else
    if 9 < x1 then
      some ((-1), m)
    else
      if x1 ≤ 1 then
        f_X12_number_j90 t m a0 a3 a4
      else
        (f_X12_at t m a0 a1).bind fun x6 =>
        if x6 = 48 then
          some ((-1), m)
        else
          f_X12_number_j90 t m a0 a3 a4
def f_X12_number_l5 (t : List Sh) (m : Mi) (a0 : Nat) (a1 : Int32) (a2 : Int32) (a3 : Int32) (a4 : Int64) : Option ((Int32 × Int64) ⊕ ((Int32 × Int64))) :=
  if a2 ≤ a3 then
    some (.inr (a3, a4))
  else
    (f_X12_at t m a0 a3).bind fun x9 =>
    (f_X12_isDigit x9).bind fun x10 =>
    if x10 = 0 then
      some (.inr (a3, a4))
    else
      if 10 ≤ (a3 - a1) then
        some (.inr (a3, a4))
      else
        (f_X12_at t m a0 a3).bind fun x13 =>
        lt (((10 * a4) + (Int32.toInt64 x13)) - 48) fun x14 =>
        lt (a3 + 1) fun x15 =>
        some (.inl (x15, x14))
def f_X12_number_j5 (t : List Sh) (m : Mi) (a0 : Nat) (a1 : Int32) (a2 : Int32) (a3 : Int32) (a4 : Int64) : Option (Int32 × Mi) :=
  (lp (fun x : Int32 × Int64 => f_X12_number_l5 t m a0 a1 a2 x.1 x.2) FUEL (a3, a4)).bind (fun y : Int32 × Int64 => f_X12_number_j55 t m a0 a1 (y.1) (y.2))
def f_X12_number (t : List Sh) (m : Mi) (a0 : Nat) (a1 : Int32) (a2 : Int32) : Option (Int32 × Mi) :=
  f_X12_number_j5 t m a0 a1 a2 a1 0
set_option maxRecDepth 4000 in
set_option maxHeartbeats 4000000 in
theorem sm_X12_number (t : List Sh) (m : Mi) (a0 : Nat) (a1 : Int32) (a2 : Int32) (h0 : sh t a0 = some (.inl 12)) : Sm u_X12_number (2, 0, 0, t.length, zs t) (kI t) 0 [(0, .inr (.inr a0)), (1, .inl a1), (2, .inl a2)] [] (t, m) (f_X12_number t m a0 a1 a2) := by
  unfold f_X12_number
  refine r_iload_n 0 1 1 rfl rfl rfl rfl ?_
  refine r_istore_n 1 2 (L' := [(3, .inl a1), (0, .inr (.inr a0)), (1, .inl a1), (2, .inl a2)]) rfl rfl rfl (by decide) rfl ?_
  refine r_lconst 2 3 (v := 0) rfl rfl (by decide) ?_
  refine r_lstore 3 5 (L' := [(4, .inr (.inl 0)), (3, .inl a1), (0, .inr (.inr a0)), (1, .inl a1), (2, .inl a2)]) rfl rfl (by decide) rfl ?_
  have hj5 : ∀ (m : Mi) (a3 : Int32) (a4 : Int64), Sm u_X12_number (2, 0, 0, t.length, zs t) (kI t) 5 [(0, .inr (.inr a0)), (1, .inl a1), (2, .inl a2), (3, .inl a3), (4, .inr (.inl a4))] [] (t, m) (f_X12_number_j5 t m a0 a1 a2 a3 a4) := by
    intro m a3 a4
    unfold f_X12_number_j5
    have hj55 : ∀ (m : Mi) (a3 : Int32) (a4 : Int64), Sm u_X12_number (2, 0, 0, t.length, zs t) (kI t) 55 [(0, .inr (.inr a0)), (1, .inl a1), (3, .inl a3), (4, .inr (.inl a4))] [] (t, m) (f_X12_number_j55 t m a0 a1 a3 a4) := by
      intro m a3 a4
      unfold f_X12_number_j55
      refine r_iload_n 33 56 2 rfl rfl rfl rfl ?_
      refine r_iload_n 34 57 1 rfl rfl rfl rfl ?_
      refine r_isub 35 58 rfl rfl ?_
      refine r_ltI (fun x1 => ?_)
      refine r_istore 36 60 (L' := [(6, .inl x1), (0, .inr (.inr a0)), (1, .inl a1), (3, .inl a3), (4, .inr (.inl a4))]) rfl rfl (by decide) rfl ?_
      refine r_iload 37 62 0 rfl rfl rfl ?_
      refine r_if_eq 38 88 65 rfl rfl rfl (fun h2 => ?_) (fun h2 => ?_)
      · refine r_iconst 50 89 (v := (-1)) rfl rfl (by decide) ?_
        exact r_iret 51 rfl rfl rfl
      · refine r_iload 39 67 0 rfl rfl rfl ?_
        refine r_bipush 40 69 (v := 9) rfl rfl (by decide) ?_
        refine r_icmp_gt 41 88 72 rfl rfl rfl (fun h3 => ?_) (fun h3 => ?_)
        · refine r_iconst 50 89 (v := (-1)) rfl rfl (by decide) ?_
          exact r_iret 51 rfl rfl rfl
        · refine r_iload 42 74 0 rfl rfl rfl ?_
          refine r_iconst 43 75 (v := 1) rfl rfl (by decide) ?_
          have hj90 : ∀ (m : Mi) (a3 : Int32) (a4 : Int64), Sm u_X12_number (2, 0, 0, t.length, zs t) (kI t) 90 [(0, .inr (.inr a0)), (3, .inl a3), (4, .inr (.inl a4))] [] (t, m) (f_X12_number_j90 t m a0 a3 a4) := by
            intro m a3 a4
            unfold f_X12_number_j90
            refine r_aload_n 52 91 0 rfl rfl rfl rfl ?_
            refine r_lload 53 93 2 rfl rfl rfl ?_
            refine r_putL 54 96 rfl rfl fl_RX12_175 (fun h => by cases h) rfl h0 ?_
            refine r_ltM (fun m4 => ?_)
            refine r_iload_n 55 97 1 rfl rfl rfl rfl ?_
            exact r_iret 56 rfl rfl rfl
          refine r_icmp_le 44 90 78 rfl rfl rfl (fun h5 => ?_) (fun h5 => ?_)
          · exact r_sub [1, 3, 4] rfl (hj90 m a3 a4)
          · refine r_aload_n 45 79 1 rfl rfl rfl rfl ?_
            refine r_iload_n 46 80 2 rfl rfl rfl rfl ?_
            refine r_VIo 47 83 (st := []) (av := [.inr (.inr a0), .inl a1]) (av' := [.inl a1]) (μ' := u_X12_at) (d := 1) rfl rfl mc_X12_at in_X12_at lk_RX12_169 (Nat.le_of_ble_eq_true rfl) rfl rfl h0 rfl (Nat.le_of_ble_eq_true rfl) (fun _ h => ct_X12_at h0 h) (fun x6 => ?_)
            refine r_bipush 48 85 (v := 48) rfl rfl (by decide) ?_
            refine r_icmp_ne 49 90 88 rfl rfl rfl (fun h7 => ?_) (fun h7 => ?_)
            · refine r_iconst 50 89 (v := (-1)) rfl rfl (by decide) ?_
              exact r_iret 51 rfl rfl rfl
            · exact r_sub [1, 3, 4] rfl (hj90 m a3 a4)
    refine r_lp (Lf := fun x : Int32 × Int64 => [(0, .inr (.inr a0)), (1, .inl a1), (2, .inl a2), (3, .inl (x.1)), (4, .inr (.inl (x.2)))]) (Mf := fun x : Int32 × Int64 => (t, m)) (a3, a4) ?_ FUEL
    rintro ⟨a3, a4⟩ κ5 hc5 he5
    refine r_eq (L' := [(0, .inr (.inr a0)), (1, .inl a1), (2, .inl a2), (3, .inl a3), (4, .inr (.inl a4))]) (M' := (t, m)) rfl rfl ?_
    refine r_eqr (r' := f_X12_number_l5 t m a0 a1 a2 a3 a4) rfl ?_
    unfold f_X12_number_l5
    refine r_iload_n 4 6 3 rfl rfl rfl rfl ?_
    refine r_iload_n 5 7 2 rfl rfl rfl rfl ?_
    refine r_icmp_ge 6 55 10 rfl rfl rfl (fun h8 => ?_) (fun h8 => ?_)
    · refine r_leaf (r2 := (f_X12_number_j55 t m a0 a1 a3 a4 : Option (Int32 × Mi))) (he5 _) ?_
      exact r_sub [0, 1, 3, 4] rfl (hj55 m a3 a4)
    · refine r_aload_n 7 11 0 rfl rfl rfl rfl ?_
      refine r_iload_n 8 12 3 rfl rfl rfl rfl ?_
      refine r_VIo 9 15 (st := []) (av := [.inr (.inr a0), .inl a3]) (av' := [.inl a3]) (μ' := u_X12_at) (d := 1) rfl rfl mc_X12_at in_X12_at lk_RX12_169 (Nat.le_of_ble_eq_true rfl) rfl rfl h0 rfl (Nat.le_of_ble_eq_true rfl) (fun _ h => ct_X12_at h0 h) (fun x9 => ?_)
      refine r_SIo 10 18 (a := 0) (cn := 0) (st := []) (av := [.inl x9]) (μ' := u_X12_isDigit) (d := 1) rfl rfl mc_X12_isDigit st_X12_isDigit lk_RX12_163 (Nat.le_of_ble_eq_true rfl) rfl (Nat.le_of_ble_eq_true rfl) (fun _ h => ct_X12_isDigit h) (fun x10 => ?_)
      refine r_if_eq 11 55 21 rfl rfl rfl (fun h11 => ?_) (fun h11 => ?_)
      · refine r_leaf (r2 := (f_X12_number_j55 t m a0 a1 a3 a4 : Option (Int32 × Mi))) (he5 _) ?_
        exact r_sub [0, 1, 3, 4] rfl (hj55 m a3 a4)
      · refine r_iload_n 12 22 3 rfl rfl rfl rfl ?_
        refine r_iload_n 13 23 1 rfl rfl rfl rfl ?_
        refine r_isub 14 24 rfl rfl ?_
        refine r_bipush 15 26 (v := 10) rfl rfl (by decide) ?_
        refine r_icmp_ge 16 55 29 rfl rfl rfl (fun h12 => ?_) (fun h12 => ?_)
        · refine r_leaf (r2 := (f_X12_number_j55 t m a0 a1 a3 a4 : Option (Int32 × Mi))) (he5 _) ?_
          exact r_sub [0, 1, 3, 4] rfl (hj55 m a3 a4)
        · refine r_ldc2 17 32 rfl rfl kc_RX12_171 ?_
          refine r_lload 18 34 4 rfl rfl rfl ?_
          refine r_lmul 19 35 rfl rfl ?_
          refine r_aload_n 20 36 0 rfl rfl rfl rfl ?_
          refine r_iload_n 21 37 3 rfl rfl rfl rfl ?_
          refine r_VIo 22 40 (st := [.inr (.inl (10 * a4))]) (av := [.inr (.inr a0), .inl a3]) (av' := [.inl a3]) (μ' := u_X12_at) (d := 1) rfl rfl mc_X12_at in_X12_at lk_RX12_169 (Nat.le_of_ble_eq_true rfl) rfl rfl h0 rfl (Nat.le_of_ble_eq_true rfl) (fun _ h => ct_X12_at h0 h) (fun x13 => ?_)
          refine r_i2l 23 41 rfl rfl ?_
          refine r_ladd 24 42 rfl rfl ?_
          refine r_ldc2 25 45 rfl rfl kc_RX12_173 ?_
          refine r_lsub 26 46 rfl rfl ?_
          refine r_ltL (fun x14 => ?_)
          refine r_lstore 27 48 (L' := [(4, .inr (.inl x14)), (0, .inr (.inr a0)), (1, .inl a1), (2, .inl a2), (3, .inl a3)]) rfl rfl (by decide) rfl ?_
          refine r_iload_n 28 49 4 rfl rfl rfl rfl ?_
          refine r_iconst 29 50 (v := 1) rfl rfl (by decide) ?_
          refine r_iadd 30 51 rfl rfl ?_
          refine r_ltI (fun x15 => ?_)
          refine r_istore_n 31 52 (L' := [(3, .inl x15), (4, .inr (.inl x14)), (0, .inr (.inr a0)), (1, .inl a1), (2, .inl a2)]) rfl rfl rfl (by decide) rfl ?_
          refine r_goto 32 5 rfl rfl ?_
          exact r_sub [2, 3, 4, 0, 1] rfl (hc5 (x15, x14))
  exact r_sub [2, 3, 4, 1, 0] rfl (hj5 m a1 0)
theorem ct_X12_number {t : List Sh} {m : Mi} {a0 : Nat} {a1 : Int32} {a2 : Int32} {m' : Mi} {v : Int32}  (h0 : sh t a0 = some (.inl 12)) (h : f_X12_number t m a0 a1 a2 = some (v, m')) : Ct u_X12_number 2 0 0 [.inr (.inr a0), .inl a1, .inl a2] (t, m) (some (.inl v), (t, m')) :=
  ct_of (by decide) tk_X12_number (Nat.le_of_ble_eq_true rfl) (sm_X12_number t m a0 a1 a2 h0) (by rw [h]; rfl) (Nat.le_refl _) (Nat.le_refl _)
theorem fl_RX12_55 : FL RX12 55 12 27 true := ⟨RX12, TX12, 61, rfl, inW12, tyX12_ok, nmX12, by decide, rfl, rfl, rfl, tbm 1354 (by decide +kernel) rfl⟩
theorem fl_RX12_58 : FL RX12 58 12 28 true := ⟨RX12, TX12, 61, rfl, inW12, tyX12_ok, nmX12, by decide, rfl, rfl, rfl, tbm 1355 (by decide +kernel) rfl⟩
theorem lk_RX12_308 : Cond.methodLink RX12 308 yX12_isSame ∈ TB := tbm 1652 (by decide +kernel) rfl
def tb_X12_packageCalled : Tb := [(0, (.iconst 0, 1)), (1, (.istore 4, 2)), (3, (.iload 4, 2)), (5, (.aload_n 0, 1)), (6, (.getfield 43, 3)), (9, (.iload_n 1, 1)), (10, (.iaload, 1)), (11, (.if_icmp .ge 45, 3)), (14, (.aload_n 0, 1)), (15, (.aload_n 0, 1)), (16, (.getfield 55, 3)), (19, (.bipush 10, 2)), (21, (.iload_n 1, 1)), (22, (.imul, 1)), (23, (.iload 4, 2)), (25, (.iadd, 1)), (26, (.iaload, 1)), (27, (.aload_n 0, 1)), (28, (.getfield 58, 3)), (31, (.bipush 10, 2)), (33, (.iload_n 1, 1)), (34, (.imul, 1)), (35, (.iload 4, 2)), (37, (.iadd, 1)), (38, (.iaload, 1)), (39, (.iload_n 2, 1)), (40, (.iload_n 3, 1)), (41, (.invokevirtual 308, 3)), (44, (.ifCond .eq 6, 3)), (47, (.iload 4, 2)), (49, (.ireturn, 1)), (50, (.iinc 4 1, 3)), (53, (.goto (-50), 3)), (56, (.iconst (-1), 1)), (57, (.ireturn, 1))]
def u_X12_packageCalled : Fx := (yX12_packageCalled, (cX12_packageCalled, (5, ((some .int), tb_X12_packageCalled))))
theorem tk_X12_packageCalled : ∀ q ∈ u_X12_packageCalled.2.2.2.2, decode u_X12_packageCalled.2.1 q.1 = .ok q.2 := by decide +kernel
theorem mc_X12_packageCalled : MC u_X12_packageCalled 3 := ⟨tbm 1651 (by decide +kernel) rfl, tbm 128 (by decide +kernel) rfl, ⟨by decide, by decide, by decide +kernel⟩, by decide⟩
theorem in_X12_packageCalled : Cond.instanceMethod u_X12_packageCalled.1 ∈ TB ∧ Cond.selects u_X12_packageCalled.1.cls u_X12_packageCalled.1 u_X12_packageCalled.1 ∈ TB := ⟨tbm 1650 (by decide +kernel) rfl, tbm 87 (by decide +kernel) rfl⟩
def f_X12_packageCalled_j47 (t : List Sh) (m : Mi) (a4 : Int32) : Option (Int32) :=
  some a4
def f_X12_packageCalled_j56 (t : List Sh) (m : Mi) : Option (Int32) :=
  some (-1)
def f_X12_packageCalled_l3 (t : List Sh) (m : Mi) (a0 : Nat) (a1 : Int32) (a2 : Int32) (a3 : Int32) (a4 : Int32) : Option ((Int32) ⊕ ((Unit) ⊕ (Int32))) :=
  (if ar t (gr m a0 23) .int a1 = true then
  if (gi m (gr m a0 23) (ix a1)) ≤ a4 then
    some (.inr (.inl ()))
  else
    (if ar t (gr m a0 27) .int ((10 * a1) + a4) = true then
    (if ar t (gr m a0 28) .int ((10 * a1) + a4) = true then
    (f_X12_isSame t m a0 (gi m (gr m a0 27) (ix ((10 * a1) + a4))) (gi m (gr m a0 28) (ix ((10 * a1) + a4))) a2 a3).bind fun x5 =>
    if x5 = 0 then
      lt (a4 + 1) fun x7 =>
      some (.inl x7)
    else
      some (.inr (.inr a4))
    else none)
    else none)
  else none)
def f_X12_packageCalled_j3 (t : List Sh) (m : Mi) (a0 : Nat) (a1 : Int32) (a2 : Int32) (a3 : Int32) (a4 : Int32) : Option (Int32) :=
  (lp (fun x : Int32 => f_X12_packageCalled_l3 t m a0 a1 a2 a3 x) FUEL a4).bind (Sum.elim (fun y : Unit => f_X12_packageCalled_j56 t m) (fun y : Int32 => f_X12_packageCalled_j47 t m y))
def f_X12_packageCalled (t : List Sh) (m : Mi) (a0 : Nat) (a1 : Int32) (a2 : Int32) (a3 : Int32) : Option (Int32) :=
  f_X12_packageCalled_j3 t m a0 a1 a2 a3 0
set_option maxRecDepth 4000 in
set_option maxHeartbeats 4000000 in
theorem sm_X12_packageCalled (t : List Sh) (m : Mi) (a0 : Nat) (a1 : Int32) (a2 : Int32) (a3 : Int32) (h0 : sh t a0 = some (.inl 12)) : Sm u_X12_packageCalled (2, 0, 0, t.length, zs t) (kIo t m) 0 [(0, .inr (.inr a0)), (1, .inl a1), (2, .inl a2), (3, .inl a3)] [] (t, m) (f_X12_packageCalled t m a0 a1 a2 a3) := by
  unfold f_X12_packageCalled
  refine r_iconst 0 1 (v := 0) rfl rfl (by decide) ?_
  refine r_istore 1 3 (L' := [(4, .inl 0), (0, .inr (.inr a0)), (1, .inl a1), (2, .inl a2), (3, .inl a3)]) rfl rfl (by decide) rfl ?_
  have hj3 : ∀ (a4 : Int32), Sm u_X12_packageCalled (2, 0, 0, t.length, zs t) (kIo t m) 3 [(0, .inr (.inr a0)), (1, .inl a1), (2, .inl a2), (3, .inl a3), (4, .inl a4)] [] (t, m) (f_X12_packageCalled_j3 t m a0 a1 a2 a3 a4) := by
    intro a4
    unfold f_X12_packageCalled_j3
    have hj47 : ∀ (a4 : Int32), Sm u_X12_packageCalled (2, 0, 0, t.length, zs t) (kIo t m) 47 [(4, .inl a4)] [] (t, m) (f_X12_packageCalled_j47 t m a4) := by
      intro a4
      unfold f_X12_packageCalled_j47
      refine r_iload 29 49 0 rfl rfl rfl ?_
      exact r_iret 30 rfl rfl rfl
    have hj56 : Sm u_X12_packageCalled (2, 0, 0, t.length, zs t) (kIo t m) 56 [] [] (t, m) (f_X12_packageCalled_j56 t m) := by
      unfold f_X12_packageCalled_j56
      refine r_iconst 33 57 (v := (-1)) rfl rfl (by decide) ?_
      exact r_iret 34 rfl rfl rfl
    refine r_lp (Lf := fun x : Int32 => [(0, .inr (.inr a0)), (1, .inl a1), (2, .inl a2), (3, .inl a3), (4, .inl x)]) (Mf := fun x : Int32 => (t, m)) a4 ?_ FUEL
    rintro a4 κ3 hc3 he3
    refine r_eq (L' := [(0, .inr (.inr a0)), (1, .inl a1), (2, .inl a2), (3, .inl a3), (4, .inl a4)]) (M' := (t, m)) rfl rfl ?_
    refine r_eqr (r' := f_X12_packageCalled_l3 t m a0 a1 a2 a3 a4) rfl ?_
    unfold f_X12_packageCalled_l3
    refine r_iload 2 5 4 rfl rfl rfl ?_
    refine r_aload_n 3 6 0 rfl rfl rfl rfl ?_
    refine r_getR 4 9 rfl rfl fl_RX12_43 rfl h0 ?_
    refine r_iload_n 5 10 1 rfl rfl rfl rfl ?_
    refine r_gd (fun h1 => ?_)
    refine r_iald 6 11 rfl rfl h1 ?_
    refine r_icmp_ge 7 56 14 rfl rfl rfl (fun h2 => ?_) (fun h2 => ?_)
    · refine r_leaf (r2 := (f_X12_packageCalled_j56 t m : Option (Int32))) (he3 _) ?_
      exact r_sub [] rfl (hj56)
    · refine r_aload_n 8 15 0 rfl rfl rfl rfl ?_
      refine r_aload_n 9 16 0 rfl rfl rfl rfl ?_
      refine r_getR 10 19 rfl rfl fl_RX12_55 rfl h0 ?_
      refine r_bipush 11 21 (v := 10) rfl rfl (by decide) ?_
      refine r_iload_n 12 22 1 rfl rfl rfl rfl ?_
      refine r_imul 13 23 rfl rfl ?_
      refine r_iload 14 25 4 rfl rfl rfl ?_
      refine r_iadd 15 26 rfl rfl ?_
      refine r_gd (fun h3 => ?_)
      refine r_iald 16 27 rfl rfl h3 ?_
      refine r_aload_n 17 28 0 rfl rfl rfl rfl ?_
      refine r_getR 18 31 rfl rfl fl_RX12_58 rfl h0 ?_
      refine r_bipush 19 33 (v := 10) rfl rfl (by decide) ?_
      refine r_iload_n 20 34 1 rfl rfl rfl rfl ?_
      refine r_imul 21 35 rfl rfl ?_
      refine r_iload 22 37 4 rfl rfl rfl ?_
      refine r_iadd 23 38 rfl rfl ?_
      refine r_gd (fun h4 => ?_)
      refine r_iald 24 39 rfl rfl h4 ?_
      refine r_iload_n 25 40 2 rfl rfl rfl rfl ?_
      refine r_iload_n 26 41 3 rfl rfl rfl rfl ?_
      refine r_VIo 27 44 (st := []) (av := [.inr (.inr a0), .inl (gi m (gr m a0 27) (ix ((10 * a1) + a4))), .inl (gi m (gr m a0 28) (ix ((10 * a1) + a4))), .inl a2, .inl a3]) (av' := [.inl (gi m (gr m a0 27) (ix ((10 * a1) + a4))), .inl (gi m (gr m a0 28) (ix ((10 * a1) + a4))), .inl a2, .inl a3]) (μ' := u_X12_isSame) (d := 1) rfl rfl mc_X12_isSame in_X12_isSame lk_RX12_308 (Nat.le_of_ble_eq_true rfl) rfl rfl h0 rfl (Nat.le_of_ble_eq_true rfl) (fun _ h => ct_X12_isSame h0 h) (fun x5 => ?_)
      refine r_if_eq 28 50 47 rfl rfl rfl (fun h6 => ?_) (fun h6 => ?_)
      · refine r_iinc 31 53 4 (L' := [(4, .inl (a4 + 1)), (0, .inr (.inr a0)), (1, .inl a1), (2, .inl a2), (3, .inl a3)]) rfl rfl rfl (by decide) rfl ?_
        refine r_ltV (fun x7 => ?_)
        refine r_goto 32 3 rfl rfl ?_
        exact r_sub [1, 2, 3, 4, 0] rfl (hc3 x7)
      · refine r_leaf (r2 := (f_X12_packageCalled_j47 t m a4 : Option (Int32))) (he3 _) ?_
        exact r_sub [4] rfl (hj47 a4)
  exact r_sub [1, 2, 3, 4, 0] rfl (hj3 0)
theorem ct_X12_packageCalled {t : List Sh} {m : Mi} {a0 : Nat} {a1 : Int32} {a2 : Int32} {a3 : Int32} {v : Int32}  (h0 : sh t a0 = some (.inl 12)) (h : f_X12_packageCalled t m a0 a1 a2 a3 = some v) : Ct u_X12_packageCalled 2 0 0 [.inr (.inr a0), .inl a1, .inl a2, .inl a3] (t, m) (some (.inl v), (t, m)) :=
  ct_of (by decide) tk_X12_packageCalled (Nat.le_of_ble_eq_true rfl) (sm_X12_packageCalled t m a0 a1 a2 a3 h0) (by rw [h]; rfl) (Nat.le_refl _) (Nat.le_refl _)
theorem lk_RX12_402 : Cond.methodLink RX12 402 yX12_says ∈ TB := tbm 1759 (by decide +kernel) rfl
def tb_X12_saysNumber : Tb := [(0, (.lconst 1, 1)), (1, (.lstore_n 3, 1)), (2, (.lload_n 1, 1)), (3, (.lload_n 3, 1)), (4, (.ldiv, 1)), (5, (.ldc2_w 171, 3)), (8, (.lcmp, 1)), (9, (.ifCond .lt 12, 3)), (12, (.ldc2_w 171, 3)), (15, (.lload_n 3, 1)), (16, (.lmul, 1)), (17, (.lstore_n 3, 1)), (18, (.goto (-16), 3)), (21, (.lload_n 3, 1)), (22, (.lconst 0, 1)), (23, (.lcmp, 1)), (24, (.ifCond .le 27, 3)), (27, (.aload_n 0, 1)), (28, (.bipush 48, 2)), (30, (.lload_n 1, 1)), (31, (.lload_n 3, 1)), (32, (.ldiv, 1)), (33, (.ldc2_w 171, 3)), (36, (.lrem, 1)), (37, (.l2i, 1)), (38, (.iadd, 1)), (39, (.invokevirtual 402, 3)), (42, (.lload_n 3, 1)), (43, (.ldc2_w 171, 3)), (46, (.ldiv, 1)), (47, (.lstore_n 3, 1)), (48, (.goto (-27), 3)), (51, (.return_, 1))]
def u_X12_saysNumber : Fx := (yX12_saysNumber, (cX12_saysNumber, (5, (none, tb_X12_saysNumber))))
theorem tk_X12_saysNumber : ∀ q ∈ u_X12_saysNumber.2.2.2.2, decode u_X12_saysNumber.2.1 q.1 = .ok q.2 := by decide +kernel
theorem mc_X12_saysNumber : MC u_X12_saysNumber 1 := ⟨tbm 1774 (by decide +kernel) rfl, tbm 128 (by decide +kernel) rfl, ⟨by decide, by decide, by decide +kernel⟩, by decide⟩
theorem in_X12_saysNumber : Cond.instanceMethod u_X12_saysNumber.1 ∈ TB ∧ Cond.selects u_X12_saysNumber.1.cls u_X12_saysNumber.1 u_X12_saysNumber.1 ∈ TB := ⟨tbm 1773 (by decide +kernel) rfl, tbm 109 (by decide +kernel) rfl⟩
def f_X12_saysNumber_j51 (t : List Sh) (m : Mi) : Option (Mi) :=
  some m
def f_X12_saysNumber_l21 (t : List Sh) (m : Mi) (a0 : Nat) (a1 : Int64) (a3 : Int64) : Option ((Int64 × Mi) ⊕ ((Mi))) :=
  if (lg_cmp a3 0) ≤ 0 then
    some (.inr m)
  else
    (if ¬ a3 = 0 then
    (f_X12_says t m a0 (48 + (Int64.toInt32 ((a1 / a3) - (a1 / a3) / 10 * 10)))).bind fun m3 =>
    lt (a3 / 10) fun x4 =>
    some (.inl (x4, m3))
    else none)
def f_X12_saysNumber_j21 (t : List Sh) (m : Mi) (a0 : Nat) (a1 : Int64) (a3 : Int64) : Option (Mi) :=
  (lp (fun x : Int64 × Mi => f_X12_saysNumber_l21 t x.2 a0 a1 x.1) FUEL (a3, m)).bind (fun y : Mi => f_X12_saysNumber_j51 t y)
def f_X12_saysNumber_l2 (t : List Sh) (m : Mi) (a0 : Nat) (a1 : Int64) (a3 : Int64) : Option ((Int64) ⊕ ((Int64))) :=
  (if ¬ a3 = 0 then
  if (lg_cmp (a1 / a3) 10) < 0 then
    some (.inr a3)
  else
    lt (10 * a3) fun x7 =>
    some (.inl x7)
  else none)
def f_X12_saysNumber_j2 (t : List Sh) (m : Mi) (a0 : Nat) (a1 : Int64) (a3 : Int64) : Option (Mi) :=
  (lp (fun x : Int64 => f_X12_saysNumber_l2 t m a0 a1 x) FUEL a3).bind (fun y : Int64 => f_X12_saysNumber_j21 t m a0 a1 y)
def f_X12_saysNumber (t : List Sh) (m : Mi) (a0 : Nat) (a1 : Int64) : Option (Mi) :=
  f_X12_saysNumber_j2 t m a0 a1 1
set_option maxRecDepth 4000 in
set_option maxHeartbeats 4000000 in
theorem sm_X12_saysNumber (t : List Sh) (m : Mi) (a0 : Nat) (a1 : Int64) (h0 : sh t a0 = some (.inl 12)) : Sm u_X12_saysNumber (2, 0, 0, t.length, zs t) (kV t) 0 [(0, .inr (.inr a0)), (1, .inr (.inl a1))] [] (t, m) (f_X12_saysNumber t m a0 a1) := by
  unfold f_X12_saysNumber
  refine r_lconst 0 1 (v := 1) rfl rfl (by decide) ?_
  refine r_lstore_n 1 2 (L' := [(3, .inr (.inl 1)), (0, .inr (.inr a0)), (1, .inr (.inl a1))]) rfl rfl rfl (by decide) rfl ?_
  have hj2 : ∀ (m : Mi) (a3 : Int64), Sm u_X12_saysNumber (2, 0, 0, t.length, zs t) (kV t) 2 [(0, .inr (.inr a0)), (1, .inr (.inl a1)), (3, .inr (.inl a3))] [] (t, m) (f_X12_saysNumber_j2 t m a0 a1 a3) := by
    intro m a3
    unfold f_X12_saysNumber_j2
    have hj21 : ∀ (m : Mi) (a3 : Int64), Sm u_X12_saysNumber (2, 0, 0, t.length, zs t) (kV t) 21 [(0, .inr (.inr a0)), (1, .inr (.inl a1)), (3, .inr (.inl a3))] [] (t, m) (f_X12_saysNumber_j21 t m a0 a1 a3) := by
      intro m a3
      unfold f_X12_saysNumber_j21
      have hj51 : ∀ (m : Mi), Sm u_X12_saysNumber (2, 0, 0, t.length, zs t) (kV t) 51 [] [] (t, m) (f_X12_saysNumber_j51 t m) := by
        intro m
        unfold f_X12_saysNumber_j51
        exact r_vret 32 rfl rfl rfl
      refine r_lp (Lf := fun x : Int64 × Mi => [(0, .inr (.inr a0)), (1, .inr (.inl a1)), (3, .inr (.inl (x.1)))]) (Mf := fun x : Int64 × Mi => (t, x.2)) (a3, m) ?_ FUEL
      rintro ⟨a3, m⟩ κ21 hc21 he21
      refine r_eq (L' := [(0, .inr (.inr a0)), (1, .inr (.inl a1)), (3, .inr (.inl a3))]) (M' := (t, m)) rfl rfl ?_
      refine r_eqr (r' := f_X12_saysNumber_l21 t m a0 a1 a3) rfl ?_
      unfold f_X12_saysNumber_l21
      refine r_lload_n 13 22 2 rfl rfl rfl rfl ?_
      refine r_lconst 14 23 (v := 0) rfl rfl (by decide) ?_
      refine r_lcmp 15 24 rfl rfl ?_
      refine r_if_le 16 51 27 rfl rfl rfl (fun h1 => ?_) (fun h1 => ?_)
      · refine r_leaf (r2 := (f_X12_saysNumber_j51 t m : Option (Mi))) (he21 _) ?_
        exact r_sub [] rfl (hj51 m)
      · refine r_aload_n 17 28 0 rfl rfl rfl rfl ?_
        refine r_bipush 18 30 (v := 48) rfl rfl (by decide) ?_
        refine r_lload_n 19 31 1 rfl rfl rfl rfl ?_
        refine r_lload_n 20 32 2 rfl rfl rfl rfl ?_
        refine r_gd (fun h2 => ?_)
        refine r_ldiv 21 33 rfl rfl h2 ?_
        refine r_ldc2 22 36 rfl rfl kc_RX12_171 ?_
        refine r_lrem 23 37 rfl rfl (by decide) ?_
        refine r_l2i 24 38 rfl rfl ?_
        refine r_iadd 25 39 rfl rfl ?_
        refine r_VV 26 42 (st := []) (av := [.inr (.inr a0), .inl (48 + (Int64.toInt32 ((a1 / a3) - (a1 / a3) / 10 * 10)))]) (av' := [.inl (48 + (Int64.toInt32 ((a1 / a3) - (a1 / a3) / 10 * 10)))]) (μ' := u_X12_says) (d := 1) rfl rfl mc_X12_says in_X12_says lk_RX12_402 (Nat.le_of_ble_eq_true rfl) rfl rfl h0 rfl (Nat.le_of_ble_eq_true rfl) (fun _ h => ct_X12_says h0 h) (fun m3 => ?_)
        refine r_lload_n 27 43 2 rfl rfl rfl rfl ?_
        refine r_ldc2 28 46 rfl rfl kc_RX12_171 ?_
        refine r_ldiv 29 47 rfl rfl (by decide) ?_
        refine r_ltL (fun x4 => ?_)
        refine r_lstore_n 30 48 (L' := [(3, .inr (.inl x4)), (0, .inr (.inr a0)), (1, .inr (.inl a1))]) rfl rfl rfl (by decide) rfl ?_
        refine r_goto 31 21 rfl rfl ?_
        exact r_sub [1, 2, 0] rfl (hc21 (x4, m3))
    refine r_lp (Lf := fun x : Int64 => [(0, .inr (.inr a0)), (1, .inr (.inl a1)), (3, .inr (.inl x))]) (Mf := fun x : Int64 => (t, m)) a3 ?_ FUEL
    rintro a3 κ2 hc2 he2
    refine r_eq (L' := [(0, .inr (.inr a0)), (1, .inr (.inl a1)), (3, .inr (.inl a3))]) (M' := (t, m)) rfl rfl ?_
    refine r_eqr (r' := f_X12_saysNumber_l2 t m a0 a1 a3) rfl ?_
    unfold f_X12_saysNumber_l2
    refine r_lload_n 2 3 1 rfl rfl rfl rfl ?_
    refine r_lload_n 3 4 2 rfl rfl rfl rfl ?_
    refine r_gd (fun h5 => ?_)
    refine r_ldiv 4 5 rfl rfl h5 ?_
    refine r_ldc2 5 8 rfl rfl kc_RX12_171 ?_
    refine r_lcmp 6 9 rfl rfl ?_
    refine r_if_lt 7 21 12 rfl rfl rfl (fun h6 => ?_) (fun h6 => ?_)
    · refine r_leaf (r2 := (f_X12_saysNumber_j21 t m a0 a1 a3 : Option (Mi))) (he2 _) ?_
      exact hj21 m a3
    · refine r_ldc2 8 15 rfl rfl kc_RX12_171 ?_
      refine r_lload_n 9 16 2 rfl rfl rfl rfl ?_
      refine r_lmul 10 17 rfl rfl ?_
      refine r_ltL (fun x7 => ?_)
      refine r_lstore_n 11 18 (L' := [(3, .inr (.inl x7)), (0, .inr (.inr a0)), (1, .inr (.inl a1))]) rfl rfl rfl (by decide) rfl ?_
      refine r_goto 12 2 rfl rfl ?_
      exact r_sub [1, 2, 0] rfl (hc2 x7)
  exact r_sub [1, 2, 0] rfl (hj2 m 1)
theorem ct_X12_saysNumber {t : List Sh} {m : Mi} {a0 : Nat} {a1 : Int64} {m' : Mi}  (h0 : sh t a0 = some (.inl 12)) (h : f_X12_saysNumber t m a0 a1 = some m') : Ct u_X12_saysNumber 2 0 0 [.inr (.inr a0), .inr (.inl a1)] (t, m) (none, (t, m')) :=
  ct_of (by decide) tk_X12_saysNumber (Nat.le_of_ble_eq_true rfl) (sm_X12_saysNumber t m a0 a1 h0) (by rw [h]; rfl) (Nat.le_refl _) (Nat.le_refl _)
theorem fl_RX12_40 : FL RX12 40 12 22 true := ⟨RX12, TX12, 61, rfl, inW12, tyX12_ok, nmX12, by decide, rfl, rfl, rfl, tbm 1349 (by decide +kernel) rfl⟩
def tb_X12_saysText : Tb := [(0, (.iconst 0, 1)), (1, (.istore_n 3, 1)), (2, (.iload_n 3, 1)), (3, (.iload_n 2, 1)), (4, (.if_icmp .ge 30, 3)), (7, (.aload_n 0, 1)), (8, (.aload_n 0, 1)), (9, (.getfield 40, 3)), (12, (.sipush 2000, 3)), (15, (.aload_n 0, 1)), (16, (.getfield 326, 3)), (19, (.imul, 1)), (20, (.iload_n 1, 1)), (21, (.iadd, 1)), (22, (.iload_n 3, 1)), (23, (.iadd, 1)), (24, (.baload, 1)), (25, (.invokevirtual 402, 3)), (28, (.iinc 3 1, 3)), (31, (.goto (-29), 3)), (34, (.return_, 1))]
def u_X12_saysText : Fx := (yX12_saysText, (cX12_saysText, (4, (none, tb_X12_saysText))))
theorem tk_X12_saysText : ∀ q ∈ u_X12_saysText.2.2.2.2, decode u_X12_saysText.2.1 q.1 = .ok q.2 := by decide +kernel
theorem mc_X12_saysText : MC u_X12_saysText 2 := ⟨tbm 1783 (by decide +kernel) rfl, tbm 128 (by decide +kernel) rfl, ⟨by decide, by decide, by decide +kernel⟩, by decide⟩
theorem in_X12_saysText : Cond.instanceMethod u_X12_saysText.1 ∈ TB ∧ Cond.selects u_X12_saysText.1.cls u_X12_saysText.1 u_X12_saysText.1 ∈ TB := ⟨tbm 1782 (by decide +kernel) rfl, tbm 111 (by decide +kernel) rfl⟩
def f_X12_saysText_j34 (t : List Sh) (m : Mi) : Option (Mi) :=
  some m
def f_X12_saysText_l2 (t : List Sh) (m : Mi) (a0 : Nat) (a1 : Int32) (a2 : Int32) (a3 : Int32) : Option ((Int32 × Mi) ⊕ ((Mi))) :=
  if a2 ≤ a3 then
    some (.inr m)
  else
    (if ar t (gr m a0 22) .byte (((2000 * (gi m a0 21)) + a1) + a3) = true then
    (f_X12_says t m a0 (gi m (gr m a0 22) (ix (((2000 * (gi m a0 21)) + a1) + a3)))).bind fun m3 =>
    lt (a3 + 1) fun x4 =>
    some (.inl (x4, m3))
    else none)
def f_X12_saysText_j2 (t : List Sh) (m : Mi) (a0 : Nat) (a1 : Int32) (a2 : Int32) (a3 : Int32) : Option (Mi) :=
  (lp (fun x : Int32 × Mi => f_X12_saysText_l2 t x.2 a0 a1 a2 x.1) FUEL (a3, m)).bind (fun y : Mi => f_X12_saysText_j34 t y)
def f_X12_saysText (t : List Sh) (m : Mi) (a0 : Nat) (a1 : Int32) (a2 : Int32) : Option (Mi) :=
  f_X12_saysText_j2 t m a0 a1 a2 0
set_option maxRecDepth 4000 in
set_option maxHeartbeats 4000000 in
theorem sm_X12_saysText (t : List Sh) (m : Mi) (a0 : Nat) (a1 : Int32) (a2 : Int32) (h0 : sh t a0 = some (.inl 12)) : Sm u_X12_saysText (2, 0, 0, t.length, zs t) (kV t) 0 [(0, .inr (.inr a0)), (1, .inl a1), (2, .inl a2)] [] (t, m) (f_X12_saysText t m a0 a1 a2) := by
  unfold f_X12_saysText
  refine r_iconst 0 1 (v := 0) rfl rfl (by decide) ?_
  refine r_istore_n 1 2 (L' := [(3, .inl 0), (0, .inr (.inr a0)), (1, .inl a1), (2, .inl a2)]) rfl rfl rfl (by decide) rfl ?_
  have hj2 : ∀ (m : Mi) (a3 : Int32), Sm u_X12_saysText (2, 0, 0, t.length, zs t) (kV t) 2 [(0, .inr (.inr a0)), (1, .inl a1), (2, .inl a2), (3, .inl a3)] [] (t, m) (f_X12_saysText_j2 t m a0 a1 a2 a3) := by
    intro m a3
    unfold f_X12_saysText_j2
    have hj34 : ∀ (m : Mi), Sm u_X12_saysText (2, 0, 0, t.length, zs t) (kV t) 34 [] [] (t, m) (f_X12_saysText_j34 t m) := by
      intro m
      unfold f_X12_saysText_j34
      exact r_vret 20 rfl rfl rfl
    refine r_lp (Lf := fun x : Int32 × Mi => [(0, .inr (.inr a0)), (1, .inl a1), (2, .inl a2), (3, .inl (x.1))]) (Mf := fun x : Int32 × Mi => (t, x.2)) (a3, m) ?_ FUEL
    rintro ⟨a3, m⟩ κ2 hc2 he2
    refine r_eq (L' := [(0, .inr (.inr a0)), (1, .inl a1), (2, .inl a2), (3, .inl a3)]) (M' := (t, m)) rfl rfl ?_
    refine r_eqr (r' := f_X12_saysText_l2 t m a0 a1 a2 a3) rfl ?_
    unfold f_X12_saysText_l2
    refine r_iload_n 2 3 3 rfl rfl rfl rfl ?_
    refine r_iload_n 3 4 2 rfl rfl rfl rfl ?_
    refine r_icmp_ge 4 34 7 rfl rfl rfl (fun h1 => ?_) (fun h1 => ?_)
    · refine r_leaf (r2 := (f_X12_saysText_j34 t m : Option (Mi))) (he2 _) ?_
      exact r_sub [] rfl (hj34 m)
    · refine r_aload_n 5 8 0 rfl rfl rfl rfl ?_
      refine r_aload_n 6 9 0 rfl rfl rfl rfl ?_
      refine r_getR 7 12 rfl rfl fl_RX12_40 rfl h0 ?_
      refine r_sipush 8 15 (v := 2000) rfl rfl (by decide) ?_
      refine r_aload_n 9 16 0 rfl rfl rfl rfl ?_
      refine r_getI 10 19 rfl rfl fl_RX12_326 rfl h0 ?_
      refine r_imul 11 20 rfl rfl ?_
      refine r_iload_n 12 21 1 rfl rfl rfl rfl ?_
      refine r_iadd 13 22 rfl rfl ?_
      refine r_iload_n 14 23 3 rfl rfl rfl rfl ?_
      refine r_iadd 15 24 rfl rfl ?_
      refine r_gd (fun h2 => ?_)
      refine r_bald 16 25 rfl rfl h2 ?_
      refine r_VV 17 28 (st := []) (av := [.inr (.inr a0), .inl (gi m (gr m a0 22) (ix (((2000 * (gi m a0 21)) + a1) + a3)))]) (av' := [.inl (gi m (gr m a0 22) (ix (((2000 * (gi m a0 21)) + a1) + a3)))]) (μ' := u_X12_says) (d := 1) rfl rfl mc_X12_says in_X12_says lk_RX12_402 (Nat.le_of_ble_eq_true rfl) rfl rfl h0 rfl (Nat.le_of_ble_eq_true rfl) (fun _ h => ct_X12_says h0 h) (fun m3 => ?_)
      refine r_iinc 18 31 3 (L' := [(3, .inl (a3 + 1)), (0, .inr (.inr a0)), (1, .inl a1), (2, .inl a2)]) rfl rfl rfl (by decide) rfl ?_
      refine r_ltV (fun x4 => ?_)
      refine r_goto 19 2 rfl rfl ?_
      exact r_sub [1, 2, 3, 0] rfl (hc2 (x4, m3))
  exact r_sub [1, 2, 3, 0] rfl (hj2 m 0)
theorem ct_X12_saysText {t : List Sh} {m : Mi} {a0 : Nat} {a1 : Int32} {a2 : Int32} {m' : Mi}  (h0 : sh t a0 = some (.inl 12)) (h : f_X12_saysText t m a0 a1 a2 = some m') : Ct u_X12_saysText 2 0 0 [.inr (.inr a0), .inl a1, .inl a2] (t, m) (none, (t, m')) :=
  ct_of (by decide) tk_X12_saysText (Nat.le_of_ble_eq_true rfl) (sm_X12_saysText t m a0 a1 a2 h0) (by rw [h]; rfl) (Nat.le_refl _) (Nat.le_refl _)
