theorem kc_RJ6_265 : Cond.constant RJ6 265 (1431655765) ∈ TB := tbm 1169 (by decide +kernel) rfl
theorem kc_RJ6_266 : Cond.constant RJ6 266 (858993459) ∈ TB := tbm 1170 (by decide +kernel) rfl
theorem kc_RJ6_267 : Cond.constant RJ6 267 (252645135) ∈ TB := tbm 1171 (by decide +kernel) rfl
def tb_J6_bitCount_0f7a4 : Tb := [(0, (.iload_n 0, 1)), (1, (.iload_n 0, 1)), (2, (.iconst 1, 1)), (3, (.iushr, 1)), (4, (.ldc_w 265, 3)), (7, (.iand, 1)), (8, (.isub, 1)), (9, (.istore_n 0, 1)), (10, (.iload_n 0, 1)), (11, (.ldc_w 266, 3)), (14, (.iand, 1)), (15, (.iload_n 0, 1)), (16, (.iconst 2, 1)), (17, (.iushr, 1)), (18, (.ldc_w 266, 3)), (21, (.iand, 1)), (22, (.iadd, 1)), (23, (.istore_n 0, 1)), (24, (.iload_n 0, 1)), (25, (.iload_n 0, 1)), (26, (.iconst 4, 1)), (27, (.iushr, 1)), (28, (.iadd, 1)), (29, (.ldc_w 267, 3)), (32, (.iand, 1)), (33, (.istore_n 0, 1)), (34, (.iload_n 0, 1)), (35, (.iload_n 0, 1)), (36, (.bipush 8, 2)), (38, (.iushr, 1)), (39, (.iadd, 1)), (40, (.istore_n 0, 1)), (41, (.iload_n 0, 1)), (42, (.iload_n 0, 1)), (43, (.bipush 16, 2)), (45, (.iushr, 1)), (46, (.iadd, 1)), (47, (.istore_n 0, 1)), (48, (.iload_n 0, 1)), (49, (.bipush 63, 2)), (51, (.iand, 1)), (52, (.ireturn, 1))]
def u_J6_bitCount_0f7a4 : Fx := (yJ6_bitCount_0f7a4, (cJ6_bitCount_0f7a4, (1, ((some .int), tb_J6_bitCount_0f7a4))))
theorem tk_J6_bitCount_0f7a4 : ∀ q ∈ u_J6_bitCount_0f7a4.2.2.2.2, decode u_J6_bitCount_0f7a4.2.1 q.1 = .ok q.2 := by decide +kernel
theorem mc_J6_bitCount_0f7a4 : MC u_J6_bitCount_0f7a4 1 := ⟨tbm 1168 (by decide +kernel) rfl, tbm 134 (by decide +kernel) rfl, ⟨by decide, by decide, by decide +kernel⟩, by decide⟩
theorem st_J6_bitCount_0f7a4 : Cond.static u_J6_bitCount_0f7a4.1 ∈ TB := tbm 1167 (by decide +kernel) rfl
def f_J6_bitCount_0f7a4 (a0 : Int32) : Option (Int32) :=
  lt (a0 - (((Int32.toUInt32 a0 >>> (Int32.toUInt32 1 &&& Int32.toUInt32 31)).toInt32) &&& 1431655765)) fun x1 =>
  lt ((x1 &&& 858993459) + (((Int32.toUInt32 x1 >>> (Int32.toUInt32 2 &&& Int32.toUInt32 31)).toInt32) &&& 858993459)) fun x2 =>
  lt ((x2 + ((Int32.toUInt32 x2 >>> (Int32.toUInt32 4 &&& Int32.toUInt32 31)).toInt32)) &&& 252645135) fun x3 =>
  lt (x3 + ((Int32.toUInt32 x3 >>> (Int32.toUInt32 8 &&& Int32.toUInt32 31)).toInt32)) fun x4 =>
  lt (x4 + ((Int32.toUInt32 x4 >>> (Int32.toUInt32 16 &&& Int32.toUInt32 31)).toInt32)) fun x5 =>
  some (x5 &&& 63)
set_option maxRecDepth 4000 in
set_option maxHeartbeats 4000000 in
theorem sm_J6_bitCount_0f7a4 (t : List Sh) (m : Mi) (a0 : Int32) : Sm u_J6_bitCount_0f7a4 (1, 0, 0, t.length, zs t) (kIo t m) 0 [(0, .inl a0)] [] (t, m) (f_J6_bitCount_0f7a4 a0) := by
  unfold f_J6_bitCount_0f7a4
  refine r_iload_n 0 1 0 rfl rfl rfl rfl ?_
  refine r_iload_n 1 2 0 rfl rfl rfl rfl ?_
  refine r_iconst 2 3 (v := 1) rfl rfl (by decide) ?_
  refine r_iushr 3 4 rfl rfl ?_
  refine r_ldcw 4 7 rfl rfl kc_RJ6_265 ?_
  refine r_iand 5 8 rfl rfl ?_
  refine r_isub 6 9 rfl rfl ?_
  refine r_ltI (fun x1 => ?_)
  refine r_istore_n 7 10 (L' := [(0, .inl x1)]) rfl rfl rfl (by decide) rfl ?_
  refine r_iload_n 8 11 0 rfl rfl rfl rfl ?_
  refine r_ldcw 9 14 rfl rfl kc_RJ6_266 ?_
  refine r_iand 10 15 rfl rfl ?_
  refine r_iload_n 11 16 0 rfl rfl rfl rfl ?_
  refine r_iconst 12 17 (v := 2) rfl rfl (by decide) ?_
  refine r_iushr 13 18 rfl rfl ?_
  refine r_ldcw 14 21 rfl rfl kc_RJ6_266 ?_
  refine r_iand 15 22 rfl rfl ?_
  refine r_iadd 16 23 rfl rfl ?_
  refine r_ltI (fun x2 => ?_)
  refine r_istore_n 17 24 (L' := [(0, .inl x2)]) rfl rfl rfl (by decide) rfl ?_
  refine r_iload_n 18 25 0 rfl rfl rfl rfl ?_
  refine r_iload_n 19 26 0 rfl rfl rfl rfl ?_
  refine r_iconst 20 27 (v := 4) rfl rfl (by decide) ?_
  refine r_iushr 21 28 rfl rfl ?_
  refine r_iadd 22 29 rfl rfl ?_
  refine r_ldcw 23 32 rfl rfl kc_RJ6_267 ?_
  refine r_iand 24 33 rfl rfl ?_
  refine r_ltI (fun x3 => ?_)
  refine r_istore_n 25 34 (L' := [(0, .inl x3)]) rfl rfl rfl (by decide) rfl ?_
  refine r_iload_n 26 35 0 rfl rfl rfl rfl ?_
  refine r_iload_n 27 36 0 rfl rfl rfl rfl ?_
  refine r_bipush 28 38 (v := 8) rfl rfl (by decide) ?_
  refine r_iushr 29 39 rfl rfl ?_
  refine r_iadd 30 40 rfl rfl ?_
  refine r_ltI (fun x4 => ?_)
  refine r_istore_n 31 41 (L' := [(0, .inl x4)]) rfl rfl rfl (by decide) rfl ?_
  refine r_iload_n 32 42 0 rfl rfl rfl rfl ?_
  refine r_iload_n 33 43 0 rfl rfl rfl rfl ?_
  refine r_bipush 34 45 (v := 16) rfl rfl (by decide) ?_
  refine r_iushr 35 46 rfl rfl ?_
  refine r_iadd 36 47 rfl rfl ?_
  refine r_ltI (fun x5 => ?_)
  refine r_istore_n 37 48 (L' := [(0, .inl x5)]) rfl rfl rfl (by decide) rfl ?_
  refine r_iload_n 38 49 0 rfl rfl rfl rfl ?_
  refine r_bipush 39 51 (v := 63) rfl rfl (by decide) ?_
  refine r_iand 40 52 rfl rfl ?_
  exact r_iret 41 rfl rfl rfl
theorem ct_J6_bitCount_0f7a4 {t : List Sh} {m : Mi} {a0 : Int32} {v : Int32}  (h : f_J6_bitCount_0f7a4 a0 = some v) : Ct u_J6_bitCount_0f7a4 1 0 0 [.inl a0] (t, m) (some (.inl v), (t, m)) :=
  ct_of (by decide) tk_J6_bitCount_0f7a4 (Nat.le_of_ble_eq_true rfl) (sm_J6_bitCount_0f7a4 t m a0) (by rw [h]; rfl) (Nat.le_refl _) (Nat.le_refl _)
def tb_J7_fill_53178 : Tb := [(0, (.iconst 0, 1)), (1, (.istore_n 2, 1)), (2, (.aload_n 0, 1)), (3, (.arraylength, 1)), (4, (.istore_n 3, 1)), (5, (.iload_n 2, 1)), (6, (.iload_n 3, 1)), (7, (.if_icmp .ge 13, 3)), (10, (.aload_n 0, 1)), (11, (.iload_n 2, 1)), (12, (.iload_n 1, 1)), (13, (.iastore, 1)), (14, (.iinc 2 1, 3)), (17, (.goto (-12), 3)), (20, (.return_, 1))]
def u_J7_fill_53178 : Fx := (yJ7_fill_53178, (cJ7_fill_53178, (4, (none, tb_J7_fill_53178))))
theorem tk_J7_fill_53178 : ∀ q ∈ u_J7_fill_53178.2.2.2.2, decode u_J7_fill_53178.2.1 q.1 = .ok q.2 := by decide +kernel
theorem mc_J7_fill_53178 : MC u_J7_fill_53178 2 := ⟨tbm 1126 (by decide +kernel) rfl, tbm 118 (by decide +kernel) rfl, ⟨by decide, by decide, by decide +kernel⟩, by decide⟩
theorem st_J7_fill_53178 : Cond.static u_J7_fill_53178.1 ∈ TB := tbm 1125 (by decide +kernel) rfl
def f_J7_fill_53178_j20 (t : List Sh) (m : Mi) : Option (Mi) :=
  some m
def f_J7_fill_53178_l5 (t : List Sh) (m : Mi) (a0 : Nat) (a1 : Int32) (a2 : Int32) (a3 : Int32) : Option ((Int32 × Mi) ⊕ ((Mi))) :=
  if a3 ≤ a2 then
    some (.inr m)
  else
    (if ar t a0 .int a2 = true then
    lt (si m a0 (ix a2) a1) fun m5 =>
    lt (a2 + 1) fun x6 =>
    some (.inl (x6, m5))
    else none)
def f_J7_fill_53178_j5 (t : List Sh) (m : Mi) (a0 : Nat) (a1 : Int32) (a2 : Int32) (a3 : Int32) : Option (Mi) :=
  (lp (fun x : Int32 × Mi => f_J7_fill_53178_l5 t x.2 a0 a1 x.1 a3) FUEL (a2, m)).bind (fun y : Mi => f_J7_fill_53178_j20 t y)
def f_J7_fill_53178 (t : List Sh) (m : Mi) (a0 : Nat) (a1 : Int32) : Option (Mi) :=
  (if aa t a0 .int = true then
  lt (Int32.ofNat (ln t a0)) fun x2 =>
  f_J7_fill_53178_j5 t m a0 a1 0 x2
  else none)
set_option maxRecDepth 4000 in
set_option maxHeartbeats 4000000 in
theorem sm_J7_fill_53178 (t : List Sh) (m : Mi) (a0 : Nat) (a1 : Int32) : Sm u_J7_fill_53178 (1, 0, 0, t.length, zs t) (kV t) 0 [(0, .inr (.inr a0)), (1, .inl a1)] [] (t, m) (f_J7_fill_53178 t m a0 a1) := by
  unfold f_J7_fill_53178
  refine r_iconst 0 1 (v := 0) rfl rfl (by decide) ?_
  refine r_istore_n 1 2 (L' := [(2, .inl 0), (0, .inr (.inr a0)), (1, .inl a1)]) rfl rfl rfl (by decide) rfl ?_
  refine r_aload_n 2 3 1 rfl rfl rfl rfl ?_
  refine r_gd (fun h1 => ?_)
  refine r_alen 3 4 0 rfl rfl (fun _ => rfl) h1 ?_
  refine r_ltI (fun x2 => ?_)
  refine r_istore_n 4 5 (L' := [(3, .inl x2), (2, .inl 0), (0, .inr (.inr a0)), (1, .inl a1)]) rfl rfl rfl (by decide) rfl ?_
  have hj5 : ∀ (m : Mi) (a2 : Int32) (a3 : Int32), Sm u_J7_fill_53178 (1, 0, 0, t.length, zs t) (kV t) 5 [(0, .inr (.inr a0)), (1, .inl a1), (2, .inl a2), (3, .inl a3)] [] (t, m) (f_J7_fill_53178_j5 t m a0 a1 a2 a3) := by
    intro m a2 a3
    unfold f_J7_fill_53178_j5
    have hj20 : ∀ (m : Mi), Sm u_J7_fill_53178 (1, 0, 0, t.length, zs t) (kV t) 20 [] [] (t, m) (f_J7_fill_53178_j20 t m) := by
      intro m
      unfold f_J7_fill_53178_j20
      exact r_vret 14 rfl rfl rfl
    refine r_lp (Lf := fun x : Int32 × Mi => [(0, .inr (.inr a0)), (1, .inl a1), (2, .inl (x.1)), (3, .inl a3)]) (Mf := fun x : Int32 × Mi => (t, x.2)) (a2, m) ?_ FUEL
    rintro ⟨a2, m⟩ κ5 hc5 he5
    refine r_eq (L' := [(0, .inr (.inr a0)), (1, .inl a1), (2, .inl a2), (3, .inl a3)]) (M' := (t, m)) rfl rfl ?_
    refine r_eqr (r' := f_J7_fill_53178_l5 t m a0 a1 a2 a3) rfl ?_
    unfold f_J7_fill_53178_l5
    refine r_iload_n 5 6 2 rfl rfl rfl rfl ?_
    refine r_iload_n 6 7 3 rfl rfl rfl rfl ?_
    refine r_icmp_ge 7 20 10 rfl rfl rfl (fun h3 => ?_) (fun h3 => ?_)
    · refine r_leaf (r2 := (f_J7_fill_53178_j20 t m : Option (Mi))) (he5 _) ?_
      exact r_sub [] rfl (hj20 m)
    · refine r_aload_n 8 11 0 rfl rfl rfl rfl ?_
      refine r_iload_n 9 12 2 rfl rfl rfl rfl ?_
      refine r_iload_n 10 13 1 rfl rfl rfl rfl ?_
      refine r_gd (fun h4 => ?_)
      refine r_iast 11 14 rfl rfl h4 ?_
      refine r_ltM (fun m5 => ?_)
      refine r_iinc 12 17 2 (L' := [(2, .inl (a2 + 1)), (0, .inr (.inr a0)), (1, .inl a1), (3, .inl a3)]) rfl rfl rfl (by decide) rfl ?_
      refine r_ltV (fun x6 => ?_)
      refine r_goto 13 5 rfl rfl ?_
      exact r_sub [1, 2, 0, 3] rfl (hc5 (x6, m5))
  exact r_sub [2, 3, 1, 0] rfl (hj5 m 0 x2)
theorem ct_J7_fill_53178 {t : List Sh} {m : Mi} {a0 : Nat} {a1 : Int32} {m' : Mi}  (h : f_J7_fill_53178 t m a0 a1 = some m') : Ct u_J7_fill_53178 1 0 0 [.inr (.inr a0), .inl a1] (t, m) (none, (t, m')) :=
  ct_of (by decide) tk_J7_fill_53178 (Nat.le_of_ble_eq_true rfl) (sm_J7_fill_53178 t m a0 a1) (by rw [h]; rfl) (Nat.le_refl _) (Nat.le_refl _)
def tb_J7_fill_d0a16 : Tb := [(0, (.iconst 0, 1)), (1, (.istore_n 3, 1)), (2, (.aload_n 0, 1)), (3, (.arraylength, 1)), (4, (.istore 4, 2)), (6, (.iload_n 3, 1)), (7, (.iload 4, 2)), (9, (.if_icmp .ge 13, 3)), (12, (.aload_n 0, 1)), (13, (.iload_n 3, 1)), (14, (.lload_n 1, 1)), (15, (.lastore, 1)), (16, (.iinc 3 1, 3)), (19, (.goto (-13), 3)), (22, (.return_, 1))]
def u_J7_fill_d0a16 : Fx := (yJ7_fill_d0a16, (cJ7_fill_d0a16, (5, (none, tb_J7_fill_d0a16))))
theorem tk_J7_fill_d0a16 : ∀ q ∈ u_J7_fill_d0a16.2.2.2.2, decode u_J7_fill_d0a16.2.1 q.1 = .ok q.2 := by decide +kernel
theorem mc_J7_fill_d0a16 : MC u_J7_fill_d0a16 2 := ⟨tbm 171 (by decide +kernel) rfl, tbm 118 (by decide +kernel) rfl, ⟨by decide, by decide, by decide +kernel⟩, by decide⟩
theorem st_J7_fill_d0a16 : Cond.static u_J7_fill_d0a16.1 ∈ TB := tbm 170 (by decide +kernel) rfl
def f_J7_fill_d0a16_j22 (t : List Sh) (m : Mi) : Option (Mi) :=
  some m
def f_J7_fill_d0a16_l6 (t : List Sh) (m : Mi) (a0 : Nat) (a1 : Int64) (a3 : Int32) (a4 : Int32) : Option ((Int32 × Mi) ⊕ ((Mi))) :=
  if a4 ≤ a3 then
    some (.inr m)
  else
    (if ar t a0 .long a3 = true then
    lt (sl m a0 (ix a3) a1) fun m5 =>
    lt (a3 + 1) fun x6 =>
    some (.inl (x6, m5))
    else none)
def f_J7_fill_d0a16_j6 (t : List Sh) (m : Mi) (a0 : Nat) (a1 : Int64) (a3 : Int32) (a4 : Int32) : Option (Mi) :=
  (lp (fun x : Int32 × Mi => f_J7_fill_d0a16_l6 t x.2 a0 a1 x.1 a4) FUEL (a3, m)).bind (fun y : Mi => f_J7_fill_d0a16_j22 t y)
def f_J7_fill_d0a16 (t : List Sh) (m : Mi) (a0 : Nat) (a1 : Int64) : Option (Mi) :=
  (if aa t a0 .long = true then
  lt (Int32.ofNat (ln t a0)) fun x2 =>
  f_J7_fill_d0a16_j6 t m a0 a1 0 x2
  else none)
set_option maxRecDepth 4000 in
set_option maxHeartbeats 4000000 in
theorem sm_J7_fill_d0a16 (t : List Sh) (m : Mi) (a0 : Nat) (a1 : Int64) : Sm u_J7_fill_d0a16 (1, 0, 0, t.length, zs t) (kV t) 0 [(0, .inr (.inr a0)), (1, .inr (.inl a1))] [] (t, m) (f_J7_fill_d0a16 t m a0 a1) := by
  unfold f_J7_fill_d0a16
  refine r_iconst 0 1 (v := 0) rfl rfl (by decide) ?_
  refine r_istore_n 1 2 (L' := [(3, .inl 0), (0, .inr (.inr a0)), (1, .inr (.inl a1))]) rfl rfl rfl (by decide) rfl ?_
  refine r_aload_n 2 3 1 rfl rfl rfl rfl ?_
  refine r_gd (fun h1 => ?_)
  refine r_alen 3 4 1 rfl rfl (fun _ => rfl) h1 ?_
  refine r_ltI (fun x2 => ?_)
  refine r_istore 4 6 (L' := [(4, .inl x2), (3, .inl 0), (0, .inr (.inr a0)), (1, .inr (.inl a1))]) rfl rfl (by decide) rfl ?_
  have hj6 : ∀ (m : Mi) (a3 : Int32) (a4 : Int32), Sm u_J7_fill_d0a16 (1, 0, 0, t.length, zs t) (kV t) 6 [(0, .inr (.inr a0)), (1, .inr (.inl a1)), (3, .inl a3), (4, .inl a4)] [] (t, m) (f_J7_fill_d0a16_j6 t m a0 a1 a3 a4) := by
    intro m a3 a4
    unfold f_J7_fill_d0a16_j6
    have hj22 : ∀ (m : Mi), Sm u_J7_fill_d0a16 (1, 0, 0, t.length, zs t) (kV t) 22 [] [] (t, m) (f_J7_fill_d0a16_j22 t m) := by
      intro m
      unfold f_J7_fill_d0a16_j22
      exact r_vret 14 rfl rfl rfl
    refine r_lp (Lf := fun x : Int32 × Mi => [(0, .inr (.inr a0)), (1, .inr (.inl a1)), (3, .inl (x.1)), (4, .inl a4)]) (Mf := fun x : Int32 × Mi => (t, x.2)) (a3, m) ?_ FUEL
    rintro ⟨a3, m⟩ κ6 hc6 he6
    refine r_eq (L' := [(0, .inr (.inr a0)), (1, .inr (.inl a1)), (3, .inl a3), (4, .inl a4)]) (M' := (t, m)) rfl rfl ?_
    refine r_eqr (r' := f_J7_fill_d0a16_l6 t m a0 a1 a3 a4) rfl ?_
    unfold f_J7_fill_d0a16_l6
    refine r_iload_n 5 7 2 rfl rfl rfl rfl ?_
    refine r_iload 6 9 3 rfl rfl rfl ?_
    refine r_icmp_ge 7 22 12 rfl rfl rfl (fun h3 => ?_) (fun h3 => ?_)
    · refine r_leaf (r2 := (f_J7_fill_d0a16_j22 t m : Option (Mi))) (he6 _) ?_
      exact r_sub [] rfl (hj22 m)
    · refine r_aload_n 8 13 0 rfl rfl rfl rfl ?_
      refine r_iload_n 9 14 2 rfl rfl rfl rfl ?_
      refine r_lload_n 10 15 1 rfl rfl rfl rfl ?_
      refine r_gd (fun h4 => ?_)
      refine r_last 11 16 rfl rfl h4 ?_
      refine r_ltM (fun m5 => ?_)
      refine r_iinc 12 19 2 (L' := [(3, .inl (a3 + 1)), (0, .inr (.inr a0)), (1, .inr (.inl a1)), (4, .inl a4)]) rfl rfl rfl (by decide) rfl ?_
      refine r_ltV (fun x6 => ?_)
      refine r_goto 13 6 rfl rfl ?_
      exact r_sub [1, 2, 0, 3] rfl (hc6 (x6, m5))
  exact r_sub [2, 3, 1, 0] rfl (hj6 m 0 x2)
theorem ct_J7_fill_d0a16 {t : List Sh} {m : Mi} {a0 : Nat} {a1 : Int64} {m' : Mi}  (h : f_J7_fill_d0a16 t m a0 a1 = some m') : Ct u_J7_fill_d0a16 1 0 0 [.inr (.inr a0), .inr (.inl a1)] (t, m) (none, (t, m')) :=
  ct_of (by decide) tk_J7_fill_d0a16 (Nat.le_of_ble_eq_true rfl) (sm_J7_fill_d0a16 t m a0 a1) (by rw [h]; rfl) (Nat.le_refl _) (Nat.le_refl _)
