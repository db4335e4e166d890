theorem lk_RX8_7 : Cond.methodLink RX8 7 Lib.objectInit ∈ TB := tbm 446 (by decide +kernel) rfl
theorem fl_RX8_13 : FL RX8 13 8 0 false := ⟨RX8, TX8, 8, rfl, inW8, tyX8_ok, nmX8, by decide, rfl, rfl, rfl, tbm 447 (by decide +kernel) rfl⟩
theorem fl_RX8_17 : FL RX8 17 8 1 false := ⟨RX8, TX8, 8, rfl, inW8, tyX8_ok, nmX8, by decide, rfl, rfl, rfl, tbm 448 (by decide +kernel) rfl⟩
theorem fl_RX8_21 : FL RX8 21 8 2 true := ⟨RX8, TX8, 8, rfl, inW8, tyX8_ok, nmX8, by decide, rfl, rfl, rfl, tbm 449 (by decide +kernel) rfl⟩
theorem fl_RX8_25 : FL RX8 25 8 3 true := ⟨RX8, TX8, 8, rfl, inW8, tyX8_ok, nmX8, by decide, rfl, rfl, rfl, tbm 450 (by decide +kernel) rfl⟩
theorem fl_RX8_28 : FL RX8 28 8 4 true := ⟨RX8, TX8, 8, rfl, inW8, tyX8_ok, nmX8, by decide, rfl, rfl, rfl, tbm 451 (by decide +kernel) rfl⟩
theorem fl_RX8_31 : FL RX8 31 8 5 true := ⟨RX8, TX8, 8, rfl, inW8, tyX8_ok, nmX8, by decide, rfl, rfl, rfl, tbm 452 (by decide +kernel) rfl⟩
theorem wd_472 : Cond.arrayClass .boolean ∈ TB := tbm 472 (by decide +kernel) rfl
theorem fl_RX8_34 : FL RX8 34 8 6 true := ⟨RX8, TX8, 8, rfl, inW8, tyX8_ok, nmX8, by decide, rfl, rfl, rfl, tbm 453 (by decide +kernel) rfl⟩
theorem fl_RX8_38 : FL RX8 38 8 7 true := ⟨RX8, TX8, 8, rfl, inW8, tyX8_ok, nmX8, by decide, rfl, rfl, rfl, tbm 454 (by decide +kernel) rfl⟩
def tb_X8_init : Tb := [(0, (.aload_n 0, 1)), (1, (.invokespecial 7, 3)), (4, (.aload_n 0, 1)), (5, (.aload_n 1, 1)), (6, (.putfield 13, 3)), (9, (.aload_n 0, 1)), (10, (.iconst 0, 1)), (11, (.putfield 17, 3)), (14, (.aload_n 0, 1)), (15, (.sipush 700, 3)), (18, (.newarray .int, 2)), (20, (.putfield 21, 3)), (23, (.aload_n 0, 1)), (24, (.sipush 700, 3)), (27, (.newarray .int, 2)), (29, (.putfield 25, 3)), (32, (.aload_n 0, 1)), (33, (.bipush 110, 2)), (35, (.newarray .int, 2)), (37, (.putfield 28, 3)), (40, (.aload_n 0, 1)), (41, (.bipush 110, 2)), (43, (.newarray .int, 2)), (45, (.putfield 31, 3)), (48, (.aload_n 0, 1)), (49, (.sipush 250, 3)), (52, (.newarray .boolean, 2)), (54, (.putfield 34, 3)), (57, (.aload_n 0, 1)), (58, (.bipush 10, 2)), (60, (.newarray .int, 2)), (62, (.putfield 38, 3)), (65, (.return_, 1))]
def u_X8_init : Fx := (yX8_init, (cX8_init, (2, (none, tb_X8_init))))
theorem tk_X8_init : ∀ q ∈ u_X8_init.2.2.2.2, decode u_X8_init.2.1 q.1 = .ok q.2 := by decide +kernel
theorem mc_X8_init : MC u_X8_init 1 := ⟨tbm 445 (by decide +kernel) rfl, tbm 125 (by decide +kernel) rfl, ⟨by decide, by decide, by decide +kernel⟩, by decide⟩
theorem ini_X8_init : Cond.instanceMethod u_X8_init.1 ∈ TB := tbm 444 (by decide +kernel) rfl
set_option maxRecDepth 20000 in
def f_X8_init (t : List Sh) (m : Mi) (a0 : Nat) (a1 : Nat) : Option (Mm) :=
  lt (sr m a0 0 a1) fun m1 =>
  lt (si m1 a0 1 0) fun m2 =>
  (if t.length < 1000000 then
  lt (t.length + 1) fun r4 =>
  lt (t ++ [.inr (.int, ix 700)]) fun t5 =>
  lt (zr m2 (t.length + 1)) fun m6 =>
  (if ob t5 a0 8 = true then
  lt (sr m6 a0 2 r4) fun m8 =>
  (if t5.length < 1000000 then
  lt (t5.length + 1) fun r10 =>
  lt (t5 ++ [.inr (.int, ix 700)]) fun t11 =>
  lt (zr m8 (t5.length + 1)) fun m12 =>
  (if ob t11 a0 8 = true then
  lt (sr m12 a0 3 r10) fun m14 =>
  (if t11.length < 1000000 then
  lt (t11.length + 1) fun r16 =>
  lt (t11 ++ [.inr (.int, ix 110)]) fun t17 =>
  lt (zr m14 (t11.length + 1)) fun m18 =>
  (if ob t17 a0 8 = true then
  lt (sr m18 a0 4 r16) fun m20 =>
  (if t17.length < 1000000 then
  lt (t17.length + 1) fun r22 =>
  lt (t17 ++ [.inr (.int, ix 110)]) fun t23 =>
  lt (zr m20 (t17.length + 1)) fun m24 =>
  (if ob t23 a0 8 = true then
  lt (sr m24 a0 5 r22) fun m26 =>
  (if t23.length < 1000000 then
  lt (t23.length + 1) fun r28 =>
  lt (t23 ++ [.inr (.boolean, ix 250)]) fun t29 =>
  lt (zr m26 (t23.length + 1)) fun m30 =>
  (if ob t29 a0 8 = true then
  lt (sr m30 a0 6 r28) fun m32 =>
  (if t29.length < 1000000 then
  lt (t29.length + 1) fun r34 =>
  lt (t29 ++ [.inr (.int, ix 10)]) fun t35 =>
  lt (zr m32 (t29.length + 1)) fun m36 =>
  (if ob t35 a0 8 = true then
  lt (sr m36 a0 7 r34) fun m38 =>
  some (t35, m38)
  else none)
  else none)
  else none)
  else none)
  else none)
  else none)
  else none)
  else none)
  else none)
  else none)
  else none)
  else none)
set_option maxRecDepth 40000 in
set_option maxHeartbeats 4000000 in
theorem sm_X8_init (e2 : Nat × (Nat × (Nat × Nat))) (t : List Sh) (m : Mi) (a0 : Nat) (a1 : Nat) (h0 : sh t a0 = some (.inl 8)) : Sm u_X8_init (1, e2) kA 0 [(0, .inr (.inr a0)), (1, .inr (.inr a1))] [] (t, m) (f_X8_init t m a0 a1) := by
  unfold f_X8_init
  refine r_aload_n 0 1 0 rfl rfl rfl rfl ?_
  refine r_objI 1 4 rfl rfl lk_RX8_7 (Nat.le_of_ble_eq_true rfl) (Nat.le_of_ble_eq_true rfl) h0 ?_
  refine r_aload_n 2 5 0 rfl rfl rfl rfl ?_
  refine r_aload_n 3 6 1 rfl rfl rfl rfl ?_
  refine r_putR 4 9 rfl rfl fl_RX8_13 (fun h => by cases h) rfl h0 ?_
  refine r_ltM (fun m1 => ?_)
  refine r_aload_n 5 10 0 rfl rfl rfl rfl ?_
  refine r_iconst 6 11 (v := 0) rfl rfl (by decide) ?_
  refine r_putI 7 14 rfl rfl fl_RX8_17 (fun h => by cases h) (Or.inl rfl) h0 ?_
  refine r_ltM (fun m2 => ?_)
  refine r_aload_n 8 15 0 rfl rfl rfl rfl ?_
  refine r_sipush 9 18 (v := 700) rfl rfl (by decide) ?_
  refine r_gd (fun h3 => ?_)
  refine r_newa 10 20 (ty := .int) (q := 0) rfl rfl h3 rfl (by decide) (fun _ => rfl) wd_231 (by decide) (by decide) ?_
  refine r_ltR (fun r4 => ?_)
  refine r_ltT (fun t5 => ?_)
  refine r_ltM (fun m6 => ?_)
  refine r_gd (fun h7 => ?_)
  refine r_putR 11 23 rfl rfl fl_RX8_21 (fun _ => ⟨rfl, rfl⟩) rfl (ob_sh h7) ?_
  refine r_ltM (fun m8 => ?_)
  refine r_aload_n 12 24 0 rfl rfl rfl rfl ?_
  refine r_sipush 13 27 (v := 700) rfl rfl (by decide) ?_
  refine r_gd (fun h9 => ?_)
  refine r_newa 14 29 (ty := .int) (q := 0) rfl rfl h9 rfl (by decide) (fun _ => rfl) wd_231 (by decide) (by decide) ?_
  refine r_ltR (fun r10 => ?_)
  refine r_ltT (fun t11 => ?_)
  refine r_ltM (fun m12 => ?_)
  refine r_gd (fun h13 => ?_)
  refine r_putR 15 32 rfl rfl fl_RX8_25 (fun _ => ⟨rfl, rfl⟩) rfl (ob_sh h13) ?_
  refine r_ltM (fun m14 => ?_)
  refine r_aload_n 16 33 0 rfl rfl rfl rfl ?_
  refine r_bipush 17 35 (v := 110) rfl rfl (by decide) ?_
  refine r_gd (fun h15 => ?_)
  refine r_newa 18 37 (ty := .int) (q := 0) rfl rfl h15 rfl (by decide) (fun _ => rfl) wd_231 (by decide) (by decide) ?_
  refine r_ltR (fun r16 => ?_)
  refine r_ltT (fun t17 => ?_)
  refine r_ltM (fun m18 => ?_)
  refine r_gd (fun h19 => ?_)
  refine r_putR 19 40 rfl rfl fl_RX8_28 (fun _ => ⟨rfl, rfl⟩) rfl (ob_sh h19) ?_
  refine r_ltM (fun m20 => ?_)
  refine r_aload_n 20 41 0 rfl rfl rfl rfl ?_
  refine r_bipush 21 43 (v := 110) rfl rfl (by decide) ?_
  refine r_gd (fun h21 => ?_)
  refine r_newa 22 45 (ty := .int) (q := 0) rfl rfl h21 rfl (by decide) (fun _ => rfl) wd_231 (by decide) (by decide) ?_
  refine r_ltR (fun r22 => ?_)
  refine r_ltT (fun t23 => ?_)
  refine r_ltM (fun m24 => ?_)
  refine r_gd (fun h25 => ?_)
  refine r_putR 23 48 rfl rfl fl_RX8_31 (fun _ => ⟨rfl, rfl⟩) rfl (ob_sh h25) ?_
  refine r_ltM (fun m26 => ?_)
  refine r_aload_n 24 49 0 rfl rfl rfl rfl ?_
  refine r_sipush 25 52 (v := 250) rfl rfl (by decide) ?_
  refine r_gd (fun h27 => ?_)
  refine r_newa 26 54 (ty := .boolean) (q := 3) rfl rfl h27 rfl (by decide) (fun _ => rfl) wd_472 (by decide) (by decide) ?_
  refine r_ltR (fun r28 => ?_)
  refine r_ltT (fun t29 => ?_)
  refine r_ltM (fun m30 => ?_)
  refine r_gd (fun h31 => ?_)
  refine r_putR 27 57 rfl rfl fl_RX8_34 (fun _ => ⟨rfl, rfl⟩) rfl (ob_sh h31) ?_
  refine r_ltM (fun m32 => ?_)
  refine r_aload_n 28 58 0 rfl rfl rfl rfl ?_
  refine r_bipush 29 60 (v := 10) rfl rfl (by decide) ?_
  refine r_gd (fun h33 => ?_)
  refine r_newa 30 62 (ty := .int) (q := 0) rfl rfl h33 rfl (by decide) (fun _ => rfl) wd_231 (by decide) (by decide) ?_
  refine r_ltR (fun r34 => ?_)
  refine r_ltT (fun t35 => ?_)
  refine r_ltM (fun m36 => ?_)
  refine r_gd (fun h37 => ?_)
  refine r_putR 31 65 rfl rfl fl_RX8_38 (fun _ => ⟨rfl, rfl⟩) rfl (ob_sh h37) ?_
  refine r_ltM (fun m38 => ?_)
  exact r_vret 32 rfl rfl rfl
theorem mn_X8_init {t : List Sh} {m : Mi} {a0 : Nat} {a1 : Nat} {q : Mm} (h0 : sh t a0 = some (.inl 8)) (h : f_X8_init t m a0 a1 = some q) : t.length ≤ q.1.length ∧ zs t ≤ zs q.1 := ((sm_X8_init (0, 0, 0, 0) t m a0 a1 h0) (none, q) (by rw [h]; rfl)).1
theorem ct_X8_init {t : List Sh} {m : Mi} {a0 : Nat} {a1 : Nat} {q : Mm} (h0 : sh t a0 = some (.inl 8)) (h : f_X8_init t m a0 a1 = some q) : Ct u_X8_init 1 (q.1.length - t.length) (zs q.1 - zs t) [.inr (.inr a0), .inr (.inr a1)] (t, m) (none, q) := by
  have hm := mn_X8_init h0 h
  exact ct_of (by decide) tk_X8_init (Nat.le_of_ble_eq_true rfl) (sm_X8_init (q.1.length - t.length, zs q.1 - zs t, t.length, zs t) t m a0 a1 h0) (by rw [h]; rfl) (by show q.1.length ≤ t.length + (q.1.length - t.length); omega) (by show zs q.1 ≤ zs t + (zs q.1 - zs t); omega)
def tb_X8_isActive : Tb := [(0, (.iload_n 1, 1)), (1, (.ifCond .lt 25, 3)), (4, (.iload_n 1, 1)), (5, (.aload_n 0, 1)), (6, (.getfield 34, 3)), (9, (.arraylength, 1)), (10, (.if_icmp .ge 16, 3)), (13, (.aload_n 0, 1)), (14, (.getfield 34, 3)), (17, (.iload_n 1, 1)), (18, (.baload, 1)), (19, (.ifCond .eq 7, 3)), (22, (.iconst 1, 1)), (23, (.goto 4, 3)), (26, (.iconst 0, 1)), (27, (.ireturn, 1))]
def u_X8_isActive : Fx := (yX8_isActive, (cX8_isActive, (2, ((some .boolean), tb_X8_isActive))))
theorem tk_X8_isActive : ∀ q ∈ u_X8_isActive.2.2.2.2, decode u_X8_isActive.2.1 q.1 = .ok q.2 := by decide +kernel
theorem mc_X8_isActive : MC u_X8_isActive 1 := ⟨tbm 1141 (by decide +kernel) rfl, tbm 125 (by decide +kernel) rfl, ⟨by decide, by decide, by decide +kernel⟩, by decide⟩
theorem in_X8_isActive : Cond.instanceMethod u_X8_isActive.1 ∈ TB ∧ Cond.selects u_X8_isActive.1.cls u_X8_isActive.1 u_X8_isActive.1 ∈ TB := ⟨tbm 1140 (by decide +kernel) rfl, tbm 52 (by decide +kernel) rfl⟩
def f_X8_isActive (t : List Sh) (m : Mi) (a0 : Nat) (a1 : Int32) : Option (Int32) :=
  if a1 < 0 then
    some 0
  else
    (if aa t (gr m a0 6) .boolean = true then
    if (Int32.ofNat (ln t (gr m a0 6))) ≤ a1 then
      some 0
    else
      (if ar t (gr m a0 6) .boolean a1 = true then
      if (gi m (gr m a0 6) (ix a1)) = 0 then
        some 0
      else
        some 1
      else none)
    else none)
set_option maxRecDepth 4000 in
set_option maxHeartbeats 4000000 in
theorem sm_X8_isActive (t : List Sh) (m : Mi) (a0 : Nat) (a1 : Int32) (h0 : sh t a0 = some (.inl 8)) : Sm u_X8_isActive (1, 0, 0, t.length, zs t) (kIo t m) 0 [(0, .inr (.inr a0)), (1, .inl a1)] [] (t, m) (f_X8_isActive t m a0 a1) := by
  unfold f_X8_isActive
  refine r_iload_n 0 1 1 rfl rfl rfl rfl ?_
  refine r_if_lt 1 26 4 rfl rfl rfl (fun h1 => ?_) (fun h1 => ?_)
  · refine r_iconst 14 27 (v := 0) rfl rfl (by decide) ?_
    exact r_zret 15 rfl rfl (by decide) rfl
  · refine r_iload_n 2 5 1 rfl rfl rfl rfl ?_
    refine r_aload_n 3 6 0 rfl rfl rfl rfl ?_
    refine r_getR 4 9 rfl rfl fl_RX8_34 rfl h0 ?_
    refine r_gd (fun h2 => ?_)
    refine r_alen 5 10 3 rfl rfl (fun _ => rfl) h2 ?_
    refine r_icmp_ge 6 26 13 rfl rfl rfl (fun h3 => ?_) (fun h3 => ?_)
    · refine r_iconst 14 27 (v := 0) rfl rfl (by decide) ?_
      exact r_zret 15 rfl rfl (by decide) rfl
    · refine r_aload_n 7 14 0 rfl rfl rfl rfl ?_
      refine r_getR 8 17 rfl rfl fl_RX8_34 rfl h0 ?_
      refine r_iload_n 9 18 1 rfl rfl rfl rfl ?_
      refine r_gd (fun h4 => ?_)
      refine r_zald 10 19 rfl rfl h4 ?_
      refine r_if_eq 11 26 22 rfl rfl rfl (fun h5 => ?_) (fun h5 => ?_)
      · refine r_iconst 14 27 (v := 0) rfl rfl (by decide) ?_
        exact r_zret 15 rfl rfl (by decide) rfl
      · refine r_iconst 12 23 (v := 1) rfl rfl (by decide) ?_
        refine r_goto 13 27 rfl rfl ?_
        exact r_zret 15 rfl rfl (by decide) rfl
theorem ct_X8_isActive {t : List Sh} {m : Mi} {a0 : Nat} {a1 : Int32} {v : Int32}  (h0 : sh t a0 = some (.inl 8)) (h : f_X8_isActive t m a0 a1 = some v) : Ct u_X8_isActive 1 0 0 [.inr (.inr a0), .inl a1] (t, m) (some (.inl v), (t, m)) :=
  ct_of (by decide) tk_X8_isActive (Nat.le_of_ble_eq_true rfl) (sm_X8_isActive t m a0 a1 h0) (by rw [h]; rfl) (Nat.le_refl _) (Nat.le_refl _)
def tb_X8_isOpen : Tb := [(0, (.iload_n 1, 1)), (1, (.ifCond .lt 42, 3)), (4, (.iload_n 1, 1)), (5, (.bipush 10, 2)), (7, (.if_icmp .ge 36, 3)), (10, (.iload_n 2, 1)), (11, (.ifCond .lt 32, 3)), (14, (.iload_n 2, 1)), (15, (.bipush 10, 2)), (17, (.if_icmp .ge 26, 3)), (20, (.aload_n 0, 1)), (21, (.getfield 28, 3)), (24, (.iload_n 1, 1)), (25, (.bipush 10, 2)), (27, (.imul, 1)), (28, (.iload_n 2, 1)), (29, (.iadd, 1)), (30, (.iaload, 1)), (31, (.iload_n 3, 1)), (32, (.ishr, 1)), (33, (.iconst 1, 1)), (34, (.iand, 1)), (35, (.iconst 1, 1)), (36, (.if_icmp .ne 7, 3)), (39, (.iconst 1, 1)), (40, (.goto 4, 3)), (43, (.iconst 0, 1)), (44, (.ireturn, 1))]
def u_X8_isOpen : Fx := (yX8_isOpen, (cX8_isOpen, (4, ((some .boolean), tb_X8_isOpen))))
theorem tk_X8_isOpen : ∀ q ∈ u_X8_isOpen.2.2.2.2, decode u_X8_isOpen.2.1 q.1 = .ok q.2 := by decide +kernel
theorem mc_X8_isOpen : MC u_X8_isOpen 3 := ⟨tbm 1175 (by decide +kernel) rfl, tbm 125 (by decide +kernel) rfl, ⟨by decide, by decide, by decide +kernel⟩, by decide⟩
theorem in_X8_isOpen : Cond.instanceMethod u_X8_isOpen.1 ∈ TB ∧ Cond.selects u_X8_isOpen.1.cls u_X8_isOpen.1 u_X8_isOpen.1 ∈ TB := ⟨tbm 1174 (by decide +kernel) rfl, tbm 56 (by decide +kernel) rfl⟩
def f_X8_isOpen (t : List Sh) (m : Mi) (a0 : Nat) (a1 : Int32) (a2 : Int32) (a3 : Int32) : Option (Int32) :=
  if a1 < 0 then
    some 0
  else
    if 10 ≤ a1 then
      some 0
    else
      if a2 < 0 then
        some 0
      else
        if 10 ≤ a2 then
          some 0
        else
          (if ar t (gr m a0 4) .int ((a1 * 10) + a2) = true then
          if (((gi m (gr m a0 4) (ix ((a1 * 10) + a2))) >>> (a3 &&& 31)) &&& 1) = 1 then
            some 1
          else
            some 0
          else none)
set_option maxRecDepth 4000 in
set_option maxHeartbeats 4000000 in
theorem sm_X8_isOpen (t : List Sh) (m : Mi) (a0 : Nat) (a1 : Int32) (a2 : Int32) (a3 : Int32) (h0 : sh t a0 = some (.inl 8)) : Sm u_X8_isOpen (1, 0, 0, t.length, zs t) (kIo t m) 0 [(0, .inr (.inr a0)), (1, .inl a1), (2, .inl a2), (3, .inl a3)] [] (t, m) (f_X8_isOpen t m a0 a1 a2 a3) := by
  unfold f_X8_isOpen
  refine r_iload_n 0 1 1 rfl rfl rfl rfl ?_
  refine r_if_lt 1 43 4 rfl rfl rfl (fun h1 => ?_) (fun h1 => ?_)
  · refine r_iconst 26 44 (v := 0) rfl rfl (by decide) ?_
    exact r_zret 27 rfl rfl (by decide) rfl
  · refine r_iload_n 2 5 1 rfl rfl rfl rfl ?_
    refine r_bipush 3 7 (v := 10) rfl rfl (by decide) ?_
    refine r_icmp_ge 4 43 10 rfl rfl rfl (fun h2 => ?_) (fun h2 => ?_)
    · refine r_iconst 26 44 (v := 0) rfl rfl (by decide) ?_
      exact r_zret 27 rfl rfl (by decide) rfl
    · refine r_iload_n 5 11 2 rfl rfl rfl rfl ?_
      refine r_if_lt 6 43 14 rfl rfl rfl (fun h3 => ?_) (fun h3 => ?_)
      · refine r_iconst 26 44 (v := 0) rfl rfl (by decide) ?_
        exact r_zret 27 rfl rfl (by decide) rfl
      · refine r_iload_n 7 15 2 rfl rfl rfl rfl ?_
        refine r_bipush 8 17 (v := 10) rfl rfl (by decide) ?_
        refine r_icmp_ge 9 43 20 rfl rfl rfl (fun h4 => ?_) (fun h4 => ?_)
        · refine r_iconst 26 44 (v := 0) rfl rfl (by decide) ?_
          exact r_zret 27 rfl rfl (by decide) rfl
        · refine r_aload_n 10 21 0 rfl rfl rfl rfl ?_
          refine r_getR 11 24 rfl rfl fl_RX8_28 rfl h0 ?_
          refine r_iload_n 12 25 1 rfl rfl rfl rfl ?_
          refine r_bipush 13 27 (v := 10) rfl rfl (by decide) ?_
          refine r_imul 14 28 rfl rfl ?_
          refine r_iload_n 15 29 2 rfl rfl rfl rfl ?_
          refine r_iadd 16 30 rfl rfl ?_
          refine r_gd (fun h5 => ?_)
          refine r_iald 17 31 rfl rfl h5 ?_
          refine r_iload_n 18 32 3 rfl rfl rfl rfl ?_
          refine r_ishr 19 33 rfl rfl ?_
          refine r_iconst 20 34 (v := 1) rfl rfl (by decide) ?_
          refine r_iand 21 35 rfl rfl ?_
          refine r_iconst 22 36 (v := 1) rfl rfl (by decide) ?_
          refine r_icmp_ne 23 43 39 rfl rfl rfl (fun h6 => ?_) (fun h6 => ?_)
          · refine r_iconst 24 40 (v := 1) rfl rfl (by decide) ?_
            refine r_goto 25 44 rfl rfl ?_
            exact r_zret 27 rfl rfl (by decide) rfl
          · refine r_iconst 26 44 (v := 0) rfl rfl (by decide) ?_
            exact r_zret 27 rfl rfl (by decide) rfl
theorem ct_X8_isOpen {t : List Sh} {m : Mi} {a0 : Nat} {a1 : Int32} {a2 : Int32} {a3 : Int32} {v : Int32}  (h0 : sh t a0 = some (.inl 8)) (h : f_X8_isOpen t m a0 a1 a2 a3 = some v) : Ct u_X8_isOpen 1 0 0 [.inr (.inr a0), .inl a1, .inl a2, .inl a3] (t, m) (some (.inl v), (t, m)) :=
  ct_of (by decide) tk_X8_isOpen (Nat.le_of_ble_eq_true rfl) (sm_X8_isOpen t m a0 a1 a2 a3 h0) (by rw [h]; rfl) (Nat.le_refl _) (Nat.le_refl _)
def tb_X8_lay : Tb := [(0, (.iload_n 1, 1)), (1, (.ifCond .lt 29, 3)), (4, (.iload_n 1, 1)), (5, (.bipush 10, 2)), (7, (.if_icmp .ge 23, 3)), (10, (.iload_n 2, 1)), (11, (.ifCond .lt 19, 3)), (14, (.iload_n 2, 1)), (15, (.bipush 10, 2)), (17, (.if_icmp .ge 13, 3)), (20, (.iload_n 3, 1)), (21, (.ifCond .lt 9, 3)), (24, (.iload_n 3, 1)), (25, (.bipush 7, 2)), (27, (.if_icmp .lt 5, 3)), (30, (.iconst 0, 1)), (31, (.ireturn, 1)), (32, (.iload_n 1, 1)), (33, (.bipush 10, 2)), (35, (.imul, 1)), (36, (.istore 4, 2)), (38, (.iload 4, 2)), (40, (.bipush 10, 2)), (42, (.iadd, 1)), (43, (.istore 5, 2)), (45, (.iload_n 2, 1)), (46, (.bipush 7, 2)), (48, (.imul, 1)), (49, (.iload_n 3, 1)), (50, (.iadd, 1)), (51, (.bipush 10, 2)), (53, (.imul, 1)), (54, (.istore 6, 2)), (56, (.iconst 0, 1)), (57, (.istore 7, 2)), (59, (.iload 7, 2)), (61, (.aload_n 0, 1)), (62, (.getfield 17, 3)), (65, (.if_icmp .ge 119, 3)), (68, (.aload_n 0, 1)), (69, (.getfield 28, 3)), (72, (.iload 4, 2)), (74, (.iload 7, 2)), (76, (.iadd, 1)), (77, (.iaload, 1)), (78, (.iload 7, 2)), (80, (.iload_n 2, 1)), (81, (.if_icmp .ne 9, 3)), (84, (.iconst 1, 1)), (85, (.iload_n 3, 1)), (86, (.ishl, 1)), (87, (.goto 13, 3)), (90, (.aload_n 0, 1)), (91, (.getfield 25, 3)), (94, (.iload 6, 2)), (96, (.iload 7, 2)), (98, (.iadd, 1)), (99, (.iaload, 1)), (100, (.iand, 1)), (101, (.istore 8, 2)), (103, (.aload_n 0, 1)), (104, (.getfield 28, 3)), (107, (.iload 5, 2)), (109, (.iload 7, 2)), (111, (.iadd, 1)), (112, (.iload 8, 2)), (114, (.iastore, 1)), (115, (.aload_n 0, 1)), (116, (.getfield 31, 3)), (119, (.iload 5, 2)), (121, (.iload 7, 2)), (123, (.iadd, 1)), (124, (.aload_n 0, 1)), (125, (.getfield 31, 3)), (128, (.iload 4, 2)), (130, (.iload 7, 2)), (132, (.iadd, 1)), (133, (.iaload, 1)), (134, (.iload 8, 2)), (136, (.aload_n 0, 1)), (137, (.getfield 28, 3)), (140, (.iload 4, 2)), (142, (.iload 7, 2)), (144, (.iadd, 1)), (145, (.iaload, 1)), (146, (.if_icmp .ne 7, 3)), (149, (.iconst 0, 1)), (150, (.goto 6, 3)), (153, (.iconst 1, 1)), (154, (.iload_n 2, 1)), (155, (.ishl, 1)), (156, (.ior, 1)), (157, (.iastore, 1)), (158, (.iload 8, 2)), (160, (.ifCond .ne 18, 3)), (163, (.aload_n 0, 1)), (164, (.getfield 31, 3)), (167, (.iload 5, 2)), (169, (.iload 7, 2)), (171, (.iadd, 1)), (172, (.iaload, 1)), (173, (.iconst 1, 1)), (174, (.iload_n 2, 1)), (175, (.ishl, 1)), (176, (.ior, 1)), (177, (.ireturn, 1)), (178, (.iinc 7 1, 3)), (181, (.goto (-122), 3)), (184, (.iconst 0, 1)), (185, (.ireturn, 1))]
def u_X8_lay : Fx := (yX8_lay, (cX8_lay, (9, ((some .int), tb_X8_lay))))
theorem tk_X8_lay : ∀ q ∈ u_X8_lay.2.2.2.2, decode u_X8_lay.2.1 q.1 = .ok q.2 := by decide +kernel
theorem mc_X8_lay : MC u_X8_lay 3 := ⟨tbm 1179 (by decide +kernel) rfl, tbm 125 (by decide +kernel) rfl, ⟨by decide, by decide, by decide +kernel⟩, by decide⟩
theorem in_X8_lay : Cond.instanceMethod u_X8_lay.1 ∈ TB ∧ Cond.selects u_X8_lay.1.cls u_X8_lay.1 u_X8_lay.1 ∈ TB := ⟨tbm 1178 (by decide +kernel) rfl, tbm 57 (by decide +kernel) rfl⟩
def f_X8_lay_j163 (t : List Sh) (m : Mi) (a0 : Nat) (a2 : Int32) (a5 : Int32) (a7 : Int32) : Option (Int32 × Mi) :=
  (if ar t (gr m a0 5) .int (a5 + a7) = true then
  some ((gi m (gr m a0 5) (ix (a5 + a7))) ||| (1 <<< (a2 &&& 31)), m)
  else none)
def f_X8_lay_j184 (t : List Sh) (m : Mi) : Option (Int32 × Mi) :=
  some (0, m)
def f_X8_lay_j156 (t : List Sh) (m : Mi) (a0 : Nat) (a2 : Int32) (a3 : Int32) (a4 : Int32) (a5 : Int32) (a6 : Int32) (a7 : Int32) (a8 : Int32) (s0 : Int32) (s1 : Int32) (s2 : Int32) (s3 : Nat) : Option ((Int32 × Mi) ⊕ ((Mi) ⊕ (Int32 × Mi))) :=
  (if ar t s3 .int s2 = true then
  lt (si m s3 (ix s2) (s1 ||| s0)) fun m19 =>
  if a8 = 0 then
    some (.inr (.inr (a7, m19)))
  else
    lt (a7 + 1) fun x21 =>
    some (.inl (x21, m19))
  else none)
def f_X8_lay_j100 (t : List Sh) (m : Mi) (a0 : Nat) (a2 : Int32) (a3 : Int32) (a4 : Int32) (a5 : Int32) (a6 : Int32) (a7 : Int32) (s0 : Int32) (s1 : Int32) : Option ((Int32 × Mi) ⊕ ((Mi) ⊕ (Int32 × Mi))) :=
  lt (s1 &&& s0) fun x13 =>
  (if ar t (gr m a0 4) .int (a5 + a7) = true then
  lt (si m (gr m a0 4) (ix (a5 + a7)) x13) fun m15 =>
  (if ar t (gr m15 a0 5) .int (a4 + a7) = true then
  (if ar t (gr m15 a0 4) .int (a4 + a7) = true then
  if x13 = (gi m15 (gr m15 a0 4) (ix (a4 + a7))) then
    f_X8_lay_j156 t m15 a0 a2 a3 a4 a5 a6 a7 x13 0 (gi m15 (gr m15 a0 5) (ix (a4 + a7))) (a5 + a7) (gr m15 a0 5)
  else
    f_X8_lay_j156 t m15 a0 a2 a3 a4 a5 a6 a7 x13 (1 <<< (a2 &&& 31)) (gi m15 (gr m15 a0 5) (ix (a4 + a7))) (a5 + a7) (gr m15 a0 5)
  else none)
  else none)
  else none)
def f_X8_lay_l59 (t : List Sh) (m : Mi) (a0 : Nat) (a2 : Int32) (a3 : Int32) (a4 : Int32) (a5 : Int32) (a6 : Int32) (a7 : Int32) : Option ((Int32 × Mi) ⊕ ((Mi) ⊕ (Int32 × Mi))) :=
  if (gi m a0 1) ≤ a7 then
    some (.inr (.inl m))
  else
    (if ar t (gr m a0 4) .int (a4 + a7) = true then
    if a7 = a2 then
      f_X8_lay_j100 t m a0 a2 a3 a4 a5 a6 a7 (1 <<< (a3 &&& 31)) (gi m (gr m a0 4) (ix (a4 + a7)))
    else
      (if ar t (gr m a0 3) .int (a6 + a7) = true then
      f_X8_lay_j100 t m a0 a2 a3 a4 a5 a6 a7 (gi m (gr m a0 3) (ix (a6 + a7))) (gi m (gr m a0 4) (ix (a4 + a7)))
      else none)
    else none)
def f_X8_lay_j59 (t : List Sh) (m : Mi) (a0 : Nat) (a2 : Int32) (a3 : Int32) (a4 : Int32) (a5 : Int32) (a6 : Int32) (a7 : Int32) : Option (Int32 × Mi) :=
  (lp (fun x : Int32 × Mi => f_X8_lay_l59 t x.2 a0 a2 a3 a4 a5 a6 x.1) FUEL (a7, m)).bind (Sum.elim (fun y : Mi => f_X8_lay_j184 t y) (fun y : Int32 × Mi => f_X8_lay_j163 t (y.2) a0 a2 a5 (y.1)))
def f_X8_lay (t : List Sh) (m : Mi) (a0 : Nat) (a1 : Int32) (a2 : Int32) (a3 : Int32) : Option (Int32 × Mi) :=
  if a1 < 0 then
    some (0, m)
  else
    if 10 ≤ a1 then
      some (0, m)
    else
      if a2 < 0 then
        some (0, m)
      else
        if 10 ≤ a2 then
          some (0, m)
        else
          if a3 < 0 then
            some (0, m)
          else
            if a3 < 7 then
              lt (a1 * 10) fun x7 =>
              lt (x7 + 10) fun x8 =>
              lt (((a2 * 7) + a3) * 10) fun x9 =>
              f_X8_lay_j59 t m a0 a2 a3 x7 x8 x9 0
            else
              some (0, m)
set_option maxRecDepth 4000 in
set_option maxHeartbeats 4000000 in
theorem sm_X8_lay (t : List Sh) (m : Mi) (a0 : Nat) (a1 : Int32) (a2 : Int32) (a3 : Int32) (h0 : sh t a0 = some (.inl 8)) : Sm u_X8_lay (1, 0, 0, t.length, zs t) (kI t) 0 [(0, .inr (.inr a0)), (1, .inl a1), (2, .inl a2), (3, .inl a3)] [] (t, m) (f_X8_lay t m a0 a1 a2 a3) := by
  unfold f_X8_lay
  refine r_iload_n 0 1 1 rfl rfl rfl rfl ?_
  refine r_if_lt 1 30 4 rfl rfl rfl (fun h1 => ?_) (fun h1 => ?_)
  · refine r_iconst 15 31 (v := 0) rfl rfl (by decide) ?_
    exact r_iret 16 rfl rfl rfl
  · refine r_iload_n 2 5 1 rfl rfl rfl rfl ?_
    refine r_bipush 3 7 (v := 10) rfl rfl (by decide) ?_
    refine r_icmp_ge 4 30 10 rfl rfl rfl (fun h2 => ?_) (fun h2 => ?_)
    · refine r_iconst 15 31 (v := 0) rfl rfl (by decide) ?_
      exact r_iret 16 rfl rfl rfl
    · refine r_iload_n 5 11 2 rfl rfl rfl rfl ?_
      refine r_if_lt 6 30 14 rfl rfl rfl (fun h3 => ?_) (fun h3 => ?_)
      · refine r_iconst 15 31 (v := 0) rfl rfl (by decide) ?_
        exact r_iret 16 rfl rfl rfl
      · refine r_iload_n 7 15 2 rfl rfl rfl rfl ?_
        refine r_bipush 8 17 (v := 10) rfl rfl (by decide) ?_
        refine r_icmp_ge 9 30 20 rfl rfl rfl (fun h4 => ?_) (fun h4 => ?_)
        · refine r_iconst 15 31 (v := 0) rfl rfl (by decide) ?_
          exact r_iret 16 rfl rfl rfl
        · refine r_iload_n 10 21 3 rfl rfl rfl rfl ?_
          refine r_if_lt 11 30 24 rfl rfl rfl (fun h5 => ?_) (fun h5 => ?_)
          · refine r_iconst 15 31 (v := 0) rfl rfl (by decide) ?_
            exact r_iret 16 rfl rfl rfl
          · refine r_iload_n 12 25 3 rfl rfl rfl rfl ?_
            refine r_bipush 13 27 (v := 7) rfl rfl (by decide) ?_
            refine r_icmp_lt 14 32 30 rfl rfl rfl (fun h6 => ?_) (fun h6 => ?_)
            · refine r_iload_n 17 33 1 rfl rfl rfl rfl ?_
              refine r_bipush 18 35 (v := 10) rfl rfl (by decide) ?_
              refine r_imul 19 36 rfl rfl ?_
              refine r_ltI (fun x7 => ?_)
              refine r_istore 20 38 (L' := [(4, .inl x7), (0, .inr (.inr a0)), (1, .inl a1), (2, .inl a2), (3, .inl a3)]) rfl rfl (by decide) rfl ?_
              refine r_iload 21 40 0 rfl rfl rfl ?_
              refine r_bipush 22 42 (v := 10) rfl rfl (by decide) ?_
              refine r_iadd 23 43 rfl rfl ?_
              refine r_ltI (fun x8 => ?_)
              refine r_istore 24 45 (L' := [(5, .inl x8), (4, .inl x7), (0, .inr (.inr a0)), (1, .inl a1), (2, .inl a2), (3, .inl a3)]) rfl rfl (by decide) rfl ?_
              refine r_iload_n 25 46 4 rfl rfl rfl rfl ?_
              refine r_bipush 26 48 (v := 7) rfl rfl (by decide) ?_
              refine r_imul 27 49 rfl rfl ?_
              refine r_iload_n 28 50 5 rfl rfl rfl rfl ?_
              refine r_iadd 29 51 rfl rfl ?_
              refine r_bipush 30 53 (v := 10) rfl rfl (by decide) ?_
              refine r_imul 31 54 rfl rfl ?_
              refine r_ltI (fun x9 => ?_)
              refine r_istore 32 56 (L' := [(6, .inl x9), (5, .inl x8), (4, .inl x7), (0, .inr (.inr a0)), (1, .inl a1), (2, .inl a2), (3, .inl a3)]) rfl rfl (by decide) rfl ?_
              refine r_iconst 33 57 (v := 0) rfl rfl (by decide) ?_
              refine r_istore 34 59 (L' := [(7, .inl 0), (6, .inl x9), (5, .inl x8), (4, .inl x7), (0, .inr (.inr a0)), (1, .inl a1), (2, .inl a2), (3, .inl a3)]) rfl rfl (by decide) rfl ?_
              have hj59 : ∀ (m : Mi) (a4 : Int32) (a5 : Int32) (a6 : Int32) (a7 : Int32), Sm u_X8_lay (1, 0, 0, t.length, zs t) (kI t) 59 [(0, .inr (.inr a0)), (2, .inl a2), (3, .inl a3), (4, .inl a4), (5, .inl a5), (6, .inl a6), (7, .inl a7)] [] (t, m) (f_X8_lay_j59 t m a0 a2 a3 a4 a5 a6 a7) := by
                intro m a4 a5 a6 a7
                unfold f_X8_lay_j59
                have hj163 : ∀ (m : Mi) (a5 : Int32) (a7 : Int32), Sm u_X8_lay (1, 0, 0, t.length, zs t) (kI t) 163 [(0, .inr (.inr a0)), (2, .inl a2), (5, .inl a5), (7, .inl a7)] [] (t, m) (f_X8_lay_j163 t m a0 a2 a5 a7) := by
                  intro m a5 a7
                  unfold f_X8_lay_j163
                  refine r_aload_n 95 164 0 rfl rfl rfl rfl ?_
                  refine r_getR 96 167 rfl rfl fl_RX8_31 rfl h0 ?_
                  refine r_iload 97 169 2 rfl rfl rfl ?_
                  refine r_iload 98 171 3 rfl rfl rfl ?_
                  refine r_iadd 99 172 rfl rfl ?_
                  refine r_gd (fun h10 => ?_)
                  refine r_iald 100 173 rfl rfl h10 ?_
                  refine r_iconst 101 174 (v := 1) rfl rfl (by decide) ?_
                  refine r_iload_n 102 175 1 rfl rfl rfl rfl ?_
                  refine r_ishl 103 176 rfl rfl ?_
                  refine r_ior 104 177 rfl rfl ?_
                  exact r_iret 105 rfl rfl rfl
                have hj184 : ∀ (m : Mi), Sm u_X8_lay (1, 0, 0, t.length, zs t) (kI t) 184 [] [] (t, m) (f_X8_lay_j184 t m) := by
                  intro m
                  unfold f_X8_lay_j184
                  refine r_iconst 108 185 (v := 0) rfl rfl (by decide) ?_
                  exact r_iret 109 rfl rfl rfl
                refine r_lp (Lf := fun x : Int32 × Mi => [(0, .inr (.inr a0)), (2, .inl a2), (3, .inl a3), (4, .inl a4), (5, .inl a5), (6, .inl a6), (7, .inl (x.1))]) (Mf := fun x : Int32 × Mi => (t, x.2)) (a7, m) ?_ FUEL
                rintro ⟨a7, m⟩ κ59 hc59 he59
                refine r_eq (L' := [(0, .inr (.inr a0)), (2, .inl a2), (3, .inl a3), (4, .inl a4), (5, .inl a5), (6, .inl a6), (7, .inl a7)]) (M' := (t, m)) rfl rfl ?_
                refine r_eqr (r' := f_X8_lay_l59 t m a0 a2 a3 a4 a5 a6 a7) rfl ?_
                unfold f_X8_lay_l59
                refine r_iload 35 61 6 rfl rfl rfl ?_
                refine r_aload_n 36 62 0 rfl rfl rfl rfl ?_
                refine r_getI 37 65 rfl rfl fl_RX8_17 rfl h0 ?_
                refine r_icmp_ge 38 184 68 rfl rfl rfl (fun h11 => ?_) (fun h11 => ?_)
                · refine r_leaf (r2 := (f_X8_lay_j184 t m : Option (Int32 × Mi))) (he59 _) ?_
                  exact r_sub [] rfl (hj184 m)
                · refine r_aload_n 39 69 0 rfl rfl rfl rfl ?_
                  refine r_getR 40 72 rfl rfl fl_RX8_28 rfl h0 ?_
                  refine r_iload 41 74 3 rfl rfl rfl ?_
                  refine r_iload 42 76 6 rfl rfl rfl ?_
                  refine r_iadd 43 77 rfl rfl ?_
                  refine r_gd (fun h12 => ?_)
                  refine r_iald 44 78 rfl rfl h12 ?_
                  refine r_iload 45 80 6 rfl rfl rfl ?_
                  refine r_iload_n 46 81 1 rfl rfl rfl rfl ?_
                  have hj100 : ∀ (m : Mi) (a7 : Int32) (s0 : Int32) (s1 : Int32), Sm u_X8_lay (1, 0, 0, t.length, zs t) κ59 100 [(0, .inr (.inr a0)), (2, .inl a2), (3, .inl a3), (4, .inl a4), (5, .inl a5), (6, .inl a6), (7, .inl a7)] [.inl s0, .inl s1] (t, m) (f_X8_lay_j100 t m a0 a2 a3 a4 a5 a6 a7 s0 s1) := by
                    intro m a7 s0 s1
                    unfold f_X8_lay_j100
                    refine r_iand 58 101 rfl rfl ?_
                    refine r_ltI (fun x13 => ?_)
                    refine r_istore 59 103 (L' := [(8, .inl x13), (0, .inr (.inr a0)), (2, .inl a2), (3, .inl a3), (4, .inl a4), (5, .inl a5), (6, .inl a6), (7, .inl a7)]) rfl rfl (by decide) rfl ?_
                    refine r_aload_n 60 104 1 rfl rfl rfl rfl ?_
                    refine r_getR 61 107 rfl rfl fl_RX8_28 rfl h0 ?_
                    refine r_iload 62 109 5 rfl rfl rfl ?_
                    refine r_iload 63 111 7 rfl rfl rfl ?_
                    refine r_iadd 64 112 rfl rfl ?_
                    refine r_iload 65 114 0 rfl rfl rfl ?_
                    refine r_gd (fun h14 => ?_)
                    refine r_iast 66 115 rfl rfl h14 ?_
                    refine r_ltM (fun m15 => ?_)
                    refine r_aload_n 67 116 1 rfl rfl rfl rfl ?_
                    refine r_getR 68 119 rfl rfl fl_RX8_31 rfl h0 ?_
                    refine r_iload 69 121 5 rfl rfl rfl ?_
                    refine r_iload 70 123 7 rfl rfl rfl ?_
                    refine r_iadd 71 124 rfl rfl ?_
                    refine r_aload_n 72 125 1 rfl rfl rfl rfl ?_
                    refine r_getR 73 128 rfl rfl fl_RX8_31 rfl h0 ?_
                    refine r_iload 74 130 4 rfl rfl rfl ?_
                    refine r_iload 75 132 7 rfl rfl rfl ?_
                    refine r_iadd 76 133 rfl rfl ?_
                    refine r_gd (fun h16 => ?_)
                    refine r_iald 77 134 rfl rfl h16 ?_
                    refine r_iload 78 136 0 rfl rfl rfl ?_
                    refine r_aload_n 79 137 1 rfl rfl rfl rfl ?_
                    refine r_getR 80 140 rfl rfl fl_RX8_28 rfl h0 ?_
                    refine r_iload 81 142 4 rfl rfl rfl ?_
                    refine r_iload 82 144 7 rfl rfl rfl ?_
                    refine r_iadd 83 145 rfl rfl ?_
                    refine r_gd (fun h17 => ?_)
                    refine r_iald 84 146 rfl rfl h17 ?_
                    have hj156 : ∀ (m : Mi) (a7 : Int32) (a8 : Int32) (s0 : Int32) (s1 : Int32) (s2 : Int32) (s3 : Nat), Sm u_X8_lay (1, 0, 0, t.length, zs t) κ59 156 [(0, .inr (.inr a0)), (2, .inl a2), (3, .inl a3), (4, .inl a4), (5, .inl a5), (6, .inl a6), (7, .inl a7), (8, .inl a8)] [.inl s0, .inl s1, .inl s2, .inr (.inr s3)] (t, m) (f_X8_lay_j156 t m a0 a2 a3 a4 a5 a6 a7 a8 s0 s1 s2 s3) := by
                      intro m a7 a8 s0 s1 s2 s3
                      unfold f_X8_lay_j156
                      refine r_ior 91 157 rfl rfl ?_
                      refine r_gd (fun h18 => ?_)
                      refine r_iast 92 158 rfl rfl h18 ?_
                      refine r_ltM (fun m19 => ?_)
                      refine r_iload 93 160 7 rfl rfl rfl ?_
                      refine r_if_ne 94 178 163 rfl rfl rfl (fun h20 => ?_) (fun h20 => ?_)
                      · refine r_leaf (r2 := (f_X8_lay_j163 t m19 a0 a2 a5 a7 : Option (Int32 × Mi))) (he59 _) ?_
                        exact r_sub [0, 1, 4, 6] rfl (hj163 m19 a5 a7)
                      · refine r_iinc 106 181 6 (L' := [(7, .inl (a7 + 1)), (0, .inr (.inr a0)), (2, .inl a2), (3, .inl a3), (4, .inl a4), (5, .inl a5), (6, .inl a6), (8, .inl a8)]) rfl rfl rfl (by decide) rfl ?_
                        refine r_ltV (fun x21 => ?_)
                        refine r_goto 107 59 rfl rfl ?_
                        exact r_sub [1, 2, 3, 4, 5, 6, 0] rfl (hc59 (x21, m19))
                    refine r_icmp_ne 85 153 149 rfl rfl rfl (fun h22 => ?_) (fun h22 => ?_)
                    · refine r_iconst 86 150 (v := 0) rfl rfl (by decide) ?_
                      refine r_goto 87 156 rfl rfl ?_
                      exact r_sub [1, 2, 3, 4, 5, 6, 7, 0] rfl (hj156 m15 a7 x13 0 (gi m15 (gr m15 a0 5) (ix (a4 + a7))) (a5 + a7) (gr m15 a0 5))
                    · refine r_iconst 88 154 (v := 1) rfl rfl (by decide) ?_
                      refine r_iload_n 89 155 2 rfl rfl rfl rfl ?_
                      refine r_ishl 90 156 rfl rfl ?_
                      exact r_sub [1, 2, 3, 4, 5, 6, 7, 0] rfl (hj156 m15 a7 x13 (1 <<< (a2 &&& 31)) (gi m15 (gr m15 a0 5) (ix (a4 + a7))) (a5 + a7) (gr m15 a0 5))
                  refine r_icmp_ne 47 90 84 rfl rfl rfl (fun h23 => ?_) (fun h23 => ?_)
                  · refine r_iconst 48 85 (v := 1) rfl rfl (by decide) ?_
                    refine r_iload_n 49 86 2 rfl rfl rfl rfl ?_
                    refine r_ishl 50 87 rfl rfl ?_
                    refine r_goto 51 100 rfl rfl ?_
                    exact hj100 m a7 (1 <<< (a3 &&& 31)) (gi m (gr m a0 4) (ix (a4 + a7)))
                  · refine r_aload_n 52 91 0 rfl rfl rfl rfl ?_
                    refine r_getR 53 94 rfl rfl fl_RX8_25 rfl h0 ?_
                    refine r_iload 54 96 5 rfl rfl rfl ?_
                    refine r_iload 55 98 6 rfl rfl rfl ?_
                    refine r_iadd 56 99 rfl rfl ?_
                    refine r_gd (fun h24 => ?_)
                    refine r_iald 57 100 rfl rfl h24 ?_
                    exact hj100 m a7 (gi m (gr m a0 3) (ix (a6 + a7))) (gi m (gr m a0 4) (ix (a4 + a7)))
              exact r_sub [4, 6, 7, 3, 2, 1, 0] rfl (hj59 m x7 x8 x9 0)
            · refine r_iconst 15 31 (v := 0) rfl rfl (by decide) ?_
              exact r_iret 16 rfl rfl rfl
theorem ct_X8_lay {t : List Sh} {m : Mi} {a0 : Nat} {a1 : Int32} {a2 : Int32} {a3 : Int32} {m' : Mi} {v : Int32}  (h0 : sh t a0 = some (.inl 8)) (h : f_X8_lay t m a0 a1 a2 a3 = some (v, m')) : Ct u_X8_lay 1 0 0 [.inr (.inr a0), .inl a1, .inl a2, .inl a3] (t, m) (some (.inl v), (t, m')) :=
  ct_of (by decide) tk_X8_lay (Nat.le_of_ble_eq_true rfl) (sm_X8_lay t m a0 a1 a2 a3 h0) (by rw [h]; rfl) (Nat.le_refl _) (Nat.le_refl _)
def tb_X8_matchValues : Tb := [(0, (.iload_n 1, 1)), (1, (.bipush 7, 2)), (3, (.imul, 1)), (4, (.iload_n 2, 1)), (5, (.iadd, 1)), (6, (.bipush 10, 2)), (8, (.imul, 1)), (9, (.iload_n 3, 1)), (10, (.iadd, 1)), (11, (.istore 5, 2)), (13, (.iload_n 3, 1)), (14, (.bipush 7, 2)), (16, (.imul, 1)), (17, (.iload 4, 2)), (19, (.iadd, 1)), (20, (.bipush 10, 2)), (22, (.imul, 1)), (23, (.iload_n 1, 1)), (24, (.iadd, 1)), (25, (.istore 6, 2)), (27, (.aload_n 0, 1)), (28, (.getfield 21, 3)), (31, (.iload 5, 2)), (33, (.iaload, 1)), (34, (.iload 4, 2)), (36, (.ishr, 1)), (37, (.aload_n 0, 1)), (38, (.getfield 21, 3)), (41, (.iload 6, 2)), (43, (.iaload, 1)), (44, (.iload_n 2, 1)), (45, (.ishr, 1)), (46, (.iand, 1)), (47, (.iconst 1, 1)), (48, (.iand, 1)), (49, (.iconst 1, 1)), (50, (.if_icmp .ne 7, 3)), (53, (.iconst 1, 1)), (54, (.goto 4, 3)), (57, (.iconst 0, 1)), (58, (.istore 7, 2)), (60, (.aload_n 0, 1)), (61, (.getfield 25, 3)), (64, (.iload 5, 2)), (66, (.iload 7, 2)), (68, (.ifCond .eq 18, 3)), (71, (.aload_n 0, 1)), (72, (.getfield 25, 3)), (75, (.iload 5, 2)), (77, (.iaload, 1)), (78, (.iconst 1, 1)), (79, (.iload 4, 2)), (81, (.ishl, 1)), (82, (.ior, 1)), (83, (.goto 17, 3)), (86, (.aload_n 0, 1)), (87, (.getfield 25, 3)), (90, (.iload 5, 2)), (92, (.iaload, 1)), (93, (.iconst 1, 1)), (94, (.iload 4, 2)), (96, (.ishl, 1)), (97, (.iconst (-1), 1)), (98, (.ixor, 1)), (99, (.iand, 1)), (100, (.iastore, 1)), (101, (.aload_n 0, 1)), (102, (.getfield 25, 3)), (105, (.iload 6, 2)), (107, (.iload 7, 2)), (109, (.ifCond .eq 17, 3)), (112, (.aload_n 0, 1)), (113, (.getfield 25, 3)), (116, (.iload 6, 2)), (118, (.iaload, 1)), (119, (.iconst 1, 1)), (120, (.iload_n 2, 1)), (121, (.ishl, 1)), (122, (.ior, 1)), (123, (.goto 16, 3)), (126, (.aload_n 0, 1)), (127, (.getfield 25, 3)), (130, (.iload 6, 2)), (132, (.iaload, 1)), (133, (.iconst 1, 1)), (134, (.iload_n 2, 1)), (135, (.ishl, 1)), (136, (.iconst (-1), 1)), (137, (.ixor, 1)), (138, (.iand, 1)), (139, (.iastore, 1)), (140, (.return_, 1))]
def u_X8_matchValues : Fx := (yX8_matchValues, (cX8_matchValues, (8, (none, tb_X8_matchValues))))
theorem tk_X8_matchValues : ∀ q ∈ u_X8_matchValues.2.2.2.2, decode u_X8_matchValues.2.1 q.1 = .ok q.2 := by decide +kernel
theorem mc_X8_matchValues : MC u_X8_matchValues 4 := ⟨tbm 1145 (by decide +kernel) rfl, tbm 125 (by decide +kernel) rfl, ⟨by decide, by decide, by decide +kernel⟩, by decide⟩
theorem in_X8_matchValues : Cond.instanceMethod u_X8_matchValues.1 ∈ TB ∧ Cond.selects u_X8_matchValues.1.cls u_X8_matchValues.1 u_X8_matchValues.1 ∈ TB := ⟨tbm 1144 (by decide +kernel) rfl, tbm 53 (by decide +kernel) rfl⟩
def f_X8_matchValues_j139 (t : List Sh) (m : Mi) (s0 : Int32) (s1 : Int32) (s2 : Nat) : Option (Mi) :=
  (if ar t s2 .int s1 = true then
  lt (si m s2 (ix s1) s0) fun m8 =>
  some m8
  else none)
def f_X8_matchValues_j100 (t : List Sh) (m : Mi) (a0 : Nat) (a2 : Int32) (a6 : Int32) (a7 : Int32) (s0 : Int32) (s1 : Int32) (s2 : Nat) : Option (Mi) :=
  (if ar t s2 .int s1 = true then
  lt (si m s2 (ix s1) s0) fun m6 =>
  if a7 = 0 then
    (if ar t (gr m6 a0 3) .int a6 = true then
    f_X8_matchValues_j139 t m6 ((gi m6 (gr m6 a0 3) (ix a6)) &&& ((1 <<< (a2 &&& 31)) ^^^ (-1))) a6 (gr m6 a0 3)
    else none)
  else
    (if ar t (gr m6 a0 3) .int a6 = true then
    f_X8_matchValues_j139 t m6 ((gi m6 (gr m6 a0 3) (ix a6)) ||| (1 <<< (a2 &&& 31))) a6 (gr m6 a0 3)
    else none)
  else none)
def f_X8_matchValues_j58 (t : List Sh) (m : Mi) (a0 : Nat) (a2 : Int32) (a4 : Int32) (a5 : Int32) (a6 : Int32) (s0 : Int32) : Option (Mi) :=
  if s0 = 0 then
    (if ar t (gr m a0 3) .int a5 = true then
    f_X8_matchValues_j100 t m a0 a2 a6 s0 ((gi m (gr m a0 3) (ix a5)) &&& ((1 <<< (a4 &&& 31)) ^^^ (-1))) a5 (gr m a0 3)
    else none)
  else
    (if ar t (gr m a0 3) .int a5 = true then
    f_X8_matchValues_j100 t m a0 a2 a6 s0 ((gi m (gr m a0 3) (ix a5)) ||| (1 <<< (a4 &&& 31))) a5 (gr m a0 3)
    else none)
def f_X8_matchValues (t : List Sh) (m : Mi) (a0 : Nat) (a1 : Int32) (a2 : Int32) (a3 : Int32) (a4 : Int32) : Option (Mi) :=
  lt ((((a1 * 7) + a2) * 10) + a3) fun x1 =>
  lt ((((a3 * 7) + a4) * 10) + a1) fun x2 =>
  (if ar t (gr m a0 2) .int x1 = true then
  (if ar t (gr m a0 2) .int x2 = true then
  if ((((gi m (gr m a0 2) (ix x1)) >>> (a4 &&& 31)) &&& ((gi m (gr m a0 2) (ix x2)) >>> (a2 &&& 31))) &&& 1) = 1 then
    f_X8_matchValues_j58 t m a0 a2 a4 x1 x2 1
  else
    f_X8_matchValues_j58 t m a0 a2 a4 x1 x2 0
  else none)
  else none)
set_option maxRecDepth 4000 in
set_option maxHeartbeats 4000000 in
theorem sm_X8_matchValues (t : List Sh) (m : Mi) (a0 : Nat) (a1 : Int32) (a2 : Int32) (a3 : Int32) (a4 : Int32) (h0 : sh t a0 = some (.inl 8)) : Sm u_X8_matchValues (1, 0, 0, t.length, zs t) (kV t) 0 [(0, .inr (.inr a0)), (1, .inl a1), (2, .inl a2), (3, .inl a3), (4, .inl a4)] [] (t, m) (f_X8_matchValues t m a0 a1 a2 a3 a4) := by
  unfold f_X8_matchValues
  refine r_iload_n 0 1 1 rfl rfl rfl rfl ?_
  refine r_bipush 1 3 (v := 7) rfl rfl (by decide) ?_
  refine r_imul 2 4 rfl rfl ?_
  refine r_iload_n 3 5 2 rfl rfl rfl rfl ?_
  refine r_iadd 4 6 rfl rfl ?_
  refine r_bipush 5 8 (v := 10) rfl rfl (by decide) ?_
  refine r_imul 6 9 rfl rfl ?_
  refine r_iload_n 7 10 3 rfl rfl rfl rfl ?_
  refine r_iadd 8 11 rfl rfl ?_
  refine r_ltI (fun x1 => ?_)
  refine r_istore 9 13 (L' := [(5, .inl x1), (0, .inr (.inr a0)), (1, .inl a1), (2, .inl a2), (3, .inl a3), (4, .inl a4)]) rfl rfl (by decide) rfl ?_
  refine r_iload_n 10 14 4 rfl rfl rfl rfl ?_
  refine r_bipush 11 16 (v := 7) rfl rfl (by decide) ?_
  refine r_imul 12 17 rfl rfl ?_
  refine r_iload 13 19 5 rfl rfl rfl ?_
  refine r_iadd 14 20 rfl rfl ?_
  refine r_bipush 15 22 (v := 10) rfl rfl (by decide) ?_
  refine r_imul 16 23 rfl rfl ?_
  refine r_iload_n 17 24 2 rfl rfl rfl rfl ?_
  refine r_iadd 18 25 rfl rfl ?_
  refine r_ltI (fun x2 => ?_)
  refine r_istore 19 27 (L' := [(6, .inl x2), (5, .inl x1), (0, .inr (.inr a0)), (1, .inl a1), (2, .inl a2), (3, .inl a3), (4, .inl a4)]) rfl rfl (by decide) rfl ?_
  refine r_aload_n 20 28 2 rfl rfl rfl rfl ?_
  refine r_getR 21 31 rfl rfl fl_RX8_21 rfl h0 ?_
  refine r_iload 22 33 1 rfl rfl rfl ?_
  refine r_gd (fun h3 => ?_)
  refine r_iald 23 34 rfl rfl h3 ?_
  refine r_iload 24 36 6 rfl rfl rfl ?_
  refine r_ishr 25 37 rfl rfl ?_
  refine r_aload_n 26 38 2 rfl rfl rfl rfl ?_
  refine r_getR 27 41 rfl rfl fl_RX8_21 rfl h0 ?_
  refine r_iload 28 43 0 rfl rfl rfl ?_
  refine r_gd (fun h4 => ?_)
  refine r_iald 29 44 rfl rfl h4 ?_
  refine r_iload_n 30 45 4 rfl rfl rfl rfl ?_
  refine r_ishr 31 46 rfl rfl ?_
  refine r_iand 32 47 rfl rfl ?_
  refine r_iconst 33 48 (v := 1) rfl rfl (by decide) ?_
  refine r_iand 34 49 rfl rfl ?_
  refine r_iconst 35 50 (v := 1) rfl rfl (by decide) ?_
  have hj58 : ∀ (m : Mi) (a5 : Int32) (a6 : Int32) (s0 : Int32), Sm u_X8_matchValues (1, 0, 0, t.length, zs t) (kV t) 58 [(0, .inr (.inr a0)), (2, .inl a2), (4, .inl a4), (5, .inl a5), (6, .inl a6)] [.inl s0] (t, m) (f_X8_matchValues_j58 t m a0 a2 a4 a5 a6 s0) := by
    intro m a5 a6 s0
    unfold f_X8_matchValues_j58
    refine r_istore 40 60 (L' := [(7, .inl s0), (0, .inr (.inr a0)), (2, .inl a2), (4, .inl a4), (5, .inl a5), (6, .inl a6)]) rfl rfl (by decide) rfl ?_
    refine r_aload_n 41 61 1 rfl rfl rfl rfl ?_
    refine r_getR 42 64 rfl rfl fl_RX8_25 rfl h0 ?_
    refine r_iload 43 66 4 rfl rfl rfl ?_
    refine r_iload 44 68 0 rfl rfl rfl ?_
    have hj100 : ∀ (m : Mi) (a6 : Int32) (a7 : Int32) (s0 : Int32) (s1 : Int32) (s2 : Nat), Sm u_X8_matchValues (1, 0, 0, t.length, zs t) (kV t) 100 [(0, .inr (.inr a0)), (2, .inl a2), (6, .inl a6), (7, .inl a7)] [.inl s0, .inl s1, .inr (.inr s2)] (t, m) (f_X8_matchValues_j100 t m a0 a2 a6 a7 s0 s1 s2) := by
      intro m a6 a7 s0 s1 s2
      unfold f_X8_matchValues_j100
      refine r_gd (fun h5 => ?_)
      refine r_iast 65 101 rfl rfl h5 ?_
      refine r_ltM (fun m6 => ?_)
      refine r_aload_n 66 102 0 rfl rfl rfl rfl ?_
      refine r_getR 67 105 rfl rfl fl_RX8_25 rfl h0 ?_
      refine r_iload 68 107 2 rfl rfl rfl ?_
      refine r_iload 69 109 3 rfl rfl rfl ?_
      have hj139 : ∀ (m : Mi) (s0 : Int32) (s1 : Int32) (s2 : Nat), Sm u_X8_matchValues (1, 0, 0, t.length, zs t) (kV t) 139 [] [.inl s0, .inl s1, .inr (.inr s2)] (t, m) (f_X8_matchValues_j139 t m s0 s1 s2) := by
        intro m s0 s1 s2
        unfold f_X8_matchValues_j139
        refine r_gd (fun h7 => ?_)
        refine r_iast 90 140 rfl rfl h7 ?_
        refine r_ltM (fun m8 => ?_)
        exact r_vret 91 rfl rfl rfl
      refine r_if_eq 70 126 112 rfl rfl rfl (fun h9 => ?_) (fun h9 => ?_)
      · refine r_aload_n 80 127 0 rfl rfl rfl rfl ?_
        refine r_getR 81 130 rfl rfl fl_RX8_25 rfl h0 ?_
        refine r_iload 82 132 2 rfl rfl rfl ?_
        refine r_gd (fun h10 => ?_)
        refine r_iald 83 133 rfl rfl h10 ?_
        refine r_iconst 84 134 (v := 1) rfl rfl (by decide) ?_
        refine r_iload_n 85 135 1 rfl rfl rfl rfl ?_
        refine r_ishl 86 136 rfl rfl ?_
        refine r_iconst 87 137 (v := (-1)) rfl rfl (by decide) ?_
        refine r_ixor 88 138 rfl rfl ?_
        refine r_iand 89 139 rfl rfl ?_
        exact r_sub [] rfl (hj139 m6 ((gi m6 (gr m6 a0 3) (ix a6)) &&& ((1 <<< (a2 &&& 31)) ^^^ (-1))) a6 (gr m6 a0 3))
      · refine r_aload_n 71 113 0 rfl rfl rfl rfl ?_
        refine r_getR 72 116 rfl rfl fl_RX8_25 rfl h0 ?_
        refine r_iload 73 118 2 rfl rfl rfl ?_
        refine r_gd (fun h11 => ?_)
        refine r_iald 74 119 rfl rfl h11 ?_
        refine r_iconst 75 120 (v := 1) rfl rfl (by decide) ?_
        refine r_iload_n 76 121 1 rfl rfl rfl rfl ?_
        refine r_ishl 77 122 rfl rfl ?_
        refine r_ior 78 123 rfl rfl ?_
        refine r_goto 79 139 rfl rfl ?_
        exact r_sub [] rfl (hj139 m6 ((gi m6 (gr m6 a0 3) (ix a6)) ||| (1 <<< (a2 &&& 31))) a6 (gr m6 a0 3))
    refine r_if_eq 45 86 71 rfl rfl rfl (fun h12 => ?_) (fun h12 => ?_)
    · refine r_aload_n 55 87 1 rfl rfl rfl rfl ?_
      refine r_getR 56 90 rfl rfl fl_RX8_25 rfl h0 ?_
      refine r_iload 57 92 4 rfl rfl rfl ?_
      refine r_gd (fun h13 => ?_)
      refine r_iald 58 93 rfl rfl h13 ?_
      refine r_iconst 59 94 (v := 1) rfl rfl (by decide) ?_
      refine r_iload 60 96 3 rfl rfl rfl ?_
      refine r_ishl 61 97 rfl rfl ?_
      refine r_iconst 62 98 (v := (-1)) rfl rfl (by decide) ?_
      refine r_ixor 63 99 rfl rfl ?_
      refine r_iand 64 100 rfl rfl ?_
      exact r_sub [1, 2, 5, 0] rfl (hj100 m a6 s0 ((gi m (gr m a0 3) (ix a5)) &&& ((1 <<< (a4 &&& 31)) ^^^ (-1))) a5 (gr m a0 3))
    · refine r_aload_n 46 72 1 rfl rfl rfl rfl ?_
      refine r_getR 47 75 rfl rfl fl_RX8_25 rfl h0 ?_
      refine r_iload 48 77 4 rfl rfl rfl ?_
      refine r_gd (fun h14 => ?_)
      refine r_iald 49 78 rfl rfl h14 ?_
      refine r_iconst 50 79 (v := 1) rfl rfl (by decide) ?_
      refine r_iload 51 81 3 rfl rfl rfl ?_
      refine r_ishl 52 82 rfl rfl ?_
      refine r_ior 53 83 rfl rfl ?_
      refine r_goto 54 100 rfl rfl ?_
      exact r_sub [1, 2, 5, 0] rfl (hj100 m a6 s0 ((gi m (gr m a0 3) (ix a5)) ||| (1 <<< (a4 &&& 31))) a5 (gr m a0 3))
  refine r_icmp_ne 36 57 53 rfl rfl rfl (fun h15 => ?_) (fun h15 => ?_)
  · refine r_iconst 37 54 (v := 1) rfl rfl (by decide) ?_
    refine r_goto 38 58 rfl rfl ?_
    exact r_sub [2, 4, 6, 1, 0] rfl (hj58 m x1 x2 1)
  · refine r_iconst 39 58 (v := 0) rfl rfl (by decide) ?_
    exact r_sub [2, 4, 6, 1, 0] rfl (hj58 m x1 x2 0)
theorem ct_X8_matchValues {t : List Sh} {m : Mi} {a0 : Nat} {a1 : Int32} {a2 : Int32} {a3 : Int32} {a4 : Int32} {m' : Mi}  (h0 : sh t a0 = some (.inl 8)) (h : f_X8_matchValues t m a0 a1 a2 a3 a4 = some m') : Ct u_X8_matchValues 1 0 0 [.inr (.inr a0), .inl a1, .inl a2, .inl a3, .inl a4] (t, m) (none, (t, m')) :=
  ct_of (by decide) tk_X8_matchValues (Nat.le_of_ble_eq_true rfl) (sm_X8_matchValues t m a0 a1 a2 a3 a4 h0) (by rw [h]; rfl) (Nat.le_refl _) (Nat.le_refl _)
theorem lk_RX8_94 : Cond.methodLink RX8 94 yX6_packAt ∈ TB := tbm 1137 (by decide +kernel) rfl
theorem lk_RX8_128 : Cond.methodLink RX8 128 yX1_isSolved ∈ TB := tbm 1188 (by decide +kernel) rfl
theorem lk_RX8_131 : Cond.methodLink RX8 131 yX1_releaseOf ∈ TB := tbm 1192 (by decide +kernel) rfl
theorem fl_RX8_98 : FL RX8 98 2 3 false := ⟨RX2, TX2, 5, rfl, inW2, tyX2_ok, nmX2, by decide, rfl, rfl, rfl, tbm 288 (by decide +kernel) rfl⟩
def tb_X8_lockedValue : Tb := [(0, (.aload_n 0, 1)), (1, (.getfield 13, 3)), (4, (.iload_n 2, 1)), (5, (.invokevirtual 94, 3)), (8, (.astore_n 3, 1)), (9, (.aload_n 3, 1)), (10, (.ifnull 10, 3)), (13, (.aload_n 1, 1)), (14, (.invokevirtual 128, 3)), (17, (.ifCond .ne 5, 3)), (20, (.iconst (-1), 1)), (21, (.ireturn, 1)), (22, (.aload_n 1, 1)), (23, (.iload_n 2, 1)), (24, (.invokevirtual 131, 3)), (27, (.istore 4, 2)), (29, (.iload 4, 2)), (31, (.iconst (-1), 1)), (32, (.if_icmp .ne 8, 3)), (35, (.bipush 6, 2)), (37, (.goto 10, 3)), (40, (.iload 4, 2)), (42, (.aload_n 3, 1)), (43, (.getfield 98, 3)), (46, (.isub, 1)), (47, (.ireturn, 1))]
def u_X8_lockedValue : Fx := (yX8_lockedValue, (cX8_lockedValue, (5, ((some .int), tb_X8_lockedValue))))
theorem tk_X8_lockedValue : ∀ q ∈ u_X8_lockedValue.2.2.2.2, decode u_X8_lockedValue.2.1 q.1 = .ok q.2 := by decide +kernel
theorem mc_X8_lockedValue : MC u_X8_lockedValue 2 := ⟨tbm 1187 (by decide +kernel) rfl, tbm 125 (by decide +kernel) rfl, ⟨by decide, by decide, by decide +kernel⟩, by decide⟩
theorem in_X8_lockedValue : Cond.instanceMethod u_X8_lockedValue.1 ∈ TB ∧ Cond.selects u_X8_lockedValue.1.cls u_X8_lockedValue.1 u_X8_lockedValue.1 ∈ TB := ⟨tbm 1186 (by decide +kernel) rfl, tbm 58 (by decide +kernel) rfl⟩
def f_X8_lockedValue (t : List Sh) (m : Mi) (a0 : Nat) (a1 : Nat) (a2 : Int32) : Option (Int32) :=
  (if ob t (gr m a0 0) 6 = true then
  (f_X6_packAt t m (gr m a0 0) a2).bind fun x2 =>
  if x2 = 0 then
    some (-1)
  else
    (if ob t a1 1 = true then
    (f_X1_isSolved t m a1).bind fun x5 =>
    if x5 = 0 then
      some (-1)
    else
      (f_X1_releaseOf t m a1 a2).bind fun x7 =>
      if x7 = (-1) then
        some 6
      else
        (if ob t x2 2 = true then
        some (x7 - (gi m x2 3))
        else none)
    else none)
  else none)
set_option maxRecDepth 4000 in
set_option maxHeartbeats 4000000 in
theorem sm_X8_lockedValue (t : List Sh) (m : Mi) (a0 : Nat) (a1 : Nat) (a2 : Int32) (h0 : sh t a0 = some (.inl 8)) : Sm u_X8_lockedValue (2, 0, 0, t.length, zs t) (kIo t m) 0 [(0, .inr (.inr a0)), (1, .inr (.inr a1)), (2, .inl a2)] [] (t, m) (f_X8_lockedValue t m a0 a1 a2) := by
  unfold f_X8_lockedValue
  refine r_aload_n 0 1 0 rfl rfl rfl rfl ?_
  refine r_getR 1 4 rfl rfl fl_RX8_13 rfl h0 ?_
  refine r_iload_n 2 5 2 rfl rfl rfl rfl ?_
  refine r_gd (fun h1 => ?_)
  refine r_VRo 3 8 (st := []) (av := [.inr (.inr (gr m a0 0)), .inl a2]) (av' := [.inl a2]) (μ' := u_X6_packAt) (d := 1) rfl rfl mc_X6_packAt in_X6_packAt lk_RX8_94 (Nat.le_of_ble_eq_true rfl) rfl rfl (ob_sh h1) rfl (Nat.le_of_ble_eq_true rfl) (fun _ h => ct_X6_packAt (ob_sh h1) h) (fun x2 => ?_)
  refine r_astore_n 4 9 (L' := [(3, .inr (.inr x2)), (0, .inr (.inr a0)), (1, .inr (.inr a1)), (2, .inl a2)]) rfl rfl rfl (by decide) rfl ?_
  refine r_aload_n 5 10 0 rfl rfl rfl rfl ?_
  refine r_ifnull 6 20 13 rfl rfl rfl (fun h3 => ?_) (fun h3 => ?_)
  · refine r_iconst 10 21 (v := (-1)) rfl rfl (by decide) ?_
    exact r_iret 11 rfl rfl rfl
  · refine r_aload_n 7 14 2 rfl rfl rfl rfl ?_
    refine r_gd (fun h4 => ?_)
    refine r_VIo 8 17 (st := []) (av := [.inr (.inr a1)]) (av' := []) (μ' := u_X1_isSolved) (d := 1) rfl rfl mc_X1_isSolved in_X1_isSolved lk_RX8_128 (Nat.le_of_ble_eq_true rfl) rfl rfl (ob_sh h4) rfl (Nat.le_of_ble_eq_true rfl) (fun _ h => ct_X1_isSolved (ob_sh h4) h) (fun x5 => ?_)
    refine r_if_ne 9 22 20 rfl rfl rfl (fun h6 => ?_) (fun h6 => ?_)
    · refine r_iconst 10 21 (v := (-1)) rfl rfl (by decide) ?_
      exact r_iret 11 rfl rfl rfl
    · refine r_aload_n 12 23 2 rfl rfl rfl rfl ?_
      refine r_iload_n 13 24 3 rfl rfl rfl rfl ?_
      refine r_VIo 14 27 (st := []) (av := [.inr (.inr a1), .inl a2]) (av' := [.inl a2]) (μ' := u_X1_releaseOf) (d := 1) rfl rfl mc_X1_releaseOf in_X1_releaseOf lk_RX8_131 (Nat.le_of_ble_eq_true rfl) rfl rfl (ob_sh h4) rfl (Nat.le_of_ble_eq_true rfl) (fun _ h => ct_X1_releaseOf (ob_sh h4) h) (fun x7 => ?_)
      refine r_istore 15 29 (L' := [(4, .inl x7), (3, .inr (.inr x2)), (0, .inr (.inr a0)), (1, .inr (.inr a1)), (2, .inl a2)]) rfl rfl (by decide) rfl ?_
      refine r_iload 16 31 0 rfl rfl rfl ?_
      refine r_iconst 17 32 (v := (-1)) rfl rfl (by decide) ?_
      refine r_icmp_ne 18 40 35 rfl rfl rfl (fun h8 => ?_) (fun h8 => ?_)
      · refine r_bipush 19 37 (v := 6) rfl rfl (by decide) ?_
        refine r_goto 20 47 rfl rfl ?_
        exact r_iret 25 rfl rfl rfl
      · refine r_iload 21 42 0 rfl rfl rfl ?_
        refine r_aload_n 22 43 1 rfl rfl rfl rfl ?_
        refine r_gd (fun h9 => ?_)
        refine r_getI 23 46 rfl rfl fl_RX8_98 rfl (ob_sh h9) ?_
        refine r_isub 24 47 rfl rfl ?_
        exact r_iret 25 rfl rfl rfl
theorem ct_X8_lockedValue {t : List Sh} {m : Mi} {a0 : Nat} {a1 : Nat} {a2 : Int32} {v : Int32}  (h0 : sh t a0 = some (.inl 8)) (h : f_X8_lockedValue t m a0 a1 a2 = some v) : Ct u_X8_lockedValue 2 0 0 [.inr (.inr a0), .inr (.inr a1), .inl a2] (t, m) (some (.inl v), (t, m)) :=
  ct_of (by decide) tk_X8_lockedValue (Nat.le_of_ble_eq_true rfl) (sm_X8_lockedValue t m a0 a1 a2 h0) (by rw [h]; rfl) (Nat.le_refl _) (Nat.le_refl _)
theorem fl_RX8_139 : FL RX8 139 2 4 false := ⟨RX2, TX2, 5, rfl, inW2, tyX2_ok, nmX2, by decide, rfl, rfl, rfl, tbm 291 (by decide +kernel) rfl⟩
theorem lk_RX8_192 : Cond.methodLink RX8 192 yX6_links ∈ TB := tbm 1150 (by decide +kernel) rfl
theorem lk_RX8_107 : Cond.methodLink RX8 107 yX6_constraints ∈ TB := tbm 1154 (by decide +kernel) rfl
theorem lk_RX8_161 : Cond.methodLink RX8 161 yX6_constraintAt ∈ TB := tbm 1136 (by decide +kernel) rfl
theorem fl_RX8_172 : FL RX8 172 0 4 false := ⟨RX0, TX0, 8, rfl, inW0, tyX0_ok, nmX0, by decide, rfl, rfl, rfl, tbm 369 (by decide +kernel) rfl⟩
theorem lk_RX8_181 : Cond.methodLink RX8 181 yX8_isActive ∈ TB := tbm 1138 (by decide +kernel) rfl
theorem fl_RX8_185 : FL RX8 185 0 7 false := ⟨RX0, TX0, 8, rfl, inW0, tyX0_ok, nmX0, by decide, rfl, rfl, rfl, tbm 379 (by decide +kernel) rfl⟩
def tb_X8_openPack : Tb := [(0, (.aload_n 0, 1)), (1, (.getfield 13, 3)), (4, (.iload_n 1, 1)), (5, (.invokevirtual 94, 3)), (8, (.astore_n 2, 1)), (9, (.aload_n 2, 1)), (10, (.ifnull 13, 3)), (13, (.iload_n 1, 1)), (14, (.ifCond .lt 9, 3)), (17, (.iload_n 1, 1)), (18, (.bipush 10, 2)), (20, (.if_icmp .lt 4, 3)), (23, (.return_, 1)), (24, (.iconst 1, 1)), (25, (.aload_n 2, 1)), (26, (.getfield 139, 3)), (29, (.ishl, 1)), (30, (.iconst 1, 1)), (31, (.isub, 1)), (32, (.bipush 64, 2)), (34, (.ior, 1)), (35, (.istore_n 3, 1)), (36, (.aload_n 0, 1)), (37, (.getfield 13, 3)), (40, (.invokevirtual 192, 3)), (43, (.istore 4, 2)), (45, (.iload 4, 2)), (47, (.aload_n 0, 1)), (48, (.getfield 13, 3)), (51, (.invokevirtual 107, 3)), (54, (.if_icmp .ge 51, 3)), (57, (.aload_n 0, 1)), (58, (.getfield 13, 3)), (61, (.iload 4, 2)), (63, (.invokevirtual 161, 3)), (66, (.astore 5, 2)), (68, (.aload 5, 2)), (70, (.ifnull 29, 3)), (73, (.aload 5, 2)), (75, (.getfield 172, 3)), (78, (.iload_n 1, 1)), (79, (.if_icmp .ne 20, 3)), (82, (.aload_n 0, 1)), (83, (.iload 4, 2)), (85, (.invokevirtual 181, 3)), (88, (.ifCond .eq 11, 3)), (91, (.iload_n 3, 1)), (92, (.aload 5, 2)), (94, (.getfield 185, 3)), (97, (.iand, 1)), (98, (.istore_n 3, 1)), (99, (.iinc 4 1, 3)), (102, (.goto (-57), 3)), (105, (.iconst 0, 1)), (106, (.istore 4, 2)), (108, (.iload 4, 2)), (110, (.aload_n 2, 1)), (111, (.getfield 139, 3)), (114, (.if_icmp .ge 50, 3)), (117, (.iload 4, 2)), (119, (.bipush 6, 2)), (121, (.if_icmp .ge 43, 3)), (124, (.aload_n 0, 1)), (125, (.getfield 21, 3)), (128, (.iload_n 1, 1)), (129, (.bipush 7, 2)), (131, (.imul, 1)), (132, (.iload 4, 2)), (134, (.iadd, 1)), (135, (.bipush 10, 2)), (137, (.imul, 1)), (138, (.iload_n 1, 1)), (139, (.iadd, 1)), (140, (.iaload, 1)), (141, (.iload 4, 2)), (143, (.ishr, 1)), (144, (.iconst 1, 1)), (145, (.iand, 1)), (146, (.ifCond .ne 12, 3)), (149, (.iload_n 3, 1)), (150, (.iconst 1, 1)), (151, (.iload 4, 2)), (153, (.ishl, 1)), (154, (.iconst (-1), 1)), (155, (.ixor, 1)), (156, (.iand, 1)), (157, (.istore_n 3, 1)), (158, (.iinc 4 1, 3)), (161, (.goto (-53), 3)), (164, (.aload_n 0, 1)), (165, (.getfield 28, 3)), (168, (.iload_n 1, 1)), (169, (.iload_n 3, 1)), (170, (.iastore, 1)), (171, (.return_, 1))]
def u_X8_openPack : Fx := (yX8_openPack, (cX8_openPack, (6, (none, tb_X8_openPack))))
theorem tk_X8_openPack : ∀ q ∈ u_X8_openPack.2.2.2.2, decode u_X8_openPack.2.1 q.1 = .ok q.2 := by decide +kernel
theorem mc_X8_openPack : MC u_X8_openPack 1 := ⟨tbm 1149 (by decide +kernel) rfl, tbm 125 (by decide +kernel) rfl, ⟨by decide, by decide, by decide +kernel⟩, by decide⟩
theorem in_X8_openPack : Cond.instanceMethod u_X8_openPack.1 ∈ TB ∧ Cond.selects u_X8_openPack.1.cls u_X8_openPack.1 u_X8_openPack.1 ∈ TB := ⟨tbm 1148 (by decide +kernel) rfl, tbm 54 (by decide +kernel) rfl⟩
def f_X8_openPack_j164 (t : List Sh) (m : Mi) (a0 : Nat) (a1 : Int32) (a3 : Int32) : Option (Mi) :=
  (if ar t (gr m a0 4) .int a1 = true then
  lt (si m (gr m a0 4) (ix a1) a3) fun m10 =>
  some m10
  else none)
def f_X8_openPack_l108 (t : List Sh) (m : Mi) (a0 : Nat) (a1 : Int32) (a2 : Nat) (a3 : Int32) (a4 : Int32) : Option ((Int32 × Int32) ⊕ ((Int32))) :=
  (if ob t a2 2 = true then
  if (gi m a2 4) ≤ a4 then
    some (.inr a3)
  else
    if 6 ≤ a4 then
      some (.inr a3)
    else
      (if ar t (gr m a0 2) .int ((((a1 * 7) + a4) * 10) + a1) = true then
      if (((gi m (gr m a0 2) (ix ((((a1 * 7) + a4) * 10) + a1))) >>> (a4 &&& 31)) &&& 1) = 0 then
        lt (a3 &&& ((1 <<< (a4 &&& 31)) ^^^ (-1))) fun x16 =>
        lt (a4 + 1) fun x17 =>
        some (.inl (x16, x17))
      else
        lt (a4 + 1) fun x18 =>
        some (.inl (a3, x18))
      else none)
  else none)
def f_X8_openPack_j108 (t : List Sh) (m : Mi) (a0 : Nat) (a1 : Int32) (a2 : Nat) (a3 : Int32) (a4 : Int32) : Option (Mi) :=
  (lp (fun x : Int32 × Int32 => f_X8_openPack_l108 t m a0 a1 a2 x.1 x.2) FUEL (a3, a4)).bind (fun y : Int32 => f_X8_openPack_j164 t m a0 a1 y)
def f_X8_openPack_j105 (t : List Sh) (m : Mi) (a0 : Nat) (a1 : Int32) (a2 : Nat) (a3 : Int32) : Option (Mi) :=
  f_X8_openPack_j108 t m a0 a1 a2 a3 0
def f_X8_openPack_l45 (t : List Sh) (m : Mi) (a0 : Nat) (a1 : Int32) (a2 : Nat) (a3 : Int32) (a4 : Int32) : Option ((Int32 × Int32) ⊕ ((Int32))) :=
  (if ob t (gr m a0 0) 6 = true then
  (f_X6_constraints t m (gr m a0 0)).bind fun x20 =>
  if x20 ≤ a4 then
    some (.inr a3)
  else
    (f_X6_constraintAt t m (gr m a0 0) a4).bind fun x22 =>
    if x22 = 0 then
      lt (a4 + 1) fun x24 =>
      some (.inl (a3, x24))
    else
      (if ob t x22 0 = true then
      if (gi m x22 4) = a1 then
        (f_X8_isActive t m a0 a4).bind fun x27 =>
        if x27 = 0 then
          lt (a4 + 1) fun x29 =>
          some (.inl (a3, x29))
        else
          lt (a3 &&& (gi m x22 7)) fun x30 =>
          lt (a4 + 1) fun x31 =>
          some (.inl (x30, x31))
      else
        lt (a4 + 1) fun x32 =>
        some (.inl (a3, x32))
      else none)
  else none)
def f_X8_openPack_j45 (t : List Sh) (m : Mi) (a0 : Nat) (a1 : Int32) (a2 : Nat) (a3 : Int32) (a4 : Int32) : Option (Mi) :=
  (lp (fun x : Int32 × Int32 => f_X8_openPack_l45 t m a0 a1 a2 x.1 x.2) FUEL (a3, a4)).bind (fun y : Int32 => f_X8_openPack_j105 t m a0 a1 a2 y)
def f_X8_openPack (t : List Sh) (m : Mi) (a0 : Nat) (a1 : Int32) : Option (Mi) :=
  (if ob t (gr m a0 0) 6 = true then
  (f_X6_packAt t m (gr m a0 0) a1).bind fun x2 =>
  if x2 = 0 then
    some m
  else
    if a1 < 0 then
      some m
    else
      if a1 < 10 then
        (if ob t x2 2 = true then
        lt (((1 <<< ((gi m x2 4) &&& 31)) - 1) ||| 64) fun x7 =>
        (f_X6_links t m (gr m a0 0)).bind fun x8 =>
        f_X8_openPack_j45 t m a0 a1 x2 x7 x8
        else none)
      else
        some m
  else none)
set_option maxRecDepth 4000 in
set_option maxHeartbeats 4000000 in
theorem sm_X8_openPack (t : List Sh) (m : Mi) (a0 : Nat) (a1 : Int32) (h0 : sh t a0 = some (.inl 8)) : Sm u_X8_openPack (2, 0, 0, t.length, zs t) (kV t) 0 [(0, .inr (.inr a0)), (1, .inl a1)] [] (t, m) (f_X8_openPack t m a0 a1) := by
  unfold f_X8_openPack
  refine r_aload_n 0 1 0 rfl rfl rfl rfl ?_
  refine r_getR 1 4 rfl rfl fl_RX8_13 rfl h0 ?_
  refine r_iload_n 2 5 1 rfl rfl rfl rfl ?_
  refine r_gd (fun h1 => ?_)
  refine r_VRo 3 8 (st := []) (av := [.inr (.inr (gr m a0 0)), .inl a1]) (av' := [.inl a1]) (μ' := u_X6_packAt) (d := 1) rfl rfl mc_X6_packAt in_X6_packAt lk_RX8_94 (Nat.le_of_ble_eq_true rfl) rfl rfl (ob_sh h1) rfl (Nat.le_of_ble_eq_true rfl) (fun _ h => ct_X6_packAt (ob_sh h1) h) (fun x2 => ?_)
  refine r_astore_n 4 9 (L' := [(2, .inr (.inr x2)), (0, .inr (.inr a0)), (1, .inl a1)]) rfl rfl rfl (by decide) rfl ?_
  refine r_aload_n 5 10 0 rfl rfl rfl rfl ?_
  refine r_ifnull 6 23 13 rfl rfl rfl (fun h3 => ?_) (fun h3 => ?_)
  · exact r_vret 12 rfl rfl rfl
  · refine r_iload_n 7 14 2 rfl rfl rfl rfl ?_
    refine r_if_lt 8 23 17 rfl rfl rfl (fun h4 => ?_) (fun h4 => ?_)
    · exact r_vret 12 rfl rfl rfl
    · refine r_iload_n 9 18 2 rfl rfl rfl rfl ?_
      refine r_bipush 10 20 (v := 10) rfl rfl (by decide) ?_
      refine r_icmp_lt 11 24 23 rfl rfl rfl (fun h5 => ?_) (fun h5 => ?_)
      · refine r_iconst 13 25 (v := 1) rfl rfl (by decide) ?_
        refine r_aload_n 14 26 0 rfl rfl rfl rfl ?_
        refine r_gd (fun h6 => ?_)
        refine r_getI 15 29 rfl rfl fl_RX8_139 rfl (ob_sh h6) ?_
        refine r_ishl 16 30 rfl rfl ?_
        refine r_iconst 17 31 (v := 1) rfl rfl (by decide) ?_
        refine r_isub 18 32 rfl rfl ?_
        refine r_bipush 19 34 (v := 64) rfl rfl (by decide) ?_
        refine r_ior 20 35 rfl rfl ?_
        refine r_ltI (fun x7 => ?_)
        refine r_istore_n 21 36 (L' := [(3, .inl x7), (2, .inr (.inr x2)), (0, .inr (.inr a0)), (1, .inl a1)]) rfl rfl rfl (by decide) rfl ?_
        refine r_aload_n 22 37 2 rfl rfl rfl rfl ?_
        refine r_getR 23 40 rfl rfl fl_RX8_13 rfl h0 ?_
        refine r_VIo 24 43 (st := []) (av := [.inr (.inr (gr m a0 0))]) (av' := []) (μ' := u_X6_links) (d := 1) rfl rfl mc_X6_links in_X6_links lk_RX8_192 (Nat.le_of_ble_eq_true rfl) rfl rfl (ob_sh h1) rfl (Nat.le_of_ble_eq_true rfl) (fun _ h => ct_X6_links (ob_sh h1) h) (fun x8 => ?_)
        refine r_istore 25 45 (L' := [(4, .inl x8), (3, .inl x7), (2, .inr (.inr x2)), (0, .inr (.inr a0)), (1, .inl a1)]) rfl rfl (by decide) rfl ?_
        have hj45 : ∀ (m : Mi) (a2 : Nat) (a3 : Int32) (a4 : Int32), Sm u_X8_openPack (2, 0, 0, t.length, zs t) (kV t) 45 [(0, .inr (.inr a0)), (1, .inl a1), (2, .inr (.inr a2)), (3, .inl a3), (4, .inl a4)] [] (t, m) (f_X8_openPack_j45 t m a0 a1 a2 a3 a4) := by
          intro m a2 a3 a4
          unfold f_X8_openPack_j45
          have hj105 : ∀ (m : Mi) (a2 : Nat) (a3 : Int32), Sm u_X8_openPack (2, 0, 0, t.length, zs t) (kV t) 105 [(0, .inr (.inr a0)), (1, .inl a1), (2, .inr (.inr a2)), (3, .inl a3)] [] (t, m) (f_X8_openPack_j105 t m a0 a1 a2 a3) := by
            intro m a2 a3
            unfold f_X8_openPack_j105
            refine r_iconst 53 106 (v := 0) rfl rfl (by decide) ?_
            refine r_istore 54 108 (L' := [(4, .inl 0), (0, .inr (.inr a0)), (1, .inl a1), (2, .inr (.inr a2)), (3, .inl a3)]) rfl rfl (by decide) rfl ?_
            have hj108 : ∀ (m : Mi) (a2 : Nat) (a3 : Int32) (a4 : Int32), Sm u_X8_openPack (2, 0, 0, t.length, zs t) (kV t) 108 [(0, .inr (.inr a0)), (1, .inl a1), (2, .inr (.inr a2)), (3, .inl a3), (4, .inl a4)] [] (t, m) (f_X8_openPack_j108 t m a0 a1 a2 a3 a4) := by
              intro m a2 a3 a4
              unfold f_X8_openPack_j108
              have hj164 : ∀ (m : Mi) (a3 : Int32), Sm u_X8_openPack (2, 0, 0, t.length, zs t) (kV t) 164 [(0, .inr (.inr a0)), (1, .inl a1), (3, .inl a3)] [] (t, m) (f_X8_openPack_j164 t m a0 a1 a3) := by
                intro m a3
                unfold f_X8_openPack_j164
                refine r_aload_n 89 165 0 rfl rfl rfl rfl ?_
                refine r_getR 90 168 rfl rfl fl_RX8_28 rfl h0 ?_
                refine r_iload_n 91 169 1 rfl rfl rfl rfl ?_
                refine r_iload_n 92 170 2 rfl rfl rfl rfl ?_
                refine r_gd (fun h9 => ?_)
                refine r_iast 93 171 rfl rfl h9 ?_
                refine r_ltM (fun m10 => ?_)
                exact r_vret 94 rfl rfl rfl
              refine r_lp (Lf := fun x : Int32 × Int32 => [(0, .inr (.inr a0)), (1, .inl a1), (2, .inr (.inr a2)), (3, .inl (x.1)), (4, .inl (x.2))]) (Mf := fun x : Int32 × Int32 => (t, m)) (a3, a4) ?_ FUEL
              rintro ⟨a3, a4⟩ κ108 hc108 he108
              refine r_eq (L' := [(0, .inr (.inr a0)), (1, .inl a1), (2, .inr (.inr a2)), (3, .inl a3), (4, .inl a4)]) (M' := (t, m)) rfl rfl ?_
              refine r_eqr (r' := f_X8_openPack_l108 t m a0 a1 a2 a3 a4) rfl ?_
              unfold f_X8_openPack_l108
              refine r_iload 55 110 4 rfl rfl rfl ?_
              refine r_aload_n 56 111 2 rfl rfl rfl rfl ?_
              refine r_gd (fun h11 => ?_)
              refine r_getI 57 114 rfl rfl fl_RX8_139 rfl (ob_sh h11) ?_
              refine r_icmp_ge 58 164 117 rfl rfl rfl (fun h12 => ?_) (fun h12 => ?_)
              · refine r_leaf (r2 := (f_X8_openPack_j164 t m a0 a1 a3 : Option (Mi))) (he108 _) ?_
                exact r_sub [0, 1, 3] rfl (hj164 m a3)
              · refine r_iload 59 119 4 rfl rfl rfl ?_
                refine r_bipush 60 121 (v := 6) rfl rfl (by decide) ?_
                refine r_icmp_ge 61 164 124 rfl rfl rfl (fun h13 => ?_) (fun h13 => ?_)
                · refine r_leaf (r2 := (f_X8_openPack_j164 t m a0 a1 a3 : Option (Mi))) (he108 _) ?_
                  exact r_sub [0, 1, 3] rfl (hj164 m a3)
                · refine r_aload_n 62 125 0 rfl rfl rfl rfl ?_
                  refine r_getR 63 128 rfl rfl fl_RX8_21 rfl h0 ?_
                  refine r_iload_n 64 129 1 rfl rfl rfl rfl ?_
                  refine r_bipush 65 131 (v := 7) rfl rfl (by decide) ?_
                  refine r_imul 66 132 rfl rfl ?_
                  refine r_iload 67 134 4 rfl rfl rfl ?_
                  refine r_iadd 68 135 rfl rfl ?_
                  refine r_bipush 69 137 (v := 10) rfl rfl (by decide) ?_
                  refine r_imul 70 138 rfl rfl ?_
                  refine r_iload_n 71 139 1 rfl rfl rfl rfl ?_
                  refine r_iadd 72 140 rfl rfl ?_
                  refine r_gd (fun h14 => ?_)
                  refine r_iald 73 141 rfl rfl h14 ?_
                  refine r_iload 74 143 4 rfl rfl rfl ?_
                  refine r_ishr 75 144 rfl rfl ?_
                  refine r_iconst 76 145 (v := 1) rfl rfl (by decide) ?_
                  refine r_iand 77 146 rfl rfl ?_
                  refine r_if_ne 78 158 149 rfl rfl rfl (fun h15 => ?_) (fun h15 => ?_)
                  · refine r_iload_n 79 150 3 rfl rfl rfl rfl ?_
                    refine r_iconst 80 151 (v := 1) rfl rfl (by decide) ?_
                    refine r_iload 81 153 4 rfl rfl rfl ?_
                    refine r_ishl 82 154 rfl rfl ?_
                    refine r_iconst 83 155 (v := (-1)) rfl rfl (by decide) ?_
                    refine r_ixor 84 156 rfl rfl ?_
                    refine r_iand 85 157 rfl rfl ?_
                    refine r_ltI (fun x16 => ?_)
                    refine r_istore_n 86 158 (L' := [(3, .inl x16), (0, .inr (.inr a0)), (1, .inl a1), (2, .inr (.inr a2)), (4, .inl a4)]) rfl rfl rfl (by decide) rfl ?_
                    refine r_iinc 87 161 4 (L' := [(4, .inl (a4 + 1)), (3, .inl x16), (0, .inr (.inr a0)), (1, .inl a1), (2, .inr (.inr a2))]) rfl rfl rfl (by decide) rfl ?_
                    refine r_ltV (fun x17 => ?_)
                    refine r_goto 88 108 rfl rfl ?_
                    exact r_sub [2, 3, 4, 1, 0] rfl (hc108 (x16, x17))
                  · refine r_iinc 87 161 4 (L' := [(4, .inl (a4 + 1)), (0, .inr (.inr a0)), (1, .inl a1), (2, .inr (.inr a2)), (3, .inl a3)]) rfl rfl rfl (by decide) rfl ?_
                    refine r_ltV (fun x18 => ?_)
                    refine r_goto 88 108 rfl rfl ?_
                    exact r_sub [1, 2, 3, 4, 0] rfl (hc108 (a3, x18))
            exact r_sub [1, 2, 3, 4, 0] rfl (hj108 m a2 a3 0)
          refine r_lp (Lf := fun x : Int32 × Int32 => [(0, .inr (.inr a0)), (1, .inl a1), (2, .inr (.inr a2)), (3, .inl (x.1)), (4, .inl (x.2))]) (Mf := fun x : Int32 × Int32 => (t, m)) (a3, a4) ?_ FUEL
          rintro ⟨a3, a4⟩ κ45 hc45 he45
          refine r_eq (L' := [(0, .inr (.inr a0)), (1, .inl a1), (2, .inr (.inr a2)), (3, .inl a3), (4, .inl a4)]) (M' := (t, m)) rfl rfl ?_
          refine r_eqr (r' := f_X8_openPack_l45 t m a0 a1 a2 a3 a4) rfl ?_
          unfold f_X8_openPack_l45
          refine r_iload 26 47 4 rfl rfl rfl ?_
          refine r_aload_n 27 48 0 rfl rfl rfl rfl ?_
          refine r_getR 28 51 rfl rfl fl_RX8_13 rfl h0 ?_
          refine r_gd (fun h19 => ?_)
          refine r_VIo 29 54 (st := [.inl a4]) (av := [.inr (.inr (gr m a0 0))]) (av' := []) (μ' := u_X6_constraints) (d := 1) rfl rfl mc_X6_constraints in_X6_constraints lk_RX8_107 (Nat.le_of_ble_eq_true rfl) rfl rfl (ob_sh h19) rfl (Nat.le_of_ble_eq_true rfl) (fun _ h => ct_X6_constraints (ob_sh h19) h) (fun x20 => ?_)
          refine r_icmp_ge 30 105 57 rfl rfl rfl (fun h21 => ?_) (fun h21 => ?_)
          · refine r_leaf (r2 := (f_X8_openPack_j105 t m a0 a1 a2 a3 : Option (Mi))) (he45 _) ?_
            exact r_sub [0, 1, 2, 3] rfl (hj105 m a2 a3)
          · refine r_aload_n 31 58 0 rfl rfl rfl rfl ?_
            refine r_getR 32 61 rfl rfl fl_RX8_13 rfl h0 ?_
            refine r_iload 33 63 4 rfl rfl rfl ?_
            refine r_VRo 34 66 (st := []) (av := [.inr (.inr (gr m a0 0)), .inl a4]) (av' := [.inl a4]) (μ' := u_X6_constraintAt) (d := 1) rfl rfl mc_X6_constraintAt in_X6_constraintAt lk_RX8_161 (Nat.le_of_ble_eq_true rfl) rfl rfl (ob_sh h19) rfl (Nat.le_of_ble_eq_true rfl) (fun _ h => ct_X6_constraintAt (ob_sh h19) h) (fun x22 => ?_)
            refine r_astore 35 68 (L' := [(5, .inr (.inr x22)), (0, .inr (.inr a0)), (1, .inl a1), (2, .inr (.inr a2)), (3, .inl a3), (4, .inl a4)]) rfl rfl (by decide) rfl ?_
            refine r_aload 36 70 0 rfl rfl rfl ?_
            refine r_ifnull 37 99 73 rfl rfl rfl (fun h23 => ?_) (fun h23 => ?_)
            · refine r_iinc 51 102 5 (L' := [(4, .inl (a4 + 1)), (5, .inr (.inr x22)), (0, .inr (.inr a0)), (1, .inl a1), (2, .inr (.inr a2)), (3, .inl a3)]) rfl rfl rfl (by decide) rfl ?_
              refine r_ltV (fun x24 => ?_)
              refine r_goto 52 45 rfl rfl ?_
              exact r_sub [2, 3, 4, 5, 0] rfl (hc45 (a3, x24))
            · refine r_aload 38 75 0 rfl rfl rfl ?_
              refine r_gd (fun h25 => ?_)
              refine r_getI 39 78 rfl rfl fl_RX8_172 rfl (ob_sh h25) ?_
              refine r_iload_n 40 79 2 rfl rfl rfl rfl ?_
              refine r_icmp_ne 41 99 82 rfl rfl rfl (fun h26 => ?_) (fun h26 => ?_)
              · refine r_aload_n 42 83 1 rfl rfl rfl rfl ?_
                refine r_iload 43 85 5 rfl rfl rfl ?_
                refine r_VIo 44 88 (st := []) (av := [.inr (.inr a0), .inl a4]) (av' := [.inl a4]) (μ' := u_X8_isActive) (d := 1) rfl rfl mc_X8_isActive in_X8_isActive lk_RX8_181 (Nat.le_of_ble_eq_true rfl) rfl rfl h0 rfl (Nat.le_of_ble_eq_true rfl) (fun _ h => ct_X8_isActive h0 h) (fun x27 => ?_)
                refine r_if_eq 45 99 91 rfl rfl rfl (fun h28 => ?_) (fun h28 => ?_)
                · refine r_iinc 51 102 5 (L' := [(4, .inl (a4 + 1)), (5, .inr (.inr x22)), (0, .inr (.inr a0)), (1, .inl a1), (2, .inr (.inr a2)), (3, .inl a3)]) rfl rfl rfl (by decide) rfl ?_
                  refine r_ltV (fun x29 => ?_)
                  refine r_goto 52 45 rfl rfl ?_
                  exact r_sub [2, 3, 4, 5, 0] rfl (hc45 (a3, x29))
                · refine r_iload_n 46 92 4 rfl rfl rfl rfl ?_
                  refine r_aload 47 94 0 rfl rfl rfl ?_
                  refine r_getI 48 97 rfl rfl fl_RX8_185 rfl (ob_sh h25) ?_
                  refine r_iand 49 98 rfl rfl ?_
                  refine r_ltI (fun x30 => ?_)
                  refine r_istore_n 50 99 (L' := [(3, .inl x30), (5, .inr (.inr x22)), (0, .inr (.inr a0)), (1, .inl a1), (2, .inr (.inr a2)), (4, .inl a4)]) rfl rfl rfl (by decide) rfl ?_
                  refine r_iinc 51 102 5 (L' := [(4, .inl (a4 + 1)), (3, .inl x30), (5, .inr (.inr x22)), (0, .inr (.inr a0)), (1, .inl a1), (2, .inr (.inr a2))]) rfl rfl rfl (by decide) rfl ?_
                  refine r_ltV (fun x31 => ?_)
                  refine r_goto 52 45 rfl rfl ?_
                  exact r_sub [3, 4, 5, 1, 0] rfl (hc45 (x30, x31))
              · refine r_iinc 51 102 5 (L' := [(4, .inl (a4 + 1)), (5, .inr (.inr x22)), (0, .inr (.inr a0)), (1, .inl a1), (2, .inr (.inr a2)), (3, .inl a3)]) rfl rfl rfl (by decide) rfl ?_
                refine r_ltV (fun x32 => ?_)
                refine r_goto 52 45 rfl rfl ?_
                exact r_sub [2, 3, 4, 5, 0] rfl (hc45 (a3, x32))
        exact r_sub [3, 4, 2, 1, 0] rfl (hj45 m x2 x7 x8)
      · exact r_vret 12 rfl rfl rfl
theorem ct_X8_openPack {t : List Sh} {m : Mi} {a0 : Nat} {a1 : Int32} {m' : Mi}  (h0 : sh t a0 = some (.inl 8)) (h : f_X8_openPack t m a0 a1 = some m') : Ct u_X8_openPack 2 0 0 [.inr (.inr a0), .inl a1] (t, m) (none, (t, m')) :=
  ct_of (by decide) tk_X8_openPack (Nat.le_of_ble_eq_true rfl) (sm_X8_openPack t m a0 a1 h0) (by rw [h]; rfl) (Nat.le_refl _) (Nat.le_refl _)
theorem lk_RX8_156 : Cond.methodLink RX8 156 yJ6_bitCount_0f7a4 ∈ TB := tbm 1166 (by decide +kernel) rfl
def tb_X8_smallestPack : Tb := [(0, (.iconst (-1), 1)), (1, (.istore 4, 2)), (3, (.bipush 8, 2)), (5, (.istore 5, 2)), (7, (.iconst 0, 1)), (8, (.istore 6, 2)), (10, (.iload 6, 2)), (12, (.aload_n 0, 1)), (13, (.getfield 17, 3)), (16, (.if_icmp .ge 89, 3)), (19, (.iload_n 1, 1)), (20, (.ifCond .lt 85, 3)), (23, (.iload_n 1, 1)), (24, (.bipush 10, 2)), (26, (.if_icmp .ge 79, 3)), (29, (.aload_n 0, 1)), (30, (.getfield 28, 3)), (33, (.iload_n 1, 1)), (34, (.bipush 10, 2)), (36, (.imul, 1)), (37, (.iload 6, 2)), (39, (.iadd, 1)), (40, (.iaload, 1)), (41, (.istore 7, 2)), (43, (.iload_n 2, 1)), (44, (.iload 6, 2)), (46, (.ishr, 1)), (47, (.iconst 1, 1)), (48, (.iand, 1)), (49, (.ifCond .ne 21, 3)), (52, (.iload_n 3, 1)), (53, (.ifCond .eq 13, 3)), (56, (.iload 7, 2)), (58, (.bipush 6, 2)), (60, (.ishr, 1)), (61, (.iconst 1, 1)), (62, (.iand, 1)), (63, (.ifCond .ne 7, 3)), (66, (.iconst 1, 1)), (67, (.goto 4, 3)), (70, (.iconst 0, 1)), (71, (.istore 8, 2)), (73, (.iload 8, 2)), (75, (.ifCond .eq 24, 3)), (78, (.iload 7, 2)), (80, (.invokestatic 156, 3)), (83, (.iload 5, 2)), (85, (.if_icmp .ge 14, 3)), (88, (.iload 6, 2)), (90, (.istore 4, 2)), (92, (.iload 7, 2)), (94, (.invokestatic 156, 3)), (97, (.istore 5, 2)), (99, (.iinc 6 1, 3)), (102, (.goto (-92), 3)), (105, (.iload 4, 2)), (107, (.ireturn, 1))]
def u_X8_smallestPack : Fx := (yX8_smallestPack, (cX8_smallestPack, (9, ((some .int), tb_X8_smallestPack))))
theorem tk_X8_smallestPack : ∀ q ∈ u_X8_smallestPack.2.2.2.2, decode u_X8_smallestPack.2.1 q.1 = .ok q.2 := by decide +kernel
theorem mc_X8_smallestPack : MC u_X8_smallestPack 3 := ⟨tbm 1165 (by decide +kernel) rfl, tbm 125 (by decide +kernel) rfl, ⟨by decide, by decide, by decide +kernel⟩, by decide⟩
theorem in_X8_smallestPack : Cond.instanceMethod u_X8_smallestPack.1 ∈ TB ∧ Cond.selects u_X8_smallestPack.1.cls u_X8_smallestPack.1 u_X8_smallestPack.1 ∈ TB := ⟨tbm 1164 (by decide +kernel) rfl, tbm 55 (by decide +kernel) rfl⟩
def f_X8_smallestPack_j105 (t : List Sh) (m : Mi) (a4 : Int32) : Option (Int32) :=
  some a4
def f_X8_smallestPack_j71 (t : List Sh) (m : Mi) (a0 : Nat) (a1 : Int32) (a2 : Int32) (a3 : Int32) (a4 : Int32) (a5 : Int32) (a6 : Int32) (a7 : Int32) (s0 : Int32) : Option ((Int32 × Int32 × Int32) ⊕ ((Int32))) :=
  if s0 = 0 then
    lt (a6 + 1) fun x7 =>
    some (.inl (a4, a5, x7))
  else
    (f_J6_bitCount_0f7a4 a7).bind fun x8 =>
    if a5 ≤ x8 then
      lt (a6 + 1) fun x10 =>
      some (.inl (a4, a5, x10))
    else
      (f_J6_bitCount_0f7a4 a7).bind fun x11 =>
      lt (a6 + 1) fun x12 =>
      some (.inl (a6, x11, x12))
def f_X8_smallestPack_j70 (t : List Sh) (m : Mi) (a0 : Nat) (a1 : Int32) (a2 : Int32) (a3 : Int32) (a4 : Int32) (a5 : Int32) (a6 : Int32) (a7 : Int32) : Option ((Int32 × Int32 × Int32) ⊕ ((Int32))) :=
  f_X8_smallestPack_j71 t m a0 a1 a2 a3 a4 a5 a6 a7 0
def f_X8_smallestPack_j66 (t : List Sh) (m : Mi) (a0 : Nat) (a1 : Int32) (a2 : Int32) (a3 : Int32) (a4 : Int32) (a5 : Int32) (a6 : Int32) (a7 : Int32) : Option ((Int32 × Int32 × Int32) ⊕ ((Int32))) :=
  f_X8_smallestPack_j71 t m a0 a1 a2 a3 a4 a5 a6 a7 1
def f_X8_smallestPack_l10 (t : List Sh) (m : Mi) (a0 : Nat) (a1 : Int32) (a2 : Int32) (a3 : Int32) (a4 : Int32) (a5 : Int32) (a6 : Int32) : Option ((Int32 × Int32 × Int32) ⊕ ((Int32))) :=
  if (gi m a0 1) ≤ a6 then
    some (.inr a4)
  else
    if a1 < 0 then
      some (.inr a4)
    else
      if 10 ≤ a1 then
        some (.inr a4)
      else
        (if ar t (gr m a0 4) .int ((a1 * 10) + a6) = true then
        lt (gi m (gr m a0 4) (ix ((a1 * 10) + a6))) fun x5 =>
        if ((a2 >>> (a6 &&& 31)) &&& 1) = 0 then
          if a3 = 0 then
            f_X8_smallestPack_j66 t m a0 a1 a2 a3 a4 a5 a6 x5
          else
            if ((x5 >>> (6 &&& 31)) &&& 1) = 0 then
              f_X8_smallestPack_j66 t m a0 a1 a2 a3 a4 a5 a6 x5
            else
              f_X8_smallestPack_j70 t m a0 a1 a2 a3 a4 a5 a6 x5
        else
          f_X8_smallestPack_j70 t m a0 a1 a2 a3 a4 a5 a6 x5
        else none)
def f_X8_smallestPack_j10 (t : List Sh) (m : Mi) (a0 : Nat) (a1 : Int32) (a2 : Int32) (a3 : Int32) (a4 : Int32) (a5 : Int32) (a6 : Int32) : Option (Int32) :=
  (lp (fun x : Int32 × Int32 × Int32 => f_X8_smallestPack_l10 t m a0 a1 a2 a3 x.1 x.2.1 x.2.2) FUEL (a4, a5, a6)).bind (fun y : Int32 => f_X8_smallestPack_j105 t m y)
def f_X8_smallestPack (t : List Sh) (m : Mi) (a0 : Nat) (a1 : Int32) (a2 : Int32) (a3 : Int32) : Option (Int32) :=
  f_X8_smallestPack_j10 t m a0 a1 a2 a3 (-1) 8 0
set_option maxRecDepth 4000 in
set_option maxHeartbeats 4000000 in
theorem sm_X8_smallestPack (t : List Sh) (m : Mi) (a0 : Nat) (a1 : Int32) (a2 : Int32) (a3 : Int32) (h0 : sh t a0 = some (.inl 8)) : Sm u_X8_smallestPack (2, 0, 0, t.length, zs t) (kIo t m) 0 [(0, .inr (.inr a0)), (1, .inl a1), (2, .inl a2), (3, .inl a3)] [] (t, m) (f_X8_smallestPack t m a0 a1 a2 a3) := by
  unfold f_X8_smallestPack
  refine r_iconst 0 1 (v := (-1)) rfl rfl (by decide) ?_
  refine r_istore 1 3 (L' := [(4, .inl (-1)), (0, .inr (.inr a0)), (1, .inl a1), (2, .inl a2), (3, .inl a3)]) rfl rfl (by decide) rfl ?_
  refine r_bipush 2 5 (v := 8) rfl rfl (by decide) ?_
  refine r_istore 3 7 (L' := [(5, .inl 8), (4, .inl (-1)), (0, .inr (.inr a0)), (1, .inl a1), (2, .inl a2), (3, .inl a3)]) rfl rfl (by decide) rfl ?_
  refine r_iconst 4 8 (v := 0) rfl rfl (by decide) ?_
  refine r_istore 5 10 (L' := [(6, .inl 0), (5, .inl 8), (4, .inl (-1)), (0, .inr (.inr a0)), (1, .inl a1), (2, .inl a2), (3, .inl a3)]) rfl rfl (by decide) rfl ?_
  have hj10 : ∀ (a4 : Int32) (a5 : Int32) (a6 : Int32), Sm u_X8_smallestPack (2, 0, 0, t.length, zs t) (kIo t m) 10 [(0, .inr (.inr a0)), (1, .inl a1), (2, .inl a2), (3, .inl a3), (4, .inl a4), (5, .inl a5), (6, .inl a6)] [] (t, m) (f_X8_smallestPack_j10 t m a0 a1 a2 a3 a4 a5 a6) := by
    intro a4 a5 a6
    unfold f_X8_smallestPack_j10
    have hj105 : ∀ (a4 : Int32), Sm u_X8_smallestPack (2, 0, 0, t.length, zs t) (kIo t m) 105 [(4, .inl a4)] [] (t, m) (f_X8_smallestPack_j105 t m a4) := by
      intro a4
      unfold f_X8_smallestPack_j105
      refine r_iload 55 107 0 rfl rfl rfl ?_
      exact r_iret 56 rfl rfl rfl
    refine r_lp (Lf := fun x : Int32 × Int32 × Int32 => [(0, .inr (.inr a0)), (1, .inl a1), (2, .inl a2), (3, .inl a3), (4, .inl (x.1)), (5, .inl (x.2.1)), (6, .inl (x.2.2))]) (Mf := fun x : Int32 × Int32 × Int32 => (t, m)) (a4, a5, a6) ?_ FUEL
    rintro ⟨a4, a5, a6⟩ κ10 hc10 he10
    refine r_eq (L' := [(0, .inr (.inr a0)), (1, .inl a1), (2, .inl a2), (3, .inl a3), (4, .inl a4), (5, .inl a5), (6, .inl a6)]) (M' := (t, m)) rfl rfl ?_
    refine r_eqr (r' := f_X8_smallestPack_l10 t m a0 a1 a2 a3 a4 a5 a6) rfl ?_
    unfold f_X8_smallestPack_l10
    refine r_iload 6 12 6 rfl rfl rfl ?_
    refine r_aload_n 7 13 0 rfl rfl rfl rfl ?_
    refine r_getI 8 16 rfl rfl fl_RX8_17 rfl h0 ?_
    refine r_icmp_ge 9 105 19 rfl rfl rfl (fun h1 => ?_) (fun h1 => ?_)
    · refine r_leaf (r2 := (f_X8_smallestPack_j105 t m a4 : Option (Int32))) (he10 _) ?_
      exact r_sub [4] rfl (hj105 a4)
    · refine r_iload_n 10 20 1 rfl rfl rfl rfl ?_
      refine r_if_lt 11 105 23 rfl rfl rfl (fun h2 => ?_) (fun h2 => ?_)
      · refine r_leaf (r2 := (f_X8_smallestPack_j105 t m a4 : Option (Int32))) (he10 _) ?_
        exact r_sub [4] rfl (hj105 a4)
      · refine r_iload_n 12 24 1 rfl rfl rfl rfl ?_
        refine r_bipush 13 26 (v := 10) rfl rfl (by decide) ?_
        refine r_icmp_ge 14 105 29 rfl rfl rfl (fun h3 => ?_) (fun h3 => ?_)
        · refine r_leaf (r2 := (f_X8_smallestPack_j105 t m a4 : Option (Int32))) (he10 _) ?_
          exact r_sub [4] rfl (hj105 a4)
        · refine r_aload_n 15 30 0 rfl rfl rfl rfl ?_
          refine r_getR 16 33 rfl rfl fl_RX8_28 rfl h0 ?_
          refine r_iload_n 17 34 1 rfl rfl rfl rfl ?_
          refine r_bipush 18 36 (v := 10) rfl rfl (by decide) ?_
          refine r_imul 19 37 rfl rfl ?_
          refine r_iload 20 39 6 rfl rfl rfl ?_
          refine r_iadd 21 40 rfl rfl ?_
          refine r_gd (fun h4 => ?_)
          refine r_iald 22 41 rfl rfl h4 ?_
          refine r_ltI (fun x5 => ?_)
          refine r_istore 23 43 (L' := [(7, .inl x5), (0, .inr (.inr a0)), (1, .inl a1), (2, .inl a2), (3, .inl a3), (4, .inl a4), (5, .inl a5), (6, .inl a6)]) rfl rfl (by decide) rfl ?_
          refine r_iload_n 24 44 3 rfl rfl rfl rfl ?_
          refine r_iload 25 46 7 rfl rfl rfl ?_
          refine r_ishr 26 47 rfl rfl ?_
          refine r_iconst 27 48 (v := 1) rfl rfl (by decide) ?_
          refine r_iand 28 49 rfl rfl ?_
          have hj71 : ∀ (a4 : Int32) (a5 : Int32) (a6 : Int32) (a7 : Int32) (s0 : Int32), Sm u_X8_smallestPack (2, 0, 0, t.length, zs t) κ10 71 [(0, .inr (.inr a0)), (1, .inl a1), (2, .inl a2), (3, .inl a3), (4, .inl a4), (5, .inl a5), (6, .inl a6), (7, .inl a7)] [.inl s0] (t, m) (f_X8_smallestPack_j71 t m a0 a1 a2 a3 a4 a5 a6 a7 s0) := by
            intro a4 a5 a6 a7 s0
            unfold f_X8_smallestPack_j71
            refine r_istore 41 73 (L' := [(8, .inl s0), (0, .inr (.inr a0)), (1, .inl a1), (2, .inl a2), (3, .inl a3), (4, .inl a4), (5, .inl a5), (6, .inl a6), (7, .inl a7)]) rfl rfl (by decide) rfl ?_
            refine r_iload 42 75 0 rfl rfl rfl ?_
            refine r_if_eq 43 99 78 rfl rfl rfl (fun h6 => ?_) (fun h6 => ?_)
            · refine r_iinc 53 102 7 (L' := [(6, .inl (a6 + 1)), (8, .inl s0), (0, .inr (.inr a0)), (1, .inl a1), (2, .inl a2), (3, .inl a3), (4, .inl a4), (5, .inl a5), (7, .inl a7)]) rfl rfl rfl (by decide) rfl ?_
              refine r_ltV (fun x7 => ?_)
              refine r_goto 54 10 rfl rfl ?_
              exact r_sub [2, 3, 4, 5, 6, 7, 0] rfl (hc10 (a4, a5, x7))
            · refine r_iload 44 80 8 rfl rfl rfl ?_
              refine r_SIo 45 83 (a := 0) (cn := 0) (st := []) (av := [.inl a7]) (μ' := u_J6_bitCount_0f7a4) (d := 1) rfl rfl mc_J6_bitCount_0f7a4 st_J6_bitCount_0f7a4 lk_RX8_156 (Nat.le_of_ble_eq_true rfl) rfl (Nat.le_of_ble_eq_true rfl) (fun _ h => ct_J6_bitCount_0f7a4 h) (fun x8 => ?_)
              refine r_iload 46 85 6 rfl rfl rfl ?_
              refine r_icmp_ge 47 99 88 rfl rfl rfl (fun h9 => ?_) (fun h9 => ?_)
              · refine r_iinc 53 102 7 (L' := [(6, .inl (a6 + 1)), (8, .inl s0), (0, .inr (.inr a0)), (1, .inl a1), (2, .inl a2), (3, .inl a3), (4, .inl a4), (5, .inl a5), (7, .inl a7)]) rfl rfl rfl (by decide) rfl ?_
                refine r_ltV (fun x10 => ?_)
                refine r_goto 54 10 rfl rfl ?_
                exact r_sub [2, 3, 4, 5, 6, 7, 0] rfl (hc10 (a4, a5, x10))
              · refine r_iload 48 90 7 rfl rfl rfl ?_
                refine r_istore 49 92 (L' := [(4, .inl a6), (8, .inl s0), (0, .inr (.inr a0)), (1, .inl a1), (2, .inl a2), (3, .inl a3), (5, .inl a5), (6, .inl a6), (7, .inl a7)]) rfl rfl (by decide) rfl ?_
                refine r_iload 50 94 8 rfl rfl rfl ?_
                refine r_SIo 51 97 (a := 0) (cn := 0) (st := []) (av := [.inl a7]) (μ' := u_J6_bitCount_0f7a4) (d := 1) rfl rfl mc_J6_bitCount_0f7a4 st_J6_bitCount_0f7a4 lk_RX8_156 (Nat.le_of_ble_eq_true rfl) rfl (Nat.le_of_ble_eq_true rfl) (fun _ h => ct_J6_bitCount_0f7a4 h) (fun x11 => ?_)
                refine r_istore 52 99 (L' := [(5, .inl x11), (4, .inl a6), (8, .inl s0), (0, .inr (.inr a0)), (1, .inl a1), (2, .inl a2), (3, .inl a3), (6, .inl a6), (7, .inl a7)]) rfl rfl (by decide) rfl ?_
                refine r_iinc 53 102 7 (L' := [(6, .inl (a6 + 1)), (5, .inl x11), (4, .inl a6), (8, .inl s0), (0, .inr (.inr a0)), (1, .inl a1), (2, .inl a2), (3, .inl a3), (7, .inl a7)]) rfl rfl rfl (by decide) rfl ?_
                refine r_ltV (fun x12 => ?_)
                refine r_goto 54 10 rfl rfl ?_
                exact r_sub [4, 5, 6, 7, 2, 1, 0] rfl (hc10 (a6, x11, x12))
          have hj70 : ∀ (a4 : Int32) (a5 : Int32) (a6 : Int32) (a7 : Int32), Sm u_X8_smallestPack (2, 0, 0, t.length, zs t) κ10 70 [(0, .inr (.inr a0)), (1, .inl a1), (2, .inl a2), (3, .inl a3), (4, .inl a4), (5, .inl a5), (6, .inl a6), (7, .inl a7)] [] (t, m) (f_X8_smallestPack_j70 t m a0 a1 a2 a3 a4 a5 a6 a7) := by
            intro a4 a5 a6 a7
            unfold f_X8_smallestPack_j70
            refine r_iconst 40 71 (v := 0) rfl rfl (by decide) ?_
            exact hj71 a4 a5 a6 a7 0
          refine r_if_ne 29 70 52 rfl rfl rfl (fun h13 => ?_) (fun h13 => ?_)
          · refine r_iload_n 30 53 4 rfl rfl rfl rfl ?_
            have hj66 : ∀ (a4 : Int32) (a5 : Int32) (a6 : Int32) (a7 : Int32), Sm u_X8_smallestPack (2, 0, 0, t.length, zs t) κ10 66 [(0, .inr (.inr a0)), (1, .inl a1), (2, .inl a2), (3, .inl a3), (4, .inl a4), (5, .inl a5), (6, .inl a6), (7, .inl a7)] [] (t, m) (f_X8_smallestPack_j66 t m a0 a1 a2 a3 a4 a5 a6 a7) := by
              intro a4 a5 a6 a7
              unfold f_X8_smallestPack_j66
              refine r_iconst 38 67 (v := 1) rfl rfl (by decide) ?_
              refine r_goto 39 71 rfl rfl ?_
              exact hj71 a4 a5 a6 a7 1
            refine r_if_eq 31 66 56 rfl rfl rfl (fun h14 => ?_) (fun h14 => ?_)
            · exact r_sub [1, 2, 3, 4, 5, 6, 7, 0] rfl (hj66 a4 a5 a6 x5)
            · refine r_iload 32 58 0 rfl rfl rfl ?_
              refine r_bipush 33 60 (v := 6) rfl rfl (by decide) ?_
              refine r_ishr 34 61 rfl rfl ?_
              refine r_iconst 35 62 (v := 1) rfl rfl (by decide) ?_
              refine r_iand 36 63 rfl rfl ?_
              refine r_if_ne 37 70 66 rfl rfl rfl (fun h15 => ?_) (fun h15 => ?_)
              · exact r_sub [1, 2, 3, 4, 5, 6, 7, 0] rfl (hj66 a4 a5 a6 x5)
              · exact r_sub [1, 2, 3, 4, 5, 6, 7, 0] rfl (hj70 a4 a5 a6 x5)
          · exact r_sub [1, 2, 3, 4, 5, 6, 7, 0] rfl (hj70 a4 a5 a6 x5)
  exact r_sub [3, 4, 5, 6, 2, 1, 0] rfl (hj10 (-1) 8 0)
theorem ct_X8_smallestPack {t : List Sh} {m : Mi} {a0 : Nat} {a1 : Int32} {a2 : Int32} {a3 : Int32} {v : Int32}  (h0 : sh t a0 = some (.inl 8)) (h : f_X8_smallestPack t m a0 a1 a2 a3 = some v) : Ct u_X8_smallestPack 2 0 0 [.inr (.inr a0), .inl a1, .inl a2, .inl a3] (t, m) (some (.inl v), (t, m)) :=
  ct_of (by decide) tk_X8_smallestPack (Nat.le_of_ble_eq_true rfl) (sm_X8_smallestPack t m a0 a1 a2 a3 h0) (by rw [h]; rfl) (Nat.le_refl _) (Nat.le_refl _)
theorem fl_RX8_175 : FL RX8 175 0 1 false := ⟨RX0, TX0, 8, rfl, inW0, tyX0_ok, nmX0, by decide, rfl, rfl, rfl, tbm 359 (by decide +kernel) rfl⟩
theorem fl_RX8_178 : FL RX8 178 7 1 false := ⟨RX7, TX7, 6, rfl, inW7, tyX7_ok, nmX7, by decide, rfl, rfl, rfl, tbm 317 (by decide +kernel) rfl⟩
theorem lk_RX8_188 : Cond.methodLink RX8 188 yX8_matchValues ∈ TB := tbm 1142 (by decide +kernel) rfl
theorem fl_RX8_63 : FL RX8 63 7 5 false := ⟨RX7, TX7, 6, rfl, inW7, tyX7_ok, nmX7, by decide, rfl, rfl, rfl, tbm 329 (by decide +kernel) rfl⟩
theorem fl_RX8_68 : FL RX8 68 7 4 false := ⟨RX7, TX7, 6, rfl, inW7, tyX7_ok, nmX7, by decide, rfl, rfl, rfl, tbm 326 (by decide +kernel) rfl⟩
theorem fl_RX8_165 : FL RX8 165 0 0 false := ⟨RX0, TX0, 8, rfl, inW0, tyX0_ok, nmX0, by decide, rfl, rfl, rfl, tbm 354 (by decide +kernel) rfl⟩
theorem lk_RX8_59 : Cond.methodLink RX8 59 yX6_releaseAt ∈ TB := tbm 1131 (by decide +kernel) rfl
def tb_X8_weaveLink : Tb := [(0, (.aload_n 0, 1)), (1, (.getfield 13, 3)), (4, (.iload_n 1, 1)), (5, (.invokevirtual 161, 3)), (8, (.astore_n 2, 1)), (9, (.aload_n 2, 1)), (10, (.ifnonnull 7, 3)), (13, (.aconst_null, 1)), (14, (.goto 14, 3)), (17, (.aload_n 0, 1)), (18, (.getfield 13, 3)), (21, (.aload_n 2, 1)), (22, (.getfield 175, 3)), (25, (.invokevirtual 59, 3)), (28, (.astore_n 3, 1)), (29, (.aload_n 3, 1)), (30, (.ifnonnull 7, 3)), (33, (.aconst_null, 1)), (34, (.goto 14, 3)), (37, (.aload_n 0, 1)), (38, (.getfield 13, 3)), (41, (.aload_n 3, 1)), (42, (.getfield 178, 3)), (45, (.invokevirtual 94, 3)), (48, (.astore 4, 2)), (50, (.aload 4, 2)), (52, (.ifnull 19, 3)), (55, (.aload_n 2, 1)), (56, (.getfield 172, 3)), (59, (.ifCond .lt 12, 3)), (62, (.aload_n 2, 1)), (63, (.getfield 172, 3)), (66, (.bipush 10, 2)), (68, (.if_icmp .lt 4, 3)), (71, (.return_, 1)), (72, (.aload_n 2, 1)), (73, (.getfield 175, 3)), (76, (.aload 4, 2)), (78, (.getfield 98, 3)), (81, (.isub, 1)), (82, (.istore 5, 2)), (84, (.aload_n 3, 1)), (85, (.getfield 178, 3)), (88, (.ifCond .lt 24, 3)), (91, (.aload_n 3, 1)), (92, (.getfield 178, 3)), (95, (.bipush 10, 2)), (97, (.if_icmp .ge 15, 3)), (100, (.iload 5, 2)), (102, (.ifCond .lt 10, 3)), (105, (.iload 5, 2)), (107, (.bipush 6, 2)), (109, (.if_icmp .lt 4, 3)), (112, (.return_, 1)), (113, (.bipush 127, 2)), (115, (.istore 6, 2)), (117, (.iconst 0, 1)), (118, (.istore 7, 2)), (120, (.iload 7, 2)), (122, (.aload_n 3, 1)), (123, (.getfield 63, 3)), (126, (.if_icmp .ge 88, 3)), (129, (.aload_n 0, 1)), (130, (.getfield 13, 3)), (133, (.aload_n 3, 1)), (134, (.getfield 68, 3)), (137, (.iload 7, 2)), (139, (.iadd, 1)), (140, (.invokevirtual 161, 3)), (143, (.astore 8, 2)), (145, (.aload 8, 2)), (147, (.ifnull 61, 3)), (150, (.aload 8, 2)), (152, (.getfield 172, 3)), (155, (.aload_n 2, 1)), (156, (.getfield 172, 3)), (159, (.if_icmp .ne 49, 3)), (162, (.aload_n 0, 1)), (163, (.aload_n 3, 1)), (164, (.getfield 68, 3)), (167, (.iload 7, 2)), (169, (.iadd, 1)), (170, (.invokevirtual 181, 3)), (173, (.ifCond .eq 35, 3)), (176, (.iload 6, 2)), (178, (.aload 8, 2)), (180, (.getfield 165, 3)), (183, (.iconst 5, 1)), (184, (.if_icmp .ne 11, 3)), (187, (.aload 8, 2)), (189, (.getfield 185, 3)), (192, (.goto 13, 3)), (195, (.bipush 127, 2)), (197, (.aload 8, 2)), (199, (.getfield 185, 3)), (202, (.iconst (-1), 1)), (203, (.ixor, 1)), (204, (.iand, 1)), (205, (.iand, 1)), (206, (.istore 6, 2)), (208, (.iinc 7 1, 3)), (211, (.goto (-91), 3)), (214, (.aload_n 0, 1)), (215, (.getfield 21, 3)), (218, (.aload_n 3, 1)), (219, (.getfield 178, 3)), (222, (.bipush 7, 2)), (224, (.imul, 1)), (225, (.iload 5, 2)), (227, (.iadd, 1)), (228, (.bipush 10, 2)), (230, (.imul, 1)), (231, (.aload_n 2, 1)), (232, (.getfield 172, 3)), (235, (.iadd, 1)), (236, (.iload 6, 2)), (238, (.iastore, 1)), (239, (.iconst 0, 1)), (240, (.istore 7, 2)), (242, (.iload 7, 2)), (244, (.bipush 7, 2)), (246, (.if_icmp .ge 25, 3)), (249, (.aload_n 0, 1)), (250, (.aload_n 3, 1)), (251, (.getfield 178, 3)), (254, (.iload 5, 2)), (256, (.aload_n 2, 1)), (257, (.getfield 172, 3)), (260, (.iload 7, 2)), (262, (.invokevirtual 188, 3)), (265, (.iinc 7 1, 3)), (268, (.goto (-26), 3)), (271, (.return_, 1))]
def u_X8_weaveLink : Fx := (yX8_weaveLink, (cX8_weaveLink, (9, (none, tb_X8_weaveLink))))
theorem tk_X8_weaveLink : ∀ q ∈ u_X8_weaveLink.2.2.2.2, decode u_X8_weaveLink.2.1 q.1 = .ok q.2 := by decide +kernel
theorem mc_X8_weaveLink : MC u_X8_weaveLink 1 := ⟨tbm 1135 (by decide +kernel) rfl, tbm 125 (by decide +kernel) rfl, ⟨by decide, by decide, by decide +kernel⟩, by decide⟩
theorem in_X8_weaveLink : Cond.instanceMethod u_X8_weaveLink.1 ∈ TB ∧ Cond.selects u_X8_weaveLink.1.cls u_X8_weaveLink.1 u_X8_weaveLink.1 ∈ TB := ⟨tbm 1134 (by decide +kernel) rfl, tbm 51 (by decide +kernel) rfl⟩
def f_X8_weaveLink_j271 (t : List Sh) (m : Mi) : Option (Mi) :=
  some m
def f_X8_weaveLink_l242 (t : List Sh) (m : Mi) (a0 : Nat) (a2 : Nat) (a3 : Nat) (a5 : Int32) (a7 : Int32) : Option ((Int32 × Mi) ⊕ ((Mi))) :=
  if 7 ≤ a7 then
    some (.inr m)
  else
    (if ob t a3 7 = true then
    (if ob t a2 0 = true then
    (f_X8_matchValues t m a0 (gi m a3 1) a5 (gi m a2 4) a7).bind fun m21 =>
    lt (a7 + 1) fun x22 =>
    some (.inl (x22, m21))
    else none)
    else none)
def f_X8_weaveLink_j242 (t : List Sh) (m : Mi) (a0 : Nat) (a2 : Nat) (a3 : Nat) (a5 : Int32) (a7 : Int32) : Option (Mi) :=
  (lp (fun x : Int32 × Mi => f_X8_weaveLink_l242 t x.2 a0 a2 a3 a5 x.1) FUEL (a7, m)).bind (fun y : Mi => f_X8_weaveLink_j271 t y)
def f_X8_weaveLink_j214 (t : List Sh) (m : Mi) (a0 : Nat) (a2 : Nat) (a3 : Nat) (a5 : Int32) (a6 : Int32) : Option (Mi) :=
  (if ob t a3 7 = true then
  (if ob t a2 0 = true then
  (if ar t (gr m a0 2) .int (((((gi m a3 1) * 7) + a5) * 10) + (gi m a2 4)) = true then
  lt (si m (gr m a0 2) (ix (((((gi m a3 1) * 7) + a5) * 10) + (gi m a2 4))) a6) fun m17 =>
  f_X8_weaveLink_j242 t m17 a0 a2 a3 a5 0
  else none)
  else none)
  else none)
def f_X8_weaveLink_l120 (t : List Sh) (m : Mi) (a0 : Nat) (a2 : Nat) (a3 : Nat) (a5 : Int32) (a6 : Int32) (a7 : Int32) : Option ((Int32 × Int32) ⊕ ((Int32))) :=
  (if ob t a3 7 = true then
  if (gi m a3 5) ≤ a7 then
    some (.inr a6)
  else
    (if ob t (gr m a0 0) 6 = true then
    (f_X6_constraintAt t m (gr m a0 0) ((gi m a3 4) + a7)).bind fun x26 =>
    if x26 = 0 then
      lt (a7 + 1) fun x28 =>
      some (.inl (a6, x28))
    else
      (if ob t x26 0 = true then
      (if ob t a2 0 = true then
      if (gi m x26 4) = (gi m a2 4) then
        (f_X8_isActive t m a0 ((gi m a3 4) + a7)).bind fun x32 =>
        if x32 = 0 then
          lt (a7 + 1) fun x34 =>
          some (.inl (a6, x34))
        else
          if (gi m x26 0) = 5 then
            lt (a6 &&& (gi m x26 7)) fun x36 =>
            lt (a7 + 1) fun x37 =>
            some (.inl (x36, x37))
          else
            lt (a6 &&& (127 &&& ((gi m x26 7) ^^^ (-1)))) fun x38 =>
            lt (a7 + 1) fun x39 =>
            some (.inl (x38, x39))
      else
        lt (a7 + 1) fun x40 =>
        some (.inl (a6, x40))
      else none)
      else none)
    else none)
  else none)
def f_X8_weaveLink_j120 (t : List Sh) (m : Mi) (a0 : Nat) (a2 : Nat) (a3 : Nat) (a5 : Int32) (a6 : Int32) (a7 : Int32) : Option (Mi) :=
  (lp (fun x : Int32 × Int32 => f_X8_weaveLink_l120 t m a0 a2 a3 a5 x.1 x.2) FUEL (a6, a7)).bind (fun y : Int32 => f_X8_weaveLink_j214 t m a0 a2 a3 a5 y)
def f_X8_weaveLink_j48 (t : List Sh) (m : Mi) (a0 : Nat) (a2 : Nat) (a3 : Nat) (s0 : Nat) : Option (Mi) :=
  if s0 = 0 then
    some m
  else
    (if ob t a2 0 = true then
    if (gi m a2 4) < 0 then
      some m
    else
      if (gi m a2 4) < 10 then
        (if ob t s0 2 = true then
        lt ((gi m a2 1) - (gi m s0 3)) fun x8 =>
        (if ob t a3 7 = true then
        if (gi m a3 1) < 0 then
          some m
        else
          if 10 ≤ (gi m a3 1) then
            some m
          else
            if x8 < 0 then
              some m
            else
              if x8 < 6 then
                f_X8_weaveLink_j120 t m a0 a2 a3 x8 127 0
              else
                some m
        else none)
        else none)
      else
        some m
    else none)
def f_X8_weaveLink_j28 (t : List Sh) (m : Mi) (a0 : Nat) (a2 : Nat) (s0 : Nat) : Option (Mi) :=
  if s0 = 0 then
    f_X8_weaveLink_j48 t m a0 a2 s0 0
  else
    (if ob t s0 7 = true then
    (if ob t (gr m a0 0) 6 = true then
    (f_X6_packAt t m (gr m a0 0) (gi m s0 1)).bind fun x44 =>
    f_X8_weaveLink_j48 t m a0 a2 s0 x44
    else none)
    else none)
def f_X8_weaveLink (t : List Sh) (m : Mi) (a0 : Nat) (a1 : Int32) : Option (Mi) :=
  (if ob t (gr m a0 0) 6 = true then
  (f_X6_constraintAt t m (gr m a0 0) a1).bind fun x2 =>
  if x2 = 0 then
    f_X8_weaveLink_j28 t m a0 x2 0
  else
    (if ob t x2 0 = true then
    (f_X6_releaseAt t m (gr m a0 0) (gi m x2 1)).bind fun x47 =>
    f_X8_weaveLink_j28 t m a0 x2 x47
    else none)
  else none)
set_option maxRecDepth 4000 in
set_option maxHeartbeats 4000000 in
theorem sm_X8_weaveLink (t : List Sh) (m : Mi) (a0 : Nat) (a1 : Int32) (h0 : sh t a0 = some (.inl 8)) : Sm u_X8_weaveLink (2, 0, 0, t.length, zs t) (kV t) 0 [(0, .inr (.inr a0)), (1, .inl a1)] [] (t, m) (f_X8_weaveLink t m a0 a1) := by
  unfold f_X8_weaveLink
  refine r_aload_n 0 1 0 rfl rfl rfl rfl ?_
  refine r_getR 1 4 rfl rfl fl_RX8_13 rfl h0 ?_
  refine r_iload_n 2 5 1 rfl rfl rfl rfl ?_
  refine r_gd (fun h1 => ?_)
  refine r_VRo 3 8 (st := []) (av := [.inr (.inr (gr m a0 0)), .inl a1]) (av' := [.inl a1]) (μ' := u_X6_constraintAt) (d := 1) rfl rfl mc_X6_constraintAt in_X6_constraintAt lk_RX8_161 (Nat.le_of_ble_eq_true rfl) rfl rfl (ob_sh h1) rfl (Nat.le_of_ble_eq_true rfl) (fun _ h => ct_X6_constraintAt (ob_sh h1) h) (fun x2 => ?_)
  refine r_astore_n 4 9 (L' := [(2, .inr (.inr x2)), (0, .inr (.inr a0)), (1, .inl a1)]) rfl rfl rfl (by decide) rfl ?_
  refine r_aload_n 5 10 0 rfl rfl rfl rfl ?_
  have hj28 : ∀ (m : Mi) (a2 : Nat) (s0 : Nat), Sm u_X8_weaveLink (2, 0, 0, t.length, zs t) (kV t) 28 [(0, .inr (.inr a0)), (2, .inr (.inr a2))] [.inr (.inr s0)] (t, m) (f_X8_weaveLink_j28 t m a0 a2 s0) := by
    intro m a2 s0
    unfold f_X8_weaveLink_j28
    refine r_astore_n 14 29 (L' := [(3, .inr (.inr s0)), (0, .inr (.inr a0)), (2, .inr (.inr a2))]) rfl rfl rfl (by decide) rfl ?_
    refine r_aload_n 15 30 0 rfl rfl rfl rfl ?_
    have hj48 : ∀ (m : Mi) (a2 : Nat) (a3 : Nat) (s0 : Nat), Sm u_X8_weaveLink (2, 0, 0, t.length, zs t) (kV t) 48 [(0, .inr (.inr a0)), (2, .inr (.inr a2)), (3, .inr (.inr a3))] [.inr (.inr s0)] (t, m) (f_X8_weaveLink_j48 t m a0 a2 a3 s0) := by
      intro m a2 a3 s0
      unfold f_X8_weaveLink_j48
      refine r_astore 24 50 (L' := [(4, .inr (.inr s0)), (0, .inr (.inr a0)), (2, .inr (.inr a2)), (3, .inr (.inr a3))]) rfl rfl (by decide) rfl ?_
      refine r_aload 25 52 0 rfl rfl rfl ?_
      refine r_ifnull 26 71 55 rfl rfl rfl (fun h3 => ?_) (fun h3 => ?_)
      · exact r_vret 34 rfl rfl rfl
      · refine r_aload_n 27 56 2 rfl rfl rfl rfl ?_
        refine r_gd (fun h4 => ?_)
        refine r_getI 28 59 rfl rfl fl_RX8_172 rfl (ob_sh h4) ?_
        refine r_if_lt 29 71 62 rfl rfl rfl (fun h5 => ?_) (fun h5 => ?_)
        · exact r_vret 34 rfl rfl rfl
        · refine r_aload_n 30 63 2 rfl rfl rfl rfl ?_
          refine r_getI 31 66 rfl rfl fl_RX8_172 rfl (ob_sh h4) ?_
          refine r_bipush 32 68 (v := 10) rfl rfl (by decide) ?_
          refine r_icmp_lt 33 72 71 rfl rfl rfl (fun h6 => ?_) (fun h6 => ?_)
          · refine r_aload_n 35 73 2 rfl rfl rfl rfl ?_
            refine r_getI 36 76 rfl rfl fl_RX8_175 rfl (ob_sh h4) ?_
            refine r_aload 37 78 0 rfl rfl rfl ?_
            refine r_gd (fun h7 => ?_)
            refine r_getI 38 81 rfl rfl fl_RX8_98 rfl (ob_sh h7) ?_
            refine r_isub 39 82 rfl rfl ?_
            refine r_ltI (fun x8 => ?_)
            refine r_istore 40 84 (L' := [(5, .inl x8), (4, .inr (.inr s0)), (0, .inr (.inr a0)), (2, .inr (.inr a2)), (3, .inr (.inr a3))]) rfl rfl (by decide) rfl ?_
            refine r_aload_n 41 85 4 rfl rfl rfl rfl ?_
            refine r_gd (fun h9 => ?_)
            refine r_getI 42 88 rfl rfl fl_RX8_178 rfl (ob_sh h9) ?_
            refine r_if_lt 43 112 91 rfl rfl rfl (fun h10 => ?_) (fun h10 => ?_)
            · exact r_vret 53 rfl rfl rfl
            · refine r_aload_n 44 92 4 rfl rfl rfl rfl ?_
              refine r_getI 45 95 rfl rfl fl_RX8_178 rfl (ob_sh h9) ?_
              refine r_bipush 46 97 (v := 10) rfl rfl (by decide) ?_
              refine r_icmp_ge 47 112 100 rfl rfl rfl (fun h11 => ?_) (fun h11 => ?_)
              · exact r_vret 53 rfl rfl rfl
              · refine r_iload 48 102 0 rfl rfl rfl ?_
                refine r_if_lt 49 112 105 rfl rfl rfl (fun h12 => ?_) (fun h12 => ?_)
                · exact r_vret 53 rfl rfl rfl
                · refine r_iload 50 107 0 rfl rfl rfl ?_
                  refine r_bipush 51 109 (v := 6) rfl rfl (by decide) ?_
                  refine r_icmp_lt 52 113 112 rfl rfl rfl (fun h13 => ?_) (fun h13 => ?_)
                  · refine r_bipush 54 115 (v := 127) rfl rfl (by decide) ?_
                    refine r_istore 55 117 (L' := [(6, .inl 127), (5, .inl x8), (4, .inr (.inr s0)), (0, .inr (.inr a0)), (2, .inr (.inr a2)), (3, .inr (.inr a3))]) rfl rfl (by decide) rfl ?_
                    refine r_iconst 56 118 (v := 0) rfl rfl (by decide) ?_
                    refine r_istore 57 120 (L' := [(7, .inl 0), (6, .inl 127), (5, .inl x8), (4, .inr (.inr s0)), (0, .inr (.inr a0)), (2, .inr (.inr a2)), (3, .inr (.inr a3))]) rfl rfl (by decide) rfl ?_
                    have hj120 : ∀ (m : Mi) (a2 : Nat) (a3 : Nat) (a5 : Int32) (a6 : Int32) (a7 : Int32), Sm u_X8_weaveLink (2, 0, 0, t.length, zs t) (kV t) 120 [(0, .inr (.inr a0)), (2, .inr (.inr a2)), (3, .inr (.inr a3)), (5, .inl a5), (6, .inl a6), (7, .inl a7)] [] (t, m) (f_X8_weaveLink_j120 t m a0 a2 a3 a5 a6 a7) := by
                      intro m a2 a3 a5 a6 a7
                      unfold f_X8_weaveLink_j120
                      have hj214 : ∀ (m : Mi) (a2 : Nat) (a3 : Nat) (a5 : Int32) (a6 : Int32), Sm u_X8_weaveLink (2, 0, 0, t.length, zs t) (kV t) 214 [(0, .inr (.inr a0)), (2, .inr (.inr a2)), (3, .inr (.inr a3)), (5, .inl a5), (6, .inl a6)] [] (t, m) (f_X8_weaveLink_j214 t m a0 a2 a3 a5 a6) := by
                        intro m a2 a3 a5 a6
                        unfold f_X8_weaveLink_j214
                        refine r_aload_n 102 215 0 rfl rfl rfl rfl ?_
                        refine r_getR 103 218 rfl rfl fl_RX8_21 rfl h0 ?_
                        refine r_aload_n 104 219 2 rfl rfl rfl rfl ?_
                        refine r_gd (fun h14 => ?_)
                        refine r_getI 105 222 rfl rfl fl_RX8_178 rfl (ob_sh h14) ?_
                        refine r_bipush 106 224 (v := 7) rfl rfl (by decide) ?_
                        refine r_imul 107 225 rfl rfl ?_
                        refine r_iload 108 227 3 rfl rfl rfl ?_
                        refine r_iadd 109 228 rfl rfl ?_
                        refine r_bipush 110 230 (v := 10) rfl rfl (by decide) ?_
                        refine r_imul 111 231 rfl rfl ?_
                        refine r_aload_n 112 232 1 rfl rfl rfl rfl ?_
                        refine r_gd (fun h15 => ?_)
                        refine r_getI 113 235 rfl rfl fl_RX8_172 rfl (ob_sh h15) ?_
                        refine r_iadd 114 236 rfl rfl ?_
                        refine r_iload 115 238 4 rfl rfl rfl ?_
                        refine r_gd (fun h16 => ?_)
                        refine r_iast 116 239 rfl rfl h16 ?_
                        refine r_ltM (fun m17 => ?_)
                        refine r_iconst 117 240 (v := 0) rfl rfl (by decide) ?_
                        refine r_istore 118 242 (L' := [(7, .inl 0), (0, .inr (.inr a0)), (2, .inr (.inr a2)), (3, .inr (.inr a3)), (5, .inl a5), (6, .inl a6)]) rfl rfl (by decide) rfl ?_
                        have hj242 : ∀ (m : Mi) (a2 : Nat) (a3 : Nat) (a5 : Int32) (a7 : Int32), Sm u_X8_weaveLink (2, 0, 0, t.length, zs t) (kV t) 242 [(0, .inr (.inr a0)), (2, .inr (.inr a2)), (3, .inr (.inr a3)), (5, .inl a5), (7, .inl a7)] [] (t, m) (f_X8_weaveLink_j242 t m a0 a2 a3 a5 a7) := by
                          intro m a2 a3 a5 a7
                          unfold f_X8_weaveLink_j242
                          have hj271 : ∀ (m : Mi), Sm u_X8_weaveLink (2, 0, 0, t.length, zs t) (kV t) 271 [] [] (t, m) (f_X8_weaveLink_j271 t m) := by
                            intro m
                            unfold f_X8_weaveLink_j271
                            exact r_vret 132 rfl rfl rfl
                          refine r_lp (Lf := fun x : Int32 × Mi => [(0, .inr (.inr a0)), (2, .inr (.inr a2)), (3, .inr (.inr a3)), (5, .inl a5), (7, .inl (x.1))]) (Mf := fun x : Int32 × Mi => (t, x.2)) (a7, m) ?_ FUEL
                          rintro ⟨a7, m⟩ κ242 hc242 he242
                          refine r_eq (L' := [(0, .inr (.inr a0)), (2, .inr (.inr a2)), (3, .inr (.inr a3)), (5, .inl a5), (7, .inl a7)]) (M' := (t, m)) rfl rfl ?_
                          refine r_eqr (r' := f_X8_weaveLink_l242 t m a0 a2 a3 a5 a7) rfl ?_
                          unfold f_X8_weaveLink_l242
                          refine r_iload 119 244 4 rfl rfl rfl ?_
                          refine r_bipush 120 246 (v := 7) rfl rfl (by decide) ?_
                          refine r_icmp_ge 121 271 249 rfl rfl rfl (fun h18 => ?_) (fun h18 => ?_)
                          · refine r_leaf (r2 := (f_X8_weaveLink_j271 t m : Option (Mi))) (he242 _) ?_
                            exact r_sub [] rfl (hj271 m)
                          · refine r_aload_n 122 250 0 rfl rfl rfl rfl ?_
                            refine r_aload_n 123 251 2 rfl rfl rfl rfl ?_
                            refine r_gd (fun h19 => ?_)
                            refine r_getI 124 254 rfl rfl fl_RX8_178 rfl (ob_sh h19) ?_
                            refine r_iload 125 256 3 rfl rfl rfl ?_
                            refine r_aload_n 126 257 1 rfl rfl rfl rfl ?_
                            refine r_gd (fun h20 => ?_)
                            refine r_getI 127 260 rfl rfl fl_RX8_172 rfl (ob_sh h20) ?_
                            refine r_iload 128 262 4 rfl rfl rfl ?_
                            refine r_VV 129 265 (st := []) (av := [.inr (.inr a0), .inl (gi m a3 1), .inl a5, .inl (gi m a2 4), .inl a7]) (av' := [.inl (gi m a3 1), .inl a5, .inl (gi m a2 4), .inl a7]) (μ' := u_X8_matchValues) (d := 1) rfl rfl mc_X8_matchValues in_X8_matchValues lk_RX8_188 (Nat.le_of_ble_eq_true rfl) rfl rfl h0 rfl (Nat.le_of_ble_eq_true rfl) (fun _ h => ct_X8_matchValues h0 h) (fun m21 => ?_)
                            refine r_iinc 130 268 4 (L' := [(7, .inl (a7 + 1)), (0, .inr (.inr a0)), (2, .inr (.inr a2)), (3, .inr (.inr a3)), (5, .inl a5)]) rfl rfl rfl (by decide) rfl ?_
                            refine r_ltV (fun x22 => ?_)
                            refine r_goto 131 242 rfl rfl ?_
                            exact r_sub [1, 2, 3, 4, 0] rfl (hc242 (x22, m21))
                        exact r_sub [1, 2, 3, 4, 0] rfl (hj242 m17 a2 a3 a5 0)
                      refine r_lp (Lf := fun x : Int32 × Int32 => [(0, .inr (.inr a0)), (2, .inr (.inr a2)), (3, .inr (.inr a3)), (5, .inl a5), (6, .inl (x.1)), (7, .inl (x.2))]) (Mf := fun x : Int32 × Int32 => (t, m)) (a6, a7) ?_ FUEL
                      rintro ⟨a6, a7⟩ κ120 hc120 he120
                      refine r_eq (L' := [(0, .inr (.inr a0)), (2, .inr (.inr a2)), (3, .inr (.inr a3)), (5, .inl a5), (6, .inl a6), (7, .inl a7)]) (M' := (t, m)) rfl rfl ?_
                      refine r_eqr (r' := f_X8_weaveLink_l120 t m a0 a2 a3 a5 a6 a7) rfl ?_
                      unfold f_X8_weaveLink_l120
                      refine r_iload 58 122 5 rfl rfl rfl ?_
                      refine r_aload_n 59 123 2 rfl rfl rfl rfl ?_
                      refine r_gd (fun h23 => ?_)
                      refine r_getI 60 126 rfl rfl fl_RX8_63 rfl (ob_sh h23) ?_
                      refine r_icmp_ge 61 214 129 rfl rfl rfl (fun h24 => ?_) (fun h24 => ?_)
                      · refine r_leaf (r2 := (f_X8_weaveLink_j214 t m a0 a2 a3 a5 a6 : Option (Mi))) (he120 _) ?_
                        exact r_sub [0, 1, 2, 3, 4] rfl (hj214 m a2 a3 a5 a6)
                      · refine r_aload_n 62 130 0 rfl rfl rfl rfl ?_
                        refine r_getR 63 133 rfl rfl fl_RX8_13 rfl h0 ?_
                        refine r_aload_n 64 134 2 rfl rfl rfl rfl ?_
                        refine r_getI 65 137 rfl rfl fl_RX8_68 rfl (ob_sh h23) ?_
                        refine r_iload 66 139 5 rfl rfl rfl ?_
                        refine r_iadd 67 140 rfl rfl ?_
                        refine r_gd (fun h25 => ?_)
                        refine r_VRo 68 143 (st := []) (av := [.inr (.inr (gr m a0 0)), .inl ((gi m a3 4) + a7)]) (av' := [.inl ((gi m a3 4) + a7)]) (μ' := u_X6_constraintAt) (d := 1) rfl rfl mc_X6_constraintAt in_X6_constraintAt lk_RX8_161 (Nat.le_of_ble_eq_true rfl) rfl rfl (ob_sh h25) rfl (Nat.le_of_ble_eq_true rfl) (fun _ h => ct_X6_constraintAt (ob_sh h25) h) (fun x26 => ?_)
                        refine r_astore 69 145 (L' := [(8, .inr (.inr x26)), (0, .inr (.inr a0)), (2, .inr (.inr a2)), (3, .inr (.inr a3)), (5, .inl a5), (6, .inl a6), (7, .inl a7)]) rfl rfl (by decide) rfl ?_
                        refine r_aload 70 147 0 rfl rfl rfl ?_
                        refine r_ifnull 71 208 150 rfl rfl rfl (fun h27 => ?_) (fun h27 => ?_)
                        · refine r_iinc 100 211 6 (L' := [(7, .inl (a7 + 1)), (8, .inr (.inr x26)), (0, .inr (.inr a0)), (2, .inr (.inr a2)), (3, .inr (.inr a3)), (5, .inl a5), (6, .inl a6)]) rfl rfl rfl (by decide) rfl ?_
                          refine r_ltV (fun x28 => ?_)
                          refine r_goto 101 120 rfl rfl ?_
                          exact r_sub [2, 3, 4, 5, 6, 0] rfl (hc120 (a6, x28))
                        · refine r_aload 72 152 0 rfl rfl rfl ?_
                          refine r_gd (fun h29 => ?_)
                          refine r_getI 73 155 rfl rfl fl_RX8_172 rfl (ob_sh h29) ?_
                          refine r_aload_n 74 156 2 rfl rfl rfl rfl ?_
                          refine r_gd (fun h30 => ?_)
                          refine r_getI 75 159 rfl rfl fl_RX8_172 rfl (ob_sh h30) ?_
                          refine r_icmp_ne 76 208 162 rfl rfl rfl (fun h31 => ?_) (fun h31 => ?_)
                          · refine r_aload_n 77 163 1 rfl rfl rfl rfl ?_
                            refine r_aload_n 78 164 3 rfl rfl rfl rfl ?_
                            refine r_getI 79 167 rfl rfl fl_RX8_68 rfl (ob_sh h23) ?_
                            refine r_iload 80 169 6 rfl rfl rfl ?_
                            refine r_iadd 81 170 rfl rfl ?_
                            refine r_VIo 82 173 (st := []) (av := [.inr (.inr a0), .inl ((gi m a3 4) + a7)]) (av' := [.inl ((gi m a3 4) + a7)]) (μ' := u_X8_isActive) (d := 1) rfl rfl mc_X8_isActive in_X8_isActive lk_RX8_181 (Nat.le_of_ble_eq_true rfl) rfl rfl h0 rfl (Nat.le_of_ble_eq_true rfl) (fun _ h => ct_X8_isActive h0 h) (fun x32 => ?_)
                            refine r_if_eq 83 208 176 rfl rfl rfl (fun h33 => ?_) (fun h33 => ?_)
                            · refine r_iinc 100 211 6 (L' := [(7, .inl (a7 + 1)), (8, .inr (.inr x26)), (0, .inr (.inr a0)), (2, .inr (.inr a2)), (3, .inr (.inr a3)), (5, .inl a5), (6, .inl a6)]) rfl rfl rfl (by decide) rfl ?_
                              refine r_ltV (fun x34 => ?_)
                              refine r_goto 101 120 rfl rfl ?_
                              exact r_sub [2, 3, 4, 5, 6, 0] rfl (hc120 (a6, x34))
                            · refine r_iload 84 178 5 rfl rfl rfl ?_
                              refine r_aload 85 180 0 rfl rfl rfl ?_
                              refine r_getI 86 183 rfl rfl fl_RX8_165 rfl (ob_sh h29) ?_
                              refine r_iconst 87 184 (v := 5) rfl rfl (by decide) ?_
                              refine r_icmp_ne 88 195 187 rfl rfl rfl (fun h35 => ?_) (fun h35 => ?_)
                              · refine r_aload 89 189 0 rfl rfl rfl ?_
                                refine r_getI 90 192 rfl rfl fl_RX8_185 rfl (ob_sh h29) ?_
                                refine r_goto 91 205 rfl rfl ?_
                                refine r_iand 98 206 rfl rfl ?_
                                refine r_ltI (fun x36 => ?_)
                                refine r_istore 99 208 (L' := [(6, .inl x36), (8, .inr (.inr x26)), (0, .inr (.inr a0)), (2, .inr (.inr a2)), (3, .inr (.inr a3)), (5, .inl a5), (7, .inl a7)]) rfl rfl (by decide) rfl ?_
                                refine r_iinc 100 211 6 (L' := [(7, .inl (a7 + 1)), (6, .inl x36), (8, .inr (.inr x26)), (0, .inr (.inr a0)), (2, .inr (.inr a2)), (3, .inr (.inr a3)), (5, .inl a5)]) rfl rfl rfl (by decide) rfl ?_
                                refine r_ltV (fun x37 => ?_)
                                refine r_goto 101 120 rfl rfl ?_
                                exact r_sub [3, 4, 5, 6, 1, 0] rfl (hc120 (x36, x37))
                              · refine r_bipush 92 197 (v := 127) rfl rfl (by decide) ?_
                                refine r_aload 93 199 0 rfl rfl rfl ?_
                                refine r_getI 94 202 rfl rfl fl_RX8_185 rfl (ob_sh h29) ?_
                                refine r_iconst 95 203 (v := (-1)) rfl rfl (by decide) ?_
                                refine r_ixor 96 204 rfl rfl ?_
                                refine r_iand 97 205 rfl rfl ?_
                                refine r_iand 98 206 rfl rfl ?_
                                refine r_ltI (fun x38 => ?_)
                                refine r_istore 99 208 (L' := [(6, .inl x38), (8, .inr (.inr x26)), (0, .inr (.inr a0)), (2, .inr (.inr a2)), (3, .inr (.inr a3)), (5, .inl a5), (7, .inl a7)]) rfl rfl (by decide) rfl ?_
                                refine r_iinc 100 211 6 (L' := [(7, .inl (a7 + 1)), (6, .inl x38), (8, .inr (.inr x26)), (0, .inr (.inr a0)), (2, .inr (.inr a2)), (3, .inr (.inr a3)), (5, .inl a5)]) rfl rfl rfl (by decide) rfl ?_
                                refine r_ltV (fun x39 => ?_)
                                refine r_goto 101 120 rfl rfl ?_
                                exact r_sub [3, 4, 5, 6, 1, 0] rfl (hc120 (x38, x39))
                          · refine r_iinc 100 211 6 (L' := [(7, .inl (a7 + 1)), (8, .inr (.inr x26)), (0, .inr (.inr a0)), (2, .inr (.inr a2)), (3, .inr (.inr a3)), (5, .inl a5), (6, .inl a6)]) rfl rfl rfl (by decide) rfl ?_
                            refine r_ltV (fun x40 => ?_)
                            refine r_goto 101 120 rfl rfl ?_
                            exact r_sub [2, 3, 4, 5, 6, 0] rfl (hc120 (a6, x40))
                    exact r_sub [4, 5, 6, 2, 1, 0] rfl (hj120 m a2 a3 x8 127 0)
                  · exact r_vret 53 rfl rfl rfl
          · exact r_vret 34 rfl rfl rfl
    refine r_ifnonnull 16 37 33 rfl rfl rfl (fun h41 => ?_) (fun h41 => ?_)
    · refine r_null 17 34 rfl rfl ?_
      refine r_goto 18 48 rfl rfl ?_
      exact r_sub [1, 2, 0] rfl (hj48 m a2 s0 0)
    · refine r_aload_n 19 38 1 rfl rfl rfl rfl ?_
      refine r_getR 20 41 rfl rfl fl_RX8_13 rfl h0 ?_
      refine r_aload_n 21 42 0 rfl rfl rfl rfl ?_
      refine r_gd (fun h42 => ?_)
      refine r_getI 22 45 rfl rfl fl_RX8_178 rfl (ob_sh h42) ?_
      refine r_gd (fun h43 => ?_)
      refine r_VRo 23 48 (st := []) (av := [.inr (.inr (gr m a0 0)), .inl (gi m s0 1)]) (av' := [.inl (gi m s0 1)]) (μ' := u_X6_packAt) (d := 1) rfl rfl mc_X6_packAt in_X6_packAt lk_RX8_94 (Nat.le_of_ble_eq_true rfl) rfl rfl (ob_sh h43) rfl (Nat.le_of_ble_eq_true rfl) (fun _ h => ct_X6_packAt (ob_sh h43) h) (fun x44 => ?_)
      exact r_sub [1, 2, 0] rfl (hj48 m a2 s0 x44)
  refine r_ifnonnull 6 17 13 rfl rfl rfl (fun h45 => ?_) (fun h45 => ?_)
  · refine r_null 7 14 rfl rfl ?_
    refine r_goto 8 28 rfl rfl ?_
    exact r_sub [1, 0] rfl (hj28 m x2 0)
  · refine r_aload_n 9 18 1 rfl rfl rfl rfl ?_
    refine r_getR 10 21 rfl rfl fl_RX8_13 rfl h0 ?_
    refine r_aload_n 11 22 0 rfl rfl rfl rfl ?_
    refine r_gd (fun h46 => ?_)
    refine r_getI 12 25 rfl rfl fl_RX8_175 rfl (ob_sh h46) ?_
    refine r_VRo 13 28 (st := []) (av := [.inr (.inr (gr m a0 0)), .inl (gi m x2 1)]) (av' := [.inl (gi m x2 1)]) (μ' := u_X6_releaseAt) (d := 1) rfl rfl mc_X6_releaseAt in_X6_releaseAt lk_RX8_59 (Nat.le_of_ble_eq_true rfl) rfl rfl (ob_sh h1) rfl (Nat.le_of_ble_eq_true rfl) (fun _ h => ct_X6_releaseAt (ob_sh h1) h) (fun x47 => ?_)
    exact r_sub [1, 0] rfl (hj28 m x2 x47)
theorem ct_X8_weaveLink {t : List Sh} {m : Mi} {a0 : Nat} {a1 : Int32} {m' : Mi}  (h0 : sh t a0 = some (.inl 8)) (h : f_X8_weaveLink t m a0 a1 = some m') : Ct u_X8_weaveLink 2 0 0 [.inr (.inr a0), .inl a1] (t, m) (none, (t, m')) :=
  ct_of (by decide) tk_X8_weaveLink (Nat.le_of_ble_eq_true rfl) (sm_X8_weaveLink t m a0 a1 h0) (by rw [h]; rfl) (Nat.le_refl _) (Nat.le_refl _)
theorem lk_RX8_144 : Cond.methodLink RX8 144 yX8_isOpen ∈ TB := tbm 1172 (by decide +kernel) rfl
theorem lk_RX8_148 : Cond.methodLink RX8 148 yX8_lay ∈ TB := tbm 1176 (by decide +kernel) rfl
theorem lk_RX8_78 : Cond.methodLink RX8 78 yX8_blameFrom ∈ TB := tbm 1159 (by decide +kernel) rfl
theorem lk_RX8_152 : Cond.methodLink RX8 152 yX8_smallestPack ∈ TB := tbm 1162 (by decide +kernel) rfl
def tb_X8_blameFrom : Tb := [(0, (.iload_n 1, 1)), (1, (.aload_n 0, 1)), (2, (.getfield 17, 3)), (5, (.if_icmp .ge 13, 3)), (8, (.aload_n 0, 1)), (9, (.iload_n 1, 1)), (10, (.iload_n 2, 1)), (11, (.iconst 1, 1)), (12, (.invokevirtual 152, 3)), (15, (.goto 4, 3)), (18, (.iconst (-1), 1)), (19, (.istore_n 3, 1)), (20, (.iload_n 3, 1)), (21, (.iconst (-1), 1)), (22, (.if_icmp .ne 5, 3)), (25, (.iconst (-1), 1)), (26, (.ireturn, 1)), (27, (.aload_n 0, 1)), (28, (.getfield 31, 3)), (31, (.iload_n 1, 1)), (32, (.bipush 10, 2)), (34, (.imul, 1)), (35, (.iload_n 3, 1)), (36, (.iadd, 1)), (37, (.iaload, 1)), (38, (.istore 4, 2)), (40, (.iconst 0, 1)), (41, (.istore 5, 2)), (43, (.iload 5, 2)), (45, (.bipush 6, 2)), (47, (.if_icmp .ge 80, 3)), (50, (.aload_n 0, 1)), (51, (.iload_n 1, 1)), (52, (.iload_n 3, 1)), (53, (.iload 5, 2)), (55, (.invokevirtual 144, 3)), (58, (.ifCond .eq 63, 3)), (61, (.aload_n 0, 1)), (62, (.iload_n 1, 1)), (63, (.iload_n 3, 1)), (64, (.iload 5, 2)), (66, (.invokevirtual 148, 3)), (69, (.istore 6, 2)), (71, (.iload 6, 2)), (73, (.ifCond .ne 17, 3)), (76, (.aload_n 0, 1)), (77, (.iload_n 1, 1)), (78, (.iconst 1, 1)), (79, (.iadd, 1)), (80, (.iload_n 2, 1)), (81, (.iconst 1, 1)), (82, (.iload_n 3, 1)), (83, (.ishl, 1)), (84, (.ior, 1)), (85, (.invokestatic 78, 3)), (88, (.istore 6, 2)), (90, (.iload 6, 2)), (92, (.iconst (-1), 1)), (93, (.if_icmp .eq 12, 3)), (96, (.iload 6, 2)), (98, (.iload_n 3, 1)), (99, (.ishr, 1)), (100, (.iconst 1, 1)), (101, (.iand, 1)), (102, (.ifCond .ne 6, 3)), (105, (.iload 6, 2)), (107, (.ireturn, 1)), (108, (.iload 4, 2)), (110, (.iload 6, 2)), (112, (.iconst 1, 1)), (113, (.iload_n 3, 1)), (114, (.ishl, 1)), (115, (.iconst (-1), 1)), (116, (.ixor, 1)), (117, (.iand, 1)), (118, (.ior, 1)), (119, (.istore 4, 2)), (121, (.iinc 5 1, 3)), (124, (.goto (-81), 3)), (127, (.iload 4, 2)), (129, (.ireturn, 1))]
def u_X8_blameFrom : Fx := (yX8_blameFrom, (cX8_blameFrom, (7, ((some .int), tb_X8_blameFrom))))
theorem tk_X8_blameFrom : ∀ q ∈ u_X8_blameFrom.2.2.2.2, decode u_X8_blameFrom.2.1 q.1 = .ok q.2 := by decide +kernel
theorem mc_X8_blameFrom : MC u_X8_blameFrom 3 := ⟨tbm 1161 (by decide +kernel) rfl, tbm 125 (by decide +kernel) rfl, ⟨by decide, by decide, by decide +kernel⟩, by decide⟩
theorem st_X8_blameFrom : Cond.static u_X8_blameFrom.1 ∈ TB := tbm 1160 (by decide +kernel) rfl
def f_X8_blameFrom_j105 (rc : List Sh → Mi → Nat → Int32 → Int32 → Option (Int32 × Mi)) (t : List Sh) (m : Mi) (a6 : Int32) : Option (Int32 × Mi) :=
  some (a6, m)
def f_X8_blameFrom_j127 (rc : List Sh → Mi → Nat → Int32 → Int32 → Option (Int32 × Mi)) (t : List Sh) (m : Mi) (a4 : Int32) : Option (Int32 × Mi) :=
  some (a4, m)
def f_X8_blameFrom_j90 (rc : List Sh → Mi → Nat → Int32 → Int32 → Option (Int32 × Mi)) (t : List Sh) (m : Mi) (a0 : Nat) (a1 : Int32) (a2 : Int32) (a3 : Int32) (a4 : Int32) (a5 : Int32) (a6 : Int32) : Option ((Int32 × Int32 × Mi) ⊕ ((Int32 × Mi) ⊕ (Int32 × Mi))) :=
  if a6 = (-1) then
    some (.inr (.inr (a6, m)))
  else
    if ((a6 >>> (a3 &&& 31)) &&& 1) = 0 then
      some (.inr (.inr (a6, m)))
    else
      lt (a4 ||| (a6 &&& ((1 <<< (a3 &&& 31)) ^^^ (-1)))) fun x13 =>
      lt (a5 + 1) fun x14 =>
      some (.inl (x13, x14, m))
def f_X8_blameFrom_l43 (rc : List Sh → Mi → Nat → Int32 → Int32 → Option (Int32 × Mi)) (t : List Sh) (m : Mi) (a0 : Nat) (a1 : Int32) (a2 : Int32) (a3 : Int32) (a4 : Int32) (a5 : Int32) : Option ((Int32 × Int32 × Mi) ⊕ ((Int32 × Mi) ⊕ (Int32 × Mi))) :=
  if 6 ≤ a5 then
    some (.inr (.inl (a4, m)))
  else
    (f_X8_isOpen t m a0 a1 a3 a5).bind fun x6 =>
    if x6 = 0 then
      lt (a5 + 1) fun x8 =>
      some (.inl (a4, x8, m))
    else
      bd (f_X8_lay t m a0 a1 a3 a5) fun x9 m10 =>
      if x9 = 0 then
        bd (rc t m10 a0 (a1 + 1) (a2 ||| (1 <<< (a3 &&& 31)))) fun x16 m17 =>
        f_X8_blameFrom_j90 rc t m17 a0 a1 a2 a3 a4 a5 x16
      else
        f_X8_blameFrom_j90 rc t m10 a0 a1 a2 a3 a4 a5 x9
def f_X8_blameFrom_j43 (rc : List Sh → Mi → Nat → Int32 → Int32 → Option (Int32 × Mi)) (t : List Sh) (m : Mi) (a0 : Nat) (a1 : Int32) (a2 : Int32) (a3 : Int32) (a4 : Int32) (a5 : Int32) : Option (Int32 × Mi) :=
  (lp (fun x : Int32 × Int32 × Mi => f_X8_blameFrom_l43 rc t x.2.2 a0 a1 a2 a3 x.1 x.2.1) FUEL (a4, a5, m)).bind (Sum.elim (fun y : Int32 × Mi => f_X8_blameFrom_j127 rc t (y.2) (y.1)) (fun y : Int32 × Mi => f_X8_blameFrom_j105 rc t (y.2) (y.1)))
def f_X8_blameFrom_j19 (rc : List Sh → Mi → Nat → Int32 → Int32 → Option (Int32 × Mi)) (t : List Sh) (m : Mi) (a0 : Nat) (a1 : Int32) (a2 : Int32) (s0 : Int32) : Option (Int32 × Mi) :=
  if s0 = (-1) then
    some ((-1), m)
  else
    (if ar t (gr m a0 5) .int ((a1 * 10) + s0) = true then
    lt (gi m (gr m a0 5) (ix ((a1 * 10) + s0))) fun x4 =>
    f_X8_blameFrom_j43 rc t m a0 a1 a2 s0 x4 0
    else none)
def f_X8_blameFrom_b (rc : List Sh → Mi → Nat → Int32 → Int32 → Option (Int32 × Mi)) (t : List Sh) (m : Mi) (a0 : Nat) (a1 : Int32) (a2 : Int32) : Option (Int32 × Mi) :=
  (if ob t a0 8 = true then
  if (gi m a0 1) ≤ a1 then
    f_X8_blameFrom_j19 rc t m a0 a1 a2 (-1)
  else
    (f_X8_smallestPack t m a0 a1 a2 1).bind fun x19 =>
    f_X8_blameFrom_j19 rc t m a0 a1 a2 x19
  else none)
def f_X8_blameFrom : Nat → List Sh → Mi → Nat → Int32 → Int32 → Option (Int32 × Mi)
  | 0, _, _, _, _, _ => none
  | n + 1, t, m, a0, a1, a2 => f_X8_blameFrom_b (f_X8_blameFrom n) t m a0 a1 a2
set_option maxRecDepth 4000 in
set_option maxHeartbeats 4000000 in
theorem sm_X8_blameFrom_b (rc : List Sh → Mi → Nat → Int32 → Int32 → Option (Int32 × Mi)) (d : Nat) (hdD : 3 ≤ d) (t : List Sh) (hrc : ∀ {m : Mi} {a0 : Nat} {a1 : Int32} {a2 : Int32} {m' : Mi} {v : Int32}, rc t m a0 a1 a2 = some (v, m') → Ct u_X8_blameFrom d 0 0 [.inr (.inr a0), .inl a1, .inl a2] (t, m) (some (.inl v), (t, m'))) (m : Mi) (a0 : Nat) (a1 : Int32) (a2 : Int32) : Sm u_X8_blameFrom (d + 1, 0, 0, t.length, zs t) (kI t) 0 [(0, .inr (.inr a0)), (1, .inl a1), (2, .inl a2)] [] (t, m) (f_X8_blameFrom_b rc t m a0 a1 a2) := by
  unfold f_X8_blameFrom_b
  refine r_iload_n 0 1 1 rfl rfl rfl rfl ?_
  refine r_aload_n 1 2 0 rfl rfl rfl rfl ?_
  refine r_gd (fun h1 => ?_)
  refine r_getI 2 5 rfl rfl fl_RX8_17 rfl (ob_sh h1) ?_
  have hj19 : ∀ (m : Mi) (s0 : Int32), Sm u_X8_blameFrom (d + 1, 0, 0, t.length, zs t) (kI t) 19 [(0, .inr (.inr a0)), (1, .inl a1), (2, .inl a2)] [.inl s0] (t, m) (f_X8_blameFrom_j19 rc t m a0 a1 a2 s0) := by
    intro m s0
    unfold f_X8_blameFrom_j19
    refine r_istore_n 11 20 (L' := [(3, .inl s0), (0, .inr (.inr a0)), (1, .inl a1), (2, .inl a2)]) rfl rfl rfl (by decide) rfl ?_
    refine r_iload_n 12 21 0 rfl rfl rfl rfl ?_
    refine r_iconst 13 22 (v := (-1)) rfl rfl (by decide) ?_
    refine r_icmp_ne 14 27 25 rfl rfl rfl (fun h2 => ?_) (fun h2 => ?_)
    · refine r_iconst 15 26 (v := (-1)) rfl rfl (by decide) ?_
      exact r_iret 16 rfl rfl rfl
    · refine r_aload_n 17 28 1 rfl rfl rfl rfl ?_
      refine r_getR 18 31 rfl rfl fl_RX8_31 rfl (ob_sh h1) ?_
      refine r_iload_n 19 32 2 rfl rfl rfl rfl ?_
      refine r_bipush 20 34 (v := 10) rfl rfl (by decide) ?_
      refine r_imul 21 35 rfl rfl ?_
      refine r_iload_n 22 36 0 rfl rfl rfl rfl ?_
      refine r_iadd 23 37 rfl rfl ?_
      refine r_gd (fun h3 => ?_)
      refine r_iald 24 38 rfl rfl h3 ?_
      refine r_ltI (fun x4 => ?_)
      refine r_istore 25 40 (L' := [(4, .inl x4), (3, .inl s0), (0, .inr (.inr a0)), (1, .inl a1), (2, .inl a2)]) rfl rfl (by decide) rfl ?_
      refine r_iconst 26 41 (v := 0) rfl rfl (by decide) ?_
      refine r_istore 27 43 (L' := [(5, .inl 0), (4, .inl x4), (3, .inl s0), (0, .inr (.inr a0)), (1, .inl a1), (2, .inl a2)]) rfl rfl (by decide) rfl ?_
      have hj43 : ∀ (m : Mi) (a3 : Int32) (a4 : Int32) (a5 : Int32), Sm u_X8_blameFrom (d + 1, 0, 0, t.length, zs t) (kI t) 43 [(0, .inr (.inr a0)), (1, .inl a1), (2, .inl a2), (3, .inl a3), (4, .inl a4), (5, .inl a5)] [] (t, m) (f_X8_blameFrom_j43 rc t m a0 a1 a2 a3 a4 a5) := by
        intro m a3 a4 a5
        unfold f_X8_blameFrom_j43
        have hj105 : ∀ (m : Mi) (a6 : Int32), Sm u_X8_blameFrom (d + 1, 0, 0, t.length, zs t) (kI t) 105 [(6, .inl a6)] [] (t, m) (f_X8_blameFrom_j105 rc t m a6) := by
          intro m a6
          unfold f_X8_blameFrom_j105
          refine r_iload 65 107 0 rfl rfl rfl ?_
          exact r_iret 66 rfl rfl rfl
        have hj127 : ∀ (m : Mi) (a4 : Int32), Sm u_X8_blameFrom (d + 1, 0, 0, t.length, zs t) (kI t) 127 [(4, .inl a4)] [] (t, m) (f_X8_blameFrom_j127 rc t m a4) := by
          intro m a4
          unfold f_X8_blameFrom_j127
          refine r_iload 79 129 0 rfl rfl rfl ?_
          exact r_iret 80 rfl rfl rfl
        refine r_lp (Lf := fun x : Int32 × Int32 × Mi => [(0, .inr (.inr a0)), (1, .inl a1), (2, .inl a2), (3, .inl a3), (4, .inl (x.1)), (5, .inl (x.2.1))]) (Mf := fun x : Int32 × Int32 × Mi => (t, x.2.2)) (a4, a5, m) ?_ FUEL
        rintro ⟨a4, a5, m⟩ κ43 hc43 he43
        refine r_eq (L' := [(0, .inr (.inr a0)), (1, .inl a1), (2, .inl a2), (3, .inl a3), (4, .inl a4), (5, .inl a5)]) (M' := (t, m)) rfl rfl ?_
        refine r_eqr (r' := f_X8_blameFrom_l43 rc t m a0 a1 a2 a3 a4 a5) rfl ?_
        unfold f_X8_blameFrom_l43
        refine r_iload 28 45 5 rfl rfl rfl ?_
        refine r_bipush 29 47 (v := 6) rfl rfl (by decide) ?_
        refine r_icmp_ge 30 127 50 rfl rfl rfl (fun h5 => ?_) (fun h5 => ?_)
        · refine r_leaf (r2 := (f_X8_blameFrom_j127 rc t m a4 : Option (Int32 × Mi))) (he43 _) ?_
          exact r_sub [4] rfl (hj127 m a4)
        · refine r_aload_n 31 51 0 rfl rfl rfl rfl ?_
          refine r_iload_n 32 52 1 rfl rfl rfl rfl ?_
          refine r_iload_n 33 53 3 rfl rfl rfl rfl ?_
          refine r_iload 34 55 5 rfl rfl rfl ?_
          refine r_VIo 35 58 (st := []) (av := [.inr (.inr a0), .inl a1, .inl a3, .inl a5]) (av' := [.inl a1, .inl a3, .inl a5]) (μ' := u_X8_isOpen) (d := 1) rfl rfl mc_X8_isOpen in_X8_isOpen lk_RX8_144 (by show 1 < d + 1; omega) rfl rfl (ob_sh h1) rfl (Nat.le_of_ble_eq_true rfl) (fun _ h => ct_X8_isOpen (ob_sh h1) h) (fun x6 => ?_)
          refine r_if_eq 36 121 61 rfl rfl rfl (fun h7 => ?_) (fun h7 => ?_)
          · refine r_iinc 77 124 5 (L' := [(5, .inl (a5 + 1)), (0, .inr (.inr a0)), (1, .inl a1), (2, .inl a2), (3, .inl a3), (4, .inl a4)]) rfl rfl rfl (by decide) rfl ?_
            refine r_ltV (fun x8 => ?_)
            refine r_goto 78 43 rfl rfl ?_
            exact r_sub [1, 2, 3, 4, 5, 0] rfl (hc43 (a4, x8, m))
          · refine r_aload_n 37 62 0 rfl rfl rfl rfl ?_
            refine r_iload_n 38 63 1 rfl rfl rfl rfl ?_
            refine r_iload_n 39 64 3 rfl rfl rfl rfl ?_
            refine r_iload 40 66 5 rfl rfl rfl ?_
            refine r_VI 41 69 (st := []) (av := [.inr (.inr a0), .inl a1, .inl a3, .inl a5]) (av' := [.inl a1, .inl a3, .inl a5]) (μ' := u_X8_lay) (d := 1) rfl rfl mc_X8_lay in_X8_lay lk_RX8_148 (by show 1 < d + 1; omega) rfl rfl (ob_sh h1) rfl (Nat.le_of_ble_eq_true rfl) (fun _ _ h => ct_X8_lay (ob_sh h1) h) (fun x9 m10 => ?_)
            refine r_istore 42 71 (L' := [(6, .inl x9), (0, .inr (.inr a0)), (1, .inl a1), (2, .inl a2), (3, .inl a3), (4, .inl a4), (5, .inl a5)]) rfl rfl (by decide) rfl ?_
            refine r_iload 43 73 0 rfl rfl rfl ?_
            have hj90 : ∀ (m : Mi) (a4 : Int32) (a5 : Int32) (a6 : Int32), Sm u_X8_blameFrom (d + 1, 0, 0, t.length, zs t) κ43 90 [(0, .inr (.inr a0)), (1, .inl a1), (2, .inl a2), (3, .inl a3), (4, .inl a4), (5, .inl a5), (6, .inl a6)] [] (t, m) (f_X8_blameFrom_j90 rc t m a0 a1 a2 a3 a4 a5 a6) := by
              intro m a4 a5 a6
              unfold f_X8_blameFrom_j90
              refine r_iload 56 92 6 rfl rfl rfl ?_
              refine r_iconst 57 93 (v := (-1)) rfl rfl (by decide) ?_
              refine r_icmp_eq 58 105 96 rfl rfl rfl (fun h11 => ?_) (fun h11 => ?_)
              · refine r_leaf (r2 := (f_X8_blameFrom_j105 rc t m a6 : Option (Int32 × Mi))) (he43 _) ?_
                exact r_sub [6] rfl (hj105 m a6)
              · refine r_iload 59 98 6 rfl rfl rfl ?_
                refine r_iload_n 60 99 3 rfl rfl rfl rfl ?_
                refine r_ishr 61 100 rfl rfl ?_
                refine r_iconst 62 101 (v := 1) rfl rfl (by decide) ?_
                refine r_iand 63 102 rfl rfl ?_
                refine r_if_ne 64 108 105 rfl rfl rfl (fun h12 => ?_) (fun h12 => ?_)
                · refine r_leaf (r2 := (f_X8_blameFrom_j105 rc t m a6 : Option (Int32 × Mi))) (he43 _) ?_
                  exact r_sub [6] rfl (hj105 m a6)
                · refine r_iload 67 110 4 rfl rfl rfl ?_
                  refine r_iload 68 112 6 rfl rfl rfl ?_
                  refine r_iconst 69 113 (v := 1) rfl rfl (by decide) ?_
                  refine r_iload_n 70 114 3 rfl rfl rfl rfl ?_
                  refine r_ishl 71 115 rfl rfl ?_
                  refine r_iconst 72 116 (v := (-1)) rfl rfl (by decide) ?_
                  refine r_ixor 73 117 rfl rfl ?_
                  refine r_iand 74 118 rfl rfl ?_
                  refine r_ior 75 119 rfl rfl ?_
                  refine r_ltI (fun x13 => ?_)
                  refine r_istore 76 121 (L' := [(4, .inl x13), (0, .inr (.inr a0)), (1, .inl a1), (2, .inl a2), (3, .inl a3), (5, .inl a5), (6, .inl a6)]) rfl rfl (by decide) rfl ?_
                  refine r_iinc 77 124 5 (L' := [(5, .inl (a5 + 1)), (4, .inl x13), (0, .inr (.inr a0)), (1, .inl a1), (2, .inl a2), (3, .inl a3), (6, .inl a6)]) rfl rfl rfl (by decide) rfl ?_
                  refine r_ltV (fun x14 => ?_)
                  refine r_goto 78 43 rfl rfl ?_
                  exact r_sub [2, 3, 4, 5, 1, 0] rfl (hc43 (x13, x14, m))
            refine r_if_ne 44 90 76 rfl rfl rfl (fun h15 => ?_) (fun h15 => ?_)
            · refine r_aload_n 45 77 1 rfl rfl rfl rfl ?_
              refine r_iload_n 46 78 2 rfl rfl rfl rfl ?_
              refine r_iconst 47 79 (v := 1) rfl rfl (by decide) ?_
              refine r_iadd 48 80 rfl rfl ?_
              refine r_iload_n 49 81 3 rfl rfl rfl rfl ?_
              refine r_iconst 50 82 (v := 1) rfl rfl (by decide) ?_
              refine r_iload_n 51 83 4 rfl rfl rfl rfl ?_
              refine r_ishl 52 84 rfl rfl ?_
              refine r_ior 53 85 rfl rfl ?_
              refine r_SI 54 88 (a := 0) (cn := 0) (st := []) (av := [.inr (.inr a0), .inl (a1 + 1), .inl (a2 ||| (1 <<< (a3 &&& 31)))]) (μ' := u_X8_blameFrom) (d := d) rfl rfl mc_X8_blameFrom st_X8_blameFrom lk_RX8_78 (Nat.lt_succ_self d) rfl (Nat.le_of_ble_eq_true rfl) (fun _ _ h => hrc h) (fun x16 m17 => ?_)
              refine r_istore 55 90 (L' := [(6, .inl x16), (0, .inr (.inr a0)), (1, .inl a1), (2, .inl a2), (3, .inl a3), (4, .inl a4), (5, .inl a5)]) rfl rfl (by decide) rfl ?_
              exact r_sub [1, 2, 3, 4, 5, 6, 0] rfl (hj90 m17 a4 a5 x16)
            · exact r_sub [1, 2, 3, 4, 5, 6, 0] rfl (hj90 m10 a4 a5 x9)
      exact r_sub [3, 4, 5, 2, 1, 0] rfl (hj43 m s0 x4 0)
  refine r_icmp_ge 3 18 8 rfl rfl rfl (fun h18 => ?_) (fun h18 => ?_)
  · refine r_iconst 10 19 (v := (-1)) rfl rfl (by decide) ?_
    exact hj19 m (-1)
  · refine r_aload_n 4 9 0 rfl rfl rfl rfl ?_
    refine r_iload_n 5 10 1 rfl rfl rfl rfl ?_
    refine r_iload_n 6 11 2 rfl rfl rfl rfl ?_
    refine r_iconst 7 12 (v := 1) rfl rfl (by decide) ?_
    refine r_VIo 8 15 (st := []) (av := [.inr (.inr a0), .inl a1, .inl a2, .inl 1]) (av' := [.inl a1, .inl a2, .inl 1]) (μ' := u_X8_smallestPack) (d := 2) rfl rfl mc_X8_smallestPack in_X8_smallestPack lk_RX8_152 (by show 2 < d + 1; omega) rfl rfl (ob_sh h1) rfl (Nat.le_of_ble_eq_true rfl) (fun _ h => ct_X8_smallestPack (ob_sh h1) h) (fun x19 => ?_)
    refine r_goto 9 19 rfl rfl ?_
    exact hj19 m x19
theorem ct_X8_blameFrom (n : Nat) {t : List Sh} : ∀ {m : Mi} {a0 : Nat} {a1 : Int32} {a2 : Int32} {m' : Mi} {v : Int32}, f_X8_blameFrom n t m a0 a1 a2 = some (v, m') → Ct u_X8_blameFrom (3 + n) 0 0 [.inr (.inr a0), .inl a1, .inl a2] (t, m) (some (.inl v), (t, m')) := by
  induction n with
  | zero => intros; rename_i h; cases h
  | succ n ih =>
    intro m a0 a1 a2 m' v h
    exact ct_of (by decide) tk_X8_blameFrom (Nat.le_of_ble_eq_true rfl) (sm_X8_blameFrom_b (f_X8_blameFrom n) (3 + n) (Nat.le_add_right _ _) t (fun h => ih h) m a0 a1 a2) (by rw [show f_X8_blameFrom_b (f_X8_blameFrom n) t m a0 a1 a2 = f_X8_blameFrom (n + 1) t m a0 a1 a2 from rfl, h]; rfl) (Nat.le_refl _) (Nat.le_refl _)
theorem lk_RX8_41 : Cond.methodLink RX8 41 yX6_packs ∈ TB := tbm 1119 (by decide +kernel) rfl
theorem lk_RX8_44 : Cond.methodLink RX8 44 Lib.Math.min.name ∈ TB := tbm 1123 (by decide +kernel) rfl
theorem lk_RX8_50 : Cond.methodLink RX8 50 yJ7_fill_53178 ∈ TB := tbm 1124 (by decide +kernel) rfl
theorem lk_RX8_75 : Cond.methodLink RX8 75 yX8_openPack ∈ TB := tbm 1146 (by decide +kernel) rfl
theorem lk_RX8_56 : Cond.methodLink RX8 56 yX6_releases ∈ TB := tbm 1127 (by decide +kernel) rfl
theorem lk_RX8_71 : Cond.methodLink RX8 71 yX8_weaveLink ∈ TB := tbm 1132 (by decide +kernel) rfl
def tb_X8_load : Tb := [(0, (.aload_n 0, 1)), (1, (.aload_n 1, 1)), (2, (.putfield 13, 3)), (5, (.aload_n 0, 1)), (6, (.aload_n 1, 1)), (7, (.invokevirtual 41, 3)), (10, (.bipush 10, 2)), (12, (.invokestatic 44, 3)), (15, (.putfield 17, 3)), (18, (.aload_n 0, 1)), (19, (.getfield 21, 3)), (22, (.bipush 127, 2)), (24, (.invokestatic 50, 3)), (27, (.aload_n 0, 1)), (28, (.getfield 25, 3)), (31, (.bipush 127, 2)), (33, (.invokestatic 50, 3)), (36, (.iconst 0, 1)), (37, (.istore_n 2, 1)), (38, (.iload_n 2, 1)), (39, (.aload_n 0, 1)), (40, (.getfield 34, 3)), (43, (.arraylength, 1)), (44, (.if_icmp .ge 16, 3)), (47, (.aload_n 0, 1)), (48, (.getfield 34, 3)), (51, (.iload_n 2, 1)), (52, (.iconst 1, 1)), (53, (.bastore, 1)), (54, (.iinc 2 1, 3)), (57, (.goto (-19), 3)), (60, (.iconst 0, 1)), (61, (.istore_n 2, 1)), (62, (.iload_n 2, 1)), (63, (.aload_n 1, 1)), (64, (.invokevirtual 56, 3)), (67, (.if_icmp .ge 48, 3)), (70, (.aload_n 1, 1)), (71, (.iload_n 2, 1)), (72, (.invokevirtual 59, 3)), (75, (.astore_n 3, 1)), (76, (.iconst 0, 1)), (77, (.istore 4, 2)), (79, (.aload_n 3, 1)), (80, (.ifnull 29, 3)), (83, (.iload 4, 2)), (85, (.aload_n 3, 1)), (86, (.getfield 63, 3)), (89, (.if_icmp .ge 20, 3)), (92, (.aload_n 0, 1)), (93, (.aload_n 3, 1)), (94, (.getfield 68, 3)), (97, (.iload 4, 2)), (99, (.iadd, 1)), (100, (.invokevirtual 71, 3)), (103, (.iinc 4 1, 3)), (106, (.goto (-27), 3)), (109, (.iinc 2 1, 3)), (112, (.goto (-50), 3)), (115, (.iconst 0, 1)), (116, (.istore_n 2, 1)), (117, (.iload_n 2, 1)), (118, (.aload_n 0, 1)), (119, (.getfield 17, 3)), (122, (.if_icmp .ge 14, 3)), (125, (.aload_n 0, 1)), (126, (.iload_n 2, 1)), (127, (.invokevirtual 75, 3)), (130, (.iinc 2 1, 3)), (133, (.goto (-16), 3)), (136, (.return_, 1))]
def u_X8_load : Fx := (yX8_load, (cX8_load, (5, (none, tb_X8_load))))
theorem tk_X8_load : ∀ q ∈ u_X8_load.2.2.2.2, decode u_X8_load.2.1 q.1 = .ok q.2 := by decide +kernel
theorem mc_X8_load : MC u_X8_load 1 := ⟨tbm 1118 (by decide +kernel) rfl, tbm 125 (by decide +kernel) rfl, ⟨by decide, by decide, by decide +kernel⟩, by decide⟩
theorem in_X8_load : Cond.instanceMethod u_X8_load.1 ∈ TB ∧ Cond.selects u_X8_load.1.cls u_X8_load.1 u_X8_load.1 ∈ TB := ⟨tbm 1116 (by decide +kernel) rfl, tbm 1117 (by decide +kernel) rfl⟩
def f_X8_load_j136 (t : List Sh) (m : Mi) : Option (Mi) :=
  some m
def f_X8_load_l117 (t : List Sh) (m : Mi) (a0 : Nat) (a2 : Int32) : Option ((Int32 × Mi) ⊕ ((Mi))) :=
  if (gi m a0 1) ≤ a2 then
    some (.inr m)
  else
    (f_X8_openPack t m a0 a2).bind fun m8 =>
    lt (a2 + 1) fun x9 =>
    some (.inl (x9, m8))
def f_X8_load_j117 (t : List Sh) (m : Mi) (a0 : Nat) (a2 : Int32) : Option (Mi) :=
  (lp (fun x : Int32 × Mi => f_X8_load_l117 t x.2 a0 x.1) FUEL (a2, m)).bind (fun y : Mi => f_X8_load_j136 t y)
def f_X8_load_j115 (t : List Sh) (m : Mi) (a0 : Nat) : Option (Mi) :=
  f_X8_load_j117 t m a0 0
def f_X8_load_j109 (t : List Sh) (m : Mi) (a0 : Nat) (a1 : Nat) (a2 : Int32) : Option ((Int32 × Mi) ⊕ ((Mi))) :=
  lt (a2 + 1) fun x13 =>
  some (.inl (x13, m))
def f_X8_load_l79 (t : List Sh) (m : Mi) (a0 : Nat) (a1 : Nat) (a2 : Int32) (a3 : Nat) (a4 : Int32) : Option ((Int32 × Mi) ⊕ ((Mi))) :=
  if a3 = 0 then
    some (.inr m)
  else
    (if ob t a3 7 = true then
    if (gi m a3 5) ≤ a4 then
      some (.inr m)
    else
      (f_X8_weaveLink t m a0 ((gi m a3 4) + a4)).bind fun m17 =>
      lt (a4 + 1) fun x18 =>
      some (.inl (x18, m17))
    else none)
def f_X8_load_j79 (t : List Sh) (m : Mi) (a0 : Nat) (a1 : Nat) (a2 : Int32) (a3 : Nat) (a4 : Int32) : Option ((Int32 × Mi) ⊕ ((Mi))) :=
  (lp (fun x : Int32 × Mi => f_X8_load_l79 t x.2 a0 a1 a2 a3 x.1) FUEL (a4, m)).bind (fun y : Mi => f_X8_load_j109 t y a0 a1 a2)
def f_X8_load_l62 (t : List Sh) (m : Mi) (a0 : Nat) (a1 : Nat) (a2 : Int32) : Option ((Int32 × Mi) ⊕ ((Mi))) :=
  (f_X6_releases t m a1).bind fun x10 =>
  if x10 ≤ a2 then
    some (.inr m)
  else
    (f_X6_releaseAt t m a1 a2).bind fun x12 =>
    f_X8_load_j79 t m a0 a1 a2 x12 0
def f_X8_load_j62 (t : List Sh) (m : Mi) (a0 : Nat) (a1 : Nat) (a2 : Int32) : Option (Mi) :=
  (lp (fun x : Int32 × Mi => f_X8_load_l62 t x.2 a0 a1 x.1) FUEL (a2, m)).bind (fun y : Mi => f_X8_load_j115 t y a0)
def f_X8_load_j60 (t : List Sh) (m : Mi) (a0 : Nat) (a1 : Nat) : Option (Mi) :=
  f_X8_load_j62 t m a0 a1 0
def f_X8_load_l38 (t : List Sh) (m : Mi) (a0 : Nat) (a1 : Nat) (a2 : Int32) : Option ((Int32 × Mi) ⊕ ((Mi))) :=
  (if aa t (gr m a0 6) .boolean = true then
  if (Int32.ofNat (ln t (gr m a0 6))) ≤ a2 then
    some (.inr m)
  else
    (if ar t (gr m a0 6) .boolean a2 = true then
    lt (si m (gr m a0 6) (ix a2) (vp_nar .boolean 1)) fun m22 =>
    lt (a2 + 1) fun x23 =>
    some (.inl (x23, m22))
    else none)
  else none)
def f_X8_load_j38 (t : List Sh) (m : Mi) (a0 : Nat) (a1 : Nat) (a2 : Int32) : Option (Mi) :=
  (lp (fun x : Int32 × Mi => f_X8_load_l38 t x.2 a0 a1 x.1) FUEL (a2, m)).bind (fun y : Mi => f_X8_load_j60 t y a0 a1)
def f_X8_load (t : List Sh) (m : Mi) (a0 : Nat) (a1 : Nat) : Option (Mi) :=
  lt (sr m a0 0 a1) fun m1 =>
  (if ob t a1 6 = true then
  (f_X6_packs t m1 a1).bind fun x3 =>
  lt (si m1 a0 1 (if 10 < x3 then 10 else x3)) fun m4 =>
  (f_J7_fill_53178 t m4 (gr m4 a0 2) 127).bind fun m5 =>
  (f_J7_fill_53178 t m5 (gr m5 a0 3) 127).bind fun m6 =>
  f_X8_load_j38 t m6 a0 a1 0
  else none)
set_option maxRecDepth 4000 in
set_option maxHeartbeats 4000000 in
theorem sm_X8_load (t : List Sh) (m : Mi) (a0 : Nat) (a1 : Nat) (h0 : sh t a0 = some (.inl 8)) : Sm u_X8_load (3, 0, 0, t.length, zs t) (kV t) 0 [(0, .inr (.inr a0)), (1, .inr (.inr a1))] [] (t, m) (f_X8_load t m a0 a1) := by
  unfold f_X8_load
  refine r_aload_n 0 1 0 rfl rfl rfl rfl ?_
  refine r_aload_n 1 2 1 rfl rfl rfl rfl ?_
  refine r_putR 2 5 rfl rfl fl_RX8_13 (fun h => by cases h) rfl h0 ?_
  refine r_ltM (fun m1 => ?_)
  refine r_aload_n 3 6 0 rfl rfl rfl rfl ?_
  refine r_aload_n 4 7 1 rfl rfl rfl rfl ?_
  refine r_gd (fun h2 => ?_)
  refine r_VIo 5 10 (st := [.inr (.inr a0)]) (av := [.inr (.inr a1)]) (av' := []) (μ' := u_X6_packs) (d := 1) rfl rfl mc_X6_packs in_X6_packs lk_RX8_41 (Nat.le_of_ble_eq_true rfl) rfl rfl (ob_sh h2) rfl (Nat.le_of_ble_eq_true rfl) (fun _ h => ct_X6_packs (ob_sh h2) h) (fun x3 => ?_)
  refine r_bipush 6 12 (v := 10) rfl rfl (by decide) ?_
  refine r_minI 7 15 rfl rfl lk_RX8_44 (Nat.le_of_ble_eq_true rfl) (Nat.le_of_ble_eq_true rfl) ?_
  refine r_putI 8 18 rfl rfl fl_RX8_17 (fun h => by cases h) (Or.inl rfl) h0 ?_
  refine r_ltM (fun m4 => ?_)
  refine r_aload_n 9 19 0 rfl rfl rfl rfl ?_
  refine r_getR 10 22 rfl rfl fl_RX8_21 rfl h0 ?_
  refine r_bipush 11 24 (v := 127) rfl rfl (by decide) ?_
  refine r_SV 12 27 (a := 0) (cn := 0) (st := []) (av := [.inr (.inr (gr m4 a0 2)), .inl 127]) (μ' := u_J7_fill_53178) (d := 1) rfl rfl mc_J7_fill_53178 st_J7_fill_53178 lk_RX8_50 (Nat.le_of_ble_eq_true rfl) rfl (Nat.le_of_ble_eq_true rfl) (fun _ h => ct_J7_fill_53178 h) (fun m5 => ?_)
  refine r_aload_n 13 28 0 rfl rfl rfl rfl ?_
  refine r_getR 14 31 rfl rfl fl_RX8_25 rfl h0 ?_
  refine r_bipush 15 33 (v := 127) rfl rfl (by decide) ?_
  refine r_SV 16 36 (a := 0) (cn := 0) (st := []) (av := [.inr (.inr (gr m5 a0 3)), .inl 127]) (μ' := u_J7_fill_53178) (d := 1) rfl rfl mc_J7_fill_53178 st_J7_fill_53178 lk_RX8_50 (Nat.le_of_ble_eq_true rfl) rfl (Nat.le_of_ble_eq_true rfl) (fun _ h => ct_J7_fill_53178 h) (fun m6 => ?_)
  refine r_iconst 17 37 (v := 0) rfl rfl (by decide) ?_
  refine r_istore_n 18 38 (L' := [(2, .inl 0), (0, .inr (.inr a0)), (1, .inr (.inr a1))]) rfl rfl rfl (by decide) rfl ?_
  have hj38 : ∀ (m : Mi) (a2 : Int32), Sm u_X8_load (3, 0, 0, t.length, zs t) (kV t) 38 [(0, .inr (.inr a0)), (1, .inr (.inr a1)), (2, .inl a2)] [] (t, m) (f_X8_load_j38 t m a0 a1 a2) := by
    intro m a2
    unfold f_X8_load_j38
    have hj60 : ∀ (m : Mi), Sm u_X8_load (3, 0, 0, t.length, zs t) (kV t) 60 [(0, .inr (.inr a0)), (1, .inr (.inr a1))] [] (t, m) (f_X8_load_j60 t m a0 a1) := by
      intro m
      unfold f_X8_load_j60
      refine r_iconst 31 61 (v := 0) rfl rfl (by decide) ?_
      refine r_istore_n 32 62 (L' := [(2, .inl 0), (0, .inr (.inr a0)), (1, .inr (.inr a1))]) rfl rfl rfl (by decide) rfl ?_
      have hj62 : ∀ (m : Mi) (a2 : Int32), Sm u_X8_load (3, 0, 0, t.length, zs t) (kV t) 62 [(0, .inr (.inr a0)), (1, .inr (.inr a1)), (2, .inl a2)] [] (t, m) (f_X8_load_j62 t m a0 a1 a2) := by
        intro m a2
        unfold f_X8_load_j62
        have hj115 : ∀ (m : Mi), Sm u_X8_load (3, 0, 0, t.length, zs t) (kV t) 115 [(0, .inr (.inr a0))] [] (t, m) (f_X8_load_j115 t m a0) := by
          intro m
          unfold f_X8_load_j115
          refine r_iconst 59 116 (v := 0) rfl rfl (by decide) ?_
          refine r_istore_n 60 117 (L' := [(2, .inl 0), (0, .inr (.inr a0))]) rfl rfl rfl (by decide) rfl ?_
          have hj117 : ∀ (m : Mi) (a2 : Int32), Sm u_X8_load (3, 0, 0, t.length, zs t) (kV t) 117 [(0, .inr (.inr a0)), (2, .inl a2)] [] (t, m) (f_X8_load_j117 t m a0 a2) := by
            intro m a2
            unfold f_X8_load_j117
            have hj136 : ∀ (m : Mi), Sm u_X8_load (3, 0, 0, t.length, zs t) (kV t) 136 [] [] (t, m) (f_X8_load_j136 t m) := by
              intro m
              unfold f_X8_load_j136
              exact r_vret 70 rfl rfl rfl
            refine r_lp (Lf := fun x : Int32 × Mi => [(0, .inr (.inr a0)), (2, .inl (x.1))]) (Mf := fun x : Int32 × Mi => (t, x.2)) (a2, m) ?_ FUEL
            rintro ⟨a2, m⟩ κ117 hc117 he117
            refine r_eq (L' := [(0, .inr (.inr a0)), (2, .inl a2)]) (M' := (t, m)) rfl rfl ?_
            refine r_eqr (r' := f_X8_load_l117 t m a0 a2) rfl ?_
            unfold f_X8_load_l117
            refine r_iload_n 61 118 1 rfl rfl rfl rfl ?_
            refine r_aload_n 62 119 0 rfl rfl rfl rfl ?_
            refine r_getI 63 122 rfl rfl fl_RX8_17 rfl h0 ?_
            refine r_icmp_ge 64 136 125 rfl rfl rfl (fun h7 => ?_) (fun h7 => ?_)
            · refine r_leaf (r2 := (f_X8_load_j136 t m : Option (Mi))) (he117 _) ?_
              exact r_sub [] rfl (hj136 m)
            · refine r_aload_n 65 126 0 rfl rfl rfl rfl ?_
              refine r_iload_n 66 127 1 rfl rfl rfl rfl ?_
              refine r_VV 67 130 (st := []) (av := [.inr (.inr a0), .inl a2]) (av' := [.inl a2]) (μ' := u_X8_openPack) (d := 2) rfl rfl mc_X8_openPack in_X8_openPack lk_RX8_75 (Nat.le_of_ble_eq_true rfl) rfl rfl h0 rfl (Nat.le_of_ble_eq_true rfl) (fun _ h => ct_X8_openPack h0 h) (fun m8 => ?_)
              refine r_iinc 68 133 1 (L' := [(2, .inl (a2 + 1)), (0, .inr (.inr a0))]) rfl rfl rfl (by decide) rfl ?_
              refine r_ltV (fun x9 => ?_)
              refine r_goto 69 117 rfl rfl ?_
              exact r_sub [1, 0] rfl (hc117 (x9, m8))
          exact r_sub [1, 0] rfl (hj117 m 0)
        refine r_lp (Lf := fun x : Int32 × Mi => [(0, .inr (.inr a0)), (1, .inr (.inr a1)), (2, .inl (x.1))]) (Mf := fun x : Int32 × Mi => (t, x.2)) (a2, m) ?_ FUEL
        rintro ⟨a2, m⟩ κ62 hc62 he62
        refine r_eq (L' := [(0, .inr (.inr a0)), (1, .inr (.inr a1)), (2, .inl a2)]) (M' := (t, m)) rfl rfl ?_
        refine r_eqr (r' := f_X8_load_l62 t m a0 a1 a2) rfl ?_
        unfold f_X8_load_l62
        refine r_iload_n 33 63 2 rfl rfl rfl rfl ?_
        refine r_aload_n 34 64 1 rfl rfl rfl rfl ?_
        refine r_VIo 35 67 (st := [.inl a2]) (av := [.inr (.inr a1)]) (av' := []) (μ' := u_X6_releases) (d := 1) rfl rfl mc_X6_releases in_X6_releases lk_RX8_56 (Nat.le_of_ble_eq_true rfl) rfl rfl (ob_sh h2) rfl (Nat.le_of_ble_eq_true rfl) (fun _ h => ct_X6_releases (ob_sh h2) h) (fun x10 => ?_)
        refine r_icmp_ge 36 115 70 rfl rfl rfl (fun h11 => ?_) (fun h11 => ?_)
        · refine r_leaf (r2 := (f_X8_load_j115 t m a0 : Option (Mi))) (he62 _) ?_
          exact r_sub [0] rfl (hj115 m)
        · refine r_aload_n 37 71 1 rfl rfl rfl rfl ?_
          refine r_iload_n 38 72 2 rfl rfl rfl rfl ?_
          refine r_VRo 39 75 (st := []) (av := [.inr (.inr a1), .inl a2]) (av' := [.inl a2]) (μ' := u_X6_releaseAt) (d := 1) rfl rfl mc_X6_releaseAt in_X6_releaseAt lk_RX8_59 (Nat.le_of_ble_eq_true rfl) rfl rfl (ob_sh h2) rfl (Nat.le_of_ble_eq_true rfl) (fun _ h => ct_X6_releaseAt (ob_sh h2) h) (fun x12 => ?_)
          refine r_astore_n 40 76 (L' := [(3, .inr (.inr x12)), (0, .inr (.inr a0)), (1, .inr (.inr a1)), (2, .inl a2)]) rfl rfl rfl (by decide) rfl ?_
          refine r_iconst 41 77 (v := 0) rfl rfl (by decide) ?_
          refine r_istore 42 79 (L' := [(4, .inl 0), (3, .inr (.inr x12)), (0, .inr (.inr a0)), (1, .inr (.inr a1)), (2, .inl a2)]) rfl rfl (by decide) rfl ?_
          have hj79 : ∀ (m : Mi) (a2 : Int32) (a3 : Nat) (a4 : Int32), Sm u_X8_load (3, 0, 0, t.length, zs t) κ62 79 [(0, .inr (.inr a0)), (1, .inr (.inr a1)), (2, .inl a2), (3, .inr (.inr a3)), (4, .inl a4)] [] (t, m) (f_X8_load_j79 t m a0 a1 a2 a3 a4) := by
            intro m a2 a3 a4
            unfold f_X8_load_j79
            have hj109 : ∀ (m : Mi) (a2 : Int32), Sm u_X8_load (3, 0, 0, t.length, zs t) κ62 109 [(0, .inr (.inr a0)), (1, .inr (.inr a1)), (2, .inl a2)] [] (t, m) (f_X8_load_j109 t m a0 a1 a2) := by
              intro m a2
              unfold f_X8_load_j109
              refine r_iinc 57 112 2 (L' := [(2, .inl (a2 + 1)), (0, .inr (.inr a0)), (1, .inr (.inr a1))]) rfl rfl rfl (by decide) rfl ?_
              refine r_ltV (fun x13 => ?_)
              refine r_goto 58 62 rfl rfl ?_
              exact r_sub [1, 2, 0] rfl (hc62 (x13, m))
            refine r_lp (Lf := fun x : Int32 × Mi => [(0, .inr (.inr a0)), (1, .inr (.inr a1)), (2, .inl a2), (3, .inr (.inr a3)), (4, .inl (x.1))]) (Mf := fun x : Int32 × Mi => (t, x.2)) (a4, m) ?_ FUEL
            rintro ⟨a4, m⟩ κ79 hc79 he79
            refine r_eq (L' := [(0, .inr (.inr a0)), (1, .inr (.inr a1)), (2, .inl a2), (3, .inr (.inr a3)), (4, .inl a4)]) (M' := (t, m)) rfl rfl ?_
            refine r_eqr (r' := f_X8_load_l79 t m a0 a1 a2 a3 a4) rfl ?_
            unfold f_X8_load_l79
            refine r_aload_n 43 80 3 rfl rfl rfl rfl ?_
            refine r_ifnull 44 109 83 rfl rfl rfl (fun h14 => ?_) (fun h14 => ?_)
            · refine r_leaf (r2 := (f_X8_load_j109 t m a0 a1 a2 : Option ((Int32 × Mi) ⊕ ((Mi))))) (he79 _) ?_
              exact r_sub [0, 1, 2] rfl (hj109 m a2)
            · refine r_iload 45 85 4 rfl rfl rfl ?_
              refine r_aload_n 46 86 3 rfl rfl rfl rfl ?_
              refine r_gd (fun h15 => ?_)
              refine r_getI 47 89 rfl rfl fl_RX8_63 rfl (ob_sh h15) ?_
              refine r_icmp_ge 48 109 92 rfl rfl rfl (fun h16 => ?_) (fun h16 => ?_)
              · refine r_leaf (r2 := (f_X8_load_j109 t m a0 a1 a2 : Option ((Int32 × Mi) ⊕ ((Mi))))) (he79 _) ?_
                exact r_sub [0, 1, 2] rfl (hj109 m a2)
              · refine r_aload_n 49 93 0 rfl rfl rfl rfl ?_
                refine r_aload_n 50 94 3 rfl rfl rfl rfl ?_
                refine r_getI 51 97 rfl rfl fl_RX8_68 rfl (ob_sh h15) ?_
                refine r_iload 52 99 4 rfl rfl rfl ?_
                refine r_iadd 53 100 rfl rfl ?_
                refine r_VV 54 103 (st := []) (av := [.inr (.inr a0), .inl ((gi m a3 4) + a4)]) (av' := [.inl ((gi m a3 4) + a4)]) (μ' := u_X8_weaveLink) (d := 2) rfl rfl mc_X8_weaveLink in_X8_weaveLink lk_RX8_71 (Nat.le_of_ble_eq_true rfl) rfl rfl h0 rfl (Nat.le_of_ble_eq_true rfl) (fun _ h => ct_X8_weaveLink h0 h) (fun m17 => ?_)
                refine r_iinc 55 106 4 (L' := [(4, .inl (a4 + 1)), (0, .inr (.inr a0)), (1, .inr (.inr a1)), (2, .inl a2), (3, .inr (.inr a3))]) rfl rfl rfl (by decide) rfl ?_
                refine r_ltV (fun x18 => ?_)
                refine r_goto 56 79 rfl rfl ?_
                exact r_sub [1, 2, 3, 4, 0] rfl (hc79 (x18, m17))
          exact r_sub [2, 3, 4, 1, 0] rfl (hj79 m a2 x12 0)
      exact r_sub [1, 2, 0] rfl (hj62 m 0)
    refine r_lp (Lf := fun x : Int32 × Mi => [(0, .inr (.inr a0)), (1, .inr (.inr a1)), (2, .inl (x.1))]) (Mf := fun x : Int32 × Mi => (t, x.2)) (a2, m) ?_ FUEL
    rintro ⟨a2, m⟩ κ38 hc38 he38
    refine r_eq (L' := [(0, .inr (.inr a0)), (1, .inr (.inr a1)), (2, .inl a2)]) (M' := (t, m)) rfl rfl ?_
    refine r_eqr (r' := f_X8_load_l38 t m a0 a1 a2) rfl ?_
    unfold f_X8_load_l38
    refine r_iload_n 19 39 2 rfl rfl rfl rfl ?_
    refine r_aload_n 20 40 0 rfl rfl rfl rfl ?_
    refine r_getR 21 43 rfl rfl fl_RX8_34 rfl h0 ?_
    refine r_gd (fun h19 => ?_)
    refine r_alen 22 44 3 rfl rfl (fun _ => rfl) h19 ?_
    refine r_icmp_ge 23 60 47 rfl rfl rfl (fun h20 => ?_) (fun h20 => ?_)
    · refine r_leaf (r2 := (f_X8_load_j60 t m a0 a1 : Option (Mi))) (he38 _) ?_
      exact r_sub [0, 1] rfl (hj60 m)
    · refine r_aload_n 24 48 0 rfl rfl rfl rfl ?_
      refine r_getR 25 51 rfl rfl fl_RX8_34 rfl h0 ?_
      refine r_iload_n 26 52 2 rfl rfl rfl rfl ?_
      refine r_iconst 27 53 (v := 1) rfl rfl (by decide) ?_
      refine r_gd (fun h21 => ?_)
      refine r_zast 28 54 rfl rfl h21 ?_
      refine r_ltM (fun m22 => ?_)
      refine r_iinc 29 57 2 (L' := [(2, .inl (a2 + 1)), (0, .inr (.inr a0)), (1, .inr (.inr a1))]) rfl rfl rfl (by decide) rfl ?_
      refine r_ltV (fun x23 => ?_)
      refine r_goto 30 38 rfl rfl ?_
      exact r_sub [1, 2, 0] rfl (hc38 (x23, m22))
  exact r_sub [1, 2, 0] rfl (hj38 m6 0)
theorem ct_X8_load {t : List Sh} {m : Mi} {a0 : Nat} {a1 : Nat} {m' : Mi}  (h0 : sh t a0 = some (.inl 8)) (h : f_X8_load t m a0 a1 = some m') : Ct u_X8_load 3 0 0 [.inr (.inr a0), .inr (.inr a1)] (t, m) (none, (t, m')) :=
  ct_of (by decide) tk_X8_load (Nat.le_of_ble_eq_true rfl) (sm_X8_load t m a0 a1 h0) (by rw [h]; rfl) (Nat.le_refl _) (Nat.le_refl _)
def tb_X8_setActive : Tb := [(0, (.aload_n 0, 1)), (1, (.getfield 13, 3)), (4, (.iload_n 1, 1)), (5, (.invokevirtual 161, 3)), (8, (.astore_n 3, 1)), (9, (.aload_n 3, 1)), (10, (.ifnull 16, 3)), (13, (.iload_n 1, 1)), (14, (.ifCond .lt 12, 3)), (17, (.iload_n 1, 1)), (18, (.aload_n 0, 1)), (19, (.getfield 34, 3)), (22, (.arraylength, 1)), (23, (.if_icmp .lt 4, 3)), (26, (.return_, 1)), (27, (.aload_n 0, 1)), (28, (.getfield 34, 3)), (31, (.iload_n 1, 1)), (32, (.iload_n 2, 1)), (33, (.bastore, 1)), (34, (.aload_n 3, 1)), (35, (.getfield 165, 3)), (38, (.iconst 4, 1)), (39, (.if_icmp .eq 8, 3)), (42, (.aload_n 0, 1)), (43, (.iload_n 1, 1)), (44, (.invokevirtual 71, 3)), (47, (.aload_n 0, 1)), (48, (.aload_n 3, 1)), (49, (.getfield 172, 3)), (52, (.invokevirtual 75, 3)), (55, (.return_, 1))]
def u_X8_setActive : Fx := (yX8_setActive, (cX8_setActive, (4, (none, tb_X8_setActive))))
theorem tk_X8_setActive : ∀ q ∈ u_X8_setActive.2.2.2.2, decode u_X8_setActive.2.1 q.1 = .ok q.2 := by decide +kernel
theorem mc_X8_setActive : MC u_X8_setActive 2 := ⟨tbm 1225 (by decide +kernel) rfl, tbm 125 (by decide +kernel) rfl, ⟨by decide, by decide, by decide +kernel⟩, by decide⟩
theorem in_X8_setActive : Cond.instanceMethod u_X8_setActive.1 ∈ TB ∧ Cond.selects u_X8_setActive.1.cls u_X8_setActive.1 u_X8_setActive.1 ∈ TB := ⟨tbm 1224 (by decide +kernel) rfl, tbm 61 (by decide +kernel) rfl⟩
def f_X8_setActive_j47 (t : List Sh) (m : Mi) (a0 : Nat) (a3 : Nat) : Option (Mi) :=
  (if ob t a3 0 = true then
  (f_X8_openPack t m a0 (gi m a3 4)).bind fun m11 =>
  some m11
  else none)
def f_X8_setActive (t : List Sh) (m : Mi) (a0 : Nat) (a1 : Int32) (a2 : Int32) : Option (Mi) :=
  (if ob t (gr m a0 0) 6 = true then
  (f_X6_constraintAt t m (gr m a0 0) a1).bind fun x2 =>
  if x2 = 0 then
    some m
  else
    if a1 < 0 then
      some m
    else
      (if aa t (gr m a0 6) .boolean = true then
      if a1 < (Int32.ofNat (ln t (gr m a0 6))) then
        (if ar t (gr m a0 6) .boolean a1 = true then
        lt (si m (gr m a0 6) (ix a1) (vp_nar .boolean a2)) fun m8 =>
        (if ob t x2 0 = true then
        if (gi m8 x2 0) = 4 then
          f_X8_setActive_j47 t m8 a0 x2
        else
          (f_X8_weaveLink t m8 a0 a1).bind fun m13 =>
          f_X8_setActive_j47 t m13 a0 x2
        else none)
        else none)
      else
        some m
      else none)
  else none)
set_option maxRecDepth 4000 in
set_option maxHeartbeats 4000000 in
theorem sm_X8_setActive (t : List Sh) (m : Mi) (a0 : Nat) (a1 : Int32) (a2 : Int32) (h0 : sh t a0 = some (.inl 8)) : Sm u_X8_setActive (3, 0, 0, t.length, zs t) (kV t) 0 [(0, .inr (.inr a0)), (1, .inl a1), (2, .inl a2)] [] (t, m) (f_X8_setActive t m a0 a1 a2) := by
  unfold f_X8_setActive
  refine r_aload_n 0 1 0 rfl rfl rfl rfl ?_
  refine r_getR 1 4 rfl rfl fl_RX8_13 rfl h0 ?_
  refine r_iload_n 2 5 1 rfl rfl rfl rfl ?_
  refine r_gd (fun h1 => ?_)
  refine r_VRo 3 8 (st := []) (av := [.inr (.inr (gr m a0 0)), .inl a1]) (av' := [.inl a1]) (μ' := u_X6_constraintAt) (d := 1) rfl rfl mc_X6_constraintAt in_X6_constraintAt lk_RX8_161 (Nat.le_of_ble_eq_true rfl) rfl rfl (ob_sh h1) rfl (Nat.le_of_ble_eq_true rfl) (fun _ h => ct_X6_constraintAt (ob_sh h1) h) (fun x2 => ?_)
  refine r_astore_n 4 9 (L' := [(3, .inr (.inr x2)), (0, .inr (.inr a0)), (1, .inl a1), (2, .inl a2)]) rfl rfl rfl (by decide) rfl ?_
  refine r_aload_n 5 10 0 rfl rfl rfl rfl ?_
  refine r_ifnull 6 26 13 rfl rfl rfl (fun h3 => ?_) (fun h3 => ?_)
  · exact r_vret 14 rfl rfl rfl
  · refine r_iload_n 7 14 2 rfl rfl rfl rfl ?_
    refine r_if_lt 8 26 17 rfl rfl rfl (fun h4 => ?_) (fun h4 => ?_)
    · exact r_vret 14 rfl rfl rfl
    · refine r_iload_n 9 18 2 rfl rfl rfl rfl ?_
      refine r_aload_n 10 19 1 rfl rfl rfl rfl ?_
      refine r_getR 11 22 rfl rfl fl_RX8_34 rfl h0 ?_
      refine r_gd (fun h5 => ?_)
      refine r_alen 12 23 3 rfl rfl (fun _ => rfl) h5 ?_
      refine r_icmp_lt 13 27 26 rfl rfl rfl (fun h6 => ?_) (fun h6 => ?_)
      · refine r_aload_n 15 28 1 rfl rfl rfl rfl ?_
        refine r_getR 16 31 rfl rfl fl_RX8_34 rfl h0 ?_
        refine r_iload_n 17 32 2 rfl rfl rfl rfl ?_
        refine r_iload_n 18 33 3 rfl rfl rfl rfl ?_
        refine r_gd (fun h7 => ?_)
        refine r_zast 19 34 rfl rfl h7 ?_
        refine r_ltM (fun m8 => ?_)
        refine r_aload_n 20 35 0 rfl rfl rfl rfl ?_
        refine r_gd (fun h9 => ?_)
        refine r_getI 21 38 rfl rfl fl_RX8_165 rfl (ob_sh h9) ?_
        refine r_iconst 22 39 (v := 4) rfl rfl (by decide) ?_
        have hj47 : ∀ (m : Mi) (a3 : Nat), Sm u_X8_setActive (3, 0, 0, t.length, zs t) (kV t) 47 [(0, .inr (.inr a0)), (3, .inr (.inr a3))] [] (t, m) (f_X8_setActive_j47 t m a0 a3) := by
          intro m a3
          unfold f_X8_setActive_j47
          refine r_aload_n 27 48 0 rfl rfl rfl rfl ?_
          refine r_aload_n 28 49 1 rfl rfl rfl rfl ?_
          refine r_gd (fun h10 => ?_)
          refine r_getI 29 52 rfl rfl fl_RX8_172 rfl (ob_sh h10) ?_
          refine r_VV 30 55 (st := []) (av := [.inr (.inr a0), .inl (gi m a3 4)]) (av' := [.inl (gi m a3 4)]) (μ' := u_X8_openPack) (d := 2) rfl rfl mc_X8_openPack in_X8_openPack lk_RX8_75 (Nat.le_of_ble_eq_true rfl) rfl rfl h0 rfl (Nat.le_of_ble_eq_true rfl) (fun _ h => ct_X8_openPack h0 h) (fun m11 => ?_)
          exact r_vret 31 rfl rfl rfl
        refine r_icmp_eq 23 47 42 rfl rfl rfl (fun h12 => ?_) (fun h12 => ?_)
        · exact r_sub [1, 0] rfl (hj47 m8 x2)
        · refine r_aload_n 24 43 1 rfl rfl rfl rfl ?_
          refine r_iload_n 25 44 2 rfl rfl rfl rfl ?_
          refine r_VV 26 47 (st := []) (av := [.inr (.inr a0), .inl a1]) (av' := [.inl a1]) (μ' := u_X8_weaveLink) (d := 2) rfl rfl mc_X8_weaveLink in_X8_weaveLink lk_RX8_71 (Nat.le_of_ble_eq_true rfl) rfl rfl h0 rfl (Nat.le_of_ble_eq_true rfl) (fun _ h => ct_X8_weaveLink h0 h) (fun m13 => ?_)
          exact r_sub [1, 0] rfl (hj47 m13 x2)
      · exact r_vret 14 rfl rfl rfl
theorem ct_X8_setActive {t : List Sh} {m : Mi} {a0 : Nat} {a1 : Int32} {a2 : Int32} {m' : Mi}  (h0 : sh t a0 = some (.inl 8)) (h : f_X8_setActive t m a0 a1 a2 = some m') : Ct u_X8_setActive 3 0 0 [.inr (.inr a0), .inl a1, .inl a2] (t, m) (none, (t, m')) :=
  ct_of (by decide) tk_X8_setActive (Nat.le_of_ble_eq_true rfl) (sm_X8_setActive t m a0 a1 a2 h0) (by rw [h]; rfl) (Nat.le_refl _) (Nat.le_refl _)
theorem lk_RX8_124 : Cond.methodLink RX8 124 yX8_tallyFrom ∈ TB := tbm 1256 (by decide +kernel) rfl
def tb_X8_tallyFrom : Tb := [(0, (.iconst (-1), 1)), (1, (.istore 4, 2)), (3, (.iload_n 1, 1)), (4, (.aload_n 0, 1)), (5, (.getfield 17, 3)), (8, (.if_icmp .ge 32, 3)), (11, (.aload_n 0, 1)), (12, (.iload_n 1, 1)), (13, (.iload_n 2, 1)), (14, (.iconst 1, 1)), (15, (.invokevirtual 152, 3)), (18, (.istore 4, 2)), (20, (.iload 4, 2)), (22, (.iconst (-1), 1)), (23, (.if_icmp .ne 13, 3)), (26, (.aload_n 0, 1)), (27, (.iload_n 1, 1)), (28, (.iload_n 2, 1)), (29, (.iconst 0, 1)), (30, (.invokevirtual 152, 3)), (33, (.goto 5, 3)), (36, (.iload 4, 2)), (38, (.istore 4, 2)), (40, (.iload 4, 2)), (42, (.iconst (-1), 1)), (43, (.if_icmp .ne 5, 3)), (46, (.iconst 1, 1)), (47, (.ireturn, 1)), (48, (.iload_n 1, 1)), (49, (.aload_n 0, 1)), (50, (.getfield 17, 3)), (53, (.iconst 1, 1)), (54, (.isub, 1)), (55, (.if_icmp .ne 23, 3)), (58, (.iload_n 3, 1)), (59, (.aload_n 0, 1)), (60, (.getfield 28, 3)), (63, (.iload_n 1, 1)), (64, (.bipush 10, 2)), (66, (.imul, 1)), (67, (.iload 4, 2)), (69, (.iadd, 1)), (70, (.iaload, 1)), (71, (.invokestatic 156, 3)), (74, (.invokestatic 44, 3)), (77, (.ireturn, 1)), (78, (.iconst 0, 1)), (79, (.istore 5, 2)), (81, (.iconst 0, 1)), (82, (.istore 6, 2)), (84, (.iload 6, 2)), (86, (.bipush 7, 2)), (88, (.if_icmp .ge 61, 3)), (91, (.iload 5, 2)), (93, (.iload_n 3, 1)), (94, (.if_icmp .ge 55, 3)), (97, (.aload_n 0, 1)), (98, (.iload_n 1, 1)), (99, (.iload 4, 2)), (101, (.iload 6, 2)), (103, (.invokevirtual 144, 3)), (106, (.ifCond .eq 37, 3)), (109, (.aload_n 0, 1)), (110, (.iload_n 1, 1)), (111, (.iload 4, 2)), (113, (.iload 6, 2)), (115, (.invokevirtual 148, 3)), (118, (.ifCond .ne 25, 3)), (121, (.iload 5, 2)), (123, (.aload_n 0, 1)), (124, (.iload_n 1, 1)), (125, (.iconst 1, 1)), (126, (.iadd, 1)), (127, (.iload_n 2, 1)), (128, (.iconst 1, 1)), (129, (.iload 4, 2)), (131, (.ishl, 1)), (132, (.ior, 1)), (133, (.iload_n 3, 1)), (134, (.iload 5, 2)), (136, (.isub, 1)), (137, (.invokestatic 124, 3)), (140, (.iadd, 1)), (141, (.istore 5, 2)), (143, (.iinc 6 1, 3)), (146, (.goto (-62), 3)), (149, (.iload 5, 2)), (151, (.ireturn, 1))]
def u_X8_tallyFrom : Fx := (yX8_tallyFrom, (cX8_tallyFrom, (7, ((some .int), tb_X8_tallyFrom))))
theorem tk_X8_tallyFrom : ∀ q ∈ u_X8_tallyFrom.2.2.2.2, decode u_X8_tallyFrom.2.1 q.1 = .ok q.2 := by decide +kernel
theorem mc_X8_tallyFrom : MC u_X8_tallyFrom 4 := ⟨tbm 1258 (by decide +kernel) rfl, tbm 125 (by decide +kernel) rfl, ⟨by decide, by decide, by decide +kernel⟩, by decide⟩
theorem st_X8_tallyFrom : Cond.static u_X8_tallyFrom.1 ∈ TB := tbm 1257 (by decide +kernel) rfl
def f_X8_tallyFrom_j149 (rc : List Sh → Mi → Nat → Int32 → Int32 → Int32 → Option (Int32 × Mi)) (t : List Sh) (m : Mi) (a5 : Int32) : Option (Int32 × Mi) :=
  some (a5, m)
def f_X8_tallyFrom_l84 (rc : List Sh → Mi → Nat → Int32 → Int32 → Int32 → Option (Int32 × Mi)) (t : List Sh) (m : Mi) (a0 : Nat) (a1 : Int32) (a2 : Int32) (a3 : Int32) (a4 : Int32) (a5 : Int32) (a6 : Int32) : Option ((Int32 × Int32 × Mi) ⊕ ((Int32 × Mi))) :=
  if 7 ≤ a6 then
    some (.inr (a5, m))
  else
    if a3 ≤ a5 then
      some (.inr (a5, m))
    else
      (f_X8_isOpen t m a0 a1 a4 a6).bind fun x8 =>
      if x8 = 0 then
        lt (a6 + 1) fun x10 =>
        some (.inl (a5, x10, m))
      else
        bd (f_X8_lay t m a0 a1 a4 a6) fun x11 m12 =>
        if x11 = 0 then
          bd (rc t m12 a0 (a1 + 1) (a2 ||| (1 <<< (a4 &&& 31))) (a3 - a5)) fun x14 m15 =>
          lt (a5 + x14) fun x16 =>
          lt (a6 + 1) fun x17 =>
          some (.inl (x16, x17, m15))
        else
          lt (a6 + 1) fun x18 =>
          some (.inl (a5, x18, m12))
def f_X8_tallyFrom_j84 (rc : List Sh → Mi → Nat → Int32 → Int32 → Int32 → Option (Int32 × Mi)) (t : List Sh) (m : Mi) (a0 : Nat) (a1 : Int32) (a2 : Int32) (a3 : Int32) (a4 : Int32) (a5 : Int32) (a6 : Int32) : Option (Int32 × Mi) :=
  (lp (fun x : Int32 × Int32 × Mi => f_X8_tallyFrom_l84 rc t x.2.2 a0 a1 a2 a3 a4 x.1 x.2.1) FUEL (a5, a6, m)).bind (fun y : Int32 × Mi => f_X8_tallyFrom_j149 rc t (y.2) (y.1))
def f_X8_tallyFrom_j40 (rc : List Sh → Mi → Nat → Int32 → Int32 → Int32 → Option (Int32 × Mi)) (t : List Sh) (m : Mi) (a0 : Nat) (a1 : Int32) (a2 : Int32) (a3 : Int32) (a4 : Int32) : Option (Int32 × Mi) :=
  if a4 = (-1) then
    some (1, m)
  else
    if a1 = ((gi m a0 1) - 1) then
      (if ar t (gr m a0 4) .int ((a1 * 10) + a4) = true then
      (f_J6_bitCount_0f7a4 (gi m (gr m a0 4) (ix ((a1 * 10) + a4)))).bind fun x5 =>
      some (if x5 < a3 then x5 else a3, m)
      else none)
    else
      f_X8_tallyFrom_j84 rc t m a0 a1 a2 a3 a4 0 0
def f_X8_tallyFrom_j38 (rc : List Sh → Mi → Nat → Int32 → Int32 → Int32 → Option (Int32 × Mi)) (t : List Sh) (m : Mi) (a0 : Nat) (a1 : Int32) (a2 : Int32) (a3 : Int32) (s0 : Int32) : Option (Int32 × Mi) :=
  f_X8_tallyFrom_j40 rc t m a0 a1 a2 a3 s0
def f_X8_tallyFrom_b (rc : List Sh → Mi → Nat → Int32 → Int32 → Int32 → Option (Int32 × Mi)) (t : List Sh) (m : Mi) (a0 : Nat) (a1 : Int32) (a2 : Int32) (a3 : Int32) : Option (Int32 × Mi) :=
  (if ob t a0 8 = true then
  if (gi m a0 1) ≤ a1 then
    f_X8_tallyFrom_j40 rc t m a0 a1 a2 a3 (-1)
  else
    (f_X8_smallestPack t m a0 a1 a2 1).bind fun x20 =>
    if x20 = (-1) then
      (f_X8_smallestPack t m a0 a1 a2 0).bind fun x22 =>
      f_X8_tallyFrom_j38 rc t m a0 a1 a2 a3 x22
    else
      f_X8_tallyFrom_j38 rc t m a0 a1 a2 a3 x20
  else none)
def f_X8_tallyFrom : Nat → List Sh → Mi → Nat → Int32 → Int32 → Int32 → Option (Int32 × Mi)
  | 0, _, _, _, _, _, _ => none
  | n + 1, t, m, a0, a1, a2, a3 => f_X8_tallyFrom_b (f_X8_tallyFrom n) t m a0 a1 a2 a3
set_option maxRecDepth 4000 in
set_option maxHeartbeats 4000000 in
theorem sm_X8_tallyFrom_b (rc : List Sh → Mi → Nat → Int32 → Int32 → Int32 → Option (Int32 × Mi)) (d : Nat) (hdD : 3 ≤ d) (t : List Sh) (hrc : ∀ {m : Mi} {a0 : Nat} {a1 : Int32} {a2 : Int32} {a3 : Int32} {m' : Mi} {v : Int32}, rc t m a0 a1 a2 a3 = some (v, m') → Ct u_X8_tallyFrom d 0 0 [.inr (.inr a0), .inl a1, .inl a2, .inl a3] (t, m) (some (.inl v), (t, m'))) (m : Mi) (a0 : Nat) (a1 : Int32) (a2 : Int32) (a3 : Int32) : Sm u_X8_tallyFrom (d + 1, 0, 0, t.length, zs t) (kI t) 0 [(0, .inr (.inr a0)), (1, .inl a1), (2, .inl a2), (3, .inl a3)] [] (t, m) (f_X8_tallyFrom_b rc t m a0 a1 a2 a3) := by
  unfold f_X8_tallyFrom_b
  refine r_iconst 0 1 (v := (-1)) rfl rfl (by decide) ?_
  refine r_istore 1 3 (L' := [(4, .inl (-1)), (0, .inr (.inr a0)), (1, .inl a1), (2, .inl a2), (3, .inl a3)]) rfl rfl (by decide) rfl ?_
  refine r_iload_n 2 4 2 rfl rfl rfl rfl ?_
  refine r_aload_n 3 5 1 rfl rfl rfl rfl ?_
  refine r_gd (fun h1 => ?_)
  refine r_getI 4 8 rfl rfl fl_RX8_17 rfl (ob_sh h1) ?_
  have hj40 : ∀ (m : Mi) (a4 : Int32), Sm u_X8_tallyFrom (d + 1, 0, 0, t.length, zs t) (kI t) 40 [(0, .inr (.inr a0)), (1, .inl a1), (2, .inl a2), (3, .inl a3), (4, .inl a4)] [] (t, m) (f_X8_tallyFrom_j40 rc t m a0 a1 a2 a3 a4) := by
    intro m a4
    unfold f_X8_tallyFrom_j40
    refine r_iload 23 42 4 rfl rfl rfl ?_
    refine r_iconst 24 43 (v := (-1)) rfl rfl (by decide) ?_
    refine r_icmp_ne 25 48 46 rfl rfl rfl (fun h2 => ?_) (fun h2 => ?_)
    · refine r_iconst 26 47 (v := 1) rfl rfl (by decide) ?_
      exact r_iret 27 rfl rfl rfl
    · refine r_iload_n 28 49 1 rfl rfl rfl rfl ?_
      refine r_aload_n 29 50 0 rfl rfl rfl rfl ?_
      refine r_getI 30 53 rfl rfl fl_RX8_17 rfl (ob_sh h1) ?_
      refine r_iconst 31 54 (v := 1) rfl rfl (by decide) ?_
      refine r_isub 32 55 rfl rfl ?_
      refine r_icmp_ne 33 78 58 rfl rfl rfl (fun h3 => ?_) (fun h3 => ?_)
      · refine r_iload_n 34 59 3 rfl rfl rfl rfl ?_
        refine r_aload_n 35 60 0 rfl rfl rfl rfl ?_
        refine r_getR 36 63 rfl rfl fl_RX8_28 rfl (ob_sh h1) ?_
        refine r_iload_n 37 64 1 rfl rfl rfl rfl ?_
        refine r_bipush 38 66 (v := 10) rfl rfl (by decide) ?_
        refine r_imul 39 67 rfl rfl ?_
        refine r_iload 40 69 4 rfl rfl rfl ?_
        refine r_iadd 41 70 rfl rfl ?_
        refine r_gd (fun h4 => ?_)
        refine r_iald 42 71 rfl rfl h4 ?_
        refine r_SIo 43 74 (a := 0) (cn := 0) (st := [.inl a3]) (av := [.inl (gi m (gr m a0 4) (ix ((a1 * 10) + a4)))]) (μ' := u_J6_bitCount_0f7a4) (d := 1) rfl rfl mc_J6_bitCount_0f7a4 st_J6_bitCount_0f7a4 lk_RX8_156 (by show 1 < d + 1; omega) rfl (Nat.le_of_ble_eq_true rfl) (fun _ h => ct_J6_bitCount_0f7a4 h) (fun x5 => ?_)
        refine r_minI 44 77 rfl rfl lk_RX8_44 (Nat.le_of_ble_eq_true rfl) (Nat.le_of_ble_eq_true rfl) ?_
        exact r_iret 45 rfl rfl rfl
      · refine r_iconst 46 79 (v := 0) rfl rfl (by decide) ?_
        refine r_istore 47 81 (L' := [(5, .inl 0), (0, .inr (.inr a0)), (1, .inl a1), (2, .inl a2), (3, .inl a3), (4, .inl a4)]) rfl rfl (by decide) rfl ?_
        refine r_iconst 48 82 (v := 0) rfl rfl (by decide) ?_
        refine r_istore 49 84 (L' := [(6, .inl 0), (5, .inl 0), (0, .inr (.inr a0)), (1, .inl a1), (2, .inl a2), (3, .inl a3), (4, .inl a4)]) rfl rfl (by decide) rfl ?_
        have hj84 : ∀ (m : Mi) (a4 : Int32) (a5 : Int32) (a6 : Int32), Sm u_X8_tallyFrom (d + 1, 0, 0, t.length, zs t) (kI t) 84 [(0, .inr (.inr a0)), (1, .inl a1), (2, .inl a2), (3, .inl a3), (4, .inl a4), (5, .inl a5), (6, .inl a6)] [] (t, m) (f_X8_tallyFrom_j84 rc t m a0 a1 a2 a3 a4 a5 a6) := by
          intro m a4 a5 a6
          unfold f_X8_tallyFrom_j84
          have hj149 : ∀ (m : Mi) (a5 : Int32), Sm u_X8_tallyFrom (d + 1, 0, 0, t.length, zs t) (kI t) 149 [(5, .inl a5)] [] (t, m) (f_X8_tallyFrom_j149 rc t m a5) := by
            intro m a5
            unfold f_X8_tallyFrom_j149
            refine r_iload 86 151 0 rfl rfl rfl ?_
            exact r_iret 87 rfl rfl rfl
          refine r_lp (Lf := fun x : Int32 × Int32 × Mi => [(0, .inr (.inr a0)), (1, .inl a1), (2, .inl a2), (3, .inl a3), (4, .inl a4), (5, .inl (x.1)), (6, .inl (x.2.1))]) (Mf := fun x : Int32 × Int32 × Mi => (t, x.2.2)) (a5, a6, m) ?_ FUEL
          rintro ⟨a5, a6, m⟩ κ84 hc84 he84
          refine r_eq (L' := [(0, .inr (.inr a0)), (1, .inl a1), (2, .inl a2), (3, .inl a3), (4, .inl a4), (5, .inl a5), (6, .inl a6)]) (M' := (t, m)) rfl rfl ?_
          refine r_eqr (r' := f_X8_tallyFrom_l84 rc t m a0 a1 a2 a3 a4 a5 a6) rfl ?_
          unfold f_X8_tallyFrom_l84
          refine r_iload 50 86 6 rfl rfl rfl ?_
          refine r_bipush 51 88 (v := 7) rfl rfl (by decide) ?_
          refine r_icmp_ge 52 149 91 rfl rfl rfl (fun h6 => ?_) (fun h6 => ?_)
          · refine r_leaf (r2 := (f_X8_tallyFrom_j149 rc t m a5 : Option (Int32 × Mi))) (he84 _) ?_
            exact r_sub [5] rfl (hj149 m a5)
          · refine r_iload 53 93 5 rfl rfl rfl ?_
            refine r_iload_n 54 94 3 rfl rfl rfl rfl ?_
            refine r_icmp_ge 55 149 97 rfl rfl rfl (fun h7 => ?_) (fun h7 => ?_)
            · refine r_leaf (r2 := (f_X8_tallyFrom_j149 rc t m a5 : Option (Int32 × Mi))) (he84 _) ?_
              exact r_sub [5] rfl (hj149 m a5)
            · refine r_aload_n 56 98 0 rfl rfl rfl rfl ?_
              refine r_iload_n 57 99 1 rfl rfl rfl rfl ?_
              refine r_iload 58 101 4 rfl rfl rfl ?_
              refine r_iload 59 103 6 rfl rfl rfl ?_
              refine r_VIo 60 106 (st := []) (av := [.inr (.inr a0), .inl a1, .inl a4, .inl a6]) (av' := [.inl a1, .inl a4, .inl a6]) (μ' := u_X8_isOpen) (d := 1) rfl rfl mc_X8_isOpen in_X8_isOpen lk_RX8_144 (by show 1 < d + 1; omega) rfl rfl (ob_sh h1) rfl (Nat.le_of_ble_eq_true rfl) (fun _ h => ct_X8_isOpen (ob_sh h1) h) (fun x8 => ?_)
              refine r_if_eq 61 143 109 rfl rfl rfl (fun h9 => ?_) (fun h9 => ?_)
              · refine r_iinc 84 146 6 (L' := [(6, .inl (a6 + 1)), (0, .inr (.inr a0)), (1, .inl a1), (2, .inl a2), (3, .inl a3), (4, .inl a4), (5, .inl a5)]) rfl rfl rfl (by decide) rfl ?_
                refine r_ltV (fun x10 => ?_)
                refine r_goto 85 84 rfl rfl ?_
                exact r_sub [1, 2, 3, 4, 5, 6, 0] rfl (hc84 (a5, x10, m))
              · refine r_aload_n 62 110 0 rfl rfl rfl rfl ?_
                refine r_iload_n 63 111 1 rfl rfl rfl rfl ?_
                refine r_iload 64 113 4 rfl rfl rfl ?_
                refine r_iload 65 115 6 rfl rfl rfl ?_
                refine r_VI 66 118 (st := []) (av := [.inr (.inr a0), .inl a1, .inl a4, .inl a6]) (av' := [.inl a1, .inl a4, .inl a6]) (μ' := u_X8_lay) (d := 1) rfl rfl mc_X8_lay in_X8_lay lk_RX8_148 (by show 1 < d + 1; omega) rfl rfl (ob_sh h1) rfl (Nat.le_of_ble_eq_true rfl) (fun _ _ h => ct_X8_lay (ob_sh h1) h) (fun x11 m12 => ?_)
                refine r_if_ne 67 143 121 rfl rfl rfl (fun h13 => ?_) (fun h13 => ?_)
                · refine r_iload 68 123 5 rfl rfl rfl ?_
                  refine r_aload_n 69 124 0 rfl rfl rfl rfl ?_
                  refine r_iload_n 70 125 1 rfl rfl rfl rfl ?_
                  refine r_iconst 71 126 (v := 1) rfl rfl (by decide) ?_
                  refine r_iadd 72 127 rfl rfl ?_
                  refine r_iload_n 73 128 2 rfl rfl rfl rfl ?_
                  refine r_iconst 74 129 (v := 1) rfl rfl (by decide) ?_
                  refine r_iload 75 131 4 rfl rfl rfl ?_
                  refine r_ishl 76 132 rfl rfl ?_
                  refine r_ior 77 133 rfl rfl ?_
                  refine r_iload_n 78 134 3 rfl rfl rfl rfl ?_
                  refine r_iload 79 136 5 rfl rfl rfl ?_
                  refine r_isub 80 137 rfl rfl ?_
                  refine r_SI 81 140 (a := 0) (cn := 0) (st := [.inl a5]) (av := [.inr (.inr a0), .inl (a1 + 1), .inl (a2 ||| (1 <<< (a4 &&& 31))), .inl (a3 - a5)]) (μ' := u_X8_tallyFrom) (d := d) rfl rfl mc_X8_tallyFrom st_X8_tallyFrom lk_RX8_124 (Nat.lt_succ_self d) rfl (Nat.le_of_ble_eq_true rfl) (fun _ _ h => hrc h) (fun x14 m15 => ?_)
                  refine r_iadd 82 141 rfl rfl ?_
                  refine r_ltI (fun x16 => ?_)
                  refine r_istore 83 143 (L' := [(5, .inl x16), (0, .inr (.inr a0)), (1, .inl a1), (2, .inl a2), (3, .inl a3), (4, .inl a4), (6, .inl a6)]) rfl rfl (by decide) rfl ?_
                  refine r_iinc 84 146 6 (L' := [(6, .inl (a6 + 1)), (5, .inl x16), (0, .inr (.inr a0)), (1, .inl a1), (2, .inl a2), (3, .inl a3), (4, .inl a4)]) rfl rfl rfl (by decide) rfl ?_
                  refine r_ltV (fun x17 => ?_)
                  refine r_goto 85 84 rfl rfl ?_
                  exact r_sub [2, 3, 4, 5, 6, 1, 0] rfl (hc84 (x16, x17, m15))
                · refine r_iinc 84 146 6 (L' := [(6, .inl (a6 + 1)), (0, .inr (.inr a0)), (1, .inl a1), (2, .inl a2), (3, .inl a3), (4, .inl a4), (5, .inl a5)]) rfl rfl rfl (by decide) rfl ?_
                  refine r_ltV (fun x18 => ?_)
                  refine r_goto 85 84 rfl rfl ?_
                  exact r_sub [1, 2, 3, 4, 5, 6, 0] rfl (hc84 (a5, x18, m12))
        exact r_sub [2, 3, 4, 5, 6, 1, 0] rfl (hj84 m a4 0 0)
  refine r_icmp_ge 5 40 11 rfl rfl rfl (fun h19 => ?_) (fun h19 => ?_)
  · exact r_sub [1, 2, 3, 4, 0] rfl (hj40 m (-1))
  · refine r_aload_n 6 12 1 rfl rfl rfl rfl ?_
    refine r_iload_n 7 13 2 rfl rfl rfl rfl ?_
    refine r_iload_n 8 14 3 rfl rfl rfl rfl ?_
    refine r_iconst 9 15 (v := 1) rfl rfl (by decide) ?_
    refine r_VIo 10 18 (st := []) (av := [.inr (.inr a0), .inl a1, .inl a2, .inl 1]) (av' := [.inl a1, .inl a2, .inl 1]) (μ' := u_X8_smallestPack) (d := 2) rfl rfl mc_X8_smallestPack in_X8_smallestPack lk_RX8_152 (by show 2 < d + 1; omega) rfl rfl (ob_sh h1) rfl (Nat.le_of_ble_eq_true rfl) (fun _ h => ct_X8_smallestPack (ob_sh h1) h) (fun x20 => ?_)
    refine r_istore 11 20 (L' := [(4, .inl x20), (0, .inr (.inr a0)), (1, .inl a1), (2, .inl a2), (3, .inl a3)]) rfl rfl (by decide) rfl ?_
    refine r_iload 12 22 0 rfl rfl rfl ?_
    refine r_iconst 13 23 (v := (-1)) rfl rfl (by decide) ?_
    have hj38 : ∀ (m : Mi) (s0 : Int32), Sm u_X8_tallyFrom (d + 1, 0, 0, t.length, zs t) (kI t) 38 [(0, .inr (.inr a0)), (1, .inl a1), (2, .inl a2), (3, .inl a3)] [.inl s0] (t, m) (f_X8_tallyFrom_j38 rc t m a0 a1 a2 a3 s0) := by
      intro m s0
      unfold f_X8_tallyFrom_j38
      refine r_istore 22 40 (L' := [(4, .inl s0), (0, .inr (.inr a0)), (1, .inl a1), (2, .inl a2), (3, .inl a3)]) rfl rfl (by decide) rfl ?_
      exact r_sub [1, 2, 3, 4, 0] rfl (hj40 m s0)
    refine r_icmp_ne 14 36 26 rfl rfl rfl (fun h21 => ?_) (fun h21 => ?_)
    · refine r_aload_n 15 27 1 rfl rfl rfl rfl ?_
      refine r_iload_n 16 28 2 rfl rfl rfl rfl ?_
      refine r_iload_n 17 29 3 rfl rfl rfl rfl ?_
      refine r_iconst 18 30 (v := 0) rfl rfl (by decide) ?_
      refine r_VIo 19 33 (st := []) (av := [.inr (.inr a0), .inl a1, .inl a2, .inl 0]) (av' := [.inl a1, .inl a2, .inl 0]) (μ' := u_X8_smallestPack) (d := 2) rfl rfl mc_X8_smallestPack in_X8_smallestPack lk_RX8_152 (by show 2 < d + 1; omega) rfl rfl (ob_sh h1) rfl (Nat.le_of_ble_eq_true rfl) (fun _ h => ct_X8_smallestPack (ob_sh h1) h) (fun x22 => ?_)
      refine r_goto 20 38 rfl rfl ?_
      exact r_sub [1, 2, 3, 4] rfl (hj38 m x22)
    · refine r_iload 21 38 0 rfl rfl rfl ?_
      exact r_sub [1, 2, 3, 4] rfl (hj38 m x20)
theorem ct_X8_tallyFrom (n : Nat) {t : List Sh} : ∀ {m : Mi} {a0 : Nat} {a1 : Int32} {a2 : Int32} {a3 : Int32} {m' : Mi} {v : Int32}, f_X8_tallyFrom n t m a0 a1 a2 a3 = some (v, m') → Ct u_X8_tallyFrom (3 + n) 0 0 [.inr (.inr a0), .inl a1, .inl a2, .inl a3] (t, m) (some (.inl v), (t, m')) := by
  induction n with
  | zero => intros; rename_i h; cases h
  | succ n ih =>
    intro m a0 a1 a2 a3 m' v h
    exact ct_of (by decide) tk_X8_tallyFrom (Nat.le_of_ble_eq_true rfl) (sm_X8_tallyFrom_b (f_X8_tallyFrom n) (3 + n) (Nat.le_add_right _ _) t (fun h => ih h) m a0 a1 a2 a3) (by rw [show f_X8_tallyFrom_b (f_X8_tallyFrom n) t m a0 a1 a2 a3 = f_X8_tallyFrom (n + 1) t m a0 a1 a2 a3 from rfl, h]; rfl) (Nat.le_refl _) (Nat.le_refl _)
def tb_X8_isPossible : Tb := [(0, (.aload_n 0, 1)), (1, (.iconst 0, 1)), (2, (.iconst 0, 1)), (3, (.invokestatic 78, 3)), (6, (.iconst (-1), 1)), (7, (.if_icmp .ne 7, 3)), (10, (.iconst 1, 1)), (11, (.goto 4, 3)), (14, (.iconst 0, 1)), (15, (.ireturn, 1))]
def u_X8_isPossible : Fx := (yX8_isPossible, (cX8_isPossible, (1, ((some .boolean), tb_X8_isPossible))))
theorem tk_X8_isPossible : ∀ q ∈ u_X8_isPossible.2.2.2.2, decode u_X8_isPossible.2.1 q.1 = .ok q.2 := by decide +kernel
theorem mc_X8_isPossible : MC u_X8_isPossible 0 := ⟨tbm 1158 (by decide +kernel) rfl, tbm 125 (by decide +kernel) rfl, ⟨by decide, by decide, by decide +kernel⟩, by decide⟩
theorem in_X8_isPossible : Cond.instanceMethod u_X8_isPossible.1 ∈ TB ∧ Cond.selects u_X8_isPossible.1.cls u_X8_isPossible.1 u_X8_isPossible.1 ∈ TB := ⟨tbm 1156 (by decide +kernel) rfl, tbm 1157 (by decide +kernel) rfl⟩
def f_X8_isPossible (t : List Sh) (m : Mi) (a0 : Nat) : Option (Int32 × Mi) :=
  bd (f_X8_blameFrom 12 t m a0 0 0) fun x1 m2 =>
  if x1 = (-1) then
    some (1, m2)
  else
    some (0, m2)
set_option maxRecDepth 4000 in
set_option maxHeartbeats 4000000 in
theorem sm_X8_isPossible (t : List Sh) (m : Mi) (a0 : Nat) (h0 : sh t a0 = some (.inl 8)) : Sm u_X8_isPossible (16, 0, 0, t.length, zs t) (kI t) 0 [(0, .inr (.inr a0))] [] (t, m) (f_X8_isPossible t m a0) := by
  unfold f_X8_isPossible
  refine r_aload_n 0 1 0 rfl rfl rfl rfl ?_
  refine r_iconst 1 2 (v := 0) rfl rfl (by decide) ?_
  refine r_iconst 2 3 (v := 0) rfl rfl (by decide) ?_
  refine r_SI 3 6 (a := 0) (cn := 0) (st := []) (av := [.inr (.inr a0), .inl 0, .inl 0]) (μ' := u_X8_blameFrom) (d := 15) rfl rfl mc_X8_blameFrom st_X8_blameFrom lk_RX8_78 (Nat.le_of_ble_eq_true rfl) rfl (Nat.le_of_ble_eq_true rfl) (fun _ _ h => ct_X8_blameFrom 12 h) (fun x1 m2 => ?_)
  refine r_iconst 4 7 (v := (-1)) rfl rfl (by decide) ?_
  refine r_icmp_ne 5 14 10 rfl rfl rfl (fun h3 => ?_) (fun h3 => ?_)
  · refine r_iconst 6 11 (v := 1) rfl rfl (by decide) ?_
    refine r_goto 7 15 rfl rfl ?_
    exact r_zret 9 rfl rfl (by decide) rfl
  · refine r_iconst 8 15 (v := 0) rfl rfl (by decide) ?_
    exact r_zret 9 rfl rfl (by decide) rfl
theorem ct_X8_isPossible {t : List Sh} {m : Mi} {a0 : Nat} {m' : Mi} {v : Int32}  (h0 : sh t a0 = some (.inl 8)) (h : f_X8_isPossible t m a0 = some (v, m')) : Ct u_X8_isPossible 16 0 0 [.inr (.inr a0)] (t, m) (some (.inl v), (t, m')) :=
  ct_of (by decide) tk_X8_isPossible (Nat.le_of_ble_eq_true rfl) (sm_X8_isPossible t m a0 h0) (by rw [h]; rfl) (Nat.le_refl _) (Nat.le_refl _)
def tb_X8_leadsOn : Tb := [(0, (.aload_n 0, 1)), (1, (.iload_n 1, 1)), (2, (.iload_n 1, 1)), (3, (.iload_n 2, 1)), (4, (.invokevirtual 144, 3)), (7, (.ifCond .eq 35, 3)), (10, (.aload_n 0, 1)), (11, (.iload_n 1, 1)), (12, (.iload_n 1, 1)), (13, (.iload_n 2, 1)), (14, (.invokevirtual 148, 3)), (17, (.ifCond .ne 25, 3)), (20, (.aload_n 0, 1)), (21, (.iload_n 1, 1)), (22, (.iconst 1, 1)), (23, (.iadd, 1)), (24, (.iconst 1, 1)), (25, (.iload_n 1, 1)), (26, (.iconst 1, 1)), (27, (.iadd, 1)), (28, (.ishl, 1)), (29, (.iconst 1, 1)), (30, (.isub, 1)), (31, (.invokestatic 78, 3)), (34, (.iconst (-1), 1)), (35, (.if_icmp .ne 7, 3)), (38, (.iconst 1, 1)), (39, (.goto 4, 3)), (42, (.iconst 0, 1)), (43, (.ireturn, 1))]
def u_X8_leadsOn : Fx := (yX8_leadsOn, (cX8_leadsOn, (3, ((some .boolean), tb_X8_leadsOn))))
theorem tk_X8_leadsOn : ∀ q ∈ u_X8_leadsOn.2.2.2.2, decode u_X8_leadsOn.2.1 q.1 = .ok q.2 := by decide +kernel
theorem mc_X8_leadsOn : MC u_X8_leadsOn 2 := ⟨tbm 1203 (by decide +kernel) rfl, tbm 125 (by decide +kernel) rfl, ⟨by decide, by decide, by decide +kernel⟩, by decide⟩
theorem in_X8_leadsOn : Cond.instanceMethod u_X8_leadsOn.1 ∈ TB ∧ Cond.selects u_X8_leadsOn.1.cls u_X8_leadsOn.1 u_X8_leadsOn.1 ∈ TB := ⟨tbm 1202 (by decide +kernel) rfl, tbm 60 (by decide +kernel) rfl⟩
def f_X8_leadsOn (t : List Sh) (m : Mi) (a0 : Nat) (a1 : Int32) (a2 : Int32) : Option (Int32 × Mi) :=
  (f_X8_isOpen t m a0 a1 a1 a2).bind fun x1 =>
  if x1 = 0 then
    some (0, m)
  else
    bd (f_X8_lay t m a0 a1 a1 a2) fun x3 m4 =>
    if x3 = 0 then
      bd (f_X8_blameFrom 12 t m4 a0 (a1 + 1) ((1 <<< ((a1 + 1) &&& 31)) - 1)) fun x6 m7 =>
      if x6 = (-1) then
        some (1, m7)
      else
        some (0, m7)
    else
      some (0, m4)
set_option maxRecDepth 4000 in
set_option maxHeartbeats 4000000 in
theorem sm_X8_leadsOn (t : List Sh) (m : Mi) (a0 : Nat) (a1 : Int32) (a2 : Int32) (h0 : sh t a0 = some (.inl 8)) : Sm u_X8_leadsOn (16, 0, 0, t.length, zs t) (kI t) 0 [(0, .inr (.inr a0)), (1, .inl a1), (2, .inl a2)] [] (t, m) (f_X8_leadsOn t m a0 a1 a2) := by
  unfold f_X8_leadsOn
  refine r_aload_n 0 1 0 rfl rfl rfl rfl ?_
  refine r_iload_n 1 2 1 rfl rfl rfl rfl ?_
  refine r_iload_n 2 3 1 rfl rfl rfl rfl ?_
  refine r_iload_n 3 4 2 rfl rfl rfl rfl ?_
  refine r_VIo 4 7 (st := []) (av := [.inr (.inr a0), .inl a1, .inl a1, .inl a2]) (av' := [.inl a1, .inl a1, .inl a2]) (μ' := u_X8_isOpen) (d := 1) rfl rfl mc_X8_isOpen in_X8_isOpen lk_RX8_144 (Nat.le_of_ble_eq_true rfl) rfl rfl h0 rfl (Nat.le_of_ble_eq_true rfl) (fun _ h => ct_X8_isOpen h0 h) (fun x1 => ?_)
  refine r_if_eq 5 42 10 rfl rfl rfl (fun h2 => ?_) (fun h2 => ?_)
  · refine r_iconst 28 43 (v := 0) rfl rfl (by decide) ?_
    exact r_zret 29 rfl rfl (by decide) rfl
  · refine r_aload_n 6 11 0 rfl rfl rfl rfl ?_
    refine r_iload_n 7 12 1 rfl rfl rfl rfl ?_
    refine r_iload_n 8 13 1 rfl rfl rfl rfl ?_
    refine r_iload_n 9 14 2 rfl rfl rfl rfl ?_
    refine r_VI 10 17 (st := []) (av := [.inr (.inr a0), .inl a1, .inl a1, .inl a2]) (av' := [.inl a1, .inl a1, .inl a2]) (μ' := u_X8_lay) (d := 1) rfl rfl mc_X8_lay in_X8_lay lk_RX8_148 (Nat.le_of_ble_eq_true rfl) rfl rfl h0 rfl (Nat.le_of_ble_eq_true rfl) (fun _ _ h => ct_X8_lay h0 h) (fun x3 m4 => ?_)
    refine r_if_ne 11 42 20 rfl rfl rfl (fun h5 => ?_) (fun h5 => ?_)
    · refine r_aload_n 12 21 0 rfl rfl rfl rfl ?_
      refine r_iload_n 13 22 1 rfl rfl rfl rfl ?_
      refine r_iconst 14 23 (v := 1) rfl rfl (by decide) ?_
      refine r_iadd 15 24 rfl rfl ?_
      refine r_iconst 16 25 (v := 1) rfl rfl (by decide) ?_
      refine r_iload_n 17 26 1 rfl rfl rfl rfl ?_
      refine r_iconst 18 27 (v := 1) rfl rfl (by decide) ?_
      refine r_iadd 19 28 rfl rfl ?_
      refine r_ishl 20 29 rfl rfl ?_
      refine r_iconst 21 30 (v := 1) rfl rfl (by decide) ?_
      refine r_isub 22 31 rfl rfl ?_
      refine r_SI 23 34 (a := 0) (cn := 0) (st := []) (av := [.inr (.inr a0), .inl (a1 + 1), .inl ((1 <<< ((a1 + 1) &&& 31)) - 1)]) (μ' := u_X8_blameFrom) (d := 15) rfl rfl mc_X8_blameFrom st_X8_blameFrom lk_RX8_78 (Nat.le_of_ble_eq_true rfl) rfl (Nat.le_of_ble_eq_true rfl) (fun _ _ h => ct_X8_blameFrom 12 h) (fun x6 m7 => ?_)
      refine r_iconst 24 35 (v := (-1)) rfl rfl (by decide) ?_
      refine r_icmp_ne 25 42 38 rfl rfl rfl (fun h8 => ?_) (fun h8 => ?_)
      · refine r_iconst 26 39 (v := 1) rfl rfl (by decide) ?_
        refine r_goto 27 43 rfl rfl ?_
        exact r_zret 29 rfl rfl (by decide) rfl
      · refine r_iconst 28 43 (v := 0) rfl rfl (by decide) ?_
        exact r_zret 29 rfl rfl (by decide) rfl
    · refine r_iconst 28 43 (v := 0) rfl rfl (by decide) ?_
      exact r_zret 29 rfl rfl (by decide) rfl
theorem ct_X8_leadsOn {t : List Sh} {m : Mi} {a0 : Nat} {a1 : Int32} {a2 : Int32} {m' : Mi} {v : Int32}  (h0 : sh t a0 = some (.inl 8)) (h : f_X8_leadsOn t m a0 a1 a2 = some (v, m')) : Ct u_X8_leadsOn 16 0 0 [.inr (.inr a0), .inl a1, .inl a2] (t, m) (some (.inl v), (t, m')) :=
  ct_of (by decide) tk_X8_leadsOn (Nat.le_of_ble_eq_true rfl) (sm_X8_leadsOn t m a0 a1 a2 h0) (by rw [h]; rfl) (Nat.le_refl _) (Nat.le_refl _)
theorem lk_RX8_118 : Cond.methodLink RX8 118 yX1_startReason ∈ TB := tbm 1227 (by decide +kernel) rfl
theorem lk_RX8_121 : Cond.methodLink RX8 121 yX1_accuse ∈ TB := tbm 1231 (by decide +kernel) rfl
theorem lk_RX8_110 : Cond.methodLink RX8 110 yX8_setActive ∈ TB := tbm 1222 (by decide +kernel) rfl
theorem lk_RX8_114 : Cond.methodLink RX8 114 yX8_isPossible ∈ TB := tbm 1226 (by decide +kernel) rfl
def tb_X8_accuse : Tb := [(0, (.aload_n 0, 1)), (1, (.getfield 13, 3)), (4, (.invokevirtual 107, 3)), (7, (.iconst 1, 1)), (8, (.isub, 1)), (9, (.istore_n 2, 1)), (10, (.iload_n 2, 1)), (11, (.ifCond .lt 28, 3)), (14, (.aload_n 0, 1)), (15, (.iload_n 2, 1)), (16, (.iconst 0, 1)), (17, (.invokevirtual 110, 3)), (20, (.aload_n 0, 1)), (21, (.invokevirtual 114, 3)), (24, (.ifCond .eq 9, 3)), (27, (.aload_n 0, 1)), (28, (.iload_n 2, 1)), (29, (.iconst 1, 1)), (30, (.invokevirtual 110, 3)), (33, (.iinc 2 (-1), 3)), (36, (.goto (-26), 3)), (39, (.aload_n 1, 1)), (40, (.invokevirtual 118, 3)), (43, (.iconst 0, 1)), (44, (.istore_n 2, 1)), (45, (.iload_n 2, 1)), (46, (.aload_n 0, 1)), (47, (.getfield 13, 3)), (50, (.invokevirtual 107, 3)), (53, (.if_icmp .ge 32, 3)), (56, (.iload_n 2, 1)), (57, (.aload_n 0, 1)), (58, (.getfield 34, 3)), (61, (.arraylength, 1)), (62, (.if_icmp .ge 23, 3)), (65, (.aload_n 0, 1)), (66, (.getfield 34, 3)), (69, (.iload_n 2, 1)), (70, (.baload, 1)), (71, (.ifCond .eq 8, 3)), (74, (.aload_n 1, 1)), (75, (.iload_n 2, 1)), (76, (.invokevirtual 121, 3)), (79, (.iinc 2 1, 3)), (82, (.goto (-37), 3)), (85, (.return_, 1))]
def u_X8_accuse : Fx := (yX8_accuse, (cX8_accuse, (3, (none, tb_X8_accuse))))
theorem tk_X8_accuse : ∀ q ∈ u_X8_accuse.2.2.2.2, decode u_X8_accuse.2.1 q.1 = .ok q.2 := by decide +kernel
theorem mc_X8_accuse : MC u_X8_accuse 1 := ⟨tbm 1221 (by decide +kernel) rfl, tbm 125 (by decide +kernel) rfl, ⟨by decide, by decide, by decide +kernel⟩, by decide⟩
theorem in_X8_accuse : Cond.instanceMethod u_X8_accuse.1 ∈ TB ∧ Cond.selects u_X8_accuse.1.cls u_X8_accuse.1 u_X8_accuse.1 ∈ TB := ⟨tbm 1219 (by decide +kernel) rfl, tbm 1220 (by decide +kernel) rfl⟩
def f_X8_accuse_j85 (t : List Sh) (m : Mi) : Option (Mi) :=
  some m
def f_X8_accuse_l45 (t : List Sh) (m : Mi) (a0 : Nat) (a1 : Nat) (a2 : Int32) : Option ((Int32 × Mi) ⊕ ((Mi))) :=
  (if ob t (gr m a0 0) 6 = true then
  (f_X6_constraints t m (gr m a0 0)).bind fun x7 =>
  if x7 ≤ a2 then
    some (.inr m)
  else
    (if aa t (gr m a0 6) .boolean = true then
    if (Int32.ofNat (ln t (gr m a0 6))) ≤ a2 then
      some (.inr m)
    else
      (if ar t (gr m a0 6) .boolean a2 = true then
      if (gi m (gr m a0 6) (ix a2)) = 0 then
        lt (a2 + 1) fun x13 =>
        some (.inl (x13, m))
      else
        (f_X1_accuse t m a1 a2).bind fun m14 =>
        lt (a2 + 1) fun x15 =>
        some (.inl (x15, m14))
      else none)
    else none)
  else none)
def f_X8_accuse_j45 (t : List Sh) (m : Mi) (a0 : Nat) (a1 : Nat) (a2 : Int32) : Option (Mi) :=
  (lp (fun x : Int32 × Mi => f_X8_accuse_l45 t x.2 a0 a1 x.1) FUEL (a2, m)).bind (fun y : Mi => f_X8_accuse_j85 t y)
def f_X8_accuse_j39 (t : List Sh) (m : Mi) (a0 : Nat) (a1 : Nat) : Option (Mi) :=
  (if ob t a1 1 = true then
  (f_X1_startReason t m a1).bind fun m5 =>
  f_X8_accuse_j45 t m5 a0 a1 0
  else none)
def f_X8_accuse_l10 (t : List Sh) (m : Mi) (a0 : Nat) (a1 : Nat) (a2 : Int32) : Option ((Int32 × Mi) ⊕ ((Mi))) :=
  if a2 < 0 then
    some (.inr m)
  else
    (f_X8_setActive t m a0 a2 0).bind fun m17 =>
    bd (f_X8_isPossible t m17 a0) fun x18 m19 =>
    if x18 = 0 then
      lt (a2 + (-1)) fun x21 =>
      some (.inl (x21, m19))
    else
      (f_X8_setActive t m19 a0 a2 1).bind fun m22 =>
      lt (a2 + (-1)) fun x23 =>
      some (.inl (x23, m22))
def f_X8_accuse_j10 (t : List Sh) (m : Mi) (a0 : Nat) (a1 : Nat) (a2 : Int32) : Option (Mi) :=
  (lp (fun x : Int32 × Mi => f_X8_accuse_l10 t x.2 a0 a1 x.1) FUEL (a2, m)).bind (fun y : Mi => f_X8_accuse_j39 t y a0 a1)
def f_X8_accuse (t : List Sh) (m : Mi) (a0 : Nat) (a1 : Nat) : Option (Mi) :=
  (if ob t (gr m a0 0) 6 = true then
  (f_X6_constraints t m (gr m a0 0)).bind fun x2 =>
  lt (x2 - 1) fun x3 =>
  f_X8_accuse_j10 t m a0 a1 x3
  else none)
set_option maxRecDepth 4000 in
set_option maxHeartbeats 4000000 in
theorem sm_X8_accuse (t : List Sh) (m : Mi) (a0 : Nat) (a1 : Nat) (h0 : sh t a0 = some (.inl 8)) : Sm u_X8_accuse (17, 0, 0, t.length, zs t) (kV t) 0 [(0, .inr (.inr a0)), (1, .inr (.inr a1))] [] (t, m) (f_X8_accuse t m a0 a1) := by
  unfold f_X8_accuse
  refine r_aload_n 0 1 0 rfl rfl rfl rfl ?_
  refine r_getR 1 4 rfl rfl fl_RX8_13 rfl h0 ?_
  refine r_gd (fun h1 => ?_)
  refine r_VIo 2 7 (st := []) (av := [.inr (.inr (gr m a0 0))]) (av' := []) (μ' := u_X6_constraints) (d := 1) rfl rfl mc_X6_constraints in_X6_constraints lk_RX8_107 (Nat.le_of_ble_eq_true rfl) rfl rfl (ob_sh h1) rfl (Nat.le_of_ble_eq_true rfl) (fun _ h => ct_X6_constraints (ob_sh h1) h) (fun x2 => ?_)
  refine r_iconst 3 8 (v := 1) rfl rfl (by decide) ?_
  refine r_isub 4 9 rfl rfl ?_
  refine r_ltI (fun x3 => ?_)
  refine r_istore_n 5 10 (L' := [(2, .inl x3), (0, .inr (.inr a0)), (1, .inr (.inr a1))]) rfl rfl rfl (by decide) rfl ?_
  have hj10 : ∀ (m : Mi) (a2 : Int32), Sm u_X8_accuse (17, 0, 0, t.length, zs t) (kV t) 10 [(0, .inr (.inr a0)), (1, .inr (.inr a1)), (2, .inl a2)] [] (t, m) (f_X8_accuse_j10 t m a0 a1 a2) := by
    intro m a2
    unfold f_X8_accuse_j10
    have hj39 : ∀ (m : Mi), Sm u_X8_accuse (17, 0, 0, t.length, zs t) (kV t) 39 [(0, .inr (.inr a0)), (1, .inr (.inr a1))] [] (t, m) (f_X8_accuse_j39 t m a0 a1) := by
      intro m
      unfold f_X8_accuse_j39
      refine r_aload_n 21 40 1 rfl rfl rfl rfl ?_
      refine r_gd (fun h4 => ?_)
      refine r_VV 22 43 (st := []) (av := [.inr (.inr a1)]) (av' := []) (μ' := u_X1_startReason) (d := 1) rfl rfl mc_X1_startReason in_X1_startReason lk_RX8_118 (Nat.le_of_ble_eq_true rfl) rfl rfl (ob_sh h4) rfl (Nat.le_of_ble_eq_true rfl) (fun _ h => ct_X1_startReason (ob_sh h4) h) (fun m5 => ?_)
      refine r_iconst 23 44 (v := 0) rfl rfl (by decide) ?_
      refine r_istore_n 24 45 (L' := [(2, .inl 0), (0, .inr (.inr a0)), (1, .inr (.inr a1))]) rfl rfl rfl (by decide) rfl ?_
      have hj45 : ∀ (m : Mi) (a2 : Int32), Sm u_X8_accuse (17, 0, 0, t.length, zs t) (kV t) 45 [(0, .inr (.inr a0)), (1, .inr (.inr a1)), (2, .inl a2)] [] (t, m) (f_X8_accuse_j45 t m a0 a1 a2) := by
        intro m a2
        unfold f_X8_accuse_j45
        have hj85 : ∀ (m : Mi), Sm u_X8_accuse (17, 0, 0, t.length, zs t) (kV t) 85 [] [] (t, m) (f_X8_accuse_j85 t m) := by
          intro m
          unfold f_X8_accuse_j85
          exact r_vret 45 rfl rfl rfl
        refine r_lp (Lf := fun x : Int32 × Mi => [(0, .inr (.inr a0)), (1, .inr (.inr a1)), (2, .inl (x.1))]) (Mf := fun x : Int32 × Mi => (t, x.2)) (a2, m) ?_ FUEL
        rintro ⟨a2, m⟩ κ45 hc45 he45
        refine r_eq (L' := [(0, .inr (.inr a0)), (1, .inr (.inr a1)), (2, .inl a2)]) (M' := (t, m)) rfl rfl ?_
        refine r_eqr (r' := f_X8_accuse_l45 t m a0 a1 a2) rfl ?_
        unfold f_X8_accuse_l45
        refine r_iload_n 25 46 2 rfl rfl rfl rfl ?_
        refine r_aload_n 26 47 0 rfl rfl rfl rfl ?_
        refine r_getR 27 50 rfl rfl fl_RX8_13 rfl h0 ?_
        refine r_gd (fun h6 => ?_)
        refine r_VIo 28 53 (st := [.inl a2]) (av := [.inr (.inr (gr m a0 0))]) (av' := []) (μ' := u_X6_constraints) (d := 1) rfl rfl mc_X6_constraints in_X6_constraints lk_RX8_107 (Nat.le_of_ble_eq_true rfl) rfl rfl (ob_sh h6) rfl (Nat.le_of_ble_eq_true rfl) (fun _ h => ct_X6_constraints (ob_sh h6) h) (fun x7 => ?_)
        refine r_icmp_ge 29 85 56 rfl rfl rfl (fun h8 => ?_) (fun h8 => ?_)
        · refine r_leaf (r2 := (f_X8_accuse_j85 t m : Option (Mi))) (he45 _) ?_
          exact r_sub [] rfl (hj85 m)
        · refine r_iload_n 30 57 2 rfl rfl rfl rfl ?_
          refine r_aload_n 31 58 0 rfl rfl rfl rfl ?_
          refine r_getR 32 61 rfl rfl fl_RX8_34 rfl h0 ?_
          refine r_gd (fun h9 => ?_)
          refine r_alen 33 62 3 rfl rfl (fun _ => rfl) h9 ?_
          refine r_icmp_ge 34 85 65 rfl rfl rfl (fun h10 => ?_) (fun h10 => ?_)
          · refine r_leaf (r2 := (f_X8_accuse_j85 t m : Option (Mi))) (he45 _) ?_
            exact r_sub [] rfl (hj85 m)
          · refine r_aload_n 35 66 0 rfl rfl rfl rfl ?_
            refine r_getR 36 69 rfl rfl fl_RX8_34 rfl h0 ?_
            refine r_iload_n 37 70 2 rfl rfl rfl rfl ?_
            refine r_gd (fun h11 => ?_)
            refine r_zald 38 71 rfl rfl h11 ?_
            refine r_if_eq 39 79 74 rfl rfl rfl (fun h12 => ?_) (fun h12 => ?_)
            · refine r_iinc 43 82 2 (L' := [(2, .inl (a2 + 1)), (0, .inr (.inr a0)), (1, .inr (.inr a1))]) rfl rfl rfl (by decide) rfl ?_
              refine r_ltV (fun x13 => ?_)
              refine r_goto 44 45 rfl rfl ?_
              exact r_sub [1, 2, 0] rfl (hc45 (x13, m))
            · refine r_aload_n 40 75 1 rfl rfl rfl rfl ?_
              refine r_iload_n 41 76 2 rfl rfl rfl rfl ?_
              refine r_VV 42 79 (st := []) (av := [.inr (.inr a1), .inl a2]) (av' := [.inl a2]) (μ' := u_X1_accuse) (d := 1) rfl rfl mc_X1_accuse in_X1_accuse lk_RX8_121 (Nat.le_of_ble_eq_true rfl) rfl rfl (ob_sh h4) rfl (Nat.le_of_ble_eq_true rfl) (fun _ h => ct_X1_accuse (ob_sh h4) h) (fun m14 => ?_)
              refine r_iinc 43 82 2 (L' := [(2, .inl (a2 + 1)), (0, .inr (.inr a0)), (1, .inr (.inr a1))]) rfl rfl rfl (by decide) rfl ?_
              refine r_ltV (fun x15 => ?_)
              refine r_goto 44 45 rfl rfl ?_
              exact r_sub [1, 2, 0] rfl (hc45 (x15, m14))
      exact r_sub [1, 2, 0] rfl (hj45 m5 0)
    refine r_lp (Lf := fun x : Int32 × Mi => [(0, .inr (.inr a0)), (1, .inr (.inr a1)), (2, .inl (x.1))]) (Mf := fun x : Int32 × Mi => (t, x.2)) (a2, m) ?_ FUEL
    rintro ⟨a2, m⟩ κ10 hc10 he10
    refine r_eq (L' := [(0, .inr (.inr a0)), (1, .inr (.inr a1)), (2, .inl a2)]) (M' := (t, m)) rfl rfl ?_
    refine r_eqr (r' := f_X8_accuse_l10 t m a0 a1 a2) rfl ?_
    unfold f_X8_accuse_l10
    refine r_iload_n 6 11 2 rfl rfl rfl rfl ?_
    refine r_if_lt 7 39 14 rfl rfl rfl (fun h16 => ?_) (fun h16 => ?_)
    · refine r_leaf (r2 := (f_X8_accuse_j39 t m a0 a1 : Option (Mi))) (he10 _) ?_
      exact r_sub [0, 1] rfl (hj39 m)
    · refine r_aload_n 8 15 0 rfl rfl rfl rfl ?_
      refine r_iload_n 9 16 2 rfl rfl rfl rfl ?_
      refine r_iconst 10 17 (v := 0) rfl rfl (by decide) ?_
      refine r_VV 11 20 (st := []) (av := [.inr (.inr a0), .inl a2, .inl 0]) (av' := [.inl a2, .inl 0]) (μ' := u_X8_setActive) (d := 3) rfl rfl mc_X8_setActive in_X8_setActive lk_RX8_110 (Nat.le_of_ble_eq_true rfl) rfl rfl h0 rfl (Nat.le_of_ble_eq_true rfl) (fun _ h => ct_X8_setActive h0 h) (fun m17 => ?_)
      refine r_aload_n 12 21 0 rfl rfl rfl rfl ?_
      refine r_VI 13 24 (st := []) (av := [.inr (.inr a0)]) (av' := []) (μ' := u_X8_isPossible) (d := 16) rfl rfl mc_X8_isPossible in_X8_isPossible lk_RX8_114 (Nat.le_of_ble_eq_true rfl) rfl rfl h0 rfl (Nat.le_of_ble_eq_true rfl) (fun _ _ h => ct_X8_isPossible h0 h) (fun x18 m19 => ?_)
      refine r_if_eq 14 33 27 rfl rfl rfl (fun h20 => ?_) (fun h20 => ?_)
      · refine r_iinc 19 36 2 (L' := [(2, .inl (a2 + (-1))), (0, .inr (.inr a0)), (1, .inr (.inr a1))]) rfl rfl rfl (by decide) rfl ?_
        refine r_ltV (fun x21 => ?_)
        refine r_goto 20 10 rfl rfl ?_
        exact r_sub [1, 2, 0] rfl (hc10 (x21, m19))
      · refine r_aload_n 15 28 0 rfl rfl rfl rfl ?_
        refine r_iload_n 16 29 2 rfl rfl rfl rfl ?_
        refine r_iconst 17 30 (v := 1) rfl rfl (by decide) ?_
        refine r_VV 18 33 (st := []) (av := [.inr (.inr a0), .inl a2, .inl 1]) (av' := [.inl a2, .inl 1]) (μ' := u_X8_setActive) (d := 3) rfl rfl mc_X8_setActive in_X8_setActive lk_RX8_110 (Nat.le_of_ble_eq_true rfl) rfl rfl h0 rfl (Nat.le_of_ble_eq_true rfl) (fun _ h => ct_X8_setActive h0 h) (fun m22 => ?_)
        refine r_iinc 19 36 2 (L' := [(2, .inl (a2 + (-1))), (0, .inr (.inr a0)), (1, .inr (.inr a1))]) rfl rfl rfl (by decide) rfl ?_
        refine r_ltV (fun x23 => ?_)
        refine r_goto 20 10 rfl rfl ?_
        exact r_sub [1, 2, 0] rfl (hc10 (x23, m22))
  exact r_sub [1, 2, 0] rfl (hj10 m x3)
theorem ct_X8_accuse {t : List Sh} {m : Mi} {a0 : Nat} {a1 : Nat} {m' : Mi}  (h0 : sh t a0 = some (.inl 8)) (h : f_X8_accuse t m a0 a1 = some m') : Ct u_X8_accuse 17 0 0 [.inr (.inr a0), .inr (.inr a1)] (t, m) (none, (t, m')) :=
  ct_of (by decide) tk_X8_accuse (Nat.le_of_ble_eq_true rfl) (sm_X8_accuse t m a0 a1 h0) (by rw [h]; rfl) (Nat.le_refl _) (Nat.le_refl _)
theorem lk_RX8_135 : Cond.methodLink RX8 135 yX8_leadsOn ∈ TB := tbm 1200 (by decide +kernel) rfl
theorem lk_RX8_141 : Cond.methodLink RX8 141 yX2_fallingAt ∈ TB := tbm 1204 (by decide +kernel) rfl
def tb_X8_bestValue : Tb := [(0, (.aload_n 0, 1)), (1, (.getfield 13, 3)), (4, (.iload_n 1, 1)), (5, (.invokevirtual 94, 3)), (8, (.astore_n 3, 1)), (9, (.aload_n 3, 1)), (10, (.ifnonnull 6, 3)), (13, (.bipush 6, 2)), (15, (.ireturn, 1)), (16, (.iload_n 2, 1)), (17, (.iconst (-1), 1)), (18, (.if_icmp .eq 14, 3)), (21, (.aload_n 0, 1)), (22, (.iload_n 1, 1)), (23, (.iload_n 2, 1)), (24, (.invokevirtual 135, 3)), (27, (.ifCond .eq 5, 3)), (30, (.iload_n 2, 1)), (31, (.ireturn, 1)), (32, (.aload_n 0, 1)), (33, (.iload_n 1, 1)), (34, (.bipush 6, 2)), (36, (.invokevirtual 135, 3)), (39, (.ifCond .eq 6, 3)), (42, (.bipush 6, 2)), (44, (.ireturn, 1)), (45, (.iconst 0, 1)), (46, (.istore 4, 2)), (48, (.iload 4, 2)), (50, (.aload_n 3, 1)), (51, (.getfield 139, 3)), (54, (.if_icmp .ge 30, 3)), (57, (.aload_n 0, 1)), (58, (.iload_n 1, 1)), (59, (.aload_n 3, 1)), (60, (.iload 4, 2)), (62, (.invokevirtual 141, 3)), (65, (.invokevirtual 135, 3)), (68, (.ifCond .eq 10, 3)), (71, (.aload_n 3, 1)), (72, (.iload 4, 2)), (74, (.invokevirtual 141, 3)), (77, (.ireturn, 1)), (78, (.iinc 4 1, 3)), (81, (.goto (-33), 3)), (84, (.bipush 6, 2)), (86, (.ireturn, 1))]
def u_X8_bestValue : Fx := (yX8_bestValue, (cX8_bestValue, (5, ((some .int), tb_X8_bestValue))))
theorem tk_X8_bestValue : ∀ q ∈ u_X8_bestValue.2.2.2.2, decode u_X8_bestValue.2.1 q.1 = .ok q.2 := by decide +kernel
theorem mc_X8_bestValue : MC u_X8_bestValue 2 := ⟨tbm 1199 (by decide +kernel) rfl, tbm 125 (by decide +kernel) rfl, ⟨by decide, by decide, by decide +kernel⟩, by decide⟩
theorem in_X8_bestValue : Cond.instanceMethod u_X8_bestValue.1 ∈ TB ∧ Cond.selects u_X8_bestValue.1.cls u_X8_bestValue.1 u_X8_bestValue.1 ∈ TB := ⟨tbm 1198 (by decide +kernel) rfl, tbm 59 (by decide +kernel) rfl⟩
def f_X8_bestValue_j71 (t : List Sh) (m : Mi) (a3 : Nat) (a4 : Int32) : Option (Int32 × Mi) :=
  (if ob t a3 2 = true then
  (f_X2_fallingAt t m a3 a4).bind fun x8 =>
  some (x8, m)
  else none)
def f_X8_bestValue_j84 (t : List Sh) (m : Mi) : Option (Int32 × Mi) :=
  some (6, m)
def f_X8_bestValue_l48 (t : List Sh) (m : Mi) (a0 : Nat) (a1 : Int32) (a3 : Nat) (a4 : Int32) : Option ((Int32 × Mi) ⊕ ((Mi) ⊕ (Int32 × Mi))) :=
  (if ob t a3 2 = true then
  if (gi m a3 4) ≤ a4 then
    some (.inr (.inl m))
  else
    (f_X2_fallingAt t m a3 a4).bind fun x11 =>
    bd (f_X8_leadsOn t m a0 a1 x11) fun x12 m13 =>
    if x12 = 0 then
      lt (a4 + 1) fun x15 =>
      some (.inl (x15, m13))
    else
      some (.inr (.inr (a4, m13)))
  else none)
def f_X8_bestValue_j48 (t : List Sh) (m : Mi) (a0 : Nat) (a1 : Int32) (a3 : Nat) (a4 : Int32) : Option (Int32 × Mi) :=
  (lp (fun x : Int32 × Mi => f_X8_bestValue_l48 t x.2 a0 a1 a3 x.1) FUEL (a4, m)).bind (Sum.elim (fun y : Mi => f_X8_bestValue_j84 t y) (fun y : Int32 × Mi => f_X8_bestValue_j71 t (y.2) a3 (y.1)))
def f_X8_bestValue_j32 (t : List Sh) (m : Mi) (a0 : Nat) (a1 : Int32) (a3 : Nat) : Option (Int32 × Mi) :=
  bd (f_X8_leadsOn t m a0 a1 6) fun x4 m5 =>
  if x4 = 0 then
    f_X8_bestValue_j48 t m5 a0 a1 a3 0
  else
    some (6, m5)
def f_X8_bestValue (t : List Sh) (m : Mi) (a0 : Nat) (a1 : Int32) (a2 : Int32) : Option (Int32 × Mi) :=
  (if ob t (gr m a0 0) 6 = true then
  (f_X6_packAt t m (gr m a0 0) a1).bind fun x2 =>
  if x2 = 0 then
    some (6, m)
  else
    if a2 = (-1) then
      f_X8_bestValue_j32 t m a0 a1 x2
    else
      bd (f_X8_leadsOn t m a0 a1 a2) fun x17 m18 =>
      if x17 = 0 then
        f_X8_bestValue_j32 t m18 a0 a1 x2
      else
        some (a2, m18)
  else none)
set_option maxRecDepth 4000 in
set_option maxHeartbeats 4000000 in
theorem sm_X8_bestValue (t : List Sh) (m : Mi) (a0 : Nat) (a1 : Int32) (a2 : Int32) (h0 : sh t a0 = some (.inl 8)) : Sm u_X8_bestValue (17, 0, 0, t.length, zs t) (kI t) 0 [(0, .inr (.inr a0)), (1, .inl a1), (2, .inl a2)] [] (t, m) (f_X8_bestValue t m a0 a1 a2) := by
  unfold f_X8_bestValue
  refine r_aload_n 0 1 0 rfl rfl rfl rfl ?_
  refine r_getR 1 4 rfl rfl fl_RX8_13 rfl h0 ?_
  refine r_iload_n 2 5 1 rfl rfl rfl rfl ?_
  refine r_gd (fun h1 => ?_)
  refine r_VRo 3 8 (st := []) (av := [.inr (.inr (gr m a0 0)), .inl a1]) (av' := [.inl a1]) (μ' := u_X6_packAt) (d := 1) rfl rfl mc_X6_packAt in_X6_packAt lk_RX8_94 (Nat.le_of_ble_eq_true rfl) rfl rfl (ob_sh h1) rfl (Nat.le_of_ble_eq_true rfl) (fun _ h => ct_X6_packAt (ob_sh h1) h) (fun x2 => ?_)
  refine r_astore_n 4 9 (L' := [(3, .inr (.inr x2)), (0, .inr (.inr a0)), (1, .inl a1), (2, .inl a2)]) rfl rfl rfl (by decide) rfl ?_
  refine r_aload_n 5 10 0 rfl rfl rfl rfl ?_
  refine r_ifnonnull 6 16 13 rfl rfl rfl (fun h3 => ?_) (fun h3 => ?_)
  · refine r_bipush 7 15 (v := 6) rfl rfl (by decide) ?_
    exact r_iret 8 rfl rfl rfl
  · refine r_iload_n 9 17 3 rfl rfl rfl rfl ?_
    refine r_iconst 10 18 (v := (-1)) rfl rfl (by decide) ?_
    have hj32 : ∀ (m : Mi) (a3 : Nat), Sm u_X8_bestValue (17, 0, 0, t.length, zs t) (kI t) 32 [(0, .inr (.inr a0)), (1, .inl a1), (3, .inr (.inr a3))] [] (t, m) (f_X8_bestValue_j32 t m a0 a1 a3) := by
      intro m a3
      unfold f_X8_bestValue_j32
      refine r_aload_n 19 33 0 rfl rfl rfl rfl ?_
      refine r_iload_n 20 34 1 rfl rfl rfl rfl ?_
      refine r_bipush 21 36 (v := 6) rfl rfl (by decide) ?_
      refine r_VI 22 39 (st := []) (av := [.inr (.inr a0), .inl a1, .inl 6]) (av' := [.inl a1, .inl 6]) (μ' := u_X8_leadsOn) (d := 16) rfl rfl mc_X8_leadsOn in_X8_leadsOn lk_RX8_135 (Nat.le_of_ble_eq_true rfl) rfl rfl h0 rfl (Nat.le_of_ble_eq_true rfl) (fun _ _ h => ct_X8_leadsOn h0 h) (fun x4 m5 => ?_)
      refine r_if_eq 23 45 42 rfl rfl rfl (fun h6 => ?_) (fun h6 => ?_)
      · refine r_iconst 26 46 (v := 0) rfl rfl (by decide) ?_
        refine r_istore 27 48 (L' := [(4, .inl 0), (0, .inr (.inr a0)), (1, .inl a1), (3, .inr (.inr a3))]) rfl rfl (by decide) rfl ?_
        have hj48 : ∀ (m : Mi) (a3 : Nat) (a4 : Int32), Sm u_X8_bestValue (17, 0, 0, t.length, zs t) (kI t) 48 [(0, .inr (.inr a0)), (1, .inl a1), (3, .inr (.inr a3)), (4, .inl a4)] [] (t, m) (f_X8_bestValue_j48 t m a0 a1 a3 a4) := by
          intro m a3 a4
          unfold f_X8_bestValue_j48
          have hj71 : ∀ (m : Mi) (a3 : Nat) (a4 : Int32), Sm u_X8_bestValue (17, 0, 0, t.length, zs t) (kI t) 71 [(3, .inr (.inr a3)), (4, .inl a4)] [] (t, m) (f_X8_bestValue_j71 t m a3 a4) := by
            intro m a3 a4
            unfold f_X8_bestValue_j71
            refine r_aload_n 39 72 0 rfl rfl rfl rfl ?_
            refine r_iload 40 74 1 rfl rfl rfl ?_
            refine r_gd (fun h7 => ?_)
            refine r_VIo 41 77 (st := []) (av := [.inr (.inr a3), .inl a4]) (av' := [.inl a4]) (μ' := u_X2_fallingAt) (d := 1) rfl rfl mc_X2_fallingAt in_X2_fallingAt lk_RX8_141 (Nat.le_of_ble_eq_true rfl) rfl rfl (ob_sh h7) rfl (Nat.le_of_ble_eq_true rfl) (fun _ h => ct_X2_fallingAt (ob_sh h7) h) (fun x8 => ?_)
            exact r_iret 42 rfl rfl rfl
          have hj84 : ∀ (m : Mi), Sm u_X8_bestValue (17, 0, 0, t.length, zs t) (kI t) 84 [] [] (t, m) (f_X8_bestValue_j84 t m) := by
            intro m
            unfold f_X8_bestValue_j84
            refine r_bipush 45 86 (v := 6) rfl rfl (by decide) ?_
            exact r_iret 46 rfl rfl rfl
          refine r_lp (Lf := fun x : Int32 × Mi => [(0, .inr (.inr a0)), (1, .inl a1), (3, .inr (.inr a3)), (4, .inl (x.1))]) (Mf := fun x : Int32 × Mi => (t, x.2)) (a4, m) ?_ FUEL
          rintro ⟨a4, m⟩ κ48 hc48 he48
          refine r_eq (L' := [(0, .inr (.inr a0)), (1, .inl a1), (3, .inr (.inr a3)), (4, .inl a4)]) (M' := (t, m)) rfl rfl ?_
          refine r_eqr (r' := f_X8_bestValue_l48 t m a0 a1 a3 a4) rfl ?_
          unfold f_X8_bestValue_l48
          refine r_iload 28 50 3 rfl rfl rfl ?_
          refine r_aload_n 29 51 2 rfl rfl rfl rfl ?_
          refine r_gd (fun h9 => ?_)
          refine r_getI 30 54 rfl rfl fl_RX8_139 rfl (ob_sh h9) ?_
          refine r_icmp_ge 31 84 57 rfl rfl rfl (fun h10 => ?_) (fun h10 => ?_)
          · refine r_leaf (r2 := (f_X8_bestValue_j84 t m : Option (Int32 × Mi))) (he48 _) ?_
            exact r_sub [] rfl (hj84 m)
          · refine r_aload_n 32 58 0 rfl rfl rfl rfl ?_
            refine r_iload_n 33 59 1 rfl rfl rfl rfl ?_
            refine r_aload_n 34 60 2 rfl rfl rfl rfl ?_
            refine r_iload 35 62 3 rfl rfl rfl ?_
            refine r_VIo 36 65 (st := [.inl a1, .inr (.inr a0)]) (av := [.inr (.inr a3), .inl a4]) (av' := [.inl a4]) (μ' := u_X2_fallingAt) (d := 1) rfl rfl mc_X2_fallingAt in_X2_fallingAt lk_RX8_141 (Nat.le_of_ble_eq_true rfl) rfl rfl (ob_sh h9) rfl (Nat.le_of_ble_eq_true rfl) (fun _ h => ct_X2_fallingAt (ob_sh h9) h) (fun x11 => ?_)
            refine r_VI 37 68 (st := []) (av := [.inr (.inr a0), .inl a1, .inl x11]) (av' := [.inl a1, .inl x11]) (μ' := u_X8_leadsOn) (d := 16) rfl rfl mc_X8_leadsOn in_X8_leadsOn lk_RX8_135 (Nat.le_of_ble_eq_true rfl) rfl rfl h0 rfl (Nat.le_of_ble_eq_true rfl) (fun _ _ h => ct_X8_leadsOn h0 h) (fun x12 m13 => ?_)
            refine r_if_eq 38 78 71 rfl rfl rfl (fun h14 => ?_) (fun h14 => ?_)
            · refine r_iinc 43 81 3 (L' := [(4, .inl (a4 + 1)), (0, .inr (.inr a0)), (1, .inl a1), (3, .inr (.inr a3))]) rfl rfl rfl (by decide) rfl ?_
              refine r_ltV (fun x15 => ?_)
              refine r_goto 44 48 rfl rfl ?_
              exact r_sub [1, 2, 3, 0] rfl (hc48 (x15, m13))
            · refine r_leaf (r2 := (f_X8_bestValue_j71 t m13 a3 a4 : Option (Int32 × Mi))) (he48 _) ?_
              exact r_sub [2, 3] rfl (hj71 m13 a3 a4)
        exact r_sub [1, 2, 3, 0] rfl (hj48 m5 a3 0)
      · refine r_bipush 24 44 (v := 6) rfl rfl (by decide) ?_
        exact r_iret 25 rfl rfl rfl
    refine r_icmp_eq 11 32 21 rfl rfl rfl (fun h16 => ?_) (fun h16 => ?_)
    · exact r_sub [1, 2, 0] rfl (hj32 m x2)
    · refine r_aload_n 12 22 1 rfl rfl rfl rfl ?_
      refine r_iload_n 13 23 2 rfl rfl rfl rfl ?_
      refine r_iload_n 14 24 3 rfl rfl rfl rfl ?_
      refine r_VI 15 27 (st := []) (av := [.inr (.inr a0), .inl a1, .inl a2]) (av' := [.inl a1, .inl a2]) (μ' := u_X8_leadsOn) (d := 16) rfl rfl mc_X8_leadsOn in_X8_leadsOn lk_RX8_135 (Nat.le_of_ble_eq_true rfl) rfl rfl h0 rfl (Nat.le_of_ble_eq_true rfl) (fun _ _ h => ct_X8_leadsOn h0 h) (fun x17 m18 => ?_)
      refine r_if_eq 16 32 30 rfl rfl rfl (fun h19 => ?_) (fun h19 => ?_)
      · exact r_sub [1, 2, 0] rfl (hj32 m18 x2)
      · refine r_iload_n 17 31 3 rfl rfl rfl rfl ?_
        exact r_iret 18 rfl rfl rfl
theorem ct_X8_bestValue {t : List Sh} {m : Mi} {a0 : Nat} {a1 : Int32} {a2 : Int32} {m' : Mi} {v : Int32}  (h0 : sh t a0 = some (.inl 8)) (h : f_X8_bestValue t m a0 a1 a2 = some (v, m')) : Ct u_X8_bestValue 17 0 0 [.inr (.inr a0), .inl a1, .inl a2] (t, m) (some (.inl v), (t, m')) :=
  ct_of (by decide) tk_X8_bestValue (Nat.le_of_ble_eq_true rfl) (sm_X8_bestValue t m a0 a1 a2 h0) (by rw [h]; rfl) (Nat.le_refl _) (Nat.le_refl _)
def tb_X8_tally : Tb := [(0, (.aload_n 0, 1)), (1, (.invokevirtual 114, 3)), (4, (.ifCond .eq 13, 3)), (7, (.aload_n 0, 1)), (8, (.iconst 0, 1)), (9, (.iconst 0, 1)), (10, (.iload_n 1, 1)), (11, (.invokestatic 124, 3)), (14, (.goto 4, 3)), (17, (.iconst 0, 1)), (18, (.ireturn, 1))]
def u_X8_tally : Fx := (yX8_tally, (cX8_tally, (2, ((some .int), tb_X8_tally))))
theorem tk_X8_tally : ∀ q ∈ u_X8_tally.2.2.2.2, decode u_X8_tally.2.1 q.1 = .ok q.2 := by decide +kernel
theorem mc_X8_tally : MC u_X8_tally 1 := ⟨tbm 1255 (by decide +kernel) rfl, tbm 125 (by decide +kernel) rfl, ⟨by decide, by decide, by decide +kernel⟩, by decide⟩
theorem in_X8_tally : Cond.instanceMethod u_X8_tally.1 ∈ TB ∧ Cond.selects u_X8_tally.1.cls u_X8_tally.1 u_X8_tally.1 ∈ TB := ⟨tbm 1253 (by decide +kernel) rfl, tbm 1254 (by decide +kernel) rfl⟩
def f_X8_tally (t : List Sh) (m : Mi) (a0 : Nat) (a1 : Int32) : Option (Int32 × Mi) :=
  bd (f_X8_isPossible t m a0) fun x1 m2 =>
  if x1 = 0 then
    some (0, m2)
  else
    bd (f_X8_tallyFrom 12 t m2 a0 0 0 a1) fun x4 m5 =>
    some (x4, m5)
set_option maxRecDepth 4000 in
set_option maxHeartbeats 4000000 in
theorem sm_X8_tally (t : List Sh) (m : Mi) (a0 : Nat) (a1 : Int32) (h0 : sh t a0 = some (.inl 8)) : Sm u_X8_tally (17, 0, 0, t.length, zs t) (kI t) 0 [(0, .inr (.inr a0)), (1, .inl a1)] [] (t, m) (f_X8_tally t m a0 a1) := by
  unfold f_X8_tally
  refine r_aload_n 0 1 0 rfl rfl rfl rfl ?_
  refine r_VI 1 4 (st := []) (av := [.inr (.inr a0)]) (av' := []) (μ' := u_X8_isPossible) (d := 16) rfl rfl mc_X8_isPossible in_X8_isPossible lk_RX8_114 (Nat.le_of_ble_eq_true rfl) rfl rfl h0 rfl (Nat.le_of_ble_eq_true rfl) (fun _ _ h => ct_X8_isPossible h0 h) (fun x1 m2 => ?_)
  refine r_if_eq 2 17 7 rfl rfl rfl (fun h3 => ?_) (fun h3 => ?_)
  · refine r_iconst 9 18 (v := 0) rfl rfl (by decide) ?_
    exact r_iret 10 rfl rfl rfl
  · refine r_aload_n 3 8 0 rfl rfl rfl rfl ?_
    refine r_iconst 4 9 (v := 0) rfl rfl (by decide) ?_
    refine r_iconst 5 10 (v := 0) rfl rfl (by decide) ?_
    refine r_iload_n 6 11 1 rfl rfl rfl rfl ?_
    refine r_SI 7 14 (a := 0) (cn := 0) (st := []) (av := [.inr (.inr a0), .inl 0, .inl 0, .inl a1]) (μ' := u_X8_tallyFrom) (d := 15) rfl rfl mc_X8_tallyFrom st_X8_tallyFrom lk_RX8_124 (Nat.le_of_ble_eq_true rfl) rfl (Nat.le_of_ble_eq_true rfl) (fun _ _ h => ct_X8_tallyFrom 12 h) (fun x4 m5 => ?_)
    refine r_goto 8 18 rfl rfl ?_
    exact r_iret 10 rfl rfl rfl
theorem ct_X8_tally {t : List Sh} {m : Mi} {a0 : Nat} {a1 : Int32} {m' : Mi} {v : Int32}  (h0 : sh t a0 = some (.inl 8)) (h : f_X8_tally t m a0 a1 = some (v, m')) : Ct u_X8_tally 17 0 0 [.inr (.inr a0), .inl a1] (t, m) (some (.inl v), (t, m')) :=
  ct_of (by decide) tk_X8_tally (Nat.le_of_ble_eq_true rfl) (sm_X8_tally t m a0 a1 h0) (by rw [h]; rfl) (Nat.le_refl _) (Nat.le_refl _)
theorem lk_RX8_89 : Cond.methodLink RX8 89 yX1_startSolution ∈ TB := tbm 1208 (by decide +kernel) rfl
theorem lk_RX8_103 : Cond.methodLink RX8 103 yX1_pick ∈ TB := tbm 1214 (by decide +kernel) rfl
theorem lk_RX8_86 : Cond.methodLink RX8 86 yX8_bestValue ∈ TB := tbm 1196 (by decide +kernel) rfl
theorem lk_RX8_82 : Cond.methodLink RX8 82 yX8_lockedValue ∈ TB := tbm 1184 (by decide +kernel) rfl
def tb_X8_settle : Tb := [(0, (.iconst 0, 1)), (1, (.istore_n 3, 1)), (2, (.iload_n 3, 1)), (3, (.aload_n 0, 1)), (4, (.getfield 17, 3)), (7, (.if_icmp .ge 34, 3)), (10, (.aload_n 0, 1)), (11, (.getfield 38, 3)), (14, (.iload_n 3, 1)), (15, (.aload_n 0, 1)), (16, (.iload_n 3, 1)), (17, (.iload_n 2, 1)), (18, (.ifCond .eq 12, 3)), (21, (.aload_n 0, 1)), (22, (.aload_n 1, 1)), (23, (.iload_n 3, 1)), (24, (.invokevirtual 82, 3)), (27, (.goto 4, 3)), (30, (.iconst (-1), 1)), (31, (.invokevirtual 86, 3)), (34, (.iastore, 1)), (35, (.iinc 3 1, 3)), (38, (.goto (-36), 3)), (41, (.aload_n 1, 1)), (42, (.aload_n 0, 1)), (43, (.getfield 17, 3)), (46, (.invokevirtual 89, 3)), (49, (.iconst 0, 1)), (50, (.istore_n 3, 1)), (51, (.iload_n 3, 1)), (52, (.aload_n 0, 1)), (53, (.getfield 17, 3)), (56, (.if_icmp .ge 52, 3)), (59, (.aload_n 0, 1)), (60, (.getfield 13, 3)), (63, (.iload_n 3, 1)), (64, (.invokevirtual 94, 3)), (67, (.astore 4, 2)), (69, (.aload 4, 2)), (71, (.ifnull 31, 3)), (74, (.aload_n 0, 1)), (75, (.getfield 38, 3)), (78, (.iload_n 3, 1)), (79, (.iaload, 1)), (80, (.bipush 6, 2)), (82, (.if_icmp .eq 20, 3)), (85, (.aload_n 1, 1)), (86, (.iload_n 3, 1)), (87, (.aload 4, 2)), (89, (.getfield 98, 3)), (92, (.aload_n 0, 1)), (93, (.getfield 38, 3)), (96, (.iload_n 3, 1)), (97, (.iaload, 1)), (98, (.iadd, 1)), (99, (.invokevirtual 103, 3)), (102, (.iinc 3 1, 3)), (105, (.goto (-54), 3)), (108, (.return_, 1))]
def u_X8_settle : Fx := (yX8_settle, (cX8_settle, (5, (none, tb_X8_settle))))
theorem tk_X8_settle : ∀ q ∈ u_X8_settle.2.2.2.2, decode u_X8_settle.2.1 q.1 = .ok q.2 := by decide +kernel
theorem mc_X8_settle : MC u_X8_settle 2 := ⟨tbm 1183 (by decide +kernel) rfl, tbm 125 (by decide +kernel) rfl, ⟨by decide, by decide, by decide +kernel⟩, by decide⟩
theorem in_X8_settle : Cond.instanceMethod u_X8_settle.1 ∈ TB ∧ Cond.selects u_X8_settle.1.cls u_X8_settle.1 u_X8_settle.1 ∈ TB := ⟨tbm 1181 (by decide +kernel) rfl, tbm 1182 (by decide +kernel) rfl⟩
def f_X8_settle_j108 (t : List Sh) (m : Mi) : Option (Mi) :=
  some m
def f_X8_settle_l51 (t : List Sh) (m : Mi) (a0 : Nat) (a1 : Nat) (a3 : Int32) : Option ((Int32 × Mi) ⊕ ((Mi))) :=
  if (gi m a0 1) ≤ a3 then
    some (.inr m)
  else
    (if ob t (gr m a0 0) 6 = true then
    (f_X6_packAt t m (gr m a0 0) a3).bind fun x5 =>
    if x5 = 0 then
      lt (a3 + 1) fun x7 =>
      some (.inl (x7, m))
    else
      (if ar t (gr m a0 7) .int a3 = true then
      if (gi m (gr m a0 7) (ix a3)) = 6 then
        lt (a3 + 1) fun x10 =>
        some (.inl (x10, m))
      else
        (if ob t x5 2 = true then
        (f_X1_pick t m a1 a3 ((gi m x5 3) + (gi m (gr m a0 7) (ix a3)))).bind fun m12 =>
        lt (a3 + 1) fun x13 =>
        some (.inl (x13, m12))
        else none)
      else none)
    else none)
def f_X8_settle_j51 (t : List Sh) (m : Mi) (a0 : Nat) (a1 : Nat) (a3 : Int32) : Option (Mi) :=
  (lp (fun x : Int32 × Mi => f_X8_settle_l51 t x.2 a0 a1 x.1) FUEL (a3, m)).bind (fun y : Mi => f_X8_settle_j108 t y)
def f_X8_settle_j41 (t : List Sh) (m : Mi) (a0 : Nat) (a1 : Nat) : Option (Mi) :=
  (if ob t a1 1 = true then
  (f_X1_startSolution t m a1 (gi m a0 1)).bind fun m2 =>
  f_X8_settle_j51 t m2 a0 a1 0
  else none)
def f_X8_settle_j31 (t : List Sh) (m : Mi) (a0 : Nat) (a1 : Nat) (a2 : Int32) (a3 : Int32) (s0 : Int32) (s1 : Int32) (s2 : Nat) (s3 : Int32) (s4 : Nat) : Option ((Int32 × Mi) ⊕ ((Mi))) :=
  (if ob t s2 8 = true then
  bd (f_X8_bestValue t m s2 s1 s0) fun x16 m17 =>
  (if ar t s4 .int s3 = true then
  lt (si m17 s4 (ix s3) x16) fun m19 =>
  lt (a3 + 1) fun x20 =>
  some (.inl (x20, m19))
  else none)
  else none)
def f_X8_settle_l2 (t : List Sh) (m : Mi) (a0 : Nat) (a1 : Nat) (a2 : Int32) (a3 : Int32) : Option ((Int32 × Mi) ⊕ ((Mi))) :=
  if (gi m a0 1) ≤ a3 then
    some (.inr m)
  else
    if a2 = 0 then
      f_X8_settle_j31 t m a0 a1 a2 a3 (-1) a3 a0 a3 (gr m a0 7)
    else
      (f_X8_lockedValue t m a0 a1 a3).bind fun x22 =>
      f_X8_settle_j31 t m a0 a1 a2 a3 x22 a3 a0 a3 (gr m a0 7)
def f_X8_settle_j2 (t : List Sh) (m : Mi) (a0 : Nat) (a1 : Nat) (a2 : Int32) (a3 : Int32) : Option (Mi) :=
  (lp (fun x : Int32 × Mi => f_X8_settle_l2 t x.2 a0 a1 a2 x.1) FUEL (a3, m)).bind (fun y : Mi => f_X8_settle_j41 t y a0 a1)
def f_X8_settle (t : List Sh) (m : Mi) (a0 : Nat) (a1 : Nat) (a2 : Int32) : Option (Mi) :=
  f_X8_settle_j2 t m a0 a1 a2 0
set_option maxRecDepth 4000 in
set_option maxHeartbeats 4000000 in
theorem sm_X8_settle (t : List Sh) (m : Mi) (a0 : Nat) (a1 : Nat) (a2 : Int32) (h0 : sh t a0 = some (.inl 8)) : Sm u_X8_settle (18, 0, 0, t.length, zs t) (kV t) 0 [(0, .inr (.inr a0)), (1, .inr (.inr a1)), (2, .inl a2)] [] (t, m) (f_X8_settle t m a0 a1 a2) := by
  unfold f_X8_settle
  refine r_iconst 0 1 (v := 0) rfl rfl (by decide) ?_
  refine r_istore_n 1 2 (L' := [(3, .inl 0), (0, .inr (.inr a0)), (1, .inr (.inr a1)), (2, .inl a2)]) rfl rfl rfl (by decide) rfl ?_
  have hj2 : ∀ (m : Mi) (a3 : Int32), Sm u_X8_settle (18, 0, 0, t.length, zs t) (kV t) 2 [(0, .inr (.inr a0)), (1, .inr (.inr a1)), (2, .inl a2), (3, .inl a3)] [] (t, m) (f_X8_settle_j2 t m a0 a1 a2 a3) := by
    intro m a3
    unfold f_X8_settle_j2
    have hj41 : ∀ (m : Mi), Sm u_X8_settle (18, 0, 0, t.length, zs t) (kV t) 41 [(0, .inr (.inr a0)), (1, .inr (.inr a1))] [] (t, m) (f_X8_settle_j41 t m a0 a1) := by
      intro m
      unfold f_X8_settle_j41
      refine r_aload_n 23 42 1 rfl rfl rfl rfl ?_
      refine r_aload_n 24 43 0 rfl rfl rfl rfl ?_
      refine r_getI 25 46 rfl rfl fl_RX8_17 rfl h0 ?_
      refine r_gd (fun h1 => ?_)
      refine r_VV 26 49 (st := []) (av := [.inr (.inr a1), .inl (gi m a0 1)]) (av' := [.inl (gi m a0 1)]) (μ' := u_X1_startSolution) (d := 2) rfl rfl mc_X1_startSolution in_X1_startSolution lk_RX8_89 (Nat.le_of_ble_eq_true rfl) rfl rfl (ob_sh h1) rfl (Nat.le_of_ble_eq_true rfl) (fun _ h => ct_X1_startSolution (ob_sh h1) h) (fun m2 => ?_)
      refine r_iconst 27 50 (v := 0) rfl rfl (by decide) ?_
      refine r_istore_n 28 51 (L' := [(3, .inl 0), (0, .inr (.inr a0)), (1, .inr (.inr a1))]) rfl rfl rfl (by decide) rfl ?_
      have hj51 : ∀ (m : Mi) (a3 : Int32), Sm u_X8_settle (18, 0, 0, t.length, zs t) (kV t) 51 [(0, .inr (.inr a0)), (1, .inr (.inr a1)), (3, .inl a3)] [] (t, m) (f_X8_settle_j51 t m a0 a1 a3) := by
        intro m a3
        unfold f_X8_settle_j51
        have hj108 : ∀ (m : Mi), Sm u_X8_settle (18, 0, 0, t.length, zs t) (kV t) 108 [] [] (t, m) (f_X8_settle_j108 t m) := by
          intro m
          unfold f_X8_settle_j108
          exact r_vret 58 rfl rfl rfl
        refine r_lp (Lf := fun x : Int32 × Mi => [(0, .inr (.inr a0)), (1, .inr (.inr a1)), (3, .inl (x.1))]) (Mf := fun x : Int32 × Mi => (t, x.2)) (a3, m) ?_ FUEL
        rintro ⟨a3, m⟩ κ51 hc51 he51
        refine r_eq (L' := [(0, .inr (.inr a0)), (1, .inr (.inr a1)), (3, .inl a3)]) (M' := (t, m)) rfl rfl ?_
        refine r_eqr (r' := f_X8_settle_l51 t m a0 a1 a3) rfl ?_
        unfold f_X8_settle_l51
        refine r_iload_n 29 52 2 rfl rfl rfl rfl ?_
        refine r_aload_n 30 53 0 rfl rfl rfl rfl ?_
        refine r_getI 31 56 rfl rfl fl_RX8_17 rfl h0 ?_
        refine r_icmp_ge 32 108 59 rfl rfl rfl (fun h3 => ?_) (fun h3 => ?_)
        · refine r_leaf (r2 := (f_X8_settle_j108 t m : Option (Mi))) (he51 _) ?_
          exact r_sub [] rfl (hj108 m)
        · refine r_aload_n 33 60 0 rfl rfl rfl rfl ?_
          refine r_getR 34 63 rfl rfl fl_RX8_13 rfl h0 ?_
          refine r_iload_n 35 64 2 rfl rfl rfl rfl ?_
          refine r_gd (fun h4 => ?_)
          refine r_VRo 36 67 (st := []) (av := [.inr (.inr (gr m a0 0)), .inl a3]) (av' := [.inl a3]) (μ' := u_X6_packAt) (d := 1) rfl rfl mc_X6_packAt in_X6_packAt lk_RX8_94 (Nat.le_of_ble_eq_true rfl) rfl rfl (ob_sh h4) rfl (Nat.le_of_ble_eq_true rfl) (fun _ h => ct_X6_packAt (ob_sh h4) h) (fun x5 => ?_)
          refine r_astore 37 69 (L' := [(4, .inr (.inr x5)), (0, .inr (.inr a0)), (1, .inr (.inr a1)), (3, .inl a3)]) rfl rfl (by decide) rfl ?_
          refine r_aload 38 71 0 rfl rfl rfl ?_
          refine r_ifnull 39 102 74 rfl rfl rfl (fun h6 => ?_) (fun h6 => ?_)
          · refine r_iinc 56 105 3 (L' := [(3, .inl (a3 + 1)), (4, .inr (.inr x5)), (0, .inr (.inr a0)), (1, .inr (.inr a1))]) rfl rfl rfl (by decide) rfl ?_
            refine r_ltV (fun x7 => ?_)
            refine r_goto 57 51 rfl rfl ?_
            exact r_sub [2, 3, 0] rfl (hc51 (x7, m))
          · refine r_aload_n 40 75 1 rfl rfl rfl rfl ?_
            refine r_getR 41 78 rfl rfl fl_RX8_38 rfl h0 ?_
            refine r_iload_n 42 79 3 rfl rfl rfl rfl ?_
            refine r_gd (fun h8 => ?_)
            refine r_iald 43 80 rfl rfl h8 ?_
            refine r_bipush 44 82 (v := 6) rfl rfl (by decide) ?_
            refine r_icmp_eq 45 102 85 rfl rfl rfl (fun h9 => ?_) (fun h9 => ?_)
            · refine r_iinc 56 105 3 (L' := [(3, .inl (a3 + 1)), (4, .inr (.inr x5)), (0, .inr (.inr a0)), (1, .inr (.inr a1))]) rfl rfl rfl (by decide) rfl ?_
              refine r_ltV (fun x10 => ?_)
              refine r_goto 57 51 rfl rfl ?_
              exact r_sub [2, 3, 0] rfl (hc51 (x10, m))
            · refine r_aload_n 46 86 2 rfl rfl rfl rfl ?_
              refine r_iload_n 47 87 3 rfl rfl rfl rfl ?_
              refine r_aload 48 89 0 rfl rfl rfl ?_
              refine r_gd (fun h11 => ?_)
              refine r_getI 49 92 rfl rfl fl_RX8_98 rfl (ob_sh h11) ?_
              refine r_aload_n 50 93 1 rfl rfl rfl rfl ?_
              refine r_getR 51 96 rfl rfl fl_RX8_38 rfl h0 ?_
              refine r_iload_n 52 97 3 rfl rfl rfl rfl ?_
              refine r_iald 53 98 rfl rfl h8 ?_
              refine r_iadd 54 99 rfl rfl ?_
              refine r_VV 55 102 (st := []) (av := [.inr (.inr a1), .inl a3, .inl ((gi m x5 3) + (gi m (gr m a0 7) (ix a3)))]) (av' := [.inl a3, .inl ((gi m x5 3) + (gi m (gr m a0 7) (ix a3)))]) (μ' := u_X1_pick) (d := 1) rfl rfl mc_X1_pick in_X1_pick lk_RX8_103 (Nat.le_of_ble_eq_true rfl) rfl rfl (ob_sh h1) rfl (Nat.le_of_ble_eq_true rfl) (fun _ h => ct_X1_pick (ob_sh h1) h) (fun m12 => ?_)
              refine r_iinc 56 105 3 (L' := [(3, .inl (a3 + 1)), (4, .inr (.inr x5)), (0, .inr (.inr a0)), (1, .inr (.inr a1))]) rfl rfl rfl (by decide) rfl ?_
              refine r_ltV (fun x13 => ?_)
              refine r_goto 57 51 rfl rfl ?_
              exact r_sub [2, 3, 0] rfl (hc51 (x13, m12))
      exact r_sub [1, 2, 0] rfl (hj51 m2 0)
    refine r_lp (Lf := fun x : Int32 × Mi => [(0, .inr (.inr a0)), (1, .inr (.inr a1)), (2, .inl a2), (3, .inl (x.1))]) (Mf := fun x : Int32 × Mi => (t, x.2)) (a3, m) ?_ FUEL
    rintro ⟨a3, m⟩ κ2 hc2 he2
    refine r_eq (L' := [(0, .inr (.inr a0)), (1, .inr (.inr a1)), (2, .inl a2), (3, .inl a3)]) (M' := (t, m)) rfl rfl ?_
    refine r_eqr (r' := f_X8_settle_l2 t m a0 a1 a2 a3) rfl ?_
    unfold f_X8_settle_l2
    refine r_iload_n 2 3 3 rfl rfl rfl rfl ?_
    refine r_aload_n 3 4 0 rfl rfl rfl rfl ?_
    refine r_getI 4 7 rfl rfl fl_RX8_17 rfl h0 ?_
    refine r_icmp_ge 5 41 10 rfl rfl rfl (fun h14 => ?_) (fun h14 => ?_)
    · refine r_leaf (r2 := (f_X8_settle_j41 t m a0 a1 : Option (Mi))) (he2 _) ?_
      exact r_sub [0, 1] rfl (hj41 m)
    · refine r_aload_n 6 11 0 rfl rfl rfl rfl ?_
      refine r_getR 7 14 rfl rfl fl_RX8_38 rfl h0 ?_
      refine r_iload_n 8 15 3 rfl rfl rfl rfl ?_
      refine r_aload_n 9 16 0 rfl rfl rfl rfl ?_
      refine r_iload_n 10 17 3 rfl rfl rfl rfl ?_
      refine r_iload_n 11 18 2 rfl rfl rfl rfl ?_
      have hj31 : ∀ (m : Mi) (a3 : Int32) (s0 : Int32) (s1 : Int32) (s2 : Nat) (s3 : Int32) (s4 : Nat), Sm u_X8_settle (18, 0, 0, t.length, zs t) κ2 31 [(0, .inr (.inr a0)), (1, .inr (.inr a1)), (2, .inl a2), (3, .inl a3)] [.inl s0, .inl s1, .inr (.inr s2), .inl s3, .inr (.inr s4)] (t, m) (f_X8_settle_j31 t m a0 a1 a2 a3 s0 s1 s2 s3 s4) := by
        intro m a3 s0 s1 s2 s3 s4
        unfold f_X8_settle_j31
        refine r_gd (fun h15 => ?_)
        refine r_VI 19 34 (st := [.inl s3, .inr (.inr s4)]) (av := [.inr (.inr s2), .inl s1, .inl s0]) (av' := [.inl s1, .inl s0]) (μ' := u_X8_bestValue) (d := 17) rfl rfl mc_X8_bestValue in_X8_bestValue lk_RX8_86 (Nat.le_of_ble_eq_true rfl) rfl rfl (ob_sh h15) rfl (Nat.le_of_ble_eq_true rfl) (fun _ _ h => ct_X8_bestValue (ob_sh h15) h) (fun x16 m17 => ?_)
        refine r_gd (fun h18 => ?_)
        refine r_iast 20 35 rfl rfl h18 ?_
        refine r_ltM (fun m19 => ?_)
        refine r_iinc 21 38 3 (L' := [(3, .inl (a3 + 1)), (0, .inr (.inr a0)), (1, .inr (.inr a1)), (2, .inl a2)]) rfl rfl rfl (by decide) rfl ?_
        refine r_ltV (fun x20 => ?_)
        refine r_goto 22 2 rfl rfl ?_
        exact r_sub [1, 2, 3, 0] rfl (hc2 (x20, m19))
      refine r_if_eq 12 30 21 rfl rfl rfl (fun h21 => ?_) (fun h21 => ?_)
      · refine r_iconst 18 31 (v := (-1)) rfl rfl (by decide) ?_
        exact hj31 m a3 (-1) a3 a0 a3 (gr m a0 7)
      · refine r_aload_n 13 22 0 rfl rfl rfl rfl ?_
        refine r_aload_n 14 23 1 rfl rfl rfl rfl ?_
        refine r_iload_n 15 24 3 rfl rfl rfl rfl ?_
        refine r_VIo 16 27 (st := [.inl a3, .inr (.inr a0), .inl a3, .inr (.inr (gr m a0 7))]) (av := [.inr (.inr a0), .inr (.inr a1), .inl a3]) (av' := [.inr (.inr a1), .inl a3]) (μ' := u_X8_lockedValue) (d := 2) rfl rfl mc_X8_lockedValue in_X8_lockedValue lk_RX8_82 (Nat.le_of_ble_eq_true rfl) rfl rfl h0 rfl (Nat.le_of_ble_eq_true rfl) (fun _ h => ct_X8_lockedValue h0 h) (fun x22 => ?_)
        refine r_goto 17 31 rfl rfl ?_
        exact hj31 m a3 x22 a3 a0 a3 (gr m a0 7)
  exact r_sub [1, 2, 3, 0] rfl (hj2 m 0)
theorem ct_X8_settle {t : List Sh} {m : Mi} {a0 : Nat} {a1 : Nat} {a2 : Int32} {m' : Mi}  (h0 : sh t a0 = some (.inl 8)) (h : f_X8_settle t m a0 a1 a2 = some m') : Ct u_X8_settle 18 0 0 [.inr (.inr a0), .inr (.inr a1), .inl a2] (t, m) (none, (t, m')) :=
  ct_of (by decide) tk_X8_settle (Nat.le_of_ble_eq_true rfl) (sm_X8_settle t m a0 a1 a2 h0) (by rw [h]; rfl) (Nat.le_refl _) (Nat.le_refl _)
