theorem fl_RX3_15 : FL RX3 15 3 1 false := ⟨RX3, TX3, 6, rfl, inW3, tyX3_ok, nmX3, by decide, rfl, rfl, rfl, tbm 505 (by decide +kernel) rfl⟩
theorem fl_RX3_11 : FL RX3 11 3 0 true := ⟨RX3, TX3, 6, rfl, inW3, tyX3_ok, nmX3, by decide, rfl, rfl, rfl, tbm 504 (by decide +kernel) rfl⟩
def tb_X3_byteAt : Tb := [(0, (.iload_n 1, 1)), (1, (.ifCond .lt 33, 3)), (4, (.iload_n 1, 1)), (5, (.aload_n 0, 1)), (6, (.getfield 15, 3)), (9, (.if_icmp .ge 25, 3)), (12, (.iload_n 1, 1)), (13, (.aload_n 0, 1)), (14, (.getfield 11, 3)), (17, (.arraylength, 1)), (18, (.if_icmp .ge 16, 3)), (21, (.aload_n 0, 1)), (22, (.getfield 11, 3)), (25, (.iload_n 1, 1)), (26, (.baload, 1)), (27, (.sipush 255, 3)), (30, (.iand, 1)), (31, (.goto 4, 3)), (34, (.iconst (-1), 1)), (35, (.ireturn, 1))]
def u_X3_byteAt : Fx := (yX3_byteAt, (cX3_byteAt, (2, ((some .int), tb_X3_byteAt))))
theorem tk_X3_byteAt : ∀ q ∈ u_X3_byteAt.2.2.2.2, decode u_X3_byteAt.2.1 q.1 = .ok q.2 := by decide +kernel
theorem mc_X3_byteAt : MC u_X3_byteAt 1 := ⟨tbm 1110 (by decide +kernel) rfl, tbm 127 (by decide +kernel) rfl, ⟨by decide, by decide, by decide +kernel⟩, by decide⟩
theorem in_X3_byteAt : Cond.instanceMethod u_X3_byteAt.1 ∈ TB ∧ Cond.selects u_X3_byteAt.1.cls u_X3_byteAt.1 u_X3_byteAt.1 ∈ TB := ⟨tbm 1108 (by decide +kernel) rfl, tbm 1109 (by decide +kernel) rfl⟩
def f_X3_byteAt (t : List Sh) (m : Mi) (a0 : Nat) (a1 : Int32) : Option (Int32) :=
  if a1 < 0 then
    some (-1)
  else
    if (gi m a0 1) ≤ a1 then
      some (-1)
    else
      (if aa t (gr m a0 0) .byte = true then
      if (Int32.ofNat (ln t (gr m a0 0))) ≤ a1 then
        some (-1)
      else
        (if ar t (gr m a0 0) .byte a1 = true then
        some ((gi m (gr m a0 0) (ix a1)) &&& 255)
        else none)
      else none)
set_option maxRecDepth 4000 in
set_option maxHeartbeats 4000000 in
theorem sm_X3_byteAt (t : List Sh) (m : Mi) (a0 : Nat) (a1 : Int32) (h0 : sh t a0 = some (.inl 3)) : Sm u_X3_byteAt (1, 0, 0, t.length, zs t) (kIo t m) 0 [(0, .inr (.inr a0)), (1, .inl a1)] [] (t, m) (f_X3_byteAt t m a0 a1) := by
  unfold f_X3_byteAt
  refine r_iload_n 0 1 1 rfl rfl rfl rfl ?_
  refine r_if_lt 1 34 4 rfl rfl rfl (fun h1 => ?_) (fun h1 => ?_)
  · refine r_iconst 18 35 (v := (-1)) rfl rfl (by decide) ?_
    exact r_iret 19 rfl rfl rfl
  · refine r_iload_n 2 5 1 rfl rfl rfl rfl ?_
    refine r_aload_n 3 6 0 rfl rfl rfl rfl ?_
    refine r_getI 4 9 rfl rfl fl_RX3_15 rfl h0 ?_
    refine r_icmp_ge 5 34 12 rfl rfl rfl (fun h2 => ?_) (fun h2 => ?_)
    · refine r_iconst 18 35 (v := (-1)) rfl rfl (by decide) ?_
      exact r_iret 19 rfl rfl rfl
    · refine r_iload_n 6 13 1 rfl rfl rfl rfl ?_
      refine r_aload_n 7 14 0 rfl rfl rfl rfl ?_
      refine r_getR 8 17 rfl rfl fl_RX3_11 rfl h0 ?_
      refine r_gd (fun h3 => ?_)
      refine r_alen 9 18 2 rfl rfl (fun _ => rfl) h3 ?_
      refine r_icmp_ge 10 34 21 rfl rfl rfl (fun h4 => ?_) (fun h4 => ?_)
      · refine r_iconst 18 35 (v := (-1)) rfl rfl (by decide) ?_
        exact r_iret 19 rfl rfl rfl
      · refine r_aload_n 11 22 0 rfl rfl rfl rfl ?_
        refine r_getR 12 25 rfl rfl fl_RX3_11 rfl h0 ?_
        refine r_iload_n 13 26 1 rfl rfl rfl rfl ?_
        refine r_gd (fun h5 => ?_)
        refine r_bald 14 27 rfl rfl h5 ?_
        refine r_sipush 15 30 (v := 255) rfl rfl (by decide) ?_
        refine r_iand 16 31 rfl rfl ?_
        refine r_goto 17 35 rfl rfl ?_
        exact r_iret 19 rfl rfl rfl
theorem ct_X3_byteAt {t : List Sh} {m : Mi} {a0 : Nat} {a1 : Int32} {v : Int32}  (h0 : sh t a0 = some (.inl 3)) (h : f_X3_byteAt t m a0 a1 = some v) : Ct u_X3_byteAt 1 0 0 [.inr (.inr a0), .inl a1] (t, m) (some (.inl v), (t, m)) :=
  ct_of (by decide) tk_X3_byteAt (Nat.le_of_ble_eq_true rfl) (sm_X3_byteAt t m a0 a1 h0) (by rw [h]; rfl) (Nat.le_refl _) (Nat.le_refl _)
def tb_X3_clear : Tb := [(0, (.aload_n 0, 1)), (1, (.iconst 0, 1)), (2, (.putfield 15, 3)), (5, (.return_, 1))]
def u_X3_clear : Fx := (yX3_clear, (cX3_clear, (1, (none, tb_X3_clear))))
theorem tk_X3_clear : ∀ q ∈ u_X3_clear.2.2.2.2, decode u_X3_clear.2.1 q.1 = .ok q.2 := by decide +kernel
theorem mc_X3_clear : MC u_X3_clear 0 := ⟨tbm 1010 (by decide +kernel) rfl, tbm 127 (by decide +kernel) rfl, ⟨by decide, by decide, by decide +kernel⟩, by decide⟩
theorem in_X3_clear : Cond.instanceMethod u_X3_clear.1 ∈ TB ∧ Cond.selects u_X3_clear.1.cls u_X3_clear.1 u_X3_clear.1 ∈ TB := ⟨tbm 1008 (by decide +kernel) rfl, tbm 1009 (by decide +kernel) rfl⟩
def f_X3_clear (t : List Sh) (m : Mi) (a0 : Nat) : Option (Mi) :=
  lt (si m a0 1 0) fun m1 =>
  some m1
set_option maxRecDepth 4000 in
set_option maxHeartbeats 4000000 in
theorem sm_X3_clear (t : List Sh) (m : Mi) (a0 : Nat) (h0 : sh t a0 = some (.inl 3)) : Sm u_X3_clear (1, 0, 0, t.length, zs t) (kV t) 0 [(0, .inr (.inr a0))] [] (t, m) (f_X3_clear t m a0) := by
  unfold f_X3_clear
  refine r_aload_n 0 1 0 rfl rfl rfl rfl ?_
  refine r_iconst 1 2 (v := 0) rfl rfl (by decide) ?_
  refine r_putI 2 5 rfl rfl fl_RX3_15 (fun h => by cases h) (Or.inl rfl) h0 ?_
  refine r_ltM (fun m1 => ?_)
  exact r_vret 3 rfl rfl rfl
theorem ct_X3_clear {t : List Sh} {m : Mi} {a0 : Nat} {m' : Mi}  (h0 : sh t a0 = some (.inl 3)) (h : f_X3_clear t m a0 = some m') : Ct u_X3_clear 1 0 0 [.inr (.inr a0)] (t, m) (none, (t, m')) :=
  ct_of (by decide) tk_X3_clear (Nat.le_of_ble_eq_true rfl) (sm_X3_clear t m a0 h0) (by rw [h]; rfl) (Nat.le_refl _) (Nat.le_refl _)
theorem lk_RX3_3 : Cond.methodLink RX3 3 Lib.objectInit ∈ TB := tbm 503 (by decide +kernel) rfl
theorem fl_RX3_19 : FL RX3 19 3 2 true := ⟨RX3, TX3, 6, rfl, inW3, tyX3_ok, nmX3, by decide, rfl, rfl, rfl, tbm 506 (by decide +kernel) rfl⟩
theorem fl_RX3_24 : FL RX3 24 3 3 true := ⟨RX3, TX3, 6, rfl, inW3, tyX3_ok, nmX3, by decide, rfl, rfl, rfl, tbm 507 (by decide +kernel) rfl⟩
theorem fl_RX3_28 : FL RX3 28 3 4 true := ⟨RX3, TX3, 6, rfl, inW3, tyX3_ok, nmX3, by decide, rfl, rfl, rfl, tbm 508 (by decide +kernel) rfl⟩
theorem fl_RX3_31 : FL RX3 31 3 5 true := ⟨RX3, TX3, 6, rfl, inW3, tyX3_ok, nmX3, by decide, rfl, rfl, rfl, tbm 509 (by decide +kernel) rfl⟩
def tb_X3_init : Tb := [(0, (.aload_n 0, 1)), (1, (.invokespecial 3, 3)), (4, (.aload_n 0, 1)), (5, (.sipush 2500, 3)), (8, (.newarray .byte, 2)), (10, (.putfield 11, 3)), (13, (.aload_n 0, 1)), (14, (.iconst 0, 1)), (15, (.putfield 15, 3)), (18, (.aload_n 0, 1)), (19, (.bipush 10, 2)), (21, (.newarray .byte, 2)), (23, (.putfield 19, 3)), (26, (.aload_n 0, 1)), (27, (.bipush 8, 2)), (29, (.newarray .long, 2)), (31, (.putfield 24, 3)), (34, (.aload_n 0, 1)), (35, (.bipush 8, 2)), (37, (.newarray .long, 2)), (39, (.putfield 28, 3)), (42, (.aload_n 0, 1)), (43, (.bipush 8, 2)), (45, (.newarray .long, 2)), (47, (.putfield 31, 3)), (50, (.return_, 1))]
def u_X3_init : Fx := (yX3_init, (cX3_init, (1, (none, tb_X3_init))))
theorem tk_X3_init : ∀ q ∈ u_X3_init.2.2.2.2, decode u_X3_init.2.1 q.1 = .ok q.2 := by decide +kernel
theorem mc_X3_init : MC u_X3_init 0 := ⟨tbm 502 (by decide +kernel) rfl, tbm 127 (by decide +kernel) rfl, ⟨by decide, by decide, by decide +kernel⟩, by decide⟩
theorem ini_X3_init : Cond.instanceMethod u_X3_init.1 ∈ TB := tbm 501 (by decide +kernel) rfl
set_option maxRecDepth 20000 in
def f_X3_init (t : List Sh) (m : Mi) (a0 : Nat) : Option (Mm) :=
  (if t.length < 1000000 then
  lt (t.length + 1) fun r2 =>
  lt (t ++ [.inr (.byte, ix 2500)]) fun t3 =>
  lt (zr m (t.length + 1)) fun m4 =>
  (if ob t3 a0 3 = true then
  lt (sr m4 a0 0 r2) fun m6 =>
  lt (si m6 a0 1 0) fun m7 =>
  (if t3.length < 1000000 then
  lt (t3.length + 1) fun r9 =>
  lt (t3 ++ [.inr (.byte, ix 10)]) fun t10 =>
  lt (zr m7 (t3.length + 1)) fun m11 =>
  (if ob t10 a0 3 = true then
  lt (sr m11 a0 2 r9) fun m13 =>
  (if t10.length < 1000000 then
  lt (t10.length + 1) fun r15 =>
  lt (t10 ++ [.inr (.long, ix 8)]) fun t16 =>
  lt (zr m13 (t10.length + 1)) fun m17 =>
  (if ob t16 a0 3 = true then
  lt (sr m17 a0 3 r15) fun m19 =>
  (if t16.length < 1000000 then
  lt (t16.length + 1) fun r21 =>
  lt (t16 ++ [.inr (.long, ix 8)]) fun t22 =>
  lt (zr m19 (t16.length + 1)) fun m23 =>
  (if ob t22 a0 3 = true then
  lt (sr m23 a0 4 r21) fun m25 =>
  (if t22.length < 1000000 then
  lt (t22.length + 1) fun r27 =>
  lt (t22 ++ [.inr (.long, ix 8)]) fun t28 =>
  lt (zr m25 (t22.length + 1)) fun m29 =>
  (if ob t28 a0 3 = true then
  lt (sr m29 a0 5 r27) fun m31 =>
  some (t28, m31)
  else none)
  else none)
  else none)
  else none)
  else none)
  else none)
  else none)
  else none)
  else none)
  else none)
set_option maxRecDepth 40000 in
set_option maxHeartbeats 4000000 in
theorem sm_X3_init (e2 : Nat × (Nat × (Nat × Nat))) (t : List Sh) (m : Mi) (a0 : Nat) (h0 : sh t a0 = some (.inl 3)) : Sm u_X3_init (1, e2) kA 0 [(0, .inr (.inr a0))] [] (t, m) (f_X3_init t m a0) := by
  unfold f_X3_init
  refine r_aload_n 0 1 0 rfl rfl rfl rfl ?_
  refine r_objI 1 4 rfl rfl lk_RX3_3 (Nat.le_of_ble_eq_true rfl) (Nat.le_of_ble_eq_true rfl) h0 ?_
  refine r_aload_n 2 5 0 rfl rfl rfl rfl ?_
  refine r_sipush 3 8 (v := 2500) rfl rfl (by decide) ?_
  refine r_gd (fun h1 => ?_)
  refine r_newa 4 10 (ty := .byte) (q := 2) rfl rfl h1 rfl (by decide) (fun _ => rfl) wd_160 (by decide) (by decide) ?_
  refine r_ltR (fun r2 => ?_)
  refine r_ltT (fun t3 => ?_)
  refine r_ltM (fun m4 => ?_)
  refine r_gd (fun h5 => ?_)
  refine r_putR 5 13 rfl rfl fl_RX3_11 (fun _ => ⟨rfl, rfl⟩) rfl (ob_sh h5) ?_
  refine r_ltM (fun m6 => ?_)
  refine r_aload_n 6 14 0 rfl rfl rfl rfl ?_
  refine r_iconst 7 15 (v := 0) rfl rfl (by decide) ?_
  refine r_putI 8 18 rfl rfl fl_RX3_15 (fun h => by cases h) (Or.inl rfl) (ob_sh h5) ?_
  refine r_ltM (fun m7 => ?_)
  refine r_aload_n 9 19 0 rfl rfl rfl rfl ?_
  refine r_bipush 10 21 (v := 10) rfl rfl (by decide) ?_
  refine r_gd (fun h8 => ?_)
  refine r_newa 11 23 (ty := .byte) (q := 2) rfl rfl h8 rfl (by decide) (fun _ => rfl) wd_160 (by decide) (by decide) ?_
  refine r_ltR (fun r9 => ?_)
  refine r_ltT (fun t10 => ?_)
  refine r_ltM (fun m11 => ?_)
  refine r_gd (fun h12 => ?_)
  refine r_putR 12 26 rfl rfl fl_RX3_19 (fun _ => ⟨rfl, rfl⟩) rfl (ob_sh h12) ?_
  refine r_ltM (fun m13 => ?_)
  refine r_aload_n 13 27 0 rfl rfl rfl rfl ?_
  refine r_bipush 14 29 (v := 8) rfl rfl (by decide) ?_
  refine r_gd (fun h14 => ?_)
  refine r_newa 15 31 (ty := .long) (q := 1) rfl rfl h14 rfl (by decide) (fun _ => rfl) wd_161 (by decide) (by decide) ?_
  refine r_ltR (fun r15 => ?_)
  refine r_ltT (fun t16 => ?_)
  refine r_ltM (fun m17 => ?_)
  refine r_gd (fun h18 => ?_)
  refine r_putR 16 34 rfl rfl fl_RX3_24 (fun _ => ⟨rfl, rfl⟩) rfl (ob_sh h18) ?_
  refine r_ltM (fun m19 => ?_)
  refine r_aload_n 17 35 0 rfl rfl rfl rfl ?_
  refine r_bipush 18 37 (v := 8) rfl rfl (by decide) ?_
  refine r_gd (fun h20 => ?_)
  refine r_newa 19 39 (ty := .long) (q := 1) rfl rfl h20 rfl (by decide) (fun _ => rfl) wd_161 (by decide) (by decide) ?_
  refine r_ltR (fun r21 => ?_)
  refine r_ltT (fun t22 => ?_)
  refine r_ltM (fun m23 => ?_)
  refine r_gd (fun h24 => ?_)
  refine r_putR 20 42 rfl rfl fl_RX3_28 (fun _ => ⟨rfl, rfl⟩) rfl (ob_sh h24) ?_
  refine r_ltM (fun m25 => ?_)
  refine r_aload_n 21 43 0 rfl rfl rfl rfl ?_
  refine r_bipush 22 45 (v := 8) rfl rfl (by decide) ?_
  refine r_gd (fun h26 => ?_)
  refine r_newa 23 47 (ty := .long) (q := 1) rfl rfl h26 rfl (by decide) (fun _ => rfl) wd_161 (by decide) (by decide) ?_
  refine r_ltR (fun r27 => ?_)
  refine r_ltT (fun t28 => ?_)
  refine r_ltM (fun m29 => ?_)
  refine r_gd (fun h30 => ?_)
  refine r_putR 24 50 rfl rfl fl_RX3_31 (fun _ => ⟨rfl, rfl⟩) rfl (ob_sh h30) ?_
  refine r_ltM (fun m31 => ?_)
  exact r_vret 25 rfl rfl rfl
theorem mn_X3_init {t : List Sh} {m : Mi} {a0 : Nat} {q : Mm} (h0 : sh t a0 = some (.inl 3)) (h : f_X3_init t m a0 = some q) : t.length ≤ q.1.length ∧ zs t ≤ zs q.1 := ((sm_X3_init (0, 0, 0, 0) t m a0 h0) (none, q) (by rw [h]; rfl)).1
theorem ct_X3_init {t : List Sh} {m : Mi} {a0 : Nat} {q : Mm} (h0 : sh t a0 = some (.inl 3)) (h : f_X3_init t m a0 = some q) : Ct u_X3_init 1 (q.1.length - t.length) (zs q.1 - zs t) [.inr (.inr a0)] (t, m) (none, q) := by
  have hm := mn_X3_init h0 h
  exact ct_of (by decide) tk_X3_init (Nat.le_of_ble_eq_true rfl) (sm_X3_init (q.1.length - t.length, zs q.1 - zs t, t.length, zs t) t m a0 h0) (by rw [h]; rfl) (by show q.1.length ≤ t.length + (q.1.length - t.length); omega) (by show zs q.1 ≤ zs t + (zs q.1 - zs t); omega)
def tb_X3_length : Tb := [(0, (.aload_n 0, 1)), (1, (.getfield 15, 3)), (4, (.ireturn, 1))]
def u_X3_length : Fx := (yX3_length, (cX3_length, (1, ((some .int), tb_X3_length))))
theorem tk_X3_length : ∀ q ∈ u_X3_length.2.2.2.2, decode u_X3_length.2.1 q.1 = .ok q.2 := by decide +kernel
theorem mc_X3_length : MC u_X3_length 0 := ⟨tbm 1079 (by decide +kernel) rfl, tbm 127 (by decide +kernel) rfl, ⟨by decide, by decide, by decide +kernel⟩, by decide⟩
theorem in_X3_length : Cond.instanceMethod u_X3_length.1 ∈ TB ∧ Cond.selects u_X3_length.1.cls u_X3_length.1 u_X3_length.1 ∈ TB := ⟨tbm 1077 (by decide +kernel) rfl, tbm 1078 (by decide +kernel) rfl⟩
def f_X3_length (t : List Sh) (m : Mi) (a0 : Nat) : Option (Int32) :=
  some (gi m a0 1)
set_option maxRecDepth 4000 in
set_option maxHeartbeats 4000000 in
theorem sm_X3_length (t : List Sh) (m : Mi) (a0 : Nat) (h0 : sh t a0 = some (.inl 3)) : Sm u_X3_length (1, 0, 0, t.length, zs t) (kIo t m) 0 [(0, .inr (.inr a0))] [] (t, m) (f_X3_length t m a0) := by
  unfold f_X3_length
  refine r_aload_n 0 1 0 rfl rfl rfl rfl ?_
  refine r_getI 1 4 rfl rfl fl_RX3_15 rfl h0 ?_
  exact r_iret 2 rfl rfl rfl
theorem ct_X3_length {t : List Sh} {m : Mi} {a0 : Nat} {v : Int32}  (h0 : sh t a0 = some (.inl 3)) (h : f_X3_length t m a0 = some v) : Ct u_X3_length 1 0 0 [.inr (.inr a0)] (t, m) (some (.inl v), (t, m)) :=
  ct_of (by decide) tk_X3_length (Nat.le_of_ble_eq_true rfl) (sm_X3_length t m a0 h0) (by rw [h]; rfl) (Nat.le_refl _) (Nat.le_refl _)
def tb_X3_putSign : Tb := [(0, (.aload_n 0, 1)), (1, (.getfield 15, 3)), (4, (.aload_n 0, 1)), (5, (.getfield 11, 3)), (8, (.arraylength, 1)), (9, (.if_icmp .ge 24, 3)), (12, (.aload_n 0, 1)), (13, (.getfield 11, 3)), (16, (.aload_n 0, 1)), (17, (.getfield 15, 3)), (20, (.iload_n 1, 1)), (21, (.i2b, 1)), (22, (.bastore, 1)), (23, (.aload_n 0, 1)), (24, (.dup, 1)), (25, (.getfield 15, 3)), (28, (.iconst 1, 1)), (29, (.iadd, 1)), (30, (.putfield 15, 3)), (33, (.return_, 1))]
def u_X3_putSign : Fx := (yX3_putSign, (cX3_putSign, (2, (none, tb_X3_putSign))))
theorem tk_X3_putSign : ∀ q ∈ u_X3_putSign.2.2.2.2, decode u_X3_putSign.2.1 q.1 = .ok q.2 := by decide +kernel
theorem mc_X3_putSign : MC u_X3_putSign 1 := ⟨tbm 1035 (by decide +kernel) rfl, tbm 127 (by decide +kernel) rfl, ⟨by decide, by decide, by decide +kernel⟩, by decide⟩
theorem in_X3_putSign : Cond.instanceMethod u_X3_putSign.1 ∈ TB ∧ Cond.selects u_X3_putSign.1.cls u_X3_putSign.1 u_X3_putSign.1 ∈ TB := ⟨tbm 1034 (by decide +kernel) rfl, tbm 44 (by decide +kernel) rfl⟩
def f_X3_putSign (t : List Sh) (m : Mi) (a0 : Nat) (a1 : Int32) : Option (Mi) :=
  (if aa t (gr m a0 0) .byte = true then
  if (Int32.ofNat (ln t (gr m a0 0))) ≤ (gi m a0 1) then
    some m
  else
    (if ar t (gr m a0 0) .byte (gi m a0 1) = true then
    lt (si m (gr m a0 0) (ix (gi m a0 1)) (vp_nar .byte ((Int32.toInt8 a1).toInt32))) fun m4 =>
    lt (si m4 a0 1 ((gi m4 a0 1) + 1)) fun m5 =>
    some m5
    else none)
  else none)
set_option maxRecDepth 4000 in
set_option maxHeartbeats 4000000 in
theorem sm_X3_putSign (t : List Sh) (m : Mi) (a0 : Nat) (a1 : Int32) (h0 : sh t a0 = some (.inl 3)) : Sm u_X3_putSign (1, 0, 0, t.length, zs t) (kV t) 0 [(0, .inr (.inr a0)), (1, .inl a1)] [] (t, m) (f_X3_putSign t m a0 a1) := by
  unfold f_X3_putSign
  refine r_aload_n 0 1 0 rfl rfl rfl rfl ?_
  refine r_getI 1 4 rfl rfl fl_RX3_15 rfl h0 ?_
  refine r_aload_n 2 5 0 rfl rfl rfl rfl ?_
  refine r_getR 3 8 rfl rfl fl_RX3_11 rfl h0 ?_
  refine r_gd (fun h1 => ?_)
  refine r_alen 4 9 2 rfl rfl (fun _ => rfl) h1 ?_
  refine r_icmp_ge 5 33 12 rfl rfl rfl (fun h2 => ?_) (fun h2 => ?_)
  · exact r_vret 19 rfl rfl rfl
  · refine r_aload_n 6 13 0 rfl rfl rfl rfl ?_
    refine r_getR 7 16 rfl rfl fl_RX3_11 rfl h0 ?_
    refine r_aload_n 8 17 0 rfl rfl rfl rfl ?_
    refine r_getI 9 20 rfl rfl fl_RX3_15 rfl h0 ?_
    refine r_iload_n 10 21 1 rfl rfl rfl rfl ?_
    refine r_i2b 11 22 rfl rfl ?_
    refine r_gd (fun h3 => ?_)
    refine r_bast 12 23 rfl rfl h3 ?_
    refine r_ltM (fun m4 => ?_)
    refine r_aload_n 13 24 0 rfl rfl rfl rfl ?_
    refine r_dup 14 25 rfl rfl rfl ?_
    refine r_getI 15 28 rfl rfl fl_RX3_15 rfl h0 ?_
    refine r_iconst 16 29 (v := 1) rfl rfl (by decide) ?_
    refine r_iadd 17 30 rfl rfl ?_
    refine r_putI 18 33 rfl rfl fl_RX3_15 (fun h => by cases h) (Or.inl rfl) h0 ?_
    refine r_ltM (fun m5 => ?_)
    exact r_vret 19 rfl rfl rfl
theorem ct_X3_putSign {t : List Sh} {m : Mi} {a0 : Nat} {a1 : Int32} {m' : Mi}  (h0 : sh t a0 = some (.inl 3)) (h : f_X3_putSign t m a0 a1 = some m') : Ct u_X3_putSign 1 0 0 [.inr (.inr a0), .inl a1] (t, m) (none, (t, m')) :=
  ct_of (by decide) tk_X3_putSign (Nat.le_of_ble_eq_true rfl) (sm_X3_putSign t m a0 a1 h0) (by rw [h]; rfl) (Nat.le_refl _) (Nat.le_refl _)
theorem lk_RX3_186 : Cond.methodLink RX3 186 Lib.Math.max.name ∈ TB := tbm 1090 (by decide +kernel) rfl
theorem lk_RX3_93 : Cond.methodLink RX3 93 yX3_putSign ∈ TB := tbm 1032 (by decide +kernel) rfl
def tb_X3_putBytes : Tb := [(0, (.iconst 0, 1)), (1, (.iload_n 2, 1)), (2, (.invokestatic 186, 3)), (5, (.istore 4, 2)), (7, (.iload 4, 2)), (9, (.iload_n 3, 1)), (10, (.if_icmp .ge 24, 3)), (13, (.iload 4, 2)), (15, (.aload_n 1, 1)), (16, (.arraylength, 1)), (17, (.if_icmp .ge 17, 3)), (20, (.aload_n 0, 1)), (21, (.aload_n 1, 1)), (22, (.iload 4, 2)), (24, (.baload, 1)), (25, (.invokevirtual 93, 3)), (28, (.iinc 4 1, 3)), (31, (.goto (-24), 3)), (34, (.return_, 1))]
def u_X3_putBytes : Fx := (yX3_putBytes, (cX3_putBytes, (5, (none, tb_X3_putBytes))))
theorem tk_X3_putBytes : ∀ q ∈ u_X3_putBytes.2.2.2.2, decode u_X3_putBytes.2.1 q.1 = .ok q.2 := by decide +kernel
theorem mc_X3_putBytes : MC u_X3_putBytes 3 := ⟨tbm 1089 (by decide +kernel) rfl, tbm 127 (by decide +kernel) rfl, ⟨by decide, by decide, by decide +kernel⟩, by decide⟩
theorem in_X3_putBytes : Cond.instanceMethod u_X3_putBytes.1 ∈ TB ∧ Cond.selects u_X3_putBytes.1.cls u_X3_putBytes.1 u_X3_putBytes.1 ∈ TB := ⟨tbm 1088 (by decide +kernel) rfl, tbm 49 (by decide +kernel) rfl⟩
def f_X3_putBytes_j34 (t : List Sh) (m : Mi) : Option (Mi) :=
  some m
def f_X3_putBytes_l7 (t : List Sh) (m : Mi) (a0 : Nat) (a1 : Nat) (a3 : Int32) (a4 : Int32) : Option ((Int32 × Mi) ⊕ ((Mi))) :=
  if a3 ≤ a4 then
    some (.inr m)
  else
    (if aa t a1 .byte = true then
    if (Int32.ofNat (ln t a1)) ≤ a4 then
      some (.inr m)
    else
      (if ar t a1 .byte a4 = true then
      (f_X3_putSign t m a0 (gi m a1 (ix a4))).bind fun m6 =>
      lt (a4 + 1) fun x7 =>
      some (.inl (x7, m6))
      else none)
    else none)
def f_X3_putBytes_j7 (t : List Sh) (m : Mi) (a0 : Nat) (a1 : Nat) (a3 : Int32) (a4 : Int32) : Option (Mi) :=
  (lp (fun x : Int32 × Mi => f_X3_putBytes_l7 t x.2 a0 a1 a3 x.1) FUEL (a4, m)).bind (fun y : Mi => f_X3_putBytes_j34 t y)
def f_X3_putBytes (t : List Sh) (m : Mi) (a0 : Nat) (a1 : Nat) (a2 : Int32) (a3 : Int32) : Option (Mi) :=
  lt (if 0 < a2 then a2 else 0) fun x1 =>
  f_X3_putBytes_j7 t m a0 a1 a3 x1
set_option maxRecDepth 4000 in
set_option maxHeartbeats 4000000 in
theorem sm_X3_putBytes (t : List Sh) (m : Mi) (a0 : Nat) (a1 : Nat) (a2 : Int32) (a3 : Int32) (h0 : sh t a0 = some (.inl 3)) : Sm u_X3_putBytes (2, 0, 0, t.length, zs t) (kV t) 0 [(0, .inr (.inr a0)), (1, .inr (.inr a1)), (2, .inl a2), (3, .inl a3)] [] (t, m) (f_X3_putBytes t m a0 a1 a2 a3) := by
  unfold f_X3_putBytes
  refine r_iconst 0 1 (v := 0) rfl rfl (by decide) ?_
  refine r_iload_n 1 2 2 rfl rfl rfl rfl ?_
  refine r_maxI 2 5 rfl rfl lk_RX3_186 (Nat.le_of_ble_eq_true rfl) (Nat.le_of_ble_eq_true rfl) ?_
  refine r_ltI (fun x1 => ?_)
  refine r_istore 3 7 (L' := [(4, .inl x1), (0, .inr (.inr a0)), (1, .inr (.inr a1)), (2, .inl a2), (3, .inl a3)]) rfl rfl (by decide) rfl ?_
  have hj7 : ∀ (m : Mi) (a4 : Int32), Sm u_X3_putBytes (2, 0, 0, t.length, zs t) (kV t) 7 [(0, .inr (.inr a0)), (1, .inr (.inr a1)), (3, .inl a3), (4, .inl a4)] [] (t, m) (f_X3_putBytes_j7 t m a0 a1 a3 a4) := by
    intro m a4
    unfold f_X3_putBytes_j7
    have hj34 : ∀ (m : Mi), Sm u_X3_putBytes (2, 0, 0, t.length, zs t) (kV t) 34 [] [] (t, m) (f_X3_putBytes_j34 t m) := by
      intro m
      unfold f_X3_putBytes_j34
      exact r_vret 18 rfl rfl rfl
    refine r_lp (Lf := fun x : Int32 × Mi => [(0, .inr (.inr a0)), (1, .inr (.inr a1)), (3, .inl a3), (4, .inl (x.1))]) (Mf := fun x : Int32 × Mi => (t, x.2)) (a4, m) ?_ FUEL
    rintro ⟨a4, m⟩ κ7 hc7 he7
    refine r_eq (L' := [(0, .inr (.inr a0)), (1, .inr (.inr a1)), (3, .inl a3), (4, .inl a4)]) (M' := (t, m)) rfl rfl ?_
    refine r_eqr (r' := f_X3_putBytes_l7 t m a0 a1 a3 a4) rfl ?_
    unfold f_X3_putBytes_l7
    refine r_iload 4 9 3 rfl rfl rfl ?_
    refine r_iload_n 5 10 2 rfl rfl rfl rfl ?_
    refine r_icmp_ge 6 34 13 rfl rfl rfl (fun h2 => ?_) (fun h2 => ?_)
    · refine r_leaf (r2 := (f_X3_putBytes_j34 t m : Option (Mi))) (he7 _) ?_
      exact r_sub [] rfl (hj34 m)
    · refine r_iload 7 15 3 rfl rfl rfl ?_
      refine r_aload_n 8 16 1 rfl rfl rfl rfl ?_
      refine r_gd (fun h3 => ?_)
      refine r_alen 9 17 2 rfl rfl (fun _ => rfl) h3 ?_
      refine r_icmp_ge 10 34 20 rfl rfl rfl (fun h4 => ?_) (fun h4 => ?_)
      · refine r_leaf (r2 := (f_X3_putBytes_j34 t m : Option (Mi))) (he7 _) ?_
        exact r_sub [] rfl (hj34 m)
      · refine r_aload_n 11 21 0 rfl rfl rfl rfl ?_
        refine r_aload_n 12 22 1 rfl rfl rfl rfl ?_
        refine r_iload 13 24 3 rfl rfl rfl ?_
        refine r_gd (fun h5 => ?_)
        refine r_bald 14 25 rfl rfl h5 ?_
        refine r_VV 15 28 (st := []) (av := [.inr (.inr a0), .inl (gi m a1 (ix a4))]) (av' := [.inl (gi m a1 (ix a4))]) (μ' := u_X3_putSign) (d := 1) rfl rfl mc_X3_putSign in_X3_putSign lk_RX3_93 (Nat.le_of_ble_eq_true rfl) rfl rfl h0 rfl (Nat.le_of_ble_eq_true rfl) (fun _ h => ct_X3_putSign h0 h) (fun m6 => ?_)
        refine r_iinc 16 31 3 (L' := [(4, .inl (a4 + 1)), (0, .inr (.inr a0)), (1, .inr (.inr a1)), (3, .inl a3)]) rfl rfl rfl (by decide) rfl ?_
        refine r_ltV (fun x7 => ?_)
        refine r_goto 17 7 rfl rfl ?_
        exact r_sub [1, 2, 3, 0] rfl (hc7 (x7, m6))
  exact r_sub [1, 2, 4, 0] rfl (hj7 m x1)
theorem ct_X3_putBytes {t : List Sh} {m : Mi} {a0 : Nat} {a1 : Nat} {a2 : Int32} {a3 : Int32} {m' : Mi}  (h0 : sh t a0 = some (.inl 3)) (h : f_X3_putBytes t m a0 a1 a2 a3 = some m') : Ct u_X3_putBytes 2 0 0 [.inr (.inr a0), .inr (.inr a1), .inl a2, .inl a3] (t, m) (none, (t, m')) :=
  ct_of (by decide) tk_X3_putBytes (Nat.le_of_ble_eq_true rfl) (sm_X3_putBytes t m a0 a1 a2 a3 h0) (by rw [h]; rfl) (Nat.le_refl _) (Nat.le_refl _)
theorem lk_RX3_168 : Cond.methodLink RX3 168 Lib.MathLoose.max_long.x ∈ TB := tbm 1061 (by decide +kernel) rfl
theorem kc_RX3_174 : Cond.constantLong RX3 174 (48) ∈ TB := tbm 1064 (by decide +kernel) rfl
theorem kc_RX3_176 : Cond.constantLong RX3 176 (10) ∈ TB := tbm 1065 (by decide +kernel) rfl
def tb_X3_putNumber : Tb := [(0, (.lconst 0, 1)), (1, (.lload_n 1, 1)), (2, (.invokestatic 168, 3)), (5, (.lstore_n 3, 1)), (6, (.iconst 0, 1)), (7, (.istore 5, 2)), (9, (.aload_n 0, 1)), (10, (.getfield 19, 3)), (13, (.iload 5, 2)), (15, (.ldc2_w 174, 3)), (18, (.lload_n 3, 1)), (19, (.ldc2_w 176, 3)), (22, (.lrem, 1)), (23, (.ladd, 1)), (24, (.l2i, 1)), (25, (.i2b, 1)), (26, (.bastore, 1)), (27, (.lload_n 3, 1)), (28, (.ldc2_w 176, 3)), (31, (.ldiv, 1)), (32, (.lstore_n 3, 1)), (33, (.iinc 5 1, 3)), (36, (.lload_n 3, 1)), (37, (.lconst 0, 1)), (38, (.lcmp, 1)), (39, (.ifCond .le 10, 3)), (42, (.iload 5, 2)), (44, (.bipush 10, 2)), (46, (.if_icmp .lt (-37), 3)), (49, (.iload 5, 2)), (51, (.iconst 1, 1)), (52, (.isub, 1)), (53, (.istore 6, 2)), (55, (.iload 6, 2)), (57, (.ifCond .lt 20, 3)), (60, (.aload_n 0, 1)), (61, (.aload_n 0, 1)), (62, (.getfield 19, 3)), (65, (.iload 6, 2)), (67, (.baload, 1)), (68, (.invokevirtual 93, 3)), (71, (.iinc 6 (-1), 3)), (74, (.goto (-19), 3)), (77, (.return_, 1))]
def u_X3_putNumber : Fx := (yX3_putNumber, (cX3_putNumber, (7, (none, tb_X3_putNumber))))
theorem tk_X3_putNumber : ∀ q ∈ u_X3_putNumber.2.2.2.2, decode u_X3_putNumber.2.1 q.1 = .ok q.2 := by decide +kernel
theorem mc_X3_putNumber : MC u_X3_putNumber 1 := ⟨tbm 1060 (by decide +kernel) rfl, tbm 127 (by decide +kernel) rfl, ⟨by decide, by decide, by decide +kernel⟩, by decide⟩
theorem in_X3_putNumber : Cond.instanceMethod u_X3_putNumber.1 ∈ TB ∧ Cond.selects u_X3_putNumber.1.cls u_X3_putNumber.1 u_X3_putNumber.1 ∈ TB := ⟨tbm 1059 (by decide +kernel) rfl, tbm 47 (by decide +kernel) rfl⟩
def f_X3_putNumber_j77 (t : List Sh) (m : Mi) : Option (Mi) :=
  some m
def f_X3_putNumber_l55 (t : List Sh) (m : Mi) (a0 : Nat) (a6 : Int32) : Option ((Int32 × Mi) ⊕ ((Mi))) :=
  if a6 < 0 then
    some (.inr m)
  else
    (if ar t (gr m a0 2) .byte a6 = true then
    (f_X3_putSign t m a0 (gi m (gr m a0 2) (ix a6))).bind fun m5 =>
    lt (a6 + (-1)) fun x6 =>
    some (.inl (x6, m5))
    else none)
def f_X3_putNumber_j55 (t : List Sh) (m : Mi) (a0 : Nat) (a6 : Int32) : Option (Mi) :=
  (lp (fun x : Int32 × Mi => f_X3_putNumber_l55 t x.2 a0 x.1) FUEL (a6, m)).bind (fun y : Mi => f_X3_putNumber_j77 t y)
def f_X3_putNumber_j49 (t : List Sh) (m : Mi) (a0 : Nat) (a5 : Int32) : Option (Mi) :=
  lt (a5 - 1) fun x2 =>
  f_X3_putNumber_j55 t m a0 x2
def f_X3_putNumber_l9 (t : List Sh) (m : Mi) (a0 : Nat) (a3 : Int64) (a5 : Int32) : Option ((Int64 × Int32 × Mi) ⊕ ((Int32 × Mi))) :=
  (if ar t (gr m a0 2) .byte a5 = true then
  lt (si m (gr m a0 2) (ix a5) (vp_nar .byte ((Int32.toInt8 (Int64.toInt32 (48 + (a3 - a3 / 10 * 10)))).toInt32))) fun m8 =>
  lt (a3 / 10) fun x9 =>
  lt (a5 + 1) fun x10 =>
  if (lg_cmp x9 0) ≤ 0 then
    some (.inr (x10, m8))
  else
    if x10 < 10 then
      some (.inl (x9, x10, m8))
    else
      some (.inr (x10, m8))
  else none)
def f_X3_putNumber_j9 (t : List Sh) (m : Mi) (a0 : Nat) (a3 : Int64) (a5 : Int32) : Option (Mi) :=
  (lp (fun x : Int64 × Int32 × Mi => f_X3_putNumber_l9 t x.2.2 a0 x.1 x.2.1) FUEL (a3, a5, m)).bind (fun y : Int32 × Mi => f_X3_putNumber_j49 t (y.2) a0 (y.1))
def f_X3_putNumber (t : List Sh) (m : Mi) (a0 : Nat) (a1 : Int64) : Option (Mi) :=
  lt (if a1 < 0 then 0 else a1) fun x1 =>
  f_X3_putNumber_j9 t m a0 x1 0
set_option maxRecDepth 4000 in
set_option maxHeartbeats 4000000 in
theorem sm_X3_putNumber (t : List Sh) (m : Mi) (a0 : Nat) (a1 : Int64) (h0 : sh t a0 = some (.inl 3)) : Sm u_X3_putNumber (2, 0, 0, t.length, zs t) (kV t) 0 [(0, .inr (.inr a0)), (1, .inr (.inl a1))] [] (t, m) (f_X3_putNumber t m a0 a1) := by
  unfold f_X3_putNumber
  refine r_lconst 0 1 (v := 0) rfl rfl (by decide) ?_
  refine r_lload_n 1 2 1 rfl rfl rfl rfl ?_
  refine r_maxL 2 5 rfl rfl lk_RX3_168 (Nat.le_of_ble_eq_true rfl) (Nat.le_of_ble_eq_true rfl) ?_
  refine r_ltL (fun x1 => ?_)
  refine r_lstore_n 3 6 (L' := [(3, .inr (.inl x1)), (0, .inr (.inr a0)), (1, .inr (.inl a1))]) rfl rfl rfl (by decide) rfl ?_
  refine r_iconst 4 7 (v := 0) rfl rfl (by decide) ?_
  refine r_istore 5 9 (L' := [(5, .inl 0), (3, .inr (.inl x1)), (0, .inr (.inr a0)), (1, .inr (.inl a1))]) rfl rfl (by decide) rfl ?_
  have hj9 : ∀ (m : Mi) (a3 : Int64) (a5 : Int32), Sm u_X3_putNumber (2, 0, 0, t.length, zs t) (kV t) 9 [(0, .inr (.inr a0)), (3, .inr (.inl a3)), (5, .inl a5)] [] (t, m) (f_X3_putNumber_j9 t m a0 a3 a5) := by
    intro m a3 a5
    unfold f_X3_putNumber_j9
    have hj49 : ∀ (m : Mi) (a5 : Int32), Sm u_X3_putNumber (2, 0, 0, t.length, zs t) (kV t) 49 [(0, .inr (.inr a0)), (5, .inl a5)] [] (t, m) (f_X3_putNumber_j49 t m a0 a5) := by
      intro m a5
      unfold f_X3_putNumber_j49
      refine r_iload 29 51 1 rfl rfl rfl ?_
      refine r_iconst 30 52 (v := 1) rfl rfl (by decide) ?_
      refine r_isub 31 53 rfl rfl ?_
      refine r_ltI (fun x2 => ?_)
      refine r_istore 32 55 (L' := [(6, .inl x2), (0, .inr (.inr a0)), (5, .inl a5)]) rfl rfl (by decide) rfl ?_
      have hj55 : ∀ (m : Mi) (a6 : Int32), Sm u_X3_putNumber (2, 0, 0, t.length, zs t) (kV t) 55 [(0, .inr (.inr a0)), (6, .inl a6)] [] (t, m) (f_X3_putNumber_j55 t m a0 a6) := by
        intro m a6
        unfold f_X3_putNumber_j55
        have hj77 : ∀ (m : Mi), Sm u_X3_putNumber (2, 0, 0, t.length, zs t) (kV t) 77 [] [] (t, m) (f_X3_putNumber_j77 t m) := by
          intro m
          unfold f_X3_putNumber_j77
          exact r_vret 43 rfl rfl rfl
        refine r_lp (Lf := fun x : Int32 × Mi => [(0, .inr (.inr a0)), (6, .inl (x.1))]) (Mf := fun x : Int32 × Mi => (t, x.2)) (a6, m) ?_ FUEL
        rintro ⟨a6, m⟩ κ55 hc55 he55
        refine r_eq (L' := [(0, .inr (.inr a0)), (6, .inl a6)]) (M' := (t, m)) rfl rfl ?_
        refine r_eqr (r' := f_X3_putNumber_l55 t m a0 a6) rfl ?_
        unfold f_X3_putNumber_l55
        refine r_iload 33 57 1 rfl rfl rfl ?_
        refine r_if_lt 34 77 60 rfl rfl rfl (fun h3 => ?_) (fun h3 => ?_)
        · refine r_leaf (r2 := (f_X3_putNumber_j77 t m : Option (Mi))) (he55 _) ?_
          exact r_sub [] rfl (hj77 m)
        · refine r_aload_n 35 61 0 rfl rfl rfl rfl ?_
          refine r_aload_n 36 62 0 rfl rfl rfl rfl ?_
          refine r_getR 37 65 rfl rfl fl_RX3_19 rfl h0 ?_
          refine r_iload 38 67 1 rfl rfl rfl ?_
          refine r_gd (fun h4 => ?_)
          refine r_bald 39 68 rfl rfl h4 ?_
          refine r_VV 40 71 (st := []) (av := [.inr (.inr a0), .inl (gi m (gr m a0 2) (ix a6))]) (av' := [.inl (gi m (gr m a0 2) (ix a6))]) (μ' := u_X3_putSign) (d := 1) rfl rfl mc_X3_putSign in_X3_putSign lk_RX3_93 (Nat.le_of_ble_eq_true rfl) rfl rfl h0 rfl (Nat.le_of_ble_eq_true rfl) (fun _ h => ct_X3_putSign h0 h) (fun m5 => ?_)
          refine r_iinc 41 74 1 (L' := [(6, .inl (a6 + (-1))), (0, .inr (.inr a0))]) rfl rfl rfl (by decide) rfl ?_
          refine r_ltV (fun x6 => ?_)
          refine r_goto 42 55 rfl rfl ?_
          exact r_sub [1, 0] rfl (hc55 (x6, m5))
      exact r_sub [1, 0] rfl (hj55 m x2)
    refine r_lp (Lf := fun x : Int64 × Int32 × Mi => [(0, .inr (.inr a0)), (3, .inr (.inl (x.1))), (5, .inl (x.2.1))]) (Mf := fun x : Int64 × Int32 × Mi => (t, x.2.2)) (a3, a5, m) ?_ FUEL
    rintro ⟨a3, a5, m⟩ κ9 hc9 he9
    refine r_eq (L' := [(0, .inr (.inr a0)), (3, .inr (.inl a3)), (5, .inl a5)]) (M' := (t, m)) rfl rfl ?_
    refine r_eqr (r' := f_X3_putNumber_l9 t m a0 a3 a5) rfl ?_
    unfold f_X3_putNumber_l9
    refine r_aload_n 6 10 0 rfl rfl rfl rfl ?_
    refine r_getR 7 13 rfl rfl fl_RX3_19 rfl h0 ?_
    refine r_iload 8 15 2 rfl rfl rfl ?_
    refine r_ldc2 9 18 rfl rfl kc_RX3_174 ?_
    refine r_lload_n 10 19 1 rfl rfl rfl rfl ?_
    refine r_ldc2 11 22 rfl rfl kc_RX3_176 ?_
    refine r_lrem 12 23 rfl rfl (by decide) ?_
    refine r_ladd 13 24 rfl rfl ?_
    refine r_l2i 14 25 rfl rfl ?_
    refine r_i2b 15 26 rfl rfl ?_
    refine r_gd (fun h7 => ?_)
    refine r_bast 16 27 rfl rfl h7 ?_
    refine r_ltM (fun m8 => ?_)
    refine r_lload_n 17 28 1 rfl rfl rfl rfl ?_
    refine r_ldc2 18 31 rfl rfl kc_RX3_176 ?_
    refine r_ldiv 19 32 rfl rfl (by decide) ?_
    refine r_ltL (fun x9 => ?_)
    refine r_lstore_n 20 33 (L' := [(3, .inr (.inl x9)), (0, .inr (.inr a0)), (5, .inl a5)]) rfl rfl rfl (by decide) rfl ?_
    refine r_iinc 21 36 2 (L' := [(5, .inl (a5 + 1)), (3, .inr (.inl x9)), (0, .inr (.inr a0))]) rfl rfl rfl (by decide) rfl ?_
    refine r_ltV (fun x10 => ?_)
    refine r_lload_n 22 37 1 rfl rfl rfl rfl ?_
    refine r_lconst 23 38 (v := 0) rfl rfl (by decide) ?_
    refine r_lcmp 24 39 rfl rfl ?_
    refine r_if_le 25 49 42 rfl rfl rfl (fun h11 => ?_) (fun h11 => ?_)
    · refine r_leaf (r2 := (f_X3_putNumber_j49 t m8 a0 x10 : Option (Mi))) (he9 _) ?_
      exact r_sub [2, 0] rfl (hj49 m8 x10)
    · refine r_iload 26 44 0 rfl rfl rfl ?_
      refine r_bipush 27 46 (v := 10) rfl rfl (by decide) ?_
      refine r_icmp_lt 28 9 49 rfl rfl rfl (fun h12 => ?_) (fun h12 => ?_)
      · exact r_sub [2, 1, 0] rfl (hc9 (x9, x10, m8))
      · refine r_leaf (r2 := (f_X3_putNumber_j49 t m8 a0 x10 : Option (Mi))) (he9 _) ?_
        exact r_sub [2, 0] rfl (hj49 m8 x10)
  exact r_sub [2, 1, 0] rfl (hj9 m x1 0)
theorem ct_X3_putNumber {t : List Sh} {m : Mi} {a0 : Nat} {a1 : Int64} {m' : Mi}  (h0 : sh t a0 = some (.inl 3)) (h : f_X3_putNumber t m a0 a1 = some m') : Ct u_X3_putNumber 2 0 0 [.inr (.inr a0), .inr (.inl a1)] (t, m) (none, (t, m')) :=
  ct_of (by decide) tk_X3_putNumber (Nat.le_of_ble_eq_true rfl) (sm_X3_putNumber t m a0 a1 h0) (by rw [h]; rfl) (Nat.le_refl _) (Nat.le_refl _)
theorem lk_RX3_157 : Cond.methodLink RX3 157 yX3_putNumber ∈ TB := tbm 1057 (by decide +kernel) rfl
theorem kc_RX3_166 : Cond.constantLong RX3 166 (255) ∈ TB := tbm 1071 (by decide +kernel) rfl
def tb_X3_putKey : Tb := [(0, (.lload_n 1, 1)), (1, (.bipush 56, 2)), (3, (.lshr, 1)), (4, (.lconst 0, 1)), (5, (.lcmp, 1)), (6, (.ifCond .ne 11, 3)), (9, (.aload_n 0, 1)), (10, (.lload_n 1, 1)), (11, (.lconst 1, 1)), (12, (.lsub, 1)), (13, (.invokevirtual 157, 3)), (16, (.return_, 1)), (17, (.bipush 56, 2)), (19, (.istore_n 3, 1)), (20, (.iload_n 3, 1)), (21, (.ifCond .lt 33, 3)), (24, (.lload_n 1, 1)), (25, (.iload_n 3, 1)), (26, (.lshr, 1)), (27, (.ldc2_w 166, 3)), (30, (.land, 1)), (31, (.lconst 0, 1)), (32, (.lcmp, 1)), (33, (.ifCond .eq 21, 3)), (36, (.aload_n 0, 1)), (37, (.lload_n 1, 1)), (38, (.iload_n 3, 1)), (39, (.lshr, 1)), (40, (.ldc2_w 166, 3)), (43, (.land, 1)), (44, (.l2i, 1)), (45, (.invokevirtual 93, 3)), (48, (.iinc 3 (-8), 3)), (51, (.goto (-31), 3)), (54, (.return_, 1))]
def u_X3_putKey : Fx := (yX3_putKey, (cX3_putKey, (4, (none, tb_X3_putKey))))
theorem tk_X3_putKey : ∀ q ∈ u_X3_putKey.2.2.2.2, decode u_X3_putKey.2.1 q.1 = .ok q.2 := by decide +kernel
theorem mc_X3_putKey : MC u_X3_putKey 1 := ⟨tbm 1070 (by decide +kernel) rfl, tbm 127 (by decide +kernel) rfl, ⟨by decide, by decide, by decide +kernel⟩, by decide⟩
theorem in_X3_putKey : Cond.instanceMethod u_X3_putKey.1 ∈ TB ∧ Cond.selects u_X3_putKey.1.cls u_X3_putKey.1 u_X3_putKey.1 ∈ TB := ⟨tbm 1069 (by decide +kernel) rfl, tbm 48 (by decide +kernel) rfl⟩
def f_X3_putKey_j54 (t : List Sh) (m : Mi) : Option (Mi) :=
  some m
def f_X3_putKey_l20 (t : List Sh) (m : Mi) (a0 : Nat) (a1 : Int64) (a3 : Int32) : Option ((Int32 × Mi) ⊕ ((Mi))) :=
  if a3 < 0 then
    some (.inr m)
  else
    if (lg_cmp ((a1 >>> (Int32.toInt64 a3 &&& 63)) &&& 255) 0) = 0 then
      some (.inr m)
    else
      (f_X3_putSign t m a0 (Int64.toInt32 ((a1 >>> (Int32.toInt64 a3 &&& 63)) &&& 255))).bind fun m5 =>
      lt (a3 + (-8)) fun x6 =>
      some (.inl (x6, m5))
def f_X3_putKey_j20 (t : List Sh) (m : Mi) (a0 : Nat) (a1 : Int64) (a3 : Int32) : Option (Mi) :=
  (lp (fun x : Int32 × Mi => f_X3_putKey_l20 t x.2 a0 a1 x.1) FUEL (a3, m)).bind (fun y : Mi => f_X3_putKey_j54 t y)
def f_X3_putKey (t : List Sh) (m : Mi) (a0 : Nat) (a1 : Int64) : Option (Mi) :=
  if (lg_cmp (a1 >>> (Int32.toInt64 56 &&& 63)) 0) = 0 then
    (f_X3_putNumber t m a0 (a1 - 1)).bind fun m2 =>
    some m2
  else
    f_X3_putKey_j20 t m a0 a1 56
set_option maxRecDepth 4000 in
set_option maxHeartbeats 4000000 in
theorem sm_X3_putKey (t : List Sh) (m : Mi) (a0 : Nat) (a1 : Int64) (h0 : sh t a0 = some (.inl 3)) : Sm u_X3_putKey (3, 0, 0, t.length, zs t) (kV t) 0 [(0, .inr (.inr a0)), (1, .inr (.inl a1))] [] (t, m) (f_X3_putKey t m a0 a1) := by
  unfold f_X3_putKey
  refine r_lload_n 0 1 1 rfl rfl rfl rfl ?_
  refine r_bipush 1 3 (v := 56) rfl rfl (by decide) ?_
  refine r_lshr 2 4 rfl rfl ?_
  refine r_lconst 3 5 (v := 0) rfl rfl (by decide) ?_
  refine r_lcmp 4 6 rfl rfl ?_
  refine r_if_ne 5 17 9 rfl rfl rfl (fun h1 => ?_) (fun h1 => ?_)
  · refine r_aload_n 6 10 0 rfl rfl rfl rfl ?_
    refine r_lload_n 7 11 1 rfl rfl rfl rfl ?_
    refine r_lconst 8 12 (v := 1) rfl rfl (by decide) ?_
    refine r_lsub 9 13 rfl rfl ?_
    refine r_VV 10 16 (st := []) (av := [.inr (.inr a0), .inr (.inl (a1 - 1))]) (av' := [.inr (.inl (a1 - 1))]) (μ' := u_X3_putNumber) (d := 2) rfl rfl mc_X3_putNumber in_X3_putNumber lk_RX3_157 (Nat.le_of_ble_eq_true rfl) rfl rfl h0 rfl (Nat.le_of_ble_eq_true rfl) (fun _ h => ct_X3_putNumber h0 h) (fun m2 => ?_)
    exact r_vret 11 rfl rfl rfl
  · refine r_bipush 12 19 (v := 56) rfl rfl (by decide) ?_
    refine r_istore_n 13 20 (L' := [(3, .inl 56), (0, .inr (.inr a0)), (1, .inr (.inl a1))]) rfl rfl rfl (by decide) rfl ?_
    have hj20 : ∀ (m : Mi) (a3 : Int32), Sm u_X3_putKey (3, 0, 0, t.length, zs t) (kV t) 20 [(0, .inr (.inr a0)), (1, .inr (.inl a1)), (3, .inl a3)] [] (t, m) (f_X3_putKey_j20 t m a0 a1 a3) := by
      intro m a3
      unfold f_X3_putKey_j20
      have hj54 : ∀ (m : Mi), Sm u_X3_putKey (3, 0, 0, t.length, zs t) (kV t) 54 [] [] (t, m) (f_X3_putKey_j54 t m) := by
        intro m
        unfold f_X3_putKey_j54
        exact r_vret 34 rfl rfl rfl
      refine r_lp (Lf := fun x : Int32 × Mi => [(0, .inr (.inr a0)), (1, .inr (.inl a1)), (3, .inl (x.1))]) (Mf := fun x : Int32 × Mi => (t, x.2)) (a3, m) ?_ FUEL
      rintro ⟨a3, m⟩ κ20 hc20 he20
      refine r_eq (L' := [(0, .inr (.inr a0)), (1, .inr (.inl a1)), (3, .inl a3)]) (M' := (t, m)) rfl rfl ?_
      refine r_eqr (r' := f_X3_putKey_l20 t m a0 a1 a3) rfl ?_
      unfold f_X3_putKey_l20
      refine r_iload_n 14 21 2 rfl rfl rfl rfl ?_
      refine r_if_lt 15 54 24 rfl rfl rfl (fun h3 => ?_) (fun h3 => ?_)
      · refine r_leaf (r2 := (f_X3_putKey_j54 t m : Option (Mi))) (he20 _) ?_
        exact r_sub [] rfl (hj54 m)
      · refine r_lload_n 16 25 1 rfl rfl rfl rfl ?_
        refine r_iload_n 17 26 2 rfl rfl rfl rfl ?_
        refine r_lshr 18 27 rfl rfl ?_
        refine r_ldc2 19 30 rfl rfl kc_RX3_166 ?_
        refine r_land 20 31 rfl rfl ?_
        refine r_lconst 21 32 (v := 0) rfl rfl (by decide) ?_
        refine r_lcmp 22 33 rfl rfl ?_
        refine r_if_eq 23 54 36 rfl rfl rfl (fun h4 => ?_) (fun h4 => ?_)
        · refine r_leaf (r2 := (f_X3_putKey_j54 t m : Option (Mi))) (he20 _) ?_
          exact r_sub [] rfl (hj54 m)
        · refine r_aload_n 24 37 0 rfl rfl rfl rfl ?_
          refine r_lload_n 25 38 1 rfl rfl rfl rfl ?_
          refine r_iload_n 26 39 2 rfl rfl rfl rfl ?_
          refine r_lshr 27 40 rfl rfl ?_
          refine r_ldc2 28 43 rfl rfl kc_RX3_166 ?_
          refine r_land 29 44 rfl rfl ?_
          refine r_l2i 30 45 rfl rfl ?_
          refine r_VV 31 48 (st := []) (av := [.inr (.inr a0), .inl (Int64.toInt32 ((a1 >>> (Int32.toInt64 a3 &&& 63)) &&& 255))]) (av' := [.inl (Int64.toInt32 ((a1 >>> (Int32.toInt64 a3 &&& 63)) &&& 255))]) (μ' := u_X3_putSign) (d := 1) rfl rfl mc_X3_putSign in_X3_putSign lk_RX3_93 (Nat.le_of_ble_eq_true rfl) rfl rfl h0 rfl (Nat.le_of_ble_eq_true rfl) (fun _ h => ct_X3_putSign h0 h) (fun m5 => ?_)
          refine r_iinc 32 51 2 (L' := [(3, .inl (a3 + (-8))), (0, .inr (.inr a0)), (1, .inr (.inl a1))]) rfl rfl rfl (by decide) rfl ?_
          refine r_ltV (fun x6 => ?_)
          refine r_goto 33 20 rfl rfl ?_
          exact r_sub [1, 2, 0] rfl (hc20 (x6, m5))
    exact r_sub [1, 2, 0] rfl (hj20 m 56)
theorem ct_X3_putKey {t : List Sh} {m : Mi} {a0 : Nat} {a1 : Int64} {m' : Mi}  (h0 : sh t a0 = some (.inl 3)) (h : f_X3_putKey t m a0 a1 = some m') : Ct u_X3_putKey 3 0 0 [.inr (.inr a0), .inr (.inl a1)] (t, m) (none, (t, m')) :=
  ct_of (by decide) tk_X3_putKey (Nat.le_of_ble_eq_true rfl) (sm_X3_putKey t m a0 a1 h0) (by rw [h]; rfl) (Nat.le_refl _) (Nat.le_refl _)
theorem lk_RX3_63 : Cond.methodLink RX3 63 yX6_releaseAt ∈ TB := tbm 1084 (by decide +kernel) rfl
theorem fl_RX3_78 : FL RX3 78 6 0 true := ⟨RX6, TX6, 11, rfl, inW6, tyX6_ok, nmX6, by decide, rfl, rfl, rfl, tbm 407 (by decide +kernel) rfl⟩
theorem fl_RX3_81 : FL RX3 81 2 1 false := ⟨RX2, TX2, 5, rfl, inW2, tyX2_ok, nmX2, by decide, rfl, rfl, rfl, tbm 282 (by decide +kernel) rfl⟩
theorem fl_RX3_86 : FL RX3 86 2 2 false := ⟨RX2, TX2, 5, rfl, inW2, tyX2_ok, nmX2, by decide, rfl, rfl, rfl, tbm 285 (by decide +kernel) rfl⟩
theorem lk_RX3_89 : Cond.methodLink RX3 89 yX3_putBytes ∈ TB := tbm 1086 (by decide +kernel) rfl
theorem fl_RX3_97 : FL RX3 97 7 2 false := ⟨RX7, TX7, 6, rfl, inW7, tyX7_ok, nmX7, by decide, rfl, rfl, rfl, tbm 320 (by decide +kernel) rfl⟩
theorem fl_RX3_100 : FL RX3 100 7 3 false := ⟨RX7, TX7, 6, rfl, inW7, tyX7_ok, nmX7, by decide, rfl, rfl, rfl, tbm 323 (by decide +kernel) rfl⟩
theorem fl_RX3_69 : FL RX3 69 7 1 false := ⟨RX7, TX7, 6, rfl, inW7, tyX7_ok, nmX7, by decide, rfl, rfl, rfl, tbm 315 (by decide +kernel) rfl⟩
theorem lk_RX3_74 : Cond.methodLink RX3 74 yX6_packAt ∈ TB := tbm 1085 (by decide +kernel) rfl
def tb_X3_putRelease : Tb := [(0, (.aload_n 1, 1)), (1, (.iload_n 2, 1)), (2, (.invokevirtual 63, 3)), (5, (.astore_n 3, 1)), (6, (.aload_n 3, 1)), (7, (.ifnonnull 7, 3)), (10, (.aconst_null, 1)), (11, (.goto 11, 3)), (14, (.aload_n 1, 1)), (15, (.aload_n 3, 1)), (16, (.getfield 69, 3)), (19, (.invokevirtual 74, 3)), (22, (.astore 4, 2)), (24, (.aload 4, 2)), (26, (.ifnull 43, 3)), (29, (.aload_n 0, 1)), (30, (.aload_n 1, 1)), (31, (.getfield 78, 3)), (34, (.aload 4, 2)), (36, (.getfield 81, 3)), (39, (.aload 4, 2)), (41, (.getfield 86, 3)), (44, (.invokevirtual 89, 3)), (47, (.aload_n 0, 1)), (48, (.bipush 32, 2)), (50, (.invokevirtual 93, 3)), (53, (.aload_n 0, 1)), (54, (.aload_n 1, 1)), (55, (.getfield 78, 3)), (58, (.aload_n 3, 1)), (59, (.getfield 97, 3)), (62, (.aload_n 3, 1)), (63, (.getfield 100, 3)), (66, (.invokevirtual 89, 3)), (69, (.return_, 1))]
def u_X3_putRelease : Fx := (yX3_putRelease, (cX3_putRelease, (5, (none, tb_X3_putRelease))))
theorem tk_X3_putRelease : ∀ q ∈ u_X3_putRelease.2.2.2.2, decode u_X3_putRelease.2.1 q.1 = .ok q.2 := by decide +kernel
theorem mc_X3_putRelease : MC u_X3_putRelease 2 := ⟨tbm 1083 (by decide +kernel) rfl, tbm 127 (by decide +kernel) rfl, ⟨by decide, by decide, by decide +kernel⟩, by decide⟩
theorem in_X3_putRelease : Cond.instanceMethod u_X3_putRelease.1 ∈ TB ∧ Cond.selects u_X3_putRelease.1.cls u_X3_putRelease.1 u_X3_putRelease.1 ∈ TB := ⟨tbm 1081 (by decide +kernel) rfl, tbm 1082 (by decide +kernel) rfl⟩
def f_X3_putRelease_j22 (t : List Sh) (m : Mi) (a0 : Nat) (a1 : Nat) (a3 : Nat) (s0 : Nat) : Option (Mi) :=
  if s0 = 0 then
    some m
  else
    (if ob t s0 2 = true then
    (f_X3_putBytes t m a0 (gr m a1 0) (gi m s0 1) (gi m s0 2)).bind fun m5 =>
    (f_X3_putSign t m5 a0 32).bind fun m6 =>
    (if ob t a3 7 = true then
    (f_X3_putBytes t m6 a0 (gr m6 a1 0) (gi m6 a3 2) (gi m6 a3 3)).bind fun m8 =>
    some m8
    else none)
    else none)
def f_X3_putRelease (t : List Sh) (m : Mi) (a0 : Nat) (a1 : Nat) (a2 : Int32) : Option (Mi) :=
  (if ob t a1 6 = true then
  (f_X6_releaseAt t m a1 a2).bind fun x2 =>
  if x2 = 0 then
    f_X3_putRelease_j22 t m a0 a1 x2 0
  else
    (if ob t x2 7 = true then
    (f_X6_packAt t m a1 (gi m x2 1)).bind fun x11 =>
    f_X3_putRelease_j22 t m a0 a1 x2 x11
    else none)
  else none)
set_option maxRecDepth 4000 in
set_option maxHeartbeats 4000000 in
theorem sm_X3_putRelease (t : List Sh) (m : Mi) (a0 : Nat) (a1 : Nat) (a2 : Int32) (h0 : sh t a0 = some (.inl 3)) : Sm u_X3_putRelease (3, 0, 0, t.length, zs t) (kV t) 0 [(0, .inr (.inr a0)), (1, .inr (.inr a1)), (2, .inl a2)] [] (t, m) (f_X3_putRelease t m a0 a1 a2) := by
  unfold f_X3_putRelease
  refine r_aload_n 0 1 1 rfl rfl rfl rfl ?_
  refine r_iload_n 1 2 2 rfl rfl rfl rfl ?_
  refine r_gd (fun h1 => ?_)
  refine r_VRo 2 5 (st := []) (av := [.inr (.inr a1), .inl a2]) (av' := [.inl a2]) (μ' := u_X6_releaseAt) (d := 1) rfl rfl mc_X6_releaseAt in_X6_releaseAt lk_RX3_63 (Nat.le_of_ble_eq_true rfl) rfl rfl (ob_sh h1) rfl (Nat.le_of_ble_eq_true rfl) (fun _ h => ct_X6_releaseAt (ob_sh h1) h) (fun x2 => ?_)
  refine r_astore_n 3 6 (L' := [(3, .inr (.inr x2)), (0, .inr (.inr a0)), (1, .inr (.inr a1)), (2, .inl a2)]) rfl rfl rfl (by decide) rfl ?_
  refine r_aload_n 4 7 0 rfl rfl rfl rfl ?_
  have hj22 : ∀ (m : Mi) (a3 : Nat) (s0 : Nat), Sm u_X3_putRelease (3, 0, 0, t.length, zs t) (kV t) 22 [(0, .inr (.inr a0)), (1, .inr (.inr a1)), (3, .inr (.inr a3))] [.inr (.inr s0)] (t, m) (f_X3_putRelease_j22 t m a0 a1 a3 s0) := by
    intro m a3 s0
    unfold f_X3_putRelease_j22
    refine r_astore 12 24 (L' := [(4, .inr (.inr s0)), (0, .inr (.inr a0)), (1, .inr (.inr a1)), (3, .inr (.inr a3))]) rfl rfl (by decide) rfl ?_
    refine r_aload 13 26 0 rfl rfl rfl ?_
    refine r_ifnull 14 69 29 rfl rfl rfl (fun h3 => ?_) (fun h3 => ?_)
    · exact r_vret 34 rfl rfl rfl
    · refine r_aload_n 15 30 1 rfl rfl rfl rfl ?_
      refine r_aload_n 16 31 2 rfl rfl rfl rfl ?_
      refine r_getR 17 34 rfl rfl fl_RX3_78 rfl (ob_sh h1) ?_
      refine r_aload 18 36 0 rfl rfl rfl ?_
      refine r_gd (fun h4 => ?_)
      refine r_getI 19 39 rfl rfl fl_RX3_81 rfl (ob_sh h4) ?_
      refine r_aload 20 41 0 rfl rfl rfl ?_
      refine r_getI 21 44 rfl rfl fl_RX3_86 rfl (ob_sh h4) ?_
      refine r_VV 22 47 (st := []) (av := [.inr (.inr a0), .inr (.inr (gr m a1 0)), .inl (gi m s0 1), .inl (gi m s0 2)]) (av' := [.inr (.inr (gr m a1 0)), .inl (gi m s0 1), .inl (gi m s0 2)]) (μ' := u_X3_putBytes) (d := 2) rfl rfl mc_X3_putBytes in_X3_putBytes lk_RX3_89 (Nat.le_of_ble_eq_true rfl) rfl rfl h0 rfl (Nat.le_of_ble_eq_true rfl) (fun _ h => ct_X3_putBytes h0 h) (fun m5 => ?_)
      refine r_aload_n 23 48 1 rfl rfl rfl rfl ?_
      refine r_bipush 24 50 (v := 32) rfl rfl (by decide) ?_
      refine r_VV 25 53 (st := []) (av := [.inr (.inr a0), .inl 32]) (av' := [.inl 32]) (μ' := u_X3_putSign) (d := 1) rfl rfl mc_X3_putSign in_X3_putSign lk_RX3_93 (Nat.le_of_ble_eq_true rfl) rfl rfl h0 rfl (Nat.le_of_ble_eq_true rfl) (fun _ h => ct_X3_putSign h0 h) (fun m6 => ?_)
      refine r_aload_n 26 54 1 rfl rfl rfl rfl ?_
      refine r_aload_n 27 55 2 rfl rfl rfl rfl ?_
      refine r_getR 28 58 rfl rfl fl_RX3_78 rfl (ob_sh h1) ?_
      refine r_aload_n 29 59 3 rfl rfl rfl rfl ?_
      refine r_gd (fun h7 => ?_)
      refine r_getI 30 62 rfl rfl fl_RX3_97 rfl (ob_sh h7) ?_
      refine r_aload_n 31 63 3 rfl rfl rfl rfl ?_
      refine r_getI 32 66 rfl rfl fl_RX3_100 rfl (ob_sh h7) ?_
      refine r_VV 33 69 (st := []) (av := [.inr (.inr a0), .inr (.inr (gr m6 a1 0)), .inl (gi m6 a3 2), .inl (gi m6 a3 3)]) (av' := [.inr (.inr (gr m6 a1 0)), .inl (gi m6 a3 2), .inl (gi m6 a3 3)]) (μ' := u_X3_putBytes) (d := 2) rfl rfl mc_X3_putBytes in_X3_putBytes lk_RX3_89 (Nat.le_of_ble_eq_true rfl) rfl rfl h0 rfl (Nat.le_of_ble_eq_true rfl) (fun _ h => ct_X3_putBytes h0 h) (fun m8 => ?_)
      exact r_vret 34 rfl rfl rfl
  refine r_ifnonnull 5 14 10 rfl rfl rfl (fun h9 => ?_) (fun h9 => ?_)
  · refine r_null 6 11 rfl rfl ?_
    refine r_goto 7 22 rfl rfl ?_
    exact r_sub [1, 2, 0] rfl (hj22 m x2 0)
  · refine r_aload_n 8 15 2 rfl rfl rfl rfl ?_
    refine r_aload_n 9 16 0 rfl rfl rfl rfl ?_
    refine r_gd (fun h10 => ?_)
    refine r_getI 10 19 rfl rfl fl_RX3_69 rfl (ob_sh h10) ?_
    refine r_VRo 11 22 (st := []) (av := [.inr (.inr a1), .inl (gi m x2 1)]) (av' := [.inl (gi m x2 1)]) (μ' := u_X6_packAt) (d := 1) rfl rfl mc_X6_packAt in_X6_packAt lk_RX3_74 (Nat.le_of_ble_eq_true rfl) rfl rfl (ob_sh h1) rfl (Nat.le_of_ble_eq_true rfl) (fun _ h => ct_X6_packAt (ob_sh h1) h) (fun x11 => ?_)
    exact r_sub [1, 2, 0] rfl (hj22 m x2 x11)
theorem ct_X3_putRelease {t : List Sh} {m : Mi} {a0 : Nat} {a1 : Nat} {a2 : Int32} {m' : Mi}  (h0 : sh t a0 = some (.inl 3)) (h : f_X3_putRelease t m a0 a1 a2 = some m') : Ct u_X3_putRelease 3 0 0 [.inr (.inr a0), .inr (.inr a1), .inl a2] (t, m) (none, (t, m')) :=
  ct_of (by decide) tk_X3_putRelease (Nat.le_of_ble_eq_true rfl) (sm_X3_putRelease t m a0 a1 a2 h0) (by rw [h]; rfl) (Nat.le_refl _) (Nat.le_refl _)
theorem lk_RX3_178 : Cond.methodLink RX3 178 yJ0_length_8abf5 ∈ TB := tbm 1030 (by decide +kernel) rfl
theorem lk_RX3_182 : Cond.methodLink RX3 182 yJ0_charAt_5068e ∈ TB := tbm 1031 (by decide +kernel) rfl
def tb_X3_putText : Tb := [(0, (.iconst 0, 1)), (1, (.istore_n 2, 1)), (2, (.iload_n 2, 1)), (3, (.aload_n 1, 1)), (4, (.invokevirtual 178, 3)), (7, (.if_icmp .ge 18, 3)), (10, (.aload_n 0, 1)), (11, (.aload_n 1, 1)), (12, (.iload_n 2, 1)), (13, (.invokevirtual 182, 3)), (16, (.invokevirtual 93, 3)), (19, (.iinc 2 1, 3)), (22, (.goto (-20), 3)), (25, (.return_, 1))]
def u_X3_putText : Fx := (yX3_putText, (cX3_putText, (3, (none, tb_X3_putText))))
theorem tk_X3_putText : ∀ q ∈ u_X3_putText.2.2.2.2, decode u_X3_putText.2.1 q.1 = .ok q.2 := by decide +kernel
theorem mc_X3_putText : MC u_X3_putText 1 := ⟨tbm 1029 (by decide +kernel) rfl, tbm 127 (by decide +kernel) rfl, ⟨by decide, by decide, by decide +kernel⟩, by decide⟩
theorem in_X3_putText : Cond.instanceMethod u_X3_putText.1 ∈ TB ∧ Cond.selects u_X3_putText.1.cls u_X3_putText.1 u_X3_putText.1 ∈ TB := ⟨tbm 1028 (by decide +kernel) rfl, tbm 43 (by decide +kernel) rfl⟩
def f_X3_putText_j25 (t : List Sh) (m : Mi) : Option (Mi) :=
  some m
def f_X3_putText_l2 (t : List Sh) (m : Mi) (a0 : Nat) (a1 : Nat) (a2 : Int32) : Option ((Int32 × Mi) ⊕ ((Mi))) :=
  (f_len a1).bind fun x1 =>
  if x1 ≤ a2 then
    some (.inr m)
  else
    (f_chr a1 a2).bind fun x3 =>
    (f_X3_putSign t m a0 x3).bind fun m4 =>
    lt (a2 + 1) fun x5 =>
    some (.inl (x5, m4))
def f_X3_putText_j2 (t : List Sh) (m : Mi) (a0 : Nat) (a1 : Nat) (a2 : Int32) : Option (Mi) :=
  (lp (fun x : Int32 × Mi => f_X3_putText_l2 t x.2 a0 a1 x.1) FUEL (a2, m)).bind (fun y : Mi => f_X3_putText_j25 t y)
def f_X3_putText (t : List Sh) (m : Mi) (a0 : Nat) (a1 : Nat) : Option (Mi) :=
  f_X3_putText_j2 t m a0 a1 0
set_option maxRecDepth 4000 in
set_option maxHeartbeats 4000000 in
theorem sm_X3_putText (t : List Sh) (m : Mi) (a0 : Nat) (a1 : Nat) (h0 : sh t a0 = some (.inl 3)) : Sm u_X3_putText (6, 0, 0, t.length, zs t) (kV t) 0 [(0, .inr (.inr a0)), (1, .inr (.inr a1))] [] (t, m) (f_X3_putText t m a0 a1) := by
  unfold f_X3_putText
  refine r_iconst 0 1 (v := 0) rfl rfl (by decide) ?_
  refine r_istore_n 1 2 (L' := [(2, .inl 0), (0, .inr (.inr a0)), (1, .inr (.inr a1))]) rfl rfl rfl (by decide) rfl ?_
  have hj2 : ∀ (m : Mi) (a2 : Int32), Sm u_X3_putText (6, 0, 0, t.length, zs t) (kV t) 2 [(0, .inr (.inr a0)), (1, .inr (.inr a1)), (2, .inl a2)] [] (t, m) (f_X3_putText_j2 t m a0 a1 a2) := by
    intro m a2
    unfold f_X3_putText_j2
    have hj25 : ∀ (m : Mi), Sm u_X3_putText (6, 0, 0, t.length, zs t) (kV t) 25 [] [] (t, m) (f_X3_putText_j25 t m) := by
      intro m
      unfold f_X3_putText_j25
      exact r_vret 13 rfl rfl rfl
    refine r_lp (Lf := fun x : Int32 × Mi => [(0, .inr (.inr a0)), (1, .inr (.inr a1)), (2, .inl (x.1))]) (Mf := fun x : Int32 × Mi => (t, x.2)) (a2, m) ?_ FUEL
    rintro ⟨a2, m⟩ κ2 hc2 he2
    refine r_eq (L' := [(0, .inr (.inr a0)), (1, .inr (.inr a1)), (2, .inl a2)]) (M' := (t, m)) rfl rfl ?_
    refine r_eqr (r' := f_X3_putText_l2 t m a0 a1 a2) rfl ?_
    unfold f_X3_putText_l2
    refine r_iload_n 2 3 2 rfl rfl rfl rfl ?_
    refine r_aload_n 3 4 1 rfl rfl rfl rfl ?_
    refine r_len 4 7 (st := [.inl a2]) rfl rfl lk_RX3_178 (Nat.le_of_ble_eq_true rfl) (Nat.le_of_ble_eq_true rfl) (fun x1 => ?_)
    refine r_icmp_ge 5 25 10 rfl rfl rfl (fun h2 => ?_) (fun h2 => ?_)
    · refine r_leaf (r2 := (f_X3_putText_j25 t m : Option (Mi))) (he2 _) ?_
      exact r_sub [] rfl (hj25 m)
    · refine r_aload_n 6 11 0 rfl rfl rfl rfl ?_
      refine r_aload_n 7 12 1 rfl rfl rfl rfl ?_
      refine r_iload_n 8 13 2 rfl rfl rfl rfl ?_
      refine r_chr 9 16 (st := [.inr (.inr a0)]) rfl rfl lk_RX3_182 (Nat.le_of_ble_eq_true rfl) (Nat.le_of_ble_eq_true rfl) (fun x3 => ?_)
      refine r_VV 10 19 (st := []) (av := [.inr (.inr a0), .inl x3]) (av' := [.inl x3]) (μ' := u_X3_putSign) (d := 1) rfl rfl mc_X3_putSign in_X3_putSign lk_RX3_93 (Nat.le_of_ble_eq_true rfl) rfl rfl h0 rfl (Nat.le_of_ble_eq_true rfl) (fun _ h => ct_X3_putSign h0 h) (fun m4 => ?_)
      refine r_iinc 11 22 2 (L' := [(2, .inl (a2 + 1)), (0, .inr (.inr a0)), (1, .inr (.inr a1))]) rfl rfl rfl (by decide) rfl ?_
      refine r_ltV (fun x5 => ?_)
      refine r_goto 12 2 rfl rfl ?_
      exact r_sub [1, 2, 0] rfl (hc2 (x5, m4))
  exact r_sub [1, 2, 0] rfl (hj2 m 0)
theorem ct_X3_putText {t : List Sh} {m : Mi} {a0 : Nat} {a1 : Nat} {m' : Mi}  (h0 : sh t a0 = some (.inl 3)) (h : f_X3_putText t m a0 a1 = some m') : Ct u_X3_putText 6 0 0 [.inr (.inr a0), .inr (.inr a1)] (t, m) (none, (t, m')) :=
  ct_of (by decide) tk_X3_putText (Nat.le_of_ble_eq_true rfl) (sm_X3_putText t m a0 a1 h0) (by rw [h]; rfl) (Nat.le_refl _) (Nat.le_refl _)
theorem fl_RX3_103 : FL RX3 103 0 0 false := ⟨RX0, TX0, 8, rfl, inW0, tyX0_ok, nmX0, by decide, rfl, rfl, rfl, tbm 352 (by decide +kernel) rfl⟩
theorem fl_RX3_123 : FL RX3 123 0 2 false := ⟨RX0, TX0, 8, rfl, inW0, tyX0_ok, nmX0, by decide, rfl, rfl, rfl, tbm 362 (by decide +kernel) rfl⟩
theorem fl_RX3_124 : FL RX3 124 0 3 false := ⟨RX0, TX0, 8, rfl, inW0, tyX0_ok, nmX0, by decide, rfl, rfl, rfl, tbm 365 (by decide +kernel) rfl⟩
theorem lk_RX3_42 : Cond.methodLink RX3 42 yX3_putText ∈ TB := tbm 1026 (by decide +kernel) rfl
theorem fl_RX3_112 : FL RX3 112 0 1 false := ⟨RX0, TX0, 8, rfl, inW0, tyX0_ok, nmX0, by decide, rfl, rfl, rfl, tbm 357 (by decide +kernel) rfl⟩
theorem lk_RX3_115 : Cond.methodLink RX3 115 yX3_putRelease ∈ TB := tbm 1100 (by decide +kernel) rfl
def tb_X3_putLink : Tb := [(0, (.aload_n 2, 1)), (1, (.getfield 103, 3)), (4, (.iconst 4, 1)), (5, (.if_icmp .ne 12, 3)), (8, (.aload_n 0, 1)), (9, (.ldc 110, 2)), (11, (.invokevirtual 42, 3)), (14, (.goto 37, 3)), (17, (.aload_n 0, 1)), (18, (.aload_n 1, 1)), (19, (.aload_n 2, 1)), (20, (.getfield 112, 3)), (23, (.invokevirtual 115, 3)), (26, (.aload_n 0, 1)), (27, (.bipush 32, 2)), (29, (.invokevirtual 93, 3)), (32, (.aload_n 0, 1)), (33, (.aload_n 2, 1)), (34, (.getfield 103, 3)), (37, (.iconst 5, 1)), (38, (.if_icmp .ne 8, 3)), (41, (.ldc 119, 2)), (43, (.goto 5, 3)), (46, (.ldc 121, 2)), (48, (.invokevirtual 42, 3)), (51, (.aload_n 0, 1)), (52, (.bipush 32, 2)), (54, (.invokevirtual 93, 3)), (57, (.aload_n 0, 1)), (58, (.aload_n 1, 1)), (59, (.getfield 78, 3)), (62, (.aload_n 2, 1)), (63, (.getfield 123, 3)), (66, (.aload_n 2, 1)), (67, (.getfield 124, 3)), (70, (.invokevirtual 89, 3)), (73, (.aload_n 0, 1)), (74, (.bipush 32, 2)), (76, (.invokevirtual 93, 3)), (79, (.return_, 1))]
def u_X3_putLink : Fx := (yX3_putLink, (cX3_putLink, (3, (none, tb_X3_putLink))))
theorem tk_X3_putLink : ∀ q ∈ u_X3_putLink.2.2.2.2, decode u_X3_putLink.2.1 q.1 = .ok q.2 := by decide +kernel
theorem mc_X3_putLink : MC u_X3_putLink 2 := ⟨tbm 1098 (by decide +kernel) rfl, tbm 127 (by decide +kernel) rfl, ⟨by decide, by decide, by decide +kernel⟩, by decide⟩
theorem in_X3_putLink : Cond.instanceMethod u_X3_putLink.1 ∈ TB ∧ Cond.selects u_X3_putLink.1.cls u_X3_putLink.1 u_X3_putLink.1 ∈ TB := ⟨tbm 1096 (by decide +kernel) rfl, tbm 1097 (by decide +kernel) rfl⟩
def f_X3_putLink_j51 (t : List Sh) (m : Mi) (a0 : Nat) (a1 : Nat) (a2 : Nat) : Option (Mi) :=
  (f_X3_putSign t m a0 32).bind fun m2 =>
  (if ob t a1 6 = true then
  (f_X3_putBytes t m2 a0 (gr m2 a1 0) (gi m2 a2 2) (gi m2 a2 3)).bind fun m4 =>
  (f_X3_putSign t m4 a0 32).bind fun m5 =>
  some m5
  else none)
def f_X3_putLink_j48 (t : List Sh) (m : Mi) (a0 : Nat) (a1 : Nat) (a2 : Nat) (s0 : Nat) (s1 : Nat) : Option (Mi) :=
  (if ob t s1 3 = true then
  (f_X3_putText t m s1 s0).bind fun m11 =>
  f_X3_putLink_j51 t m11 a0 a1 a2
  else none)
def f_X3_putLink (t : List Sh) (m : Mi) (a0 : Nat) (a1 : Nat) (a2 : Nat) : Option (Mi) :=
  (if ob t a2 0 = true then
  if (gi m a2 0) = 4 then
    (f_X3_putText t m a0 1048577).bind fun m7 =>
    f_X3_putLink_j51 t m7 a0 a1 a2
  else
    (f_X3_putRelease t m a0 a1 (gi m a2 1)).bind fun m8 =>
    (f_X3_putSign t m8 a0 32).bind fun m9 =>
    if (gi m9 a2 0) = 5 then
      f_X3_putLink_j48 t m9 a0 a1 a2 1048578 a0
    else
      f_X3_putLink_j48 t m9 a0 a1 a2 1048579 a0
  else none)
set_option maxRecDepth 4000 in
set_option maxHeartbeats 4000000 in
theorem sm_X3_putLink (t : List Sh) (m : Mi) (a0 : Nat) (a1 : Nat) (a2 : Nat) (h0 : sh t a0 = some (.inl 3)) : Sm u_X3_putLink (7, 0, 0, t.length, zs t) (kV t) 0 [(0, .inr (.inr a0)), (1, .inr (.inr a1)), (2, .inr (.inr a2))] [] (t, m) (f_X3_putLink t m a0 a1 a2) := by
  unfold f_X3_putLink
  refine r_aload_n 0 1 2 rfl rfl rfl rfl ?_
  refine r_gd (fun h1 => ?_)
  refine r_getI 1 4 rfl rfl fl_RX3_103 rfl (ob_sh h1) ?_
  refine r_iconst 2 5 (v := 4) rfl rfl (by decide) ?_
  have hj51 : ∀ (m : Mi), Sm u_X3_putLink (7, 0, 0, t.length, zs t) (kV t) 51 [(0, .inr (.inr a0)), (1, .inr (.inr a1)), (2, .inr (.inr a2))] [] (t, m) (f_X3_putLink_j51 t m a0 a1 a2) := by
    intro m
    unfold f_X3_putLink_j51
    refine r_aload_n 25 52 0 rfl rfl rfl rfl ?_
    refine r_bipush 26 54 (v := 32) rfl rfl (by decide) ?_
    refine r_VV 27 57 (st := []) (av := [.inr (.inr a0), .inl 32]) (av' := [.inl 32]) (μ' := u_X3_putSign) (d := 1) rfl rfl mc_X3_putSign in_X3_putSign lk_RX3_93 (Nat.le_of_ble_eq_true rfl) rfl rfl h0 rfl (Nat.le_of_ble_eq_true rfl) (fun _ h => ct_X3_putSign h0 h) (fun m2 => ?_)
    refine r_aload_n 28 58 0 rfl rfl rfl rfl ?_
    refine r_aload_n 29 59 1 rfl rfl rfl rfl ?_
    refine r_gd (fun h3 => ?_)
    refine r_getR 30 62 rfl rfl fl_RX3_78 rfl (ob_sh h3) ?_
    refine r_aload_n 31 63 2 rfl rfl rfl rfl ?_
    refine r_getI 32 66 rfl rfl fl_RX3_123 rfl (ob_sh h1) ?_
    refine r_aload_n 33 67 2 rfl rfl rfl rfl ?_
    refine r_getI 34 70 rfl rfl fl_RX3_124 rfl (ob_sh h1) ?_
    refine r_VV 35 73 (st := []) (av := [.inr (.inr a0), .inr (.inr (gr m2 a1 0)), .inl (gi m2 a2 2), .inl (gi m2 a2 3)]) (av' := [.inr (.inr (gr m2 a1 0)), .inl (gi m2 a2 2), .inl (gi m2 a2 3)]) (μ' := u_X3_putBytes) (d := 2) rfl rfl mc_X3_putBytes in_X3_putBytes lk_RX3_89 (Nat.le_of_ble_eq_true rfl) rfl rfl h0 rfl (Nat.le_of_ble_eq_true rfl) (fun _ h => ct_X3_putBytes h0 h) (fun m4 => ?_)
    refine r_aload_n 36 74 0 rfl rfl rfl rfl ?_
    refine r_bipush 37 76 (v := 32) rfl rfl (by decide) ?_
    refine r_VV 38 79 (st := []) (av := [.inr (.inr a0), .inl 32]) (av' := [.inl 32]) (μ' := u_X3_putSign) (d := 1) rfl rfl mc_X3_putSign in_X3_putSign lk_RX3_93 (Nat.le_of_ble_eq_true rfl) rfl rfl h0 rfl (Nat.le_of_ble_eq_true rfl) (fun _ h => ct_X3_putSign h0 h) (fun m5 => ?_)
    exact r_vret 39 rfl rfl rfl
  refine r_icmp_ne 3 17 8 rfl rfl rfl (fun h6 => ?_) (fun h6 => ?_)
  · refine r_aload_n 4 9 0 rfl rfl rfl rfl ?_
    refine r_ldcS 5 11 (q := 11) (n := 1) rfl rfl rfl ?_
    refine r_eqs (st' := [.inr (.inr 1048577), .inr (.inr a0)]) rfl ?_
    refine r_VV 6 14 (st := []) (av := [.inr (.inr a0), .inr (.inr 1048577)]) (av' := [.inr (.inr 1048577)]) (μ' := u_X3_putText) (d := 6) rfl rfl mc_X3_putText in_X3_putText lk_RX3_42 (Nat.le_of_ble_eq_true rfl) rfl rfl h0 rfl (Nat.le_of_ble_eq_true rfl) (fun _ h => ct_X3_putText h0 h) (fun m7 => ?_)
    refine r_goto 7 51 rfl rfl ?_
    exact hj51 m7
  · refine r_aload_n 8 18 0 rfl rfl rfl rfl ?_
    refine r_aload_n 9 19 1 rfl rfl rfl rfl ?_
    refine r_aload_n 10 20 2 rfl rfl rfl rfl ?_
    refine r_getI 11 23 rfl rfl fl_RX3_112 rfl (ob_sh h1) ?_
    refine r_VV 12 26 (st := []) (av := [.inr (.inr a0), .inr (.inr a1), .inl (gi m a2 1)]) (av' := [.inr (.inr a1), .inl (gi m a2 1)]) (μ' := u_X3_putRelease) (d := 3) rfl rfl mc_X3_putRelease in_X3_putRelease lk_RX3_115 (Nat.le_of_ble_eq_true rfl) rfl rfl h0 rfl (Nat.le_of_ble_eq_true rfl) (fun _ h => ct_X3_putRelease h0 h) (fun m8 => ?_)
    refine r_aload_n 13 27 0 rfl rfl rfl rfl ?_
    refine r_bipush 14 29 (v := 32) rfl rfl (by decide) ?_
    refine r_VV 15 32 (st := []) (av := [.inr (.inr a0), .inl 32]) (av' := [.inl 32]) (μ' := u_X3_putSign) (d := 1) rfl rfl mc_X3_putSign in_X3_putSign lk_RX3_93 (Nat.le_of_ble_eq_true rfl) rfl rfl h0 rfl (Nat.le_of_ble_eq_true rfl) (fun _ h => ct_X3_putSign h0 h) (fun m9 => ?_)
    refine r_aload_n 16 33 0 rfl rfl rfl rfl ?_
    refine r_aload_n 17 34 2 rfl rfl rfl rfl ?_
    refine r_getI 18 37 rfl rfl fl_RX3_103 rfl (ob_sh h1) ?_
    refine r_iconst 19 38 (v := 5) rfl rfl (by decide) ?_
    have hj48 : ∀ (m : Mi) (s0 : Nat) (s1 : Nat), Sm u_X3_putLink (7, 0, 0, t.length, zs t) (kV t) 48 [(0, .inr (.inr a0)), (1, .inr (.inr a1)), (2, .inr (.inr a2))] [.inr (.inr s0), .inr (.inr s1)] (t, m) (f_X3_putLink_j48 t m a0 a1 a2 s0 s1) := by
      intro m s0 s1
      unfold f_X3_putLink_j48
      refine r_gd (fun h10 => ?_)
      refine r_VV 24 51 (st := []) (av := [.inr (.inr s1), .inr (.inr s0)]) (av' := [.inr (.inr s0)]) (μ' := u_X3_putText) (d := 6) rfl rfl mc_X3_putText in_X3_putText lk_RX3_42 (Nat.le_of_ble_eq_true rfl) rfl rfl (ob_sh h10) rfl (Nat.le_of_ble_eq_true rfl) (fun _ h => ct_X3_putText (ob_sh h10) h) (fun m11 => ?_)
      exact hj51 m11
    refine r_icmp_ne 20 46 41 rfl rfl rfl (fun h12 => ?_) (fun h12 => ?_)
    · refine r_ldcS 21 43 (q := 12) (n := 2) rfl rfl rfl ?_
      refine r_eqs (st' := [.inr (.inr 1048578), .inr (.inr a0)]) rfl ?_
      refine r_goto 22 48 rfl rfl ?_
      exact hj48 m9 1048578 a0
    · refine r_ldcS 23 48 (q := 13) (n := 3) rfl rfl rfl ?_
      refine r_eqs (st' := [.inr (.inr 1048579), .inr (.inr a0)]) rfl ?_
      exact hj48 m9 1048579 a0
theorem ct_X3_putLink {t : List Sh} {m : Mi} {a0 : Nat} {a1 : Nat} {a2 : Nat} {m' : Mi}  (h0 : sh t a0 = some (.inl 3)) (h : f_X3_putLink t m a0 a1 a2 = some m') : Ct u_X3_putLink 7 0 0 [.inr (.inr a0), .inr (.inr a1), .inr (.inr a2)] (t, m) (none, (t, m')) :=
  ct_of (by decide) tk_X3_putLink (Nat.le_of_ble_eq_true rfl) (sm_X3_putLink t m a0 a1 a2 h0) (by rw [h]; rfl) (Nat.le_refl _) (Nat.le_refl _)
theorem lk_RX3_152 : Cond.methodLink RX3 152 yX10_fits ∈ TB := tbm 1055 (by decide +kernel) rfl
theorem kc_RX3_161 : Cond.constantLong RX3 161 (9223372036854775807) ∈ TB := tbm 1066 (by decide +kernel) rfl
theorem lk_RX3_163 : Cond.methodLink RX3 163 yX3_putKey ∈ TB := tbm 1067 (by decide +kernel) rfl
def tb_X3_putVersion : Tb := [(0, (.aload_n 1, 1)), (1, (.iconst 0, 1)), (2, (.invokestatic 152, 3)), (5, (.ifCond .ne 4, 3)), (8, (.return_, 1)), (9, (.iconst 0, 1)), (10, (.istore_n 2, 1)), (11, (.iload_n 2, 1)), (12, (.iconst 3, 1)), (13, (.if_icmp .ge 31, 3)), (16, (.aload_n 0, 1)), (17, (.iload_n 2, 1)), (18, (.ifCond .ne 8, 3)), (21, (.ldc 52, 2)), (23, (.goto 5, 3)), (26, (.ldc 155, 2)), (28, (.invokevirtual 42, 3)), (31, (.aload_n 0, 1)), (32, (.aload_n 1, 1)), (33, (.iload_n 2, 1)), (34, (.laload, 1)), (35, (.invokevirtual 157, 3)), (38, (.iinc 2 1, 3)), (41, (.goto (-30), 3)), (44, (.aload_n 1, 1)), (45, (.iconst 3, 1)), (46, (.laload, 1)), (47, (.ldc2_w 161, 3)), (50, (.lcmp, 1)), (51, (.ifCond .ne 4, 3)), (54, (.return_, 1)), (55, (.iconst 3, 1)), (56, (.istore_n 2, 1)), (57, (.iload_n 2, 1)), (58, (.bipush 8, 2)), (60, (.if_icmp .ge 40, 3)), (63, (.aload_n 1, 1)), (64, (.iload_n 2, 1)), (65, (.laload, 1)), (66, (.lconst 0, 1)), (67, (.lcmp, 1)), (68, (.ifCond .eq 32, 3)), (71, (.aload_n 0, 1)), (72, (.iload_n 2, 1)), (73, (.iconst 3, 1)), (74, (.if_icmp .ne 8, 3)), (77, (.bipush 45, 2)), (79, (.goto 5, 3)), (82, (.bipush 46, 2)), (84, (.invokevirtual 93, 3)), (87, (.aload_n 0, 1)), (88, (.aload_n 1, 1)), (89, (.iload_n 2, 1)), (90, (.laload, 1)), (91, (.invokevirtual 163, 3)), (94, (.iinc 2 1, 3)), (97, (.goto (-40), 3)), (100, (.return_, 1))]
def u_X3_putVersion : Fx := (yX3_putVersion, (cX3_putVersion, (3, (none, tb_X3_putVersion))))
theorem tk_X3_putVersion : ∀ q ∈ u_X3_putVersion.2.2.2.2, decode u_X3_putVersion.2.1 q.1 = .ok q.2 := by decide +kernel
theorem mc_X3_putVersion : MC u_X3_putVersion 1 := ⟨tbm 1054 (by decide +kernel) rfl, tbm 127 (by decide +kernel) rfl, ⟨by decide, by decide, by decide +kernel⟩, by decide⟩
theorem in_X3_putVersion : Cond.instanceMethod u_X3_putVersion.1 ∈ TB ∧ Cond.selects u_X3_putVersion.1.cls u_X3_putVersion.1 u_X3_putVersion.1 ∈ TB := ⟨tbm 1053 (by decide +kernel) rfl, tbm 46 (by decide +kernel) rfl⟩
def f_X3_putVersion_j100 (t : List Sh) (m : Mi) : Option (Mi) :=
  some m
def f_X3_putVersion_j84 (t : List Sh) (m : Mi) (a0 : Nat) (a1 : Nat) (a2 : Int32) (s0 : Int32) (s1 : Nat) : Option ((Int32 × Mi) ⊕ ((Mi))) :=
  (if ob t s1 3 = true then
  (f_X3_putSign t m s1 s0).bind fun m9 =>
  (if ar t a1 .long a2 = true then
  (f_X3_putKey t m9 a0 (gl m9 a1 (ix a2))).bind fun m11 =>
  lt (a2 + 1) fun x12 =>
  some (.inl (x12, m11))
  else none)
  else none)
def f_X3_putVersion_l57 (t : List Sh) (m : Mi) (a0 : Nat) (a1 : Nat) (a2 : Int32) : Option ((Int32 × Mi) ⊕ ((Mi))) :=
  if 8 ≤ a2 then
    some (.inr m)
  else
    (if ar t a1 .long a2 = true then
    if (lg_cmp (gl m a1 (ix a2)) 0) = 0 then
      some (.inr m)
    else
      if a2 = 3 then
        f_X3_putVersion_j84 t m a0 a1 a2 45 a0
      else
        f_X3_putVersion_j84 t m a0 a1 a2 46 a0
    else none)
def f_X3_putVersion_j57 (t : List Sh) (m : Mi) (a0 : Nat) (a1 : Nat) (a2 : Int32) : Option (Mi) :=
  (lp (fun x : Int32 × Mi => f_X3_putVersion_l57 t x.2 a0 a1 x.1) FUEL (a2, m)).bind (fun y : Mi => f_X3_putVersion_j100 t y)
def f_X3_putVersion_j44 (t : List Sh) (m : Mi) (a0 : Nat) (a1 : Nat) : Option (Mi) :=
  (if ar t a1 .long 3 = true then
  if (lg_cmp (gl m a1 (ix 3)) 9223372036854775807) = 0 then
    some m
  else
    f_X3_putVersion_j57 t m a0 a1 3
  else none)
def f_X3_putVersion_j28 (t : List Sh) (m : Mi) (a0 : Nat) (a1 : Nat) (a2 : Int32) (s0 : Nat) (s1 : Nat) : Option ((Int32 × Mi) ⊕ ((Mi))) :=
  (if ob t s1 3 = true then
  (f_X3_putText t m s1 s0).bind fun m16 =>
  (if ar t a1 .long a2 = true then
  (f_X3_putNumber t m16 a0 (gl m16 a1 (ix a2))).bind fun m18 =>
  lt (a2 + 1) fun x19 =>
  some (.inl (x19, m18))
  else none)
  else none)
def f_X3_putVersion_l11 (t : List Sh) (m : Mi) (a0 : Nat) (a1 : Nat) (a2 : Int32) : Option ((Int32 × Mi) ⊕ ((Mi))) :=
  if 3 ≤ a2 then
    some (.inr m)
  else
    if a2 = 0 then
      f_X3_putVersion_j28 t m a0 a1 a2 1048582 a0
    else
      f_X3_putVersion_j28 t m a0 a1 a2 1048584 a0
def f_X3_putVersion_j11 (t : List Sh) (m : Mi) (a0 : Nat) (a1 : Nat) (a2 : Int32) : Option (Mi) :=
  (lp (fun x : Int32 × Mi => f_X3_putVersion_l11 t x.2 a0 a1 x.1) FUEL (a2, m)).bind (fun y : Mi => f_X3_putVersion_j44 t y a0 a1)
def f_X3_putVersion (t : List Sh) (m : Mi) (a0 : Nat) (a1 : Nat) : Option (Mi) :=
  (f_X10_fits t m a1 0).bind fun x1 =>
  if x1 = 0 then
    some m
  else
    f_X3_putVersion_j11 t m a0 a1 0
set_option maxRecDepth 4000 in
set_option maxHeartbeats 4000000 in
theorem sm_X3_putVersion (t : List Sh) (m : Mi) (a0 : Nat) (a1 : Nat) (h0 : sh t a0 = some (.inl 3)) : Sm u_X3_putVersion (7, 0, 0, t.length, zs t) (kV t) 0 [(0, .inr (.inr a0)), (1, .inr (.inr a1))] [] (t, m) (f_X3_putVersion t m a0 a1) := by
  unfold f_X3_putVersion
  refine r_aload_n 0 1 1 rfl rfl rfl rfl ?_
  refine r_iconst 1 2 (v := 0) rfl rfl (by decide) ?_
  refine r_SIo 2 5 (a := 0) (cn := 0) (st := []) (av := [.inr (.inr a1), .inl 0]) (μ' := u_X10_fits) (d := 1) rfl rfl mc_X10_fits st_X10_fits lk_RX3_152 (Nat.le_of_ble_eq_true rfl) rfl (Nat.le_of_ble_eq_true rfl) (fun _ h => ct_X10_fits h) (fun x1 => ?_)
  refine r_if_ne 3 9 8 rfl rfl rfl (fun h2 => ?_) (fun h2 => ?_)
  · exact r_vret 4 rfl rfl rfl
  · refine r_iconst 5 10 (v := 0) rfl rfl (by decide) ?_
    refine r_istore_n 6 11 (L' := [(2, .inl 0), (0, .inr (.inr a0)), (1, .inr (.inr a1))]) rfl rfl rfl (by decide) rfl ?_
    have hj11 : ∀ (m : Mi) (a2 : Int32), Sm u_X3_putVersion (7, 0, 0, t.length, zs t) (kV t) 11 [(0, .inr (.inr a0)), (1, .inr (.inr a1)), (2, .inl a2)] [] (t, m) (f_X3_putVersion_j11 t m a0 a1 a2) := by
      intro m a2
      unfold f_X3_putVersion_j11
      have hj44 : ∀ (m : Mi), Sm u_X3_putVersion (7, 0, 0, t.length, zs t) (kV t) 44 [(0, .inr (.inr a0)), (1, .inr (.inr a1))] [] (t, m) (f_X3_putVersion_j44 t m a0 a1) := by
        intro m
        unfold f_X3_putVersion_j44
        refine r_aload_n 24 45 1 rfl rfl rfl rfl ?_
        refine r_iconst 25 46 (v := 3) rfl rfl (by decide) ?_
        refine r_gd (fun h3 => ?_)
        refine r_lald 26 47 rfl rfl h3 ?_
        refine r_ldc2 27 50 rfl rfl kc_RX3_161 ?_
        refine r_lcmp 28 51 rfl rfl ?_
        refine r_if_ne 29 55 54 rfl rfl rfl (fun h4 => ?_) (fun h4 => ?_)
        · exact r_vret 30 rfl rfl rfl
        · refine r_iconst 31 56 (v := 3) rfl rfl (by decide) ?_
          refine r_istore_n 32 57 (L' := [(2, .inl 3), (0, .inr (.inr a0)), (1, .inr (.inr a1))]) rfl rfl rfl (by decide) rfl ?_
          have hj57 : ∀ (m : Mi) (a2 : Int32), Sm u_X3_putVersion (7, 0, 0, t.length, zs t) (kV t) 57 [(0, .inr (.inr a0)), (1, .inr (.inr a1)), (2, .inl a2)] [] (t, m) (f_X3_putVersion_j57 t m a0 a1 a2) := by
            intro m a2
            unfold f_X3_putVersion_j57
            have hj100 : ∀ (m : Mi), Sm u_X3_putVersion (7, 0, 0, t.length, zs t) (kV t) 100 [] [] (t, m) (f_X3_putVersion_j100 t m) := by
              intro m
              unfold f_X3_putVersion_j100
              exact r_vret 57 rfl rfl rfl
            refine r_lp (Lf := fun x : Int32 × Mi => [(0, .inr (.inr a0)), (1, .inr (.inr a1)), (2, .inl (x.1))]) (Mf := fun x : Int32 × Mi => (t, x.2)) (a2, m) ?_ FUEL
            rintro ⟨a2, m⟩ κ57 hc57 he57
            refine r_eq (L' := [(0, .inr (.inr a0)), (1, .inr (.inr a1)), (2, .inl a2)]) (M' := (t, m)) rfl rfl ?_
            refine r_eqr (r' := f_X3_putVersion_l57 t m a0 a1 a2) rfl ?_
            unfold f_X3_putVersion_l57
            refine r_iload_n 33 58 2 rfl rfl rfl rfl ?_
            refine r_bipush 34 60 (v := 8) rfl rfl (by decide) ?_
            refine r_icmp_ge 35 100 63 rfl rfl rfl (fun h5 => ?_) (fun h5 => ?_)
            · refine r_leaf (r2 := (f_X3_putVersion_j100 t m : Option (Mi))) (he57 _) ?_
              exact r_sub [] rfl (hj100 m)
            · refine r_aload_n 36 64 1 rfl rfl rfl rfl ?_
              refine r_iload_n 37 65 2 rfl rfl rfl rfl ?_
              refine r_gd (fun h6 => ?_)
              refine r_lald 38 66 rfl rfl h6 ?_
              refine r_lconst 39 67 (v := 0) rfl rfl (by decide) ?_
              refine r_lcmp 40 68 rfl rfl ?_
              refine r_if_eq 41 100 71 rfl rfl rfl (fun h7 => ?_) (fun h7 => ?_)
              · refine r_leaf (r2 := (f_X3_putVersion_j100 t m : Option (Mi))) (he57 _) ?_
                exact r_sub [] rfl (hj100 m)
              · refine r_aload_n 42 72 0 rfl rfl rfl rfl ?_
                refine r_iload_n 43 73 2 rfl rfl rfl rfl ?_
                refine r_iconst 44 74 (v := 3) rfl rfl (by decide) ?_
                have hj84 : ∀ (m : Mi) (a2 : Int32) (s0 : Int32) (s1 : Nat), Sm u_X3_putVersion (7, 0, 0, t.length, zs t) κ57 84 [(0, .inr (.inr a0)), (1, .inr (.inr a1)), (2, .inl a2)] [.inl s0, .inr (.inr s1)] (t, m) (f_X3_putVersion_j84 t m a0 a1 a2 s0 s1) := by
                  intro m a2 s0 s1
                  unfold f_X3_putVersion_j84
                  refine r_gd (fun h8 => ?_)
                  refine r_VV 49 87 (st := []) (av := [.inr (.inr s1), .inl s0]) (av' := [.inl s0]) (μ' := u_X3_putSign) (d := 1) rfl rfl mc_X3_putSign in_X3_putSign lk_RX3_93 (Nat.le_of_ble_eq_true rfl) rfl rfl (ob_sh h8) rfl (Nat.le_of_ble_eq_true rfl) (fun _ h => ct_X3_putSign (ob_sh h8) h) (fun m9 => ?_)
                  refine r_aload_n 50 88 0 rfl rfl rfl rfl ?_
                  refine r_aload_n 51 89 1 rfl rfl rfl rfl ?_
                  refine r_iload_n 52 90 2 rfl rfl rfl rfl ?_
                  refine r_gd (fun h10 => ?_)
                  refine r_lald 53 91 rfl rfl h10 ?_
                  refine r_VV 54 94 (st := []) (av := [.inr (.inr a0), .inr (.inl (gl m9 a1 (ix a2)))]) (av' := [.inr (.inl (gl m9 a1 (ix a2)))]) (μ' := u_X3_putKey) (d := 3) rfl rfl mc_X3_putKey in_X3_putKey lk_RX3_163 (Nat.le_of_ble_eq_true rfl) rfl rfl h0 rfl (Nat.le_of_ble_eq_true rfl) (fun _ h => ct_X3_putKey h0 h) (fun m11 => ?_)
                  refine r_iinc 55 97 2 (L' := [(2, .inl (a2 + 1)), (0, .inr (.inr a0)), (1, .inr (.inr a1))]) rfl rfl rfl (by decide) rfl ?_
                  refine r_ltV (fun x12 => ?_)
                  refine r_goto 56 57 rfl rfl ?_
                  exact r_sub [1, 2, 0] rfl (hc57 (x12, m11))
                refine r_icmp_ne 45 82 77 rfl rfl rfl (fun h13 => ?_) (fun h13 => ?_)
                · refine r_bipush 46 79 (v := 45) rfl rfl (by decide) ?_
                  refine r_goto 47 84 rfl rfl ?_
                  exact hj84 m a2 45 a0
                · refine r_bipush 48 84 (v := 46) rfl rfl (by decide) ?_
                  exact hj84 m a2 46 a0
          exact r_sub [1, 2, 0] rfl (hj57 m 3)
      refine r_lp (Lf := fun x : Int32 × Mi => [(0, .inr (.inr a0)), (1, .inr (.inr a1)), (2, .inl (x.1))]) (Mf := fun x : Int32 × Mi => (t, x.2)) (a2, m) ?_ FUEL
      rintro ⟨a2, m⟩ κ11 hc11 he11
      refine r_eq (L' := [(0, .inr (.inr a0)), (1, .inr (.inr a1)), (2, .inl a2)]) (M' := (t, m)) rfl rfl ?_
      refine r_eqr (r' := f_X3_putVersion_l11 t m a0 a1 a2) rfl ?_
      unfold f_X3_putVersion_l11
      refine r_iload_n 7 12 2 rfl rfl rfl rfl ?_
      refine r_iconst 8 13 (v := 3) rfl rfl (by decide) ?_
      refine r_icmp_ge 9 44 16 rfl rfl rfl (fun h14 => ?_) (fun h14 => ?_)
      · refine r_leaf (r2 := (f_X3_putVersion_j44 t m a0 a1 : Option (Mi))) (he11 _) ?_
        exact r_sub [0, 1] rfl (hj44 m)
      · refine r_aload_n 10 17 0 rfl rfl rfl rfl ?_
        refine r_iload_n 11 18 2 rfl rfl rfl rfl ?_
        have hj28 : ∀ (m : Mi) (a2 : Int32) (s0 : Nat) (s1 : Nat), Sm u_X3_putVersion (7, 0, 0, t.length, zs t) κ11 28 [(0, .inr (.inr a0)), (1, .inr (.inr a1)), (2, .inl a2)] [.inr (.inr s0), .inr (.inr s1)] (t, m) (f_X3_putVersion_j28 t m a0 a1 a2 s0 s1) := by
          intro m a2 s0 s1
          unfold f_X3_putVersion_j28
          refine r_gd (fun h15 => ?_)
          refine r_VV 16 31 (st := []) (av := [.inr (.inr s1), .inr (.inr s0)]) (av' := [.inr (.inr s0)]) (μ' := u_X3_putText) (d := 6) rfl rfl mc_X3_putText in_X3_putText lk_RX3_42 (Nat.le_of_ble_eq_true rfl) rfl rfl (ob_sh h15) rfl (Nat.le_of_ble_eq_true rfl) (fun _ h => ct_X3_putText (ob_sh h15) h) (fun m16 => ?_)
          refine r_aload_n 17 32 0 rfl rfl rfl rfl ?_
          refine r_aload_n 18 33 1 rfl rfl rfl rfl ?_
          refine r_iload_n 19 34 2 rfl rfl rfl rfl ?_
          refine r_gd (fun h17 => ?_)
          refine r_lald 20 35 rfl rfl h17 ?_
          refine r_VV 21 38 (st := []) (av := [.inr (.inr a0), .inr (.inl (gl m16 a1 (ix a2)))]) (av' := [.inr (.inl (gl m16 a1 (ix a2)))]) (μ' := u_X3_putNumber) (d := 2) rfl rfl mc_X3_putNumber in_X3_putNumber lk_RX3_157 (Nat.le_of_ble_eq_true rfl) rfl rfl h0 rfl (Nat.le_of_ble_eq_true rfl) (fun _ h => ct_X3_putNumber h0 h) (fun m18 => ?_)
          refine r_iinc 22 41 2 (L' := [(2, .inl (a2 + 1)), (0, .inr (.inr a0)), (1, .inr (.inr a1))]) rfl rfl rfl (by decide) rfl ?_
          refine r_ltV (fun x19 => ?_)
          refine r_goto 23 11 rfl rfl ?_
          exact r_sub [1, 2, 0] rfl (hc11 (x19, m18))
        refine r_if_ne 12 26 21 rfl rfl rfl (fun h20 => ?_) (fun h20 => ?_)
        · refine r_ldcS 13 23 (q := 6) (n := 6) rfl rfl rfl ?_
          refine r_eqs (st' := [.inr (.inr 1048582), .inr (.inr a0)]) rfl ?_
          refine r_goto 14 28 rfl rfl ?_
          exact hj28 m a2 1048582 a0
        · refine r_ldcS 15 28 (q := 8) (n := 8) rfl rfl rfl ?_
          refine r_eqs (st' := [.inr (.inr 1048584), .inr (.inr a0)]) rfl ?_
          exact hj28 m a2 1048584 a0
    exact r_sub [1, 2, 0] rfl (hj11 m 0)
theorem ct_X3_putVersion {t : List Sh} {m : Mi} {a0 : Nat} {a1 : Nat} {m' : Mi}  (h0 : sh t a0 = some (.inl 3)) (h : f_X3_putVersion t m a0 a1 = some m') : Ct u_X3_putVersion 7 0 0 [.inr (.inr a0), .inr (.inr a1)] (t, m) (none, (t, m')) :=
  ct_of (by decide) tk_X3_putVersion (Nat.le_of_ble_eq_true rfl) (sm_X3_putVersion t m a0 a1 h0) (by rw [h]; rfl) (Nat.le_refl _) (Nat.le_refl _)
theorem lk_RX3_125 : Cond.methodLink RX3 125 yX10_copy ∈ TB := tbm 1048 (by decide +kernel) rfl
theorem lk_RX3_129 : Cond.methodLink RX3 129 yX10_setNext ∈ TB := tbm 1049 (by decide +kernel) rfl
theorem lk_RX3_141 : Cond.methodLink RX3 141 yX10_isLeast ∈ TB := tbm 1072 (by decide +kernel) rfl
theorem lk_RX3_145 : Cond.methodLink RX3 145 yX10_isEndless ∈ TB := tbm 1073 (by decide +kernel) rfl
theorem lk_RX3_137 : Cond.methodLink RX3 137 yX3_putVersion ∈ TB := tbm 1051 (by decide +kernel) rfl
theorem lk_RX3_133 : Cond.methodLink RX3 133 yX10_compare ∈ TB := tbm 1050 (by decide +kernel) rfl
def tb_X3_putStretch : Tb := [(0, (.aload_n 0, 1)), (1, (.getfield 24, 3)), (4, (.iconst 0, 1)), (5, (.aload_n 0, 1)), (6, (.getfield 31, 3)), (9, (.iconst 0, 1)), (10, (.invokestatic 125, 3)), (13, (.aload_n 0, 1)), (14, (.getfield 31, 3)), (17, (.invokestatic 129, 3)), (20, (.ifCond .eq 34, 3)), (23, (.aload_n 0, 1)), (24, (.getfield 31, 3)), (27, (.iconst 0, 1)), (28, (.aload_n 0, 1)), (29, (.getfield 28, 3)), (32, (.iconst 0, 1)), (33, (.invokestatic 133, 3)), (36, (.ifCond .ne 18, 3)), (39, (.aload_n 0, 1)), (40, (.bipush 61, 2)), (42, (.invokevirtual 93, 3)), (45, (.aload_n 0, 1)), (46, (.aload_n 0, 1)), (47, (.getfield 24, 3)), (50, (.invokevirtual 137, 3)), (53, (.return_, 1)), (54, (.aload_n 0, 1)), (55, (.getfield 24, 3)), (58, (.iconst 0, 1)), (59, (.invokestatic 141, 3)), (62, (.ifCond .ne 7, 3)), (65, (.iconst 1, 1)), (66, (.goto 4, 3)), (69, (.iconst 0, 1)), (70, (.istore_n 1, 1)), (71, (.aload_n 0, 1)), (72, (.getfield 28, 3)), (75, (.iconst 0, 1)), (76, (.invokestatic 145, 3)), (79, (.ifCond .ne 7, 3)), (82, (.iconst 1, 1)), (83, (.goto 4, 3)), (86, (.iconst 0, 1)), (87, (.istore_n 2, 1)), (88, (.iload_n 1, 1)), (89, (.ifCond .eq 17, 3)), (92, (.aload_n 0, 1)), (93, (.ldc 148, 2)), (95, (.invokevirtual 42, 3)), (98, (.aload_n 0, 1)), (99, (.aload_n 0, 1)), (100, (.getfield 24, 3)), (103, (.invokevirtual 137, 3)), (106, (.aload_n 0, 1)), (107, (.iload_n 1, 1)), (108, (.ifCond .eq 12, 3)), (111, (.iload_n 2, 1)), (112, (.ifCond .eq 8, 3)), (115, (.ldc 150, 2)), (117, (.goto 5, 3)), (120, (.ldc 52, 2)), (122, (.invokevirtual 42, 3)), (125, (.iload_n 2, 1)), (126, (.ifCond .eq 17, 3)), (129, (.aload_n 0, 1)), (130, (.bipush 60, 2)), (132, (.invokevirtual 93, 3)), (135, (.aload_n 0, 1)), (136, (.aload_n 0, 1)), (137, (.getfield 28, 3)), (140, (.invokevirtual 137, 3)), (143, (.return_, 1))]
def u_X3_putStretch : Fx := (yX3_putStretch, (cX3_putStretch, (3, (none, tb_X3_putStretch))))
theorem tk_X3_putStretch : ∀ q ∈ u_X3_putStretch.2.2.2.2, decode u_X3_putStretch.2.1 q.1 = .ok q.2 := by decide +kernel
theorem mc_X3_putStretch : MC u_X3_putStretch 0 := ⟨tbm 1047 (by decide +kernel) rfl, tbm 127 (by decide +kernel) rfl, ⟨by decide, by decide, by decide +kernel⟩, by decide⟩
theorem in_X3_putStretch : Cond.instanceMethod u_X3_putStretch.1 ∈ TB ∧ Cond.selects u_X3_putStretch.1.cls u_X3_putStretch.1 u_X3_putStretch.1 ∈ TB := ⟨tbm 1046 (by decide +kernel) rfl, tbm 45 (by decide +kernel) rfl⟩
def f_X3_putStretch_j122 (t : List Sh) (m : Mi) (a0 : Nat) (a2 : Int32) (s0 : Nat) (s1 : Nat) : Option (Mi) :=
  (if ob t s1 3 = true then
  (f_X3_putText t m s1 s0).bind fun m7 =>
  if a2 = 0 then
    some m7
  else
    (f_X3_putSign t m7 a0 60).bind fun m9 =>
    (f_X3_putVersion t m9 a0 (gr m9 a0 4)).bind fun m10 =>
    some m10
  else none)
def f_X3_putStretch_j120 (t : List Sh) (m : Mi) (a0 : Nat) (a2 : Int32) (s0 : Nat) : Option (Mi) :=
  f_X3_putStretch_j122 t m a0 a2 1048582 s0
def f_X3_putStretch_j106 (t : List Sh) (m : Mi) (a0 : Nat) (a1 : Int32) (a2 : Int32) : Option (Mi) :=
  if a1 = 0 then
    f_X3_putStretch_j120 t m a0 a2 a0
  else
    if a2 = 0 then
      f_X3_putStretch_j120 t m a0 a2 a0
    else
      f_X3_putStretch_j122 t m a0 a2 1048586 a0
def f_X3_putStretch_j87 (t : List Sh) (m : Mi) (a0 : Nat) (a1 : Int32) (s0 : Int32) : Option (Mi) :=
  if a1 = 0 then
    f_X3_putStretch_j106 t m a0 a1 s0
  else
    (f_X3_putText t m a0 1048585).bind fun m14 =>
    (f_X3_putVersion t m14 a0 (gr m14 a0 3)).bind fun m15 =>
    f_X3_putStretch_j106 t m15 a0 a1 s0
def f_X3_putStretch_j70 (t : List Sh) (m : Mi) (a0 : Nat) (s0 : Int32) : Option (Mi) :=
  (f_X10_isEndless t m (gr m a0 4) 0).bind fun x5 =>
  if x5 = 0 then
    f_X3_putStretch_j87 t m a0 s0 1
  else
    f_X3_putStretch_j87 t m a0 s0 0
def f_X3_putStretch_j54 (t : List Sh) (m : Mi) (a0 : Nat) : Option (Mi) :=
  (f_X10_isLeast t m (gr m a0 3) 0).bind fun x4 =>
  if x4 = 0 then
    f_X3_putStretch_j70 t m a0 1
  else
    f_X3_putStretch_j70 t m a0 0
def f_X3_putStretch (t : List Sh) (m : Mi) (a0 : Nat) : Option (Mi) :=
  (f_X10_copy t m (gr m a0 3) 0 (gr m a0 5) 0).bind fun m1 =>
  bd (f_X10_setNext t m1 (gr m1 a0 5)) fun x2 m3 =>
  if x2 = 0 then
    f_X3_putStretch_j54 t m3 a0
  else
    (f_X10_compare t m3 (gr m3 a0 5) 0 (gr m3 a0 4) 0).bind fun x19 =>
    if x19 = 0 then
      (f_X3_putSign t m3 a0 61).bind fun m21 =>
      (f_X3_putVersion t m21 a0 (gr m21 a0 3)).bind fun m22 =>
      some m22
    else
      f_X3_putStretch_j54 t m3 a0
set_option maxRecDepth 4000 in
set_option maxHeartbeats 4000000 in
theorem sm_X3_putStretch (t : List Sh) (m : Mi) (a0 : Nat) (h0 : sh t a0 = some (.inl 3)) : Sm u_X3_putStretch (8, 0, 0, t.length, zs t) (kV t) 0 [(0, .inr (.inr a0))] [] (t, m) (f_X3_putStretch t m a0) := by
  unfold f_X3_putStretch
  refine r_aload_n 0 1 0 rfl rfl rfl rfl ?_
  refine r_getR 1 4 rfl rfl fl_RX3_24 rfl h0 ?_
  refine r_iconst 2 5 (v := 0) rfl rfl (by decide) ?_
  refine r_aload_n 3 6 0 rfl rfl rfl rfl ?_
  refine r_getR 4 9 rfl rfl fl_RX3_31 rfl h0 ?_
  refine r_iconst 5 10 (v := 0) rfl rfl (by decide) ?_
  refine r_SV 6 13 (a := 0) (cn := 0) (st := []) (av := [.inr (.inr (gr m a0 3)), .inl 0, .inr (.inr (gr m a0 5)), .inl 0]) (μ' := u_X10_copy) (d := 2) rfl rfl mc_X10_copy st_X10_copy lk_RX3_125 (Nat.le_of_ble_eq_true rfl) rfl (Nat.le_of_ble_eq_true rfl) (fun _ h => ct_X10_copy h) (fun m1 => ?_)
  refine r_aload_n 7 14 0 rfl rfl rfl rfl ?_
  refine r_getR 8 17 rfl rfl fl_RX3_31 rfl h0 ?_
  refine r_SI 9 20 (a := 0) (cn := 0) (st := []) (av := [.inr (.inr (gr m1 a0 5))]) (μ' := u_X10_setNext) (d := 2) rfl rfl mc_X10_setNext st_X10_setNext lk_RX3_129 (Nat.le_of_ble_eq_true rfl) rfl (Nat.le_of_ble_eq_true rfl) (fun _ _ h => ct_X10_setNext h) (fun x2 m3 => ?_)
  have hj54 : ∀ (m : Mi), Sm u_X3_putStretch (8, 0, 0, t.length, zs t) (kV t) 54 [(0, .inr (.inr a0))] [] (t, m) (f_X3_putStretch_j54 t m a0) := by
    intro m
    unfold f_X3_putStretch_j54
    refine r_aload_n 27 55 0 rfl rfl rfl rfl ?_
    refine r_getR 28 58 rfl rfl fl_RX3_24 rfl h0 ?_
    refine r_iconst 29 59 (v := 0) rfl rfl (by decide) ?_
    refine r_SIo 30 62 (a := 0) (cn := 0) (st := []) (av := [.inr (.inr (gr m a0 3)), .inl 0]) (μ' := u_X10_isLeast) (d := 2) rfl rfl mc_X10_isLeast st_X10_isLeast lk_RX3_141 (Nat.le_of_ble_eq_true rfl) rfl (Nat.le_of_ble_eq_true rfl) (fun _ h => ct_X10_isLeast h) (fun x4 => ?_)
    have hj70 : ∀ (m : Mi) (s0 : Int32), Sm u_X3_putStretch (8, 0, 0, t.length, zs t) (kV t) 70 [(0, .inr (.inr a0))] [.inl s0] (t, m) (f_X3_putStretch_j70 t m a0 s0) := by
      intro m s0
      unfold f_X3_putStretch_j70
      refine r_istore_n 35 71 (L' := [(1, .inl s0), (0, .inr (.inr a0))]) rfl rfl rfl (by decide) rfl ?_
      refine r_aload_n 36 72 1 rfl rfl rfl rfl ?_
      refine r_getR 37 75 rfl rfl fl_RX3_28 rfl h0 ?_
      refine r_iconst 38 76 (v := 0) rfl rfl (by decide) ?_
      refine r_SIo 39 79 (a := 0) (cn := 0) (st := []) (av := [.inr (.inr (gr m a0 4)), .inl 0]) (μ' := u_X10_isEndless) (d := 2) rfl rfl mc_X10_isEndless st_X10_isEndless lk_RX3_145 (Nat.le_of_ble_eq_true rfl) rfl (Nat.le_of_ble_eq_true rfl) (fun _ h => ct_X10_isEndless h) (fun x5 => ?_)
      have hj87 : ∀ (m : Mi) (a1 : Int32) (s0 : Int32), Sm u_X3_putStretch (8, 0, 0, t.length, zs t) (kV t) 87 [(0, .inr (.inr a0)), (1, .inl a1)] [.inl s0] (t, m) (f_X3_putStretch_j87 t m a0 a1 s0) := by
        intro m a1 s0
        unfold f_X3_putStretch_j87
        refine r_istore_n 44 88 (L' := [(2, .inl s0), (0, .inr (.inr a0)), (1, .inl a1)]) rfl rfl rfl (by decide) rfl ?_
        refine r_iload_n 45 89 2 rfl rfl rfl rfl ?_
        have hj106 : ∀ (m : Mi) (a1 : Int32) (a2 : Int32), Sm u_X3_putStretch (8, 0, 0, t.length, zs t) (kV t) 106 [(0, .inr (.inr a0)), (1, .inl a1), (2, .inl a2)] [] (t, m) (f_X3_putStretch_j106 t m a0 a1 a2) := by
          intro m a1 a2
          unfold f_X3_putStretch_j106
          refine r_aload_n 54 107 0 rfl rfl rfl rfl ?_
          refine r_iload_n 55 108 1 rfl rfl rfl rfl ?_
          have hj122 : ∀ (m : Mi) (a2 : Int32) (s0 : Nat) (s1 : Nat), Sm u_X3_putStretch (8, 0, 0, t.length, zs t) (kV t) 122 [(0, .inr (.inr a0)), (2, .inl a2)] [.inr (.inr s0), .inr (.inr s1)] (t, m) (f_X3_putStretch_j122 t m a0 a2 s0 s1) := by
            intro m a2 s0 s1
            unfold f_X3_putStretch_j122
            refine r_gd (fun h6 => ?_)
            refine r_VV 62 125 (st := []) (av := [.inr (.inr s1), .inr (.inr s0)]) (av' := [.inr (.inr s0)]) (μ' := u_X3_putText) (d := 6) rfl rfl mc_X3_putText in_X3_putText lk_RX3_42 (Nat.le_of_ble_eq_true rfl) rfl rfl (ob_sh h6) rfl (Nat.le_of_ble_eq_true rfl) (fun _ h => ct_X3_putText (ob_sh h6) h) (fun m7 => ?_)
            refine r_iload_n 63 126 1 rfl rfl rfl rfl ?_
            refine r_if_eq 64 143 129 rfl rfl rfl (fun h8 => ?_) (fun h8 => ?_)
            · exact r_vret 72 rfl rfl rfl
            · refine r_aload_n 65 130 0 rfl rfl rfl rfl ?_
              refine r_bipush 66 132 (v := 60) rfl rfl (by decide) ?_
              refine r_VV 67 135 (st := []) (av := [.inr (.inr a0), .inl 60]) (av' := [.inl 60]) (μ' := u_X3_putSign) (d := 1) rfl rfl mc_X3_putSign in_X3_putSign lk_RX3_93 (Nat.le_of_ble_eq_true rfl) rfl rfl h0 rfl (Nat.le_of_ble_eq_true rfl) (fun _ h => ct_X3_putSign h0 h) (fun m9 => ?_)
              refine r_aload_n 68 136 0 rfl rfl rfl rfl ?_
              refine r_aload_n 69 137 0 rfl rfl rfl rfl ?_
              refine r_getR 70 140 rfl rfl fl_RX3_28 rfl h0 ?_
              refine r_VV 71 143 (st := []) (av := [.inr (.inr a0), .inr (.inr (gr m9 a0 4))]) (av' := [.inr (.inr (gr m9 a0 4))]) (μ' := u_X3_putVersion) (d := 7) rfl rfl mc_X3_putVersion in_X3_putVersion lk_RX3_137 (Nat.le_of_ble_eq_true rfl) rfl rfl h0 rfl (Nat.le_of_ble_eq_true rfl) (fun _ h => ct_X3_putVersion h0 h) (fun m10 => ?_)
              exact r_vret 72 rfl rfl rfl
          have hj120 : ∀ (m : Mi) (a2 : Int32) (s0 : Nat), Sm u_X3_putStretch (8, 0, 0, t.length, zs t) (kV t) 120 [(0, .inr (.inr a0)), (2, .inl a2)] [.inr (.inr s0)] (t, m) (f_X3_putStretch_j120 t m a0 a2 s0) := by
            intro m a2 s0
            unfold f_X3_putStretch_j120
            refine r_ldcS 61 122 (q := 6) (n := 6) rfl rfl rfl ?_
            refine r_eqs (st' := [.inr (.inr 1048582), .inr (.inr s0)]) rfl ?_
            exact hj122 m a2 1048582 s0
          refine r_if_eq 56 120 111 rfl rfl rfl (fun h11 => ?_) (fun h11 => ?_)
          · exact r_sub [0, 2] rfl (hj120 m a2 a0)
          · refine r_iload_n 57 112 2 rfl rfl rfl rfl ?_
            refine r_if_eq 58 120 115 rfl rfl rfl (fun h12 => ?_) (fun h12 => ?_)
            · exact r_sub [0, 2] rfl (hj120 m a2 a0)
            · refine r_ldcS 59 117 (q := 10) (n := 10) rfl rfl rfl ?_
              refine r_eqs (st' := [.inr (.inr 1048586), .inr (.inr a0)]) rfl ?_
              refine r_goto 60 122 rfl rfl ?_
              exact r_sub [0, 2] rfl (hj122 m a2 1048586 a0)
        refine r_if_eq 46 106 92 rfl rfl rfl (fun h13 => ?_) (fun h13 => ?_)
        · exact r_sub [1, 2, 0] rfl (hj106 m a1 s0)
        · refine r_aload_n 47 93 1 rfl rfl rfl rfl ?_
          refine r_ldcS 48 95 (q := 9) (n := 9) rfl rfl rfl ?_
          refine r_eqs (st' := [.inr (.inr 1048585), .inr (.inr a0)]) rfl ?_
          refine r_VV 49 98 (st := []) (av := [.inr (.inr a0), .inr (.inr 1048585)]) (av' := [.inr (.inr 1048585)]) (μ' := u_X3_putText) (d := 6) rfl rfl mc_X3_putText in_X3_putText lk_RX3_42 (Nat.le_of_ble_eq_true rfl) rfl rfl h0 rfl (Nat.le_of_ble_eq_true rfl) (fun _ h => ct_X3_putText h0 h) (fun m14 => ?_)
          refine r_aload_n 50 99 1 rfl rfl rfl rfl ?_
          refine r_aload_n 51 100 1 rfl rfl rfl rfl ?_
          refine r_getR 52 103 rfl rfl fl_RX3_24 rfl h0 ?_
          refine r_VV 53 106 (st := []) (av := [.inr (.inr a0), .inr (.inr (gr m14 a0 3))]) (av' := [.inr (.inr (gr m14 a0 3))]) (μ' := u_X3_putVersion) (d := 7) rfl rfl mc_X3_putVersion in_X3_putVersion lk_RX3_137 (Nat.le_of_ble_eq_true rfl) rfl rfl h0 rfl (Nat.le_of_ble_eq_true rfl) (fun _ h => ct_X3_putVersion h0 h) (fun m15 => ?_)
          exact r_sub [1, 2, 0] rfl (hj106 m15 a1 s0)
      refine r_if_ne 40 86 82 rfl rfl rfl (fun h16 => ?_) (fun h16 => ?_)
      · refine r_iconst 41 83 (v := 1) rfl rfl (by decide) ?_
        refine r_goto 42 87 rfl rfl ?_
        exact r_sub [1, 0] rfl (hj87 m s0 1)
      · refine r_iconst 43 87 (v := 0) rfl rfl (by decide) ?_
        exact r_sub [1, 0] rfl (hj87 m s0 0)
    refine r_if_ne 31 69 65 rfl rfl rfl (fun h17 => ?_) (fun h17 => ?_)
    · refine r_iconst 32 66 (v := 1) rfl rfl (by decide) ?_
      refine r_goto 33 70 rfl rfl ?_
      exact hj70 m 1
    · refine r_iconst 34 70 (v := 0) rfl rfl (by decide) ?_
      exact hj70 m 0
  refine r_if_eq 10 54 23 rfl rfl rfl (fun h18 => ?_) (fun h18 => ?_)
  · exact hj54 m3
  · refine r_aload_n 11 24 0 rfl rfl rfl rfl ?_
    refine r_getR 12 27 rfl rfl fl_RX3_31 rfl h0 ?_
    refine r_iconst 13 28 (v := 0) rfl rfl (by decide) ?_
    refine r_aload_n 14 29 0 rfl rfl rfl rfl ?_
    refine r_getR 15 32 rfl rfl fl_RX3_28 rfl h0 ?_
    refine r_iconst 16 33 (v := 0) rfl rfl (by decide) ?_
    refine r_SIo 17 36 (a := 0) (cn := 0) (st := []) (av := [.inr (.inr (gr m3 a0 5)), .inl 0, .inr (.inr (gr m3 a0 4)), .inl 0]) (μ' := u_X10_compare) (d := 2) rfl rfl mc_X10_compare st_X10_compare lk_RX3_133 (Nat.le_of_ble_eq_true rfl) rfl (Nat.le_of_ble_eq_true rfl) (fun _ h => ct_X10_compare h) (fun x19 => ?_)
    refine r_if_ne 18 54 39 rfl rfl rfl (fun h20 => ?_) (fun h20 => ?_)
    · refine r_aload_n 19 40 0 rfl rfl rfl rfl ?_
      refine r_bipush 20 42 (v := 61) rfl rfl (by decide) ?_
      refine r_VV 21 45 (st := []) (av := [.inr (.inr a0), .inl 61]) (av' := [.inl 61]) (μ' := u_X3_putSign) (d := 1) rfl rfl mc_X3_putSign in_X3_putSign lk_RX3_93 (Nat.le_of_ble_eq_true rfl) rfl rfl h0 rfl (Nat.le_of_ble_eq_true rfl) (fun _ h => ct_X3_putSign h0 h) (fun m21 => ?_)
      refine r_aload_n 22 46 0 rfl rfl rfl rfl ?_
      refine r_aload_n 23 47 0 rfl rfl rfl rfl ?_
      refine r_getR 24 50 rfl rfl fl_RX3_24 rfl h0 ?_
      refine r_VV 25 53 (st := []) (av := [.inr (.inr a0), .inr (.inr (gr m21 a0 3))]) (av' := [.inr (.inr (gr m21 a0 3))]) (μ' := u_X3_putVersion) (d := 7) rfl rfl mc_X3_putVersion in_X3_putVersion lk_RX3_137 (Nat.le_of_ble_eq_true rfl) rfl rfl h0 rfl (Nat.le_of_ble_eq_true rfl) (fun _ h => ct_X3_putVersion h0 h) (fun m22 => ?_)
      exact r_vret 26 rfl rfl rfl
    · exact hj54 m3
theorem ct_X3_putStretch {t : List Sh} {m : Mi} {a0 : Nat} {m' : Mi}  (h0 : sh t a0 = some (.inl 3)) (h : f_X3_putStretch t m a0 = some m') : Ct u_X3_putStretch 8 0 0 [.inr (.inr a0)] (t, m) (none, (t, m')) :=
  ct_of (by decide) tk_X3_putStretch (Nat.le_of_ble_eq_true rfl) (sm_X3_putStretch t m a0 h0) (by rw [h]; rfl) (Nat.le_refl _) (Nat.le_refl _)
theorem lk_RX3_34 : Cond.methodLink RX3 34 yX4_isAll ∈ TB := tbm 1015 (by decide +kernel) rfl
theorem lk_RX3_46 : Cond.methodLink RX3 46 yX4_stretches ∈ TB := tbm 1036 (by decide +kernel) rfl
theorem lk_RX3_56 : Cond.methodLink RX3 56 yX4_copyBound ∈ TB := tbm 1040 (by decide +kernel) rfl
theorem lk_RX3_60 : Cond.methodLink RX3 60 yX3_putStretch ∈ TB := tbm 1044 (by decide +kernel) rfl
def tb_X3_putRange : Tb := [(0, (.aload_n 1, 1)), (1, (.invokevirtual 34, 3)), (4, (.ifCond .eq 12, 3)), (7, (.aload_n 0, 1)), (8, (.ldc 40, 2)), (10, (.invokevirtual 42, 3)), (13, (.goto 78, 3)), (16, (.aload_n 1, 1)), (17, (.invokevirtual 46, 3)), (20, (.ifCond .ne 12, 3)), (23, (.aload_n 0, 1)), (24, (.ldc 50, 2)), (26, (.invokevirtual 42, 3)), (29, (.goto 62, 3)), (32, (.iconst 0, 1)), (33, (.istore_n 2, 1)), (34, (.iload_n 2, 1)), (35, (.aload_n 1, 1)), (36, (.invokevirtual 46, 3)), (39, (.if_icmp .ge 52, 3)), (42, (.aload_n 0, 1)), (43, (.iload_n 2, 1)), (44, (.ifCond .ne 8, 3)), (47, (.ldc 52, 2)), (49, (.goto 5, 3)), (52, (.ldc 54, 2)), (54, (.invokevirtual 42, 3)), (57, (.aload_n 1, 1)), (58, (.iconst 2, 1)), (59, (.iload_n 2, 1)), (60, (.imul, 1)), (61, (.aload_n 0, 1)), (62, (.getfield 24, 3)), (65, (.invokevirtual 56, 3)), (68, (.aload_n 1, 1)), (69, (.iconst 2, 1)), (70, (.iload_n 2, 1)), (71, (.imul, 1)), (72, (.iconst 1, 1)), (73, (.iadd, 1)), (74, (.aload_n 0, 1)), (75, (.getfield 28, 3)), (78, (.invokevirtual 56, 3)), (81, (.aload_n 0, 1)), (82, (.invokevirtual 60, 3)), (85, (.iinc 2 1, 3)), (88, (.goto (-54), 3)), (91, (.return_, 1))]
def u_X3_putRange : Fx := (yX3_putRange, (cX3_putRange, (3, (none, tb_X3_putRange))))
theorem tk_X3_putRange : ∀ q ∈ u_X3_putRange.2.2.2.2, decode u_X3_putRange.2.1 q.1 = .ok q.2 := by decide +kernel
theorem mc_X3_putRange : MC u_X3_putRange 1 := ⟨tbm 1014 (by decide +kernel) rfl, tbm 127 (by decide +kernel) rfl, ⟨by decide, by decide, by decide +kernel⟩, by decide⟩
theorem in_X3_putRange : Cond.instanceMethod u_X3_putRange.1 ∈ TB ∧ Cond.selects u_X3_putRange.1.cls u_X3_putRange.1 u_X3_putRange.1 ∈ TB := ⟨tbm 1012 (by decide +kernel) rfl, tbm 1013 (by decide +kernel) rfl⟩
def f_X3_putRange_j91 (t : List Sh) (m : Mi) : Option (Mi) :=
  some m
def f_X3_putRange_j54 (t : List Sh) (m : Mi) (a0 : Nat) (a1 : Nat) (a2 : Int32) (s0 : Nat) (s1 : Nat) : Option ((Int32 × Mi) ⊕ ((Mi))) :=
  (if ob t s1 3 = true then
  (f_X3_putText t m s1 s0).bind fun m10 =>
  (f_X4_copyBound t m10 a1 (2 * a2) (gr m10 a0 3)).bind fun m11 =>
  (f_X4_copyBound t m11 a1 ((2 * a2) + 1) (gr m11 a0 4)).bind fun m12 =>
  (f_X3_putStretch t m12 a0).bind fun m13 =>
  lt (a2 + 1) fun x14 =>
  some (.inl (x14, m13))
  else none)
def f_X3_putRange_l34 (t : List Sh) (m : Mi) (a0 : Nat) (a1 : Nat) (a2 : Int32) : Option ((Int32 × Mi) ⊕ ((Mi))) :=
  (f_X4_stretches t m a1).bind fun x7 =>
  if x7 ≤ a2 then
    some (.inr m)
  else
    if a2 = 0 then
      f_X3_putRange_j54 t m a0 a1 a2 1048582 a0
    else
      f_X3_putRange_j54 t m a0 a1 a2 1048583 a0
def f_X3_putRange_j34 (t : List Sh) (m : Mi) (a0 : Nat) (a1 : Nat) (a2 : Int32) : Option (Mi) :=
  (lp (fun x : Int32 × Mi => f_X3_putRange_l34 t x.2 a0 a1 x.1) FUEL (a2, m)).bind (fun y : Mi => f_X3_putRange_j91 t y)
def f_X3_putRange (t : List Sh) (m : Mi) (a0 : Nat) (a1 : Nat) : Option (Mi) :=
  (if ob t a1 4 = true then
  (f_X4_isAll t m a1).bind fun x2 =>
  if x2 = 0 then
    (f_X4_stretches t m a1).bind fun x4 =>
    if x4 = 0 then
      (f_X3_putText t m a0 1048581).bind fun m6 =>
      some m6
    else
      f_X3_putRange_j34 t m a0 a1 0
  else
    (f_X3_putText t m a0 1048580).bind fun m16 =>
    some m16
  else none)
set_option maxRecDepth 4000 in
set_option maxHeartbeats 4000000 in
theorem sm_X3_putRange (t : List Sh) (m : Mi) (a0 : Nat) (a1 : Nat) (h0 : sh t a0 = some (.inl 3)) : Sm u_X3_putRange (9, 0, 0, t.length, zs t) (kV t) 0 [(0, .inr (.inr a0)), (1, .inr (.inr a1))] [] (t, m) (f_X3_putRange t m a0 a1) := by
  unfold f_X3_putRange
  refine r_aload_n 0 1 1 rfl rfl rfl rfl ?_
  refine r_gd (fun h1 => ?_)
  refine r_VIo 1 4 (st := []) (av := [.inr (.inr a1)]) (av' := []) (μ' := u_X4_isAll) (d := 3) rfl rfl mc_X4_isAll in_X4_isAll lk_RX3_34 (Nat.le_of_ble_eq_true rfl) rfl rfl (ob_sh h1) rfl (Nat.le_of_ble_eq_true rfl) (fun _ h => ct_X4_isAll (ob_sh h1) h) (fun x2 => ?_)
  refine r_if_eq 2 16 7 rfl rfl rfl (fun h3 => ?_) (fun h3 => ?_)
  · refine r_aload_n 7 17 1 rfl rfl rfl rfl ?_
    refine r_VIo 8 20 (st := []) (av := [.inr (.inr a1)]) (av' := []) (μ' := u_X4_stretches) (d := 1) rfl rfl mc_X4_stretches in_X4_stretches lk_RX3_46 (Nat.le_of_ble_eq_true rfl) rfl rfl (ob_sh h1) rfl (Nat.le_of_ble_eq_true rfl) (fun _ h => ct_X4_stretches (ob_sh h1) h) (fun x4 => ?_)
    refine r_if_ne 9 32 23 rfl rfl rfl (fun h5 => ?_) (fun h5 => ?_)
    · refine r_aload_n 10 24 0 rfl rfl rfl rfl ?_
      refine r_ldcS 11 26 (q := 5) (n := 5) rfl rfl rfl ?_
      refine r_eqs (st' := [.inr (.inr 1048581), .inr (.inr a0)]) rfl ?_
      refine r_VV 12 29 (st := []) (av := [.inr (.inr a0), .inr (.inr 1048581)]) (av' := [.inr (.inr 1048581)]) (μ' := u_X3_putText) (d := 6) rfl rfl mc_X3_putText in_X3_putText lk_RX3_42 (Nat.le_of_ble_eq_true rfl) rfl rfl h0 rfl (Nat.le_of_ble_eq_true rfl) (fun _ h => ct_X3_putText h0 h) (fun m6 => ?_)
      refine r_goto 13 91 rfl rfl ?_
      exact r_vret 47 rfl rfl rfl
    · refine r_iconst 14 33 (v := 0) rfl rfl (by decide) ?_
      refine r_istore_n 15 34 (L' := [(2, .inl 0), (0, .inr (.inr a0)), (1, .inr (.inr a1))]) rfl rfl rfl (by decide) rfl ?_
      have hj34 : ∀ (m : Mi) (a2 : Int32), Sm u_X3_putRange (9, 0, 0, t.length, zs t) (kV t) 34 [(0, .inr (.inr a0)), (1, .inr (.inr a1)), (2, .inl a2)] [] (t, m) (f_X3_putRange_j34 t m a0 a1 a2) := by
        intro m a2
        unfold f_X3_putRange_j34
        have hj91 : ∀ (m : Mi), Sm u_X3_putRange (9, 0, 0, t.length, zs t) (kV t) 91 [] [] (t, m) (f_X3_putRange_j91 t m) := by
          intro m
          unfold f_X3_putRange_j91
          exact r_vret 47 rfl rfl rfl
        refine r_lp (Lf := fun x : Int32 × Mi => [(0, .inr (.inr a0)), (1, .inr (.inr a1)), (2, .inl (x.1))]) (Mf := fun x : Int32 × Mi => (t, x.2)) (a2, m) ?_ FUEL
        rintro ⟨a2, m⟩ κ34 hc34 he34
        refine r_eq (L' := [(0, .inr (.inr a0)), (1, .inr (.inr a1)), (2, .inl a2)]) (M' := (t, m)) rfl rfl ?_
        refine r_eqr (r' := f_X3_putRange_l34 t m a0 a1 a2) rfl ?_
        unfold f_X3_putRange_l34
        refine r_iload_n 16 35 2 rfl rfl rfl rfl ?_
        refine r_aload_n 17 36 1 rfl rfl rfl rfl ?_
        refine r_VIo 18 39 (st := [.inl a2]) (av := [.inr (.inr a1)]) (av' := []) (μ' := u_X4_stretches) (d := 1) rfl rfl mc_X4_stretches in_X4_stretches lk_RX3_46 (Nat.le_of_ble_eq_true rfl) rfl rfl (ob_sh h1) rfl (Nat.le_of_ble_eq_true rfl) (fun _ h => ct_X4_stretches (ob_sh h1) h) (fun x7 => ?_)
        refine r_icmp_ge 19 91 42 rfl rfl rfl (fun h8 => ?_) (fun h8 => ?_)
        · refine r_leaf (r2 := (f_X3_putRange_j91 t m : Option (Mi))) (he34 _) ?_
          exact r_sub [] rfl (hj91 m)
        · refine r_aload_n 20 43 0 rfl rfl rfl rfl ?_
          refine r_iload_n 21 44 2 rfl rfl rfl rfl ?_
          have hj54 : ∀ (m : Mi) (a2 : Int32) (s0 : Nat) (s1 : Nat), Sm u_X3_putRange (9, 0, 0, t.length, zs t) κ34 54 [(0, .inr (.inr a0)), (1, .inr (.inr a1)), (2, .inl a2)] [.inr (.inr s0), .inr (.inr s1)] (t, m) (f_X3_putRange_j54 t m a0 a1 a2 s0 s1) := by
            intro m a2 s0 s1
            unfold f_X3_putRange_j54
            refine r_gd (fun h9 => ?_)
            refine r_VV 26 57 (st := []) (av := [.inr (.inr s1), .inr (.inr s0)]) (av' := [.inr (.inr s0)]) (μ' := u_X3_putText) (d := 6) rfl rfl mc_X3_putText in_X3_putText lk_RX3_42 (Nat.le_of_ble_eq_true rfl) rfl rfl (ob_sh h9) rfl (Nat.le_of_ble_eq_true rfl) (fun _ h => ct_X3_putText (ob_sh h9) h) (fun m10 => ?_)
            refine r_aload_n 27 58 1 rfl rfl rfl rfl ?_
            refine r_iconst 28 59 (v := 2) rfl rfl (by decide) ?_
            refine r_iload_n 29 60 2 rfl rfl rfl rfl ?_
            refine r_imul 30 61 rfl rfl ?_
            refine r_aload_n 31 62 0 rfl rfl rfl rfl ?_
            refine r_getR 32 65 rfl rfl fl_RX3_24 rfl h0 ?_
            refine r_VV 33 68 (st := []) (av := [.inr (.inr a1), .inl (2 * a2), .inr (.inr (gr m10 a0 3))]) (av' := [.inl (2 * a2), .inr (.inr (gr m10 a0 3))]) (μ' := u_X4_copyBound) (d := 3) rfl rfl mc_X4_copyBound in_X4_copyBound lk_RX3_56 (Nat.le_of_ble_eq_true rfl) rfl rfl (ob_sh h1) rfl (Nat.le_of_ble_eq_true rfl) (fun _ h => ct_X4_copyBound (ob_sh h1) h) (fun m11 => ?_)
            refine r_aload_n 34 69 1 rfl rfl rfl rfl ?_
            refine r_iconst 35 70 (v := 2) rfl rfl (by decide) ?_
            refine r_iload_n 36 71 2 rfl rfl rfl rfl ?_
            refine r_imul 37 72 rfl rfl ?_
            refine r_iconst 38 73 (v := 1) rfl rfl (by decide) ?_
            refine r_iadd 39 74 rfl rfl ?_
            refine r_aload_n 40 75 0 rfl rfl rfl rfl ?_
            refine r_getR 41 78 rfl rfl fl_RX3_28 rfl h0 ?_
            refine r_VV 42 81 (st := []) (av := [.inr (.inr a1), .inl ((2 * a2) + 1), .inr (.inr (gr m11 a0 4))]) (av' := [.inl ((2 * a2) + 1), .inr (.inr (gr m11 a0 4))]) (μ' := u_X4_copyBound) (d := 3) rfl rfl mc_X4_copyBound in_X4_copyBound lk_RX3_56 (Nat.le_of_ble_eq_true rfl) rfl rfl (ob_sh h1) rfl (Nat.le_of_ble_eq_true rfl) (fun _ h => ct_X4_copyBound (ob_sh h1) h) (fun m12 => ?_)
            refine r_aload_n 43 82 0 rfl rfl rfl rfl ?_
            refine r_VV 44 85 (st := []) (av := [.inr (.inr a0)]) (av' := []) (μ' := u_X3_putStretch) (d := 8) rfl rfl mc_X3_putStretch in_X3_putStretch lk_RX3_60 (Nat.le_of_ble_eq_true rfl) rfl rfl h0 rfl (Nat.le_of_ble_eq_true rfl) (fun _ h => ct_X3_putStretch h0 h) (fun m13 => ?_)
            refine r_iinc 45 88 2 (L' := [(2, .inl (a2 + 1)), (0, .inr (.inr a0)), (1, .inr (.inr a1))]) rfl rfl rfl (by decide) rfl ?_
            refine r_ltV (fun x14 => ?_)
            refine r_goto 46 34 rfl rfl ?_
            exact r_sub [1, 2, 0] rfl (hc34 (x14, m13))
          refine r_if_ne 22 52 47 rfl rfl rfl (fun h15 => ?_) (fun h15 => ?_)
          · refine r_ldcS 23 49 (q := 6) (n := 6) rfl rfl rfl ?_
            refine r_eqs (st' := [.inr (.inr 1048582), .inr (.inr a0)]) rfl ?_
            refine r_goto 24 54 rfl rfl ?_
            exact hj54 m a2 1048582 a0
          · refine r_ldcS 25 54 (q := 7) (n := 7) rfl rfl rfl ?_
            refine r_eqs (st' := [.inr (.inr 1048583), .inr (.inr a0)]) rfl ?_
            exact hj54 m a2 1048583 a0
      exact r_sub [1, 2, 0] rfl (hj34 m 0)
  · refine r_aload_n 3 8 0 rfl rfl rfl rfl ?_
    refine r_ldcS 4 10 (q := 4) (n := 4) rfl rfl rfl ?_
    refine r_eqs (st' := [.inr (.inr 1048580), .inr (.inr a0)]) rfl ?_
    refine r_VV 5 13 (st := []) (av := [.inr (.inr a0), .inr (.inr 1048580)]) (av' := [.inr (.inr 1048580)]) (μ' := u_X3_putText) (d := 6) rfl rfl mc_X3_putText in_X3_putText lk_RX3_42 (Nat.le_of_ble_eq_true rfl) rfl rfl h0 rfl (Nat.le_of_ble_eq_true rfl) (fun _ h => ct_X3_putText h0 h) (fun m16 => ?_)
    refine r_goto 6 91 rfl rfl ?_
    exact r_vret 47 rfl rfl rfl
theorem ct_X3_putRange {t : List Sh} {m : Mi} {a0 : Nat} {a1 : Nat} {m' : Mi}  (h0 : sh t a0 = some (.inl 3)) (h : f_X3_putRange t m a0 a1 = some m') : Ct u_X3_putRange 9 0 0 [.inr (.inr a0), .inr (.inr a1)] (t, m) (none, (t, m')) :=
  ct_of (by decide) tk_X3_putRange (Nat.le_of_ble_eq_true rfl) (sm_X3_putRange t m a0 a1 h0) (by rw [h]; rfl) (Nat.le_refl _) (Nat.le_refl _)
