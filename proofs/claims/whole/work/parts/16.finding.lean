theorem fl_RX1_27 : FL RX1 27 1 4 false := ⟨RX1, TX1, 6, rfl, inW1, tyX1_ok, nmX1, by decide, rfl, rfl, rfl, tbm 483 (by decide +kernel) rfl⟩
theorem fl_RX1_24 : FL RX1 24 1 3 true := ⟨RX1, TX1, 6, rfl, inW1, tyX1_ok, nmX1, by decide, rfl, rfl, rfl, tbm 482 (by decide +kernel) rfl⟩
def tb_X1_accuse : Tb := [(0, (.aload_n 0, 1)), (1, (.getfield 27, 3)), (4, (.aload_n 0, 1)), (5, (.getfield 24, 3)), (8, (.arraylength, 1)), (9, (.if_icmp .ge 23, 3)), (12, (.aload_n 0, 1)), (13, (.getfield 24, 3)), (16, (.aload_n 0, 1)), (17, (.getfield 27, 3)), (20, (.iload_n 1, 1)), (21, (.iastore, 1)), (22, (.aload_n 0, 1)), (23, (.dup, 1)), (24, (.getfield 27, 3)), (27, (.iconst 1, 1)), (28, (.iadd, 1)), (29, (.putfield 27, 3)), (32, (.return_, 1))]
def u_X1_accuse : Fx := (yX1_accuse, (cX1_accuse, (2, (none, tb_X1_accuse))))
theorem tk_X1_accuse : ∀ q ∈ u_X1_accuse.2.2.2.2, decode u_X1_accuse.2.1 q.1 = .ok q.2 := by decide +kernel
theorem mc_X1_accuse : MC u_X1_accuse 1 := ⟨tbm 1234 (by decide +kernel) rfl, tbm 126 (by decide +kernel) rfl, ⟨by decide, by decide, by decide +kernel⟩, by decide⟩
theorem in_X1_accuse : Cond.instanceMethod u_X1_accuse.1 ∈ TB ∧ Cond.selects u_X1_accuse.1.cls u_X1_accuse.1 u_X1_accuse.1 ∈ TB := ⟨tbm 1232 (by decide +kernel) rfl, tbm 1233 (by decide +kernel) rfl⟩
def f_X1_accuse (t : List Sh) (m : Mi) (a0 : Nat) (a1 : Int32) : Option (Mi) :=
  (if aa t (gr m a0 3) .int = true then
  if (Int32.ofNat (ln t (gr m a0 3))) ≤ (gi m a0 4) then
    some m
  else
    (if ar t (gr m a0 3) .int (gi m a0 4) = true then
    lt (si m (gr m a0 3) (ix (gi m a0 4)) a1) fun m4 =>
    lt (si m4 a0 4 ((gi m4 a0 4) + 1)) fun m5 =>
    some m5
    else none)
  else none)
set_option maxRecDepth 4000 in
set_option maxHeartbeats 4000000 in
theorem sm_X1_accuse (t : List Sh) (m : Mi) (a0 : Nat) (a1 : Int32) (h0 : sh t a0 = some (.inl 1)) : Sm u_X1_accuse (1, 0, 0, t.length, zs t) (kV t) 0 [(0, .inr (.inr a0)), (1, .inl a1)] [] (t, m) (f_X1_accuse t m a0 a1) := by
  unfold f_X1_accuse
  refine r_aload_n 0 1 0 rfl rfl rfl rfl ?_
  refine r_getI 1 4 rfl rfl fl_RX1_27 rfl h0 ?_
  refine r_aload_n 2 5 0 rfl rfl rfl rfl ?_
  refine r_getR 3 8 rfl rfl fl_RX1_24 rfl h0 ?_
  refine r_gd (fun h1 => ?_)
  refine r_alen 4 9 0 rfl rfl (fun _ => rfl) h1 ?_
  refine r_icmp_ge 5 32 12 rfl rfl rfl (fun h2 => ?_) (fun h2 => ?_)
  · exact r_vret 18 rfl rfl rfl
  · refine r_aload_n 6 13 0 rfl rfl rfl rfl ?_
    refine r_getR 7 16 rfl rfl fl_RX1_24 rfl h0 ?_
    refine r_aload_n 8 17 0 rfl rfl rfl rfl ?_
    refine r_getI 9 20 rfl rfl fl_RX1_27 rfl h0 ?_
    refine r_iload_n 10 21 1 rfl rfl rfl rfl ?_
    refine r_gd (fun h3 => ?_)
    refine r_iast 11 22 rfl rfl h3 ?_
    refine r_ltM (fun m4 => ?_)
    refine r_aload_n 12 23 0 rfl rfl rfl rfl ?_
    refine r_dup 13 24 rfl rfl rfl ?_
    refine r_getI 14 27 rfl rfl fl_RX1_27 rfl h0 ?_
    refine r_iconst 15 28 (v := 1) rfl rfl (by decide) ?_
    refine r_iadd 16 29 rfl rfl ?_
    refine r_putI 17 32 rfl rfl fl_RX1_27 (fun h => by cases h) (Or.inl rfl) h0 ?_
    refine r_ltM (fun m5 => ?_)
    exact r_vret 18 rfl rfl rfl
theorem ct_X1_accuse {t : List Sh} {m : Mi} {a0 : Nat} {a1 : Int32} {m' : Mi}  (h0 : sh t a0 = some (.inl 1)) (h : f_X1_accuse t m a0 a1 = some m') : Ct u_X1_accuse 1 0 0 [.inr (.inr a0), .inl a1] (t, m) (none, (t, m')) :=
  ct_of (by decide) tk_X1_accuse (Nat.le_of_ble_eq_true rfl) (sm_X1_accuse t m a0 a1 h0) (by rw [h]; rfl) (Nat.le_refl _) (Nat.le_refl _)
def tb_X1_accused : Tb := [(0, (.aload_n 0, 1)), (1, (.getfield 27, 3)), (4, (.ireturn, 1))]
def u_X1_accused : Fx := (yX1_accused, (cX1_accused, (1, ((some .int), tb_X1_accused))))
theorem tk_X1_accused : ∀ q ∈ u_X1_accused.2.2.2.2, decode u_X1_accused.2.1 q.1 = .ok q.2 := by decide +kernel
theorem mc_X1_accused : MC u_X1_accused 0 := ⟨tbm 1296 (by decide +kernel) rfl, tbm 126 (by decide +kernel) rfl, ⟨by decide, by decide, by decide +kernel⟩, by decide⟩
theorem in_X1_accused : Cond.instanceMethod u_X1_accused.1 ∈ TB ∧ Cond.selects u_X1_accused.1.cls u_X1_accused.1 u_X1_accused.1 ∈ TB := ⟨tbm 1294 (by decide +kernel) rfl, tbm 1295 (by decide +kernel) rfl⟩
def f_X1_accused (t : List Sh) (m : Mi) (a0 : Nat) : Option (Int32) :=
  some (gi m a0 4)
set_option maxRecDepth 4000 in
set_option maxHeartbeats 4000000 in
theorem sm_X1_accused (t : List Sh) (m : Mi) (a0 : Nat) (h0 : sh t a0 = some (.inl 1)) : Sm u_X1_accused (1, 0, 0, t.length, zs t) (kIo t m) 0 [(0, .inr (.inr a0))] [] (t, m) (f_X1_accused t m a0) := by
  unfold f_X1_accused
  refine r_aload_n 0 1 0 rfl rfl rfl rfl ?_
  refine r_getI 1 4 rfl rfl fl_RX1_27 rfl h0 ?_
  exact r_iret 2 rfl rfl rfl
theorem ct_X1_accused {t : List Sh} {m : Mi} {a0 : Nat} {v : Int32}  (h0 : sh t a0 = some (.inl 1)) (h : f_X1_accused t m a0 = some v) : Ct u_X1_accused 1 0 0 [.inr (.inr a0)] (t, m) (some (.inl v), (t, m)) :=
  ct_of (by decide) tk_X1_accused (Nat.le_of_ble_eq_true rfl) (sm_X1_accused t m a0 h0) (by rw [h]; rfl) (Nat.le_refl _) (Nat.le_refl _)
def tb_X1_accusedAt : Tb := [(0, (.iload_n 1, 1)), (1, (.ifCond .lt 20, 3)), (4, (.iload_n 1, 1)), (5, (.aload_n 0, 1)), (6, (.getfield 27, 3)), (9, (.if_icmp .ge 12, 3)), (12, (.aload_n 0, 1)), (13, (.getfield 24, 3)), (16, (.iload_n 1, 1)), (17, (.iaload, 1)), (18, (.goto 4, 3)), (21, (.iconst (-1), 1)), (22, (.ireturn, 1))]
def u_X1_accusedAt : Fx := (yX1_accusedAt, (cX1_accusedAt, (2, ((some .int), tb_X1_accusedAt))))
theorem tk_X1_accusedAt : ∀ q ∈ u_X1_accusedAt.2.2.2.2, decode u_X1_accusedAt.2.1 q.1 = .ok q.2 := by decide +kernel
theorem mc_X1_accusedAt : MC u_X1_accusedAt 1 := ⟨tbm 1247 (by decide +kernel) rfl, tbm 126 (by decide +kernel) rfl, ⟨by decide, by decide, by decide +kernel⟩, by decide⟩
theorem in_X1_accusedAt : Cond.instanceMethod u_X1_accusedAt.1 ∈ TB ∧ Cond.selects u_X1_accusedAt.1.cls u_X1_accusedAt.1 u_X1_accusedAt.1 ∈ TB := ⟨tbm 1245 (by decide +kernel) rfl, tbm 1246 (by decide +kernel) rfl⟩
def f_X1_accusedAt (t : List Sh) (m : Mi) (a0 : Nat) (a1 : Int32) : Option (Int32) :=
  if a1 < 0 then
    some (-1)
  else
    if (gi m a0 4) ≤ a1 then
      some (-1)
    else
      (if ar t (gr m a0 3) .int a1 = true then
      some (gi m (gr m a0 3) (ix a1))
      else none)
set_option maxRecDepth 4000 in
set_option maxHeartbeats 4000000 in
theorem sm_X1_accusedAt (t : List Sh) (m : Mi) (a0 : Nat) (a1 : Int32) (h0 : sh t a0 = some (.inl 1)) : Sm u_X1_accusedAt (1, 0, 0, t.length, zs t) (kIo t m) 0 [(0, .inr (.inr a0)), (1, .inl a1)] [] (t, m) (f_X1_accusedAt t m a0 a1) := by
  unfold f_X1_accusedAt
  refine r_iload_n 0 1 1 rfl rfl rfl rfl ?_
  refine r_if_lt 1 21 4 rfl rfl rfl (fun h1 => ?_) (fun h1 => ?_)
  · refine r_iconst 11 22 (v := (-1)) rfl rfl (by decide) ?_
    exact r_iret 12 rfl rfl rfl
  · refine r_iload_n 2 5 1 rfl rfl rfl rfl ?_
    refine r_aload_n 3 6 0 rfl rfl rfl rfl ?_
    refine r_getI 4 9 rfl rfl fl_RX1_27 rfl h0 ?_
    refine r_icmp_ge 5 21 12 rfl rfl rfl (fun h2 => ?_) (fun h2 => ?_)
    · refine r_iconst 11 22 (v := (-1)) rfl rfl (by decide) ?_
      exact r_iret 12 rfl rfl rfl
    · refine r_aload_n 6 13 0 rfl rfl rfl rfl ?_
      refine r_getR 7 16 rfl rfl fl_RX1_24 rfl h0 ?_
      refine r_iload_n 8 17 1 rfl rfl rfl rfl ?_
      refine r_gd (fun h3 => ?_)
      refine r_iald 9 18 rfl rfl h3 ?_
      refine r_goto 10 22 rfl rfl ?_
      exact r_iret 12 rfl rfl rfl
theorem ct_X1_accusedAt {t : List Sh} {m : Mi} {a0 : Nat} {a1 : Int32} {v : Int32}  (h0 : sh t a0 = some (.inl 1)) (h : f_X1_accusedAt t m a0 a1 = some v) : Ct u_X1_accusedAt 1 0 0 [.inr (.inr a0), .inl a1] (t, m) (some (.inl v), (t, m)) :=
  ct_of (by decide) tk_X1_accusedAt (Nat.le_of_ble_eq_true rfl) (sm_X1_accusedAt t m a0 a1 h0) (by rw [h]; rfl) (Nat.le_refl _) (Nat.le_refl _)
theorem fl_RX1_11 : FL RX1 11 1 0 false := ⟨RX1, TX1, 6, rfl, inW1, tyX1_ok, nmX1, by decide, rfl, rfl, rfl, tbm 479 (by decide +kernel) rfl⟩
theorem fl_RX1_15 : FL RX1 15 1 1 false := ⟨RX1, TX1, 6, rfl, inW1, tyX1_ok, nmX1, by decide, rfl, rfl, rfl, tbm 480 (by decide +kernel) rfl⟩
def tb_X1_forget : Tb := [(0, (.aload_n 0, 1)), (1, (.iconst 0, 1)), (2, (.putfield 11, 3)), (5, (.aload_n 0, 1)), (6, (.iconst 0, 1)), (7, (.putfield 15, 3)), (10, (.aload_n 0, 1)), (11, (.iconst 0, 1)), (12, (.putfield 27, 3)), (15, (.return_, 1))]
def u_X1_forget : Fx := (yX1_forget, (cX1_forget, (1, (none, tb_X1_forget))))
theorem tk_X1_forget : ∀ q ∈ u_X1_forget.2.2.2.2, decode u_X1_forget.2.1 q.1 = .ok q.2 := by decide +kernel
theorem mc_X1_forget : MC u_X1_forget 0 := ⟨tbm 956 (by decide +kernel) rfl, tbm 126 (by decide +kernel) rfl, ⟨by decide, by decide, by decide +kernel⟩, by decide⟩
theorem in_X1_forget : Cond.instanceMethod u_X1_forget.1 ∈ TB ∧ Cond.selects u_X1_forget.1.cls u_X1_forget.1 u_X1_forget.1 ∈ TB := ⟨tbm 954 (by decide +kernel) rfl, tbm 955 (by decide +kernel) rfl⟩
def f_X1_forget (t : List Sh) (m : Mi) (a0 : Nat) : Option (Mi) :=
  lt (si m a0 0 0) fun m1 =>
  lt (si m1 a0 1 0) fun m2 =>
  lt (si m2 a0 4 0) fun m3 =>
  some m3
set_option maxRecDepth 4000 in
set_option maxHeartbeats 4000000 in
theorem sm_X1_forget (t : List Sh) (m : Mi) (a0 : Nat) (h0 : sh t a0 = some (.inl 1)) : Sm u_X1_forget (1, 0, 0, t.length, zs t) (kV t) 0 [(0, .inr (.inr a0))] [] (t, m) (f_X1_forget t m a0) := by
  unfold f_X1_forget
  refine r_aload_n 0 1 0 rfl rfl rfl rfl ?_
  refine r_iconst 1 2 (v := 0) rfl rfl (by decide) ?_
  refine r_putI 2 5 rfl rfl fl_RX1_11 (fun h => by cases h) (Or.inl rfl) h0 ?_
  refine r_ltM (fun m1 => ?_)
  refine r_aload_n 3 6 0 rfl rfl rfl rfl ?_
  refine r_iconst 4 7 (v := 0) rfl rfl (by decide) ?_
  refine r_putI 5 10 rfl rfl fl_RX1_15 (fun h => by cases h) (Or.inl rfl) h0 ?_
  refine r_ltM (fun m2 => ?_)
  refine r_aload_n 6 11 0 rfl rfl rfl rfl ?_
  refine r_iconst 7 12 (v := 0) rfl rfl (by decide) ?_
  refine r_putI 8 15 rfl rfl fl_RX1_27 (fun h => by cases h) (Or.inl rfl) h0 ?_
  refine r_ltM (fun m3 => ?_)
  exact r_vret 9 rfl rfl rfl
theorem ct_X1_forget {t : List Sh} {m : Mi} {a0 : Nat} {m' : Mi}  (h0 : sh t a0 = some (.inl 1)) (h : f_X1_forget t m a0 = some m') : Ct u_X1_forget 1 0 0 [.inr (.inr a0)] (t, m) (none, (t, m')) :=
  ct_of (by decide) tk_X1_forget (Nat.le_of_ble_eq_true rfl) (sm_X1_forget t m a0 h0) (by rw [h]; rfl) (Nat.le_refl _) (Nat.le_refl _)
theorem lk_RX1_3 : Cond.methodLink RX1 3 Lib.objectInit ∈ TB := tbm 478 (by decide +kernel) rfl
theorem fl_RX1_20 : FL RX1 20 1 2 true := ⟨RX1, TX1, 6, rfl, inW1, tyX1_ok, nmX1, by decide, rfl, rfl, rfl, tbm 481 (by decide +kernel) rfl⟩
theorem fl_RX1_30 : FL RX1 30 1 5 true := ⟨RX1, TX1, 6, rfl, inW1, tyX1_ok, nmX1, by decide, rfl, rfl, rfl, tbm 484 (by decide +kernel) rfl⟩
def tb_X1_init : Tb := [(0, (.aload_n 0, 1)), (1, (.invokespecial 3, 3)), (4, (.aload_n 0, 1)), (5, (.iconst 0, 1)), (6, (.putfield 11, 3)), (9, (.aload_n 0, 1)), (10, (.iconst 0, 1)), (11, (.putfield 15, 3)), (14, (.aload_n 0, 1)), (15, (.bipush 10, 2)), (17, (.newarray .int, 2)), (19, (.putfield 20, 3)), (22, (.aload_n 0, 1)), (23, (.sipush 250, 3)), (26, (.newarray .int, 2)), (28, (.putfield 24, 3)), (31, (.aload_n 0, 1)), (32, (.iconst 0, 1)), (33, (.putfield 27, 3)), (36, (.aload_n 0, 1)), (37, (.bipush 10, 2)), (39, (.newarray .int, 2)), (41, (.putfield 30, 3)), (44, (.return_, 1))]
def u_X1_init : Fx := (yX1_init, (cX1_init, (1, (none, tb_X1_init))))
theorem tk_X1_init : ∀ q ∈ u_X1_init.2.2.2.2, decode u_X1_init.2.1 q.1 = .ok q.2 := by decide +kernel
theorem mc_X1_init : MC u_X1_init 0 := ⟨tbm 477 (by decide +kernel) rfl, tbm 126 (by decide +kernel) rfl, ⟨by decide, by decide, by decide +kernel⟩, by decide⟩
theorem ini_X1_init : Cond.instanceMethod u_X1_init.1 ∈ TB := tbm 476 (by decide +kernel) rfl
set_option maxRecDepth 20000 in
def f_X1_init (t : List Sh) (m : Mi) (a0 : Nat) : Option (Mm) :=
  lt (si m a0 0 0) fun m1 =>
  lt (si m1 a0 1 0) fun m2 =>
  (if t.length < 1000000 then
  lt (t.length + 1) fun r4 =>
  lt (t ++ [.inr (.int, ix 10)]) fun t5 =>
  lt (zr m2 (t.length + 1)) fun m6 =>
  (if ob t5 a0 1 = true then
  lt (sr m6 a0 2 r4) fun m8 =>
  (if t5.length < 1000000 then
  lt (t5.length + 1) fun r10 =>
  lt (t5 ++ [.inr (.int, ix 250)]) fun t11 =>
  lt (zr m8 (t5.length + 1)) fun m12 =>
  (if ob t11 a0 1 = true then
  lt (sr m12 a0 3 r10) fun m14 =>
  lt (si m14 a0 4 0) fun m15 =>
  (if t11.length < 1000000 then
  lt (t11.length + 1) fun r17 =>
  lt (t11 ++ [.inr (.int, ix 10)]) fun t18 =>
  lt (zr m15 (t11.length + 1)) fun m19 =>
  (if ob t18 a0 1 = true then
  lt (sr m19 a0 5 r17) fun m21 =>
  some (t18, m21)
  else none)
  else none)
  else none)
  else none)
  else none)
  else none)
set_option maxRecDepth 40000 in
set_option maxHeartbeats 4000000 in
theorem sm_X1_init (e2 : Nat × (Nat × (Nat × Nat))) (t : List Sh) (m : Mi) (a0 : Nat) (h0 : sh t a0 = some (.inl 1)) : Sm u_X1_init (1, e2) kA 0 [(0, .inr (.inr a0))] [] (t, m) (f_X1_init t m a0) := by
  unfold f_X1_init
  refine r_aload_n 0 1 0 rfl rfl rfl rfl ?_
  refine r_objI 1 4 rfl rfl lk_RX1_3 (Nat.le_of_ble_eq_true rfl) (Nat.le_of_ble_eq_true rfl) h0 ?_
  refine r_aload_n 2 5 0 rfl rfl rfl rfl ?_
  refine r_iconst 3 6 (v := 0) rfl rfl (by decide) ?_
  refine r_putI 4 9 rfl rfl fl_RX1_11 (fun h => by cases h) (Or.inl rfl) h0 ?_
  refine r_ltM (fun m1 => ?_)
  refine r_aload_n 5 10 0 rfl rfl rfl rfl ?_
  refine r_iconst 6 11 (v := 0) rfl rfl (by decide) ?_
  refine r_putI 7 14 rfl rfl fl_RX1_15 (fun h => by cases h) (Or.inl rfl) h0 ?_
  refine r_ltM (fun m2 => ?_)
  refine r_aload_n 8 15 0 rfl rfl rfl rfl ?_
  refine r_bipush 9 17 (v := 10) rfl rfl (by decide) ?_
  refine r_gd (fun h3 => ?_)
  refine r_newa 10 19 (ty := .int) (q := 0) rfl rfl h3 rfl (by decide) (fun _ => rfl) wd_231 (by decide) (by decide) ?_
  refine r_ltR (fun r4 => ?_)
  refine r_ltT (fun t5 => ?_)
  refine r_ltM (fun m6 => ?_)
  refine r_gd (fun h7 => ?_)
  refine r_putR 11 22 rfl rfl fl_RX1_20 (fun _ => ⟨rfl, rfl⟩) rfl (ob_sh h7) ?_
  refine r_ltM (fun m8 => ?_)
  refine r_aload_n 12 23 0 rfl rfl rfl rfl ?_
  refine r_sipush 13 26 (v := 250) rfl rfl (by decide) ?_
  refine r_gd (fun h9 => ?_)
  refine r_newa 14 28 (ty := .int) (q := 0) rfl rfl h9 rfl (by decide) (fun _ => rfl) wd_231 (by decide) (by decide) ?_
  refine r_ltR (fun r10 => ?_)
  refine r_ltT (fun t11 => ?_)
  refine r_ltM (fun m12 => ?_)
  refine r_gd (fun h13 => ?_)
  refine r_putR 15 31 rfl rfl fl_RX1_24 (fun _ => ⟨rfl, rfl⟩) rfl (ob_sh h13) ?_
  refine r_ltM (fun m14 => ?_)
  refine r_aload_n 16 32 0 rfl rfl rfl rfl ?_
  refine r_iconst 17 33 (v := 0) rfl rfl (by decide) ?_
  refine r_putI 18 36 rfl rfl fl_RX1_27 (fun h => by cases h) (Or.inl rfl) (ob_sh h13) ?_
  refine r_ltM (fun m15 => ?_)
  refine r_aload_n 19 37 0 rfl rfl rfl rfl ?_
  refine r_bipush 20 39 (v := 10) rfl rfl (by decide) ?_
  refine r_gd (fun h16 => ?_)
  refine r_newa 21 41 (ty := .int) (q := 0) rfl rfl h16 rfl (by decide) (fun _ => rfl) wd_231 (by decide) (by decide) ?_
  refine r_ltR (fun r17 => ?_)
  refine r_ltT (fun t18 => ?_)
  refine r_ltM (fun m19 => ?_)
  refine r_gd (fun h20 => ?_)
  refine r_putR 22 44 rfl rfl fl_RX1_30 (fun _ => ⟨rfl, rfl⟩) rfl (ob_sh h20) ?_
  refine r_ltM (fun m21 => ?_)
  exact r_vret 23 rfl rfl rfl
theorem mn_X1_init {t : List Sh} {m : Mi} {a0 : Nat} {q : Mm} (h0 : sh t a0 = some (.inl 1)) (h : f_X1_init t m a0 = some q) : t.length ≤ q.1.length ∧ zs t ≤ zs q.1 := ((sm_X1_init (0, 0, 0, 0) t m a0 h0) (none, q) (by rw [h]; rfl)).1
theorem ct_X1_init {t : List Sh} {m : Mi} {a0 : Nat} {q : Mm} (h0 : sh t a0 = some (.inl 1)) (h : f_X1_init t m a0 = some q) : Ct u_X1_init 1 (q.1.length - t.length) (zs q.1 - zs t) [.inr (.inr a0)] (t, m) (none, q) := by
  have hm := mn_X1_init h0 h
  exact ct_of (by decide) tk_X1_init (Nat.le_of_ble_eq_true rfl) (sm_X1_init (q.1.length - t.length, zs q.1 - zs t, t.length, zs t) t m a0 h0) (by rw [h]; rfl) (by show q.1.length ≤ t.length + (q.1.length - t.length); omega) (by show zs q.1 ≤ zs t + (zs q.1 - zs t); omega)
def tb_X1_isSolved : Tb := [(0, (.aload_n 0, 1)), (1, (.getfield 11, 3)), (4, (.iconst 1, 1)), (5, (.if_icmp .ne 7, 3)), (8, (.iconst 1, 1)), (9, (.goto 4, 3)), (12, (.iconst 0, 1)), (13, (.ireturn, 1))]
def u_X1_isSolved : Fx := (yX1_isSolved, (cX1_isSolved, (1, ((some .boolean), tb_X1_isSolved))))
theorem tk_X1_isSolved : ∀ q ∈ u_X1_isSolved.2.2.2.2, decode u_X1_isSolved.2.1 q.1 = .ok q.2 := by decide +kernel
theorem mc_X1_isSolved : MC u_X1_isSolved 0 := ⟨tbm 1191 (by decide +kernel) rfl, tbm 126 (by decide +kernel) rfl, ⟨by decide, by decide, by decide +kernel⟩, by decide⟩
theorem in_X1_isSolved : Cond.instanceMethod u_X1_isSolved.1 ∈ TB ∧ Cond.selects u_X1_isSolved.1.cls u_X1_isSolved.1 u_X1_isSolved.1 ∈ TB := ⟨tbm 1189 (by decide +kernel) rfl, tbm 1190 (by decide +kernel) rfl⟩
def f_X1_isSolved (t : List Sh) (m : Mi) (a0 : Nat) : Option (Int32) :=
  if (gi m a0 0) = 1 then
    some 1
  else
    some 0
set_option maxRecDepth 4000 in
set_option maxHeartbeats 4000000 in
theorem sm_X1_isSolved (t : List Sh) (m : Mi) (a0 : Nat) (h0 : sh t a0 = some (.inl 1)) : Sm u_X1_isSolved (1, 0, 0, t.length, zs t) (kIo t m) 0 [(0, .inr (.inr a0))] [] (t, m) (f_X1_isSolved t m a0) := by
  unfold f_X1_isSolved
  refine r_aload_n 0 1 0 rfl rfl rfl rfl ?_
  refine r_getI 1 4 rfl rfl fl_RX1_11 rfl h0 ?_
  refine r_iconst 2 5 (v := 1) rfl rfl (by decide) ?_
  refine r_icmp_ne 3 12 8 rfl rfl rfl (fun h1 => ?_) (fun h1 => ?_)
  · refine r_iconst 4 9 (v := 1) rfl rfl (by decide) ?_
    refine r_goto 5 13 rfl rfl ?_
    exact r_zret 7 rfl rfl (by decide) rfl
  · refine r_iconst 6 13 (v := 0) rfl rfl (by decide) ?_
    exact r_zret 7 rfl rfl (by decide) rfl
theorem ct_X1_isSolved {t : List Sh} {m : Mi} {a0 : Nat} {v : Int32}  (h0 : sh t a0 = some (.inl 1)) (h : f_X1_isSolved t m a0 = some v) : Ct u_X1_isSolved 1 0 0 [.inr (.inr a0)] (t, m) (some (.inl v), (t, m)) :=
  ct_of (by decide) tk_X1_isSolved (Nat.le_of_ble_eq_true rfl) (sm_X1_isSolved t m a0 h0) (by rw [h]; rfl) (Nat.le_refl _) (Nat.le_refl _)
def tb_X1_pick : Tb := [(0, (.iload_n 1, 1)), (1, (.ifCond .lt 18, 3)), (4, (.iload_n 1, 1)), (5, (.aload_n 0, 1)), (6, (.getfield 15, 3)), (9, (.if_icmp .ge 10, 3)), (12, (.aload_n 0, 1)), (13, (.getfield 20, 3)), (16, (.iload_n 1, 1)), (17, (.iload_n 2, 1)), (18, (.iastore, 1)), (19, (.return_, 1))]
def u_X1_pick : Fx := (yX1_pick, (cX1_pick, (3, (none, tb_X1_pick))))
theorem tk_X1_pick : ∀ q ∈ u_X1_pick.2.2.2.2, decode u_X1_pick.2.1 q.1 = .ok q.2 := by decide +kernel
theorem mc_X1_pick : MC u_X1_pick 2 := ⟨tbm 1217 (by decide +kernel) rfl, tbm 126 (by decide +kernel) rfl, ⟨by decide, by decide, by decide +kernel⟩, by decide⟩
theorem in_X1_pick : Cond.instanceMethod u_X1_pick.1 ∈ TB ∧ Cond.selects u_X1_pick.1.cls u_X1_pick.1 u_X1_pick.1 ∈ TB := ⟨tbm 1215 (by decide +kernel) rfl, tbm 1216 (by decide +kernel) rfl⟩
def f_X1_pick (t : List Sh) (m : Mi) (a0 : Nat) (a1 : Int32) (a2 : Int32) : Option (Mi) :=
  if a1 < 0 then
    some m
  else
    if (gi m a0 1) ≤ a1 then
      some m
    else
      (if ar t (gr m a0 2) .int a1 = true then
      lt (si m (gr m a0 2) (ix a1) a2) fun m4 =>
      some m4
      else none)
set_option maxRecDepth 4000 in
set_option maxHeartbeats 4000000 in
theorem sm_X1_pick (t : List Sh) (m : Mi) (a0 : Nat) (a1 : Int32) (a2 : Int32) (h0 : sh t a0 = some (.inl 1)) : Sm u_X1_pick (1, 0, 0, t.length, zs t) (kV t) 0 [(0, .inr (.inr a0)), (1, .inl a1), (2, .inl a2)] [] (t, m) (f_X1_pick t m a0 a1 a2) := by
  unfold f_X1_pick
  refine r_iload_n 0 1 1 rfl rfl rfl rfl ?_
  refine r_if_lt 1 19 4 rfl rfl rfl (fun h1 => ?_) (fun h1 => ?_)
  · exact r_vret 11 rfl rfl rfl
  · refine r_iload_n 2 5 1 rfl rfl rfl rfl ?_
    refine r_aload_n 3 6 0 rfl rfl rfl rfl ?_
    refine r_getI 4 9 rfl rfl fl_RX1_15 rfl h0 ?_
    refine r_icmp_ge 5 19 12 rfl rfl rfl (fun h2 => ?_) (fun h2 => ?_)
    · exact r_vret 11 rfl rfl rfl
    · refine r_aload_n 6 13 0 rfl rfl rfl rfl ?_
      refine r_getR 7 16 rfl rfl fl_RX1_20 rfl h0 ?_
      refine r_iload_n 8 17 1 rfl rfl rfl rfl ?_
      refine r_iload_n 9 18 2 rfl rfl rfl rfl ?_
      refine r_gd (fun h3 => ?_)
      refine r_iast 10 19 rfl rfl h3 ?_
      refine r_ltM (fun m4 => ?_)
      exact r_vret 11 rfl rfl rfl
theorem ct_X1_pick {t : List Sh} {m : Mi} {a0 : Nat} {a1 : Int32} {a2 : Int32} {m' : Mi}  (h0 : sh t a0 = some (.inl 1)) (h : f_X1_pick t m a0 a1 a2 = some m') : Ct u_X1_pick 1 0 0 [.inr (.inr a0), .inl a1, .inl a2] (t, m) (none, (t, m')) :=
  ct_of (by decide) tk_X1_pick (Nat.le_of_ble_eq_true rfl) (sm_X1_pick t m a0 a1 a2 h0) (by rw [h]; rfl) (Nat.le_refl _) (Nat.le_refl _)
def tb_X1_picked : Tb := [(0, (.iconst 0, 1)), (1, (.istore_n 1, 1)), (2, (.iconst 0, 1)), (3, (.istore_n 2, 1)), (4, (.iload_n 2, 1)), (5, (.aload_n 0, 1)), (6, (.getfield 15, 3)), (9, (.if_icmp .ge 27, 3)), (12, (.iload_n 1, 1)), (13, (.aload_n 0, 1)), (14, (.getfield 20, 3)), (17, (.iload_n 2, 1)), (18, (.iaload, 1)), (19, (.iconst (-1), 1)), (20, (.if_icmp .ne 7, 3)), (23, (.iconst 0, 1)), (24, (.goto 4, 3)), (27, (.iconst 1, 1)), (28, (.iadd, 1)), (29, (.istore_n 1, 1)), (30, (.iinc 2 1, 3)), (33, (.goto (-29), 3)), (36, (.iload_n 1, 1)), (37, (.ireturn, 1))]
def u_X1_picked : Fx := (yX1_picked, (cX1_picked, (3, ((some .int), tb_X1_picked))))
theorem tk_X1_picked : ∀ q ∈ u_X1_picked.2.2.2.2, decode u_X1_picked.2.1 q.1 = .ok q.2 := by decide +kernel
theorem mc_X1_picked : MC u_X1_picked 0 := ⟨tbm 1292 (by decide +kernel) rfl, tbm 126 (by decide +kernel) rfl, ⟨by decide, by decide, by decide +kernel⟩, by decide⟩
theorem in_X1_picked : Cond.instanceMethod u_X1_picked.1 ∈ TB ∧ Cond.selects u_X1_picked.1.cls u_X1_picked.1 u_X1_picked.1 ∈ TB := ⟨tbm 1290 (by decide +kernel) rfl, tbm 1291 (by decide +kernel) rfl⟩
def f_X1_picked_j36 (t : List Sh) (m : Mi) (a1 : Int32) : Option (Int32) :=
  some a1
def f_X1_picked_l4 (t : List Sh) (m : Mi) (a0 : Nat) (a1 : Int32) (a2 : Int32) : Option ((Int32 × Int32) ⊕ ((Int32))) :=
  if (gi m a0 1) ≤ a2 then
    some (.inr a1)
  else
    (if ar t (gr m a0 2) .int a2 = true then
    if (gi m (gr m a0 2) (ix a2)) = (-1) then
      lt (a1 + 0) fun x4 =>
      lt (a2 + 1) fun x5 =>
      some (.inl (x4, x5))
    else
      lt (a1 + 1) fun x6 =>
      lt (a2 + 1) fun x7 =>
      some (.inl (x6, x7))
    else none)
def f_X1_picked_j4 (t : List Sh) (m : Mi) (a0 : Nat) (a1 : Int32) (a2 : Int32) : Option (Int32) :=
  (lp (fun x : Int32 × Int32 => f_X1_picked_l4 t m a0 x.1 x.2) FUEL (a1, a2)).bind (fun y : Int32 => f_X1_picked_j36 t m y)
def f_X1_picked (t : List Sh) (m : Mi) (a0 : Nat) : Option (Int32) :=
  f_X1_picked_j4 t m a0 0 0
set_option maxRecDepth 4000 in
set_option maxHeartbeats 4000000 in
theorem sm_X1_picked (t : List Sh) (m : Mi) (a0 : Nat) (h0 : sh t a0 = some (.inl 1)) : Sm u_X1_picked (1, 0, 0, t.length, zs t) (kIo t m) 0 [(0, .inr (.inr a0))] [] (t, m) (f_X1_picked t m a0) := by
  unfold f_X1_picked
  refine r_iconst 0 1 (v := 0) rfl rfl (by decide) ?_
  refine r_istore_n 1 2 (L' := [(1, .inl 0), (0, .inr (.inr a0))]) rfl rfl rfl (by decide) rfl ?_
  refine r_iconst 2 3 (v := 0) rfl rfl (by decide) ?_
  refine r_istore_n 3 4 (L' := [(2, .inl 0), (1, .inl 0), (0, .inr (.inr a0))]) rfl rfl rfl (by decide) rfl ?_
  have hj4 : ∀ (a1 : Int32) (a2 : Int32), Sm u_X1_picked (1, 0, 0, t.length, zs t) (kIo t m) 4 [(0, .inr (.inr a0)), (1, .inl a1), (2, .inl a2)] [] (t, m) (f_X1_picked_j4 t m a0 a1 a2) := by
    intro a1 a2
    unfold f_X1_picked_j4
    have hj36 : ∀ (a1 : Int32), Sm u_X1_picked (1, 0, 0, t.length, zs t) (kIo t m) 36 [(1, .inl a1)] [] (t, m) (f_X1_picked_j36 t m a1) := by
      intro a1
      unfold f_X1_picked_j36
      refine r_iload_n 22 37 0 rfl rfl rfl rfl ?_
      exact r_iret 23 rfl rfl rfl
    refine r_lp (Lf := fun x : Int32 × Int32 => [(0, .inr (.inr a0)), (1, .inl (x.1)), (2, .inl (x.2))]) (Mf := fun x : Int32 × Int32 => (t, m)) (a1, a2) ?_ FUEL
    rintro ⟨a1, a2⟩ κ4 hc4 he4
    refine r_eq (L' := [(0, .inr (.inr a0)), (1, .inl a1), (2, .inl a2)]) (M' := (t, m)) rfl rfl ?_
    refine r_eqr (r' := f_X1_picked_l4 t m a0 a1 a2) rfl ?_
    unfold f_X1_picked_l4
    refine r_iload_n 4 5 2 rfl rfl rfl rfl ?_
    refine r_aload_n 5 6 0 rfl rfl rfl rfl ?_
    refine r_getI 6 9 rfl rfl fl_RX1_15 rfl h0 ?_
    refine r_icmp_ge 7 36 12 rfl rfl rfl (fun h1 => ?_) (fun h1 => ?_)
    · refine r_leaf (r2 := (f_X1_picked_j36 t m a1 : Option (Int32))) (he4 _) ?_
      exact r_sub [1] rfl (hj36 a1)
    · refine r_iload_n 8 13 1 rfl rfl rfl rfl ?_
      refine r_aload_n 9 14 0 rfl rfl rfl rfl ?_
      refine r_getR 10 17 rfl rfl fl_RX1_20 rfl h0 ?_
      refine r_iload_n 11 18 2 rfl rfl rfl rfl ?_
      refine r_gd (fun h2 => ?_)
      refine r_iald 12 19 rfl rfl h2 ?_
      refine r_iconst 13 20 (v := (-1)) rfl rfl (by decide) ?_
      refine r_icmp_ne 14 27 23 rfl rfl rfl (fun h3 => ?_) (fun h3 => ?_)
      · refine r_iconst 15 24 (v := 0) rfl rfl (by decide) ?_
        refine r_goto 16 28 rfl rfl ?_
        refine r_iadd 18 29 rfl rfl ?_
        refine r_ltI (fun x4 => ?_)
        refine r_istore_n 19 30 (L' := [(1, .inl x4), (0, .inr (.inr a0)), (2, .inl a2)]) rfl rfl rfl (by decide) rfl ?_
        refine r_iinc 20 33 2 (L' := [(2, .inl (a2 + 1)), (1, .inl x4), (0, .inr (.inr a0))]) rfl rfl rfl (by decide) rfl ?_
        refine r_ltV (fun x5 => ?_)
        refine r_goto 21 4 rfl rfl ?_
        exact r_sub [2, 1, 0] rfl (hc4 (x4, x5))
      · refine r_iconst 17 28 (v := 1) rfl rfl (by decide) ?_
        refine r_iadd 18 29 rfl rfl ?_
        refine r_ltI (fun x6 => ?_)
        refine r_istore_n 19 30 (L' := [(1, .inl x6), (0, .inr (.inr a0)), (2, .inl a2)]) rfl rfl rfl (by decide) rfl ?_
        refine r_iinc 20 33 2 (L' := [(2, .inl (a2 + 1)), (1, .inl x6), (0, .inr (.inr a0))]) rfl rfl rfl (by decide) rfl ?_
        refine r_ltV (fun x7 => ?_)
        refine r_goto 21 4 rfl rfl ?_
        exact r_sub [2, 1, 0] rfl (hc4 (x6, x7))
  exact r_sub [2, 1, 0] rfl (hj4 0 0)
theorem ct_X1_picked {t : List Sh} {m : Mi} {a0 : Nat} {v : Int32}  (h0 : sh t a0 = some (.inl 1)) (h : f_X1_picked t m a0 = some v) : Ct u_X1_picked 1 0 0 [.inr (.inr a0)] (t, m) (some (.inl v), (t, m)) :=
  ct_of (by decide) tk_X1_picked (Nat.le_of_ble_eq_true rfl) (sm_X1_picked t m a0 h0) (by rw [h]; rfl) (Nat.le_refl _) (Nat.le_refl _)
theorem fl_RX1_88 : FL RX1 88 0 4 false := ⟨RX0, TX0, 8, rfl, inW0, tyX0_ok, nmX0, by decide, rfl, rfl, rfl, tbm 368 (by decide +kernel) rfl⟩
def tb_X1_reaches : Tb := [(0, (.aload_n 1, 1)), (1, (.ifnull 35, 3)), (4, (.aload_n 1, 1)), (5, (.getfield 88, 3)), (8, (.ifCond .lt 28, 3)), (11, (.aload_n 1, 1)), (12, (.getfield 88, 3)), (15, (.aload_n 0, 1)), (16, (.getfield 30, 3)), (19, (.arraylength, 1)), (20, (.if_icmp .ge 16, 3)), (23, (.aload_n 0, 1)), (24, (.getfield 30, 3)), (27, (.aload_n 1, 1)), (28, (.getfield 88, 3)), (31, (.iaload, 1)), (32, (.iconst (-1), 1)), (33, (.if_icmp .eq 5, 3)), (36, (.iconst 0, 1)), (37, (.ireturn, 1)), (38, (.aload_n 0, 1)), (39, (.getfield 30, 3)), (42, (.aload_n 1, 1)), (43, (.getfield 88, 3)), (46, (.iload_n 2, 1)), (47, (.iastore, 1)), (48, (.iconst 1, 1)), (49, (.ireturn, 1))]
def u_X1_reaches : Fx := (yX1_reaches, (cX1_reaches, (3, ((some .boolean), tb_X1_reaches))))
theorem tk_X1_reaches : ∀ q ∈ u_X1_reaches.2.2.2.2, decode u_X1_reaches.2.1 q.1 = .ok q.2 := by decide +kernel
theorem mc_X1_reaches : MC u_X1_reaches 2 := ⟨tbm 1273 (by decide +kernel) rfl, tbm 126 (by decide +kernel) rfl, ⟨by decide, by decide, by decide +kernel⟩, by decide⟩
theorem in_X1_reaches : Cond.instanceMethod u_X1_reaches.1 ∈ TB ∧ Cond.selects u_X1_reaches.1.cls u_X1_reaches.1 u_X1_reaches.1 ∈ TB := ⟨tbm 1272 (by decide +kernel) rfl, tbm 62 (by decide +kernel) rfl⟩
def f_X1_reaches (t : List Sh) (m : Mi) (a0 : Nat) (a1 : Nat) (a2 : Int32) : Option (Int32 × Mi) :=
  if a1 = 0 then
    some (0, m)
  else
    (if ob t a1 0 = true then
    if (gi m a1 4) < 0 then
      some (0, m)
    else
      (if aa t (gr m a0 5) .int = true then
      if (Int32.ofNat (ln t (gr m a0 5))) ≤ (gi m a1 4) then
        some (0, m)
      else
        (if ar t (gr m a0 5) .int (gi m a1 4) = true then
        if (gi m (gr m a0 5) (ix (gi m a1 4))) = (-1) then
          lt (si m (gr m a0 5) (ix (gi m a1 4)) a2) fun m8 =>
          some (1, m8)
        else
          some (0, m)
        else none)
      else none)
    else none)
set_option maxRecDepth 4000 in
set_option maxHeartbeats 4000000 in
theorem sm_X1_reaches (t : List Sh) (m : Mi) (a0 : Nat) (a1 : Nat) (a2 : Int32) (h0 : sh t a0 = some (.inl 1)) : Sm u_X1_reaches (1, 0, 0, t.length, zs t) (kI t) 0 [(0, .inr (.inr a0)), (1, .inr (.inr a1)), (2, .inl a2)] [] (t, m) (f_X1_reaches t m a0 a1 a2) := by
  unfold f_X1_reaches
  refine r_aload_n 0 1 1 rfl rfl rfl rfl ?_
  refine r_ifnull 1 36 4 rfl rfl rfl (fun h1 => ?_) (fun h1 => ?_)
  · refine r_iconst 18 37 (v := 0) rfl rfl (by decide) ?_
    exact r_zret 19 rfl rfl (by decide) rfl
  · refine r_aload_n 2 5 1 rfl rfl rfl rfl ?_
    refine r_gd (fun h2 => ?_)
    refine r_getI 3 8 rfl rfl fl_RX1_88 rfl (ob_sh h2) ?_
    refine r_if_lt 4 36 11 rfl rfl rfl (fun h3 => ?_) (fun h3 => ?_)
    · refine r_iconst 18 37 (v := 0) rfl rfl (by decide) ?_
      exact r_zret 19 rfl rfl (by decide) rfl
    · refine r_aload_n 5 12 1 rfl rfl rfl rfl ?_
      refine r_getI 6 15 rfl rfl fl_RX1_88 rfl (ob_sh h2) ?_
      refine r_aload_n 7 16 0 rfl rfl rfl rfl ?_
      refine r_getR 8 19 rfl rfl fl_RX1_30 rfl h0 ?_
      refine r_gd (fun h4 => ?_)
      refine r_alen 9 20 0 rfl rfl (fun _ => rfl) h4 ?_
      refine r_icmp_ge 10 36 23 rfl rfl rfl (fun h5 => ?_) (fun h5 => ?_)
      · refine r_iconst 18 37 (v := 0) rfl rfl (by decide) ?_
        exact r_zret 19 rfl rfl (by decide) rfl
      · refine r_aload_n 11 24 0 rfl rfl rfl rfl ?_
        refine r_getR 12 27 rfl rfl fl_RX1_30 rfl h0 ?_
        refine r_aload_n 13 28 1 rfl rfl rfl rfl ?_
        refine r_getI 14 31 rfl rfl fl_RX1_88 rfl (ob_sh h2) ?_
        refine r_gd (fun h6 => ?_)
        refine r_iald 15 32 rfl rfl h6 ?_
        refine r_iconst 16 33 (v := (-1)) rfl rfl (by decide) ?_
        refine r_icmp_eq 17 38 36 rfl rfl rfl (fun h7 => ?_) (fun h7 => ?_)
        · refine r_aload_n 20 39 0 rfl rfl rfl rfl ?_
          refine r_getR 21 42 rfl rfl fl_RX1_30 rfl h0 ?_
          refine r_aload_n 22 43 1 rfl rfl rfl rfl ?_
          refine r_getI 23 46 rfl rfl fl_RX1_88 rfl (ob_sh h2) ?_
          refine r_iload_n 24 47 2 rfl rfl rfl rfl ?_
          refine r_iast 25 48 rfl rfl h6 ?_
          refine r_ltM (fun m8 => ?_)
          refine r_iconst 26 49 (v := 1) rfl rfl (by decide) ?_
          exact r_zret 27 rfl rfl (by decide) rfl
        · refine r_iconst 18 37 (v := 0) rfl rfl (by decide) ?_
          exact r_zret 19 rfl rfl (by decide) rfl
theorem ct_X1_reaches {t : List Sh} {m : Mi} {a0 : Nat} {a1 : Nat} {a2 : Int32} {m' : Mi} {v : Int32}  (h0 : sh t a0 = some (.inl 1)) (h : f_X1_reaches t m a0 a1 a2 = some (v, m')) : Ct u_X1_reaches 1 0 0 [.inr (.inr a0), .inr (.inr a1), .inl a2] (t, m) (some (.inl v), (t, m')) :=
  ct_of (by decide) tk_X1_reaches (Nat.le_of_ble_eq_true rfl) (sm_X1_reaches t m a0 a1 a2 h0) (by rw [h]; rfl) (Nat.le_refl _) (Nat.le_refl _)
def tb_X1_releaseOf : Tb := [(0, (.iload_n 1, 1)), (1, (.ifCond .lt 20, 3)), (4, (.iload_n 1, 1)), (5, (.aload_n 0, 1)), (6, (.getfield 15, 3)), (9, (.if_icmp .ge 12, 3)), (12, (.aload_n 0, 1)), (13, (.getfield 20, 3)), (16, (.iload_n 1, 1)), (17, (.iaload, 1)), (18, (.goto 4, 3)), (21, (.iconst (-1), 1)), (22, (.ireturn, 1))]
def u_X1_releaseOf : Fx := (yX1_releaseOf, (cX1_releaseOf, (2, ((some .int), tb_X1_releaseOf))))
theorem tk_X1_releaseOf : ∀ q ∈ u_X1_releaseOf.2.2.2.2, decode u_X1_releaseOf.2.1 q.1 = .ok q.2 := by decide +kernel
theorem mc_X1_releaseOf : MC u_X1_releaseOf 1 := ⟨tbm 1195 (by decide +kernel) rfl, tbm 126 (by decide +kernel) rfl, ⟨by decide, by decide, by decide +kernel⟩, by decide⟩
theorem in_X1_releaseOf : Cond.instanceMethod u_X1_releaseOf.1 ∈ TB ∧ Cond.selects u_X1_releaseOf.1.cls u_X1_releaseOf.1 u_X1_releaseOf.1 ∈ TB := ⟨tbm 1193 (by decide +kernel) rfl, tbm 1194 (by decide +kernel) rfl⟩
def f_X1_releaseOf (t : List Sh) (m : Mi) (a0 : Nat) (a1 : Int32) : Option (Int32) :=
  if a1 < 0 then
    some (-1)
  else
    if (gi m a0 1) ≤ a1 then
      some (-1)
    else
      (if ar t (gr m a0 2) .int a1 = true then
      some (gi m (gr m a0 2) (ix a1))
      else none)
set_option maxRecDepth 4000 in
set_option maxHeartbeats 4000000 in
theorem sm_X1_releaseOf (t : List Sh) (m : Mi) (a0 : Nat) (a1 : Int32) (h0 : sh t a0 = some (.inl 1)) : Sm u_X1_releaseOf (1, 0, 0, t.length, zs t) (kIo t m) 0 [(0, .inr (.inr a0)), (1, .inl a1)] [] (t, m) (f_X1_releaseOf t m a0 a1) := by
  unfold f_X1_releaseOf
  refine r_iload_n 0 1 1 rfl rfl rfl rfl ?_
  refine r_if_lt 1 21 4 rfl rfl rfl (fun h1 => ?_) (fun h1 => ?_)
  · refine r_iconst 11 22 (v := (-1)) rfl rfl (by decide) ?_
    exact r_iret 12 rfl rfl rfl
  · refine r_iload_n 2 5 1 rfl rfl rfl rfl ?_
    refine r_aload_n 3 6 0 rfl rfl rfl rfl ?_
    refine r_getI 4 9 rfl rfl fl_RX1_15 rfl h0 ?_
    refine r_icmp_ge 5 21 12 rfl rfl rfl (fun h2 => ?_) (fun h2 => ?_)
    · refine r_iconst 11 22 (v := (-1)) rfl rfl (by decide) ?_
      exact r_iret 12 rfl rfl rfl
    · refine r_aload_n 6 13 0 rfl rfl rfl rfl ?_
      refine r_getR 7 16 rfl rfl fl_RX1_20 rfl h0 ?_
      refine r_iload_n 8 17 1 rfl rfl rfl rfl ?_
      refine r_gd (fun h3 => ?_)
      refine r_iald 9 18 rfl rfl h3 ?_
      refine r_goto 10 22 rfl rfl ?_
      exact r_iret 12 rfl rfl rfl
theorem ct_X1_releaseOf {t : List Sh} {m : Mi} {a0 : Nat} {a1 : Int32} {v : Int32}  (h0 : sh t a0 = some (.inl 1)) (h : f_X1_releaseOf t m a0 a1 = some v) : Ct u_X1_releaseOf 1 0 0 [.inr (.inr a0), .inl a1] (t, m) (some (.inl v), (t, m)) :=
  ct_of (by decide) tk_X1_releaseOf (Nat.le_of_ble_eq_true rfl) (sm_X1_releaseOf t m a0 a1 h0) (by rw [h]; rfl) (Nat.le_refl _) (Nat.le_refl _)
def tb_X1_startReason : Tb := [(0, (.aload_n 0, 1)), (1, (.iconst 2, 1)), (2, (.putfield 11, 3)), (5, (.aload_n 0, 1)), (6, (.iconst 0, 1)), (7, (.putfield 15, 3)), (10, (.aload_n 0, 1)), (11, (.iconst 0, 1)), (12, (.putfield 27, 3)), (15, (.return_, 1))]
def u_X1_startReason : Fx := (yX1_startReason, (cX1_startReason, (1, (none, tb_X1_startReason))))
theorem tk_X1_startReason : ∀ q ∈ u_X1_startReason.2.2.2.2, decode u_X1_startReason.2.1 q.1 = .ok q.2 := by decide +kernel
theorem mc_X1_startReason : MC u_X1_startReason 0 := ⟨tbm 1230 (by decide +kernel) rfl, tbm 126 (by decide +kernel) rfl, ⟨by decide, by decide, by decide +kernel⟩, by decide⟩
theorem in_X1_startReason : Cond.instanceMethod u_X1_startReason.1 ∈ TB ∧ Cond.selects u_X1_startReason.1.cls u_X1_startReason.1 u_X1_startReason.1 ∈ TB := ⟨tbm 1228 (by decide +kernel) rfl, tbm 1229 (by decide +kernel) rfl⟩
def f_X1_startReason (t : List Sh) (m : Mi) (a0 : Nat) : Option (Mi) :=
  lt (si m a0 0 2) fun m1 =>
  lt (si m1 a0 1 0) fun m2 =>
  lt (si m2 a0 4 0) fun m3 =>
  some m3
set_option maxRecDepth 4000 in
set_option maxHeartbeats 4000000 in
theorem sm_X1_startReason (t : List Sh) (m : Mi) (a0 : Nat) (h0 : sh t a0 = some (.inl 1)) : Sm u_X1_startReason (1, 0, 0, t.length, zs t) (kV t) 0 [(0, .inr (.inr a0))] [] (t, m) (f_X1_startReason t m a0) := by
  unfold f_X1_startReason
  refine r_aload_n 0 1 0 rfl rfl rfl rfl ?_
  refine r_iconst 1 2 (v := 2) rfl rfl (by decide) ?_
  refine r_putI 2 5 rfl rfl fl_RX1_11 (fun h => by cases h) (Or.inl rfl) h0 ?_
  refine r_ltM (fun m1 => ?_)
  refine r_aload_n 3 6 0 rfl rfl rfl rfl ?_
  refine r_iconst 4 7 (v := 0) rfl rfl (by decide) ?_
  refine r_putI 5 10 rfl rfl fl_RX1_15 (fun h => by cases h) (Or.inl rfl) h0 ?_
  refine r_ltM (fun m2 => ?_)
  refine r_aload_n 6 11 0 rfl rfl rfl rfl ?_
  refine r_iconst 7 12 (v := 0) rfl rfl (by decide) ?_
  refine r_putI 8 15 rfl rfl fl_RX1_27 (fun h => by cases h) (Or.inl rfl) h0 ?_
  refine r_ltM (fun m3 => ?_)
  exact r_vret 9 rfl rfl rfl
theorem ct_X1_startReason {t : List Sh} {m : Mi} {a0 : Nat} {m' : Mi}  (h0 : sh t a0 = some (.inl 1)) (h : f_X1_startReason t m a0 = some m') : Ct u_X1_startReason 1 0 0 [.inr (.inr a0)] (t, m) (none, (t, m')) :=
  ct_of (by decide) tk_X1_startReason (Nat.le_of_ble_eq_true rfl) (sm_X1_startReason t m a0 h0) (by rw [h]; rfl) (Nat.le_refl _) (Nat.le_refl _)
def tb_X1_targetIs : Tb := [(0, (.aload_n 0, 1)), (1, (.ifnull 15, 3)), (4, (.aload_n 0, 1)), (5, (.getfield 88, 3)), (8, (.iload_n 1, 1)), (9, (.if_icmp .ne 7, 3)), (12, (.iconst 1, 1)), (13, (.goto 4, 3)), (16, (.iconst 0, 1)), (17, (.ireturn, 1))]
def u_X1_targetIs : Fx := (yX1_targetIs, (cX1_targetIs, (2, ((some .boolean), tb_X1_targetIs))))
theorem tk_X1_targetIs : ∀ q ∈ u_X1_targetIs.2.2.2.2, decode u_X1_targetIs.2.1 q.1 = .ok q.2 := by decide +kernel
theorem mc_X1_targetIs : MC u_X1_targetIs 2 := ⟨tbm 1276 (by decide +kernel) rfl, tbm 126 (by decide +kernel) rfl, ⟨by decide, by decide, by decide +kernel⟩, by decide⟩
theorem st_X1_targetIs : Cond.static u_X1_targetIs.1 ∈ TB := tbm 1275 (by decide +kernel) rfl
def f_X1_targetIs (t : List Sh) (m : Mi) (a0 : Nat) (a1 : Int32) : Option (Int32) :=
  if a0 = 0 then
    some 0
  else
    (if ob t a0 0 = true then
    if (gi m a0 4) = a1 then
      some 1
    else
      some 0
    else none)
set_option maxRecDepth 4000 in
set_option maxHeartbeats 4000000 in
theorem sm_X1_targetIs (t : List Sh) (m : Mi) (a0 : Nat) (a1 : Int32) : Sm u_X1_targetIs (1, 0, 0, t.length, zs t) (kIo t m) 0 [(0, .inr (.inr a0)), (1, .inl a1)] [] (t, m) (f_X1_targetIs t m a0 a1) := by
  unfold f_X1_targetIs
  refine r_aload_n 0 1 0 rfl rfl rfl rfl ?_
  refine r_ifnull 1 16 4 rfl rfl rfl (fun h1 => ?_) (fun h1 => ?_)
  · refine r_iconst 8 17 (v := 0) rfl rfl (by decide) ?_
    exact r_zret 9 rfl rfl (by decide) rfl
  · refine r_aload_n 2 5 0 rfl rfl rfl rfl ?_
    refine r_gd (fun h2 => ?_)
    refine r_getI 3 8 rfl rfl fl_RX1_88 rfl (ob_sh h2) ?_
    refine r_iload_n 4 9 1 rfl rfl rfl rfl ?_
    refine r_icmp_ne 5 16 12 rfl rfl rfl (fun h3 => ?_) (fun h3 => ?_)
    · refine r_iconst 6 13 (v := 1) rfl rfl (by decide) ?_
      refine r_goto 7 17 rfl rfl ?_
      exact r_zret 9 rfl rfl (by decide) rfl
    · refine r_iconst 8 17 (v := 0) rfl rfl (by decide) ?_
      exact r_zret 9 rfl rfl (by decide) rfl
theorem ct_X1_targetIs {t : List Sh} {m : Mi} {a0 : Nat} {a1 : Int32} {v : Int32}  (h : f_X1_targetIs t m a0 a1 = some v) : Ct u_X1_targetIs 1 0 0 [.inr (.inr a0), .inl a1] (t, m) (some (.inl v), (t, m)) :=
  ct_of (by decide) tk_X1_targetIs (Nat.le_of_ble_eq_true rfl) (sm_X1_targetIs t m a0 a1) (by rw [h]; rfl) (Nat.le_refl _) (Nat.le_refl _)
theorem fl_RX1_67 : FL RX1 67 0 0 false := ⟨RX0, TX0, 8, rfl, inW0, tyX0_ok, nmX0, by decide, rfl, rfl, rfl, tbm 353 (by decide +kernel) rfl⟩
theorem fl_RX1_72 : FL RX1 72 0 1 false := ⟨RX0, TX0, 8, rfl, inW0, tyX0_ok, nmX0, by decide, rfl, rfl, rfl, tbm 358 (by decide +kernel) rfl⟩
theorem lk_RX1_75 : Cond.methodLink RX1 75 yX6_releaseAt ∈ TB := tbm 1281 (by decide +kernel) rfl
theorem fl_RX1_79 : FL RX1 79 7 1 false := ⟨RX7, TX7, 6, rfl, inW7, tyX7_ok, nmX7, by decide, rfl, rfl, rfl, tbm 316 (by decide +kernel) rfl⟩
theorem lk_RX1_84 : Cond.methodLink RX1 84 yX1_releaseOf ∈ TB := tbm 1282 (by decide +kernel) rfl
def tb_X1_isTaken : Tb := [(0, (.aload_n 2, 1)), (1, (.ifnull 11, 3)), (4, (.aload_n 2, 1)), (5, (.getfield 67, 3)), (8, (.iconst 5, 1)), (9, (.if_icmp .eq 5, 3)), (12, (.iconst 0, 1)), (13, (.ireturn, 1)), (14, (.aload_n 1, 1)), (15, (.aload_n 2, 1)), (16, (.getfield 72, 3)), (19, (.invokevirtual 75, 3)), (22, (.astore 4, 2)), (24, (.aload 4, 2)), (26, (.ifnull 50, 3)), (29, (.aload_n 0, 1)), (30, (.aload 4, 2)), (32, (.getfield 79, 3)), (35, (.invokevirtual 84, 3)), (38, (.aload_n 2, 1)), (39, (.getfield 72, 3)), (42, (.if_icmp .ne 34, 3)), (45, (.aload 4, 2)), (47, (.getfield 79, 3)), (50, (.aload_n 0, 1)), (51, (.getfield 30, 3)), (54, (.arraylength, 1)), (55, (.if_icmp .ge 21, 3)), (58, (.aload_n 0, 1)), (59, (.getfield 30, 3)), (62, (.aload 4, 2)), (64, (.getfield 79, 3)), (67, (.iaload, 1)), (68, (.iload_n 3, 1)), (69, (.if_icmp .ne 7, 3)), (72, (.iconst 1, 1)), (73, (.goto 4, 3)), (76, (.iconst 0, 1)), (77, (.ireturn, 1))]
def u_X1_isTaken : Fx := (yX1_isTaken, (cX1_isTaken, (5, ((some .boolean), tb_X1_isTaken))))
theorem tk_X1_isTaken : ∀ q ∈ u_X1_isTaken.2.2.2.2, decode u_X1_isTaken.2.1 q.1 = .ok q.2 := by decide +kernel
theorem mc_X1_isTaken : MC u_X1_isTaken 3 := ⟨tbm 1280 (by decide +kernel) rfl, tbm 126 (by decide +kernel) rfl, ⟨by decide, by decide, by decide +kernel⟩, by decide⟩
theorem in_X1_isTaken : Cond.instanceMethod u_X1_isTaken.1 ∈ TB ∧ Cond.selects u_X1_isTaken.1.cls u_X1_isTaken.1 u_X1_isTaken.1 ∈ TB := ⟨tbm 1279 (by decide +kernel) rfl, tbm 63 (by decide +kernel) rfl⟩
def f_X1_isTaken (t : List Sh) (m : Mi) (a0 : Nat) (a1 : Nat) (a2 : Nat) (a3 : Int32) : Option (Int32) :=
  if a2 = 0 then
    some 0
  else
    (if ob t a2 0 = true then
    if (gi m a2 0) = 5 then
      (if ob t a1 6 = true then
      (f_X6_releaseAt t m a1 (gi m a2 1)).bind fun x5 =>
      if x5 = 0 then
        some 0
      else
        (if ob t x5 7 = true then
        (f_X1_releaseOf t m a0 (gi m x5 1)).bind fun x8 =>
        if x8 = (gi m a2 1) then
          (if aa t (gr m a0 5) .int = true then
          if (Int32.ofNat (ln t (gr m a0 5))) ≤ (gi m x5 1) then
            some 0
          else
            (if ar t (gr m a0 5) .int (gi m x5 1) = true then
            if (gi m (gr m a0 5) (ix (gi m x5 1))) = a3 then
              some 1
            else
              some 0
            else none)
          else none)
        else
          some 0
        else none)
      else none)
    else
      some 0
    else none)
set_option maxRecDepth 4000 in
set_option maxHeartbeats 4000000 in
theorem sm_X1_isTaken (t : List Sh) (m : Mi) (a0 : Nat) (a1 : Nat) (a2 : Nat) (a3 : Int32) (h0 : sh t a0 = some (.inl 1)) : Sm u_X1_isTaken (2, 0, 0, t.length, zs t) (kIo t m) 0 [(0, .inr (.inr a0)), (1, .inr (.inr a1)), (2, .inr (.inr a2)), (3, .inl a3)] [] (t, m) (f_X1_isTaken t m a0 a1 a2 a3) := by
  unfold f_X1_isTaken
  refine r_aload_n 0 1 2 rfl rfl rfl rfl ?_
  refine r_ifnull 1 12 4 rfl rfl rfl (fun h1 => ?_) (fun h1 => ?_)
  · refine r_iconst 6 13 (v := 0) rfl rfl (by decide) ?_
    exact r_zret 7 rfl rfl (by decide) rfl
  · refine r_aload_n 2 5 2 rfl rfl rfl rfl ?_
    refine r_gd (fun h2 => ?_)
    refine r_getI 3 8 rfl rfl fl_RX1_67 rfl (ob_sh h2) ?_
    refine r_iconst 4 9 (v := 5) rfl rfl (by decide) ?_
    refine r_icmp_eq 5 14 12 rfl rfl rfl (fun h3 => ?_) (fun h3 => ?_)
    · refine r_aload_n 8 15 1 rfl rfl rfl rfl ?_
      refine r_aload_n 9 16 2 rfl rfl rfl rfl ?_
      refine r_getI 10 19 rfl rfl fl_RX1_72 rfl (ob_sh h2) ?_
      refine r_gd (fun h4 => ?_)
      refine r_VRo 11 22 (st := []) (av := [.inr (.inr a1), .inl (gi m a2 1)]) (av' := [.inl (gi m a2 1)]) (μ' := u_X6_releaseAt) (d := 1) rfl rfl mc_X6_releaseAt in_X6_releaseAt lk_RX1_75 (Nat.le_of_ble_eq_true rfl) rfl rfl (ob_sh h4) rfl (Nat.le_of_ble_eq_true rfl) (fun _ h => ct_X6_releaseAt (ob_sh h4) h) (fun x5 => ?_)
      refine r_astore 12 24 (L' := [(4, .inr (.inr x5)), (0, .inr (.inr a0)), (1, .inr (.inr a1)), (2, .inr (.inr a2)), (3, .inl a3)]) rfl rfl (by decide) rfl ?_
      refine r_aload 13 26 0 rfl rfl rfl ?_
      refine r_ifnull 14 76 29 rfl rfl rfl (fun h6 => ?_) (fun h6 => ?_)
      · refine r_iconst 37 77 (v := 0) rfl rfl (by decide) ?_
        exact r_zret 38 rfl rfl (by decide) rfl
      · refine r_aload_n 15 30 1 rfl rfl rfl rfl ?_
        refine r_aload 16 32 0 rfl rfl rfl ?_
        refine r_gd (fun h7 => ?_)
        refine r_getI 17 35 rfl rfl fl_RX1_79 rfl (ob_sh h7) ?_
        refine r_VIo 18 38 (st := []) (av := [.inr (.inr a0), .inl (gi m x5 1)]) (av' := [.inl (gi m x5 1)]) (μ' := u_X1_releaseOf) (d := 1) rfl rfl mc_X1_releaseOf in_X1_releaseOf lk_RX1_84 (Nat.le_of_ble_eq_true rfl) rfl rfl h0 rfl (Nat.le_of_ble_eq_true rfl) (fun _ h => ct_X1_releaseOf h0 h) (fun x8 => ?_)
        refine r_aload_n 19 39 3 rfl rfl rfl rfl ?_
        refine r_getI 20 42 rfl rfl fl_RX1_72 rfl (ob_sh h2) ?_
        refine r_icmp_ne 21 76 45 rfl rfl rfl (fun h9 => ?_) (fun h9 => ?_)
        · refine r_aload 22 47 0 rfl rfl rfl ?_
          refine r_getI 23 50 rfl rfl fl_RX1_79 rfl (ob_sh h7) ?_
          refine r_aload_n 24 51 1 rfl rfl rfl rfl ?_
          refine r_getR 25 54 rfl rfl fl_RX1_30 rfl h0 ?_
          refine r_gd (fun h10 => ?_)
          refine r_alen 26 55 0 rfl rfl (fun _ => rfl) h10 ?_
          refine r_icmp_ge 27 76 58 rfl rfl rfl (fun h11 => ?_) (fun h11 => ?_)
          · refine r_iconst 37 77 (v := 0) rfl rfl (by decide) ?_
            exact r_zret 38 rfl rfl (by decide) rfl
          · refine r_aload_n 28 59 1 rfl rfl rfl rfl ?_
            refine r_getR 29 62 rfl rfl fl_RX1_30 rfl h0 ?_
            refine r_aload 30 64 0 rfl rfl rfl ?_
            refine r_getI 31 67 rfl rfl fl_RX1_79 rfl (ob_sh h7) ?_
            refine r_gd (fun h12 => ?_)
            refine r_iald 32 68 rfl rfl h12 ?_
            refine r_iload_n 33 69 4 rfl rfl rfl rfl ?_
            refine r_icmp_ne 34 76 72 rfl rfl rfl (fun h13 => ?_) (fun h13 => ?_)
            · refine r_iconst 35 73 (v := 1) rfl rfl (by decide) ?_
              refine r_goto 36 77 rfl rfl ?_
              exact r_zret 38 rfl rfl (by decide) rfl
            · refine r_iconst 37 77 (v := 0) rfl rfl (by decide) ?_
              exact r_zret 38 rfl rfl (by decide) rfl
        · refine r_iconst 37 77 (v := 0) rfl rfl (by decide) ?_
          exact r_zret 38 rfl rfl (by decide) rfl
    · refine r_iconst 6 13 (v := 0) rfl rfl (by decide) ?_
      exact r_zret 7 rfl rfl (by decide) rfl
theorem ct_X1_isTaken {t : List Sh} {m : Mi} {a0 : Nat} {a1 : Nat} {a2 : Nat} {a3 : Int32} {v : Int32}  (h0 : sh t a0 = some (.inl 1)) (h : f_X1_isTaken t m a0 a1 a2 a3 = some v) : Ct u_X1_isTaken 2 0 0 [.inr (.inr a0), .inr (.inr a1), .inr (.inr a2), .inl a3] (t, m) (some (.inl v), (t, m)) :=
  ct_of (by decide) tk_X1_isTaken (Nat.le_of_ble_eq_true rfl) (sm_X1_isTaken t m a0 a1 a2 a3 h0) (by rw [h]; rfl) (Nat.le_refl _) (Nat.le_refl _)
theorem lk_RX1_33 : Cond.methodLink RX1 33 Lib.Math.min.name ∈ TB := tbm 1212 (by decide +kernel) rfl
theorem lk_RX1_39 : Cond.methodLink RX1 39 yJ7_fill_53178 ∈ TB := tbm 1213 (by decide +kernel) rfl
def tb_X1_startSolution : Tb := [(0, (.aload_n 0, 1)), (1, (.iconst 1, 1)), (2, (.putfield 11, 3)), (5, (.aload_n 0, 1)), (6, (.iload_n 1, 1)), (7, (.aload_n 0, 1)), (8, (.getfield 20, 3)), (11, (.arraylength, 1)), (12, (.invokestatic 33, 3)), (15, (.putfield 15, 3)), (18, (.aload_n 0, 1)), (19, (.iconst 0, 1)), (20, (.putfield 27, 3)), (23, (.aload_n 0, 1)), (24, (.getfield 20, 3)), (27, (.iconst (-1), 1)), (28, (.invokestatic 39, 3)), (31, (.return_, 1))]
def u_X1_startSolution : Fx := (yX1_startSolution, (cX1_startSolution, (2, (none, tb_X1_startSolution))))
theorem tk_X1_startSolution : ∀ q ∈ u_X1_startSolution.2.2.2.2, decode u_X1_startSolution.2.1 q.1 = .ok q.2 := by decide +kernel
theorem mc_X1_startSolution : MC u_X1_startSolution 1 := ⟨tbm 1211 (by decide +kernel) rfl, tbm 126 (by decide +kernel) rfl, ⟨by decide, by decide, by decide +kernel⟩, by decide⟩
theorem in_X1_startSolution : Cond.instanceMethod u_X1_startSolution.1 ∈ TB ∧ Cond.selects u_X1_startSolution.1.cls u_X1_startSolution.1 u_X1_startSolution.1 ∈ TB := ⟨tbm 1209 (by decide +kernel) rfl, tbm 1210 (by decide +kernel) rfl⟩
def f_X1_startSolution (t : List Sh) (m : Mi) (a0 : Nat) (a1 : Int32) : Option (Mi) :=
  lt (si m a0 0 1) fun m1 =>
  (if aa t (gr m1 a0 2) .int = true then
  lt (si m1 a0 1 (if (Int32.ofNat (ln t (gr m1 a0 2))) < a1 then (Int32.ofNat (ln t (gr m1 a0 2))) else a1)) fun m3 =>
  lt (si m3 a0 4 0) fun m4 =>
  (f_J7_fill_53178 t m4 (gr m4 a0 2) (-1)).bind fun m5 =>
  some m5
  else none)
set_option maxRecDepth 4000 in
set_option maxHeartbeats 4000000 in
theorem sm_X1_startSolution (t : List Sh) (m : Mi) (a0 : Nat) (a1 : Int32) (h0 : sh t a0 = some (.inl 1)) : Sm u_X1_startSolution (2, 0, 0, t.length, zs t) (kV t) 0 [(0, .inr (.inr a0)), (1, .inl a1)] [] (t, m) (f_X1_startSolution t m a0 a1) := by
  unfold f_X1_startSolution
  refine r_aload_n 0 1 0 rfl rfl rfl rfl ?_
  refine r_iconst 1 2 (v := 1) rfl rfl (by decide) ?_
  refine r_putI 2 5 rfl rfl fl_RX1_11 (fun h => by cases h) (Or.inl rfl) h0 ?_
  refine r_ltM (fun m1 => ?_)
  refine r_aload_n 3 6 0 rfl rfl rfl rfl ?_
  refine r_iload_n 4 7 1 rfl rfl rfl rfl ?_
  refine r_aload_n 5 8 0 rfl rfl rfl rfl ?_
  refine r_getR 6 11 rfl rfl fl_RX1_20 rfl h0 ?_
  refine r_gd (fun h2 => ?_)
  refine r_alen 7 12 0 rfl rfl (fun _ => rfl) h2 ?_
  refine r_minI 8 15 rfl rfl lk_RX1_33 (Nat.le_of_ble_eq_true rfl) (Nat.le_of_ble_eq_true rfl) ?_
  refine r_putI 9 18 rfl rfl fl_RX1_15 (fun h => by cases h) (Or.inl rfl) h0 ?_
  refine r_ltM (fun m3 => ?_)
  refine r_aload_n 10 19 0 rfl rfl rfl rfl ?_
  refine r_iconst 11 20 (v := 0) rfl rfl (by decide) ?_
  refine r_putI 12 23 rfl rfl fl_RX1_27 (fun h => by cases h) (Or.inl rfl) h0 ?_
  refine r_ltM (fun m4 => ?_)
  refine r_aload_n 13 24 0 rfl rfl rfl rfl ?_
  refine r_getR 14 27 rfl rfl fl_RX1_20 rfl h0 ?_
  refine r_iconst 15 28 (v := (-1)) rfl rfl (by decide) ?_
  refine r_SV 16 31 (a := 0) (cn := 0) (st := []) (av := [.inr (.inr (gr m4 a0 2)), .inl (-1)]) (μ' := u_J7_fill_53178) (d := 1) rfl rfl mc_J7_fill_53178 st_J7_fill_53178 lk_RX1_39 (Nat.le_of_ble_eq_true rfl) rfl (Nat.le_of_ble_eq_true rfl) (fun _ h => ct_J7_fill_53178 h) (fun m5 => ?_)
  exact r_vret 17 rfl rfl rfl
theorem ct_X1_startSolution {t : List Sh} {m : Mi} {a0 : Nat} {a1 : Int32} {m' : Mi}  (h0 : sh t a0 = some (.inl 1)) (h : f_X1_startSolution t m a0 a1 = some m') : Ct u_X1_startSolution 2 0 0 [.inr (.inr a0), .inl a1] (t, m) (none, (t, m')) :=
  ct_of (by decide) tk_X1_startSolution (Nat.le_of_ble_eq_true rfl) (sm_X1_startSolution t m a0 a1 h0) (by rw [h]; rfl) (Nat.le_refl _) (Nat.le_refl _)
theorem lk_RX1_45 : Cond.methodLink RX1 45 yX6_links ∈ TB := tbm 1267 (by decide +kernel) rfl
theorem lk_RX1_52 : Cond.methodLink RX1 52 yX6_constraintAt ∈ TB := tbm 1269 (by decide +kernel) rfl
theorem lk_RX1_63 : Cond.methodLink RX1 63 yX1_isTaken ∈ TB := tbm 1277 (by decide +kernel) rfl
theorem lk_RX1_56 : Cond.methodLink RX1 56 yX1_reaches ∈ TB := tbm 1270 (by decide +kernel) rfl
theorem lk_RX1_60 : Cond.methodLink RX1 60 yX1_targetIs ∈ TB := tbm 1274 (by decide +kernel) rfl
theorem lk_RX1_49 : Cond.methodLink RX1 49 yX6_constraints ∈ TB := tbm 1268 (by decide +kernel) rfl
def tb_X1_reachedBy : Tb := [(0, (.aload_n 0, 1)), (1, (.getfield 30, 3)), (4, (.iconst (-1), 1)), (5, (.invokestatic 39, 3)), (8, (.aload_n 1, 1)), (9, (.invokevirtual 45, 3)), (12, (.istore_n 3, 1)), (13, (.iload_n 3, 1)), (14, (.aload_n 1, 1)), (15, (.invokevirtual 49, 3)), (18, (.if_icmp .ge 36, 3)), (21, (.aload_n 0, 1)), (22, (.aload_n 1, 1)), (23, (.iload_n 3, 1)), (24, (.invokevirtual 52, 3)), (27, (.iconst 0, 1)), (28, (.invokevirtual 56, 3)), (31, (.ifCond .eq 17, 3)), (34, (.aload_n 1, 1)), (35, (.iload_n 3, 1)), (36, (.invokevirtual 52, 3)), (39, (.iload_n 2, 1)), (40, (.invokestatic 60, 3)), (43, (.ifCond .eq 5, 3)), (46, (.iload_n 3, 1)), (47, (.ireturn, 1)), (48, (.iinc 3 1, 3)), (51, (.goto (-38), 3)), (54, (.iconst 1, 1)), (55, (.istore_n 3, 1)), (56, (.iload_n 3, 1)), (57, (.aload_n 0, 1)), (58, (.getfield 15, 3)), (61, (.if_icmp .ge 70, 3)), (64, (.iconst 0, 1)), (65, (.istore 4, 2)), (67, (.iload 4, 2)), (69, (.aload_n 1, 1)), (70, (.invokevirtual 45, 3)), (73, (.if_icmp .ge 52, 3)), (76, (.aload_n 1, 1)), (77, (.iload 4, 2)), (79, (.invokevirtual 52, 3)), (82, (.astore 5, 2)), (84, (.aload_n 0, 1)), (85, (.aload_n 1, 1)), (86, (.aload 5, 2)), (88, (.iload_n 3, 1)), (89, (.iconst 1, 1)), (90, (.isub, 1)), (91, (.invokevirtual 63, 3)), (94, (.ifCond .eq 25, 3)), (97, (.aload_n 0, 1)), (98, (.aload 5, 2)), (100, (.iload_n 3, 1)), (101, (.invokevirtual 56, 3)), (104, (.ifCond .eq 15, 3)), (107, (.aload 5, 2)), (109, (.iload_n 2, 1)), (110, (.invokestatic 60, 3)), (113, (.ifCond .eq 6, 3)), (116, (.iload 4, 2)), (118, (.ireturn, 1)), (119, (.iinc 4 1, 3)), (122, (.goto (-55), 3)), (125, (.iinc 3 1, 3)), (128, (.goto (-72), 3)), (131, (.iconst (-1), 1)), (132, (.ireturn, 1))]
def u_X1_reachedBy : Fx := (yX1_reachedBy, (cX1_reachedBy, (6, ((some .int), tb_X1_reachedBy))))
theorem tk_X1_reachedBy : ∀ q ∈ u_X1_reachedBy.2.2.2.2, decode u_X1_reachedBy.2.1 q.1 = .ok q.2 := by decide +kernel
theorem mc_X1_reachedBy : MC u_X1_reachedBy 2 := ⟨tbm 1266 (by decide +kernel) rfl, tbm 126 (by decide +kernel) rfl, ⟨by decide, by decide, by decide +kernel⟩, by decide⟩
theorem in_X1_reachedBy : Cond.instanceMethod u_X1_reachedBy.1 ∈ TB ∧ Cond.selects u_X1_reachedBy.1.cls u_X1_reachedBy.1 u_X1_reachedBy.1 ∈ TB := ⟨tbm 1264 (by decide +kernel) rfl, tbm 1265 (by decide +kernel) rfl⟩
def f_X1_reachedBy_j46 (t : List Sh) (m : Mi) (a3 : Int32) : Option (Int32 × Mi) :=
  some (a3, m)
def f_X1_reachedBy_j116 (t : List Sh) (m : Mi) (a4 : Int32) : Option (Int32 × Mi) :=
  some (a4, m)
def f_X1_reachedBy_j131 (t : List Sh) (m : Mi) : Option (Int32 × Mi) :=
  some ((-1), m)
def f_X1_reachedBy_j125 (t : List Sh) (m : Mi) (a0 : Nat) (a1 : Nat) (a2 : Int32) (a3 : Int32) : Option ((Int32 × Mi) ⊕ ((Mi) ⊕ (Int32 × Mi))) :=
  lt (a3 + 1) fun x5 =>
  some (.inl (x5, m))
def f_X1_reachedBy_l67 (t : List Sh) (m : Mi) (a0 : Nat) (a1 : Nat) (a2 : Int32) (a3 : Int32) (a4 : Int32) : Option ((Int32 × Mi) ⊕ ((Mi) ⊕ (Int32 × Mi))) :=
  (f_X6_links t m a1).bind fun x6 =>
  if x6 ≤ a4 then
    some (.inr (.inl m))
  else
    (f_X6_constraintAt t m a1 a4).bind fun x8 =>
    (f_X1_isTaken t m a0 a1 x8 (a3 - 1)).bind fun x9 =>
    if x9 = 0 then
      lt (a4 + 1) fun x11 =>
      some (.inl (x11, m))
    else
      bd (f_X1_reaches t m a0 x8 a3) fun x12 m13 =>
      if x12 = 0 then
        lt (a4 + 1) fun x15 =>
        some (.inl (x15, m13))
      else
        (f_X1_targetIs t m13 x8 a2).bind fun x16 =>
        if x16 = 0 then
          lt (a4 + 1) fun x18 =>
          some (.inl (x18, m13))
        else
          some (.inr (.inr (a4, m13)))
def f_X1_reachedBy_j67 (t : List Sh) (m : Mi) (a0 : Nat) (a1 : Nat) (a2 : Int32) (a3 : Int32) (a4 : Int32) : Option ((Int32 × Mi) ⊕ ((Mi) ⊕ (Int32 × Mi))) :=
  (lp (fun x : Int32 × Mi => f_X1_reachedBy_l67 t x.2 a0 a1 a2 a3 x.1) FUEL (a4, m)).bind (Sum.elim (fun y : Mi => f_X1_reachedBy_j125 t y a0 a1 a2 a3) (fun y : Int32 × Mi => some (.inr (.inr (y.1, y.2)))))
def f_X1_reachedBy_l56 (t : List Sh) (m : Mi) (a0 : Nat) (a1 : Nat) (a2 : Int32) (a3 : Int32) : Option ((Int32 × Mi) ⊕ ((Mi) ⊕ (Int32 × Mi))) :=
  if (gi m a0 1) ≤ a3 then
    some (.inr (.inl m))
  else
    f_X1_reachedBy_j67 t m a0 a1 a2 a3 0
def f_X1_reachedBy_j56 (t : List Sh) (m : Mi) (a0 : Nat) (a1 : Nat) (a2 : Int32) (a3 : Int32) : Option (Int32 × Mi) :=
  (lp (fun x : Int32 × Mi => f_X1_reachedBy_l56 t x.2 a0 a1 a2 x.1) FUEL (a3, m)).bind (Sum.elim (fun y : Mi => f_X1_reachedBy_j131 t y) (fun y : Int32 × Mi => f_X1_reachedBy_j116 t (y.2) (y.1)))
def f_X1_reachedBy_j54 (t : List Sh) (m : Mi) (a0 : Nat) (a1 : Nat) (a2 : Int32) : Option (Int32 × Mi) :=
  f_X1_reachedBy_j56 t m a0 a1 a2 1
def f_X1_reachedBy_l13 (t : List Sh) (m : Mi) (a0 : Nat) (a1 : Nat) (a2 : Int32) (a3 : Int32) : Option ((Int32 × Mi) ⊕ ((Mi) ⊕ (Int32 × Mi))) :=
  (f_X6_constraints t m a1).bind fun x19 =>
  if x19 ≤ a3 then
    some (.inr (.inl m))
  else
    (f_X6_constraintAt t m a1 a3).bind fun x21 =>
    bd (f_X1_reaches t m a0 x21 0) fun x22 m23 =>
    if x22 = 0 then
      lt (a3 + 1) fun x25 =>
      some (.inl (x25, m23))
    else
      (f_X6_constraintAt t m23 a1 a3).bind fun x26 =>
      (f_X1_targetIs t m23 x26 a2).bind fun x27 =>
      if x27 = 0 then
        lt (a3 + 1) fun x29 =>
        some (.inl (x29, m23))
      else
        some (.inr (.inr (a3, m23)))
def f_X1_reachedBy_j13 (t : List Sh) (m : Mi) (a0 : Nat) (a1 : Nat) (a2 : Int32) (a3 : Int32) : Option (Int32 × Mi) :=
  (lp (fun x : Int32 × Mi => f_X1_reachedBy_l13 t x.2 a0 a1 a2 x.1) FUEL (a3, m)).bind (Sum.elim (fun y : Mi => f_X1_reachedBy_j54 t y a0 a1 a2) (fun y : Int32 × Mi => f_X1_reachedBy_j46 t (y.2) (y.1)))
def f_X1_reachedBy (t : List Sh) (m : Mi) (a0 : Nat) (a1 : Nat) (a2 : Int32) : Option (Int32 × Mi) :=
  (f_J7_fill_53178 t m (gr m a0 5) (-1)).bind fun m1 =>
  (if ob t a1 6 = true then
  (f_X6_links t m1 a1).bind fun x3 =>
  f_X1_reachedBy_j13 t m1 a0 a1 a2 x3
  else none)
set_option maxRecDepth 4000 in
set_option maxHeartbeats 4000000 in
theorem sm_X1_reachedBy (t : List Sh) (m : Mi) (a0 : Nat) (a1 : Nat) (a2 : Int32) (h0 : sh t a0 = some (.inl 1)) : Sm u_X1_reachedBy (3, 0, 0, t.length, zs t) (kI t) 0 [(0, .inr (.inr a0)), (1, .inr (.inr a1)), (2, .inl a2)] [] (t, m) (f_X1_reachedBy t m a0 a1 a2) := by
  unfold f_X1_reachedBy
  refine r_aload_n 0 1 0 rfl rfl rfl rfl ?_
  refine r_getR 1 4 rfl rfl fl_RX1_30 rfl h0 ?_
  refine r_iconst 2 5 (v := (-1)) rfl rfl (by decide) ?_
  refine r_SV 3 8 (a := 0) (cn := 0) (st := []) (av := [.inr (.inr (gr m a0 5)), .inl (-1)]) (μ' := u_J7_fill_53178) (d := 1) rfl rfl mc_J7_fill_53178 st_J7_fill_53178 lk_RX1_39 (Nat.le_of_ble_eq_true rfl) rfl (Nat.le_of_ble_eq_true rfl) (fun _ h => ct_J7_fill_53178 h) (fun m1 => ?_)
  refine r_aload_n 4 9 1 rfl rfl rfl rfl ?_
  refine r_gd (fun h2 => ?_)
  refine r_VIo 5 12 (st := []) (av := [.inr (.inr a1)]) (av' := []) (μ' := u_X6_links) (d := 1) rfl rfl mc_X6_links in_X6_links lk_RX1_45 (Nat.le_of_ble_eq_true rfl) rfl rfl (ob_sh h2) rfl (Nat.le_of_ble_eq_true rfl) (fun _ h => ct_X6_links (ob_sh h2) h) (fun x3 => ?_)
  refine r_istore_n 6 13 (L' := [(3, .inl x3), (0, .inr (.inr a0)), (1, .inr (.inr a1)), (2, .inl a2)]) rfl rfl rfl (by decide) rfl ?_
  have hj13 : ∀ (m : Mi) (a3 : Int32), Sm u_X1_reachedBy (3, 0, 0, t.length, zs t) (kI t) 13 [(0, .inr (.inr a0)), (1, .inr (.inr a1)), (2, .inl a2), (3, .inl a3)] [] (t, m) (f_X1_reachedBy_j13 t m a0 a1 a2 a3) := by
    intro m a3
    unfold f_X1_reachedBy_j13
    have hj46 : ∀ (m : Mi) (a3 : Int32), Sm u_X1_reachedBy (3, 0, 0, t.length, zs t) (kI t) 46 [(3, .inl a3)] [] (t, m) (f_X1_reachedBy_j46 t m a3) := by
      intro m a3
      unfold f_X1_reachedBy_j46
      refine r_iload_n 24 47 0 rfl rfl rfl rfl ?_
      exact r_iret 25 rfl rfl rfl
    have hj54 : ∀ (m : Mi), Sm u_X1_reachedBy (3, 0, 0, t.length, zs t) (kI t) 54 [(0, .inr (.inr a0)), (1, .inr (.inr a1)), (2, .inl a2)] [] (t, m) (f_X1_reachedBy_j54 t m a0 a1 a2) := by
      intro m
      unfold f_X1_reachedBy_j54
      refine r_iconst 28 55 (v := 1) rfl rfl (by decide) ?_
      refine r_istore_n 29 56 (L' := [(3, .inl 1), (0, .inr (.inr a0)), (1, .inr (.inr a1)), (2, .inl a2)]) rfl rfl rfl (by decide) rfl ?_
      have hj56 : ∀ (m : Mi) (a3 : Int32), Sm u_X1_reachedBy (3, 0, 0, t.length, zs t) (kI t) 56 [(0, .inr (.inr a0)), (1, .inr (.inr a1)), (2, .inl a2), (3, .inl a3)] [] (t, m) (f_X1_reachedBy_j56 t m a0 a1 a2 a3) := by
        intro m a3
        unfold f_X1_reachedBy_j56
        have hj116 : ∀ (m : Mi) (a4 : Int32), Sm u_X1_reachedBy (3, 0, 0, t.length, zs t) (kI t) 116 [(4, .inl a4)] [] (t, m) (f_X1_reachedBy_j116 t m a4) := by
          intro m a4
          unfold f_X1_reachedBy_j116
          refine r_iload 61 118 0 rfl rfl rfl ?_
          exact r_iret 62 rfl rfl rfl
        have hj131 : ∀ (m : Mi), Sm u_X1_reachedBy (3, 0, 0, t.length, zs t) (kI t) 131 [] [] (t, m) (f_X1_reachedBy_j131 t m) := by
          intro m
          unfold f_X1_reachedBy_j131
          refine r_iconst 67 132 (v := (-1)) rfl rfl (by decide) ?_
          exact r_iret 68 rfl rfl rfl
        refine r_lp (Lf := fun x : Int32 × Mi => [(0, .inr (.inr a0)), (1, .inr (.inr a1)), (2, .inl a2), (3, .inl (x.1))]) (Mf := fun x : Int32 × Mi => (t, x.2)) (a3, m) ?_ FUEL
        rintro ⟨a3, m⟩ κ56 hc56 he56
        refine r_eq (L' := [(0, .inr (.inr a0)), (1, .inr (.inr a1)), (2, .inl a2), (3, .inl a3)]) (M' := (t, m)) rfl rfl ?_
        refine r_eqr (r' := f_X1_reachedBy_l56 t m a0 a1 a2 a3) rfl ?_
        unfold f_X1_reachedBy_l56
        refine r_iload_n 30 57 3 rfl rfl rfl rfl ?_
        refine r_aload_n 31 58 0 rfl rfl rfl rfl ?_
        refine r_getI 32 61 rfl rfl fl_RX1_15 rfl h0 ?_
        refine r_icmp_ge 33 131 64 rfl rfl rfl (fun h4 => ?_) (fun h4 => ?_)
        · refine r_leaf (r2 := (f_X1_reachedBy_j131 t m : Option (Int32 × Mi))) (he56 _) ?_
          exact r_sub [] rfl (hj131 m)
        · refine r_iconst 34 65 (v := 0) rfl rfl (by decide) ?_
          refine r_istore 35 67 (L' := [(4, .inl 0), (0, .inr (.inr a0)), (1, .inr (.inr a1)), (2, .inl a2), (3, .inl a3)]) rfl rfl (by decide) rfl ?_
          have hj67 : ∀ (m : Mi) (a3 : Int32) (a4 : Int32), Sm u_X1_reachedBy (3, 0, 0, t.length, zs t) κ56 67 [(0, .inr (.inr a0)), (1, .inr (.inr a1)), (2, .inl a2), (3, .inl a3), (4, .inl a4)] [] (t, m) (f_X1_reachedBy_j67 t m a0 a1 a2 a3 a4) := by
            intro m a3 a4
            unfold f_X1_reachedBy_j67
            have hj125 : ∀ (m : Mi) (a3 : Int32), Sm u_X1_reachedBy (3, 0, 0, t.length, zs t) κ56 125 [(0, .inr (.inr a0)), (1, .inr (.inr a1)), (2, .inl a2), (3, .inl a3)] [] (t, m) (f_X1_reachedBy_j125 t m a0 a1 a2 a3) := by
              intro m a3
              unfold f_X1_reachedBy_j125
              refine r_iinc 65 128 3 (L' := [(3, .inl (a3 + 1)), (0, .inr (.inr a0)), (1, .inr (.inr a1)), (2, .inl a2)]) rfl rfl rfl (by decide) rfl ?_
              refine r_ltV (fun x5 => ?_)
              refine r_goto 66 56 rfl rfl ?_
              exact r_sub [1, 2, 3, 0] rfl (hc56 (x5, m))
            refine r_lp (Lf := fun x : Int32 × Mi => [(0, .inr (.inr a0)), (1, .inr (.inr a1)), (2, .inl a2), (3, .inl a3), (4, .inl (x.1))]) (Mf := fun x : Int32 × Mi => (t, x.2)) (a4, m) ?_ FUEL
            rintro ⟨a4, m⟩ κ67 hc67 he67
            refine r_eq (L' := [(0, .inr (.inr a0)), (1, .inr (.inr a1)), (2, .inl a2), (3, .inl a3), (4, .inl a4)]) (M' := (t, m)) rfl rfl ?_
            refine r_eqr (r' := f_X1_reachedBy_l67 t m a0 a1 a2 a3 a4) rfl ?_
            unfold f_X1_reachedBy_l67
            refine r_iload 36 69 4 rfl rfl rfl ?_
            refine r_aload_n 37 70 1 rfl rfl rfl rfl ?_
            refine r_VIo 38 73 (st := [.inl a4]) (av := [.inr (.inr a1)]) (av' := []) (μ' := u_X6_links) (d := 1) rfl rfl mc_X6_links in_X6_links lk_RX1_45 (Nat.le_of_ble_eq_true rfl) rfl rfl (ob_sh h2) rfl (Nat.le_of_ble_eq_true rfl) (fun _ h => ct_X6_links (ob_sh h2) h) (fun x6 => ?_)
            refine r_icmp_ge 39 125 76 rfl rfl rfl (fun h7 => ?_) (fun h7 => ?_)
            · refine r_leaf (r2 := (f_X1_reachedBy_j125 t m a0 a1 a2 a3 : Option ((Int32 × Mi) ⊕ ((Mi) ⊕ (Int32 × Mi))))) (he67 _) ?_
              exact r_sub [0, 1, 2, 3] rfl (hj125 m a3)
            · refine r_aload_n 40 77 1 rfl rfl rfl rfl ?_
              refine r_iload 41 79 4 rfl rfl rfl ?_
              refine r_VRo 42 82 (st := []) (av := [.inr (.inr a1), .inl a4]) (av' := [.inl a4]) (μ' := u_X6_constraintAt) (d := 1) rfl rfl mc_X6_constraintAt in_X6_constraintAt lk_RX1_52 (Nat.le_of_ble_eq_true rfl) rfl rfl (ob_sh h2) rfl (Nat.le_of_ble_eq_true rfl) (fun _ h => ct_X6_constraintAt (ob_sh h2) h) (fun x8 => ?_)
              refine r_astore 43 84 (L' := [(5, .inr (.inr x8)), (0, .inr (.inr a0)), (1, .inr (.inr a1)), (2, .inl a2), (3, .inl a3), (4, .inl a4)]) rfl rfl (by decide) rfl ?_
              refine r_aload_n 44 85 1 rfl rfl rfl rfl ?_
              refine r_aload_n 45 86 2 rfl rfl rfl rfl ?_
              refine r_aload 46 88 0 rfl rfl rfl ?_
              refine r_iload_n 47 89 4 rfl rfl rfl rfl ?_
              refine r_iconst 48 90 (v := 1) rfl rfl (by decide) ?_
              refine r_isub 49 91 rfl rfl ?_
              refine r_VIo 50 94 (st := []) (av := [.inr (.inr a0), .inr (.inr a1), .inr (.inr x8), .inl (a3 - 1)]) (av' := [.inr (.inr a1), .inr (.inr x8), .inl (a3 - 1)]) (μ' := u_X1_isTaken) (d := 2) rfl rfl mc_X1_isTaken in_X1_isTaken lk_RX1_63 (Nat.le_of_ble_eq_true rfl) rfl rfl h0 rfl (Nat.le_of_ble_eq_true rfl) (fun _ h => ct_X1_isTaken h0 h) (fun x9 => ?_)
              refine r_if_eq 51 119 97 rfl rfl rfl (fun h10 => ?_) (fun h10 => ?_)
              · refine r_iinc 63 122 5 (L' := [(4, .inl (a4 + 1)), (5, .inr (.inr x8)), (0, .inr (.inr a0)), (1, .inr (.inr a1)), (2, .inl a2), (3, .inl a3)]) rfl rfl rfl (by decide) rfl ?_
                refine r_ltV (fun x11 => ?_)
                refine r_goto 64 67 rfl rfl ?_
                exact r_sub [2, 3, 4, 5, 0] rfl (hc67 (x11, m))
              · refine r_aload_n 52 98 1 rfl rfl rfl rfl ?_
                refine r_aload 53 100 0 rfl rfl rfl ?_
                refine r_iload_n 54 101 4 rfl rfl rfl rfl ?_
                refine r_VI 55 104 (st := []) (av := [.inr (.inr a0), .inr (.inr x8), .inl a3]) (av' := [.inr (.inr x8), .inl a3]) (μ' := u_X1_reaches) (d := 1) rfl rfl mc_X1_reaches in_X1_reaches lk_RX1_56 (Nat.le_of_ble_eq_true rfl) rfl rfl h0 rfl (Nat.le_of_ble_eq_true rfl) (fun _ _ h => ct_X1_reaches h0 h) (fun x12 m13 => ?_)
                refine r_if_eq 56 119 107 rfl rfl rfl (fun h14 => ?_) (fun h14 => ?_)
                · refine r_iinc 63 122 5 (L' := [(4, .inl (a4 + 1)), (5, .inr (.inr x8)), (0, .inr (.inr a0)), (1, .inr (.inr a1)), (2, .inl a2), (3, .inl a3)]) rfl rfl rfl (by decide) rfl ?_
                  refine r_ltV (fun x15 => ?_)
                  refine r_goto 64 67 rfl rfl ?_
                  exact r_sub [2, 3, 4, 5, 0] rfl (hc67 (x15, m13))
                · refine r_aload 57 109 0 rfl rfl rfl ?_
                  refine r_iload_n 58 110 3 rfl rfl rfl rfl ?_
                  refine r_SIo 59 113 (a := 0) (cn := 0) (st := []) (av := [.inr (.inr x8), .inl a2]) (μ' := u_X1_targetIs) (d := 1) rfl rfl mc_X1_targetIs st_X1_targetIs lk_RX1_60 (Nat.le_of_ble_eq_true rfl) rfl (Nat.le_of_ble_eq_true rfl) (fun _ h => ct_X1_targetIs h) (fun x16 => ?_)
                  refine r_if_eq 60 119 116 rfl rfl rfl (fun h17 => ?_) (fun h17 => ?_)
                  · refine r_iinc 63 122 5 (L' := [(4, .inl (a4 + 1)), (5, .inr (.inr x8)), (0, .inr (.inr a0)), (1, .inr (.inr a1)), (2, .inl a2), (3, .inl a3)]) rfl rfl rfl (by decide) rfl ?_
                    refine r_ltV (fun x18 => ?_)
                    refine r_goto 64 67 rfl rfl ?_
                    exact r_sub [2, 3, 4, 5, 0] rfl (hc67 (x18, m13))
                  · refine r_leaf (r2 := (some (.inr (.inr (a4, m13))) : Option ((Int32 × Mi) ⊕ ((Mi) ⊕ (Int32 × Mi))))) (he67 _) ?_
                    refine r_leaf (r2 := (f_X1_reachedBy_j116 t m13 a4 : Option (Int32 × Mi))) (he56 _) ?_
                    exact r_sub [5] rfl (hj116 m13 a4)
          exact r_sub [1, 2, 3, 4, 0] rfl (hj67 m a3 0)
      exact r_sub [1, 2, 3, 0] rfl (hj56 m 1)
    refine r_lp (Lf := fun x : Int32 × Mi => [(0, .inr (.inr a0)), (1, .inr (.inr a1)), (2, .inl a2), (3, .inl (x.1))]) (Mf := fun x : Int32 × Mi => (t, x.2)) (a3, m) ?_ FUEL
    rintro ⟨a3, m⟩ κ13 hc13 he13
    refine r_eq (L' := [(0, .inr (.inr a0)), (1, .inr (.inr a1)), (2, .inl a2), (3, .inl a3)]) (M' := (t, m)) rfl rfl ?_
    refine r_eqr (r' := f_X1_reachedBy_l13 t m a0 a1 a2 a3) rfl ?_
    unfold f_X1_reachedBy_l13
    refine r_iload_n 7 14 3 rfl rfl rfl rfl ?_
    refine r_aload_n 8 15 1 rfl rfl rfl rfl ?_
    refine r_VIo 9 18 (st := [.inl a3]) (av := [.inr (.inr a1)]) (av' := []) (μ' := u_X6_constraints) (d := 1) rfl rfl mc_X6_constraints in_X6_constraints lk_RX1_49 (Nat.le_of_ble_eq_true rfl) rfl rfl (ob_sh h2) rfl (Nat.le_of_ble_eq_true rfl) (fun _ h => ct_X6_constraints (ob_sh h2) h) (fun x19 => ?_)
    refine r_icmp_ge 10 54 21 rfl rfl rfl (fun h20 => ?_) (fun h20 => ?_)
    · refine r_leaf (r2 := (f_X1_reachedBy_j54 t m a0 a1 a2 : Option (Int32 × Mi))) (he13 _) ?_
      exact r_sub [0, 1, 2] rfl (hj54 m)
    · refine r_aload_n 11 22 0 rfl rfl rfl rfl ?_
      refine r_aload_n 12 23 1 rfl rfl rfl rfl ?_
      refine r_iload_n 13 24 3 rfl rfl rfl rfl ?_
      refine r_VRo 14 27 (st := [.inr (.inr a0)]) (av := [.inr (.inr a1), .inl a3]) (av' := [.inl a3]) (μ' := u_X6_constraintAt) (d := 1) rfl rfl mc_X6_constraintAt in_X6_constraintAt lk_RX1_52 (Nat.le_of_ble_eq_true rfl) rfl rfl (ob_sh h2) rfl (Nat.le_of_ble_eq_true rfl) (fun _ h => ct_X6_constraintAt (ob_sh h2) h) (fun x21 => ?_)
      refine r_iconst 15 28 (v := 0) rfl rfl (by decide) ?_
      refine r_VI 16 31 (st := []) (av := [.inr (.inr a0), .inr (.inr x21), .inl 0]) (av' := [.inr (.inr x21), .inl 0]) (μ' := u_X1_reaches) (d := 1) rfl rfl mc_X1_reaches in_X1_reaches lk_RX1_56 (Nat.le_of_ble_eq_true rfl) rfl rfl h0 rfl (Nat.le_of_ble_eq_true rfl) (fun _ _ h => ct_X1_reaches h0 h) (fun x22 m23 => ?_)
      refine r_if_eq 17 48 34 rfl rfl rfl (fun h24 => ?_) (fun h24 => ?_)
      · refine r_iinc 26 51 3 (L' := [(3, .inl (a3 + 1)), (0, .inr (.inr a0)), (1, .inr (.inr a1)), (2, .inl a2)]) rfl rfl rfl (by decide) rfl ?_
        refine r_ltV (fun x25 => ?_)
        refine r_goto 27 13 rfl rfl ?_
        exact r_sub [1, 2, 3, 0] rfl (hc13 (x25, m23))
      · refine r_aload_n 18 35 1 rfl rfl rfl rfl ?_
        refine r_iload_n 19 36 3 rfl rfl rfl rfl ?_
        refine r_VRo 20 39 (st := []) (av := [.inr (.inr a1), .inl a3]) (av' := [.inl a3]) (μ' := u_X6_constraintAt) (d := 1) rfl rfl mc_X6_constraintAt in_X6_constraintAt lk_RX1_52 (Nat.le_of_ble_eq_true rfl) rfl rfl (ob_sh h2) rfl (Nat.le_of_ble_eq_true rfl) (fun _ h => ct_X6_constraintAt (ob_sh h2) h) (fun x26 => ?_)
        refine r_iload_n 21 40 2 rfl rfl rfl rfl ?_
        refine r_SIo 22 43 (a := 0) (cn := 0) (st := []) (av := [.inr (.inr x26), .inl a2]) (μ' := u_X1_targetIs) (d := 1) rfl rfl mc_X1_targetIs st_X1_targetIs lk_RX1_60 (Nat.le_of_ble_eq_true rfl) rfl (Nat.le_of_ble_eq_true rfl) (fun _ h => ct_X1_targetIs h) (fun x27 => ?_)
        refine r_if_eq 23 48 46 rfl rfl rfl (fun h28 => ?_) (fun h28 => ?_)
        · refine r_iinc 26 51 3 (L' := [(3, .inl (a3 + 1)), (0, .inr (.inr a0)), (1, .inr (.inr a1)), (2, .inl a2)]) rfl rfl rfl (by decide) rfl ?_
          refine r_ltV (fun x29 => ?_)
          refine r_goto 27 13 rfl rfl ?_
          exact r_sub [1, 2, 3, 0] rfl (hc13 (x29, m23))
        · refine r_leaf (r2 := (f_X1_reachedBy_j46 t m23 a3 : Option (Int32 × Mi))) (he13 _) ?_
          exact r_sub [3] rfl (hj46 m23 a3)
  exact r_sub [1, 2, 3, 0] rfl (hj13 m1 x3)
theorem ct_X1_reachedBy {t : List Sh} {m : Mi} {a0 : Nat} {a1 : Nat} {a2 : Int32} {m' : Mi} {v : Int32}  (h0 : sh t a0 = some (.inl 1)) (h : f_X1_reachedBy t m a0 a1 a2 = some (v, m')) : Ct u_X1_reachedBy 3 0 0 [.inr (.inr a0), .inr (.inr a1), .inl a2] (t, m) (some (.inl v), (t, m')) :=
  ct_of (by decide) tk_X1_reachedBy (Nat.le_of_ble_eq_true rfl) (sm_X1_reachedBy t m a0 a1 a2 h0) (by rw [h]; rfl) (Nat.le_refl _) (Nat.le_refl _)
