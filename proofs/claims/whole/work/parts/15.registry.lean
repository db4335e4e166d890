theorem lk_RX0_3 : Cond.methodLink RX0 3 Lib.objectInit ∈ TB := tbm 350 (by decide +kernel) rfl
theorem fl_RX0_11 : FL RX0 11 0 0 false := ⟨RX0, TX0, 8, rfl, inW0, tyX0_ok, nmX0, by decide, rfl, rfl, rfl, tbm 351 (by decide +kernel) rfl⟩
theorem fl_RX0_17 : FL RX0 17 0 1 false := ⟨RX0, TX0, 8, rfl, inW0, tyX0_ok, nmX0, by decide, rfl, rfl, rfl, tbm 356 (by decide +kernel) rfl⟩
theorem fl_RX0_20 : FL RX0 20 0 2 false := ⟨RX0, TX0, 8, rfl, inW0, tyX0_ok, nmX0, by decide, rfl, rfl, rfl, tbm 361 (by decide +kernel) rfl⟩
theorem fl_RX0_23 : FL RX0 23 0 3 false := ⟨RX0, TX0, 8, rfl, inW0, tyX0_ok, nmX0, by decide, rfl, rfl, rfl, tbm 364 (by decide +kernel) rfl⟩
theorem fl_RX0_26 : FL RX0 26 0 4 false := ⟨RX0, TX0, 8, rfl, inW0, tyX0_ok, nmX0, by decide, rfl, rfl, rfl, tbm 367 (by decide +kernel) rfl⟩
theorem fl_RX0_29 : FL RX0 29 0 5 false := ⟨RX0, TX0, 8, rfl, inW0, tyX0_ok, nmX0, by decide, rfl, rfl, rfl, tbm 372 (by decide +kernel) rfl⟩
theorem fl_RX0_32 : FL RX0 32 0 6 false := ⟨RX0, TX0, 8, rfl, inW0, tyX0_ok, nmX0, by decide, rfl, rfl, rfl, tbm 375 (by decide +kernel) rfl⟩
theorem fl_RX0_35 : FL RX0 35 0 7 false := ⟨RX0, TX0, 8, rfl, inW0, tyX0_ok, nmX0, by decide, rfl, rfl, rfl, tbm 378 (by decide +kernel) rfl⟩
def tb_X0_init : Tb := [(0, (.aload_n 0, 1)), (1, (.invokespecial 3, 3)), (4, (.aload_n 0, 1)), (5, (.iconst 4, 1)), (6, (.putfield 11, 3)), (9, (.aload_n 0, 1)), (10, (.iconst (-1), 1)), (11, (.putfield 17, 3)), (14, (.aload_n 0, 1)), (15, (.iconst 0, 1)), (16, (.putfield 20, 3)), (19, (.aload_n 0, 1)), (20, (.iconst 0, 1)), (21, (.putfield 23, 3)), (24, (.aload_n 0, 1)), (25, (.iconst (-1), 1)), (26, (.putfield 26, 3)), (29, (.aload_n 0, 1)), (30, (.iconst 0, 1)), (31, (.putfield 29, 3)), (34, (.aload_n 0, 1)), (35, (.iconst 0, 1)), (36, (.putfield 32, 3)), (39, (.aload_n 0, 1)), (40, (.iconst 0, 1)), (41, (.putfield 35, 3)), (44, (.return_, 1))]
def u_X0_init : Fx := (yX0_init, (cX0_init, (1, (none, tb_X0_init))))
theorem tk_X0_init : ∀ q ∈ u_X0_init.2.2.2.2, decode u_X0_init.2.1 q.1 = .ok q.2 := by decide +kernel
theorem mc_X0_init : MC u_X0_init 0 := ⟨tbm 349 (by decide +kernel) rfl, tbm 124 (by decide +kernel) rfl, ⟨by decide, by decide, by decide +kernel⟩, by decide⟩
theorem ini_X0_init : Cond.instanceMethod u_X0_init.1 ∈ TB := tbm 348 (by decide +kernel) rfl
def f_X0_init (t : List Sh) (m : Mi) (a0 : Nat) : Option (Mi) :=
  lt (si m a0 0 4) fun m1 =>
  lt (si m1 a0 1 (-1)) fun m2 =>
  lt (si m2 a0 2 0) fun m3 =>
  lt (si m3 a0 3 0) fun m4 =>
  lt (si m4 a0 4 (-1)) fun m5 =>
  lt (si m5 a0 5 0) fun m6 =>
  lt (si m6 a0 6 0) fun m7 =>
  lt (si m7 a0 7 0) fun m8 =>
  some m8
set_option maxRecDepth 4000 in
set_option maxHeartbeats 4000000 in
theorem sm_X0_init (t : List Sh) (m : Mi) (a0 : Nat) (h0 : sh t a0 = some (.inl 0)) : Sm u_X0_init (1, 0, 0, t.length, zs t) (kV t) 0 [(0, .inr (.inr a0))] [] (t, m) (f_X0_init t m a0) := by
  unfold f_X0_init
  refine r_aload_n 0 1 0 rfl rfl rfl rfl ?_
  refine r_objI 1 4 rfl rfl lk_RX0_3 (Nat.le_of_ble_eq_true rfl) (Nat.le_of_ble_eq_true rfl) h0 ?_
  refine r_aload_n 2 5 0 rfl rfl rfl rfl ?_
  refine r_iconst 3 6 (v := 4) rfl rfl (by decide) ?_
  refine r_putI 4 9 rfl rfl fl_RX0_11 (fun h => by cases h) (Or.inl rfl) h0 ?_
  refine r_ltM (fun m1 => ?_)
  refine r_aload_n 5 10 0 rfl rfl rfl rfl ?_
  refine r_iconst 6 11 (v := (-1)) rfl rfl (by decide) ?_
  refine r_putI 7 14 rfl rfl fl_RX0_17 (fun h => by cases h) (Or.inl rfl) h0 ?_
  refine r_ltM (fun m2 => ?_)
  refine r_aload_n 8 15 0 rfl rfl rfl rfl ?_
  refine r_iconst 9 16 (v := 0) rfl rfl (by decide) ?_
  refine r_putI 10 19 rfl rfl fl_RX0_20 (fun h => by cases h) (Or.inl rfl) h0 ?_
  refine r_ltM (fun m3 => ?_)
  refine r_aload_n 11 20 0 rfl rfl rfl rfl ?_
  refine r_iconst 12 21 (v := 0) rfl rfl (by decide) ?_
  refine r_putI 13 24 rfl rfl fl_RX0_23 (fun h => by cases h) (Or.inl rfl) h0 ?_
  refine r_ltM (fun m4 => ?_)
  refine r_aload_n 14 25 0 rfl rfl rfl rfl ?_
  refine r_iconst 15 26 (v := (-1)) rfl rfl (by decide) ?_
  refine r_putI 16 29 rfl rfl fl_RX0_26 (fun h => by cases h) (Or.inl rfl) h0 ?_
  refine r_ltM (fun m5 => ?_)
  refine r_aload_n 17 30 0 rfl rfl rfl rfl ?_
  refine r_iconst 18 31 (v := 0) rfl rfl (by decide) ?_
  refine r_putI 19 34 rfl rfl fl_RX0_29 (fun h => by cases h) (Or.inl rfl) h0 ?_
  refine r_ltM (fun m6 => ?_)
  refine r_aload_n 20 35 0 rfl rfl rfl rfl ?_
  refine r_iconst 21 36 (v := 0) rfl rfl (by decide) ?_
  refine r_putI 22 39 rfl rfl fl_RX0_32 (fun h => by cases h) (Or.inl rfl) h0 ?_
  refine r_ltM (fun m7 => ?_)
  refine r_aload_n 23 40 0 rfl rfl rfl rfl ?_
  refine r_iconst 24 41 (v := 0) rfl rfl (by decide) ?_
  refine r_putI 25 44 rfl rfl fl_RX0_35 (fun h => by cases h) (Or.inl rfl) h0 ?_
  refine r_ltM (fun m8 => ?_)
  exact r_vret 26 rfl rfl rfl
theorem ct_X0_init {t : List Sh} {m : Mi} {a0 : Nat} {m' : Mi}  (h0 : sh t a0 = some (.inl 0)) (h : f_X0_init t m a0 = some m') : Ct u_X0_init 1 0 0 [.inr (.inr a0)] (t, m) (none, (t, m')) :=
  ct_of (by decide) tk_X0_init (Nat.le_of_ble_eq_true rfl) (sm_X0_init t m a0 h0) (by rw [h]; rfl) (Nat.le_refl _) (Nat.le_refl _)
theorem fl_RX2_25 : FL RX2 25 2 4 false := ⟨RX2, TX2, 5, rfl, inW2, tyX2_ok, nmX2, by decide, rfl, rfl, rfl, tbm 290 (by decide +kernel) rfl⟩
theorem fl_RX2_9 : FL RX2 9 2 0 true := ⟨RX2, TX2, 5, rfl, inW2, tyX2_ok, nmX2, by decide, rfl, rfl, rfl, tbm 280 (by decide +kernel) rfl⟩
def tb_X2_fallingAt : Tb := [(0, (.iload_n 1, 1)), (1, (.ifCond .lt 29, 3)), (4, (.iload_n 1, 1)), (5, (.aload_n 0, 1)), (6, (.getfield 25, 3)), (9, (.if_icmp .ge 21, 3)), (12, (.iload_n 1, 1)), (13, (.aload_n 0, 1)), (14, (.getfield 9, 3)), (17, (.arraylength, 1)), (18, (.if_icmp .ge 12, 3)), (21, (.aload_n 0, 1)), (22, (.getfield 9, 3)), (25, (.iload_n 1, 1)), (26, (.iaload, 1)), (27, (.goto 4, 3)), (30, (.iconst 0, 1)), (31, (.ireturn, 1))]
def u_X2_fallingAt : Fx := (yX2_fallingAt, (cX2_fallingAt, (2, ((some .int), tb_X2_fallingAt))))
theorem tk_X2_fallingAt : ∀ q ∈ u_X2_fallingAt.2.2.2.2, decode u_X2_fallingAt.2.1 q.1 = .ok q.2 := by decide +kernel
theorem mc_X2_fallingAt : MC u_X2_fallingAt 1 := ⟨tbm 1207 (by decide +kernel) rfl, tbm 122 (by decide +kernel) rfl, ⟨by decide, by decide, by decide +kernel⟩, by decide⟩
theorem in_X2_fallingAt : Cond.instanceMethod u_X2_fallingAt.1 ∈ TB ∧ Cond.selects u_X2_fallingAt.1.cls u_X2_fallingAt.1 u_X2_fallingAt.1 ∈ TB := ⟨tbm 1205 (by decide +kernel) rfl, tbm 1206 (by decide +kernel) rfl⟩
def f_X2_fallingAt (t : List Sh) (m : Mi) (a0 : Nat) (a1 : Int32) : Option (Int32) :=
  if a1 < 0 then
    some 0
  else
    if (gi m a0 4) ≤ a1 then
      some 0
    else
      (if aa t (gr m a0 0) .int = true then
      if (Int32.ofNat (ln t (gr m a0 0))) ≤ a1 then
        some 0
      else
        (if ar t (gr m a0 0) .int a1 = true then
        some (gi m (gr m a0 0) (ix a1))
        else none)
      else none)
set_option maxRecDepth 4000 in
set_option maxHeartbeats 4000000 in
theorem sm_X2_fallingAt (t : List Sh) (m : Mi) (a0 : Nat) (a1 : Int32) (h0 : sh t a0 = some (.inl 2)) : Sm u_X2_fallingAt (1, 0, 0, t.length, zs t) (kIo t m) 0 [(0, .inr (.inr a0)), (1, .inl a1)] [] (t, m) (f_X2_fallingAt t m a0 a1) := by
  unfold f_X2_fallingAt
  refine r_iload_n 0 1 1 rfl rfl rfl rfl ?_
  refine r_if_lt 1 30 4 rfl rfl rfl (fun h1 => ?_) (fun h1 => ?_)
  · refine r_iconst 16 31 (v := 0) rfl rfl (by decide) ?_
    exact r_iret 17 rfl rfl rfl
  · refine r_iload_n 2 5 1 rfl rfl rfl rfl ?_
    refine r_aload_n 3 6 0 rfl rfl rfl rfl ?_
    refine r_getI 4 9 rfl rfl fl_RX2_25 rfl h0 ?_
    refine r_icmp_ge 5 30 12 rfl rfl rfl (fun h2 => ?_) (fun h2 => ?_)
    · refine r_iconst 16 31 (v := 0) rfl rfl (by decide) ?_
      exact r_iret 17 rfl rfl rfl
    · refine r_iload_n 6 13 1 rfl rfl rfl rfl ?_
      refine r_aload_n 7 14 0 rfl rfl rfl rfl ?_
      refine r_getR 8 17 rfl rfl fl_RX2_9 rfl h0 ?_
      refine r_gd (fun h3 => ?_)
      refine r_alen 9 18 0 rfl rfl (fun _ => rfl) h3 ?_
      refine r_icmp_ge 10 30 21 rfl rfl rfl (fun h4 => ?_) (fun h4 => ?_)
      · refine r_iconst 16 31 (v := 0) rfl rfl (by decide) ?_
        exact r_iret 17 rfl rfl rfl
      · refine r_aload_n 11 22 0 rfl rfl rfl rfl ?_
        refine r_getR 12 25 rfl rfl fl_RX2_9 rfl h0 ?_
        refine r_iload_n 13 26 1 rfl rfl rfl rfl ?_
        refine r_gd (fun h5 => ?_)
        refine r_iald 14 27 rfl rfl h5 ?_
        refine r_goto 15 31 rfl rfl ?_
        exact r_iret 17 rfl rfl rfl
theorem ct_X2_fallingAt {t : List Sh} {m : Mi} {a0 : Nat} {a1 : Int32} {v : Int32}  (h0 : sh t a0 = some (.inl 2)) (h : f_X2_fallingAt t m a0 a1 = some v) : Ct u_X2_fallingAt 1 0 0 [.inr (.inr a0), .inl a1] (t, m) (some (.inl v), (t, m)) :=
  ct_of (by decide) tk_X2_fallingAt (Nat.le_of_ble_eq_true rfl) (sm_X2_fallingAt t m a0 a1 h0) (by rw [h]; rfl) (Nat.le_refl _) (Nat.le_refl _)
theorem lk_RX2_1 : Cond.methodLink RX2 1 Lib.objectInit ∈ TB := tbm 279 (by decide +kernel) rfl
theorem fl_RX2_15 : FL RX2 15 2 1 false := ⟨RX2, TX2, 5, rfl, inW2, tyX2_ok, nmX2, by decide, rfl, rfl, rfl, tbm 281 (by decide +kernel) rfl⟩
theorem fl_RX2_19 : FL RX2 19 2 2 false := ⟨RX2, TX2, 5, rfl, inW2, tyX2_ok, nmX2, by decide, rfl, rfl, rfl, tbm 284 (by decide +kernel) rfl⟩
theorem fl_RX2_22 : FL RX2 22 2 3 false := ⟨RX2, TX2, 5, rfl, inW2, tyX2_ok, nmX2, by decide, rfl, rfl, rfl, tbm 287 (by decide +kernel) rfl⟩
def tb_X2_init : Tb := [(0, (.aload_n 0, 1)), (1, (.invokespecial 1, 3)), (4, (.aload_n 0, 1)), (5, (.bipush 6, 2)), (7, (.newarray .int, 2)), (9, (.putfield 9, 3)), (12, (.aload_n 0, 1)), (13, (.iconst 0, 1)), (14, (.putfield 15, 3)), (17, (.aload_n 0, 1)), (18, (.iconst 0, 1)), (19, (.putfield 19, 3)), (22, (.aload_n 0, 1)), (23, (.iconst 0, 1)), (24, (.putfield 22, 3)), (27, (.aload_n 0, 1)), (28, (.iconst 0, 1)), (29, (.putfield 25, 3)), (32, (.return_, 1))]
def u_X2_init : Fx := (yX2_init, (cX2_init, (1, (none, tb_X2_init))))
theorem tk_X2_init : ∀ q ∈ u_X2_init.2.2.2.2, decode u_X2_init.2.1 q.1 = .ok q.2 := by decide +kernel
theorem mc_X2_init : MC u_X2_init 0 := ⟨tbm 278 (by decide +kernel) rfl, tbm 122 (by decide +kernel) rfl, ⟨by decide, by decide, by decide +kernel⟩, by decide⟩
theorem ini_X2_init : Cond.instanceMethod u_X2_init.1 ∈ TB := tbm 277 (by decide +kernel) rfl
set_option maxRecDepth 20000 in
def f_X2_init (t : List Sh) (m : Mi) (a0 : Nat) : Option (Mm) :=
  (if t.length < 1000000 then
  lt (t.length + 1) fun r2 =>
  lt (t ++ [.inr (.int, ix 6)]) fun t3 =>
  lt (zr m (t.length + 1)) fun m4 =>
  (if ob t3 a0 2 = true then
  lt (sr m4 a0 0 r2) fun m6 =>
  lt (si m6 a0 1 0) fun m7 =>
  lt (si m7 a0 2 0) fun m8 =>
  lt (si m8 a0 3 0) fun m9 =>
  lt (si m9 a0 4 0) fun m10 =>
  some (t3, m10)
  else none)
  else none)
set_option maxRecDepth 40000 in
set_option maxHeartbeats 4000000 in
theorem sm_X2_init (e2 : Nat × (Nat × (Nat × Nat))) (t : List Sh) (m : Mi) (a0 : Nat) (h0 : sh t a0 = some (.inl 2)) : Sm u_X2_init (1, e2) kA 0 [(0, .inr (.inr a0))] [] (t, m) (f_X2_init t m a0) := by
  unfold f_X2_init
  refine r_aload_n 0 1 0 rfl rfl rfl rfl ?_
  refine r_objI 1 4 rfl rfl lk_RX2_1 (Nat.le_of_ble_eq_true rfl) (Nat.le_of_ble_eq_true rfl) h0 ?_
  refine r_aload_n 2 5 0 rfl rfl rfl rfl ?_
  refine r_bipush 3 7 (v := 6) rfl rfl (by decide) ?_
  refine r_gd (fun h1 => ?_)
  refine r_newa 4 9 (ty := .int) (q := 0) rfl rfl h1 rfl (by decide) (fun _ => rfl) wd_231 (by decide) (by decide) ?_
  refine r_ltR (fun r2 => ?_)
  refine r_ltT (fun t3 => ?_)
  refine r_ltM (fun m4 => ?_)
  refine r_gd (fun h5 => ?_)
  refine r_putR 5 12 rfl rfl fl_RX2_9 (fun _ => ⟨rfl, rfl⟩) rfl (ob_sh h5) ?_
  refine r_ltM (fun m6 => ?_)
  refine r_aload_n 6 13 0 rfl rfl rfl rfl ?_
  refine r_iconst 7 14 (v := 0) rfl rfl (by decide) ?_
  refine r_putI 8 17 rfl rfl fl_RX2_15 (fun h => by cases h) (Or.inl rfl) (ob_sh h5) ?_
  refine r_ltM (fun m7 => ?_)
  refine r_aload_n 9 18 0 rfl rfl rfl rfl ?_
  refine r_iconst 10 19 (v := 0) rfl rfl (by decide) ?_
  refine r_putI 11 22 rfl rfl fl_RX2_19 (fun h => by cases h) (Or.inl rfl) (ob_sh h5) ?_
  refine r_ltM (fun m8 => ?_)
  refine r_aload_n 12 23 0 rfl rfl rfl rfl ?_
  refine r_iconst 13 24 (v := 0) rfl rfl (by decide) ?_
  refine r_putI 14 27 rfl rfl fl_RX2_22 (fun h => by cases h) (Or.inl rfl) (ob_sh h5) ?_
  refine r_ltM (fun m9 => ?_)
  refine r_aload_n 15 28 0 rfl rfl rfl rfl ?_
  refine r_iconst 16 29 (v := 0) rfl rfl (by decide) ?_
  refine r_putI 17 32 rfl rfl fl_RX2_25 (fun h => by cases h) (Or.inl rfl) (ob_sh h5) ?_
  refine r_ltM (fun m10 => ?_)
  exact r_vret 18 rfl rfl rfl
theorem mn_X2_init {t : List Sh} {m : Mi} {a0 : Nat} {q : Mm} (h0 : sh t a0 = some (.inl 2)) (h : f_X2_init t m a0 = some q) : t.length ≤ q.1.length ∧ zs t ≤ zs q.1 := ((sm_X2_init (0, 0, 0, 0) t m a0 h0) (none, q) (by rw [h]; rfl)).1
theorem ct_X2_init {t : List Sh} {m : Mi} {a0 : Nat} {q : Mm} (h0 : sh t a0 = some (.inl 2)) (h : f_X2_init t m a0 = some q) : Ct u_X2_init 1 (q.1.length - t.length) (zs q.1 - zs t) [.inr (.inr a0)] (t, m) (none, q) := by
  have hm := mn_X2_init h0 h
  exact ct_of (by decide) tk_X2_init (Nat.le_of_ble_eq_true rfl) (sm_X2_init (q.1.length - t.length, zs q.1 - zs t, t.length, zs t) t m a0 h0) (by rw [h]; rfl) (by show q.1.length ≤ t.length + (q.1.length - t.length); omega) (by show zs q.1 ≤ zs t + (zs q.1 - zs t); omega)
theorem lk_RX2_28 : Cond.methodLink RX2 28 Lib.Math.min.name ∈ TB := tbm 794 (by decide +kernel) rfl
def tb_X2_insertRelease : Tb := [(0, (.aload_n 0, 1)), (1, (.getfield 25, 3)), (4, (.aload_n 0, 1)), (5, (.getfield 9, 3)), (8, (.arraylength, 1)), (9, (.iconst 1, 1)), (10, (.isub, 1)), (11, (.invokestatic 28, 3)), (14, (.istore_n 2, 1)), (15, (.iload_n 2, 1)), (16, (.iload_n 1, 1)), (17, (.if_icmp .le 27, 3)), (20, (.iload_n 2, 1)), (21, (.ifCond .le 23, 3)), (24, (.aload_n 0, 1)), (25, (.getfield 9, 3)), (28, (.iload_n 2, 1)), (29, (.aload_n 0, 1)), (30, (.getfield 9, 3)), (33, (.iload_n 2, 1)), (34, (.iconst 1, 1)), (35, (.isub, 1)), (36, (.iaload, 1)), (37, (.iastore, 1)), (38, (.iinc 2 (-1), 3)), (41, (.goto (-26), 3)), (44, (.iload_n 1, 1)), (45, (.ifCond .lt 22, 3)), (48, (.iload_n 1, 1)), (49, (.aload_n 0, 1)), (50, (.getfield 9, 3)), (53, (.arraylength, 1)), (54, (.if_icmp .ge 13, 3)), (57, (.aload_n 0, 1)), (58, (.getfield 9, 3)), (61, (.iload_n 1, 1)), (62, (.aload_n 0, 1)), (63, (.getfield 25, 3)), (66, (.iastore, 1)), (67, (.aload_n 0, 1)), (68, (.dup, 1)), (69, (.getfield 25, 3)), (72, (.iconst 1, 1)), (73, (.iadd, 1)), (74, (.putfield 25, 3)), (77, (.return_, 1))]
def u_X2_insertRelease : Fx := (yX2_insertRelease, (cX2_insertRelease, (3, (none, tb_X2_insertRelease))))
theorem tk_X2_insertRelease : ∀ q ∈ u_X2_insertRelease.2.2.2.2, decode u_X2_insertRelease.2.1 q.1 = .ok q.2 := by decide +kernel
theorem mc_X2_insertRelease : MC u_X2_insertRelease 1 := ⟨tbm 793 (by decide +kernel) rfl, tbm 122 (by decide +kernel) rfl, ⟨by decide, by decide, by decide +kernel⟩, by decide⟩
theorem in_X2_insertRelease : Cond.instanceMethod u_X2_insertRelease.1 ∈ TB ∧ Cond.selects u_X2_insertRelease.1.cls u_X2_insertRelease.1 u_X2_insertRelease.1 ∈ TB := ⟨tbm 791 (by decide +kernel) rfl, tbm 792 (by decide +kernel) rfl⟩
def f_X2_insertRelease_j67 (t : List Sh) (m : Mi) (a0 : Nat) : Option (Mi) :=
  lt (si m a0 4 ((gi m a0 4) + 1)) fun m3 =>
  some m3
def f_X2_insertRelease_j44 (t : List Sh) (m : Mi) (a0 : Nat) (a1 : Int32) : Option (Mi) :=
  if a1 < 0 then
    f_X2_insertRelease_j67 t m a0
  else
    (if aa t (gr m a0 0) .int = true then
    if (Int32.ofNat (ln t (gr m a0 0))) ≤ a1 then
      f_X2_insertRelease_j67 t m a0
    else
      (if ar t (gr m a0 0) .int a1 = true then
      lt (si m (gr m a0 0) (ix a1) (gi m a0 4)) fun m8 =>
      f_X2_insertRelease_j67 t m8 a0
      else none)
    else none)
def f_X2_insertRelease_l15 (t : List Sh) (m : Mi) (a0 : Nat) (a1 : Int32) (a2 : Int32) : Option ((Int32 × Mi) ⊕ ((Mi))) :=
  if a2 ≤ a1 then
    some (.inr m)
  else
    if a2 ≤ 0 then
      some (.inr m)
    else
      (if ar t (gr m a0 0) .int (a2 - 1) = true then
      (if ar t (gr m a0 0) .int a2 = true then
      lt (si m (gr m a0 0) (ix a2) (gi m (gr m a0 0) (ix (a2 - 1)))) fun m13 =>
      lt (a2 + (-1)) fun x14 =>
      some (.inl (x14, m13))
      else none)
      else none)
def f_X2_insertRelease_j15 (t : List Sh) (m : Mi) (a0 : Nat) (a1 : Int32) (a2 : Int32) : Option (Mi) :=
  (lp (fun x : Int32 × Mi => f_X2_insertRelease_l15 t x.2 a0 a1 x.1) FUEL (a2, m)).bind (fun y : Mi => f_X2_insertRelease_j44 t y a0 a1)
def f_X2_insertRelease (t : List Sh) (m : Mi) (a0 : Nat) (a1 : Int32) : Option (Mi) :=
  (if aa t (gr m a0 0) .int = true then
  lt (if ((Int32.ofNat (ln t (gr m a0 0))) - 1) < (gi m a0 4) then ((Int32.ofNat (ln t (gr m a0 0))) - 1) else (gi m a0 4)) fun x2 =>
  f_X2_insertRelease_j15 t m a0 a1 x2
  else none)
set_option maxRecDepth 4000 in
set_option maxHeartbeats 4000000 in
theorem sm_X2_insertRelease (t : List Sh) (m : Mi) (a0 : Nat) (a1 : Int32) (h0 : sh t a0 = some (.inl 2)) : Sm u_X2_insertRelease (1, 0, 0, t.length, zs t) (kV t) 0 [(0, .inr (.inr a0)), (1, .inl a1)] [] (t, m) (f_X2_insertRelease t m a0 a1) := by
  unfold f_X2_insertRelease
  refine r_aload_n 0 1 0 rfl rfl rfl rfl ?_
  refine r_getI 1 4 rfl rfl fl_RX2_25 rfl h0 ?_
  refine r_aload_n 2 5 0 rfl rfl rfl rfl ?_
  refine r_getR 3 8 rfl rfl fl_RX2_9 rfl h0 ?_
  refine r_gd (fun h1 => ?_)
  refine r_alen 4 9 0 rfl rfl (fun _ => rfl) h1 ?_
  refine r_iconst 5 10 (v := 1) rfl rfl (by decide) ?_
  refine r_isub 6 11 rfl rfl ?_
  refine r_minI 7 14 rfl rfl lk_RX2_28 (Nat.le_of_ble_eq_true rfl) (Nat.le_of_ble_eq_true rfl) ?_
  refine r_ltI (fun x2 => ?_)
  refine r_istore_n 8 15 (L' := [(2, .inl x2), (0, .inr (.inr a0)), (1, .inl a1)]) rfl rfl rfl (by decide) rfl ?_
  have hj15 : ∀ (m : Mi) (a2 : Int32), Sm u_X2_insertRelease (1, 0, 0, t.length, zs t) (kV t) 15 [(0, .inr (.inr a0)), (1, .inl a1), (2, .inl a2)] [] (t, m) (f_X2_insertRelease_j15 t m a0 a1 a2) := by
    intro m a2
    unfold f_X2_insertRelease_j15
    have hj44 : ∀ (m : Mi), Sm u_X2_insertRelease (1, 0, 0, t.length, zs t) (kV t) 44 [(0, .inr (.inr a0)), (1, .inl a1)] [] (t, m) (f_X2_insertRelease_j44 t m a0 a1) := by
      intro m
      unfold f_X2_insertRelease_j44
      refine r_iload_n 26 45 1 rfl rfl rfl rfl ?_
      have hj67 : ∀ (m : Mi), Sm u_X2_insertRelease (1, 0, 0, t.length, zs t) (kV t) 67 [(0, .inr (.inr a0))] [] (t, m) (f_X2_insertRelease_j67 t m a0) := by
        intro m
        unfold f_X2_insertRelease_j67
        refine r_aload_n 39 68 0 rfl rfl rfl rfl ?_
        refine r_dup 40 69 rfl rfl rfl ?_
        refine r_getI 41 72 rfl rfl fl_RX2_25 rfl h0 ?_
        refine r_iconst 42 73 (v := 1) rfl rfl (by decide) ?_
        refine r_iadd 43 74 rfl rfl ?_
        refine r_putI 44 77 rfl rfl fl_RX2_25 (fun h => by cases h) (Or.inl rfl) h0 ?_
        refine r_ltM (fun m3 => ?_)
        exact r_vret 45 rfl rfl rfl
      refine r_if_lt 27 67 48 rfl rfl rfl (fun h4 => ?_) (fun h4 => ?_)
      · exact r_sub [0] rfl (hj67 m)
      · refine r_iload_n 28 49 1 rfl rfl rfl rfl ?_
        refine r_aload_n 29 50 0 rfl rfl rfl rfl ?_
        refine r_getR 30 53 rfl rfl fl_RX2_9 rfl h0 ?_
        refine r_gd (fun h5 => ?_)
        refine r_alen 31 54 0 rfl rfl (fun _ => rfl) h5 ?_
        refine r_icmp_ge 32 67 57 rfl rfl rfl (fun h6 => ?_) (fun h6 => ?_)
        · exact r_sub [0] rfl (hj67 m)
        · refine r_aload_n 33 58 0 rfl rfl rfl rfl ?_
          refine r_getR 34 61 rfl rfl fl_RX2_9 rfl h0 ?_
          refine r_iload_n 35 62 1 rfl rfl rfl rfl ?_
          refine r_aload_n 36 63 0 rfl rfl rfl rfl ?_
          refine r_getI 37 66 rfl rfl fl_RX2_25 rfl h0 ?_
          refine r_gd (fun h7 => ?_)
          refine r_iast 38 67 rfl rfl h7 ?_
          refine r_ltM (fun m8 => ?_)
          exact r_sub [0] rfl (hj67 m8)
    refine r_lp (Lf := fun x : Int32 × Mi => [(0, .inr (.inr a0)), (1, .inl a1), (2, .inl (x.1))]) (Mf := fun x : Int32 × Mi => (t, x.2)) (a2, m) ?_ FUEL
    rintro ⟨a2, m⟩ κ15 hc15 he15
    refine r_eq (L' := [(0, .inr (.inr a0)), (1, .inl a1), (2, .inl a2)]) (M' := (t, m)) rfl rfl ?_
    refine r_eqr (r' := f_X2_insertRelease_l15 t m a0 a1 a2) rfl ?_
    unfold f_X2_insertRelease_l15
    refine r_iload_n 9 16 2 rfl rfl rfl rfl ?_
    refine r_iload_n 10 17 1 rfl rfl rfl rfl ?_
    refine r_icmp_le 11 44 20 rfl rfl rfl (fun h9 => ?_) (fun h9 => ?_)
    · refine r_leaf (r2 := (f_X2_insertRelease_j44 t m a0 a1 : Option (Mi))) (he15 _) ?_
      exact r_sub [0, 1] rfl (hj44 m)
    · refine r_iload_n 12 21 2 rfl rfl rfl rfl ?_
      refine r_if_le 13 44 24 rfl rfl rfl (fun h10 => ?_) (fun h10 => ?_)
      · refine r_leaf (r2 := (f_X2_insertRelease_j44 t m a0 a1 : Option (Mi))) (he15 _) ?_
        exact r_sub [0, 1] rfl (hj44 m)
      · refine r_aload_n 14 25 0 rfl rfl rfl rfl ?_
        refine r_getR 15 28 rfl rfl fl_RX2_9 rfl h0 ?_
        refine r_iload_n 16 29 2 rfl rfl rfl rfl ?_
        refine r_aload_n 17 30 0 rfl rfl rfl rfl ?_
        refine r_getR 18 33 rfl rfl fl_RX2_9 rfl h0 ?_
        refine r_iload_n 19 34 2 rfl rfl rfl rfl ?_
        refine r_iconst 20 35 (v := 1) rfl rfl (by decide) ?_
        refine r_isub 21 36 rfl rfl ?_
        refine r_gd (fun h11 => ?_)
        refine r_iald 22 37 rfl rfl h11 ?_
        refine r_gd (fun h12 => ?_)
        refine r_iast 23 38 rfl rfl h12 ?_
        refine r_ltM (fun m13 => ?_)
        refine r_iinc 24 41 2 (L' := [(2, .inl (a2 + (-1))), (0, .inr (.inr a0)), (1, .inl a1)]) rfl rfl rfl (by decide) rfl ?_
        refine r_ltV (fun x14 => ?_)
        refine r_goto 25 15 rfl rfl ?_
        exact r_sub [1, 2, 0] rfl (hc15 (x14, m13))
  exact r_sub [1, 2, 0] rfl (hj15 m x2)
theorem ct_X2_insertRelease {t : List Sh} {m : Mi} {a0 : Nat} {a1 : Int32} {m' : Mi}  (h0 : sh t a0 = some (.inl 2)) (h : f_X2_insertRelease t m a0 a1 = some m') : Ct u_X2_insertRelease 1 0 0 [.inr (.inr a0), .inl a1] (t, m) (none, (t, m')) :=
  ct_of (by decide) tk_X2_insertRelease (Nat.le_of_ble_eq_true rfl) (sm_X2_insertRelease t m a0 a1 h0) (by rw [h]; rfl) (Nat.le_refl _) (Nat.le_refl _)
theorem fl_RX6_46 : FL RX6 46 6 4 false := ⟨RX6, TX6, 11, rfl, inW6, tyX6_ok, nmX6, by decide, rfl, rfl, rfl, tbm 411 (by decide +kernel) rfl⟩
theorem fl_RX6_17 : FL RX6 17 6 1 true := ⟨RX6, TX6, 11, rfl, inW6, tyX6_ok, nmX6, by decide, rfl, rfl, rfl, tbm 408 (by decide +kernel) rfl⟩
theorem fl_RX6_179 : FL RX6 179 2 1 false := ⟨RX2, TX2, 5, rfl, inW2, tyX2_ok, nmX2, by decide, rfl, rfl, rfl, tbm 283 (by decide +kernel) rfl⟩
theorem fl_RX6_180 : FL RX6 180 2 2 false := ⟨RX2, TX2, 5, rfl, inW2, tyX2_ok, nmX2, by decide, rfl, rfl, rfl, tbm 286 (by decide +kernel) rfl⟩
theorem fl_RX6_50 : FL RX6 50 6 5 false := ⟨RX6, TX6, 11, rfl, inW6, tyX6_ok, nmX6, by decide, rfl, rfl, rfl, tbm 412 (by decide +kernel) rfl⟩
theorem fl_RX6_71 : FL RX6 71 2 3 false := ⟨RX2, TX2, 5, rfl, inW2, tyX2_ok, nmX2, by decide, rfl, rfl, rfl, tbm 289 (by decide +kernel) rfl⟩
theorem fl_RX6_69 : FL RX6 69 2 4 false := ⟨RX2, TX2, 5, rfl, inW2, tyX2_ok, nmX2, by decide, rfl, rfl, rfl, tbm 292 (by decide +kernel) rfl⟩
def tb_X6_addPack : Tb := [(0, (.aload_n 0, 1)), (1, (.getfield 46, 3)), (4, (.bipush 10, 2)), (6, (.if_icmp .ge 46, 3)), (9, (.aload_n 0, 1)), (10, (.getfield 17, 3)), (13, (.aload_n 0, 1)), (14, (.getfield 46, 3)), (17, (.aaload, 1)), (18, (.astore_n 3, 1)), (19, (.aload_n 3, 1)), (20, (.iload_n 1, 1)), (21, (.putfield 179, 3)), (24, (.aload_n 3, 1)), (25, (.iload_n 2, 1)), (26, (.putfield 180, 3)), (29, (.aload_n 3, 1)), (30, (.aload_n 0, 1)), (31, (.getfield 50, 3)), (34, (.putfield 71, 3)), (37, (.aload_n 3, 1)), (38, (.iconst 0, 1)), (39, (.putfield 69, 3)), (42, (.aload_n 0, 1)), (43, (.dup, 1)), (44, (.getfield 46, 3)), (47, (.iconst 1, 1)), (48, (.iadd, 1)), (49, (.putfield 46, 3)), (52, (.return_, 1))]
def u_X6_addPack : Fx := (yX6_addPack, (cX6_addPack, (4, (none, tb_X6_addPack))))
theorem tk_X6_addPack : ∀ q ∈ u_X6_addPack.2.2.2.2, decode u_X6_addPack.2.1 q.1 = .ok q.2 := by decide +kernel
theorem mc_X6_addPack : MC u_X6_addPack 2 := ⟨tbm 766 (by decide +kernel) rfl, tbm 121 (by decide +kernel) rfl, ⟨by decide, by decide, by decide +kernel⟩, by decide⟩
theorem in_X6_addPack : Cond.instanceMethod u_X6_addPack.1 ∈ TB ∧ Cond.selects u_X6_addPack.1.cls u_X6_addPack.1 u_X6_addPack.1 ∈ TB := ⟨tbm 765 (by decide +kernel) rfl, tbm 21 (by decide +kernel) rfl⟩
def f_X6_addPack (t : List Sh) (m : Mi) (a0 : Nat) (a1 : Int32) (a2 : Int32) : Option (Mi) :=
  if 10 ≤ (gi m a0 4) then
    some m
  else
    (if ar t (gr m a0 1) (.object RX2) (gi m a0 4) = true then
    lt (gr m (gr m a0 1) (ix (gi m a0 4))) fun x3 =>
    (if ob t x3 2 = true then
    lt (si m x3 1 a1) fun m5 =>
    lt (si m5 x3 2 a2) fun m6 =>
    lt (si m6 x3 3 (gi m6 a0 5)) fun m7 =>
    lt (si m7 x3 4 0) fun m8 =>
    lt (si m8 a0 4 ((gi m8 a0 4) + 1)) fun m9 =>
    some m9
    else none)
    else none)
set_option maxRecDepth 4000 in
set_option maxHeartbeats 4000000 in
theorem sm_X6_addPack (t : List Sh) (m : Mi) (a0 : Nat) (a1 : Int32) (a2 : Int32) (h0 : sh t a0 = some (.inl 6)) : Sm u_X6_addPack (1, 0, 0, t.length, zs t) (kV t) 0 [(0, .inr (.inr a0)), (1, .inl a1), (2, .inl a2)] [] (t, m) (f_X6_addPack t m a0 a1 a2) := by
  unfold f_X6_addPack
  refine r_aload_n 0 1 0 rfl rfl rfl rfl ?_
  refine r_getI 1 4 rfl rfl fl_RX6_46 rfl h0 ?_
  refine r_bipush 2 6 (v := 10) rfl rfl (by decide) ?_
  refine r_icmp_ge 3 52 9 rfl rfl rfl (fun h1 => ?_) (fun h1 => ?_)
  · exact r_vret 29 rfl rfl rfl
  · refine r_aload_n 4 10 0 rfl rfl rfl rfl ?_
    refine r_getR 5 13 rfl rfl fl_RX6_17 rfl h0 ?_
    refine r_aload_n 6 14 0 rfl rfl rfl rfl ?_
    refine r_getI 7 17 rfl rfl fl_RX6_46 rfl h0 ?_
    refine r_gd (fun h2 => ?_)
    refine r_aald 8 18 5 rfl rfl (fun _ => rfl) h2 ?_
    refine r_ltR (fun x3 => ?_)
    refine r_astore_n 9 19 (L' := [(3, .inr (.inr x3)), (0, .inr (.inr a0)), (1, .inl a1), (2, .inl a2)]) rfl rfl rfl (by decide) rfl ?_
    refine r_aload_n 10 20 0 rfl rfl rfl rfl ?_
    refine r_iload_n 11 21 2 rfl rfl rfl rfl ?_
    refine r_gd (fun h4 => ?_)
    refine r_putI 12 24 rfl rfl fl_RX6_179 (fun h => by cases h) (Or.inl rfl) (ob_sh h4) ?_
    refine r_ltM (fun m5 => ?_)
    refine r_aload_n 13 25 0 rfl rfl rfl rfl ?_
    refine r_iload_n 14 26 3 rfl rfl rfl rfl ?_
    refine r_putI 15 29 rfl rfl fl_RX6_180 (fun h => by cases h) (Or.inl rfl) (ob_sh h4) ?_
    refine r_ltM (fun m6 => ?_)
    refine r_aload_n 16 30 0 rfl rfl rfl rfl ?_
    refine r_aload_n 17 31 1 rfl rfl rfl rfl ?_
    refine r_getI 18 34 rfl rfl fl_RX6_50 rfl h0 ?_
    refine r_putI 19 37 rfl rfl fl_RX6_71 (fun h => by cases h) (Or.inl rfl) (ob_sh h4) ?_
    refine r_ltM (fun m7 => ?_)
    refine r_aload_n 20 38 0 rfl rfl rfl rfl ?_
    refine r_iconst 21 39 (v := 0) rfl rfl (by decide) ?_
    refine r_putI 22 42 rfl rfl fl_RX6_69 (fun h => by cases h) (Or.inl rfl) (ob_sh h4) ?_
    refine r_ltM (fun m8 => ?_)
    refine r_aload_n 23 43 1 rfl rfl rfl rfl ?_
    refine r_dup 24 44 rfl rfl rfl ?_
    refine r_getI 25 47 rfl rfl fl_RX6_46 rfl h0 ?_
    refine r_iconst 26 48 (v := 1) rfl rfl (by decide) ?_
    refine r_iadd 27 49 rfl rfl ?_
    refine r_putI 28 52 rfl rfl fl_RX6_46 (fun h => by cases h) (Or.inl rfl) h0 ?_
    refine r_ltM (fun m9 => ?_)
    exact r_vret 29 rfl rfl rfl
theorem ct_X6_addPack {t : List Sh} {m : Mi} {a0 : Nat} {a1 : Int32} {a2 : Int32} {m' : Mi}  (h0 : sh t a0 = some (.inl 6)) (h : f_X6_addPack t m a0 a1 a2 = some m') : Ct u_X6_addPack 1 0 0 [.inr (.inr a0), .inl a1, .inl a2] (t, m) (none, (t, m')) :=
  ct_of (by decide) tk_X6_addPack (Nat.le_of_ble_eq_true rfl) (sm_X6_addPack t m a0 a1 a2 h0) (by rw [h]; rfl) (Nat.le_refl _) (Nat.le_refl _)
theorem fl_RX6_53 : FL RX6 53 6 6 false := ⟨RX6, TX6, 11, rfl, inW6, tyX6_ok, nmX6, by decide, rfl, rfl, rfl, tbm 413 (by decide +kernel) rfl⟩
theorem fl_RX6_56 : FL RX6 56 6 7 false := ⟨RX6, TX6, 11, rfl, inW6, tyX6_ok, nmX6, by decide, rfl, rfl, rfl, tbm 414 (by decide +kernel) rfl⟩
theorem fl_RX6_59 : FL RX6 59 6 9 false := ⟨RX6, TX6, 11, rfl, inW6, tyX6_ok, nmX6, by decide, rfl, rfl, rfl, tbm 416 (by decide +kernel) rfl⟩
theorem fl_RX6_62 : FL RX6 62 6 10 false := ⟨RX6, TX6, 11, rfl, inW6, tyX6_ok, nmX6, by decide, rfl, rfl, rfl, tbm 417 (by decide +kernel) rfl⟩
def tb_X6_clear : Tb := [(0, (.aload_n 0, 1)), (1, (.iconst 0, 1)), (2, (.putfield 46, 3)), (5, (.aload_n 0, 1)), (6, (.iconst 0, 1)), (7, (.putfield 50, 3)), (10, (.aload_n 0, 1)), (11, (.iconst 0, 1)), (12, (.putfield 53, 3)), (15, (.aload_n 0, 1)), (16, (.iconst 0, 1)), (17, (.putfield 56, 3)), (20, (.aload_n 0, 1)), (21, (.iconst 0, 1)), (22, (.putfield 59, 3)), (25, (.aload_n 0, 1)), (26, (.iconst 0, 1)), (27, (.putfield 62, 3)), (30, (.return_, 1))]
def u_X6_clear : Fx := (yX6_clear, (cX6_clear, (1, (none, tb_X6_clear))))
theorem tk_X6_clear : ∀ q ∈ u_X6_clear.2.2.2.2, decode u_X6_clear.2.1 q.1 = .ok q.2 := by decide +kernel
theorem mc_X6_clear : MC u_X6_clear 0 := ⟨tbm 404 (by decide +kernel) rfl, tbm 121 (by decide +kernel) rfl, ⟨by decide, by decide, by decide +kernel⟩, by decide⟩
theorem in_X6_clear : Cond.instanceMethod u_X6_clear.1 ∈ TB ∧ Cond.selects u_X6_clear.1.cls u_X6_clear.1 u_X6_clear.1 ∈ TB := ⟨tbm 403 (by decide +kernel) rfl, tbm 0 (by decide +kernel) rfl⟩
def f_X6_clear (t : List Sh) (m : Mi) (a0 : Nat) : Option (Mi) :=
  lt (si m a0 4 0) fun m1 =>
  lt (si m1 a0 5 0) fun m2 =>
  lt (si m2 a0 6 0) fun m3 =>
  lt (si m3 a0 7 0) fun m4 =>
  lt (si m4 a0 9 0) fun m5 =>
  lt (si m5 a0 10 0) fun m6 =>
  some m6
set_option maxRecDepth 4000 in
set_option maxHeartbeats 4000000 in
theorem sm_X6_clear (t : List Sh) (m : Mi) (a0 : Nat) (h0 : sh t a0 = some (.inl 6)) : Sm u_X6_clear (1, 0, 0, t.length, zs t) (kV t) 0 [(0, .inr (.inr a0))] [] (t, m) (f_X6_clear t m a0) := by
  unfold f_X6_clear
  refine r_aload_n 0 1 0 rfl rfl rfl rfl ?_
  refine r_iconst 1 2 (v := 0) rfl rfl (by decide) ?_
  refine r_putI 2 5 rfl rfl fl_RX6_46 (fun h => by cases h) (Or.inl rfl) h0 ?_
  refine r_ltM (fun m1 => ?_)
  refine r_aload_n 3 6 0 rfl rfl rfl rfl ?_
  refine r_iconst 4 7 (v := 0) rfl rfl (by decide) ?_
  refine r_putI 5 10 rfl rfl fl_RX6_50 (fun h => by cases h) (Or.inl rfl) h0 ?_
  refine r_ltM (fun m2 => ?_)
  refine r_aload_n 6 11 0 rfl rfl rfl rfl ?_
  refine r_iconst 7 12 (v := 0) rfl rfl (by decide) ?_
  refine r_putI 8 15 rfl rfl fl_RX6_53 (fun h => by cases h) (Or.inl rfl) h0 ?_
  refine r_ltM (fun m3 => ?_)
  refine r_aload_n 9 16 0 rfl rfl rfl rfl ?_
  refine r_iconst 10 17 (v := 0) rfl rfl (by decide) ?_
  refine r_putI 11 20 rfl rfl fl_RX6_56 (fun h => by cases h) (Or.inl rfl) h0 ?_
  refine r_ltM (fun m4 => ?_)
  refine r_aload_n 12 21 0 rfl rfl rfl rfl ?_
  refine r_iconst 13 22 (v := 0) rfl rfl (by decide) ?_
  refine r_putI 14 25 rfl rfl fl_RX6_59 (fun h => by cases h) (Or.inl rfl) h0 ?_
  refine r_ltM (fun m5 => ?_)
  refine r_aload_n 15 26 0 rfl rfl rfl rfl ?_
  refine r_iconst 16 27 (v := 0) rfl rfl (by decide) ?_
  refine r_putI 17 30 rfl rfl fl_RX6_62 (fun h => by cases h) (Or.inl rfl) h0 ?_
  refine r_ltM (fun m6 => ?_)
  exact r_vret 18 rfl rfl rfl
theorem ct_X6_clear {t : List Sh} {m : Mi} {a0 : Nat} {m' : Mi}  (h0 : sh t a0 = some (.inl 6)) (h : f_X6_clear t m a0 = some m') : Ct u_X6_clear 1 0 0 [.inr (.inr a0)] (t, m) (none, (t, m')) :=
  ct_of (by decide) tk_X6_clear (Nat.le_of_ble_eq_true rfl) (sm_X6_clear t m a0 h0) (by rw [h]; rfl) (Nat.le_refl _) (Nat.le_refl _)
theorem fl_RX6_31 : FL RX6 31 6 3 true := ⟨RX6, TX6, 11, rfl, inW6, tyX6_ok, nmX6, by decide, rfl, rfl, rfl, tbm 410 (by decide +kernel) rfl⟩
def tb_X6_constraintAt : Tb := [(0, (.iload_n 1, 1)), (1, (.ifCond .lt 20, 3)), (4, (.iload_n 1, 1)), (5, (.aload_n 0, 1)), (6, (.getfield 53, 3)), (9, (.if_icmp .ge 12, 3)), (12, (.aload_n 0, 1)), (13, (.getfield 31, 3)), (16, (.iload_n 1, 1)), (17, (.aaload, 1)), (18, (.goto 4, 3)), (21, (.aconst_null, 1)), (22, (.areturn, 1))]
def u_X6_constraintAt : Fx := (yX6_constraintAt, (cX6_constraintAt, (2, ((some (.object "RangeResolver$Constraint")), tb_X6_constraintAt))))
theorem tk_X6_constraintAt : ∀ q ∈ u_X6_constraintAt.2.2.2.2, decode u_X6_constraintAt.2.1 q.1 = .ok q.2 := by decide +kernel
theorem mc_X6_constraintAt : MC u_X6_constraintAt 1 := ⟨tbm 849 (by decide +kernel) rfl, tbm 121 (by decide +kernel) rfl, ⟨by decide, by decide, by decide +kernel⟩, by decide⟩
theorem in_X6_constraintAt : Cond.instanceMethod u_X6_constraintAt.1 ∈ TB ∧ Cond.selects u_X6_constraintAt.1.cls u_X6_constraintAt.1 u_X6_constraintAt.1 ∈ TB := ⟨tbm 847 (by decide +kernel) rfl, tbm 848 (by decide +kernel) rfl⟩
def f_X6_constraintAt (t : List Sh) (m : Mi) (a0 : Nat) (a1 : Int32) : Option (Nat) :=
  if a1 < 0 then
    some 0
  else
    if (gi m a0 6) ≤ a1 then
      some 0
    else
      (if ar t (gr m a0 3) (.object RX0) a1 = true then
      some (gr m (gr m a0 3) (ix a1))
      else none)
set_option maxRecDepth 4000 in
set_option maxHeartbeats 4000000 in
theorem sm_X6_constraintAt (t : List Sh) (m : Mi) (a0 : Nat) (a1 : Int32) (h0 : sh t a0 = some (.inl 6)) : Sm u_X6_constraintAt (1, 0, 0, t.length, zs t) (kRo t m) 0 [(0, .inr (.inr a0)), (1, .inl a1)] [] (t, m) (f_X6_constraintAt t m a0 a1) := by
  unfold f_X6_constraintAt
  refine r_iload_n 0 1 1 rfl rfl rfl rfl ?_
  refine r_if_lt 1 21 4 rfl rfl rfl (fun h1 => ?_) (fun h1 => ?_)
  · refine r_null 11 22 rfl rfl ?_
    exact r_aret 12 rfl rfl rfl rfl
  · refine r_iload_n 2 5 1 rfl rfl rfl rfl ?_
    refine r_aload_n 3 6 0 rfl rfl rfl rfl ?_
    refine r_getI 4 9 rfl rfl fl_RX6_53 rfl h0 ?_
    refine r_icmp_ge 5 21 12 rfl rfl rfl (fun h2 => ?_) (fun h2 => ?_)
    · refine r_null 11 22 rfl rfl ?_
      exact r_aret 12 rfl rfl rfl rfl
    · refine r_aload_n 6 13 0 rfl rfl rfl rfl ?_
      refine r_getR 7 16 rfl rfl fl_RX6_31 rfl h0 ?_
      refine r_iload_n 8 17 1 rfl rfl rfl rfl ?_
      refine r_gd (fun h3 => ?_)
      refine r_aald 9 18 7 rfl rfl (fun _ => rfl) h3 ?_
      refine r_goto 10 22 rfl rfl ?_
      exact r_aret 12 rfl rfl rfl rfl
theorem ct_X6_constraintAt {t : List Sh} {m : Mi} {a0 : Nat} {a1 : Int32} {v : Nat}  (h0 : sh t a0 = some (.inl 6)) (h : f_X6_constraintAt t m a0 a1 = some v) : Ct u_X6_constraintAt 1 0 0 [.inr (.inr a0), .inl a1] (t, m) (some (.inr (.inr v)), (t, m)) :=
  ct_of (by decide) tk_X6_constraintAt (Nat.le_of_ble_eq_true rfl) (sm_X6_constraintAt t m a0 a1 h0) (by rw [h]; rfl) (Nat.le_refl _) (Nat.le_refl _)
def tb_X6_constraints : Tb := [(0, (.aload_n 0, 1)), (1, (.getfield 53, 3)), (4, (.ireturn, 1))]
def u_X6_constraints : Fx := (yX6_constraints, (cX6_constraints, (1, ((some .int), tb_X6_constraints))))
theorem tk_X6_constraints : ∀ q ∈ u_X6_constraints.2.2.2.2, decode u_X6_constraints.2.1 q.1 = .ok q.2 := by decide +kernel
theorem mc_X6_constraints : MC u_X6_constraints 0 := ⟨tbm 845 (by decide +kernel) rfl, tbm 121 (by decide +kernel) rfl, ⟨by decide, by decide, by decide +kernel⟩, by decide⟩
theorem in_X6_constraints : Cond.instanceMethod u_X6_constraints.1 ∈ TB ∧ Cond.selects u_X6_constraints.1.cls u_X6_constraints.1 u_X6_constraints.1 ∈ TB := ⟨tbm 843 (by decide +kernel) rfl, tbm 844 (by decide +kernel) rfl⟩
def f_X6_constraints (t : List Sh) (m : Mi) (a0 : Nat) : Option (Int32) :=
  some (gi m a0 6)
set_option maxRecDepth 4000 in
set_option maxHeartbeats 4000000 in
theorem sm_X6_constraints (t : List Sh) (m : Mi) (a0 : Nat) (h0 : sh t a0 = some (.inl 6)) : Sm u_X6_constraints (1, 0, 0, t.length, zs t) (kIo t m) 0 [(0, .inr (.inr a0))] [] (t, m) (f_X6_constraints t m a0) := by
  unfold f_X6_constraints
  refine r_aload_n 0 1 0 rfl rfl rfl rfl ?_
  refine r_getI 1 4 rfl rfl fl_RX6_53 rfl h0 ?_
  exact r_iret 2 rfl rfl rfl
theorem ct_X6_constraints {t : List Sh} {m : Mi} {a0 : Nat} {v : Int32}  (h0 : sh t a0 = some (.inl 6)) (h : f_X6_constraints t m a0 = some v) : Ct u_X6_constraints 1 0 0 [.inr (.inr a0)] (t, m) (some (.inl v), (t, m)) :=
  ct_of (by decide) tk_X6_constraints (Nat.le_of_ble_eq_true rfl) (sm_X6_constraints t m a0 h0) (by rw [h]; rfl) (Nat.le_refl _) (Nat.le_refl _)
def tb_X6_fail : Tb := [(0, (.aload_n 0, 1)), (1, (.iload_n 1, 1)), (2, (.putfield 62, 3)), (5, (.iconst 0, 1)), (6, (.ireturn, 1))]
def u_X6_fail : Fx := (yX6_fail, (cX6_fail, (2, ((some .boolean), tb_X6_fail))))
theorem tk_X6_fail : ∀ q ∈ u_X6_fail.2.2.2.2, decode u_X6_fail.2.1 q.1 = .ok q.2 := by decide +kernel
theorem mc_X6_fail : MC u_X6_fail 1 := ⟨tbm 742 (by decide +kernel) rfl, tbm 121 (by decide +kernel) rfl, ⟨by decide, by decide, by decide +kernel⟩, by decide⟩
theorem in_X6_fail : Cond.instanceMethod u_X6_fail.1 ∈ TB ∧ Cond.selects u_X6_fail.1.cls u_X6_fail.1 u_X6_fail.1 ∈ TB := ⟨tbm 741 (by decide +kernel) rfl, tbm 17 (by decide +kernel) rfl⟩
def f_X6_fail (t : List Sh) (m : Mi) (a0 : Nat) (a1 : Int32) : Option (Int32 × Mi) :=
  lt (si m a0 10 a1) fun m1 =>
  some (0, m1)
set_option maxRecDepth 4000 in
set_option maxHeartbeats 4000000 in
theorem sm_X6_fail (t : List Sh) (m : Mi) (a0 : Nat) (a1 : Int32) (h0 : sh t a0 = some (.inl 6)) : Sm u_X6_fail (1, 0, 0, t.length, zs t) (kI t) 0 [(0, .inr (.inr a0)), (1, .inl a1)] [] (t, m) (f_X6_fail t m a0 a1) := by
  unfold f_X6_fail
  refine r_aload_n 0 1 0 rfl rfl rfl rfl ?_
  refine r_iload_n 1 2 1 rfl rfl rfl rfl ?_
  refine r_putI 2 5 rfl rfl fl_RX6_62 (fun h => by cases h) (Or.inl rfl) h0 ?_
  refine r_ltM (fun m1 => ?_)
  refine r_iconst 3 6 (v := 0) rfl rfl (by decide) ?_
  exact r_zret 4 rfl rfl (by decide) rfl
theorem ct_X6_fail {t : List Sh} {m : Mi} {a0 : Nat} {a1 : Int32} {m' : Mi} {v : Int32}  (h0 : sh t a0 = some (.inl 6)) (h : f_X6_fail t m a0 a1 = some (v, m')) : Ct u_X6_fail 1 0 0 [.inr (.inr a0), .inl a1] (t, m) (some (.inl v), (t, m')) :=
  ct_of (by decide) tk_X6_fail (Nat.le_of_ble_eq_true rfl) (sm_X6_fail t m a0 a1 h0) (by rw [h]; rfl) (Nat.le_refl _) (Nat.le_refl _)
theorem fl_RX6_11 : FL RX6 11 6 0 true := ⟨RX6, TX6, 11, rfl, inW6, tyX6_ok, nmX6, by decide, rfl, rfl, rfl, tbm 405 (by decide +kernel) rfl⟩
def tb_X6_isSameText : Tb := [(0, (.iload_n 2, 1)), (1, (.iload_n 1, 1)), (2, (.isub, 1)), (3, (.iload 4, 2)), (5, (.iload_n 3, 1)), (6, (.isub, 1)), (7, (.if_icmp .ne 30, 3)), (10, (.iload_n 1, 1)), (11, (.ifCond .lt 26, 3)), (14, (.iload_n 3, 1)), (15, (.ifCond .lt 22, 3)), (18, (.iload_n 2, 1)), (19, (.aload_n 0, 1)), (20, (.getfield 11, 3)), (23, (.arraylength, 1)), (24, (.if_icmp .gt 13, 3)), (27, (.iload 4, 2)), (29, (.aload_n 0, 1)), (30, (.getfield 11, 3)), (33, (.arraylength, 1)), (34, (.if_icmp .le 5, 3)), (37, (.iconst 0, 1)), (38, (.ireturn, 1)), (39, (.iconst 0, 1)), (40, (.istore 5, 2)), (42, (.iload 5, 2)), (44, (.iload_n 2, 1)), (45, (.iload_n 1, 1)), (46, (.isub, 1)), (47, (.if_icmp .ge 32, 3)), (50, (.aload_n 0, 1)), (51, (.getfield 11, 3)), (54, (.iload_n 1, 1)), (55, (.iload 5, 2)), (57, (.iadd, 1)), (58, (.baload, 1)), (59, (.aload_n 0, 1)), (60, (.getfield 11, 3)), (63, (.iload_n 3, 1)), (64, (.iload 5, 2)), (66, (.iadd, 1)), (67, (.baload, 1)), (68, (.if_icmp .eq 5, 3)), (71, (.iconst 0, 1)), (72, (.ireturn, 1)), (73, (.iinc 5 1, 3)), (76, (.goto (-34), 3)), (79, (.iconst 1, 1)), (80, (.ireturn, 1))]
def u_X6_isSameText : Fx := (yX6_isSameText, (cX6_isSameText, (6, ((some .boolean), tb_X6_isSameText))))
theorem tk_X6_isSameText : ∀ q ∈ u_X6_isSameText.2.2.2.2, decode u_X6_isSameText.2.1 q.1 = .ok q.2 := by decide +kernel
theorem mc_X6_isSameText : MC u_X6_isSameText 4 := ⟨tbm 762 (by decide +kernel) rfl, tbm 121 (by decide +kernel) rfl, ⟨by decide, by decide, by decide +kernel⟩, by decide⟩
theorem in_X6_isSameText : Cond.instanceMethod u_X6_isSameText.1 ∈ TB ∧ Cond.selects u_X6_isSameText.1.cls u_X6_isSameText.1 u_X6_isSameText.1 ∈ TB := ⟨tbm 761 (by decide +kernel) rfl, tbm 20 (by decide +kernel) rfl⟩
def f_X6_isSameText_j71 (t : List Sh) (m : Mi) : Option (Int32) :=
  some 0
def f_X6_isSameText_j79 (t : List Sh) (m : Mi) : Option (Int32) :=
  some 1
def f_X6_isSameText_l42 (t : List Sh) (m : Mi) (a0 : Nat) (a1 : Int32) (a2 : Int32) (a3 : Int32) (a5 : Int32) : Option ((Int32) ⊕ ((Unit) ⊕ (Unit))) :=
  if (a2 - a1) ≤ a5 then
    some (.inr (.inl ()))
  else
    (if ar t (gr m a0 0) .byte (a1 + a5) = true then
    (if ar t (gr m a0 0) .byte (a3 + a5) = true then
    if (gi m (gr m a0 0) (ix (a1 + a5))) = (gi m (gr m a0 0) (ix (a3 + a5))) then
      lt (a5 + 1) fun x11 =>
      some (.inl x11)
    else
      some (.inr (.inr ()))
    else none)
    else none)
def f_X6_isSameText_j42 (t : List Sh) (m : Mi) (a0 : Nat) (a1 : Int32) (a2 : Int32) (a3 : Int32) (a5 : Int32) : Option (Int32) :=
  (lp (fun x : Int32 => f_X6_isSameText_l42 t m a0 a1 a2 a3 x) FUEL a5).bind (Sum.elim (fun y : Unit => f_X6_isSameText_j79 t m) (fun y : Unit => f_X6_isSameText_j71 t m))
def f_X6_isSameText (t : List Sh) (m : Mi) (a0 : Nat) (a1 : Int32) (a2 : Int32) (a3 : Int32) (a4 : Int32) : Option (Int32) :=
  if (a2 - a1) = (a4 - a3) then
    if a1 < 0 then
      some 0
    else
      if a3 < 0 then
        some 0
      else
        (if aa t (gr m a0 0) .byte = true then
        if (Int32.ofNat (ln t (gr m a0 0))) < a2 then
          some 0
        else
          if a4 ≤ (Int32.ofNat (ln t (gr m a0 0))) then
            f_X6_isSameText_j42 t m a0 a1 a2 a3 0
          else
            some 0
        else none)
  else
    some 0
set_option maxRecDepth 4000 in
set_option maxHeartbeats 4000000 in
theorem sm_X6_isSameText (t : List Sh) (m : Mi) (a0 : Nat) (a1 : Int32) (a2 : Int32) (a3 : Int32) (a4 : Int32) (h0 : sh t a0 = some (.inl 6)) : Sm u_X6_isSameText (1, 0, 0, t.length, zs t) (kIo t m) 0 [(0, .inr (.inr a0)), (1, .inl a1), (2, .inl a2), (3, .inl a3), (4, .inl a4)] [] (t, m) (f_X6_isSameText t m a0 a1 a2 a3 a4) := by
  unfold f_X6_isSameText
  refine r_iload_n 0 1 2 rfl rfl rfl rfl ?_
  refine r_iload_n 1 2 1 rfl rfl rfl rfl ?_
  refine r_isub 2 3 rfl rfl ?_
  refine r_iload 3 5 4 rfl rfl rfl ?_
  refine r_iload_n 4 6 3 rfl rfl rfl rfl ?_
  refine r_isub 5 7 rfl rfl ?_
  refine r_icmp_ne 6 37 10 rfl rfl rfl (fun h1 => ?_) (fun h1 => ?_)
  · refine r_iload_n 7 11 1 rfl rfl rfl rfl ?_
    refine r_if_lt 8 37 14 rfl rfl rfl (fun h2 => ?_) (fun h2 => ?_)
    · refine r_iconst 21 38 (v := 0) rfl rfl (by decide) ?_
      exact r_zret 22 rfl rfl (by decide) rfl
    · refine r_iload_n 9 15 3 rfl rfl rfl rfl ?_
      refine r_if_lt 10 37 18 rfl rfl rfl (fun h3 => ?_) (fun h3 => ?_)
      · refine r_iconst 21 38 (v := 0) rfl rfl (by decide) ?_
        exact r_zret 22 rfl rfl (by decide) rfl
      · refine r_iload_n 11 19 2 rfl rfl rfl rfl ?_
        refine r_aload_n 12 20 0 rfl rfl rfl rfl ?_
        refine r_getR 13 23 rfl rfl fl_RX6_11 rfl h0 ?_
        refine r_gd (fun h4 => ?_)
        refine r_alen 14 24 2 rfl rfl (fun _ => rfl) h4 ?_
        refine r_icmp_gt 15 37 27 rfl rfl rfl (fun h5 => ?_) (fun h5 => ?_)
        · refine r_iconst 21 38 (v := 0) rfl rfl (by decide) ?_
          exact r_zret 22 rfl rfl (by decide) rfl
        · refine r_iload 16 29 4 rfl rfl rfl ?_
          refine r_aload_n 17 30 0 rfl rfl rfl rfl ?_
          refine r_getR 18 33 rfl rfl fl_RX6_11 rfl h0 ?_
          refine r_alen 19 34 2 rfl rfl (fun _ => rfl) h4 ?_
          refine r_icmp_le 20 39 37 rfl rfl rfl (fun h6 => ?_) (fun h6 => ?_)
          · refine r_iconst 23 40 (v := 0) rfl rfl (by decide) ?_
            refine r_istore 24 42 (L' := [(5, .inl 0), (0, .inr (.inr a0)), (1, .inl a1), (2, .inl a2), (3, .inl a3), (4, .inl a4)]) rfl rfl (by decide) rfl ?_
            have hj42 : ∀ (a5 : Int32), Sm u_X6_isSameText (1, 0, 0, t.length, zs t) (kIo t m) 42 [(0, .inr (.inr a0)), (1, .inl a1), (2, .inl a2), (3, .inl a3), (5, .inl a5)] [] (t, m) (f_X6_isSameText_j42 t m a0 a1 a2 a3 a5) := by
              intro a5
              unfold f_X6_isSameText_j42
              have hj71 : Sm u_X6_isSameText (1, 0, 0, t.length, zs t) (kIo t m) 71 [] [] (t, m) (f_X6_isSameText_j71 t m) := by
                unfold f_X6_isSameText_j71
                refine r_iconst 43 72 (v := 0) rfl rfl (by decide) ?_
                exact r_zret 44 rfl rfl (by decide) rfl
              have hj79 : Sm u_X6_isSameText (1, 0, 0, t.length, zs t) (kIo t m) 79 [] [] (t, m) (f_X6_isSameText_j79 t m) := by
                unfold f_X6_isSameText_j79
                refine r_iconst 47 80 (v := 1) rfl rfl (by decide) ?_
                exact r_zret 48 rfl rfl (by decide) rfl
              refine r_lp (Lf := fun x : Int32 => [(0, .inr (.inr a0)), (1, .inl a1), (2, .inl a2), (3, .inl a3), (5, .inl x)]) (Mf := fun x : Int32 => (t, m)) a5 ?_ FUEL
              rintro a5 κ42 hc42 he42
              refine r_eq (L' := [(0, .inr (.inr a0)), (1, .inl a1), (2, .inl a2), (3, .inl a3), (5, .inl a5)]) (M' := (t, m)) rfl rfl ?_
              refine r_eqr (r' := f_X6_isSameText_l42 t m a0 a1 a2 a3 a5) rfl ?_
              unfold f_X6_isSameText_l42
              refine r_iload 25 44 4 rfl rfl rfl ?_
              refine r_iload_n 26 45 2 rfl rfl rfl rfl ?_
              refine r_iload_n 27 46 1 rfl rfl rfl rfl ?_
              refine r_isub 28 47 rfl rfl ?_
              refine r_icmp_ge 29 79 50 rfl rfl rfl (fun h7 => ?_) (fun h7 => ?_)
              · refine r_leaf (r2 := (f_X6_isSameText_j79 t m : Option (Int32))) (he42 _) ?_
                exact r_sub [] rfl (hj79)
              · refine r_aload_n 30 51 0 rfl rfl rfl rfl ?_
                refine r_getR 31 54 rfl rfl fl_RX6_11 rfl h0 ?_
                refine r_iload_n 32 55 1 rfl rfl rfl rfl ?_
                refine r_iload 33 57 4 rfl rfl rfl ?_
                refine r_iadd 34 58 rfl rfl ?_
                refine r_gd (fun h8 => ?_)
                refine r_bald 35 59 rfl rfl h8 ?_
                refine r_aload_n 36 60 0 rfl rfl rfl rfl ?_
                refine r_getR 37 63 rfl rfl fl_RX6_11 rfl h0 ?_
                refine r_iload_n 38 64 3 rfl rfl rfl rfl ?_
                refine r_iload 39 66 4 rfl rfl rfl ?_
                refine r_iadd 40 67 rfl rfl ?_
                refine r_gd (fun h9 => ?_)
                refine r_bald 41 68 rfl rfl h9 ?_
                refine r_icmp_eq 42 73 71 rfl rfl rfl (fun h10 => ?_) (fun h10 => ?_)
                · refine r_iinc 45 76 4 (L' := [(5, .inl (a5 + 1)), (0, .inr (.inr a0)), (1, .inl a1), (2, .inl a2), (3, .inl a3)]) rfl rfl rfl (by decide) rfl ?_
                  refine r_ltV (fun x11 => ?_)
                  refine r_goto 46 42 rfl rfl ?_
                  exact r_sub [1, 2, 3, 4, 0] rfl (hc42 x11)
                · refine r_leaf (r2 := (f_X6_isSameText_j71 t m : Option (Int32))) (he42 _) ?_
                  exact r_sub [] rfl (hj71)
            exact r_sub [1, 2, 3, 4, 0] rfl (hj42 0)
          · refine r_iconst 21 38 (v := 0) rfl rfl (by decide) ?_
            exact r_zret 22 rfl rfl (by decide) rfl
  · refine r_iconst 21 38 (v := 0) rfl rfl (by decide) ?_
    exact r_zret 22 rfl rfl (by decide) rfl
theorem ct_X6_isSameText {t : List Sh} {m : Mi} {a0 : Nat} {a1 : Int32} {a2 : Int32} {a3 : Int32} {a4 : Int32} {v : Int32}  (h0 : sh t a0 = some (.inl 6)) (h : f_X6_isSameText t m a0 a1 a2 a3 a4 = some v) : Ct u_X6_isSameText 1 0 0 [.inr (.inr a0), .inl a1, .inl a2, .inl a3, .inl a4] (t, m) (some (.inl v), (t, m)) :=
  ct_of (by decide) tk_X6_isSameText (Nat.le_of_ble_eq_true rfl) (sm_X6_isSameText t m a0 a1 a2 a3 a4 h0) (by rw [h]; rfl) (Nat.le_refl _) (Nat.le_refl _)
def tb_X6_links : Tb := [(0, (.aload_n 0, 1)), (1, (.getfield 56, 3)), (4, (.ireturn, 1))]
def u_X6_links : Fx := (yX6_links, (cX6_links, (1, ((some .int), tb_X6_links))))
theorem tk_X6_links : ∀ q ∈ u_X6_links.2.2.2.2, decode u_X6_links.2.1 q.1 = .ok q.2 := by decide +kernel
theorem mc_X6_links : MC u_X6_links 0 := ⟨tbm 1153 (by decide +kernel) rfl, tbm 121 (by decide +kernel) rfl, ⟨by decide, by decide, by decide +kernel⟩, by decide⟩
theorem in_X6_links : Cond.instanceMethod u_X6_links.1 ∈ TB ∧ Cond.selects u_X6_links.1.cls u_X6_links.1 u_X6_links.1 ∈ TB := ⟨tbm 1151 (by decide +kernel) rfl, tbm 1152 (by decide +kernel) rfl⟩
def f_X6_links (t : List Sh) (m : Mi) (a0 : Nat) : Option (Int32) :=
  some (gi m a0 7)
set_option maxRecDepth 4000 in
set_option maxHeartbeats 4000000 in
theorem sm_X6_links (t : List Sh) (m : Mi) (a0 : Nat) (h0 : sh t a0 = some (.inl 6)) : Sm u_X6_links (1, 0, 0, t.length, zs t) (kIo t m) 0 [(0, .inr (.inr a0))] [] (t, m) (f_X6_links t m a0) := by
  unfold f_X6_links
  refine r_aload_n 0 1 0 rfl rfl rfl rfl ?_
  refine r_getI 1 4 rfl rfl fl_RX6_56 rfl h0 ?_
  exact r_iret 2 rfl rfl rfl
theorem ct_X6_links {t : List Sh} {m : Mi} {a0 : Nat} {v : Int32}  (h0 : sh t a0 = some (.inl 6)) (h : f_X6_links t m a0 = some v) : Ct u_X6_links 1 0 0 [.inr (.inr a0)] (t, m) (some (.inl v), (t, m)) :=
  ct_of (by decide) tk_X6_links (Nat.le_of_ble_eq_true rfl) (sm_X6_links t m a0 h0) (by rw [h]; rfl) (Nat.le_refl _) (Nat.le_refl _)
def tb_X6_packAt : Tb := [(0, (.iload_n 1, 1)), (1, (.ifCond .lt 20, 3)), (4, (.iload_n 1, 1)), (5, (.aload_n 0, 1)), (6, (.getfield 46, 3)), (9, (.if_icmp .ge 12, 3)), (12, (.aload_n 0, 1)), (13, (.getfield 17, 3)), (16, (.iload_n 1, 1)), (17, (.aaload, 1)), (18, (.goto 4, 3)), (21, (.aconst_null, 1)), (22, (.areturn, 1))]
def u_X6_packAt : Fx := (yX6_packAt, (cX6_packAt, (2, ((some (.object "RangeResolver$Pack")), tb_X6_packAt))))
theorem tk_X6_packAt : ∀ q ∈ u_X6_packAt.2.2.2.2, decode u_X6_packAt.2.1 q.1 = .ok q.2 := by decide +kernel
theorem mc_X6_packAt : MC u_X6_packAt 1 := ⟨tbm 783 (by decide +kernel) rfl, tbm 121 (by decide +kernel) rfl, ⟨by decide, by decide, by decide +kernel⟩, by decide⟩
theorem in_X6_packAt : Cond.instanceMethod u_X6_packAt.1 ∈ TB ∧ Cond.selects u_X6_packAt.1.cls u_X6_packAt.1 u_X6_packAt.1 ∈ TB := ⟨tbm 781 (by decide +kernel) rfl, tbm 782 (by decide +kernel) rfl⟩
def f_X6_packAt (t : List Sh) (m : Mi) (a0 : Nat) (a1 : Int32) : Option (Nat) :=
  if a1 < 0 then
    some 0
  else
    if (gi m a0 4) ≤ a1 then
      some 0
    else
      (if ar t (gr m a0 1) (.object RX2) a1 = true then
      some (gr m (gr m a0 1) (ix a1))
      else none)
set_option maxRecDepth 4000 in
set_option maxHeartbeats 4000000 in
theorem sm_X6_packAt (t : List Sh) (m : Mi) (a0 : Nat) (a1 : Int32) (h0 : sh t a0 = some (.inl 6)) : Sm u_X6_packAt (1, 0, 0, t.length, zs t) (kRo t m) 0 [(0, .inr (.inr a0)), (1, .inl a1)] [] (t, m) (f_X6_packAt t m a0 a1) := by
  unfold f_X6_packAt
  refine r_iload_n 0 1 1 rfl rfl rfl rfl ?_
  refine r_if_lt 1 21 4 rfl rfl rfl (fun h1 => ?_) (fun h1 => ?_)
  · refine r_null 11 22 rfl rfl ?_
    exact r_aret 12 rfl rfl rfl rfl
  · refine r_iload_n 2 5 1 rfl rfl rfl rfl ?_
    refine r_aload_n 3 6 0 rfl rfl rfl rfl ?_
    refine r_getI 4 9 rfl rfl fl_RX6_46 rfl h0 ?_
    refine r_icmp_ge 5 21 12 rfl rfl rfl (fun h2 => ?_) (fun h2 => ?_)
    · refine r_null 11 22 rfl rfl ?_
      exact r_aret 12 rfl rfl rfl rfl
    · refine r_aload_n 6 13 0 rfl rfl rfl rfl ?_
      refine r_getR 7 16 rfl rfl fl_RX6_17 rfl h0 ?_
      refine r_iload_n 8 17 1 rfl rfl rfl rfl ?_
      refine r_gd (fun h3 => ?_)
      refine r_aald 9 18 5 rfl rfl (fun _ => rfl) h3 ?_
      refine r_goto 10 22 rfl rfl ?_
      exact r_aret 12 rfl rfl rfl rfl
theorem ct_X6_packAt {t : List Sh} {m : Mi} {a0 : Nat} {a1 : Int32} {v : Nat}  (h0 : sh t a0 = some (.inl 6)) (h : f_X6_packAt t m a0 a1 = some v) : Ct u_X6_packAt 1 0 0 [.inr (.inr a0), .inl a1] (t, m) (some (.inr (.inr v)), (t, m)) :=
  ct_of (by decide) tk_X6_packAt (Nat.le_of_ble_eq_true rfl) (sm_X6_packAt t m a0 a1 h0) (by rw [h]; rfl) (Nat.le_refl _) (Nat.le_refl _)
def tb_X6_packs : Tb := [(0, (.aload_n 0, 1)), (1, (.getfield 46, 3)), (4, (.ireturn, 1))]
def u_X6_packs : Fx := (yX6_packs, (cX6_packs, (1, ((some .int), tb_X6_packs))))
theorem tk_X6_packs : ∀ q ∈ u_X6_packs.2.2.2.2, decode u_X6_packs.2.1 q.1 = .ok q.2 := by decide +kernel
theorem mc_X6_packs : MC u_X6_packs 0 := ⟨tbm 1122 (by decide +kernel) rfl, tbm 121 (by decide +kernel) rfl, ⟨by decide, by decide, by decide +kernel⟩, by decide⟩
theorem in_X6_packs : Cond.instanceMethod u_X6_packs.1 ∈ TB ∧ Cond.selects u_X6_packs.1.cls u_X6_packs.1 u_X6_packs.1 ∈ TB := ⟨tbm 1120 (by decide +kernel) rfl, tbm 1121 (by decide +kernel) rfl⟩
def f_X6_packs (t : List Sh) (m : Mi) (a0 : Nat) : Option (Int32) :=
  some (gi m a0 4)
set_option maxRecDepth 4000 in
set_option maxHeartbeats 4000000 in
theorem sm_X6_packs (t : List Sh) (m : Mi) (a0 : Nat) (h0 : sh t a0 = some (.inl 6)) : Sm u_X6_packs (1, 0, 0, t.length, zs t) (kIo t m) 0 [(0, .inr (.inr a0))] [] (t, m) (f_X6_packs t m a0) := by
  unfold f_X6_packs
  refine r_aload_n 0 1 0 rfl rfl rfl rfl ?_
  refine r_getI 1 4 rfl rfl fl_RX6_46 rfl h0 ?_
  exact r_iret 2 rfl rfl rfl
theorem ct_X6_packs {t : List Sh} {m : Mi} {a0 : Nat} {v : Int32}  (h0 : sh t a0 = some (.inl 6)) (h : f_X6_packs t m a0 = some v) : Ct u_X6_packs 1 0 0 [.inr (.inr a0)] (t, m) (some (.inl v), (t, m)) :=
  ct_of (by decide) tk_X6_packs (Nat.le_of_ble_eq_true rfl) (sm_X6_packs t m a0 h0) (by rw [h]; rfl) (Nat.le_refl _) (Nat.le_refl _)
theorem fl_RX6_24 : FL RX6 24 6 2 true := ⟨RX6, TX6, 11, rfl, inW6, tyX6_ok, nmX6, by decide, rfl, rfl, rfl, tbm 409 (by decide +kernel) rfl⟩
def tb_X6_releaseAt : Tb := [(0, (.iload_n 1, 1)), (1, (.ifCond .lt 20, 3)), (4, (.iload_n 1, 1)), (5, (.aload_n 0, 1)), (6, (.getfield 50, 3)), (9, (.if_icmp .ge 12, 3)), (12, (.aload_n 0, 1)), (13, (.getfield 24, 3)), (16, (.iload_n 1, 1)), (17, (.aaload, 1)), (18, (.goto 4, 3)), (21, (.aconst_null, 1)), (22, (.areturn, 1))]
def u_X6_releaseAt : Fx := (yX6_releaseAt, (cX6_releaseAt, (2, ((some (.object "RangeResolver$Release")), tb_X6_releaseAt))))
theorem tk_X6_releaseAt : ∀ q ∈ u_X6_releaseAt.2.2.2.2, decode u_X6_releaseAt.2.1 q.1 = .ok q.2 := by decide +kernel
theorem mc_X6_releaseAt : MC u_X6_releaseAt 1 := ⟨tbm 948 (by decide +kernel) rfl, tbm 121 (by decide +kernel) rfl, ⟨by decide, by decide, by decide +kernel⟩, by decide⟩
theorem in_X6_releaseAt : Cond.instanceMethod u_X6_releaseAt.1 ∈ TB ∧ Cond.selects u_X6_releaseAt.1.cls u_X6_releaseAt.1 u_X6_releaseAt.1 ∈ TB := ⟨tbm 946 (by decide +kernel) rfl, tbm 947 (by decide +kernel) rfl⟩
def f_X6_releaseAt (t : List Sh) (m : Mi) (a0 : Nat) (a1 : Int32) : Option (Nat) :=
  if a1 < 0 then
    some 0
  else
    if (gi m a0 5) ≤ a1 then
      some 0
    else
      (if ar t (gr m a0 2) (.object RX7) a1 = true then
      some (gr m (gr m a0 2) (ix a1))
      else none)
set_option maxRecDepth 4000 in
set_option maxHeartbeats 4000000 in
theorem sm_X6_releaseAt (t : List Sh) (m : Mi) (a0 : Nat) (a1 : Int32) (h0 : sh t a0 = some (.inl 6)) : Sm u_X6_releaseAt (1, 0, 0, t.length, zs t) (kRo t m) 0 [(0, .inr (.inr a0)), (1, .inl a1)] [] (t, m) (f_X6_releaseAt t m a0 a1) := by
  unfold f_X6_releaseAt
  refine r_iload_n 0 1 1 rfl rfl rfl rfl ?_
  refine r_if_lt 1 21 4 rfl rfl rfl (fun h1 => ?_) (fun h1 => ?_)
  · refine r_null 11 22 rfl rfl ?_
    exact r_aret 12 rfl rfl rfl rfl
  · refine r_iload_n 2 5 1 rfl rfl rfl rfl ?_
    refine r_aload_n 3 6 0 rfl rfl rfl rfl ?_
    refine r_getI 4 9 rfl rfl fl_RX6_50 rfl h0 ?_
    refine r_icmp_ge 5 21 12 rfl rfl rfl (fun h2 => ?_) (fun h2 => ?_)
    · refine r_null 11 22 rfl rfl ?_
      exact r_aret 12 rfl rfl rfl rfl
    · refine r_aload_n 6 13 0 rfl rfl rfl rfl ?_
      refine r_getR 7 16 rfl rfl fl_RX6_24 rfl h0 ?_
      refine r_iload_n 8 17 1 rfl rfl rfl rfl ?_
      refine r_gd (fun h3 => ?_)
      refine r_aald 9 18 6 rfl rfl (fun _ => rfl) h3 ?_
      refine r_goto 10 22 rfl rfl ?_
      exact r_aret 12 rfl rfl rfl rfl
theorem ct_X6_releaseAt {t : List Sh} {m : Mi} {a0 : Nat} {a1 : Int32} {v : Nat}  (h0 : sh t a0 = some (.inl 6)) (h : f_X6_releaseAt t m a0 a1 = some v) : Ct u_X6_releaseAt 1 0 0 [.inr (.inr a0), .inl a1] (t, m) (some (.inr (.inr v)), (t, m)) :=
  ct_of (by decide) tk_X6_releaseAt (Nat.le_of_ble_eq_true rfl) (sm_X6_releaseAt t m a0 a1 h0) (by rw [h]; rfl) (Nat.le_refl _) (Nat.le_refl _)
def tb_X6_releases : Tb := [(0, (.aload_n 0, 1)), (1, (.getfield 50, 3)), (4, (.ireturn, 1))]
def u_X6_releases : Fx := (yX6_releases, (cX6_releases, (1, ((some .int), tb_X6_releases))))
theorem tk_X6_releases : ∀ q ∈ u_X6_releases.2.2.2.2, decode u_X6_releases.2.1 q.1 = .ok q.2 := by decide +kernel
theorem mc_X6_releases : MC u_X6_releases 0 := ⟨tbm 1130 (by decide +kernel) rfl, tbm 121 (by decide +kernel) rfl, ⟨by decide, by decide, by decide +kernel⟩, by decide⟩
theorem in_X6_releases : Cond.instanceMethod u_X6_releases.1 ∈ TB ∧ Cond.selects u_X6_releases.1.cls u_X6_releases.1 u_X6_releases.1 ∈ TB := ⟨tbm 1128 (by decide +kernel) rfl, tbm 1129 (by decide +kernel) rfl⟩
def f_X6_releases (t : List Sh) (m : Mi) (a0 : Nat) : Option (Int32) :=
  some (gi m a0 5)
set_option maxRecDepth 4000 in
set_option maxHeartbeats 4000000 in
theorem sm_X6_releases (t : List Sh) (m : Mi) (a0 : Nat) (h0 : sh t a0 = some (.inl 6)) : Sm u_X6_releases (1, 0, 0, t.length, zs t) (kIo t m) 0 [(0, .inr (.inr a0))] [] (t, m) (f_X6_releases t m a0) := by
  unfold f_X6_releases
  refine r_aload_n 0 1 0 rfl rfl rfl rfl ?_
  refine r_getI 1 4 rfl rfl fl_RX6_50 rfl h0 ?_
  exact r_iret 2 rfl rfl rfl
theorem ct_X6_releases {t : List Sh} {m : Mi} {a0 : Nat} {v : Int32}  (h0 : sh t a0 = some (.inl 6)) (h : f_X6_releases t m a0 = some v) : Ct u_X6_releases 1 0 0 [.inr (.inr a0)] (t, m) (some (.inl v), (t, m)) :=
  ct_of (by decide) tk_X6_releases (Nat.le_of_ble_eq_true rfl) (sm_X6_releases t m a0 h0) (by rw [h]; rfl) (Nat.le_refl _) (Nat.le_refl _)
theorem lk_RX6_88 : Cond.methodLink RX6 88 arraycopyName ∈ TB := tbm 583 (by decide +kernel) rfl
def tb_X6_setText : Tb := [(0, (.iload_n 2, 1)), (1, (.ifCond .lt 29, 3)), (4, (.iload_n 2, 1)), (5, (.aload_n 0, 1)), (6, (.getfield 11, 3)), (9, (.arraylength, 1)), (10, (.if_icmp .gt 20, 3)), (13, (.iload_n 2, 1)), (14, (.aload_n 1, 1)), (15, (.arraylength, 1)), (16, (.if_icmp .gt 14, 3)), (19, (.aload_n 1, 1)), (20, (.iconst 0, 1)), (21, (.aload_n 0, 1)), (22, (.getfield 11, 3)), (25, (.iconst 0, 1)), (26, (.iload_n 2, 1)), (27, (.invokestatic 88, 3)), (30, (.return_, 1))]
def u_X6_setText : Fx := (yX6_setText, (cX6_setText, (3, (none, tb_X6_setText))))
theorem tk_X6_setText : ∀ q ∈ u_X6_setText.2.2.2.2, decode u_X6_setText.2.1 q.1 = .ok q.2 := by decide +kernel
theorem mc_X6_setText : MC u_X6_setText 2 := ⟨tbm 582 (by decide +kernel) rfl, tbm 121 (by decide +kernel) rfl, ⟨by decide, by decide, by decide +kernel⟩, by decide⟩
theorem in_X6_setText : Cond.instanceMethod u_X6_setText.1 ∈ TB ∧ Cond.selects u_X6_setText.1.cls u_X6_setText.1 u_X6_setText.1 ∈ TB := ⟨tbm 580 (by decide +kernel) rfl, tbm 581 (by decide +kernel) rfl⟩
def f_X6_setText (t : List Sh) (m : Mi) (a0 : Nat) (a1 : Nat) (a2 : Int32) : Option (Mi) :=
  if a2 < 0 then
    some m
  else
    (if aa t (gr m a0 0) .byte = true then
    if (Int32.ofNat (ln t (gr m a0 0))) < a2 then
      some m
    else
      (if aa t a1 .byte = true then
      if (Int32.ofNat (ln t a1)) < a2 then
        some m
      else
        (if inS t a1 .byte 0 a2 = true then
        (if inS t (gr m a0 0) .byte 0 a2 = true then
        (if fitB m a1 (ix 0) (ix a2) = true then
        lt (cpi m a1 (gr m a0 0) (ix 0) (ix 0) (ix a2)) fun m9 =>
        some m9
        else none)
        else none)
        else none)
      else none)
    else none)
set_option maxRecDepth 4000 in
set_option maxHeartbeats 4000000 in
theorem sm_X6_setText (t : List Sh) (m : Mi) (a0 : Nat) (a1 : Nat) (a2 : Int32) (h0 : sh t a0 = some (.inl 6)) : Sm u_X6_setText (1, 0, 0, t.length, zs t) (kV t) 0 [(0, .inr (.inr a0)), (1, .inr (.inr a1)), (2, .inl a2)] [] (t, m) (f_X6_setText t m a0 a1 a2) := by
  unfold f_X6_setText
  refine r_iload_n 0 1 2 rfl rfl rfl rfl ?_
  refine r_if_lt 1 30 4 rfl rfl rfl (fun h1 => ?_) (fun h1 => ?_)
  · exact r_vret 18 rfl rfl rfl
  · refine r_iload_n 2 5 2 rfl rfl rfl rfl ?_
    refine r_aload_n 3 6 0 rfl rfl rfl rfl ?_
    refine r_getR 4 9 rfl rfl fl_RX6_11 rfl h0 ?_
    refine r_gd (fun h2 => ?_)
    refine r_alen 5 10 2 rfl rfl (fun _ => rfl) h2 ?_
    refine r_icmp_gt 6 30 13 rfl rfl rfl (fun h3 => ?_) (fun h3 => ?_)
    · exact r_vret 18 rfl rfl rfl
    · refine r_iload_n 7 14 2 rfl rfl rfl rfl ?_
      refine r_aload_n 8 15 1 rfl rfl rfl rfl ?_
      refine r_gd (fun h4 => ?_)
      refine r_alen 9 16 2 rfl rfl (fun _ => rfl) h4 ?_
      refine r_icmp_gt 10 30 19 rfl rfl rfl (fun h5 => ?_) (fun h5 => ?_)
      · exact r_vret 18 rfl rfl rfl
      · refine r_aload_n 11 20 1 rfl rfl rfl rfl ?_
        refine r_iconst 12 21 (v := 0) rfl rfl (by decide) ?_
        refine r_aload_n 13 22 0 rfl rfl rfl rfl ?_
        refine r_getR 14 25 rfl rfl fl_RX6_11 rfl h0 ?_
        refine r_iconst 15 26 (v := 0) rfl rfl (by decide) ?_
        refine r_iload_n 16 27 2 rfl rfl rfl rfl ?_
        refine r_gd (fun h6 => ?_)
        refine r_gd (fun h7 => ?_)
        refine r_gd (fun h8 => ?_)
        refine r_cpyB 17 30 rfl rfl lk_RX6_88 (Nat.le_of_ble_eq_true rfl) (Nat.le_of_ble_eq_true rfl) h6 h7 h8 ?_
        refine r_ltM (fun m9 => ?_)
        exact r_vret 18 rfl rfl rfl
theorem ct_X6_setText {t : List Sh} {m : Mi} {a0 : Nat} {a1 : Nat} {a2 : Int32} {m' : Mi}  (h0 : sh t a0 = some (.inl 6)) (h : f_X6_setText t m a0 a1 a2 = some m') : Ct u_X6_setText 1 0 0 [.inr (.inr a0), .inr (.inr a1), .inl a2] (t, m) (none, (t, m')) :=
  ct_of (by decide) tk_X6_setText (Nat.le_of_ble_eq_true rfl) (sm_X6_setText t m a0 a1 a2 h0) (by rw [h]; rfl) (Nat.le_refl _) (Nat.le_refl _)
theorem lk_RX7_1 : Cond.methodLink RX7 1 Lib.objectInit ∈ TB := tbm 310 (by decide +kernel) rfl
theorem fl_RX7_9 : FL RX7 9 7 0 true := ⟨RX7, TX7, 6, rfl, inW7, tyX7_ok, nmX7, by decide, rfl, rfl, rfl, tbm 311 (by decide +kernel) rfl⟩
theorem fl_RX7_15 : FL RX7 15 7 1 false := ⟨RX7, TX7, 6, rfl, inW7, tyX7_ok, nmX7, by decide, rfl, rfl, rfl, tbm 314 (by decide +kernel) rfl⟩
theorem fl_RX7_19 : FL RX7 19 7 2 false := ⟨RX7, TX7, 6, rfl, inW7, tyX7_ok, nmX7, by decide, rfl, rfl, rfl, tbm 319 (by decide +kernel) rfl⟩
theorem fl_RX7_22 : FL RX7 22 7 3 false := ⟨RX7, TX7, 6, rfl, inW7, tyX7_ok, nmX7, by decide, rfl, rfl, rfl, tbm 322 (by decide +kernel) rfl⟩
theorem fl_RX7_25 : FL RX7 25 7 4 false := ⟨RX7, TX7, 6, rfl, inW7, tyX7_ok, nmX7, by decide, rfl, rfl, rfl, tbm 325 (by decide +kernel) rfl⟩
theorem fl_RX7_28 : FL RX7 28 7 5 false := ⟨RX7, TX7, 6, rfl, inW7, tyX7_ok, nmX7, by decide, rfl, rfl, rfl, tbm 328 (by decide +kernel) rfl⟩
def tb_X7_init : Tb := [(0, (.aload_n 0, 1)), (1, (.invokespecial 1, 3)), (4, (.aload_n 0, 1)), (5, (.bipush 8, 2)), (7, (.newarray .long, 2)), (9, (.putfield 9, 3)), (12, (.aload_n 0, 1)), (13, (.iconst 0, 1)), (14, (.putfield 15, 3)), (17, (.aload_n 0, 1)), (18, (.iconst 0, 1)), (19, (.putfield 19, 3)), (22, (.aload_n 0, 1)), (23, (.iconst 0, 1)), (24, (.putfield 22, 3)), (27, (.aload_n 0, 1)), (28, (.iconst 0, 1)), (29, (.putfield 25, 3)), (32, (.aload_n 0, 1)), (33, (.iconst 0, 1)), (34, (.putfield 28, 3)), (37, (.return_, 1))]
def u_X7_init : Fx := (yX7_init, (cX7_init, (1, (none, tb_X7_init))))
theorem tk_X7_init : ∀ q ∈ u_X7_init.2.2.2.2, decode u_X7_init.2.1 q.1 = .ok q.2 := by decide +kernel
theorem mc_X7_init : MC u_X7_init 0 := ⟨tbm 309 (by decide +kernel) rfl, tbm 123 (by decide +kernel) rfl, ⟨by decide, by decide, by decide +kernel⟩, by decide⟩
theorem ini_X7_init : Cond.instanceMethod u_X7_init.1 ∈ TB := tbm 308 (by decide +kernel) rfl
set_option maxRecDepth 20000 in
def f_X7_init (t : List Sh) (m : Mi) (a0 : Nat) : Option (Mm) :=
  (if t.length < 1000000 then
  lt (t.length + 1) fun r2 =>
  lt (t ++ [.inr (.long, ix 8)]) fun t3 =>
  lt (zr m (t.length + 1)) fun m4 =>
  (if ob t3 a0 7 = true then
  lt (sr m4 a0 0 r2) fun m6 =>
  lt (si m6 a0 1 0) fun m7 =>
  lt (si m7 a0 2 0) fun m8 =>
  lt (si m8 a0 3 0) fun m9 =>
  lt (si m9 a0 4 0) fun m10 =>
  lt (si m10 a0 5 0) fun m11 =>
  some (t3, m11)
  else none)
  else none)
set_option maxRecDepth 40000 in
set_option maxHeartbeats 4000000 in
theorem sm_X7_init (e2 : Nat × (Nat × (Nat × Nat))) (t : List Sh) (m : Mi) (a0 : Nat) (h0 : sh t a0 = some (.inl 7)) : Sm u_X7_init (1, e2) kA 0 [(0, .inr (.inr a0))] [] (t, m) (f_X7_init t m a0) := by
  unfold f_X7_init
  refine r_aload_n 0 1 0 rfl rfl rfl rfl ?_
  refine r_objI 1 4 rfl rfl lk_RX7_1 (Nat.le_of_ble_eq_true rfl) (Nat.le_of_ble_eq_true rfl) h0 ?_
  refine r_aload_n 2 5 0 rfl rfl rfl rfl ?_
  refine r_bipush 3 7 (v := 8) rfl rfl (by decide) ?_
  refine r_gd (fun h1 => ?_)
  refine r_newa 4 9 (ty := .long) (q := 1) rfl rfl h1 rfl (by decide) (fun _ => rfl) wd_161 (by decide) (by decide) ?_
  refine r_ltR (fun r2 => ?_)
  refine r_ltT (fun t3 => ?_)
  refine r_ltM (fun m4 => ?_)
  refine r_gd (fun h5 => ?_)
  refine r_putR 5 12 rfl rfl fl_RX7_9 (fun _ => ⟨rfl, rfl⟩) rfl (ob_sh h5) ?_
  refine r_ltM (fun m6 => ?_)
  refine r_aload_n 6 13 0 rfl rfl rfl rfl ?_
  refine r_iconst 7 14 (v := 0) rfl rfl (by decide) ?_
  refine r_putI 8 17 rfl rfl fl_RX7_15 (fun h => by cases h) (Or.inl rfl) (ob_sh h5) ?_
  refine r_ltM (fun m7 => ?_)
  refine r_aload_n 9 18 0 rfl rfl rfl rfl ?_
  refine r_iconst 10 19 (v := 0) rfl rfl (by decide) ?_
  refine r_putI 11 22 rfl rfl fl_RX7_19 (fun h => by cases h) (Or.inl rfl) (ob_sh h5) ?_
  refine r_ltM (fun m8 => ?_)
  refine r_aload_n 12 23 0 rfl rfl rfl rfl ?_
  refine r_iconst 13 24 (v := 0) rfl rfl (by decide) ?_
  refine r_putI 14 27 rfl rfl fl_RX7_22 (fun h => by cases h) (Or.inl rfl) (ob_sh h5) ?_
  refine r_ltM (fun m9 => ?_)
  refine r_aload_n 15 28 0 rfl rfl rfl rfl ?_
  refine r_iconst 16 29 (v := 0) rfl rfl (by decide) ?_
  refine r_putI 17 32 rfl rfl fl_RX7_25 (fun h => by cases h) (Or.inl rfl) (ob_sh h5) ?_
  refine r_ltM (fun m10 => ?_)
  refine r_aload_n 18 33 0 rfl rfl rfl rfl ?_
  refine r_iconst 19 34 (v := 0) rfl rfl (by decide) ?_
  refine r_putI 20 37 rfl rfl fl_RX7_28 (fun h => by cases h) (Or.inl rfl) (ob_sh h5) ?_
  refine r_ltM (fun m11 => ?_)
  exact r_vret 21 rfl rfl rfl
theorem mn_X7_init {t : List Sh} {m : Mi} {a0 : Nat} {q : Mm} (h0 : sh t a0 = some (.inl 7)) (h : f_X7_init t m a0 = some q) : t.length ≤ q.1.length ∧ zs t ≤ zs q.1 := ((sm_X7_init (0, 0, 0, 0) t m a0 h0) (none, q) (by rw [h]; rfl)).1
theorem ct_X7_init {t : List Sh} {m : Mi} {a0 : Nat} {q : Mm} (h0 : sh t a0 = some (.inl 7)) (h : f_X7_init t m a0 = some q) : Ct u_X7_init 1 (q.1.length - t.length) (zs q.1 - zs t) [.inr (.inr a0)] (t, m) (none, q) := by
  have hm := mn_X7_init h0 h
  exact ct_of (by decide) tk_X7_init (Nat.le_of_ble_eq_true rfl) (sm_X7_init (q.1.length - t.length, zs q.1 - zs t, t.length, zs t) t m a0 h0) (by rw [h]; rfl) (by show q.1.length ≤ t.length + (q.1.length - t.length); omega) (by show zs q.1 ≤ zs t + (zs q.1 - zs t); omega)
theorem lk_RX6_115 : Cond.methodLink RX6 115 yX9_kindAt ∈ TB := tbm 735 (by decide +kernel) rfl
theorem fl_RX6_209 : FL RX6 209 0 0 false := ⟨RX0, TX0, 8, rfl, inW0, tyX0_ok, nmX0, by decide, rfl, rfl, rfl, tbm 355 (by decide +kernel) rfl⟩
theorem lk_RX6_111 : Cond.methodLink RX6 111 yX9_placeAt ∈ TB := tbm 747 (by decide +kernel) rfl
theorem fl_RX6_170 : FL RX6 170 0 2 false := ⟨RX0, TX0, 8, rfl, inW0, tyX0_ok, nmX0, by decide, rfl, rfl, rfl, tbm 363 (by decide +kernel) rfl⟩
theorem lk_RX6_129 : Cond.methodLink RX6 129 yX9_endAt ∈ TB := tbm 751 (by decide +kernel) rfl
theorem fl_RX6_173 : FL RX6 173 0 3 false := ⟨RX0, TX0, 8, rfl, inW0, tyX0_ok, nmX0, by decide, rfl, rfl, rfl, tbm 366 (by decide +kernel) rfl⟩
theorem fl_RX6_212 : FL RX6 212 0 5 false := ⟨RX0, TX0, 8, rfl, inW0, tyX0_ok, nmX0, by decide, rfl, rfl, rfl, tbm 374 (by decide +kernel) rfl⟩
theorem fl_RX6_215 : FL RX6 215 0 6 false := ⟨RX0, TX0, 8, rfl, inW0, tyX0_ok, nmX0, by decide, rfl, rfl, rfl, tbm 377 (by decide +kernel) rfl⟩
theorem fl_RX6_176 : FL RX6 176 0 4 false := ⟨RX0, TX0, 8, rfl, inW0, tyX0_ok, nmX0, by decide, rfl, rfl, rfl, tbm 370 (by decide +kernel) rfl⟩
theorem fl_RX6_218 : FL RX6 218 0 7 false := ⟨RX0, TX0, 8, rfl, inW0, tyX0_ok, nmX0, by decide, rfl, rfl, rfl, tbm 381 (by decide +kernel) rfl⟩
theorem fl_RX6_221 : FL RX6 221 0 1 false := ⟨RX0, TX0, 8, rfl, inW0, tyX0_ok, nmX0, by decide, rfl, rfl, rfl, tbm 360 (by decide +kernel) rfl⟩
theorem lk_RX6_151 : Cond.methodLink RX6 151 yX9_isLink ∈ TB := tbm 803 (by decide +kernel) rfl
theorem fl_RX6_206 : FL RX6 206 7 5 false := ⟨RX7, TX7, 6, rfl, inW7, tyX7_ok, nmX7, by decide, rfl, rfl, rfl, tbm 330 (by decide +kernel) rfl⟩
def tb_X6_addConstraint : Tb := [(0, (.aload_n 0, 1)), (1, (.getfield 53, 3)), (4, (.sipush 250, 3)), (7, (.if_icmp .lt 4, 3)), (10, (.return_, 1)), (11, (.aload_n 0, 1)), (12, (.getfield 31, 3)), (15, (.aload_n 0, 1)), (16, (.getfield 53, 3)), (19, (.aaload, 1)), (20, (.astore 4, 2)), (22, (.aload 4, 2)), (24, (.aload_n 1, 1)), (25, (.iload_n 2, 1)), (26, (.invokevirtual 115, 3)), (29, (.putfield 209, 3)), (32, (.aload 4, 2)), (34, (.aload_n 1, 1)), (35, (.iload_n 2, 1)), (36, (.iconst 1, 1)), (37, (.iadd, 1)), (38, (.invokevirtual 111, 3)), (41, (.putfield 170, 3)), (44, (.aload 4, 2)), (46, (.aload_n 1, 1)), (47, (.iload_n 2, 1)), (48, (.iconst 1, 1)), (49, (.iadd, 1)), (50, (.invokevirtual 129, 3)), (53, (.putfield 173, 3)), (56, (.aload 4, 2)), (58, (.aload_n 1, 1)), (59, (.iload_n 2, 1)), (60, (.iconst 2, 1)), (61, (.iadd, 1)), (62, (.invokevirtual 111, 3)), (65, (.putfield 212, 3)), (68, (.aload 4, 2)), (70, (.aload_n 1, 1)), (71, (.iload_n 3, 1)), (72, (.iconst 1, 1)), (73, (.isub, 1)), (74, (.invokevirtual 129, 3)), (77, (.putfield 215, 3)), (80, (.aload 4, 2)), (82, (.iconst (-1), 1)), (83, (.putfield 176, 3)), (86, (.aload 4, 2)), (88, (.iconst 0, 1)), (89, (.putfield 218, 3)), (92, (.aload 4, 2)), (94, (.iconst (-1), 1)), (95, (.putfield 221, 3)), (98, (.aload_n 0, 1)), (99, (.dup, 1)), (100, (.getfield 53, 3)), (103, (.iconst 1, 1)), (104, (.iadd, 1)), (105, (.putfield 53, 3)), (108, (.aload 4, 2)), (110, (.getfield 209, 3)), (113, (.invokestatic 151, 3)), (116, (.ifCond .eq 51, 3)), (119, (.aload_n 0, 1)), (120, (.getfield 50, 3)), (123, (.ifCond .le 44, 3)), (126, (.aload 4, 2)), (128, (.aload_n 0, 1)), (129, (.getfield 50, 3)), (132, (.iconst 1, 1)), (133, (.isub, 1)), (134, (.putfield 221, 3)), (137, (.aload_n 0, 1)), (138, (.getfield 24, 3)), (141, (.aload_n 0, 1)), (142, (.getfield 50, 3)), (145, (.iconst 1, 1)), (146, (.isub, 1)), (147, (.aaload, 1)), (148, (.dup, 1)), (149, (.getfield 206, 3)), (152, (.iconst 1, 1)), (153, (.iadd, 1)), (154, (.putfield 206, 3)), (157, (.aload_n 0, 1)), (158, (.dup, 1)), (159, (.getfield 56, 3)), (162, (.iconst 1, 1)), (163, (.iadd, 1)), (164, (.putfield 56, 3)), (167, (.return_, 1))]
def u_X6_addConstraint : Fx := (yX6_addConstraint, (cX6_addConstraint, (5, (none, tb_X6_addConstraint))))
theorem tk_X6_addConstraint : ∀ q ∈ u_X6_addConstraint.2.2.2.2, decode u_X6_addConstraint.2.1 q.1 = .ok q.2 := by decide +kernel
theorem mc_X6_addConstraint : MC u_X6_addConstraint 3 := ⟨tbm 829 (by decide +kernel) rfl, tbm 121 (by decide +kernel) rfl, ⟨by decide, by decide, by decide +kernel⟩, by decide⟩
theorem in_X6_addConstraint : Cond.instanceMethod u_X6_addConstraint.1 ∈ TB ∧ Cond.selects u_X6_addConstraint.1.cls u_X6_addConstraint.1 u_X6_addConstraint.1 ∈ TB := ⟨tbm 828 (by decide +kernel) rfl, tbm 27 (by decide +kernel) rfl⟩
def f_X6_addConstraint (t : List Sh) (m : Mi) (a0 : Nat) (a1 : Nat) (a2 : Int32) (a3 : Int32) : Option (Mi) :=
  if (gi m a0 6) < 250 then
    (if ar t (gr m a0 3) (.object RX0) (gi m a0 6) = true then
    lt (gr m (gr m a0 3) (ix (gi m a0 6))) fun x3 =>
    (if ob t a1 9 = true then
    (f_X9_kindAt t m a1 a2).bind fun x5 =>
    (if ob t x3 0 = true then
    lt (si m x3 0 x5) fun m7 =>
    (f_X9_placeAt t m7 a1 (a2 + 1)).bind fun x8 =>
    lt (si m7 x3 2 x8) fun m9 =>
    (f_X9_endAt t m9 a1 (a2 + 1)).bind fun x10 =>
    lt (si m9 x3 3 x10) fun m11 =>
    (f_X9_placeAt t m11 a1 (a2 + 2)).bind fun x12 =>
    lt (si m11 x3 5 x12) fun m13 =>
    (f_X9_endAt t m13 a1 (a3 - 1)).bind fun x14 =>
    lt (si m13 x3 6 x14) fun m15 =>
    lt (si m15 x3 4 (-1)) fun m16 =>
    lt (si m16 x3 7 0) fun m17 =>
    lt (si m17 x3 1 (-1)) fun m18 =>
    lt (si m18 a0 6 ((gi m18 a0 6) + 1)) fun m19 =>
    (f_X9_isLink (gi m19 x3 0)).bind fun x20 =>
    if x20 = 0 then
      some m19
    else
      if (gi m19 a0 5) ≤ 0 then
        some m19
      else
        lt (si m19 x3 1 ((gi m19 a0 5) - 1)) fun m23 =>
        (if ar t (gr m23 a0 2) (.object RX7) ((gi m23 a0 5) - 1) = true then
        lt (gr m23 (gr m23 a0 2) (ix ((gi m23 a0 5) - 1))) fun x25 =>
        (if ob t x25 7 = true then
        lt (si m23 x25 5 ((gi m23 x25 5) + 1)) fun m27 =>
        lt (si m27 a0 7 ((gi m27 a0 7) + 1)) fun m28 =>
        some m28
        else none)
        else none)
    else none)
    else none)
    else none)
  else
    some m
set_option maxRecDepth 4000 in
set_option maxHeartbeats 4000000 in
theorem sm_X6_addConstraint (t : List Sh) (m : Mi) (a0 : Nat) (a1 : Nat) (a2 : Int32) (a3 : Int32) (h0 : sh t a0 = some (.inl 6)) : Sm u_X6_addConstraint (2, 0, 0, t.length, zs t) (kV t) 0 [(0, .inr (.inr a0)), (1, .inr (.inr a1)), (2, .inl a2), (3, .inl a3)] [] (t, m) (f_X6_addConstraint t m a0 a1 a2 a3) := by
  unfold f_X6_addConstraint
  refine r_aload_n 0 1 0 rfl rfl rfl rfl ?_
  refine r_getI 1 4 rfl rfl fl_RX6_53 rfl h0 ?_
  refine r_sipush 2 7 (v := 250) rfl rfl (by decide) ?_
  refine r_icmp_lt 3 11 10 rfl rfl rfl (fun h1 => ?_) (fun h1 => ?_)
  · refine r_aload_n 5 12 0 rfl rfl rfl rfl ?_
    refine r_getR 6 15 rfl rfl fl_RX6_31 rfl h0 ?_
    refine r_aload_n 7 16 0 rfl rfl rfl rfl ?_
    refine r_getI 8 19 rfl rfl fl_RX6_53 rfl h0 ?_
    refine r_gd (fun h2 => ?_)
    refine r_aald 9 20 7 rfl rfl (fun _ => rfl) h2 ?_
    refine r_ltR (fun x3 => ?_)
    refine r_astore 10 22 (L' := [(4, .inr (.inr x3)), (0, .inr (.inr a0)), (1, .inr (.inr a1)), (2, .inl a2), (3, .inl a3)]) rfl rfl (by decide) rfl ?_
    refine r_aload 11 24 0 rfl rfl rfl ?_
    refine r_aload_n 12 25 2 rfl rfl rfl rfl ?_
    refine r_iload_n 13 26 3 rfl rfl rfl rfl ?_
    refine r_gd (fun h4 => ?_)
    refine r_VIo 14 29 (st := [.inr (.inr x3)]) (av := [.inr (.inr a1), .inl a2]) (av' := [.inl a2]) (μ' := u_X9_kindAt) (d := 1) rfl rfl mc_X9_kindAt in_X9_kindAt lk_RX6_115 (Nat.le_of_ble_eq_true rfl) rfl rfl (ob_sh h4) rfl (Nat.le_of_ble_eq_true rfl) (fun _ h => ct_X9_kindAt (ob_sh h4) h) (fun x5 => ?_)
    refine r_gd (fun h6 => ?_)
    refine r_putI 15 32 rfl rfl fl_RX6_209 (fun h => by cases h) (Or.inl rfl) (ob_sh h6) ?_
    refine r_ltM (fun m7 => ?_)
    refine r_aload 16 34 0 rfl rfl rfl ?_
    refine r_aload_n 17 35 2 rfl rfl rfl rfl ?_
    refine r_iload_n 18 36 3 rfl rfl rfl rfl ?_
    refine r_iconst 19 37 (v := 1) rfl rfl (by decide) ?_
    refine r_iadd 20 38 rfl rfl ?_
    refine r_VIo 21 41 (st := [.inr (.inr x3)]) (av := [.inr (.inr a1), .inl (a2 + 1)]) (av' := [.inl (a2 + 1)]) (μ' := u_X9_placeAt) (d := 1) rfl rfl mc_X9_placeAt in_X9_placeAt lk_RX6_111 (Nat.le_of_ble_eq_true rfl) rfl rfl (ob_sh h4) rfl (Nat.le_of_ble_eq_true rfl) (fun _ h => ct_X9_placeAt (ob_sh h4) h) (fun x8 => ?_)
    refine r_putI 22 44 rfl rfl fl_RX6_170 (fun h => by cases h) (Or.inl rfl) (ob_sh h6) ?_
    refine r_ltM (fun m9 => ?_)
    refine r_aload 23 46 0 rfl rfl rfl ?_
    refine r_aload_n 24 47 2 rfl rfl rfl rfl ?_
    refine r_iload_n 25 48 3 rfl rfl rfl rfl ?_
    refine r_iconst 26 49 (v := 1) rfl rfl (by decide) ?_
    refine r_iadd 27 50 rfl rfl ?_
    refine r_VIo 28 53 (st := [.inr (.inr x3)]) (av := [.inr (.inr a1), .inl (a2 + 1)]) (av' := [.inl (a2 + 1)]) (μ' := u_X9_endAt) (d := 1) rfl rfl mc_X9_endAt in_X9_endAt lk_RX6_129 (Nat.le_of_ble_eq_true rfl) rfl rfl (ob_sh h4) rfl (Nat.le_of_ble_eq_true rfl) (fun _ h => ct_X9_endAt (ob_sh h4) h) (fun x10 => ?_)
    refine r_putI 29 56 rfl rfl fl_RX6_173 (fun h => by cases h) (Or.inl rfl) (ob_sh h6) ?_
    refine r_ltM (fun m11 => ?_)
    refine r_aload 30 58 0 rfl rfl rfl ?_
    refine r_aload_n 31 59 2 rfl rfl rfl rfl ?_
    refine r_iload_n 32 60 3 rfl rfl rfl rfl ?_
    refine r_iconst 33 61 (v := 2) rfl rfl (by decide) ?_
    refine r_iadd 34 62 rfl rfl ?_
    refine r_VIo 35 65 (st := [.inr (.inr x3)]) (av := [.inr (.inr a1), .inl (a2 + 2)]) (av' := [.inl (a2 + 2)]) (μ' := u_X9_placeAt) (d := 1) rfl rfl mc_X9_placeAt in_X9_placeAt lk_RX6_111 (Nat.le_of_ble_eq_true rfl) rfl rfl (ob_sh h4) rfl (Nat.le_of_ble_eq_true rfl) (fun _ h => ct_X9_placeAt (ob_sh h4) h) (fun x12 => ?_)
    refine r_putI 36 68 rfl rfl fl_RX6_212 (fun h => by cases h) (Or.inl rfl) (ob_sh h6) ?_
    refine r_ltM (fun m13 => ?_)
    refine r_aload 37 70 0 rfl rfl rfl ?_
    refine r_aload_n 38 71 2 rfl rfl rfl rfl ?_
    refine r_iload_n 39 72 4 rfl rfl rfl rfl ?_
    refine r_iconst 40 73 (v := 1) rfl rfl (by decide) ?_
    refine r_isub 41 74 rfl rfl ?_
    refine r_VIo 42 77 (st := [.inr (.inr x3)]) (av := [.inr (.inr a1), .inl (a3 - 1)]) (av' := [.inl (a3 - 1)]) (μ' := u_X9_endAt) (d := 1) rfl rfl mc_X9_endAt in_X9_endAt lk_RX6_129 (Nat.le_of_ble_eq_true rfl) rfl rfl (ob_sh h4) rfl (Nat.le_of_ble_eq_true rfl) (fun _ h => ct_X9_endAt (ob_sh h4) h) (fun x14 => ?_)
    refine r_putI 43 80 rfl rfl fl_RX6_215 (fun h => by cases h) (Or.inl rfl) (ob_sh h6) ?_
    refine r_ltM (fun m15 => ?_)
    refine r_aload 44 82 0 rfl rfl rfl ?_
    refine r_iconst 45 83 (v := (-1)) rfl rfl (by decide) ?_
    refine r_putI 46 86 rfl rfl fl_RX6_176 (fun h => by cases h) (Or.inl rfl) (ob_sh h6) ?_
    refine r_ltM (fun m16 => ?_)
    refine r_aload 47 88 0 rfl rfl rfl ?_
    refine r_iconst 48 89 (v := 0) rfl rfl (by decide) ?_
    refine r_putI 49 92 rfl rfl fl_RX6_218 (fun h => by cases h) (Or.inl rfl) (ob_sh h6) ?_
    refine r_ltM (fun m17 => ?_)
    refine r_aload 50 94 0 rfl rfl rfl ?_
    refine r_iconst 51 95 (v := (-1)) rfl rfl (by decide) ?_
    refine r_putI 52 98 rfl rfl fl_RX6_221 (fun h => by cases h) (Or.inl rfl) (ob_sh h6) ?_
    refine r_ltM (fun m18 => ?_)
    refine r_aload_n 53 99 1 rfl rfl rfl rfl ?_
    refine r_dup 54 100 rfl rfl rfl ?_
    refine r_getI 55 103 rfl rfl fl_RX6_53 rfl h0 ?_
    refine r_iconst 56 104 (v := 1) rfl rfl (by decide) ?_
    refine r_iadd 57 105 rfl rfl ?_
    refine r_putI 58 108 rfl rfl fl_RX6_53 (fun h => by cases h) (Or.inl rfl) h0 ?_
    refine r_ltM (fun m19 => ?_)
    refine r_aload 59 110 0 rfl rfl rfl ?_
    refine r_getI 60 113 rfl rfl fl_RX6_209 rfl (ob_sh h6) ?_
    refine r_SIo 61 116 (a := 0) (cn := 0) (st := []) (av := [.inl (gi m19 x3 0)]) (μ' := u_X9_isLink) (d := 1) rfl rfl mc_X9_isLink st_X9_isLink lk_RX6_151 (Nat.le_of_ble_eq_true rfl) rfl (Nat.le_of_ble_eq_true rfl) (fun _ h => ct_X9_isLink h) (fun x20 => ?_)
    refine r_if_eq 62 167 119 rfl rfl rfl (fun h21 => ?_) (fun h21 => ?_)
    · exact r_vret 90 rfl rfl rfl
    · refine r_aload_n 63 120 1 rfl rfl rfl rfl ?_
      refine r_getI 64 123 rfl rfl fl_RX6_50 rfl h0 ?_
      refine r_if_le 65 167 126 rfl rfl rfl (fun h22 => ?_) (fun h22 => ?_)
      · exact r_vret 90 rfl rfl rfl
      · refine r_aload 66 128 0 rfl rfl rfl ?_
        refine r_aload_n 67 129 1 rfl rfl rfl rfl ?_
        refine r_getI 68 132 rfl rfl fl_RX6_50 rfl h0 ?_
        refine r_iconst 69 133 (v := 1) rfl rfl (by decide) ?_
        refine r_isub 70 134 rfl rfl ?_
        refine r_putI 71 137 rfl rfl fl_RX6_221 (fun h => by cases h) (Or.inl rfl) (ob_sh h6) ?_
        refine r_ltM (fun m23 => ?_)
        refine r_aload_n 72 138 1 rfl rfl rfl rfl ?_
        refine r_getR 73 141 rfl rfl fl_RX6_24 rfl h0 ?_
        refine r_aload_n 74 142 1 rfl rfl rfl rfl ?_
        refine r_getI 75 145 rfl rfl fl_RX6_50 rfl h0 ?_
        refine r_iconst 76 146 (v := 1) rfl rfl (by decide) ?_
        refine r_isub 77 147 rfl rfl ?_
        refine r_gd (fun h24 => ?_)
        refine r_aald 78 148 6 rfl rfl (fun _ => rfl) h24 ?_
        refine r_ltR (fun x25 => ?_)
        refine r_dup 79 149 rfl rfl rfl ?_
        refine r_gd (fun h26 => ?_)
        refine r_getI 80 152 rfl rfl fl_RX6_206 rfl (ob_sh h26) ?_
        refine r_iconst 81 153 (v := 1) rfl rfl (by decide) ?_
        refine r_iadd 82 154 rfl rfl ?_
        refine r_putI 83 157 rfl rfl fl_RX6_206 (fun h => by cases h) (Or.inl rfl) (ob_sh h26) ?_
        refine r_ltM (fun m27 => ?_)
        refine r_aload_n 84 158 1 rfl rfl rfl rfl ?_
        refine r_dup 85 159 rfl rfl rfl ?_
        refine r_getI 86 162 rfl rfl fl_RX6_56 rfl h0 ?_
        refine r_iconst 87 163 (v := 1) rfl rfl (by decide) ?_
        refine r_iadd 88 164 rfl rfl ?_
        refine r_putI 89 167 rfl rfl fl_RX6_56 (fun h => by cases h) (Or.inl rfl) h0 ?_
        refine r_ltM (fun m28 => ?_)
        exact r_vret 90 rfl rfl rfl
  · exact r_vret 4 rfl rfl rfl
theorem ct_X6_addConstraint {t : List Sh} {m : Mi} {a0 : Nat} {a1 : Nat} {a2 : Int32} {a3 : Int32} {m' : Mi}  (h0 : sh t a0 = some (.inl 6)) (h : f_X6_addConstraint t m a0 a1 a2 a3 = some m') : Ct u_X6_addConstraint 2 0 0 [.inr (.inr a0), .inr (.inr a1), .inl a2, .inl a3] (t, m) (none, (t, m')) :=
  ct_of (by decide) tk_X6_addConstraint (Nat.le_of_ble_eq_true rfl) (sm_X6_addConstraint t m a0 a1 a2 a3 h0) (by rw [h]; rfl) (Nat.le_refl _) (Nat.le_refl _)
theorem lk_RX6_118 : Cond.methodLink RX6 118 yX6_fail ∈ TB := tbm 739 (by decide +kernel) rfl
def tb_X6_expect : Tb := [(0, (.aload_n 1, 1)), (1, (.aload_n 0, 1)), (2, (.getfield 59, 3)), (5, (.invokevirtual 115, 3)), (8, (.iload_n 2, 1)), (9, (.if_icmp .eq 9, 3)), (12, (.aload_n 0, 1)), (13, (.iconst 1, 1)), (14, (.invokevirtual 118, 3)), (17, (.ireturn, 1)), (18, (.aload_n 0, 1)), (19, (.dup, 1)), (20, (.getfield 59, 3)), (23, (.iconst 1, 1)), (24, (.iadd, 1)), (25, (.putfield 59, 3)), (28, (.iconst 1, 1)), (29, (.ireturn, 1))]
def u_X6_expect : Fx := (yX6_expect, (cX6_expect, (3, ((some .boolean), tb_X6_expect))))
theorem tk_X6_expect : ∀ q ∈ u_X6_expect.2.2.2.2, decode u_X6_expect.2.1 q.1 = .ok q.2 := by decide +kernel
theorem mc_X6_expect : MC u_X6_expect 2 := ⟨tbm 770 (by decide +kernel) rfl, tbm 121 (by decide +kernel) rfl, ⟨by decide, by decide, by decide +kernel⟩, by decide⟩
theorem in_X6_expect : Cond.instanceMethod u_X6_expect.1 ∈ TB ∧ Cond.selects u_X6_expect.1.cls u_X6_expect.1 u_X6_expect.1 ∈ TB := ⟨tbm 769 (by decide +kernel) rfl, tbm 22 (by decide +kernel) rfl⟩
def f_X6_expect (t : List Sh) (m : Mi) (a0 : Nat) (a1 : Nat) (a2 : Int32) : Option (Int32 × Mi) :=
  (if ob t a1 9 = true then
  (f_X9_kindAt t m a1 (gi m a0 9)).bind fun x2 =>
  if x2 = a2 then
    lt (si m a0 9 ((gi m a0 9) + 1)) fun m4 =>
    some (1, m4)
  else
    bd (f_X6_fail t m a0 1) fun x5 m6 =>
    (if zb x5 = true then
    some (x5, m6)
    else none)
  else none)
set_option maxRecDepth 4000 in
set_option maxHeartbeats 4000000 in
theorem sm_X6_expect (t : List Sh) (m : Mi) (a0 : Nat) (a1 : Nat) (a2 : Int32) (h0 : sh t a0 = some (.inl 6)) : Sm u_X6_expect (2, 0, 0, t.length, zs t) (kI t) 0 [(0, .inr (.inr a0)), (1, .inr (.inr a1)), (2, .inl a2)] [] (t, m) (f_X6_expect t m a0 a1 a2) := by
  unfold f_X6_expect
  refine r_aload_n 0 1 1 rfl rfl rfl rfl ?_
  refine r_aload_n 1 2 0 rfl rfl rfl rfl ?_
  refine r_getI 2 5 rfl rfl fl_RX6_59 rfl h0 ?_
  refine r_gd (fun h1 => ?_)
  refine r_VIo 3 8 (st := []) (av := [.inr (.inr a1), .inl (gi m a0 9)]) (av' := [.inl (gi m a0 9)]) (μ' := u_X9_kindAt) (d := 1) rfl rfl mc_X9_kindAt in_X9_kindAt lk_RX6_115 (Nat.le_of_ble_eq_true rfl) rfl rfl (ob_sh h1) rfl (Nat.le_of_ble_eq_true rfl) (fun _ h => ct_X9_kindAt (ob_sh h1) h) (fun x2 => ?_)
  refine r_iload_n 4 9 2 rfl rfl rfl rfl ?_
  refine r_icmp_eq 5 18 12 rfl rfl rfl (fun h3 => ?_) (fun h3 => ?_)
  · refine r_aload_n 10 19 0 rfl rfl rfl rfl ?_
    refine r_dup 11 20 rfl rfl rfl ?_
    refine r_getI 12 23 rfl rfl fl_RX6_59 rfl h0 ?_
    refine r_iconst 13 24 (v := 1) rfl rfl (by decide) ?_
    refine r_iadd 14 25 rfl rfl ?_
    refine r_putI 15 28 rfl rfl fl_RX6_59 (fun h => by cases h) (Or.inl rfl) h0 ?_
    refine r_ltM (fun m4 => ?_)
    refine r_iconst 16 29 (v := 1) rfl rfl (by decide) ?_
    exact r_zret 17 rfl rfl (by decide) rfl
  · refine r_aload_n 6 13 0 rfl rfl rfl rfl ?_
    refine r_iconst 7 14 (v := 1) rfl rfl (by decide) ?_
    refine r_VI 8 17 (st := []) (av := [.inr (.inr a0), .inl 1]) (av' := [.inl 1]) (μ' := u_X6_fail) (d := 1) rfl rfl mc_X6_fail in_X6_fail lk_RX6_118 (Nat.le_of_ble_eq_true rfl) rfl rfl h0 rfl (Nat.le_of_ble_eq_true rfl) (fun _ _ h => ct_X6_fail h0 h) (fun x5 m6 => ?_)
    refine r_gd (fun h7 => ?_)
    exact r_zret 9 rfl rfl (zb_nar h7) rfl
theorem ct_X6_expect {t : List Sh} {m : Mi} {a0 : Nat} {a1 : Nat} {a2 : Int32} {m' : Mi} {v : Int32}  (h0 : sh t a0 = some (.inl 6)) (h : f_X6_expect t m a0 a1 a2 = some (v, m')) : Ct u_X6_expect 2 0 0 [.inr (.inr a0), .inr (.inr a1), .inl a2] (t, m) (some (.inl v), (t, m')) :=
  ct_of (by decide) tk_X6_expect (Nat.le_of_ble_eq_true rfl) (sm_X6_expect t m a0 a1 a2 h0) (by rw [h]; rfl) (Nat.le_refl _) (Nat.le_refl _)
theorem lk_RX6_5 : Cond.methodLink RX6 5 Lib.objectInit ∈ TB := tbm 272 (by decide +kernel) rfl
theorem wd_273 : Cond.classLink RX6 15 RX2 ∈ TB := tbm 273 (by decide +kernel) rfl
theorem wd_304 : Cond.classLink RX6 22 RX7 ∈ TB := tbm 304 (by decide +kernel) rfl
theorem wd_344 : Cond.classLink RX6 29 RX0 ∈ TB := tbm 344 (by decide +kernel) rfl
theorem wd_399 : Cond.classLink RX6 36 RX10 ∈ TB := tbm 399 (by decide +kernel) rfl
theorem lk_RX6_38 : Cond.methodLink RX6 38 yX10_init ∈ TB := tbm 400 (by decide +kernel) rfl
theorem fl_RX6_39 : FL RX6 39 6 8 true := ⟨RX6, TX6, 11, rfl, inW6, tyX6_ok, nmX6, by decide, rfl, rfl, rfl, tbm 415 (by decide +kernel) rfl⟩
theorem lk_RX6_43 : Cond.methodLink RX6 43 yX6_clear ∈ TB := tbm 401 (by decide +kernel) rfl
theorem wd_346 : Cond.instantiable RX0 (fN 0) ∈ TB := tbm 346 (by decide +kernel) rfl
theorem wd_124 : Cond.initialized RX0 ∈ TB := tbm 124 (by decide +kernel) rfl
theorem lk_RX6_35 : Cond.methodLink RX6 35 yX0_init ∈ TB := tbm 347 (by decide +kernel) rfl
theorem wd_306 : Cond.instantiable RX7 (fN 7) ∈ TB := tbm 306 (by decide +kernel) rfl
theorem wd_123 : Cond.initialized RX7 ∈ TB := tbm 123 (by decide +kernel) rfl
theorem lk_RX6_28 : Cond.methodLink RX6 28 yX7_init ∈ TB := tbm 307 (by decide +kernel) rfl
theorem wd_275 : Cond.instantiable RX2 (fN 2) ∈ TB := tbm 275 (by decide +kernel) rfl
theorem wd_122 : Cond.initialized RX2 ∈ TB := tbm 122 (by decide +kernel) rfl
theorem lk_RX6_21 : Cond.methodLink RX6 21 yX2_init ∈ TB := tbm 276 (by decide +kernel) rfl
def tb_X6_init : Tb := [(0, (.aload_n 0, 1)), (1, (.invokespecial 5, 3)), (4, (.aload_n 0, 1)), (5, (.sipush 2000, 3)), (8, (.newarray .byte, 2)), (10, (.putfield 11, 3)), (13, (.aload_n 0, 1)), (14, (.bipush 10, 2)), (16, (.anewarray 15, 3)), (19, (.putfield 17, 3)), (22, (.iconst 0, 1)), (23, (.istore_n 1, 1)), (24, (.iload_n 1, 1)), (25, (.bipush 10, 2)), (27, (.if_icmp .ge 22, 3)), (30, (.aload_n 0, 1)), (31, (.getfield 17, 3)), (34, (.iload_n 1, 1)), (35, (.new 15, 3)), (38, (.dup, 1)), (39, (.invokespecial 21, 3)), (42, (.aastore, 1)), (43, (.iinc 1 1, 3)), (46, (.goto (-22), 3)), (49, (.aload_n 0, 1)), (50, (.bipush 60, 2)), (52, (.anewarray 22, 3)), (55, (.putfield 24, 3)), (58, (.iconst 0, 1)), (59, (.istore_n 1, 1)), (60, (.iload_n 1, 1)), (61, (.bipush 60, 2)), (63, (.if_icmp .ge 22, 3)), (66, (.aload_n 0, 1)), (67, (.getfield 24, 3)), (70, (.iload_n 1, 1)), (71, (.new 22, 3)), (74, (.dup, 1)), (75, (.invokespecial 28, 3)), (78, (.aastore, 1)), (79, (.iinc 1 1, 3)), (82, (.goto (-22), 3)), (85, (.aload_n 0, 1)), (86, (.sipush 250, 3)), (89, (.anewarray 29, 3)), (92, (.putfield 31, 3)), (95, (.iconst 0, 1)), (96, (.istore_n 1, 1)), (97, (.iload_n 1, 1)), (98, (.sipush 250, 3)), (101, (.if_icmp .ge 22, 3)), (104, (.aload_n 0, 1)), (105, (.getfield 31, 3)), (108, (.iload_n 1, 1)), (109, (.new 29, 3)), (112, (.dup, 1)), (113, (.invokespecial 35, 3)), (116, (.aastore, 1)), (117, (.iinc 1 1, 3)), (120, (.goto (-23), 3)), (123, (.aload_n 0, 1)), (124, (.new 36, 3)), (127, (.dup, 1)), (128, (.invokespecial 38, 3)), (131, (.putfield 39, 3)), (134, (.aload_n 0, 1)), (135, (.invokevirtual 43, 3)), (138, (.return_, 1))]
def u_X6_init : Fx := (yX6_init, (cX6_init, (2, (none, tb_X6_init))))
theorem tk_X6_init : ∀ q ∈ u_X6_init.2.2.2.2, decode u_X6_init.2.1 q.1 = .ok q.2 := by decide +kernel
theorem mc_X6_init : MC u_X6_init 0 := ⟨tbm 271 (by decide +kernel) rfl, tbm 121 (by decide +kernel) rfl, ⟨by decide, by decide, by decide +kernel⟩, by decide⟩
theorem ini_X6_init : Cond.instanceMethod u_X6_init.1 ∈ TB := tbm 270 (by decide +kernel) rfl
def f_X6_init_j123 (t : List Sh) (m : Mi) (a0 : Nat) : Option (Mm) :=
  (if t.length < 1000000 then
  lt (t.length + 1) fun r26 =>
  lt (t ++ [.inl 10]) fun t27 =>
  lt (zr m (t.length + 1)) fun m28 =>
  (if ob t27 r26 10 = true then
  bd (f_X10_init t27 m28 r26) fun t31 m30 =>
  (if ob t31 a0 6 = true then
  lt (sr m30 a0 8 r26) fun m33 =>
  (f_X6_clear t31 m33 a0).bind fun m34 =>
  some (t31, m34)
  else none)
  else none)
  else none)
def f_X6_init_l97 (t : List Sh) (m : Mi) (a0 : Nat) (a1 : Int32) : Option ((Int32 × List Sh × Mi) ⊕ ((List Sh × Mi))) :=
  if 250 ≤ a1 then
    some (.inr (t, m))
  else
    (if ob t a0 6 = true then
    (if t.length < 1000000 then
    lt (t.length + 1) fun r38 =>
    lt (t ++ [.inl 0]) fun t39 =>
    lt (zr m (t.length + 1)) fun m40 =>
    (if ob t39 r38 0 = true then
    (f_X0_init t39 m40 r38).bind fun m42 =>
    (if ar t39 (gr m a0 3) (.object RX0) a1 = true then
    lt (sr m42 (gr m a0 3) (ix a1) r38) fun m44 =>
    lt (a1 + 1) fun x45 =>
    some (.inl (x45, t39, m44))
    else none)
    else none)
    else none)
    else none)
def f_X6_init_j97 (t : List Sh) (m : Mi) (a0 : Nat) (a1 : Int32) : Option (Mm) :=
  (lp (fun x : Int32 × List Sh × Mi => f_X6_init_l97 x.2.1 x.2.2 a0 x.1) FUEL (a1, t, m)).bind (fun y : List Sh × Mi => f_X6_init_j123 (y.1) (y.2) a0)
def f_X6_init_j85 (t : List Sh) (m : Mi) (a0 : Nat) : Option (Mm) :=
  (if t.length < 1000000 then
  lt (t.length + 1) fun r20 =>
  lt (t ++ [.inr (.object RX0, ix 250)]) fun t21 =>
  lt (zr m (t.length + 1)) fun m22 =>
  (if ob t21 a0 6 = true then
  lt (sr m22 a0 3 r20) fun m24 =>
  f_X6_init_j97 t21 m24 a0 0
  else none)
  else none)
def f_X6_init_l60 (t : List Sh) (m : Mi) (a0 : Nat) (a1 : Int32) : Option ((Int32 × List Sh × Mi) ⊕ ((List Sh × Mi))) :=
  if 60 ≤ a1 then
    some (.inr (t, m))
  else
    (if ob t a0 6 = true then
    (if t.length < 1000000 then
    lt (t.length + 1) fun r49 =>
    lt (t ++ [.inl 7]) fun t50 =>
    lt (zr m (t.length + 1)) fun m51 =>
    (if ob t50 r49 7 = true then
    bd (f_X7_init t50 m51 r49) fun t54 m53 =>
    (if ar t54 (gr m a0 2) (.object RX7) a1 = true then
    (if ob t54 r49 7 = true then
    lt (sr m53 (gr m a0 2) (ix a1) r49) fun m57 =>
    lt (a1 + 1) fun x58 =>
    some (.inl (x58, t54, m57))
    else none)
    else none)
    else none)
    else none)
    else none)
def f_X6_init_j60 (t : List Sh) (m : Mi) (a0 : Nat) (a1 : Int32) : Option (Mm) :=
  (lp (fun x : Int32 × List Sh × Mi => f_X6_init_l60 x.2.1 x.2.2 a0 x.1) FUEL (a1, t, m)).bind (fun y : List Sh × Mi => f_X6_init_j85 (y.1) (y.2) a0)
def f_X6_init_j49 (t : List Sh) (m : Mi) (a0 : Nat) : Option (Mm) :=
  (if t.length < 1000000 then
  lt (t.length + 1) fun r14 =>
  lt (t ++ [.inr (.object RX7, ix 60)]) fun t15 =>
  lt (zr m (t.length + 1)) fun m16 =>
  (if ob t15 a0 6 = true then
  lt (sr m16 a0 2 r14) fun m18 =>
  f_X6_init_j60 t15 m18 a0 0
  else none)
  else none)
def f_X6_init_l24 (t : List Sh) (m : Mi) (a0 : Nat) (a1 : Int32) : Option ((Int32 × List Sh × Mi) ⊕ ((List Sh × Mi))) :=
  if 10 ≤ a1 then
    some (.inr (t, m))
  else
    (if ob t a0 6 = true then
    (if t.length < 1000000 then
    lt (t.length + 1) fun r62 =>
    lt (t ++ [.inl 2]) fun t63 =>
    lt (zr m (t.length + 1)) fun m64 =>
    (if ob t63 r62 2 = true then
    bd (f_X2_init t63 m64 r62) fun t67 m66 =>
    (if ar t67 (gr m a0 1) (.object RX2) a1 = true then
    (if ob t67 r62 2 = true then
    lt (sr m66 (gr m a0 1) (ix a1) r62) fun m70 =>
    lt (a1 + 1) fun x71 =>
    some (.inl (x71, t67, m70))
    else none)
    else none)
    else none)
    else none)
    else none)
def f_X6_init_j24 (t : List Sh) (m : Mi) (a0 : Nat) (a1 : Int32) : Option (Mm) :=
  (lp (fun x : Int32 × List Sh × Mi => f_X6_init_l24 x.2.1 x.2.2 a0 x.1) FUEL (a1, t, m)).bind (fun y : List Sh × Mi => f_X6_init_j49 (y.1) (y.2) a0)
set_option maxRecDepth 20000 in
def f_X6_init (t : List Sh) (m : Mi) (a0 : Nat) : Option (Mm) :=
  (if t.length < 1000000 then
  lt (t.length + 1) fun r2 =>
  lt (t ++ [.inr (.byte, ix 2000)]) fun t3 =>
  lt (zr m (t.length + 1)) fun m4 =>
  (if ob t3 a0 6 = true then
  lt (sr m4 a0 0 r2) fun m6 =>
  (if t3.length < 1000000 then
  lt (t3.length + 1) fun r8 =>
  lt (t3 ++ [.inr (.object RX2, ix 10)]) fun t9 =>
  lt (zr m6 (t3.length + 1)) fun m10 =>
  (if ob t9 a0 6 = true then
  lt (sr m10 a0 1 r8) fun m12 =>
  f_X6_init_j24 t9 m12 a0 0
  else none)
  else none)
  else none)
  else none)
set_option maxRecDepth 40000 in
set_option maxHeartbeats 4000000 in
theorem sm_X6_init (e2 : Nat × (Nat × (Nat × Nat))) (t : List Sh) (m : Mi) (a0 : Nat) (h0 : sh t a0 = some (.inl 6)) : Sm u_X6_init (2, e2) kA 0 [(0, .inr (.inr a0))] [] (t, m) (f_X6_init t m a0) := by
  unfold f_X6_init
  refine r_aload_n 0 1 0 rfl rfl rfl rfl ?_
  refine r_objI 1 4 rfl rfl lk_RX6_5 (Nat.le_of_ble_eq_true rfl) (Nat.le_of_ble_eq_true rfl) h0 ?_
  refine r_aload_n 2 5 0 rfl rfl rfl rfl ?_
  refine r_sipush 3 8 (v := 2000) rfl rfl (by decide) ?_
  refine r_gd (fun h1 => ?_)
  refine r_newa 4 10 (ty := .byte) (q := 2) rfl rfl h1 rfl (by decide) (fun _ => rfl) wd_160 (by decide) (by decide) ?_
  refine r_ltR (fun r2 => ?_)
  refine r_ltT (fun t3 => ?_)
  refine r_ltM (fun m4 => ?_)
  refine r_gd (fun h5 => ?_)
  refine r_putR 5 13 rfl rfl fl_RX6_11 (fun _ => ⟨rfl, rfl⟩) rfl (ob_sh h5) ?_
  refine r_ltM (fun m6 => ?_)
  refine r_aload_n 6 14 0 rfl rfl rfl rfl ?_
  refine r_bipush 7 16 (v := 10) rfl rfl (by decide) ?_
  refine r_gd (fun h7 => ?_)
  refine r_anew 8 19 (C0 := RX2) (q := 5) rfl rfl h7 (fun _ => rfl) wd_273 (fun _ h => h.2.1) (by decide) (by decide) ?_
  refine r_ltR (fun r8 => ?_)
  refine r_ltT (fun t9 => ?_)
  refine r_ltM (fun m10 => ?_)
  refine r_gd (fun h11 => ?_)
  refine r_putR 9 22 rfl rfl fl_RX6_17 (fun _ => ⟨rfl, rfl⟩) rfl (ob_sh h11) ?_
  refine r_ltM (fun m12 => ?_)
  refine r_iconst 10 23 (v := 0) rfl rfl (by decide) ?_
  refine r_istore_n 11 24 (L' := [(1, .inl 0), (0, .inr (.inr a0))]) rfl rfl rfl (by decide) rfl ?_
  have hj24 : ∀ (t : List Sh) (m : Mi) (a1 : Int32), Sm u_X6_init (2, e2) kA 24 [(0, .inr (.inr a0)), (1, .inl a1)] [] (t, m) (f_X6_init_j24 t m a0 a1) := by
    intro t m a1
    unfold f_X6_init_j24
    have hj49 : ∀ (t : List Sh) (m : Mi), Sm u_X6_init (2, e2) kA 49 [(0, .inr (.inr a0))] [] (t, m) (f_X6_init_j49 t m a0) := by
      intro t m
      unfold f_X6_init_j49
      refine r_aload_n 24 50 0 rfl rfl rfl rfl ?_
      refine r_bipush 25 52 (v := 60) rfl rfl (by decide) ?_
      refine r_gd (fun h13 => ?_)
      refine r_anew 26 55 (C0 := RX7) (q := 6) rfl rfl h13 (fun _ => rfl) wd_304 (fun _ h => h.2.2.1) (by decide) (by decide) ?_
      refine r_ltR (fun r14 => ?_)
      refine r_ltT (fun t15 => ?_)
      refine r_ltM (fun m16 => ?_)
      refine r_gd (fun h17 => ?_)
      refine r_putR 27 58 rfl rfl fl_RX6_24 (fun _ => ⟨rfl, rfl⟩) rfl (ob_sh h17) ?_
      refine r_ltM (fun m18 => ?_)
      refine r_iconst 28 59 (v := 0) rfl rfl (by decide) ?_
      refine r_istore_n 29 60 (L' := [(1, .inl 0), (0, .inr (.inr a0))]) rfl rfl rfl (by decide) rfl ?_
      have hj60 : ∀ (t : List Sh) (m : Mi) (a1 : Int32), Sm u_X6_init (2, e2) kA 60 [(0, .inr (.inr a0)), (1, .inl a1)] [] (t, m) (f_X6_init_j60 t m a0 a1) := by
        intro t m a1
        unfold f_X6_init_j60
        have hj85 : ∀ (t : List Sh) (m : Mi), Sm u_X6_init (2, e2) kA 85 [(0, .inr (.inr a0))] [] (t, m) (f_X6_init_j85 t m a0) := by
          intro t m
          unfold f_X6_init_j85
          refine r_aload_n 42 86 0 rfl rfl rfl rfl ?_
          refine r_sipush 43 89 (v := 250) rfl rfl (by decide) ?_
          refine r_gd (fun h19 => ?_)
          refine r_anew 44 92 (C0 := RX0) (q := 7) rfl rfl h19 (fun _ => rfl) wd_344 (fun _ h => h.2.2.2) (by decide) (by decide) ?_
          refine r_ltR (fun r20 => ?_)
          refine r_ltT (fun t21 => ?_)
          refine r_ltM (fun m22 => ?_)
          refine r_gd (fun h23 => ?_)
          refine r_putR 45 95 rfl rfl fl_RX6_31 (fun _ => ⟨rfl, rfl⟩) rfl (ob_sh h23) ?_
          refine r_ltM (fun m24 => ?_)
          refine r_iconst 46 96 (v := 0) rfl rfl (by decide) ?_
          refine r_istore_n 47 97 (L' := [(1, .inl 0), (0, .inr (.inr a0))]) rfl rfl rfl (by decide) rfl ?_
          have hj97 : ∀ (t : List Sh) (m : Mi) (a1 : Int32), Sm u_X6_init (2, e2) kA 97 [(0, .inr (.inr a0)), (1, .inl a1)] [] (t, m) (f_X6_init_j97 t m a0 a1) := by
            intro t m a1
            unfold f_X6_init_j97
            have hj123 : ∀ (t : List Sh) (m : Mi), Sm u_X6_init (2, e2) kA 123 [(0, .inr (.inr a0))] [] (t, m) (f_X6_init_j123 t m a0) := by
              intro t m
              unfold f_X6_init_j123
              refine r_aload_n 60 124 0 rfl rfl rfl rfl ?_
              refine r_gd (fun h25 => ?_)
              refine r_new 61 127 (c := 10) rfl rfl h25 rfl inW10 tyX10_ok wd_399 wd_177 wd_117 (by decide) ?_
              refine r_ltR (fun r26 => ?_)
              refine r_ltT (fun t27 => ?_)
              refine r_ltM (fun m28 => ?_)
              refine r_dup 62 128 rfl rfl rfl ?_
              refine r_gd (fun h29 => ?_)
              refine r_IA 63 131 (st := [.inr (.inr r26), .inr (.inr a0)]) (av := [.inr (.inr r26)]) (av' := []) (μ' := u_X10_init) (d := 1) rfl rfl mc_X10_init rfl rfl ini_X10_init lk_RX6_38 (Nat.le_of_ble_eq_true rfl) rfl rfl (ob_sh h29) (Nat.le_of_ble_eq_true rfl) (fun _ h => ct_X10_init (ob_sh h29) h) (fun _ h => mn_X10_init (ob_sh h29) h) (fun t31 m30 => ?_)
              refine r_gd (fun h32 => ?_)
              refine r_putR 64 134 rfl rfl fl_RX6_39 (fun _ => ⟨rfl, rfl⟩) rfl (ob_sh h32) ?_
              refine r_ltM (fun m33 => ?_)
              refine r_aload_n 65 135 0 rfl rfl rfl rfl ?_
              refine r_VV 66 138 (st := []) (av := [.inr (.inr a0)]) (av' := []) (μ' := u_X6_clear) (d := 1) rfl rfl mc_X6_clear in_X6_clear lk_RX6_43 (Nat.le_of_ble_eq_true rfl) rfl rfl (ob_sh h32) rfl (Nat.le_of_ble_eq_true rfl) (fun _ h => ct_X6_clear (ob_sh h32) h) (fun m34 => ?_)
              exact r_vret 67 rfl rfl rfl
            refine r_lp (Lf := fun x : Int32 × List Sh × Mi => [(0, .inr (.inr a0)), (1, .inl (x.1))]) (Mf := fun x : Int32 × List Sh × Mi => (x.2.1, x.2.2)) (a1, t, m) ?_ FUEL
            rintro ⟨a1, t, m⟩ κ97 hc97 he97
            refine r_eq (L' := [(0, .inr (.inr a0)), (1, .inl a1)]) (M' := (t, m)) rfl rfl ?_
            refine r_eqr (r' := f_X6_init_l97 t m a0 a1) rfl ?_
            unfold f_X6_init_l97
            refine r_iload_n 48 98 1 rfl rfl rfl rfl ?_
            refine r_sipush 49 101 (v := 250) rfl rfl (by decide) ?_
            refine r_icmp_ge 50 123 104 rfl rfl rfl (fun h35 => ?_) (fun h35 => ?_)
            · refine r_leaf (r2 := (f_X6_init_j123 t m a0 : Option (Mm))) (he97 _) ?_
              exact r_sub [0] rfl (hj123 t m)
            · refine r_aload_n 51 105 0 rfl rfl rfl rfl ?_
              refine r_gd (fun h36 => ?_)
              refine r_getR 52 108 rfl rfl fl_RX6_31 rfl (ob_sh h36) ?_
              refine r_iload_n 53 109 1 rfl rfl rfl rfl ?_
              refine r_gd (fun h37 => ?_)
              refine r_new 54 112 (c := 0) rfl rfl h37 rfl inW0 tyX0_ok wd_344 wd_346 wd_124 (by decide) ?_
              refine r_ltR (fun r38 => ?_)
              refine r_ltT (fun t39 => ?_)
              refine r_ltM (fun m40 => ?_)
              refine r_dup 55 113 rfl rfl rfl ?_
              refine r_gd (fun h41 => ?_)
              refine r_IV 56 116 (st := [.inr (.inr r38), .inl a1, .inr (.inr (gr m a0 3))]) (av := [.inr (.inr r38)]) (av' := []) (μ' := u_X0_init) (d := 1) rfl rfl mc_X0_init rfl rfl ini_X0_init lk_RX6_35 (Nat.le_of_ble_eq_true rfl) rfl rfl (ob_sh h41) (Nat.le_of_ble_eq_true rfl) (fun _ h => ct_X0_init (ob_sh h41) h) (fun m42 => ?_)
              refine r_gd (fun h43 => ?_)
              refine r_aast 57 117 (ci := 0) (q := 7) (C0 := RX0) rfl rfl (fun _ => rfl) rfl h43 (ob_sh h41) ?_
              refine r_ltM (fun m44 => ?_)
              refine r_iinc 58 120 1 (L' := [(1, .inl (a1 + 1)), (0, .inr (.inr a0))]) rfl rfl rfl (by decide) rfl ?_
              refine r_ltV (fun x45 => ?_)
              refine r_goto 59 97 rfl rfl ?_
              exact r_sub [1, 0] rfl (hc97 (x45, t39, m44))
          exact r_sub [1, 0] rfl (hj97 t21 m24 0)
        refine r_lp (Lf := fun x : Int32 × List Sh × Mi => [(0, .inr (.inr a0)), (1, .inl (x.1))]) (Mf := fun x : Int32 × List Sh × Mi => (x.2.1, x.2.2)) (a1, t, m) ?_ FUEL
        rintro ⟨a1, t, m⟩ κ60 hc60 he60
        refine r_eq (L' := [(0, .inr (.inr a0)), (1, .inl a1)]) (M' := (t, m)) rfl rfl ?_
        refine r_eqr (r' := f_X6_init_l60 t m a0 a1) rfl ?_
        unfold f_X6_init_l60
        refine r_iload_n 30 61 1 rfl rfl rfl rfl ?_
        refine r_bipush 31 63 (v := 60) rfl rfl (by decide) ?_
        refine r_icmp_ge 32 85 66 rfl rfl rfl (fun h46 => ?_) (fun h46 => ?_)
        · refine r_leaf (r2 := (f_X6_init_j85 t m a0 : Option (Mm))) (he60 _) ?_
          exact r_sub [0] rfl (hj85 t m)
        · refine r_aload_n 33 67 0 rfl rfl rfl rfl ?_
          refine r_gd (fun h47 => ?_)
          refine r_getR 34 70 rfl rfl fl_RX6_24 rfl (ob_sh h47) ?_
          refine r_iload_n 35 71 1 rfl rfl rfl rfl ?_
          refine r_gd (fun h48 => ?_)
          refine r_new 36 74 (c := 7) rfl rfl h48 rfl inW7 tyX7_ok wd_304 wd_306 wd_123 (by decide) ?_
          refine r_ltR (fun r49 => ?_)
          refine r_ltT (fun t50 => ?_)
          refine r_ltM (fun m51 => ?_)
          refine r_dup 37 75 rfl rfl rfl ?_
          refine r_gd (fun h52 => ?_)
          refine r_IA 38 78 (st := [.inr (.inr r49), .inl a1, .inr (.inr (gr m a0 2))]) (av := [.inr (.inr r49)]) (av' := []) (μ' := u_X7_init) (d := 1) rfl rfl mc_X7_init rfl rfl ini_X7_init lk_RX6_28 (Nat.le_of_ble_eq_true rfl) rfl rfl (ob_sh h52) (Nat.le_of_ble_eq_true rfl) (fun _ h => ct_X7_init (ob_sh h52) h) (fun _ h => mn_X7_init (ob_sh h52) h) (fun t54 m53 => ?_)
          refine r_gd (fun h55 => ?_)
          refine r_gd (fun h56 => ?_)
          refine r_aast 39 79 (ci := 7) (q := 6) (C0 := RX7) rfl rfl (fun _ => rfl) rfl h55 (ob_sh h56) ?_
          refine r_ltM (fun m57 => ?_)
          refine r_iinc 40 82 1 (L' := [(1, .inl (a1 + 1)), (0, .inr (.inr a0))]) rfl rfl rfl (by decide) rfl ?_
          refine r_ltV (fun x58 => ?_)
          refine r_goto 41 60 rfl rfl ?_
          exact r_sub [1, 0] rfl (hc60 (x58, t54, m57))
      exact r_sub [1, 0] rfl (hj60 t15 m18 0)
    refine r_lp (Lf := fun x : Int32 × List Sh × Mi => [(0, .inr (.inr a0)), (1, .inl (x.1))]) (Mf := fun x : Int32 × List Sh × Mi => (x.2.1, x.2.2)) (a1, t, m) ?_ FUEL
    rintro ⟨a1, t, m⟩ κ24 hc24 he24
    refine r_eq (L' := [(0, .inr (.inr a0)), (1, .inl a1)]) (M' := (t, m)) rfl rfl ?_
    refine r_eqr (r' := f_X6_init_l24 t m a0 a1) rfl ?_
    unfold f_X6_init_l24
    refine r_iload_n 12 25 1 rfl rfl rfl rfl ?_
    refine r_bipush 13 27 (v := 10) rfl rfl (by decide) ?_
    refine r_icmp_ge 14 49 30 rfl rfl rfl (fun h59 => ?_) (fun h59 => ?_)
    · refine r_leaf (r2 := (f_X6_init_j49 t m a0 : Option (Mm))) (he24 _) ?_
      exact r_sub [0] rfl (hj49 t m)
    · refine r_aload_n 15 31 0 rfl rfl rfl rfl ?_
      refine r_gd (fun h60 => ?_)
      refine r_getR 16 34 rfl rfl fl_RX6_17 rfl (ob_sh h60) ?_
      refine r_iload_n 17 35 1 rfl rfl rfl rfl ?_
      refine r_gd (fun h61 => ?_)
      refine r_new 18 38 (c := 2) rfl rfl h61 rfl inW2 tyX2_ok wd_273 wd_275 wd_122 (by decide) ?_
      refine r_ltR (fun r62 => ?_)
      refine r_ltT (fun t63 => ?_)
      refine r_ltM (fun m64 => ?_)
      refine r_dup 19 39 rfl rfl rfl ?_
      refine r_gd (fun h65 => ?_)
      refine r_IA 20 42 (st := [.inr (.inr r62), .inl a1, .inr (.inr (gr m a0 1))]) (av := [.inr (.inr r62)]) (av' := []) (μ' := u_X2_init) (d := 1) rfl rfl mc_X2_init rfl rfl ini_X2_init lk_RX6_21 (Nat.le_of_ble_eq_true rfl) rfl rfl (ob_sh h65) (Nat.le_of_ble_eq_true rfl) (fun _ h => ct_X2_init (ob_sh h65) h) (fun _ h => mn_X2_init (ob_sh h65) h) (fun t67 m66 => ?_)
      refine r_gd (fun h68 => ?_)
      refine r_gd (fun h69 => ?_)
      refine r_aast 21 43 (ci := 2) (q := 5) (C0 := RX2) rfl rfl (fun _ => rfl) rfl h68 (ob_sh h69) ?_
      refine r_ltM (fun m70 => ?_)
      refine r_iinc 22 46 1 (L' := [(1, .inl (a1 + 1)), (0, .inr (.inr a0))]) rfl rfl rfl (by decide) rfl ?_
      refine r_ltV (fun x71 => ?_)
      refine r_goto 23 24 rfl rfl ?_
      exact r_sub [1, 0] rfl (hc24 (x71, t67, m70))
  exact r_sub [1, 0] rfl (hj24 t9 m12 0)
theorem mn_X6_init {t : List Sh} {m : Mi} {a0 : Nat} {q : Mm} (h0 : sh t a0 = some (.inl 6)) (h : f_X6_init t m a0 = some q) : t.length ≤ q.1.length ∧ zs t ≤ zs q.1 := ((sm_X6_init (0, 0, 0, 0) t m a0 h0) (none, q) (by rw [h]; rfl)).1
theorem ct_X6_init {t : List Sh} {m : Mi} {a0 : Nat} {q : Mm} (h0 : sh t a0 = some (.inl 6)) (h : f_X6_init t m a0 = some q) : Ct u_X6_init 2 (q.1.length - t.length) (zs q.1 - zs t) [.inr (.inr a0)] (t, m) (none, q) := by
  have hm := mn_X6_init h0 h
  exact ct_of (by decide) tk_X6_init (Nat.le_of_ble_eq_true rfl) (sm_X6_init (q.1.length - t.length, zs q.1 - zs t, t.length, zs t) t m a0 h0) (by rw [h]; rfl) (by show q.1.length ≤ t.length + (q.1.length - t.length); omega) (by show zs q.1 ≤ zs t + (zs q.1 - zs t); omega)
theorem lk_RX6_224 : Cond.methodLink RX6 224 yX6_isSameText ∈ TB := tbm 759 (by decide +kernel) rfl
def tb_X6_packNamed : Tb := [(0, (.iconst 0, 1)), (1, (.istore_n 3, 1)), (2, (.iload_n 3, 1)), (3, (.aload_n 0, 1)), (4, (.getfield 46, 3)), (7, (.if_icmp .ge 38, 3)), (10, (.aload_n 0, 1)), (11, (.aload_n 0, 1)), (12, (.getfield 17, 3)), (15, (.iload_n 3, 1)), (16, (.aaload, 1)), (17, (.getfield 179, 3)), (20, (.aload_n 0, 1)), (21, (.getfield 17, 3)), (24, (.iload_n 3, 1)), (25, (.aaload, 1)), (26, (.getfield 180, 3)), (29, (.iload_n 1, 1)), (30, (.iload_n 2, 1)), (31, (.invokevirtual 224, 3)), (34, (.ifCond .eq 5, 3)), (37, (.iload_n 3, 1)), (38, (.ireturn, 1)), (39, (.iinc 3 1, 3)), (42, (.goto (-40), 3)), (45, (.iconst (-1), 1)), (46, (.ireturn, 1))]
def u_X6_packNamed : Fx := (yX6_packNamed, (cX6_packNamed, (4, ((some .int), tb_X6_packNamed))))
theorem tk_X6_packNamed : ∀ q ∈ u_X6_packNamed.2.2.2.2, decode u_X6_packNamed.2.1 q.1 = .ok q.2 := by decide +kernel
theorem mc_X6_packNamed : MC u_X6_packNamed 2 := ⟨tbm 758 (by decide +kernel) rfl, tbm 121 (by decide +kernel) rfl, ⟨by decide, by decide, by decide +kernel⟩, by decide⟩
theorem in_X6_packNamed : Cond.instanceMethod u_X6_packNamed.1 ∈ TB ∧ Cond.selects u_X6_packNamed.1.cls u_X6_packNamed.1 u_X6_packNamed.1 ∈ TB := ⟨tbm 757 (by decide +kernel) rfl, tbm 19 (by decide +kernel) rfl⟩
def f_X6_packNamed_j37 (t : List Sh) (m : Mi) (a3 : Int32) : Option (Int32) :=
  some a3
def f_X6_packNamed_j45 (t : List Sh) (m : Mi) : Option (Int32) :=
  some (-1)
def f_X6_packNamed_l2 (t : List Sh) (m : Mi) (a0 : Nat) (a1 : Int32) (a2 : Int32) (a3 : Int32) : Option ((Int32) ⊕ ((Unit) ⊕ (Int32))) :=
  if (gi m a0 4) ≤ a3 then
    some (.inr (.inl ()))
  else
    (if ar t (gr m a0 1) (.object RX2) a3 = true then
    (if ob t (gr m (gr m a0 1) (ix a3)) 2 = true then
    (f_X6_isSameText t m a0 (gi m (gr m (gr m a0 1) (ix a3)) 1) (gi m (gr m (gr m a0 1) (ix a3)) 2) a1 a2).bind fun x4 =>
    if x4 = 0 then
      lt (a3 + 1) fun x6 =>
      some (.inl x6)
    else
      some (.inr (.inr a3))
    else none)
    else none)
def f_X6_packNamed_j2 (t : List Sh) (m : Mi) (a0 : Nat) (a1 : Int32) (a2 : Int32) (a3 : Int32) : Option (Int32) :=
  (lp (fun x : Int32 => f_X6_packNamed_l2 t m a0 a1 a2 x) FUEL a3).bind (Sum.elim (fun y : Unit => f_X6_packNamed_j45 t m) (fun y : Int32 => f_X6_packNamed_j37 t m y))
def f_X6_packNamed (t : List Sh) (m : Mi) (a0 : Nat) (a1 : Int32) (a2 : Int32) : Option (Int32) :=
  f_X6_packNamed_j2 t m a0 a1 a2 0
set_option maxRecDepth 4000 in
set_option maxHeartbeats 4000000 in
theorem sm_X6_packNamed (t : List Sh) (m : Mi) (a0 : Nat) (a1 : Int32) (a2 : Int32) (h0 : sh t a0 = some (.inl 6)) : Sm u_X6_packNamed (2, 0, 0, t.length, zs t) (kIo t m) 0 [(0, .inr (.inr a0)), (1, .inl a1), (2, .inl a2)] [] (t, m) (f_X6_packNamed t m a0 a1 a2) := by
  unfold f_X6_packNamed
  refine r_iconst 0 1 (v := 0) rfl rfl (by decide) ?_
  refine r_istore_n 1 2 (L' := [(3, .inl 0), (0, .inr (.inr a0)), (1, .inl a1), (2, .inl a2)]) rfl rfl rfl (by decide) rfl ?_
  have hj2 : ∀ (a3 : Int32), Sm u_X6_packNamed (2, 0, 0, t.length, zs t) (kIo t m) 2 [(0, .inr (.inr a0)), (1, .inl a1), (2, .inl a2), (3, .inl a3)] [] (t, m) (f_X6_packNamed_j2 t m a0 a1 a2 a3) := by
    intro a3
    unfold f_X6_packNamed_j2
    have hj37 : ∀ (a3 : Int32), Sm u_X6_packNamed (2, 0, 0, t.length, zs t) (kIo t m) 37 [(3, .inl a3)] [] (t, m) (f_X6_packNamed_j37 t m a3) := by
      intro a3
      unfold f_X6_packNamed_j37
      refine r_iload_n 21 38 0 rfl rfl rfl rfl ?_
      exact r_iret 22 rfl rfl rfl
    have hj45 : Sm u_X6_packNamed (2, 0, 0, t.length, zs t) (kIo t m) 45 [] [] (t, m) (f_X6_packNamed_j45 t m) := by
      unfold f_X6_packNamed_j45
      refine r_iconst 25 46 (v := (-1)) rfl rfl (by decide) ?_
      exact r_iret 26 rfl rfl rfl
    refine r_lp (Lf := fun x : Int32 => [(0, .inr (.inr a0)), (1, .inl a1), (2, .inl a2), (3, .inl x)]) (Mf := fun x : Int32 => (t, m)) a3 ?_ FUEL
    rintro a3 κ2 hc2 he2
    refine r_eq (L' := [(0, .inr (.inr a0)), (1, .inl a1), (2, .inl a2), (3, .inl a3)]) (M' := (t, m)) rfl rfl ?_
    refine r_eqr (r' := f_X6_packNamed_l2 t m a0 a1 a2 a3) rfl ?_
    unfold f_X6_packNamed_l2
    refine r_iload_n 2 3 3 rfl rfl rfl rfl ?_
    refine r_aload_n 3 4 0 rfl rfl rfl rfl ?_
    refine r_getI 4 7 rfl rfl fl_RX6_46 rfl h0 ?_
    refine r_icmp_ge 5 45 10 rfl rfl rfl (fun h1 => ?_) (fun h1 => ?_)
    · refine r_leaf (r2 := (f_X6_packNamed_j45 t m : Option (Int32))) (he2 _) ?_
      exact r_sub [] rfl (hj45)
    · refine r_aload_n 6 11 0 rfl rfl rfl rfl ?_
      refine r_aload_n 7 12 0 rfl rfl rfl rfl ?_
      refine r_getR 8 15 rfl rfl fl_RX6_17 rfl h0 ?_
      refine r_iload_n 9 16 3 rfl rfl rfl rfl ?_
      refine r_gd (fun h2 => ?_)
      refine r_aald 10 17 5 rfl rfl (fun _ => rfl) h2 ?_
      refine r_gd (fun h3 => ?_)
      refine r_getI 11 20 rfl rfl fl_RX6_179 rfl (ob_sh h3) ?_
      refine r_aload_n 12 21 0 rfl rfl rfl rfl ?_
      refine r_getR 13 24 rfl rfl fl_RX6_17 rfl h0 ?_
      refine r_iload_n 14 25 3 rfl rfl rfl rfl ?_
      refine r_aald 15 26 5 rfl rfl (fun _ => rfl) h2 ?_
      refine r_getI 16 29 rfl rfl fl_RX6_180 rfl (ob_sh h3) ?_
      refine r_iload_n 17 30 1 rfl rfl rfl rfl ?_
      refine r_iload_n 18 31 2 rfl rfl rfl rfl ?_
      refine r_VIo 19 34 (st := []) (av := [.inr (.inr a0), .inl (gi m (gr m (gr m a0 1) (ix a3)) 1), .inl (gi m (gr m (gr m a0 1) (ix a3)) 2), .inl a1, .inl a2]) (av' := [.inl (gi m (gr m (gr m a0 1) (ix a3)) 1), .inl (gi m (gr m (gr m a0 1) (ix a3)) 2), .inl a1, .inl a2]) (μ' := u_X6_isSameText) (d := 1) rfl rfl mc_X6_isSameText in_X6_isSameText lk_RX6_224 (Nat.le_of_ble_eq_true rfl) rfl rfl h0 rfl (Nat.le_of_ble_eq_true rfl) (fun _ h => ct_X6_isSameText h0 h) (fun x4 => ?_)
      refine r_if_eq 20 39 37 rfl rfl rfl (fun h5 => ?_) (fun h5 => ?_)
      · refine r_iinc 23 42 3 (L' := [(3, .inl (a3 + 1)), (0, .inr (.inr a0)), (1, .inl a1), (2, .inl a2)]) rfl rfl rfl (by decide) rfl ?_
        refine r_ltV (fun x6 => ?_)
        refine r_goto 24 2 rfl rfl ?_
        exact r_sub [1, 2, 3, 0] rfl (hc2 x6)
      · refine r_leaf (r2 := (f_X6_packNamed_j37 t m a3 : Option (Int32))) (he2 _) ?_
        exact r_sub [3] rfl (hj37 a3)
  exact r_sub [1, 2, 3, 0] rfl (hj2 0)
theorem ct_X6_packNamed {t : List Sh} {m : Mi} {a0 : Nat} {a1 : Int32} {a2 : Int32} {v : Int32}  (h0 : sh t a0 = some (.inl 6)) (h : f_X6_packNamed t m a0 a1 a2 = some v) : Ct u_X6_packNamed 2 0 0 [.inr (.inr a0), .inl a1, .inl a2] (t, m) (some (.inl v), (t, m)) :=
  ct_of (by decide) tk_X6_packNamed (Nat.le_of_ble_eq_true rfl) (sm_X6_packNamed t m a0 a1 a2 h0) (by rw [h]; rfl) (Nat.le_refl _) (Nat.le_refl _)
theorem lk_RX6_65 : Cond.methodLink RX6 65 yX6_packAt ∈ TB := tbm 780 (by decide +kernel) rfl
theorem lk_RX6_186 : Cond.methodLink RX6 186 yX2_insertRelease ∈ TB := tbm 790 (by decide +kernel) rfl
theorem fl_RX6_181 : FL RX6 181 10 0 true := ⟨RX10, TX10, 5, rfl, inW10, tyX10_ok, nmX10, by decide, rfl, rfl, rfl, tbm 185 (by decide +kernel) rfl⟩
theorem fl_RX6_78 : FL RX6 78 7 0 true := ⟨RX7, TX7, 6, rfl, inW7, tyX7_ok, nmX7, by decide, rfl, rfl, rfl, tbm 313 (by decide +kernel) rfl⟩
theorem lk_RX6_190 : Cond.methodLink RX6 190 yX10_copy ∈ TB := tbm 795 (by decide +kernel) rfl
theorem fl_RX6_194 : FL RX6 194 7 1 false := ⟨RX7, TX7, 6, rfl, inW7, tyX7_ok, nmX7, by decide, rfl, rfl, rfl, tbm 318 (by decide +kernel) rfl⟩
theorem fl_RX6_197 : FL RX6 197 7 2 false := ⟨RX7, TX7, 6, rfl, inW7, tyX7_ok, nmX7, by decide, rfl, rfl, rfl, tbm 321 (by decide +kernel) rfl⟩
theorem fl_RX6_200 : FL RX6 200 7 3 false := ⟨RX7, TX7, 6, rfl, inW7, tyX7_ok, nmX7, by decide, rfl, rfl, rfl, tbm 324 (by decide +kernel) rfl⟩
theorem fl_RX6_203 : FL RX6 203 7 4 false := ⟨RX7, TX7, 6, rfl, inW7, tyX7_ok, nmX7, by decide, rfl, rfl, rfl, tbm 327 (by decide +kernel) rfl⟩
theorem lk_RX6_182 : Cond.methodLink RX6 182 yX10_compare ∈ TB := tbm 784 (by decide +kernel) rfl
def tb_X6_addRelease : Tb := [(0, (.aload_n 0, 1)), (1, (.aload_n 0, 1)), (2, (.getfield 46, 3)), (5, (.iconst 1, 1)), (6, (.isub, 1)), (7, (.invokevirtual 65, 3)), (10, (.astore_n 3, 1)), (11, (.aload_n 3, 1)), (12, (.ifnull 12, 3)), (15, (.aload_n 0, 1)), (16, (.getfield 50, 3)), (19, (.bipush 60, 2)), (21, (.if_icmp .lt 5, 3)), (24, (.iconst 0, 1)), (25, (.ireturn, 1)), (26, (.iconst 0, 1)), (27, (.istore 4, 2)), (29, (.aload_n 3, 1)), (30, (.getfield 71, 3)), (33, (.istore 5, 2)), (35, (.iload 5, 2)), (37, (.aload_n 0, 1)), (38, (.getfield 50, 3)), (41, (.if_icmp .ge 55, 3)), (44, (.aload_n 0, 1)), (45, (.getfield 24, 3)), (48, (.iload 5, 2)), (50, (.aaload, 1)), (51, (.getfield 78, 3)), (54, (.iconst 0, 1)), (55, (.aload_n 0, 1)), (56, (.getfield 39, 3)), (59, (.getfield 181, 3)), (62, (.iconst 0, 1)), (63, (.invokestatic 182, 3)), (66, (.istore 6, 2)), (68, (.iload 6, 2)), (70, (.ifCond .ne 5, 3)), (73, (.iconst 0, 1)), (74, (.ireturn, 1)), (75, (.iload 4, 2)), (77, (.iload 6, 2)), (79, (.ifCond .le 7, 3)), (82, (.iconst 1, 1)), (83, (.goto 4, 3)), (86, (.iconst 0, 1)), (87, (.iadd, 1)), (88, (.istore 4, 2)), (90, (.iinc 5 1, 3)), (93, (.goto (-58), 3)), (96, (.aload_n 3, 1)), (97, (.iload 4, 2)), (99, (.invokevirtual 186, 3)), (102, (.aload_n 0, 1)), (103, (.getfield 24, 3)), (106, (.aload_n 0, 1)), (107, (.getfield 50, 3)), (110, (.aaload, 1)), (111, (.astore 5, 2)), (113, (.aload_n 0, 1)), (114, (.getfield 39, 3)), (117, (.getfield 181, 3)), (120, (.iconst 0, 1)), (121, (.aload 5, 2)), (123, (.getfield 78, 3)), (126, (.iconst 0, 1)), (127, (.invokestatic 190, 3)), (130, (.aload 5, 2)), (132, (.aload_n 0, 1)), (133, (.getfield 46, 3)), (136, (.iconst 1, 1)), (137, (.isub, 1)), (138, (.putfield 194, 3)), (141, (.aload 5, 2)), (143, (.iload_n 1, 1)), (144, (.putfield 197, 3)), (147, (.aload 5, 2)), (149, (.iload_n 2, 1)), (150, (.putfield 200, 3)), (153, (.aload 5, 2)), (155, (.aload_n 0, 1)), (156, (.getfield 53, 3)), (159, (.putfield 203, 3)), (162, (.aload 5, 2)), (164, (.iconst 0, 1)), (165, (.putfield 206, 3)), (168, (.aload_n 0, 1)), (169, (.dup, 1)), (170, (.getfield 50, 3)), (173, (.iconst 1, 1)), (174, (.iadd, 1)), (175, (.putfield 50, 3)), (178, (.iconst 1, 1)), (179, (.ireturn, 1))]
def u_X6_addRelease : Fx := (yX6_addRelease, (cX6_addRelease, (7, ((some .boolean), tb_X6_addRelease))))
theorem tk_X6_addRelease : ∀ q ∈ u_X6_addRelease.2.2.2.2, decode u_X6_addRelease.2.1 q.1 = .ok q.2 := by decide +kernel
theorem mc_X6_addRelease : MC u_X6_addRelease 2 := ⟨tbm 779 (by decide +kernel) rfl, tbm 121 (by decide +kernel) rfl, ⟨by decide, by decide, by decide +kernel⟩, by decide⟩
theorem in_X6_addRelease : Cond.instanceMethod u_X6_addRelease.1 ∈ TB ∧ Cond.selects u_X6_addRelease.1.cls u_X6_addRelease.1 u_X6_addRelease.1 ∈ TB := ⟨tbm 778 (by decide +kernel) rfl, tbm 24 (by decide +kernel) rfl⟩
def f_X6_addRelease_j73 (t : List Sh) (m : Mi) : Option (Int32 × Mi) :=
  some (0, m)
def f_X6_addRelease_j96 (t : List Sh) (m : Mi) (a0 : Nat) (a1 : Int32) (a2 : Int32) (a3 : Nat) (a4 : Int32) : Option (Int32 × Mi) :=
  (if ob t a3 2 = true then
  (f_X2_insertRelease t m a3 a4).bind fun m7 =>
  (if ar t (gr m7 a0 2) (.object RX7) (gi m7 a0 5) = true then
  lt (gr m7 (gr m7 a0 2) (ix (gi m7 a0 5))) fun x9 =>
  (if ob t (gr m7 a0 8) 10 = true then
  (if ob t x9 7 = true then
  (f_X10_copy t m7 (gr m7 (gr m7 a0 8) 0) 0 (gr m7 x9 0) 0).bind fun m12 =>
  lt (si m12 x9 1 ((gi m12 a0 4) - 1)) fun m13 =>
  lt (si m13 x9 2 a1) fun m14 =>
  lt (si m14 x9 3 a2) fun m15 =>
  lt (si m15 x9 4 (gi m15 a0 6)) fun m16 =>
  lt (si m16 x9 5 0) fun m17 =>
  lt (si m17 a0 5 ((gi m17 a0 5) + 1)) fun m18 =>
  some (1, m18)
  else none)
  else none)
  else none)
  else none)
def f_X6_addRelease_l35 (t : List Sh) (m : Mi) (a0 : Nat) (a1 : Int32) (a2 : Int32) (a3 : Nat) (a4 : Int32) (a5 : Int32) : Option ((Int32 × Int32) ⊕ ((Int32) ⊕ (Unit))) :=
  if (gi m a0 5) ≤ a5 then
    some (.inr (.inl a4))
  else
    (if ar t (gr m a0 2) (.object RX7) a5 = true then
    (if ob t (gr m (gr m a0 2) (ix a5)) 7 = true then
    (if ob t (gr m a0 8) 10 = true then
    (f_X10_compare t m (gr m (gr m (gr m a0 2) (ix a5)) 0) 0 (gr m (gr m a0 8) 0) 0).bind fun x23 =>
    if x23 = 0 then
      some (.inr (.inr ()))
    else
      if x23 ≤ 0 then
        lt (a4 + 0) fun x26 =>
        lt (a5 + 1) fun x27 =>
        some (.inl (x26, x27))
      else
        lt (a4 + 1) fun x28 =>
        lt (a5 + 1) fun x29 =>
        some (.inl (x28, x29))
    else none)
    else none)
    else none)
def f_X6_addRelease_j35 (t : List Sh) (m : Mi) (a0 : Nat) (a1 : Int32) (a2 : Int32) (a3 : Nat) (a4 : Int32) (a5 : Int32) : Option (Int32 × Mi) :=
  (lp (fun x : Int32 × Int32 => f_X6_addRelease_l35 t m a0 a1 a2 a3 x.1 x.2) FUEL (a4, a5)).bind (Sum.elim (fun y : Int32 => f_X6_addRelease_j96 t m a0 a1 a2 a3 y) (fun y : Unit => f_X6_addRelease_j73 t m))
def f_X6_addRelease (t : List Sh) (m : Mi) (a0 : Nat) (a1 : Int32) (a2 : Int32) : Option (Int32 × Mi) :=
  (f_X6_packAt t m a0 ((gi m a0 4) - 1)).bind fun x1 =>
  if x1 = 0 then
    some (0, m)
  else
    if (gi m a0 5) < 60 then
      (if ob t x1 2 = true then
      lt (gi m x1 3) fun x5 =>
      f_X6_addRelease_j35 t m a0 a1 a2 x1 0 x5
      else none)
    else
      some (0, m)
set_option maxRecDepth 4000 in
set_option maxHeartbeats 4000000 in
theorem sm_X6_addRelease (t : List Sh) (m : Mi) (a0 : Nat) (a1 : Int32) (a2 : Int32) (h0 : sh t a0 = some (.inl 6)) : Sm u_X6_addRelease (3, 0, 0, t.length, zs t) (kI t) 0 [(0, .inr (.inr a0)), (1, .inl a1), (2, .inl a2)] [] (t, m) (f_X6_addRelease t m a0 a1 a2) := by
  unfold f_X6_addRelease
  refine r_aload_n 0 1 0 rfl rfl rfl rfl ?_
  refine r_aload_n 1 2 0 rfl rfl rfl rfl ?_
  refine r_getI 2 5 rfl rfl fl_RX6_46 rfl h0 ?_
  refine r_iconst 3 6 (v := 1) rfl rfl (by decide) ?_
  refine r_isub 4 7 rfl rfl ?_
  refine r_VRo 5 10 (st := []) (av := [.inr (.inr a0), .inl ((gi m a0 4) - 1)]) (av' := [.inl ((gi m a0 4) - 1)]) (μ' := u_X6_packAt) (d := 1) rfl rfl mc_X6_packAt in_X6_packAt lk_RX6_65 (Nat.le_of_ble_eq_true rfl) rfl rfl h0 rfl (Nat.le_of_ble_eq_true rfl) (fun _ h => ct_X6_packAt h0 h) (fun x1 => ?_)
  refine r_astore_n 6 11 (L' := [(3, .inr (.inr x1)), (0, .inr (.inr a0)), (1, .inl a1), (2, .inl a2)]) rfl rfl rfl (by decide) rfl ?_
  refine r_aload_n 7 12 0 rfl rfl rfl rfl ?_
  refine r_ifnull 8 24 15 rfl rfl rfl (fun h2 => ?_) (fun h2 => ?_)
  · refine r_iconst 13 25 (v := 0) rfl rfl (by decide) ?_
    exact r_zret 14 rfl rfl (by decide) rfl
  · refine r_aload_n 9 16 1 rfl rfl rfl rfl ?_
    refine r_getI 10 19 rfl rfl fl_RX6_50 rfl h0 ?_
    refine r_bipush 11 21 (v := 60) rfl rfl (by decide) ?_
    refine r_icmp_lt 12 26 24 rfl rfl rfl (fun h3 => ?_) (fun h3 => ?_)
    · refine r_iconst 15 27 (v := 0) rfl rfl (by decide) ?_
      refine r_istore 16 29 (L' := [(4, .inl 0), (3, .inr (.inr x1)), (0, .inr (.inr a0)), (1, .inl a1), (2, .inl a2)]) rfl rfl (by decide) rfl ?_
      refine r_aload_n 17 30 1 rfl rfl rfl rfl ?_
      refine r_gd (fun h4 => ?_)
      refine r_getI 18 33 rfl rfl fl_RX6_71 rfl (ob_sh h4) ?_
      refine r_ltI (fun x5 => ?_)
      refine r_istore 19 35 (L' := [(5, .inl x5), (4, .inl 0), (3, .inr (.inr x1)), (0, .inr (.inr a0)), (1, .inl a1), (2, .inl a2)]) rfl rfl (by decide) rfl ?_
      have hj35 : ∀ (m : Mi) (a3 : Nat) (a4 : Int32) (a5 : Int32), Sm u_X6_addRelease (3, 0, 0, t.length, zs t) (kI t) 35 [(0, .inr (.inr a0)), (1, .inl a1), (2, .inl a2), (3, .inr (.inr a3)), (4, .inl a4), (5, .inl a5)] [] (t, m) (f_X6_addRelease_j35 t m a0 a1 a2 a3 a4 a5) := by
        intro m a3 a4 a5
        unfold f_X6_addRelease_j35
        have hj73 : ∀ (m : Mi), Sm u_X6_addRelease (3, 0, 0, t.length, zs t) (kI t) 73 [] [] (t, m) (f_X6_addRelease_j73 t m) := by
          intro m
          unfold f_X6_addRelease_j73
          refine r_iconst 38 74 (v := 0) rfl rfl (by decide) ?_
          exact r_zret 39 rfl rfl (by decide) rfl
        have hj96 : ∀ (m : Mi) (a3 : Nat) (a4 : Int32), Sm u_X6_addRelease (3, 0, 0, t.length, zs t) (kI t) 96 [(0, .inr (.inr a0)), (1, .inl a1), (2, .inl a2), (3, .inr (.inr a3)), (4, .inl a4)] [] (t, m) (f_X6_addRelease_j96 t m a0 a1 a2 a3 a4) := by
          intro m a3 a4
          unfold f_X6_addRelease_j96
          refine r_aload_n 50 97 3 rfl rfl rfl rfl ?_
          refine r_iload 51 99 4 rfl rfl rfl ?_
          refine r_gd (fun h6 => ?_)
          refine r_VV 52 102 (st := []) (av := [.inr (.inr a3), .inl a4]) (av' := [.inl a4]) (μ' := u_X2_insertRelease) (d := 1) rfl rfl mc_X2_insertRelease in_X2_insertRelease lk_RX6_186 (Nat.le_of_ble_eq_true rfl) rfl rfl (ob_sh h6) rfl (Nat.le_of_ble_eq_true rfl) (fun _ h => ct_X2_insertRelease (ob_sh h6) h) (fun m7 => ?_)
          refine r_aload_n 53 103 0 rfl rfl rfl rfl ?_
          refine r_getR 54 106 rfl rfl fl_RX6_24 rfl h0 ?_
          refine r_aload_n 55 107 0 rfl rfl rfl rfl ?_
          refine r_getI 56 110 rfl rfl fl_RX6_50 rfl h0 ?_
          refine r_gd (fun h8 => ?_)
          refine r_aald 57 111 6 rfl rfl (fun _ => rfl) h8 ?_
          refine r_ltR (fun x9 => ?_)
          refine r_astore 58 113 (L' := [(5, .inr (.inr x9)), (0, .inr (.inr a0)), (1, .inl a1), (2, .inl a2), (3, .inr (.inr a3)), (4, .inl a4)]) rfl rfl (by decide) rfl ?_
          refine r_aload_n 59 114 1 rfl rfl rfl rfl ?_
          refine r_getR 60 117 rfl rfl fl_RX6_39 rfl h0 ?_
          refine r_gd (fun h10 => ?_)
          refine r_getR 61 120 rfl rfl fl_RX6_181 rfl (ob_sh h10) ?_
          refine r_iconst 62 121 (v := 0) rfl rfl (by decide) ?_
          refine r_aload 63 123 0 rfl rfl rfl ?_
          refine r_gd (fun h11 => ?_)
          refine r_getR 64 126 rfl rfl fl_RX6_78 rfl (ob_sh h11) ?_
          refine r_iconst 65 127 (v := 0) rfl rfl (by decide) ?_
          refine r_SV 66 130 (a := 0) (cn := 0) (st := []) (av := [.inr (.inr (gr m7 (gr m7 a0 8) 0)), .inl 0, .inr (.inr (gr m7 x9 0)), .inl 0]) (μ' := u_X10_copy) (d := 2) rfl rfl mc_X10_copy st_X10_copy lk_RX6_190 (Nat.le_of_ble_eq_true rfl) rfl (Nat.le_of_ble_eq_true rfl) (fun _ h => ct_X10_copy h) (fun m12 => ?_)
          refine r_aload 67 132 0 rfl rfl rfl ?_
          refine r_aload_n 68 133 1 rfl rfl rfl rfl ?_
          refine r_getI 69 136 rfl rfl fl_RX6_46 rfl h0 ?_
          refine r_iconst 70 137 (v := 1) rfl rfl (by decide) ?_
          refine r_isub 71 138 rfl rfl ?_
          refine r_putI 72 141 rfl rfl fl_RX6_194 (fun h => by cases h) (Or.inl rfl) (ob_sh h11) ?_
          refine r_ltM (fun m13 => ?_)
          refine r_aload 73 143 0 rfl rfl rfl ?_
          refine r_iload_n 74 144 2 rfl rfl rfl rfl ?_
          refine r_putI 75 147 rfl rfl fl_RX6_197 (fun h => by cases h) (Or.inl rfl) (ob_sh h11) ?_
          refine r_ltM (fun m14 => ?_)
          refine r_aload 76 149 0 rfl rfl rfl ?_
          refine r_iload_n 77 150 3 rfl rfl rfl rfl ?_
          refine r_putI 78 153 rfl rfl fl_RX6_200 (fun h => by cases h) (Or.inl rfl) (ob_sh h11) ?_
          refine r_ltM (fun m15 => ?_)
          refine r_aload 79 155 0 rfl rfl rfl ?_
          refine r_aload_n 80 156 1 rfl rfl rfl rfl ?_
          refine r_getI 81 159 rfl rfl fl_RX6_53 rfl h0 ?_
          refine r_putI 82 162 rfl rfl fl_RX6_203 (fun h => by cases h) (Or.inl rfl) (ob_sh h11) ?_
          refine r_ltM (fun m16 => ?_)
          refine r_aload 83 164 0 rfl rfl rfl ?_
          refine r_iconst 84 165 (v := 0) rfl rfl (by decide) ?_
          refine r_putI 85 168 rfl rfl fl_RX6_206 (fun h => by cases h) (Or.inl rfl) (ob_sh h11) ?_
          refine r_ltM (fun m17 => ?_)
          refine r_aload_n 86 169 1 rfl rfl rfl rfl ?_
          refine r_dup 87 170 rfl rfl rfl ?_
          refine r_getI 88 173 rfl rfl fl_RX6_50 rfl h0 ?_
          refine r_iconst 89 174 (v := 1) rfl rfl (by decide) ?_
          refine r_iadd 90 175 rfl rfl ?_
          refine r_putI 91 178 rfl rfl fl_RX6_50 (fun h => by cases h) (Or.inl rfl) h0 ?_
          refine r_ltM (fun m18 => ?_)
          refine r_iconst 92 179 (v := 1) rfl rfl (by decide) ?_
          exact r_zret 93 rfl rfl (by decide) rfl
        refine r_lp (Lf := fun x : Int32 × Int32 => [(0, .inr (.inr a0)), (1, .inl a1), (2, .inl a2), (3, .inr (.inr a3)), (4, .inl (x.1)), (5, .inl (x.2))]) (Mf := fun x : Int32 × Int32 => (t, m)) (a4, a5) ?_ FUEL
        rintro ⟨a4, a5⟩ κ35 hc35 he35
        refine r_eq (L' := [(0, .inr (.inr a0)), (1, .inl a1), (2, .inl a2), (3, .inr (.inr a3)), (4, .inl a4), (5, .inl a5)]) (M' := (t, m)) rfl rfl ?_
        refine r_eqr (r' := f_X6_addRelease_l35 t m a0 a1 a2 a3 a4 a5) rfl ?_
        unfold f_X6_addRelease_l35
        refine r_iload 20 37 5 rfl rfl rfl ?_
        refine r_aload_n 21 38 0 rfl rfl rfl rfl ?_
        refine r_getI 22 41 rfl rfl fl_RX6_50 rfl h0 ?_
        refine r_icmp_ge 23 96 44 rfl rfl rfl (fun h19 => ?_) (fun h19 => ?_)
        · refine r_leaf (r2 := (f_X6_addRelease_j96 t m a0 a1 a2 a3 a4 : Option (Int32 × Mi))) (he35 _) ?_
          exact r_sub [0, 1, 2, 3, 4] rfl (hj96 m a3 a4)
        · refine r_aload_n 24 45 0 rfl rfl rfl rfl ?_
          refine r_getR 25 48 rfl rfl fl_RX6_24 rfl h0 ?_
          refine r_iload 26 50 5 rfl rfl rfl ?_
          refine r_gd (fun h20 => ?_)
          refine r_aald 27 51 6 rfl rfl (fun _ => rfl) h20 ?_
          refine r_gd (fun h21 => ?_)
          refine r_getR 28 54 rfl rfl fl_RX6_78 rfl (ob_sh h21) ?_
          refine r_iconst 29 55 (v := 0) rfl rfl (by decide) ?_
          refine r_aload_n 30 56 0 rfl rfl rfl rfl ?_
          refine r_getR 31 59 rfl rfl fl_RX6_39 rfl h0 ?_
          refine r_gd (fun h22 => ?_)
          refine r_getR 32 62 rfl rfl fl_RX6_181 rfl (ob_sh h22) ?_
          refine r_iconst 33 63 (v := 0) rfl rfl (by decide) ?_
          refine r_SIo 34 66 (a := 0) (cn := 0) (st := []) (av := [.inr (.inr (gr m (gr m (gr m a0 2) (ix a5)) 0)), .inl 0, .inr (.inr (gr m (gr m a0 8) 0)), .inl 0]) (μ' := u_X10_compare) (d := 2) rfl rfl mc_X10_compare st_X10_compare lk_RX6_182 (Nat.le_of_ble_eq_true rfl) rfl (Nat.le_of_ble_eq_true rfl) (fun _ h => ct_X10_compare h) (fun x23 => ?_)
          refine r_istore 35 68 (L' := [(6, .inl x23), (0, .inr (.inr a0)), (1, .inl a1), (2, .inl a2), (3, .inr (.inr a3)), (4, .inl a4), (5, .inl a5)]) rfl rfl (by decide) rfl ?_
          refine r_iload 36 70 0 rfl rfl rfl ?_
          refine r_if_ne 37 75 73 rfl rfl rfl (fun h24 => ?_) (fun h24 => ?_)
          · refine r_leaf (r2 := (f_X6_addRelease_j73 t m : Option (Int32 × Mi))) (he35 _) ?_
            exact r_sub [] rfl (hj73 m)
          · refine r_iload 40 77 5 rfl rfl rfl ?_
            refine r_iload 41 79 0 rfl rfl rfl ?_
            refine r_if_le 42 86 82 rfl rfl rfl (fun h25 => ?_) (fun h25 => ?_)
            · refine r_iconst 45 87 (v := 0) rfl rfl (by decide) ?_
              refine r_iadd 46 88 rfl rfl ?_
              refine r_ltI (fun x26 => ?_)
              refine r_istore 47 90 (L' := [(4, .inl x26), (6, .inl x23), (0, .inr (.inr a0)), (1, .inl a1), (2, .inl a2), (3, .inr (.inr a3)), (5, .inl a5)]) rfl rfl (by decide) rfl ?_
              refine r_iinc 48 93 6 (L' := [(5, .inl (a5 + 1)), (4, .inl x26), (6, .inl x23), (0, .inr (.inr a0)), (1, .inl a1), (2, .inl a2), (3, .inr (.inr a3))]) rfl rfl rfl (by decide) rfl ?_
              refine r_ltV (fun x27 => ?_)
              refine r_goto 49 35 rfl rfl ?_
              exact r_sub [3, 4, 5, 6, 1, 0] rfl (hc35 (x26, x27))
            · refine r_iconst 43 83 (v := 1) rfl rfl (by decide) ?_
              refine r_goto 44 87 rfl rfl ?_
              refine r_iadd 46 88 rfl rfl ?_
              refine r_ltI (fun x28 => ?_)
              refine r_istore 47 90 (L' := [(4, .inl x28), (6, .inl x23), (0, .inr (.inr a0)), (1, .inl a1), (2, .inl a2), (3, .inr (.inr a3)), (5, .inl a5)]) rfl rfl (by decide) rfl ?_
              refine r_iinc 48 93 6 (L' := [(5, .inl (a5 + 1)), (4, .inl x28), (6, .inl x23), (0, .inr (.inr a0)), (1, .inl a1), (2, .inl a2), (3, .inr (.inr a3))]) rfl rfl rfl (by decide) rfl ?_
              refine r_ltV (fun x29 => ?_)
              refine r_goto 49 35 rfl rfl ?_
              exact r_sub [3, 4, 5, 6, 1, 0] rfl (hc35 (x28, x29))
      exact r_sub [3, 4, 5, 2, 1, 0] rfl (hj35 m x1 0 x5)
    · refine r_iconst 13 25 (v := 0) rfl rfl (by decide) ?_
      exact r_zret 14 rfl rfl (by decide) rfl
theorem ct_X6_addRelease {t : List Sh} {m : Mi} {a0 : Nat} {a1 : Int32} {a2 : Int32} {m' : Mi} {v : Int32}  (h0 : sh t a0 = some (.inl 6)) (h : f_X6_addRelease t m a0 a1 a2 = some (v, m')) : Ct u_X6_addRelease 3 0 0 [.inr (.inr a0), .inl a1, .inl a2] (t, m) (some (.inl v), (t, m')) :=
  ct_of (by decide) tk_X6_addRelease (Nat.le_of_ble_eq_true rfl) (sm_X6_addRelease t m a0 a1 a2 h0) (by rw [h]; rfl) (Nat.le_refl _) (Nat.le_refl _)
theorem lk_RX6_132 : Cond.methodLink RX6 132 yX6_packNamed ∈ TB := tbm 755 (by decide +kernel) rfl
def tb_X6_findTargets : Tb := [(0, (.iconst 0, 1)), (1, (.istore_n 1, 1)), (2, (.iload_n 1, 1)), (3, (.aload_n 0, 1)), (4, (.getfield 53, 3)), (7, (.if_icmp .ge 50, 3)), (10, (.aload_n 0, 1)), (11, (.getfield 31, 3)), (14, (.iload_n 1, 1)), (15, (.aaload, 1)), (16, (.astore_n 2, 1)), (17, (.aload_n 2, 1)), (18, (.aload_n 0, 1)), (19, (.aload_n 2, 1)), (20, (.getfield 170, 3)), (23, (.aload_n 2, 1)), (24, (.getfield 173, 3)), (27, (.invokevirtual 132, 3)), (30, (.putfield 176, 3)), (33, (.aload_n 2, 1)), (34, (.getfield 176, 3)), (37, (.iconst (-1), 1)), (38, (.if_icmp .ne 13, 3)), (41, (.iconst 4, 1)), (42, (.bipush 8, 2)), (44, (.aload_n 2, 1)), (45, (.getfield 170, 3)), (48, (.imul, 1)), (49, (.iadd, 1)), (50, (.ireturn, 1)), (51, (.iinc 1 1, 3)), (54, (.goto (-52), 3)), (57, (.iconst 0, 1)), (58, (.ireturn, 1))]
def u_X6_findTargets : Fx := (yX6_findTargets, (cX6_findTargets, (3, ((some .int), tb_X6_findTargets))))
theorem tk_X6_findTargets : ∀ q ∈ u_X6_findTargets.2.2.2.2, decode u_X6_findTargets.2.1 q.1 = .ok q.2 := by decide +kernel
theorem mc_X6_findTargets : MC u_X6_findTargets 0 := ⟨tbm 837 (by decide +kernel) rfl, tbm 121 (by decide +kernel) rfl, ⟨by decide, by decide, by decide +kernel⟩, by decide⟩
theorem in_X6_findTargets : Cond.instanceMethod u_X6_findTargets.1 ∈ TB ∧ Cond.selects u_X6_findTargets.1.cls u_X6_findTargets.1 u_X6_findTargets.1 ∈ TB := ⟨tbm 836 (by decide +kernel) rfl, tbm 29 (by decide +kernel) rfl⟩
def f_X6_findTargets_j41 (t : List Sh) (m : Mi) (a2 : Nat) : Option (Int32 × Mi) :=
  (if ob t a2 0 = true then
  some (4 + (8 * (gi m a2 2)), m)
  else none)
def f_X6_findTargets_j57 (t : List Sh) (m : Mi) : Option (Int32 × Mi) :=
  some (0, m)
def f_X6_findTargets_l2 (t : List Sh) (m : Mi) (a0 : Nat) (a1 : Int32) : Option ((Int32 × Mi) ⊕ ((Mi) ⊕ (Nat × Mi))) :=
  if (gi m a0 6) ≤ a1 then
    some (.inr (.inl m))
  else
    (if ar t (gr m a0 3) (.object RX0) a1 = true then
    lt (gr m (gr m a0 3) (ix a1)) fun x4 =>
    (if ob t x4 0 = true then
    (f_X6_packNamed t m a0 (gi m x4 2) (gi m x4 3)).bind fun x6 =>
    lt (si m x4 4 x6) fun m7 =>
    if (gi m7 x4 4) = (-1) then
      some (.inr (.inr (x4, m7)))
    else
      lt (a1 + 1) fun x9 =>
      some (.inl (x9, m7))
    else none)
    else none)
def f_X6_findTargets_j2 (t : List Sh) (m : Mi) (a0 : Nat) (a1 : Int32) : Option (Int32 × Mi) :=
  (lp (fun x : Int32 × Mi => f_X6_findTargets_l2 t x.2 a0 x.1) FUEL (a1, m)).bind (Sum.elim (fun y : Mi => f_X6_findTargets_j57 t y) (fun y : Nat × Mi => f_X6_findTargets_j41 t (y.2) (y.1)))
def f_X6_findTargets (t : List Sh) (m : Mi) (a0 : Nat) : Option (Int32 × Mi) :=
  f_X6_findTargets_j2 t m a0 0
set_option maxRecDepth 4000 in
set_option maxHeartbeats 4000000 in
theorem sm_X6_findTargets (t : List Sh) (m : Mi) (a0 : Nat) (h0 : sh t a0 = some (.inl 6)) : Sm u_X6_findTargets (3, 0, 0, t.length, zs t) (kI t) 0 [(0, .inr (.inr a0))] [] (t, m) (f_X6_findTargets t m a0) := by
  unfold f_X6_findTargets
  refine r_iconst 0 1 (v := 0) rfl rfl (by decide) ?_
  refine r_istore_n 1 2 (L' := [(1, .inl 0), (0, .inr (.inr a0))]) rfl rfl rfl (by decide) rfl ?_
  have hj2 : ∀ (m : Mi) (a1 : Int32), Sm u_X6_findTargets (3, 0, 0, t.length, zs t) (kI t) 2 [(0, .inr (.inr a0)), (1, .inl a1)] [] (t, m) (f_X6_findTargets_j2 t m a0 a1) := by
    intro m a1
    unfold f_X6_findTargets_j2
    have hj41 : ∀ (m : Mi) (a2 : Nat), Sm u_X6_findTargets (3, 0, 0, t.length, zs t) (kI t) 41 [(2, .inr (.inr a2))] [] (t, m) (f_X6_findTargets_j41 t m a2) := by
      intro m a2
      unfold f_X6_findTargets_j41
      refine r_iconst 23 42 (v := 4) rfl rfl (by decide) ?_
      refine r_bipush 24 44 (v := 8) rfl rfl (by decide) ?_
      refine r_aload_n 25 45 0 rfl rfl rfl rfl ?_
      refine r_gd (fun h1 => ?_)
      refine r_getI 26 48 rfl rfl fl_RX6_170 rfl (ob_sh h1) ?_
      refine r_imul 27 49 rfl rfl ?_
      refine r_iadd 28 50 rfl rfl ?_
      exact r_iret 29 rfl rfl rfl
    have hj57 : ∀ (m : Mi), Sm u_X6_findTargets (3, 0, 0, t.length, zs t) (kI t) 57 [] [] (t, m) (f_X6_findTargets_j57 t m) := by
      intro m
      unfold f_X6_findTargets_j57
      refine r_iconst 32 58 (v := 0) rfl rfl (by decide) ?_
      exact r_iret 33 rfl rfl rfl
    refine r_lp (Lf := fun x : Int32 × Mi => [(0, .inr (.inr a0)), (1, .inl (x.1))]) (Mf := fun x : Int32 × Mi => (t, x.2)) (a1, m) ?_ FUEL
    rintro ⟨a1, m⟩ κ2 hc2 he2
    refine r_eq (L' := [(0, .inr (.inr a0)), (1, .inl a1)]) (M' := (t, m)) rfl rfl ?_
    refine r_eqr (r' := f_X6_findTargets_l2 t m a0 a1) rfl ?_
    unfold f_X6_findTargets_l2
    refine r_iload_n 2 3 1 rfl rfl rfl rfl ?_
    refine r_aload_n 3 4 0 rfl rfl rfl rfl ?_
    refine r_getI 4 7 rfl rfl fl_RX6_53 rfl h0 ?_
    refine r_icmp_ge 5 57 10 rfl rfl rfl (fun h2 => ?_) (fun h2 => ?_)
    · refine r_leaf (r2 := (f_X6_findTargets_j57 t m : Option (Int32 × Mi))) (he2 _) ?_
      exact r_sub [] rfl (hj57 m)
    · refine r_aload_n 6 11 0 rfl rfl rfl rfl ?_
      refine r_getR 7 14 rfl rfl fl_RX6_31 rfl h0 ?_
      refine r_iload_n 8 15 1 rfl rfl rfl rfl ?_
      refine r_gd (fun h3 => ?_)
      refine r_aald 9 16 7 rfl rfl (fun _ => rfl) h3 ?_
      refine r_ltR (fun x4 => ?_)
      refine r_astore_n 10 17 (L' := [(2, .inr (.inr x4)), (0, .inr (.inr a0)), (1, .inl a1)]) rfl rfl rfl (by decide) rfl ?_
      refine r_aload_n 11 18 0 rfl rfl rfl rfl ?_
      refine r_aload_n 12 19 1 rfl rfl rfl rfl ?_
      refine r_aload_n 13 20 0 rfl rfl rfl rfl ?_
      refine r_gd (fun h5 => ?_)
      refine r_getI 14 23 rfl rfl fl_RX6_170 rfl (ob_sh h5) ?_
      refine r_aload_n 15 24 0 rfl rfl rfl rfl ?_
      refine r_getI 16 27 rfl rfl fl_RX6_173 rfl (ob_sh h5) ?_
      refine r_VIo 17 30 (st := [.inr (.inr x4)]) (av := [.inr (.inr a0), .inl (gi m x4 2), .inl (gi m x4 3)]) (av' := [.inl (gi m x4 2), .inl (gi m x4 3)]) (μ' := u_X6_packNamed) (d := 2) rfl rfl mc_X6_packNamed in_X6_packNamed lk_RX6_132 (Nat.le_of_ble_eq_true rfl) rfl rfl h0 rfl (Nat.le_of_ble_eq_true rfl) (fun _ h => ct_X6_packNamed h0 h) (fun x6 => ?_)
      refine r_putI 18 33 rfl rfl fl_RX6_176 (fun h => by cases h) (Or.inl rfl) (ob_sh h5) ?_
      refine r_ltM (fun m7 => ?_)
      refine r_aload_n 19 34 0 rfl rfl rfl rfl ?_
      refine r_getI 20 37 rfl rfl fl_RX6_176 rfl (ob_sh h5) ?_
      refine r_iconst 21 38 (v := (-1)) rfl rfl (by decide) ?_
      refine r_icmp_ne 22 51 41 rfl rfl rfl (fun h8 => ?_) (fun h8 => ?_)
      · refine r_leaf (r2 := (f_X6_findTargets_j41 t m7 x4 : Option (Int32 × Mi))) (he2 _) ?_
        exact r_sub [0] rfl (hj41 m7 x4)
      · refine r_iinc 30 54 2 (L' := [(1, .inl (a1 + 1)), (2, .inr (.inr x4)), (0, .inr (.inr a0))]) rfl rfl rfl (by decide) rfl ?_
        refine r_ltV (fun x9 => ?_)
        refine r_goto 31 2 rfl rfl ?_
        exact r_sub [2, 0] rfl (hc2 (x9, m7))
  exact r_sub [1, 0] rfl (hj2 m 0)
theorem ct_X6_findTargets {t : List Sh} {m : Mi} {a0 : Nat} {m' : Mi} {v : Int32}  (h0 : sh t a0 = some (.inl 6)) (h : f_X6_findTargets t m a0 = some (v, m')) : Ct u_X6_findTargets 3 0 0 [.inr (.inr a0)] (t, m) (some (.inl v), (t, m')) :=
  ct_of (by decide) tk_X6_findTargets (Nat.le_of_ble_eq_true rfl) (sm_X6_findTargets t m a0 h0) (by rw [h]; rfl) (Nat.le_refl _) (Nat.le_refl _)
theorem lk_RX6_103 : Cond.methodLink RX6 103 yX6_expect ∈ TB := tbm 767 (by decide +kernel) rfl
theorem lk_RX6_157 : Cond.methodLink RX6 157 yX5_check ∈ TB := tbm 810 (by decide +kernel) rfl
theorem lk_RX6_163 : Cond.methodLink RX6 163 yX5_stop ∈ TB := tbm 822 (by decide +kernel) rfl
theorem lk_RX6_166 : Cond.methodLink RX6 166 yX6_addConstraint ∈ TB := tbm 826 (by decide +kernel) rfl
def tb_X6_takeConstraint : Tb := [(0, (.aload_n 0, 1)), (1, (.getfield 59, 3)), (4, (.istore_n 3, 1)), (5, (.aload_n 0, 1)), (6, (.dup, 1)), (7, (.getfield 59, 3)), (10, (.iconst 1, 1)), (11, (.iadd, 1)), (12, (.putfield 59, 3)), (15, (.aload_n 0, 1)), (16, (.aload_n 1, 1)), (17, (.iconst 2, 1)), (18, (.invokevirtual 103, 3)), (21, (.ifCond .ne 5, 3)), (24, (.iconst 0, 1)), (25, (.ireturn, 1)), (26, (.aload_n 2, 1)), (27, (.aload_n 1, 1)), (28, (.aload_n 0, 1)), (29, (.getfield 59, 3)), (32, (.invokevirtual 157, 3)), (35, (.istore 4, 2)), (37, (.aload_n 0, 1)), (38, (.aload_n 2, 1)), (39, (.invokevirtual 163, 3)), (42, (.putfield 59, 3)), (45, (.iload 4, 2)), (47, (.ifCond .eq 10, 3)), (50, (.aload_n 0, 1)), (51, (.iload 4, 2)), (53, (.invokevirtual 118, 3)), (56, (.ireturn, 1)), (57, (.aload_n 0, 1)), (58, (.aload_n 1, 1)), (59, (.iload_n 3, 1)), (60, (.aload_n 0, 1)), (61, (.getfield 59, 3)), (64, (.invokevirtual 166, 3)), (67, (.iconst 1, 1)), (68, (.ireturn, 1))]
def u_X6_takeConstraint : Fx := (yX6_takeConstraint, (cX6_takeConstraint, (5, ((some .boolean), tb_X6_takeConstraint))))
theorem tk_X6_takeConstraint : ∀ q ∈ u_X6_takeConstraint.2.2.2.2, decode u_X6_takeConstraint.2.1 q.1 = .ok q.2 := by decide +kernel
theorem mc_X6_takeConstraint : MC u_X6_takeConstraint 2 := ⟨tbm 809 (by decide +kernel) rfl, tbm 121 (by decide +kernel) rfl, ⟨by decide, by decide, by decide +kernel⟩, by decide⟩
theorem in_X6_takeConstraint : Cond.instanceMethod u_X6_takeConstraint.1 ∈ TB ∧ Cond.selects u_X6_takeConstraint.1.cls u_X6_takeConstraint.1 u_X6_takeConstraint.1 ∈ TB := ⟨tbm 808 (by decide +kernel) rfl, tbm 26 (by decide +kernel) rfl⟩
def f_X6_takeConstraint (t : List Sh) (m : Mi) (a0 : Nat) (a1 : Nat) (a2 : Nat) : Option (Int32 × Mi) :=
  lt (gi m a0 9) fun x1 =>
  lt (si m a0 9 ((gi m a0 9) + 1)) fun m2 =>
  bd (f_X6_expect t m2 a0 a1 2) fun x3 m4 =>
  if x3 = 0 then
    some (0, m4)
  else
    (if ob t a2 5 = true then
    bd (f_X5_check t m4 a2 a1 (gi m4 a0 9)) fun x7 m8 =>
    (f_X5_stop t m8 a2).bind fun x9 =>
    lt (si m8 a0 9 x9) fun m10 =>
    if x7 = 0 then
      (f_X6_addConstraint t m10 a0 a1 x1 (gi m10 a0 9)).bind fun m12 =>
      some (1, m12)
    else
      bd (f_X6_fail t m10 a0 x7) fun x13 m14 =>
      (if zb x13 = true then
      some (x13, m14)
      else none)
    else none)
set_option maxRecDepth 4000 in
set_option maxHeartbeats 4000000 in
theorem sm_X6_takeConstraint (t : List Sh) (m : Mi) (a0 : Nat) (a1 : Nat) (a2 : Nat) (h0 : sh t a0 = some (.inl 6)) : Sm u_X6_takeConstraint (3, 0, 0, t.length, zs t) (kI t) 0 [(0, .inr (.inr a0)), (1, .inr (.inr a1)), (2, .inr (.inr a2))] [] (t, m) (f_X6_takeConstraint t m a0 a1 a2) := by
  unfold f_X6_takeConstraint
  refine r_aload_n 0 1 0 rfl rfl rfl rfl ?_
  refine r_getI 1 4 rfl rfl fl_RX6_59 rfl h0 ?_
  refine r_ltI (fun x1 => ?_)
  refine r_istore_n 2 5 (L' := [(3, .inl x1), (0, .inr (.inr a0)), (1, .inr (.inr a1)), (2, .inr (.inr a2))]) rfl rfl rfl (by decide) rfl ?_
  refine r_aload_n 3 6 1 rfl rfl rfl rfl ?_
  refine r_dup 4 7 rfl rfl rfl ?_
  refine r_getI 5 10 rfl rfl fl_RX6_59 rfl h0 ?_
  refine r_iconst 6 11 (v := 1) rfl rfl (by decide) ?_
  refine r_iadd 7 12 rfl rfl ?_
  refine r_putI 8 15 rfl rfl fl_RX6_59 (fun h => by cases h) (Or.inl rfl) h0 ?_
  refine r_ltM (fun m2 => ?_)
  refine r_aload_n 9 16 1 rfl rfl rfl rfl ?_
  refine r_aload_n 10 17 2 rfl rfl rfl rfl ?_
  refine r_iconst 11 18 (v := 2) rfl rfl (by decide) ?_
  refine r_VI 12 21 (st := []) (av := [.inr (.inr a0), .inr (.inr a1), .inl 2]) (av' := [.inr (.inr a1), .inl 2]) (μ' := u_X6_expect) (d := 2) rfl rfl mc_X6_expect in_X6_expect lk_RX6_103 (Nat.le_of_ble_eq_true rfl) rfl rfl h0 rfl (Nat.le_of_ble_eq_true rfl) (fun _ _ h => ct_X6_expect h0 h) (fun x3 m4 => ?_)
  refine r_if_ne 13 26 24 rfl rfl rfl (fun h5 => ?_) (fun h5 => ?_)
  · refine r_iconst 14 25 (v := 0) rfl rfl (by decide) ?_
    exact r_zret 15 rfl rfl (by decide) rfl
  · refine r_aload_n 16 27 3 rfl rfl rfl rfl ?_
    refine r_aload_n 17 28 2 rfl rfl rfl rfl ?_
    refine r_aload_n 18 29 1 rfl rfl rfl rfl ?_
    refine r_getI 19 32 rfl rfl fl_RX6_59 rfl h0 ?_
    refine r_gd (fun h6 => ?_)
    refine r_VI 20 35 (st := []) (av := [.inr (.inr a2), .inr (.inr a1), .inl (gi m4 a0 9)]) (av' := [.inr (.inr a1), .inl (gi m4 a0 9)]) (μ' := u_X5_check) (d := 2) rfl rfl mc_X5_check in_X5_check lk_RX6_157 (Nat.le_of_ble_eq_true rfl) rfl rfl (ob_sh h6) rfl (Nat.le_of_ble_eq_true rfl) (fun _ _ h => ct_X5_check (ob_sh h6) h) (fun x7 m8 => ?_)
    refine r_istore 21 37 (L' := [(4, .inl x7), (3, .inl x1), (0, .inr (.inr a0)), (1, .inr (.inr a1)), (2, .inr (.inr a2))]) rfl rfl (by decide) rfl ?_
    refine r_aload_n 22 38 2 rfl rfl rfl rfl ?_
    refine r_aload_n 23 39 4 rfl rfl rfl rfl ?_
    refine r_VIo 24 42 (st := [.inr (.inr a0)]) (av := [.inr (.inr a2)]) (av' := []) (μ' := u_X5_stop) (d := 1) rfl rfl mc_X5_stop in_X5_stop lk_RX6_163 (Nat.le_of_ble_eq_true rfl) rfl rfl (ob_sh h6) rfl (Nat.le_of_ble_eq_true rfl) (fun _ h => ct_X5_stop (ob_sh h6) h) (fun x9 => ?_)
    refine r_putI 25 45 rfl rfl fl_RX6_59 (fun h => by cases h) (Or.inl rfl) h0 ?_
    refine r_ltM (fun m10 => ?_)
    refine r_iload 26 47 0 rfl rfl rfl ?_
    refine r_if_eq 27 57 50 rfl rfl rfl (fun h11 => ?_) (fun h11 => ?_)
    · refine r_aload_n 32 58 2 rfl rfl rfl rfl ?_
      refine r_aload_n 33 59 3 rfl rfl rfl rfl ?_
      refine r_iload_n 34 60 1 rfl rfl rfl rfl ?_
      refine r_aload_n 35 61 2 rfl rfl rfl rfl ?_
      refine r_getI 36 64 rfl rfl fl_RX6_59 rfl h0 ?_
      refine r_VV 37 67 (st := []) (av := [.inr (.inr a0), .inr (.inr a1), .inl x1, .inl (gi m10 a0 9)]) (av' := [.inr (.inr a1), .inl x1, .inl (gi m10 a0 9)]) (μ' := u_X6_addConstraint) (d := 2) rfl rfl mc_X6_addConstraint in_X6_addConstraint lk_RX6_166 (Nat.le_of_ble_eq_true rfl) rfl rfl h0 rfl (Nat.le_of_ble_eq_true rfl) (fun _ h => ct_X6_addConstraint h0 h) (fun m12 => ?_)
      refine r_iconst 38 68 (v := 1) rfl rfl (by decide) ?_
      exact r_zret 39 rfl rfl (by decide) rfl
    · refine r_aload_n 28 51 2 rfl rfl rfl rfl ?_
      refine r_iload 29 53 0 rfl rfl rfl ?_
      refine r_VI 30 56 (st := []) (av := [.inr (.inr a0), .inl x7]) (av' := [.inl x7]) (μ' := u_X6_fail) (d := 1) rfl rfl mc_X6_fail in_X6_fail lk_RX6_118 (Nat.le_of_ble_eq_true rfl) rfl rfl h0 rfl (Nat.le_of_ble_eq_true rfl) (fun _ _ h => ct_X6_fail h0 h) (fun x13 m14 => ?_)
      refine r_gd (fun h15 => ?_)
      exact r_zret 31 rfl rfl (zb_nar h15) rfl
theorem ct_X6_takeConstraint {t : List Sh} {m : Mi} {a0 : Nat} {a1 : Nat} {a2 : Nat} {m' : Mi} {v : Int32}  (h0 : sh t a0 = some (.inl 6)) (h : f_X6_takeConstraint t m a0 a1 a2 = some (v, m')) : Ct u_X6_takeConstraint 3 0 0 [.inr (.inr a0), .inr (.inr a1), .inr (.inr a2)] (t, m) (some (.inl v), (t, m')) :=
  ct_of (by decide) tk_X6_takeConstraint (Nat.le_of_ble_eq_true rfl) (sm_X6_takeConstraint t m a0 a1 a2 h0) (by rw [h]; rfl) (Nat.le_refl _) (Nat.le_refl _)
theorem lk_RX6_136 : Cond.methodLink RX6 136 yX6_addPack ∈ TB := tbm 763 (by decide +kernel) rfl
def tb_X6_takeName : Tb := [(0, (.aload_n 1, 1)), (1, (.aload_n 0, 1)), (2, (.getfield 59, 3)), (5, (.invokevirtual 115, 3)), (8, (.iconst 2, 1)), (9, (.if_icmp .eq 9, 3)), (12, (.aload_n 0, 1)), (13, (.iconst 1, 1)), (14, (.invokevirtual 118, 3)), (17, (.ireturn, 1)), (18, (.aload_n 0, 1)), (19, (.aload_n 1, 1)), (20, (.aload_n 0, 1)), (21, (.getfield 59, 3)), (24, (.invokevirtual 111, 3)), (27, (.aload_n 1, 1)), (28, (.aload_n 0, 1)), (29, (.getfield 59, 3)), (32, (.invokevirtual 129, 3)), (35, (.invokevirtual 132, 3)), (38, (.iconst (-1), 1)), (39, (.if_icmp .eq 9, 3)), (42, (.aload_n 0, 1)), (43, (.iconst 3, 1)), (44, (.invokevirtual 118, 3)), (47, (.ireturn, 1)), (48, (.aload_n 0, 1)), (49, (.aload_n 1, 1)), (50, (.aload_n 0, 1)), (51, (.getfield 59, 3)), (54, (.invokevirtual 111, 3)), (57, (.aload_n 1, 1)), (58, (.aload_n 0, 1)), (59, (.getfield 59, 3)), (62, (.invokevirtual 129, 3)), (65, (.invokevirtual 136, 3)), (68, (.aload_n 0, 1)), (69, (.dup, 1)), (70, (.getfield 59, 3)), (73, (.iconst 1, 1)), (74, (.iadd, 1)), (75, (.putfield 59, 3)), (78, (.iconst 1, 1)), (79, (.ireturn, 1))]
def u_X6_takeName : Fx := (yX6_takeName, (cX6_takeName, (2, ((some .boolean), tb_X6_takeName))))
theorem tk_X6_takeName : ∀ q ∈ u_X6_takeName.2.2.2.2, decode u_X6_takeName.2.1 q.1 = .ok q.2 := by decide +kernel
theorem mc_X6_takeName : MC u_X6_takeName 1 := ⟨tbm 746 (by decide +kernel) rfl, tbm 121 (by decide +kernel) rfl, ⟨by decide, by decide, by decide +kernel⟩, by decide⟩
theorem in_X6_takeName : Cond.instanceMethod u_X6_takeName.1 ∈ TB ∧ Cond.selects u_X6_takeName.1.cls u_X6_takeName.1 u_X6_takeName.1 ∈ TB := ⟨tbm 745 (by decide +kernel) rfl, tbm 18 (by decide +kernel) rfl⟩
def f_X6_takeName (t : List Sh) (m : Mi) (a0 : Nat) (a1 : Nat) : Option (Int32 × Mi) :=
  (if ob t a1 9 = true then
  (f_X9_kindAt t m a1 (gi m a0 9)).bind fun x2 =>
  if x2 = 2 then
    (f_X9_placeAt t m a1 (gi m a0 9)).bind fun x4 =>
    (f_X9_endAt t m a1 (gi m a0 9)).bind fun x5 =>
    (f_X6_packNamed t m a0 x4 x5).bind fun x6 =>
    if x6 = (-1) then
      (f_X9_placeAt t m a1 (gi m a0 9)).bind fun x8 =>
      (f_X9_endAt t m a1 (gi m a0 9)).bind fun x9 =>
      (f_X6_addPack t m a0 x8 x9).bind fun m10 =>
      lt (si m10 a0 9 ((gi m10 a0 9) + 1)) fun m11 =>
      some (1, m11)
    else
      bd (f_X6_fail t m a0 3) fun x12 m13 =>
      (if zb x12 = true then
      some (x12, m13)
      else none)
  else
    bd (f_X6_fail t m a0 1) fun x15 m16 =>
    (if zb x15 = true then
    some (x15, m16)
    else none)
  else none)
set_option maxRecDepth 4000 in
set_option maxHeartbeats 4000000 in
theorem sm_X6_takeName (t : List Sh) (m : Mi) (a0 : Nat) (a1 : Nat) (h0 : sh t a0 = some (.inl 6)) : Sm u_X6_takeName (3, 0, 0, t.length, zs t) (kI t) 0 [(0, .inr (.inr a0)), (1, .inr (.inr a1))] [] (t, m) (f_X6_takeName t m a0 a1) := by
  unfold f_X6_takeName
  refine r_aload_n 0 1 1 rfl rfl rfl rfl ?_
  refine r_aload_n 1 2 0 rfl rfl rfl rfl ?_
  refine r_getI 2 5 rfl rfl fl_RX6_59 rfl h0 ?_
  refine r_gd (fun h1 => ?_)
  refine r_VIo 3 8 (st := []) (av := [.inr (.inr a1), .inl (gi m a0 9)]) (av' := [.inl (gi m a0 9)]) (μ' := u_X9_kindAt) (d := 1) rfl rfl mc_X9_kindAt in_X9_kindAt lk_RX6_115 (Nat.le_of_ble_eq_true rfl) rfl rfl (ob_sh h1) rfl (Nat.le_of_ble_eq_true rfl) (fun _ h => ct_X9_kindAt (ob_sh h1) h) (fun x2 => ?_)
  refine r_iconst 4 9 (v := 2) rfl rfl (by decide) ?_
  refine r_icmp_eq 5 18 12 rfl rfl rfl (fun h3 => ?_) (fun h3 => ?_)
  · refine r_aload_n 10 19 0 rfl rfl rfl rfl ?_
    refine r_aload_n 11 20 1 rfl rfl rfl rfl ?_
    refine r_aload_n 12 21 0 rfl rfl rfl rfl ?_
    refine r_getI 13 24 rfl rfl fl_RX6_59 rfl h0 ?_
    refine r_VIo 14 27 (st := [.inr (.inr a0)]) (av := [.inr (.inr a1), .inl (gi m a0 9)]) (av' := [.inl (gi m a0 9)]) (μ' := u_X9_placeAt) (d := 1) rfl rfl mc_X9_placeAt in_X9_placeAt lk_RX6_111 (Nat.le_of_ble_eq_true rfl) rfl rfl (ob_sh h1) rfl (Nat.le_of_ble_eq_true rfl) (fun _ h => ct_X9_placeAt (ob_sh h1) h) (fun x4 => ?_)
    refine r_aload_n 15 28 1 rfl rfl rfl rfl ?_
    refine r_aload_n 16 29 0 rfl rfl rfl rfl ?_
    refine r_getI 17 32 rfl rfl fl_RX6_59 rfl h0 ?_
    refine r_VIo 18 35 (st := [.inl x4, .inr (.inr a0)]) (av := [.inr (.inr a1), .inl (gi m a0 9)]) (av' := [.inl (gi m a0 9)]) (μ' := u_X9_endAt) (d := 1) rfl rfl mc_X9_endAt in_X9_endAt lk_RX6_129 (Nat.le_of_ble_eq_true rfl) rfl rfl (ob_sh h1) rfl (Nat.le_of_ble_eq_true rfl) (fun _ h => ct_X9_endAt (ob_sh h1) h) (fun x5 => ?_)
    refine r_VIo 19 38 (st := []) (av := [.inr (.inr a0), .inl x4, .inl x5]) (av' := [.inl x4, .inl x5]) (μ' := u_X6_packNamed) (d := 2) rfl rfl mc_X6_packNamed in_X6_packNamed lk_RX6_132 (Nat.le_of_ble_eq_true rfl) rfl rfl h0 rfl (Nat.le_of_ble_eq_true rfl) (fun _ h => ct_X6_packNamed h0 h) (fun x6 => ?_)
    refine r_iconst 20 39 (v := (-1)) rfl rfl (by decide) ?_
    refine r_icmp_eq 21 48 42 rfl rfl rfl (fun h7 => ?_) (fun h7 => ?_)
    · refine r_aload_n 26 49 0 rfl rfl rfl rfl ?_
      refine r_aload_n 27 50 1 rfl rfl rfl rfl ?_
      refine r_aload_n 28 51 0 rfl rfl rfl rfl ?_
      refine r_getI 29 54 rfl rfl fl_RX6_59 rfl h0 ?_
      refine r_VIo 30 57 (st := [.inr (.inr a0)]) (av := [.inr (.inr a1), .inl (gi m a0 9)]) (av' := [.inl (gi m a0 9)]) (μ' := u_X9_placeAt) (d := 1) rfl rfl mc_X9_placeAt in_X9_placeAt lk_RX6_111 (Nat.le_of_ble_eq_true rfl) rfl rfl (ob_sh h1) rfl (Nat.le_of_ble_eq_true rfl) (fun _ h => ct_X9_placeAt (ob_sh h1) h) (fun x8 => ?_)
      refine r_aload_n 31 58 1 rfl rfl rfl rfl ?_
      refine r_aload_n 32 59 0 rfl rfl rfl rfl ?_
      refine r_getI 33 62 rfl rfl fl_RX6_59 rfl h0 ?_
      refine r_VIo 34 65 (st := [.inl x8, .inr (.inr a0)]) (av := [.inr (.inr a1), .inl (gi m a0 9)]) (av' := [.inl (gi m a0 9)]) (μ' := u_X9_endAt) (d := 1) rfl rfl mc_X9_endAt in_X9_endAt lk_RX6_129 (Nat.le_of_ble_eq_true rfl) rfl rfl (ob_sh h1) rfl (Nat.le_of_ble_eq_true rfl) (fun _ h => ct_X9_endAt (ob_sh h1) h) (fun x9 => ?_)
      refine r_VV 35 68 (st := []) (av := [.inr (.inr a0), .inl x8, .inl x9]) (av' := [.inl x8, .inl x9]) (μ' := u_X6_addPack) (d := 1) rfl rfl mc_X6_addPack in_X6_addPack lk_RX6_136 (Nat.le_of_ble_eq_true rfl) rfl rfl h0 rfl (Nat.le_of_ble_eq_true rfl) (fun _ h => ct_X6_addPack h0 h) (fun m10 => ?_)
      refine r_aload_n 36 69 0 rfl rfl rfl rfl ?_
      refine r_dup 37 70 rfl rfl rfl ?_
      refine r_getI 38 73 rfl rfl fl_RX6_59 rfl h0 ?_
      refine r_iconst 39 74 (v := 1) rfl rfl (by decide) ?_
      refine r_iadd 40 75 rfl rfl ?_
      refine r_putI 41 78 rfl rfl fl_RX6_59 (fun h => by cases h) (Or.inl rfl) h0 ?_
      refine r_ltM (fun m11 => ?_)
      refine r_iconst 42 79 (v := 1) rfl rfl (by decide) ?_
      exact r_zret 43 rfl rfl (by decide) rfl
    · refine r_aload_n 22 43 0 rfl rfl rfl rfl ?_
      refine r_iconst 23 44 (v := 3) rfl rfl (by decide) ?_
      refine r_VI 24 47 (st := []) (av := [.inr (.inr a0), .inl 3]) (av' := [.inl 3]) (μ' := u_X6_fail) (d := 1) rfl rfl mc_X6_fail in_X6_fail lk_RX6_118 (Nat.le_of_ble_eq_true rfl) rfl rfl h0 rfl (Nat.le_of_ble_eq_true rfl) (fun _ _ h => ct_X6_fail h0 h) (fun x12 m13 => ?_)
      refine r_gd (fun h14 => ?_)
      exact r_zret 25 rfl rfl (zb_nar h14) rfl
  · refine r_aload_n 6 13 0 rfl rfl rfl rfl ?_
    refine r_iconst 7 14 (v := 1) rfl rfl (by decide) ?_
    refine r_VI 8 17 (st := []) (av := [.inr (.inr a0), .inl 1]) (av' := [.inl 1]) (μ' := u_X6_fail) (d := 1) rfl rfl mc_X6_fail in_X6_fail lk_RX6_118 (Nat.le_of_ble_eq_true rfl) rfl rfl h0 rfl (Nat.le_of_ble_eq_true rfl) (fun _ _ h => ct_X6_fail h0 h) (fun x15 m16 => ?_)
    refine r_gd (fun h17 => ?_)
    exact r_zret 9 rfl rfl (zb_nar h17) rfl
theorem ct_X6_takeName {t : List Sh} {m : Mi} {a0 : Nat} {a1 : Nat} {m' : Mi} {v : Int32}  (h0 : sh t a0 = some (.inl 6)) (h : f_X6_takeName t m a0 a1 = some (v, m')) : Ct u_X6_takeName 3 0 0 [.inr (.inr a0), .inr (.inr a1)] (t, m) (some (.inl v), (t, m')) :=
  ct_of (by decide) tk_X6_takeName (Nat.le_of_ble_eq_true rfl) (sm_X6_takeName t m a0 a1 h0) (by rw [h]; rfl) (Nat.le_refl _) (Nat.le_refl _)
theorem lk_RX6_74 : Cond.methodLink RX6 74 yX6_releaseAt ∈ TB := tbm 945 (by decide +kernel) rfl
theorem lk_RX6_82 : Cond.methodLink RX6 82 yX4_has ∈ TB := tbm 949 (by decide +kernel) rfl
def tb_X6_releasesWithin : Tb := [(0, (.aload_n 0, 1)), (1, (.iload_n 1, 1)), (2, (.invokevirtual 65, 3)), (5, (.astore_n 3, 1)), (6, (.iconst 0, 1)), (7, (.istore 4, 2)), (9, (.iconst 0, 1)), (10, (.istore 5, 2)), (12, (.aload_n 3, 1)), (13, (.ifnull 57, 3)), (16, (.iload 5, 2)), (18, (.aload_n 3, 1)), (19, (.getfield 69, 3)), (22, (.if_icmp .ge 48, 3)), (25, (.aload_n 0, 1)), (26, (.aload_n 3, 1)), (27, (.getfield 71, 3)), (30, (.iload 5, 2)), (32, (.iadd, 1)), (33, (.invokevirtual 74, 3)), (36, (.astore 6, 2)), (38, (.aload 6, 2)), (40, (.ifnull 24, 3)), (43, (.aload_n 2, 1)), (44, (.aload 6, 2)), (46, (.getfield 78, 3)), (49, (.invokevirtual 82, 3)), (52, (.ifCond .eq 12, 3)), (55, (.iload 4, 2)), (57, (.iconst 1, 1)), (58, (.iload 5, 2)), (60, (.ishl, 1)), (61, (.ior, 1)), (62, (.istore 4, 2)), (64, (.iinc 5 1, 3)), (67, (.goto (-55), 3)), (70, (.iload 4, 2)), (72, (.ireturn, 1))]
def u_X6_releasesWithin : Fx := (yX6_releasesWithin, (cX6_releasesWithin, (7, ((some .int), tb_X6_releasesWithin))))
theorem tk_X6_releasesWithin : ∀ q ∈ u_X6_releasesWithin.2.2.2.2, decode u_X6_releasesWithin.2.1 q.1 = .ok q.2 := by decide +kernel
theorem mc_X6_releasesWithin : MC u_X6_releasesWithin 2 := ⟨tbm 944 (by decide +kernel) rfl, tbm 121 (by decide +kernel) rfl, ⟨by decide, by decide, by decide +kernel⟩, by decide⟩
theorem in_X6_releasesWithin : Cond.instanceMethod u_X6_releasesWithin.1 ∈ TB ∧ Cond.selects u_X6_releasesWithin.1.cls u_X6_releasesWithin.1 u_X6_releasesWithin.1 ∈ TB := ⟨tbm 942 (by decide +kernel) rfl, tbm 943 (by decide +kernel) rfl⟩
def f_X6_releasesWithin_j70 (t : List Sh) (m : Mi) (a4 : Int32) : Option (Int32) :=
  some a4
def f_X6_releasesWithin_l12 (t : List Sh) (m : Mi) (a0 : Nat) (a2 : Nat) (a3 : Nat) (a4 : Int32) (a5 : Int32) : Option ((Int32 × Int32) ⊕ ((Int32))) :=
  if a3 = 0 then
    some (.inr a4)
  else
    (if ob t a3 2 = true then
    if (gi m a3 4) ≤ a5 then
      some (.inr a4)
    else
      (f_X6_releaseAt t m a0 ((gi m a3 3) + a5)).bind fun x5 =>
      if x5 = 0 then
        lt (a5 + 1) fun x7 =>
        some (.inl (a4, x7))
      else
        (if ob t x5 7 = true then
        (if ob t a2 4 = true then
        (f_X4_has t m a2 (gr m x5 0)).bind fun x10 =>
        if x10 = 0 then
          lt (a5 + 1) fun x12 =>
          some (.inl (a4, x12))
        else
          lt (a4 ||| (1 <<< (a5 &&& 31))) fun x13 =>
          lt (a5 + 1) fun x14 =>
          some (.inl (x13, x14))
        else none)
        else none)
    else none)
def f_X6_releasesWithin_j12 (t : List Sh) (m : Mi) (a0 : Nat) (a2 : Nat) (a3 : Nat) (a4 : Int32) (a5 : Int32) : Option (Int32) :=
  (lp (fun x : Int32 × Int32 => f_X6_releasesWithin_l12 t m a0 a2 a3 x.1 x.2) FUEL (a4, a5)).bind (fun y : Int32 => f_X6_releasesWithin_j70 t m y)
def f_X6_releasesWithin (t : List Sh) (m : Mi) (a0 : Nat) (a1 : Int32) (a2 : Nat) : Option (Int32) :=
  (f_X6_packAt t m a0 a1).bind fun x1 =>
  f_X6_releasesWithin_j12 t m a0 a2 x1 0 0
set_option maxRecDepth 4000 in
set_option maxHeartbeats 4000000 in
theorem sm_X6_releasesWithin (t : List Sh) (m : Mi) (a0 : Nat) (a1 : Int32) (a2 : Nat) (h0 : sh t a0 = some (.inl 6)) : Sm u_X6_releasesWithin (4, 0, 0, t.length, zs t) (kIo t m) 0 [(0, .inr (.inr a0)), (1, .inl a1), (2, .inr (.inr a2))] [] (t, m) (f_X6_releasesWithin t m a0 a1 a2) := by
  unfold f_X6_releasesWithin
  refine r_aload_n 0 1 0 rfl rfl rfl rfl ?_
  refine r_iload_n 1 2 1 rfl rfl rfl rfl ?_
  refine r_VRo 2 5 (st := []) (av := [.inr (.inr a0), .inl a1]) (av' := [.inl a1]) (μ' := u_X6_packAt) (d := 1) rfl rfl mc_X6_packAt in_X6_packAt lk_RX6_65 (Nat.le_of_ble_eq_true rfl) rfl rfl h0 rfl (Nat.le_of_ble_eq_true rfl) (fun _ h => ct_X6_packAt h0 h) (fun x1 => ?_)
  refine r_astore_n 3 6 (L' := [(3, .inr (.inr x1)), (0, .inr (.inr a0)), (1, .inl a1), (2, .inr (.inr a2))]) rfl rfl rfl (by decide) rfl ?_
  refine r_iconst 4 7 (v := 0) rfl rfl (by decide) ?_
  refine r_istore 5 9 (L' := [(4, .inl 0), (3, .inr (.inr x1)), (0, .inr (.inr a0)), (1, .inl a1), (2, .inr (.inr a2))]) rfl rfl (by decide) rfl ?_
  refine r_iconst 6 10 (v := 0) rfl rfl (by decide) ?_
  refine r_istore 7 12 (L' := [(5, .inl 0), (4, .inl 0), (3, .inr (.inr x1)), (0, .inr (.inr a0)), (1, .inl a1), (2, .inr (.inr a2))]) rfl rfl (by decide) rfl ?_
  have hj12 : ∀ (a3 : Nat) (a4 : Int32) (a5 : Int32), Sm u_X6_releasesWithin (4, 0, 0, t.length, zs t) (kIo t m) 12 [(0, .inr (.inr a0)), (2, .inr (.inr a2)), (3, .inr (.inr a3)), (4, .inl a4), (5, .inl a5)] [] (t, m) (f_X6_releasesWithin_j12 t m a0 a2 a3 a4 a5) := by
    intro a3 a4 a5
    unfold f_X6_releasesWithin_j12
    have hj70 : ∀ (a4 : Int32), Sm u_X6_releasesWithin (4, 0, 0, t.length, zs t) (kIo t m) 70 [(4, .inl a4)] [] (t, m) (f_X6_releasesWithin_j70 t m a4) := by
      intro a4
      unfold f_X6_releasesWithin_j70
      refine r_iload 36 72 0 rfl rfl rfl ?_
      exact r_iret 37 rfl rfl rfl
    refine r_lp (Lf := fun x : Int32 × Int32 => [(0, .inr (.inr a0)), (2, .inr (.inr a2)), (3, .inr (.inr a3)), (4, .inl (x.1)), (5, .inl (x.2))]) (Mf := fun x : Int32 × Int32 => (t, m)) (a4, a5) ?_ FUEL
    rintro ⟨a4, a5⟩ κ12 hc12 he12
    refine r_eq (L' := [(0, .inr (.inr a0)), (2, .inr (.inr a2)), (3, .inr (.inr a3)), (4, .inl a4), (5, .inl a5)]) (M' := (t, m)) rfl rfl ?_
    refine r_eqr (r' := f_X6_releasesWithin_l12 t m a0 a2 a3 a4 a5) rfl ?_
    unfold f_X6_releasesWithin_l12
    refine r_aload_n 8 13 2 rfl rfl rfl rfl ?_
    refine r_ifnull 9 70 16 rfl rfl rfl (fun h2 => ?_) (fun h2 => ?_)
    · refine r_leaf (r2 := (f_X6_releasesWithin_j70 t m a4 : Option (Int32))) (he12 _) ?_
      exact r_sub [3] rfl (hj70 a4)
    · refine r_iload 10 18 4 rfl rfl rfl ?_
      refine r_aload_n 11 19 2 rfl rfl rfl rfl ?_
      refine r_gd (fun h3 => ?_)
      refine r_getI 12 22 rfl rfl fl_RX6_69 rfl (ob_sh h3) ?_
      refine r_icmp_ge 13 70 25 rfl rfl rfl (fun h4 => ?_) (fun h4 => ?_)
      · refine r_leaf (r2 := (f_X6_releasesWithin_j70 t m a4 : Option (Int32))) (he12 _) ?_
        exact r_sub [3] rfl (hj70 a4)
      · refine r_aload_n 14 26 0 rfl rfl rfl rfl ?_
        refine r_aload_n 15 27 2 rfl rfl rfl rfl ?_
        refine r_getI 16 30 rfl rfl fl_RX6_71 rfl (ob_sh h3) ?_
        refine r_iload 17 32 4 rfl rfl rfl ?_
        refine r_iadd 18 33 rfl rfl ?_
        refine r_VRo 19 36 (st := []) (av := [.inr (.inr a0), .inl ((gi m a3 3) + a5)]) (av' := [.inl ((gi m a3 3) + a5)]) (μ' := u_X6_releaseAt) (d := 1) rfl rfl mc_X6_releaseAt in_X6_releaseAt lk_RX6_74 (Nat.le_of_ble_eq_true rfl) rfl rfl h0 rfl (Nat.le_of_ble_eq_true rfl) (fun _ h => ct_X6_releaseAt h0 h) (fun x5 => ?_)
        refine r_astore 20 38 (L' := [(6, .inr (.inr x5)), (0, .inr (.inr a0)), (2, .inr (.inr a2)), (3, .inr (.inr a3)), (4, .inl a4), (5, .inl a5)]) rfl rfl (by decide) rfl ?_
        refine r_aload 21 40 0 rfl rfl rfl ?_
        refine r_ifnull 22 64 43 rfl rfl rfl (fun h6 => ?_) (fun h6 => ?_)
        · refine r_iinc 34 67 5 (L' := [(5, .inl (a5 + 1)), (6, .inr (.inr x5)), (0, .inr (.inr a0)), (2, .inr (.inr a2)), (3, .inr (.inr a3)), (4, .inl a4)]) rfl rfl rfl (by decide) rfl ?_
          refine r_ltV (fun x7 => ?_)
          refine r_goto 35 12 rfl rfl ?_
          exact r_sub [2, 3, 4, 5, 0] rfl (hc12 (a4, x7))
        · refine r_aload_n 23 44 2 rfl rfl rfl rfl ?_
          refine r_aload 24 46 0 rfl rfl rfl ?_
          refine r_gd (fun h8 => ?_)
          refine r_getR 25 49 rfl rfl fl_RX6_78 rfl (ob_sh h8) ?_
          refine r_gd (fun h9 => ?_)
          refine r_VIo 26 52 (st := []) (av := [.inr (.inr a2), .inr (.inr (gr m x5 0))]) (av' := [.inr (.inr (gr m x5 0))]) (μ' := u_X4_has) (d := 3) rfl rfl mc_X4_has in_X4_has lk_RX6_82 (Nat.le_of_ble_eq_true rfl) rfl rfl (ob_sh h9) rfl (Nat.le_of_ble_eq_true rfl) (fun _ h => ct_X4_has (ob_sh h9) h) (fun x10 => ?_)
          refine r_if_eq 27 64 55 rfl rfl rfl (fun h11 => ?_) (fun h11 => ?_)
          · refine r_iinc 34 67 5 (L' := [(5, .inl (a5 + 1)), (6, .inr (.inr x5)), (0, .inr (.inr a0)), (2, .inr (.inr a2)), (3, .inr (.inr a3)), (4, .inl a4)]) rfl rfl rfl (by decide) rfl ?_
            refine r_ltV (fun x12 => ?_)
            refine r_goto 35 12 rfl rfl ?_
            exact r_sub [2, 3, 4, 5, 0] rfl (hc12 (a4, x12))
          · refine r_iload 28 57 4 rfl rfl rfl ?_
            refine r_iconst 29 58 (v := 1) rfl rfl (by decide) ?_
            refine r_iload 30 60 5 rfl rfl rfl ?_
            refine r_ishl 31 61 rfl rfl ?_
            refine r_ior 32 62 rfl rfl ?_
            refine r_ltI (fun x13 => ?_)
            refine r_istore 33 64 (L' := [(4, .inl x13), (6, .inr (.inr x5)), (0, .inr (.inr a0)), (2, .inr (.inr a2)), (3, .inr (.inr a3)), (5, .inl a5)]) rfl rfl (by decide) rfl ?_
            refine r_iinc 34 67 5 (L' := [(5, .inl (a5 + 1)), (4, .inl x13), (6, .inr (.inr x5)), (0, .inr (.inr a0)), (2, .inr (.inr a2)), (3, .inr (.inr a3))]) rfl rfl rfl (by decide) rfl ?_
            refine r_ltV (fun x14 => ?_)
            refine r_goto 35 12 rfl rfl ?_
            exact r_sub [3, 4, 5, 1, 0] rfl (hc12 (x13, x14))
  exact r_sub [3, 5, 2, 1, 0] rfl (hj12 x1 0 0)
theorem ct_X6_releasesWithin {t : List Sh} {m : Mi} {a0 : Nat} {a1 : Int32} {a2 : Nat} {v : Int32}  (h0 : sh t a0 = some (.inl 6)) (h : f_X6_releasesWithin t m a0 a1 a2 = some v) : Ct u_X6_releasesWithin 4 0 0 [.inr (.inr a0), .inl a1, .inr (.inr a2)] (t, m) (some (.inl v), (t, m)) :=
  ct_of (by decide) tk_X6_releasesWithin (Nat.le_of_ble_eq_true rfl) (sm_X6_releasesWithin t m a0 a1 a2 h0) (by rw [h]; rfl) (Nat.le_refl _) (Nat.le_refl _)
theorem lk_RX6_154 : Cond.methodLink RX6 154 yX6_takeConstraint ∈ TB := tbm 806 (by decide +kernel) rfl
def tb_X6_takeLinks : Tb := [(0, (.iconst 0, 1)), (1, (.istore_n 3, 1)), (2, (.iload_n 3, 1)), (3, (.iconst 4, 1)), (4, (.if_icmp .gt 45, 3)), (7, (.aload_n 1, 1)), (8, (.aload_n 0, 1)), (9, (.getfield 59, 3)), (12, (.invokevirtual 115, 3)), (15, (.invokestatic 151, 3)), (18, (.ifCond .eq 31, 3)), (21, (.iload_n 3, 1)), (22, (.iconst 4, 1)), (23, (.if_icmp .ne 9, 3)), (26, (.aload_n 0, 1)), (27, (.iconst 2, 1)), (28, (.invokevirtual 118, 3)), (31, (.ireturn, 1)), (32, (.aload_n 0, 1)), (33, (.aload_n 1, 1)), (34, (.aload_n 2, 1)), (35, (.invokevirtual 154, 3)), (38, (.ifCond .ne 5, 3)), (41, (.iconst 0, 1)), (42, (.ireturn, 1)), (43, (.iinc 3 1, 3)), (46, (.goto (-44), 3)), (49, (.iconst 1, 1)), (50, (.ireturn, 1))]
def u_X6_takeLinks : Fx := (yX6_takeLinks, (cX6_takeLinks, (4, ((some .boolean), tb_X6_takeLinks))))
theorem tk_X6_takeLinks : ∀ q ∈ u_X6_takeLinks.2.2.2.2, decode u_X6_takeLinks.2.1 q.1 = .ok q.2 := by decide +kernel
theorem mc_X6_takeLinks : MC u_X6_takeLinks 2 := ⟨tbm 802 (by decide +kernel) rfl, tbm 121 (by decide +kernel) rfl, ⟨by decide, by decide, by decide +kernel⟩, by decide⟩
theorem in_X6_takeLinks : Cond.instanceMethod u_X6_takeLinks.1 ∈ TB ∧ Cond.selects u_X6_takeLinks.1.cls u_X6_takeLinks.1 u_X6_takeLinks.1 ∈ TB := ⟨tbm 801 (by decide +kernel) rfl, tbm 25 (by decide +kernel) rfl⟩
def f_X6_takeLinks_j26 (t : List Sh) (m : Mi) (a0 : Nat) : Option (Int32 × Mi) :=
  bd (f_X6_fail t m a0 2) fun x1 m2 =>
  (if zb x1 = true then
  some (x1, m2)
  else none)
def f_X6_takeLinks_j41 (t : List Sh) (m : Mi) : Option (Int32 × Mi) :=
  some (0, m)
def f_X6_takeLinks_j49 (t : List Sh) (m : Mi) : Option (Int32 × Mi) :=
  some (1, m)
def f_X6_takeLinks_l2 (t : List Sh) (m : Mi) (a0 : Nat) (a1 : Nat) (a2 : Nat) (a3 : Int32) : Option ((Int32 × Mi) ⊕ (((Mi) ⊕ ((Mi) ⊕ (Mi))))) :=
  if 4 < a3 then
    some (.inr (.inl m))
  else
    (if ob t a1 9 = true then
    (f_X9_kindAt t m a1 (gi m a0 9)).bind fun x6 =>
    (f_X9_isLink x6).bind fun x7 =>
    if x7 = 0 then
      some (.inr (.inl m))
    else
      if a3 = 4 then
        some (.inr (.inr (.inl m)))
      else
        bd (f_X6_takeConstraint t m a0 a1 a2) fun x10 m11 =>
        if x10 = 0 then
          some (.inr (.inr (.inr m11)))
        else
          lt (a3 + 1) fun x13 =>
          some (.inl (x13, m11))
    else none)
def f_X6_takeLinks_j2 (t : List Sh) (m : Mi) (a0 : Nat) (a1 : Nat) (a2 : Nat) (a3 : Int32) : Option (Int32 × Mi) :=
  (lp (fun x : Int32 × Mi => f_X6_takeLinks_l2 t x.2 a0 a1 a2 x.1) FUEL (a3, m)).bind (Sum.elim (fun y : Mi => f_X6_takeLinks_j49 t y) (Sum.elim (fun y : Mi => f_X6_takeLinks_j26 t y a0) (fun y : Mi => f_X6_takeLinks_j41 t y)))
def f_X6_takeLinks (t : List Sh) (m : Mi) (a0 : Nat) (a1 : Nat) (a2 : Nat) : Option (Int32 × Mi) :=
  f_X6_takeLinks_j2 t m a0 a1 a2 0
set_option maxRecDepth 4000 in
set_option maxHeartbeats 4000000 in
theorem sm_X6_takeLinks (t : List Sh) (m : Mi) (a0 : Nat) (a1 : Nat) (a2 : Nat) (h0 : sh t a0 = some (.inl 6)) : Sm u_X6_takeLinks (4, 0, 0, t.length, zs t) (kI t) 0 [(0, .inr (.inr a0)), (1, .inr (.inr a1)), (2, .inr (.inr a2))] [] (t, m) (f_X6_takeLinks t m a0 a1 a2) := by
  unfold f_X6_takeLinks
  refine r_iconst 0 1 (v := 0) rfl rfl (by decide) ?_
  refine r_istore_n 1 2 (L' := [(3, .inl 0), (0, .inr (.inr a0)), (1, .inr (.inr a1)), (2, .inr (.inr a2))]) rfl rfl rfl (by decide) rfl ?_
  have hj2 : ∀ (m : Mi) (a3 : Int32), Sm u_X6_takeLinks (4, 0, 0, t.length, zs t) (kI t) 2 [(0, .inr (.inr a0)), (1, .inr (.inr a1)), (2, .inr (.inr a2)), (3, .inl a3)] [] (t, m) (f_X6_takeLinks_j2 t m a0 a1 a2 a3) := by
    intro m a3
    unfold f_X6_takeLinks_j2
    have hj26 : ∀ (m : Mi), Sm u_X6_takeLinks (4, 0, 0, t.length, zs t) (kI t) 26 [(0, .inr (.inr a0))] [] (t, m) (f_X6_takeLinks_j26 t m a0) := by
      intro m
      unfold f_X6_takeLinks_j26
      refine r_aload_n 14 27 0 rfl rfl rfl rfl ?_
      refine r_iconst 15 28 (v := 2) rfl rfl (by decide) ?_
      refine r_VI 16 31 (st := []) (av := [.inr (.inr a0), .inl 2]) (av' := [.inl 2]) (μ' := u_X6_fail) (d := 1) rfl rfl mc_X6_fail in_X6_fail lk_RX6_118 (Nat.le_of_ble_eq_true rfl) rfl rfl h0 rfl (Nat.le_of_ble_eq_true rfl) (fun _ _ h => ct_X6_fail h0 h) (fun x1 m2 => ?_)
      refine r_gd (fun h3 => ?_)
      exact r_zret 17 rfl rfl (zb_nar h3) rfl
    have hj41 : ∀ (m : Mi), Sm u_X6_takeLinks (4, 0, 0, t.length, zs t) (kI t) 41 [] [] (t, m) (f_X6_takeLinks_j41 t m) := by
      intro m
      unfold f_X6_takeLinks_j41
      refine r_iconst 23 42 (v := 0) rfl rfl (by decide) ?_
      exact r_zret 24 rfl rfl (by decide) rfl
    have hj49 : ∀ (m : Mi), Sm u_X6_takeLinks (4, 0, 0, t.length, zs t) (kI t) 49 [] [] (t, m) (f_X6_takeLinks_j49 t m) := by
      intro m
      unfold f_X6_takeLinks_j49
      refine r_iconst 27 50 (v := 1) rfl rfl (by decide) ?_
      exact r_zret 28 rfl rfl (by decide) rfl
    refine r_lp (Lf := fun x : Int32 × Mi => [(0, .inr (.inr a0)), (1, .inr (.inr a1)), (2, .inr (.inr a2)), (3, .inl (x.1))]) (Mf := fun x : Int32 × Mi => (t, x.2)) (a3, m) ?_ FUEL
    rintro ⟨a3, m⟩ κ2 hc2 he2
    refine r_eq (L' := [(0, .inr (.inr a0)), (1, .inr (.inr a1)), (2, .inr (.inr a2)), (3, .inl a3)]) (M' := (t, m)) rfl rfl ?_
    refine r_eqr (r' := f_X6_takeLinks_l2 t m a0 a1 a2 a3) rfl ?_
    unfold f_X6_takeLinks_l2
    refine r_iload_n 2 3 3 rfl rfl rfl rfl ?_
    refine r_iconst 3 4 (v := 4) rfl rfl (by decide) ?_
    refine r_icmp_gt 4 49 7 rfl rfl rfl (fun h4 => ?_) (fun h4 => ?_)
    · refine r_leaf (r2 := (f_X6_takeLinks_j49 t m : Option (Int32 × Mi))) (he2 _) ?_
      exact r_sub [] rfl (hj49 m)
    · refine r_aload_n 5 8 1 rfl rfl rfl rfl ?_
      refine r_aload_n 6 9 0 rfl rfl rfl rfl ?_
      refine r_getI 7 12 rfl rfl fl_RX6_59 rfl h0 ?_
      refine r_gd (fun h5 => ?_)
      refine r_VIo 8 15 (st := []) (av := [.inr (.inr a1), .inl (gi m a0 9)]) (av' := [.inl (gi m a0 9)]) (μ' := u_X9_kindAt) (d := 1) rfl rfl mc_X9_kindAt in_X9_kindAt lk_RX6_115 (Nat.le_of_ble_eq_true rfl) rfl rfl (ob_sh h5) rfl (Nat.le_of_ble_eq_true rfl) (fun _ h => ct_X9_kindAt (ob_sh h5) h) (fun x6 => ?_)
      refine r_SIo 9 18 (a := 0) (cn := 0) (st := []) (av := [.inl x6]) (μ' := u_X9_isLink) (d := 1) rfl rfl mc_X9_isLink st_X9_isLink lk_RX6_151 (Nat.le_of_ble_eq_true rfl) rfl (Nat.le_of_ble_eq_true rfl) (fun _ h => ct_X9_isLink h) (fun x7 => ?_)
      refine r_if_eq 10 49 21 rfl rfl rfl (fun h8 => ?_) (fun h8 => ?_)
      · refine r_leaf (r2 := (f_X6_takeLinks_j49 t m : Option (Int32 × Mi))) (he2 _) ?_
        exact r_sub [] rfl (hj49 m)
      · refine r_iload_n 11 22 3 rfl rfl rfl rfl ?_
        refine r_iconst 12 23 (v := 4) rfl rfl (by decide) ?_
        refine r_icmp_ne 13 32 26 rfl rfl rfl (fun h9 => ?_) (fun h9 => ?_)
        · refine r_leaf (r2 := (f_X6_takeLinks_j26 t m a0 : Option (Int32 × Mi))) (he2 _) ?_
          exact r_sub [0] rfl (hj26 m)
        · refine r_aload_n 18 33 0 rfl rfl rfl rfl ?_
          refine r_aload_n 19 34 1 rfl rfl rfl rfl ?_
          refine r_aload_n 20 35 2 rfl rfl rfl rfl ?_
          refine r_VI 21 38 (st := []) (av := [.inr (.inr a0), .inr (.inr a1), .inr (.inr a2)]) (av' := [.inr (.inr a1), .inr (.inr a2)]) (μ' := u_X6_takeConstraint) (d := 3) rfl rfl mc_X6_takeConstraint in_X6_takeConstraint lk_RX6_154 (Nat.le_of_ble_eq_true rfl) rfl rfl h0 rfl (Nat.le_of_ble_eq_true rfl) (fun _ _ h => ct_X6_takeConstraint h0 h) (fun x10 m11 => ?_)
          refine r_if_ne 22 43 41 rfl rfl rfl (fun h12 => ?_) (fun h12 => ?_)
          · refine r_leaf (r2 := (f_X6_takeLinks_j41 t m11 : Option (Int32 × Mi))) (he2 _) ?_
            exact r_sub [] rfl (hj41 m11)
          · refine r_iinc 25 46 3 (L' := [(3, .inl (a3 + 1)), (0, .inr (.inr a0)), (1, .inr (.inr a1)), (2, .inr (.inr a2))]) rfl rfl rfl (by decide) rfl ?_
            refine r_ltV (fun x13 => ?_)
            refine r_goto 26 2 rfl rfl ?_
            exact r_sub [1, 2, 3, 0] rfl (hc2 (x13, m11))
  exact r_sub [1, 2, 3, 0] rfl (hj2 m 0)
theorem ct_X6_takeLinks {t : List Sh} {m : Mi} {a0 : Nat} {a1 : Nat} {a2 : Nat} {m' : Mi} {v : Int32}  (h0 : sh t a0 = some (.inl 6)) (h : f_X6_takeLinks t m a0 a1 a2 = some (v, m')) : Ct u_X6_takeLinks 4 0 0 [.inr (.inr a0), .inr (.inr a1), .inr (.inr a2)] (t, m) (some (.inl v), (t, m')) :=
  ct_of (by decide) tk_X6_takeLinks (Nat.le_of_ble_eq_true rfl) (sm_X6_takeLinks t m a0 a1 a2 h0) (by rw [h]; rfl) (Nat.le_refl _) (Nat.le_refl _)
def tb_X6_takeWants : Tb := [(0, (.iconst 0, 1)), (1, (.istore_n 3, 1)), (2, (.iload_n 3, 1)), (3, (.bipush 10, 2)), (5, (.if_icmp .gt 54, 3)), (8, (.aload_n 1, 1)), (9, (.aload_n 0, 1)), (10, (.getfield 59, 3)), (13, (.invokevirtual 115, 3)), (16, (.iconst 4, 1)), (17, (.if_icmp .ne 42, 3)), (20, (.iload_n 3, 1)), (21, (.bipush 10, 2)), (23, (.if_icmp .ne 9, 3)), (26, (.aload_n 0, 1)), (27, (.iconst 2, 1)), (28, (.invokevirtual 118, 3)), (31, (.ireturn, 1)), (32, (.aload_n 0, 1)), (33, (.aload_n 1, 1)), (34, (.aload_n 2, 1)), (35, (.invokevirtual 154, 3)), (38, (.ifCond .eq 13, 3)), (41, (.aload_n 0, 1)), (42, (.aload_n 1, 1)), (43, (.bipush 12, 2)), (45, (.invokevirtual 103, 3)), (48, (.ifCond .ne 5, 3)), (51, (.iconst 0, 1)), (52, (.ireturn, 1)), (53, (.iinc 3 1, 3)), (56, (.goto (-54), 3)), (59, (.iconst 1, 1)), (60, (.ireturn, 1))]
def u_X6_takeWants : Fx := (yX6_takeWants, (cX6_takeWants, (4, ((some .boolean), tb_X6_takeWants))))
theorem tk_X6_takeWants : ∀ q ∈ u_X6_takeWants.2.2.2.2, decode u_X6_takeWants.2.1 q.1 = .ok q.2 := by decide +kernel
theorem mc_X6_takeWants : MC u_X6_takeWants 2 := ⟨tbm 833 (by decide +kernel) rfl, tbm 121 (by decide +kernel) rfl, ⟨by decide, by decide, by decide +kernel⟩, by decide⟩
theorem in_X6_takeWants : Cond.instanceMethod u_X6_takeWants.1 ∈ TB ∧ Cond.selects u_X6_takeWants.1.cls u_X6_takeWants.1 u_X6_takeWants.1 ∈ TB := ⟨tbm 832 (by decide +kernel) rfl, tbm 28 (by decide +kernel) rfl⟩
def f_X6_takeWants_j26 (t : List Sh) (m : Mi) (a0 : Nat) : Option (Int32 × Mi) :=
  bd (f_X6_fail t m a0 2) fun x1 m2 =>
  (if zb x1 = true then
  some (x1, m2)
  else none)
def f_X6_takeWants_j51 (t : List Sh) (m : Mi) : Option (Int32 × Mi) :=
  some (0, m)
def f_X6_takeWants_j59 (t : List Sh) (m : Mi) : Option (Int32 × Mi) :=
  some (1, m)
def f_X6_takeWants_l2 (t : List Sh) (m : Mi) (a0 : Nat) (a1 : Nat) (a2 : Nat) (a3 : Int32) : Option ((Int32 × Mi) ⊕ (((Mi) ⊕ ((Mi) ⊕ (Mi))))) :=
  if 10 < a3 then
    some (.inr (.inl m))
  else
    (if ob t a1 9 = true then
    (f_X9_kindAt t m a1 (gi m a0 9)).bind fun x6 =>
    if x6 = 4 then
      if a3 = 10 then
        some (.inr (.inr (.inl m)))
      else
        bd (f_X6_takeConstraint t m a0 a1 a2) fun x9 m10 =>
        if x9 = 0 then
          some (.inr (.inr (.inr m10)))
        else
          bd (f_X6_expect t m10 a0 a1 12) fun x12 m13 =>
          if x12 = 0 then
            some (.inr (.inr (.inr m13)))
          else
            lt (a3 + 1) fun x15 =>
            some (.inl (x15, m13))
    else
      some (.inr (.inl m))
    else none)
def f_X6_takeWants_j2 (t : List Sh) (m : Mi) (a0 : Nat) (a1 : Nat) (a2 : Nat) (a3 : Int32) : Option (Int32 × Mi) :=
  (lp (fun x : Int32 × Mi => f_X6_takeWants_l2 t x.2 a0 a1 a2 x.1) FUEL (a3, m)).bind (Sum.elim (fun y : Mi => f_X6_takeWants_j59 t y) (Sum.elim (fun y : Mi => f_X6_takeWants_j26 t y a0) (fun y : Mi => f_X6_takeWants_j51 t y)))
def f_X6_takeWants (t : List Sh) (m : Mi) (a0 : Nat) (a1 : Nat) (a2 : Nat) : Option (Int32 × Mi) :=
  f_X6_takeWants_j2 t m a0 a1 a2 0
set_option maxRecDepth 4000 in
set_option maxHeartbeats 4000000 in
theorem sm_X6_takeWants (t : List Sh) (m : Mi) (a0 : Nat) (a1 : Nat) (a2 : Nat) (h0 : sh t a0 = some (.inl 6)) : Sm u_X6_takeWants (4, 0, 0, t.length, zs t) (kI t) 0 [(0, .inr (.inr a0)), (1, .inr (.inr a1)), (2, .inr (.inr a2))] [] (t, m) (f_X6_takeWants t m a0 a1 a2) := by
  unfold f_X6_takeWants
  refine r_iconst 0 1 (v := 0) rfl rfl (by decide) ?_
  refine r_istore_n 1 2 (L' := [(3, .inl 0), (0, .inr (.inr a0)), (1, .inr (.inr a1)), (2, .inr (.inr a2))]) rfl rfl rfl (by decide) rfl ?_
  have hj2 : ∀ (m : Mi) (a3 : Int32), Sm u_X6_takeWants (4, 0, 0, t.length, zs t) (kI t) 2 [(0, .inr (.inr a0)), (1, .inr (.inr a1)), (2, .inr (.inr a2)), (3, .inl a3)] [] (t, m) (f_X6_takeWants_j2 t m a0 a1 a2 a3) := by
    intro m a3
    unfold f_X6_takeWants_j2
    have hj26 : ∀ (m : Mi), Sm u_X6_takeWants (4, 0, 0, t.length, zs t) (kI t) 26 [(0, .inr (.inr a0))] [] (t, m) (f_X6_takeWants_j26 t m a0) := by
      intro m
      unfold f_X6_takeWants_j26
      refine r_aload_n 14 27 0 rfl rfl rfl rfl ?_
      refine r_iconst 15 28 (v := 2) rfl rfl (by decide) ?_
      refine r_VI 16 31 (st := []) (av := [.inr (.inr a0), .inl 2]) (av' := [.inl 2]) (μ' := u_X6_fail) (d := 1) rfl rfl mc_X6_fail in_X6_fail lk_RX6_118 (Nat.le_of_ble_eq_true rfl) rfl rfl h0 rfl (Nat.le_of_ble_eq_true rfl) (fun _ _ h => ct_X6_fail h0 h) (fun x1 m2 => ?_)
      refine r_gd (fun h3 => ?_)
      exact r_zret 17 rfl rfl (zb_nar h3) rfl
    have hj51 : ∀ (m : Mi), Sm u_X6_takeWants (4, 0, 0, t.length, zs t) (kI t) 51 [] [] (t, m) (f_X6_takeWants_j51 t m) := by
      intro m
      unfold f_X6_takeWants_j51
      refine r_iconst 28 52 (v := 0) rfl rfl (by decide) ?_
      exact r_zret 29 rfl rfl (by decide) rfl
    have hj59 : ∀ (m : Mi), Sm u_X6_takeWants (4, 0, 0, t.length, zs t) (kI t) 59 [] [] (t, m) (f_X6_takeWants_j59 t m) := by
      intro m
      unfold f_X6_takeWants_j59
      refine r_iconst 32 60 (v := 1) rfl rfl (by decide) ?_
      exact r_zret 33 rfl rfl (by decide) rfl
    refine r_lp (Lf := fun x : Int32 × Mi => [(0, .inr (.inr a0)), (1, .inr (.inr a1)), (2, .inr (.inr a2)), (3, .inl (x.1))]) (Mf := fun x : Int32 × Mi => (t, x.2)) (a3, m) ?_ FUEL
    rintro ⟨a3, m⟩ κ2 hc2 he2
    refine r_eq (L' := [(0, .inr (.inr a0)), (1, .inr (.inr a1)), (2, .inr (.inr a2)), (3, .inl a3)]) (M' := (t, m)) rfl rfl ?_
    refine r_eqr (r' := f_X6_takeWants_l2 t m a0 a1 a2 a3) rfl ?_
    unfold f_X6_takeWants_l2
    refine r_iload_n 2 3 3 rfl rfl rfl rfl ?_
    refine r_bipush 3 5 (v := 10) rfl rfl (by decide) ?_
    refine r_icmp_gt 4 59 8 rfl rfl rfl (fun h4 => ?_) (fun h4 => ?_)
    · refine r_leaf (r2 := (f_X6_takeWants_j59 t m : Option (Int32 × Mi))) (he2 _) ?_
      exact r_sub [] rfl (hj59 m)
    · refine r_aload_n 5 9 1 rfl rfl rfl rfl ?_
      refine r_aload_n 6 10 0 rfl rfl rfl rfl ?_
      refine r_getI 7 13 rfl rfl fl_RX6_59 rfl h0 ?_
      refine r_gd (fun h5 => ?_)
      refine r_VIo 8 16 (st := []) (av := [.inr (.inr a1), .inl (gi m a0 9)]) (av' := [.inl (gi m a0 9)]) (μ' := u_X9_kindAt) (d := 1) rfl rfl mc_X9_kindAt in_X9_kindAt lk_RX6_115 (Nat.le_of_ble_eq_true rfl) rfl rfl (ob_sh h5) rfl (Nat.le_of_ble_eq_true rfl) (fun _ h => ct_X9_kindAt (ob_sh h5) h) (fun x6 => ?_)
      refine r_iconst 9 17 (v := 4) rfl rfl (by decide) ?_
      refine r_icmp_ne 10 59 20 rfl rfl rfl (fun h7 => ?_) (fun h7 => ?_)
      · refine r_iload_n 11 21 3 rfl rfl rfl rfl ?_
        refine r_bipush 12 23 (v := 10) rfl rfl (by decide) ?_
        refine r_icmp_ne 13 32 26 rfl rfl rfl (fun h8 => ?_) (fun h8 => ?_)
        · refine r_leaf (r2 := (f_X6_takeWants_j26 t m a0 : Option (Int32 × Mi))) (he2 _) ?_
          exact r_sub [0] rfl (hj26 m)
        · refine r_aload_n 18 33 0 rfl rfl rfl rfl ?_
          refine r_aload_n 19 34 1 rfl rfl rfl rfl ?_
          refine r_aload_n 20 35 2 rfl rfl rfl rfl ?_
          refine r_VI 21 38 (st := []) (av := [.inr (.inr a0), .inr (.inr a1), .inr (.inr a2)]) (av' := [.inr (.inr a1), .inr (.inr a2)]) (μ' := u_X6_takeConstraint) (d := 3) rfl rfl mc_X6_takeConstraint in_X6_takeConstraint lk_RX6_154 (Nat.le_of_ble_eq_true rfl) rfl rfl h0 rfl (Nat.le_of_ble_eq_true rfl) (fun _ _ h => ct_X6_takeConstraint h0 h) (fun x9 m10 => ?_)
          refine r_if_eq 22 51 41 rfl rfl rfl (fun h11 => ?_) (fun h11 => ?_)
          · refine r_leaf (r2 := (f_X6_takeWants_j51 t m10 : Option (Int32 × Mi))) (he2 _) ?_
            exact r_sub [] rfl (hj51 m10)
          · refine r_aload_n 23 42 0 rfl rfl rfl rfl ?_
            refine r_aload_n 24 43 1 rfl rfl rfl rfl ?_
            refine r_bipush 25 45 (v := 12) rfl rfl (by decide) ?_
            refine r_VI 26 48 (st := []) (av := [.inr (.inr a0), .inr (.inr a1), .inl 12]) (av' := [.inr (.inr a1), .inl 12]) (μ' := u_X6_expect) (d := 2) rfl rfl mc_X6_expect in_X6_expect lk_RX6_103 (Nat.le_of_ble_eq_true rfl) rfl rfl h0 rfl (Nat.le_of_ble_eq_true rfl) (fun _ _ h => ct_X6_expect h0 h) (fun x12 m13 => ?_)
            refine r_if_ne 27 53 51 rfl rfl rfl (fun h14 => ?_) (fun h14 => ?_)
            · refine r_leaf (r2 := (f_X6_takeWants_j51 t m13 : Option (Int32 × Mi))) (he2 _) ?_
              exact r_sub [] rfl (hj51 m13)
            · refine r_iinc 30 56 3 (L' := [(3, .inl (a3 + 1)), (0, .inr (.inr a0)), (1, .inr (.inr a1)), (2, .inr (.inr a2))]) rfl rfl rfl (by decide) rfl ?_
              refine r_ltV (fun x15 => ?_)
              refine r_goto 31 2 rfl rfl ?_
              exact r_sub [1, 2, 3, 0] rfl (hc2 (x15, m13))
      · refine r_leaf (r2 := (f_X6_takeWants_j59 t m : Option (Int32 × Mi))) (he2 _) ?_
        exact r_sub [] rfl (hj59 m)
  exact r_sub [1, 2, 3, 0] rfl (hj2 m 0)
theorem ct_X6_takeWants {t : List Sh} {m : Mi} {a0 : Nat} {a1 : Nat} {a2 : Nat} {m' : Mi} {v : Int32}  (h0 : sh t a0 = some (.inl 6)) (h : f_X6_takeWants t m a0 a1 a2 = some (v, m')) : Ct u_X6_takeWants 4 0 0 [.inr (.inr a0), .inr (.inr a1), .inr (.inr a2)] (t, m) (some (.inl v), (t, m')) :=
  ct_of (by decide) tk_X6_takeWants (Nat.le_of_ble_eq_true rfl) (sm_X6_takeWants t m a0 a1 a2 h0) (by rw [h]; rfl) (Nat.le_refl _) (Nat.le_refl _)
theorem lk_RX6_140 : Cond.methodLink RX6 140 yX10_take ∈ TB := tbm 775 (by decide +kernel) rfl
theorem lk_RX6_144 : Cond.methodLink RX6 144 yX6_addRelease ∈ TB := tbm 776 (by decide +kernel) rfl
theorem lk_RX6_148 : Cond.methodLink RX6 148 yX6_takeLinks ∈ TB := tbm 799 (by decide +kernel) rfl
def tb_X6_takeReleases : Tb := [(0, (.iconst 0, 1)), (1, (.istore_n 3, 1)), (2, (.iload_n 3, 1)), (3, (.bipush 6, 2)), (5, (.if_icmp .gt 122, 3)), (8, (.aload_n 1, 1)), (9, (.aload_n 0, 1)), (10, (.getfield 59, 3)), (13, (.invokevirtual 115, 3)), (16, (.bipush 8, 2)), (18, (.if_icmp .ne 109, 3)), (21, (.iload_n 3, 1)), (22, (.bipush 6, 2)), (24, (.if_icmp .ne 9, 3)), (27, (.aload_n 0, 1)), (28, (.iconst 2, 1)), (29, (.invokevirtual 118, 3)), (32, (.ireturn, 1)), (33, (.aload_n 0, 1)), (34, (.getfield 39, 3)), (37, (.aload_n 0, 1)), (38, (.getfield 11, 3)), (41, (.aload_n 1, 1)), (42, (.aload_n 0, 1)), (43, (.getfield 59, 3)), (46, (.invokevirtual 111, 3)), (49, (.aload_n 1, 1)), (50, (.aload_n 0, 1)), (51, (.getfield 59, 3)), (54, (.invokevirtual 129, 3)), (57, (.invokevirtual 140, 3)), (60, (.pop, 1)), (61, (.aload_n 0, 1)), (62, (.aload_n 1, 1)), (63, (.aload_n 0, 1)), (64, (.getfield 59, 3)), (67, (.invokevirtual 111, 3)), (70, (.aload_n 1, 1)), (71, (.aload_n 0, 1)), (72, (.getfield 59, 3)), (75, (.invokevirtual 129, 3)), (78, (.invokevirtual 144, 3)), (81, (.ifCond .ne 9, 3)), (84, (.aload_n 0, 1)), (85, (.iconst 3, 1)), (86, (.invokevirtual 118, 3)), (89, (.ireturn, 1)), (90, (.aload_n 0, 1)), (91, (.dup, 1)), (92, (.getfield 59, 3)), (95, (.iconst 1, 1)), (96, (.iadd, 1)), (97, (.putfield 59, 3)), (100, (.aload_n 0, 1)), (101, (.aload_n 1, 1)), (102, (.aload_n 2, 1)), (103, (.invokevirtual 148, 3)), (106, (.ifCond .eq 13, 3)), (109, (.aload_n 0, 1)), (110, (.aload_n 1, 1)), (111, (.bipush 12, 2)), (113, (.invokevirtual 103, 3)), (116, (.ifCond .ne 5, 3)), (119, (.iconst 0, 1)), (120, (.ireturn, 1)), (121, (.iinc 3 1, 3)), (124, (.goto (-122), 3)), (127, (.iconst 1, 1)), (128, (.ireturn, 1))]
def u_X6_takeReleases : Fx := (yX6_takeReleases, (cX6_takeReleases, (4, ((some .boolean), tb_X6_takeReleases))))
theorem tk_X6_takeReleases : ∀ q ∈ u_X6_takeReleases.2.2.2.2, decode u_X6_takeReleases.2.1 q.1 = .ok q.2 := by decide +kernel
theorem mc_X6_takeReleases : MC u_X6_takeReleases 2 := ⟨tbm 774 (by decide +kernel) rfl, tbm 121 (by decide +kernel) rfl, ⟨by decide, by decide, by decide +kernel⟩, by decide⟩
theorem in_X6_takeReleases : Cond.instanceMethod u_X6_takeReleases.1 ∈ TB ∧ Cond.selects u_X6_takeReleases.1.cls u_X6_takeReleases.1 u_X6_takeReleases.1 ∈ TB := ⟨tbm 773 (by decide +kernel) rfl, tbm 23 (by decide +kernel) rfl⟩
def f_X6_takeReleases_j27 (t : List Sh) (m : Mi) (a0 : Nat) : Option (Int32 × Mi) :=
  bd (f_X6_fail t m a0 2) fun x1 m2 =>
  (if zb x1 = true then
  some (x1, m2)
  else none)
def f_X6_takeReleases_j84 (t : List Sh) (m : Mi) (a0 : Nat) : Option (Int32 × Mi) :=
  bd (f_X6_fail t m a0 3) fun x4 m5 =>
  (if zb x4 = true then
  some (x4, m5)
  else none)
def f_X6_takeReleases_j119 (t : List Sh) (m : Mi) : Option (Int32 × Mi) :=
  some (0, m)
def f_X6_takeReleases_j127 (t : List Sh) (m : Mi) : Option (Int32 × Mi) :=
  some (1, m)
def f_X6_takeReleases_l2 (t : List Sh) (m : Mi) (a0 : Nat) (a1 : Nat) (a2 : Nat) (a3 : Int32) : Option ((Int32 × Mi) ⊕ (((Mi) ⊕ ((Mi) ⊕ ((Mi) ⊕ (Mi)))))) :=
  if 6 < a3 then
    some (.inr (.inl m))
  else
    (if ob t a1 9 = true then
    (f_X9_kindAt t m a1 (gi m a0 9)).bind fun x9 =>
    if x9 = 8 then
      if a3 = 6 then
        some (.inr (.inr (.inl m)))
      else
        (f_X9_placeAt t m a1 (gi m a0 9)).bind fun x12 =>
        (f_X9_endAt t m a1 (gi m a0 9)).bind fun x13 =>
        (if ob t (gr m a0 8) 10 = true then
        bd (f_X10_take t m (gr m a0 8) (gr m a0 0) x12 x13) fun x15 m16 =>
        (f_X9_placeAt t m16 a1 (gi m16 a0 9)).bind fun x17 =>
        (f_X9_endAt t m16 a1 (gi m16 a0 9)).bind fun x18 =>
        bd (f_X6_addRelease t m16 a0 x17 x18) fun x19 m20 =>
        if x19 = 0 then
          some (.inr (.inr (.inr (.inl m20))))
        else
          lt (si m20 a0 9 ((gi m20 a0 9) + 1)) fun m22 =>
          bd (f_X6_takeLinks t m22 a0 a1 a2) fun x23 m24 =>
          if x23 = 0 then
            some (.inr (.inr (.inr (.inr m24))))
          else
            bd (f_X6_expect t m24 a0 a1 12) fun x26 m27 =>
            if x26 = 0 then
              some (.inr (.inr (.inr (.inr m27))))
            else
              lt (a3 + 1) fun x29 =>
              some (.inl (x29, m27))
        else none)
    else
      some (.inr (.inl m))
    else none)
def f_X6_takeReleases_j2 (t : List Sh) (m : Mi) (a0 : Nat) (a1 : Nat) (a2 : Nat) (a3 : Int32) : Option (Int32 × Mi) :=
  (lp (fun x : Int32 × Mi => f_X6_takeReleases_l2 t x.2 a0 a1 a2 x.1) FUEL (a3, m)).bind (Sum.elim (fun y : Mi => f_X6_takeReleases_j127 t y) (Sum.elim (fun y : Mi => f_X6_takeReleases_j27 t y a0) (Sum.elim (fun y : Mi => f_X6_takeReleases_j84 t y a0) (fun y : Mi => f_X6_takeReleases_j119 t y))))
def f_X6_takeReleases (t : List Sh) (m : Mi) (a0 : Nat) (a1 : Nat) (a2 : Nat) : Option (Int32 × Mi) :=
  f_X6_takeReleases_j2 t m a0 a1 a2 0
set_option maxRecDepth 4000 in
set_option maxHeartbeats 4000000 in
theorem sm_X6_takeReleases (t : List Sh) (m : Mi) (a0 : Nat) (a1 : Nat) (a2 : Nat) (h0 : sh t a0 = some (.inl 6)) : Sm u_X6_takeReleases (5, 0, 0, t.length, zs t) (kI t) 0 [(0, .inr (.inr a0)), (1, .inr (.inr a1)), (2, .inr (.inr a2))] [] (t, m) (f_X6_takeReleases t m a0 a1 a2) := by
  unfold f_X6_takeReleases
  refine r_iconst 0 1 (v := 0) rfl rfl (by decide) ?_
  refine r_istore_n 1 2 (L' := [(3, .inl 0), (0, .inr (.inr a0)), (1, .inr (.inr a1)), (2, .inr (.inr a2))]) rfl rfl rfl (by decide) rfl ?_
  have hj2 : ∀ (m : Mi) (a3 : Int32), Sm u_X6_takeReleases (5, 0, 0, t.length, zs t) (kI t) 2 [(0, .inr (.inr a0)), (1, .inr (.inr a1)), (2, .inr (.inr a2)), (3, .inl a3)] [] (t, m) (f_X6_takeReleases_j2 t m a0 a1 a2 a3) := by
    intro m a3
    unfold f_X6_takeReleases_j2
    have hj27 : ∀ (m : Mi), Sm u_X6_takeReleases (5, 0, 0, t.length, zs t) (kI t) 27 [(0, .inr (.inr a0))] [] (t, m) (f_X6_takeReleases_j27 t m a0) := by
      intro m
      unfold f_X6_takeReleases_j27
      refine r_aload_n 14 28 0 rfl rfl rfl rfl ?_
      refine r_iconst 15 29 (v := 2) rfl rfl (by decide) ?_
      refine r_VI 16 32 (st := []) (av := [.inr (.inr a0), .inl 2]) (av' := [.inl 2]) (μ' := u_X6_fail) (d := 1) rfl rfl mc_X6_fail in_X6_fail lk_RX6_118 (Nat.le_of_ble_eq_true rfl) rfl rfl h0 rfl (Nat.le_of_ble_eq_true rfl) (fun _ _ h => ct_X6_fail h0 h) (fun x1 m2 => ?_)
      refine r_gd (fun h3 => ?_)
      exact r_zret 17 rfl rfl (zb_nar h3) rfl
    have hj84 : ∀ (m : Mi), Sm u_X6_takeReleases (5, 0, 0, t.length, zs t) (kI t) 84 [(0, .inr (.inr a0))] [] (t, m) (f_X6_takeReleases_j84 t m a0) := by
      intro m
      unfold f_X6_takeReleases_j84
      refine r_aload_n 43 85 0 rfl rfl rfl rfl ?_
      refine r_iconst 44 86 (v := 3) rfl rfl (by decide) ?_
      refine r_VI 45 89 (st := []) (av := [.inr (.inr a0), .inl 3]) (av' := [.inl 3]) (μ' := u_X6_fail) (d := 1) rfl rfl mc_X6_fail in_X6_fail lk_RX6_118 (Nat.le_of_ble_eq_true rfl) rfl rfl h0 rfl (Nat.le_of_ble_eq_true rfl) (fun _ _ h => ct_X6_fail h0 h) (fun x4 m5 => ?_)
      refine r_gd (fun h6 => ?_)
      exact r_zret 46 rfl rfl (zb_nar h6) rfl
    have hj119 : ∀ (m : Mi), Sm u_X6_takeReleases (5, 0, 0, t.length, zs t) (kI t) 119 [] [] (t, m) (f_X6_takeReleases_j119 t m) := by
      intro m
      unfold f_X6_takeReleases_j119
      refine r_iconst 63 120 (v := 0) rfl rfl (by decide) ?_
      exact r_zret 64 rfl rfl (by decide) rfl
    have hj127 : ∀ (m : Mi), Sm u_X6_takeReleases (5, 0, 0, t.length, zs t) (kI t) 127 [] [] (t, m) (f_X6_takeReleases_j127 t m) := by
      intro m
      unfold f_X6_takeReleases_j127
      refine r_iconst 67 128 (v := 1) rfl rfl (by decide) ?_
      exact r_zret 68 rfl rfl (by decide) rfl
    refine r_lp (Lf := fun x : Int32 × Mi => [(0, .inr (.inr a0)), (1, .inr (.inr a1)), (2, .inr (.inr a2)), (3, .inl (x.1))]) (Mf := fun x : Int32 × Mi => (t, x.2)) (a3, m) ?_ FUEL
    rintro ⟨a3, m⟩ κ2 hc2 he2
    refine r_eq (L' := [(0, .inr (.inr a0)), (1, .inr (.inr a1)), (2, .inr (.inr a2)), (3, .inl a3)]) (M' := (t, m)) rfl rfl ?_
    refine r_eqr (r' := f_X6_takeReleases_l2 t m a0 a1 a2 a3) rfl ?_
    unfold f_X6_takeReleases_l2
    refine r_iload_n 2 3 3 rfl rfl rfl rfl ?_
    refine r_bipush 3 5 (v := 6) rfl rfl (by decide) ?_
    refine r_icmp_gt 4 127 8 rfl rfl rfl (fun h7 => ?_) (fun h7 => ?_)
    · refine r_leaf (r2 := (f_X6_takeReleases_j127 t m : Option (Int32 × Mi))) (he2 _) ?_
      exact r_sub [] rfl (hj127 m)
    · refine r_aload_n 5 9 1 rfl rfl rfl rfl ?_
      refine r_aload_n 6 10 0 rfl rfl rfl rfl ?_
      refine r_getI 7 13 rfl rfl fl_RX6_59 rfl h0 ?_
      refine r_gd (fun h8 => ?_)
      refine r_VIo 8 16 (st := []) (av := [.inr (.inr a1), .inl (gi m a0 9)]) (av' := [.inl (gi m a0 9)]) (μ' := u_X9_kindAt) (d := 1) rfl rfl mc_X9_kindAt in_X9_kindAt lk_RX6_115 (Nat.le_of_ble_eq_true rfl) rfl rfl (ob_sh h8) rfl (Nat.le_of_ble_eq_true rfl) (fun _ h => ct_X9_kindAt (ob_sh h8) h) (fun x9 => ?_)
      refine r_bipush 9 18 (v := 8) rfl rfl (by decide) ?_
      refine r_icmp_ne 10 127 21 rfl rfl rfl (fun h10 => ?_) (fun h10 => ?_)
      · refine r_iload_n 11 22 3 rfl rfl rfl rfl ?_
        refine r_bipush 12 24 (v := 6) rfl rfl (by decide) ?_
        refine r_icmp_ne 13 33 27 rfl rfl rfl (fun h11 => ?_) (fun h11 => ?_)
        · refine r_leaf (r2 := (f_X6_takeReleases_j27 t m a0 : Option (Int32 × Mi))) (he2 _) ?_
          exact r_sub [0] rfl (hj27 m)
        · refine r_aload_n 18 34 0 rfl rfl rfl rfl ?_
          refine r_getR 19 37 rfl rfl fl_RX6_39 rfl h0 ?_
          refine r_aload_n 20 38 0 rfl rfl rfl rfl ?_
          refine r_getR 21 41 rfl rfl fl_RX6_11 rfl h0 ?_
          refine r_aload_n 22 42 1 rfl rfl rfl rfl ?_
          refine r_aload_n 23 43 0 rfl rfl rfl rfl ?_
          refine r_getI 24 46 rfl rfl fl_RX6_59 rfl h0 ?_
          refine r_VIo 25 49 (st := [.inr (.inr (gr m a0 0)), .inr (.inr (gr m a0 8))]) (av := [.inr (.inr a1), .inl (gi m a0 9)]) (av' := [.inl (gi m a0 9)]) (μ' := u_X9_placeAt) (d := 1) rfl rfl mc_X9_placeAt in_X9_placeAt lk_RX6_111 (Nat.le_of_ble_eq_true rfl) rfl rfl (ob_sh h8) rfl (Nat.le_of_ble_eq_true rfl) (fun _ h => ct_X9_placeAt (ob_sh h8) h) (fun x12 => ?_)
          refine r_aload_n 26 50 1 rfl rfl rfl rfl ?_
          refine r_aload_n 27 51 0 rfl rfl rfl rfl ?_
          refine r_getI 28 54 rfl rfl fl_RX6_59 rfl h0 ?_
          refine r_VIo 29 57 (st := [.inl x12, .inr (.inr (gr m a0 0)), .inr (.inr (gr m a0 8))]) (av := [.inr (.inr a1), .inl (gi m a0 9)]) (av' := [.inl (gi m a0 9)]) (μ' := u_X9_endAt) (d := 1) rfl rfl mc_X9_endAt in_X9_endAt lk_RX6_129 (Nat.le_of_ble_eq_true rfl) rfl rfl (ob_sh h8) rfl (Nat.le_of_ble_eq_true rfl) (fun _ h => ct_X9_endAt (ob_sh h8) h) (fun x13 => ?_)
          refine r_gd (fun h14 => ?_)
          refine r_VI 30 60 (st := []) (av := [.inr (.inr (gr m a0 8)), .inr (.inr (gr m a0 0)), .inl x12, .inl x13]) (av' := [.inr (.inr (gr m a0 0)), .inl x12, .inl x13]) (μ' := u_X10_take) (d := 4) rfl rfl mc_X10_take in_X10_take lk_RX6_140 (Nat.le_of_ble_eq_true rfl) rfl rfl (ob_sh h14) rfl (Nat.le_of_ble_eq_true rfl) (fun _ _ h => ct_X10_take (ob_sh h14) h) (fun x15 m16 => ?_)
          refine r_pop 31 61 rfl rfl rfl ?_
          refine r_aload_n 32 62 0 rfl rfl rfl rfl ?_
          refine r_aload_n 33 63 1 rfl rfl rfl rfl ?_
          refine r_aload_n 34 64 0 rfl rfl rfl rfl ?_
          refine r_getI 35 67 rfl rfl fl_RX6_59 rfl h0 ?_
          refine r_VIo 36 70 (st := [.inr (.inr a0)]) (av := [.inr (.inr a1), .inl (gi m16 a0 9)]) (av' := [.inl (gi m16 a0 9)]) (μ' := u_X9_placeAt) (d := 1) rfl rfl mc_X9_placeAt in_X9_placeAt lk_RX6_111 (Nat.le_of_ble_eq_true rfl) rfl rfl (ob_sh h8) rfl (Nat.le_of_ble_eq_true rfl) (fun _ h => ct_X9_placeAt (ob_sh h8) h) (fun x17 => ?_)
          refine r_aload_n 37 71 1 rfl rfl rfl rfl ?_
          refine r_aload_n 38 72 0 rfl rfl rfl rfl ?_
          refine r_getI 39 75 rfl rfl fl_RX6_59 rfl h0 ?_
          refine r_VIo 40 78 (st := [.inl x17, .inr (.inr a0)]) (av := [.inr (.inr a1), .inl (gi m16 a0 9)]) (av' := [.inl (gi m16 a0 9)]) (μ' := u_X9_endAt) (d := 1) rfl rfl mc_X9_endAt in_X9_endAt lk_RX6_129 (Nat.le_of_ble_eq_true rfl) rfl rfl (ob_sh h8) rfl (Nat.le_of_ble_eq_true rfl) (fun _ h => ct_X9_endAt (ob_sh h8) h) (fun x18 => ?_)
          refine r_VI 41 81 (st := []) (av := [.inr (.inr a0), .inl x17, .inl x18]) (av' := [.inl x17, .inl x18]) (μ' := u_X6_addRelease) (d := 3) rfl rfl mc_X6_addRelease in_X6_addRelease lk_RX6_144 (Nat.le_of_ble_eq_true rfl) rfl rfl h0 rfl (Nat.le_of_ble_eq_true rfl) (fun _ _ h => ct_X6_addRelease h0 h) (fun x19 m20 => ?_)
          refine r_if_ne 42 90 84 rfl rfl rfl (fun h21 => ?_) (fun h21 => ?_)
          · refine r_leaf (r2 := (f_X6_takeReleases_j84 t m20 a0 : Option (Int32 × Mi))) (he2 _) ?_
            exact r_sub [0] rfl (hj84 m20)
          · refine r_aload_n 47 91 0 rfl rfl rfl rfl ?_
            refine r_dup 48 92 rfl rfl rfl ?_
            refine r_getI 49 95 rfl rfl fl_RX6_59 rfl h0 ?_
            refine r_iconst 50 96 (v := 1) rfl rfl (by decide) ?_
            refine r_iadd 51 97 rfl rfl ?_
            refine r_putI 52 100 rfl rfl fl_RX6_59 (fun h => by cases h) (Or.inl rfl) h0 ?_
            refine r_ltM (fun m22 => ?_)
            refine r_aload_n 53 101 0 rfl rfl rfl rfl ?_
            refine r_aload_n 54 102 1 rfl rfl rfl rfl ?_
            refine r_aload_n 55 103 2 rfl rfl rfl rfl ?_
            refine r_VI 56 106 (st := []) (av := [.inr (.inr a0), .inr (.inr a1), .inr (.inr a2)]) (av' := [.inr (.inr a1), .inr (.inr a2)]) (μ' := u_X6_takeLinks) (d := 4) rfl rfl mc_X6_takeLinks in_X6_takeLinks lk_RX6_148 (Nat.le_of_ble_eq_true rfl) rfl rfl h0 rfl (Nat.le_of_ble_eq_true rfl) (fun _ _ h => ct_X6_takeLinks h0 h) (fun x23 m24 => ?_)
            refine r_if_eq 57 119 109 rfl rfl rfl (fun h25 => ?_) (fun h25 => ?_)
            · refine r_leaf (r2 := (f_X6_takeReleases_j119 t m24 : Option (Int32 × Mi))) (he2 _) ?_
              exact r_sub [] rfl (hj119 m24)
            · refine r_aload_n 58 110 0 rfl rfl rfl rfl ?_
              refine r_aload_n 59 111 1 rfl rfl rfl rfl ?_
              refine r_bipush 60 113 (v := 12) rfl rfl (by decide) ?_
              refine r_VI 61 116 (st := []) (av := [.inr (.inr a0), .inr (.inr a1), .inl 12]) (av' := [.inr (.inr a1), .inl 12]) (μ' := u_X6_expect) (d := 2) rfl rfl mc_X6_expect in_X6_expect lk_RX6_103 (Nat.le_of_ble_eq_true rfl) rfl rfl h0 rfl (Nat.le_of_ble_eq_true rfl) (fun _ _ h => ct_X6_expect h0 h) (fun x26 m27 => ?_)
              refine r_if_ne 62 121 119 rfl rfl rfl (fun h28 => ?_) (fun h28 => ?_)
              · refine r_leaf (r2 := (f_X6_takeReleases_j119 t m27 : Option (Int32 × Mi))) (he2 _) ?_
                exact r_sub [] rfl (hj119 m27)
              · refine r_iinc 65 124 3 (L' := [(3, .inl (a3 + 1)), (0, .inr (.inr a0)), (1, .inr (.inr a1)), (2, .inr (.inr a2))]) rfl rfl rfl (by decide) rfl ?_
                refine r_ltV (fun x29 => ?_)
                refine r_goto 66 2 rfl rfl ?_
                exact r_sub [1, 2, 3, 0] rfl (hc2 (x29, m27))
      · refine r_leaf (r2 := (f_X6_takeReleases_j127 t m : Option (Int32 × Mi))) (he2 _) ?_
        exact r_sub [] rfl (hj127 m)
  exact r_sub [1, 2, 3, 0] rfl (hj2 m 0)
theorem ct_X6_takeReleases {t : List Sh} {m : Mi} {a0 : Nat} {a1 : Nat} {a2 : Nat} {m' : Mi} {v : Int32}  (h0 : sh t a0 = some (.inl 6)) (h : f_X6_takeReleases t m a0 a1 a2 = some (v, m')) : Ct u_X6_takeReleases 5 0 0 [.inr (.inr a0), .inr (.inr a1), .inr (.inr a2)] (t, m) (some (.inl v), (t, m')) :=
  ct_of (by decide) tk_X6_takeReleases (Nat.le_of_ble_eq_true rfl) (sm_X6_takeReleases t m a0 a1 a2 h0) (by rw [h]; rfl) (Nat.le_refl _) (Nat.le_refl _)
theorem lk_RX6_122 : Cond.methodLink RX6 122 yX6_takeName ∈ TB := tbm 743 (by decide +kernel) rfl
theorem lk_RX6_126 : Cond.methodLink RX6 126 yX6_takeReleases ∈ TB := tbm 771 (by decide +kernel) rfl
def tb_X6_takePackages : Tb := [(0, (.iconst 0, 1)), (1, (.istore_n 3, 1)), (2, (.iload_n 3, 1)), (3, (.bipush 10, 2)), (5, (.if_icmp .gt 82, 3)), (8, (.aload_n 1, 1)), (9, (.aload_n 0, 1)), (10, (.getfield 59, 3)), (13, (.invokevirtual 115, 3)), (16, (.iconst 3, 1)), (17, (.if_icmp .ne 70, 3)), (20, (.iload_n 3, 1)), (21, (.bipush 10, 2)), (23, (.if_icmp .ne 9, 3)), (26, (.aload_n 0, 1)), (27, (.iconst 2, 1)), (28, (.invokevirtual 118, 3)), (31, (.ireturn, 1)), (32, (.aload_n 0, 1)), (33, (.dup, 1)), (34, (.getfield 59, 3)), (37, (.iconst 1, 1)), (38, (.iadd, 1)), (39, (.putfield 59, 3)), (42, (.aload_n 0, 1)), (43, (.aload_n 1, 1)), (44, (.invokevirtual 122, 3)), (47, (.ifCond .eq 32, 3)), (50, (.aload_n 0, 1)), (51, (.aload_n 1, 1)), (52, (.bipush 10, 2)), (54, (.invokevirtual 103, 3)), (57, (.ifCond .eq 22, 3)), (60, (.aload_n 0, 1)), (61, (.aload_n 1, 1)), (62, (.aload_n 2, 1)), (63, (.invokevirtual 126, 3)), (66, (.ifCond .eq 13, 3)), (69, (.aload_n 0, 1)), (70, (.aload_n 1, 1)), (71, (.bipush 11, 2)), (73, (.invokevirtual 103, 3)), (76, (.ifCond .ne 5, 3)), (79, (.iconst 0, 1)), (80, (.ireturn, 1)), (81, (.iinc 3 1, 3)), (84, (.goto (-82), 3)), (87, (.iconst 1, 1)), (88, (.ireturn, 1))]
def u_X6_takePackages : Fx := (yX6_takePackages, (cX6_takePackages, (4, ((some .boolean), tb_X6_takePackages))))
theorem tk_X6_takePackages : ∀ q ∈ u_X6_takePackages.2.2.2.2, decode u_X6_takePackages.2.1 q.1 = .ok q.2 := by decide +kernel
theorem mc_X6_takePackages : MC u_X6_takePackages 2 := ⟨tbm 734 (by decide +kernel) rfl, tbm 121 (by decide +kernel) rfl, ⟨by decide, by decide, by decide +kernel⟩, by decide⟩
theorem in_X6_takePackages : Cond.instanceMethod u_X6_takePackages.1 ∈ TB ∧ Cond.selects u_X6_takePackages.1.cls u_X6_takePackages.1 u_X6_takePackages.1 ∈ TB := ⟨tbm 733 (by decide +kernel) rfl, tbm 16 (by decide +kernel) rfl⟩
def f_X6_takePackages_j26 (t : List Sh) (m : Mi) (a0 : Nat) : Option (Int32 × Mi) :=
  bd (f_X6_fail t m a0 2) fun x1 m2 =>
  (if zb x1 = true then
  some (x1, m2)
  else none)
def f_X6_takePackages_j79 (t : List Sh) (m : Mi) : Option (Int32 × Mi) :=
  some (0, m)
def f_X6_takePackages_j87 (t : List Sh) (m : Mi) : Option (Int32 × Mi) :=
  some (1, m)
def f_X6_takePackages_l2 (t : List Sh) (m : Mi) (a0 : Nat) (a1 : Nat) (a2 : Nat) (a3 : Int32) : Option ((Int32 × Mi) ⊕ (((Mi) ⊕ ((Mi) ⊕ (Mi))))) :=
  if 10 < a3 then
    some (.inr (.inl m))
  else
    (if ob t a1 9 = true then
    (f_X9_kindAt t m a1 (gi m a0 9)).bind fun x6 =>
    if x6 = 3 then
      if a3 = 10 then
        some (.inr (.inr (.inl m)))
      else
        lt (si m a0 9 ((gi m a0 9) + 1)) fun m9 =>
        bd (f_X6_takeName t m9 a0 a1) fun x10 m11 =>
        if x10 = 0 then
          some (.inr (.inr (.inr m11)))
        else
          bd (f_X6_expect t m11 a0 a1 10) fun x13 m14 =>
          if x13 = 0 then
            some (.inr (.inr (.inr m14)))
          else
            bd (f_X6_takeReleases t m14 a0 a1 a2) fun x16 m17 =>
            if x16 = 0 then
              some (.inr (.inr (.inr m17)))
            else
              bd (f_X6_expect t m17 a0 a1 11) fun x19 m20 =>
              if x19 = 0 then
                some (.inr (.inr (.inr m20)))
              else
                lt (a3 + 1) fun x22 =>
                some (.inl (x22, m20))
    else
      some (.inr (.inl m))
    else none)
def f_X6_takePackages_j2 (t : List Sh) (m : Mi) (a0 : Nat) (a1 : Nat) (a2 : Nat) (a3 : Int32) : Option (Int32 × Mi) :=
  (lp (fun x : Int32 × Mi => f_X6_takePackages_l2 t x.2 a0 a1 a2 x.1) FUEL (a3, m)).bind (Sum.elim (fun y : Mi => f_X6_takePackages_j87 t y) (Sum.elim (fun y : Mi => f_X6_takePackages_j26 t y a0) (fun y : Mi => f_X6_takePackages_j79 t y)))
def f_X6_takePackages (t : List Sh) (m : Mi) (a0 : Nat) (a1 : Nat) (a2 : Nat) : Option (Int32 × Mi) :=
  f_X6_takePackages_j2 t m a0 a1 a2 0
set_option maxRecDepth 4000 in
set_option maxHeartbeats 4000000 in
theorem sm_X6_takePackages (t : List Sh) (m : Mi) (a0 : Nat) (a1 : Nat) (a2 : Nat) (h0 : sh t a0 = some (.inl 6)) : Sm u_X6_takePackages (6, 0, 0, t.length, zs t) (kI t) 0 [(0, .inr (.inr a0)), (1, .inr (.inr a1)), (2, .inr (.inr a2))] [] (t, m) (f_X6_takePackages t m a0 a1 a2) := by
  unfold f_X6_takePackages
  refine r_iconst 0 1 (v := 0) rfl rfl (by decide) ?_
  refine r_istore_n 1 2 (L' := [(3, .inl 0), (0, .inr (.inr a0)), (1, .inr (.inr a1)), (2, .inr (.inr a2))]) rfl rfl rfl (by decide) rfl ?_
  have hj2 : ∀ (m : Mi) (a3 : Int32), Sm u_X6_takePackages (6, 0, 0, t.length, zs t) (kI t) 2 [(0, .inr (.inr a0)), (1, .inr (.inr a1)), (2, .inr (.inr a2)), (3, .inl a3)] [] (t, m) (f_X6_takePackages_j2 t m a0 a1 a2 a3) := by
    intro m a3
    unfold f_X6_takePackages_j2
    have hj26 : ∀ (m : Mi), Sm u_X6_takePackages (6, 0, 0, t.length, zs t) (kI t) 26 [(0, .inr (.inr a0))] [] (t, m) (f_X6_takePackages_j26 t m a0) := by
      intro m
      unfold f_X6_takePackages_j26
      refine r_aload_n 14 27 0 rfl rfl rfl rfl ?_
      refine r_iconst 15 28 (v := 2) rfl rfl (by decide) ?_
      refine r_VI 16 31 (st := []) (av := [.inr (.inr a0), .inl 2]) (av' := [.inl 2]) (μ' := u_X6_fail) (d := 1) rfl rfl mc_X6_fail in_X6_fail lk_RX6_118 (Nat.le_of_ble_eq_true rfl) rfl rfl h0 rfl (Nat.le_of_ble_eq_true rfl) (fun _ _ h => ct_X6_fail h0 h) (fun x1 m2 => ?_)
      refine r_gd (fun h3 => ?_)
      exact r_zret 17 rfl rfl (zb_nar h3) rfl
    have hj79 : ∀ (m : Mi), Sm u_X6_takePackages (6, 0, 0, t.length, zs t) (kI t) 79 [] [] (t, m) (f_X6_takePackages_j79 t m) := by
      intro m
      unfold f_X6_takePackages_j79
      refine r_iconst 43 80 (v := 0) rfl rfl (by decide) ?_
      exact r_zret 44 rfl rfl (by decide) rfl
    have hj87 : ∀ (m : Mi), Sm u_X6_takePackages (6, 0, 0, t.length, zs t) (kI t) 87 [] [] (t, m) (f_X6_takePackages_j87 t m) := by
      intro m
      unfold f_X6_takePackages_j87
      refine r_iconst 47 88 (v := 1) rfl rfl (by decide) ?_
      exact r_zret 48 rfl rfl (by decide) rfl
    refine r_lp (Lf := fun x : Int32 × Mi => [(0, .inr (.inr a0)), (1, .inr (.inr a1)), (2, .inr (.inr a2)), (3, .inl (x.1))]) (Mf := fun x : Int32 × Mi => (t, x.2)) (a3, m) ?_ FUEL
    rintro ⟨a3, m⟩ κ2 hc2 he2
    refine r_eq (L' := [(0, .inr (.inr a0)), (1, .inr (.inr a1)), (2, .inr (.inr a2)), (3, .inl a3)]) (M' := (t, m)) rfl rfl ?_
    refine r_eqr (r' := f_X6_takePackages_l2 t m a0 a1 a2 a3) rfl ?_
    unfold f_X6_takePackages_l2
    refine r_iload_n 2 3 3 rfl rfl rfl rfl ?_
    refine r_bipush 3 5 (v := 10) rfl rfl (by decide) ?_
    refine r_icmp_gt 4 87 8 rfl rfl rfl (fun h4 => ?_) (fun h4 => ?_)
    · refine r_leaf (r2 := (f_X6_takePackages_j87 t m : Option (Int32 × Mi))) (he2 _) ?_
      exact r_sub [] rfl (hj87 m)
    · refine r_aload_n 5 9 1 rfl rfl rfl rfl ?_
      refine r_aload_n 6 10 0 rfl rfl rfl rfl ?_
      refine r_getI 7 13 rfl rfl fl_RX6_59 rfl h0 ?_
      refine r_gd (fun h5 => ?_)
      refine r_VIo 8 16 (st := []) (av := [.inr (.inr a1), .inl (gi m a0 9)]) (av' := [.inl (gi m a0 9)]) (μ' := u_X9_kindAt) (d := 1) rfl rfl mc_X9_kindAt in_X9_kindAt lk_RX6_115 (Nat.le_of_ble_eq_true rfl) rfl rfl (ob_sh h5) rfl (Nat.le_of_ble_eq_true rfl) (fun _ h => ct_X9_kindAt (ob_sh h5) h) (fun x6 => ?_)
      refine r_iconst 9 17 (v := 3) rfl rfl (by decide) ?_
      refine r_icmp_ne 10 87 20 rfl rfl rfl (fun h7 => ?_) (fun h7 => ?_)
      · refine r_iload_n 11 21 3 rfl rfl rfl rfl ?_
        refine r_bipush 12 23 (v := 10) rfl rfl (by decide) ?_
        refine r_icmp_ne 13 32 26 rfl rfl rfl (fun h8 => ?_) (fun h8 => ?_)
        · refine r_leaf (r2 := (f_X6_takePackages_j26 t m a0 : Option (Int32 × Mi))) (he2 _) ?_
          exact r_sub [0] rfl (hj26 m)
        · refine r_aload_n 18 33 0 rfl rfl rfl rfl ?_
          refine r_dup 19 34 rfl rfl rfl ?_
          refine r_getI 20 37 rfl rfl fl_RX6_59 rfl h0 ?_
          refine r_iconst 21 38 (v := 1) rfl rfl (by decide) ?_
          refine r_iadd 22 39 rfl rfl ?_
          refine r_putI 23 42 rfl rfl fl_RX6_59 (fun h => by cases h) (Or.inl rfl) h0 ?_
          refine r_ltM (fun m9 => ?_)
          refine r_aload_n 24 43 0 rfl rfl rfl rfl ?_
          refine r_aload_n 25 44 1 rfl rfl rfl rfl ?_
          refine r_VI 26 47 (st := []) (av := [.inr (.inr a0), .inr (.inr a1)]) (av' := [.inr (.inr a1)]) (μ' := u_X6_takeName) (d := 3) rfl rfl mc_X6_takeName in_X6_takeName lk_RX6_122 (Nat.le_of_ble_eq_true rfl) rfl rfl h0 rfl (Nat.le_of_ble_eq_true rfl) (fun _ _ h => ct_X6_takeName h0 h) (fun x10 m11 => ?_)
          refine r_if_eq 27 79 50 rfl rfl rfl (fun h12 => ?_) (fun h12 => ?_)
          · refine r_leaf (r2 := (f_X6_takePackages_j79 t m11 : Option (Int32 × Mi))) (he2 _) ?_
            exact r_sub [] rfl (hj79 m11)
          · refine r_aload_n 28 51 0 rfl rfl rfl rfl ?_
            refine r_aload_n 29 52 1 rfl rfl rfl rfl ?_
            refine r_bipush 30 54 (v := 10) rfl rfl (by decide) ?_
            refine r_VI 31 57 (st := []) (av := [.inr (.inr a0), .inr (.inr a1), .inl 10]) (av' := [.inr (.inr a1), .inl 10]) (μ' := u_X6_expect) (d := 2) rfl rfl mc_X6_expect in_X6_expect lk_RX6_103 (Nat.le_of_ble_eq_true rfl) rfl rfl h0 rfl (Nat.le_of_ble_eq_true rfl) (fun _ _ h => ct_X6_expect h0 h) (fun x13 m14 => ?_)
            refine r_if_eq 32 79 60 rfl rfl rfl (fun h15 => ?_) (fun h15 => ?_)
            · refine r_leaf (r2 := (f_X6_takePackages_j79 t m14 : Option (Int32 × Mi))) (he2 _) ?_
              exact r_sub [] rfl (hj79 m14)
            · refine r_aload_n 33 61 0 rfl rfl rfl rfl ?_
              refine r_aload_n 34 62 1 rfl rfl rfl rfl ?_
              refine r_aload_n 35 63 2 rfl rfl rfl rfl ?_
              refine r_VI 36 66 (st := []) (av := [.inr (.inr a0), .inr (.inr a1), .inr (.inr a2)]) (av' := [.inr (.inr a1), .inr (.inr a2)]) (μ' := u_X6_takeReleases) (d := 5) rfl rfl mc_X6_takeReleases in_X6_takeReleases lk_RX6_126 (Nat.le_of_ble_eq_true rfl) rfl rfl h0 rfl (Nat.le_of_ble_eq_true rfl) (fun _ _ h => ct_X6_takeReleases h0 h) (fun x16 m17 => ?_)
              refine r_if_eq 37 79 69 rfl rfl rfl (fun h18 => ?_) (fun h18 => ?_)
              · refine r_leaf (r2 := (f_X6_takePackages_j79 t m17 : Option (Int32 × Mi))) (he2 _) ?_
                exact r_sub [] rfl (hj79 m17)
              · refine r_aload_n 38 70 0 rfl rfl rfl rfl ?_
                refine r_aload_n 39 71 1 rfl rfl rfl rfl ?_
                refine r_bipush 40 73 (v := 11) rfl rfl (by decide) ?_
                refine r_VI 41 76 (st := []) (av := [.inr (.inr a0), .inr (.inr a1), .inl 11]) (av' := [.inr (.inr a1), .inl 11]) (μ' := u_X6_expect) (d := 2) rfl rfl mc_X6_expect in_X6_expect lk_RX6_103 (Nat.le_of_ble_eq_true rfl) rfl rfl h0 rfl (Nat.le_of_ble_eq_true rfl) (fun _ _ h => ct_X6_expect h0 h) (fun x19 m20 => ?_)
                refine r_if_ne 42 81 79 rfl rfl rfl (fun h21 => ?_) (fun h21 => ?_)
                · refine r_leaf (r2 := (f_X6_takePackages_j79 t m20 : Option (Int32 × Mi))) (he2 _) ?_
                  exact r_sub [] rfl (hj79 m20)
                · refine r_iinc 45 84 3 (L' := [(3, .inl (a3 + 1)), (0, .inr (.inr a0)), (1, .inr (.inr a1)), (2, .inr (.inr a2))]) rfl rfl rfl (by decide) rfl ?_
                  refine r_ltV (fun x22 => ?_)
                  refine r_goto 46 2 rfl rfl ?_
                  exact r_sub [1, 2, 3, 0] rfl (hc2 (x22, m20))
      · refine r_leaf (r2 := (f_X6_takePackages_j87 t m : Option (Int32 × Mi))) (he2 _) ?_
        exact r_sub [] rfl (hj87 m)
  exact r_sub [1, 2, 3, 0] rfl (hj2 m 0)
theorem ct_X6_takePackages {t : List Sh} {m : Mi} {a0 : Nat} {a1 : Nat} {a2 : Nat} {m' : Mi} {v : Int32}  (h0 : sh t a0 = some (.inl 6)) (h : f_X6_takePackages t m a0 a1 a2 = some (v, m')) : Ct u_X6_takePackages 6 0 0 [.inr (.inr a0), .inr (.inr a1), .inr (.inr a2)] (t, m) (some (.inl v), (t, m')) :=
  ct_of (by decide) tk_X6_takePackages (Nat.le_of_ble_eq_true rfl) (sm_X6_takePackages t m a0 a1 a2 h0) (by rw [h]; rfl) (Nat.le_refl _) (Nat.le_refl _)
theorem lk_RX6_94 : Cond.methodLink RX6 94 yX6_takePackages ∈ TB := tbm 731 (by decide +kernel) rfl
theorem lk_RX6_98 : Cond.methodLink RX6 98 yX6_takeWants ∈ TB := tbm 830 (by decide +kernel) rfl
theorem lk_RX6_107 : Cond.methodLink RX6 107 yX6_findTargets ∈ TB := tbm 834 (by decide +kernel) rfl
def tb_X6_take : Tb := [(0, (.aload_n 0, 1)), (1, (.invokevirtual 43, 3)), (4, (.aload_n 0, 1)), (5, (.aload_n 1, 1)), (6, (.aload_n 2, 1)), (7, (.invokevirtual 94, 3)), (10, (.ifCond .eq 26, 3)), (13, (.aload_n 0, 1)), (14, (.aload_n 1, 1)), (15, (.aload_n 2, 1)), (16, (.invokevirtual 98, 3)), (19, (.ifCond .eq 17, 3)), (22, (.aload_n 0, 1)), (23, (.aload_n 1, 1)), (24, (.iconst 0, 1)), (25, (.invokevirtual 103, 3)), (28, (.ifCond .eq 8, 3)), (31, (.aload_n 0, 1)), (32, (.invokevirtual 107, 3)), (35, (.ireturn, 1)), (36, (.aload_n 0, 1)), (37, (.getfield 62, 3)), (40, (.bipush 8, 2)), (42, (.aload_n 1, 1)), (43, (.aload_n 0, 1)), (44, (.getfield 59, 3)), (47, (.invokevirtual 111, 3)), (50, (.imul, 1)), (51, (.iadd, 1)), (52, (.ireturn, 1))]
def u_X6_take : Fx := (yX6_take, (cX6_take, (3, ((some .int), tb_X6_take))))
theorem tk_X6_take : ∀ q ∈ u_X6_take.2.2.2.2, decode u_X6_take.2.1 q.1 = .ok q.2 := by decide +kernel
theorem mc_X6_take : MC u_X6_take 2 := ⟨tbm 730 (by decide +kernel) rfl, tbm 121 (by decide +kernel) rfl, ⟨by decide, by decide, by decide +kernel⟩, by decide⟩
theorem in_X6_take : Cond.instanceMethod u_X6_take.1 ∈ TB ∧ Cond.selects u_X6_take.1.cls u_X6_take.1 u_X6_take.1 ∈ TB := ⟨tbm 728 (by decide +kernel) rfl, tbm 729 (by decide +kernel) rfl⟩
def f_X6_take_j36 (t : List Sh) (m : Mi) (a0 : Nat) (a1 : Nat) : Option (Int32 × Mi) :=
  (if ob t a1 9 = true then
  (f_X9_placeAt t m a1 (gi m a0 9)).bind fun x5 =>
  some ((gi m a0 10) + (8 * x5), m)
  else none)
def f_X6_take (t : List Sh) (m : Mi) (a0 : Nat) (a1 : Nat) (a2 : Nat) : Option (Int32 × Mi) :=
  (f_X6_clear t m a0).bind fun m1 =>
  bd (f_X6_takePackages t m1 a0 a1 a2) fun x2 m3 =>
  if x2 = 0 then
    f_X6_take_j36 t m3 a0 a1
  else
    bd (f_X6_takeWants t m3 a0 a1 a2) fun x7 m8 =>
    if x7 = 0 then
      f_X6_take_j36 t m8 a0 a1
    else
      bd (f_X6_expect t m8 a0 a1 0) fun x10 m11 =>
      if x10 = 0 then
        f_X6_take_j36 t m11 a0 a1
      else
        bd (f_X6_findTargets t m11 a0) fun x13 m14 =>
        some (x13, m14)
set_option maxRecDepth 4000 in
set_option maxHeartbeats 4000000 in
theorem sm_X6_take (t : List Sh) (m : Mi) (a0 : Nat) (a1 : Nat) (a2 : Nat) (h0 : sh t a0 = some (.inl 6)) : Sm u_X6_take (7, 0, 0, t.length, zs t) (kI t) 0 [(0, .inr (.inr a0)), (1, .inr (.inr a1)), (2, .inr (.inr a2))] [] (t, m) (f_X6_take t m a0 a1 a2) := by
  unfold f_X6_take
  refine r_aload_n 0 1 0 rfl rfl rfl rfl ?_
  refine r_VV 1 4 (st := []) (av := [.inr (.inr a0)]) (av' := []) (μ' := u_X6_clear) (d := 1) rfl rfl mc_X6_clear in_X6_clear lk_RX6_43 (Nat.le_of_ble_eq_true rfl) rfl rfl h0 rfl (Nat.le_of_ble_eq_true rfl) (fun _ h => ct_X6_clear h0 h) (fun m1 => ?_)
  refine r_aload_n 2 5 0 rfl rfl rfl rfl ?_
  refine r_aload_n 3 6 1 rfl rfl rfl rfl ?_
  refine r_aload_n 4 7 2 rfl rfl rfl rfl ?_
  refine r_VI 5 10 (st := []) (av := [.inr (.inr a0), .inr (.inr a1), .inr (.inr a2)]) (av' := [.inr (.inr a1), .inr (.inr a2)]) (μ' := u_X6_takePackages) (d := 6) rfl rfl mc_X6_takePackages in_X6_takePackages lk_RX6_94 (Nat.le_of_ble_eq_true rfl) rfl rfl h0 rfl (Nat.le_of_ble_eq_true rfl) (fun _ _ h => ct_X6_takePackages h0 h) (fun x2 m3 => ?_)
  have hj36 : ∀ (m : Mi), Sm u_X6_take (7, 0, 0, t.length, zs t) (kI t) 36 [(0, .inr (.inr a0)), (1, .inr (.inr a1))] [] (t, m) (f_X6_take_j36 t m a0 a1) := by
    intro m
    unfold f_X6_take_j36
    refine r_aload_n 20 37 0 rfl rfl rfl rfl ?_
    refine r_getI 21 40 rfl rfl fl_RX6_62 rfl h0 ?_
    refine r_bipush 22 42 (v := 8) rfl rfl (by decide) ?_
    refine r_aload_n 23 43 1 rfl rfl rfl rfl ?_
    refine r_aload_n 24 44 0 rfl rfl rfl rfl ?_
    refine r_getI 25 47 rfl rfl fl_RX6_59 rfl h0 ?_
    refine r_gd (fun h4 => ?_)
    refine r_VIo 26 50 (st := [.inl 8, .inl (gi m a0 10)]) (av := [.inr (.inr a1), .inl (gi m a0 9)]) (av' := [.inl (gi m a0 9)]) (μ' := u_X9_placeAt) (d := 1) rfl rfl mc_X9_placeAt in_X9_placeAt lk_RX6_111 (Nat.le_of_ble_eq_true rfl) rfl rfl (ob_sh h4) rfl (Nat.le_of_ble_eq_true rfl) (fun _ h => ct_X9_placeAt (ob_sh h4) h) (fun x5 => ?_)
    refine r_imul 27 51 rfl rfl ?_
    refine r_iadd 28 52 rfl rfl ?_
    exact r_iret 29 rfl rfl rfl
  refine r_if_eq 6 36 13 rfl rfl rfl (fun h6 => ?_) (fun h6 => ?_)
  · exact r_sub [0, 1] rfl (hj36 m3)
  · refine r_aload_n 7 14 0 rfl rfl rfl rfl ?_
    refine r_aload_n 8 15 1 rfl rfl rfl rfl ?_
    refine r_aload_n 9 16 2 rfl rfl rfl rfl ?_
    refine r_VI 10 19 (st := []) (av := [.inr (.inr a0), .inr (.inr a1), .inr (.inr a2)]) (av' := [.inr (.inr a1), .inr (.inr a2)]) (μ' := u_X6_takeWants) (d := 4) rfl rfl mc_X6_takeWants in_X6_takeWants lk_RX6_98 (Nat.le_of_ble_eq_true rfl) rfl rfl h0 rfl (Nat.le_of_ble_eq_true rfl) (fun _ _ h => ct_X6_takeWants h0 h) (fun x7 m8 => ?_)
    refine r_if_eq 11 36 22 rfl rfl rfl (fun h9 => ?_) (fun h9 => ?_)
    · exact r_sub [0, 1] rfl (hj36 m8)
    · refine r_aload_n 12 23 0 rfl rfl rfl rfl ?_
      refine r_aload_n 13 24 1 rfl rfl rfl rfl ?_
      refine r_iconst 14 25 (v := 0) rfl rfl (by decide) ?_
      refine r_VI 15 28 (st := []) (av := [.inr (.inr a0), .inr (.inr a1), .inl 0]) (av' := [.inr (.inr a1), .inl 0]) (μ' := u_X6_expect) (d := 2) rfl rfl mc_X6_expect in_X6_expect lk_RX6_103 (Nat.le_of_ble_eq_true rfl) rfl rfl h0 rfl (Nat.le_of_ble_eq_true rfl) (fun _ _ h => ct_X6_expect h0 h) (fun x10 m11 => ?_)
      refine r_if_eq 16 36 31 rfl rfl rfl (fun h12 => ?_) (fun h12 => ?_)
      · exact r_sub [0, 1] rfl (hj36 m11)
      · refine r_aload_n 17 32 0 rfl rfl rfl rfl ?_
        refine r_VI 18 35 (st := []) (av := [.inr (.inr a0)]) (av' := []) (μ' := u_X6_findTargets) (d := 3) rfl rfl mc_X6_findTargets in_X6_findTargets lk_RX6_107 (Nat.le_of_ble_eq_true rfl) rfl rfl h0 rfl (Nat.le_of_ble_eq_true rfl) (fun _ _ h => ct_X6_findTargets h0 h) (fun x13 m14 => ?_)
        exact r_iret 19 rfl rfl rfl
theorem ct_X6_take {t : List Sh} {m : Mi} {a0 : Nat} {a1 : Nat} {a2 : Nat} {m' : Mi} {v : Int32}  (h0 : sh t a0 = some (.inl 6)) (h : f_X6_take t m a0 a1 a2 = some (v, m')) : Ct u_X6_take 7 0 0 [.inr (.inr a0), .inr (.inr a1), .inr (.inr a2)] (t, m) (some (.inl v), (t, m')) :=
  ct_of (by decide) tk_X6_take (Nat.le_of_ble_eq_true rfl) (sm_X6_take t m a0 a1 a2 h0) (by rw [h]; rfl) (Nat.le_refl _) (Nat.le_refl _)
