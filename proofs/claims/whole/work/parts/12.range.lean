theorem fl_RX4_21 : FL RX4 21 4 1 false := ⟨RX4, TX4, 2, rfl, inW4, tyX4_ok, nmX4, by decide, rfl, rfl, rfl, tbm 154 (by decide +kernel) rfl⟩
def tb_X4_clear : Tb := [(0, (.aload_n 0, 1)), (1, (.iconst 0, 1)), (2, (.putfield 21, 3)), (5, (.return_, 1))]
def u_X4_clear : Fx := (yX4_clear, (cX4_clear, (1, (none, tb_X4_clear))))
theorem tk_X4_clear : ∀ q ∈ u_X4_clear.2.2.2.2, decode u_X4_clear.2.1 q.1 = .ok q.2 := by decide +kernel
theorem mc_X4_clear : MC u_X4_clear 0 := ⟨tbm 857 (by decide +kernel) rfl, tbm 115 (by decide +kernel) rfl, ⟨by decide, by decide, by decide +kernel⟩, by decide⟩
theorem in_X4_clear : Cond.instanceMethod u_X4_clear.1 ∈ TB ∧ Cond.selects u_X4_clear.1.cls u_X4_clear.1 u_X4_clear.1 ∈ TB := ⟨tbm 855 (by decide +kernel) rfl, tbm 856 (by decide +kernel) rfl⟩
def f_X4_clear (t : List Sh) (m : Mi) (a0 : Nat) : Option (Mi) :=
  lt (si m a0 1 0) fun m1 =>
  some m1
set_option maxRecDepth 4000 in
set_option maxHeartbeats 4000000 in
theorem sm_X4_clear (t : List Sh) (m : Mi) (a0 : Nat) (h0 : sh t a0 = some (.inl 4)) : Sm u_X4_clear (1, 0, 0, t.length, zs t) (kV t) 0 [(0, .inr (.inr a0))] [] (t, m) (f_X4_clear t m a0) := by
  unfold f_X4_clear
  refine r_aload_n 0 1 0 rfl rfl rfl rfl ?_
  refine r_iconst 1 2 (v := 0) rfl rfl (by decide) ?_
  refine r_putI 2 5 rfl rfl fl_RX4_21 (fun h => by cases h) (Or.inl rfl) h0 ?_
  refine r_ltM (fun m1 => ?_)
  exact r_vret 3 rfl rfl rfl
theorem ct_X4_clear {t : List Sh} {m : Mi} {a0 : Nat} {m' : Mi}  (h0 : sh t a0 = some (.inl 4)) (h : f_X4_clear t m a0 = some m') : Ct u_X4_clear 1 0 0 [.inr (.inr a0)] (t, m) (none, (t, m')) :=
  ct_of (by decide) tk_X4_clear (Nat.le_of_ble_eq_true rfl) (sm_X4_clear t m a0 h0) (by rw [h]; rfl) (Nat.le_refl _) (Nat.le_refl _)
theorem lk_RX4_1 : Cond.methodLink RX4 1 Lib.objectInit ∈ TB := tbm 149 (by decide +kernel) rfl
theorem lk_RX4_7 : Cond.methodLink RX4 7 Lib.Math.max.name ∈ TB := tbm 150 (by decide +kernel) rfl
theorem fl_RX4_15 : FL RX4 15 4 0 true := ⟨RX4, TX4, 2, rfl, inW4, tyX4_ok, nmX4, by decide, rfl, rfl, rfl, tbm 153 (by decide +kernel) rfl⟩
def tb_X4_init : Tb := [(0, (.aload_n 0, 1)), (1, (.invokespecial 1, 3)), (4, (.aload_n 0, 1)), (5, (.iconst 2, 1)), (6, (.iconst 1, 1)), (7, (.iload_n 1, 1)), (8, (.invokestatic 7, 3)), (11, (.imul, 1)), (12, (.bipush 8, 2)), (14, (.imul, 1)), (15, (.newarray .long, 2)), (17, (.putfield 15, 3)), (20, (.aload_n 0, 1)), (21, (.iconst 0, 1)), (22, (.putfield 21, 3)), (25, (.return_, 1))]
def u_X4_init : Fx := (yX4_init, (cX4_init, (2, (none, tb_X4_init))))
theorem tk_X4_init : ∀ q ∈ u_X4_init.2.2.2.2, decode u_X4_init.2.1 q.1 = .ok q.2 := by decide +kernel
theorem mc_X4_init : MC u_X4_init 1 := ⟨tbm 148 (by decide +kernel) rfl, tbm 115 (by decide +kernel) rfl, ⟨by decide, by decide, by decide +kernel⟩, by decide⟩
theorem ini_X4_init : Cond.instanceMethod u_X4_init.1 ∈ TB := tbm 147 (by decide +kernel) rfl
set_option maxRecDepth 20000 in
def f_X4_init (t : List Sh) (m : Mi) (a0 : Nat) (a1 : Int32) : Option (Mm) :=
  (if ¬ ((2 * (if 1 < a1 then a1 else 1)) * 8) < 0 then
  (if ix ((2 * (if 1 < a1 then a1 else 1)) * 8) ≤ 100000 then
  (if t.length < 1000000 then
  lt (t.length + 1) fun r4 =>
  lt (t ++ [.inr (.long, ix ((2 * (if 1 < a1 then a1 else 1)) * 8))]) fun t5 =>
  lt (zr m (t.length + 1)) fun m6 =>
  (if ob t5 a0 4 = true then
  lt (sr m6 a0 0 r4) fun m8 =>
  lt (si m8 a0 1 0) fun m9 =>
  some (t5, m9)
  else none)
  else none)
  else none)
  else none)
set_option maxRecDepth 40000 in
set_option maxHeartbeats 4000000 in
theorem sm_X4_init (e2 : Nat × (Nat × (Nat × Nat))) (t : List Sh) (m : Mi) (a0 : Nat) (a1 : Int32) (h0 : sh t a0 = some (.inl 4)) : Sm u_X4_init (1, e2) kA 0 [(0, .inr (.inr a0)), (1, .inl a1)] [] (t, m) (f_X4_init t m a0 a1) := by
  unfold f_X4_init
  refine r_aload_n 0 1 0 rfl rfl rfl rfl ?_
  refine r_objI 1 4 rfl rfl lk_RX4_1 (Nat.le_of_ble_eq_true rfl) (Nat.le_of_ble_eq_true rfl) h0 ?_
  refine r_aload_n 2 5 0 rfl rfl rfl rfl ?_
  refine r_iconst 3 6 (v := 2) rfl rfl (by decide) ?_
  refine r_iconst 4 7 (v := 1) rfl rfl (by decide) ?_
  refine r_iload_n 5 8 1 rfl rfl rfl rfl ?_
  refine r_maxI 6 11 rfl rfl lk_RX4_7 (Nat.le_of_ble_eq_true rfl) (Nat.le_of_ble_eq_true rfl) ?_
  refine r_imul 7 12 rfl rfl ?_
  refine r_bipush 8 14 (v := 8) rfl rfl (by decide) ?_
  refine r_imul 9 15 rfl rfl ?_
  refine r_gd (fun h1 => ?_)
  refine r_gd (fun h2 => ?_)
  refine r_gd (fun h3 => ?_)
  refine r_newa 10 17 (ty := .long) (q := 1) rfl rfl h3 rfl (by decide) (fun _ => rfl) wd_161 h1 h2 ?_
  refine r_ltR (fun r4 => ?_)
  refine r_ltT (fun t5 => ?_)
  refine r_ltM (fun m6 => ?_)
  refine r_gd (fun h7 => ?_)
  refine r_putR 11 20 rfl rfl fl_RX4_15 (fun _ => ⟨rfl, rfl⟩) rfl (ob_sh h7) ?_
  refine r_ltM (fun m8 => ?_)
  refine r_aload_n 12 21 0 rfl rfl rfl rfl ?_
  refine r_iconst 13 22 (v := 0) rfl rfl (by decide) ?_
  refine r_putI 14 25 rfl rfl fl_RX4_21 (fun h => by cases h) (Or.inl rfl) (ob_sh h7) ?_
  refine r_ltM (fun m9 => ?_)
  exact r_vret 15 rfl rfl rfl
theorem mn_X4_init {t : List Sh} {m : Mi} {a0 : Nat} {a1 : Int32} {q : Mm} (h0 : sh t a0 = some (.inl 4)) (h : f_X4_init t m a0 a1 = some q) : t.length ≤ q.1.length ∧ zs t ≤ zs q.1 := ((sm_X4_init (0, 0, 0, 0) t m a0 a1 h0) (none, q) (by rw [h]; rfl)).1
theorem ct_X4_init {t : List Sh} {m : Mi} {a0 : Nat} {a1 : Int32} {q : Mm} (h0 : sh t a0 = some (.inl 4)) (h : f_X4_init t m a0 a1 = some q) : Ct u_X4_init 1 (q.1.length - t.length) (zs q.1 - zs t) [.inr (.inr a0), .inl a1] (t, m) (none, q) := by
  have hm := mn_X4_init h0 h
  exact ct_of (by decide) tk_X4_init (Nat.le_of_ble_eq_true rfl) (sm_X4_init (q.1.length - t.length, zs q.1 - zs t, t.length, zs t) t m a0 a1 h0) (by rw [h]; rfl) (by show q.1.length ≤ t.length + (q.1.length - t.length); omega) (by show zs q.1 ≤ zs t + (zs q.1 - zs t); omega)
def tb_X4_isKept : Tb := [(0, (.iload_n 0, 1)), (1, (.ifCond .ne 17, 3)), (4, (.iload_n 1, 1)), (5, (.ifCond .eq 11, 3)), (8, (.iload_n 2, 1)), (9, (.ifCond .eq 7, 3)), (12, (.iconst 1, 1)), (13, (.goto 4, 3)), (16, (.iconst 0, 1)), (17, (.ireturn, 1)), (18, (.iload_n 0, 1)), (19, (.iconst 1, 1)), (20, (.if_icmp .ne 19, 3)), (23, (.iload_n 1, 1)), (24, (.ifCond .ne 7, 3)), (27, (.iload_n 2, 1)), (28, (.ifCond .eq 7, 3)), (31, (.iconst 1, 1)), (32, (.goto 20, 3)), (35, (.iconst 0, 1)), (36, (.goto 16, 3)), (39, (.iload_n 1, 1)), (40, (.ifCond .eq 11, 3)), (43, (.iload_n 2, 1)), (44, (.ifCond .ne 7, 3)), (47, (.iconst 1, 1)), (48, (.goto 4, 3)), (51, (.iconst 0, 1)), (52, (.ireturn, 1))]
def u_X4_isKept : Fx := (yX4_isKept, (cX4_isKept, (3, ((some .boolean), tb_X4_isKept))))
theorem tk_X4_isKept : ∀ q ∈ u_X4_isKept.2.2.2.2, decode u_X4_isKept.2.1 q.1 = .ok q.2 := by decide +kernel
theorem mc_X4_isKept : MC u_X4_isKept 3 := ⟨tbm 891 (by decide +kernel) rfl, tbm 115 (by decide +kernel) rfl, ⟨by decide, by decide, by decide +kernel⟩, by decide⟩
theorem st_X4_isKept : Cond.static u_X4_isKept.1 ∈ TB := tbm 890 (by decide +kernel) rfl
def f_X4_isKept (a0 : Int32) (a1 : Int32) (a2 : Int32) : Option (Int32) :=
  if a0 = 0 then
    if a1 = 0 then
      some 0
    else
      if a2 = 0 then
        some 0
      else
        some 1
  else
    if a0 = 1 then
      if a1 = 0 then
        if a2 = 0 then
          some 0
        else
          some 1
      else
        some 1
    else
      if a1 = 0 then
        some 0
      else
        if a2 = 0 then
          some 1
        else
          some 0
set_option maxRecDepth 4000 in
set_option maxHeartbeats 4000000 in
theorem sm_X4_isKept (t : List Sh) (m : Mi) (a0 : Int32) (a1 : Int32) (a2 : Int32) : Sm u_X4_isKept (1, 0, 0, t.length, zs t) (kIo t m) 0 [(0, .inl a0), (1, .inl a1), (2, .inl a2)] [] (t, m) (f_X4_isKept a0 a1 a2) := by
  unfold f_X4_isKept
  refine r_iload_n 0 1 0 rfl rfl rfl rfl ?_
  refine r_if_ne 1 18 4 rfl rfl rfl (fun h1 => ?_) (fun h1 => ?_)
  · refine r_iload_n 2 5 1 rfl rfl rfl rfl ?_
    refine r_if_eq 3 16 8 rfl rfl rfl (fun h2 => ?_) (fun h2 => ?_)
    · refine r_iconst 8 17 (v := 0) rfl rfl (by decide) ?_
      exact r_zret 9 rfl rfl (by decide) rfl
    · refine r_iload_n 4 9 2 rfl rfl rfl rfl ?_
      refine r_if_eq 5 16 12 rfl rfl rfl (fun h3 => ?_) (fun h3 => ?_)
      · refine r_iconst 8 17 (v := 0) rfl rfl (by decide) ?_
        exact r_zret 9 rfl rfl (by decide) rfl
      · refine r_iconst 6 13 (v := 1) rfl rfl (by decide) ?_
        refine r_goto 7 17 rfl rfl ?_
        exact r_zret 9 rfl rfl (by decide) rfl
  · refine r_iload_n 10 19 0 rfl rfl rfl rfl ?_
    refine r_iconst 11 20 (v := 1) rfl rfl (by decide) ?_
    refine r_icmp_ne 12 39 23 rfl rfl rfl (fun h4 => ?_) (fun h4 => ?_)
    · refine r_iload_n 13 24 1 rfl rfl rfl rfl ?_
      refine r_if_ne 14 31 27 rfl rfl rfl (fun h5 => ?_) (fun h5 => ?_)
      · refine r_iload_n 15 28 2 rfl rfl rfl rfl ?_
        refine r_if_eq 16 35 31 rfl rfl rfl (fun h6 => ?_) (fun h6 => ?_)
        · refine r_iconst 19 36 (v := 0) rfl rfl (by decide) ?_
          refine r_goto 20 52 rfl rfl ?_
          exact r_zret 28 rfl rfl (by decide) rfl
        · refine r_iconst 17 32 (v := 1) rfl rfl (by decide) ?_
          refine r_goto 18 52 rfl rfl ?_
          exact r_zret 28 rfl rfl (by decide) rfl
      · refine r_iconst 17 32 (v := 1) rfl rfl (by decide) ?_
        refine r_goto 18 52 rfl rfl ?_
        exact r_zret 28 rfl rfl (by decide) rfl
    · refine r_iload_n 21 40 1 rfl rfl rfl rfl ?_
      refine r_if_eq 22 51 43 rfl rfl rfl (fun h7 => ?_) (fun h7 => ?_)
      · refine r_iconst 27 52 (v := 0) rfl rfl (by decide) ?_
        exact r_zret 28 rfl rfl (by decide) rfl
      · refine r_iload_n 23 44 2 rfl rfl rfl rfl ?_
        refine r_if_ne 24 51 47 rfl rfl rfl (fun h8 => ?_) (fun h8 => ?_)
        · refine r_iconst 25 48 (v := 1) rfl rfl (by decide) ?_
          refine r_goto 26 52 rfl rfl ?_
          exact r_zret 28 rfl rfl (by decide) rfl
        · refine r_iconst 27 52 (v := 0) rfl rfl (by decide) ?_
          exact r_zret 28 rfl rfl (by decide) rfl
theorem ct_X4_isKept {t : List Sh} {m : Mi} {a0 : Int32} {a1 : Int32} {a2 : Int32} {v : Int32}  (h : f_X4_isKept a0 a1 a2 = some v) : Ct u_X4_isKept 1 0 0 [.inl a0, .inl a1, .inl a2] (t, m) (some (.inl v), (t, m)) :=
  ct_of (by decide) tk_X4_isKept (Nat.le_of_ble_eq_true rfl) (sm_X4_isKept t m a0 a1 a2) (by rw [h]; rfl) (Nat.le_refl _) (Nat.le_refl _)
def tb_X4_stretches : Tb := [(0, (.aload_n 0, 1)), (1, (.getfield 21, 3)), (4, (.iconst 2, 1)), (5, (.idiv, 1)), (6, (.ireturn, 1))]
def u_X4_stretches : Fx := (yX4_stretches, (cX4_stretches, (1, ((some .int), tb_X4_stretches))))
theorem tk_X4_stretches : ∀ q ∈ u_X4_stretches.2.2.2.2, decode u_X4_stretches.2.1 q.1 = .ok q.2 := by decide +kernel
theorem mc_X4_stretches : MC u_X4_stretches 0 := ⟨tbm 991 (by decide +kernel) rfl, tbm 115 (by decide +kernel) rfl, ⟨by decide, by decide, by decide +kernel⟩, by decide⟩
theorem in_X4_stretches : Cond.instanceMethod u_X4_stretches.1 ∈ TB ∧ Cond.selects u_X4_stretches.1.cls u_X4_stretches.1 u_X4_stretches.1 ∈ TB := ⟨tbm 989 (by decide +kernel) rfl, tbm 990 (by decide +kernel) rfl⟩
def f_X4_stretches (t : List Sh) (m : Mi) (a0 : Nat) : Option (Int32) :=
  some ((gi m a0 1) / 2)
set_option maxRecDepth 4000 in
set_option maxHeartbeats 4000000 in
theorem sm_X4_stretches (t : List Sh) (m : Mi) (a0 : Nat) (h0 : sh t a0 = some (.inl 4)) : Sm u_X4_stretches (1, 0, 0, t.length, zs t) (kIo t m) 0 [(0, .inr (.inr a0))] [] (t, m) (f_X4_stretches t m a0) := by
  unfold f_X4_stretches
  refine r_aload_n 0 1 0 rfl rfl rfl rfl ?_
  refine r_getI 1 4 rfl rfl fl_RX4_21 rfl h0 ?_
  refine r_iconst 2 5 (v := 2) rfl rfl (by decide) ?_
  refine r_idiv 3 6 rfl rfl (by decide) ?_
  exact r_iret 4 rfl rfl rfl
theorem ct_X4_stretches {t : List Sh} {m : Mi} {a0 : Nat} {v : Int32}  (h0 : sh t a0 = some (.inl 4)) (h : f_X4_stretches t m a0 = some v) : Ct u_X4_stretches 1 0 0 [.inr (.inr a0)] (t, m) (some (.inl v), (t, m)) :=
  ct_of (by decide) tk_X4_stretches (Nat.le_of_ble_eq_true rfl) (sm_X4_stretches t m a0 h0) (by rw [h]; rfl) (Nat.le_refl _) (Nat.le_refl _)
theorem lk_RX4_58 : Cond.methodLink RX4 58 yX10_fits ∈ TB := tbm 879 (by decide +kernel) rfl
theorem lk_RX4_54 : Cond.methodLink RX4 54 yX10_copy ∈ TB := tbm 880 (by decide +kernel) rfl
def tb_X4_addBound : Tb := [(0, (.aload_n 0, 1)), (1, (.getfield 21, 3)), (4, (.bipush 8, 2)), (6, (.imul, 1)), (7, (.istore_n 3, 1)), (8, (.aload_n 0, 1)), (9, (.getfield 15, 3)), (12, (.iload_n 3, 1)), (13, (.invokestatic 58, 3)), (16, (.ifCond .eq 23, 3)), (19, (.aload_n 1, 1)), (20, (.iload_n 2, 1)), (21, (.aload_n 0, 1)), (22, (.getfield 15, 3)), (25, (.iload_n 3, 1)), (26, (.invokestatic 54, 3)), (29, (.aload_n 0, 1)), (30, (.dup, 1)), (31, (.getfield 21, 3)), (34, (.iconst 1, 1)), (35, (.iadd, 1)), (36, (.putfield 21, 3)), (39, (.return_, 1))]
def u_X4_addBound : Fx := (yX4_addBound, (cX4_addBound, (4, (none, tb_X4_addBound))))
theorem tk_X4_addBound : ∀ q ∈ u_X4_addBound.2.2.2.2, decode u_X4_addBound.2.1 q.1 = .ok q.2 := by decide +kernel
theorem mc_X4_addBound : MC u_X4_addBound 2 := ⟨tbm 878 (by decide +kernel) rfl, tbm 115 (by decide +kernel) rfl, ⟨by decide, by decide, by decide +kernel⟩, by decide⟩
theorem in_X4_addBound : Cond.instanceMethod u_X4_addBound.1 ∈ TB ∧ Cond.selects u_X4_addBound.1.cls u_X4_addBound.1 u_X4_addBound.1 ∈ TB := ⟨tbm 877 (by decide +kernel) rfl, tbm 33 (by decide +kernel) rfl⟩
def f_X4_addBound (t : List Sh) (m : Mi) (a0 : Nat) (a1 : Nat) (a2 : Int32) : Option (Mi) :=
  lt ((gi m a0 1) * 8) fun x1 =>
  (f_X10_fits t m (gr m a0 0) x1).bind fun x2 =>
  if x2 = 0 then
    some m
  else
    (f_X10_copy t m a1 a2 (gr m a0 0) x1).bind fun m4 =>
    lt (si m4 a0 1 ((gi m4 a0 1) + 1)) fun m5 =>
    some m5
set_option maxRecDepth 4000 in
set_option maxHeartbeats 4000000 in
theorem sm_X4_addBound (t : List Sh) (m : Mi) (a0 : Nat) (a1 : Nat) (a2 : Int32) (h0 : sh t a0 = some (.inl 4)) : Sm u_X4_addBound (3, 0, 0, t.length, zs t) (kV t) 0 [(0, .inr (.inr a0)), (1, .inr (.inr a1)), (2, .inl a2)] [] (t, m) (f_X4_addBound t m a0 a1 a2) := by
  unfold f_X4_addBound
  refine r_aload_n 0 1 0 rfl rfl rfl rfl ?_
  refine r_getI 1 4 rfl rfl fl_RX4_21 rfl h0 ?_
  refine r_bipush 2 6 (v := 8) rfl rfl (by decide) ?_
  refine r_imul 3 7 rfl rfl ?_
  refine r_ltI (fun x1 => ?_)
  refine r_istore_n 4 8 (L' := [(3, .inl x1), (0, .inr (.inr a0)), (1, .inr (.inr a1)), (2, .inl a2)]) rfl rfl rfl (by decide) rfl ?_
  refine r_aload_n 5 9 1 rfl rfl rfl rfl ?_
  refine r_getR 6 12 rfl rfl fl_RX4_15 rfl h0 ?_
  refine r_iload_n 7 13 0 rfl rfl rfl rfl ?_
  refine r_SIo 8 16 (a := 0) (cn := 0) (st := []) (av := [.inr (.inr (gr m a0 0)), .inl x1]) (μ' := u_X10_fits) (d := 1) rfl rfl mc_X10_fits st_X10_fits lk_RX4_58 (Nat.le_of_ble_eq_true rfl) rfl (Nat.le_of_ble_eq_true rfl) (fun _ h => ct_X10_fits h) (fun x2 => ?_)
  refine r_if_eq 9 39 19 rfl rfl rfl (fun h3 => ?_) (fun h3 => ?_)
  · exact r_vret 22 rfl rfl rfl
  · refine r_aload_n 10 20 2 rfl rfl rfl rfl ?_
    refine r_iload_n 11 21 3 rfl rfl rfl rfl ?_
    refine r_aload_n 12 22 1 rfl rfl rfl rfl ?_
    refine r_getR 13 25 rfl rfl fl_RX4_15 rfl h0 ?_
    refine r_iload_n 14 26 0 rfl rfl rfl rfl ?_
    refine r_SV 15 29 (a := 0) (cn := 0) (st := []) (av := [.inr (.inr a1), .inl a2, .inr (.inr (gr m a0 0)), .inl x1]) (μ' := u_X10_copy) (d := 2) rfl rfl mc_X10_copy st_X10_copy lk_RX4_54 (Nat.le_of_ble_eq_true rfl) rfl (Nat.le_of_ble_eq_true rfl) (fun _ h => ct_X10_copy h) (fun m4 => ?_)
    refine r_aload_n 16 30 1 rfl rfl rfl rfl ?_
    refine r_dup 17 31 rfl rfl rfl ?_
    refine r_getI 18 34 rfl rfl fl_RX4_21 rfl h0 ?_
    refine r_iconst 19 35 (v := 1) rfl rfl (by decide) ?_
    refine r_iadd 20 36 rfl rfl ?_
    refine r_putI 21 39 rfl rfl fl_RX4_21 (fun h => by cases h) (Or.inl rfl) h0 ?_
    refine r_ltM (fun m5 => ?_)
    exact r_vret 22 rfl rfl rfl
theorem ct_X4_addBound {t : List Sh} {m : Mi} {a0 : Nat} {a1 : Nat} {a2 : Int32} {m' : Mi}  (h0 : sh t a0 = some (.inl 4)) (h : f_X4_addBound t m a0 a1 a2 = some m') : Ct u_X4_addBound 3 0 0 [.inr (.inr a0), .inr (.inr a1), .inl a2] (t, m) (none, (t, m')) :=
  ct_of (by decide) tk_X4_addBound (Nat.le_of_ble_eq_true rfl) (sm_X4_addBound t m a0 a1 a2 h0) (by rw [h]; rfl) (Nat.le_refl _) (Nat.le_refl _)
def tb_X4_copyBound : Tb := [(0, (.aload_n 0, 1)), (1, (.getfield 15, 3)), (4, (.iload_n 1, 1)), (5, (.bipush 8, 2)), (7, (.imul, 1)), (8, (.aload_n 2, 1)), (9, (.iconst 0, 1)), (10, (.invokestatic 54, 3)), (13, (.return_, 1))]
def u_X4_copyBound : Fx := (yX4_copyBound, (cX4_copyBound, (3, (none, tb_X4_copyBound))))
theorem tk_X4_copyBound : ∀ q ∈ u_X4_copyBound.2.2.2.2, decode u_X4_copyBound.2.1 q.1 = .ok q.2 := by decide +kernel
theorem mc_X4_copyBound : MC u_X4_copyBound 2 := ⟨tbm 1043 (by decide +kernel) rfl, tbm 115 (by decide +kernel) rfl, ⟨by decide, by decide, by decide +kernel⟩, by decide⟩
theorem in_X4_copyBound : Cond.instanceMethod u_X4_copyBound.1 ∈ TB ∧ Cond.selects u_X4_copyBound.1.cls u_X4_copyBound.1 u_X4_copyBound.1 ∈ TB := ⟨tbm 1041 (by decide +kernel) rfl, tbm 1042 (by decide +kernel) rfl⟩
def f_X4_copyBound (t : List Sh) (m : Mi) (a0 : Nat) (a1 : Int32) (a2 : Nat) : Option (Mi) :=
  (f_X10_copy t m (gr m a0 0) (a1 * 8) a2 0).bind fun m1 =>
  some m1
set_option maxRecDepth 4000 in
set_option maxHeartbeats 4000000 in
theorem sm_X4_copyBound (t : List Sh) (m : Mi) (a0 : Nat) (a1 : Int32) (a2 : Nat) (h0 : sh t a0 = some (.inl 4)) : Sm u_X4_copyBound (3, 0, 0, t.length, zs t) (kV t) 0 [(0, .inr (.inr a0)), (1, .inl a1), (2, .inr (.inr a2))] [] (t, m) (f_X4_copyBound t m a0 a1 a2) := by
  unfold f_X4_copyBound
  refine r_aload_n 0 1 0 rfl rfl rfl rfl ?_
  refine r_getR 1 4 rfl rfl fl_RX4_15 rfl h0 ?_
  refine r_iload_n 2 5 1 rfl rfl rfl rfl ?_
  refine r_bipush 3 7 (v := 8) rfl rfl (by decide) ?_
  refine r_imul 4 8 rfl rfl ?_
  refine r_aload_n 5 9 2 rfl rfl rfl rfl ?_
  refine r_iconst 6 10 (v := 0) rfl rfl (by decide) ?_
  refine r_SV 7 13 (a := 0) (cn := 0) (st := []) (av := [.inr (.inr (gr m a0 0)), .inl (a1 * 8), .inr (.inr a2), .inl 0]) (μ' := u_X10_copy) (d := 2) rfl rfl mc_X10_copy st_X10_copy lk_RX4_54 (Nat.le_of_ble_eq_true rfl) rfl (Nat.le_of_ble_eq_true rfl) (fun _ h => ct_X10_copy h) (fun m1 => ?_)
  exact r_vret 8 rfl rfl rfl
theorem ct_X4_copyBound {t : List Sh} {m : Mi} {a0 : Nat} {a1 : Int32} {a2 : Nat} {m' : Mi}  (h0 : sh t a0 = some (.inl 4)) (h : f_X4_copyBound t m a0 a1 a2 = some m') : Ct u_X4_copyBound 3 0 0 [.inr (.inr a0), .inl a1, .inr (.inr a2)] (t, m) (none, (t, m')) :=
  ct_of (by decide) tk_X4_copyBound (Nat.le_of_ble_eq_true rfl) (sm_X4_copyBound t m a0 a1 a2 h0) (by rw [h]; rfl) (Nat.le_refl _) (Nat.le_refl _)
theorem lk_RX4_43 : Cond.methodLink RX4 43 yX10_compare ∈ TB := tbm 888 (by decide +kernel) rfl
def tb_X4_has : Tb := [(0, (.iconst 0, 1)), (1, (.istore_n 2, 1)), (2, (.iload_n 2, 1)), (3, (.aload_n 0, 1)), (4, (.getfield 21, 3)), (7, (.if_icmp .ge 45, 3)), (10, (.aload_n 0, 1)), (11, (.getfield 15, 3)), (14, (.iload_n 2, 1)), (15, (.bipush 8, 2)), (17, (.imul, 1)), (18, (.aload_n 1, 1)), (19, (.iconst 0, 1)), (20, (.invokestatic 43, 3)), (23, (.ifCond .gt 23, 3)), (26, (.aload_n 1, 1)), (27, (.iconst 0, 1)), (28, (.aload_n 0, 1)), (29, (.getfield 15, 3)), (32, (.iload_n 2, 1)), (33, (.iconst 1, 1)), (34, (.iadd, 1)), (35, (.bipush 8, 2)), (37, (.imul, 1)), (38, (.invokestatic 43, 3)), (41, (.ifCond .ge 5, 3)), (44, (.iconst 1, 1)), (45, (.ireturn, 1)), (46, (.iinc 2 2, 3)), (49, (.goto (-47), 3)), (52, (.iconst 0, 1)), (53, (.ireturn, 1))]
def u_X4_has : Fx := (yX4_has, (cX4_has, (3, ((some .boolean), tb_X4_has))))
theorem tk_X4_has : ∀ q ∈ u_X4_has.2.2.2.2, decode u_X4_has.2.1 q.1 = .ok q.2 := by decide +kernel
theorem mc_X4_has : MC u_X4_has 1 := ⟨tbm 952 (by decide +kernel) rfl, tbm 115 (by decide +kernel) rfl, ⟨by decide, by decide, by decide +kernel⟩, by decide⟩
theorem in_X4_has : Cond.instanceMethod u_X4_has.1 ∈ TB ∧ Cond.selects u_X4_has.1.cls u_X4_has.1 u_X4_has.1 ∈ TB := ⟨tbm 950 (by decide +kernel) rfl, tbm 951 (by decide +kernel) rfl⟩
def f_X4_has_j44 (t : List Sh) (m : Mi) : Option (Int32) :=
  some 1
def f_X4_has_j52 (t : List Sh) (m : Mi) : Option (Int32) :=
  some 0
def f_X4_has_l2 (t : List Sh) (m : Mi) (a0 : Nat) (a1 : Nat) (a2 : Int32) : Option ((Int32) ⊕ ((Unit) ⊕ (Unit))) :=
  if (gi m a0 1) ≤ a2 then
    some (.inr (.inl ()))
  else
    (f_X10_compare t m (gr m a0 0) (a2 * 8) a1 0).bind fun x2 =>
    if 0 < x2 then
      lt (a2 + 2) fun x4 =>
      some (.inl x4)
    else
      (f_X10_compare t m a1 0 (gr m a0 0) ((a2 + 1) * 8)).bind fun x5 =>
      if 0 ≤ x5 then
        lt (a2 + 2) fun x7 =>
        some (.inl x7)
      else
        some (.inr (.inr ()))
def f_X4_has_j2 (t : List Sh) (m : Mi) (a0 : Nat) (a1 : Nat) (a2 : Int32) : Option (Int32) :=
  (lp (fun x : Int32 => f_X4_has_l2 t m a0 a1 x) FUEL a2).bind (Sum.elim (fun y : Unit => f_X4_has_j52 t m) (fun y : Unit => f_X4_has_j44 t m))
def f_X4_has (t : List Sh) (m : Mi) (a0 : Nat) (a1 : Nat) : Option (Int32) :=
  f_X4_has_j2 t m a0 a1 0
set_option maxRecDepth 4000 in
set_option maxHeartbeats 4000000 in
theorem sm_X4_has (t : List Sh) (m : Mi) (a0 : Nat) (a1 : Nat) (h0 : sh t a0 = some (.inl 4)) : Sm u_X4_has (3, 0, 0, t.length, zs t) (kIo t m) 0 [(0, .inr (.inr a0)), (1, .inr (.inr a1))] [] (t, m) (f_X4_has t m a0 a1) := by
  unfold f_X4_has
  refine r_iconst 0 1 (v := 0) rfl rfl (by decide) ?_
  refine r_istore_n 1 2 (L' := [(2, .inl 0), (0, .inr (.inr a0)), (1, .inr (.inr a1))]) rfl rfl rfl (by decide) rfl ?_
  have hj2 : ∀ (a2 : Int32), Sm u_X4_has (3, 0, 0, t.length, zs t) (kIo t m) 2 [(0, .inr (.inr a0)), (1, .inr (.inr a1)), (2, .inl a2)] [] (t, m) (f_X4_has_j2 t m a0 a1 a2) := by
    intro a2
    unfold f_X4_has_j2
    have hj44 : Sm u_X4_has (3, 0, 0, t.length, zs t) (kIo t m) 44 [] [] (t, m) (f_X4_has_j44 t m) := by
      unfold f_X4_has_j44
      refine r_iconst 26 45 (v := 1) rfl rfl (by decide) ?_
      exact r_zret 27 rfl rfl (by decide) rfl
    have hj52 : Sm u_X4_has (3, 0, 0, t.length, zs t) (kIo t m) 52 [] [] (t, m) (f_X4_has_j52 t m) := by
      unfold f_X4_has_j52
      refine r_iconst 30 53 (v := 0) rfl rfl (by decide) ?_
      exact r_zret 31 rfl rfl (by decide) rfl
    refine r_lp (Lf := fun x : Int32 => [(0, .inr (.inr a0)), (1, .inr (.inr a1)), (2, .inl x)]) (Mf := fun x : Int32 => (t, m)) a2 ?_ FUEL
    rintro a2 κ2 hc2 he2
    refine r_eq (L' := [(0, .inr (.inr a0)), (1, .inr (.inr a1)), (2, .inl a2)]) (M' := (t, m)) rfl rfl ?_
    refine r_eqr (r' := f_X4_has_l2 t m a0 a1 a2) rfl ?_
    unfold f_X4_has_l2
    refine r_iload_n 2 3 2 rfl rfl rfl rfl ?_
    refine r_aload_n 3 4 0 rfl rfl rfl rfl ?_
    refine r_getI 4 7 rfl rfl fl_RX4_21 rfl h0 ?_
    refine r_icmp_ge 5 52 10 rfl rfl rfl (fun h1 => ?_) (fun h1 => ?_)
    · refine r_leaf (r2 := (f_X4_has_j52 t m : Option (Int32))) (he2 _) ?_
      exact r_sub [] rfl (hj52)
    · refine r_aload_n 6 11 0 rfl rfl rfl rfl ?_
      refine r_getR 7 14 rfl rfl fl_RX4_15 rfl h0 ?_
      refine r_iload_n 8 15 2 rfl rfl rfl rfl ?_
      refine r_bipush 9 17 (v := 8) rfl rfl (by decide) ?_
      refine r_imul 10 18 rfl rfl ?_
      refine r_aload_n 11 19 1 rfl rfl rfl rfl ?_
      refine r_iconst 12 20 (v := 0) rfl rfl (by decide) ?_
      refine r_SIo 13 23 (a := 0) (cn := 0) (st := []) (av := [.inr (.inr (gr m a0 0)), .inl (a2 * 8), .inr (.inr a1), .inl 0]) (μ' := u_X10_compare) (d := 2) rfl rfl mc_X10_compare st_X10_compare lk_RX4_43 (Nat.le_of_ble_eq_true rfl) rfl (Nat.le_of_ble_eq_true rfl) (fun _ h => ct_X10_compare h) (fun x2 => ?_)
      refine r_if_gt 14 46 26 rfl rfl rfl (fun h3 => ?_) (fun h3 => ?_)
      · refine r_iinc 28 49 2 (L' := [(2, .inl (a2 + 2)), (0, .inr (.inr a0)), (1, .inr (.inr a1))]) rfl rfl rfl (by decide) rfl ?_
        refine r_ltV (fun x4 => ?_)
        refine r_goto 29 2 rfl rfl ?_
        exact r_sub [1, 2, 0] rfl (hc2 x4)
      · refine r_aload_n 15 27 1 rfl rfl rfl rfl ?_
        refine r_iconst 16 28 (v := 0) rfl rfl (by decide) ?_
        refine r_aload_n 17 29 0 rfl rfl rfl rfl ?_
        refine r_getR 18 32 rfl rfl fl_RX4_15 rfl h0 ?_
        refine r_iload_n 19 33 2 rfl rfl rfl rfl ?_
        refine r_iconst 20 34 (v := 1) rfl rfl (by decide) ?_
        refine r_iadd 21 35 rfl rfl ?_
        refine r_bipush 22 37 (v := 8) rfl rfl (by decide) ?_
        refine r_imul 23 38 rfl rfl ?_
        refine r_SIo 24 41 (a := 0) (cn := 0) (st := []) (av := [.inr (.inr a1), .inl 0, .inr (.inr (gr m a0 0)), .inl ((a2 + 1) * 8)]) (μ' := u_X10_compare) (d := 2) rfl rfl mc_X10_compare st_X10_compare lk_RX4_43 (Nat.le_of_ble_eq_true rfl) rfl (Nat.le_of_ble_eq_true rfl) (fun _ h => ct_X10_compare h) (fun x5 => ?_)
        refine r_if_ge 25 46 44 rfl rfl rfl (fun h6 => ?_) (fun h6 => ?_)
        · refine r_iinc 28 49 2 (L' := [(2, .inl (a2 + 2)), (0, .inr (.inr a0)), (1, .inr (.inr a1))]) rfl rfl rfl (by decide) rfl ?_
          refine r_ltV (fun x7 => ?_)
          refine r_goto 29 2 rfl rfl ?_
          exact r_sub [1, 2, 0] rfl (hc2 x7)
        · refine r_leaf (r2 := (f_X4_has_j44 t m : Option (Int32))) (he2 _) ?_
          exact r_sub [] rfl (hj44)
  exact r_sub [1, 2, 0] rfl (hj2 0)
theorem ct_X4_has {t : List Sh} {m : Mi} {a0 : Nat} {a1 : Nat} {v : Int32}  (h0 : sh t a0 = some (.inl 4)) (h : f_X4_has t m a0 a1 = some v) : Ct u_X4_has 3 0 0 [.inr (.inr a0), .inr (.inr a1)] (t, m) (some (.inl v), (t, m)) :=
  ct_of (by decide) tk_X4_has (Nat.le_of_ble_eq_true rfl) (sm_X4_has t m a0 a1 h0) (by rw [h]; rfl) (Nat.le_refl _) (Nat.le_refl _)
theorem lk_RX4_47 : Cond.methodLink RX4 47 yX10_isLeast ∈ TB := tbm 1019 (by decide +kernel) rfl
theorem lk_RX4_51 : Cond.methodLink RX4 51 yX10_isEndless ∈ TB := tbm 1022 (by decide +kernel) rfl
def tb_X4_isAll : Tb := [(0, (.aload_n 0, 1)), (1, (.getfield 21, 3)), (4, (.iconst 2, 1)), (5, (.if_icmp .ne 30, 3)), (8, (.aload_n 0, 1)), (9, (.getfield 15, 3)), (12, (.iconst 0, 1)), (13, (.invokestatic 47, 3)), (16, (.ifCond .eq 19, 3)), (19, (.aload_n 0, 1)), (20, (.getfield 15, 3)), (23, (.bipush 8, 2)), (25, (.invokestatic 51, 3)), (28, (.ifCond .eq 7, 3)), (31, (.iconst 1, 1)), (32, (.goto 4, 3)), (35, (.iconst 0, 1)), (36, (.ireturn, 1))]
def u_X4_isAll : Fx := (yX4_isAll, (cX4_isAll, (1, ((some .boolean), tb_X4_isAll))))
theorem tk_X4_isAll : ∀ q ∈ u_X4_isAll.2.2.2.2, decode u_X4_isAll.2.1 q.1 = .ok q.2 := by decide +kernel
theorem mc_X4_isAll : MC u_X4_isAll 0 := ⟨tbm 1018 (by decide +kernel) rfl, tbm 115 (by decide +kernel) rfl, ⟨by decide, by decide, by decide +kernel⟩, by decide⟩
theorem in_X4_isAll : Cond.instanceMethod u_X4_isAll.1 ∈ TB ∧ Cond.selects u_X4_isAll.1.cls u_X4_isAll.1 u_X4_isAll.1 ∈ TB := ⟨tbm 1016 (by decide +kernel) rfl, tbm 1017 (by decide +kernel) rfl⟩
def f_X4_isAll (t : List Sh) (m : Mi) (a0 : Nat) : Option (Int32) :=
  if (gi m a0 1) = 2 then
    (f_X10_isLeast t m (gr m a0 0) 0).bind fun x2 =>
    if x2 = 0 then
      some 0
    else
      (f_X10_isEndless t m (gr m a0 0) 8).bind fun x4 =>
      if x4 = 0 then
        some 0
      else
        some 1
  else
    some 0
set_option maxRecDepth 4000 in
set_option maxHeartbeats 4000000 in
theorem sm_X4_isAll (t : List Sh) (m : Mi) (a0 : Nat) (h0 : sh t a0 = some (.inl 4)) : Sm u_X4_isAll (3, 0, 0, t.length, zs t) (kIo t m) 0 [(0, .inr (.inr a0))] [] (t, m) (f_X4_isAll t m a0) := by
  unfold f_X4_isAll
  refine r_aload_n 0 1 0 rfl rfl rfl rfl ?_
  refine r_getI 1 4 rfl rfl fl_RX4_21 rfl h0 ?_
  refine r_iconst 2 5 (v := 2) rfl rfl (by decide) ?_
  refine r_icmp_ne 3 35 8 rfl rfl rfl (fun h1 => ?_) (fun h1 => ?_)
  · refine r_aload_n 4 9 0 rfl rfl rfl rfl ?_
    refine r_getR 5 12 rfl rfl fl_RX4_15 rfl h0 ?_
    refine r_iconst 6 13 (v := 0) rfl rfl (by decide) ?_
    refine r_SIo 7 16 (a := 0) (cn := 0) (st := []) (av := [.inr (.inr (gr m a0 0)), .inl 0]) (μ' := u_X10_isLeast) (d := 2) rfl rfl mc_X10_isLeast st_X10_isLeast lk_RX4_47 (Nat.le_of_ble_eq_true rfl) rfl (Nat.le_of_ble_eq_true rfl) (fun _ h => ct_X10_isLeast h) (fun x2 => ?_)
    refine r_if_eq 8 35 19 rfl rfl rfl (fun h3 => ?_) (fun h3 => ?_)
    · refine r_iconst 16 36 (v := 0) rfl rfl (by decide) ?_
      exact r_zret 17 rfl rfl (by decide) rfl
    · refine r_aload_n 9 20 0 rfl rfl rfl rfl ?_
      refine r_getR 10 23 rfl rfl fl_RX4_15 rfl h0 ?_
      refine r_bipush 11 25 (v := 8) rfl rfl (by decide) ?_
      refine r_SIo 12 28 (a := 0) (cn := 0) (st := []) (av := [.inr (.inr (gr m a0 0)), .inl 8]) (μ' := u_X10_isEndless) (d := 2) rfl rfl mc_X10_isEndless st_X10_isEndless lk_RX4_51 (Nat.le_of_ble_eq_true rfl) rfl (Nat.le_of_ble_eq_true rfl) (fun _ h => ct_X10_isEndless h) (fun x4 => ?_)
      refine r_if_eq 13 35 31 rfl rfl rfl (fun h5 => ?_) (fun h5 => ?_)
      · refine r_iconst 16 36 (v := 0) rfl rfl (by decide) ?_
        exact r_zret 17 rfl rfl (by decide) rfl
      · refine r_iconst 14 32 (v := 1) rfl rfl (by decide) ?_
        refine r_goto 15 36 rfl rfl ?_
        exact r_zret 17 rfl rfl (by decide) rfl
  · refine r_iconst 16 36 (v := 0) rfl rfl (by decide) ?_
    exact r_zret 17 rfl rfl (by decide) rfl
theorem ct_X4_isAll {t : List Sh} {m : Mi} {a0 : Nat} {v : Int32}  (h0 : sh t a0 = some (.inl 4)) (h : f_X4_isAll t m a0 = some v) : Ct u_X4_isAll 3 0 0 [.inr (.inr a0)] (t, m) (some (.inl v), (t, m)) :=
  ct_of (by decide) tk_X4_isAll (Nat.le_of_ble_eq_true rfl) (sm_X4_isAll t m a0 h0) (by rw [h]; rfl) (Nat.le_refl _) (Nat.le_refl _)
theorem lk_RX4_25 : Cond.methodLink RX4 25 yX10_setLeast ∈ TB := tbm 166 (by decide +kernel) rfl
theorem kc_RX4_29 : Cond.constantLong RX4 29 (9223372036854775807) ∈ TB := tbm 175 (by decide +kernel) rfl
def tb_X4_setAll : Tb := [(0, (.aload_n 0, 1)), (1, (.getfield 15, 3)), (4, (.invokestatic 25, 3)), (7, (.aload_n 0, 1)), (8, (.getfield 15, 3)), (11, (.bipush 8, 2)), (13, (.ldc2_w 29, 3)), (16, (.lastore, 1)), (17, (.aload_n 0, 1)), (18, (.iconst 2, 1)), (19, (.putfield 21, 3)), (22, (.return_, 1))]
def u_X4_setAll : Fx := (yX4_setAll, (cX4_setAll, (1, (none, tb_X4_setAll))))
theorem tk_X4_setAll : ∀ q ∈ u_X4_setAll.2.2.2.2, decode u_X4_setAll.2.1 q.1 = .ok q.2 := by decide +kernel
theorem mc_X4_setAll : MC u_X4_setAll 0 := ⟨tbm 165 (by decide +kernel) rfl, tbm 115 (by decide +kernel) rfl, ⟨by decide, by decide, by decide +kernel⟩, by decide⟩
theorem in_X4_setAll : Cond.instanceMethod u_X4_setAll.1 ∈ TB ∧ Cond.selects u_X4_setAll.1.cls u_X4_setAll.1 u_X4_setAll.1 ∈ TB := ⟨tbm 163 (by decide +kernel) rfl, tbm 164 (by decide +kernel) rfl⟩
def f_X4_setAll (t : List Sh) (m : Mi) (a0 : Nat) : Option (Mi) :=
  (f_X10_setLeast t m (gr m a0 0)).bind fun m1 =>
  (if ar t (gr m1 a0 0) .long 8 = true then
  lt (sl m1 (gr m1 a0 0) (ix 8) 9223372036854775807) fun m3 =>
  lt (si m3 a0 1 2) fun m4 =>
  some m4
  else none)
set_option maxRecDepth 4000 in
set_option maxHeartbeats 4000000 in
theorem sm_X4_setAll (t : List Sh) (m : Mi) (a0 : Nat) (h0 : sh t a0 = some (.inl 4)) : Sm u_X4_setAll (3, 0, 0, t.length, zs t) (kV t) 0 [(0, .inr (.inr a0))] [] (t, m) (f_X4_setAll t m a0) := by
  unfold f_X4_setAll
  refine r_aload_n 0 1 0 rfl rfl rfl rfl ?_
  refine r_getR 1 4 rfl rfl fl_RX4_15 rfl h0 ?_
  refine r_SV 2 7 (a := 0) (cn := 0) (st := []) (av := [.inr (.inr (gr m a0 0))]) (μ' := u_X10_setLeast) (d := 2) rfl rfl mc_X10_setLeast st_X10_setLeast lk_RX4_25 (Nat.le_of_ble_eq_true rfl) rfl (Nat.le_of_ble_eq_true rfl) (fun _ h => ct_X10_setLeast h) (fun m1 => ?_)
  refine r_aload_n 3 8 0 rfl rfl rfl rfl ?_
  refine r_getR 4 11 rfl rfl fl_RX4_15 rfl h0 ?_
  refine r_bipush 5 13 (v := 8) rfl rfl (by decide) ?_
  refine r_ldc2 6 16 rfl rfl kc_RX4_29 ?_
  refine r_gd (fun h2 => ?_)
  refine r_last 7 17 rfl rfl h2 ?_
  refine r_ltM (fun m3 => ?_)
  refine r_aload_n 8 18 0 rfl rfl rfl rfl ?_
  refine r_iconst 9 19 (v := 2) rfl rfl (by decide) ?_
  refine r_putI 10 22 rfl rfl fl_RX4_21 (fun h => by cases h) (Or.inl rfl) h0 ?_
  refine r_ltM (fun m4 => ?_)
  exact r_vret 11 rfl rfl rfl
theorem ct_X4_setAll {t : List Sh} {m : Mi} {a0 : Nat} {m' : Mi}  (h0 : sh t a0 = some (.inl 4)) (h : f_X4_setAll t m a0 = some m') : Ct u_X4_setAll 3 0 0 [.inr (.inr a0)] (t, m) (none, (t, m')) :=
  ct_of (by decide) tk_X4_setAll (Nat.le_of_ble_eq_true rfl) (sm_X4_setAll t m a0 h0) (by rw [h]; rfl) (Nat.le_refl _) (Nat.le_refl _)
def tb_X4_sideOfLower : Tb := [(0, (.iload_n 1, 1)), (1, (.aload_n 0, 1)), (2, (.getfield 21, 3)), (5, (.if_icmp .lt 5, 3)), (8, (.iconst 1, 1)), (9, (.ireturn, 1)), (10, (.iload_n 3, 1)), (11, (.aload_n 2, 1)), (12, (.getfield 21, 3)), (15, (.if_icmp .lt 5, 3)), (18, (.iconst (-1), 1)), (19, (.ireturn, 1)), (20, (.aload_n 0, 1)), (21, (.getfield 15, 3)), (24, (.iload_n 1, 1)), (25, (.bipush 8, 2)), (27, (.imul, 1)), (28, (.aload_n 2, 1)), (29, (.getfield 15, 3)), (32, (.iload_n 3, 1)), (33, (.bipush 8, 2)), (35, (.imul, 1)), (36, (.invokestatic 43, 3)), (39, (.ireturn, 1))]
def u_X4_sideOfLower : Fx := (yX4_sideOfLower, (cX4_sideOfLower, (4, ((some .int), tb_X4_sideOfLower))))
theorem tk_X4_sideOfLower : ∀ q ∈ u_X4_sideOfLower.2.2.2.2, decode u_X4_sideOfLower.2.1 q.1 = .ok q.2 := by decide +kernel
theorem mc_X4_sideOfLower : MC u_X4_sideOfLower 4 := ⟨tbm 887 (by decide +kernel) rfl, tbm 115 (by decide +kernel) rfl, ⟨by decide, by decide, by decide +kernel⟩, by decide⟩
theorem st_X4_sideOfLower : Cond.static u_X4_sideOfLower.1 ∈ TB := tbm 886 (by decide +kernel) rfl
def f_X4_sideOfLower (t : List Sh) (m : Mi) (a0 : Nat) (a1 : Int32) (a2 : Nat) (a3 : Int32) : Option (Int32) :=
  (if ob t a0 4 = true then
  if a1 < (gi m a0 1) then
    (if ob t a2 4 = true then
    if a3 < (gi m a2 1) then
      (f_X10_compare t m (gr m a0 0) (a1 * 8) (gr m a2 0) (a3 * 8)).bind fun x5 =>
      some x5
    else
      some (-1)
    else none)
  else
    some 1
  else none)
set_option maxRecDepth 4000 in
set_option maxHeartbeats 4000000 in
theorem sm_X4_sideOfLower (t : List Sh) (m : Mi) (a0 : Nat) (a1 : Int32) (a2 : Nat) (a3 : Int32) : Sm u_X4_sideOfLower (3, 0, 0, t.length, zs t) (kIo t m) 0 [(0, .inr (.inr a0)), (1, .inl a1), (2, .inr (.inr a2)), (3, .inl a3)] [] (t, m) (f_X4_sideOfLower t m a0 a1 a2 a3) := by
  unfold f_X4_sideOfLower
  refine r_iload_n 0 1 1 rfl rfl rfl rfl ?_
  refine r_aload_n 1 2 0 rfl rfl rfl rfl ?_
  refine r_gd (fun h1 => ?_)
  refine r_getI 2 5 rfl rfl fl_RX4_21 rfl (ob_sh h1) ?_
  refine r_icmp_lt 3 10 8 rfl rfl rfl (fun h2 => ?_) (fun h2 => ?_)
  · refine r_iload_n 6 11 3 rfl rfl rfl rfl ?_
    refine r_aload_n 7 12 2 rfl rfl rfl rfl ?_
    refine r_gd (fun h3 => ?_)
    refine r_getI 8 15 rfl rfl fl_RX4_21 rfl (ob_sh h3) ?_
    refine r_icmp_lt 9 20 18 rfl rfl rfl (fun h4 => ?_) (fun h4 => ?_)
    · refine r_aload_n 12 21 0 rfl rfl rfl rfl ?_
      refine r_getR 13 24 rfl rfl fl_RX4_15 rfl (ob_sh h1) ?_
      refine r_iload_n 14 25 1 rfl rfl rfl rfl ?_
      refine r_bipush 15 27 (v := 8) rfl rfl (by decide) ?_
      refine r_imul 16 28 rfl rfl ?_
      refine r_aload_n 17 29 2 rfl rfl rfl rfl ?_
      refine r_getR 18 32 rfl rfl fl_RX4_15 rfl (ob_sh h3) ?_
      refine r_iload_n 19 33 3 rfl rfl rfl rfl ?_
      refine r_bipush 20 35 (v := 8) rfl rfl (by decide) ?_
      refine r_imul 21 36 rfl rfl ?_
      refine r_SIo 22 39 (a := 0) (cn := 0) (st := []) (av := [.inr (.inr (gr m a0 0)), .inl (a1 * 8), .inr (.inr (gr m a2 0)), .inl (a3 * 8)]) (μ' := u_X10_compare) (d := 2) rfl rfl mc_X10_compare st_X10_compare lk_RX4_43 (Nat.le_of_ble_eq_true rfl) rfl (Nat.le_of_ble_eq_true rfl) (fun _ h => ct_X10_compare h) (fun x5 => ?_)
      exact r_iret 23 rfl rfl rfl
    · refine r_iconst 10 19 (v := (-1)) rfl rfl (by decide) ?_
      exact r_iret 11 rfl rfl rfl
  · refine r_iconst 4 9 (v := 1) rfl rfl (by decide) ?_
    exact r_iret 5 rfl rfl rfl
theorem ct_X4_sideOfLower {t : List Sh} {m : Mi} {a0 : Nat} {a1 : Int32} {a2 : Nat} {a3 : Int32} {v : Int32}  (h : f_X4_sideOfLower t m a0 a1 a2 a3 = some v) : Ct u_X4_sideOfLower 3 0 0 [.inr (.inr a0), .inl a1, .inr (.inr a2), .inl a3] (t, m) (some (.inl v), (t, m)) :=
  ct_of (by decide) tk_X4_sideOfLower (Nat.le_of_ble_eq_true rfl) (sm_X4_sideOfLower t m a0 a1 a2 a3) (by rw [h]; rfl) (Nat.le_refl _) (Nat.le_refl _)
theorem lk_RX4_35 : Cond.methodLink RX4 35 yX4_sideOfLower ∈ TB := tbm 885 (by decide +kernel) rfl
theorem lk_RX4_39 : Cond.methodLink RX4 39 yX4_isKept ∈ TB := tbm 889 (by decide +kernel) rfl
theorem lk_RX4_31 : Cond.methodLink RX4 31 yX4_addBound ∈ TB := tbm 875 (by decide +kernel) rfl
def tb_X4_setJoin : Tb := [(0, (.aload_n 0, 1)), (1, (.iconst 0, 1)), (2, (.putfield 21, 3)), (5, (.iconst 0, 1)), (6, (.istore 4, 2)), (8, (.iconst 0, 1)), (9, (.istore 5, 2)), (11, (.aload_n 2, 1)), (12, (.getfield 21, 3)), (15, (.aload_n 3, 1)), (16, (.getfield 21, 3)), (19, (.iadd, 1)), (20, (.istore 6, 2)), (22, (.iconst 0, 1)), (23, (.istore 7, 2)), (25, (.iload 7, 2)), (27, (.iload 6, 2)), (29, (.if_icmp .ge 155, 3)), (32, (.iload 4, 2)), (34, (.iload 5, 2)), (36, (.iadd, 1)), (37, (.iload 6, 2)), (39, (.if_icmp .ge 145, 3)), (42, (.aload_n 2, 1)), (43, (.iload 4, 2)), (45, (.aload_n 3, 1)), (46, (.iload 5, 2)), (48, (.invokestatic 35, 3)), (51, (.istore 8, 2)), (53, (.iload 8, 2)), (55, (.ifCond .gt 10, 3)), (58, (.aload_n 2, 1)), (59, (.getfield 15, 3)), (62, (.goto 7, 3)), (65, (.aload_n 3, 1)), (66, (.getfield 15, 3)), (69, (.astore 9, 2)), (71, (.iload 8, 2)), (73, (.ifCond .gt 8, 3)), (76, (.iload 4, 2)), (78, (.goto 5, 3)), (81, (.iload 5, 2)), (83, (.bipush 8, 2)), (85, (.imul, 1)), (86, (.istore 10, 2)), (88, (.iload 4, 2)), (90, (.iload 8, 2)), (92, (.ifCond .gt 7, 3)), (95, (.iconst 1, 1)), (96, (.goto 4, 3)), (99, (.iconst 0, 1)), (100, (.iadd, 1)), (101, (.istore 4, 2)), (103, (.iload 5, 2)), (105, (.iload 8, 2)), (107, (.ifCond .lt 7, 3)), (110, (.iconst 1, 1)), (111, (.goto 4, 3)), (114, (.iconst 0, 1)), (115, (.iadd, 1)), (116, (.istore 5, 2)), (118, (.aload_n 0, 1)), (119, (.getfield 21, 3)), (122, (.iconst 2, 1)), (123, (.irem, 1)), (124, (.iconst 1, 1)), (125, (.if_icmp .ne 7, 3)), (128, (.iconst 1, 1)), (129, (.goto 4, 3)), (132, (.iconst 0, 1)), (133, (.istore 11, 2)), (135, (.iload_n 1, 1)), (136, (.iload 4, 2)), (138, (.iconst 2, 1)), (139, (.irem, 1)), (140, (.iconst 1, 1)), (141, (.if_icmp .ne 7, 3)), (144, (.iconst 1, 1)), (145, (.goto 4, 3)), (148, (.iconst 0, 1)), (149, (.iload 5, 2)), (151, (.iconst 2, 1)), (152, (.irem, 1)), (153, (.iconst 1, 1)), (154, (.if_icmp .ne 7, 3)), (157, (.iconst 1, 1)), (158, (.goto 4, 3)), (161, (.iconst 0, 1)), (162, (.invokestatic 39, 3)), (165, (.iload 11, 2)), (167, (.if_icmp .eq 11, 3)), (170, (.aload_n 0, 1)), (171, (.aload 9, 2)), (173, (.iload 10, 2)), (175, (.invokevirtual 31, 3)), (178, (.iinc 7 1, 3)), (181, (.goto (-156), 3)), (184, (.return_, 1))]
def u_X4_setJoin : Fx := (yX4_setJoin, (cX4_setJoin, (12, (none, tb_X4_setJoin))))
theorem tk_X4_setJoin : ∀ q ∈ u_X4_setJoin.2.2.2.2, decode u_X4_setJoin.2.1 q.1 = .ok q.2 := by decide +kernel
theorem mc_X4_setJoin : MC u_X4_setJoin 3 := ⟨tbm 884 (by decide +kernel) rfl, tbm 115 (by decide +kernel) rfl, ⟨by decide, by decide, by decide +kernel⟩, by decide⟩
theorem in_X4_setJoin : Cond.instanceMethod u_X4_setJoin.1 ∈ TB ∧ Cond.selects u_X4_setJoin.1.cls u_X4_setJoin.1 u_X4_setJoin.1 ∈ TB := ⟨tbm 882 (by decide +kernel) rfl, tbm 883 (by decide +kernel) rfl⟩
def f_X4_setJoin_j184 (t : List Sh) (m : Mi) : Option (Mi) :=
  some m
def f_X4_setJoin_j162 (t : List Sh) (m : Mi) (a0 : Nat) (a1 : Int32) (a2 : Nat) (a3 : Nat) (a4 : Int32) (a5 : Int32) (a6 : Int32) (a7 : Int32) (a9 : Nat) (a10 : Int32) (a11 : Int32) (s0 : Int32) (s1 : Int32) (s2 : Int32) : Option ((Int32 × Int32 × Int32 × Mi) ⊕ ((Mi))) :=
  (f_X4_isKept s2 s1 s0).bind fun x11 =>
  if x11 = a11 then
    lt (a7 + 1) fun x13 =>
    some (.inl (a4, a5, x13, m))
  else
    (f_X4_addBound t m a0 a9 a10).bind fun m14 =>
    lt (a7 + 1) fun x15 =>
    some (.inl (a4, a5, x15, m14))
def f_X4_setJoin_j149 (t : List Sh) (m : Mi) (a0 : Nat) (a1 : Int32) (a2 : Nat) (a3 : Nat) (a4 : Int32) (a5 : Int32) (a6 : Int32) (a7 : Int32) (a9 : Nat) (a10 : Int32) (a11 : Int32) (s0 : Int32) (s1 : Int32) : Option ((Int32 × Int32 × Int32 × Mi) ⊕ ((Mi))) :=
  if (a5 - a5 / 2 * 2) = 1 then
    f_X4_setJoin_j162 t m a0 a1 a2 a3 a4 a5 a6 a7 a9 a10 a11 1 s0 s1
  else
    f_X4_setJoin_j162 t m a0 a1 a2 a3 a4 a5 a6 a7 a9 a10 a11 0 s0 s1
def f_X4_setJoin_j133 (t : List Sh) (m : Mi) (a0 : Nat) (a1 : Int32) (a2 : Nat) (a3 : Nat) (a4 : Int32) (a5 : Int32) (a6 : Int32) (a7 : Int32) (a9 : Nat) (a10 : Int32) (s0 : Int32) : Option ((Int32 × Int32 × Int32 × Mi) ⊕ ((Mi))) :=
  if (a4 - a4 / 2 * 2) = 1 then
    f_X4_setJoin_j149 t m a0 a1 a2 a3 a4 a5 a6 a7 a9 a10 s0 1 a1
  else
    f_X4_setJoin_j149 t m a0 a1 a2 a3 a4 a5 a6 a7 a9 a10 s0 0 a1
def f_X4_setJoin_j115 (t : List Sh) (m : Mi) (a0 : Nat) (a1 : Int32) (a2 : Nat) (a3 : Nat) (a4 : Int32) (a6 : Int32) (a7 : Int32) (a9 : Nat) (a10 : Int32) (s0 : Int32) (s1 : Int32) : Option ((Int32 × Int32 × Int32 × Mi) ⊕ ((Mi))) :=
  lt (s1 + s0) fun x10 =>
  if ((gi m a0 1) - (gi m a0 1) / 2 * 2) = 1 then
    f_X4_setJoin_j133 t m a0 a1 a2 a3 a4 x10 a6 a7 a9 a10 1
  else
    f_X4_setJoin_j133 t m a0 a1 a2 a3 a4 x10 a6 a7 a9 a10 0
def f_X4_setJoin_j100 (t : List Sh) (m : Mi) (a0 : Nat) (a1 : Int32) (a2 : Nat) (a3 : Nat) (a5 : Int32) (a6 : Int32) (a7 : Int32) (a8 : Int32) (a9 : Nat) (a10 : Int32) (s0 : Int32) (s1 : Int32) : Option ((Int32 × Int32 × Int32 × Mi) ⊕ ((Mi))) :=
  lt (s1 + s0) fun x9 =>
  if a8 < 0 then
    f_X4_setJoin_j115 t m a0 a1 a2 a3 x9 a6 a7 a9 a10 0 a5
  else
    f_X4_setJoin_j115 t m a0 a1 a2 a3 x9 a6 a7 a9 a10 1 a5
def f_X4_setJoin_j83 (t : List Sh) (m : Mi) (a0 : Nat) (a1 : Int32) (a2 : Nat) (a3 : Nat) (a4 : Int32) (a5 : Int32) (a6 : Int32) (a7 : Int32) (a8 : Int32) (a9 : Nat) (s0 : Int32) : Option ((Int32 × Int32 × Int32 × Mi) ⊕ ((Mi))) :=
  lt (s0 * 8) fun x8 =>
  if 0 < a8 then
    f_X4_setJoin_j100 t m a0 a1 a2 a3 a5 a6 a7 a8 a9 x8 0 a4
  else
    f_X4_setJoin_j100 t m a0 a1 a2 a3 a5 a6 a7 a8 a9 x8 1 a4
def f_X4_setJoin_j69 (t : List Sh) (m : Mi) (a0 : Nat) (a1 : Int32) (a2 : Nat) (a3 : Nat) (a4 : Int32) (a5 : Int32) (a6 : Int32) (a7 : Int32) (a8 : Int32) (s0 : Nat) : Option ((Int32 × Int32 × Int32 × Mi) ⊕ ((Mi))) :=
  if 0 < a8 then
    f_X4_setJoin_j83 t m a0 a1 a2 a3 a4 a5 a6 a7 a8 s0 a5
  else
    f_X4_setJoin_j83 t m a0 a1 a2 a3 a4 a5 a6 a7 a8 s0 a4
def f_X4_setJoin_l25 (t : List Sh) (m : Mi) (a0 : Nat) (a1 : Int32) (a2 : Nat) (a3 : Nat) (a4 : Int32) (a5 : Int32) (a6 : Int32) (a7 : Int32) : Option ((Int32 × Int32 × Int32 × Mi) ⊕ ((Mi))) :=
  if a6 ≤ a7 then
    some (.inr m)
  else
    if a6 ≤ (a4 + a5) then
      some (.inr m)
    else
      (f_X4_sideOfLower t m a2 a4 a3 a5).bind fun x7 =>
      if 0 < x7 then
        f_X4_setJoin_j69 t m a0 a1 a2 a3 a4 a5 a6 a7 x7 (gr m a3 0)
      else
        f_X4_setJoin_j69 t m a0 a1 a2 a3 a4 a5 a6 a7 x7 (gr m a2 0)
def f_X4_setJoin_j25 (t : List Sh) (m : Mi) (a0 : Nat) (a1 : Int32) (a2 : Nat) (a3 : Nat) (a4 : Int32) (a5 : Int32) (a6 : Int32) (a7 : Int32) : Option (Mi) :=
  (lp (fun x : Int32 × Int32 × Int32 × Mi => f_X4_setJoin_l25 t x.2.2.2 a0 a1 a2 a3 x.1 x.2.1 a6 x.2.2.1) FUEL (a4, a5, a7, m)).bind (fun y : Mi => f_X4_setJoin_j184 t y)
def f_X4_setJoin (t : List Sh) (m : Mi) (a0 : Nat) (a1 : Int32) (a2 : Nat) (a3 : Nat) : Option (Mi) :=
  lt (si m a0 1 0) fun m1 =>
  (if ob t a2 4 = true then
  (if ob t a3 4 = true then
  lt ((gi m1 a2 1) + (gi m1 a3 1)) fun x4 =>
  f_X4_setJoin_j25 t m1 a0 a1 a2 a3 0 0 x4 0
  else none)
  else none)
set_option maxRecDepth 4000 in
set_option maxHeartbeats 4000000 in
theorem sm_X4_setJoin (t : List Sh) (m : Mi) (a0 : Nat) (a1 : Int32) (a2 : Nat) (a3 : Nat) (h0 : sh t a0 = some (.inl 4)) : Sm u_X4_setJoin (4, 0, 0, t.length, zs t) (kV t) 0 [(0, .inr (.inr a0)), (1, .inl a1), (2, .inr (.inr a2)), (3, .inr (.inr a3))] [] (t, m) (f_X4_setJoin t m a0 a1 a2 a3) := by
  unfold f_X4_setJoin
  refine r_aload_n 0 1 0 rfl rfl rfl rfl ?_
  refine r_iconst 1 2 (v := 0) rfl rfl (by decide) ?_
  refine r_putI 2 5 rfl rfl fl_RX4_21 (fun h => by cases h) (Or.inl rfl) h0 ?_
  refine r_ltM (fun m1 => ?_)
  refine r_iconst 3 6 (v := 0) rfl rfl (by decide) ?_
  refine r_istore 4 8 (L' := [(4, .inl 0), (0, .inr (.inr a0)), (1, .inl a1), (2, .inr (.inr a2)), (3, .inr (.inr a3))]) rfl rfl (by decide) rfl ?_
  refine r_iconst 5 9 (v := 0) rfl rfl (by decide) ?_
  refine r_istore 6 11 (L' := [(5, .inl 0), (4, .inl 0), (0, .inr (.inr a0)), (1, .inl a1), (2, .inr (.inr a2)), (3, .inr (.inr a3))]) rfl rfl (by decide) rfl ?_
  refine r_aload_n 7 12 4 rfl rfl rfl rfl ?_
  refine r_gd (fun h2 => ?_)
  refine r_getI 8 15 rfl rfl fl_RX4_21 rfl (ob_sh h2) ?_
  refine r_aload_n 9 16 5 rfl rfl rfl rfl ?_
  refine r_gd (fun h3 => ?_)
  refine r_getI 10 19 rfl rfl fl_RX4_21 rfl (ob_sh h3) ?_
  refine r_iadd 11 20 rfl rfl ?_
  refine r_ltI (fun x4 => ?_)
  refine r_istore 12 22 (L' := [(6, .inl x4), (5, .inl 0), (4, .inl 0), (0, .inr (.inr a0)), (1, .inl a1), (2, .inr (.inr a2)), (3, .inr (.inr a3))]) rfl rfl (by decide) rfl ?_
  refine r_iconst 13 23 (v := 0) rfl rfl (by decide) ?_
  refine r_istore 14 25 (L' := [(7, .inl 0), (6, .inl x4), (5, .inl 0), (4, .inl 0), (0, .inr (.inr a0)), (1, .inl a1), (2, .inr (.inr a2)), (3, .inr (.inr a3))]) rfl rfl (by decide) rfl ?_
  have hj25 : ∀ (m : Mi) (a4 : Int32) (a5 : Int32) (a6 : Int32) (a7 : Int32), Sm u_X4_setJoin (4, 0, 0, t.length, zs t) (kV t) 25 [(0, .inr (.inr a0)), (1, .inl a1), (2, .inr (.inr a2)), (3, .inr (.inr a3)), (4, .inl a4), (5, .inl a5), (6, .inl a6), (7, .inl a7)] [] (t, m) (f_X4_setJoin_j25 t m a0 a1 a2 a3 a4 a5 a6 a7) := by
    intro m a4 a5 a6 a7
    unfold f_X4_setJoin_j25
    have hj184 : ∀ (m : Mi), Sm u_X4_setJoin (4, 0, 0, t.length, zs t) (kV t) 184 [] [] (t, m) (f_X4_setJoin_j184 t m) := by
      intro m
      unfold f_X4_setJoin_j184
      exact r_vret 97 rfl rfl rfl
    refine r_lp (Lf := fun x : Int32 × Int32 × Int32 × Mi => [(0, .inr (.inr a0)), (1, .inl a1), (2, .inr (.inr a2)), (3, .inr (.inr a3)), (4, .inl (x.1)), (5, .inl (x.2.1)), (6, .inl a6), (7, .inl (x.2.2.1))]) (Mf := fun x : Int32 × Int32 × Int32 × Mi => (t, x.2.2.2)) (a4, a5, a7, m) ?_ FUEL
    rintro ⟨a4, a5, a7, m⟩ κ25 hc25 he25
    refine r_eq (L' := [(0, .inr (.inr a0)), (1, .inl a1), (2, .inr (.inr a2)), (3, .inr (.inr a3)), (4, .inl a4), (5, .inl a5), (6, .inl a6), (7, .inl a7)]) (M' := (t, m)) rfl rfl ?_
    refine r_eqr (r' := f_X4_setJoin_l25 t m a0 a1 a2 a3 a4 a5 a6 a7) rfl ?_
    unfold f_X4_setJoin_l25
    refine r_iload 15 27 7 rfl rfl rfl ?_
    refine r_iload 16 29 6 rfl rfl rfl ?_
    refine r_icmp_ge 17 184 32 rfl rfl rfl (fun h5 => ?_) (fun h5 => ?_)
    · refine r_leaf (r2 := (f_X4_setJoin_j184 t m : Option (Mi))) (he25 _) ?_
      exact r_sub [] rfl (hj184 m)
    · refine r_iload 18 34 4 rfl rfl rfl ?_
      refine r_iload 19 36 5 rfl rfl rfl ?_
      refine r_iadd 20 37 rfl rfl ?_
      refine r_iload 21 39 6 rfl rfl rfl ?_
      refine r_icmp_ge 22 184 42 rfl rfl rfl (fun h6 => ?_) (fun h6 => ?_)
      · refine r_leaf (r2 := (f_X4_setJoin_j184 t m : Option (Mi))) (he25 _) ?_
        exact r_sub [] rfl (hj184 m)
      · refine r_aload_n 23 43 2 rfl rfl rfl rfl ?_
        refine r_iload 24 45 4 rfl rfl rfl ?_
        refine r_aload_n 25 46 3 rfl rfl rfl rfl ?_
        refine r_iload 26 48 5 rfl rfl rfl ?_
        refine r_SIo 27 51 (a := 0) (cn := 0) (st := []) (av := [.inr (.inr a2), .inl a4, .inr (.inr a3), .inl a5]) (μ' := u_X4_sideOfLower) (d := 3) rfl rfl mc_X4_sideOfLower st_X4_sideOfLower lk_RX4_35 (Nat.le_of_ble_eq_true rfl) rfl (Nat.le_of_ble_eq_true rfl) (fun _ h => ct_X4_sideOfLower h) (fun x7 => ?_)
        refine r_istore 28 53 (L' := [(8, .inl x7), (0, .inr (.inr a0)), (1, .inl a1), (2, .inr (.inr a2)), (3, .inr (.inr a3)), (4, .inl a4), (5, .inl a5), (6, .inl a6), (7, .inl a7)]) rfl rfl (by decide) rfl ?_
        refine r_iload 29 55 0 rfl rfl rfl ?_
        have hj69 : ∀ (m : Mi) (a4 : Int32) (a5 : Int32) (a7 : Int32) (a8 : Int32) (s0 : Nat), Sm u_X4_setJoin (4, 0, 0, t.length, zs t) κ25 69 [(0, .inr (.inr a0)), (1, .inl a1), (2, .inr (.inr a2)), (3, .inr (.inr a3)), (4, .inl a4), (5, .inl a5), (6, .inl a6), (7, .inl a7), (8, .inl a8)] [.inr (.inr s0)] (t, m) (f_X4_setJoin_j69 t m a0 a1 a2 a3 a4 a5 a6 a7 a8 s0) := by
          intro m a4 a5 a7 a8 s0
          unfold f_X4_setJoin_j69
          refine r_astore 36 71 (L' := [(9, .inr (.inr s0)), (0, .inr (.inr a0)), (1, .inl a1), (2, .inr (.inr a2)), (3, .inr (.inr a3)), (4, .inl a4), (5, .inl a5), (6, .inl a6), (7, .inl a7), (8, .inl a8)]) rfl rfl (by decide) rfl ?_
          refine r_iload 37 73 9 rfl rfl rfl ?_
          have hj83 : ∀ (m : Mi) (a4 : Int32) (a5 : Int32) (a7 : Int32) (a8 : Int32) (a9 : Nat) (s0 : Int32), Sm u_X4_setJoin (4, 0, 0, t.length, zs t) κ25 83 [(0, .inr (.inr a0)), (1, .inl a1), (2, .inr (.inr a2)), (3, .inr (.inr a3)), (4, .inl a4), (5, .inl a5), (6, .inl a6), (7, .inl a7), (8, .inl a8), (9, .inr (.inr a9))] [.inl s0] (t, m) (f_X4_setJoin_j83 t m a0 a1 a2 a3 a4 a5 a6 a7 a8 a9 s0) := by
            intro m a4 a5 a7 a8 a9 s0
            unfold f_X4_setJoin_j83
            refine r_bipush 42 85 (v := 8) rfl rfl (by decide) ?_
            refine r_imul 43 86 rfl rfl ?_
            refine r_ltI (fun x8 => ?_)
            refine r_istore 44 88 (L' := [(10, .inl x8), (0, .inr (.inr a0)), (1, .inl a1), (2, .inr (.inr a2)), (3, .inr (.inr a3)), (4, .inl a4), (5, .inl a5), (6, .inl a6), (7, .inl a7), (8, .inl a8), (9, .inr (.inr a9))]) rfl rfl (by decide) rfl ?_
            refine r_iload 45 90 5 rfl rfl rfl ?_
            refine r_iload 46 92 9 rfl rfl rfl ?_
            have hj100 : ∀ (m : Mi) (a5 : Int32) (a7 : Int32) (a8 : Int32) (a9 : Nat) (a10 : Int32) (s0 : Int32) (s1 : Int32), Sm u_X4_setJoin (4, 0, 0, t.length, zs t) κ25 100 [(0, .inr (.inr a0)), (1, .inl a1), (2, .inr (.inr a2)), (3, .inr (.inr a3)), (5, .inl a5), (6, .inl a6), (7, .inl a7), (8, .inl a8), (9, .inr (.inr a9)), (10, .inl a10)] [.inl s0, .inl s1] (t, m) (f_X4_setJoin_j100 t m a0 a1 a2 a3 a5 a6 a7 a8 a9 a10 s0 s1) := by
              intro m a5 a7 a8 a9 a10 s0 s1
              unfold f_X4_setJoin_j100
              refine r_iadd 51 101 rfl rfl ?_
              refine r_ltI (fun x9 => ?_)
              refine r_istore 52 103 (L' := [(4, .inl x9), (0, .inr (.inr a0)), (1, .inl a1), (2, .inr (.inr a2)), (3, .inr (.inr a3)), (5, .inl a5), (6, .inl a6), (7, .inl a7), (8, .inl a8), (9, .inr (.inr a9)), (10, .inl a10)]) rfl rfl (by decide) rfl ?_
              refine r_iload 53 105 5 rfl rfl rfl ?_
              refine r_iload 54 107 8 rfl rfl rfl ?_
              have hj115 : ∀ (m : Mi) (a4 : Int32) (a7 : Int32) (a9 : Nat) (a10 : Int32) (s0 : Int32) (s1 : Int32), Sm u_X4_setJoin (4, 0, 0, t.length, zs t) κ25 115 [(0, .inr (.inr a0)), (1, .inl a1), (2, .inr (.inr a2)), (3, .inr (.inr a3)), (4, .inl a4), (6, .inl a6), (7, .inl a7), (9, .inr (.inr a9)), (10, .inl a10)] [.inl s0, .inl s1] (t, m) (f_X4_setJoin_j115 t m a0 a1 a2 a3 a4 a6 a7 a9 a10 s0 s1) := by
                intro m a4 a7 a9 a10 s0 s1
                unfold f_X4_setJoin_j115
                refine r_iadd 59 116 rfl rfl ?_
                refine r_ltI (fun x10 => ?_)
                refine r_istore 60 118 (L' := [(5, .inl x10), (0, .inr (.inr a0)), (1, .inl a1), (2, .inr (.inr a2)), (3, .inr (.inr a3)), (4, .inl a4), (6, .inl a6), (7, .inl a7), (9, .inr (.inr a9)), (10, .inl a10)]) rfl rfl (by decide) rfl ?_
                refine r_aload_n 61 119 1 rfl rfl rfl rfl ?_
                refine r_getI 62 122 rfl rfl fl_RX4_21 rfl h0 ?_
                refine r_iconst 63 123 (v := 2) rfl rfl (by decide) ?_
                refine r_irem 64 124 rfl rfl (by decide) ?_
                refine r_iconst 65 125 (v := 1) rfl rfl (by decide) ?_
                have hj133 : ∀ (m : Mi) (a4 : Int32) (a5 : Int32) (a7 : Int32) (a9 : Nat) (a10 : Int32) (s0 : Int32), Sm u_X4_setJoin (4, 0, 0, t.length, zs t) κ25 133 [(0, .inr (.inr a0)), (1, .inl a1), (2, .inr (.inr a2)), (3, .inr (.inr a3)), (4, .inl a4), (5, .inl a5), (6, .inl a6), (7, .inl a7), (9, .inr (.inr a9)), (10, .inl a10)] [.inl s0] (t, m) (f_X4_setJoin_j133 t m a0 a1 a2 a3 a4 a5 a6 a7 a9 a10 s0) := by
                  intro m a4 a5 a7 a9 a10 s0
                  unfold f_X4_setJoin_j133
                  refine r_istore 70 135 (L' := [(11, .inl s0), (0, .inr (.inr a0)), (1, .inl a1), (2, .inr (.inr a2)), (3, .inr (.inr a3)), (4, .inl a4), (5, .inl a5), (6, .inl a6), (7, .inl a7), (9, .inr (.inr a9)), (10, .inl a10)]) rfl rfl (by decide) rfl ?_
                  refine r_iload_n 71 136 2 rfl rfl rfl rfl ?_
                  refine r_iload 72 138 5 rfl rfl rfl ?_
                  refine r_iconst 73 139 (v := 2) rfl rfl (by decide) ?_
                  refine r_irem 74 140 rfl rfl (by decide) ?_
                  refine r_iconst 75 141 (v := 1) rfl rfl (by decide) ?_
                  have hj149 : ∀ (m : Mi) (a4 : Int32) (a5 : Int32) (a7 : Int32) (a9 : Nat) (a10 : Int32) (a11 : Int32) (s0 : Int32) (s1 : Int32), Sm u_X4_setJoin (4, 0, 0, t.length, zs t) κ25 149 [(0, .inr (.inr a0)), (1, .inl a1), (2, .inr (.inr a2)), (3, .inr (.inr a3)), (4, .inl a4), (5, .inl a5), (6, .inl a6), (7, .inl a7), (9, .inr (.inr a9)), (10, .inl a10), (11, .inl a11)] [.inl s0, .inl s1] (t, m) (f_X4_setJoin_j149 t m a0 a1 a2 a3 a4 a5 a6 a7 a9 a10 a11 s0 s1) := by
                    intro m a4 a5 a7 a9 a10 a11 s0 s1
                    unfold f_X4_setJoin_j149
                    refine r_iload 80 151 5 rfl rfl rfl ?_
                    refine r_iconst 81 152 (v := 2) rfl rfl (by decide) ?_
                    refine r_irem 82 153 rfl rfl (by decide) ?_
                    refine r_iconst 83 154 (v := 1) rfl rfl (by decide) ?_
                    have hj162 : ∀ (m : Mi) (a4 : Int32) (a5 : Int32) (a7 : Int32) (a9 : Nat) (a10 : Int32) (a11 : Int32) (s0 : Int32) (s1 : Int32) (s2 : Int32), Sm u_X4_setJoin (4, 0, 0, t.length, zs t) κ25 162 [(0, .inr (.inr a0)), (1, .inl a1), (2, .inr (.inr a2)), (3, .inr (.inr a3)), (4, .inl a4), (5, .inl a5), (6, .inl a6), (7, .inl a7), (9, .inr (.inr a9)), (10, .inl a10), (11, .inl a11)] [.inl s0, .inl s1, .inl s2] (t, m) (f_X4_setJoin_j162 t m a0 a1 a2 a3 a4 a5 a6 a7 a9 a10 a11 s0 s1 s2) := by
                      intro m a4 a5 a7 a9 a10 a11 s0 s1 s2
                      unfold f_X4_setJoin_j162
                      refine r_SIo 88 165 (a := 0) (cn := 0) (st := []) (av := [.inl s2, .inl s1, .inl s0]) (μ' := u_X4_isKept) (d := 1) rfl rfl mc_X4_isKept st_X4_isKept lk_RX4_39 (Nat.le_of_ble_eq_true rfl) rfl (Nat.le_of_ble_eq_true rfl) (fun _ h => ct_X4_isKept h) (fun x11 => ?_)
                      refine r_iload 89 167 10 rfl rfl rfl ?_
                      refine r_icmp_eq 90 178 170 rfl rfl rfl (fun h12 => ?_) (fun h12 => ?_)
                      · refine r_iinc 95 181 7 (L' := [(7, .inl (a7 + 1)), (0, .inr (.inr a0)), (1, .inl a1), (2, .inr (.inr a2)), (3, .inr (.inr a3)), (4, .inl a4), (5, .inl a5), (6, .inl a6), (9, .inr (.inr a9)), (10, .inl a10), (11, .inl a11)]) rfl rfl rfl (by decide) rfl ?_
                        refine r_ltV (fun x13 => ?_)
                        refine r_goto 96 25 rfl rfl ?_
                        exact r_sub [1, 2, 3, 4, 5, 6, 7, 0] rfl (hc25 (a4, a5, x13, m))
                      · refine r_aload_n 91 171 0 rfl rfl rfl rfl ?_
                        refine r_aload 92 173 8 rfl rfl rfl ?_
                        refine r_iload 93 175 9 rfl rfl rfl ?_
                        refine r_VV 94 178 (st := []) (av := [.inr (.inr a0), .inr (.inr a9), .inl a10]) (av' := [.inr (.inr a9), .inl a10]) (μ' := u_X4_addBound) (d := 3) rfl rfl mc_X4_addBound in_X4_addBound lk_RX4_31 (Nat.le_of_ble_eq_true rfl) rfl rfl h0 rfl (Nat.le_of_ble_eq_true rfl) (fun _ h => ct_X4_addBound h0 h) (fun m14 => ?_)
                        refine r_iinc 95 181 7 (L' := [(7, .inl (a7 + 1)), (0, .inr (.inr a0)), (1, .inl a1), (2, .inr (.inr a2)), (3, .inr (.inr a3)), (4, .inl a4), (5, .inl a5), (6, .inl a6), (9, .inr (.inr a9)), (10, .inl a10), (11, .inl a11)]) rfl rfl rfl (by decide) rfl ?_
                        refine r_ltV (fun x15 => ?_)
                        refine r_goto 96 25 rfl rfl ?_
                        exact r_sub [1, 2, 3, 4, 5, 6, 7, 0] rfl (hc25 (a4, a5, x15, m14))
                    refine r_icmp_ne 84 161 157 rfl rfl rfl (fun h16 => ?_) (fun h16 => ?_)
                    · refine r_iconst 85 158 (v := 1) rfl rfl (by decide) ?_
                      refine r_goto 86 162 rfl rfl ?_
                      exact hj162 m a4 a5 a7 a9 a10 a11 1 s0 s1
                    · refine r_iconst 87 162 (v := 0) rfl rfl (by decide) ?_
                      exact hj162 m a4 a5 a7 a9 a10 a11 0 s0 s1
                  refine r_icmp_ne 76 148 144 rfl rfl rfl (fun h17 => ?_) (fun h17 => ?_)
                  · refine r_iconst 77 145 (v := 1) rfl rfl (by decide) ?_
                    refine r_goto 78 149 rfl rfl ?_
                    exact r_sub [1, 2, 3, 4, 5, 6, 7, 8, 9, 10, 0] rfl (hj149 m a4 a5 a7 a9 a10 s0 1 a1)
                  · refine r_iconst 79 149 (v := 0) rfl rfl (by decide) ?_
                    exact r_sub [1, 2, 3, 4, 5, 6, 7, 8, 9, 10, 0] rfl (hj149 m a4 a5 a7 a9 a10 s0 0 a1)
                refine r_icmp_ne 66 132 128 rfl rfl rfl (fun h18 => ?_) (fun h18 => ?_)
                · refine r_iconst 67 129 (v := 1) rfl rfl (by decide) ?_
                  refine r_goto 68 133 rfl rfl ?_
                  exact r_sub [1, 2, 3, 4, 5, 0, 6, 7, 8, 9] rfl (hj133 m a4 x10 a7 a9 a10 1)
                · refine r_iconst 69 133 (v := 0) rfl rfl (by decide) ?_
                  exact r_sub [1, 2, 3, 4, 5, 0, 6, 7, 8, 9] rfl (hj133 m a4 x10 a7 a9 a10 0)
              refine r_if_lt 55 114 110 rfl rfl rfl (fun h19 => ?_) (fun h19 => ?_)
              · refine r_iconst 58 115 (v := 0) rfl rfl (by decide) ?_
                exact r_sub [1, 2, 3, 4, 0, 6, 7, 9, 10] rfl (hj115 m x9 a7 a9 a10 0 a5)
              · refine r_iconst 56 111 (v := 1) rfl rfl (by decide) ?_
                refine r_goto 57 115 rfl rfl ?_
                exact r_sub [1, 2, 3, 4, 0, 6, 7, 9, 10] rfl (hj115 m x9 a7 a9 a10 1 a5)
            refine r_if_gt 47 99 95 rfl rfl rfl (fun h20 => ?_) (fun h20 => ?_)
            · refine r_iconst 50 100 (v := 0) rfl rfl (by decide) ?_
              exact r_sub [1, 2, 3, 4, 6, 7, 8, 9, 10, 0] rfl (hj100 m a5 a7 a8 a9 x8 0 a4)
            · refine r_iconst 48 96 (v := 1) rfl rfl (by decide) ?_
              refine r_goto 49 100 rfl rfl ?_
              exact r_sub [1, 2, 3, 4, 6, 7, 8, 9, 10, 0] rfl (hj100 m a5 a7 a8 a9 x8 1 a4)
          refine r_if_gt 38 81 76 rfl rfl rfl (fun h21 => ?_) (fun h21 => ?_)
          · refine r_iload 41 83 6 rfl rfl rfl ?_
            exact r_sub [1, 2, 3, 4, 5, 6, 7, 8, 9, 0] rfl (hj83 m a4 a5 a7 a8 s0 a5)
          · refine r_iload 39 78 5 rfl rfl rfl ?_
            refine r_goto 40 83 rfl rfl ?_
            exact r_sub [1, 2, 3, 4, 5, 6, 7, 8, 9, 0] rfl (hj83 m a4 a5 a7 a8 s0 a4)
        refine r_if_gt 30 65 58 rfl rfl rfl (fun h22 => ?_) (fun h22 => ?_)
        · refine r_aload_n 34 66 4 rfl rfl rfl rfl ?_
          refine r_getR 35 69 rfl rfl fl_RX4_15 rfl (ob_sh h3) ?_
          exact r_sub [1, 2, 3, 4, 5, 6, 7, 8, 0] rfl (hj69 m a4 a5 a7 x7 (gr m a3 0))
        · refine r_aload_n 31 59 3 rfl rfl rfl rfl ?_
          refine r_getR 32 62 rfl rfl fl_RX4_15 rfl (ob_sh h2) ?_
          refine r_goto 33 69 rfl rfl ?_
          exact r_sub [1, 2, 3, 4, 5, 6, 7, 8, 0] rfl (hj69 m a4 a5 a7 x7 (gr m a2 0))
  exact r_sub [4, 5, 6, 7, 3, 2, 1, 0] rfl (hj25 m1 0 0 x4 0)
theorem ct_X4_setJoin {t : List Sh} {m : Mi} {a0 : Nat} {a1 : Int32} {a2 : Nat} {a3 : Nat} {m' : Mi}  (h0 : sh t a0 = some (.inl 4)) (h : f_X4_setJoin t m a0 a1 a2 a3 = some m') : Ct u_X4_setJoin 4 0 0 [.inr (.inr a0), .inl a1, .inr (.inr a2), .inr (.inr a3)] (t, m) (none, (t, m')) :=
  ct_of (by decide) tk_X4_setJoin (Nat.le_of_ble_eq_true rfl) (sm_X4_setJoin t m a0 a1 a2 a3 h0) (by rw [h]; rfl) (Nat.le_refl _) (Nat.le_refl _)
def tb_X4_setStretch : Tb := [(0, (.aload_n 0, 1)), (1, (.iconst 0, 1)), (2, (.putfield 21, 3)), (5, (.aload_n 0, 1)), (6, (.aload_n 1, 1)), (7, (.iconst 0, 1)), (8, (.invokevirtual 31, 3)), (11, (.aload_n 0, 1)), (12, (.aload_n 2, 1)), (13, (.iconst 0, 1)), (14, (.invokevirtual 31, 3)), (17, (.return_, 1))]
def u_X4_setStretch : Fx := (yX4_setStretch, (cX4_setStretch, (3, (none, tb_X4_setStretch))))
theorem tk_X4_setStretch : ∀ q ∈ u_X4_setStretch.2.2.2.2, decode u_X4_setStretch.2.1 q.1 = .ok q.2 := by decide +kernel
theorem mc_X4_setStretch : MC u_X4_setStretch 2 := ⟨tbm 874 (by decide +kernel) rfl, tbm 115 (by decide +kernel) rfl, ⟨by decide, by decide, by decide +kernel⟩, by decide⟩
theorem in_X4_setStretch : Cond.instanceMethod u_X4_setStretch.1 ∈ TB ∧ Cond.selects u_X4_setStretch.1.cls u_X4_setStretch.1 u_X4_setStretch.1 ∈ TB := ⟨tbm 872 (by decide +kernel) rfl, tbm 873 (by decide +kernel) rfl⟩
def f_X4_setStretch (t : List Sh) (m : Mi) (a0 : Nat) (a1 : Nat) (a2 : Nat) : Option (Mi) :=
  lt (si m a0 1 0) fun m1 =>
  (f_X4_addBound t m1 a0 a1 0).bind fun m2 =>
  (f_X4_addBound t m2 a0 a2 0).bind fun m3 =>
  some m3
set_option maxRecDepth 4000 in
set_option maxHeartbeats 4000000 in
theorem sm_X4_setStretch (t : List Sh) (m : Mi) (a0 : Nat) (a1 : Nat) (a2 : Nat) (h0 : sh t a0 = some (.inl 4)) : Sm u_X4_setStretch (4, 0, 0, t.length, zs t) (kV t) 0 [(0, .inr (.inr a0)), (1, .inr (.inr a1)), (2, .inr (.inr a2))] [] (t, m) (f_X4_setStretch t m a0 a1 a2) := by
  unfold f_X4_setStretch
  refine r_aload_n 0 1 0 rfl rfl rfl rfl ?_
  refine r_iconst 1 2 (v := 0) rfl rfl (by decide) ?_
  refine r_putI 2 5 rfl rfl fl_RX4_21 (fun h => by cases h) (Or.inl rfl) h0 ?_
  refine r_ltM (fun m1 => ?_)
  refine r_aload_n 3 6 0 rfl rfl rfl rfl ?_
  refine r_aload_n 4 7 1 rfl rfl rfl rfl ?_
  refine r_iconst 5 8 (v := 0) rfl rfl (by decide) ?_
  refine r_VV 6 11 (st := []) (av := [.inr (.inr a0), .inr (.inr a1), .inl 0]) (av' := [.inr (.inr a1), .inl 0]) (μ' := u_X4_addBound) (d := 3) rfl rfl mc_X4_addBound in_X4_addBound lk_RX4_31 (Nat.le_of_ble_eq_true rfl) rfl rfl h0 rfl (Nat.le_of_ble_eq_true rfl) (fun _ h => ct_X4_addBound h0 h) (fun m2 => ?_)
  refine r_aload_n 7 12 0 rfl rfl rfl rfl ?_
  refine r_aload_n 8 13 2 rfl rfl rfl rfl ?_
  refine r_iconst 9 14 (v := 0) rfl rfl (by decide) ?_
  refine r_VV 10 17 (st := []) (av := [.inr (.inr a0), .inr (.inr a2), .inl 0]) (av' := [.inr (.inr a2), .inl 0]) (μ' := u_X4_addBound) (d := 3) rfl rfl mc_X4_addBound in_X4_addBound lk_RX4_31 (Nat.le_of_ble_eq_true rfl) rfl rfl h0 rfl (Nat.le_of_ble_eq_true rfl) (fun _ h => ct_X4_addBound h0 h) (fun m3 => ?_)
  exact r_vret 11 rfl rfl rfl
theorem ct_X4_setStretch {t : List Sh} {m : Mi} {a0 : Nat} {a1 : Nat} {a2 : Nat} {m' : Mi}  (h0 : sh t a0 = some (.inl 4)) (h : f_X4_setStretch t m a0 a1 a2 = some m') : Ct u_X4_setStretch 4 0 0 [.inr (.inr a0), .inr (.inr a1), .inr (.inr a2)] (t, m) (none, (t, m')) :=
  ct_of (by decide) tk_X4_setStretch (Nat.le_of_ble_eq_true rfl) (sm_X4_setStretch t m a0 a1 a2 h0) (by rw [h]; rfl) (Nat.le_refl _) (Nat.le_refl _)
def tb_X4_setTo : Tb := [(0, (.aload_n 0, 1)), (1, (.iconst 0, 1)), (2, (.putfield 21, 3)), (5, (.iconst 0, 1)), (6, (.istore_n 2, 1)), (7, (.iload_n 2, 1)), (8, (.aload_n 1, 1)), (9, (.getfield 21, 3)), (12, (.if_icmp .ge 21, 3)), (15, (.aload_n 0, 1)), (16, (.aload_n 1, 1)), (17, (.getfield 15, 3)), (20, (.iload_n 2, 1)), (21, (.bipush 8, 2)), (23, (.imul, 1)), (24, (.invokevirtual 31, 3)), (27, (.iinc 2 1, 3)), (30, (.goto (-23), 3)), (33, (.return_, 1))]
def u_X4_setTo : Fx := (yX4_setTo, (cX4_setTo, (3, (none, tb_X4_setTo))))
theorem tk_X4_setTo : ∀ q ∈ u_X4_setTo.2.2.2.2, decode u_X4_setTo.2.1 q.1 = .ok q.2 := by decide +kernel
theorem mc_X4_setTo : MC u_X4_setTo 1 := ⟨tbm 895 (by decide +kernel) rfl, tbm 115 (by decide +kernel) rfl, ⟨by decide, by decide, by decide +kernel⟩, by decide⟩
theorem in_X4_setTo : Cond.instanceMethod u_X4_setTo.1 ∈ TB ∧ Cond.selects u_X4_setTo.1.cls u_X4_setTo.1 u_X4_setTo.1 ∈ TB := ⟨tbm 893 (by decide +kernel) rfl, tbm 894 (by decide +kernel) rfl⟩
def f_X4_setTo_j33 (t : List Sh) (m : Mi) : Option (Mi) :=
  some m
def f_X4_setTo_l7 (t : List Sh) (m : Mi) (a0 : Nat) (a1 : Nat) (a2 : Int32) : Option ((Int32 × Mi) ⊕ ((Mi))) :=
  (if ob t a1 4 = true then
  if (gi m a1 1) ≤ a2 then
    some (.inr m)
  else
    (f_X4_addBound t m a0 (gr m a1 0) (a2 * 8)).bind fun m4 =>
    lt (a2 + 1) fun x5 =>
    some (.inl (x5, m4))
  else none)
def f_X4_setTo_j7 (t : List Sh) (m : Mi) (a0 : Nat) (a1 : Nat) (a2 : Int32) : Option (Mi) :=
  (lp (fun x : Int32 × Mi => f_X4_setTo_l7 t x.2 a0 a1 x.1) FUEL (a2, m)).bind (fun y : Mi => f_X4_setTo_j33 t y)
def f_X4_setTo (t : List Sh) (m : Mi) (a0 : Nat) (a1 : Nat) : Option (Mi) :=
  lt (si m a0 1 0) fun m1 =>
  f_X4_setTo_j7 t m1 a0 a1 0
set_option maxRecDepth 4000 in
set_option maxHeartbeats 4000000 in
theorem sm_X4_setTo (t : List Sh) (m : Mi) (a0 : Nat) (a1 : Nat) (h0 : sh t a0 = some (.inl 4)) : Sm u_X4_setTo (4, 0, 0, t.length, zs t) (kV t) 0 [(0, .inr (.inr a0)), (1, .inr (.inr a1))] [] (t, m) (f_X4_setTo t m a0 a1) := by
  unfold f_X4_setTo
  refine r_aload_n 0 1 0 rfl rfl rfl rfl ?_
  refine r_iconst 1 2 (v := 0) rfl rfl (by decide) ?_
  refine r_putI 2 5 rfl rfl fl_RX4_21 (fun h => by cases h) (Or.inl rfl) h0 ?_
  refine r_ltM (fun m1 => ?_)
  refine r_iconst 3 6 (v := 0) rfl rfl (by decide) ?_
  refine r_istore_n 4 7 (L' := [(2, .inl 0), (0, .inr (.inr a0)), (1, .inr (.inr a1))]) rfl rfl rfl (by decide) rfl ?_
  have hj7 : ∀ (m : Mi) (a2 : Int32), Sm u_X4_setTo (4, 0, 0, t.length, zs t) (kV t) 7 [(0, .inr (.inr a0)), (1, .inr (.inr a1)), (2, .inl a2)] [] (t, m) (f_X4_setTo_j7 t m a0 a1 a2) := by
    intro m a2
    unfold f_X4_setTo_j7
    have hj33 : ∀ (m : Mi), Sm u_X4_setTo (4, 0, 0, t.length, zs t) (kV t) 33 [] [] (t, m) (f_X4_setTo_j33 t m) := by
      intro m
      unfold f_X4_setTo_j33
      exact r_vret 18 rfl rfl rfl
    refine r_lp (Lf := fun x : Int32 × Mi => [(0, .inr (.inr a0)), (1, .inr (.inr a1)), (2, .inl (x.1))]) (Mf := fun x : Int32 × Mi => (t, x.2)) (a2, m) ?_ FUEL
    rintro ⟨a2, m⟩ κ7 hc7 he7
    refine r_eq (L' := [(0, .inr (.inr a0)), (1, .inr (.inr a1)), (2, .inl a2)]) (M' := (t, m)) rfl rfl ?_
    refine r_eqr (r' := f_X4_setTo_l7 t m a0 a1 a2) rfl ?_
    unfold f_X4_setTo_l7
    refine r_iload_n 5 8 2 rfl rfl rfl rfl ?_
    refine r_aload_n 6 9 1 rfl rfl rfl rfl ?_
    refine r_gd (fun h2 => ?_)
    refine r_getI 7 12 rfl rfl fl_RX4_21 rfl (ob_sh h2) ?_
    refine r_icmp_ge 8 33 15 rfl rfl rfl (fun h3 => ?_) (fun h3 => ?_)
    · refine r_leaf (r2 := (f_X4_setTo_j33 t m : Option (Mi))) (he7 _) ?_
      exact r_sub [] rfl (hj33 m)
    · refine r_aload_n 9 16 0 rfl rfl rfl rfl ?_
      refine r_aload_n 10 17 1 rfl rfl rfl rfl ?_
      refine r_getR 11 20 rfl rfl fl_RX4_15 rfl (ob_sh h2) ?_
      refine r_iload_n 12 21 2 rfl rfl rfl rfl ?_
      refine r_bipush 13 23 (v := 8) rfl rfl (by decide) ?_
      refine r_imul 14 24 rfl rfl ?_
      refine r_VV 15 27 (st := []) (av := [.inr (.inr a0), .inr (.inr (gr m a1 0)), .inl (a2 * 8)]) (av' := [.inr (.inr (gr m a1 0)), .inl (a2 * 8)]) (μ' := u_X4_addBound) (d := 3) rfl rfl mc_X4_addBound in_X4_addBound lk_RX4_31 (Nat.le_of_ble_eq_true rfl) rfl rfl h0 rfl (Nat.le_of_ble_eq_true rfl) (fun _ h => ct_X4_addBound h0 h) (fun m4 => ?_)
      refine r_iinc 16 30 2 (L' := [(2, .inl (a2 + 1)), (0, .inr (.inr a0)), (1, .inr (.inr a1))]) rfl rfl rfl (by decide) rfl ?_
      refine r_ltV (fun x5 => ?_)
      refine r_goto 17 7 rfl rfl ?_
      exact r_sub [1, 2, 0] rfl (hc7 (x5, m4))
  exact r_sub [1, 2, 0] rfl (hj7 m1 0)
theorem ct_X4_setTo {t : List Sh} {m : Mi} {a0 : Nat} {a1 : Nat} {m' : Mi}  (h0 : sh t a0 = some (.inl 4)) (h : f_X4_setTo t m a0 a1 = some m') : Ct u_X4_setTo 4 0 0 [.inr (.inr a0), .inr (.inr a1)] (t, m) (none, (t, m')) :=
  ct_of (by decide) tk_X4_setTo (Nat.le_of_ble_eq_true rfl) (sm_X4_setTo t m a0 a1 h0) (by rw [h]; rfl) (Nat.le_refl _) (Nat.le_refl _)
