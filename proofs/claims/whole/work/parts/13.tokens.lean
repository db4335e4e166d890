theorem fl_RX9_22 : FL RX9 22 9 3 false := ⟨RX9, TX9, 7, rfl, inW9, tyX9_ok, nmX9, by decide, rfl, rfl, rfl, tbm 212 (by decide +kernel) rfl⟩
theorem fl_RX9_9 : FL RX9 9 9 0 true := ⟨RX9, TX9, 7, rfl, inW9, tyX9_ok, nmX9, by decide, rfl, rfl, rfl, tbm 209 (by decide +kernel) rfl⟩
theorem fl_RX9_15 : FL RX9 15 9 1 true := ⟨RX9, TX9, 7, rfl, inW9, tyX9_ok, nmX9, by decide, rfl, rfl, rfl, tbm 210 (by decide +kernel) rfl⟩
theorem fl_RX9_19 : FL RX9 19 9 2 true := ⟨RX9, TX9, 7, rfl, inW9, tyX9_ok, nmX9, by decide, rfl, rfl, rfl, tbm 211 (by decide +kernel) rfl⟩
def tb_X9_add : Tb := [(0, (.aload_n 0, 1)), (1, (.getfield 22, 3)), (4, (.aload_n 0, 1)), (5, (.getfield 9, 3)), (8, (.arraylength, 1)), (9, (.if_icmp .ge 44, 3)), (12, (.aload_n 0, 1)), (13, (.getfield 9, 3)), (16, (.aload_n 0, 1)), (17, (.getfield 22, 3)), (20, (.iload_n 1, 1)), (21, (.i2b, 1)), (22, (.bastore, 1)), (23, (.aload_n 0, 1)), (24, (.getfield 15, 3)), (27, (.aload_n 0, 1)), (28, (.getfield 22, 3)), (31, (.iload_n 2, 1)), (32, (.iastore, 1)), (33, (.aload_n 0, 1)), (34, (.getfield 19, 3)), (37, (.aload_n 0, 1)), (38, (.getfield 22, 3)), (41, (.iload_n 3, 1)), (42, (.iastore, 1)), (43, (.aload_n 0, 1)), (44, (.dup, 1)), (45, (.getfield 22, 3)), (48, (.iconst 1, 1)), (49, (.iadd, 1)), (50, (.putfield 22, 3)), (53, (.iload_n 3, 1)), (54, (.ireturn, 1))]
def u_X9_add : Fx := (yX9_add, (cX9_add, (4, ((some .int), tb_X9_add))))
theorem tk_X9_add : ∀ q ∈ u_X9_add.2.2.2.2, decode u_X9_add.2.1 q.1 = .ok q.2 := by decide +kernel
theorem mc_X9_add : MC u_X9_add 3 := ⟨tbm 621 (by decide +kernel) rfl, tbm 119 (by decide +kernel) rfl, ⟨by decide, by decide, by decide +kernel⟩, by decide⟩
theorem in_X9_add : Cond.instanceMethod u_X9_add.1 ∈ TB ∧ Cond.selects u_X9_add.1.cls u_X9_add.1 u_X9_add.1 ∈ TB := ⟨tbm 620 (by decide +kernel) rfl, tbm 6 (by decide +kernel) rfl⟩
def f_X9_add (t : List Sh) (m : Mi) (a0 : Nat) (a1 : Int32) (a2 : Int32) (a3 : Int32) : Option (Int32 × Mi) :=
  (if aa t (gr m a0 0) .byte = true then
  if (Int32.ofNat (ln t (gr m a0 0))) ≤ (gi m a0 3) then
    some (a3, m)
  else
    (if ar t (gr m a0 0) .byte (gi m a0 3) = true then
    lt (si m (gr m a0 0) (ix (gi m a0 3)) (vp_nar .byte ((Int32.toInt8 a1).toInt32))) fun m4 =>
    (if ar t (gr m4 a0 1) .int (gi m4 a0 3) = true then
    lt (si m4 (gr m4 a0 1) (ix (gi m4 a0 3)) a2) fun m6 =>
    (if ar t (gr m6 a0 2) .int (gi m6 a0 3) = true then
    lt (si m6 (gr m6 a0 2) (ix (gi m6 a0 3)) a3) fun m8 =>
    lt (si m8 a0 3 ((gi m8 a0 3) + 1)) fun m9 =>
    some (a3, m9)
    else none)
    else none)
    else none)
  else none)
set_option maxRecDepth 4000 in
set_option maxHeartbeats 4000000 in
theorem sm_X9_add (t : List Sh) (m : Mi) (a0 : Nat) (a1 : Int32) (a2 : Int32) (a3 : Int32) (h0 : sh t a0 = some (.inl 9)) : Sm u_X9_add (1, 0, 0, t.length, zs t) (kI t) 0 [(0, .inr (.inr a0)), (1, .inl a1), (2, .inl a2), (3, .inl a3)] [] (t, m) (f_X9_add t m a0 a1 a2 a3) := by
  unfold f_X9_add
  refine r_aload_n 0 1 0 rfl rfl rfl rfl ?_
  refine r_getI 1 4 rfl rfl fl_RX9_22 rfl h0 ?_
  refine r_aload_n 2 5 0 rfl rfl rfl rfl ?_
  refine r_getR 3 8 rfl rfl fl_RX9_9 rfl h0 ?_
  refine r_gd (fun h1 => ?_)
  refine r_alen 4 9 2 rfl rfl (fun _ => rfl) h1 ?_
  refine r_icmp_ge 5 53 12 rfl rfl rfl (fun h2 => ?_) (fun h2 => ?_)
  · refine r_iload_n 31 54 3 rfl rfl rfl rfl ?_
    exact r_iret 32 rfl rfl rfl
  · refine r_aload_n 6 13 0 rfl rfl rfl rfl ?_
    refine r_getR 7 16 rfl rfl fl_RX9_9 rfl h0 ?_
    refine r_aload_n 8 17 0 rfl rfl rfl rfl ?_
    refine r_getI 9 20 rfl rfl fl_RX9_22 rfl h0 ?_
    refine r_iload_n 10 21 1 rfl rfl rfl rfl ?_
    refine r_i2b 11 22 rfl rfl ?_
    refine r_gd (fun h3 => ?_)
    refine r_bast 12 23 rfl rfl h3 ?_
    refine r_ltM (fun m4 => ?_)
    refine r_aload_n 13 24 0 rfl rfl rfl rfl ?_
    refine r_getR 14 27 rfl rfl fl_RX9_15 rfl h0 ?_
    refine r_aload_n 15 28 0 rfl rfl rfl rfl ?_
    refine r_getI 16 31 rfl rfl fl_RX9_22 rfl h0 ?_
    refine r_iload_n 17 32 2 rfl rfl rfl rfl ?_
    refine r_gd (fun h5 => ?_)
    refine r_iast 18 33 rfl rfl h5 ?_
    refine r_ltM (fun m6 => ?_)
    refine r_aload_n 19 34 0 rfl rfl rfl rfl ?_
    refine r_getR 20 37 rfl rfl fl_RX9_19 rfl h0 ?_
    refine r_aload_n 21 38 0 rfl rfl rfl rfl ?_
    refine r_getI 22 41 rfl rfl fl_RX9_22 rfl h0 ?_
    refine r_iload_n 23 42 3 rfl rfl rfl rfl ?_
    refine r_gd (fun h7 => ?_)
    refine r_iast 24 43 rfl rfl h7 ?_
    refine r_ltM (fun m8 => ?_)
    refine r_aload_n 25 44 0 rfl rfl rfl rfl ?_
    refine r_dup 26 45 rfl rfl rfl ?_
    refine r_getI 27 48 rfl rfl fl_RX9_22 rfl h0 ?_
    refine r_iconst 28 49 (v := 1) rfl rfl (by decide) ?_
    refine r_iadd 29 50 rfl rfl ?_
    refine r_putI 30 53 rfl rfl fl_RX9_22 (fun h => by cases h) (Or.inl rfl) h0 ?_
    refine r_ltM (fun m9 => ?_)
    refine r_iload_n 31 54 3 rfl rfl rfl rfl ?_
    exact r_iret 32 rfl rfl rfl
theorem ct_X9_add {t : List Sh} {m : Mi} {a0 : Nat} {a1 : Int32} {a2 : Int32} {a3 : Int32} {m' : Mi} {v : Int32}  (h0 : sh t a0 = some (.inl 9)) (h : f_X9_add t m a0 a1 a2 a3 = some (v, m')) : Ct u_X9_add 1 0 0 [.inr (.inr a0), .inl a1, .inl a2, .inl a3] (t, m) (some (.inl v), (t, m')) :=
  ct_of (by decide) tk_X9_add (Nat.le_of_ble_eq_true rfl) (sm_X9_add t m a0 a1 a2 a3 h0) (by rw [h]; rfl) (Nat.le_refl _) (Nat.le_refl _)
theorem fl_RX9_29 : FL RX9 29 9 5 false := ⟨RX9, TX9, 7, rfl, inW9, tyX9_ok, nmX9, by decide, rfl, rfl, rfl, tbm 214 (by decide +kernel) rfl⟩
def tb_X9_endAt : Tb := [(0, (.iload_n 1, 1)), (1, (.ifCond .lt 20, 3)), (4, (.iload_n 1, 1)), (5, (.aload_n 0, 1)), (6, (.getfield 22, 3)), (9, (.if_icmp .ge 12, 3)), (12, (.aload_n 0, 1)), (13, (.getfield 19, 3)), (16, (.iload_n 1, 1)), (17, (.iaload, 1)), (18, (.goto 7, 3)), (21, (.aload_n 0, 1)), (22, (.getfield 29, 3)), (25, (.ireturn, 1))]
def u_X9_endAt : Fx := (yX9_endAt, (cX9_endAt, (2, ((some .int), tb_X9_endAt))))
theorem tk_X9_endAt : ∀ q ∈ u_X9_endAt.2.2.2.2, decode u_X9_endAt.2.1 q.1 = .ok q.2 := by decide +kernel
theorem mc_X9_endAt : MC u_X9_endAt 1 := ⟨tbm 754 (by decide +kernel) rfl, tbm 119 (by decide +kernel) rfl, ⟨by decide, by decide, by decide +kernel⟩, by decide⟩
theorem in_X9_endAt : Cond.instanceMethod u_X9_endAt.1 ∈ TB ∧ Cond.selects u_X9_endAt.1.cls u_X9_endAt.1 u_X9_endAt.1 ∈ TB := ⟨tbm 752 (by decide +kernel) rfl, tbm 753 (by decide +kernel) rfl⟩
def f_X9_endAt (t : List Sh) (m : Mi) (a0 : Nat) (a1 : Int32) : Option (Int32) :=
  if a1 < 0 then
    some (gi m a0 5)
  else
    if (gi m a0 3) ≤ a1 then
      some (gi m a0 5)
    else
      (if ar t (gr m a0 2) .int a1 = true then
      some (gi m (gr m a0 2) (ix a1))
      else none)
set_option maxRecDepth 4000 in
set_option maxHeartbeats 4000000 in
theorem sm_X9_endAt (t : List Sh) (m : Mi) (a0 : Nat) (a1 : Int32) (h0 : sh t a0 = some (.inl 9)) : Sm u_X9_endAt (1, 0, 0, t.length, zs t) (kIo t m) 0 [(0, .inr (.inr a0)), (1, .inl a1)] [] (t, m) (f_X9_endAt t m a0 a1) := by
  unfold f_X9_endAt
  refine r_iload_n 0 1 1 rfl rfl rfl rfl ?_
  refine r_if_lt 1 21 4 rfl rfl rfl (fun h1 => ?_) (fun h1 => ?_)
  · refine r_aload_n 11 22 0 rfl rfl rfl rfl ?_
    refine r_getI 12 25 rfl rfl fl_RX9_29 rfl h0 ?_
    exact r_iret 13 rfl rfl rfl
  · refine r_iload_n 2 5 1 rfl rfl rfl rfl ?_
    refine r_aload_n 3 6 0 rfl rfl rfl rfl ?_
    refine r_getI 4 9 rfl rfl fl_RX9_22 rfl h0 ?_
    refine r_icmp_ge 5 21 12 rfl rfl rfl (fun h2 => ?_) (fun h2 => ?_)
    · refine r_aload_n 11 22 0 rfl rfl rfl rfl ?_
      refine r_getI 12 25 rfl rfl fl_RX9_29 rfl h0 ?_
      exact r_iret 13 rfl rfl rfl
    · refine r_aload_n 6 13 0 rfl rfl rfl rfl ?_
      refine r_getR 7 16 rfl rfl fl_RX9_19 rfl h0 ?_
      refine r_iload_n 8 17 1 rfl rfl rfl rfl ?_
      refine r_gd (fun h3 => ?_)
      refine r_iald 9 18 rfl rfl h3 ?_
      refine r_goto 10 25 rfl rfl ?_
      exact r_iret 13 rfl rfl rfl
theorem ct_X9_endAt {t : List Sh} {m : Mi} {a0 : Nat} {a1 : Int32} {v : Int32}  (h0 : sh t a0 = some (.inl 9)) (h : f_X9_endAt t m a0 a1 = some v) : Ct u_X9_endAt 1 0 0 [.inr (.inr a0), .inl a1] (t, m) (some (.inl v), (t, m)) :=
  ct_of (by decide) tk_X9_endAt (Nat.le_of_ble_eq_true rfl) (sm_X9_endAt t m a0 a1 h0) (by rw [h]; rfl) (Nat.le_refl _) (Nat.le_refl _)
def tb_X9_isBlank : Tb := [(0, (.iload_n 0, 1)), (1, (.bipush 32, 2)), (3, (.if_icmp .eq 9, 3)), (6, (.iload_n 0, 1)), (7, (.bipush 10, 2)), (9, (.if_icmp .ne 7, 3)), (12, (.iconst 1, 1)), (13, (.goto 4, 3)), (16, (.iconst 0, 1)), (17, (.ireturn, 1))]
def u_X9_isBlank : Fx := (yX9_isBlank, (cX9_isBlank, (1, ((some .boolean), tb_X9_isBlank))))
theorem tk_X9_isBlank : ∀ q ∈ u_X9_isBlank.2.2.2.2, decode u_X9_isBlank.2.1 q.1 = .ok q.2 := by decide +kernel
theorem mc_X9_isBlank : MC u_X9_isBlank 1 := ⟨tbm 600 (by decide +kernel) rfl, tbm 119 (by decide +kernel) rfl, ⟨by decide, by decide, by decide +kernel⟩, by decide⟩
theorem st_X9_isBlank : Cond.static u_X9_isBlank.1 ∈ TB := tbm 599 (by decide +kernel) rfl
def f_X9_isBlank (a0 : Int32) : Option (Int32) :=
  if a0 = 32 then
    some 1
  else
    if a0 = 10 then
      some 1
    else
      some 0
set_option maxRecDepth 4000 in
set_option maxHeartbeats 4000000 in
theorem sm_X9_isBlank (t : List Sh) (m : Mi) (a0 : Int32) : Sm u_X9_isBlank (1, 0, 0, t.length, zs t) (kIo t m) 0 [(0, .inl a0)] [] (t, m) (f_X9_isBlank a0) := by
  unfold f_X9_isBlank
  refine r_iload_n 0 1 0 rfl rfl rfl rfl ?_
  refine r_bipush 1 3 (v := 32) rfl rfl (by decide) ?_
  refine r_icmp_eq 2 12 6 rfl rfl rfl (fun h1 => ?_) (fun h1 => ?_)
  · refine r_iconst 6 13 (v := 1) rfl rfl (by decide) ?_
    refine r_goto 7 17 rfl rfl ?_
    exact r_zret 9 rfl rfl (by decide) rfl
  · refine r_iload_n 3 7 0 rfl rfl rfl rfl ?_
    refine r_bipush 4 9 (v := 10) rfl rfl (by decide) ?_
    refine r_icmp_ne 5 16 12 rfl rfl rfl (fun h2 => ?_) (fun h2 => ?_)
    · refine r_iconst 6 13 (v := 1) rfl rfl (by decide) ?_
      refine r_goto 7 17 rfl rfl ?_
      exact r_zret 9 rfl rfl (by decide) rfl
    · refine r_iconst 8 17 (v := 0) rfl rfl (by decide) ?_
      exact r_zret 9 rfl rfl (by decide) rfl
theorem ct_X9_isBlank {t : List Sh} {m : Mi} {a0 : Int32} {v : Int32}  (h : f_X9_isBlank a0 = some v) : Ct u_X9_isBlank 1 0 0 [.inl a0] (t, m) (some (.inl v), (t, m)) :=
  ct_of (by decide) tk_X9_isBlank (Nat.le_of_ble_eq_true rfl) (sm_X9_isBlank t m a0) (by rw [h]; rfl) (Nat.le_refl _) (Nat.le_refl _)
def tb_X9_isLink : Tb := [(0, (.iload_n 0, 1)), (1, (.iconst 5, 1)), (2, (.if_icmp .eq 9, 3)), (5, (.iload_n 0, 1)), (6, (.bipush 6, 2)), (8, (.if_icmp .ne 7, 3)), (11, (.iconst 1, 1)), (12, (.goto 4, 3)), (15, (.iconst 0, 1)), (16, (.ireturn, 1))]
def u_X9_isLink : Fx := (yX9_isLink, (cX9_isLink, (1, ((some .boolean), tb_X9_isLink))))
theorem tk_X9_isLink : ∀ q ∈ u_X9_isLink.2.2.2.2, decode u_X9_isLink.2.1 q.1 = .ok q.2 := by decide +kernel
theorem mc_X9_isLink : MC u_X9_isLink 1 := ⟨tbm 805 (by decide +kernel) rfl, tbm 119 (by decide +kernel) rfl, ⟨by decide, by decide, by decide +kernel⟩, by decide⟩
theorem st_X9_isLink : Cond.static u_X9_isLink.1 ∈ TB := tbm 804 (by decide +kernel) rfl
def f_X9_isLink (a0 : Int32) : Option (Int32) :=
  if a0 = 5 then
    some 1
  else
    if a0 = 6 then
      some 1
    else
      some 0
set_option maxRecDepth 4000 in
set_option maxHeartbeats 4000000 in
theorem sm_X9_isLink (t : List Sh) (m : Mi) (a0 : Int32) : Sm u_X9_isLink (1, 0, 0, t.length, zs t) (kIo t m) 0 [(0, .inl a0)] [] (t, m) (f_X9_isLink a0) := by
  unfold f_X9_isLink
  refine r_iload_n 0 1 0 rfl rfl rfl rfl ?_
  refine r_iconst 1 2 (v := 5) rfl rfl (by decide) ?_
  refine r_icmp_eq 2 11 5 rfl rfl rfl (fun h1 => ?_) (fun h1 => ?_)
  · refine r_iconst 6 12 (v := 1) rfl rfl (by decide) ?_
    refine r_goto 7 16 rfl rfl ?_
    exact r_zret 9 rfl rfl (by decide) rfl
  · refine r_iload_n 3 6 0 rfl rfl rfl rfl ?_
    refine r_bipush 4 8 (v := 6) rfl rfl (by decide) ?_
    refine r_icmp_ne 5 15 11 rfl rfl rfl (fun h2 => ?_) (fun h2 => ?_)
    · refine r_iconst 6 12 (v := 1) rfl rfl (by decide) ?_
      refine r_goto 7 16 rfl rfl ?_
      exact r_zret 9 rfl rfl (by decide) rfl
    · refine r_iconst 8 16 (v := 0) rfl rfl (by decide) ?_
      exact r_zret 9 rfl rfl (by decide) rfl
theorem ct_X9_isLink {t : List Sh} {m : Mi} {a0 : Int32} {v : Int32}  (h : f_X9_isLink a0 = some v) : Ct u_X9_isLink 1 0 0 [.inl a0] (t, m) (some (.inl v), (t, m)) :=
  ct_of (by decide) tk_X9_isLink (Nat.le_of_ble_eq_true rfl) (sm_X9_isLink t m a0) (by rw [h]; rfl) (Nat.le_refl _) (Nat.le_refl _)
def tb_X9_isPart : Tb := [(0, (.iload_n 0, 1)), (1, (.bipush 7, 2)), (3, (.if_icmp .eq 9, 3)), (6, (.iload_n 0, 1)), (7, (.bipush 8, 2)), (9, (.if_icmp .ne 7, 3)), (12, (.iconst 1, 1)), (13, (.goto 4, 3)), (16, (.iconst 0, 1)), (17, (.ireturn, 1))]
def u_X9_isPart : Fx := (yX9_isPart, (cX9_isPart, (1, ((some .boolean), tb_X9_isPart))))
theorem tk_X9_isPart : ∀ q ∈ u_X9_isPart.2.2.2.2, decode u_X9_isPart.2.1 q.1 = .ok q.2 := by decide +kernel
theorem mc_X9_isPart : MC u_X9_isPart 1 := ⟨tbm 821 (by decide +kernel) rfl, tbm 119 (by decide +kernel) rfl, ⟨by decide, by decide, by decide +kernel⟩, by decide⟩
theorem st_X9_isPart : Cond.static u_X9_isPart.1 ∈ TB := tbm 820 (by decide +kernel) rfl
def f_X9_isPart (a0 : Int32) : Option (Int32) :=
  if a0 = 7 then
    some 1
  else
    if a0 = 8 then
      some 1
    else
      some 0
set_option maxRecDepth 4000 in
set_option maxHeartbeats 4000000 in
theorem sm_X9_isPart (t : List Sh) (m : Mi) (a0 : Int32) : Sm u_X9_isPart (1, 0, 0, t.length, zs t) (kIo t m) 0 [(0, .inl a0)] [] (t, m) (f_X9_isPart a0) := by
  unfold f_X9_isPart
  refine r_iload_n 0 1 0 rfl rfl rfl rfl ?_
  refine r_bipush 1 3 (v := 7) rfl rfl (by decide) ?_
  refine r_icmp_eq 2 12 6 rfl rfl rfl (fun h1 => ?_) (fun h1 => ?_)
  · refine r_iconst 6 13 (v := 1) rfl rfl (by decide) ?_
    refine r_goto 7 17 rfl rfl ?_
    exact r_zret 9 rfl rfl (by decide) rfl
  · refine r_iload_n 3 7 0 rfl rfl rfl rfl ?_
    refine r_bipush 4 9 (v := 8) rfl rfl (by decide) ?_
    refine r_icmp_ne 5 16 12 rfl rfl rfl (fun h2 => ?_) (fun h2 => ?_)
    · refine r_iconst 6 13 (v := 1) rfl rfl (by decide) ?_
      refine r_goto 7 17 rfl rfl ?_
      exact r_zret 9 rfl rfl (by decide) rfl
    · refine r_iconst 8 17 (v := 0) rfl rfl (by decide) ?_
      exact r_zret 9 rfl rfl (by decide) rfl
theorem ct_X9_isPart {t : List Sh} {m : Mi} {a0 : Int32} {v : Int32}  (h : f_X9_isPart a0 = some v) : Ct u_X9_isPart 1 0 0 [.inl a0] (t, m) (some (.inl v), (t, m)) :=
  ct_of (by decide) tk_X9_isPart (Nat.le_of_ble_eq_true rfl) (sm_X9_isPart t m a0) (by rw [h]; rfl) (Nat.le_refl _) (Nat.le_refl _)
def tb_X9_isSmall : Tb := [(0, (.iload_n 0, 1)), (1, (.bipush 97, 2)), (3, (.if_icmp .lt 13, 3)), (6, (.iload_n 0, 1)), (7, (.bipush 122, 2)), (9, (.if_icmp .gt 7, 3)), (12, (.iconst 1, 1)), (13, (.goto 4, 3)), (16, (.iconst 0, 1)), (17, (.ireturn, 1))]
def u_X9_isSmall : Fx := (yX9_isSmall, (cX9_isSmall, (1, ((some .boolean), tb_X9_isSmall))))
theorem tk_X9_isSmall : ∀ q ∈ u_X9_isSmall.2.2.2.2, decode u_X9_isSmall.2.1 q.1 = .ok q.2 := by decide +kernel
theorem mc_X9_isSmall : MC u_X9_isSmall 1 := ⟨tbm 603 (by decide +kernel) rfl, tbm 119 (by decide +kernel) rfl, ⟨by decide, by decide, by decide +kernel⟩, by decide⟩
theorem st_X9_isSmall : Cond.static u_X9_isSmall.1 ∈ TB := tbm 602 (by decide +kernel) rfl
def f_X9_isSmall (a0 : Int32) : Option (Int32) :=
  if a0 < 97 then
    some 0
  else
    if 122 < a0 then
      some 0
    else
      some 1
set_option maxRecDepth 4000 in
set_option maxHeartbeats 4000000 in
theorem sm_X9_isSmall (t : List Sh) (m : Mi) (a0 : Int32) : Sm u_X9_isSmall (1, 0, 0, t.length, zs t) (kIo t m) 0 [(0, .inl a0)] [] (t, m) (f_X9_isSmall a0) := by
  unfold f_X9_isSmall
  refine r_iload_n 0 1 0 rfl rfl rfl rfl ?_
  refine r_bipush 1 3 (v := 97) rfl rfl (by decide) ?_
  refine r_icmp_lt 2 16 6 rfl rfl rfl (fun h1 => ?_) (fun h1 => ?_)
  · refine r_iconst 8 17 (v := 0) rfl rfl (by decide) ?_
    exact r_zret 9 rfl rfl (by decide) rfl
  · refine r_iload_n 3 7 0 rfl rfl rfl rfl ?_
    refine r_bipush 4 9 (v := 122) rfl rfl (by decide) ?_
    refine r_icmp_gt 5 16 12 rfl rfl rfl (fun h2 => ?_) (fun h2 => ?_)
    · refine r_iconst 8 17 (v := 0) rfl rfl (by decide) ?_
      exact r_zret 9 rfl rfl (by decide) rfl
    · refine r_iconst 6 13 (v := 1) rfl rfl (by decide) ?_
      refine r_goto 7 17 rfl rfl ?_
      exact r_zret 9 rfl rfl (by decide) rfl
theorem ct_X9_isSmall {t : List Sh} {m : Mi} {a0 : Int32} {v : Int32}  (h : f_X9_isSmall a0 = some v) : Ct u_X9_isSmall 1 0 0 [.inl a0] (t, m) (some (.inl v), (t, m)) :=
  ct_of (by decide) tk_X9_isSmall (Nat.le_of_ble_eq_true rfl) (sm_X9_isSmall t m a0) (by rw [h]; rfl) (Nat.le_refl _) (Nat.le_refl _)
def tb_X9_kindAt : Tb := [(0, (.iload_n 1, 1)), (1, (.ifCond .lt 20, 3)), (4, (.iload_n 1, 1)), (5, (.aload_n 0, 1)), (6, (.getfield 22, 3)), (9, (.if_icmp .ge 12, 3)), (12, (.aload_n 0, 1)), (13, (.getfield 9, 3)), (16, (.iload_n 1, 1)), (17, (.baload, 1)), (18, (.goto 4, 3)), (21, (.iconst 0, 1)), (22, (.ireturn, 1))]
def u_X9_kindAt : Fx := (yX9_kindAt, (cX9_kindAt, (2, ((some .int), tb_X9_kindAt))))
theorem tk_X9_kindAt : ∀ q ∈ u_X9_kindAt.2.2.2.2, decode u_X9_kindAt.2.1 q.1 = .ok q.2 := by decide +kernel
theorem mc_X9_kindAt : MC u_X9_kindAt 1 := ⟨tbm 738 (by decide +kernel) rfl, tbm 119 (by decide +kernel) rfl, ⟨by decide, by decide, by decide +kernel⟩, by decide⟩
theorem in_X9_kindAt : Cond.instanceMethod u_X9_kindAt.1 ∈ TB ∧ Cond.selects u_X9_kindAt.1.cls u_X9_kindAt.1 u_X9_kindAt.1 ∈ TB := ⟨tbm 736 (by decide +kernel) rfl, tbm 737 (by decide +kernel) rfl⟩
def f_X9_kindAt (t : List Sh) (m : Mi) (a0 : Nat) (a1 : Int32) : Option (Int32) :=
  if a1 < 0 then
    some 0
  else
    if (gi m a0 3) ≤ a1 then
      some 0
    else
      (if ar t (gr m a0 0) .byte a1 = true then
      some (gi m (gr m a0 0) (ix a1))
      else none)
set_option maxRecDepth 4000 in
set_option maxHeartbeats 4000000 in
theorem sm_X9_kindAt (t : List Sh) (m : Mi) (a0 : Nat) (a1 : Int32) (h0 : sh t a0 = some (.inl 9)) : Sm u_X9_kindAt (1, 0, 0, t.length, zs t) (kIo t m) 0 [(0, .inr (.inr a0)), (1, .inl a1)] [] (t, m) (f_X9_kindAt t m a0 a1) := by
  unfold f_X9_kindAt
  refine r_iload_n 0 1 1 rfl rfl rfl rfl ?_
  refine r_if_lt 1 21 4 rfl rfl rfl (fun h1 => ?_) (fun h1 => ?_)
  · refine r_iconst 11 22 (v := 0) rfl rfl (by decide) ?_
    exact r_iret 12 rfl rfl rfl
  · refine r_iload_n 2 5 1 rfl rfl rfl rfl ?_
    refine r_aload_n 3 6 0 rfl rfl rfl rfl ?_
    refine r_getI 4 9 rfl rfl fl_RX9_22 rfl h0 ?_
    refine r_icmp_ge 5 21 12 rfl rfl rfl (fun h2 => ?_) (fun h2 => ?_)
    · refine r_iconst 11 22 (v := 0) rfl rfl (by decide) ?_
      exact r_iret 12 rfl rfl rfl
    · refine r_aload_n 6 13 0 rfl rfl rfl rfl ?_
      refine r_getR 7 16 rfl rfl fl_RX9_9 rfl h0 ?_
      refine r_iload_n 8 17 1 rfl rfl rfl rfl ?_
      refine r_gd (fun h3 => ?_)
      refine r_bald 9 18 rfl rfl h3 ?_
      refine r_goto 10 22 rfl rfl ?_
      exact r_iret 12 rfl rfl rfl
theorem ct_X9_kindAt {t : List Sh} {m : Mi} {a0 : Nat} {a1 : Int32} {v : Int32}  (h0 : sh t a0 = some (.inl 9)) (h : f_X9_kindAt t m a0 a1 = some v) : Ct u_X9_kindAt 1 0 0 [.inr (.inr a0), .inl a1] (t, m) (some (.inl v), (t, m)) :=
  ct_of (by decide) tk_X9_kindAt (Nat.le_of_ble_eq_true rfl) (sm_X9_kindAt t m a0 a1 h0) (by rw [h]; rfl) (Nat.le_refl _) (Nat.le_refl _)
def tb_X9_operatorSigns : Tb := [(0, (.iload_n 0, 1)), (1, (.bipush 60, 2)), (3, (.if_icmp .eq 9, 3)), (6, (.iload_n 0, 1)), (7, (.bipush 62, 2)), (9, (.if_icmp .ne 15, 3)), (12, (.iload_n 1, 1)), (13, (.bipush 61, 2)), (15, (.if_icmp .ne 7, 3)), (18, (.iconst 2, 1)), (19, (.goto 4, 3)), (22, (.iconst 1, 1)), (23, (.ireturn, 1)), (24, (.iload_n 0, 1)), (25, (.bipush 61, 2)), (27, (.if_icmp .eq 15, 3)), (30, (.iload_n 0, 1)), (31, (.bipush 94, 2)), (33, (.if_icmp .eq 9, 3)), (36, (.iload_n 0, 1)), (37, (.bipush 126, 2)), (39, (.if_icmp .ne 7, 3)), (42, (.iconst 1, 1)), (43, (.goto 4, 3)), (46, (.iconst 0, 1)), (47, (.ireturn, 1))]
def u_X9_operatorSigns : Fx := (yX9_operatorSigns, (cX9_operatorSigns, (2, ((some .int), tb_X9_operatorSigns))))
theorem tk_X9_operatorSigns : ∀ q ∈ u_X9_operatorSigns.2.2.2.2, decode u_X9_operatorSigns.2.1 q.1 = .ok q.2 := by decide +kernel
theorem mc_X9_operatorSigns : MC u_X9_operatorSigns 2 := ⟨tbm 692 (by decide +kernel) rfl, tbm 119 (by decide +kernel) rfl, ⟨by decide, by decide, by decide +kernel⟩, by decide⟩
theorem st_X9_operatorSigns : Cond.static u_X9_operatorSigns.1 ∈ TB := tbm 691 (by decide +kernel) rfl
def f_X9_operatorSigns_j12 (a1 : Int32) : Option (Int32) :=
  if a1 = 61 then
    some 2
  else
    some 1
def f_X9_operatorSigns (a0 : Int32) (a1 : Int32) : Option (Int32) :=
  if a0 = 60 then
    f_X9_operatorSigns_j12 a1
  else
    if a0 = 62 then
      f_X9_operatorSigns_j12 a1
    else
      if a0 = 61 then
        some 1
      else
        if a0 = 94 then
          some 1
        else
          if a0 = 126 then
            some 1
          else
            some 0
set_option maxRecDepth 4000 in
set_option maxHeartbeats 4000000 in
theorem sm_X9_operatorSigns (t : List Sh) (m : Mi) (a0 : Int32) (a1 : Int32) : Sm u_X9_operatorSigns (1, 0, 0, t.length, zs t) (kIo t m) 0 [(0, .inl a0), (1, .inl a1)] [] (t, m) (f_X9_operatorSigns a0 a1) := by
  unfold f_X9_operatorSigns
  refine r_iload_n 0 1 0 rfl rfl rfl rfl ?_
  refine r_bipush 1 3 (v := 60) rfl rfl (by decide) ?_
  have hj12 : Sm u_X9_operatorSigns (1, 0, 0, t.length, zs t) (kIo t m) 12 [(1, .inl a1)] [] (t, m) (f_X9_operatorSigns_j12 a1) := by
    unfold f_X9_operatorSigns_j12
    refine r_iload_n 6 13 0 rfl rfl rfl rfl ?_
    refine r_bipush 7 15 (v := 61) rfl rfl (by decide) ?_
    refine r_icmp_ne 8 22 18 rfl rfl rfl (fun h1 => ?_) (fun h1 => ?_)
    · refine r_iconst 9 19 (v := 2) rfl rfl (by decide) ?_
      refine r_goto 10 23 rfl rfl ?_
      exact r_iret 12 rfl rfl rfl
    · refine r_iconst 11 23 (v := 1) rfl rfl (by decide) ?_
      exact r_iret 12 rfl rfl rfl
  refine r_icmp_eq 2 12 6 rfl rfl rfl (fun h2 => ?_) (fun h2 => ?_)
  · exact r_sub [1] rfl (hj12)
  · refine r_iload_n 3 7 0 rfl rfl rfl rfl ?_
    refine r_bipush 4 9 (v := 62) rfl rfl (by decide) ?_
    refine r_icmp_ne 5 24 12 rfl rfl rfl (fun h3 => ?_) (fun h3 => ?_)
    · exact r_sub [1] rfl (hj12)
    · refine r_iload_n 13 25 0 rfl rfl rfl rfl ?_
      refine r_bipush 14 27 (v := 61) rfl rfl (by decide) ?_
      refine r_icmp_eq 15 42 30 rfl rfl rfl (fun h4 => ?_) (fun h4 => ?_)
      · refine r_iconst 22 43 (v := 1) rfl rfl (by decide) ?_
        refine r_goto 23 47 rfl rfl ?_
        exact r_iret 25 rfl rfl rfl
      · refine r_iload_n 16 31 0 rfl rfl rfl rfl ?_
        refine r_bipush 17 33 (v := 94) rfl rfl (by decide) ?_
        refine r_icmp_eq 18 42 36 rfl rfl rfl (fun h5 => ?_) (fun h5 => ?_)
        · refine r_iconst 22 43 (v := 1) rfl rfl (by decide) ?_
          refine r_goto 23 47 rfl rfl ?_
          exact r_iret 25 rfl rfl rfl
        · refine r_iload_n 19 37 0 rfl rfl rfl rfl ?_
          refine r_bipush 20 39 (v := 126) rfl rfl (by decide) ?_
          refine r_icmp_ne 21 46 42 rfl rfl rfl (fun h6 => ?_) (fun h6 => ?_)
          · refine r_iconst 22 43 (v := 1) rfl rfl (by decide) ?_
            refine r_goto 23 47 rfl rfl ?_
            exact r_iret 25 rfl rfl rfl
          · refine r_iconst 24 47 (v := 0) rfl rfl (by decide) ?_
            exact r_iret 25 rfl rfl rfl
theorem ct_X9_operatorSigns {t : List Sh} {m : Mi} {a0 : Int32} {a1 : Int32} {v : Int32}  (h : f_X9_operatorSigns a0 a1 = some v) : Ct u_X9_operatorSigns 1 0 0 [.inl a0, .inl a1] (t, m) (some (.inl v), (t, m)) :=
  ct_of (by decide) tk_X9_operatorSigns (Nat.le_of_ble_eq_true rfl) (sm_X9_operatorSigns t m a0 a1) (by rw [h]; rfl) (Nat.le_refl _) (Nat.le_refl _)
def tb_X9_placeAt : Tb := [(0, (.iload_n 1, 1)), (1, (.ifCond .lt 20, 3)), (4, (.iload_n 1, 1)), (5, (.aload_n 0, 1)), (6, (.getfield 22, 3)), (9, (.if_icmp .ge 12, 3)), (12, (.aload_n 0, 1)), (13, (.getfield 15, 3)), (16, (.iload_n 1, 1)), (17, (.iaload, 1)), (18, (.goto 7, 3)), (21, (.aload_n 0, 1)), (22, (.getfield 29, 3)), (25, (.ireturn, 1))]
def u_X9_placeAt : Fx := (yX9_placeAt, (cX9_placeAt, (2, ((some .int), tb_X9_placeAt))))
theorem tk_X9_placeAt : ∀ q ∈ u_X9_placeAt.2.2.2.2, decode u_X9_placeAt.2.1 q.1 = .ok q.2 := by decide +kernel
theorem mc_X9_placeAt : MC u_X9_placeAt 1 := ⟨tbm 750 (by decide +kernel) rfl, tbm 119 (by decide +kernel) rfl, ⟨by decide, by decide, by decide +kernel⟩, by decide⟩
theorem in_X9_placeAt : Cond.instanceMethod u_X9_placeAt.1 ∈ TB ∧ Cond.selects u_X9_placeAt.1.cls u_X9_placeAt.1 u_X9_placeAt.1 ∈ TB := ⟨tbm 748 (by decide +kernel) rfl, tbm 749 (by decide +kernel) rfl⟩
def f_X9_placeAt (t : List Sh) (m : Mi) (a0 : Nat) (a1 : Int32) : Option (Int32) :=
  if a1 < 0 then
    some (gi m a0 5)
  else
    if (gi m a0 3) ≤ a1 then
      some (gi m a0 5)
    else
      (if ar t (gr m a0 1) .int a1 = true then
      some (gi m (gr m a0 1) (ix a1))
      else none)
set_option maxRecDepth 4000 in
set_option maxHeartbeats 4000000 in
theorem sm_X9_placeAt (t : List Sh) (m : Mi) (a0 : Nat) (a1 : Int32) (h0 : sh t a0 = some (.inl 9)) : Sm u_X9_placeAt (1, 0, 0, t.length, zs t) (kIo t m) 0 [(0, .inr (.inr a0)), (1, .inl a1)] [] (t, m) (f_X9_placeAt t m a0 a1) := by
  unfold f_X9_placeAt
  refine r_iload_n 0 1 1 rfl rfl rfl rfl ?_
  refine r_if_lt 1 21 4 rfl rfl rfl (fun h1 => ?_) (fun h1 => ?_)
  · refine r_aload_n 11 22 0 rfl rfl rfl rfl ?_
    refine r_getI 12 25 rfl rfl fl_RX9_29 rfl h0 ?_
    exact r_iret 13 rfl rfl rfl
  · refine r_iload_n 2 5 1 rfl rfl rfl rfl ?_
    refine r_aload_n 3 6 0 rfl rfl rfl rfl ?_
    refine r_getI 4 9 rfl rfl fl_RX9_22 rfl h0 ?_
    refine r_icmp_ge 5 21 12 rfl rfl rfl (fun h2 => ?_) (fun h2 => ?_)
    · refine r_aload_n 11 22 0 rfl rfl rfl rfl ?_
      refine r_getI 12 25 rfl rfl fl_RX9_29 rfl h0 ?_
      exact r_iret 13 rfl rfl rfl
    · refine r_aload_n 6 13 0 rfl rfl rfl rfl ?_
      refine r_getR 7 16 rfl rfl fl_RX9_15 rfl h0 ?_
      refine r_iload_n 8 17 1 rfl rfl rfl rfl ?_
      refine r_gd (fun h3 => ?_)
      refine r_iald 9 18 rfl rfl h3 ?_
      refine r_goto 10 25 rfl rfl ?_
      exact r_iret 13 rfl rfl rfl
theorem ct_X9_placeAt {t : List Sh} {m : Mi} {a0 : Nat} {a1 : Int32} {v : Int32}  (h0 : sh t a0 = some (.inl 9)) (h : f_X9_placeAt t m a0 a1 = some v) : Ct u_X9_placeAt 1 0 0 [.inr (.inr a0), .inl a1] (t, m) (some (.inl v), (t, m)) :=
  ct_of (by decide) tk_X9_placeAt (Nat.le_of_ble_eq_true rfl) (sm_X9_placeAt t m a0 a1 h0) (by rw [h]; rfl) (Nat.le_refl _) (Nat.le_refl _)
theorem fl_RX9_26 : FL RX9 26 9 4 false := ⟨RX9, TX9, 7, rfl, inW9, tyX9_ok, nmX9, by decide, rfl, rfl, rfl, tbm 213 (by decide +kernel) rfl⟩
def tb_X9_signAt : Tb := [(0, (.aload_n 0, 1)), (1, (.getfield 26, 3)), (4, (.ifnull 24, 3)), (7, (.iload_n 1, 1)), (8, (.ifCond .lt 20, 3)), (11, (.iload_n 1, 1)), (12, (.aload_n 0, 1)), (13, (.getfield 29, 3)), (16, (.if_icmp .ge 12, 3)), (19, (.iload_n 1, 1)), (20, (.aload_n 0, 1)), (21, (.getfield 26, 3)), (24, (.arraylength, 1)), (25, (.if_icmp .lt 5, 3)), (28, (.iconst (-1), 1)), (29, (.ireturn, 1)), (30, (.aload_n 0, 1)), (31, (.getfield 26, 3)), (34, (.iload_n 1, 1)), (35, (.baload, 1)), (36, (.sipush 255, 3)), (39, (.iand, 1)), (40, (.ireturn, 1))]
def u_X9_signAt : Fx := (yX9_signAt, (cX9_signAt, (2, ((some .int), tb_X9_signAt))))
theorem tk_X9_signAt : ∀ q ∈ u_X9_signAt.2.2.2.2, decode u_X9_signAt.2.1 q.1 = .ok q.2 := by decide +kernel
theorem mc_X9_signAt : MC u_X9_signAt 1 := ⟨tbm 597 (by decide +kernel) rfl, tbm 119 (by decide +kernel) rfl, ⟨by decide, by decide, by decide +kernel⟩, by decide⟩
theorem in_X9_signAt : Cond.instanceMethod u_X9_signAt.1 ∈ TB ∧ Cond.selects u_X9_signAt.1.cls u_X9_signAt.1 u_X9_signAt.1 ∈ TB := ⟨tbm 596 (by decide +kernel) rfl, tbm 3 (by decide +kernel) rfl⟩
def f_X9_signAt (t : List Sh) (m : Mi) (a0 : Nat) (a1 : Int32) : Option (Int32) :=
  if (gr m a0 4) = 0 then
    some (-1)
  else
    if a1 < 0 then
      some (-1)
    else
      if (gi m a0 5) ≤ a1 then
        some (-1)
      else
        (if aa t (gr m a0 4) .byte = true then
        if a1 < (Int32.ofNat (ln t (gr m a0 4))) then
          (if ar t (gr m a0 4) .byte a1 = true then
          some ((gi m (gr m a0 4) (ix a1)) &&& 255)
          else none)
        else
          some (-1)
        else none)
set_option maxRecDepth 4000 in
set_option maxHeartbeats 4000000 in
theorem sm_X9_signAt (t : List Sh) (m : Mi) (a0 : Nat) (a1 : Int32) (h0 : sh t a0 = some (.inl 9)) : Sm u_X9_signAt (1, 0, 0, t.length, zs t) (kIo t m) 0 [(0, .inr (.inr a0)), (1, .inl a1)] [] (t, m) (f_X9_signAt t m a0 a1) := by
  unfold f_X9_signAt
  refine r_aload_n 0 1 0 rfl rfl rfl rfl ?_
  refine r_getR 1 4 rfl rfl fl_RX9_26 rfl h0 ?_
  refine r_ifnull 2 28 7 rfl rfl rfl (fun h1 => ?_) (fun h1 => ?_)
  · refine r_iconst 14 29 (v := (-1)) rfl rfl (by decide) ?_
    exact r_iret 15 rfl rfl rfl
  · refine r_iload_n 3 8 1 rfl rfl rfl rfl ?_
    refine r_if_lt 4 28 11 rfl rfl rfl (fun h2 => ?_) (fun h2 => ?_)
    · refine r_iconst 14 29 (v := (-1)) rfl rfl (by decide) ?_
      exact r_iret 15 rfl rfl rfl
    · refine r_iload_n 5 12 1 rfl rfl rfl rfl ?_
      refine r_aload_n 6 13 0 rfl rfl rfl rfl ?_
      refine r_getI 7 16 rfl rfl fl_RX9_29 rfl h0 ?_
      refine r_icmp_ge 8 28 19 rfl rfl rfl (fun h3 => ?_) (fun h3 => ?_)
      · refine r_iconst 14 29 (v := (-1)) rfl rfl (by decide) ?_
        exact r_iret 15 rfl rfl rfl
      · refine r_iload_n 9 20 1 rfl rfl rfl rfl ?_
        refine r_aload_n 10 21 0 rfl rfl rfl rfl ?_
        refine r_getR 11 24 rfl rfl fl_RX9_26 rfl h0 ?_
        refine r_gd (fun h4 => ?_)
        refine r_alen 12 25 2 rfl rfl (fun _ => rfl) h4 ?_
        refine r_icmp_lt 13 30 28 rfl rfl rfl (fun h5 => ?_) (fun h5 => ?_)
        · refine r_aload_n 16 31 0 rfl rfl rfl rfl ?_
          refine r_getR 17 34 rfl rfl fl_RX9_26 rfl h0 ?_
          refine r_iload_n 18 35 1 rfl rfl rfl rfl ?_
          refine r_gd (fun h6 => ?_)
          refine r_bald 19 36 rfl rfl h6 ?_
          refine r_sipush 20 39 (v := 255) rfl rfl (by decide) ?_
          refine r_iand 21 40 rfl rfl ?_
          exact r_iret 22 rfl rfl rfl
        · refine r_iconst 14 29 (v := (-1)) rfl rfl (by decide) ?_
          exact r_iret 15 rfl rfl rfl
theorem ct_X9_signAt {t : List Sh} {m : Mi} {a0 : Nat} {a1 : Int32} {v : Int32}  (h0 : sh t a0 = some (.inl 9)) (h : f_X9_signAt t m a0 a1 = some v) : Ct u_X9_signAt 1 0 0 [.inr (.inr a0), .inl a1] (t, m) (some (.inl v), (t, m)) :=
  ct_of (by decide) tk_X9_signAt (Nat.le_of_ble_eq_true rfl) (sm_X9_signAt t m a0 a1 h0) (by rw [h]; rfl) (Nat.le_refl _) (Nat.le_refl _)
def tb_X9_size : Tb := [(0, (.aload_n 0, 1)), (1, (.getfield 22, 3)), (4, (.ireturn, 1))]
def u_X9_size : Fx := (yX9_size, (cX9_size, (1, ((some .int), tb_X9_size))))
theorem tk_X9_size : ∀ q ∈ u_X9_size.2.2.2.2, decode u_X9_size.2.1 q.1 = .ok q.2 := by decide +kernel
theorem mc_X9_size : MC u_X9_size 0 := ⟨tbm 817 (by decide +kernel) rfl, tbm 119 (by decide +kernel) rfl, ⟨by decide, by decide, by decide +kernel⟩, by decide⟩
theorem in_X9_size : Cond.instanceMethod u_X9_size.1 ∈ TB ∧ Cond.selects u_X9_size.1.cls u_X9_size.1 u_X9_size.1 ∈ TB := ⟨tbm 815 (by decide +kernel) rfl, tbm 816 (by decide +kernel) rfl⟩
def f_X9_size (t : List Sh) (m : Mi) (a0 : Nat) : Option (Int32) :=
  some (gi m a0 3)
set_option maxRecDepth 4000 in
set_option maxHeartbeats 4000000 in
theorem sm_X9_size (t : List Sh) (m : Mi) (a0 : Nat) (h0 : sh t a0 = some (.inl 9)) : Sm u_X9_size (1, 0, 0, t.length, zs t) (kIo t m) 0 [(0, .inr (.inr a0))] [] (t, m) (f_X9_size t m a0) := by
  unfold f_X9_size
  refine r_aload_n 0 1 0 rfl rfl rfl rfl ?_
  refine r_getI 1 4 rfl rfl fl_RX9_22 rfl h0 ?_
  exact r_iret 2 rfl rfl rfl
theorem ct_X9_size {t : List Sh} {m : Mi} {a0 : Nat} {v : Int32}  (h0 : sh t a0 = some (.inl 9)) (h : f_X9_size t m a0 = some v) : Ct u_X9_size 1 0 0 [.inr (.inr a0)] (t, m) (some (.inl v), (t, m)) :=
  ct_of (by decide) tk_X9_size (Nat.le_of_ble_eq_true rfl) (sm_X9_size t m a0 h0) (by rw [h]; rfl) (Nat.le_refl _) (Nat.le_refl _)
theorem lk_RX9_77 : Cond.methodLink RX9 77 yX9_add ∈ TB := tbm 618 (by decide +kernel) rfl
def tb_X9_addWrong : Tb := [(0, (.aload_n 0, 1)), (1, (.iconst 1, 1)), (2, (.iload_n 1, 1)), (3, (.aload_n 0, 1)), (4, (.getfield 29, 3)), (7, (.invokevirtual 77, 3)), (10, (.pop, 1)), (11, (.aload_n 0, 1)), (12, (.getfield 29, 3)), (15, (.ireturn, 1))]
def u_X9_addWrong : Fx := (yX9_addWrong, (cX9_addWrong, (2, ((some .int), tb_X9_addWrong))))
theorem tk_X9_addWrong : ∀ q ∈ u_X9_addWrong.2.2.2.2, decode u_X9_addWrong.2.1 q.1 = .ok q.2 := by decide +kernel
theorem mc_X9_addWrong : MC u_X9_addWrong 1 := ⟨tbm 617 (by decide +kernel) rfl, tbm 119 (by decide +kernel) rfl, ⟨by decide, by decide, by decide +kernel⟩, by decide⟩
theorem in_X9_addWrong : Cond.instanceMethod u_X9_addWrong.1 ∈ TB ∧ Cond.selects u_X9_addWrong.1.cls u_X9_addWrong.1 u_X9_addWrong.1 ∈ TB := ⟨tbm 616 (by decide +kernel) rfl, tbm 5 (by decide +kernel) rfl⟩
def f_X9_addWrong (t : List Sh) (m : Mi) (a0 : Nat) (a1 : Int32) : Option (Int32 × Mi) :=
  bd (f_X9_add t m a0 1 a1 (gi m a0 5)) fun x1 m2 =>
  some (gi m2 a0 5, m2)
set_option maxRecDepth 4000 in
set_option maxHeartbeats 4000000 in
theorem sm_X9_addWrong (t : List Sh) (m : Mi) (a0 : Nat) (a1 : Int32) (h0 : sh t a0 = some (.inl 9)) : Sm u_X9_addWrong (2, 0, 0, t.length, zs t) (kI t) 0 [(0, .inr (.inr a0)), (1, .inl a1)] [] (t, m) (f_X9_addWrong t m a0 a1) := by
  unfold f_X9_addWrong
  refine r_aload_n 0 1 0 rfl rfl rfl rfl ?_
  refine r_iconst 1 2 (v := 1) rfl rfl (by decide) ?_
  refine r_iload_n 2 3 1 rfl rfl rfl rfl ?_
  refine r_aload_n 3 4 0 rfl rfl rfl rfl ?_
  refine r_getI 4 7 rfl rfl fl_RX9_29 rfl h0 ?_
  refine r_VI 5 10 (st := []) (av := [.inr (.inr a0), .inl 1, .inl a1, .inl (gi m a0 5)]) (av' := [.inl 1, .inl a1, .inl (gi m a0 5)]) (μ' := u_X9_add) (d := 1) rfl rfl mc_X9_add in_X9_add lk_RX9_77 (Nat.le_of_ble_eq_true rfl) rfl rfl h0 rfl (Nat.le_of_ble_eq_true rfl) (fun _ _ h => ct_X9_add h0 h) (fun x1 m2 => ?_)
  refine r_pop 6 11 rfl rfl rfl ?_
  refine r_aload_n 7 12 0 rfl rfl rfl rfl ?_
  refine r_getI 8 15 rfl rfl fl_RX9_29 rfl h0 ?_
  exact r_iret 9 rfl rfl rfl
theorem ct_X9_addWrong {t : List Sh} {m : Mi} {a0 : Nat} {a1 : Int32} {m' : Mi} {v : Int32}  (h0 : sh t a0 = some (.inl 9)) (h : f_X9_addWrong t m a0 a1 = some (v, m')) : Ct u_X9_addWrong 2 0 0 [.inr (.inr a0), .inl a1] (t, m) (some (.inl v), (t, m')) :=
  ct_of (by decide) tk_X9_addWrong (Nat.le_of_ble_eq_true rfl) (sm_X9_addWrong t m a0 a1 h0) (by rw [h]; rfl) (Nat.le_refl _) (Nat.le_refl _)
theorem lk_RX9_3 : Cond.methodLink RX9 3 Lib.objectInit ∈ TB := tbm 206 (by decide +kernel) rfl
theorem wd_160 : Cond.arrayClass .byte ∈ TB := tbm 160 (by decide +kernel) rfl
theorem wd_231 : Cond.arrayClass .int ∈ TB := tbm 231 (by decide +kernel) rfl
theorem wd_207 : Cond.classLink RX9 32 RX10 ∈ TB := tbm 207 (by decide +kernel) rfl
theorem wd_177 : Cond.instantiable RX10 (fN 10) ∈ TB := tbm 177 (by decide +kernel) rfl
theorem wd_117 : Cond.initialized RX10 ∈ TB := tbm 117 (by decide +kernel) rfl
theorem lk_RX9_34 : Cond.methodLink RX9 34 yX10_init ∈ TB := tbm 208 (by decide +kernel) rfl
theorem fl_RX9_35 : FL RX9 35 9 6 true := ⟨RX9, TX9, 7, rfl, inW9, tyX9_ok, nmX9, by decide, rfl, rfl, rfl, tbm 215 (by decide +kernel) rfl⟩
def tb_X9_init : Tb := [(0, (.aload_n 0, 1)), (1, (.invokespecial 3, 3)), (4, (.aload_n 0, 1)), (5, (.sipush 2000, 3)), (8, (.newarray .byte, 2)), (10, (.putfield 9, 3)), (13, (.aload_n 0, 1)), (14, (.sipush 2000, 3)), (17, (.newarray .int, 2)), (19, (.putfield 15, 3)), (22, (.aload_n 0, 1)), (23, (.sipush 2000, 3)), (26, (.newarray .int, 2)), (28, (.putfield 19, 3)), (31, (.aload_n 0, 1)), (32, (.iconst 0, 1)), (33, (.putfield 22, 3)), (36, (.aload_n 0, 1)), (37, (.aconst_null, 1)), (38, (.putfield 26, 3)), (41, (.aload_n 0, 1)), (42, (.iconst 0, 1)), (43, (.putfield 29, 3)), (46, (.aload_n 0, 1)), (47, (.new 32, 3)), (50, (.dup, 1)), (51, (.invokespecial 34, 3)), (54, (.putfield 35, 3)), (57, (.return_, 1))]
def u_X9_init : Fx := (yX9_init, (cX9_init, (1, (none, tb_X9_init))))
theorem tk_X9_init : ∀ q ∈ u_X9_init.2.2.2.2, decode u_X9_init.2.1 q.1 = .ok q.2 := by decide +kernel
theorem mc_X9_init : MC u_X9_init 0 := ⟨tbm 205 (by decide +kernel) rfl, tbm 119 (by decide +kernel) rfl, ⟨by decide, by decide, by decide +kernel⟩, by decide⟩
theorem ini_X9_init : Cond.instanceMethod u_X9_init.1 ∈ TB := tbm 204 (by decide +kernel) rfl
set_option maxRecDepth 20000 in
def f_X9_init (t : List Sh) (m : Mi) (a0 : Nat) : Option (Mm) :=
  (if t.length < 1000000 then
  lt (t.length + 1) fun r2 =>
  lt (t ++ [.inr (.byte, ix 2000)]) fun t3 =>
  lt (zr m (t.length + 1)) fun m4 =>
  (if ob t3 a0 9 = true then
  lt (sr m4 a0 0 r2) fun m6 =>
  (if t3.length < 1000000 then
  lt (t3.length + 1) fun r8 =>
  lt (t3 ++ [.inr (.int, ix 2000)]) fun t9 =>
  lt (zr m6 (t3.length + 1)) fun m10 =>
  (if ob t9 a0 9 = true then
  lt (sr m10 a0 1 r8) fun m12 =>
  (if t9.length < 1000000 then
  lt (t9.length + 1) fun r14 =>
  lt (t9 ++ [.inr (.int, ix 2000)]) fun t15 =>
  lt (zr m12 (t9.length + 1)) fun m16 =>
  (if ob t15 a0 9 = true then
  lt (sr m16 a0 2 r14) fun m18 =>
  lt (si m18 a0 3 0) fun m19 =>
  lt (sr m19 a0 4 0) fun m20 =>
  lt (si m20 a0 5 0) fun m21 =>
  (if t15.length < 1000000 then
  lt (t15.length + 1) fun r23 =>
  lt (t15 ++ [.inl 10]) fun t24 =>
  lt (zr m21 (t15.length + 1)) fun m25 =>
  (if ob t24 r23 10 = true then
  bd (f_X10_init t24 m25 r23) fun t28 m27 =>
  (if ob t28 a0 9 = true then
  lt (sr m27 a0 6 r23) fun m30 =>
  some (t28, m30)
  else none)
  else none)
  else none)
  else none)
  else none)
  else none)
  else none)
  else none)
  else none)
set_option maxRecDepth 40000 in
set_option maxHeartbeats 4000000 in
theorem sm_X9_init (e2 : Nat × (Nat × (Nat × Nat))) (t : List Sh) (m : Mi) (a0 : Nat) (h0 : sh t a0 = some (.inl 9)) : Sm u_X9_init (2, e2) kA 0 [(0, .inr (.inr a0))] [] (t, m) (f_X9_init t m a0) := by
  unfold f_X9_init
  refine r_aload_n 0 1 0 rfl rfl rfl rfl ?_
  refine r_objI 1 4 rfl rfl lk_RX9_3 (Nat.le_of_ble_eq_true rfl) (Nat.le_of_ble_eq_true rfl) h0 ?_
  refine r_aload_n 2 5 0 rfl rfl rfl rfl ?_
  refine r_sipush 3 8 (v := 2000) rfl rfl (by decide) ?_
  refine r_gd (fun h1 => ?_)
  refine r_newa 4 10 (ty := .byte) (q := 2) rfl rfl h1 rfl (by decide) (fun _ => rfl) wd_160 (by decide) (by decide) ?_
  refine r_ltR (fun r2 => ?_)
  refine r_ltT (fun t3 => ?_)
  refine r_ltM (fun m4 => ?_)
  refine r_gd (fun h5 => ?_)
  refine r_putR 5 13 rfl rfl fl_RX9_9 (fun _ => ⟨rfl, rfl⟩) rfl (ob_sh h5) ?_
  refine r_ltM (fun m6 => ?_)
  refine r_aload_n 6 14 0 rfl rfl rfl rfl ?_
  refine r_sipush 7 17 (v := 2000) rfl rfl (by decide) ?_
  refine r_gd (fun h7 => ?_)
  refine r_newa 8 19 (ty := .int) (q := 0) rfl rfl h7 rfl (by decide) (fun _ => rfl) wd_231 (by decide) (by decide) ?_
  refine r_ltR (fun r8 => ?_)
  refine r_ltT (fun t9 => ?_)
  refine r_ltM (fun m10 => ?_)
  refine r_gd (fun h11 => ?_)
  refine r_putR 9 22 rfl rfl fl_RX9_15 (fun _ => ⟨rfl, rfl⟩) rfl (ob_sh h11) ?_
  refine r_ltM (fun m12 => ?_)
  refine r_aload_n 10 23 0 rfl rfl rfl rfl ?_
  refine r_sipush 11 26 (v := 2000) rfl rfl (by decide) ?_
  refine r_gd (fun h13 => ?_)
  refine r_newa 12 28 (ty := .int) (q := 0) rfl rfl h13 rfl (by decide) (fun _ => rfl) wd_231 (by decide) (by decide) ?_
  refine r_ltR (fun r14 => ?_)
  refine r_ltT (fun t15 => ?_)
  refine r_ltM (fun m16 => ?_)
  refine r_gd (fun h17 => ?_)
  refine r_putR 13 31 rfl rfl fl_RX9_19 (fun _ => ⟨rfl, rfl⟩) rfl (ob_sh h17) ?_
  refine r_ltM (fun m18 => ?_)
  refine r_aload_n 14 32 0 rfl rfl rfl rfl ?_
  refine r_iconst 15 33 (v := 0) rfl rfl (by decide) ?_
  refine r_putI 16 36 rfl rfl fl_RX9_22 (fun h => by cases h) (Or.inl rfl) (ob_sh h17) ?_
  refine r_ltM (fun m19 => ?_)
  refine r_aload_n 17 37 0 rfl rfl rfl rfl ?_
  refine r_null 18 38 rfl rfl ?_
  refine r_putR 19 41 rfl rfl fl_RX9_26 (fun h => by cases h) rfl (ob_sh h17) ?_
  refine r_ltM (fun m20 => ?_)
  refine r_aload_n 20 42 0 rfl rfl rfl rfl ?_
  refine r_iconst 21 43 (v := 0) rfl rfl (by decide) ?_
  refine r_putI 22 46 rfl rfl fl_RX9_29 (fun h => by cases h) (Or.inl rfl) (ob_sh h17) ?_
  refine r_ltM (fun m21 => ?_)
  refine r_aload_n 23 47 0 rfl rfl rfl rfl ?_
  refine r_gd (fun h22 => ?_)
  refine r_new 24 50 (c := 10) rfl rfl h22 rfl inW10 tyX10_ok wd_207 wd_177 wd_117 (by decide) ?_
  refine r_ltR (fun r23 => ?_)
  refine r_ltT (fun t24 => ?_)
  refine r_ltM (fun m25 => ?_)
  refine r_dup 25 51 rfl rfl rfl ?_
  refine r_gd (fun h26 => ?_)
  refine r_IA 26 54 (st := [.inr (.inr r23), .inr (.inr a0)]) (av := [.inr (.inr r23)]) (av' := []) (μ' := u_X10_init) (d := 1) rfl rfl mc_X10_init rfl rfl ini_X10_init lk_RX9_34 (Nat.le_of_ble_eq_true rfl) rfl rfl (ob_sh h26) (Nat.le_of_ble_eq_true rfl) (fun _ h => ct_X10_init (ob_sh h26) h) (fun _ h => mn_X10_init (ob_sh h26) h) (fun t28 m27 => ?_)
  refine r_gd (fun h29 => ?_)
  refine r_putR 27 57 rfl rfl fl_RX9_35 (fun _ => ⟨rfl, rfl⟩) rfl (ob_sh h29) ?_
  refine r_ltM (fun m30 => ?_)
  exact r_vret 28 rfl rfl rfl
theorem mn_X9_init {t : List Sh} {m : Mi} {a0 : Nat} {q : Mm} (h0 : sh t a0 = some (.inl 9)) (h : f_X9_init t m a0 = some q) : t.length ≤ q.1.length ∧ zs t ≤ zs q.1 := ((sm_X9_init (0, 0, 0, 0) t m a0 h0) (none, q) (by rw [h]; rfl)).1
theorem ct_X9_init {t : List Sh} {m : Mi} {a0 : Nat} {q : Mm} (h0 : sh t a0 = some (.inl 9)) (h : f_X9_init t m a0 = some q) : Ct u_X9_init 2 (q.1.length - t.length) (zs q.1 - zs t) [.inr (.inr a0)] (t, m) (none, q) := by
  have hm := mn_X9_init h0 h
  exact ct_of (by decide) tk_X9_init (Nat.le_of_ble_eq_true rfl) (sm_X9_init (q.1.length - t.length, zs q.1 - zs t, t.length, zs t) t m a0 h0) (by rw [h]; rfl) (by show q.1.length ≤ t.length + (q.1.length - t.length); omega) (by show zs q.1 ≤ zs t + (zs q.1 - zs t); omega)
theorem lk_RX9_56 : Cond.methodLink RX9 56 yX9_isSmall ∈ TB := tbm 601 (by decide +kernel) rfl
theorem lk_RX9_113 : Cond.methodLink RX9 113 yX10_isDigit ∈ TB := tbm 611 (by decide +kernel) rfl
def tb_X9_isNameSign : Tb := [(0, (.iload_n 0, 1)), (1, (.invokestatic 56, 3)), (4, (.ifCond .ne 16, 3)), (7, (.iload_n 0, 1)), (8, (.invokestatic 113, 3)), (11, (.ifCond .ne 9, 3)), (14, (.iload_n 0, 1)), (15, (.bipush 95, 2)), (17, (.if_icmp .ne 7, 3)), (20, (.iconst 1, 1)), (21, (.goto 4, 3)), (24, (.iconst 0, 1)), (25, (.ireturn, 1))]
def u_X9_isNameSign : Fx := (yX9_isNameSign, (cX9_isNameSign, (1, ((some .boolean), tb_X9_isNameSign))))
theorem tk_X9_isNameSign : ∀ q ∈ u_X9_isNameSign.2.2.2.2, decode u_X9_isNameSign.2.1 q.1 = .ok q.2 := by decide +kernel
theorem mc_X9_isNameSign : MC u_X9_isNameSign 1 := ⟨tbm 610 (by decide +kernel) rfl, tbm 119 (by decide +kernel) rfl, ⟨by decide, by decide, by decide +kernel⟩, by decide⟩
theorem st_X9_isNameSign : Cond.static u_X9_isNameSign.1 ∈ TB := tbm 609 (by decide +kernel) rfl
def f_X9_isNameSign (a0 : Int32) : Option (Int32) :=
  (f_X9_isSmall a0).bind fun x1 =>
  if x1 = 0 then
    (f_X10_isDigit a0).bind fun x3 =>
    if x3 = 0 then
      if a0 = 95 then
        some 1
      else
        some 0
    else
      some 1
  else
    some 1
set_option maxRecDepth 4000 in
set_option maxHeartbeats 4000000 in
theorem sm_X9_isNameSign (t : List Sh) (m : Mi) (a0 : Int32) : Sm u_X9_isNameSign (2, 0, 0, t.length, zs t) (kIo t m) 0 [(0, .inl a0)] [] (t, m) (f_X9_isNameSign a0) := by
  unfold f_X9_isNameSign
  refine r_iload_n 0 1 0 rfl rfl rfl rfl ?_
  refine r_SIo 1 4 (a := 0) (cn := 0) (st := []) (av := [.inl a0]) (μ' := u_X9_isSmall) (d := 1) rfl rfl mc_X9_isSmall st_X9_isSmall lk_RX9_56 (Nat.le_of_ble_eq_true rfl) rfl (Nat.le_of_ble_eq_true rfl) (fun _ h => ct_X9_isSmall h) (fun x1 => ?_)
  refine r_if_ne 2 20 7 rfl rfl rfl (fun h2 => ?_) (fun h2 => ?_)
  · refine r_iload_n 3 8 0 rfl rfl rfl rfl ?_
    refine r_SIo 4 11 (a := 0) (cn := 0) (st := []) (av := [.inl a0]) (μ' := u_X10_isDigit) (d := 1) rfl rfl mc_X10_isDigit st_X10_isDigit lk_RX9_113 (Nat.le_of_ble_eq_true rfl) rfl (Nat.le_of_ble_eq_true rfl) (fun _ h => ct_X10_isDigit h) (fun x3 => ?_)
    refine r_if_ne 5 20 14 rfl rfl rfl (fun h4 => ?_) (fun h4 => ?_)
    · refine r_iload_n 6 15 0 rfl rfl rfl rfl ?_
      refine r_bipush 7 17 (v := 95) rfl rfl (by decide) ?_
      refine r_icmp_ne 8 24 20 rfl rfl rfl (fun h5 => ?_) (fun h5 => ?_)
      · refine r_iconst 9 21 (v := 1) rfl rfl (by decide) ?_
        refine r_goto 10 25 rfl rfl ?_
        exact r_zret 12 rfl rfl (by decide) rfl
      · refine r_iconst 11 25 (v := 0) rfl rfl (by decide) ?_
        exact r_zret 12 rfl rfl (by decide) rfl
    · refine r_iconst 9 21 (v := 1) rfl rfl (by decide) ?_
      refine r_goto 10 25 rfl rfl ?_
      exact r_zret 12 rfl rfl (by decide) rfl
  · refine r_iconst 9 21 (v := 1) rfl rfl (by decide) ?_
    refine r_goto 10 25 rfl rfl ?_
    exact r_zret 12 rfl rfl (by decide) rfl
theorem ct_X9_isNameSign {t : List Sh} {m : Mi} {a0 : Int32} {v : Int32}  (h : f_X9_isNameSign a0 = some v) : Ct u_X9_isNameSign 2 0 0 [.inl a0] (t, m) (some (.inl v), (t, m)) :=
  ct_of (by decide) tk_X9_isNameSign (Nat.le_of_ble_eq_true rfl) (sm_X9_isNameSign t m a0) (by rw [h]; rfl) (Nat.le_refl _) (Nat.le_refl _)
theorem lk_RX9_116 : Cond.methodLink RX9 116 yX10_isIdentifierSign ∈ TB := tbm 696 (by decide +kernel) rfl
def tb_X9_isPartSign : Tb := [(0, (.iload_n 0, 1)), (1, (.invokestatic 116, 3)), (4, (.ifCond .ne 15, 3)), (7, (.iload_n 0, 1)), (8, (.bipush 46, 2)), (10, (.if_icmp .eq 9, 3)), (13, (.iload_n 0, 1)), (14, (.bipush 43, 2)), (16, (.if_icmp .ne 7, 3)), (19, (.iconst 1, 1)), (20, (.goto 4, 3)), (23, (.iconst 0, 1)), (24, (.ireturn, 1))]
def u_X9_isPartSign : Fx := (yX9_isPartSign, (cX9_isPartSign, (1, ((some .boolean), tb_X9_isPartSign))))
theorem tk_X9_isPartSign : ∀ q ∈ u_X9_isPartSign.2.2.2.2, decode u_X9_isPartSign.2.1 q.1 = .ok q.2 := by decide +kernel
theorem mc_X9_isPartSign : MC u_X9_isPartSign 1 := ⟨tbm 695 (by decide +kernel) rfl, tbm 119 (by decide +kernel) rfl, ⟨by decide, by decide, by decide +kernel⟩, by decide⟩
theorem st_X9_isPartSign : Cond.static u_X9_isPartSign.1 ∈ TB := tbm 694 (by decide +kernel) rfl
def f_X9_isPartSign (a0 : Int32) : Option (Int32) :=
  (f_X10_isIdentifierSign a0).bind fun x1 =>
  if x1 = 0 then
    if a0 = 46 then
      some 1
    else
      if a0 = 43 then
        some 1
      else
        some 0
  else
    some 1
set_option maxRecDepth 4000 in
set_option maxHeartbeats 4000000 in
theorem sm_X9_isPartSign (t : List Sh) (m : Mi) (a0 : Int32) : Sm u_X9_isPartSign (2, 0, 0, t.length, zs t) (kIo t m) 0 [(0, .inl a0)] [] (t, m) (f_X9_isPartSign a0) := by
  unfold f_X9_isPartSign
  refine r_iload_n 0 1 0 rfl rfl rfl rfl ?_
  refine r_SIo 1 4 (a := 0) (cn := 0) (st := []) (av := [.inl a0]) (μ' := u_X10_isIdentifierSign) (d := 1) rfl rfl mc_X10_isIdentifierSign st_X10_isIdentifierSign lk_RX9_116 (Nat.le_of_ble_eq_true rfl) rfl (Nat.le_of_ble_eq_true rfl) (fun _ h => ct_X10_isIdentifierSign h) (fun x1 => ?_)
  refine r_if_ne 2 19 7 rfl rfl rfl (fun h2 => ?_) (fun h2 => ?_)
  · refine r_iload_n 3 8 0 rfl rfl rfl rfl ?_
    refine r_bipush 4 10 (v := 46) rfl rfl (by decide) ?_
    refine r_icmp_eq 5 19 13 rfl rfl rfl (fun h3 => ?_) (fun h3 => ?_)
    · refine r_iconst 9 20 (v := 1) rfl rfl (by decide) ?_
      refine r_goto 10 24 rfl rfl ?_
      exact r_zret 12 rfl rfl (by decide) rfl
    · refine r_iload_n 6 14 0 rfl rfl rfl rfl ?_
      refine r_bipush 7 16 (v := 43) rfl rfl (by decide) ?_
      refine r_icmp_ne 8 23 19 rfl rfl rfl (fun h4 => ?_) (fun h4 => ?_)
      · refine r_iconst 9 20 (v := 1) rfl rfl (by decide) ?_
        refine r_goto 10 24 rfl rfl ?_
        exact r_zret 12 rfl rfl (by decide) rfl
      · refine r_iconst 11 24 (v := 0) rfl rfl (by decide) ?_
        exact r_zret 12 rfl rfl (by decide) rfl
  · refine r_iconst 9 20 (v := 1) rfl rfl (by decide) ?_
    refine r_goto 10 24 rfl rfl ?_
    exact r_zret 12 rfl rfl (by decide) rfl
theorem ct_X9_isPartSign {t : List Sh} {m : Mi} {a0 : Int32} {v : Int32}  (h : f_X9_isPartSign a0 = some v) : Ct u_X9_isPartSign 2 0 0 [.inl a0] (t, m) (some (.inl v), (t, m)) :=
  ct_of (by decide) tk_X9_isPartSign (Nat.le_of_ble_eq_true rfl) (sm_X9_isPartSign t m a0) (by rw [h]; rfl) (Nat.le_refl _) (Nat.le_refl _)
theorem lk_RX9_48 : Cond.methodLink RX9 48 yX9_signAt ∈ TB := tbm 594 (by decide +kernel) rfl
theorem lk_RX9_71 : Cond.methodLink RX9 71 yX9_addWrong ∈ TB := tbm 614 (by decide +kernel) rfl
def tb_X9_takeMark : Tb := [(0, (.iload_n 2, 1)), (1, (.bipush 124, 2)), (3, (.if_icmp .ne 34, 3)), (6, (.aload_n 0, 1)), (7, (.iload_n 1, 1)), (8, (.iconst 1, 1)), (9, (.iadd, 1)), (10, (.invokevirtual 48, 3)), (13, (.bipush 124, 2)), (15, (.if_icmp .ne 16, 3)), (18, (.aload_n 0, 1)), (19, (.bipush 9, 2)), (21, (.iload_n 1, 1)), (22, (.iload_n 1, 1)), (23, (.iconst 2, 1)), (24, (.iadd, 1)), (25, (.invokevirtual 77, 3)), (28, (.goto 8, 3)), (31, (.aload_n 0, 1)), (32, (.iload_n 1, 1)), (33, (.invokevirtual 71, 3)), (36, (.ireturn, 1)), (37, (.iload_n 2, 1)), (38, (.bipush 59, 2)), (40, (.if_icmp .ne 14, 3)), (43, (.aload_n 0, 1)), (44, (.bipush 12, 2)), (46, (.iload_n 1, 1)), (47, (.iload_n 1, 1)), (48, (.iconst 1, 1)), (49, (.iadd, 1)), (50, (.invokevirtual 77, 3)), (53, (.ireturn, 1)), (54, (.aload_n 0, 1)), (55, (.iload_n 2, 1)), (56, (.bipush 123, 2)), (58, (.if_icmp .ne 8, 3)), (61, (.bipush 10, 2)), (63, (.goto 5, 3)), (66, (.bipush 11, 2)), (68, (.iload_n 1, 1)), (69, (.iload_n 1, 1)), (70, (.iconst 1, 1)), (71, (.iadd, 1)), (72, (.invokevirtual 77, 3)), (75, (.ireturn, 1))]
def u_X9_takeMark : Fx := (yX9_takeMark, (cX9_takeMark, (3, ((some .int), tb_X9_takeMark))))
theorem tk_X9_takeMark : ∀ q ∈ u_X9_takeMark.2.2.2.2, decode u_X9_takeMark.2.1 q.1 = .ok q.2 := by decide +kernel
theorem mc_X9_takeMark : MC u_X9_takeMark 2 := ⟨tbm 685 (by decide +kernel) rfl, tbm 119 (by decide +kernel) rfl, ⟨by decide, by decide, by decide +kernel⟩, by decide⟩
theorem in_X9_takeMark : Cond.instanceMethod u_X9_takeMark.1 ∈ TB ∧ Cond.selects u_X9_takeMark.1.cls u_X9_takeMark.1 u_X9_takeMark.1 ∈ TB := ⟨tbm 684 (by decide +kernel) rfl, tbm 9 (by decide +kernel) rfl⟩
def f_X9_takeMark_j68 (t : List Sh) (m : Mi) (a1 : Int32) (s0 : Int32) (s1 : Nat) : Option (Int32 × Mi) :=
  (if ob t s1 9 = true then
  bd (f_X9_add t m s1 s0 a1 (a1 + 1)) fun x12 m13 =>
  some (x12, m13)
  else none)
def f_X9_takeMark (t : List Sh) (m : Mi) (a0 : Nat) (a1 : Int32) (a2 : Int32) : Option (Int32 × Mi) :=
  if a2 = 124 then
    (f_X9_signAt t m a0 (a1 + 1)).bind fun x2 =>
    if x2 = 124 then
      bd (f_X9_add t m a0 9 a1 (a1 + 2)) fun x4 m5 =>
      some (x4, m5)
    else
      bd (f_X9_addWrong t m a0 a1) fun x6 m7 =>
      some (x6, m7)
  else
    if a2 = 59 then
      bd (f_X9_add t m a0 12 a1 (a1 + 1)) fun x9 m10 =>
      some (x9, m10)
    else
      if a2 = 123 then
        f_X9_takeMark_j68 t m a1 10 a0
      else
        f_X9_takeMark_j68 t m a1 11 a0
set_option maxRecDepth 4000 in
set_option maxHeartbeats 4000000 in
theorem sm_X9_takeMark (t : List Sh) (m : Mi) (a0 : Nat) (a1 : Int32) (a2 : Int32) (h0 : sh t a0 = some (.inl 9)) : Sm u_X9_takeMark (3, 0, 0, t.length, zs t) (kI t) 0 [(0, .inr (.inr a0)), (1, .inl a1), (2, .inl a2)] [] (t, m) (f_X9_takeMark t m a0 a1 a2) := by
  unfold f_X9_takeMark
  refine r_iload_n 0 1 2 rfl rfl rfl rfl ?_
  refine r_bipush 1 3 (v := 124) rfl rfl (by decide) ?_
  refine r_icmp_ne 2 37 6 rfl rfl rfl (fun h1 => ?_) (fun h1 => ?_)
  · refine r_aload_n 3 7 0 rfl rfl rfl rfl ?_
    refine r_iload_n 4 8 1 rfl rfl rfl rfl ?_
    refine r_iconst 5 9 (v := 1) rfl rfl (by decide) ?_
    refine r_iadd 6 10 rfl rfl ?_
    refine r_VIo 7 13 (st := []) (av := [.inr (.inr a0), .inl (a1 + 1)]) (av' := [.inl (a1 + 1)]) (μ' := u_X9_signAt) (d := 1) rfl rfl mc_X9_signAt in_X9_signAt lk_RX9_48 (Nat.le_of_ble_eq_true rfl) rfl rfl h0 rfl (Nat.le_of_ble_eq_true rfl) (fun _ h => ct_X9_signAt h0 h) (fun x2 => ?_)
    refine r_bipush 8 15 (v := 124) rfl rfl (by decide) ?_
    refine r_icmp_ne 9 31 18 rfl rfl rfl (fun h3 => ?_) (fun h3 => ?_)
    · refine r_aload_n 10 19 0 rfl rfl rfl rfl ?_
      refine r_bipush 11 21 (v := 9) rfl rfl (by decide) ?_
      refine r_iload_n 12 22 1 rfl rfl rfl rfl ?_
      refine r_iload_n 13 23 1 rfl rfl rfl rfl ?_
      refine r_iconst 14 24 (v := 2) rfl rfl (by decide) ?_
      refine r_iadd 15 25 rfl rfl ?_
      refine r_VI 16 28 (st := []) (av := [.inr (.inr a0), .inl 9, .inl a1, .inl (a1 + 2)]) (av' := [.inl 9, .inl a1, .inl (a1 + 2)]) (μ' := u_X9_add) (d := 1) rfl rfl mc_X9_add in_X9_add lk_RX9_77 (Nat.le_of_ble_eq_true rfl) rfl rfl h0 rfl (Nat.le_of_ble_eq_true rfl) (fun _ _ h => ct_X9_add h0 h) (fun x4 m5 => ?_)
      refine r_goto 17 36 rfl rfl ?_
      exact r_iret 21 rfl rfl rfl
    · refine r_aload_n 18 32 0 rfl rfl rfl rfl ?_
      refine r_iload_n 19 33 1 rfl rfl rfl rfl ?_
      refine r_VI 20 36 (st := []) (av := [.inr (.inr a0), .inl a1]) (av' := [.inl a1]) (μ' := u_X9_addWrong) (d := 2) rfl rfl mc_X9_addWrong in_X9_addWrong lk_RX9_71 (Nat.le_of_ble_eq_true rfl) rfl rfl h0 rfl (Nat.le_of_ble_eq_true rfl) (fun _ _ h => ct_X9_addWrong h0 h) (fun x6 m7 => ?_)
      exact r_iret 21 rfl rfl rfl
  · refine r_iload_n 22 38 2 rfl rfl rfl rfl ?_
    refine r_bipush 23 40 (v := 59) rfl rfl (by decide) ?_
    refine r_icmp_ne 24 54 43 rfl rfl rfl (fun h8 => ?_) (fun h8 => ?_)
    · refine r_aload_n 25 44 0 rfl rfl rfl rfl ?_
      refine r_bipush 26 46 (v := 12) rfl rfl (by decide) ?_
      refine r_iload_n 27 47 1 rfl rfl rfl rfl ?_
      refine r_iload_n 28 48 1 rfl rfl rfl rfl ?_
      refine r_iconst 29 49 (v := 1) rfl rfl (by decide) ?_
      refine r_iadd 30 50 rfl rfl ?_
      refine r_VI 31 53 (st := []) (av := [.inr (.inr a0), .inl 12, .inl a1, .inl (a1 + 1)]) (av' := [.inl 12, .inl a1, .inl (a1 + 1)]) (μ' := u_X9_add) (d := 1) rfl rfl mc_X9_add in_X9_add lk_RX9_77 (Nat.le_of_ble_eq_true rfl) rfl rfl h0 rfl (Nat.le_of_ble_eq_true rfl) (fun _ _ h => ct_X9_add h0 h) (fun x9 m10 => ?_)
      exact r_iret 32 rfl rfl rfl
    · refine r_aload_n 33 55 0 rfl rfl rfl rfl ?_
      refine r_iload_n 34 56 2 rfl rfl rfl rfl ?_
      refine r_bipush 35 58 (v := 123) rfl rfl (by decide) ?_
      have hj68 : ∀ (m : Mi) (s0 : Int32) (s1 : Nat), Sm u_X9_takeMark (3, 0, 0, t.length, zs t) (kI t) 68 [(1, .inl a1)] [.inl s0, .inr (.inr s1)] (t, m) (f_X9_takeMark_j68 t m a1 s0 s1) := by
        intro m s0 s1
        unfold f_X9_takeMark_j68
        refine r_iload_n 40 69 0 rfl rfl rfl rfl ?_
        refine r_iload_n 41 70 0 rfl rfl rfl rfl ?_
        refine r_iconst 42 71 (v := 1) rfl rfl (by decide) ?_
        refine r_iadd 43 72 rfl rfl ?_
        refine r_gd (fun h11 => ?_)
        refine r_VI 44 75 (st := []) (av := [.inr (.inr s1), .inl s0, .inl a1, .inl (a1 + 1)]) (av' := [.inl s0, .inl a1, .inl (a1 + 1)]) (μ' := u_X9_add) (d := 1) rfl rfl mc_X9_add in_X9_add lk_RX9_77 (Nat.le_of_ble_eq_true rfl) rfl rfl (ob_sh h11) rfl (Nat.le_of_ble_eq_true rfl) (fun _ _ h => ct_X9_add (ob_sh h11) h) (fun x12 m13 => ?_)
        exact r_iret 45 rfl rfl rfl
      refine r_icmp_ne 36 66 61 rfl rfl rfl (fun h14 => ?_) (fun h14 => ?_)
      · refine r_bipush 37 63 (v := 10) rfl rfl (by decide) ?_
        refine r_goto 38 68 rfl rfl ?_
        exact r_sub [1] rfl (hj68 m 10 a0)
      · refine r_bipush 39 68 (v := 11) rfl rfl (by decide) ?_
        exact r_sub [1] rfl (hj68 m 11 a0)
theorem ct_X9_takeMark {t : List Sh} {m : Mi} {a0 : Nat} {a1 : Int32} {a2 : Int32} {m' : Mi} {v : Int32}  (h0 : sh t a0 = some (.inl 9)) (h : f_X9_takeMark t m a0 a1 a2 = some (v, m')) : Ct u_X9_takeMark 3 0 0 [.inr (.inr a0), .inl a1, .inl a2] (t, m) (some (.inl v), (t, m')) :=
  ct_of (by decide) tk_X9_takeMark (Nat.le_of_ble_eq_true rfl) (sm_X9_takeMark t m a0 a1 a2 h0) (by rw [h]; rfl) (Nat.le_refl _) (Nat.le_refl _)
theorem lk_RX9_81 : Cond.methodLink RX9 81 yX9_operatorSigns ∈ TB := tbm 690 (by decide +kernel) rfl
theorem lk_RX9_87 : Cond.methodLink RX9 87 yX10_take ∈ TB := tbm 699 (by decide +kernel) rfl
theorem lk_RX9_84 : Cond.methodLink RX9 84 yX9_isPartSign ∈ TB := tbm 693 (by decide +kernel) rfl
def tb_X9_takePart : Tb := [(0, (.iload_n 2, 1)), (1, (.bipush 42, 2)), (3, (.if_icmp .ne 14, 3)), (6, (.aload_n 0, 1)), (7, (.bipush 7, 2)), (9, (.iload_n 1, 1)), (10, (.iload_n 1, 1)), (11, (.iconst 1, 1)), (12, (.iadd, 1)), (13, (.invokevirtual 77, 3)), (16, (.ireturn, 1)), (17, (.iload_n 1, 1)), (18, (.iload_n 2, 1)), (19, (.aload_n 0, 1)), (20, (.iload_n 1, 1)), (21, (.iconst 1, 1)), (22, (.iadd, 1)), (23, (.invokevirtual 48, 3)), (26, (.invokestatic 81, 3)), (29, (.iadd, 1)), (30, (.istore_n 3, 1)), (31, (.iload_n 3, 1)), (32, (.istore 4, 2)), (34, (.iload 4, 2)), (36, (.aload_n 0, 1)), (37, (.getfield 29, 3)), (40, (.if_icmp .ge 21, 3)), (43, (.aload_n 0, 1)), (44, (.iload 4, 2)), (46, (.invokevirtual 48, 3)), (49, (.invokestatic 84, 3)), (52, (.ifCond .eq 9, 3)), (55, (.iinc 4 1, 3)), (58, (.goto (-24), 3)), (61, (.aload_n 0, 1)), (62, (.getfield 35, 3)), (65, (.aload_n 0, 1)), (66, (.getfield 26, 3)), (69, (.iload_n 3, 1)), (70, (.iload 4, 2)), (72, (.invokevirtual 87, 3)), (75, (.istore 5, 2)), (77, (.iload 5, 2)), (79, (.ifCond .ne 9, 3)), (82, (.aload_n 0, 1)), (83, (.iload_n 1, 1)), (84, (.invokevirtual 71, 3)), (87, (.ireturn, 1)), (88, (.aload_n 0, 1)), (89, (.iload 5, 2)), (91, (.iconst 2, 1)), (92, (.if_icmp .ne 13, 3)), (95, (.iload_n 3, 1)), (96, (.iload_n 1, 1)), (97, (.if_icmp .ne 8, 3)), (100, (.bipush 8, 2)), (102, (.goto 5, 3)), (105, (.bipush 7, 2)), (107, (.iload_n 1, 1)), (108, (.iload 4, 2)), (110, (.invokevirtual 77, 3)), (113, (.ireturn, 1))]
def u_X9_takePart : Fx := (yX9_takePart, (cX9_takePart, (6, ((some .int), tb_X9_takePart))))
theorem tk_X9_takePart : ∀ q ∈ u_X9_takePart.2.2.2.2, decode u_X9_takePart.2.1 q.1 = .ok q.2 := by decide +kernel
theorem mc_X9_takePart : MC u_X9_takePart 2 := ⟨tbm 689 (by decide +kernel) rfl, tbm 119 (by decide +kernel) rfl, ⟨by decide, by decide, by decide +kernel⟩, by decide⟩
theorem in_X9_takePart : Cond.instanceMethod u_X9_takePart.1 ∈ TB ∧ Cond.selects u_X9_takePart.1.cls u_X9_takePart.1 u_X9_takePart.1 ∈ TB := ⟨tbm 688 (by decide +kernel) rfl, tbm 10 (by decide +kernel) rfl⟩
def f_X9_takePart_j107 (t : List Sh) (m : Mi) (a1 : Int32) (a4 : Int32) (s0 : Int32) (s1 : Nat) : Option (Int32 × Mi) :=
  (if ob t s1 9 = true then
  bd (f_X9_add t m s1 s0 a1 a4) fun x14 m15 =>
  some (x14, m15)
  else none)
def f_X9_takePart_j105 (t : List Sh) (m : Mi) (a1 : Int32) (a4 : Int32) (s0 : Nat) : Option (Int32 × Mi) :=
  f_X9_takePart_j107 t m a1 a4 7 s0
def f_X9_takePart_j61 (t : List Sh) (m : Mi) (a0 : Nat) (a1 : Int32) (a3 : Int32) (a4 : Int32) : Option (Int32 × Mi) :=
  (if ob t (gr m a0 6) 10 = true then
  bd (f_X10_take t m (gr m a0 6) (gr m a0 4) a3 a4) fun x8 m9 =>
  if x8 = 0 then
    bd (f_X9_addWrong t m9 a0 a1) fun x11 m12 =>
    some (x11, m12)
  else
    if x8 = 2 then
      if a3 = a1 then
        f_X9_takePart_j107 t m9 a1 a4 8 a0
      else
        f_X9_takePart_j105 t m9 a1 a4 a0
    else
      f_X9_takePart_j105 t m9 a1 a4 a0
  else none)
def f_X9_takePart_l34 (t : List Sh) (m : Mi) (a0 : Nat) (a1 : Int32) (a3 : Int32) (a4 : Int32) : Option ((Int32) ⊕ ((Int32))) :=
  if (gi m a0 5) ≤ a4 then
    some (.inr a4)
  else
    (f_X9_signAt t m a0 a4).bind fun x19 =>
    (f_X9_isPartSign x19).bind fun x20 =>
    if x20 = 0 then
      some (.inr a4)
    else
      lt (a4 + 1) fun x22 =>
      some (.inl x22)
def f_X9_takePart_j34 (t : List Sh) (m : Mi) (a0 : Nat) (a1 : Int32) (a3 : Int32) (a4 : Int32) : Option (Int32 × Mi) :=
  (lp (fun x : Int32 => f_X9_takePart_l34 t m a0 a1 a3 x) FUEL a4).bind (fun y : Int32 => f_X9_takePart_j61 t m a0 a1 a3 y)
def f_X9_takePart (t : List Sh) (m : Mi) (a0 : Nat) (a1 : Int32) (a2 : Int32) : Option (Int32 × Mi) :=
  if a2 = 42 then
    bd (f_X9_add t m a0 7 a1 (a1 + 1)) fun x2 m3 =>
    some (x2, m3)
  else
    (f_X9_signAt t m a0 (a1 + 1)).bind fun x4 =>
    (f_X9_operatorSigns a2 x4).bind fun x5 =>
    lt (a1 + x5) fun x6 =>
    f_X9_takePart_j34 t m a0 a1 x6 x6
set_option maxRecDepth 4000 in
set_option maxHeartbeats 4000000 in
theorem sm_X9_takePart (t : List Sh) (m : Mi) (a0 : Nat) (a1 : Int32) (a2 : Int32) (h0 : sh t a0 = some (.inl 9)) : Sm u_X9_takePart (5, 0, 0, t.length, zs t) (kI t) 0 [(0, .inr (.inr a0)), (1, .inl a1), (2, .inl a2)] [] (t, m) (f_X9_takePart t m a0 a1 a2) := by
  unfold f_X9_takePart
  refine r_iload_n 0 1 2 rfl rfl rfl rfl ?_
  refine r_bipush 1 3 (v := 42) rfl rfl (by decide) ?_
  refine r_icmp_ne 2 17 6 rfl rfl rfl (fun h1 => ?_) (fun h1 => ?_)
  · refine r_aload_n 3 7 0 rfl rfl rfl rfl ?_
    refine r_bipush 4 9 (v := 7) rfl rfl (by decide) ?_
    refine r_iload_n 5 10 1 rfl rfl rfl rfl ?_
    refine r_iload_n 6 11 1 rfl rfl rfl rfl ?_
    refine r_iconst 7 12 (v := 1) rfl rfl (by decide) ?_
    refine r_iadd 8 13 rfl rfl ?_
    refine r_VI 9 16 (st := []) (av := [.inr (.inr a0), .inl 7, .inl a1, .inl (a1 + 1)]) (av' := [.inl 7, .inl a1, .inl (a1 + 1)]) (μ' := u_X9_add) (d := 1) rfl rfl mc_X9_add in_X9_add lk_RX9_77 (Nat.le_of_ble_eq_true rfl) rfl rfl h0 rfl (Nat.le_of_ble_eq_true rfl) (fun _ _ h => ct_X9_add h0 h) (fun x2 m3 => ?_)
    exact r_iret 10 rfl rfl rfl
  · refine r_iload_n 11 18 1 rfl rfl rfl rfl ?_
    refine r_iload_n 12 19 2 rfl rfl rfl rfl ?_
    refine r_aload_n 13 20 0 rfl rfl rfl rfl ?_
    refine r_iload_n 14 21 1 rfl rfl rfl rfl ?_
    refine r_iconst 15 22 (v := 1) rfl rfl (by decide) ?_
    refine r_iadd 16 23 rfl rfl ?_
    refine r_VIo 17 26 (st := [.inl a2, .inl a1]) (av := [.inr (.inr a0), .inl (a1 + 1)]) (av' := [.inl (a1 + 1)]) (μ' := u_X9_signAt) (d := 1) rfl rfl mc_X9_signAt in_X9_signAt lk_RX9_48 (Nat.le_of_ble_eq_true rfl) rfl rfl h0 rfl (Nat.le_of_ble_eq_true rfl) (fun _ h => ct_X9_signAt h0 h) (fun x4 => ?_)
    refine r_SIo 18 29 (a := 0) (cn := 0) (st := [.inl a1]) (av := [.inl a2, .inl x4]) (μ' := u_X9_operatorSigns) (d := 1) rfl rfl mc_X9_operatorSigns st_X9_operatorSigns lk_RX9_81 (Nat.le_of_ble_eq_true rfl) rfl (Nat.le_of_ble_eq_true rfl) (fun _ h => ct_X9_operatorSigns h) (fun x5 => ?_)
    refine r_iadd 19 30 rfl rfl ?_
    refine r_ltI (fun x6 => ?_)
    refine r_istore_n 20 31 (L' := [(3, .inl x6), (0, .inr (.inr a0)), (1, .inl a1), (2, .inl a2)]) rfl rfl rfl (by decide) rfl ?_
    refine r_iload_n 21 32 0 rfl rfl rfl rfl ?_
    refine r_istore 22 34 (L' := [(4, .inl x6), (3, .inl x6), (0, .inr (.inr a0)), (1, .inl a1), (2, .inl a2)]) rfl rfl (by decide) rfl ?_
    have hj34 : ∀ (m : Mi) (a3 : Int32) (a4 : Int32), Sm u_X9_takePart (5, 0, 0, t.length, zs t) (kI t) 34 [(0, .inr (.inr a0)), (1, .inl a1), (3, .inl a3), (4, .inl a4)] [] (t, m) (f_X9_takePart_j34 t m a0 a1 a3 a4) := by
      intro m a3 a4
      unfold f_X9_takePart_j34
      have hj61 : ∀ (m : Mi) (a3 : Int32) (a4 : Int32), Sm u_X9_takePart (5, 0, 0, t.length, zs t) (kI t) 61 [(0, .inr (.inr a0)), (1, .inl a1), (3, .inl a3), (4, .inl a4)] [] (t, m) (f_X9_takePart_j61 t m a0 a1 a3 a4) := by
        intro m a3 a4
        unfold f_X9_takePart_j61
        refine r_aload_n 34 62 0 rfl rfl rfl rfl ?_
        refine r_getR 35 65 rfl rfl fl_RX9_35 rfl h0 ?_
        refine r_aload_n 36 66 0 rfl rfl rfl rfl ?_
        refine r_getR 37 69 rfl rfl fl_RX9_26 rfl h0 ?_
        refine r_iload_n 38 70 2 rfl rfl rfl rfl ?_
        refine r_iload 39 72 3 rfl rfl rfl ?_
        refine r_gd (fun h7 => ?_)
        refine r_VI 40 75 (st := []) (av := [.inr (.inr (gr m a0 6)), .inr (.inr (gr m a0 4)), .inl a3, .inl a4]) (av' := [.inr (.inr (gr m a0 4)), .inl a3, .inl a4]) (μ' := u_X10_take) (d := 4) rfl rfl mc_X10_take in_X10_take lk_RX9_87 (Nat.le_of_ble_eq_true rfl) rfl rfl (ob_sh h7) rfl (Nat.le_of_ble_eq_true rfl) (fun _ _ h => ct_X10_take (ob_sh h7) h) (fun x8 m9 => ?_)
        refine r_istore 41 77 (L' := [(5, .inl x8), (0, .inr (.inr a0)), (1, .inl a1), (3, .inl a3), (4, .inl a4)]) rfl rfl (by decide) rfl ?_
        refine r_iload 42 79 0 rfl rfl rfl ?_
        refine r_if_ne 43 88 82 rfl rfl rfl (fun h10 => ?_) (fun h10 => ?_)
        · refine r_aload_n 44 83 1 rfl rfl rfl rfl ?_
          refine r_iload_n 45 84 2 rfl rfl rfl rfl ?_
          refine r_VI 46 87 (st := []) (av := [.inr (.inr a0), .inl a1]) (av' := [.inl a1]) (μ' := u_X9_addWrong) (d := 2) rfl rfl mc_X9_addWrong in_X9_addWrong lk_RX9_71 (Nat.le_of_ble_eq_true rfl) rfl rfl h0 rfl (Nat.le_of_ble_eq_true rfl) (fun _ _ h => ct_X9_addWrong h0 h) (fun x11 m12 => ?_)
          exact r_iret 47 rfl rfl rfl
        · refine r_aload_n 48 89 1 rfl rfl rfl rfl ?_
          refine r_iload 49 91 0 rfl rfl rfl ?_
          refine r_iconst 50 92 (v := 2) rfl rfl (by decide) ?_
          have hj107 : ∀ (m : Mi) (a4 : Int32) (s0 : Int32) (s1 : Nat), Sm u_X9_takePart (5, 0, 0, t.length, zs t) (kI t) 107 [(1, .inl a1), (4, .inl a4)] [.inl s0, .inr (.inr s1)] (t, m) (f_X9_takePart_j107 t m a1 a4 s0 s1) := by
            intro m a4 s0 s1
            unfold f_X9_takePart_j107
            refine r_iload_n 58 108 0 rfl rfl rfl rfl ?_
            refine r_iload 59 110 1 rfl rfl rfl ?_
            refine r_gd (fun h13 => ?_)
            refine r_VI 60 113 (st := []) (av := [.inr (.inr s1), .inl s0, .inl a1, .inl a4]) (av' := [.inl s0, .inl a1, .inl a4]) (μ' := u_X9_add) (d := 1) rfl rfl mc_X9_add in_X9_add lk_RX9_77 (Nat.le_of_ble_eq_true rfl) rfl rfl (ob_sh h13) rfl (Nat.le_of_ble_eq_true rfl) (fun _ _ h => ct_X9_add (ob_sh h13) h) (fun x14 m15 => ?_)
            exact r_iret 61 rfl rfl rfl
          have hj105 : ∀ (m : Mi) (a4 : Int32) (s0 : Nat), Sm u_X9_takePart (5, 0, 0, t.length, zs t) (kI t) 105 [(1, .inl a1), (4, .inl a4)] [.inr (.inr s0)] (t, m) (f_X9_takePart_j105 t m a1 a4 s0) := by
            intro m a4 s0
            unfold f_X9_takePart_j105
            refine r_bipush 57 107 (v := 7) rfl rfl (by decide) ?_
            exact hj107 m a4 7 s0
          refine r_icmp_ne 51 105 95 rfl rfl rfl (fun h16 => ?_) (fun h16 => ?_)
          · refine r_iload_n 52 96 3 rfl rfl rfl rfl ?_
            refine r_iload_n 53 97 2 rfl rfl rfl rfl ?_
            refine r_icmp_ne 54 105 100 rfl rfl rfl (fun h17 => ?_) (fun h17 => ?_)
            · refine r_bipush 55 102 (v := 8) rfl rfl (by decide) ?_
              refine r_goto 56 107 rfl rfl ?_
              exact r_sub [2, 4] rfl (hj107 m9 a4 8 a0)
            · exact r_sub [2, 4] rfl (hj105 m9 a4 a0)
          · exact r_sub [2, 4] rfl (hj105 m9 a4 a0)
      refine r_lp (Lf := fun x : Int32 => [(0, .inr (.inr a0)), (1, .inl a1), (3, .inl a3), (4, .inl x)]) (Mf := fun x : Int32 => (t, m)) a4 ?_ FUEL
      rintro a4 κ34 hc34 he34
      refine r_eq (L' := [(0, .inr (.inr a0)), (1, .inl a1), (3, .inl a3), (4, .inl a4)]) (M' := (t, m)) rfl rfl ?_
      refine r_eqr (r' := f_X9_takePart_l34 t m a0 a1 a3 a4) rfl ?_
      unfold f_X9_takePart_l34
      refine r_iload 23 36 3 rfl rfl rfl ?_
      refine r_aload_n 24 37 0 rfl rfl rfl rfl ?_
      refine r_getI 25 40 rfl rfl fl_RX9_29 rfl h0 ?_
      refine r_icmp_ge 26 61 43 rfl rfl rfl (fun h18 => ?_) (fun h18 => ?_)
      · refine r_leaf (r2 := (f_X9_takePart_j61 t m a0 a1 a3 a4 : Option (Int32 × Mi))) (he34 _) ?_
        exact hj61 m a3 a4
      · refine r_aload_n 27 44 0 rfl rfl rfl rfl ?_
        refine r_iload 28 46 3 rfl rfl rfl ?_
        refine r_VIo 29 49 (st := []) (av := [.inr (.inr a0), .inl a4]) (av' := [.inl a4]) (μ' := u_X9_signAt) (d := 1) rfl rfl mc_X9_signAt in_X9_signAt lk_RX9_48 (Nat.le_of_ble_eq_true rfl) rfl rfl h0 rfl (Nat.le_of_ble_eq_true rfl) (fun _ h => ct_X9_signAt h0 h) (fun x19 => ?_)
        refine r_SIo 30 52 (a := 0) (cn := 0) (st := []) (av := [.inl x19]) (μ' := u_X9_isPartSign) (d := 2) rfl rfl mc_X9_isPartSign st_X9_isPartSign lk_RX9_84 (Nat.le_of_ble_eq_true rfl) rfl (Nat.le_of_ble_eq_true rfl) (fun _ h => ct_X9_isPartSign h) (fun x20 => ?_)
        refine r_if_eq 31 61 55 rfl rfl rfl (fun h21 => ?_) (fun h21 => ?_)
        · refine r_leaf (r2 := (f_X9_takePart_j61 t m a0 a1 a3 a4 : Option (Int32 × Mi))) (he34 _) ?_
          exact hj61 m a3 a4
        · refine r_iinc 32 58 3 (L' := [(4, .inl (a4 + 1)), (0, .inr (.inr a0)), (1, .inl a1), (3, .inl a3)]) rfl rfl rfl (by decide) rfl ?_
          refine r_ltV (fun x22 => ?_)
          refine r_goto 33 34 rfl rfl ?_
          exact r_sub [1, 2, 3, 0] rfl (hc34 x22)
    exact r_sub [2, 3, 1, 0] rfl (hj34 m x6 x6)
theorem ct_X9_takePart {t : List Sh} {m : Mi} {a0 : Nat} {a1 : Int32} {a2 : Int32} {m' : Mi} {v : Int32}  (h0 : sh t a0 = some (.inl 9)) (h : f_X9_takePart t m a0 a1 a2 = some (v, m')) : Ct u_X9_takePart 5 0 0 [.inr (.inr a0), .inl a1, .inl a2] (t, m) (some (.inl v), (t, m')) :=
  ct_of (by decide) tk_X9_takePart (Nat.le_of_ble_eq_true rfl) (sm_X9_takePart t m a0 a1 a2 h0) (by rw [h]; rfl) (Nat.le_refl _) (Nat.le_refl _)
theorem lk_RX9_103 : Cond.methodLink RX9 103 yJ0_length_8abf5 ∈ TB := tbm 631 (by decide +kernel) rfl
theorem lk_RX9_109 : Cond.methodLink RX9 109 yJ0_charAt_5068e ∈ TB := tbm 641 (by decide +kernel) rfl
def tb_X9_isWord : Tb := [(0, (.aload_n 1, 1)), (1, (.invokevirtual 103, 3)), (4, (.iload_n 3, 1)), (5, (.iload_n 2, 1)), (6, (.isub, 1)), (7, (.if_icmp .eq 5, 3)), (10, (.iconst 0, 1)), (11, (.ireturn, 1)), (12, (.iconst 0, 1)), (13, (.istore 4, 2)), (15, (.iload 4, 2)), (17, (.aload_n 1, 1)), (18, (.invokevirtual 103, 3)), (21, (.if_icmp .ge 28, 3)), (24, (.aload_n 0, 1)), (25, (.iload_n 2, 1)), (26, (.iload 4, 2)), (28, (.iadd, 1)), (29, (.invokevirtual 48, 3)), (32, (.aload_n 1, 1)), (33, (.iload 4, 2)), (35, (.invokevirtual 109, 3)), (38, (.if_icmp .eq 5, 3)), (41, (.iconst 0, 1)), (42, (.ireturn, 1)), (43, (.iinc 4 1, 3)), (46, (.goto (-31), 3)), (49, (.iconst 1, 1)), (50, (.ireturn, 1))]
def u_X9_isWord : Fx := (yX9_isWord, (cX9_isWord, (5, ((some .boolean), tb_X9_isWord))))
theorem tk_X9_isWord : ∀ q ∈ u_X9_isWord.2.2.2.2, decode u_X9_isWord.2.1 q.1 = .ok q.2 := by decide +kernel
theorem mc_X9_isWord : MC u_X9_isWord 3 := ⟨tbm 630 (by decide +kernel) rfl, tbm 119 (by decide +kernel) rfl, ⟨by decide, by decide, by decide +kernel⟩, by decide⟩
theorem in_X9_isWord : Cond.instanceMethod u_X9_isWord.1 ∈ TB ∧ Cond.selects u_X9_isWord.1.cls u_X9_isWord.1 u_X9_isWord.1 ∈ TB := ⟨tbm 629 (by decide +kernel) rfl, tbm 8 (by decide +kernel) rfl⟩
def f_X9_isWord_j41 (t : List Sh) (m : Mi) : Option (Int32) :=
  some 0
def f_X9_isWord_j49 (t : List Sh) (m : Mi) : Option (Int32) :=
  some 1
def f_X9_isWord_l15 (t : List Sh) (m : Mi) (a0 : Nat) (a1 : Nat) (a2 : Int32) (a4 : Int32) : Option ((Int32) ⊕ ((Unit) ⊕ (Unit))) :=
  (f_len a1).bind fun x3 =>
  if x3 ≤ a4 then
    some (.inr (.inl ()))
  else
    (f_X9_signAt t m a0 (a2 + a4)).bind fun x5 =>
    (f_chr a1 a4).bind fun x6 =>
    if x5 = x6 then
      lt (a4 + 1) fun x8 =>
      some (.inl x8)
    else
      some (.inr (.inr ()))
def f_X9_isWord_j15 (t : List Sh) (m : Mi) (a0 : Nat) (a1 : Nat) (a2 : Int32) (a4 : Int32) : Option (Int32) :=
  (lp (fun x : Int32 => f_X9_isWord_l15 t m a0 a1 a2 x) FUEL a4).bind (Sum.elim (fun y : Unit => f_X9_isWord_j49 t m) (fun y : Unit => f_X9_isWord_j41 t m))
def f_X9_isWord (t : List Sh) (m : Mi) (a0 : Nat) (a1 : Nat) (a2 : Int32) (a3 : Int32) : Option (Int32) :=
  (f_len a1).bind fun x1 =>
  if x1 = (a3 - a2) then
    f_X9_isWord_j15 t m a0 a1 a2 0
  else
    some 0
set_option maxRecDepth 4000 in
set_option maxHeartbeats 4000000 in
theorem sm_X9_isWord (t : List Sh) (m : Mi) (a0 : Nat) (a1 : Nat) (a2 : Int32) (a3 : Int32) (h0 : sh t a0 = some (.inl 9)) : Sm u_X9_isWord (6, 0, 0, t.length, zs t) (kIo t m) 0 [(0, .inr (.inr a0)), (1, .inr (.inr a1)), (2, .inl a2), (3, .inl a3)] [] (t, m) (f_X9_isWord t m a0 a1 a2 a3) := by
  unfold f_X9_isWord
  refine r_aload_n 0 1 1 rfl rfl rfl rfl ?_
  refine r_len 1 4 (st := []) rfl rfl lk_RX9_103 (Nat.le_of_ble_eq_true rfl) (Nat.le_of_ble_eq_true rfl) (fun x1 => ?_)
  refine r_iload_n 2 5 3 rfl rfl rfl rfl ?_
  refine r_iload_n 3 6 2 rfl rfl rfl rfl ?_
  refine r_isub 4 7 rfl rfl ?_
  refine r_icmp_eq 5 12 10 rfl rfl rfl (fun h2 => ?_) (fun h2 => ?_)
  · refine r_iconst 8 13 (v := 0) rfl rfl (by decide) ?_
    refine r_istore 9 15 (L' := [(4, .inl 0), (0, .inr (.inr a0)), (1, .inr (.inr a1)), (2, .inl a2), (3, .inl a3)]) rfl rfl (by decide) rfl ?_
    have hj15 : ∀ (a4 : Int32), Sm u_X9_isWord (6, 0, 0, t.length, zs t) (kIo t m) 15 [(0, .inr (.inr a0)), (1, .inr (.inr a1)), (2, .inl a2), (4, .inl a4)] [] (t, m) (f_X9_isWord_j15 t m a0 a1 a2 a4) := by
      intro a4
      unfold f_X9_isWord_j15
      have hj41 : Sm u_X9_isWord (6, 0, 0, t.length, zs t) (kIo t m) 41 [] [] (t, m) (f_X9_isWord_j41 t m) := by
        unfold f_X9_isWord_j41
        refine r_iconst 23 42 (v := 0) rfl rfl (by decide) ?_
        exact r_zret 24 rfl rfl (by decide) rfl
      have hj49 : Sm u_X9_isWord (6, 0, 0, t.length, zs t) (kIo t m) 49 [] [] (t, m) (f_X9_isWord_j49 t m) := by
        unfold f_X9_isWord_j49
        refine r_iconst 27 50 (v := 1) rfl rfl (by decide) ?_
        exact r_zret 28 rfl rfl (by decide) rfl
      refine r_lp (Lf := fun x : Int32 => [(0, .inr (.inr a0)), (1, .inr (.inr a1)), (2, .inl a2), (4, .inl x)]) (Mf := fun x : Int32 => (t, m)) a4 ?_ FUEL
      rintro a4 κ15 hc15 he15
      refine r_eq (L' := [(0, .inr (.inr a0)), (1, .inr (.inr a1)), (2, .inl a2), (4, .inl a4)]) (M' := (t, m)) rfl rfl ?_
      refine r_eqr (r' := f_X9_isWord_l15 t m a0 a1 a2 a4) rfl ?_
      unfold f_X9_isWord_l15
      refine r_iload 10 17 3 rfl rfl rfl ?_
      refine r_aload_n 11 18 1 rfl rfl rfl rfl ?_
      refine r_len 12 21 (st := [.inl a4]) rfl rfl lk_RX9_103 (Nat.le_of_ble_eq_true rfl) (Nat.le_of_ble_eq_true rfl) (fun x3 => ?_)
      refine r_icmp_ge 13 49 24 rfl rfl rfl (fun h4 => ?_) (fun h4 => ?_)
      · refine r_leaf (r2 := (f_X9_isWord_j49 t m : Option (Int32))) (he15 _) ?_
        exact r_sub [] rfl (hj49)
      · refine r_aload_n 14 25 0 rfl rfl rfl rfl ?_
        refine r_iload_n 15 26 2 rfl rfl rfl rfl ?_
        refine r_iload 16 28 3 rfl rfl rfl ?_
        refine r_iadd 17 29 rfl rfl ?_
        refine r_VIo 18 32 (st := []) (av := [.inr (.inr a0), .inl (a2 + a4)]) (av' := [.inl (a2 + a4)]) (μ' := u_X9_signAt) (d := 1) rfl rfl mc_X9_signAt in_X9_signAt lk_RX9_48 (Nat.le_of_ble_eq_true rfl) rfl rfl h0 rfl (Nat.le_of_ble_eq_true rfl) (fun _ h => ct_X9_signAt h0 h) (fun x5 => ?_)
        refine r_aload_n 19 33 1 rfl rfl rfl rfl ?_
        refine r_iload 20 35 3 rfl rfl rfl ?_
        refine r_chr 21 38 (st := [.inl x5]) rfl rfl lk_RX9_109 (Nat.le_of_ble_eq_true rfl) (Nat.le_of_ble_eq_true rfl) (fun x6 => ?_)
        refine r_icmp_eq 22 43 41 rfl rfl rfl (fun h7 => ?_) (fun h7 => ?_)
        · refine r_iinc 25 46 3 (L' := [(4, .inl (a4 + 1)), (0, .inr (.inr a0)), (1, .inr (.inr a1)), (2, .inl a2)]) rfl rfl rfl (by decide) rfl ?_
          refine r_ltV (fun x8 => ?_)
          refine r_goto 26 15 rfl rfl ?_
          exact r_sub [1, 2, 3, 0] rfl (hc15 x8)
        · refine r_leaf (r2 := (f_X9_isWord_j41 t m : Option (Int32))) (he15 _) ?_
          exact r_sub [] rfl (hj41)
    exact r_sub [1, 2, 3, 0] rfl (hj15 0)
  · refine r_iconst 6 11 (v := 0) rfl rfl (by decide) ?_
    exact r_zret 7 rfl rfl (by decide) rfl
theorem ct_X9_isWord {t : List Sh} {m : Mi} {a0 : Nat} {a1 : Nat} {a2 : Int32} {a3 : Int32} {v : Int32}  (h0 : sh t a0 = some (.inl 9)) (h : f_X9_isWord t m a0 a1 a2 a3 = some v) : Ct u_X9_isWord 6 0 0 [.inr (.inr a0), .inr (.inr a1), .inl a2, .inl a3] (t, m) (some (.inl v), (t, m)) :=
  ct_of (by decide) tk_X9_isWord (Nat.le_of_ble_eq_true rfl) (sm_X9_isWord t m a0 a1 a2 a3 h0) (by rw [h]; rfl) (Nat.le_refl _) (Nat.le_refl _)
theorem lk_RX9_93 : Cond.methodLink RX9 93 yX9_isWord ∈ TB := tbm 627 (by decide +kernel) rfl
def tb_X9_kindOfName : Tb := [(0, (.aload_n 0, 1)), (1, (.ldc 91, 2)), (3, (.iload_n 1, 1)), (4, (.iload_n 2, 1)), (5, (.invokevirtual 93, 3)), (8, (.ifCond .eq 5, 3)), (11, (.iconst 3, 1)), (12, (.ireturn, 1)), (13, (.aload_n 0, 1)), (14, (.ldc 97, 2)), (16, (.iload_n 1, 1)), (17, (.iload_n 2, 1)), (18, (.invokevirtual 93, 3)), (21, (.ifCond .eq 5, 3)), (24, (.iconst 4, 1)), (25, (.ireturn, 1)), (26, (.aload_n 0, 1)), (27, (.ldc 99, 2)), (29, (.iload_n 1, 1)), (30, (.iload_n 2, 1)), (31, (.invokevirtual 93, 3)), (34, (.ifCond .eq 5, 3)), (37, (.iconst 5, 1)), (38, (.ireturn, 1)), (39, (.aload_n 0, 1)), (40, (.ldc 101, 2)), (42, (.iload_n 1, 1)), (43, (.iload_n 2, 1)), (44, (.invokevirtual 93, 3)), (47, (.ifCond .eq 8, 3)), (50, (.bipush 6, 2)), (52, (.goto 4, 3)), (55, (.iconst 2, 1)), (56, (.ireturn, 1))]
def u_X9_kindOfName : Fx := (yX9_kindOfName, (cX9_kindOfName, (3, ((some .int), tb_X9_kindOfName))))
theorem tk_X9_kindOfName : ∀ q ∈ u_X9_kindOfName.2.2.2.2, decode u_X9_kindOfName.2.1 q.1 = .ok q.2 := by decide +kernel
theorem mc_X9_kindOfName : MC u_X9_kindOfName 2 := ⟨tbm 625 (by decide +kernel) rfl, tbm 119 (by decide +kernel) rfl, ⟨by decide, by decide, by decide +kernel⟩, by decide⟩
theorem in_X9_kindOfName : Cond.instanceMethod u_X9_kindOfName.1 ∈ TB ∧ Cond.selects u_X9_kindOfName.1.cls u_X9_kindOfName.1 u_X9_kindOfName.1 ∈ TB := ⟨tbm 624 (by decide +kernel) rfl, tbm 7 (by decide +kernel) rfl⟩
def f_X9_kindOfName (t : List Sh) (m : Mi) (a0 : Nat) (a1 : Int32) (a2 : Int32) : Option (Int32) :=
  (f_X9_isWord t m a0 1048576 a1 a2).bind fun x1 =>
  if x1 = 0 then
    (f_X9_isWord t m a0 1048577 a1 a2).bind fun x3 =>
    if x3 = 0 then
      (f_X9_isWord t m a0 1048578 a1 a2).bind fun x5 =>
      if x5 = 0 then
        (f_X9_isWord t m a0 1048579 a1 a2).bind fun x7 =>
        if x7 = 0 then
          some 2
        else
          some 6
      else
        some 5
    else
      some 4
  else
    some 3
set_option maxRecDepth 4000 in
set_option maxHeartbeats 4000000 in
theorem sm_X9_kindOfName (t : List Sh) (m : Mi) (a0 : Nat) (a1 : Int32) (a2 : Int32) (h0 : sh t a0 = some (.inl 9)) : Sm u_X9_kindOfName (7, 0, 0, t.length, zs t) (kIo t m) 0 [(0, .inr (.inr a0)), (1, .inl a1), (2, .inl a2)] [] (t, m) (f_X9_kindOfName t m a0 a1 a2) := by
  unfold f_X9_kindOfName
  refine r_aload_n 0 1 0 rfl rfl rfl rfl ?_
  refine r_ldcS 1 3 (q := 0) (n := 0) rfl rfl rfl ?_
  refine r_eqs (st' := [.inr (.inr 1048576), .inr (.inr a0)]) rfl ?_
  refine r_iload_n 2 4 1 rfl rfl rfl rfl ?_
  refine r_iload_n 3 5 2 rfl rfl rfl rfl ?_
  refine r_VIo 4 8 (st := []) (av := [.inr (.inr a0), .inr (.inr 1048576), .inl a1, .inl a2]) (av' := [.inr (.inr 1048576), .inl a1, .inl a2]) (μ' := u_X9_isWord) (d := 6) rfl rfl mc_X9_isWord in_X9_isWord lk_RX9_93 (Nat.le_of_ble_eq_true rfl) rfl rfl h0 rfl (Nat.le_of_ble_eq_true rfl) (fun _ h => ct_X9_isWord h0 h) (fun x1 => ?_)
  refine r_if_eq 5 13 11 rfl rfl rfl (fun h2 => ?_) (fun h2 => ?_)
  · refine r_aload_n 8 14 0 rfl rfl rfl rfl ?_
    refine r_ldcS 9 16 (q := 1) (n := 1) rfl rfl rfl ?_
    refine r_eqs (st' := [.inr (.inr 1048577), .inr (.inr a0)]) rfl ?_
    refine r_iload_n 10 17 1 rfl rfl rfl rfl ?_
    refine r_iload_n 11 18 2 rfl rfl rfl rfl ?_
    refine r_VIo 12 21 (st := []) (av := [.inr (.inr a0), .inr (.inr 1048577), .inl a1, .inl a2]) (av' := [.inr (.inr 1048577), .inl a1, .inl a2]) (μ' := u_X9_isWord) (d := 6) rfl rfl mc_X9_isWord in_X9_isWord lk_RX9_93 (Nat.le_of_ble_eq_true rfl) rfl rfl h0 rfl (Nat.le_of_ble_eq_true rfl) (fun _ h => ct_X9_isWord h0 h) (fun x3 => ?_)
    refine r_if_eq 13 26 24 rfl rfl rfl (fun h4 => ?_) (fun h4 => ?_)
    · refine r_aload_n 16 27 0 rfl rfl rfl rfl ?_
      refine r_ldcS 17 29 (q := 2) (n := 2) rfl rfl rfl ?_
      refine r_eqs (st' := [.inr (.inr 1048578), .inr (.inr a0)]) rfl ?_
      refine r_iload_n 18 30 1 rfl rfl rfl rfl ?_
      refine r_iload_n 19 31 2 rfl rfl rfl rfl ?_
      refine r_VIo 20 34 (st := []) (av := [.inr (.inr a0), .inr (.inr 1048578), .inl a1, .inl a2]) (av' := [.inr (.inr 1048578), .inl a1, .inl a2]) (μ' := u_X9_isWord) (d := 6) rfl rfl mc_X9_isWord in_X9_isWord lk_RX9_93 (Nat.le_of_ble_eq_true rfl) rfl rfl h0 rfl (Nat.le_of_ble_eq_true rfl) (fun _ h => ct_X9_isWord h0 h) (fun x5 => ?_)
      refine r_if_eq 21 39 37 rfl rfl rfl (fun h6 => ?_) (fun h6 => ?_)
      · refine r_aload_n 24 40 0 rfl rfl rfl rfl ?_
        refine r_ldcS 25 42 (q := 3) (n := 3) rfl rfl rfl ?_
        refine r_eqs (st' := [.inr (.inr 1048579), .inr (.inr a0)]) rfl ?_
        refine r_iload_n 26 43 1 rfl rfl rfl rfl ?_
        refine r_iload_n 27 44 2 rfl rfl rfl rfl ?_
        refine r_VIo 28 47 (st := []) (av := [.inr (.inr a0), .inr (.inr 1048579), .inl a1, .inl a2]) (av' := [.inr (.inr 1048579), .inl a1, .inl a2]) (μ' := u_X9_isWord) (d := 6) rfl rfl mc_X9_isWord in_X9_isWord lk_RX9_93 (Nat.le_of_ble_eq_true rfl) rfl rfl h0 rfl (Nat.le_of_ble_eq_true rfl) (fun _ h => ct_X9_isWord h0 h) (fun x7 => ?_)
        refine r_if_eq 29 55 50 rfl rfl rfl (fun h8 => ?_) (fun h8 => ?_)
        · refine r_iconst 32 56 (v := 2) rfl rfl (by decide) ?_
          exact r_iret 33 rfl rfl rfl
        · refine r_bipush 30 52 (v := 6) rfl rfl (by decide) ?_
          refine r_goto 31 56 rfl rfl ?_
          exact r_iret 33 rfl rfl rfl
      · refine r_iconst 22 38 (v := 5) rfl rfl (by decide) ?_
        exact r_iret 23 rfl rfl rfl
    · refine r_iconst 14 25 (v := 4) rfl rfl (by decide) ?_
      exact r_iret 15 rfl rfl rfl
  · refine r_iconst 6 12 (v := 3) rfl rfl (by decide) ?_
    exact r_iret 7 rfl rfl rfl
theorem ct_X9_kindOfName {t : List Sh} {m : Mi} {a0 : Nat} {a1 : Int32} {a2 : Int32} {v : Int32}  (h0 : sh t a0 = some (.inl 9)) (h : f_X9_kindOfName t m a0 a1 a2 = some v) : Ct u_X9_kindOfName 7 0 0 [.inr (.inr a0), .inl a1, .inl a2] (t, m) (some (.inl v), (t, m)) :=
  ct_of (by decide) tk_X9_kindOfName (Nat.le_of_ble_eq_true rfl) (sm_X9_kindOfName t m a0 a1 a2 h0) (by rw [h]; rfl) (Nat.le_refl _) (Nat.le_refl _)
theorem lk_RX9_74 : Cond.methodLink RX9 74 yX9_kindOfName ∈ TB := tbm 622 (by decide +kernel) rfl
theorem lk_RX9_68 : Cond.methodLink RX9 68 yX9_isNameSign ∈ TB := tbm 608 (by decide +kernel) rfl
def tb_X9_takeName : Tb := [(0, (.iload_n 1, 1)), (1, (.istore_n 2, 1)), (2, (.iload_n 2, 1)), (3, (.aload_n 0, 1)), (4, (.getfield 29, 3)), (7, (.if_icmp .ge 20, 3)), (10, (.aload_n 0, 1)), (11, (.iload_n 2, 1)), (12, (.invokevirtual 48, 3)), (15, (.invokestatic 68, 3)), (18, (.ifCond .eq 9, 3)), (21, (.iinc 2 1, 3)), (24, (.goto (-22), 3)), (27, (.iload_n 2, 1)), (28, (.iload_n 1, 1)), (29, (.isub, 1)), (30, (.bipush 12, 2)), (32, (.if_icmp .le 9, 3)), (35, (.aload_n 0, 1)), (36, (.iload_n 1, 1)), (37, (.invokevirtual 71, 3)), (40, (.ireturn, 1)), (41, (.aload_n 0, 1)), (42, (.aload_n 0, 1)), (43, (.iload_n 1, 1)), (44, (.iload_n 2, 1)), (45, (.invokevirtual 74, 3)), (48, (.iload_n 1, 1)), (49, (.iload_n 2, 1)), (50, (.invokevirtual 77, 3)), (53, (.ireturn, 1))]
def u_X9_takeName : Fx := (yX9_takeName, (cX9_takeName, (3, ((some .int), tb_X9_takeName))))
theorem tk_X9_takeName : ∀ q ∈ u_X9_takeName.2.2.2.2, decode u_X9_takeName.2.1 q.1 = .ok q.2 := by decide +kernel
theorem mc_X9_takeName : MC u_X9_takeName 1 := ⟨tbm 607 (by decide +kernel) rfl, tbm 119 (by decide +kernel) rfl, ⟨by decide, by decide, by decide +kernel⟩, by decide⟩
theorem in_X9_takeName : Cond.instanceMethod u_X9_takeName.1 ∈ TB ∧ Cond.selects u_X9_takeName.1.cls u_X9_takeName.1 u_X9_takeName.1 ∈ TB := ⟨tbm 606 (by decide +kernel) rfl, tbm 4 (by decide +kernel) rfl⟩
def f_X9_takeName_j27 (t : List Sh) (m : Mi) (a0 : Nat) (a1 : Int32) (a2 : Int32) : Option (Int32 × Mi) :=
  if (a2 - a1) ≤ 12 then
    (f_X9_kindOfName t m a0 a1 a2).bind fun x2 =>
    bd (f_X9_add t m a0 x2 a1 a2) fun x3 m4 =>
    some (x3, m4)
  else
    bd (f_X9_addWrong t m a0 a1) fun x5 m6 =>
    some (x5, m6)
def f_X9_takeName_l2 (t : List Sh) (m : Mi) (a0 : Nat) (a1 : Int32) (a2 : Int32) : Option ((Int32) ⊕ ((Int32))) :=
  if (gi m a0 5) ≤ a2 then
    some (.inr a2)
  else
    (f_X9_signAt t m a0 a2).bind fun x8 =>
    (f_X9_isNameSign x8).bind fun x9 =>
    if x9 = 0 then
      some (.inr a2)
    else
      lt (a2 + 1) fun x11 =>
      some (.inl x11)
def f_X9_takeName_j2 (t : List Sh) (m : Mi) (a0 : Nat) (a1 : Int32) (a2 : Int32) : Option (Int32 × Mi) :=
  (lp (fun x : Int32 => f_X9_takeName_l2 t m a0 a1 x) FUEL a2).bind (fun y : Int32 => f_X9_takeName_j27 t m a0 a1 y)
def f_X9_takeName (t : List Sh) (m : Mi) (a0 : Nat) (a1 : Int32) : Option (Int32 × Mi) :=
  f_X9_takeName_j2 t m a0 a1 a1
set_option maxRecDepth 4000 in
set_option maxHeartbeats 4000000 in
theorem sm_X9_takeName (t : List Sh) (m : Mi) (a0 : Nat) (a1 : Int32) (h0 : sh t a0 = some (.inl 9)) : Sm u_X9_takeName (8, 0, 0, t.length, zs t) (kI t) 0 [(0, .inr (.inr a0)), (1, .inl a1)] [] (t, m) (f_X9_takeName t m a0 a1) := by
  unfold f_X9_takeName
  refine r_iload_n 0 1 1 rfl rfl rfl rfl ?_
  refine r_istore_n 1 2 (L' := [(2, .inl a1), (0, .inr (.inr a0)), (1, .inl a1)]) rfl rfl rfl (by decide) rfl ?_
  have hj2 : ∀ (m : Mi) (a2 : Int32), Sm u_X9_takeName (8, 0, 0, t.length, zs t) (kI t) 2 [(0, .inr (.inr a0)), (1, .inl a1), (2, .inl a2)] [] (t, m) (f_X9_takeName_j2 t m a0 a1 a2) := by
    intro m a2
    unfold f_X9_takeName_j2
    have hj27 : ∀ (m : Mi) (a2 : Int32), Sm u_X9_takeName (8, 0, 0, t.length, zs t) (kI t) 27 [(0, .inr (.inr a0)), (1, .inl a1), (2, .inl a2)] [] (t, m) (f_X9_takeName_j27 t m a0 a1 a2) := by
      intro m a2
      unfold f_X9_takeName_j27
      refine r_iload_n 13 28 2 rfl rfl rfl rfl ?_
      refine r_iload_n 14 29 1 rfl rfl rfl rfl ?_
      refine r_isub 15 30 rfl rfl ?_
      refine r_bipush 16 32 (v := 12) rfl rfl (by decide) ?_
      refine r_icmp_le 17 41 35 rfl rfl rfl (fun h1 => ?_) (fun h1 => ?_)
      · refine r_aload_n 22 42 0 rfl rfl rfl rfl ?_
        refine r_aload_n 23 43 0 rfl rfl rfl rfl ?_
        refine r_iload_n 24 44 1 rfl rfl rfl rfl ?_
        refine r_iload_n 25 45 2 rfl rfl rfl rfl ?_
        refine r_VIo 26 48 (st := [.inr (.inr a0)]) (av := [.inr (.inr a0), .inl a1, .inl a2]) (av' := [.inl a1, .inl a2]) (μ' := u_X9_kindOfName) (d := 7) rfl rfl mc_X9_kindOfName in_X9_kindOfName lk_RX9_74 (Nat.le_of_ble_eq_true rfl) rfl rfl h0 rfl (Nat.le_of_ble_eq_true rfl) (fun _ h => ct_X9_kindOfName h0 h) (fun x2 => ?_)
        refine r_iload_n 27 49 1 rfl rfl rfl rfl ?_
        refine r_iload_n 28 50 2 rfl rfl rfl rfl ?_
        refine r_VI 29 53 (st := []) (av := [.inr (.inr a0), .inl x2, .inl a1, .inl a2]) (av' := [.inl x2, .inl a1, .inl a2]) (μ' := u_X9_add) (d := 1) rfl rfl mc_X9_add in_X9_add lk_RX9_77 (Nat.le_of_ble_eq_true rfl) rfl rfl h0 rfl (Nat.le_of_ble_eq_true rfl) (fun _ _ h => ct_X9_add h0 h) (fun x3 m4 => ?_)
        exact r_iret 30 rfl rfl rfl
      · refine r_aload_n 18 36 0 rfl rfl rfl rfl ?_
        refine r_iload_n 19 37 1 rfl rfl rfl rfl ?_
        refine r_VI 20 40 (st := []) (av := [.inr (.inr a0), .inl a1]) (av' := [.inl a1]) (μ' := u_X9_addWrong) (d := 2) rfl rfl mc_X9_addWrong in_X9_addWrong lk_RX9_71 (Nat.le_of_ble_eq_true rfl) rfl rfl h0 rfl (Nat.le_of_ble_eq_true rfl) (fun _ _ h => ct_X9_addWrong h0 h) (fun x5 m6 => ?_)
        exact r_iret 21 rfl rfl rfl
    refine r_lp (Lf := fun x : Int32 => [(0, .inr (.inr a0)), (1, .inl a1), (2, .inl x)]) (Mf := fun x : Int32 => (t, m)) a2 ?_ FUEL
    rintro a2 κ2 hc2 he2
    refine r_eq (L' := [(0, .inr (.inr a0)), (1, .inl a1), (2, .inl a2)]) (M' := (t, m)) rfl rfl ?_
    refine r_eqr (r' := f_X9_takeName_l2 t m a0 a1 a2) rfl ?_
    unfold f_X9_takeName_l2
    refine r_iload_n 2 3 2 rfl rfl rfl rfl ?_
    refine r_aload_n 3 4 0 rfl rfl rfl rfl ?_
    refine r_getI 4 7 rfl rfl fl_RX9_29 rfl h0 ?_
    refine r_icmp_ge 5 27 10 rfl rfl rfl (fun h7 => ?_) (fun h7 => ?_)
    · refine r_leaf (r2 := (f_X9_takeName_j27 t m a0 a1 a2 : Option (Int32 × Mi))) (he2 _) ?_
      exact hj27 m a2
    · refine r_aload_n 6 11 0 rfl rfl rfl rfl ?_
      refine r_iload_n 7 12 2 rfl rfl rfl rfl ?_
      refine r_VIo 8 15 (st := []) (av := [.inr (.inr a0), .inl a2]) (av' := [.inl a2]) (μ' := u_X9_signAt) (d := 1) rfl rfl mc_X9_signAt in_X9_signAt lk_RX9_48 (Nat.le_of_ble_eq_true rfl) rfl rfl h0 rfl (Nat.le_of_ble_eq_true rfl) (fun _ h => ct_X9_signAt h0 h) (fun x8 => ?_)
      refine r_SIo 9 18 (a := 0) (cn := 0) (st := []) (av := [.inl x8]) (μ' := u_X9_isNameSign) (d := 2) rfl rfl mc_X9_isNameSign st_X9_isNameSign lk_RX9_68 (Nat.le_of_ble_eq_true rfl) rfl (Nat.le_of_ble_eq_true rfl) (fun _ h => ct_X9_isNameSign h) (fun x9 => ?_)
      refine r_if_eq 10 27 21 rfl rfl rfl (fun h10 => ?_) (fun h10 => ?_)
      · refine r_leaf (r2 := (f_X9_takeName_j27 t m a0 a1 a2 : Option (Int32 × Mi))) (he2 _) ?_
        exact hj27 m a2
      · refine r_iinc 11 24 2 (L' := [(2, .inl (a2 + 1)), (0, .inr (.inr a0)), (1, .inl a1)]) rfl rfl rfl (by decide) rfl ?_
        refine r_ltV (fun x11 => ?_)
        refine r_goto 12 2 rfl rfl ?_
        exact r_sub [1, 2, 0] rfl (hc2 x11)
  exact r_sub [1, 2, 0] rfl (hj2 m a1)
theorem ct_X9_takeName {t : List Sh} {m : Mi} {a0 : Nat} {a1 : Int32} {m' : Mi} {v : Int32}  (h0 : sh t a0 = some (.inl 9)) (h : f_X9_takeName t m a0 a1 = some (v, m')) : Ct u_X9_takeName 8 0 0 [.inr (.inr a0), .inl a1] (t, m) (some (.inl v), (t, m')) :=
  ct_of (by decide) tk_X9_takeName (Nat.le_of_ble_eq_true rfl) (sm_X9_takeName t m a0 a1 h0) (by rw [h]; rfl) (Nat.le_refl _) (Nat.le_refl _)
theorem lk_RX9_39 : Cond.methodLink RX9 39 Lib.Math.min.name ∈ TB := tbm 590 (by decide +kernel) rfl
theorem lk_RX9_45 : Cond.methodLink RX9 45 Lib.Math.max.name ∈ TB := tbm 593 (by decide +kernel) rfl
theorem lk_RX9_52 : Cond.methodLink RX9 52 yX9_isBlank ∈ TB := tbm 598 (by decide +kernel) rfl
theorem lk_RX9_62 : Cond.methodLink RX9 62 yX9_takeMark ∈ TB := tbm 682 (by decide +kernel) rfl
theorem lk_RX9_65 : Cond.methodLink RX9 65 yX9_takePart ∈ TB := tbm 686 (by decide +kernel) rfl
theorem lk_RX9_59 : Cond.methodLink RX9 59 yX9_takeName ∈ TB := tbm 604 (by decide +kernel) rfl
def tb_X9_scan : Tb := [(0, (.aload_n 0, 1)), (1, (.aload_n 1, 1)), (2, (.putfield 26, 3)), (5, (.aload_n 0, 1)), (6, (.iload_n 3, 1)), (7, (.aload_n 1, 1)), (8, (.arraylength, 1)), (9, (.invokestatic 39, 3)), (12, (.putfield 29, 3)), (15, (.aload_n 0, 1)), (16, (.iconst 0, 1)), (17, (.putfield 22, 3)), (20, (.iconst 0, 1)), (21, (.iload_n 2, 1)), (22, (.invokestatic 45, 3)), (25, (.istore 4, 2)), (27, (.iload 4, 2)), (29, (.istore 5, 2)), (31, (.iload 5, 2)), (33, (.aload_n 0, 1)), (34, (.getfield 29, 3)), (37, (.if_icmp .ge 110, 3)), (40, (.iload 4, 2)), (42, (.aload_n 0, 1)), (43, (.getfield 29, 3)), (46, (.if_icmp .ge 101, 3)), (49, (.aload_n 0, 1)), (50, (.iload 4, 2)), (52, (.invokevirtual 48, 3)), (55, (.istore 6, 2)), (57, (.iload 6, 2)), (59, (.invokestatic 52, 3)), (62, (.ifCond .eq 9, 3)), (65, (.iinc 4 1, 3)), (68, (.goto 73, 3)), (71, (.iload 6, 2)), (73, (.invokestatic 56, 3)), (76, (.ifCond .eq 14, 3)), (79, (.aload_n 0, 1)), (80, (.iload 4, 2)), (82, (.invokevirtual 59, 3)), (85, (.istore 4, 2)), (87, (.goto 54, 3)), (90, (.iload 6, 2)), (92, (.bipush 124, 2)), (94, (.if_icmp .eq 24, 3)), (97, (.iload 6, 2)), (99, (.bipush 123, 2)), (101, (.if_icmp .eq 17, 3)), (104, (.iload 6, 2)), (106, (.bipush 125, 2)), (108, (.if_icmp .eq 10, 3)), (111, (.iload 6, 2)), (113, (.bipush 59, 2)), (115, (.if_icmp .ne 16, 3)), (118, (.aload_n 0, 1)), (119, (.iload 4, 2)), (121, (.iload 6, 2)), (123, (.invokevirtual 62, 3)), (126, (.istore 4, 2)), (128, (.goto 13, 3)), (131, (.aload_n 0, 1)), (132, (.iload 4, 2)), (134, (.iload 6, 2)), (136, (.invokevirtual 65, 3)), (139, (.istore 4, 2)), (141, (.iinc 5 1, 3)), (144, (.goto (-113), 3)), (147, (.return_, 1))]
def u_X9_scan : Fx := (yX9_scan, (cX9_scan, (7, (none, tb_X9_scan))))
theorem tk_X9_scan : ∀ q ∈ u_X9_scan.2.2.2.2, decode u_X9_scan.2.1 q.1 = .ok q.2 := by decide +kernel
theorem mc_X9_scan : MC u_X9_scan 3 := ⟨tbm 589 (by decide +kernel) rfl, tbm 119 (by decide +kernel) rfl, ⟨by decide, by decide, by decide +kernel⟩, by decide⟩
theorem in_X9_scan : Cond.instanceMethod u_X9_scan.1 ∈ TB ∧ Cond.selects u_X9_scan.1.cls u_X9_scan.1 u_X9_scan.1 ∈ TB := ⟨tbm 587 (by decide +kernel) rfl, tbm 588 (by decide +kernel) rfl⟩
def f_X9_scan_j147 (t : List Sh) (m : Mi) : Option (Mi) :=
  some m
def f_X9_scan_j118 (t : List Sh) (m : Mi) (a0 : Nat) (a4 : Int32) (a5 : Int32) (a6 : Int32) : Option ((Int32 × Int32 × Mi) ⊕ ((Mi))) :=
  bd (f_X9_takeMark t m a0 a4 a6) fun x13 m14 =>
  lt (a5 + 1) fun x15 =>
  some (.inl (x13, x15, m14))
def f_X9_scan_l31 (t : List Sh) (m : Mi) (a0 : Nat) (a4 : Int32) (a5 : Int32) : Option ((Int32 × Int32 × Mi) ⊕ ((Mi))) :=
  if (gi m a0 5) ≤ a5 then
    some (.inr m)
  else
    if (gi m a0 5) ≤ a4 then
      some (.inr m)
    else
      (f_X9_signAt t m a0 a4).bind fun x8 =>
      (f_X9_isBlank x8).bind fun x9 =>
      if x9 = 0 then
        (f_X9_isSmall x8).bind fun x11 =>
        if x11 = 0 then
          if x8 = 124 then
            f_X9_scan_j118 t m a0 a4 a5 x8
          else
            if x8 = 123 then
              f_X9_scan_j118 t m a0 a4 a5 x8
            else
              if x8 = 125 then
                f_X9_scan_j118 t m a0 a4 a5 x8
              else
                if x8 = 59 then
                  f_X9_scan_j118 t m a0 a4 a5 x8
                else
                  bd (f_X9_takePart t m a0 a4 x8) fun x20 m21 =>
                  lt (a5 + 1) fun x22 =>
                  some (.inl (x20, x22, m21))
        else
          bd (f_X9_takeName t m a0 a4) fun x23 m24 =>
          lt (a5 + 1) fun x25 =>
          some (.inl (x23, x25, m24))
      else
        lt (a4 + 1) fun x26 =>
        lt (a5 + 1) fun x27 =>
        some (.inl (x26, x27, m))
def f_X9_scan_j31 (t : List Sh) (m : Mi) (a0 : Nat) (a4 : Int32) (a5 : Int32) : Option (Mi) :=
  (lp (fun x : Int32 × Int32 × Mi => f_X9_scan_l31 t x.2.2 a0 x.1 x.2.1) FUEL (a4, a5, m)).bind (fun y : Mi => f_X9_scan_j147 t y)
def f_X9_scan (t : List Sh) (m : Mi) (a0 : Nat) (a1 : Nat) (a2 : Int32) (a3 : Int32) : Option (Mi) :=
  lt (sr m a0 4 a1) fun m1 =>
  (if aa t a1 .byte = true then
  lt (si m1 a0 5 (if (Int32.ofNat (ln t a1)) < a3 then (Int32.ofNat (ln t a1)) else a3)) fun m3 =>
  lt (si m3 a0 3 0) fun m4 =>
  lt (if 0 < a2 then a2 else 0) fun x5 =>
  f_X9_scan_j31 t m4 a0 x5 x5
  else none)
set_option maxRecDepth 4000 in
set_option maxHeartbeats 4000000 in
theorem sm_X9_scan (t : List Sh) (m : Mi) (a0 : Nat) (a1 : Nat) (a2 : Int32) (a3 : Int32) (h0 : sh t a0 = some (.inl 9)) : Sm u_X9_scan (9, 0, 0, t.length, zs t) (kV t) 0 [(0, .inr (.inr a0)), (1, .inr (.inr a1)), (2, .inl a2), (3, .inl a3)] [] (t, m) (f_X9_scan t m a0 a1 a2 a3) := by
  unfold f_X9_scan
  refine r_aload_n 0 1 0 rfl rfl rfl rfl ?_
  refine r_aload_n 1 2 1 rfl rfl rfl rfl ?_
  refine r_putR 2 5 rfl rfl fl_RX9_26 (fun h => by cases h) rfl h0 ?_
  refine r_ltM (fun m1 => ?_)
  refine r_aload_n 3 6 0 rfl rfl rfl rfl ?_
  refine r_iload_n 4 7 3 rfl rfl rfl rfl ?_
  refine r_aload_n 5 8 1 rfl rfl rfl rfl ?_
  refine r_gd (fun h2 => ?_)
  refine r_alen 6 9 2 rfl rfl (fun _ => rfl) h2 ?_
  refine r_minI 7 12 rfl rfl lk_RX9_39 (Nat.le_of_ble_eq_true rfl) (Nat.le_of_ble_eq_true rfl) ?_
  refine r_putI 8 15 rfl rfl fl_RX9_29 (fun h => by cases h) (Or.inl rfl) h0 ?_
  refine r_ltM (fun m3 => ?_)
  refine r_aload_n 9 16 0 rfl rfl rfl rfl ?_
  refine r_iconst 10 17 (v := 0) rfl rfl (by decide) ?_
  refine r_putI 11 20 rfl rfl fl_RX9_22 (fun h => by cases h) (Or.inl rfl) h0 ?_
  refine r_ltM (fun m4 => ?_)
  refine r_iconst 12 21 (v := 0) rfl rfl (by decide) ?_
  refine r_iload_n 13 22 2 rfl rfl rfl rfl ?_
  refine r_maxI 14 25 rfl rfl lk_RX9_45 (Nat.le_of_ble_eq_true rfl) (Nat.le_of_ble_eq_true rfl) ?_
  refine r_ltI (fun x5 => ?_)
  refine r_istore 15 27 (L' := [(4, .inl x5), (0, .inr (.inr a0)), (1, .inr (.inr a1)), (2, .inl a2), (3, .inl a3)]) rfl rfl (by decide) rfl ?_
  refine r_iload 16 29 0 rfl rfl rfl ?_
  refine r_istore 17 31 (L' := [(5, .inl x5), (4, .inl x5), (0, .inr (.inr a0)), (1, .inr (.inr a1)), (2, .inl a2), (3, .inl a3)]) rfl rfl (by decide) rfl ?_
  have hj31 : ∀ (m : Mi) (a4 : Int32) (a5 : Int32), Sm u_X9_scan (9, 0, 0, t.length, zs t) (kV t) 31 [(0, .inr (.inr a0)), (4, .inl a4), (5, .inl a5)] [] (t, m) (f_X9_scan_j31 t m a0 a4 a5) := by
    intro m a4 a5
    unfold f_X9_scan_j31
    have hj147 : ∀ (m : Mi), Sm u_X9_scan (9, 0, 0, t.length, zs t) (kV t) 147 [] [] (t, m) (f_X9_scan_j147 t m) := by
      intro m
      unfold f_X9_scan_j147
      exact r_vret 68 rfl rfl rfl
    refine r_lp (Lf := fun x : Int32 × Int32 × Mi => [(0, .inr (.inr a0)), (4, .inl (x.1)), (5, .inl (x.2.1))]) (Mf := fun x : Int32 × Int32 × Mi => (t, x.2.2)) (a4, a5, m) ?_ FUEL
    rintro ⟨a4, a5, m⟩ κ31 hc31 he31
    refine r_eq (L' := [(0, .inr (.inr a0)), (4, .inl a4), (5, .inl a5)]) (M' := (t, m)) rfl rfl ?_
    refine r_eqr (r' := f_X9_scan_l31 t m a0 a4 a5) rfl ?_
    unfold f_X9_scan_l31
    refine r_iload 18 33 2 rfl rfl rfl ?_
    refine r_aload_n 19 34 0 rfl rfl rfl rfl ?_
    refine r_getI 20 37 rfl rfl fl_RX9_29 rfl h0 ?_
    refine r_icmp_ge 21 147 40 rfl rfl rfl (fun h6 => ?_) (fun h6 => ?_)
    · refine r_leaf (r2 := (f_X9_scan_j147 t m : Option (Mi))) (he31 _) ?_
      exact r_sub [] rfl (hj147 m)
    · refine r_iload 22 42 1 rfl rfl rfl ?_
      refine r_aload_n 23 43 0 rfl rfl rfl rfl ?_
      refine r_getI 24 46 rfl rfl fl_RX9_29 rfl h0 ?_
      refine r_icmp_ge 25 147 49 rfl rfl rfl (fun h7 => ?_) (fun h7 => ?_)
      · refine r_leaf (r2 := (f_X9_scan_j147 t m : Option (Mi))) (he31 _) ?_
        exact r_sub [] rfl (hj147 m)
      · refine r_aload_n 26 50 0 rfl rfl rfl rfl ?_
        refine r_iload 27 52 1 rfl rfl rfl ?_
        refine r_VIo 28 55 (st := []) (av := [.inr (.inr a0), .inl a4]) (av' := [.inl a4]) (μ' := u_X9_signAt) (d := 1) rfl rfl mc_X9_signAt in_X9_signAt lk_RX9_48 (Nat.le_of_ble_eq_true rfl) rfl rfl h0 rfl (Nat.le_of_ble_eq_true rfl) (fun _ h => ct_X9_signAt h0 h) (fun x8 => ?_)
        refine r_istore 29 57 (L' := [(6, .inl x8), (0, .inr (.inr a0)), (4, .inl a4), (5, .inl a5)]) rfl rfl (by decide) rfl ?_
        refine r_iload 30 59 0 rfl rfl rfl ?_
        refine r_SIo 31 62 (a := 0) (cn := 0) (st := []) (av := [.inl x8]) (μ' := u_X9_isBlank) (d := 1) rfl rfl mc_X9_isBlank st_X9_isBlank lk_RX9_52 (Nat.le_of_ble_eq_true rfl) rfl (Nat.le_of_ble_eq_true rfl) (fun _ h => ct_X9_isBlank h) (fun x9 => ?_)
        refine r_if_eq 32 71 65 rfl rfl rfl (fun h10 => ?_) (fun h10 => ?_)
        · refine r_iload 35 73 0 rfl rfl rfl ?_
          refine r_SIo 36 76 (a := 0) (cn := 0) (st := []) (av := [.inl x8]) (μ' := u_X9_isSmall) (d := 1) rfl rfl mc_X9_isSmall st_X9_isSmall lk_RX9_56 (Nat.le_of_ble_eq_true rfl) rfl (Nat.le_of_ble_eq_true rfl) (fun _ h => ct_X9_isSmall h) (fun x11 => ?_)
          refine r_if_eq 37 90 79 rfl rfl rfl (fun h12 => ?_) (fun h12 => ?_)
          · refine r_iload 43 92 0 rfl rfl rfl ?_
            refine r_bipush 44 94 (v := 124) rfl rfl (by decide) ?_
            have hj118 : ∀ (m : Mi) (a4 : Int32) (a5 : Int32) (a6 : Int32), Sm u_X9_scan (9, 0, 0, t.length, zs t) κ31 118 [(0, .inr (.inr a0)), (4, .inl a4), (5, .inl a5), (6, .inl a6)] [] (t, m) (f_X9_scan_j118 t m a0 a4 a5 a6) := by
              intro m a4 a5 a6
              unfold f_X9_scan_j118
              refine r_aload_n 55 119 0 rfl rfl rfl rfl ?_
              refine r_iload 56 121 1 rfl rfl rfl ?_
              refine r_iload 57 123 3 rfl rfl rfl ?_
              refine r_VI 58 126 (st := []) (av := [.inr (.inr a0), .inl a4, .inl a6]) (av' := [.inl a4, .inl a6]) (μ' := u_X9_takeMark) (d := 3) rfl rfl mc_X9_takeMark in_X9_takeMark lk_RX9_62 (Nat.le_of_ble_eq_true rfl) rfl rfl h0 rfl (Nat.le_of_ble_eq_true rfl) (fun _ _ h => ct_X9_takeMark h0 h) (fun x13 m14 => ?_)
              refine r_istore 59 128 (L' := [(4, .inl x13), (0, .inr (.inr a0)), (5, .inl a5), (6, .inl a6)]) rfl rfl (by decide) rfl ?_
              refine r_goto 60 141 rfl rfl ?_
              refine r_iinc 66 144 2 (L' := [(5, .inl (a5 + 1)), (4, .inl x13), (0, .inr (.inr a0)), (6, .inl a6)]) rfl rfl rfl (by decide) rfl ?_
              refine r_ltV (fun x15 => ?_)
              refine r_goto 67 31 rfl rfl ?_
              exact r_sub [2, 1, 0] rfl (hc31 (x13, x15, m14))
            refine r_icmp_eq 45 118 97 rfl rfl rfl (fun h16 => ?_) (fun h16 => ?_)
            · exact r_sub [1, 2, 3, 0] rfl (hj118 m a4 a5 x8)
            · refine r_iload 46 99 0 rfl rfl rfl ?_
              refine r_bipush 47 101 (v := 123) rfl rfl (by decide) ?_
              refine r_icmp_eq 48 118 104 rfl rfl rfl (fun h17 => ?_) (fun h17 => ?_)
              · exact r_sub [1, 2, 3, 0] rfl (hj118 m a4 a5 x8)
              · refine r_iload 49 106 0 rfl rfl rfl ?_
                refine r_bipush 50 108 (v := 125) rfl rfl (by decide) ?_
                refine r_icmp_eq 51 118 111 rfl rfl rfl (fun h18 => ?_) (fun h18 => ?_)
                · exact r_sub [1, 2, 3, 0] rfl (hj118 m a4 a5 x8)
                · refine r_iload 52 113 0 rfl rfl rfl ?_
                  refine r_bipush 53 115 (v := 59) rfl rfl (by decide) ?_
                  refine r_icmp_ne 54 131 118 rfl rfl rfl (fun h19 => ?_) (fun h19 => ?_)
                  · exact r_sub [1, 2, 3, 0] rfl (hj118 m a4 a5 x8)
                  · refine r_aload_n 61 132 1 rfl rfl rfl rfl ?_
                    refine r_iload 62 134 2 rfl rfl rfl ?_
                    refine r_iload 63 136 0 rfl rfl rfl ?_
                    refine r_VI 64 139 (st := []) (av := [.inr (.inr a0), .inl a4, .inl x8]) (av' := [.inl a4, .inl x8]) (μ' := u_X9_takePart) (d := 5) rfl rfl mc_X9_takePart in_X9_takePart lk_RX9_65 (Nat.le_of_ble_eq_true rfl) rfl rfl h0 rfl (Nat.le_of_ble_eq_true rfl) (fun _ _ h => ct_X9_takePart h0 h) (fun x20 m21 => ?_)
                    refine r_istore 65 141 (L' := [(4, .inl x20), (6, .inl x8), (0, .inr (.inr a0)), (5, .inl a5)]) rfl rfl (by decide) rfl ?_
                    refine r_iinc 66 144 3 (L' := [(5, .inl (a5 + 1)), (4, .inl x20), (6, .inl x8), (0, .inr (.inr a0))]) rfl rfl rfl (by decide) rfl ?_
                    refine r_ltV (fun x22 => ?_)
                    refine r_goto 67 31 rfl rfl ?_
                    exact r_sub [3, 1, 0] rfl (hc31 (x20, x22, m21))
          · refine r_aload_n 38 80 1 rfl rfl rfl rfl ?_
            refine r_iload 39 82 2 rfl rfl rfl ?_
            refine r_VI 40 85 (st := []) (av := [.inr (.inr a0), .inl a4]) (av' := [.inl a4]) (μ' := u_X9_takeName) (d := 8) rfl rfl mc_X9_takeName in_X9_takeName lk_RX9_59 (Nat.le_of_ble_eq_true rfl) rfl rfl h0 rfl (Nat.le_of_ble_eq_true rfl) (fun _ _ h => ct_X9_takeName h0 h) (fun x23 m24 => ?_)
            refine r_istore 41 87 (L' := [(4, .inl x23), (6, .inl x8), (0, .inr (.inr a0)), (5, .inl a5)]) rfl rfl (by decide) rfl ?_
            refine r_goto 42 141 rfl rfl ?_
            refine r_iinc 66 144 3 (L' := [(5, .inl (a5 + 1)), (4, .inl x23), (6, .inl x8), (0, .inr (.inr a0))]) rfl rfl rfl (by decide) rfl ?_
            refine r_ltV (fun x25 => ?_)
            refine r_goto 67 31 rfl rfl ?_
            exact r_sub [3, 1, 0] rfl (hc31 (x23, x25, m24))
        · refine r_iinc 33 68 2 (L' := [(4, .inl (a4 + 1)), (6, .inl x8), (0, .inr (.inr a0)), (5, .inl a5)]) rfl rfl rfl (by decide) rfl ?_
          refine r_ltV (fun x26 => ?_)
          refine r_goto 34 141 rfl rfl ?_
          refine r_iinc 66 144 3 (L' := [(5, .inl (a5 + 1)), (4, .inl x26), (6, .inl x8), (0, .inr (.inr a0))]) rfl rfl rfl (by decide) rfl ?_
          refine r_ltV (fun x27 => ?_)
          refine r_goto 67 31 rfl rfl ?_
          exact r_sub [3, 1, 0] rfl (hc31 (x26, x27, m))
  exact r_sub [2, 1, 0] rfl (hj31 m4 x5 x5)
theorem ct_X9_scan {t : List Sh} {m : Mi} {a0 : Nat} {a1 : Nat} {a2 : Int32} {a3 : Int32} {m' : Mi}  (h0 : sh t a0 = some (.inl 9)) (h : f_X9_scan t m a0 a1 a2 a3 = some m') : Ct u_X9_scan 9 0 0 [.inr (.inr a0), .inr (.inr a1), .inl a2, .inl a3] (t, m) (none, (t, m')) :=
  ct_of (by decide) tk_X9_scan (Nat.le_of_ble_eq_true rfl) (sm_X9_scan t m a0 a1 a2 a3 h0) (by rw [h]; rfl) (Nat.le_refl _) (Nat.le_refl _)
