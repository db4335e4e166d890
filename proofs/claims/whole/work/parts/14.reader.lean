theorem fl_RX5_43 : FL RX5 43 5 7 false := ⟨RX5, TX5, 8, rfl, inW5, tyX5_ok, nmX5, by decide, rfl, rfl, rfl, tbm 249 (by decide +kernel) rfl⟩
def tb_X5_stop : Tb := [(0, (.aload_n 0, 1)), (1, (.getfield 43, 3)), (4, (.ireturn, 1))]
def u_X5_stop : Fx := (yX5_stop, (cX5_stop, (1, ((some .int), tb_X5_stop))))
theorem tk_X5_stop : ∀ q ∈ u_X5_stop.2.2.2.2, decode u_X5_stop.2.1 q.1 = .ok q.2 := by decide +kernel
theorem mc_X5_stop : MC u_X5_stop 0 := ⟨tbm 825 (by decide +kernel) rfl, tbm 120 (by decide +kernel) rfl, ⟨by decide, by decide, by decide +kernel⟩, by decide⟩
theorem in_X5_stop : Cond.instanceMethod u_X5_stop.1 ∈ TB ∧ Cond.selects u_X5_stop.1.cls u_X5_stop.1 u_X5_stop.1 ∈ TB := ⟨tbm 823 (by decide +kernel) rfl, tbm 824 (by decide +kernel) rfl⟩
def f_X5_stop (t : List Sh) (m : Mi) (a0 : Nat) : Option (Int32) :=
  some (gi m a0 7)
set_option maxRecDepth 4000 in
set_option maxHeartbeats 4000000 in
theorem sm_X5_stop (t : List Sh) (m : Mi) (a0 : Nat) (h0 : sh t a0 = some (.inl 5)) : Sm u_X5_stop (1, 0, 0, t.length, zs t) (kIo t m) 0 [(0, .inr (.inr a0))] [] (t, m) (f_X5_stop t m a0) := by
  unfold f_X5_stop
  refine r_aload_n 0 1 0 rfl rfl rfl rfl ?_
  refine r_getI 1 4 rfl rfl fl_RX5_43 rfl h0 ?_
  exact r_iret 2 rfl rfl rfl
theorem ct_X5_stop {t : List Sh} {m : Mi} {a0 : Nat} {v : Int32}  (h0 : sh t a0 = some (.inl 5)) (h : f_X5_stop t m a0 = some v) : Ct u_X5_stop 1 0 0 [.inr (.inr a0)] (t, m) (some (.inl v), (t, m)) :=
  ct_of (by decide) tk_X5_stop (Nat.le_of_ble_eq_true rfl) (sm_X5_stop t m a0 h0) (by rw [h]; rfl) (Nat.le_refl _) (Nat.le_refl _)
theorem lk_RX5_47 : Cond.methodLink RX5 47 yX9_size ∈ TB := tbm 814 (by decide +kernel) rfl
theorem lk_RX5_53 : Cond.methodLink RX5 53 yX9_kindAt ∈ TB := tbm 818 (by decide +kernel) rfl
theorem lk_RX5_57 : Cond.methodLink RX5 57 yX9_isPart ∈ TB := tbm 819 (by decide +kernel) rfl
def tb_X5_check : Tb := [(0, (.iconst 1, 1)), (1, (.istore_n 3, 1)), (2, (.iconst 0, 1)), (3, (.istore 4, 2)), (5, (.aload_n 0, 1)), (6, (.iload_n 2, 1)), (7, (.putfield 43, 3)), (10, (.aload_n 0, 1)), (11, (.getfield 43, 3)), (14, (.aload_n 1, 1)), (15, (.invokevirtual 47, 3)), (18, (.if_icmp .ge 70, 3)), (21, (.aload_n 1, 1)), (22, (.aload_n 0, 1)), (23, (.getfield 43, 3)), (26, (.invokevirtual 53, 3)), (29, (.istore 5, 2)), (31, (.iload 5, 2)), (33, (.invokestatic 57, 3)), (36, (.ifCond .eq 21, 3)), (39, (.iinc 4 1, 3)), (42, (.iload 4, 2)), (44, (.bipush 6, 2)), (46, (.if_icmp .gt 9, 3)), (49, (.iload_n 3, 1)), (50, (.bipush 16, 2)), (52, (.if_icmp .le 23, 3)), (55, (.iconst 2, 1)), (56, (.ireturn, 1)), (57, (.iload 5, 2)), (59, (.bipush 9, 2)), (61, (.if_icmp .ne 27, 3)), (64, (.iload 4, 2)), (66, (.ifCond .le 22, 3)), (69, (.iinc 3 1, 3)), (72, (.iconst 0, 1)), (73, (.istore 4, 2)), (75, (.aload_n 0, 1)), (76, (.dup, 1)), (77, (.getfield 43, 3)), (80, (.iconst 1, 1)), (81, (.iadd, 1)), (82, (.putfield 43, 3)), (85, (.goto (-75), 3)), (88, (.iload 4, 2)), (90, (.ifCond .ne 7, 3)), (93, (.iconst 1, 1)), (94, (.goto 4, 3)), (97, (.iconst 0, 1)), (98, (.ireturn, 1))]
def u_X5_check : Fx := (yX5_check, (cX5_check, (6, ((some .int), tb_X5_check))))
theorem tk_X5_check : ∀ q ∈ u_X5_check.2.2.2.2, decode u_X5_check.2.1 q.1 = .ok q.2 := by decide +kernel
theorem mc_X5_check : MC u_X5_check 2 := ⟨tbm 813 (by decide +kernel) rfl, tbm 120 (by decide +kernel) rfl, ⟨by decide, by decide, by decide +kernel⟩, by decide⟩
theorem in_X5_check : Cond.instanceMethod u_X5_check.1 ∈ TB ∧ Cond.selects u_X5_check.1.cls u_X5_check.1 u_X5_check.1 ∈ TB := ⟨tbm 811 (by decide +kernel) rfl, tbm 812 (by decide +kernel) rfl⟩
def f_X5_check_j55 (t : List Sh) (m : Mi) : Option (Int32 × Mi) :=
  some (2, m)
def f_X5_check_j88 (t : List Sh) (m : Mi) (a4 : Int32) : Option (Int32 × Mi) :=
  if a4 = 0 then
    some (1, m)
  else
    some (0, m)
def f_X5_check_j75 (t : List Sh) (m : Mi) (a0 : Nat) (a1 : Nat) (a3 : Int32) (a4 : Int32) : Option ((Int32 × Int32 × Mi) ⊕ ((Int32 × Mi) ⊕ (Mi))) :=
  lt (si m a0 7 ((gi m a0 7) + 1)) fun m8 =>
  some (.inl (a3, a4, m8))
def f_X5_check_l10 (t : List Sh) (m : Mi) (a0 : Nat) (a1 : Nat) (a3 : Int32) (a4 : Int32) : Option ((Int32 × Int32 × Mi) ⊕ ((Int32 × Mi) ⊕ (Mi))) :=
  (if ob t a1 9 = true then
  (f_X9_size t m a1).bind fun x4 =>
  if x4 ≤ (gi m a0 7) then
    some (.inr (.inl (a4, m)))
  else
    (f_X9_kindAt t m a1 (gi m a0 7)).bind fun x6 =>
    (f_X9_isPart x6).bind fun x7 =>
    if x7 = 0 then
      if x6 = 9 then
        if a4 ≤ 0 then
          some (.inr (.inl (a4, m)))
        else
          lt (a3 + 1) fun x12 =>
          f_X5_check_j75 t m a0 a1 x12 0
      else
        some (.inr (.inl (a4, m)))
    else
      lt (a4 + 1) fun x13 =>
      if 6 < x13 then
        some (.inr (.inr m))
      else
        if a3 ≤ 16 then
          f_X5_check_j75 t m a0 a1 a3 x13
        else
          some (.inr (.inr m))
  else none)
def f_X5_check_j10 (t : List Sh) (m : Mi) (a0 : Nat) (a1 : Nat) (a3 : Int32) (a4 : Int32) : Option (Int32 × Mi) :=
  (lp (fun x : Int32 × Int32 × Mi => f_X5_check_l10 t x.2.2 a0 a1 x.1 x.2.1) FUEL (a3, a4, m)).bind (Sum.elim (fun y : Int32 × Mi => f_X5_check_j88 t (y.2) (y.1)) (fun y : Mi => f_X5_check_j55 t y))
def f_X5_check (t : List Sh) (m : Mi) (a0 : Nat) (a1 : Nat) (a2 : Int32) : Option (Int32 × Mi) :=
  lt (si m a0 7 a2) fun m1 =>
  f_X5_check_j10 t m1 a0 a1 1 0
set_option maxRecDepth 4000 in
set_option maxHeartbeats 4000000 in
theorem sm_X5_check (t : List Sh) (m : Mi) (a0 : Nat) (a1 : Nat) (a2 : Int32) (h0 : sh t a0 = some (.inl 5)) : Sm u_X5_check (2, 0, 0, t.length, zs t) (kI t) 0 [(0, .inr (.inr a0)), (1, .inr (.inr a1)), (2, .inl a2)] [] (t, m) (f_X5_check t m a0 a1 a2) := by
  unfold f_X5_check
  refine r_iconst 0 1 (v := 1) rfl rfl (by decide) ?_
  refine r_istore_n 1 2 (L' := [(3, .inl 1), (0, .inr (.inr a0)), (1, .inr (.inr a1)), (2, .inl a2)]) rfl rfl rfl (by decide) rfl ?_
  refine r_iconst 2 3 (v := 0) rfl rfl (by decide) ?_
  refine r_istore 3 5 (L' := [(4, .inl 0), (3, .inl 1), (0, .inr (.inr a0)), (1, .inr (.inr a1)), (2, .inl a2)]) rfl rfl (by decide) rfl ?_
  refine r_aload_n 4 6 2 rfl rfl rfl rfl ?_
  refine r_iload_n 5 7 4 rfl rfl rfl rfl ?_
  refine r_putI 6 10 rfl rfl fl_RX5_43 (fun h => by cases h) (Or.inl rfl) h0 ?_
  refine r_ltM (fun m1 => ?_)
  have hj10 : ∀ (m : Mi) (a3 : Int32) (a4 : Int32), Sm u_X5_check (2, 0, 0, t.length, zs t) (kI t) 10 [(0, .inr (.inr a0)), (1, .inr (.inr a1)), (3, .inl a3), (4, .inl a4)] [] (t, m) (f_X5_check_j10 t m a0 a1 a3 a4) := by
    intro m a3 a4
    unfold f_X5_check_j10
    have hj55 : ∀ (m : Mi), Sm u_X5_check (2, 0, 0, t.length, zs t) (kI t) 55 [] [] (t, m) (f_X5_check_j55 t m) := by
      intro m
      unfold f_X5_check_j55
      refine r_iconst 27 56 (v := 2) rfl rfl (by decide) ?_
      exact r_iret 28 rfl rfl rfl
    have hj88 : ∀ (m : Mi) (a4 : Int32), Sm u_X5_check (2, 0, 0, t.length, zs t) (kI t) 88 [(4, .inl a4)] [] (t, m) (f_X5_check_j88 t m a4) := by
      intro m a4
      unfold f_X5_check_j88
      refine r_iload 44 90 0 rfl rfl rfl ?_
      refine r_if_ne 45 97 93 rfl rfl rfl (fun h2 => ?_) (fun h2 => ?_)
      · refine r_iconst 46 94 (v := 1) rfl rfl (by decide) ?_
        refine r_goto 47 98 rfl rfl ?_
        exact r_iret 49 rfl rfl rfl
      · refine r_iconst 48 98 (v := 0) rfl rfl (by decide) ?_
        exact r_iret 49 rfl rfl rfl
    refine r_lp (Lf := fun x : Int32 × Int32 × Mi => [(0, .inr (.inr a0)), (1, .inr (.inr a1)), (3, .inl (x.1)), (4, .inl (x.2.1))]) (Mf := fun x : Int32 × Int32 × Mi => (t, x.2.2)) (a3, a4, m) ?_ FUEL
    rintro ⟨a3, a4, m⟩ κ10 hc10 he10
    refine r_eq (L' := [(0, .inr (.inr a0)), (1, .inr (.inr a1)), (3, .inl a3), (4, .inl a4)]) (M' := (t, m)) rfl rfl ?_
    refine r_eqr (r' := f_X5_check_l10 t m a0 a1 a3 a4) rfl ?_
    unfold f_X5_check_l10
    refine r_aload_n 7 11 0 rfl rfl rfl rfl ?_
    refine r_getI 8 14 rfl rfl fl_RX5_43 rfl h0 ?_
    refine r_aload_n 9 15 1 rfl rfl rfl rfl ?_
    refine r_gd (fun h3 => ?_)
    refine r_VIo 10 18 (st := [.inl (gi m a0 7)]) (av := [.inr (.inr a1)]) (av' := []) (μ' := u_X9_size) (d := 1) rfl rfl mc_X9_size in_X9_size lk_RX5_47 (Nat.le_of_ble_eq_true rfl) rfl rfl (ob_sh h3) rfl (Nat.le_of_ble_eq_true rfl) (fun _ h => ct_X9_size (ob_sh h3) h) (fun x4 => ?_)
    refine r_icmp_ge 11 88 21 rfl rfl rfl (fun h5 => ?_) (fun h5 => ?_)
    · refine r_leaf (r2 := (f_X5_check_j88 t m a4 : Option (Int32 × Mi))) (he10 _) ?_
      exact r_sub [3] rfl (hj88 m a4)
    · refine r_aload_n 12 22 1 rfl rfl rfl rfl ?_
      refine r_aload_n 13 23 0 rfl rfl rfl rfl ?_
      refine r_getI 14 26 rfl rfl fl_RX5_43 rfl h0 ?_
      refine r_VIo 15 29 (st := []) (av := [.inr (.inr a1), .inl (gi m a0 7)]) (av' := [.inl (gi m a0 7)]) (μ' := u_X9_kindAt) (d := 1) rfl rfl mc_X9_kindAt in_X9_kindAt lk_RX5_53 (Nat.le_of_ble_eq_true rfl) rfl rfl (ob_sh h3) rfl (Nat.le_of_ble_eq_true rfl) (fun _ h => ct_X9_kindAt (ob_sh h3) h) (fun x6 => ?_)
      refine r_istore 16 31 (L' := [(5, .inl x6), (0, .inr (.inr a0)), (1, .inr (.inr a1)), (3, .inl a3), (4, .inl a4)]) rfl rfl (by decide) rfl ?_
      refine r_iload 17 33 0 rfl rfl rfl ?_
      refine r_SIo 18 36 (a := 0) (cn := 0) (st := []) (av := [.inl x6]) (μ' := u_X9_isPart) (d := 1) rfl rfl mc_X9_isPart st_X9_isPart lk_RX5_57 (Nat.le_of_ble_eq_true rfl) rfl (Nat.le_of_ble_eq_true rfl) (fun _ h => ct_X9_isPart h) (fun x7 => ?_)
      have hj75 : ∀ (m : Mi) (a3 : Int32) (a4 : Int32), Sm u_X5_check (2, 0, 0, t.length, zs t) κ10 75 [(0, .inr (.inr a0)), (1, .inr (.inr a1)), (3, .inl a3), (4, .inl a4)] [] (t, m) (f_X5_check_j75 t m a0 a1 a3 a4) := by
        intro m a3 a4
        unfold f_X5_check_j75
        refine r_aload_n 37 76 0 rfl rfl rfl rfl ?_
        refine r_dup 38 77 rfl rfl rfl ?_
        refine r_getI 39 80 rfl rfl fl_RX5_43 rfl h0 ?_
        refine r_iconst 40 81 (v := 1) rfl rfl (by decide) ?_
        refine r_iadd 41 82 rfl rfl ?_
        refine r_putI 42 85 rfl rfl fl_RX5_43 (fun h => by cases h) (Or.inl rfl) h0 ?_
        refine r_ltM (fun m8 => ?_)
        refine r_goto 43 10 rfl rfl ?_
        exact hc10 (a3, a4, m8)
      refine r_if_eq 19 57 39 rfl rfl rfl (fun h9 => ?_) (fun h9 => ?_)
      · refine r_iload 29 59 0 rfl rfl rfl ?_
        refine r_bipush 30 61 (v := 9) rfl rfl (by decide) ?_
        refine r_icmp_ne 31 88 64 rfl rfl rfl (fun h10 => ?_) (fun h10 => ?_)
        · refine r_iload 32 66 4 rfl rfl rfl ?_
          refine r_if_le 33 88 69 rfl rfl rfl (fun h11 => ?_) (fun h11 => ?_)
          · refine r_leaf (r2 := (f_X5_check_j88 t m a4 : Option (Int32 × Mi))) (he10 _) ?_
            exact r_sub [4] rfl (hj88 m a4)
          · refine r_iinc 34 72 3 (L' := [(3, .inl (a3 + 1)), (5, .inl x6), (0, .inr (.inr a0)), (1, .inr (.inr a1)), (4, .inl a4)]) rfl rfl rfl (by decide) rfl ?_
            refine r_ltV (fun x12 => ?_)
            refine r_iconst 35 73 (v := 0) rfl rfl (by decide) ?_
            refine r_istore 36 75 (L' := [(4, .inl 0), (3, .inl x12), (5, .inl x6), (0, .inr (.inr a0)), (1, .inr (.inr a1))]) rfl rfl (by decide) rfl ?_
            exact r_sub [3, 4, 1, 0] rfl (hj75 m x12 0)
        · refine r_leaf (r2 := (f_X5_check_j88 t m a4 : Option (Int32 × Mi))) (he10 _) ?_
          exact r_sub [4] rfl (hj88 m a4)
      · refine r_iinc 20 42 4 (L' := [(4, .inl (a4 + 1)), (5, .inl x6), (0, .inr (.inr a0)), (1, .inr (.inr a1)), (3, .inl a3)]) rfl rfl rfl (by decide) rfl ?_
        refine r_ltV (fun x13 => ?_)
        refine r_iload 21 44 0 rfl rfl rfl ?_
        refine r_bipush 22 46 (v := 6) rfl rfl (by decide) ?_
        refine r_icmp_gt 23 55 49 rfl rfl rfl (fun h14 => ?_) (fun h14 => ?_)
        · refine r_leaf (r2 := (f_X5_check_j55 t m : Option (Int32 × Mi))) (he10 _) ?_
          exact r_sub [] rfl (hj55 m)
        · refine r_iload_n 24 50 4 rfl rfl rfl rfl ?_
          refine r_bipush 25 52 (v := 16) rfl rfl (by decide) ?_
          refine r_icmp_le 26 75 55 rfl rfl rfl (fun h15 => ?_) (fun h15 => ?_)
          · exact r_sub [2, 3, 4, 0] rfl (hj75 m a3 x13)
          · refine r_leaf (r2 := (f_X5_check_j55 t m : Option (Int32 × Mi))) (he10 _) ?_
            exact r_sub [] rfl (hj55 m)
  exact r_sub [2, 3, 1, 0] rfl (hj10 m1 1 0)
theorem ct_X5_check {t : List Sh} {m : Mi} {a0 : Nat} {a1 : Nat} {a2 : Int32} {m' : Mi} {v : Int32}  (h0 : sh t a0 = some (.inl 5)) (h : f_X5_check t m a0 a1 a2 = some (v, m')) : Ct u_X5_check 2 0 0 [.inr (.inr a0), .inr (.inr a1), .inl a2] (t, m) (some (.inl v), (t, m')) :=
  ct_of (by decide) tk_X5_check (Nat.le_of_ble_eq_true rfl) (sm_X5_check t m a0 a1 a2 h0) (by rw [h]; rfl) (Nat.le_refl _) (Nat.le_refl _)
theorem fl_RX5_12 : FL RX5 12 5 0 true := ⟨RX5, TX5, 8, rfl, inW5, tyX5_ok, nmX5, by decide, rfl, rfl, rfl, tbm 242 (by decide +kernel) rfl⟩
theorem lk_RX5_149 : Cond.methodLink RX5 149 yX10_told ∈ TB := tbm 916 (by decide +kernel) rfl
theorem fl_RX5_125 : FL RX5 125 10 0 true := ⟨RX10, TX10, 5, rfl, inW10, tyX10_ok, nmX10, by decide, rfl, rfl, rfl, tbm 184 (by decide +kernel) rfl⟩
def tb_X5_firstThatIsNotZero : Tb := [(0, (.iconst 0, 1)), (1, (.istore_n 1, 1)), (2, (.iload_n 1, 1)), (3, (.aload_n 0, 1)), (4, (.getfield 12, 3)), (7, (.invokevirtual 149, 3)), (10, (.if_icmp .ge 30, 3)), (13, (.iload_n 1, 1)), (14, (.iconst 3, 1)), (15, (.if_icmp .ge 25, 3)), (18, (.aload_n 0, 1)), (19, (.getfield 12, 3)), (22, (.getfield 125, 3)), (25, (.iload_n 1, 1)), (26, (.laload, 1)), (27, (.lconst 0, 1)), (28, (.lcmp, 1)), (29, (.ifCond .eq 5, 3)), (32, (.iload_n 1, 1)), (33, (.ireturn, 1)), (34, (.iinc 1 1, 3)), (37, (.goto (-35), 3)), (40, (.aload_n 0, 1)), (41, (.getfield 12, 3)), (44, (.invokevirtual 149, 3)), (47, (.iconst 1, 1)), (48, (.isub, 1)), (49, (.ireturn, 1))]
def u_X5_firstThatIsNotZero : Fx := (yX5_firstThatIsNotZero, (cX5_firstThatIsNotZero, (2, ((some .int), tb_X5_firstThatIsNotZero))))
theorem tk_X5_firstThatIsNotZero : ∀ q ∈ u_X5_firstThatIsNotZero.2.2.2.2, decode u_X5_firstThatIsNotZero.2.1 q.1 = .ok q.2 := by decide +kernel
theorem mc_X5_firstThatIsNotZero : MC u_X5_firstThatIsNotZero 0 := ⟨tbm 936 (by decide +kernel) rfl, tbm 120 (by decide +kernel) rfl, ⟨by decide, by decide, by decide +kernel⟩, by decide⟩
theorem in_X5_firstThatIsNotZero : Cond.instanceMethod u_X5_firstThatIsNotZero.1 ∈ TB ∧ Cond.selects u_X5_firstThatIsNotZero.1.cls u_X5_firstThatIsNotZero.1 u_X5_firstThatIsNotZero.1 ∈ TB := ⟨tbm 935 (by decide +kernel) rfl, tbm 39 (by decide +kernel) rfl⟩
def f_X5_firstThatIsNotZero_j32 (t : List Sh) (m : Mi) (a1 : Int32) : Option (Int32) :=
  some a1
def f_X5_firstThatIsNotZero_j40 (t : List Sh) (m : Mi) (a0 : Nat) : Option (Int32) :=
  (if ob t (gr m a0 0) 10 = true then
  (f_X10_told t m (gr m a0 0)).bind fun x2 =>
  some (x2 - 1)
  else none)
def f_X5_firstThatIsNotZero_l2 (t : List Sh) (m : Mi) (a0 : Nat) (a1 : Int32) : Option ((Int32) ⊕ ((Unit) ⊕ (Int32))) :=
  (if ob t (gr m a0 0) 10 = true then
  (f_X10_told t m (gr m a0 0)).bind fun x4 =>
  if x4 ≤ a1 then
    some (.inr (.inl ()))
  else
    if 3 ≤ a1 then
      some (.inr (.inl ()))
    else
      (if ar t (gr m (gr m a0 0) 0) .long a1 = true then
      if (lg_cmp (gl m (gr m (gr m a0 0) 0) (ix a1)) 0) = 0 then
        lt (a1 + 1) fun x9 =>
        some (.inl x9)
      else
        some (.inr (.inr a1))
      else none)
  else none)
def f_X5_firstThatIsNotZero_j2 (t : List Sh) (m : Mi) (a0 : Nat) (a1 : Int32) : Option (Int32) :=
  (lp (fun x : Int32 => f_X5_firstThatIsNotZero_l2 t m a0 x) FUEL a1).bind (Sum.elim (fun y : Unit => f_X5_firstThatIsNotZero_j40 t m a0) (fun y : Int32 => f_X5_firstThatIsNotZero_j32 t m y))
def f_X5_firstThatIsNotZero (t : List Sh) (m : Mi) (a0 : Nat) : Option (Int32) :=
  f_X5_firstThatIsNotZero_j2 t m a0 0
set_option maxRecDepth 4000 in
set_option maxHeartbeats 4000000 in
theorem sm_X5_firstThatIsNotZero (t : List Sh) (m : Mi) (a0 : Nat) (h0 : sh t a0 = some (.inl 5)) : Sm u_X5_firstThatIsNotZero (2, 0, 0, t.length, zs t) (kIo t m) 0 [(0, .inr (.inr a0))] [] (t, m) (f_X5_firstThatIsNotZero t m a0) := by
  unfold f_X5_firstThatIsNotZero
  refine r_iconst 0 1 (v := 0) rfl rfl (by decide) ?_
  refine r_istore_n 1 2 (L' := [(1, .inl 0), (0, .inr (.inr a0))]) rfl rfl rfl (by decide) rfl ?_
  have hj2 : ∀ (a1 : Int32), Sm u_X5_firstThatIsNotZero (2, 0, 0, t.length, zs t) (kIo t m) 2 [(0, .inr (.inr a0)), (1, .inl a1)] [] (t, m) (f_X5_firstThatIsNotZero_j2 t m a0 a1) := by
    intro a1
    unfold f_X5_firstThatIsNotZero_j2
    have hj32 : ∀ (a1 : Int32), Sm u_X5_firstThatIsNotZero (2, 0, 0, t.length, zs t) (kIo t m) 32 [(1, .inl a1)] [] (t, m) (f_X5_firstThatIsNotZero_j32 t m a1) := by
      intro a1
      unfold f_X5_firstThatIsNotZero_j32
      refine r_iload_n 18 33 0 rfl rfl rfl rfl ?_
      exact r_iret 19 rfl rfl rfl
    have hj40 : Sm u_X5_firstThatIsNotZero (2, 0, 0, t.length, zs t) (kIo t m) 40 [(0, .inr (.inr a0))] [] (t, m) (f_X5_firstThatIsNotZero_j40 t m a0) := by
      unfold f_X5_firstThatIsNotZero_j40
      refine r_aload_n 22 41 0 rfl rfl rfl rfl ?_
      refine r_getR 23 44 rfl rfl fl_RX5_12 rfl h0 ?_
      refine r_gd (fun h1 => ?_)
      refine r_VIo 24 47 (st := []) (av := [.inr (.inr (gr m a0 0))]) (av' := []) (μ' := u_X10_told) (d := 1) rfl rfl mc_X10_told in_X10_told lk_RX5_149 (Nat.le_of_ble_eq_true rfl) rfl rfl (ob_sh h1) rfl (Nat.le_of_ble_eq_true rfl) (fun _ h => ct_X10_told (ob_sh h1) h) (fun x2 => ?_)
      refine r_iconst 25 48 (v := 1) rfl rfl (by decide) ?_
      refine r_isub 26 49 rfl rfl ?_
      exact r_iret 27 rfl rfl rfl
    refine r_lp (Lf := fun x : Int32 => [(0, .inr (.inr a0)), (1, .inl x)]) (Mf := fun x : Int32 => (t, m)) a1 ?_ FUEL
    rintro a1 κ2 hc2 he2
    refine r_eq (L' := [(0, .inr (.inr a0)), (1, .inl a1)]) (M' := (t, m)) rfl rfl ?_
    refine r_eqr (r' := f_X5_firstThatIsNotZero_l2 t m a0 a1) rfl ?_
    unfold f_X5_firstThatIsNotZero_l2
    refine r_iload_n 2 3 1 rfl rfl rfl rfl ?_
    refine r_aload_n 3 4 0 rfl rfl rfl rfl ?_
    refine r_getR 4 7 rfl rfl fl_RX5_12 rfl h0 ?_
    refine r_gd (fun h3 => ?_)
    refine r_VIo 5 10 (st := [.inl a1]) (av := [.inr (.inr (gr m a0 0))]) (av' := []) (μ' := u_X10_told) (d := 1) rfl rfl mc_X10_told in_X10_told lk_RX5_149 (Nat.le_of_ble_eq_true rfl) rfl rfl (ob_sh h3) rfl (Nat.le_of_ble_eq_true rfl) (fun _ h => ct_X10_told (ob_sh h3) h) (fun x4 => ?_)
    refine r_icmp_ge 6 40 13 rfl rfl rfl (fun h5 => ?_) (fun h5 => ?_)
    · refine r_leaf (r2 := (f_X5_firstThatIsNotZero_j40 t m a0 : Option (Int32))) (he2 _) ?_
      exact r_sub [0] rfl (hj40)
    · refine r_iload_n 7 14 1 rfl rfl rfl rfl ?_
      refine r_iconst 8 15 (v := 3) rfl rfl (by decide) ?_
      refine r_icmp_ge 9 40 18 rfl rfl rfl (fun h6 => ?_) (fun h6 => ?_)
      · refine r_leaf (r2 := (f_X5_firstThatIsNotZero_j40 t m a0 : Option (Int32))) (he2 _) ?_
        exact r_sub [0] rfl (hj40)
      · refine r_aload_n 10 19 0 rfl rfl rfl rfl ?_
        refine r_getR 11 22 rfl rfl fl_RX5_12 rfl h0 ?_
        refine r_getR 12 25 rfl rfl fl_RX5_125 rfl (ob_sh h3) ?_
        refine r_iload_n 13 26 1 rfl rfl rfl rfl ?_
        refine r_gd (fun h7 => ?_)
        refine r_lald 14 27 rfl rfl h7 ?_
        refine r_lconst 15 28 (v := 0) rfl rfl (by decide) ?_
        refine r_lcmp 16 29 rfl rfl ?_
        refine r_if_eq 17 34 32 rfl rfl rfl (fun h8 => ?_) (fun h8 => ?_)
        · refine r_iinc 20 37 1 (L' := [(1, .inl (a1 + 1)), (0, .inr (.inr a0))]) rfl rfl rfl (by decide) rfl ?_
          refine r_ltV (fun x9 => ?_)
          refine r_goto 21 2 rfl rfl ?_
          exact r_sub [1, 0] rfl (hc2 x9)
        · refine r_leaf (r2 := (f_X5_firstThatIsNotZero_j32 t m a1 : Option (Int32))) (he2 _) ?_
          exact r_sub [1] rfl (hj32 a1)
  exact r_sub [1, 0] rfl (hj2 0)
theorem ct_X5_firstThatIsNotZero {t : List Sh} {m : Mi} {a0 : Nat} {v : Int32}  (h0 : sh t a0 = some (.inl 5)) (h : f_X5_firstThatIsNotZero t m a0 = some v) : Ct u_X5_firstThatIsNotZero 2 0 0 [.inr (.inr a0)] (t, m) (some (.inl v), (t, m)) :=
  ct_of (by decide) tk_X5_firstThatIsNotZero (Nat.le_of_ble_eq_true rfl) (sm_X5_firstThatIsNotZero t m a0 h0) (by rw [h]; rfl) (Nat.le_refl _) (Nat.le_refl _)
theorem lk_RX5_3 : Cond.methodLink RX5 3 Lib.objectInit ∈ TB := tbm 237 (by decide +kernel) rfl
theorem wd_238 : Cond.classLink RX5 9 RX10 ∈ TB := tbm 238 (by decide +kernel) rfl
theorem lk_RX5_11 : Cond.methodLink RX5 11 yX10_init ∈ TB := tbm 239 (by decide +kernel) rfl
theorem fl_RX5_18 : FL RX5 18 5 1 true := ⟨RX5, TX5, 8, rfl, inW5, tyX5_ok, nmX5, by decide, rfl, rfl, rfl, tbm 243 (by decide +kernel) rfl⟩
theorem fl_RX5_22 : FL RX5 22 5 2 true := ⟨RX5, TX5, 8, rfl, inW5, tyX5_ok, nmX5, by decide, rfl, rfl, rfl, tbm 244 (by decide +kernel) rfl⟩
theorem fl_RX5_25 : FL RX5 25 5 3 true := ⟨RX5, TX5, 8, rfl, inW5, tyX5_ok, nmX5, by decide, rfl, rfl, rfl, tbm 245 (by decide +kernel) rfl⟩
theorem fl_RX5_28 : FL RX5 28 5 4 true := ⟨RX5, TX5, 8, rfl, inW5, tyX5_ok, nmX5, by decide, rfl, rfl, rfl, tbm 246 (by decide +kernel) rfl⟩
theorem wd_240 : Cond.classLink RX5 31 RX4 ∈ TB := tbm 240 (by decide +kernel) rfl
theorem wd_145 : Cond.instantiable RX4 (fN 4) ∈ TB := tbm 145 (by decide +kernel) rfl
theorem wd_115 : Cond.initialized RX4 ∈ TB := tbm 115 (by decide +kernel) rfl
theorem lk_RX5_33 : Cond.methodLink RX5 33 yX4_init ∈ TB := tbm 241 (by decide +kernel) rfl
theorem fl_RX5_36 : FL RX5 36 5 5 true := ⟨RX5, TX5, 8, rfl, inW5, tyX5_ok, nmX5, by decide, rfl, rfl, rfl, tbm 247 (by decide +kernel) rfl⟩
theorem fl_RX5_40 : FL RX5 40 5 6 true := ⟨RX5, TX5, 8, rfl, inW5, tyX5_ok, nmX5, by decide, rfl, rfl, rfl, tbm 248 (by decide +kernel) rfl⟩
def tb_X5_init : Tb := [(0, (.aload_n 0, 1)), (1, (.invokespecial 3, 3)), (4, (.aload_n 0, 1)), (5, (.new 9, 3)), (8, (.dup, 1)), (9, (.invokespecial 11, 3)), (12, (.putfield 12, 3)), (15, (.aload_n 0, 1)), (16, (.bipush 8, 2)), (18, (.newarray .long, 2)), (20, (.putfield 18, 3)), (23, (.aload_n 0, 1)), (24, (.bipush 8, 2)), (26, (.newarray .long, 2)), (28, (.putfield 22, 3)), (31, (.aload_n 0, 1)), (32, (.bipush 8, 2)), (34, (.newarray .long, 2)), (36, (.putfield 25, 3)), (39, (.aload_n 0, 1)), (40, (.bipush 8, 2)), (42, (.newarray .long, 2)), (44, (.putfield 28, 3)), (47, (.aload_n 0, 1)), (48, (.new 31, 3)), (51, (.dup, 1)), (52, (.iconst 1, 1)), (53, (.invokespecial 33, 3)), (56, (.putfield 36, 3)), (59, (.aload_n 0, 1)), (60, (.new 31, 3)), (63, (.dup, 1)), (64, (.bipush 32, 2)), (66, (.invokespecial 33, 3)), (69, (.putfield 40, 3)), (72, (.aload_n 0, 1)), (73, (.iconst 0, 1)), (74, (.putfield 43, 3)), (77, (.return_, 1))]
def u_X5_init : Fx := (yX5_init, (cX5_init, (1, (none, tb_X5_init))))
theorem tk_X5_init : ∀ q ∈ u_X5_init.2.2.2.2, decode u_X5_init.2.1 q.1 = .ok q.2 := by decide +kernel
theorem mc_X5_init : MC u_X5_init 0 := ⟨tbm 236 (by decide +kernel) rfl, tbm 120 (by decide +kernel) rfl, ⟨by decide, by decide, by decide +kernel⟩, by decide⟩
theorem ini_X5_init : Cond.instanceMethod u_X5_init.1 ∈ TB := tbm 235 (by decide +kernel) rfl
set_option maxRecDepth 20000 in
def f_X5_init (t : List Sh) (m : Mi) (a0 : Nat) : Option (Mm) :=
  (if t.length < 1000000 then
  lt (t.length + 1) fun r2 =>
  lt (t ++ [.inl 10]) fun t3 =>
  lt (zr m (t.length + 1)) fun m4 =>
  (if ob t3 r2 10 = true then
  bd (f_X10_init t3 m4 r2) fun t7 m6 =>
  (if ob t7 a0 5 = true then
  lt (sr m6 a0 0 r2) fun m9 =>
  (if t7.length < 1000000 then
  lt (t7.length + 1) fun r11 =>
  lt (t7 ++ [.inr (.long, ix 8)]) fun t12 =>
  lt (zr m9 (t7.length + 1)) fun m13 =>
  (if ob t12 a0 5 = true then
  lt (sr m13 a0 1 r11) fun m15 =>
  (if t12.length < 1000000 then
  lt (t12.length + 1) fun r17 =>
  lt (t12 ++ [.inr (.long, ix 8)]) fun t18 =>
  lt (zr m15 (t12.length + 1)) fun m19 =>
  (if ob t18 a0 5 = true then
  lt (sr m19 a0 2 r17) fun m21 =>
  (if t18.length < 1000000 then
  lt (t18.length + 1) fun r23 =>
  lt (t18 ++ [.inr (.long, ix 8)]) fun t24 =>
  lt (zr m21 (t18.length + 1)) fun m25 =>
  (if ob t24 a0 5 = true then
  lt (sr m25 a0 3 r23) fun m27 =>
  (if t24.length < 1000000 then
  lt (t24.length + 1) fun r29 =>
  lt (t24 ++ [.inr (.long, ix 8)]) fun t30 =>
  lt (zr m27 (t24.length + 1)) fun m31 =>
  (if ob t30 a0 5 = true then
  lt (sr m31 a0 4 r29) fun m33 =>
  (if t30.length < 1000000 then
  lt (t30.length + 1) fun r35 =>
  lt (t30 ++ [.inl 4]) fun t36 =>
  lt (zr m33 (t30.length + 1)) fun m37 =>
  (if ob t36 r35 4 = true then
  bd (f_X4_init t36 m37 r35 1) fun t40 m39 =>
  (if ob t40 a0 5 = true then
  lt (sr m39 a0 5 r35) fun m42 =>
  (if t40.length < 1000000 then
  lt (t40.length + 1) fun r44 =>
  lt (t40 ++ [.inl 4]) fun t45 =>
  lt (zr m42 (t40.length + 1)) fun m46 =>
  (if ob t45 r44 4 = true then
  bd (f_X4_init t45 m46 r44 32) fun t49 m48 =>
  (if ob t49 a0 5 = true then
  lt (sr m48 a0 6 r44) fun m51 =>
  lt (si m51 a0 7 0) fun m52 =>
  some (t49, m52)
  else none)
  else none)
  else none)
  else none)
  else none)
  else none)
  else none)
  else none)
  else none)
  else none)
  else none)
  else none)
  else none)
  else none)
  else none)
  else none)
  else none)
set_option maxRecDepth 40000 in
set_option maxHeartbeats 4000000 in
theorem sm_X5_init (e2 : Nat × (Nat × (Nat × Nat))) (t : List Sh) (m : Mi) (a0 : Nat) (h0 : sh t a0 = some (.inl 5)) : Sm u_X5_init (2, e2) kA 0 [(0, .inr (.inr a0))] [] (t, m) (f_X5_init t m a0) := by
  unfold f_X5_init
  refine r_aload_n 0 1 0 rfl rfl rfl rfl ?_
  refine r_objI 1 4 rfl rfl lk_RX5_3 (Nat.le_of_ble_eq_true rfl) (Nat.le_of_ble_eq_true rfl) h0 ?_
  refine r_aload_n 2 5 0 rfl rfl rfl rfl ?_
  refine r_gd (fun h1 => ?_)
  refine r_new 3 8 (c := 10) rfl rfl h1 rfl inW10 tyX10_ok wd_238 wd_177 wd_117 (by decide) ?_
  refine r_ltR (fun r2 => ?_)
  refine r_ltT (fun t3 => ?_)
  refine r_ltM (fun m4 => ?_)
  refine r_dup 4 9 rfl rfl rfl ?_
  refine r_gd (fun h5 => ?_)
  refine r_IA 5 12 (st := [.inr (.inr r2), .inr (.inr a0)]) (av := [.inr (.inr r2)]) (av' := []) (μ' := u_X10_init) (d := 1) rfl rfl mc_X10_init rfl rfl ini_X10_init lk_RX5_11 (Nat.le_of_ble_eq_true rfl) rfl rfl (ob_sh h5) (Nat.le_of_ble_eq_true rfl) (fun _ h => ct_X10_init (ob_sh h5) h) (fun _ h => mn_X10_init (ob_sh h5) h) (fun t7 m6 => ?_)
  refine r_gd (fun h8 => ?_)
  refine r_putR 6 15 rfl rfl fl_RX5_12 (fun _ => ⟨rfl, rfl⟩) rfl (ob_sh h8) ?_
  refine r_ltM (fun m9 => ?_)
  refine r_aload_n 7 16 0 rfl rfl rfl rfl ?_
  refine r_bipush 8 18 (v := 8) rfl rfl (by decide) ?_
  refine r_gd (fun h10 => ?_)
  refine r_newa 9 20 (ty := .long) (q := 1) rfl rfl h10 rfl (by decide) (fun _ => rfl) wd_161 (by decide) (by decide) ?_
  refine r_ltR (fun r11 => ?_)
  refine r_ltT (fun t12 => ?_)
  refine r_ltM (fun m13 => ?_)
  refine r_gd (fun h14 => ?_)
  refine r_putR 10 23 rfl rfl fl_RX5_18 (fun _ => ⟨rfl, rfl⟩) rfl (ob_sh h14) ?_
  refine r_ltM (fun m15 => ?_)
  refine r_aload_n 11 24 0 rfl rfl rfl rfl ?_
  refine r_bipush 12 26 (v := 8) rfl rfl (by decide) ?_
  refine r_gd (fun h16 => ?_)
  refine r_newa 13 28 (ty := .long) (q := 1) rfl rfl h16 rfl (by decide) (fun _ => rfl) wd_161 (by decide) (by decide) ?_
  refine r_ltR (fun r17 => ?_)
  refine r_ltT (fun t18 => ?_)
  refine r_ltM (fun m19 => ?_)
  refine r_gd (fun h20 => ?_)
  refine r_putR 14 31 rfl rfl fl_RX5_22 (fun _ => ⟨rfl, rfl⟩) rfl (ob_sh h20) ?_
  refine r_ltM (fun m21 => ?_)
  refine r_aload_n 15 32 0 rfl rfl rfl rfl ?_
  refine r_bipush 16 34 (v := 8) rfl rfl (by decide) ?_
  refine r_gd (fun h22 => ?_)
  refine r_newa 17 36 (ty := .long) (q := 1) rfl rfl h22 rfl (by decide) (fun _ => rfl) wd_161 (by decide) (by decide) ?_
  refine r_ltR (fun r23 => ?_)
  refine r_ltT (fun t24 => ?_)
  refine r_ltM (fun m25 => ?_)
  refine r_gd (fun h26 => ?_)
  refine r_putR 18 39 rfl rfl fl_RX5_25 (fun _ => ⟨rfl, rfl⟩) rfl (ob_sh h26) ?_
  refine r_ltM (fun m27 => ?_)
  refine r_aload_n 19 40 0 rfl rfl rfl rfl ?_
  refine r_bipush 20 42 (v := 8) rfl rfl (by decide) ?_
  refine r_gd (fun h28 => ?_)
  refine r_newa 21 44 (ty := .long) (q := 1) rfl rfl h28 rfl (by decide) (fun _ => rfl) wd_161 (by decide) (by decide) ?_
  refine r_ltR (fun r29 => ?_)
  refine r_ltT (fun t30 => ?_)
  refine r_ltM (fun m31 => ?_)
  refine r_gd (fun h32 => ?_)
  refine r_putR 22 47 rfl rfl fl_RX5_28 (fun _ => ⟨rfl, rfl⟩) rfl (ob_sh h32) ?_
  refine r_ltM (fun m33 => ?_)
  refine r_aload_n 23 48 0 rfl rfl rfl rfl ?_
  refine r_gd (fun h34 => ?_)
  refine r_new 24 51 (c := 4) rfl rfl h34 rfl inW4 tyX4_ok wd_240 wd_145 wd_115 (by decide) ?_
  refine r_ltR (fun r35 => ?_)
  refine r_ltT (fun t36 => ?_)
  refine r_ltM (fun m37 => ?_)
  refine r_dup 25 52 rfl rfl rfl ?_
  refine r_iconst 26 53 (v := 1) rfl rfl (by decide) ?_
  refine r_gd (fun h38 => ?_)
  refine r_IA 27 56 (st := [.inr (.inr r35), .inr (.inr a0)]) (av := [.inr (.inr r35), .inl 1]) (av' := [.inl 1]) (μ' := u_X4_init) (d := 1) rfl rfl mc_X4_init rfl rfl ini_X4_init lk_RX5_33 (Nat.le_of_ble_eq_true rfl) rfl rfl (ob_sh h38) (Nat.le_of_ble_eq_true rfl) (fun _ h => ct_X4_init (ob_sh h38) h) (fun _ h => mn_X4_init (ob_sh h38) h) (fun t40 m39 => ?_)
  refine r_gd (fun h41 => ?_)
  refine r_putR 28 59 rfl rfl fl_RX5_36 (fun _ => ⟨rfl, rfl⟩) rfl (ob_sh h41) ?_
  refine r_ltM (fun m42 => ?_)
  refine r_aload_n 29 60 0 rfl rfl rfl rfl ?_
  refine r_gd (fun h43 => ?_)
  refine r_new 30 63 (c := 4) rfl rfl h43 rfl inW4 tyX4_ok wd_240 wd_145 wd_115 (by decide) ?_
  refine r_ltR (fun r44 => ?_)
  refine r_ltT (fun t45 => ?_)
  refine r_ltM (fun m46 => ?_)
  refine r_dup 31 64 rfl rfl rfl ?_
  refine r_bipush 32 66 (v := 32) rfl rfl (by decide) ?_
  refine r_gd (fun h47 => ?_)
  refine r_IA 33 69 (st := [.inr (.inr r44), .inr (.inr a0)]) (av := [.inr (.inr r44), .inl 32]) (av' := [.inl 32]) (μ' := u_X4_init) (d := 1) rfl rfl mc_X4_init rfl rfl ini_X4_init lk_RX5_33 (Nat.le_of_ble_eq_true rfl) rfl rfl (ob_sh h47) (Nat.le_of_ble_eq_true rfl) (fun _ h => ct_X4_init (ob_sh h47) h) (fun _ h => mn_X4_init (ob_sh h47) h) (fun t49 m48 => ?_)
  refine r_gd (fun h50 => ?_)
  refine r_putR 34 72 rfl rfl fl_RX5_40 (fun _ => ⟨rfl, rfl⟩) rfl (ob_sh h50) ?_
  refine r_ltM (fun m51 => ?_)
  refine r_aload_n 35 73 0 rfl rfl rfl rfl ?_
  refine r_iconst 36 74 (v := 0) rfl rfl (by decide) ?_
  refine r_putI 37 77 rfl rfl fl_RX5_43 (fun h => by cases h) (Or.inl rfl) (ob_sh h50) ?_
  refine r_ltM (fun m52 => ?_)
  exact r_vret 38 rfl rfl rfl
theorem mn_X5_init {t : List Sh} {m : Mi} {a0 : Nat} {q : Mm} (h0 : sh t a0 = some (.inl 5)) (h : f_X5_init t m a0 = some q) : t.length ≤ q.1.length ∧ zs t ≤ zs q.1 := ((sm_X5_init (0, 0, 0, 0) t m a0 h0) (none, q) (by rw [h]; rfl)).1
theorem ct_X5_init {t : List Sh} {m : Mi} {a0 : Nat} {q : Mm} (h0 : sh t a0 = some (.inl 5)) (h : f_X5_init t m a0 = some q) : Ct u_X5_init 2 (q.1.length - t.length) (zs q.1 - zs t) [.inr (.inr a0)] (t, m) (none, q) := by
  have hm := mn_X5_init h0 h
  exact ct_of (by decide) tk_X5_init (Nat.le_of_ble_eq_true rfl) (sm_X5_init (q.1.length - t.length, zs q.1 - zs t, t.length, zs t) t m a0 h0) (by rw [h]; rfl) (by show q.1.length ≤ t.length + (q.1.length - t.length); omega) (by show zs q.1 ≤ zs t + (zs q.1 - zs t); omega)
theorem lk_RX5_91 : Cond.methodLink RX5 91 yX10_compare ∈ TB := tbm 870 (by decide +kernel) rfl
theorem lk_RX5_95 : Cond.methodLink RX5 95 yX10_copy ∈ TB := tbm 908 (by decide +kernel) rfl
def tb_X5_narrowAll : Tb := [(0, (.aload_n 0, 1)), (1, (.getfield 18, 3)), (4, (.iconst 0, 1)), (5, (.aload_n 0, 1)), (6, (.getfield 25, 3)), (9, (.iconst 0, 1)), (10, (.invokestatic 91, 3)), (13, (.ifCond .le 16, 3)), (16, (.aload_n 0, 1)), (17, (.getfield 18, 3)), (20, (.iconst 0, 1)), (21, (.aload_n 0, 1)), (22, (.getfield 25, 3)), (25, (.iconst 0, 1)), (26, (.invokestatic 95, 3)), (29, (.aload_n 0, 1)), (30, (.getfield 22, 3)), (33, (.iconst 0, 1)), (34, (.aload_n 0, 1)), (35, (.getfield 28, 3)), (38, (.iconst 0, 1)), (39, (.invokestatic 91, 3)), (42, (.ifCond .ge 16, 3)), (45, (.aload_n 0, 1)), (46, (.getfield 22, 3)), (49, (.iconst 0, 1)), (50, (.aload_n 0, 1)), (51, (.getfield 28, 3)), (54, (.iconst 0, 1)), (55, (.invokestatic 95, 3)), (58, (.return_, 1))]
def u_X5_narrowAll : Fx := (yX5_narrowAll, (cX5_narrowAll, (1, (none, tb_X5_narrowAll))))
theorem tk_X5_narrowAll : ∀ q ∈ u_X5_narrowAll.2.2.2.2, decode u_X5_narrowAll.2.1 q.1 = .ok q.2 := by decide +kernel
theorem mc_X5_narrowAll : MC u_X5_narrowAll 0 := ⟨tbm 940 (by decide +kernel) rfl, tbm 120 (by decide +kernel) rfl, ⟨by decide, by decide, by decide +kernel⟩, by decide⟩
theorem in_X5_narrowAll : Cond.instanceMethod u_X5_narrowAll.1 ∈ TB ∧ Cond.selects u_X5_narrowAll.1.cls u_X5_narrowAll.1 u_X5_narrowAll.1 ∈ TB := ⟨tbm 939 (by decide +kernel) rfl, tbm 40 (by decide +kernel) rfl⟩
def f_X5_narrowAll_j29 (t : List Sh) (m : Mi) (a0 : Nat) : Option (Mi) :=
  (f_X10_compare t m (gr m a0 2) 0 (gr m a0 4) 0).bind fun x2 =>
  if 0 ≤ x2 then
    some m
  else
    (f_X10_copy t m (gr m a0 2) 0 (gr m a0 4) 0).bind fun m4 =>
    some m4
def f_X5_narrowAll (t : List Sh) (m : Mi) (a0 : Nat) : Option (Mi) :=
  (f_X10_compare t m (gr m a0 1) 0 (gr m a0 3) 0).bind fun x1 =>
  if x1 ≤ 0 then
    f_X5_narrowAll_j29 t m a0
  else
    (f_X10_copy t m (gr m a0 1) 0 (gr m a0 3) 0).bind fun m6 =>
    f_X5_narrowAll_j29 t m6 a0
set_option maxRecDepth 4000 in
set_option maxHeartbeats 4000000 in
theorem sm_X5_narrowAll (t : List Sh) (m : Mi) (a0 : Nat) (h0 : sh t a0 = some (.inl 5)) : Sm u_X5_narrowAll (3, 0, 0, t.length, zs t) (kV t) 0 [(0, .inr (.inr a0))] [] (t, m) (f_X5_narrowAll t m a0) := by
  unfold f_X5_narrowAll
  refine r_aload_n 0 1 0 rfl rfl rfl rfl ?_
  refine r_getR 1 4 rfl rfl fl_RX5_18 rfl h0 ?_
  refine r_iconst 2 5 (v := 0) rfl rfl (by decide) ?_
  refine r_aload_n 3 6 0 rfl rfl rfl rfl ?_
  refine r_getR 4 9 rfl rfl fl_RX5_25 rfl h0 ?_
  refine r_iconst 5 10 (v := 0) rfl rfl (by decide) ?_
  refine r_SIo 6 13 (a := 0) (cn := 0) (st := []) (av := [.inr (.inr (gr m a0 1)), .inl 0, .inr (.inr (gr m a0 3)), .inl 0]) (μ' := u_X10_compare) (d := 2) rfl rfl mc_X10_compare st_X10_compare lk_RX5_91 (Nat.le_of_ble_eq_true rfl) rfl (Nat.le_of_ble_eq_true rfl) (fun _ h => ct_X10_compare h) (fun x1 => ?_)
  have hj29 : ∀ (m : Mi), Sm u_X5_narrowAll (3, 0, 0, t.length, zs t) (kV t) 29 [(0, .inr (.inr a0))] [] (t, m) (f_X5_narrowAll_j29 t m a0) := by
    intro m
    unfold f_X5_narrowAll_j29
    refine r_aload_n 15 30 0 rfl rfl rfl rfl ?_
    refine r_getR 16 33 rfl rfl fl_RX5_22 rfl h0 ?_
    refine r_iconst 17 34 (v := 0) rfl rfl (by decide) ?_
    refine r_aload_n 18 35 0 rfl rfl rfl rfl ?_
    refine r_getR 19 38 rfl rfl fl_RX5_28 rfl h0 ?_
    refine r_iconst 20 39 (v := 0) rfl rfl (by decide) ?_
    refine r_SIo 21 42 (a := 0) (cn := 0) (st := []) (av := [.inr (.inr (gr m a0 2)), .inl 0, .inr (.inr (gr m a0 4)), .inl 0]) (μ' := u_X10_compare) (d := 2) rfl rfl mc_X10_compare st_X10_compare lk_RX5_91 (Nat.le_of_ble_eq_true rfl) rfl (Nat.le_of_ble_eq_true rfl) (fun _ h => ct_X10_compare h) (fun x2 => ?_)
    refine r_if_ge 22 58 45 rfl rfl rfl (fun h3 => ?_) (fun h3 => ?_)
    · exact r_vret 30 rfl rfl rfl
    · refine r_aload_n 23 46 0 rfl rfl rfl rfl ?_
      refine r_getR 24 49 rfl rfl fl_RX5_22 rfl h0 ?_
      refine r_iconst 25 50 (v := 0) rfl rfl (by decide) ?_
      refine r_aload_n 26 51 0 rfl rfl rfl rfl ?_
      refine r_getR 27 54 rfl rfl fl_RX5_28 rfl h0 ?_
      refine r_iconst 28 55 (v := 0) rfl rfl (by decide) ?_
      refine r_SV 29 58 (a := 0) (cn := 0) (st := []) (av := [.inr (.inr (gr m a0 2)), .inl 0, .inr (.inr (gr m a0 4)), .inl 0]) (μ' := u_X10_copy) (d := 2) rfl rfl mc_X10_copy st_X10_copy lk_RX5_95 (Nat.le_of_ble_eq_true rfl) rfl (Nat.le_of_ble_eq_true rfl) (fun _ h => ct_X10_copy h) (fun m4 => ?_)
      exact r_vret 30 rfl rfl rfl
  refine r_if_le 7 29 16 rfl rfl rfl (fun h5 => ?_) (fun h5 => ?_)
  · exact hj29 m
  · refine r_aload_n 8 17 0 rfl rfl rfl rfl ?_
    refine r_getR 9 20 rfl rfl fl_RX5_18 rfl h0 ?_
    refine r_iconst 10 21 (v := 0) rfl rfl (by decide) ?_
    refine r_aload_n 11 22 0 rfl rfl rfl rfl ?_
    refine r_getR 12 25 rfl rfl fl_RX5_25 rfl h0 ?_
    refine r_iconst 13 26 (v := 0) rfl rfl (by decide) ?_
    refine r_SV 14 29 (a := 0) (cn := 0) (st := []) (av := [.inr (.inr (gr m a0 1)), .inl 0, .inr (.inr (gr m a0 3)), .inl 0]) (μ' := u_X10_copy) (d := 2) rfl rfl mc_X10_copy st_X10_copy lk_RX5_95 (Nat.le_of_ble_eq_true rfl) rfl (Nat.le_of_ble_eq_true rfl) (fun _ h => ct_X10_copy h) (fun m6 => ?_)
    exact hj29 m6
theorem ct_X5_narrowAll {t : List Sh} {m : Mi} {a0 : Nat} {m' : Mi}  (h0 : sh t a0 = some (.inl 5)) (h : f_X5_narrowAll t m a0 = some m') : Ct u_X5_narrowAll 3 0 0 [.inr (.inr a0)] (t, m) (none, (t, m')) :=
  ct_of (by decide) tk_X5_narrowAll (Nat.le_of_ble_eq_true rfl) (sm_X5_narrowAll t m a0 h0) (by rw [h]; rfl) (Nat.le_refl _) (Nat.le_refl _)
theorem lk_RX5_84 : Cond.methodLink RX5 84 yX10_setLeast ∈ TB := tbm 862 (by decide +kernel) rfl
theorem lk_RX5_88 : Cond.methodLink RX5 88 yX10_setEndless ∈ TB := tbm 863 (by decide +kernel) rfl
def tb_X5_openAll : Tb := [(0, (.aload_n 0, 1)), (1, (.getfield 25, 3)), (4, (.invokestatic 84, 3)), (7, (.aload_n 0, 1)), (8, (.getfield 28, 3)), (11, (.invokestatic 88, 3)), (14, (.return_, 1))]
def u_X5_openAll : Fx := (yX5_openAll, (cX5_openAll, (1, (none, tb_X5_openAll))))
theorem tk_X5_openAll : ∀ q ∈ u_X5_openAll.2.2.2.2, decode u_X5_openAll.2.1 q.1 = .ok q.2 := by decide +kernel
theorem mc_X5_openAll : MC u_X5_openAll 0 := ⟨tbm 861 (by decide +kernel) rfl, tbm 120 (by decide +kernel) rfl, ⟨by decide, by decide, by decide +kernel⟩, by decide⟩
theorem in_X5_openAll : Cond.instanceMethod u_X5_openAll.1 ∈ TB ∧ Cond.selects u_X5_openAll.1.cls u_X5_openAll.1 u_X5_openAll.1 ∈ TB := ⟨tbm 860 (by decide +kernel) rfl, tbm 31 (by decide +kernel) rfl⟩
def f_X5_openAll (t : List Sh) (m : Mi) (a0 : Nat) : Option (Mi) :=
  (f_X10_setLeast t m (gr m a0 3)).bind fun m1 =>
  (f_X10_setEndless t m1 (gr m1 a0 4)).bind fun m2 =>
  some m2
set_option maxRecDepth 4000 in
set_option maxHeartbeats 4000000 in
theorem sm_X5_openAll (t : List Sh) (m : Mi) (a0 : Nat) (h0 : sh t a0 = some (.inl 5)) : Sm u_X5_openAll (3, 0, 0, t.length, zs t) (kV t) 0 [(0, .inr (.inr a0))] [] (t, m) (f_X5_openAll t m a0) := by
  unfold f_X5_openAll
  refine r_aload_n 0 1 0 rfl rfl rfl rfl ?_
  refine r_getR 1 4 rfl rfl fl_RX5_25 rfl h0 ?_
  refine r_SV 2 7 (a := 0) (cn := 0) (st := []) (av := [.inr (.inr (gr m a0 3))]) (μ' := u_X10_setLeast) (d := 2) rfl rfl mc_X10_setLeast st_X10_setLeast lk_RX5_84 (Nat.le_of_ble_eq_true rfl) rfl (Nat.le_of_ble_eq_true rfl) (fun _ h => ct_X10_setLeast h) (fun m1 => ?_)
  refine r_aload_n 3 8 0 rfl rfl rfl rfl ?_
  refine r_getR 4 11 rfl rfl fl_RX5_28 rfl h0 ?_
  refine r_SV 5 14 (a := 0) (cn := 0) (st := []) (av := [.inr (.inr (gr m1 a0 4))]) (μ' := u_X10_setEndless) (d := 2) rfl rfl mc_X10_setEndless st_X10_setEndless lk_RX5_88 (Nat.le_of_ble_eq_true rfl) rfl (Nat.le_of_ble_eq_true rfl) (fun _ h => ct_X10_setEndless h) (fun m2 => ?_)
  exact r_vret 6 rfl rfl rfl
theorem ct_X5_openAll {t : List Sh} {m : Mi} {a0 : Nat} {m' : Mi}  (h0 : sh t a0 = some (.inl 5)) (h : f_X5_openAll t m a0 = some m') : Ct u_X5_openAll 3 0 0 [.inr (.inr a0)] (t, m) (none, (t, m')) :=
  ct_of (by decide) tk_X5_openAll (Nat.le_of_ble_eq_true rfl) (sm_X5_openAll t m a0 h0) (by rw [h]; rfl) (Nat.le_refl _) (Nat.le_refl _)
theorem lk_RX5_145 : Cond.methodLink RX5 145 yX10_raise ∈ TB := tbm 920 (by decide +kernel) rfl
theorem lk_RX5_152 : Cond.methodLink RX5 152 yX10_setNext ∈ TB := tbm 913 (by decide +kernel) rfl
def tb_X5_raisePast : Tb := [(0, (.iload_n 2, 1)), (1, (.ifCond .eq 11, 3)), (4, (.aload_n 1, 1)), (5, (.invokestatic 152, 3)), (8, (.pop, 1)), (9, (.goto 16, 3)), (12, (.aload_n 1, 1)), (13, (.aload_n 0, 1)), (14, (.getfield 12, 3)), (17, (.invokevirtual 149, 3)), (20, (.iconst 1, 1)), (21, (.isub, 1)), (22, (.invokestatic 145, 3)), (25, (.return_, 1))]
def u_X5_raisePast : Fx := (yX5_raisePast, (cX5_raisePast, (3, (none, tb_X5_raisePast))))
theorem tk_X5_raisePast : ∀ q ∈ u_X5_raisePast.2.2.2.2, decode u_X5_raisePast.2.1 q.1 = .ok q.2 := by decide +kernel
theorem mc_X5_raisePast : MC u_X5_raisePast 2 := ⟨tbm 912 (by decide +kernel) rfl, tbm 120 (by decide +kernel) rfl, ⟨by decide, by decide, by decide +kernel⟩, by decide⟩
theorem in_X5_raisePast : Cond.instanceMethod u_X5_raisePast.1 ∈ TB ∧ Cond.selects u_X5_raisePast.1.cls u_X5_raisePast.1 u_X5_raisePast.1 ∈ TB := ⟨tbm 911 (by decide +kernel) rfl, tbm 36 (by decide +kernel) rfl⟩
def f_X5_raisePast (t : List Sh) (m : Mi) (a0 : Nat) (a1 : Nat) (a2 : Int32) : Option (Mi) :=
  if a2 = 0 then
    (if ob t (gr m a0 0) 10 = true then
    (f_X10_told t m (gr m a0 0)).bind fun x3 =>
    (f_X10_raise t m a1 (x3 - 1)).bind fun m4 =>
    some m4
    else none)
  else
    bd (f_X10_setNext t m a1) fun x5 m6 =>
    some m6
set_option maxRecDepth 4000 in
set_option maxHeartbeats 4000000 in
theorem sm_X5_raisePast (t : List Sh) (m : Mi) (a0 : Nat) (a1 : Nat) (a2 : Int32) (h0 : sh t a0 = some (.inl 5)) : Sm u_X5_raisePast (3, 0, 0, t.length, zs t) (kV t) 0 [(0, .inr (.inr a0)), (1, .inr (.inr a1)), (2, .inl a2)] [] (t, m) (f_X5_raisePast t m a0 a1 a2) := by
  unfold f_X5_raisePast
  refine r_iload_n 0 1 2 rfl rfl rfl rfl ?_
  refine r_if_eq 1 12 4 rfl rfl rfl (fun h1 => ?_) (fun h1 => ?_)
  · refine r_aload_n 6 13 1 rfl rfl rfl rfl ?_
    refine r_aload_n 7 14 0 rfl rfl rfl rfl ?_
    refine r_getR 8 17 rfl rfl fl_RX5_12 rfl h0 ?_
    refine r_gd (fun h2 => ?_)
    refine r_VIo 9 20 (st := [.inr (.inr a1)]) (av := [.inr (.inr (gr m a0 0))]) (av' := []) (μ' := u_X10_told) (d := 1) rfl rfl mc_X10_told in_X10_told lk_RX5_149 (Nat.le_of_ble_eq_true rfl) rfl rfl (ob_sh h2) rfl (Nat.le_of_ble_eq_true rfl) (fun _ h => ct_X10_told (ob_sh h2) h) (fun x3 => ?_)
    refine r_iconst 10 21 (v := 1) rfl rfl (by decide) ?_
    refine r_isub 11 22 rfl rfl ?_
    refine r_SV 12 25 (a := 0) (cn := 0) (st := []) (av := [.inr (.inr a1), .inl (x3 - 1)]) (μ' := u_X10_raise) (d := 2) rfl rfl mc_X10_raise st_X10_raise lk_RX5_145 (Nat.le_of_ble_eq_true rfl) rfl (Nat.le_of_ble_eq_true rfl) (fun _ h => ct_X10_raise h) (fun m4 => ?_)
    exact r_vret 13 rfl rfl rfl
  · refine r_aload_n 2 5 1 rfl rfl rfl rfl ?_
    refine r_SI 3 8 (a := 0) (cn := 0) (st := []) (av := [.inr (.inr a1)]) (μ' := u_X10_setNext) (d := 2) rfl rfl mc_X10_setNext st_X10_setNext lk_RX5_152 (Nat.le_of_ble_eq_true rfl) rfl (Nat.le_of_ble_eq_true rfl) (fun _ _ h => ct_X10_setNext h) (fun x5 m6 => ?_)
    refine r_pop 4 9 rfl rfl rfl ?_
    refine r_goto 5 25 rfl rfl ?_
    exact r_vret 13 rfl rfl rfl
theorem ct_X5_raisePast {t : List Sh} {m : Mi} {a0 : Nat} {a1 : Nat} {a2 : Int32} {m' : Mi}  (h0 : sh t a0 = some (.inl 5)) (h : f_X5_raisePast t m a0 a1 a2 = some m') : Ct u_X5_raisePast 3 0 0 [.inr (.inr a0), .inr (.inr a1), .inl a2] (t, m) (none, (t, m')) :=
  ct_of (by decide) tk_X5_raisePast (Nat.le_of_ble_eq_true rfl) (sm_X5_raisePast t m a0 a1 a2 h0) (by rw [h]; rfl) (Nat.le_refl _) (Nat.le_refl _)
theorem lk_RX5_138 : Cond.methodLink RX5 138 yX10_setIdentifier ∈ TB := tbm 924 (by decide +kernel) rfl
theorem lk_RX5_132 : Cond.methodLink RX5 132 yX5_raisePast ∈ TB := tbm 909 (by decide +kernel) rfl
def tb_X5_endBelow : Tb := [(0, (.aload_n 0, 1)), (1, (.getfield 12, 3)), (4, (.getfield 125, 3)), (7, (.iconst 0, 1)), (8, (.aload_n 0, 1)), (9, (.getfield 22, 3)), (12, (.iconst 0, 1)), (13, (.invokestatic 95, 3)), (16, (.iload_n 2, 1)), (17, (.ifCond .eq 15, 3)), (20, (.aload_n 0, 1)), (21, (.aload_n 0, 1)), (22, (.getfield 22, 3)), (25, (.iload_n 1, 1)), (26, (.invokevirtual 132, 3)), (29, (.goto 15, 3)), (32, (.iload_n 1, 1)), (33, (.ifCond .ne 11, 3)), (36, (.aload_n 0, 1)), (37, (.getfield 22, 3)), (40, (.lconst 1, 1)), (41, (.invokestatic 138, 3)), (44, (.return_, 1))]
def u_X5_endBelow : Fx := (yX5_endBelow, (cX5_endBelow, (3, (none, tb_X5_endBelow))))
theorem tk_X5_endBelow : ∀ q ∈ u_X5_endBelow.2.2.2.2, decode u_X5_endBelow.2.1 q.1 = .ok q.2 := by decide +kernel
theorem mc_X5_endBelow : MC u_X5_endBelow 2 := ⟨tbm 928 (by decide +kernel) rfl, tbm 120 (by decide +kernel) rfl, ⟨by decide, by decide, by decide +kernel⟩, by decide⟩
theorem in_X5_endBelow : Cond.instanceMethod u_X5_endBelow.1 ∈ TB ∧ Cond.selects u_X5_endBelow.1.cls u_X5_endBelow.1 u_X5_endBelow.1 ∈ TB := ⟨tbm 927 (by decide +kernel) rfl, tbm 37 (by decide +kernel) rfl⟩
def f_X5_endBelow (t : List Sh) (m : Mi) (a0 : Nat) (a1 : Int32) (a2 : Int32) : Option (Mi) :=
  (if ob t (gr m a0 0) 10 = true then
  (f_X10_copy t m (gr m (gr m a0 0) 0) 0 (gr m a0 2) 0).bind fun m2 =>
  if a2 = 0 then
    if a1 = 0 then
      (f_X10_setIdentifier t m2 (gr m2 a0 2) 1).bind fun m5 =>
      some m5
    else
      some m2
  else
    (f_X5_raisePast t m2 a0 (gr m2 a0 2) a1).bind fun m6 =>
    some m6
  else none)
set_option maxRecDepth 4000 in
set_option maxHeartbeats 4000000 in
theorem sm_X5_endBelow (t : List Sh) (m : Mi) (a0 : Nat) (a1 : Int32) (a2 : Int32) (h0 : sh t a0 = some (.inl 5)) : Sm u_X5_endBelow (4, 0, 0, t.length, zs t) (kV t) 0 [(0, .inr (.inr a0)), (1, .inl a1), (2, .inl a2)] [] (t, m) (f_X5_endBelow t m a0 a1 a2) := by
  unfold f_X5_endBelow
  refine r_aload_n 0 1 0 rfl rfl rfl rfl ?_
  refine r_getR 1 4 rfl rfl fl_RX5_12 rfl h0 ?_
  refine r_gd (fun h1 => ?_)
  refine r_getR 2 7 rfl rfl fl_RX5_125 rfl (ob_sh h1) ?_
  refine r_iconst 3 8 (v := 0) rfl rfl (by decide) ?_
  refine r_aload_n 4 9 0 rfl rfl rfl rfl ?_
  refine r_getR 5 12 rfl rfl fl_RX5_22 rfl h0 ?_
  refine r_iconst 6 13 (v := 0) rfl rfl (by decide) ?_
  refine r_SV 7 16 (a := 0) (cn := 0) (st := []) (av := [.inr (.inr (gr m (gr m a0 0) 0)), .inl 0, .inr (.inr (gr m a0 2)), .inl 0]) (μ' := u_X10_copy) (d := 2) rfl rfl mc_X10_copy st_X10_copy lk_RX5_95 (Nat.le_of_ble_eq_true rfl) rfl (Nat.le_of_ble_eq_true rfl) (fun _ h => ct_X10_copy h) (fun m2 => ?_)
  refine r_iload_n 8 17 2 rfl rfl rfl rfl ?_
  refine r_if_eq 9 32 20 rfl rfl rfl (fun h3 => ?_) (fun h3 => ?_)
  · refine r_iload_n 16 33 1 rfl rfl rfl rfl ?_
    refine r_if_ne 17 44 36 rfl rfl rfl (fun h4 => ?_) (fun h4 => ?_)
    · refine r_aload_n 18 37 0 rfl rfl rfl rfl ?_
      refine r_getR 19 40 rfl rfl fl_RX5_22 rfl h0 ?_
      refine r_lconst 20 41 (v := 1) rfl rfl (by decide) ?_
      refine r_SV 21 44 (a := 0) (cn := 0) (st := []) (av := [.inr (.inr (gr m2 a0 2)), .inr (.inl 1)]) (μ' := u_X10_setIdentifier) (d := 1) rfl rfl mc_X10_setIdentifier st_X10_setIdentifier lk_RX5_138 (Nat.le_of_ble_eq_true rfl) rfl (Nat.le_of_ble_eq_true rfl) (fun _ h => ct_X10_setIdentifier h) (fun m5 => ?_)
      exact r_vret 22 rfl rfl rfl
    · exact r_vret 22 rfl rfl rfl
  · refine r_aload_n 10 21 0 rfl rfl rfl rfl ?_
    refine r_aload_n 11 22 0 rfl rfl rfl rfl ?_
    refine r_getR 12 25 rfl rfl fl_RX5_22 rfl h0 ?_
    refine r_iload_n 13 26 1 rfl rfl rfl rfl ?_
    refine r_VV 14 29 (st := []) (av := [.inr (.inr a0), .inr (.inr (gr m2 a0 2)), .inl a1]) (av' := [.inr (.inr (gr m2 a0 2)), .inl a1]) (μ' := u_X5_raisePast) (d := 3) rfl rfl mc_X5_raisePast in_X5_raisePast lk_RX5_132 (Nat.le_of_ble_eq_true rfl) rfl rfl h0 rfl (Nat.le_of_ble_eq_true rfl) (fun _ h => ct_X5_raisePast h0 h) (fun m6 => ?_)
    refine r_goto 15 44 rfl rfl ?_
    exact r_vret 22 rfl rfl rfl
theorem ct_X5_endBelow {t : List Sh} {m : Mi} {a0 : Nat} {a1 : Int32} {a2 : Int32} {m' : Mi}  (h0 : sh t a0 = some (.inl 5)) (h : f_X5_endBelow t m a0 a1 a2 = some m') : Ct u_X5_endBelow 4 0 0 [.inr (.inr a0), .inl a1, .inl a2] (t, m) (none, (t, m')) :=
  ct_of (by decide) tk_X5_endBelow (Nat.le_of_ble_eq_true rfl) (sm_X5_endBelow t m a0 a1 a2 h0) (by rw [h]; rfl) (Nat.le_refl _) (Nat.le_refl _)
theorem lk_RX5_142 : Cond.methodLink RX5 142 yX5_firstThatIsNotZero ∈ TB := tbm 933 (by decide +kernel) rfl
def tb_X5_raiseEnd : Tb := [(0, (.iload_n 1, 1)), (1, (.bipush 94, 2)), (3, (.if_icmp .ne 17, 3)), (6, (.aload_n 0, 1)), (7, (.getfield 22, 3)), (10, (.aload_n 0, 1)), (11, (.invokevirtual 142, 3)), (14, (.invokestatic 145, 3)), (17, (.goto 44, 3)), (20, (.iload_n 1, 1)), (21, (.bipush 126, 2)), (23, (.if_icmp .ne 29, 3)), (26, (.aload_n 0, 1)), (27, (.getfield 22, 3)), (30, (.aload_n 0, 1)), (31, (.getfield 12, 3)), (34, (.invokevirtual 149, 3)), (37, (.iconst 1, 1)), (38, (.if_icmp .ne 7, 3)), (41, (.iconst 0, 1)), (42, (.goto 4, 3)), (45, (.iconst 1, 1)), (46, (.invokestatic 145, 3)), (49, (.goto 12, 3)), (52, (.aload_n 0, 1)), (53, (.aload_n 0, 1)), (54, (.getfield 22, 3)), (57, (.iload_n 2, 1)), (58, (.invokevirtual 132, 3)), (61, (.return_, 1))]
def u_X5_raiseEnd : Fx := (yX5_raiseEnd, (cX5_raiseEnd, (3, (none, tb_X5_raiseEnd))))
theorem tk_X5_raiseEnd : ∀ q ∈ u_X5_raiseEnd.2.2.2.2, decode u_X5_raiseEnd.2.1 q.1 = .ok q.2 := by decide +kernel
theorem mc_X5_raiseEnd : MC u_X5_raiseEnd 2 := ⟨tbm 932 (by decide +kernel) rfl, tbm 120 (by decide +kernel) rfl, ⟨by decide, by decide, by decide +kernel⟩, by decide⟩
theorem in_X5_raiseEnd : Cond.instanceMethod u_X5_raiseEnd.1 ∈ TB ∧ Cond.selects u_X5_raiseEnd.1.cls u_X5_raiseEnd.1 u_X5_raiseEnd.1 ∈ TB := ⟨tbm 931 (by decide +kernel) rfl, tbm 38 (by decide +kernel) rfl⟩
def f_X5_raiseEnd_j46 (t : List Sh) (m : Mi) (s0 : Int32) (s1 : Nat) : Option (Mi) :=
  (f_X10_raise t m s1 s0).bind fun m7 =>
  some m7
def f_X5_raiseEnd (t : List Sh) (m : Mi) (a0 : Nat) (a1 : Int32) (a2 : Int32) : Option (Mi) :=
  if a1 = 94 then
    (f_X5_firstThatIsNotZero t m a0).bind fun x2 =>
    (f_X10_raise t m (gr m a0 2) x2).bind fun m3 =>
    some m3
  else
    if a1 = 126 then
      (if ob t (gr m a0 0) 10 = true then
      (f_X10_told t m (gr m a0 0)).bind fun x6 =>
      if x6 = 1 then
        f_X5_raiseEnd_j46 t m 0 (gr m a0 2)
      else
        f_X5_raiseEnd_j46 t m 1 (gr m a0 2)
      else none)
    else
      (f_X5_raisePast t m a0 (gr m a0 2) a2).bind fun m9 =>
      some m9
set_option maxRecDepth 4000 in
set_option maxHeartbeats 4000000 in
theorem sm_X5_raiseEnd (t : List Sh) (m : Mi) (a0 : Nat) (a1 : Int32) (a2 : Int32) (h0 : sh t a0 = some (.inl 5)) : Sm u_X5_raiseEnd (4, 0, 0, t.length, zs t) (kV t) 0 [(0, .inr (.inr a0)), (1, .inl a1), (2, .inl a2)] [] (t, m) (f_X5_raiseEnd t m a0 a1 a2) := by
  unfold f_X5_raiseEnd
  refine r_iload_n 0 1 1 rfl rfl rfl rfl ?_
  refine r_bipush 1 3 (v := 94) rfl rfl (by decide) ?_
  refine r_icmp_ne 2 20 6 rfl rfl rfl (fun h1 => ?_) (fun h1 => ?_)
  · refine r_aload_n 3 7 0 rfl rfl rfl rfl ?_
    refine r_getR 4 10 rfl rfl fl_RX5_22 rfl h0 ?_
    refine r_aload_n 5 11 0 rfl rfl rfl rfl ?_
    refine r_VIo 6 14 (st := [.inr (.inr (gr m a0 2))]) (av := [.inr (.inr a0)]) (av' := []) (μ' := u_X5_firstThatIsNotZero) (d := 2) rfl rfl mc_X5_firstThatIsNotZero in_X5_firstThatIsNotZero lk_RX5_142 (Nat.le_of_ble_eq_true rfl) rfl rfl h0 rfl (Nat.le_of_ble_eq_true rfl) (fun _ h => ct_X5_firstThatIsNotZero h0 h) (fun x2 => ?_)
    refine r_SV 7 17 (a := 0) (cn := 0) (st := []) (av := [.inr (.inr (gr m a0 2)), .inl x2]) (μ' := u_X10_raise) (d := 2) rfl rfl mc_X10_raise st_X10_raise lk_RX5_145 (Nat.le_of_ble_eq_true rfl) rfl (Nat.le_of_ble_eq_true rfl) (fun _ h => ct_X10_raise h) (fun m3 => ?_)
    refine r_goto 8 61 rfl rfl ?_
    exact r_vret 29 rfl rfl rfl
  · refine r_iload_n 9 21 1 rfl rfl rfl rfl ?_
    refine r_bipush 10 23 (v := 126) rfl rfl (by decide) ?_
    refine r_icmp_ne 11 52 26 rfl rfl rfl (fun h4 => ?_) (fun h4 => ?_)
    · refine r_aload_n 12 27 0 rfl rfl rfl rfl ?_
      refine r_getR 13 30 rfl rfl fl_RX5_22 rfl h0 ?_
      refine r_aload_n 14 31 0 rfl rfl rfl rfl ?_
      refine r_getR 15 34 rfl rfl fl_RX5_12 rfl h0 ?_
      refine r_gd (fun h5 => ?_)
      refine r_VIo 16 37 (st := [.inr (.inr (gr m a0 2))]) (av := [.inr (.inr (gr m a0 0))]) (av' := []) (μ' := u_X10_told) (d := 1) rfl rfl mc_X10_told in_X10_told lk_RX5_149 (Nat.le_of_ble_eq_true rfl) rfl rfl (ob_sh h5) rfl (Nat.le_of_ble_eq_true rfl) (fun _ h => ct_X10_told (ob_sh h5) h) (fun x6 => ?_)
      refine r_iconst 17 38 (v := 1) rfl rfl (by decide) ?_
      have hj46 : ∀ (m : Mi) (s0 : Int32) (s1 : Nat), Sm u_X5_raiseEnd (4, 0, 0, t.length, zs t) (kV t) 46 [] [.inl s0, .inr (.inr s1)] (t, m) (f_X5_raiseEnd_j46 t m s0 s1) := by
        intro m s0 s1
        unfold f_X5_raiseEnd_j46
        refine r_SV 22 49 (a := 0) (cn := 0) (st := []) (av := [.inr (.inr s1), .inl s0]) (μ' := u_X10_raise) (d := 2) rfl rfl mc_X10_raise st_X10_raise lk_RX5_145 (Nat.le_of_ble_eq_true rfl) rfl (Nat.le_of_ble_eq_true rfl) (fun _ h => ct_X10_raise h) (fun m7 => ?_)
        refine r_goto 23 61 rfl rfl ?_
        exact r_vret 29 rfl rfl rfl
      refine r_icmp_ne 18 45 41 rfl rfl rfl (fun h8 => ?_) (fun h8 => ?_)
      · refine r_iconst 19 42 (v := 0) rfl rfl (by decide) ?_
        refine r_goto 20 46 rfl rfl ?_
        exact r_sub [] rfl (hj46 m 0 (gr m a0 2))
      · refine r_iconst 21 46 (v := 1) rfl rfl (by decide) ?_
        exact r_sub [] rfl (hj46 m 1 (gr m a0 2))
    · refine r_aload_n 24 53 0 rfl rfl rfl rfl ?_
      refine r_aload_n 25 54 0 rfl rfl rfl rfl ?_
      refine r_getR 26 57 rfl rfl fl_RX5_22 rfl h0 ?_
      refine r_iload_n 27 58 2 rfl rfl rfl rfl ?_
      refine r_VV 28 61 (st := []) (av := [.inr (.inr a0), .inr (.inr (gr m a0 2)), .inl a2]) (av' := [.inr (.inr (gr m a0 2)), .inl a2]) (μ' := u_X5_raisePast) (d := 3) rfl rfl mc_X5_raisePast in_X5_raisePast lk_RX5_132 (Nat.le_of_ble_eq_true rfl) rfl rfl h0 rfl (Nat.le_of_ble_eq_true rfl) (fun _ h => ct_X5_raisePast h0 h) (fun m9 => ?_)
      exact r_vret 29 rfl rfl rfl
theorem ct_X5_raiseEnd {t : List Sh} {m : Mi} {a0 : Nat} {a1 : Int32} {a2 : Int32} {m' : Mi}  (h0 : sh t a0 = some (.inl 5)) (h : f_X5_raiseEnd t m a0 a1 a2 = some m') : Ct u_X5_raiseEnd 4 0 0 [.inr (.inr a0), .inl a1, .inl a2] (t, m) (none, (t, m')) :=
  ct_of (by decide) tk_X5_raiseEnd (Nat.le_of_ble_eq_true rfl) (sm_X5_raiseEnd t m a0 a1 a2 h0) (by rw [h]; rfl) (Nat.le_refl _) (Nat.le_refl _)
theorem kc_RX5_136 : Cond.constantLong RX5 136 (9223372036854775807) ∈ TB := tbm 923 (by decide +kernel) rfl
def tb_X5_startAbove : Tb := [(0, (.aload_n 0, 1)), (1, (.getfield 12, 3)), (4, (.getfield 125, 3)), (7, (.iconst 0, 1)), (8, (.aload_n 0, 1)), (9, (.getfield 18, 3)), (12, (.iconst 0, 1)), (13, (.invokestatic 95, 3)), (16, (.iload_n 2, 1)), (17, (.ifCond .eq 4, 3)), (20, (.return_, 1)), (21, (.aload_n 0, 1)), (22, (.aload_n 0, 1)), (23, (.getfield 18, 3)), (26, (.iload_n 1, 1)), (27, (.invokevirtual 132, 3)), (30, (.iload_n 1, 1)), (31, (.ifCond .ne 13, 3)), (34, (.aload_n 0, 1)), (35, (.getfield 18, 3)), (38, (.ldc2_w 136, 3)), (41, (.invokestatic 138, 3)), (44, (.return_, 1))]
def u_X5_startAbove : Fx := (yX5_startAbove, (cX5_startAbove, (3, (none, tb_X5_startAbove))))
theorem tk_X5_startAbove : ∀ q ∈ u_X5_startAbove.2.2.2.2, decode u_X5_startAbove.2.1 q.1 = .ok q.2 := by decide +kernel
theorem mc_X5_startAbove : MC u_X5_startAbove 2 := ⟨tbm 907 (by decide +kernel) rfl, tbm 120 (by decide +kernel) rfl, ⟨by decide, by decide, by decide +kernel⟩, by decide⟩
theorem in_X5_startAbove : Cond.instanceMethod u_X5_startAbove.1 ∈ TB ∧ Cond.selects u_X5_startAbove.1.cls u_X5_startAbove.1 u_X5_startAbove.1 ∈ TB := ⟨tbm 906 (by decide +kernel) rfl, tbm 35 (by decide +kernel) rfl⟩
def f_X5_startAbove (t : List Sh) (m : Mi) (a0 : Nat) (a1 : Int32) (a2 : Int32) : Option (Mi) :=
  (if ob t (gr m a0 0) 10 = true then
  (f_X10_copy t m (gr m (gr m a0 0) 0) 0 (gr m a0 1) 0).bind fun m2 =>
  if a2 = 0 then
    (f_X5_raisePast t m2 a0 (gr m2 a0 1) a1).bind fun m4 =>
    if a1 = 0 then
      (f_X10_setIdentifier t m4 (gr m4 a0 1) 9223372036854775807).bind fun m6 =>
      some m6
    else
      some m4
  else
    some m2
  else none)
set_option maxRecDepth 4000 in
set_option maxHeartbeats 4000000 in
theorem sm_X5_startAbove (t : List Sh) (m : Mi) (a0 : Nat) (a1 : Int32) (a2 : Int32) (h0 : sh t a0 = some (.inl 5)) : Sm u_X5_startAbove (4, 0, 0, t.length, zs t) (kV t) 0 [(0, .inr (.inr a0)), (1, .inl a1), (2, .inl a2)] [] (t, m) (f_X5_startAbove t m a0 a1 a2) := by
  unfold f_X5_startAbove
  refine r_aload_n 0 1 0 rfl rfl rfl rfl ?_
  refine r_getR 1 4 rfl rfl fl_RX5_12 rfl h0 ?_
  refine r_gd (fun h1 => ?_)
  refine r_getR 2 7 rfl rfl fl_RX5_125 rfl (ob_sh h1) ?_
  refine r_iconst 3 8 (v := 0) rfl rfl (by decide) ?_
  refine r_aload_n 4 9 0 rfl rfl rfl rfl ?_
  refine r_getR 5 12 rfl rfl fl_RX5_18 rfl h0 ?_
  refine r_iconst 6 13 (v := 0) rfl rfl (by decide) ?_
  refine r_SV 7 16 (a := 0) (cn := 0) (st := []) (av := [.inr (.inr (gr m (gr m a0 0) 0)), .inl 0, .inr (.inr (gr m a0 1)), .inl 0]) (μ' := u_X10_copy) (d := 2) rfl rfl mc_X10_copy st_X10_copy lk_RX5_95 (Nat.le_of_ble_eq_true rfl) rfl (Nat.le_of_ble_eq_true rfl) (fun _ h => ct_X10_copy h) (fun m2 => ?_)
  refine r_iload_n 8 17 2 rfl rfl rfl rfl ?_
  refine r_if_eq 9 21 20 rfl rfl rfl (fun h3 => ?_) (fun h3 => ?_)
  · refine r_aload_n 11 22 0 rfl rfl rfl rfl ?_
    refine r_aload_n 12 23 0 rfl rfl rfl rfl ?_
    refine r_getR 13 26 rfl rfl fl_RX5_18 rfl h0 ?_
    refine r_iload_n 14 27 1 rfl rfl rfl rfl ?_
    refine r_VV 15 30 (st := []) (av := [.inr (.inr a0), .inr (.inr (gr m2 a0 1)), .inl a1]) (av' := [.inr (.inr (gr m2 a0 1)), .inl a1]) (μ' := u_X5_raisePast) (d := 3) rfl rfl mc_X5_raisePast in_X5_raisePast lk_RX5_132 (Nat.le_of_ble_eq_true rfl) rfl rfl h0 rfl (Nat.le_of_ble_eq_true rfl) (fun _ h => ct_X5_raisePast h0 h) (fun m4 => ?_)
    refine r_iload_n 16 31 1 rfl rfl rfl rfl ?_
    refine r_if_ne 17 44 34 rfl rfl rfl (fun h5 => ?_) (fun h5 => ?_)
    · refine r_aload_n 18 35 0 rfl rfl rfl rfl ?_
      refine r_getR 19 38 rfl rfl fl_RX5_18 rfl h0 ?_
      refine r_ldc2 20 41 rfl rfl kc_RX5_136 ?_
      refine r_SV 21 44 (a := 0) (cn := 0) (st := []) (av := [.inr (.inr (gr m4 a0 1)), .inr (.inl 9223372036854775807)]) (μ' := u_X10_setIdentifier) (d := 1) rfl rfl mc_X10_setIdentifier st_X10_setIdentifier lk_RX5_138 (Nat.le_of_ble_eq_true rfl) rfl (Nat.le_of_ble_eq_true rfl) (fun _ h => ct_X10_setIdentifier h) (fun m6 => ?_)
      exact r_vret 22 rfl rfl rfl
    · exact r_vret 22 rfl rfl rfl
  · exact r_vret 10 rfl rfl rfl
theorem ct_X5_startAbove {t : List Sh} {m : Mi} {a0 : Nat} {a1 : Int32} {a2 : Int32} {m' : Mi}  (h0 : sh t a0 = some (.inl 5)) (h : f_X5_startAbove t m a0 a1 a2 = some m') : Ct u_X5_startAbove 4 0 0 [.inr (.inr a0), .inl a1, .inl a2] (t, m) (none, (t, m')) :=
  ct_of (by decide) tk_X5_startAbove (Nat.le_of_ble_eq_true rfl) (sm_X5_startAbove t m a0 a1 a2 h0) (by rw [h]; rfl) (Nat.le_refl _) (Nat.le_refl _)
theorem lk_RX5_99 : Cond.methodLink RX5 99 yX4_setStretch ∈ TB := tbm 871 (by decide +kernel) rfl
theorem lk_RX5_103 : Cond.methodLink RX5 103 yX4_setJoin ∈ TB := tbm 881 (by decide +kernel) rfl
theorem lk_RX5_107 : Cond.methodLink RX5 107 yX4_setTo ∈ TB := tbm 892 (by decide +kernel) rfl
def tb_X5_closeAll : Tb := [(0, (.aload_n 0, 1)), (1, (.getfield 25, 3)), (4, (.iconst 0, 1)), (5, (.aload_n 0, 1)), (6, (.getfield 28, 3)), (9, (.iconst 0, 1)), (10, (.invokestatic 91, 3)), (13, (.ifCond .ge 39, 3)), (16, (.aload_n 0, 1)), (17, (.getfield 36, 3)), (20, (.aload_n 0, 1)), (21, (.getfield 25, 3)), (24, (.aload_n 0, 1)), (25, (.getfield 28, 3)), (28, (.invokevirtual 99, 3)), (31, (.aload_n 0, 1)), (32, (.getfield 40, 3)), (35, (.iconst 1, 1)), (36, (.aload_n 1, 1)), (37, (.aload_n 0, 1)), (38, (.getfield 36, 3)), (41, (.invokevirtual 103, 3)), (44, (.aload_n 1, 1)), (45, (.aload_n 0, 1)), (46, (.getfield 40, 3)), (49, (.invokevirtual 107, 3)), (52, (.return_, 1))]
def u_X5_closeAll : Fx := (yX5_closeAll, (cX5_closeAll, (2, (none, tb_X5_closeAll))))
theorem tk_X5_closeAll : ∀ q ∈ u_X5_closeAll.2.2.2.2, decode u_X5_closeAll.2.1 q.1 = .ok q.2 := by decide +kernel
theorem mc_X5_closeAll : MC u_X5_closeAll 1 := ⟨tbm 869 (by decide +kernel) rfl, tbm 120 (by decide +kernel) rfl, ⟨by decide, by decide, by decide +kernel⟩, by decide⟩
theorem in_X5_closeAll : Cond.instanceMethod u_X5_closeAll.1 ∈ TB ∧ Cond.selects u_X5_closeAll.1.cls u_X5_closeAll.1 u_X5_closeAll.1 ∈ TB := ⟨tbm 868 (by decide +kernel) rfl, tbm 32 (by decide +kernel) rfl⟩
def f_X5_closeAll (t : List Sh) (m : Mi) (a0 : Nat) (a1 : Nat) : Option (Mi) :=
  (f_X10_compare t m (gr m a0 3) 0 (gr m a0 4) 0).bind fun x1 =>
  if 0 ≤ x1 then
    some m
  else
    (if ob t (gr m a0 5) 4 = true then
    (f_X4_setStretch t m (gr m a0 5) (gr m a0 3) (gr m a0 4)).bind fun m4 =>
    (if ob t (gr m4 a0 6) 4 = true then
    (f_X4_setJoin t m4 (gr m4 a0 6) 1 a1 (gr m4 a0 5)).bind fun m6 =>
    (if ob t a1 4 = true then
    (f_X4_setTo t m6 a1 (gr m6 a0 6)).bind fun m8 =>
    some m8
    else none)
    else none)
    else none)
set_option maxRecDepth 4000 in
set_option maxHeartbeats 4000000 in
theorem sm_X5_closeAll (t : List Sh) (m : Mi) (a0 : Nat) (a1 : Nat) (h0 : sh t a0 = some (.inl 5)) : Sm u_X5_closeAll (5, 0, 0, t.length, zs t) (kV t) 0 [(0, .inr (.inr a0)), (1, .inr (.inr a1))] [] (t, m) (f_X5_closeAll t m a0 a1) := by
  unfold f_X5_closeAll
  refine r_aload_n 0 1 0 rfl rfl rfl rfl ?_
  refine r_getR 1 4 rfl rfl fl_RX5_25 rfl h0 ?_
  refine r_iconst 2 5 (v := 0) rfl rfl (by decide) ?_
  refine r_aload_n 3 6 0 rfl rfl rfl rfl ?_
  refine r_getR 4 9 rfl rfl fl_RX5_28 rfl h0 ?_
  refine r_iconst 5 10 (v := 0) rfl rfl (by decide) ?_
  refine r_SIo 6 13 (a := 0) (cn := 0) (st := []) (av := [.inr (.inr (gr m a0 3)), .inl 0, .inr (.inr (gr m a0 4)), .inl 0]) (μ' := u_X10_compare) (d := 2) rfl rfl mc_X10_compare st_X10_compare lk_RX5_91 (Nat.le_of_ble_eq_true rfl) rfl (Nat.le_of_ble_eq_true rfl) (fun _ h => ct_X10_compare h) (fun x1 => ?_)
  refine r_if_ge 7 52 16 rfl rfl rfl (fun h2 => ?_) (fun h2 => ?_)
  · exact r_vret 26 rfl rfl rfl
  · refine r_aload_n 8 17 0 rfl rfl rfl rfl ?_
    refine r_getR 9 20 rfl rfl fl_RX5_36 rfl h0 ?_
    refine r_aload_n 10 21 0 rfl rfl rfl rfl ?_
    refine r_getR 11 24 rfl rfl fl_RX5_25 rfl h0 ?_
    refine r_aload_n 12 25 0 rfl rfl rfl rfl ?_
    refine r_getR 13 28 rfl rfl fl_RX5_28 rfl h0 ?_
    refine r_gd (fun h3 => ?_)
    refine r_VV 14 31 (st := []) (av := [.inr (.inr (gr m a0 5)), .inr (.inr (gr m a0 3)), .inr (.inr (gr m a0 4))]) (av' := [.inr (.inr (gr m a0 3)), .inr (.inr (gr m a0 4))]) (μ' := u_X4_setStretch) (d := 4) rfl rfl mc_X4_setStretch in_X4_setStretch lk_RX5_99 (Nat.le_of_ble_eq_true rfl) rfl rfl (ob_sh h3) rfl (Nat.le_of_ble_eq_true rfl) (fun _ h => ct_X4_setStretch (ob_sh h3) h) (fun m4 => ?_)
    refine r_aload_n 15 32 0 rfl rfl rfl rfl ?_
    refine r_getR 16 35 rfl rfl fl_RX5_40 rfl h0 ?_
    refine r_iconst 17 36 (v := 1) rfl rfl (by decide) ?_
    refine r_aload_n 18 37 1 rfl rfl rfl rfl ?_
    refine r_aload_n 19 38 0 rfl rfl rfl rfl ?_
    refine r_getR 20 41 rfl rfl fl_RX5_36 rfl h0 ?_
    refine r_gd (fun h5 => ?_)
    refine r_VV 21 44 (st := []) (av := [.inr (.inr (gr m4 a0 6)), .inl 1, .inr (.inr a1), .inr (.inr (gr m4 a0 5))]) (av' := [.inl 1, .inr (.inr a1), .inr (.inr (gr m4 a0 5))]) (μ' := u_X4_setJoin) (d := 4) rfl rfl mc_X4_setJoin in_X4_setJoin lk_RX5_103 (Nat.le_of_ble_eq_true rfl) rfl rfl (ob_sh h5) rfl (Nat.le_of_ble_eq_true rfl) (fun _ h => ct_X4_setJoin (ob_sh h5) h) (fun m6 => ?_)
    refine r_aload_n 22 45 1 rfl rfl rfl rfl ?_
    refine r_aload_n 23 46 0 rfl rfl rfl rfl ?_
    refine r_getR 24 49 rfl rfl fl_RX5_40 rfl h0 ?_
    refine r_gd (fun h7 => ?_)
    refine r_VV 25 52 (st := []) (av := [.inr (.inr a1), .inr (.inr (gr m6 a0 6))]) (av' := [.inr (.inr (gr m6 a0 6))]) (μ' := u_X4_setTo) (d := 4) rfl rfl mc_X4_setTo in_X4_setTo lk_RX5_107 (Nat.le_of_ble_eq_true rfl) rfl rfl (ob_sh h7) rfl (Nat.le_of_ble_eq_true rfl) (fun _ h => ct_X4_setTo (ob_sh h7) h) (fun m8 => ?_)
    exact r_vret 26 rfl rfl rfl
theorem ct_X5_closeAll {t : List Sh} {m : Mi} {a0 : Nat} {a1 : Nat} {m' : Mi}  (h0 : sh t a0 = some (.inl 5)) (h : f_X5_closeAll t m a0 a1 = some m') : Ct u_X5_closeAll 5 0 0 [.inr (.inr a0), .inr (.inr a1)] (t, m) (none, (t, m')) :=
  ct_of (by decide) tk_X5_closeAll (Nat.le_of_ble_eq_true rfl) (sm_X5_closeAll t m a0 a1 h0) (by rw [h]; rfl) (Nat.le_refl _) (Nat.le_refl _)
theorem lk_RX5_110 : Cond.methodLink RX5 110 yX9_operatorSigns ∈ TB := tbm 902 (by decide +kernel) rfl
theorem lk_RX5_114 : Cond.methodLink RX5 114 yX10_take ∈ TB := tbm 903 (by decide +kernel) rfl
theorem lk_RX5_118 : Cond.methodLink RX5 118 yX5_startAbove ∈ TB := tbm 904 (by decide +kernel) rfl
theorem lk_RX5_122 : Cond.methodLink RX5 122 yX5_endBelow ∈ TB := tbm 925 (by decide +kernel) rfl
theorem lk_RX5_128 : Cond.methodLink RX5 128 yX5_raiseEnd ∈ TB := tbm 929 (by decide +kernel) rfl
def tb_X5_takePart : Tb := [(0, (.aload_n 0, 1)), (1, (.getfield 18, 3)), (4, (.invokestatic 84, 3)), (7, (.aload_n 0, 1)), (8, (.getfield 22, 3)), (11, (.invokestatic 88, 3)), (14, (.iload_n 2, 1)), (15, (.ifCond .lt 22, 3)), (18, (.iload_n 3, 1)), (19, (.aload_n 1, 1)), (20, (.arraylength, 1)), (21, (.if_icmp .gt 16, 3)), (24, (.iload_n 2, 1)), (25, (.iload_n 3, 1)), (26, (.if_icmp .ge 11, 3)), (29, (.aload_n 1, 1)), (30, (.iload_n 2, 1)), (31, (.baload, 1)), (32, (.bipush 42, 2)), (34, (.if_icmp .ne 4, 3)), (37, (.return_, 1)), (38, (.aload_n 1, 1)), (39, (.iload_n 2, 1)), (40, (.baload, 1)), (41, (.istore 4, 2)), (43, (.iload_n 2, 1)), (44, (.iconst 1, 1)), (45, (.iadd, 1)), (46, (.iload_n 3, 1)), (47, (.if_icmp .ge 11, 3)), (50, (.aload_n 1, 1)), (51, (.iload_n 2, 1)), (52, (.iconst 1, 1)), (53, (.iadd, 1)), (54, (.baload, 1)), (55, (.goto 4, 3)), (58, (.iconst (-1), 1)), (59, (.istore 5, 2)), (61, (.iload 4, 2)), (63, (.iload 5, 2)), (65, (.invokestatic 110, 3)), (68, (.istore 6, 2)), (70, (.aload_n 0, 1)), (71, (.getfield 12, 3)), (74, (.aload_n 1, 1)), (75, (.iload_n 2, 1)), (76, (.iload 6, 2)), (78, (.iadd, 1)), (79, (.iload_n 3, 1)), (80, (.invokevirtual 114, 3)), (83, (.iconst 2, 1)), (84, (.if_icmp .ne 7, 3)), (87, (.iconst 1, 1)), (88, (.goto 4, 3)), (91, (.iconst 0, 1)), (92, (.istore 7, 2)), (94, (.iload 4, 2)), (96, (.bipush 62, 2)), (98, (.if_icmp .ne 23, 3)), (101, (.aload_n 0, 1)), (102, (.iload 7, 2)), (104, (.iload 6, 2)), (106, (.iconst 2, 1)), (107, (.if_icmp .ne 7, 3)), (110, (.iconst 1, 1)), (111, (.goto 4, 3)), (114, (.iconst 0, 1)), (115, (.invokevirtual 118, 3)), (118, (.goto 70, 3)), (121, (.iload 4, 2)), (123, (.bipush 60, 2)), (125, (.if_icmp .ne 23, 3)), (128, (.aload_n 0, 1)), (129, (.iload 7, 2)), (131, (.iload 6, 2)), (133, (.iconst 2, 1)), (134, (.if_icmp .ne 7, 3)), (137, (.iconst 1, 1)), (138, (.goto 4, 3)), (141, (.iconst 0, 1)), (142, (.invokevirtual 122, 3)), (145, (.goto 43, 3)), (148, (.aload_n 0, 1)), (149, (.getfield 12, 3)), (152, (.getfield 125, 3)), (155, (.iconst 0, 1)), (156, (.aload_n 0, 1)), (157, (.getfield 18, 3)), (160, (.iconst 0, 1)), (161, (.invokestatic 95, 3)), (164, (.aload_n 0, 1)), (165, (.getfield 12, 3)), (168, (.getfield 125, 3)), (171, (.iconst 0, 1)), (172, (.aload_n 0, 1)), (173, (.getfield 22, 3)), (176, (.iconst 0, 1)), (177, (.invokestatic 95, 3)), (180, (.aload_n 0, 1)), (181, (.iload 4, 2)), (183, (.iload 7, 2)), (185, (.invokevirtual 128, 3)), (188, (.return_, 1))]
def u_X5_takePart : Fx := (yX5_takePart, (cX5_takePart, (8, (none, tb_X5_takePart))))
theorem tk_X5_takePart : ∀ q ∈ u_X5_takePart.2.2.2.2, decode u_X5_takePart.2.1 q.1 = .ok q.2 := by decide +kernel
theorem mc_X5_takePart : MC u_X5_takePart 3 := ⟨tbm 901 (by decide +kernel) rfl, tbm 120 (by decide +kernel) rfl, ⟨by decide, by decide, by decide +kernel⟩, by decide⟩
theorem in_X5_takePart : Cond.instanceMethod u_X5_takePart.1 ∈ TB ∧ Cond.selects u_X5_takePart.1.cls u_X5_takePart.1 u_X5_takePart.1 ∈ TB := ⟨tbm 900 (by decide +kernel) rfl, tbm 34 (by decide +kernel) rfl⟩
def f_X5_takePart_j115 (t : List Sh) (m : Mi) (s0 : Int32) (s1 : Int32) (s2 : Nat) : Option (Mi) :=
  (if ob t s2 5 = true then
  (f_X5_startAbove t m s2 s1 s0).bind fun m16 =>
  some m16
  else none)
def f_X5_takePart_j142 (t : List Sh) (m : Mi) (s0 : Int32) (s1 : Int32) (s2 : Nat) : Option (Mi) :=
  (if ob t s2 5 = true then
  (f_X5_endBelow t m s2 s1 s0).bind fun m20 =>
  some m20
  else none)
def f_X5_takePart_j92 (t : List Sh) (m : Mi) (a0 : Nat) (a4 : Int32) (a6 : Int32) (s0 : Int32) : Option (Mi) :=
  if a4 = 62 then
    if a6 = 2 then
      f_X5_takePart_j115 t m 1 s0 a0
    else
      f_X5_takePart_j115 t m 0 s0 a0
  else
    if a4 = 60 then
      if a6 = 2 then
        f_X5_takePart_j142 t m 1 s0 a0
      else
        f_X5_takePart_j142 t m 0 s0 a0
    else
      (if ob t (gr m a0 0) 10 = true then
      (f_X10_copy t m (gr m (gr m a0 0) 0) 0 (gr m a0 1) 0).bind fun m23 =>
      (if ob t (gr m23 a0 0) 10 = true then
      (f_X10_copy t m23 (gr m23 (gr m23 a0 0) 0) 0 (gr m23 a0 2) 0).bind fun m25 =>
      (f_X5_raiseEnd t m25 a0 a4 s0).bind fun m26 =>
      some m26
      else none)
      else none)
def f_X5_takePart_j59 (t : List Sh) (m : Mi) (a0 : Nat) (a1 : Nat) (a2 : Int32) (a3 : Int32) (a4 : Int32) (s0 : Int32) : Option (Mi) :=
  (f_X9_operatorSigns a4 s0).bind fun x10 =>
  (if ob t (gr m a0 0) 10 = true then
  bd (f_X10_take t m (gr m a0 0) a1 (a2 + x10) a3) fun x12 m13 =>
  if x12 = 2 then
    f_X5_takePart_j92 t m13 a0 a4 x10 1
  else
    f_X5_takePart_j92 t m13 a0 a4 x10 0
  else none)
def f_X5_takePart (t : List Sh) (m : Mi) (a0 : Nat) (a1 : Nat) (a2 : Int32) (a3 : Int32) : Option (Mi) :=
  (f_X10_setLeast t m (gr m a0 1)).bind fun m1 =>
  (f_X10_setEndless t m1 (gr m1 a0 2)).bind fun m2 =>
  if a2 < 0 then
    some m2
  else
    (if aa t a1 .byte = true then
    if (Int32.ofNat (ln t a1)) < a3 then
      some m2
    else
      if a3 ≤ a2 then
        some m2
      else
        (if ar t a1 .byte a2 = true then
        if (gi m2 a1 (ix a2)) = 42 then
          some m2
        else
          lt (gi m2 a1 (ix a2)) fun x9 =>
          if a3 ≤ (a2 + 1) then
            f_X5_takePart_j59 t m2 a0 a1 a2 a3 x9 (-1)
          else
            (if ar t a1 .byte (a2 + 1) = true then
            f_X5_takePart_j59 t m2 a0 a1 a2 a3 x9 (gi m2 a1 (ix (a2 + 1)))
            else none)
        else none)
    else none)
set_option maxRecDepth 4000 in
set_option maxHeartbeats 4000000 in
theorem sm_X5_takePart (t : List Sh) (m : Mi) (a0 : Nat) (a1 : Nat) (a2 : Int32) (a3 : Int32) (h0 : sh t a0 = some (.inl 5)) : Sm u_X5_takePart (5, 0, 0, t.length, zs t) (kV t) 0 [(0, .inr (.inr a0)), (1, .inr (.inr a1)), (2, .inl a2), (3, .inl a3)] [] (t, m) (f_X5_takePart t m a0 a1 a2 a3) := by
  unfold f_X5_takePart
  refine r_aload_n 0 1 0 rfl rfl rfl rfl ?_
  refine r_getR 1 4 rfl rfl fl_RX5_18 rfl h0 ?_
  refine r_SV 2 7 (a := 0) (cn := 0) (st := []) (av := [.inr (.inr (gr m a0 1))]) (μ' := u_X10_setLeast) (d := 2) rfl rfl mc_X10_setLeast st_X10_setLeast lk_RX5_84 (Nat.le_of_ble_eq_true rfl) rfl (Nat.le_of_ble_eq_true rfl) (fun _ h => ct_X10_setLeast h) (fun m1 => ?_)
  refine r_aload_n 3 8 0 rfl rfl rfl rfl ?_
  refine r_getR 4 11 rfl rfl fl_RX5_22 rfl h0 ?_
  refine r_SV 5 14 (a := 0) (cn := 0) (st := []) (av := [.inr (.inr (gr m1 a0 2))]) (μ' := u_X10_setEndless) (d := 2) rfl rfl mc_X10_setEndless st_X10_setEndless lk_RX5_88 (Nat.le_of_ble_eq_true rfl) rfl (Nat.le_of_ble_eq_true rfl) (fun _ h => ct_X10_setEndless h) (fun m2 => ?_)
  refine r_iload_n 6 15 2 rfl rfl rfl rfl ?_
  refine r_if_lt 7 37 18 rfl rfl rfl (fun h3 => ?_) (fun h3 => ?_)
  · exact r_vret 20 rfl rfl rfl
  · refine r_iload_n 8 19 3 rfl rfl rfl rfl ?_
    refine r_aload_n 9 20 1 rfl rfl rfl rfl ?_
    refine r_gd (fun h4 => ?_)
    refine r_alen 10 21 2 rfl rfl (fun _ => rfl) h4 ?_
    refine r_icmp_gt 11 37 24 rfl rfl rfl (fun h5 => ?_) (fun h5 => ?_)
    · exact r_vret 20 rfl rfl rfl
    · refine r_iload_n 12 25 2 rfl rfl rfl rfl ?_
      refine r_iload_n 13 26 3 rfl rfl rfl rfl ?_
      refine r_icmp_ge 14 37 29 rfl rfl rfl (fun h6 => ?_) (fun h6 => ?_)
      · exact r_vret 20 rfl rfl rfl
      · refine r_aload_n 15 30 1 rfl rfl rfl rfl ?_
        refine r_iload_n 16 31 2 rfl rfl rfl rfl ?_
        refine r_gd (fun h7 => ?_)
        refine r_bald 17 32 rfl rfl h7 ?_
        refine r_bipush 18 34 (v := 42) rfl rfl (by decide) ?_
        refine r_icmp_ne 19 38 37 rfl rfl rfl (fun h8 => ?_) (fun h8 => ?_)
        · exact r_vret 20 rfl rfl rfl
        · refine r_aload_n 21 39 1 rfl rfl rfl rfl ?_
          refine r_iload_n 22 40 2 rfl rfl rfl rfl ?_
          refine r_bald 23 41 rfl rfl h7 ?_
          refine r_ltI (fun x9 => ?_)
          refine r_istore 24 43 (L' := [(4, .inl x9), (0, .inr (.inr a0)), (1, .inr (.inr a1)), (2, .inl a2), (3, .inl a3)]) rfl rfl (by decide) rfl ?_
          refine r_iload_n 25 44 3 rfl rfl rfl rfl ?_
          refine r_iconst 26 45 (v := 1) rfl rfl (by decide) ?_
          refine r_iadd 27 46 rfl rfl ?_
          refine r_iload_n 28 47 4 rfl rfl rfl rfl ?_
          have hj59 : ∀ (m : Mi) (a4 : Int32) (s0 : Int32), Sm u_X5_takePart (5, 0, 0, t.length, zs t) (kV t) 59 [(0, .inr (.inr a0)), (1, .inr (.inr a1)), (2, .inl a2), (3, .inl a3), (4, .inl a4)] [.inl s0] (t, m) (f_X5_takePart_j59 t m a0 a1 a2 a3 a4 s0) := by
            intro m a4 s0
            unfold f_X5_takePart_j59
            refine r_istore 37 61 (L' := [(5, .inl s0), (0, .inr (.inr a0)), (1, .inr (.inr a1)), (2, .inl a2), (3, .inl a3), (4, .inl a4)]) rfl rfl (by decide) rfl ?_
            refine r_iload 38 63 5 rfl rfl rfl ?_
            refine r_iload 39 65 0 rfl rfl rfl ?_
            refine r_SIo 40 68 (a := 0) (cn := 0) (st := []) (av := [.inl a4, .inl s0]) (μ' := u_X9_operatorSigns) (d := 1) rfl rfl mc_X9_operatorSigns st_X9_operatorSigns lk_RX5_110 (Nat.le_of_ble_eq_true rfl) rfl (Nat.le_of_ble_eq_true rfl) (fun _ h => ct_X9_operatorSigns h) (fun x10 => ?_)
            refine r_istore 41 70 (L' := [(6, .inl x10), (5, .inl s0), (0, .inr (.inr a0)), (1, .inr (.inr a1)), (2, .inl a2), (3, .inl a3), (4, .inl a4)]) rfl rfl (by decide) rfl ?_
            refine r_aload_n 42 71 2 rfl rfl rfl rfl ?_
            refine r_getR 43 74 rfl rfl fl_RX5_12 rfl h0 ?_
            refine r_aload_n 44 75 3 rfl rfl rfl rfl ?_
            refine r_iload_n 45 76 4 rfl rfl rfl rfl ?_
            refine r_iload 46 78 0 rfl rfl rfl ?_
            refine r_iadd 47 79 rfl rfl ?_
            refine r_iload_n 48 80 5 rfl rfl rfl rfl ?_
            refine r_gd (fun h11 => ?_)
            refine r_VI 49 83 (st := []) (av := [.inr (.inr (gr m a0 0)), .inr (.inr a1), .inl (a2 + x10), .inl a3]) (av' := [.inr (.inr a1), .inl (a2 + x10), .inl a3]) (μ' := u_X10_take) (d := 4) rfl rfl mc_X10_take in_X10_take lk_RX5_114 (Nat.le_of_ble_eq_true rfl) rfl rfl (ob_sh h11) rfl (Nat.le_of_ble_eq_true rfl) (fun _ _ h => ct_X10_take (ob_sh h11) h) (fun x12 m13 => ?_)
            refine r_iconst 50 84 (v := 2) rfl rfl (by decide) ?_
            have hj92 : ∀ (m : Mi) (a4 : Int32) (a6 : Int32) (s0 : Int32), Sm u_X5_takePart (5, 0, 0, t.length, zs t) (kV t) 92 [(0, .inr (.inr a0)), (4, .inl a4), (6, .inl a6)] [.inl s0] (t, m) (f_X5_takePart_j92 t m a0 a4 a6 s0) := by
              intro m a4 a6 s0
              unfold f_X5_takePart_j92
              refine r_istore 55 94 (L' := [(7, .inl s0), (0, .inr (.inr a0)), (4, .inl a4), (6, .inl a6)]) rfl rfl (by decide) rfl ?_
              refine r_iload 56 96 2 rfl rfl rfl ?_
              refine r_bipush 57 98 (v := 62) rfl rfl (by decide) ?_
              refine r_icmp_ne 58 121 101 rfl rfl rfl (fun h14 => ?_) (fun h14 => ?_)
              · refine r_aload_n 59 102 1 rfl rfl rfl rfl ?_
                refine r_iload 60 104 0 rfl rfl rfl ?_
                refine r_iload 61 106 3 rfl rfl rfl ?_
                refine r_iconst 62 107 (v := 2) rfl rfl (by decide) ?_
                have hj115 : ∀ (m : Mi) (s0 : Int32) (s1 : Int32) (s2 : Nat), Sm u_X5_takePart (5, 0, 0, t.length, zs t) (kV t) 115 [] [.inl s0, .inl s1, .inr (.inr s2)] (t, m) (f_X5_takePart_j115 t m s0 s1 s2) := by
                  intro m s0 s1 s2
                  unfold f_X5_takePart_j115
                  refine r_gd (fun h15 => ?_)
                  refine r_VV 67 118 (st := []) (av := [.inr (.inr s2), .inl s1, .inl s0]) (av' := [.inl s1, .inl s0]) (μ' := u_X5_startAbove) (d := 4) rfl rfl mc_X5_startAbove in_X5_startAbove lk_RX5_118 (Nat.le_of_ble_eq_true rfl) rfl rfl (ob_sh h15) rfl (Nat.le_of_ble_eq_true rfl) (fun _ h => ct_X5_startAbove (ob_sh h15) h) (fun m16 => ?_)
                  refine r_goto 68 188 rfl rfl ?_
                  exact r_vret 102 rfl rfl rfl
                refine r_icmp_ne 63 114 110 rfl rfl rfl (fun h17 => ?_) (fun h17 => ?_)
                · refine r_iconst 64 111 (v := 1) rfl rfl (by decide) ?_
                  refine r_goto 65 115 rfl rfl ?_
                  exact r_sub [] rfl (hj115 m 1 s0 a0)
                · refine r_iconst 66 115 (v := 0) rfl rfl (by decide) ?_
                  exact r_sub [] rfl (hj115 m 0 s0 a0)
              · refine r_iload 69 123 2 rfl rfl rfl ?_
                refine r_bipush 70 125 (v := 60) rfl rfl (by decide) ?_
                refine r_icmp_ne 71 148 128 rfl rfl rfl (fun h18 => ?_) (fun h18 => ?_)
                · refine r_aload_n 72 129 1 rfl rfl rfl rfl ?_
                  refine r_iload 73 131 0 rfl rfl rfl ?_
                  refine r_iload 74 133 3 rfl rfl rfl ?_
                  refine r_iconst 75 134 (v := 2) rfl rfl (by decide) ?_
                  have hj142 : ∀ (m : Mi) (s0 : Int32) (s1 : Int32) (s2 : Nat), Sm u_X5_takePart (5, 0, 0, t.length, zs t) (kV t) 142 [] [.inl s0, .inl s1, .inr (.inr s2)] (t, m) (f_X5_takePart_j142 t m s0 s1 s2) := by
                    intro m s0 s1 s2
                    unfold f_X5_takePart_j142
                    refine r_gd (fun h19 => ?_)
                    refine r_VV 80 145 (st := []) (av := [.inr (.inr s2), .inl s1, .inl s0]) (av' := [.inl s1, .inl s0]) (μ' := u_X5_endBelow) (d := 4) rfl rfl mc_X5_endBelow in_X5_endBelow lk_RX5_122 (Nat.le_of_ble_eq_true rfl) rfl rfl (ob_sh h19) rfl (Nat.le_of_ble_eq_true rfl) (fun _ h => ct_X5_endBelow (ob_sh h19) h) (fun m20 => ?_)
                    refine r_goto 81 188 rfl rfl ?_
                    exact r_vret 102 rfl rfl rfl
                  refine r_icmp_ne 76 141 137 rfl rfl rfl (fun h21 => ?_) (fun h21 => ?_)
                  · refine r_iconst 77 138 (v := 1) rfl rfl (by decide) ?_
                    refine r_goto 78 142 rfl rfl ?_
                    exact r_sub [] rfl (hj142 m 1 s0 a0)
                  · refine r_iconst 79 142 (v := 0) rfl rfl (by decide) ?_
                    exact r_sub [] rfl (hj142 m 0 s0 a0)
                · refine r_aload_n 82 149 1 rfl rfl rfl rfl ?_
                  refine r_getR 83 152 rfl rfl fl_RX5_12 rfl h0 ?_
                  refine r_gd (fun h22 => ?_)
                  refine r_getR 84 155 rfl rfl fl_RX5_125 rfl (ob_sh h22) ?_
                  refine r_iconst 85 156 (v := 0) rfl rfl (by decide) ?_
                  refine r_aload_n 86 157 1 rfl rfl rfl rfl ?_
                  refine r_getR 87 160 rfl rfl fl_RX5_18 rfl h0 ?_
                  refine r_iconst 88 161 (v := 0) rfl rfl (by decide) ?_
                  refine r_SV 89 164 (a := 0) (cn := 0) (st := []) (av := [.inr (.inr (gr m (gr m a0 0) 0)), .inl 0, .inr (.inr (gr m a0 1)), .inl 0]) (μ' := u_X10_copy) (d := 2) rfl rfl mc_X10_copy st_X10_copy lk_RX5_95 (Nat.le_of_ble_eq_true rfl) rfl (Nat.le_of_ble_eq_true rfl) (fun _ h => ct_X10_copy h) (fun m23 => ?_)
                  refine r_aload_n 90 165 1 rfl rfl rfl rfl ?_
                  refine r_getR 91 168 rfl rfl fl_RX5_12 rfl h0 ?_
                  refine r_gd (fun h24 => ?_)
                  refine r_getR 92 171 rfl rfl fl_RX5_125 rfl (ob_sh h24) ?_
                  refine r_iconst 93 172 (v := 0) rfl rfl (by decide) ?_
                  refine r_aload_n 94 173 1 rfl rfl rfl rfl ?_
                  refine r_getR 95 176 rfl rfl fl_RX5_22 rfl h0 ?_
                  refine r_iconst 96 177 (v := 0) rfl rfl (by decide) ?_
                  refine r_SV 97 180 (a := 0) (cn := 0) (st := []) (av := [.inr (.inr (gr m23 (gr m23 a0 0) 0)), .inl 0, .inr (.inr (gr m23 a0 2)), .inl 0]) (μ' := u_X10_copy) (d := 2) rfl rfl mc_X10_copy st_X10_copy lk_RX5_95 (Nat.le_of_ble_eq_true rfl) rfl (Nat.le_of_ble_eq_true rfl) (fun _ h => ct_X10_copy h) (fun m25 => ?_)
                  refine r_aload_n 98 181 1 rfl rfl rfl rfl ?_
                  refine r_iload 99 183 2 rfl rfl rfl ?_
                  refine r_iload 100 185 0 rfl rfl rfl ?_
                  refine r_VV 101 188 (st := []) (av := [.inr (.inr a0), .inl a4, .inl s0]) (av' := [.inl a4, .inl s0]) (μ' := u_X5_raiseEnd) (d := 4) rfl rfl mc_X5_raiseEnd in_X5_raiseEnd lk_RX5_128 (Nat.le_of_ble_eq_true rfl) rfl rfl h0 rfl (Nat.le_of_ble_eq_true rfl) (fun _ h => ct_X5_raiseEnd h0 h) (fun m26 => ?_)
                  exact r_vret 102 rfl rfl rfl
            refine r_icmp_ne 51 91 87 rfl rfl rfl (fun h27 => ?_) (fun h27 => ?_)
            · refine r_iconst 52 88 (v := 1) rfl rfl (by decide) ?_
              refine r_goto 53 92 rfl rfl ?_
              exact r_sub [2, 6, 0] rfl (hj92 m13 a4 x10 1)
            · refine r_iconst 54 92 (v := 0) rfl rfl (by decide) ?_
              exact r_sub [2, 6, 0] rfl (hj92 m13 a4 x10 0)
          refine r_icmp_ge 29 58 50 rfl rfl rfl (fun h28 => ?_) (fun h28 => ?_)
          · refine r_iconst 36 59 (v := (-1)) rfl rfl (by decide) ?_
            exact r_sub [1, 2, 3, 4, 0] rfl (hj59 m2 x9 (-1))
          · refine r_aload_n 30 51 2 rfl rfl rfl rfl ?_
            refine r_iload_n 31 52 3 rfl rfl rfl rfl ?_
            refine r_iconst 32 53 (v := 1) rfl rfl (by decide) ?_
            refine r_iadd 33 54 rfl rfl ?_
            refine r_gd (fun h29 => ?_)
            refine r_bald 34 55 rfl rfl h29 ?_
            refine r_goto 35 59 rfl rfl ?_
            exact r_sub [1, 2, 3, 4, 0] rfl (hj59 m2 x9 (gi m2 a1 (ix (a2 + 1))))
theorem ct_X5_takePart {t : List Sh} {m : Mi} {a0 : Nat} {a1 : Nat} {a2 : Int32} {a3 : Int32} {m' : Mi}  (h0 : sh t a0 = some (.inl 5)) (h : f_X5_takePart t m a0 a1 a2 a3 = some m') : Ct u_X5_takePart 5 0 0 [.inr (.inr a0), .inr (.inr a1), .inl a2, .inl a3] (t, m) (none, (t, m')) :=
  ct_of (by decide) tk_X5_takePart (Nat.le_of_ble_eq_true rfl) (sm_X5_takePart t m a0 a1 a2 a3 h0) (by rw [h]; rfl) (Nat.le_refl _) (Nat.le_refl _)
theorem lk_RX5_61 : Cond.methodLink RX5 61 yX4_clear ∈ TB := tbm 854 (by decide +kernel) rfl
theorem lk_RX5_64 : Cond.methodLink RX5 64 yX5_openAll ∈ TB := tbm 858 (by decide +kernel) rfl
theorem lk_RX5_67 : Cond.methodLink RX5 67 yX5_closeAll ∈ TB := tbm 866 (by decide +kernel) rfl
theorem lk_RX5_71 : Cond.methodLink RX5 71 yX9_placeAt ∈ TB := tbm 896 (by decide +kernel) rfl
theorem lk_RX5_74 : Cond.methodLink RX5 74 yX9_endAt ∈ TB := tbm 897 (by decide +kernel) rfl
theorem lk_RX5_77 : Cond.methodLink RX5 77 yX5_takePart ∈ TB := tbm 898 (by decide +kernel) rfl
theorem lk_RX5_81 : Cond.methodLink RX5 81 yX5_narrowAll ∈ TB := tbm 937 (by decide +kernel) rfl
def tb_X5_take : Tb := [(0, (.aload_n 3, 1)), (1, (.invokevirtual 61, 3)), (4, (.aload_n 0, 1)), (5, (.invokevirtual 64, 3)), (8, (.iconst 0, 1)), (9, (.istore 4, 2)), (11, (.iload 4, 2)), (13, (.aload_n 2, 1)), (14, (.invokevirtual 47, 3)), (17, (.if_icmp .ge 53, 3)), (20, (.aload_n 2, 1)), (21, (.iload 4, 2)), (23, (.invokevirtual 53, 3)), (26, (.bipush 9, 2)), (28, (.if_icmp .ne 15, 3)), (31, (.aload_n 0, 1)), (32, (.aload_n 3, 1)), (33, (.invokevirtual 67, 3)), (36, (.aload_n 0, 1)), (37, (.invokevirtual 64, 3)), (40, (.goto 24, 3)), (43, (.aload_n 0, 1)), (44, (.aload_n 1, 1)), (45, (.aload_n 2, 1)), (46, (.iload 4, 2)), (48, (.invokevirtual 71, 3)), (51, (.aload_n 2, 1)), (52, (.iload 4, 2)), (54, (.invokevirtual 74, 3)), (57, (.invokevirtual 77, 3)), (60, (.aload_n 0, 1)), (61, (.invokevirtual 81, 3)), (64, (.iinc 4 1, 3)), (67, (.goto (-56), 3)), (70, (.aload_n 0, 1)), (71, (.aload_n 3, 1)), (72, (.invokevirtual 67, 3)), (75, (.return_, 1))]
def u_X5_take : Fx := (yX5_take, (cX5_take, (5, (none, tb_X5_take))))
theorem tk_X5_take : ∀ q ∈ u_X5_take.2.2.2.2, decode u_X5_take.2.1 q.1 = .ok q.2 := by decide +kernel
theorem mc_X5_take : MC u_X5_take 3 := ⟨tbm 853 (by decide +kernel) rfl, tbm 120 (by decide +kernel) rfl, ⟨by decide, by decide, by decide +kernel⟩, by decide⟩
theorem in_X5_take : Cond.instanceMethod u_X5_take.1 ∈ TB ∧ Cond.selects u_X5_take.1.cls u_X5_take.1 u_X5_take.1 ∈ TB := ⟨tbm 851 (by decide +kernel) rfl, tbm 852 (by decide +kernel) rfl⟩
def f_X5_take_j70 (t : List Sh) (m : Mi) (a0 : Nat) (a3 : Nat) : Option (Mi) :=
  (f_X5_closeAll t m a0 a3).bind fun m4 =>
  some m4
def f_X5_take_l11 (t : List Sh) (m : Mi) (a0 : Nat) (a1 : Nat) (a2 : Nat) (a3 : Nat) (a4 : Int32) : Option ((Int32 × Mi) ⊕ ((Mi))) :=
  (if ob t a2 9 = true then
  (f_X9_size t m a2).bind fun x6 =>
  if x6 ≤ a4 then
    some (.inr m)
  else
    (f_X9_kindAt t m a2 a4).bind fun x8 =>
    if x8 = 9 then
      (f_X5_closeAll t m a0 a3).bind fun m10 =>
      (f_X5_openAll t m10 a0).bind fun m11 =>
      lt (a4 + 1) fun x12 =>
      some (.inl (x12, m11))
    else
      (f_X9_placeAt t m a2 a4).bind fun x13 =>
      (f_X9_endAt t m a2 a4).bind fun x14 =>
      (f_X5_takePart t m a0 a1 x13 x14).bind fun m15 =>
      (f_X5_narrowAll t m15 a0).bind fun m16 =>
      lt (a4 + 1) fun x17 =>
      some (.inl (x17, m16))
  else none)
def f_X5_take_j11 (t : List Sh) (m : Mi) (a0 : Nat) (a1 : Nat) (a2 : Nat) (a3 : Nat) (a4 : Int32) : Option (Mi) :=
  (lp (fun x : Int32 × Mi => f_X5_take_l11 t x.2 a0 a1 a2 a3 x.1) FUEL (a4, m)).bind (fun y : Mi => f_X5_take_j70 t y a0 a3)
def f_X5_take (t : List Sh) (m : Mi) (a0 : Nat) (a1 : Nat) (a2 : Nat) (a3 : Nat) : Option (Mi) :=
  (if ob t a3 4 = true then
  (f_X4_clear t m a3).bind fun m2 =>
  (f_X5_openAll t m2 a0).bind fun m3 =>
  f_X5_take_j11 t m3 a0 a1 a2 a3 0
  else none)
set_option maxRecDepth 4000 in
set_option maxHeartbeats 4000000 in
theorem sm_X5_take (t : List Sh) (m : Mi) (a0 : Nat) (a1 : Nat) (a2 : Nat) (a3 : Nat) (h0 : sh t a0 = some (.inl 5)) : Sm u_X5_take (6, 0, 0, t.length, zs t) (kV t) 0 [(0, .inr (.inr a0)), (1, .inr (.inr a1)), (2, .inr (.inr a2)), (3, .inr (.inr a3))] [] (t, m) (f_X5_take t m a0 a1 a2 a3) := by
  unfold f_X5_take
  refine r_aload_n 0 1 3 rfl rfl rfl rfl ?_
  refine r_gd (fun h1 => ?_)
  refine r_VV 1 4 (st := []) (av := [.inr (.inr a3)]) (av' := []) (μ' := u_X4_clear) (d := 1) rfl rfl mc_X4_clear in_X4_clear lk_RX5_61 (Nat.le_of_ble_eq_true rfl) rfl rfl (ob_sh h1) rfl (Nat.le_of_ble_eq_true rfl) (fun _ h => ct_X4_clear (ob_sh h1) h) (fun m2 => ?_)
  refine r_aload_n 2 5 0 rfl rfl rfl rfl ?_
  refine r_VV 3 8 (st := []) (av := [.inr (.inr a0)]) (av' := []) (μ' := u_X5_openAll) (d := 3) rfl rfl mc_X5_openAll in_X5_openAll lk_RX5_64 (Nat.le_of_ble_eq_true rfl) rfl rfl h0 rfl (Nat.le_of_ble_eq_true rfl) (fun _ h => ct_X5_openAll h0 h) (fun m3 => ?_)
  refine r_iconst 4 9 (v := 0) rfl rfl (by decide) ?_
  refine r_istore 5 11 (L' := [(4, .inl 0), (0, .inr (.inr a0)), (1, .inr (.inr a1)), (2, .inr (.inr a2)), (3, .inr (.inr a3))]) rfl rfl (by decide) rfl ?_
  have hj11 : ∀ (m : Mi) (a4 : Int32), Sm u_X5_take (6, 0, 0, t.length, zs t) (kV t) 11 [(0, .inr (.inr a0)), (1, .inr (.inr a1)), (2, .inr (.inr a2)), (3, .inr (.inr a3)), (4, .inl a4)] [] (t, m) (f_X5_take_j11 t m a0 a1 a2 a3 a4) := by
    intro m a4
    unfold f_X5_take_j11
    have hj70 : ∀ (m : Mi), Sm u_X5_take (6, 0, 0, t.length, zs t) (kV t) 70 [(0, .inr (.inr a0)), (3, .inr (.inr a3))] [] (t, m) (f_X5_take_j70 t m a0 a3) := by
      intro m
      unfold f_X5_take_j70
      refine r_aload_n 34 71 0 rfl rfl rfl rfl ?_
      refine r_aload_n 35 72 1 rfl rfl rfl rfl ?_
      refine r_VV 36 75 (st := []) (av := [.inr (.inr a0), .inr (.inr a3)]) (av' := [.inr (.inr a3)]) (μ' := u_X5_closeAll) (d := 5) rfl rfl mc_X5_closeAll in_X5_closeAll lk_RX5_67 (Nat.le_of_ble_eq_true rfl) rfl rfl h0 rfl (Nat.le_of_ble_eq_true rfl) (fun _ h => ct_X5_closeAll h0 h) (fun m4 => ?_)
      exact r_vret 37 rfl rfl rfl
    refine r_lp (Lf := fun x : Int32 × Mi => [(0, .inr (.inr a0)), (1, .inr (.inr a1)), (2, .inr (.inr a2)), (3, .inr (.inr a3)), (4, .inl (x.1))]) (Mf := fun x : Int32 × Mi => (t, x.2)) (a4, m) ?_ FUEL
    rintro ⟨a4, m⟩ κ11 hc11 he11
    refine r_eq (L' := [(0, .inr (.inr a0)), (1, .inr (.inr a1)), (2, .inr (.inr a2)), (3, .inr (.inr a3)), (4, .inl a4)]) (M' := (t, m)) rfl rfl ?_
    refine r_eqr (r' := f_X5_take_l11 t m a0 a1 a2 a3 a4) rfl ?_
    unfold f_X5_take_l11
    refine r_iload 6 13 4 rfl rfl rfl ?_
    refine r_aload_n 7 14 2 rfl rfl rfl rfl ?_
    refine r_gd (fun h5 => ?_)
    refine r_VIo 8 17 (st := [.inl a4]) (av := [.inr (.inr a2)]) (av' := []) (μ' := u_X9_size) (d := 1) rfl rfl mc_X9_size in_X9_size lk_RX5_47 (Nat.le_of_ble_eq_true rfl) rfl rfl (ob_sh h5) rfl (Nat.le_of_ble_eq_true rfl) (fun _ h => ct_X9_size (ob_sh h5) h) (fun x6 => ?_)
    refine r_icmp_ge 9 70 20 rfl rfl rfl (fun h7 => ?_) (fun h7 => ?_)
    · refine r_leaf (r2 := (f_X5_take_j70 t m a0 a3 : Option (Mi))) (he11 _) ?_
      exact r_sub [0, 3] rfl (hj70 m)
    · refine r_aload_n 10 21 2 rfl rfl rfl rfl ?_
      refine r_iload 11 23 4 rfl rfl rfl ?_
      refine r_VIo 12 26 (st := []) (av := [.inr (.inr a2), .inl a4]) (av' := [.inl a4]) (μ' := u_X9_kindAt) (d := 1) rfl rfl mc_X9_kindAt in_X9_kindAt lk_RX5_53 (Nat.le_of_ble_eq_true rfl) rfl rfl (ob_sh h5) rfl (Nat.le_of_ble_eq_true rfl) (fun _ h => ct_X9_kindAt (ob_sh h5) h) (fun x8 => ?_)
      refine r_bipush 13 28 (v := 9) rfl rfl (by decide) ?_
      refine r_icmp_ne 14 43 31 rfl rfl rfl (fun h9 => ?_) (fun h9 => ?_)
      · refine r_aload_n 15 32 0 rfl rfl rfl rfl ?_
        refine r_aload_n 16 33 3 rfl rfl rfl rfl ?_
        refine r_VV 17 36 (st := []) (av := [.inr (.inr a0), .inr (.inr a3)]) (av' := [.inr (.inr a3)]) (μ' := u_X5_closeAll) (d := 5) rfl rfl mc_X5_closeAll in_X5_closeAll lk_RX5_67 (Nat.le_of_ble_eq_true rfl) rfl rfl h0 rfl (Nat.le_of_ble_eq_true rfl) (fun _ h => ct_X5_closeAll h0 h) (fun m10 => ?_)
        refine r_aload_n 18 37 0 rfl rfl rfl rfl ?_
        refine r_VV 19 40 (st := []) (av := [.inr (.inr a0)]) (av' := []) (μ' := u_X5_openAll) (d := 3) rfl rfl mc_X5_openAll in_X5_openAll lk_RX5_64 (Nat.le_of_ble_eq_true rfl) rfl rfl h0 rfl (Nat.le_of_ble_eq_true rfl) (fun _ h => ct_X5_openAll h0 h) (fun m11 => ?_)
        refine r_goto 20 64 rfl rfl ?_
        refine r_iinc 32 67 4 (L' := [(4, .inl (a4 + 1)), (0, .inr (.inr a0)), (1, .inr (.inr a1)), (2, .inr (.inr a2)), (3, .inr (.inr a3))]) rfl rfl rfl (by decide) rfl ?_
        refine r_ltV (fun x12 => ?_)
        refine r_goto 33 11 rfl rfl ?_
        exact r_sub [1, 2, 3, 4, 0] rfl (hc11 (x12, m11))
      · refine r_aload_n 21 44 0 rfl rfl rfl rfl ?_
        refine r_aload_n 22 45 1 rfl rfl rfl rfl ?_
        refine r_aload_n 23 46 2 rfl rfl rfl rfl ?_
        refine r_iload 24 48 4 rfl rfl rfl ?_
        refine r_VIo 25 51 (st := [.inr (.inr a1), .inr (.inr a0)]) (av := [.inr (.inr a2), .inl a4]) (av' := [.inl a4]) (μ' := u_X9_placeAt) (d := 1) rfl rfl mc_X9_placeAt in_X9_placeAt lk_RX5_71 (Nat.le_of_ble_eq_true rfl) rfl rfl (ob_sh h5) rfl (Nat.le_of_ble_eq_true rfl) (fun _ h => ct_X9_placeAt (ob_sh h5) h) (fun x13 => ?_)
        refine r_aload_n 26 52 2 rfl rfl rfl rfl ?_
        refine r_iload 27 54 4 rfl rfl rfl ?_
        refine r_VIo 28 57 (st := [.inl x13, .inr (.inr a1), .inr (.inr a0)]) (av := [.inr (.inr a2), .inl a4]) (av' := [.inl a4]) (μ' := u_X9_endAt) (d := 1) rfl rfl mc_X9_endAt in_X9_endAt lk_RX5_74 (Nat.le_of_ble_eq_true rfl) rfl rfl (ob_sh h5) rfl (Nat.le_of_ble_eq_true rfl) (fun _ h => ct_X9_endAt (ob_sh h5) h) (fun x14 => ?_)
        refine r_VV 29 60 (st := []) (av := [.inr (.inr a0), .inr (.inr a1), .inl x13, .inl x14]) (av' := [.inr (.inr a1), .inl x13, .inl x14]) (μ' := u_X5_takePart) (d := 5) rfl rfl mc_X5_takePart in_X5_takePart lk_RX5_77 (Nat.le_of_ble_eq_true rfl) rfl rfl h0 rfl (Nat.le_of_ble_eq_true rfl) (fun _ h => ct_X5_takePart h0 h) (fun m15 => ?_)
        refine r_aload_n 30 61 0 rfl rfl rfl rfl ?_
        refine r_VV 31 64 (st := []) (av := [.inr (.inr a0)]) (av' := []) (μ' := u_X5_narrowAll) (d := 3) rfl rfl mc_X5_narrowAll in_X5_narrowAll lk_RX5_81 (Nat.le_of_ble_eq_true rfl) rfl rfl h0 rfl (Nat.le_of_ble_eq_true rfl) (fun _ h => ct_X5_narrowAll h0 h) (fun m16 => ?_)
        refine r_iinc 32 67 4 (L' := [(4, .inl (a4 + 1)), (0, .inr (.inr a0)), (1, .inr (.inr a1)), (2, .inr (.inr a2)), (3, .inr (.inr a3))]) rfl rfl rfl (by decide) rfl ?_
        refine r_ltV (fun x17 => ?_)
        refine r_goto 33 11 rfl rfl ?_
        exact r_sub [1, 2, 3, 4, 0] rfl (hc11 (x17, m16))
  exact r_sub [1, 2, 3, 4, 0] rfl (hj11 m3 0)
theorem ct_X5_take {t : List Sh} {m : Mi} {a0 : Nat} {a1 : Nat} {a2 : Nat} {a3 : Nat} {m' : Mi}  (h0 : sh t a0 = some (.inl 5)) (h : f_X5_take t m a0 a1 a2 a3 = some m') : Ct u_X5_take 6 0 0 [.inr (.inr a0), .inr (.inr a1), .inr (.inr a2), .inr (.inr a3)] (t, m) (none, (t, m')) :=
  ct_of (by decide) tk_X5_take (Nat.le_of_ble_eq_true rfl) (sm_X5_take t m a0 a1 a2 a3 h0) (by rw [h]; rfl) (Nat.le_refl _) (Nat.le_refl _)
