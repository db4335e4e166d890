theorem lk_RX10_68 : Cond.methodLink RX10 68 yX10_fits ∈ TB := tbm 787 (by decide +kernel) rfl
theorem fl_RX10_19 : FL RX10 19 10 2 false := ⟨RX10, TX10, 5, rfl, inW10, tyX10_ok, nmX10, by decide, rfl, rfl, rfl, tbm 187 (by decide +kernel) rfl⟩
theorem fl_RX10_26 : FL RX10 26 10 4 false := ⟨RX10, TX10, 5, rfl, inW10, tyX10_ok, nmX10, by decide, rfl, rfl, rfl, tbm 189 (by decide +kernel) rfl⟩
theorem fl_RX4_21 : FL RX4 21 4 1 false := ⟨RX4, TX4, 2, rfl, inW4, tyX4_ok, nmX4, by decide, rfl, rfl, rfl, tbm 154 (by decide +kernel) rfl⟩
theorem fl_RX4_15 : FL RX4 15 4 0 true := ⟨RX4, TX4, 2, rfl, inW4, tyX4_ok, nmX4, by decide, rfl, rfl, rfl, tbm 153 (by decide +kernel) rfl⟩
theorem lk_RX4_43 : Cond.methodLink RX4 43 yX10_compare ∈ TB := tbm 888 (by decide +kernel) rfl
def tb_X10_isDigit : Tb := [(0, (.iload_n 0, 1)), (1, (.bipush 48, 2)), (3, (.if_icmp .lt 13, 3)), (6, (.iload_n 0, 1)), (7, (.bipush 57, 2)), (9, (.if_icmp .gt 7, 3)), (12, (.iconst 1, 1)), (13, (.goto 4, 3)), (16, (.iconst 0, 1)), (17, (.ireturn, 1))]
def u_X10_isDigit : Fx := (yX10_isDigit, (cX10_isDigit, (1, ((some .boolean), tb_X10_isDigit))))
theorem tk_X10_isDigit : ∀ q ∈ u_X10_isDigit.2.2.2.2, decode u_X10_isDigit.2.1 q.1 = .ok q.2 := by decide +kernel
theorem mc_X10_isDigit : MC u_X10_isDigit 1 := ⟨tbm 613 (by decide +kernel) rfl, tbm 117 (by decide +kernel) rfl, ⟨by decide, by decide, by decide +kernel⟩, by decide⟩
theorem st_X10_isDigit : Cond.static u_X10_isDigit.1 ∈ TB := tbm 612 (by decide +kernel) rfl
def f_X10_isDigit (a0 : Int32) : Option (Int32) :=
  if a0 < 48 then
    some 0
  else
    if 57 < a0 then
      some 0
    else
      some 1
set_option maxRecDepth 4000 in
set_option maxHeartbeats 2000000 in
theorem sm_X10_isDigit (t : List Sh) (m : Mi) (a0 : Int32) : Sm u_X10_isDigit (1, 0, 0, t.length, zs t) (kIo t m) 0 [(0, .inl a0)] [] (t, m) (f_X10_isDigit a0) := by
  unfold f_X10_isDigit
  refine r_iload_n 0 1 0 rfl rfl rfl rfl ?_
  refine r_bipush 1 3 (v := 48) rfl rfl (by decide) ?_
  refine r_icmp_lt 2 16 6 rfl rfl rfl (fun h1 => ?_) (fun h1 => ?_)
  · refine r_iconst 8 17 (v := 0) rfl rfl (by decide) ?_
    exact r_zret 9 rfl rfl (by decide) rfl
  · refine r_iload_n 3 7 0 rfl rfl rfl rfl ?_
    refine r_bipush 4 9 (v := 57) rfl rfl (by decide) ?_
    refine r_icmp_gt 5 16 12 rfl rfl rfl (fun h2 => ?_) (fun h2 => ?_)
    · refine r_iconst 8 17 (v := 0) rfl rfl (by decide) ?_
      exact r_zret 9 rfl rfl (by decide) rfl
    · refine r_iconst 6 13 (v := 1) rfl rfl (by decide) ?_
      refine r_goto 7 17 rfl rfl ?_
      exact r_zret 9 rfl rfl (by decide) rfl
theorem ct_X10_isDigit {t : List Sh} {m : Mi} {a0 : Int32} {v : Int32}  (h : f_X10_isDigit a0 = some v) : Ct u_X10_isDigit 1 0 0 [.inl a0] (t, m) (some (.inl v), (t, m)) :=
  ct_of (by decide) tk_X10_isDigit (Nat.le_of_ble_eq_true rfl) (sm_X10_isDigit t m a0) (by rw [h]; rfl) (Nat.le_refl _) (Nat.le_refl _)
def tb_X10_fits : Tb := [(0, (.iload_n 1, 1)), (1, (.ifCond .lt 16, 3)), (4, (.iload_n 1, 1)), (5, (.aload_n 0, 1)), (6, (.arraylength, 1)), (7, (.bipush 8, 2)), (9, (.isub, 1)), (10, (.if_icmp .gt 7, 3)), (13, (.iconst 1, 1)), (14, (.goto 4, 3)), (17, (.iconst 0, 1)), (18, (.ireturn, 1))]
def u_X10_fits : Fx := (yX10_fits, (cX10_fits, (2, ((some .boolean), tb_X10_fits))))
theorem tk_X10_fits : ∀ q ∈ u_X10_fits.2.2.2.2, decode u_X10_fits.2.1 q.1 = .ok q.2 := by decide +kernel
theorem mc_X10_fits : MC u_X10_fits 2 := ⟨tbm 789 (by decide +kernel) rfl, tbm 117 (by decide +kernel) rfl, ⟨by decide, by decide, by decide +kernel⟩, by decide⟩
theorem st_X10_fits : Cond.static u_X10_fits.1 ∈ TB := tbm 788 (by decide +kernel) rfl
def f_X10_fits (t : List Sh) (m : Mi) (a0 : Nat) (a1 : Int32) : Option (Int32) :=
  if a1 < 0 then
    some 0
  else
    (if aa t a0 .long = true then
    if ((Int32.ofNat (ln t a0)) - 8) < a1 then
      some 0
    else
      some 1
    else none)
set_option maxRecDepth 4000 in
set_option maxHeartbeats 2000000 in
theorem sm_X10_fits (t : List Sh) (m : Mi) (a0 : Nat) (a1 : Int32) : Sm u_X10_fits (1, 0, 0, t.length, zs t) (kIo t m) 0 [(0, .inr (.inr a0)), (1, .inl a1)] [] (t, m) (f_X10_fits t m a0 a1) := by
  unfold f_X10_fits
  refine r_iload_n 0 1 1 rfl rfl rfl rfl ?_
  refine r_if_lt 1 17 4 rfl rfl rfl (fun h1 => ?_) (fun h1 => ?_)
  · refine r_iconst 10 18 (v := 0) rfl rfl (by decide) ?_
    exact r_zret 11 rfl rfl (by decide) rfl
  · refine r_iload_n 2 5 1 rfl rfl rfl rfl ?_
    refine r_aload_n 3 6 0 rfl rfl rfl rfl ?_
    refine r_gd (fun h2 => ?_)
    refine r_alen 4 7 1 rfl rfl (fun _ => rfl) h2 ?_
    refine r_bipush 5 9 (v := 8) rfl rfl (by decide) ?_
    refine r_isub 6 10 rfl rfl ?_
    refine r_icmp_gt 7 17 13 rfl rfl rfl (fun h3 => ?_) (fun h3 => ?_)
    · refine r_iconst 10 18 (v := 0) rfl rfl (by decide) ?_
      exact r_zret 11 rfl rfl (by decide) rfl
    · refine r_iconst 8 14 (v := 1) rfl rfl (by decide) ?_
      refine r_goto 9 18 rfl rfl ?_
      exact r_zret 11 rfl rfl (by decide) rfl
theorem ct_X10_fits {t : List Sh} {m : Mi} {a0 : Nat} {a1 : Int32} {v : Int32}  (h : f_X10_fits t m a0 a1 = some v) : Ct u_X10_fits 1 0 0 [.inr (.inr a0), .inl a1] (t, m) (some (.inl v), (t, m)) :=
  ct_of (by decide) tk_X10_fits (Nat.le_of_ble_eq_true rfl) (sm_X10_fits t m a0 a1) (by rw [h]; rfl) (Nat.le_refl _) (Nat.le_refl _)
def tb_X10_compare : Tb := [(0, (.aload_n 0, 1)), (1, (.iload_n 1, 1)), (2, (.invokestatic 68, 3)), (5, (.ifCond .eq 11, 3)), (8, (.aload_n 2, 1)), (9, (.iload_n 3, 1)), (10, (.invokestatic 68, 3)), (13, (.ifCond .ne 5, 3)), (16, (.iconst 0, 1)), (17, (.ireturn, 1)), (18, (.iconst 0, 1)), (19, (.istore 4, 2)), (21, (.iload 4, 2)), (23, (.bipush 8, 2)), (25, (.if_icmp .ge 47, 3)), (28, (.aload_n 0, 1)), (29, (.iload_n 1, 1)), (30, (.iload 4, 2)), (32, (.iadd, 1)), (33, (.laload, 1)), (34, (.aload_n 2, 1)), (35, (.iload_n 3, 1)), (36, (.iload 4, 2)), (38, (.iadd, 1)), (39, (.laload, 1)), (40, (.lcmp, 1)), (41, (.ifCond .eq 25, 3)), (44, (.aload_n 0, 1)), (45, (.iload_n 1, 1)), (46, (.iload 4, 2)), (48, (.iadd, 1)), (49, (.laload, 1)), (50, (.aload_n 2, 1)), (51, (.iload_n 3, 1)), (52, (.iload 4, 2)), (54, (.iadd, 1)), (55, (.laload, 1)), (56, (.lcmp, 1)), (57, (.ifCond .ge 7, 3)), (60, (.iconst (-1), 1)), (61, (.goto 4, 3)), (64, (.iconst 1, 1)), (65, (.ireturn, 1)), (66, (.iinc 4 1, 3)), (69, (.goto (-48), 3)), (72, (.iconst 0, 1)), (73, (.ireturn, 1))]
def u_X10_compare : Fx := (yX10_compare, (cX10_compare, (5, ((some .int), tb_X10_compare))))
theorem tk_X10_compare : ∀ q ∈ u_X10_compare.2.2.2.2, decode u_X10_compare.2.1 q.1 = .ok q.2 := by decide +kernel
theorem mc_X10_compare : MC u_X10_compare 4 := ⟨tbm 786 (by decide +kernel) rfl, tbm 117 (by decide +kernel) rfl, ⟨by decide, by decide, by decide +kernel⟩, by decide⟩
theorem st_X10_compare : Cond.static u_X10_compare.1 ∈ TB := tbm 785 (by decide +kernel) rfl
def f_X10_compare_j44 (t : List Sh) (m : Mi) (a0 : Nat) (a1 : Int32) (a2 : Nat) (a3 : Int32) (a4 : Int32) : Option (Int32) :=
  (if ar t a0 .long (a1 + a4) = true then
  (if ar t a2 .long (a3 + a4) = true then
  if 0 ≤ (lg_cmp (gl m a0 (ix (a1 + a4))) (gl m a2 (ix (a3 + a4)))) then
    some 1
  else
    some (-1)
  else none)
  else none)
def f_X10_compare_j72 (t : List Sh) (m : Mi) : Option (Int32) :=
  some 0
def f_X10_compare_l21 (t : List Sh) (m : Mi) (a0 : Nat) (a1 : Int32) (a2 : Nat) (a3 : Int32) (a4 : Int32) : Option ((Int32) ⊕ ((Unit) ⊕ (Int32))) :=
  if 8 ≤ a4 then
    some (.inr (.inl ()))
  else
    (if ar t a0 .long (a1 + a4) = true then
    (if ar t a2 .long (a3 + a4) = true then
    if (lg_cmp (gl m a0 (ix (a1 + a4))) (gl m a2 (ix (a3 + a4)))) = 0 then
      lt (a4 + 1) fun x12 =>
      some (.inl x12)
    else
      some (.inr (.inr a4))
    else none)
    else none)
def f_X10_compare_j21 (t : List Sh) (m : Mi) (a0 : Nat) (a1 : Int32) (a2 : Nat) (a3 : Int32) (a4 : Int32) : Option (Int32) :=
  (lp (fun x : Int32 => f_X10_compare_l21 t m a0 a1 a2 a3 x) FUEL a4).bind (Sum.elim (fun y : Unit => f_X10_compare_j72 t m) (fun y : Int32 => f_X10_compare_j44 t m a0 a1 a2 a3 y))
def f_X10_compare (t : List Sh) (m : Mi) (a0 : Nat) (a1 : Int32) (a2 : Nat) (a3 : Int32) : Option (Int32) :=
  (f_X10_fits t m a0 a1).bind fun x1 =>
  if x1 = 0 then
    some 0
  else
    (f_X10_fits t m a2 a3).bind fun x3 =>
    if x3 = 0 then
      some 0
    else
      f_X10_compare_j21 t m a0 a1 a2 a3 0
set_option maxRecDepth 4000 in
set_option maxHeartbeats 2000000 in
theorem sm_X10_compare (t : List Sh) (m : Mi) (a0 : Nat) (a1 : Int32) (a2 : Nat) (a3 : Int32) : Sm u_X10_compare (2, 0, 0, t.length, zs t) (kIo t m) 0 [(0, .inr (.inr a0)), (1, .inl a1), (2, .inr (.inr a2)), (3, .inl a3)] [] (t, m) (f_X10_compare t m a0 a1 a2 a3) := by
  unfold f_X10_compare
  refine r_aload_n 0 1 0 rfl rfl rfl rfl ?_
  refine r_iload_n 1 2 1 rfl rfl rfl rfl ?_
  refine r_SIo 2 5 (a := 0) (cn := 0) (st := []) (av := [.inr (.inr a0), .inl a1]) (μ' := u_X10_fits) (d := 1) rfl rfl mc_X10_fits st_X10_fits lk_RX10_68 (Nat.le_of_ble_eq_true rfl) rfl (Nat.le_of_ble_eq_true rfl) (fun _ h => ct_X10_fits h) (fun x1 => ?_)
  refine r_if_eq 3 16 8 rfl rfl rfl (fun h2 => ?_) (fun h2 => ?_)
  · refine r_iconst 8 17 (v := 0) rfl rfl (by decide) ?_
    exact r_iret 9 rfl rfl rfl
  · refine r_aload_n 4 9 2 rfl rfl rfl rfl ?_
    refine r_iload_n 5 10 3 rfl rfl rfl rfl ?_
    refine r_SIo 6 13 (a := 0) (cn := 0) (st := []) (av := [.inr (.inr a2), .inl a3]) (μ' := u_X10_fits) (d := 1) rfl rfl mc_X10_fits st_X10_fits lk_RX10_68 (Nat.le_of_ble_eq_true rfl) rfl (Nat.le_of_ble_eq_true rfl) (fun _ h => ct_X10_fits h) (fun x3 => ?_)
    refine r_if_ne 7 18 16 rfl rfl rfl (fun h4 => ?_) (fun h4 => ?_)
    · refine r_iconst 8 17 (v := 0) rfl rfl (by decide) ?_
      exact r_iret 9 rfl rfl rfl
    · refine r_iconst 10 19 (v := 0) rfl rfl (by decide) ?_
      refine r_istore 11 21 (L' := [(4, .inl 0), (0, .inr (.inr a0)), (1, .inl a1), (2, .inr (.inr a2)), (3, .inl a3)]) rfl rfl (by decide) rfl ?_
      have hj21 : ∀ (a4 : Int32), Sm u_X10_compare (2, 0, 0, t.length, zs t) (kIo t m) 21 [(0, .inr (.inr a0)), (1, .inl a1), (2, .inr (.inr a2)), (3, .inl a3), (4, .inl a4)] [] (t, m) (f_X10_compare_j21 t m a0 a1 a2 a3 a4) := by
        intro a4
        unfold f_X10_compare_j21
        have hj44 : ∀ (a4 : Int32), Sm u_X10_compare (2, 0, 0, t.length, zs t) (kIo t m) 44 [(0, .inr (.inr a0)), (1, .inl a1), (2, .inr (.inr a2)), (3, .inl a3), (4, .inl a4)] [] (t, m) (f_X10_compare_j44 t m a0 a1 a2 a3 a4) := by
          intro a4
          unfold f_X10_compare_j44
          refine r_aload_n 27 45 0 rfl rfl rfl rfl ?_
          refine r_iload_n 28 46 1 rfl rfl rfl rfl ?_
          refine r_iload 29 48 4 rfl rfl rfl ?_
          refine r_iadd 30 49 rfl rfl ?_
          refine r_gd (fun h5 => ?_)
          refine r_lald 31 50 rfl rfl h5 ?_
          refine r_aload_n 32 51 2 rfl rfl rfl rfl ?_
          refine r_iload_n 33 52 3 rfl rfl rfl rfl ?_
          refine r_iload 34 54 4 rfl rfl rfl ?_
          refine r_iadd 35 55 rfl rfl ?_
          refine r_gd (fun h6 => ?_)
          refine r_lald 36 56 rfl rfl h6 ?_
          refine r_lcmp 37 57 rfl rfl ?_
          refine r_if_ge 38 64 60 rfl rfl rfl (fun h7 => ?_) (fun h7 => ?_)
          · refine r_iconst 41 65 (v := 1) rfl rfl (by decide) ?_
            exact r_iret 42 rfl rfl rfl
          · refine r_iconst 39 61 (v := (-1)) rfl rfl (by decide) ?_
            refine r_goto 40 65 rfl rfl ?_
            exact r_iret 42 rfl rfl rfl
        have hj72 : Sm u_X10_compare (2, 0, 0, t.length, zs t) (kIo t m) 72 [] [] (t, m) (f_X10_compare_j72 t m) := by
          unfold f_X10_compare_j72
          refine r_iconst 45 73 (v := 0) rfl rfl (by decide) ?_
          exact r_iret 46 rfl rfl rfl
        refine r_lp (Lf := fun x : Int32 => [(0, .inr (.inr a0)), (1, .inl a1), (2, .inr (.inr a2)), (3, .inl a3), (4, .inl x)]) (Mf := fun x : Int32 => (t, m)) a4 ?_ FUEL
        rintro a4 κ21 hc21 he21
        refine r_eq (L' := [(0, .inr (.inr a0)), (1, .inl a1), (2, .inr (.inr a2)), (3, .inl a3), (4, .inl a4)]) (M' := (t, m)) rfl rfl ?_
        refine r_eqr (r' := f_X10_compare_l21 t m a0 a1 a2 a3 a4) rfl ?_
        unfold f_X10_compare_l21
        refine r_iload 12 23 4 rfl rfl rfl ?_
        refine r_bipush 13 25 (v := 8) rfl rfl (by decide) ?_
        refine r_icmp_ge 14 72 28 rfl rfl rfl (fun h8 => ?_) (fun h8 => ?_)
        · refine r_leaf (r2 := f_X10_compare_j72 t m) (he21 _) ?_
          exact r_sub [] rfl (hj72)
        · refine r_aload_n 15 29 0 rfl rfl rfl rfl ?_
          refine r_iload_n 16 30 1 rfl rfl rfl rfl ?_
          refine r_iload 17 32 4 rfl rfl rfl ?_
          refine r_iadd 18 33 rfl rfl ?_
          refine r_gd (fun h9 => ?_)
          refine r_lald 19 34 rfl rfl h9 ?_
          refine r_aload_n 20 35 2 rfl rfl rfl rfl ?_
          refine r_iload_n 21 36 3 rfl rfl rfl rfl ?_
          refine r_iload 22 38 4 rfl rfl rfl ?_
          refine r_iadd 23 39 rfl rfl ?_
          refine r_gd (fun h10 => ?_)
          refine r_lald 24 40 rfl rfl h10 ?_
          refine r_lcmp 25 41 rfl rfl ?_
          refine r_if_eq 26 66 44 rfl rfl rfl (fun h11 => ?_) (fun h11 => ?_)
          · refine r_iinc 43 69 4 (L' := [(4, .inl (a4 + 1)), (0, .inr (.inr a0)), (1, .inl a1), (2, .inr (.inr a2)), (3, .inl a3)]) rfl rfl rfl (by decide) rfl ?_
            refine r_ltV (fun x12 => ?_)
            refine r_goto 44 21 rfl rfl ?_
            exact r_sub [1, 2, 3, 4, 0] rfl (hc21 x12)
          · refine r_leaf (r2 := f_X10_compare_j44 t m a0 a1 a2 a3 a4) (he21 _) ?_
            exact hj44 a4
      exact r_sub [1, 2, 3, 4, 0] rfl (hj21 0)
theorem ct_X10_compare {t : List Sh} {m : Mi} {a0 : Nat} {a1 : Int32} {a2 : Nat} {a3 : Int32} {v : Int32}  (h : f_X10_compare t m a0 a1 a2 a3 = some v) : Ct u_X10_compare 2 0 0 [.inr (.inr a0), .inl a1, .inr (.inr a2), .inl a3] (t, m) (some (.inl v), (t, m)) :=
  ct_of (by decide) tk_X10_compare (Nat.le_of_ble_eq_true rfl) (sm_X10_compare t m a0 a1 a2 a3) (by rw [h]; rfl) (Nat.le_refl _) (Nat.le_refl _)
def tb_X10_signAt : Tb := [(0, (.aload_n 0, 1)), (1, (.getfield 19, 3)), (4, (.ifnull 24, 3)), (7, (.iload_n 1, 1)), (8, (.ifCond .lt 20, 3)), (11, (.iload_n 1, 1)), (12, (.aload_n 0, 1)), (13, (.getfield 26, 3)), (16, (.if_icmp .ge 12, 3)), (19, (.iload_n 1, 1)), (20, (.aload_n 0, 1)), (21, (.getfield 19, 3)), (24, (.arraylength, 1)), (25, (.if_icmp .lt 5, 3)), (28, (.iconst (-1), 1)), (29, (.ireturn, 1)), (30, (.aload_n 0, 1)), (31, (.getfield 19, 3)), (34, (.iload_n 1, 1)), (35, (.baload, 1)), (36, (.sipush 255, 3)), (39, (.iand, 1)), (40, (.ireturn, 1))]
def u_X10_signAt : Fx := (yX10_signAt, (cX10_signAt, (2, ((some .int), tb_X10_signAt))))
theorem tk_X10_signAt : ∀ q ∈ u_X10_signAt.2.2.2.2, decode u_X10_signAt.2.1 q.1 = .ok q.2 := by decide +kernel
theorem mc_X10_signAt : MC u_X10_signAt 1 := ⟨tbm 711 (by decide +kernel) rfl, tbm 117 (by decide +kernel) rfl, ⟨by decide, by decide, by decide +kernel⟩, by decide⟩
theorem in_X10_signAt : Cond.instanceMethod u_X10_signAt.1 ∈ TB ∧ Cond.selects u_X10_signAt.1.cls u_X10_signAt.1 u_X10_signAt.1 ∈ TB := ⟨tbm 710 (by decide +kernel) rfl, tbm 12 (by decide +kernel) rfl⟩
def f_X10_signAt (t : List Sh) (m : Mi) (a0 : Nat) (a1 : Int32) : Option (Int32) :=
  if (gr m a0 2) = 0 then
    some (-1)
  else
    if a1 < 0 then
      some (-1)
    else
      if (gi m a0 4) ≤ a1 then
        some (-1)
      else
        (if aa t (gr m a0 2) .byte = true then
        if a1 < (Int32.ofNat (ln t (gr m a0 2))) then
          (if ar t (gr m a0 2) .byte a1 = true then
          some ((gi m (gr m a0 2) (ix a1)) &&& 255)
          else none)
        else
          some (-1)
        else none)
set_option maxRecDepth 4000 in
set_option maxHeartbeats 2000000 in
theorem sm_X10_signAt (t : List Sh) (m : Mi) (a0 : Nat) (a1 : Int32) (h0 : sh t a0 = some (.inl 10)) : Sm u_X10_signAt (1, 0, 0, t.length, zs t) (kIo t m) 0 [(0, .inr (.inr a0)), (1, .inl a1)] [] (t, m) (f_X10_signAt t m a0 a1) := by
  unfold f_X10_signAt
  refine r_aload_n 0 1 0 rfl rfl rfl rfl ?_
  refine r_getR 1 4 rfl rfl fl_RX10_19 rfl h0 ?_
  refine r_ifnull 2 28 7 rfl rfl rfl (fun h1 => ?_) (fun h1 => ?_)
  · refine r_iconst 14 29 (v := (-1)) rfl rfl (by decide) ?_
    exact r_iret 15 rfl rfl rfl
  · refine r_iload_n 3 8 1 rfl rfl rfl rfl ?_
    refine r_if_lt 4 28 11 rfl rfl rfl (fun h2 => ?_) (fun h2 => ?_)
    · refine r_iconst 14 29 (v := (-1)) rfl rfl (by decide) ?_
      exact r_iret 15 rfl rfl rfl
    · refine r_iload_n 5 12 1 rfl rfl rfl rfl ?_
      refine r_aload_n 6 13 0 rfl rfl rfl rfl ?_
      refine r_getI 7 16 rfl rfl fl_RX10_26 rfl h0 ?_
      refine r_icmp_ge 8 28 19 rfl rfl rfl (fun h3 => ?_) (fun h3 => ?_)
      · refine r_iconst 14 29 (v := (-1)) rfl rfl (by decide) ?_
        exact r_iret 15 rfl rfl rfl
      · refine r_iload_n 9 20 1 rfl rfl rfl rfl ?_
        refine r_aload_n 10 21 0 rfl rfl rfl rfl ?_
        refine r_getR 11 24 rfl rfl fl_RX10_19 rfl h0 ?_
        refine r_gd (fun h4 => ?_)
        refine r_alen 12 25 2 rfl rfl (fun _ => rfl) h4 ?_
        refine r_icmp_lt 13 30 28 rfl rfl rfl (fun h5 => ?_) (fun h5 => ?_)
        · refine r_aload_n 16 31 0 rfl rfl rfl rfl ?_
          refine r_getR 17 34 rfl rfl fl_RX10_19 rfl h0 ?_
          refine r_iload_n 18 35 1 rfl rfl rfl rfl ?_
          refine r_gd (fun h6 => ?_)
          refine r_bald 19 36 rfl rfl h6 ?_
          refine r_sipush 20 39 (v := 255) rfl rfl (by decide) ?_
          refine r_iand 21 40 rfl rfl ?_
          exact r_iret 22 rfl rfl rfl
        · refine r_iconst 14 29 (v := (-1)) rfl rfl (by decide) ?_
          exact r_iret 15 rfl rfl rfl
theorem ct_X10_signAt {t : List Sh} {m : Mi} {a0 : Nat} {a1 : Int32} {v : Int32}  (h0 : sh t a0 = some (.inl 10)) (h : f_X10_signAt t m a0 a1 = some v) : Ct u_X10_signAt 1 0 0 [.inr (.inr a0), .inl a1] (t, m) (some (.inl v), (t, m)) :=
  ct_of (by decide) tk_X10_signAt (Nat.le_of_ble_eq_true rfl) (sm_X10_signAt t m a0 a1 h0) (by rw [h]; rfl) (Nat.le_refl _) (Nat.le_refl _)
def tb_J7_fill_d0a16 : Tb := [(0, (.iconst 0, 1)), (1, (.istore_n 3, 1)), (2, (.aload_n 0, 1)), (3, (.arraylength, 1)), (4, (.istore 4, 2)), (6, (.iload_n 3, 1)), (7, (.iload 4, 2)), (9, (.if_icmp .ge 13, 3)), (12, (.aload_n 0, 1)), (13, (.iload_n 3, 1)), (14, (.lload_n 1, 1)), (15, (.lastore, 1)), (16, (.iinc 3 1, 3)), (19, (.goto (-13), 3)), (22, (.return_, 1))]
def u_J7_fill_d0a16 : Fx := (yJ7_fill_d0a16, (cJ7_fill_d0a16, (5, (none, tb_J7_fill_d0a16))))
theorem tk_J7_fill_d0a16 : ∀ q ∈ u_J7_fill_d0a16.2.2.2.2, decode u_J7_fill_d0a16.2.1 q.1 = .ok q.2 := by decide +kernel
theorem mc_J7_fill_d0a16 : MC u_J7_fill_d0a16 2 := ⟨tbm 171 (by decide +kernel) rfl, tbm 118 (by decide +kernel) rfl, ⟨by decide, by decide, by decide +kernel⟩, by decide⟩
theorem st_J7_fill_d0a16 : Cond.static u_J7_fill_d0a16.1 ∈ TB := tbm 170 (by decide +kernel) rfl
def f_J7_fill_d0a16_j22 (t : List Sh) (m : Mi) : Option (Mi) :=
  some m
def f_J7_fill_d0a16_l6 (t : List Sh) (m : Mi) (a0 : Nat) (a1 : Int64) (a3 : Int32) (a4 : Int32) : Option ((Int32 × Mi) ⊕ ((Mi))) :=
  if a4 ≤ a3 then
    some (.inr m)
  else
    (if ar t a0 .long a3 = true then
    lt (sl m a0 (ix a3) a1) fun m5 =>
    lt (a3 + 1) fun x6 =>
    some (.inl (x6, m5))
    else none)
def f_J7_fill_d0a16_j6 (t : List Sh) (m : Mi) (a0 : Nat) (a1 : Int64) (a3 : Int32) (a4 : Int32) : Option (Mi) :=
  (lp (fun x : Int32 × Mi => f_J7_fill_d0a16_l6 t x.2 a0 a1 x.1 a4) FUEL (a3, m)).bind (fun y : Mi => f_J7_fill_d0a16_j22 t y)
def f_J7_fill_d0a16 (t : List Sh) (m : Mi) (a0 : Nat) (a1 : Int64) : Option (Mi) :=
  (if aa t a0 .long = true then
  lt (Int32.ofNat (ln t a0)) fun x2 =>
  f_J7_fill_d0a16_j6 t m a0 a1 0 x2
  else none)
set_option maxRecDepth 4000 in
set_option maxHeartbeats 2000000 in
theorem sm_J7_fill_d0a16 (t : List Sh) (m : Mi) (a0 : Nat) (a1 : Int64) : Sm u_J7_fill_d0a16 (1, 0, 0, t.length, zs t) (kV t) 0 [(0, .inr (.inr a0)), (1, .inr (.inl a1))] [] (t, m) (f_J7_fill_d0a16 t m a0 a1) := by
  unfold f_J7_fill_d0a16
  refine r_iconst 0 1 (v := 0) rfl rfl (by decide) ?_
  refine r_istore_n 1 2 (L' := [(3, .inl 0), (0, .inr (.inr a0)), (1, .inr (.inl a1))]) rfl rfl rfl (by decide) rfl ?_
  refine r_aload_n 2 3 1 rfl rfl rfl rfl ?_
  refine r_gd (fun h1 => ?_)
  refine r_alen 3 4 1 rfl rfl (fun _ => rfl) h1 ?_
  refine r_ltI (fun x2 => ?_)
  refine r_istore 4 6 (L' := [(4, .inl x2), (3, .inl 0), (0, .inr (.inr a0)), (1, .inr (.inl a1))]) rfl rfl (by decide) rfl ?_
  have hj6 : ∀ (m : Mi) (a3 : Int32) (a4 : Int32), Sm u_J7_fill_d0a16 (1, 0, 0, t.length, zs t) (kV t) 6 [(0, .inr (.inr a0)), (1, .inr (.inl a1)), (3, .inl a3), (4, .inl a4)] [] (t, m) (f_J7_fill_d0a16_j6 t m a0 a1 a3 a4) := by
    intro m a3 a4
    unfold f_J7_fill_d0a16_j6
    have hj22 : ∀ (m : Mi), Sm u_J7_fill_d0a16 (1, 0, 0, t.length, zs t) (kV t) 22 [] [] (t, m) (f_J7_fill_d0a16_j22 t m) := by
      intro m
      unfold f_J7_fill_d0a16_j22
      exact r_vret 14 rfl rfl rfl
    refine r_lp (Lf := fun x : Int32 × Mi => [(0, .inr (.inr a0)), (1, .inr (.inl a1)), (3, .inl (x.1)), (4, .inl a4)]) (Mf := fun x : Int32 × Mi => (t, x.2)) (a3, m) ?_ FUEL
    rintro ⟨a3, m⟩ κ6 hc6 he6
    refine r_eq (L' := [(0, .inr (.inr a0)), (1, .inr (.inl a1)), (3, .inl a3), (4, .inl a4)]) (M' := (t, m)) rfl rfl ?_
    refine r_eqr (r' := f_J7_fill_d0a16_l6 t m a0 a1 a3 a4) rfl ?_
    unfold f_J7_fill_d0a16_l6
    refine r_iload_n 5 7 2 rfl rfl rfl rfl ?_
    refine r_iload 6 9 3 rfl rfl rfl ?_
    refine r_icmp_ge 7 22 12 rfl rfl rfl (fun h3 => ?_) (fun h3 => ?_)
    · refine r_leaf (r2 := f_J7_fill_d0a16_j22 t m) (he6 _) ?_
      exact r_sub [] rfl (hj22 m)
    · refine r_aload_n 8 13 0 rfl rfl rfl rfl ?_
      refine r_iload_n 9 14 2 rfl rfl rfl rfl ?_
      refine r_lload_n 10 15 1 rfl rfl rfl rfl ?_
      refine r_gd (fun h4 => ?_)
      refine r_last 11 16 rfl rfl h4 ?_
      refine r_ltM (fun m5 => ?_)
      refine r_iinc 12 19 2 (L' := [(3, .inl (a3 + 1)), (0, .inr (.inr a0)), (1, .inr (.inl a1)), (4, .inl a4)]) rfl rfl rfl (by decide) rfl ?_
      refine r_ltV (fun x6 => ?_)
      refine r_goto 13 6 rfl rfl ?_
      exact r_sub [1, 2, 0, 3] rfl (hc6 (x6, m5))
  exact r_sub [2, 3, 1, 0] rfl (hj6 m 0 x2)
theorem ct_J7_fill_d0a16 {t : List Sh} {m : Mi} {a0 : Nat} {a1 : Int64} {m' : Mi}  (h : f_J7_fill_d0a16 t m a0 a1 = some m') : Ct u_J7_fill_d0a16 1 0 0 [.inr (.inr a0), .inr (.inl a1)] (t, m) (none, (t, m')) :=
  ct_of (by decide) tk_J7_fill_d0a16 (Nat.le_of_ble_eq_true rfl) (sm_J7_fill_d0a16 t m a0 a1) (by rw [h]; rfl) (Nat.le_refl _) (Nat.le_refl _)
def tb_X4_has : Tb := [(0, (.iconst 0, 1)), (1, (.istore_n 2, 1)), (2, (.iload_n 2, 1)), (3, (.aload_n 0, 1)), (4, (.getfield 21, 3)), (7, (.if_icmp .ge 45, 3)), (10, (.aload_n 0, 1)), (11, (.getfield 15, 3)), (14, (.iload_n 2, 1)), (15, (.bipush 8, 2)), (17, (.imul, 1)), (18, (.aload_n 1, 1)), (19, (.iconst 0, 1)), (20, (.invokestatic 43, 3)), (23, (.ifCond .gt 23, 3)), (26, (.aload_n 1, 1)), (27, (.iconst 0, 1)), (28, (.aload_n 0, 1)), (29, (.getfield 15, 3)), (32, (.iload_n 2, 1)), (33, (.iconst 1, 1)), (34, (.iadd, 1)), (35, (.bipush 8, 2)), (37, (.imul, 1)), (38, (.invokestatic 43, 3)), (41, (.ifCond .ge 5, 3)), (44, (.iconst 1, 1)), (45, (.ireturn, 1)), (46, (.iinc 2 2, 3)), (49, (.goto (-47), 3)), (52, (.iconst 0, 1)), (53, (.ireturn, 1))]
def u_X4_has : Fx := (yX4_has, (cX4_has, (3, ((some .boolean), tb_X4_has))))
theorem tk_X4_has : ∀ q ∈ u_X4_has.2.2.2.2, decode u_X4_has.2.1 q.1 = .ok q.2 := by decide +kernel
theorem mc_X4_has : MC u_X4_has 1 := ⟨tbm 952 (by decide +kernel) rfl, tbm 115 (by decide +kernel) rfl, ⟨by decide, by decide, by decide +kernel⟩, by decide⟩
theorem in_X4_has : Cond.instanceMethod u_X4_has.1 ∈ TB ∧ Cond.selects u_X4_has.1.cls u_X4_has.1 u_X4_has.1 ∈ TB := ⟨tbm 950 (by decide +kernel) rfl, tbm 951 (by decide +kernel) rfl⟩
def f_X4_has_j44 (t : List Sh) (m : Mi) : Option (Int32) :=
  some 1
def f_X4_has_j52 (t : List Sh) (m : Mi) : Option (Int32) :=
  some 0
def f_X4_has_l2 (t : List Sh) (m : Mi) (a0 : Nat) (a1 : Nat) (a2 : Int32) : Option ((Int32) ⊕ ((Unit) ⊕ (Unit))) :=
  if (gi m a0 1) ≤ a2 then
    some (.inr (.inl ()))
  else
    (f_X10_compare t m (gr m a0 0) (a2 * 8) a1 0).bind fun x2 =>
    if 0 < x2 then
      lt (a2 + 2) fun x4 =>
      some (.inl x4)
    else
      (f_X10_compare t m a1 0 (gr m a0 0) ((a2 + 1) * 8)).bind fun x5 =>
      if 0 ≤ x5 then
        lt (a2 + 2) fun x7 =>
        some (.inl x7)
      else
        some (.inr (.inr ()))
def f_X4_has_j2 (t : List Sh) (m : Mi) (a0 : Nat) (a1 : Nat) (a2 : Int32) : Option (Int32) :=
  (lp (fun x : Int32 => f_X4_has_l2 t m a0 a1 x) FUEL a2).bind (Sum.elim (fun y : Unit => f_X4_has_j52 t m) (fun y : Unit => f_X4_has_j44 t m))
def f_X4_has (t : List Sh) (m : Mi) (a0 : Nat) (a1 : Nat) : Option (Int32) :=
  f_X4_has_j2 t m a0 a1 0
set_option maxRecDepth 4000 in
set_option maxHeartbeats 2000000 in
theorem sm_X4_has (t : List Sh) (m : Mi) (a0 : Nat) (a1 : Nat) (h0 : sh t a0 = some (.inl 4)) : Sm u_X4_has (3, 0, 0, t.length, zs t) (kIo t m) 0 [(0, .inr (.inr a0)), (1, .inr (.inr a1))] [] (t, m) (f_X4_has t m a0 a1) := by
  unfold f_X4_has
  refine r_iconst 0 1 (v := 0) rfl rfl (by decide) ?_
  refine r_istore_n 1 2 (L' := [(2, .inl 0), (0, .inr (.inr a0)), (1, .inr (.inr a1))]) rfl rfl rfl (by decide) rfl ?_
  have hj2 : ∀ (a2 : Int32), Sm u_X4_has (3, 0, 0, t.length, zs t) (kIo t m) 2 [(0, .inr (.inr a0)), (1, .inr (.inr a1)), (2, .inl a2)] [] (t, m) (f_X4_has_j2 t m a0 a1 a2) := by
    intro a2
    unfold f_X4_has_j2
    have hj44 : Sm u_X4_has (3, 0, 0, t.length, zs t) (kIo t m) 44 [] [] (t, m) (f_X4_has_j44 t m) := by
      unfold f_X4_has_j44
      refine r_iconst 26 45 (v := 1) rfl rfl (by decide) ?_
      exact r_zret 27 rfl rfl (by decide) rfl
    have hj52 : Sm u_X4_has (3, 0, 0, t.length, zs t) (kIo t m) 52 [] [] (t, m) (f_X4_has_j52 t m) := by
      unfold f_X4_has_j52
      refine r_iconst 30 53 (v := 0) rfl rfl (by decide) ?_
      exact r_zret 31 rfl rfl (by decide) rfl
    refine r_lp (Lf := fun x : Int32 => [(0, .inr (.inr a0)), (1, .inr (.inr a1)), (2, .inl x)]) (Mf := fun x : Int32 => (t, m)) a2 ?_ FUEL
    rintro a2 κ2 hc2 he2
    refine r_eq (L' := [(0, .inr (.inr a0)), (1, .inr (.inr a1)), (2, .inl a2)]) (M' := (t, m)) rfl rfl ?_
    refine r_eqr (r' := f_X4_has_l2 t m a0 a1 a2) rfl ?_
    unfold f_X4_has_l2
    refine r_iload_n 2 3 2 rfl rfl rfl rfl ?_
    refine r_aload_n 3 4 0 rfl rfl rfl rfl ?_
    refine r_getI 4 7 rfl rfl fl_RX4_21 rfl h0 ?_
    refine r_icmp_ge 5 52 10 rfl rfl rfl (fun h1 => ?_) (fun h1 => ?_)
    · refine r_leaf (r2 := f_X4_has_j52 t m) (he2 _) ?_
      exact r_sub [] rfl (hj52)
    · refine r_aload_n 6 11 0 rfl rfl rfl rfl ?_
      refine r_getR 7 14 rfl rfl fl_RX4_15 rfl h0 ?_
      refine r_iload_n 8 15 2 rfl rfl rfl rfl ?_
      refine r_bipush 9 17 (v := 8) rfl rfl (by decide) ?_
      refine r_imul 10 18 rfl rfl ?_
      refine r_aload_n 11 19 1 rfl rfl rfl rfl ?_
      refine r_iconst 12 20 (v := 0) rfl rfl (by decide) ?_
      refine r_SIo 13 23 (a := 0) (cn := 0) (st := []) (av := [.inr (.inr (gr m a0 0)), .inl (a2 * 8), .inr (.inr a1), .inl 0]) (μ' := u_X10_compare) (d := 2) rfl rfl mc_X10_compare st_X10_compare lk_RX4_43 (Nat.le_of_ble_eq_true rfl) rfl (Nat.le_of_ble_eq_true rfl) (fun _ h => ct_X10_compare h) (fun x2 => ?_)
      refine r_if_gt 14 46 26 rfl rfl rfl (fun h3 => ?_) (fun h3 => ?_)
      · refine r_iinc 28 49 2 (L' := [(2, .inl (a2 + 2)), (0, .inr (.inr a0)), (1, .inr (.inr a1))]) rfl rfl rfl (by decide) rfl ?_
        refine r_ltV (fun x4 => ?_)
        refine r_goto 29 2 rfl rfl ?_
        exact r_sub [1, 2, 0] rfl (hc2 x4)
      · refine r_aload_n 15 27 1 rfl rfl rfl rfl ?_
        refine r_iconst 16 28 (v := 0) rfl rfl (by decide) ?_
        refine r_aload_n 17 29 0 rfl rfl rfl rfl ?_
        refine r_getR 18 32 rfl rfl fl_RX4_15 rfl h0 ?_
        refine r_iload_n 19 33 2 rfl rfl rfl rfl ?_
        refine r_iconst 20 34 (v := 1) rfl rfl (by decide) ?_
        refine r_iadd 21 35 rfl rfl ?_
        refine r_bipush 22 37 (v := 8) rfl rfl (by decide) ?_
        refine r_imul 23 38 rfl rfl ?_
        refine r_SIo 24 41 (a := 0) (cn := 0) (st := []) (av := [.inr (.inr a1), .inl 0, .inr (.inr (gr m a0 0)), .inl ((a2 + 1) * 8)]) (μ' := u_X10_compare) (d := 2) rfl rfl mc_X10_compare st_X10_compare lk_RX4_43 (Nat.le_of_ble_eq_true rfl) rfl (Nat.le_of_ble_eq_true rfl) (fun _ h => ct_X10_compare h) (fun x5 => ?_)
        refine r_if_ge 25 46 44 rfl rfl rfl (fun h6 => ?_) (fun h6 => ?_)
        · refine r_iinc 28 49 2 (L' := [(2, .inl (a2 + 2)), (0, .inr (.inr a0)), (1, .inr (.inr a1))]) rfl rfl rfl (by decide) rfl ?_
          refine r_ltV (fun x7 => ?_)
          refine r_goto 29 2 rfl rfl ?_
          exact r_sub [1, 2, 0] rfl (hc2 x7)
        · refine r_leaf (r2 := f_X4_has_j44 t m) (he2 _) ?_
          exact r_sub [] rfl (hj44)
  exact r_sub [1, 2, 0] rfl (hj2 0)
theorem ct_X4_has {t : List Sh} {m : Mi} {a0 : Nat} {a1 : Nat} {v : Int32}  (h0 : sh t a0 = some (.inl 4)) (h : f_X4_has t m a0 a1 = some v) : Ct u_X4_has 3 0 0 [.inr (.inr a0), .inr (.inr a1)] (t, m) (some (.inl v), (t, m)) :=
  ct_of (by decide) tk_X4_has (Nat.le_of_ble_eq_true rfl) (sm_X4_has t m a0 a1 h0) (by rw [h]; rfl) (Nat.le_refl _) (Nat.le_refl _)
