def tb_X10_fits : Tb := [(0, (.iload_n 1, 1)), (1, (.ifCond .lt 16, 3)), (4, (.iload_n 1, 1)), (5, (.aload_n 0, 1)), (6, (.arraylength, 1)), (7, (.bipush 8, 2)), (9, (.isub, 1)), (10, (.if_icmp .gt 7, 3)), (13, (.iconst 1, 1)), (14, (.goto 4, 3)), (17, (.iconst 0, 1)), (18, (.ireturn, 1))]
def u_X10_fits : Fx := (yX10_fits, (cX10_fits, (2, ((some .boolean), tb_X10_fits))))
theorem tk_X10_fits : ∀ q ∈ u_X10_fits.2.2.2.2, decode u_X10_fits.2.1 q.1 = .ok q.2 := by decide +kernel
theorem mc_X10_fits : MC u_X10_fits 2 := ⟨tbm 789 (by decide +kernel) rfl, tbm 117 (by decide +kernel) rfl, ⟨by decide, by decide, by decide +kernel⟩, by decide⟩
theorem st_X10_fits : Cond.static u_X10_fits.1 ∈ TB := tbm 788 (by decide +kernel) rfl
def f_X10_fits (t : List Sh) (m : Mi) (a0 : Nat) (a1 : Int32) : Option (Int32) :=
  if a1 < 0 then
    some 0
  else
    (if aa t a0 .long = true then
    if ((Int32.ofNat (ln t a0)) - 8) < a1 then
      some 0
    else
      some 1
    else none)
set_option maxRecDepth 4000 in
set_option maxHeartbeats 4000000 in
theorem sm_X10_fits (t : List Sh) (m : Mi) (a0 : Nat) (a1 : Int32) : Sm u_X10_fits (1, 0, 0, t.length, zs t) (kIo t m) 0 [(0, .inr (.inr a0)), (1, .inl a1)] [] (t, m) (f_X10_fits t m a0 a1) := by
  unfold f_X10_fits
  refine r_iload_n 0 1 1 rfl rfl rfl rfl ?_
  refine r_if_lt 1 17 4 rfl rfl rfl (fun h1 => ?_) (fun h1 => ?_)
  · refine r_iconst 10 18 (v := 0) rfl rfl (by decide) ?_
    exact r_zret 11 rfl rfl (by decide) rfl
  · refine r_iload_n 2 5 1 rfl rfl rfl rfl ?_
    refine r_aload_n 3 6 0 rfl rfl rfl rfl ?_
    refine r_gd (fun h2 => ?_)
    refine r_alen 4 7 1 rfl rfl (fun _ => rfl) h2 ?_
    refine r_bipush 5 9 (v := 8) rfl rfl (by decide) ?_
    refine r_isub 6 10 rfl rfl ?_
    refine r_icmp_gt 7 17 13 rfl rfl rfl (fun h3 => ?_) (fun h3 => ?_)
    · refine r_iconst 10 18 (v := 0) rfl rfl (by decide) ?_
      exact r_zret 11 rfl rfl (by decide) rfl
    · refine r_iconst 8 14 (v := 1) rfl rfl (by decide) ?_
      refine r_goto 9 18 rfl rfl ?_
      exact r_zret 11 rfl rfl (by decide) rfl
theorem ct_X10_fits {t : List Sh} {m : Mi} {a0 : Nat} {a1 : Int32} {v : Int32}  (h : f_X10_fits t m a0 a1 = some v) : Ct u_X10_fits 1 0 0 [.inr (.inr a0), .inl a1] (t, m) (some (.inl v), (t, m)) :=
  ct_of (by decide) tk_X10_fits (Nat.le_of_ble_eq_true rfl) (sm_X10_fits t m a0 a1) (by rw [h]; rfl) (Nat.le_refl _) (Nat.le_refl _)
theorem lk_RX10_5 : Cond.methodLink RX10 5 Lib.objectInit ∈ TB := tbm 181 (by decide +kernel) rfl
theorem wd_161 : Cond.arrayClass .long ∈ TB := tbm 161 (by decide +kernel) rfl
theorem fl_RX10_11 : FL RX10 11 10 0 true := ⟨RX10, TX10, 5, rfl, inW10, tyX10_ok, nmX10, by decide, rfl, rfl, rfl, tbm 182 (by decide +kernel) rfl⟩
theorem fl_RX10_15 : FL RX10 15 10 1 false := ⟨RX10, TX10, 5, rfl, inW10, tyX10_ok, nmX10, by decide, rfl, rfl, rfl, tbm 186 (by decide +kernel) rfl⟩
theorem fl_RX10_19 : FL RX10 19 10 2 false := ⟨RX10, TX10, 5, rfl, inW10, tyX10_ok, nmX10, by decide, rfl, rfl, rfl, tbm 187 (by decide +kernel) rfl⟩
theorem fl_RX10_23 : FL RX10 23 10 3 false := ⟨RX10, TX10, 5, rfl, inW10, tyX10_ok, nmX10, by decide, rfl, rfl, rfl, tbm 188 (by decide +kernel) rfl⟩
theorem fl_RX10_26 : FL RX10 26 10 4 false := ⟨RX10, TX10, 5, rfl, inW10, tyX10_ok, nmX10, by decide, rfl, rfl, rfl, tbm 189 (by decide +kernel) rfl⟩
def tb_X10_init : Tb := [(0, (.aload_n 0, 1)), (1, (.invokespecial 5, 3)), (4, (.aload_n 0, 1)), (5, (.bipush 8, 2)), (7, (.newarray .long, 2)), (9, (.putfield 11, 3)), (12, (.aload_n 0, 1)), (13, (.iconst 0, 1)), (14, (.putfield 15, 3)), (17, (.aload_n 0, 1)), (18, (.aconst_null, 1)), (19, (.putfield 19, 3)), (22, (.aload_n 0, 1)), (23, (.iconst 0, 1)), (24, (.putfield 23, 3)), (27, (.aload_n 0, 1)), (28, (.iconst 0, 1)), (29, (.putfield 26, 3)), (32, (.return_, 1))]
def u_X10_init : Fx := (yX10_init, (cX10_init, (1, (none, tb_X10_init))))
theorem tk_X10_init : ∀ q ∈ u_X10_init.2.2.2.2, decode u_X10_init.2.1 q.1 = .ok q.2 := by decide +kernel
theorem mc_X10_init : MC u_X10_init 0 := ⟨tbm 180 (by decide +kernel) rfl, tbm 117 (by decide +kernel) rfl, ⟨by decide, by decide, by decide +kernel⟩, by decide⟩
theorem ini_X10_init : Cond.instanceMethod u_X10_init.1 ∈ TB := tbm 179 (by decide +kernel) rfl
set_option maxRecDepth 20000 in
def f_X10_init (t : List Sh) (m : Mi) (a0 : Nat) : Option (Mm) :=
  (if t.length < 1000000 then
  lt (t.length + 1) fun r2 =>
  lt (t ++ [.inr (.long, ix 8)]) fun t3 =>
  lt (zr m (t.length + 1)) fun m4 =>
  (if ob t3 a0 10 = true then
  lt (sr m4 a0 0 r2) fun m6 =>
  lt (si m6 a0 1 0) fun m7 =>
  lt (sr m7 a0 2 0) fun m8 =>
  lt (si m8 a0 3 0) fun m9 =>
  lt (si m9 a0 4 0) fun m10 =>
  some (t3, m10)
  else none)
  else none)
set_option maxRecDepth 40000 in
set_option maxHeartbeats 4000000 in
theorem sm_X10_init (e2 : Nat × (Nat × (Nat × Nat))) (t : List Sh) (m : Mi) (a0 : Nat) (h0 : sh t a0 = some (.inl 10)) : Sm u_X10_init (1, e2) kA 0 [(0, .inr (.inr a0))] [] (t, m) (f_X10_init t m a0) := by
  unfold f_X10_init
  refine r_aload_n 0 1 0 rfl rfl rfl rfl ?_
  refine r_objI 1 4 rfl rfl lk_RX10_5 (Nat.le_of_ble_eq_true rfl) (Nat.le_of_ble_eq_true rfl) h0 ?_
  refine r_aload_n 2 5 0 rfl rfl rfl rfl ?_
  refine r_bipush 3 7 (v := 8) rfl rfl (by decide) ?_
  refine r_gd (fun h1 => ?_)
  refine r_newa 4 9 (ty := .long) (q := 1) rfl rfl h1 rfl (by decide) (fun _ => rfl) wd_161 (by decide) (by decide) ?_
  refine r_ltR (fun r2 => ?_)
  refine r_ltT (fun t3 => ?_)
  refine r_ltM (fun m4 => ?_)
  refine r_gd (fun h5 => ?_)
  refine r_putR 5 12 rfl rfl fl_RX10_11 (fun _ => ⟨rfl, rfl⟩) rfl (ob_sh h5) ?_
  refine r_ltM (fun m6 => ?_)
  refine r_aload_n 6 13 0 rfl rfl rfl rfl ?_
  refine r_iconst 7 14 (v := 0) rfl rfl (by decide) ?_
  refine r_putI 8 17 rfl rfl fl_RX10_15 (fun h => by cases h) (Or.inl rfl) (ob_sh h5) ?_
  refine r_ltM (fun m7 => ?_)
  refine r_aload_n 9 18 0 rfl rfl rfl rfl ?_
  refine r_null 10 19 rfl rfl ?_
  refine r_putR 11 22 rfl rfl fl_RX10_19 (fun h => by cases h) rfl (ob_sh h5) ?_
  refine r_ltM (fun m8 => ?_)
  refine r_aload_n 12 23 0 rfl rfl rfl rfl ?_
  refine r_iconst 13 24 (v := 0) rfl rfl (by decide) ?_
  refine r_putI 14 27 rfl rfl fl_RX10_23 (fun h => by cases h) (Or.inl rfl) (ob_sh h5) ?_
  refine r_ltM (fun m9 => ?_)
  refine r_aload_n 15 28 0 rfl rfl rfl rfl ?_
  refine r_iconst 16 29 (v := 0) rfl rfl (by decide) ?_
  refine r_putI 17 32 rfl rfl fl_RX10_26 (fun h => by cases h) (Or.inl rfl) (ob_sh h5) ?_
  refine r_ltM (fun m10 => ?_)
  exact r_vret 18 rfl rfl rfl
theorem mn_X10_init {t : List Sh} {m : Mi} {a0 : Nat} {q : Mm} (h0 : sh t a0 = some (.inl 10)) (h : f_X10_init t m a0 = some q) : t.length ≤ q.1.length ∧ zs t ≤ zs q.1 := ((sm_X10_init (0, 0, 0, 0) t m a0 h0) (none, q) (by rw [h]; rfl)).1
theorem ct_X10_init {t : List Sh} {m : Mi} {a0 : Nat} {q : Mm} (h0 : sh t a0 = some (.inl 10)) (h : f_X10_init t m a0 = some q) : Ct u_X10_init 1 (q.1.length - t.length) (zs q.1 - zs t) [.inr (.inr a0)] (t, m) (none, q) := by
  have hm := mn_X10_init h0 h
  exact ct_of (by decide) tk_X10_init (Nat.le_of_ble_eq_true rfl) (sm_X10_init (q.1.length - t.length, zs q.1 - zs t, t.length, zs t) t m a0 h0) (by rw [h]; rfl) (by show q.1.length ≤ t.length + (q.1.length - t.length); omega) (by show zs q.1 ≤ zs t + (zs q.1 - zs t); omega)
def tb_X10_isDigit : Tb := [(0, (.iload_n 0, 1)), (1, (.bipush 48, 2)), (3, (.if_icmp .lt 13, 3)), (6, (.iload_n 0, 1)), (7, (.bipush 57, 2)), (9, (.if_icmp .gt 7, 3)), (12, (.iconst 1, 1)), (13, (.goto 4, 3)), (16, (.iconst 0, 1)), (17, (.ireturn, 1))]
def u_X10_isDigit : Fx := (yX10_isDigit, (cX10_isDigit, (1, ((some .boolean), tb_X10_isDigit))))
theorem tk_X10_isDigit : ∀ q ∈ u_X10_isDigit.2.2.2.2, decode u_X10_isDigit.2.1 q.1 = .ok q.2 := by decide +kernel
theorem mc_X10_isDigit : MC u_X10_isDigit 1 := ⟨tbm 613 (by decide +kernel) rfl, tbm 117 (by decide +kernel) rfl, ⟨by decide, by decide, by decide +kernel⟩, by decide⟩
theorem st_X10_isDigit : Cond.static u_X10_isDigit.1 ∈ TB := tbm 612 (by decide +kernel) rfl
def f_X10_isDigit (a0 : Int32) : Option (Int32) :=
  if a0 < 48 then
    some 0
  else
    if 57 < a0 then
      some 0
    else
      some 1
set_option maxRecDepth 4000 in
set_option maxHeartbeats 4000000 in
theorem sm_X10_isDigit (t : List Sh) (m : Mi) (a0 : Int32) : Sm u_X10_isDigit (1, 0, 0, t.length, zs t) (kIo t m) 0 [(0, .inl a0)] [] (t, m) (f_X10_isDigit a0) := by
  unfold f_X10_isDigit
  refine r_iload_n 0 1 0 rfl rfl rfl rfl ?_
  refine r_bipush 1 3 (v := 48) rfl rfl (by decide) ?_
  refine r_icmp_lt 2 16 6 rfl rfl rfl (fun h1 => ?_) (fun h1 => ?_)
  · refine r_iconst 8 17 (v := 0) rfl rfl (by decide) ?_
    exact r_zret 9 rfl rfl (by decide) rfl
  · refine r_iload_n 3 7 0 rfl rfl rfl rfl ?_
    refine r_bipush 4 9 (v := 57) rfl rfl (by decide) ?_
    refine r_icmp_gt 5 16 12 rfl rfl rfl (fun h2 => ?_) (fun h2 => ?_)
    · refine r_iconst 8 17 (v := 0) rfl rfl (by decide) ?_
      exact r_zret 9 rfl rfl (by decide) rfl
    · refine r_iconst 6 13 (v := 1) rfl rfl (by decide) ?_
      refine r_goto 7 17 rfl rfl ?_
      exact r_zret 9 rfl rfl (by decide) rfl
theorem ct_X10_isDigit {t : List Sh} {m : Mi} {a0 : Int32} {v : Int32}  (h : f_X10_isDigit a0 = some v) : Ct u_X10_isDigit 1 0 0 [.inl a0] (t, m) (some (.inl v), (t, m)) :=
  ct_of (by decide) tk_X10_isDigit (Nat.le_of_ble_eq_true rfl) (sm_X10_isDigit t m a0) (by rw [h]; rfl) (Nat.le_refl _) (Nat.le_refl _)
def tb_X10_isIdentifierSign : Tb := [(0, (.iload_n 0, 1)), (1, (.bipush 97, 2)), (3, (.if_icmp .lt 9, 3)), (6, (.iload_n 0, 1)), (7, (.bipush 122, 2)), (9, (.if_icmp .le 33, 3)), (12, (.iload_n 0, 1)), (13, (.bipush 65, 2)), (15, (.if_icmp .lt 9, 3)), (18, (.iload_n 0, 1)), (19, (.bipush 90, 2)), (21, (.if_icmp .le 21, 3)), (24, (.iload_n 0, 1)), (25, (.bipush 48, 2)), (27, (.if_icmp .lt 9, 3)), (30, (.iload_n 0, 1)), (31, (.bipush 57, 2)), (33, (.if_icmp .le 9, 3)), (36, (.iload_n 0, 1)), (37, (.bipush 45, 2)), (39, (.if_icmp .ne 7, 3)), (42, (.iconst 1, 1)), (43, (.goto 4, 3)), (46, (.iconst 0, 1)), (47, (.ireturn, 1))]
def u_X10_isIdentifierSign : Fx := (yX10_isIdentifierSign, (cX10_isIdentifierSign, (1, ((some .boolean), tb_X10_isIdentifierSign))))
theorem tk_X10_isIdentifierSign : ∀ q ∈ u_X10_isIdentifierSign.2.2.2.2, decode u_X10_isIdentifierSign.2.1 q.1 = .ok q.2 := by decide +kernel
theorem mc_X10_isIdentifierSign : MC u_X10_isIdentifierSign 1 := ⟨tbm 698 (by decide +kernel) rfl, tbm 117 (by decide +kernel) rfl, ⟨by decide, by decide, by decide +kernel⟩, by decide⟩
theorem st_X10_isIdentifierSign : Cond.static u_X10_isIdentifierSign.1 ∈ TB := tbm 697 (by decide +kernel) rfl
def f_X10_isIdentifierSign_j36 (a0 : Int32) : Option (Int32) :=
  if a0 = 45 then
    some 1
  else
    some 0
def f_X10_isIdentifierSign_j24 (a0 : Int32) : Option (Int32) :=
  if a0 < 48 then
    f_X10_isIdentifierSign_j36 a0
  else
    if a0 ≤ 57 then
      some 1
    else
      f_X10_isIdentifierSign_j36 a0
def f_X10_isIdentifierSign_j12 (a0 : Int32) : Option (Int32) :=
  if a0 < 65 then
    f_X10_isIdentifierSign_j24 a0
  else
    if a0 ≤ 90 then
      some 1
    else
      f_X10_isIdentifierSign_j24 a0
def f_X10_isIdentifierSign (a0 : Int32) : Option (Int32) :=
  if a0 < 97 then
    f_X10_isIdentifierSign_j12 a0
  else
    if a0 ≤ 122 then
      some 1
    else
      f_X10_isIdentifierSign_j12 a0
set_option maxRecDepth 4000 in
set_option maxHeartbeats 4000000 in
theorem sm_X10_isIdentifierSign (t : List Sh) (m : Mi) (a0 : Int32) : Sm u_X10_isIdentifierSign (1, 0, 0, t.length, zs t) (kIo t m) 0 [(0, .inl a0)] [] (t, m) (f_X10_isIdentifierSign a0) := by
  unfold f_X10_isIdentifierSign
  refine r_iload_n 0 1 0 rfl rfl rfl rfl ?_
  refine r_bipush 1 3 (v := 97) rfl rfl (by decide) ?_
  have hj12 : Sm u_X10_isIdentifierSign (1, 0, 0, t.length, zs t) (kIo t m) 12 [(0, .inl a0)] [] (t, m) (f_X10_isIdentifierSign_j12 a0) := by
    unfold f_X10_isIdentifierSign_j12
    refine r_iload_n 6 13 0 rfl rfl rfl rfl ?_
    refine r_bipush 7 15 (v := 65) rfl rfl (by decide) ?_
    have hj24 : Sm u_X10_isIdentifierSign (1, 0, 0, t.length, zs t) (kIo t m) 24 [(0, .inl a0)] [] (t, m) (f_X10_isIdentifierSign_j24 a0) := by
      unfold f_X10_isIdentifierSign_j24
      refine r_iload_n 12 25 0 rfl rfl rfl rfl ?_
      refine r_bipush 13 27 (v := 48) rfl rfl (by decide) ?_
      have hj36 : Sm u_X10_isIdentifierSign (1, 0, 0, t.length, zs t) (kIo t m) 36 [(0, .inl a0)] [] (t, m) (f_X10_isIdentifierSign_j36 a0) := by
        unfold f_X10_isIdentifierSign_j36
        refine r_iload_n 18 37 0 rfl rfl rfl rfl ?_
        refine r_bipush 19 39 (v := 45) rfl rfl (by decide) ?_
        refine r_icmp_ne 20 46 42 rfl rfl rfl (fun h1 => ?_) (fun h1 => ?_)
        · refine r_iconst 21 43 (v := 1) rfl rfl (by decide) ?_
          refine r_goto 22 47 rfl rfl ?_
          exact r_zret 24 rfl rfl (by decide) rfl
        · refine r_iconst 23 47 (v := 0) rfl rfl (by decide) ?_
          exact r_zret 24 rfl rfl (by decide) rfl
      refine r_icmp_lt 14 36 30 rfl rfl rfl (fun h2 => ?_) (fun h2 => ?_)
      · exact hj36
      · refine r_iload_n 15 31 0 rfl rfl rfl rfl ?_
        refine r_bipush 16 33 (v := 57) rfl rfl (by decide) ?_
        refine r_icmp_le 17 42 36 rfl rfl rfl (fun h3 => ?_) (fun h3 => ?_)
        · refine r_iconst 21 43 (v := 1) rfl rfl (by decide) ?_
          refine r_goto 22 47 rfl rfl ?_
          exact r_zret 24 rfl rfl (by decide) rfl
        · exact hj36
    refine r_icmp_lt 8 24 18 rfl rfl rfl (fun h4 => ?_) (fun h4 => ?_)
    · exact hj24
    · refine r_iload_n 9 19 0 rfl rfl rfl rfl ?_
      refine r_bipush 10 21 (v := 90) rfl rfl (by decide) ?_
      refine r_icmp_le 11 42 24 rfl rfl rfl (fun h5 => ?_) (fun h5 => ?_)
      · refine r_iconst 21 43 (v := 1) rfl rfl (by decide) ?_
        refine r_goto 22 47 rfl rfl ?_
        exact r_zret 24 rfl rfl (by decide) rfl
      · exact hj24
  refine r_icmp_lt 2 12 6 rfl rfl rfl (fun h6 => ?_) (fun h6 => ?_)
  · exact hj12
  · refine r_iload_n 3 7 0 rfl rfl rfl rfl ?_
    refine r_bipush 4 9 (v := 122) rfl rfl (by decide) ?_
    refine r_icmp_le 5 42 12 rfl rfl rfl (fun h7 => ?_) (fun h7 => ?_)
    · refine r_iconst 21 43 (v := 1) rfl rfl (by decide) ?_
      refine r_goto 22 47 rfl rfl ?_
      exact r_zret 24 rfl rfl (by decide) rfl
    · exact hj12
theorem ct_X10_isIdentifierSign {t : List Sh} {m : Mi} {a0 : Int32} {v : Int32}  (h : f_X10_isIdentifierSign a0 = some v) : Ct u_X10_isIdentifierSign 1 0 0 [.inl a0] (t, m) (some (.inl v), (t, m)) :=
  ct_of (by decide) tk_X10_isIdentifierSign (Nat.le_of_ble_eq_true rfl) (sm_X10_isIdentifierSign t m a0) (by rw [h]; rfl) (Nat.le_refl _) (Nat.le_refl _)
def tb_X10_setIdentifier : Tb := [(0, (.iconst 3, 1)), (1, (.istore_n 3, 1)), (2, (.iload_n 3, 1)), (3, (.bipush 8, 2)), (5, (.if_icmp .ge 28, 3)), (8, (.iload_n 3, 1)), (9, (.aload_n 0, 1)), (10, (.arraylength, 1)), (11, (.if_icmp .ge 22, 3)), (14, (.aload_n 0, 1)), (15, (.iload_n 3, 1)), (16, (.iload_n 3, 1)), (17, (.iconst 3, 1)), (18, (.if_icmp .ne 7, 3)), (21, (.lload_n 1, 1)), (22, (.goto 4, 3)), (25, (.lconst 0, 1)), (26, (.lastore, 1)), (27, (.iinc 3 1, 3)), (30, (.goto (-28), 3)), (33, (.return_, 1))]
def u_X10_setIdentifier : Fx := (yX10_setIdentifier, (cX10_setIdentifier, (4, (none, tb_X10_setIdentifier))))
theorem tk_X10_setIdentifier : ∀ q ∈ u_X10_setIdentifier.2.2.2.2, decode u_X10_setIdentifier.2.1 q.1 = .ok q.2 := by decide +kernel
theorem mc_X10_setIdentifier : MC u_X10_setIdentifier 2 := ⟨tbm 174 (by decide +kernel) rfl, tbm 117 (by decide +kernel) rfl, ⟨by decide, by decide, by decide +kernel⟩, by decide⟩
theorem st_X10_setIdentifier : Cond.static u_X10_setIdentifier.1 ∈ TB := tbm 173 (by decide +kernel) rfl
def f_X10_setIdentifier_j33 (t : List Sh) (m : Mi) : Option (Mi) :=
  some m
def f_X10_setIdentifier_j26 (t : List Sh) (m : Mi) (a0 : Nat) (a1 : Int64) (a3 : Int32) (s0 : Int64) (s1 : Int32) (s2 : Nat) : Option ((Int32 × Mi) ⊕ ((Mi))) :=
  (if ar t s2 .long s1 = true then
  lt (sl m s2 (ix s1) s0) fun m5 =>
  lt (a3 + 1) fun x6 =>
  some (.inl (x6, m5))
  else none)
def f_X10_setIdentifier_l2 (t : List Sh) (m : Mi) (a0 : Nat) (a1 : Int64) (a3 : Int32) : Option ((Int32 × Mi) ⊕ ((Mi))) :=
  if 8 ≤ a3 then
    some (.inr m)
  else
    (if aa t a0 .long = true then
    if (Int32.ofNat (ln t a0)) ≤ a3 then
      some (.inr m)
    else
      if a3 = 3 then
        f_X10_setIdentifier_j26 t m a0 a1 a3 a1 a3 a0
      else
        f_X10_setIdentifier_j26 t m a0 a1 a3 0 a3 a0
    else none)
def f_X10_setIdentifier_j2 (t : List Sh) (m : Mi) (a0 : Nat) (a1 : Int64) (a3 : Int32) : Option (Mi) :=
  (lp (fun x : Int32 × Mi => f_X10_setIdentifier_l2 t x.2 a0 a1 x.1) FUEL (a3, m)).bind (fun y : Mi => f_X10_setIdentifier_j33 t y)
def f_X10_setIdentifier (t : List Sh) (m : Mi) (a0 : Nat) (a1 : Int64) : Option (Mi) :=
  f_X10_setIdentifier_j2 t m a0 a1 3
set_option maxRecDepth 4000 in
set_option maxHeartbeats 4000000 in
theorem sm_X10_setIdentifier (t : List Sh) (m : Mi) (a0 : Nat) (a1 : Int64) : Sm u_X10_setIdentifier (1, 0, 0, t.length, zs t) (kV t) 0 [(0, .inr (.inr a0)), (1, .inr (.inl a1))] [] (t, m) (f_X10_setIdentifier t m a0 a1) := by
  unfold f_X10_setIdentifier
  refine r_iconst 0 1 (v := 3) rfl rfl (by decide) ?_
  refine r_istore_n 1 2 (L' := [(3, .inl 3), (0, .inr (.inr a0)), (1, .inr (.inl a1))]) rfl rfl rfl (by decide) rfl ?_
  have hj2 : ∀ (m : Mi) (a3 : Int32), Sm u_X10_setIdentifier (1, 0, 0, t.length, zs t) (kV t) 2 [(0, .inr (.inr a0)), (1, .inr (.inl a1)), (3, .inl a3)] [] (t, m) (f_X10_setIdentifier_j2 t m a0 a1 a3) := by
    intro m a3
    unfold f_X10_setIdentifier_j2
    have hj33 : ∀ (m : Mi), Sm u_X10_setIdentifier (1, 0, 0, t.length, zs t) (kV t) 33 [] [] (t, m) (f_X10_setIdentifier_j33 t m) := by
      intro m
      unfold f_X10_setIdentifier_j33
      exact r_vret 20 rfl rfl rfl
    refine r_lp (Lf := fun x : Int32 × Mi => [(0, .inr (.inr a0)), (1, .inr (.inl a1)), (3, .inl (x.1))]) (Mf := fun x : Int32 × Mi => (t, x.2)) (a3, m) ?_ FUEL
    rintro ⟨a3, m⟩ κ2 hc2 he2
    refine r_eq (L' := [(0, .inr (.inr a0)), (1, .inr (.inl a1)), (3, .inl a3)]) (M' := (t, m)) rfl rfl ?_
    refine r_eqr (r' := f_X10_setIdentifier_l2 t m a0 a1 a3) rfl ?_
    unfold f_X10_setIdentifier_l2
    refine r_iload_n 2 3 2 rfl rfl rfl rfl ?_
    refine r_bipush 3 5 (v := 8) rfl rfl (by decide) ?_
    refine r_icmp_ge 4 33 8 rfl rfl rfl (fun h1 => ?_) (fun h1 => ?_)
    · refine r_leaf (r2 := (f_X10_setIdentifier_j33 t m : Option (Mi))) (he2 _) ?_
      exact r_sub [] rfl (hj33 m)
    · refine r_iload_n 5 9 2 rfl rfl rfl rfl ?_
      refine r_aload_n 6 10 0 rfl rfl rfl rfl ?_
      refine r_gd (fun h2 => ?_)
      refine r_alen 7 11 1 rfl rfl (fun _ => rfl) h2 ?_
      refine r_icmp_ge 8 33 14 rfl rfl rfl (fun h3 => ?_) (fun h3 => ?_)
      · refine r_leaf (r2 := (f_X10_setIdentifier_j33 t m : Option (Mi))) (he2 _) ?_
        exact r_sub [] rfl (hj33 m)
      · refine r_aload_n 9 15 0 rfl rfl rfl rfl ?_
        refine r_iload_n 10 16 2 rfl rfl rfl rfl ?_
        refine r_iload_n 11 17 2 rfl rfl rfl rfl ?_
        refine r_iconst 12 18 (v := 3) rfl rfl (by decide) ?_
        have hj26 : ∀ (m : Mi) (a3 : Int32) (s0 : Int64) (s1 : Int32) (s2 : Nat), Sm u_X10_setIdentifier (1, 0, 0, t.length, zs t) κ2 26 [(0, .inr (.inr a0)), (1, .inr (.inl a1)), (3, .inl a3)] [.inr (.inl s0), .inl s1, .inr (.inr s2)] (t, m) (f_X10_setIdentifier_j26 t m a0 a1 a3 s0 s1 s2) := by
          intro m a3 s0 s1 s2
          unfold f_X10_setIdentifier_j26
          refine r_gd (fun h4 => ?_)
          refine r_last 17 27 rfl rfl h4 ?_
          refine r_ltM (fun m5 => ?_)
          refine r_iinc 18 30 2 (L' := [(3, .inl (a3 + 1)), (0, .inr (.inr a0)), (1, .inr (.inl a1))]) rfl rfl rfl (by decide) rfl ?_
          refine r_ltV (fun x6 => ?_)
          refine r_goto 19 2 rfl rfl ?_
          exact r_sub [1, 2, 0] rfl (hc2 (x6, m5))
        refine r_icmp_ne 13 25 21 rfl rfl rfl (fun h7 => ?_) (fun h7 => ?_)
        · refine r_lload_n 14 22 1 rfl rfl rfl rfl ?_
          refine r_goto 15 26 rfl rfl ?_
          exact hj26 m a3 a1 a3 a0
        · refine r_lconst 16 26 (v := 0) rfl rfl (by decide) ?_
          exact hj26 m a3 0 a3 a0
  exact r_sub [1, 2, 0] rfl (hj2 m 3)
theorem ct_X10_setIdentifier {t : List Sh} {m : Mi} {a0 : Nat} {a1 : Int64} {m' : Mi}  (h : f_X10_setIdentifier t m a0 a1 = some m') : Ct u_X10_setIdentifier 1 0 0 [.inr (.inr a0), .inr (.inl a1)] (t, m) (none, (t, m')) :=
  ct_of (by decide) tk_X10_setIdentifier (Nat.le_of_ble_eq_true rfl) (sm_X10_setIdentifier t m a0 a1) (by rw [h]; rfl) (Nat.le_refl _) (Nat.le_refl _)
def tb_X10_signAt : Tb := [(0, (.aload_n 0, 1)), (1, (.getfield 19, 3)), (4, (.ifnull 24, 3)), (7, (.iload_n 1, 1)), (8, (.ifCond .lt 20, 3)), (11, (.iload_n 1, 1)), (12, (.aload_n 0, 1)), (13, (.getfield 26, 3)), (16, (.if_icmp .ge 12, 3)), (19, (.iload_n 1, 1)), (20, (.aload_n 0, 1)), (21, (.getfield 19, 3)), (24, (.arraylength, 1)), (25, (.if_icmp .lt 5, 3)), (28, (.iconst (-1), 1)), (29, (.ireturn, 1)), (30, (.aload_n 0, 1)), (31, (.getfield 19, 3)), (34, (.iload_n 1, 1)), (35, (.baload, 1)), (36, (.sipush 255, 3)), (39, (.iand, 1)), (40, (.ireturn, 1))]
def u_X10_signAt : Fx := (yX10_signAt, (cX10_signAt, (2, ((some .int), tb_X10_signAt))))
theorem tk_X10_signAt : ∀ q ∈ u_X10_signAt.2.2.2.2, decode u_X10_signAt.2.1 q.1 = .ok q.2 := by decide +kernel
theorem mc_X10_signAt : MC u_X10_signAt 1 := ⟨tbm 711 (by decide +kernel) rfl, tbm 117 (by decide +kernel) rfl, ⟨by decide, by decide, by decide +kernel⟩, by decide⟩
theorem in_X10_signAt : Cond.instanceMethod u_X10_signAt.1 ∈ TB ∧ Cond.selects u_X10_signAt.1.cls u_X10_signAt.1 u_X10_signAt.1 ∈ TB := ⟨tbm 710 (by decide +kernel) rfl, tbm 12 (by decide +kernel) rfl⟩
def f_X10_signAt (t : List Sh) (m : Mi) (a0 : Nat) (a1 : Int32) : Option (Int32) :=
  if (gr m a0 2) = 0 then
    some (-1)
  else
    if a1 < 0 then
      some (-1)
    else
      if (gi m a0 4) ≤ a1 then
        some (-1)
      else
        (if aa t (gr m a0 2) .byte = true then
        if a1 < (Int32.ofNat (ln t (gr m a0 2))) then
          (if ar t (gr m a0 2) .byte a1 = true then
          some ((gi m (gr m a0 2) (ix a1)) &&& 255)
          else none)
        else
          some (-1)
        else none)
set_option maxRecDepth 4000 in
set_option maxHeartbeats 4000000 in
theorem sm_X10_signAt (t : List Sh) (m : Mi) (a0 : Nat) (a1 : Int32) (h0 : sh t a0 = some (.inl 10)) : Sm u_X10_signAt (1, 0, 0, t.length, zs t) (kIo t m) 0 [(0, .inr (.inr a0)), (1, .inl a1)] [] (t, m) (f_X10_signAt t m a0 a1) := by
  unfold f_X10_signAt
  refine r_aload_n 0 1 0 rfl rfl rfl rfl ?_
  refine r_getR 1 4 rfl rfl fl_RX10_19 rfl h0 ?_
  refine r_ifnull 2 28 7 rfl rfl rfl (fun h1 => ?_) (fun h1 => ?_)
  · refine r_iconst 14 29 (v := (-1)) rfl rfl (by decide) ?_
    exact r_iret 15 rfl rfl rfl
  · refine r_iload_n 3 8 1 rfl rfl rfl rfl ?_
    refine r_if_lt 4 28 11 rfl rfl rfl (fun h2 => ?_) (fun h2 => ?_)
    · refine r_iconst 14 29 (v := (-1)) rfl rfl (by decide) ?_
      exact r_iret 15 rfl rfl rfl
    · refine r_iload_n 5 12 1 rfl rfl rfl rfl ?_
      refine r_aload_n 6 13 0 rfl rfl rfl rfl ?_
      refine r_getI 7 16 rfl rfl fl_RX10_26 rfl h0 ?_
      refine r_icmp_ge 8 28 19 rfl rfl rfl (fun h3 => ?_) (fun h3 => ?_)
      · refine r_iconst 14 29 (v := (-1)) rfl rfl (by decide) ?_
        exact r_iret 15 rfl rfl rfl
      · refine r_iload_n 9 20 1 rfl rfl rfl rfl ?_
        refine r_aload_n 10 21 0 rfl rfl rfl rfl ?_
        refine r_getR 11 24 rfl rfl fl_RX10_19 rfl h0 ?_
        refine r_gd (fun h4 => ?_)
        refine r_alen 12 25 2 rfl rfl (fun _ => rfl) h4 ?_
        refine r_icmp_lt 13 30 28 rfl rfl rfl (fun h5 => ?_) (fun h5 => ?_)
        · refine r_aload_n 16 31 0 rfl rfl rfl rfl ?_
          refine r_getR 17 34 rfl rfl fl_RX10_19 rfl h0 ?_
          refine r_iload_n 18 35 1 rfl rfl rfl rfl ?_
          refine r_gd (fun h6 => ?_)
          refine r_bald 19 36 rfl rfl h6 ?_
          refine r_sipush 20 39 (v := 255) rfl rfl (by decide) ?_
          refine r_iand 21 40 rfl rfl ?_
          exact r_iret 22 rfl rfl rfl
        · refine r_iconst 14 29 (v := (-1)) rfl rfl (by decide) ?_
          exact r_iret 15 rfl rfl rfl
theorem ct_X10_signAt {t : List Sh} {m : Mi} {a0 : Nat} {a1 : Int32} {v : Int32}  (h0 : sh t a0 = some (.inl 10)) (h : f_X10_signAt t m a0 a1 = some v) : Ct u_X10_signAt 1 0 0 [.inr (.inr a0), .inl a1] (t, m) (some (.inl v), (t, m)) :=
  ct_of (by decide) tk_X10_signAt (Nat.le_of_ble_eq_true rfl) (sm_X10_signAt t m a0 a1 h0) (by rw [h]; rfl) (Nat.le_refl _) (Nat.le_refl _)
def tb_X10_told : Tb := [(0, (.aload_n 0, 1)), (1, (.getfield 15, 3)), (4, (.ireturn, 1))]
def u_X10_told : Fx := (yX10_told, (cX10_told, (1, ((some .int), tb_X10_told))))
theorem tk_X10_told : ∀ q ∈ u_X10_told.2.2.2.2, decode u_X10_told.2.1 q.1 = .ok q.2 := by decide +kernel
theorem mc_X10_told : MC u_X10_told 0 := ⟨tbm 919 (by decide +kernel) rfl, tbm 117 (by decide +kernel) rfl, ⟨by decide, by decide, by decide +kernel⟩, by decide⟩
theorem in_X10_told : Cond.instanceMethod u_X10_told.1 ∈ TB ∧ Cond.selects u_X10_told.1.cls u_X10_told.1 u_X10_told.1 ∈ TB := ⟨tbm 917 (by decide +kernel) rfl, tbm 918 (by decide +kernel) rfl⟩
def f_X10_told (t : List Sh) (m : Mi) (a0 : Nat) : Option (Int32) :=
  some (gi m a0 1)
set_option maxRecDepth 4000 in
set_option maxHeartbeats 4000000 in
theorem sm_X10_told (t : List Sh) (m : Mi) (a0 : Nat) (h0 : sh t a0 = some (.inl 10)) : Sm u_X10_told (1, 0, 0, t.length, zs t) (kIo t m) 0 [(0, .inr (.inr a0))] [] (t, m) (f_X10_told t m a0) := by
  unfold f_X10_told
  refine r_aload_n 0 1 0 rfl rfl rfl rfl ?_
  refine r_getI 1 4 rfl rfl fl_RX10_15 rfl h0 ?_
  exact r_iret 2 rfl rfl rfl
theorem ct_X10_told {t : List Sh} {m : Mi} {a0 : Nat} {v : Int32}  (h0 : sh t a0 = some (.inl 10)) (h : f_X10_told t m a0 = some v) : Ct u_X10_told 1 0 0 [.inr (.inr a0)] (t, m) (some (.inl v), (t, m)) :=
  ct_of (by decide) tk_X10_told (Nat.le_of_ble_eq_true rfl) (sm_X10_told t m a0 h0) (by rw [h]; rfl) (Nat.le_refl _) (Nat.le_refl _)
theorem lk_RX10_68 : Cond.methodLink RX10 68 yX10_fits ∈ TB := tbm 787 (by decide +kernel) rfl
def tb_X10_compare : Tb := [(0, (.aload_n 0, 1)), (1, (.iload_n 1, 1)), (2, (.invokestatic 68, 3)), (5, (.ifCond .eq 11, 3)), (8, (.aload_n 2, 1)), (9, (.iload_n 3, 1)), (10, (.invokestatic 68, 3)), (13, (.ifCond .ne 5, 3)), (16, (.iconst 0, 1)), (17, (.ireturn, 1)), (18, (.iconst 0, 1)), (19, (.istore 4, 2)), (21, (.iload 4, 2)), (23, (.bipush 8, 2)), (25, (.if_icmp .ge 47, 3)), (28, (.aload_n 0, 1)), (29, (.iload_n 1, 1)), (30, (.iload 4, 2)), (32, (.iadd, 1)), (33, (.laload, 1)), (34, (.aload_n 2, 1)), (35, (.iload_n 3, 1)), (36, (.iload 4, 2)), (38, (.iadd, 1)), (39, (.laload, 1)), (40, (.lcmp, 1)), (41, (.ifCond .eq 25, 3)), (44, (.aload_n 0, 1)), (45, (.iload_n 1, 1)), (46, (.iload 4, 2)), (48, (.iadd, 1)), (49, (.laload, 1)), (50, (.aload_n 2, 1)), (51, (.iload_n 3, 1)), (52, (.iload 4, 2)), (54, (.iadd, 1)), (55, (.laload, 1)), (56, (.lcmp, 1)), (57, (.ifCond .ge 7, 3)), (60, (.iconst (-1), 1)), (61, (.goto 4, 3)), (64, (.iconst 1, 1)), (65, (.ireturn, 1)), (66, (.iinc 4 1, 3)), (69, (.goto (-48), 3)), (72, (.iconst 0, 1)), (73, (.ireturn, 1))]
def u_X10_compare : Fx := (yX10_compare, (cX10_compare, (5, ((some .int), tb_X10_compare))))
theorem tk_X10_compare : ∀ q ∈ u_X10_compare.2.2.2.2, decode u_X10_compare.2.1 q.1 = .ok q.2 := by decide +kernel
theorem mc_X10_compare : MC u_X10_compare 4 := ⟨tbm 786 (by decide +kernel) rfl, tbm 117 (by decide +kernel) rfl, ⟨by decide, by decide, by decide +kernel⟩, by decide⟩
theorem st_X10_compare : Cond.static u_X10_compare.1 ∈ TB := tbm 785 (by decide +kernel) rfl
def f_X10_compare_j44 (t : List Sh) (m : Mi) (a0 : Nat) (a1 : Int32) (a2 : Nat) (a3 : Int32) (a4 : Int32) : Option (Int32) :=
  (if ar t a0 .long (a1 + a4) = true then
  (if ar t a2 .long (a3 + a4) = true then
  if 0 ≤ (lg_cmp (gl m a0 (ix (a1 + a4))) (gl m a2 (ix (a3 + a4)))) then
    some 1
  else
    some (-1)
  else none)
  else none)
def f_X10_compare_j72 (t : List Sh) (m : Mi) : Option (Int32) :=
  some 0
def f_X10_compare_l21 (t : List Sh) (m : Mi) (a0 : Nat) (a1 : Int32) (a2 : Nat) (a3 : Int32) (a4 : Int32) : Option ((Int32) ⊕ ((Unit) ⊕ (Int32))) :=
  if 8 ≤ a4 then
    some (.inr (.inl ()))
  else
    (if ar t a0 .long (a1 + a4) = true then
    (if ar t a2 .long (a3 + a4) = true then
    if (lg_cmp (gl m a0 (ix (a1 + a4))) (gl m a2 (ix (a3 + a4)))) = 0 then
      lt (a4 + 1) fun x12 =>
      some (.inl x12)
    else
      some (.inr (.inr a4))
    else none)
    else none)
def f_X10_compare_j21 (t : List Sh) (m : Mi) (a0 : Nat) (a1 : Int32) (a2 : Nat) (a3 : Int32) (a4 : Int32) : Option (Int32) :=
  (lp (fun x : Int32 => f_X10_compare_l21 t m a0 a1 a2 a3 x) FUEL a4).bind (Sum.elim (fun y : Unit => f_X10_compare_j72 t m) (fun y : Int32 => f_X10_compare_j44 t m a0 a1 a2 a3 y))
def f_X10_compare (t : List Sh) (m : Mi) (a0 : Nat) (a1 : Int32) (a2 : Nat) (a3 : Int32) : Option (Int32) :=
  (f_X10_fits t m a0 a1).bind fun x1 =>
  if x1 = 0 then
    some 0
  else
    (f_X10_fits t m a2 a3).bind fun x3 =>
    if x3 = 0 then
      some 0
    else
      f_X10_compare_j21 t m a0 a1 a2 a3 0
set_option maxRecDepth 4000 in
set_option maxHeartbeats 4000000 in
theorem sm_X10_compare (t : List Sh) (m : Mi) (a0 : Nat) (a1 : Int32) (a2 : Nat) (a3 : Int32) : Sm u_X10_compare (2, 0, 0, t.length, zs t) (kIo t m) 0 [(0, .inr (.inr a0)), (1, .inl a1), (2, .inr (.inr a2)), (3, .inl a3)] [] (t, m) (f_X10_compare t m a0 a1 a2 a3) := by
  unfold f_X10_compare
  refine r_aload_n 0 1 0 rfl rfl rfl rfl ?_
  refine r_iload_n 1 2 1 rfl rfl rfl rfl ?_
  refine r_SIo 2 5 (a := 0) (cn := 0) (st := []) (av := [.inr (.inr a0), .inl a1]) (μ' := u_X10_fits) (d := 1) rfl rfl mc_X10_fits st_X10_fits lk_RX10_68 (Nat.le_of_ble_eq_true rfl) rfl (Nat.le_of_ble_eq_true rfl) (fun _ h => ct_X10_fits h) (fun x1 => ?_)
  refine r_if_eq 3 16 8 rfl rfl rfl (fun h2 => ?_) (fun h2 => ?_)
  · refine r_iconst 8 17 (v := 0) rfl rfl (by decide) ?_
    exact r_iret 9 rfl rfl rfl
  · refine r_aload_n 4 9 2 rfl rfl rfl rfl ?_
    refine r_iload_n 5 10 3 rfl rfl rfl rfl ?_
    refine r_SIo 6 13 (a := 0) (cn := 0) (st := []) (av := [.inr (.inr a2), .inl a3]) (μ' := u_X10_fits) (d := 1) rfl rfl mc_X10_fits st_X10_fits lk_RX10_68 (Nat.le_of_ble_eq_true rfl) rfl (Nat.le_of_ble_eq_true rfl) (fun _ h => ct_X10_fits h) (fun x3 => ?_)
    refine r_if_ne 7 18 16 rfl rfl rfl (fun h4 => ?_) (fun h4 => ?_)
    · refine r_iconst 8 17 (v := 0) rfl rfl (by decide) ?_
      exact r_iret 9 rfl rfl rfl
    · refine r_iconst 10 19 (v := 0) rfl rfl (by decide) ?_
      refine r_istore 11 21 (L' := [(4, .inl 0), (0, .inr (.inr a0)), (1, .inl a1), (2, .inr (.inr a2)), (3, .inl a3)]) rfl rfl (by decide) rfl ?_
      have hj21 : ∀ (a4 : Int32), Sm u_X10_compare (2, 0, 0, t.length, zs t) (kIo t m) 21 [(0, .inr (.inr a0)), (1, .inl a1), (2, .inr (.inr a2)), (3, .inl a3), (4, .inl a4)] [] (t, m) (f_X10_compare_j21 t m a0 a1 a2 a3 a4) := by
        intro a4
        unfold f_X10_compare_j21
        have hj44 : ∀ (a4 : Int32), Sm u_X10_compare (2, 0, 0, t.length, zs t) (kIo t m) 44 [(0, .inr (.inr a0)), (1, .inl a1), (2, .inr (.inr a2)), (3, .inl a3), (4, .inl a4)] [] (t, m) (f_X10_compare_j44 t m a0 a1 a2 a3 a4) := by
          intro a4
          unfold f_X10_compare_j44
          refine r_aload_n 27 45 0 rfl rfl rfl rfl ?_
          refine r_iload_n 28 46 1 rfl rfl rfl rfl ?_
          refine r_iload 29 48 4 rfl rfl rfl ?_
          refine r_iadd 30 49 rfl rfl ?_
          refine r_gd (fun h5 => ?_)
          refine r_lald 31 50 rfl rfl h5 ?_
          refine r_aload_n 32 51 2 rfl rfl rfl rfl ?_
          refine r_iload_n 33 52 3 rfl rfl rfl rfl ?_
          refine r_iload 34 54 4 rfl rfl rfl ?_
          refine r_iadd 35 55 rfl rfl ?_
          refine r_gd (fun h6 => ?_)
          refine r_lald 36 56 rfl rfl h6 ?_
          refine r_lcmp 37 57 rfl rfl ?_
          refine r_if_ge 38 64 60 rfl rfl rfl (fun h7 => ?_) (fun h7 => ?_)
          · refine r_iconst 41 65 (v := 1) rfl rfl (by decide) ?_
            exact r_iret 42 rfl rfl rfl
          · refine r_iconst 39 61 (v := (-1)) rfl rfl (by decide) ?_
            refine r_goto 40 65 rfl rfl ?_
            exact r_iret 42 rfl rfl rfl
        have hj72 : Sm u_X10_compare (2, 0, 0, t.length, zs t) (kIo t m) 72 [] [] (t, m) (f_X10_compare_j72 t m) := by
          unfold f_X10_compare_j72
          refine r_iconst 45 73 (v := 0) rfl rfl (by decide) ?_
          exact r_iret 46 rfl rfl rfl
        refine r_lp (Lf := fun x : Int32 => [(0, .inr (.inr a0)), (1, .inl a1), (2, .inr (.inr a2)), (3, .inl a3), (4, .inl x)]) (Mf := fun x : Int32 => (t, m)) a4 ?_ FUEL
        rintro a4 κ21 hc21 he21
        refine r_eq (L' := [(0, .inr (.inr a0)), (1, .inl a1), (2, .inr (.inr a2)), (3, .inl a3), (4, .inl a4)]) (M' := (t, m)) rfl rfl ?_
        refine r_eqr (r' := f_X10_compare_l21 t m a0 a1 a2 a3 a4) rfl ?_
        unfold f_X10_compare_l21
        refine r_iload 12 23 4 rfl rfl rfl ?_
        refine r_bipush 13 25 (v := 8) rfl rfl (by decide) ?_
        refine r_icmp_ge 14 72 28 rfl rfl rfl (fun h8 => ?_) (fun h8 => ?_)
        · refine r_leaf (r2 := (f_X10_compare_j72 t m : Option (Int32))) (he21 _) ?_
          exact r_sub [] rfl (hj72)
        · refine r_aload_n 15 29 0 rfl rfl rfl rfl ?_
          refine r_iload_n 16 30 1 rfl rfl rfl rfl ?_
          refine r_iload 17 32 4 rfl rfl rfl ?_
          refine r_iadd 18 33 rfl rfl ?_
          refine r_gd (fun h9 => ?_)
          refine r_lald 19 34 rfl rfl h9 ?_
          refine r_aload_n 20 35 2 rfl rfl rfl rfl ?_
          refine r_iload_n 21 36 3 rfl rfl rfl rfl ?_
          refine r_iload 22 38 4 rfl rfl rfl ?_
          refine r_iadd 23 39 rfl rfl ?_
          refine r_gd (fun h10 => ?_)
          refine r_lald 24 40 rfl rfl h10 ?_
          refine r_lcmp 25 41 rfl rfl ?_
          refine r_if_eq 26 66 44 rfl rfl rfl (fun h11 => ?_) (fun h11 => ?_)
          · refine r_iinc 43 69 4 (L' := [(4, .inl (a4 + 1)), (0, .inr (.inr a0)), (1, .inl a1), (2, .inr (.inr a2)), (3, .inl a3)]) rfl rfl rfl (by decide) rfl ?_
            refine r_ltV (fun x12 => ?_)
            refine r_goto 44 21 rfl rfl ?_
            exact r_sub [1, 2, 3, 4, 0] rfl (hc21 x12)
          · refine r_leaf (r2 := (f_X10_compare_j44 t m a0 a1 a2 a3 a4 : Option (Int32))) (he21 _) ?_
            exact hj44 a4
      exact r_sub [1, 2, 3, 4, 0] rfl (hj21 0)
theorem ct_X10_compare {t : List Sh} {m : Mi} {a0 : Nat} {a1 : Int32} {a2 : Nat} {a3 : Int32} {v : Int32}  (h : f_X10_compare t m a0 a1 a2 a3 = some v) : Ct u_X10_compare 2 0 0 [.inr (.inr a0), .inl a1, .inr (.inr a2), .inl a3] (t, m) (some (.inl v), (t, m)) :=
  ct_of (by decide) tk_X10_compare (Nat.le_of_ble_eq_true rfl) (sm_X10_compare t m a0 a1 a2 a3) (by rw [h]; rfl) (Nat.le_refl _) (Nat.le_refl _)
theorem lk_RX10_72 : Cond.methodLink RX10 72 arraycopyName ∈ TB := tbm 798 (by decide +kernel) rfl
def tb_X10_copy : Tb := [(0, (.aload_n 0, 1)), (1, (.iload_n 1, 1)), (2, (.invokestatic 68, 3)), (5, (.ifCond .eq 20, 3)), (8, (.aload_n 2, 1)), (9, (.iload_n 3, 1)), (10, (.invokestatic 68, 3)), (13, (.ifCond .eq 12, 3)), (16, (.aload_n 0, 1)), (17, (.iload_n 1, 1)), (18, (.aload_n 2, 1)), (19, (.iload_n 3, 1)), (20, (.bipush 8, 2)), (22, (.invokestatic 72, 3)), (25, (.return_, 1))]
def u_X10_copy : Fx := (yX10_copy, (cX10_copy, (4, (none, tb_X10_copy))))
theorem tk_X10_copy : ∀ q ∈ u_X10_copy.2.2.2.2, decode u_X10_copy.2.1 q.1 = .ok q.2 := by decide +kernel
theorem mc_X10_copy : MC u_X10_copy 4 := ⟨tbm 797 (by decide +kernel) rfl, tbm 117 (by decide +kernel) rfl, ⟨by decide, by decide, by decide +kernel⟩, by decide⟩
theorem st_X10_copy : Cond.static u_X10_copy.1 ∈ TB := tbm 796 (by decide +kernel) rfl
def f_X10_copy (t : List Sh) (m : Mi) (a0 : Nat) (a1 : Int32) (a2 : Nat) (a3 : Int32) : Option (Mi) :=
  (f_X10_fits t m a0 a1).bind fun x1 =>
  if x1 = 0 then
    some m
  else
    (f_X10_fits t m a2 a3).bind fun x3 =>
    if x3 = 0 then
      some m
    else
      (if inS t a0 .long a1 8 = true then
      (if inS t a2 .long a3 8 = true then
      lt (cpl m a0 a2 (ix a1) (ix a3) (ix 8)) fun m7 =>
      some m7
      else none)
      else none)
set_option maxRecDepth 4000 in
set_option maxHeartbeats 4000000 in
theorem sm_X10_copy (t : List Sh) (m : Mi) (a0 : Nat) (a1 : Int32) (a2 : Nat) (a3 : Int32) : Sm u_X10_copy (2, 0, 0, t.length, zs t) (kV t) 0 [(0, .inr (.inr a0)), (1, .inl a1), (2, .inr (.inr a2)), (3, .inl a3)] [] (t, m) (f_X10_copy t m a0 a1 a2 a3) := by
  unfold f_X10_copy
  refine r_aload_n 0 1 0 rfl rfl rfl rfl ?_
  refine r_iload_n 1 2 1 rfl rfl rfl rfl ?_
  refine r_SIo 2 5 (a := 0) (cn := 0) (st := []) (av := [.inr (.inr a0), .inl a1]) (μ' := u_X10_fits) (d := 1) rfl rfl mc_X10_fits st_X10_fits lk_RX10_68 (Nat.le_of_ble_eq_true rfl) rfl (Nat.le_of_ble_eq_true rfl) (fun _ h => ct_X10_fits h) (fun x1 => ?_)
  refine r_if_eq 3 25 8 rfl rfl rfl (fun h2 => ?_) (fun h2 => ?_)
  · exact r_vret 14 rfl rfl rfl
  · refine r_aload_n 4 9 2 rfl rfl rfl rfl ?_
    refine r_iload_n 5 10 3 rfl rfl rfl rfl ?_
    refine r_SIo 6 13 (a := 0) (cn := 0) (st := []) (av := [.inr (.inr a2), .inl a3]) (μ' := u_X10_fits) (d := 1) rfl rfl mc_X10_fits st_X10_fits lk_RX10_68 (Nat.le_of_ble_eq_true rfl) rfl (Nat.le_of_ble_eq_true rfl) (fun _ h => ct_X10_fits h) (fun x3 => ?_)
    refine r_if_eq 7 25 16 rfl rfl rfl (fun h4 => ?_) (fun h4 => ?_)
    · exact r_vret 14 rfl rfl rfl
    · refine r_aload_n 8 17 0 rfl rfl rfl rfl ?_
      refine r_iload_n 9 18 1 rfl rfl rfl rfl ?_
      refine r_aload_n 10 19 2 rfl rfl rfl rfl ?_
      refine r_iload_n 11 20 3 rfl rfl rfl rfl ?_
      refine r_bipush 12 22 (v := 8) rfl rfl (by decide) ?_
      refine r_gd (fun h5 => ?_)
      refine r_gd (fun h6 => ?_)
      refine r_cpyL 13 25 rfl rfl lk_RX10_72 (Nat.le_of_ble_eq_true rfl) (Nat.le_of_ble_eq_true rfl) h5 h6 ?_
      refine r_ltM (fun m7 => ?_)
      exact r_vret 14 rfl rfl rfl
theorem ct_X10_copy {t : List Sh} {m : Mi} {a0 : Nat} {a1 : Int32} {a2 : Nat} {a3 : Int32} {m' : Mi}  (h : f_X10_copy t m a0 a1 a2 a3 = some m') : Ct u_X10_copy 2 0 0 [.inr (.inr a0), .inl a1, .inr (.inr a2), .inl a3] (t, m) (none, (t, m')) :=
  ct_of (by decide) tk_X10_copy (Nat.le_of_ble_eq_true rfl) (sm_X10_copy t m a0 a1 a2 a3) (by rw [h]; rfl) (Nat.le_refl _) (Nat.le_refl _)
theorem lk_RX10_47 : Cond.methodLink RX10 47 yX10_signAt ∈ TB := tbm 708 (by decide +kernel) rfl
def tb_X10_endsAfterFilling : Tb := [(0, (.aload_n 0, 1)), (1, (.getfield 15, 3)), (4, (.istore_n 1, 1)), (5, (.iload_n 1, 1)), (6, (.iconst 3, 1)), (7, (.if_icmp .ge 47, 3)), (10, (.aload_n 0, 1)), (11, (.aload_n 0, 1)), (12, (.getfield 23, 3)), (15, (.invokevirtual 47, 3)), (18, (.bipush 46, 2)), (20, (.if_icmp .ne 34, 3)), (23, (.aload_n 0, 1)), (24, (.aload_n 0, 1)), (25, (.getfield 23, 3)), (28, (.iconst 1, 1)), (29, (.iadd, 1)), (30, (.invokevirtual 47, 3)), (33, (.bipush 120, 2)), (35, (.if_icmp .ne 19, 3)), (38, (.aload_n 0, 1)), (39, (.dup, 1)), (40, (.getfield 23, 3)), (43, (.iconst 2, 1)), (44, (.iadd, 1)), (45, (.putfield 23, 3)), (48, (.iinc 1 1, 3)), (51, (.goto (-46), 3)), (54, (.aload_n 0, 1)), (55, (.getfield 23, 3)), (58, (.aload_n 0, 1)), (59, (.getfield 26, 3)), (62, (.if_icmp .ne 7, 3)), (65, (.iconst 1, 1)), (66, (.goto 4, 3)), (69, (.iconst 0, 1)), (70, (.ireturn, 1))]
def u_X10_endsAfterFilling : Fx := (yX10_endsAfterFilling, (cX10_endsAfterFilling, (2, ((some .boolean), tb_X10_endsAfterFilling))))
theorem tk_X10_endsAfterFilling : ∀ q ∈ u_X10_endsAfterFilling.2.2.2.2, decode u_X10_endsAfterFilling.2.1 q.1 = .ok q.2 := by decide +kernel
theorem mc_X10_endsAfterFilling : MC u_X10_endsAfterFilling 0 := ⟨tbm 717 (by decide +kernel) rfl, tbm 117 (by decide +kernel) rfl, ⟨by decide, by decide, by decide +kernel⟩, by decide⟩
theorem in_X10_endsAfterFilling : Cond.instanceMethod u_X10_endsAfterFilling.1 ∈ TB ∧ Cond.selects u_X10_endsAfterFilling.1.cls u_X10_endsAfterFilling.1 u_X10_endsAfterFilling.1 ∈ TB := ⟨tbm 716 (by decide +kernel) rfl, tbm 13 (by decide +kernel) rfl⟩
def f_X10_endsAfterFilling_j54 (t : List Sh) (m : Mi) (a0 : Nat) : Option (Int32 × Mi) :=
  if (gi m a0 3) = (gi m a0 4) then
    some (1, m)
  else
    some (0, m)
def f_X10_endsAfterFilling_l5 (t : List Sh) (m : Mi) (a0 : Nat) (a1 : Int32) : Option ((Int32 × Mi) ⊕ ((Mi))) :=
  if 3 ≤ a1 then
    some (.inr m)
  else
    (f_X10_signAt t m a0 (gi m a0 3)).bind fun x4 =>
    if x4 = 46 then
      (f_X10_signAt t m a0 ((gi m a0 3) + 1)).bind fun x6 =>
      if x6 = 120 then
        lt (si m a0 3 ((gi m a0 3) + 2)) fun m8 =>
        lt (a1 + 1) fun x9 =>
        some (.inl (x9, m8))
      else
        some (.inr m)
    else
      some (.inr m)
def f_X10_endsAfterFilling_j5 (t : List Sh) (m : Mi) (a0 : Nat) (a1 : Int32) : Option (Int32 × Mi) :=
  (lp (fun x : Int32 × Mi => f_X10_endsAfterFilling_l5 t x.2 a0 x.1) FUEL (a1, m)).bind (fun y : Mi => f_X10_endsAfterFilling_j54 t y a0)
def f_X10_endsAfterFilling (t : List Sh) (m : Mi) (a0 : Nat) : Option (Int32 × Mi) :=
  lt (gi m a0 1) fun x1 =>
  f_X10_endsAfterFilling_j5 t m a0 x1
set_option maxRecDepth 4000 in
set_option maxHeartbeats 4000000 in
theorem sm_X10_endsAfterFilling (t : List Sh) (m : Mi) (a0 : Nat) (h0 : sh t a0 = some (.inl 10)) : Sm u_X10_endsAfterFilling (2, 0, 0, t.length, zs t) (kI t) 0 [(0, .inr (.inr a0))] [] (t, m) (f_X10_endsAfterFilling t m a0) := by
  unfold f_X10_endsAfterFilling
  refine r_aload_n 0 1 0 rfl rfl rfl rfl ?_
  refine r_getI 1 4 rfl rfl fl_RX10_15 rfl h0 ?_
  refine r_ltI (fun x1 => ?_)
  refine r_istore_n 2 5 (L' := [(1, .inl x1), (0, .inr (.inr a0))]) rfl rfl rfl (by decide) rfl ?_
  have hj5 : ∀ (m : Mi) (a1 : Int32), Sm u_X10_endsAfterFilling (2, 0, 0, t.length, zs t) (kI t) 5 [(0, .inr (.inr a0)), (1, .inl a1)] [] (t, m) (f_X10_endsAfterFilling_j5 t m a0 a1) := by
    intro m a1
    unfold f_X10_endsAfterFilling_j5
    have hj54 : ∀ (m : Mi), Sm u_X10_endsAfterFilling (2, 0, 0, t.length, zs t) (kI t) 54 [(0, .inr (.inr a0))] [] (t, m) (f_X10_endsAfterFilling_j54 t m a0) := by
      intro m
      unfold f_X10_endsAfterFilling_j54
      refine r_aload_n 28 55 0 rfl rfl rfl rfl ?_
      refine r_getI 29 58 rfl rfl fl_RX10_23 rfl h0 ?_
      refine r_aload_n 30 59 0 rfl rfl rfl rfl ?_
      refine r_getI 31 62 rfl rfl fl_RX10_26 rfl h0 ?_
      refine r_icmp_ne 32 69 65 rfl rfl rfl (fun h2 => ?_) (fun h2 => ?_)
      · refine r_iconst 33 66 (v := 1) rfl rfl (by decide) ?_
        refine r_goto 34 70 rfl rfl ?_
        exact r_zret 36 rfl rfl (by decide) rfl
      · refine r_iconst 35 70 (v := 0) rfl rfl (by decide) ?_
        exact r_zret 36 rfl rfl (by decide) rfl
    refine r_lp (Lf := fun x : Int32 × Mi => [(0, .inr (.inr a0)), (1, .inl (x.1))]) (Mf := fun x : Int32 × Mi => (t, x.2)) (a1, m) ?_ FUEL
    rintro ⟨a1, m⟩ κ5 hc5 he5
    refine r_eq (L' := [(0, .inr (.inr a0)), (1, .inl a1)]) (M' := (t, m)) rfl rfl ?_
    refine r_eqr (r' := f_X10_endsAfterFilling_l5 t m a0 a1) rfl ?_
    unfold f_X10_endsAfterFilling_l5
    refine r_iload_n 3 6 1 rfl rfl rfl rfl ?_
    refine r_iconst 4 7 (v := 3) rfl rfl (by decide) ?_
    refine r_icmp_ge 5 54 10 rfl rfl rfl (fun h3 => ?_) (fun h3 => ?_)
    · refine r_leaf (r2 := (f_X10_endsAfterFilling_j54 t m a0 : Option (Int32 × Mi))) (he5 _) ?_
      exact r_sub [0] rfl (hj54 m)
    · refine r_aload_n 6 11 0 rfl rfl rfl rfl ?_
      refine r_aload_n 7 12 0 rfl rfl rfl rfl ?_
      refine r_getI 8 15 rfl rfl fl_RX10_23 rfl h0 ?_
      refine r_VIo 9 18 (st := []) (av := [.inr (.inr a0), .inl (gi m a0 3)]) (av' := [.inl (gi m a0 3)]) (μ' := u_X10_signAt) (d := 1) rfl rfl mc_X10_signAt in_X10_signAt lk_RX10_47 (Nat.le_of_ble_eq_true rfl) rfl rfl h0 rfl (Nat.le_of_ble_eq_true rfl) (fun _ h => ct_X10_signAt h0 h) (fun x4 => ?_)
      refine r_bipush 10 20 (v := 46) rfl rfl (by decide) ?_
      refine r_icmp_ne 11 54 23 rfl rfl rfl (fun h5 => ?_) (fun h5 => ?_)
      · refine r_aload_n 12 24 0 rfl rfl rfl rfl ?_
        refine r_aload_n 13 25 0 rfl rfl rfl rfl ?_
        refine r_getI 14 28 rfl rfl fl_RX10_23 rfl h0 ?_
        refine r_iconst 15 29 (v := 1) rfl rfl (by decide) ?_
        refine r_iadd 16 30 rfl rfl ?_
        refine r_VIo 17 33 (st := []) (av := [.inr (.inr a0), .inl ((gi m a0 3) + 1)]) (av' := [.inl ((gi m a0 3) + 1)]) (μ' := u_X10_signAt) (d := 1) rfl rfl mc_X10_signAt in_X10_signAt lk_RX10_47 (Nat.le_of_ble_eq_true rfl) rfl rfl h0 rfl (Nat.le_of_ble_eq_true rfl) (fun _ h => ct_X10_signAt h0 h) (fun x6 => ?_)
        refine r_bipush 18 35 (v := 120) rfl rfl (by decide) ?_
        refine r_icmp_ne 19 54 38 rfl rfl rfl (fun h7 => ?_) (fun h7 => ?_)
        · refine r_aload_n 20 39 0 rfl rfl rfl rfl ?_
          refine r_dup 21 40 rfl rfl rfl ?_
          refine r_getI 22 43 rfl rfl fl_RX10_23 rfl h0 ?_
          refine r_iconst 23 44 (v := 2) rfl rfl (by decide) ?_
          refine r_iadd 24 45 rfl rfl ?_
          refine r_putI 25 48 rfl rfl fl_RX10_23 (fun h => by cases h) (Or.inl rfl) h0 ?_
          refine r_ltM (fun m8 => ?_)
          refine r_iinc 26 51 1 (L' := [(1, .inl (a1 + 1)), (0, .inr (.inr a0))]) rfl rfl rfl (by decide) rfl ?_
          refine r_ltV (fun x9 => ?_)
          refine r_goto 27 5 rfl rfl ?_
          exact r_sub [1, 0] rfl (hc5 (x9, m8))
        · refine r_leaf (r2 := (f_X10_endsAfterFilling_j54 t m a0 : Option (Int32 × Mi))) (he5 _) ?_
          exact r_sub [0] rfl (hj54 m)
      · refine r_leaf (r2 := (f_X10_endsAfterFilling_j54 t m a0 : Option (Int32 × Mi))) (he5 _) ?_
        exact r_sub [0] rfl (hj54 m)
  exact r_sub [1, 0] rfl (hj5 m x1)
theorem ct_X10_endsAfterFilling {t : List Sh} {m : Mi} {a0 : Nat} {m' : Mi} {v : Int32}  (h0 : sh t a0 = some (.inl 10)) (h : f_X10_endsAfterFilling t m a0 = some (v, m')) : Ct u_X10_endsAfterFilling 2 0 0 [.inr (.inr a0)] (t, m) (some (.inl v), (t, m')) :=
  ct_of (by decide) tk_X10_endsAfterFilling (Nat.le_of_ble_eq_true rfl) (sm_X10_endsAfterFilling t m a0 h0) (by rw [h]; rfl) (Nat.le_refl _) (Nat.le_refl _)
theorem kc_RX10_35 : Cond.constantLong RX10 35 (9223372036854775807) ∈ TB := tbm 703 (by decide +kernel) rfl
def tb_X10_isEndless : Tb := [(0, (.aload_n 0, 1)), (1, (.iload_n 1, 1)), (2, (.invokestatic 68, 3)), (5, (.ifCond .eq 17, 3)), (8, (.aload_n 0, 1)), (9, (.iload_n 1, 1)), (10, (.laload, 1)), (11, (.ldc2_w 35, 3)), (14, (.lcmp, 1)), (15, (.ifCond .ne 7, 3)), (18, (.iconst 1, 1)), (19, (.goto 4, 3)), (22, (.iconst 0, 1)), (23, (.ireturn, 1))]
def u_X10_isEndless : Fx := (yX10_isEndless, (cX10_isEndless, (2, ((some .boolean), tb_X10_isEndless))))
theorem tk_X10_isEndless : ∀ q ∈ u_X10_isEndless.2.2.2.2, decode u_X10_isEndless.2.1 q.1 = .ok q.2 := by decide +kernel
theorem mc_X10_isEndless : MC u_X10_isEndless 2 := ⟨tbm 1024 (by decide +kernel) rfl, tbm 117 (by decide +kernel) rfl, ⟨by decide, by decide, by decide +kernel⟩, by decide⟩
theorem st_X10_isEndless : Cond.static u_X10_isEndless.1 ∈ TB := tbm 1023 (by decide +kernel) rfl
def f_X10_isEndless (t : List Sh) (m : Mi) (a0 : Nat) (a1 : Int32) : Option (Int32) :=
  (f_X10_fits t m a0 a1).bind fun x1 =>
  if x1 = 0 then
    some 0
  else
    (if ar t a0 .long a1 = true then
    if (lg_cmp (gl m a0 (ix a1)) 9223372036854775807) = 0 then
      some 1
    else
      some 0
    else none)
set_option maxRecDepth 4000 in
set_option maxHeartbeats 4000000 in
theorem sm_X10_isEndless (t : List Sh) (m : Mi) (a0 : Nat) (a1 : Int32) : Sm u_X10_isEndless (2, 0, 0, t.length, zs t) (kIo t m) 0 [(0, .inr (.inr a0)), (1, .inl a1)] [] (t, m) (f_X10_isEndless t m a0 a1) := by
  unfold f_X10_isEndless
  refine r_aload_n 0 1 0 rfl rfl rfl rfl ?_
  refine r_iload_n 1 2 1 rfl rfl rfl rfl ?_
  refine r_SIo 2 5 (a := 0) (cn := 0) (st := []) (av := [.inr (.inr a0), .inl a1]) (μ' := u_X10_fits) (d := 1) rfl rfl mc_X10_fits st_X10_fits lk_RX10_68 (Nat.le_of_ble_eq_true rfl) rfl (Nat.le_of_ble_eq_true rfl) (fun _ h => ct_X10_fits h) (fun x1 => ?_)
  refine r_if_eq 3 22 8 rfl rfl rfl (fun h2 => ?_) (fun h2 => ?_)
  · refine r_iconst 12 23 (v := 0) rfl rfl (by decide) ?_
    exact r_zret 13 rfl rfl (by decide) rfl
  · refine r_aload_n 4 9 0 rfl rfl rfl rfl ?_
    refine r_iload_n 5 10 1 rfl rfl rfl rfl ?_
    refine r_gd (fun h3 => ?_)
    refine r_lald 6 11 rfl rfl h3 ?_
    refine r_ldc2 7 14 rfl rfl kc_RX10_35 ?_
    refine r_lcmp 8 15 rfl rfl ?_
    refine r_if_ne 9 22 18 rfl rfl rfl (fun h4 => ?_) (fun h4 => ?_)
    · refine r_iconst 10 19 (v := 1) rfl rfl (by decide) ?_
      refine r_goto 11 23 rfl rfl ?_
      exact r_zret 13 rfl rfl (by decide) rfl
    · refine r_iconst 12 23 (v := 0) rfl rfl (by decide) ?_
      exact r_zret 13 rfl rfl (by decide) rfl
theorem ct_X10_isEndless {t : List Sh} {m : Mi} {a0 : Nat} {a1 : Int32} {v : Int32}  (h : f_X10_isEndless t m a0 a1 = some v) : Ct u_X10_isEndless 2 0 0 [.inr (.inr a0), .inl a1] (t, m) (some (.inl v), (t, m)) :=
  ct_of (by decide) tk_X10_isEndless (Nat.le_of_ble_eq_true rfl) (sm_X10_isEndless t m a0 a1) (by rw [h]; rfl) (Nat.le_refl _) (Nat.le_refl _)
def tb_X10_isLeast : Tb := [(0, (.aload_n 0, 1)), (1, (.iload_n 1, 1)), (2, (.invokestatic 68, 3)), (5, (.ifCond .ne 5, 3)), (8, (.iconst 0, 1)), (9, (.ireturn, 1)), (10, (.iconst 0, 1)), (11, (.istore_n 2, 1)), (12, (.iload_n 2, 1)), (13, (.bipush 8, 2)), (15, (.if_icmp .ge 30, 3)), (18, (.aload_n 0, 1)), (19, (.iload_n 1, 1)), (20, (.iload_n 2, 1)), (21, (.iadd, 1)), (22, (.laload, 1)), (23, (.iload_n 2, 1)), (24, (.iconst 3, 1)), (25, (.if_icmp .ne 7, 3)), (28, (.lconst 1, 1)), (29, (.goto 4, 3)), (32, (.lconst 0, 1)), (33, (.lcmp, 1)), (34, (.ifCond .eq 5, 3)), (37, (.iconst 0, 1)), (38, (.ireturn, 1)), (39, (.iinc 2 1, 3)), (42, (.goto (-30), 3)), (45, (.iconst 1, 1)), (46, (.ireturn, 1))]
def u_X10_isLeast : Fx := (yX10_isLeast, (cX10_isLeast, (3, ((some .boolean), tb_X10_isLeast))))
theorem tk_X10_isLeast : ∀ q ∈ u_X10_isLeast.2.2.2.2, decode u_X10_isLeast.2.1 q.1 = .ok q.2 := by decide +kernel
theorem mc_X10_isLeast : MC u_X10_isLeast 2 := ⟨tbm 1021 (by decide +kernel) rfl, tbm 117 (by decide +kernel) rfl, ⟨by decide, by decide, by decide +kernel⟩, by decide⟩
theorem st_X10_isLeast : Cond.static u_X10_isLeast.1 ∈ TB := tbm 1020 (by decide +kernel) rfl
def f_X10_isLeast_j37 (t : List Sh) (m : Mi) : Option (Int32) :=
  some 0
def f_X10_isLeast_j45 (t : List Sh) (m : Mi) : Option (Int32) :=
  some 1
def f_X10_isLeast_j33 (t : List Sh) (m : Mi) (a0 : Nat) (a1 : Int32) (a2 : Int32) (s0 : Int64) (s1 : Int64) : Option ((Int32) ⊕ ((Unit) ⊕ (Unit))) :=
  if (lg_cmp s1 s0) = 0 then
    lt (a2 + 1) fun x6 =>
    some (.inl x6)
  else
    some (.inr (.inr ()))
def f_X10_isLeast_l12 (t : List Sh) (m : Mi) (a0 : Nat) (a1 : Int32) (a2 : Int32) : Option ((Int32) ⊕ ((Unit) ⊕ (Unit))) :=
  if 8 ≤ a2 then
    some (.inr (.inl ()))
  else
    (if ar t a0 .long (a1 + a2) = true then
    if a2 = 3 then
      f_X10_isLeast_j33 t m a0 a1 a2 1 (gl m a0 (ix (a1 + a2)))
    else
      f_X10_isLeast_j33 t m a0 a1 a2 0 (gl m a0 (ix (a1 + a2)))
    else none)
def f_X10_isLeast_j12 (t : List Sh) (m : Mi) (a0 : Nat) (a1 : Int32) (a2 : Int32) : Option (Int32) :=
  (lp (fun x : Int32 => f_X10_isLeast_l12 t m a0 a1 x) FUEL a2).bind (Sum.elim (fun y : Unit => f_X10_isLeast_j45 t m) (fun y : Unit => f_X10_isLeast_j37 t m))
def f_X10_isLeast (t : List Sh) (m : Mi) (a0 : Nat) (a1 : Int32) : Option (Int32) :=
  (f_X10_fits t m a0 a1).bind fun x1 =>
  if x1 = 0 then
    some 0
  else
    f_X10_isLeast_j12 t m a0 a1 0
set_option maxRecDepth 4000 in
set_option maxHeartbeats 4000000 in
theorem sm_X10_isLeast (t : List Sh) (m : Mi) (a0 : Nat) (a1 : Int32) : Sm u_X10_isLeast (2, 0, 0, t.length, zs t) (kIo t m) 0 [(0, .inr (.inr a0)), (1, .inl a1)] [] (t, m) (f_X10_isLeast t m a0 a1) := by
  unfold f_X10_isLeast
  refine r_aload_n 0 1 0 rfl rfl rfl rfl ?_
  refine r_iload_n 1 2 1 rfl rfl rfl rfl ?_
  refine r_SIo 2 5 (a := 0) (cn := 0) (st := []) (av := [.inr (.inr a0), .inl a1]) (μ' := u_X10_fits) (d := 1) rfl rfl mc_X10_fits st_X10_fits lk_RX10_68 (Nat.le_of_ble_eq_true rfl) rfl (Nat.le_of_ble_eq_true rfl) (fun _ h => ct_X10_fits h) (fun x1 => ?_)
  refine r_if_ne 3 10 8 rfl rfl rfl (fun h2 => ?_) (fun h2 => ?_)
  · refine r_iconst 4 9 (v := 0) rfl rfl (by decide) ?_
    exact r_zret 5 rfl rfl (by decide) rfl
  · refine r_iconst 6 11 (v := 0) rfl rfl (by decide) ?_
    refine r_istore_n 7 12 (L' := [(2, .inl 0), (0, .inr (.inr a0)), (1, .inl a1)]) rfl rfl rfl (by decide) rfl ?_
    have hj12 : ∀ (a2 : Int32), Sm u_X10_isLeast (2, 0, 0, t.length, zs t) (kIo t m) 12 [(0, .inr (.inr a0)), (1, .inl a1), (2, .inl a2)] [] (t, m) (f_X10_isLeast_j12 t m a0 a1 a2) := by
      intro a2
      unfold f_X10_isLeast_j12
      have hj37 : Sm u_X10_isLeast (2, 0, 0, t.length, zs t) (kIo t m) 37 [] [] (t, m) (f_X10_isLeast_j37 t m) := by
        unfold f_X10_isLeast_j37
        refine r_iconst 24 38 (v := 0) rfl rfl (by decide) ?_
        exact r_zret 25 rfl rfl (by decide) rfl
      have hj45 : Sm u_X10_isLeast (2, 0, 0, t.length, zs t) (kIo t m) 45 [] [] (t, m) (f_X10_isLeast_j45 t m) := by
        unfold f_X10_isLeast_j45
        refine r_iconst 28 46 (v := 1) rfl rfl (by decide) ?_
        exact r_zret 29 rfl rfl (by decide) rfl
      refine r_lp (Lf := fun x : Int32 => [(0, .inr (.inr a0)), (1, .inl a1), (2, .inl x)]) (Mf := fun x : Int32 => (t, m)) a2 ?_ FUEL
      rintro a2 κ12 hc12 he12
      refine r_eq (L' := [(0, .inr (.inr a0)), (1, .inl a1), (2, .inl a2)]) (M' := (t, m)) rfl rfl ?_
      refine r_eqr (r' := f_X10_isLeast_l12 t m a0 a1 a2) rfl ?_
      unfold f_X10_isLeast_l12
      refine r_iload_n 8 13 2 rfl rfl rfl rfl ?_
      refine r_bipush 9 15 (v := 8) rfl rfl (by decide) ?_
      refine r_icmp_ge 10 45 18 rfl rfl rfl (fun h3 => ?_) (fun h3 => ?_)
      · refine r_leaf (r2 := (f_X10_isLeast_j45 t m : Option (Int32))) (he12 _) ?_
        exact r_sub [] rfl (hj45)
      · refine r_aload_n 11 19 0 rfl rfl rfl rfl ?_
        refine r_iload_n 12 20 1 rfl rfl rfl rfl ?_
        refine r_iload_n 13 21 2 rfl rfl rfl rfl ?_
        refine r_iadd 14 22 rfl rfl ?_
        refine r_gd (fun h4 => ?_)
        refine r_lald 15 23 rfl rfl h4 ?_
        refine r_iload_n 16 24 2 rfl rfl rfl rfl ?_
        refine r_iconst 17 25 (v := 3) rfl rfl (by decide) ?_
        have hj33 : ∀ (a2 : Int32) (s0 : Int64) (s1 : Int64), Sm u_X10_isLeast (2, 0, 0, t.length, zs t) κ12 33 [(0, .inr (.inr a0)), (1, .inl a1), (2, .inl a2)] [.inr (.inl s0), .inr (.inl s1)] (t, m) (f_X10_isLeast_j33 t m a0 a1 a2 s0 s1) := by
          intro a2 s0 s1
          unfold f_X10_isLeast_j33
          refine r_lcmp 22 34 rfl rfl ?_
          refine r_if_eq 23 39 37 rfl rfl rfl (fun h5 => ?_) (fun h5 => ?_)
          · refine r_iinc 26 42 2 (L' := [(2, .inl (a2 + 1)), (0, .inr (.inr a0)), (1, .inl a1)]) rfl rfl rfl (by decide) rfl ?_
            refine r_ltV (fun x6 => ?_)
            refine r_goto 27 12 rfl rfl ?_
            exact r_sub [1, 2, 0] rfl (hc12 x6)
          · refine r_leaf (r2 := (f_X10_isLeast_j37 t m : Option (Int32))) (he12 _) ?_
            exact r_sub [] rfl (hj37)
        refine r_icmp_ne 18 32 28 rfl rfl rfl (fun h7 => ?_) (fun h7 => ?_)
        · refine r_lconst 19 29 (v := 1) rfl rfl (by decide) ?_
          refine r_goto 20 33 rfl rfl ?_
          exact hj33 a2 1 (gl m a0 (ix (a1 + a2)))
        · refine r_lconst 21 33 (v := 0) rfl rfl (by decide) ?_
          exact hj33 a2 0 (gl m a0 (ix (a1 + a2)))
    exact r_sub [1, 2, 0] rfl (hj12 0)
theorem ct_X10_isLeast {t : List Sh} {m : Mi} {a0 : Nat} {a1 : Int32} {v : Int32}  (h : f_X10_isLeast t m a0 a1 = some v) : Ct u_X10_isLeast 2 0 0 [.inr (.inr a0), .inl a1] (t, m) (some (.inl v), (t, m)) :=
  ct_of (by decide) tk_X10_isLeast (Nat.le_of_ble_eq_true rfl) (sm_X10_isLeast t m a0 a1) (by rw [h]; rfl) (Nat.le_refl _) (Nat.le_refl _)
theorem lk_RX10_37 : Cond.methodLink RX10 37 yX10_setIdentifier ∈ TB := tbm 172 (by decide +kernel) rfl
def tb_X10_raise : Tb := [(0, (.iconst 0, 1)), (1, (.istore_n 2, 1)), (2, (.iload_n 2, 1)), (3, (.iconst 3, 1)), (4, (.if_icmp .ge 39, 3)), (7, (.iload_n 2, 1)), (8, (.aload_n 0, 1)), (9, (.arraylength, 1)), (10, (.if_icmp .ge 33, 3)), (13, (.iload_n 2, 1)), (14, (.iload_n 1, 1)), (15, (.if_icmp .ne 13, 3)), (18, (.aload_n 0, 1)), (19, (.iload_n 2, 1)), (20, (.dup2, 1)), (21, (.laload, 1)), (22, (.lconst 1, 1)), (23, (.ladd, 1)), (24, (.lastore, 1)), (25, (.goto 12, 3)), (28, (.iload_n 2, 1)), (29, (.iload_n 1, 1)), (30, (.if_icmp .le 7, 3)), (33, (.aload_n 0, 1)), (34, (.iload_n 2, 1)), (35, (.lconst 0, 1)), (36, (.lastore, 1)), (37, (.iinc 2 1, 3)), (40, (.goto (-38), 3)), (43, (.aload_n 0, 1)), (44, (.lconst 1, 1)), (45, (.invokestatic 37, 3)), (48, (.return_, 1))]
def u_X10_raise : Fx := (yX10_raise, (cX10_raise, (3, (none, tb_X10_raise))))
theorem tk_X10_raise : ∀ q ∈ u_X10_raise.2.2.2.2, decode u_X10_raise.2.1 q.1 = .ok q.2 := by decide +kernel
theorem mc_X10_raise : MC u_X10_raise 2 := ⟨tbm 922 (by decide +kernel) rfl, tbm 117 (by decide +kernel) rfl, ⟨by decide, by decide, by decide +kernel⟩, by decide⟩
theorem st_X10_raise : Cond.static u_X10_raise.1 ∈ TB := tbm 921 (by decide +kernel) rfl
def f_X10_raise_j43 (t : List Sh) (m : Mi) (a0 : Nat) : Option (Mi) :=
  (f_X10_setIdentifier t m a0 1).bind fun m1 =>
  some m1
def f_X10_raise_l2 (t : List Sh) (m : Mi) (a0 : Nat) (a1 : Int32) (a2 : Int32) : Option ((Int32 × Mi) ⊕ ((Mi))) :=
  if 3 ≤ a2 then
    some (.inr m)
  else
    (if aa t a0 .long = true then
    if (Int32.ofNat (ln t a0)) ≤ a2 then
      some (.inr m)
    else
      if a2 = a1 then
        (if ar t a0 .long a2 = true then
        lt (sl m a0 (ix a2) ((gl m a0 (ix a2)) + 1)) fun m7 =>
        lt (a2 + 1) fun x8 =>
        some (.inl (x8, m7))
        else none)
      else
        if a2 ≤ a1 then
          lt (a2 + 1) fun x10 =>
          some (.inl (x10, m))
        else
          (if ar t a0 .long a2 = true then
          lt (sl m a0 (ix a2) 0) fun m12 =>
          lt (a2 + 1) fun x13 =>
          some (.inl (x13, m12))
          else none)
    else none)
def f_X10_raise_j2 (t : List Sh) (m : Mi) (a0 : Nat) (a1 : Int32) (a2 : Int32) : Option (Mi) :=
  (lp (fun x : Int32 × Mi => f_X10_raise_l2 t x.2 a0 a1 x.1) FUEL (a2, m)).bind (fun y : Mi => f_X10_raise_j43 t y a0)
def f_X10_raise (t : List Sh) (m : Mi) (a0 : Nat) (a1 : Int32) : Option (Mi) :=
  f_X10_raise_j2 t m a0 a1 0
set_option maxRecDepth 4000 in
set_option maxHeartbeats 4000000 in
theorem sm_X10_raise (t : List Sh) (m : Mi) (a0 : Nat) (a1 : Int32) : Sm u_X10_raise (2, 0, 0, t.length, zs t) (kV t) 0 [(0, .inr (.inr a0)), (1, .inl a1)] [] (t, m) (f_X10_raise t m a0 a1) := by
  unfold f_X10_raise
  refine r_iconst 0 1 (v := 0) rfl rfl (by decide) ?_
  refine r_istore_n 1 2 (L' := [(2, .inl 0), (0, .inr (.inr a0)), (1, .inl a1)]) rfl rfl rfl (by decide) rfl ?_
  have hj2 : ∀ (m : Mi) (a2 : Int32), Sm u_X10_raise (2, 0, 0, t.length, zs t) (kV t) 2 [(0, .inr (.inr a0)), (1, .inl a1), (2, .inl a2)] [] (t, m) (f_X10_raise_j2 t m a0 a1 a2) := by
    intro m a2
    unfold f_X10_raise_j2
    have hj43 : ∀ (m : Mi), Sm u_X10_raise (2, 0, 0, t.length, zs t) (kV t) 43 [(0, .inr (.inr a0))] [] (t, m) (f_X10_raise_j43 t m a0) := by
      intro m
      unfold f_X10_raise_j43
      refine r_aload_n 29 44 0 rfl rfl rfl rfl ?_
      refine r_lconst 30 45 (v := 1) rfl rfl (by decide) ?_
      refine r_SV 31 48 (a := 0) (cn := 0) (st := []) (av := [.inr (.inr a0), .inr (.inl 1)]) (μ' := u_X10_setIdentifier) (d := 1) rfl rfl mc_X10_setIdentifier st_X10_setIdentifier lk_RX10_37 (Nat.le_of_ble_eq_true rfl) rfl (Nat.le_of_ble_eq_true rfl) (fun _ h => ct_X10_setIdentifier h) (fun m1 => ?_)
      exact r_vret 32 rfl rfl rfl
    refine r_lp (Lf := fun x : Int32 × Mi => [(0, .inr (.inr a0)), (1, .inl a1), (2, .inl (x.1))]) (Mf := fun x : Int32 × Mi => (t, x.2)) (a2, m) ?_ FUEL
    rintro ⟨a2, m⟩ κ2 hc2 he2
    refine r_eq (L' := [(0, .inr (.inr a0)), (1, .inl a1), (2, .inl a2)]) (M' := (t, m)) rfl rfl ?_
    refine r_eqr (r' := f_X10_raise_l2 t m a0 a1 a2) rfl ?_
    unfold f_X10_raise_l2
    refine r_iload_n 2 3 2 rfl rfl rfl rfl ?_
    refine r_iconst 3 4 (v := 3) rfl rfl (by decide) ?_
    refine r_icmp_ge 4 43 7 rfl rfl rfl (fun h2 => ?_) (fun h2 => ?_)
    · refine r_leaf (r2 := (f_X10_raise_j43 t m a0 : Option (Mi))) (he2 _) ?_
      exact r_sub [0] rfl (hj43 m)
    · refine r_iload_n 5 8 2 rfl rfl rfl rfl ?_
      refine r_aload_n 6 9 0 rfl rfl rfl rfl ?_
      refine r_gd (fun h3 => ?_)
      refine r_alen 7 10 1 rfl rfl (fun _ => rfl) h3 ?_
      refine r_icmp_ge 8 43 13 rfl rfl rfl (fun h4 => ?_) (fun h4 => ?_)
      · refine r_leaf (r2 := (f_X10_raise_j43 t m a0 : Option (Mi))) (he2 _) ?_
        exact r_sub [0] rfl (hj43 m)
      · refine r_iload_n 9 14 2 rfl rfl rfl rfl ?_
        refine r_iload_n 10 15 1 rfl rfl rfl rfl ?_
        refine r_icmp_ne 11 28 18 rfl rfl rfl (fun h5 => ?_) (fun h5 => ?_)
        · refine r_aload_n 12 19 0 rfl rfl rfl rfl ?_
          refine r_iload_n 13 20 2 rfl rfl rfl rfl ?_
          refine r_dup2 14 21 rfl rfl rfl rfl ?_
          refine r_gd (fun h6 => ?_)
          refine r_lald 15 22 rfl rfl h6 ?_
          refine r_lconst 16 23 (v := 1) rfl rfl (by decide) ?_
          refine r_ladd 17 24 rfl rfl ?_
          refine r_last 18 25 rfl rfl h6 ?_
          refine r_ltM (fun m7 => ?_)
          refine r_goto 19 37 rfl rfl ?_
          refine r_iinc 27 40 2 (L' := [(2, .inl (a2 + 1)), (0, .inr (.inr a0)), (1, .inl a1)]) rfl rfl rfl (by decide) rfl ?_
          refine r_ltV (fun x8 => ?_)
          refine r_goto 28 2 rfl rfl ?_
          exact r_sub [1, 2, 0] rfl (hc2 (x8, m7))
        · refine r_iload_n 20 29 2 rfl rfl rfl rfl ?_
          refine r_iload_n 21 30 1 rfl rfl rfl rfl ?_
          refine r_icmp_le 22 37 33 rfl rfl rfl (fun h9 => ?_) (fun h9 => ?_)
          · refine r_iinc 27 40 2 (L' := [(2, .inl (a2 + 1)), (0, .inr (.inr a0)), (1, .inl a1)]) rfl rfl rfl (by decide) rfl ?_
            refine r_ltV (fun x10 => ?_)
            refine r_goto 28 2 rfl rfl ?_
            exact r_sub [1, 2, 0] rfl (hc2 (x10, m))
          · refine r_aload_n 23 34 0 rfl rfl rfl rfl ?_
            refine r_iload_n 24 35 2 rfl rfl rfl rfl ?_
            refine r_lconst 25 36 (v := 0) rfl rfl (by decide) ?_
            refine r_gd (fun h11 => ?_)
            refine r_last 26 37 rfl rfl h11 ?_
            refine r_ltM (fun m12 => ?_)
            refine r_iinc 27 40 2 (L' := [(2, .inl (a2 + 1)), (0, .inr (.inr a0)), (1, .inl a1)]) rfl rfl rfl (by decide) rfl ?_
            refine r_ltV (fun x13 => ?_)
            refine r_goto 28 2 rfl rfl ?_
            exact r_sub [1, 2, 0] rfl (hc2 (x13, m12))
  exact r_sub [1, 2, 0] rfl (hj2 m 0)
theorem ct_X10_raise {t : List Sh} {m : Mi} {a0 : Nat} {a1 : Int32} {m' : Mi}  (h : f_X10_raise t m a0 a1 = some m') : Ct u_X10_raise 2 0 0 [.inr (.inr a0), .inl a1] (t, m) (none, (t, m')) :=
  ct_of (by decide) tk_X10_raise (Nat.le_of_ble_eq_true rfl) (sm_X10_raise t m a0 a1) (by rw [h]; rfl) (Nat.le_refl _) (Nat.le_refl _)
theorem lk_RX10_29 : Cond.methodLink RX10 29 yJ7_fill_d0a16 ∈ TB := tbm 169 (by decide +kernel) rfl
def tb_X10_setEndless : Tb := [(0, (.aload_n 0, 1)), (1, (.lconst 0, 1)), (2, (.invokestatic 29, 3)), (5, (.aload_n 0, 1)), (6, (.arraylength, 1)), (7, (.ifCond .le 9, 3)), (10, (.aload_n 0, 1)), (11, (.iconst 0, 1)), (12, (.ldc2_w 35, 3)), (15, (.lastore, 1)), (16, (.return_, 1))]
def u_X10_setEndless : Fx := (yX10_setEndless, (cX10_setEndless, (1, (none, tb_X10_setEndless))))
theorem tk_X10_setEndless : ∀ q ∈ u_X10_setEndless.2.2.2.2, decode u_X10_setEndless.2.1 q.1 = .ok q.2 := by decide +kernel
theorem mc_X10_setEndless : MC u_X10_setEndless 1 := ⟨tbm 865 (by decide +kernel) rfl, tbm 117 (by decide +kernel) rfl, ⟨by decide, by decide, by decide +kernel⟩, by decide⟩
theorem st_X10_setEndless : Cond.static u_X10_setEndless.1 ∈ TB := tbm 864 (by decide +kernel) rfl
def f_X10_setEndless (t : List Sh) (m : Mi) (a0 : Nat) : Option (Mi) :=
  (f_J7_fill_d0a16 t m a0 0).bind fun m1 =>
  (if aa t a0 .long = true then
  if (Int32.ofNat (ln t a0)) ≤ 0 then
    some m1
  else
    (if ar t a0 .long 0 = true then
    lt (sl m1 a0 (ix 0) 9223372036854775807) fun m5 =>
    some m5
    else none)
  else none)
set_option maxRecDepth 4000 in
set_option maxHeartbeats 4000000 in
theorem sm_X10_setEndless (t : List Sh) (m : Mi) (a0 : Nat) : Sm u_X10_setEndless (2, 0, 0, t.length, zs t) (kV t) 0 [(0, .inr (.inr a0))] [] (t, m) (f_X10_setEndless t m a0) := by
  unfold f_X10_setEndless
  refine r_aload_n 0 1 0 rfl rfl rfl rfl ?_
  refine r_lconst 1 2 (v := 0) rfl rfl (by decide) ?_
  refine r_SV 2 5 (a := 0) (cn := 0) (st := []) (av := [.inr (.inr a0), .inr (.inl 0)]) (μ' := u_J7_fill_d0a16) (d := 1) rfl rfl mc_J7_fill_d0a16 st_J7_fill_d0a16 lk_RX10_29 (Nat.le_of_ble_eq_true rfl) rfl (Nat.le_of_ble_eq_true rfl) (fun _ h => ct_J7_fill_d0a16 h) (fun m1 => ?_)
  refine r_aload_n 3 6 0 rfl rfl rfl rfl ?_
  refine r_gd (fun h2 => ?_)
  refine r_alen 4 7 1 rfl rfl (fun _ => rfl) h2 ?_
  refine r_if_le 5 16 10 rfl rfl rfl (fun h3 => ?_) (fun h3 => ?_)
  · exact r_vret 10 rfl rfl rfl
  · refine r_aload_n 6 11 0 rfl rfl rfl rfl ?_
    refine r_iconst 7 12 (v := 0) rfl rfl (by decide) ?_
    refine r_ldc2 8 15 rfl rfl kc_RX10_35 ?_
    refine r_gd (fun h4 => ?_)
    refine r_last 9 16 rfl rfl h4 ?_
    refine r_ltM (fun m5 => ?_)
    exact r_vret 10 rfl rfl rfl
theorem ct_X10_setEndless {t : List Sh} {m : Mi} {a0 : Nat} {m' : Mi}  (h : f_X10_setEndless t m a0 = some m') : Ct u_X10_setEndless 2 0 0 [.inr (.inr a0)] (t, m) (none, (t, m')) :=
  ct_of (by decide) tk_X10_setEndless (Nat.le_of_ble_eq_true rfl) (sm_X10_setEndless t m a0) (by rw [h]; rfl) (Nat.le_refl _) (Nat.le_refl _)
def tb_X10_setLeast : Tb := [(0, (.aload_n 0, 1)), (1, (.lconst 0, 1)), (2, (.invokestatic 29, 3)), (5, (.aload_n 0, 1)), (6, (.lconst 1, 1)), (7, (.invokestatic 37, 3)), (10, (.return_, 1))]
def u_X10_setLeast : Fx := (yX10_setLeast, (cX10_setLeast, (1, (none, tb_X10_setLeast))))
theorem tk_X10_setLeast : ∀ q ∈ u_X10_setLeast.2.2.2.2, decode u_X10_setLeast.2.1 q.1 = .ok q.2 := by decide +kernel
theorem mc_X10_setLeast : MC u_X10_setLeast 1 := ⟨tbm 168 (by decide +kernel) rfl, tbm 117 (by decide +kernel) rfl, ⟨by decide, by decide, by decide +kernel⟩, by decide⟩
theorem st_X10_setLeast : Cond.static u_X10_setLeast.1 ∈ TB := tbm 167 (by decide +kernel) rfl
def f_X10_setLeast (t : List Sh) (m : Mi) (a0 : Nat) : Option (Mi) :=
  (f_J7_fill_d0a16 t m a0 0).bind fun m1 =>
  (f_X10_setIdentifier t m1 a0 1).bind fun m2 =>
  some m2
set_option maxRecDepth 4000 in
set_option maxHeartbeats 4000000 in
theorem sm_X10_setLeast (t : List Sh) (m : Mi) (a0 : Nat) : Sm u_X10_setLeast (2, 0, 0, t.length, zs t) (kV t) 0 [(0, .inr (.inr a0))] [] (t, m) (f_X10_setLeast t m a0) := by
  unfold f_X10_setLeast
  refine r_aload_n 0 1 0 rfl rfl rfl rfl ?_
  refine r_lconst 1 2 (v := 0) rfl rfl (by decide) ?_
  refine r_SV 2 5 (a := 0) (cn := 0) (st := []) (av := [.inr (.inr a0), .inr (.inl 0)]) (μ' := u_J7_fill_d0a16) (d := 1) rfl rfl mc_J7_fill_d0a16 st_J7_fill_d0a16 lk_RX10_29 (Nat.le_of_ble_eq_true rfl) rfl (Nat.le_of_ble_eq_true rfl) (fun _ h => ct_J7_fill_d0a16 h) (fun m1 => ?_)
  refine r_aload_n 3 6 0 rfl rfl rfl rfl ?_
  refine r_lconst 4 7 (v := 1) rfl rfl (by decide) ?_
  refine r_SV 5 10 (a := 0) (cn := 0) (st := []) (av := [.inr (.inr a0), .inr (.inl 1)]) (μ' := u_X10_setIdentifier) (d := 1) rfl rfl mc_X10_setIdentifier st_X10_setIdentifier lk_RX10_37 (Nat.le_of_ble_eq_true rfl) rfl (Nat.le_of_ble_eq_true rfl) (fun _ h => ct_X10_setIdentifier h) (fun m2 => ?_)
  exact r_vret 6 rfl rfl rfl
theorem ct_X10_setLeast {t : List Sh} {m : Mi} {a0 : Nat} {m' : Mi}  (h : f_X10_setLeast t m a0 = some m') : Ct u_X10_setLeast 2 0 0 [.inr (.inr a0)] (t, m) (none, (t, m')) :=
  ct_of (by decide) tk_X10_setLeast (Nat.le_of_ble_eq_true rfl) (sm_X10_setLeast t m a0) (by rw [h]; rfl) (Nat.le_refl _) (Nat.le_refl _)
def tb_X10_setNext : Tb := [(0, (.aload_n 0, 1)), (1, (.iconst 0, 1)), (2, (.invokestatic 68, 3)), (5, (.ifCond .ne 5, 3)), (8, (.iconst 0, 1)), (9, (.ireturn, 1)), (10, (.aload_n 0, 1)), (11, (.iconst 3, 1)), (12, (.laload, 1)), (13, (.ldc2_w 35, 3)), (16, (.lcmp, 1)), (17, (.ifCond .ne 16, 3)), (20, (.aload_n 0, 1)), (21, (.iconst 2, 1)), (22, (.dup2, 1)), (23, (.laload, 1)), (24, (.lconst 1, 1)), (25, (.ladd, 1)), (26, (.lastore, 1)), (27, (.aload_n 0, 1)), (28, (.iconst 3, 1)), (29, (.lconst 1, 1)), (30, (.lastore, 1)), (31, (.iconst 1, 1)), (32, (.ireturn, 1)), (33, (.iconst 3, 1)), (34, (.istore_n 1, 1)), (35, (.iload_n 1, 1)), (36, (.bipush 8, 2)), (38, (.if_icmp .ge 23, 3)), (41, (.aload_n 0, 1)), (42, (.iload_n 1, 1)), (43, (.laload, 1)), (44, (.lconst 0, 1)), (45, (.lcmp, 1)), (46, (.ifCond .ne 9, 3)), (49, (.aload_n 0, 1)), (50, (.iload_n 1, 1)), (51, (.lconst 1, 1)), (52, (.lastore, 1)), (53, (.iconst 1, 1)), (54, (.ireturn, 1)), (55, (.iinc 1 1, 3)), (58, (.goto (-23), 3)), (61, (.iconst 0, 1)), (62, (.ireturn, 1))]
def u_X10_setNext : Fx := (yX10_setNext, (cX10_setNext, (2, ((some .boolean), tb_X10_setNext))))
theorem tk_X10_setNext : ∀ q ∈ u_X10_setNext.2.2.2.2, decode u_X10_setNext.2.1 q.1 = .ok q.2 := by decide +kernel
theorem mc_X10_setNext : MC u_X10_setNext 1 := ⟨tbm 915 (by decide +kernel) rfl, tbm 117 (by decide +kernel) rfl, ⟨by decide, by decide, by decide +kernel⟩, by decide⟩
theorem st_X10_setNext : Cond.static u_X10_setNext.1 ∈ TB := tbm 914 (by decide +kernel) rfl
def f_X10_setNext_j49 (t : List Sh) (m : Mi) (a0 : Nat) (a1 : Int32) : Option (Int32 × Mi) :=
  (if ar t a0 .long a1 = true then
  lt (sl m a0 (ix a1) 1) fun m9 =>
  some (1, m9)
  else none)
def f_X10_setNext_j61 (t : List Sh) (m : Mi) : Option (Int32 × Mi) :=
  some (0, m)
def f_X10_setNext_l35 (t : List Sh) (m : Mi) (a0 : Nat) (a1 : Int32) : Option ((Int32) ⊕ ((Unit) ⊕ (Int32))) :=
  if 8 ≤ a1 then
    some (.inr (.inl ()))
  else
    (if ar t a0 .long a1 = true then
    if (lg_cmp (gl m a0 (ix a1)) 0) = 0 then
      some (.inr (.inr a1))
    else
      lt (a1 + 1) fun x13 =>
      some (.inl x13)
    else none)
def f_X10_setNext_j35 (t : List Sh) (m : Mi) (a0 : Nat) (a1 : Int32) : Option (Int32 × Mi) :=
  (lp (fun x : Int32 => f_X10_setNext_l35 t m a0 x) FUEL a1).bind (Sum.elim (fun y : Unit => f_X10_setNext_j61 t m) (fun y : Int32 => f_X10_setNext_j49 t m a0 y))
def f_X10_setNext (t : List Sh) (m : Mi) (a0 : Nat) : Option (Int32 × Mi) :=
  (f_X10_fits t m a0 0).bind fun x1 =>
  if x1 = 0 then
    some (0, m)
  else
    (if ar t a0 .long 3 = true then
    if (lg_cmp (gl m a0 (ix 3)) 9223372036854775807) = 0 then
      (if ar t a0 .long 2 = true then
      lt (sl m a0 (ix 2) ((gl m a0 (ix 2)) + 1)) fun m6 =>
      lt (sl m6 a0 (ix 3) 1) fun m7 =>
      some (1, m7)
      else none)
    else
      f_X10_setNext_j35 t m a0 3
    else none)
set_option maxRecDepth 4000 in
set_option maxHeartbeats 4000000 in
theorem sm_X10_setNext (t : List Sh) (m : Mi) (a0 : Nat) : Sm u_X10_setNext (2, 0, 0, t.length, zs t) (kI t) 0 [(0, .inr (.inr a0))] [] (t, m) (f_X10_setNext t m a0) := by
  unfold f_X10_setNext
  refine r_aload_n 0 1 0 rfl rfl rfl rfl ?_
  refine r_iconst 1 2 (v := 0) rfl rfl (by decide) ?_
  refine r_SIo 2 5 (a := 0) (cn := 0) (st := []) (av := [.inr (.inr a0), .inl 0]) (μ' := u_X10_fits) (d := 1) rfl rfl mc_X10_fits st_X10_fits lk_RX10_68 (Nat.le_of_ble_eq_true rfl) rfl (Nat.le_of_ble_eq_true rfl) (fun _ h => ct_X10_fits h) (fun x1 => ?_)
  refine r_if_ne 3 10 8 rfl rfl rfl (fun h2 => ?_) (fun h2 => ?_)
  · refine r_iconst 4 9 (v := 0) rfl rfl (by decide) ?_
    exact r_zret 5 rfl rfl (by decide) rfl
  · refine r_aload_n 6 11 0 rfl rfl rfl rfl ?_
    refine r_iconst 7 12 (v := 3) rfl rfl (by decide) ?_
    refine r_gd (fun h3 => ?_)
    refine r_lald 8 13 rfl rfl h3 ?_
    refine r_ldc2 9 16 rfl rfl kc_RX10_35 ?_
    refine r_lcmp 10 17 rfl rfl ?_
    refine r_if_ne 11 33 20 rfl rfl rfl (fun h4 => ?_) (fun h4 => ?_)
    · refine r_aload_n 12 21 0 rfl rfl rfl rfl ?_
      refine r_iconst 13 22 (v := 2) rfl rfl (by decide) ?_
      refine r_dup2 14 23 rfl rfl rfl rfl ?_
      refine r_gd (fun h5 => ?_)
      refine r_lald 15 24 rfl rfl h5 ?_
      refine r_lconst 16 25 (v := 1) rfl rfl (by decide) ?_
      refine r_ladd 17 26 rfl rfl ?_
      refine r_last 18 27 rfl rfl h5 ?_
      refine r_ltM (fun m6 => ?_)
      refine r_aload_n 19 28 0 rfl rfl rfl rfl ?_
      refine r_iconst 20 29 (v := 3) rfl rfl (by decide) ?_
      refine r_lconst 21 30 (v := 1) rfl rfl (by decide) ?_
      refine r_last 22 31 rfl rfl h3 ?_
      refine r_ltM (fun m7 => ?_)
      refine r_iconst 23 32 (v := 1) rfl rfl (by decide) ?_
      exact r_zret 24 rfl rfl (by decide) rfl
    · refine r_iconst 25 34 (v := 3) rfl rfl (by decide) ?_
      refine r_istore_n 26 35 (L' := [(1, .inl 3), (0, .inr (.inr a0))]) rfl rfl rfl (by decide) rfl ?_
      have hj35 : ∀ (m : Mi) (a1 : Int32), Sm u_X10_setNext (2, 0, 0, t.length, zs t) (kI t) 35 [(0, .inr (.inr a0)), (1, .inl a1)] [] (t, m) (f_X10_setNext_j35 t m a0 a1) := by
        intro m a1
        unfold f_X10_setNext_j35
        have hj49 : ∀ (m : Mi) (a1 : Int32), Sm u_X10_setNext (2, 0, 0, t.length, zs t) (kI t) 49 [(0, .inr (.inr a0)), (1, .inl a1)] [] (t, m) (f_X10_setNext_j49 t m a0 a1) := by
          intro m a1
          unfold f_X10_setNext_j49
          refine r_aload_n 36 50 0 rfl rfl rfl rfl ?_
          refine r_iload_n 37 51 1 rfl rfl rfl rfl ?_
          refine r_lconst 38 52 (v := 1) rfl rfl (by decide) ?_
          refine r_gd (fun h8 => ?_)
          refine r_last 39 53 rfl rfl h8 ?_
          refine r_ltM (fun m9 => ?_)
          refine r_iconst 40 54 (v := 1) rfl rfl (by decide) ?_
          exact r_zret 41 rfl rfl (by decide) rfl
        have hj61 : ∀ (m : Mi), Sm u_X10_setNext (2, 0, 0, t.length, zs t) (kI t) 61 [] [] (t, m) (f_X10_setNext_j61 t m) := by
          intro m
          unfold f_X10_setNext_j61
          refine r_iconst 44 62 (v := 0) rfl rfl (by decide) ?_
          exact r_zret 45 rfl rfl (by decide) rfl
        refine r_lp (Lf := fun x : Int32 => [(0, .inr (.inr a0)), (1, .inl x)]) (Mf := fun x : Int32 => (t, m)) a1 ?_ FUEL
        rintro a1 κ35 hc35 he35
        refine r_eq (L' := [(0, .inr (.inr a0)), (1, .inl a1)]) (M' := (t, m)) rfl rfl ?_
        refine r_eqr (r' := f_X10_setNext_l35 t m a0 a1) rfl ?_
        unfold f_X10_setNext_l35
        refine r_iload_n 27 36 1 rfl rfl rfl rfl ?_
        refine r_bipush 28 38 (v := 8) rfl rfl (by decide) ?_
        refine r_icmp_ge 29 61 41 rfl rfl rfl (fun h10 => ?_) (fun h10 => ?_)
        · refine r_leaf (r2 := (f_X10_setNext_j61 t m : Option (Int32 × Mi))) (he35 _) ?_
          exact r_sub [] rfl (hj61 m)
        · refine r_aload_n 30 42 0 rfl rfl rfl rfl ?_
          refine r_iload_n 31 43 1 rfl rfl rfl rfl ?_
          refine r_gd (fun h11 => ?_)
          refine r_lald 32 44 rfl rfl h11 ?_
          refine r_lconst 33 45 (v := 0) rfl rfl (by decide) ?_
          refine r_lcmp 34 46 rfl rfl ?_
          refine r_if_ne 35 55 49 rfl rfl rfl (fun h12 => ?_) (fun h12 => ?_)
          · refine r_leaf (r2 := (f_X10_setNext_j49 t m a0 a1 : Option (Int32 × Mi))) (he35 _) ?_
            exact hj49 m a1
          · refine r_iinc 42 58 1 (L' := [(1, .inl (a1 + 1)), (0, .inr (.inr a0))]) rfl rfl rfl (by decide) rfl ?_
            refine r_ltV (fun x13 => ?_)
            refine r_goto 43 35 rfl rfl ?_
            exact r_sub [1, 0] rfl (hc35 x13)
      exact r_sub [1, 0] rfl (hj35 m 3)
theorem ct_X10_setNext {t : List Sh} {m : Mi} {a0 : Nat} {m' : Mi} {v : Int32}  (h : f_X10_setNext t m a0 = some (v, m')) : Ct u_X10_setNext 2 0 0 [.inr (.inr a0)] (t, m) (some (.inl v), (t, m')) :=
  ct_of (by decide) tk_X10_setNext (Nat.le_of_ble_eq_true rfl) (sm_X10_setNext t m a0) (by rw [h]; rfl) (Nat.le_refl _) (Nat.le_refl _)
theorem lk_RX10_65 : Cond.methodLink RX10 65 yX10_isIdentifierSign ∈ TB := tbm 726 (by decide +kernel) rfl
theorem kc_RX10_59 : Cond.constantLong RX10 59 (10) ∈ TB := tbm 713 (by decide +kernel) rfl
theorem lk_RX10_55 : Cond.methodLink RX10 55 yX10_isDigit ∈ TB := tbm 712 (by decide +kernel) rfl
def tb_X10_takeKey : Tb := [(0, (.aload_n 0, 1)), (1, (.getfield 23, 3)), (4, (.istore_n 2, 1)), (5, (.lconst 0, 1)), (6, (.lstore_n 3, 1)), (7, (.lconst 0, 1)), (8, (.lstore 5, 2)), (10, (.iconst 1, 1)), (11, (.istore 7, 2)), (13, (.aload_n 0, 1)), (14, (.getfield 23, 3)), (17, (.iload_n 2, 1)), (18, (.isub, 1)), (19, (.bipush 8, 2)), (21, (.if_icmp .gt 92, 3)), (24, (.aload_n 0, 1)), (25, (.aload_n 0, 1)), (26, (.getfield 23, 3)), (29, (.invokevirtual 47, 3)), (32, (.invokestatic 65, 3)), (35, (.ifCond .eq 78, 3)), (38, (.lload_n 3, 1)), (39, (.bipush 8, 2)), (41, (.lshl, 1)), (42, (.aload_n 0, 1)), (43, (.aload_n 0, 1)), (44, (.getfield 23, 3)), (47, (.invokevirtual 47, 3)), (50, (.i2l, 1)), (51, (.lor, 1)), (52, (.lstore_n 3, 1)), (53, (.lload 5, 2)), (55, (.ldc2_w 59, 3)), (58, (.lmul, 1)), (59, (.aload_n 0, 1)), (60, (.aload_n 0, 1)), (61, (.getfield 23, 3)), (64, (.invokevirtual 47, 3)), (67, (.bipush 48, 2)), (69, (.isub, 1)), (70, (.i2l, 1)), (71, (.ladd, 1)), (72, (.lstore 5, 2)), (74, (.iload 7, 2)), (76, (.ifCond .eq 21, 3)), (79, (.aload_n 0, 1)), (80, (.aload_n 0, 1)), (81, (.getfield 23, 3)), (84, (.invokevirtual 47, 3)), (87, (.invokestatic 55, 3)), (90, (.ifCond .eq 7, 3)), (93, (.iconst 1, 1)), (94, (.goto 4, 3)), (97, (.iconst 0, 1)), (98, (.istore 7, 2)), (100, (.aload_n 0, 1)), (101, (.dup, 1)), (102, (.getfield 23, 3)), (105, (.iconst 1, 1)), (106, (.iadd, 1)), (107, (.putfield 23, 3)), (110, (.goto (-97), 3)), (113, (.aload_n 0, 1)), (114, (.getfield 23, 3)), (117, (.iload_n 2, 1)), (118, (.isub, 1)), (119, (.istore 8, 2)), (121, (.iload 8, 2)), (123, (.iconst 1, 1)), (124, (.if_icmp .lt 10, 3)), (127, (.iload 8, 2)), (129, (.bipush 8, 2)), (131, (.if_icmp .le 5, 3)), (134, (.lconst 0, 1)), (135, (.lreturn, 1)), (136, (.iload 7, 2)), (138, (.ifCond .ne 14, 3)), (141, (.lload_n 3, 1)), (142, (.bipush 8, 2)), (144, (.bipush 8, 2)), (146, (.iload 8, 2)), (148, (.isub, 1)), (149, (.imul, 1)), (150, (.lshl, 1)), (151, (.lreturn, 1)), (152, (.iload_n 1, 1)), (153, (.ifCond .eq 21, 3)), (156, (.iload 8, 2)), (158, (.iconst 1, 1)), (159, (.if_icmp .le 15, 3)), (162, (.aload_n 0, 1)), (163, (.iload_n 2, 1)), (164, (.invokevirtual 47, 3)), (167, (.bipush 48, 2)), (169, (.if_icmp .ne 5, 3)), (172, (.lconst 0, 1)), (173, (.lreturn, 1)), (174, (.lconst 1, 1)), (175, (.lload 5, 2)), (177, (.ladd, 1)), (178, (.lreturn, 1))]
def u_X10_takeKey : Fx := (yX10_takeKey, (cX10_takeKey, (9, ((some .long), tb_X10_takeKey))))
theorem tk_X10_takeKey : ∀ q ∈ u_X10_takeKey.2.2.2.2, decode u_X10_takeKey.2.1 q.1 = .ok q.2 := by decide +kernel
theorem mc_X10_takeKey : MC u_X10_takeKey 1 := ⟨tbm 725 (by decide +kernel) rfl, tbm 117 (by decide +kernel) rfl, ⟨by decide, by decide, by decide +kernel⟩, by decide⟩
theorem in_X10_takeKey : Cond.instanceMethod u_X10_takeKey.1 ∈ TB ∧ Cond.selects u_X10_takeKey.1.cls u_X10_takeKey.1 u_X10_takeKey.1 ∈ TB := ⟨tbm 724 (by decide +kernel) rfl, tbm 15 (by decide +kernel) rfl⟩
def f_X10_takeKey_j113 (t : List Sh) (m : Mi) (a0 : Nat) (a1 : Int32) (a2 : Int32) (a3 : Int64) (a5 : Int64) (a7 : Int32) : Option (Int64 × Mi) :=
  lt ((gi m a0 3) - a2) fun x2 =>
  if x2 < 1 then
    some (0, m)
  else
    if x2 ≤ 8 then
      if a7 = 0 then
        some (a3 <<< (Int32.toInt64 (8 * (8 - x2)) &&& 63), m)
      else
        if a1 = 0 then
          some (1 + a5, m)
        else
          if x2 ≤ 1 then
            some (1 + a5, m)
          else
            (f_X10_signAt t m a0 a2).bind fun x8 =>
            if x8 = 48 then
              some (0, m)
            else
              some (1 + a5, m)
    else
      some (0, m)
def f_X10_takeKey_j98 (t : List Sh) (m : Mi) (a0 : Nat) (a1 : Int32) (a2 : Int32) (a3 : Int64) (a5 : Int64) (s0 : Int32) : Option ((Int64 × Int64 × Int32 × Mi) ⊕ ((Int64 × Int64 × Int32 × Mi))) :=
  lt (si m a0 3 ((gi m a0 3) + 1)) fun m18 =>
  some (.inl (a3, a5, s0, m18))
def f_X10_takeKey_j97 (t : List Sh) (m : Mi) (a0 : Nat) (a1 : Int32) (a2 : Int32) (a3 : Int64) (a5 : Int64) : Option ((Int64 × Int64 × Int32 × Mi) ⊕ ((Int64 × Int64 × Int32 × Mi))) :=
  f_X10_takeKey_j98 t m a0 a1 a2 a3 a5 0
def f_X10_takeKey_l13 (t : List Sh) (m : Mi) (a0 : Nat) (a1 : Int32) (a2 : Int32) (a3 : Int64) (a5 : Int64) (a7 : Int32) : Option ((Int64 × Int64 × Int32 × Mi) ⊕ ((Int64 × Int64 × Int32 × Mi))) :=
  if 8 < ((gi m a0 3) - a2) then
    some (.inr (a3, a5, a7, m))
  else
    (f_X10_signAt t m a0 (gi m a0 3)).bind fun x11 =>
    (f_X10_isIdentifierSign x11).bind fun x12 =>
    if x12 = 0 then
      some (.inr (a3, a5, a7, m))
    else
      (f_X10_signAt t m a0 (gi m a0 3)).bind fun x14 =>
      lt ((a3 <<< (Int32.toInt64 8 &&& 63)) ||| (Int32.toInt64 x14)) fun x15 =>
      (f_X10_signAt t m a0 (gi m a0 3)).bind fun x16 =>
      lt ((a5 * 10) + (Int32.toInt64 (x16 - 48))) fun x17 =>
      if a7 = 0 then
        f_X10_takeKey_j97 t m a0 a1 a2 x15 x17
      else
        (f_X10_signAt t m a0 (gi m a0 3)).bind fun x20 =>
        (f_X10_isDigit x20).bind fun x21 =>
        if x21 = 0 then
          f_X10_takeKey_j97 t m a0 a1 a2 x15 x17
        else
          f_X10_takeKey_j98 t m a0 a1 a2 x15 x17 1
def f_X10_takeKey_j13 (t : List Sh) (m : Mi) (a0 : Nat) (a1 : Int32) (a2 : Int32) (a3 : Int64) (a5 : Int64) (a7 : Int32) : Option (Int64 × Mi) :=
  (lp (fun x : Int64 × Int64 × Int32 × Mi => f_X10_takeKey_l13 t x.2.2.2 a0 a1 a2 x.1 x.2.1 x.2.2.1) FUEL (a3, a5, a7, m)).bind (fun y : Int64 × Int64 × Int32 × Mi => f_X10_takeKey_j113 t (y.2.2.2) a0 a1 a2 (y.1) (y.2.1) (y.2.2.1))
def f_X10_takeKey (t : List Sh) (m : Mi) (a0 : Nat) (a1 : Int32) : Option (Int64 × Mi) :=
  lt (gi m a0 3) fun x1 =>
  f_X10_takeKey_j13 t m a0 a1 x1 0 0 1
set_option maxRecDepth 4000 in
set_option maxHeartbeats 4000000 in
theorem sm_X10_takeKey (t : List Sh) (m : Mi) (a0 : Nat) (a1 : Int32) (h0 : sh t a0 = some (.inl 10)) : Sm u_X10_takeKey (2, 0, 0, t.length, zs t) (kL t) 0 [(0, .inr (.inr a0)), (1, .inl a1)] [] (t, m) (f_X10_takeKey t m a0 a1) := by
  unfold f_X10_takeKey
  refine r_aload_n 0 1 0 rfl rfl rfl rfl ?_
  refine r_getI 1 4 rfl rfl fl_RX10_23 rfl h0 ?_
  refine r_ltI (fun x1 => ?_)
  refine r_istore_n 2 5 (L' := [(2, .inl x1), (0, .inr (.inr a0)), (1, .inl a1)]) rfl rfl rfl (by decide) rfl ?_
  refine r_lconst 3 6 (v := 0) rfl rfl (by decide) ?_
  refine r_lstore_n 4 7 (L' := [(3, .inr (.inl 0)), (2, .inl x1), (0, .inr (.inr a0)), (1, .inl a1)]) rfl rfl rfl (by decide) rfl ?_
  refine r_lconst 5 8 (v := 0) rfl rfl (by decide) ?_
  refine r_lstore 6 10 (L' := [(5, .inr (.inl 0)), (3, .inr (.inl 0)), (2, .inl x1), (0, .inr (.inr a0)), (1, .inl a1)]) rfl rfl (by decide) rfl ?_
  refine r_iconst 7 11 (v := 1) rfl rfl (by decide) ?_
  refine r_istore 8 13 (L' := [(7, .inl 1), (5, .inr (.inl 0)), (3, .inr (.inl 0)), (2, .inl x1), (0, .inr (.inr a0)), (1, .inl a1)]) rfl rfl (by decide) rfl ?_
  have hj13 : ∀ (m : Mi) (a2 : Int32) (a3 : Int64) (a5 : Int64) (a7 : Int32), Sm u_X10_takeKey (2, 0, 0, t.length, zs t) (kL t) 13 [(0, .inr (.inr a0)), (1, .inl a1), (2, .inl a2), (3, .inr (.inl a3)), (5, .inr (.inl a5)), (7, .inl a7)] [] (t, m) (f_X10_takeKey_j13 t m a0 a1 a2 a3 a5 a7) := by
    intro m a2 a3 a5 a7
    unfold f_X10_takeKey_j13
    have hj113 : ∀ (m : Mi) (a2 : Int32) (a3 : Int64) (a5 : Int64) (a7 : Int32), Sm u_X10_takeKey (2, 0, 0, t.length, zs t) (kL t) 113 [(0, .inr (.inr a0)), (1, .inl a1), (2, .inl a2), (3, .inr (.inl a3)), (5, .inr (.inl a5)), (7, .inl a7)] [] (t, m) (f_X10_takeKey_j113 t m a0 a1 a2 a3 a5 a7) := by
      intro m a2 a3 a5 a7
      unfold f_X10_takeKey_j113
      refine r_aload_n 62 114 0 rfl rfl rfl rfl ?_
      refine r_getI 63 117 rfl rfl fl_RX10_23 rfl h0 ?_
      refine r_iload_n 64 118 2 rfl rfl rfl rfl ?_
      refine r_isub 65 119 rfl rfl ?_
      refine r_ltI (fun x2 => ?_)
      refine r_istore 66 121 (L' := [(8, .inl x2), (0, .inr (.inr a0)), (1, .inl a1), (2, .inl a2), (3, .inr (.inl a3)), (5, .inr (.inl a5)), (7, .inl a7)]) rfl rfl (by decide) rfl ?_
      refine r_iload 67 123 0 rfl rfl rfl ?_
      refine r_iconst 68 124 (v := 1) rfl rfl (by decide) ?_
      refine r_icmp_lt 69 134 127 rfl rfl rfl (fun h3 => ?_) (fun h3 => ?_)
      · refine r_lconst 73 135 (v := 0) rfl rfl (by decide) ?_
        exact r_lret 74 rfl rfl rfl
      · refine r_iload 70 129 0 rfl rfl rfl ?_
        refine r_bipush 71 131 (v := 8) rfl rfl (by decide) ?_
        refine r_icmp_le 72 136 134 rfl rfl rfl (fun h4 => ?_) (fun h4 => ?_)
        · refine r_iload 75 138 6 rfl rfl rfl ?_
          refine r_if_ne 76 152 141 rfl rfl rfl (fun h5 => ?_) (fun h5 => ?_)
          · refine r_lload_n 77 142 4 rfl rfl rfl rfl ?_
            refine r_bipush 78 144 (v := 8) rfl rfl (by decide) ?_
            refine r_bipush 79 146 (v := 8) rfl rfl (by decide) ?_
            refine r_iload 80 148 0 rfl rfl rfl ?_
            refine r_isub 81 149 rfl rfl ?_
            refine r_imul 82 150 rfl rfl ?_
            refine r_lshl 83 151 rfl rfl ?_
            exact r_lret 84 rfl rfl rfl
          · refine r_iload_n 85 153 2 rfl rfl rfl rfl ?_
            refine r_if_eq 86 174 156 rfl rfl rfl (fun h6 => ?_) (fun h6 => ?_)
            · refine r_lconst 97 175 (v := 1) rfl rfl (by decide) ?_
              refine r_lload 98 177 5 rfl rfl rfl ?_
              refine r_ladd 99 178 rfl rfl ?_
              exact r_lret 100 rfl rfl rfl
            · refine r_iload 87 158 0 rfl rfl rfl ?_
              refine r_iconst 88 159 (v := 1) rfl rfl (by decide) ?_
              refine r_icmp_le 89 174 162 rfl rfl rfl (fun h7 => ?_) (fun h7 => ?_)
              · refine r_lconst 97 175 (v := 1) rfl rfl (by decide) ?_
                refine r_lload 98 177 5 rfl rfl rfl ?_
                refine r_ladd 99 178 rfl rfl ?_
                exact r_lret 100 rfl rfl rfl
              · refine r_aload_n 90 163 1 rfl rfl rfl rfl ?_
                refine r_iload_n 91 164 3 rfl rfl rfl rfl ?_
                refine r_VIo 92 167 (st := []) (av := [.inr (.inr a0), .inl a2]) (av' := [.inl a2]) (μ' := u_X10_signAt) (d := 1) rfl rfl mc_X10_signAt in_X10_signAt lk_RX10_47 (Nat.le_of_ble_eq_true rfl) rfl rfl h0 rfl (Nat.le_of_ble_eq_true rfl) (fun _ h => ct_X10_signAt h0 h) (fun x8 => ?_)
                refine r_bipush 93 169 (v := 48) rfl rfl (by decide) ?_
                refine r_icmp_ne 94 174 172 rfl rfl rfl (fun h9 => ?_) (fun h9 => ?_)
                · refine r_lconst 95 173 (v := 0) rfl rfl (by decide) ?_
                  exact r_lret 96 rfl rfl rfl
                · refine r_lconst 97 175 (v := 1) rfl rfl (by decide) ?_
                  refine r_lload 98 177 5 rfl rfl rfl ?_
                  refine r_ladd 99 178 rfl rfl ?_
                  exact r_lret 100 rfl rfl rfl
        · refine r_lconst 73 135 (v := 0) rfl rfl (by decide) ?_
          exact r_lret 74 rfl rfl rfl
    refine r_lp (Lf := fun x : Int64 × Int64 × Int32 × Mi => [(0, .inr (.inr a0)), (1, .inl a1), (2, .inl a2), (3, .inr (.inl (x.1))), (5, .inr (.inl (x.2.1))), (7, .inl (x.2.2.1))]) (Mf := fun x : Int64 × Int64 × Int32 × Mi => (t, x.2.2.2)) (a3, a5, a7, m) ?_ FUEL
    rintro ⟨a3, a5, a7, m⟩ κ13 hc13 he13
    refine r_eq (L' := [(0, .inr (.inr a0)), (1, .inl a1), (2, .inl a2), (3, .inr (.inl a3)), (5, .inr (.inl a5)), (7, .inl a7)]) (M' := (t, m)) rfl rfl ?_
    refine r_eqr (r' := f_X10_takeKey_l13 t m a0 a1 a2 a3 a5 a7) rfl ?_
    unfold f_X10_takeKey_l13
    refine r_aload_n 9 14 0 rfl rfl rfl rfl ?_
    refine r_getI 10 17 rfl rfl fl_RX10_23 rfl h0 ?_
    refine r_iload_n 11 18 2 rfl rfl rfl rfl ?_
    refine r_isub 12 19 rfl rfl ?_
    refine r_bipush 13 21 (v := 8) rfl rfl (by decide) ?_
    refine r_icmp_gt 14 113 24 rfl rfl rfl (fun h10 => ?_) (fun h10 => ?_)
    · refine r_leaf (r2 := (f_X10_takeKey_j113 t m a0 a1 a2 a3 a5 a7 : Option (Int64 × Mi))) (he13 _) ?_
      exact hj113 m a2 a3 a5 a7
    · refine r_aload_n 15 25 0 rfl rfl rfl rfl ?_
      refine r_aload_n 16 26 0 rfl rfl rfl rfl ?_
      refine r_getI 17 29 rfl rfl fl_RX10_23 rfl h0 ?_
      refine r_VIo 18 32 (st := []) (av := [.inr (.inr a0), .inl (gi m a0 3)]) (av' := [.inl (gi m a0 3)]) (μ' := u_X10_signAt) (d := 1) rfl rfl mc_X10_signAt in_X10_signAt lk_RX10_47 (Nat.le_of_ble_eq_true rfl) rfl rfl h0 rfl (Nat.le_of_ble_eq_true rfl) (fun _ h => ct_X10_signAt h0 h) (fun x11 => ?_)
      refine r_SIo 19 35 (a := 0) (cn := 0) (st := []) (av := [.inl x11]) (μ' := u_X10_isIdentifierSign) (d := 1) rfl rfl mc_X10_isIdentifierSign st_X10_isIdentifierSign lk_RX10_65 (Nat.le_of_ble_eq_true rfl) rfl (Nat.le_of_ble_eq_true rfl) (fun _ h => ct_X10_isIdentifierSign h) (fun x12 => ?_)
      refine r_if_eq 20 113 38 rfl rfl rfl (fun h13 => ?_) (fun h13 => ?_)
      · refine r_leaf (r2 := (f_X10_takeKey_j113 t m a0 a1 a2 a3 a5 a7 : Option (Int64 × Mi))) (he13 _) ?_
        exact hj113 m a2 a3 a5 a7
      · refine r_lload_n 21 39 3 rfl rfl rfl rfl ?_
        refine r_bipush 22 41 (v := 8) rfl rfl (by decide) ?_
        refine r_lshl 23 42 rfl rfl ?_
        refine r_aload_n 24 43 0 rfl rfl rfl rfl ?_
        refine r_aload_n 25 44 0 rfl rfl rfl rfl ?_
        refine r_getI 26 47 rfl rfl fl_RX10_23 rfl h0 ?_
        refine r_VIo 27 50 (st := [.inr (.inl (a3 <<< (Int32.toInt64 8 &&& 63)))]) (av := [.inr (.inr a0), .inl (gi m a0 3)]) (av' := [.inl (gi m a0 3)]) (μ' := u_X10_signAt) (d := 1) rfl rfl mc_X10_signAt in_X10_signAt lk_RX10_47 (Nat.le_of_ble_eq_true rfl) rfl rfl h0 rfl (Nat.le_of_ble_eq_true rfl) (fun _ h => ct_X10_signAt h0 h) (fun x14 => ?_)
        refine r_i2l 28 51 rfl rfl ?_
        refine r_lor 29 52 rfl rfl ?_
        refine r_ltL (fun x15 => ?_)
        refine r_lstore_n 30 53 (L' := [(3, .inr (.inl x15)), (0, .inr (.inr a0)), (1, .inl a1), (2, .inl a2), (5, .inr (.inl a5)), (7, .inl a7)]) rfl rfl rfl (by decide) rfl ?_
        refine r_lload 31 55 4 rfl rfl rfl ?_
        refine r_ldc2 32 58 rfl rfl kc_RX10_59 ?_
        refine r_lmul 33 59 rfl rfl ?_
        refine r_aload_n 34 60 1 rfl rfl rfl rfl ?_
        refine r_aload_n 35 61 1 rfl rfl rfl rfl ?_
        refine r_getI 36 64 rfl rfl fl_RX10_23 rfl h0 ?_
        refine r_VIo 37 67 (st := [.inr (.inl (a5 * 10))]) (av := [.inr (.inr a0), .inl (gi m a0 3)]) (av' := [.inl (gi m a0 3)]) (μ' := u_X10_signAt) (d := 1) rfl rfl mc_X10_signAt in_X10_signAt lk_RX10_47 (Nat.le_of_ble_eq_true rfl) rfl rfl h0 rfl (Nat.le_of_ble_eq_true rfl) (fun _ h => ct_X10_signAt h0 h) (fun x16 => ?_)
        refine r_bipush 38 69 (v := 48) rfl rfl (by decide) ?_
        refine r_isub 39 70 rfl rfl ?_
        refine r_i2l 40 71 rfl rfl ?_
        refine r_ladd 41 72 rfl rfl ?_
        refine r_ltL (fun x17 => ?_)
        refine r_lstore 42 74 (L' := [(5, .inr (.inl x17)), (3, .inr (.inl x15)), (0, .inr (.inr a0)), (1, .inl a1), (2, .inl a2), (7, .inl a7)]) rfl rfl (by decide) rfl ?_
        refine r_iload 43 76 5 rfl rfl rfl ?_
        have hj98 : ∀ (m : Mi) (a3 : Int64) (a5 : Int64) (s0 : Int32), Sm u_X10_takeKey (2, 0, 0, t.length, zs t) κ13 98 [(0, .inr (.inr a0)), (1, .inl a1), (2, .inl a2), (3, .inr (.inl a3)), (5, .inr (.inl a5))] [.inl s0] (t, m) (f_X10_takeKey_j98 t m a0 a1 a2 a3 a5 s0) := by
          intro m a3 a5 s0
          unfold f_X10_takeKey_j98
          refine r_istore 54 100 (L' := [(7, .inl s0), (0, .inr (.inr a0)), (1, .inl a1), (2, .inl a2), (3, .inr (.inl a3)), (5, .inr (.inl a5))]) rfl rfl (by decide) rfl ?_
          refine r_aload_n 55 101 1 rfl rfl rfl rfl ?_
          refine r_dup 56 102 rfl rfl rfl ?_
          refine r_getI 57 105 rfl rfl fl_RX10_23 rfl h0 ?_
          refine r_iconst 58 106 (v := 1) rfl rfl (by decide) ?_
          refine r_iadd 59 107 rfl rfl ?_
          refine r_putI 60 110 rfl rfl fl_RX10_23 (fun h => by cases h) (Or.inl rfl) h0 ?_
          refine r_ltM (fun m18 => ?_)
          refine r_goto 61 13 rfl rfl ?_
          exact r_sub [1, 2, 3, 4, 5, 0] rfl (hc13 (a3, a5, s0, m18))
        have hj97 : ∀ (m : Mi) (a3 : Int64) (a5 : Int64), Sm u_X10_takeKey (2, 0, 0, t.length, zs t) κ13 97 [(0, .inr (.inr a0)), (1, .inl a1), (2, .inl a2), (3, .inr (.inl a3)), (5, .inr (.inl a5))] [] (t, m) (f_X10_takeKey_j97 t m a0 a1 a2 a3 a5) := by
          intro m a3 a5
          unfold f_X10_takeKey_j97
          refine r_iconst 53 98 (v := 0) rfl rfl (by decide) ?_
          exact hj98 m a3 a5 0
        refine r_if_eq 44 97 79 rfl rfl rfl (fun h19 => ?_) (fun h19 => ?_)
        · exact r_sub [2, 3, 4, 1, 0] rfl (hj97 m x15 x17)
        · refine r_aload_n 45 80 2 rfl rfl rfl rfl ?_
          refine r_aload_n 46 81 2 rfl rfl rfl rfl ?_
          refine r_getI 47 84 rfl rfl fl_RX10_23 rfl h0 ?_
          refine r_VIo 48 87 (st := []) (av := [.inr (.inr a0), .inl (gi m a0 3)]) (av' := [.inl (gi m a0 3)]) (μ' := u_X10_signAt) (d := 1) rfl rfl mc_X10_signAt in_X10_signAt lk_RX10_47 (Nat.le_of_ble_eq_true rfl) rfl rfl h0 rfl (Nat.le_of_ble_eq_true rfl) (fun _ h => ct_X10_signAt h0 h) (fun x20 => ?_)
          refine r_SIo 49 90 (a := 0) (cn := 0) (st := []) (av := [.inl x20]) (μ' := u_X10_isDigit) (d := 1) rfl rfl mc_X10_isDigit st_X10_isDigit lk_RX10_55 (Nat.le_of_ble_eq_true rfl) rfl (Nat.le_of_ble_eq_true rfl) (fun _ h => ct_X10_isDigit h) (fun x21 => ?_)
          refine r_if_eq 50 97 93 rfl rfl rfl (fun h22 => ?_) (fun h22 => ?_)
          · exact r_sub [2, 3, 4, 1, 0] rfl (hj97 m x15 x17)
          · refine r_iconst 51 94 (v := 1) rfl rfl (by decide) ?_
            refine r_goto 52 98 rfl rfl ?_
            exact r_sub [2, 3, 4, 1, 0] rfl (hj98 m x15 x17 1)
  exact r_sub [4, 5, 3, 2, 1, 0] rfl (hj13 m x1 0 0 1)
theorem ct_X10_takeKey {t : List Sh} {m : Mi} {a0 : Nat} {a1 : Int32} {m' : Mi} {v : Int64}  (h0 : sh t a0 = some (.inl 10)) (h : f_X10_takeKey t m a0 a1 = some (v, m')) : Ct u_X10_takeKey 2 0 0 [.inr (.inr a0), .inl a1] (t, m) (some (.inr (.inl v)), (t, m')) :=
  ct_of (by decide) tk_X10_takeKey (Nat.le_of_ble_eq_true rfl) (sm_X10_takeKey t m a0 a1 h0) (by rw [h]; rfl) (Nat.le_refl _) (Nat.le_refl _)
def tb_X10_takeNumbers : Tb := [(0, (.iconst 0, 1)), (1, (.istore_n 1, 1)), (2, (.iload_n 1, 1)), (3, (.iconst 3, 1)), (4, (.if_icmp .ge 182, 3)), (7, (.iload_n 1, 1)), (8, (.ifCond .le 34, 3)), (11, (.aload_n 0, 1)), (12, (.aload_n 0, 1)), (13, (.getfield 23, 3)), (16, (.invokevirtual 47, 3)), (19, (.bipush 46, 2)), (21, (.if_icmp .ne 19, 3)), (24, (.aload_n 0, 1)), (25, (.aload_n 0, 1)), (26, (.getfield 23, 3)), (29, (.iconst 1, 1)), (30, (.iadd, 1)), (31, (.invokevirtual 47, 3)), (34, (.invokestatic 55, 3)), (37, (.ifCond .ne 5, 3)), (40, (.iconst 1, 1)), (41, (.ireturn, 1)), (42, (.aload_n 0, 1)), (43, (.dup, 1)), (44, (.getfield 23, 3)), (47, (.iload_n 1, 1)), (48, (.ifCond .le 7, 3)), (51, (.iconst 1, 1)), (52, (.goto 4, 3)), (55, (.iconst 0, 1)), (56, (.iadd, 1)), (57, (.putfield 23, 3)), (60, (.aload_n 0, 1)), (61, (.getfield 23, 3)), (64, (.istore_n 2, 1)), (65, (.lconst 0, 1)), (66, (.lstore_n 3, 1)), (67, (.aload_n 0, 1)), (68, (.getfield 23, 3)), (71, (.iload_n 2, 1)), (72, (.isub, 1)), (73, (.bipush 9, 2)), (75, (.if_icmp .gt 49, 3)), (78, (.aload_n 0, 1)), (79, (.aload_n 0, 1)), (80, (.getfield 23, 3)), (83, (.invokevirtual 47, 3)), (86, (.invokestatic 55, 3)), (89, (.ifCond .eq 35, 3)), (92, (.lload_n 3, 1)), (93, (.ldc2_w 59, 3)), (96, (.lmul, 1)), (97, (.aload_n 0, 1)), (98, (.aload_n 0, 1)), (99, (.getfield 23, 3)), (102, (.invokevirtual 47, 3)), (105, (.bipush 48, 2)), (107, (.isub, 1)), (108, (.i2l, 1)), (109, (.ladd, 1)), (110, (.lstore_n 3, 1)), (111, (.aload_n 0, 1)), (112, (.dup, 1)), (113, (.getfield 23, 3)), (116, (.iconst 1, 1)), (117, (.iadd, 1)), (118, (.putfield 23, 3)), (121, (.goto (-54), 3)), (124, (.aload_n 0, 1)), (125, (.getfield 23, 3)), (128, (.iload_n 2, 1)), (129, (.isub, 1)), (130, (.istore 5, 2)), (132, (.iload 5, 2)), (134, (.iconst 1, 1)), (135, (.if_icmp .lt 26, 3)), (138, (.iload 5, 2)), (140, (.bipush 9, 2)), (142, (.if_icmp .gt 19, 3)), (145, (.iload 5, 2)), (147, (.iconst 1, 1)), (148, (.if_icmp .le 15, 3)), (151, (.aload_n 0, 1)), (152, (.iload_n 2, 1)), (153, (.invokevirtual 47, 3)), (156, (.bipush 48, 2)), (158, (.if_icmp .ne 5, 3)), (161, (.iconst 0, 1)), (162, (.ireturn, 1)), (163, (.aload_n 0, 1)), (164, (.getfield 11, 3)), (167, (.iload_n 1, 1)), (168, (.lload_n 3, 1)), (169, (.lastore, 1)), (170, (.aload_n 0, 1)), (171, (.dup, 1)), (172, (.getfield 15, 3)), (175, (.iconst 1, 1)), (176, (.iadd, 1)), (177, (.putfield 15, 3)), (180, (.iinc 1 1, 3)), (183, (.goto (-181), 3)), (186, (.iconst 1, 1)), (187, (.ireturn, 1))]
def u_X10_takeNumbers : Fx := (yX10_takeNumbers, (cX10_takeNumbers, (6, ((some .boolean), tb_X10_takeNumbers))))
theorem tk_X10_takeNumbers : ∀ q ∈ u_X10_takeNumbers.2.2.2.2, decode u_X10_takeNumbers.2.1 q.1 = .ok q.2 := by decide +kernel
theorem mc_X10_takeNumbers : MC u_X10_takeNumbers 0 := ⟨tbm 707 (by decide +kernel) rfl, tbm 117 (by decide +kernel) rfl, ⟨by decide, by decide, by decide +kernel⟩, by decide⟩
theorem in_X10_takeNumbers : Cond.instanceMethod u_X10_takeNumbers.1 ∈ TB ∧ Cond.selects u_X10_takeNumbers.1.cls u_X10_takeNumbers.1 u_X10_takeNumbers.1 ∈ TB := ⟨tbm 706 (by decide +kernel) rfl, tbm 11 (by decide +kernel) rfl⟩
def f_X10_takeNumbers_j40 (t : List Sh) (m : Mi) : Option (Int32 × Mi) :=
  some (1, m)
def f_X10_takeNumbers_j161 (t : List Sh) (m : Mi) : Option (Int32 × Mi) :=
  some (0, m)
def f_X10_takeNumbers_j186 (t : List Sh) (m : Mi) : Option (Int32 × Mi) :=
  some (1, m)
def f_X10_takeNumbers_j163 (t : List Sh) (m : Mi) (a0 : Nat) (a1 : Int32) (a3 : Int64) : Option ((Int32 × Mi) ⊕ (((Mi) ⊕ ((Mi) ⊕ (Mi))))) :=
  (if ar t (gr m a0 0) .long a1 = true then
  lt (sl m (gr m a0 0) (ix a1) a3) fun m9 =>
  lt (si m9 a0 1 ((gi m9 a0 1) + 1)) fun m10 =>
  lt (a1 + 1) fun x11 =>
  some (.inl (x11, m10))
  else none)
def f_X10_takeNumbers_j124 (t : List Sh) (m : Mi) (a0 : Nat) (a1 : Int32) (a2 : Int32) (a3 : Int64) : Option ((Int32 × Mi) ⊕ (((Mi) ⊕ ((Mi) ⊕ (Mi))))) :=
  lt ((gi m a0 3) - a2) fun x5 =>
  if x5 < 1 then
    some (.inr (.inr (.inr m)))
  else
    if 9 < x5 then
      some (.inr (.inr (.inr m)))
    else
      if x5 ≤ 1 then
        f_X10_takeNumbers_j163 t m a0 a1 a3
      else
        (f_X10_signAt t m a0 a2).bind fun x13 =>
        if x13 = 48 then
          some (.inr (.inr (.inr m)))
        else
          f_X10_takeNumbers_j163 t m a0 a1 a3
def f_X10_takeNumbers_l67 (t : List Sh) (m : Mi) (a0 : Nat) (a1 : Int32) (a2 : Int32) (a3 : Int64) : Option ((Int64 × Mi) ⊕ ((Int64 × Mi))) :=
  if 9 < ((gi m a0 3) - a2) then
    some (.inr (a3, m))
  else
    (f_X10_signAt t m a0 (gi m a0 3)).bind fun x16 =>
    (f_X10_isDigit x16).bind fun x17 =>
    if x17 = 0 then
      some (.inr (a3, m))
    else
      (f_X10_signAt t m a0 (gi m a0 3)).bind fun x19 =>
      lt ((a3 * 10) + (Int32.toInt64 (x19 - 48))) fun x20 =>
      lt (si m a0 3 ((gi m a0 3) + 1)) fun m21 =>
      some (.inl (x20, m21))
def f_X10_takeNumbers_j67 (t : List Sh) (m : Mi) (a0 : Nat) (a1 : Int32) (a2 : Int32) (a3 : Int64) : Option ((Int32 × Mi) ⊕ (((Mi) ⊕ ((Mi) ⊕ (Mi))))) :=
  (lp (fun x : Int64 × Mi => f_X10_takeNumbers_l67 t x.2 a0 a1 a2 x.1) FUEL (a3, m)).bind (fun y : Int64 × Mi => f_X10_takeNumbers_j124 t (y.2) a0 a1 a2 (y.1))
def f_X10_takeNumbers_j56 (t : List Sh) (m : Mi) (a0 : Nat) (a1 : Int32) (s0 : Int32) (s1 : Int32) (s2 : Nat) : Option ((Int32 × Mi) ⊕ (((Mi) ⊕ ((Mi) ⊕ (Mi))))) :=
  (if ob t s2 10 = true then
  lt (si m s2 3 (s1 + s0)) fun m3 =>
  lt (gi m3 a0 3) fun x4 =>
  f_X10_takeNumbers_j67 t m3 a0 a1 x4 0
  else none)
def f_X10_takeNumbers_j42 (t : List Sh) (m : Mi) (a0 : Nat) (a1 : Int32) : Option ((Int32 × Mi) ⊕ (((Mi) ⊕ ((Mi) ⊕ (Mi))))) :=
  if a1 ≤ 0 then
    f_X10_takeNumbers_j56 t m a0 a1 0 (gi m a0 3) a0
  else
    f_X10_takeNumbers_j56 t m a0 a1 1 (gi m a0 3) a0
def f_X10_takeNumbers_l2 (t : List Sh) (m : Mi) (a0 : Nat) (a1 : Int32) : Option ((Int32 × Mi) ⊕ (((Mi) ⊕ ((Mi) ⊕ (Mi))))) :=
  if 3 ≤ a1 then
    some (.inr (.inl m))
  else
    if a1 ≤ 0 then
      f_X10_takeNumbers_j42 t m a0 a1
    else
      (f_X10_signAt t m a0 (gi m a0 3)).bind fun x24 =>
      if x24 = 46 then
        (f_X10_signAt t m a0 ((gi m a0 3) + 1)).bind fun x26 =>
        (f_X10_isDigit x26).bind fun x27 =>
        if x27 = 0 then
          some (.inr (.inr (.inl m)))
        else
          f_X10_takeNumbers_j42 t m a0 a1
      else
        some (.inr (.inr (.inl m)))
def f_X10_takeNumbers_j2 (t : List Sh) (m : Mi) (a0 : Nat) (a1 : Int32) : Option (Int32 × Mi) :=
  (lp (fun x : Int32 × Mi => f_X10_takeNumbers_l2 t x.2 a0 x.1) FUEL (a1, m)).bind (Sum.elim (fun y : Mi => f_X10_takeNumbers_j186 t y) (Sum.elim (fun y : Mi => f_X10_takeNumbers_j40 t y) (fun y : Mi => f_X10_takeNumbers_j161 t y)))
def f_X10_takeNumbers (t : List Sh) (m : Mi) (a0 : Nat) : Option (Int32 × Mi) :=
  f_X10_takeNumbers_j2 t m a0 0
set_option maxRecDepth 4000 in
set_option maxHeartbeats 4000000 in
theorem sm_X10_takeNumbers (t : List Sh) (m : Mi) (a0 : Nat) (h0 : sh t a0 = some (.inl 10)) : Sm u_X10_takeNumbers (2, 0, 0, t.length, zs t) (kI t) 0 [(0, .inr (.inr a0))] [] (t, m) (f_X10_takeNumbers t m a0) := by
  unfold f_X10_takeNumbers
  refine r_iconst 0 1 (v := 0) rfl rfl (by decide) ?_
  refine r_istore_n 1 2 (L' := [(1, .inl 0), (0, .inr (.inr a0))]) rfl rfl rfl (by decide) rfl ?_
  have hj2 : ∀ (m : Mi) (a1 : Int32), Sm u_X10_takeNumbers (2, 0, 0, t.length, zs t) (kI t) 2 [(0, .inr (.inr a0)), (1, .inl a1)] [] (t, m) (f_X10_takeNumbers_j2 t m a0 a1) := by
    intro m a1
    unfold f_X10_takeNumbers_j2
    have hj40 : ∀ (m : Mi), Sm u_X10_takeNumbers (2, 0, 0, t.length, zs t) (kI t) 40 [] [] (t, m) (f_X10_takeNumbers_j40 t m) := by
      intro m
      unfold f_X10_takeNumbers_j40
      refine r_iconst 21 41 (v := 1) rfl rfl (by decide) ?_
      exact r_zret 22 rfl rfl (by decide) rfl
    have hj161 : ∀ (m : Mi), Sm u_X10_takeNumbers (2, 0, 0, t.length, zs t) (kI t) 161 [] [] (t, m) (f_X10_takeNumbers_j161 t m) := by
      intro m
      unfold f_X10_takeNumbers_j161
      refine r_iconst 88 162 (v := 0) rfl rfl (by decide) ?_
      exact r_zret 89 rfl rfl (by decide) rfl
    have hj186 : ∀ (m : Mi), Sm u_X10_takeNumbers (2, 0, 0, t.length, zs t) (kI t) 186 [] [] (t, m) (f_X10_takeNumbers_j186 t m) := by
      intro m
      unfold f_X10_takeNumbers_j186
      refine r_iconst 103 187 (v := 1) rfl rfl (by decide) ?_
      exact r_zret 104 rfl rfl (by decide) rfl
    refine r_lp (Lf := fun x : Int32 × Mi => [(0, .inr (.inr a0)), (1, .inl (x.1))]) (Mf := fun x : Int32 × Mi => (t, x.2)) (a1, m) ?_ FUEL
    rintro ⟨a1, m⟩ κ2 hc2 he2
    refine r_eq (L' := [(0, .inr (.inr a0)), (1, .inl a1)]) (M' := (t, m)) rfl rfl ?_
    refine r_eqr (r' := f_X10_takeNumbers_l2 t m a0 a1) rfl ?_
    unfold f_X10_takeNumbers_l2
    refine r_iload_n 2 3 1 rfl rfl rfl rfl ?_
    refine r_iconst 3 4 (v := 3) rfl rfl (by decide) ?_
    refine r_icmp_ge 4 186 7 rfl rfl rfl (fun h1 => ?_) (fun h1 => ?_)
    · refine r_leaf (r2 := (f_X10_takeNumbers_j186 t m : Option (Int32 × Mi))) (he2 _) ?_
      exact r_sub [] rfl (hj186 m)
    · refine r_iload_n 5 8 1 rfl rfl rfl rfl ?_
      have hj42 : ∀ (m : Mi) (a1 : Int32), Sm u_X10_takeNumbers (2, 0, 0, t.length, zs t) κ2 42 [(0, .inr (.inr a0)), (1, .inl a1)] [] (t, m) (f_X10_takeNumbers_j42 t m a0 a1) := by
        intro m a1
        unfold f_X10_takeNumbers_j42
        refine r_aload_n 23 43 0 rfl rfl rfl rfl ?_
        refine r_dup 24 44 rfl rfl rfl ?_
        refine r_getI 25 47 rfl rfl fl_RX10_23 rfl h0 ?_
        refine r_iload_n 26 48 1 rfl rfl rfl rfl ?_
        have hj56 : ∀ (m : Mi) (a1 : Int32) (s0 : Int32) (s1 : Int32) (s2 : Nat), Sm u_X10_takeNumbers (2, 0, 0, t.length, zs t) κ2 56 [(0, .inr (.inr a0)), (1, .inl a1)] [.inl s0, .inl s1, .inr (.inr s2)] (t, m) (f_X10_takeNumbers_j56 t m a0 a1 s0 s1 s2) := by
          intro m a1 s0 s1 s2
          unfold f_X10_takeNumbers_j56
          refine r_iadd 31 57 rfl rfl ?_
          refine r_gd (fun h2 => ?_)
          refine r_putI 32 60 rfl rfl fl_RX10_23 (fun h => by cases h) (Or.inl rfl) (ob_sh h2) ?_
          refine r_ltM (fun m3 => ?_)
          refine r_aload_n 33 61 0 rfl rfl rfl rfl ?_
          refine r_getI 34 64 rfl rfl fl_RX10_23 rfl h0 ?_
          refine r_ltI (fun x4 => ?_)
          refine r_istore_n 35 65 (L' := [(2, .inl x4), (0, .inr (.inr a0)), (1, .inl a1)]) rfl rfl rfl (by decide) rfl ?_
          refine r_lconst 36 66 (v := 0) rfl rfl (by decide) ?_
          refine r_lstore_n 37 67 (L' := [(3, .inr (.inl 0)), (2, .inl x4), (0, .inr (.inr a0)), (1, .inl a1)]) rfl rfl rfl (by decide) rfl ?_
          have hj67 : ∀ (m : Mi) (a1 : Int32) (a2 : Int32) (a3 : Int64), Sm u_X10_takeNumbers (2, 0, 0, t.length, zs t) κ2 67 [(0, .inr (.inr a0)), (1, .inl a1), (2, .inl a2), (3, .inr (.inl a3))] [] (t, m) (f_X10_takeNumbers_j67 t m a0 a1 a2 a3) := by
            intro m a1 a2 a3
            unfold f_X10_takeNumbers_j67
            have hj124 : ∀ (m : Mi) (a1 : Int32) (a2 : Int32) (a3 : Int64), Sm u_X10_takeNumbers (2, 0, 0, t.length, zs t) κ2 124 [(0, .inr (.inr a0)), (1, .inl a1), (2, .inl a2), (3, .inr (.inl a3))] [] (t, m) (f_X10_takeNumbers_j124 t m a0 a1 a2 a3) := by
              intro m a1 a2 a3
              unfold f_X10_takeNumbers_j124
              refine r_aload_n 69 125 0 rfl rfl rfl rfl ?_
              refine r_getI 70 128 rfl rfl fl_RX10_23 rfl h0 ?_
              refine r_iload_n 71 129 2 rfl rfl rfl rfl ?_
              refine r_isub 72 130 rfl rfl ?_
              refine r_ltI (fun x5 => ?_)
              refine r_istore 73 132 (L' := [(5, .inl x5), (0, .inr (.inr a0)), (1, .inl a1), (2, .inl a2), (3, .inr (.inl a3))]) rfl rfl (by decide) rfl ?_
              refine r_iload 74 134 0 rfl rfl rfl ?_
              refine r_iconst 75 135 (v := 1) rfl rfl (by decide) ?_
              refine r_icmp_lt 76 161 138 rfl rfl rfl (fun h6 => ?_) (fun h6 => ?_)
              · refine r_leaf (r2 := (f_X10_takeNumbers_j161 t m : Option (Int32 × Mi))) (he2 _) ?_
                exact r_sub [] rfl (hj161 m)
              · refine r_iload 77 140 0 rfl rfl rfl ?_
                refine r_bipush 78 142 (v := 9) rfl rfl (by decide) ?_
                refine r_icmp_gt 79 161 145 rfl rfl rfl (fun h7 => ?_) (fun h7 => ?_)
                · refine r_leaf (r2 := (f_X10_takeNumbers_j161 t m : Option (Int32 × Mi))) (he2 _) ?_
                  exact r_sub [] rfl (hj161 m)
                · refine r_iload 80 147 0 rfl rfl rfl ?_
                  refine r_iconst 81 148 (v := 1) rfl rfl (by decide) ?_
                  have hj163 : ∀ (m : Mi) (a1 : Int32) (a3 : Int64), Sm u_X10_takeNumbers (2, 0, 0, t.length, zs t) κ2 163 [(0, .inr (.inr a0)), (1, .inl a1), (3, .inr (.inl a3))] [] (t, m) (f_X10_takeNumbers_j163 t m a0 a1 a3) := by
                    intro m a1 a3
                    unfold f_X10_takeNumbers_j163
                    refine r_aload_n 90 164 0 rfl rfl rfl rfl ?_
                    refine r_getR 91 167 rfl rfl fl_RX10_11 rfl h0 ?_
                    refine r_iload_n 92 168 1 rfl rfl rfl rfl ?_
                    refine r_lload_n 93 169 2 rfl rfl rfl rfl ?_
                    refine r_gd (fun h8 => ?_)
                    refine r_last 94 170 rfl rfl h8 ?_
                    refine r_ltM (fun m9 => ?_)
                    refine r_aload_n 95 171 0 rfl rfl rfl rfl ?_
                    refine r_dup 96 172 rfl rfl rfl ?_
                    refine r_getI 97 175 rfl rfl fl_RX10_15 rfl h0 ?_
                    refine r_iconst 98 176 (v := 1) rfl rfl (by decide) ?_
                    refine r_iadd 99 177 rfl rfl ?_
                    refine r_putI 100 180 rfl rfl fl_RX10_15 (fun h => by cases h) (Or.inl rfl) h0 ?_
                    refine r_ltM (fun m10 => ?_)
                    refine r_iinc 101 183 1 (L' := [(1, .inl (a1 + 1)), (0, .inr (.inr a0)), (3, .inr (.inl a3))]) rfl rfl rfl (by decide) rfl ?_
                    refine r_ltV (fun x11 => ?_)
                    refine r_goto 102 2 rfl rfl ?_
                    exact r_sub [1, 0] rfl (hc2 (x11, m10))
                  refine r_icmp_le 82 163 151 rfl rfl rfl (fun h12 => ?_) (fun h12 => ?_)
                  · exact r_sub [1, 2, 4] rfl (hj163 m a1 a3)
                  · refine r_aload_n 83 152 1 rfl rfl rfl rfl ?_
                    refine r_iload_n 84 153 3 rfl rfl rfl rfl ?_
                    refine r_VIo 85 156 (st := []) (av := [.inr (.inr a0), .inl a2]) (av' := [.inl a2]) (μ' := u_X10_signAt) (d := 1) rfl rfl mc_X10_signAt in_X10_signAt lk_RX10_47 (Nat.le_of_ble_eq_true rfl) rfl rfl h0 rfl (Nat.le_of_ble_eq_true rfl) (fun _ h => ct_X10_signAt h0 h) (fun x13 => ?_)
                    refine r_bipush 86 158 (v := 48) rfl rfl (by decide) ?_
                    refine r_icmp_ne 87 163 161 rfl rfl rfl (fun h14 => ?_) (fun h14 => ?_)
                    · refine r_leaf (r2 := (f_X10_takeNumbers_j161 t m : Option (Int32 × Mi))) (he2 _) ?_
                      exact r_sub [] rfl (hj161 m)
                    · exact r_sub [1, 2, 4] rfl (hj163 m a1 a3)
            refine r_lp (Lf := fun x : Int64 × Mi => [(0, .inr (.inr a0)), (1, .inl a1), (2, .inl a2), (3, .inr (.inl (x.1)))]) (Mf := fun x : Int64 × Mi => (t, x.2)) (a3, m) ?_ FUEL
            rintro ⟨a3, m⟩ κ67 hc67 he67
            refine r_eq (L' := [(0, .inr (.inr a0)), (1, .inl a1), (2, .inl a2), (3, .inr (.inl a3))]) (M' := (t, m)) rfl rfl ?_
            refine r_eqr (r' := f_X10_takeNumbers_l67 t m a0 a1 a2 a3) rfl ?_
            unfold f_X10_takeNumbers_l67
            refine r_aload_n 38 68 0 rfl rfl rfl rfl ?_
            refine r_getI 39 71 rfl rfl fl_RX10_23 rfl h0 ?_
            refine r_iload_n 40 72 2 rfl rfl rfl rfl ?_
            refine r_isub 41 73 rfl rfl ?_
            refine r_bipush 42 75 (v := 9) rfl rfl (by decide) ?_
            refine r_icmp_gt 43 124 78 rfl rfl rfl (fun h15 => ?_) (fun h15 => ?_)
            · refine r_leaf (r2 := (f_X10_takeNumbers_j124 t m a0 a1 a2 a3 : Option ((Int32 × Mi) ⊕ (((Mi) ⊕ ((Mi) ⊕ (Mi))))))) (he67 _) ?_
              exact hj124 m a1 a2 a3
            · refine r_aload_n 44 79 0 rfl rfl rfl rfl ?_
              refine r_aload_n 45 80 0 rfl rfl rfl rfl ?_
              refine r_getI 46 83 rfl rfl fl_RX10_23 rfl h0 ?_
              refine r_VIo 47 86 (st := []) (av := [.inr (.inr a0), .inl (gi m a0 3)]) (av' := [.inl (gi m a0 3)]) (μ' := u_X10_signAt) (d := 1) rfl rfl mc_X10_signAt in_X10_signAt lk_RX10_47 (Nat.le_of_ble_eq_true rfl) rfl rfl h0 rfl (Nat.le_of_ble_eq_true rfl) (fun _ h => ct_X10_signAt h0 h) (fun x16 => ?_)
              refine r_SIo 48 89 (a := 0) (cn := 0) (st := []) (av := [.inl x16]) (μ' := u_X10_isDigit) (d := 1) rfl rfl mc_X10_isDigit st_X10_isDigit lk_RX10_55 (Nat.le_of_ble_eq_true rfl) rfl (Nat.le_of_ble_eq_true rfl) (fun _ h => ct_X10_isDigit h) (fun x17 => ?_)
              refine r_if_eq 49 124 92 rfl rfl rfl (fun h18 => ?_) (fun h18 => ?_)
              · refine r_leaf (r2 := (f_X10_takeNumbers_j124 t m a0 a1 a2 a3 : Option ((Int32 × Mi) ⊕ (((Mi) ⊕ ((Mi) ⊕ (Mi))))))) (he67 _) ?_
                exact hj124 m a1 a2 a3
              · refine r_lload_n 50 93 3 rfl rfl rfl rfl ?_
                refine r_ldc2 51 96 rfl rfl kc_RX10_59 ?_
                refine r_lmul 52 97 rfl rfl ?_
                refine r_aload_n 53 98 0 rfl rfl rfl rfl ?_
                refine r_aload_n 54 99 0 rfl rfl rfl rfl ?_
                refine r_getI 55 102 rfl rfl fl_RX10_23 rfl h0 ?_
                refine r_VIo 56 105 (st := [.inr (.inl (a3 * 10))]) (av := [.inr (.inr a0), .inl (gi m a0 3)]) (av' := [.inl (gi m a0 3)]) (μ' := u_X10_signAt) (d := 1) rfl rfl mc_X10_signAt in_X10_signAt lk_RX10_47 (Nat.le_of_ble_eq_true rfl) rfl rfl h0 rfl (Nat.le_of_ble_eq_true rfl) (fun _ h => ct_X10_signAt h0 h) (fun x19 => ?_)
                refine r_bipush 57 107 (v := 48) rfl rfl (by decide) ?_
                refine r_isub 58 108 rfl rfl ?_
                refine r_i2l 59 109 rfl rfl ?_
                refine r_ladd 60 110 rfl rfl ?_
                refine r_ltL (fun x20 => ?_)
                refine r_lstore_n 61 111 (L' := [(3, .inr (.inl x20)), (0, .inr (.inr a0)), (1, .inl a1), (2, .inl a2)]) rfl rfl rfl (by decide) rfl ?_
                refine r_aload_n 62 112 1 rfl rfl rfl rfl ?_
                refine r_dup 63 113 rfl rfl rfl ?_
                refine r_getI 64 116 rfl rfl fl_RX10_23 rfl h0 ?_
                refine r_iconst 65 117 (v := 1) rfl rfl (by decide) ?_
                refine r_iadd 66 118 rfl rfl ?_
                refine r_putI 67 121 rfl rfl fl_RX10_23 (fun h => by cases h) (Or.inl rfl) h0 ?_
                refine r_ltM (fun m21 => ?_)
                refine r_goto 68 67 rfl rfl ?_
                exact r_sub [1, 2, 3, 0] rfl (hc67 (x20, m21))
          exact r_sub [2, 3, 1, 0] rfl (hj67 m3 a1 x4 0)
        refine r_if_le 27 55 51 rfl rfl rfl (fun h22 => ?_) (fun h22 => ?_)
        · refine r_iconst 30 56 (v := 0) rfl rfl (by decide) ?_
          exact hj56 m a1 0 (gi m a0 3) a0
        · refine r_iconst 28 52 (v := 1) rfl rfl (by decide) ?_
          refine r_goto 29 56 rfl rfl ?_
          exact hj56 m a1 1 (gi m a0 3) a0
      refine r_if_le 6 42 11 rfl rfl rfl (fun h23 => ?_) (fun h23 => ?_)
      · exact hj42 m a1
      · refine r_aload_n 7 12 0 rfl rfl rfl rfl ?_
        refine r_aload_n 8 13 0 rfl rfl rfl rfl ?_
        refine r_getI 9 16 rfl rfl fl_RX10_23 rfl h0 ?_
        refine r_VIo 10 19 (st := []) (av := [.inr (.inr a0), .inl (gi m a0 3)]) (av' := [.inl (gi m a0 3)]) (μ' := u_X10_signAt) (d := 1) rfl rfl mc_X10_signAt in_X10_signAt lk_RX10_47 (Nat.le_of_ble_eq_true rfl) rfl rfl h0 rfl (Nat.le_of_ble_eq_true rfl) (fun _ h => ct_X10_signAt h0 h) (fun x24 => ?_)
        refine r_bipush 11 21 (v := 46) rfl rfl (by decide) ?_
        refine r_icmp_ne 12 40 24 rfl rfl rfl (fun h25 => ?_) (fun h25 => ?_)
        · refine r_aload_n 13 25 0 rfl rfl rfl rfl ?_
          refine r_aload_n 14 26 0 rfl rfl rfl rfl ?_
          refine r_getI 15 29 rfl rfl fl_RX10_23 rfl h0 ?_
          refine r_iconst 16 30 (v := 1) rfl rfl (by decide) ?_
          refine r_iadd 17 31 rfl rfl ?_
          refine r_VIo 18 34 (st := []) (av := [.inr (.inr a0), .inl ((gi m a0 3) + 1)]) (av' := [.inl ((gi m a0 3) + 1)]) (μ' := u_X10_signAt) (d := 1) rfl rfl mc_X10_signAt in_X10_signAt lk_RX10_47 (Nat.le_of_ble_eq_true rfl) rfl rfl h0 rfl (Nat.le_of_ble_eq_true rfl) (fun _ h => ct_X10_signAt h0 h) (fun x26 => ?_)
          refine r_SIo 19 37 (a := 0) (cn := 0) (st := []) (av := [.inl x26]) (μ' := u_X10_isDigit) (d := 1) rfl rfl mc_X10_isDigit st_X10_isDigit lk_RX10_55 (Nat.le_of_ble_eq_true rfl) rfl (Nat.le_of_ble_eq_true rfl) (fun _ h => ct_X10_isDigit h) (fun x27 => ?_)
          refine r_if_ne 20 42 40 rfl rfl rfl (fun h28 => ?_) (fun h28 => ?_)
          · refine r_leaf (r2 := (f_X10_takeNumbers_j40 t m : Option (Int32 × Mi))) (he2 _) ?_
            exact r_sub [] rfl (hj40 m)
          · exact hj42 m a1
        · refine r_leaf (r2 := (f_X10_takeNumbers_j40 t m : Option (Int32 × Mi))) (he2 _) ?_
          exact r_sub [] rfl (hj40 m)
  exact r_sub [1, 0] rfl (hj2 m 0)
theorem ct_X10_takeNumbers {t : List Sh} {m : Mi} {a0 : Nat} {m' : Mi} {v : Int32}  (h0 : sh t a0 = some (.inl 10)) (h : f_X10_takeNumbers t m a0 = some (v, m')) : Ct u_X10_takeNumbers 2 0 0 [.inr (.inr a0)] (t, m) (some (.inl v), (t, m')) :=
  ct_of (by decide) tk_X10_takeNumbers (Nat.le_of_ble_eq_true rfl) (sm_X10_takeNumbers t m a0 h0) (by rw [h]; rfl) (Nat.le_refl _) (Nat.le_refl _)
theorem lk_RX10_61 : Cond.methodLink RX10 61 yX10_takeKey ∈ TB := tbm 722 (by decide +kernel) rfl
def tb_X10_takeIdentifiers : Tb := [(0, (.iconst 0, 1)), (1, (.istore_n 2, 1)), (2, (.iload_n 2, 1)), (3, (.iconst 4, 1)), (4, (.if_icmp .ge 61, 3)), (7, (.aload_n 0, 1)), (8, (.dup, 1)), (9, (.getfield 23, 3)), (12, (.iconst 1, 1)), (13, (.iadd, 1)), (14, (.putfield 23, 3)), (17, (.aload_n 0, 1)), (18, (.iload_n 1, 1)), (19, (.invokevirtual 61, 3)), (22, (.lstore_n 3, 1)), (23, (.lload_n 3, 1)), (24, (.lconst 0, 1)), (25, (.lcmp, 1)), (26, (.ifCond .ne 5, 3)), (29, (.iconst 0, 1)), (30, (.ireturn, 1)), (31, (.iload_n 1, 1)), (32, (.ifCond .eq 12, 3)), (35, (.aload_n 0, 1)), (36, (.getfield 11, 3)), (39, (.iconst 3, 1)), (40, (.iload_n 2, 1)), (41, (.iadd, 1)), (42, (.lload_n 3, 1)), (43, (.lastore, 1)), (44, (.aload_n 0, 1)), (45, (.aload_n 0, 1)), (46, (.getfield 23, 3)), (49, (.invokevirtual 47, 3)), (52, (.bipush 46, 2)), (54, (.if_icmp .eq 5, 3)), (57, (.iconst 1, 1)), (58, (.ireturn, 1)), (59, (.iinc 2 1, 3)), (62, (.goto (-60), 3)), (65, (.iconst 0, 1)), (66, (.ireturn, 1))]
def u_X10_takeIdentifiers : Fx := (yX10_takeIdentifiers, (cX10_takeIdentifiers, (5, ((some .boolean), tb_X10_takeIdentifiers))))
theorem tk_X10_takeIdentifiers : ∀ q ∈ u_X10_takeIdentifiers.2.2.2.2, decode u_X10_takeIdentifiers.2.1 q.1 = .ok q.2 := by decide +kernel
theorem mc_X10_takeIdentifiers : MC u_X10_takeIdentifiers 1 := ⟨tbm 721 (by decide +kernel) rfl, tbm 117 (by decide +kernel) rfl, ⟨by decide, by decide, by decide +kernel⟩, by decide⟩
theorem in_X10_takeIdentifiers : Cond.instanceMethod u_X10_takeIdentifiers.1 ∈ TB ∧ Cond.selects u_X10_takeIdentifiers.1.cls u_X10_takeIdentifiers.1 u_X10_takeIdentifiers.1 ∈ TB := ⟨tbm 720 (by decide +kernel) rfl, tbm 14 (by decide +kernel) rfl⟩
def f_X10_takeIdentifiers_j29 (t : List Sh) (m : Mi) : Option (Int32 × Mi) :=
  some (0, m)
def f_X10_takeIdentifiers_j57 (t : List Sh) (m : Mi) : Option (Int32 × Mi) :=
  some (1, m)
def f_X10_takeIdentifiers_j65 (t : List Sh) (m : Mi) : Option (Int32 × Mi) :=
  some (0, m)
def f_X10_takeIdentifiers_j44 (t : List Sh) (m : Mi) (a0 : Nat) (a1 : Int32) (a2 : Int32) : Option ((Int32 × Mi) ⊕ (((Mi) ⊕ ((Mi) ⊕ (Mi))))) :=
  (f_X10_signAt t m a0 (gi m a0 3)).bind fun x6 =>
  if x6 = 46 then
    lt (a2 + 1) fun x8 =>
    some (.inl (x8, m))
  else
    some (.inr (.inr (.inr m)))
def f_X10_takeIdentifiers_l2 (t : List Sh) (m : Mi) (a0 : Nat) (a1 : Int32) (a2 : Int32) : Option ((Int32 × Mi) ⊕ (((Mi) ⊕ ((Mi) ⊕ (Mi))))) :=
  if 4 ≤ a2 then
    some (.inr (.inl m))
  else
    lt (si m a0 3 ((gi m a0 3) + 1)) fun m2 =>
    bd (f_X10_takeKey t m2 a0 a1) fun x3 m4 =>
    if (lg_cmp x3 0) = 0 then
      some (.inr (.inr (.inl m4)))
    else
      if a1 = 0 then
        f_X10_takeIdentifiers_j44 t m4 a0 a1 a2
      else
        (if ar t (gr m4 a0 0) .long (3 + a2) = true then
        lt (sl m4 (gr m4 a0 0) (ix (3 + a2)) x3) fun m11 =>
        f_X10_takeIdentifiers_j44 t m11 a0 a1 a2
        else none)
def f_X10_takeIdentifiers_j2 (t : List Sh) (m : Mi) (a0 : Nat) (a1 : Int32) (a2 : Int32) : Option (Int32 × Mi) :=
  (lp (fun x : Int32 × Mi => f_X10_takeIdentifiers_l2 t x.2 a0 a1 x.1) FUEL (a2, m)).bind (Sum.elim (fun y : Mi => f_X10_takeIdentifiers_j65 t y) (Sum.elim (fun y : Mi => f_X10_takeIdentifiers_j29 t y) (fun y : Mi => f_X10_takeIdentifiers_j57 t y)))
def f_X10_takeIdentifiers (t : List Sh) (m : Mi) (a0 : Nat) (a1 : Int32) : Option (Int32 × Mi) :=
  f_X10_takeIdentifiers_j2 t m a0 a1 0
set_option maxRecDepth 4000 in
set_option maxHeartbeats 4000000 in
theorem sm_X10_takeIdentifiers (t : List Sh) (m : Mi) (a0 : Nat) (a1 : Int32) (h0 : sh t a0 = some (.inl 10)) : Sm u_X10_takeIdentifiers (3, 0, 0, t.length, zs t) (kI t) 0 [(0, .inr (.inr a0)), (1, .inl a1)] [] (t, m) (f_X10_takeIdentifiers t m a0 a1) := by
  unfold f_X10_takeIdentifiers
  refine r_iconst 0 1 (v := 0) rfl rfl (by decide) ?_
  refine r_istore_n 1 2 (L' := [(2, .inl 0), (0, .inr (.inr a0)), (1, .inl a1)]) rfl rfl rfl (by decide) rfl ?_
  have hj2 : ∀ (m : Mi) (a2 : Int32), Sm u_X10_takeIdentifiers (3, 0, 0, t.length, zs t) (kI t) 2 [(0, .inr (.inr a0)), (1, .inl a1), (2, .inl a2)] [] (t, m) (f_X10_takeIdentifiers_j2 t m a0 a1 a2) := by
    intro m a2
    unfold f_X10_takeIdentifiers_j2
    have hj29 : ∀ (m : Mi), Sm u_X10_takeIdentifiers (3, 0, 0, t.length, zs t) (kI t) 29 [] [] (t, m) (f_X10_takeIdentifiers_j29 t m) := by
      intro m
      unfold f_X10_takeIdentifiers_j29
      refine r_iconst 19 30 (v := 0) rfl rfl (by decide) ?_
      exact r_zret 20 rfl rfl (by decide) rfl
    have hj57 : ∀ (m : Mi), Sm u_X10_takeIdentifiers (3, 0, 0, t.length, zs t) (kI t) 57 [] [] (t, m) (f_X10_takeIdentifiers_j57 t m) := by
      intro m
      unfold f_X10_takeIdentifiers_j57
      refine r_iconst 36 58 (v := 1) rfl rfl (by decide) ?_
      exact r_zret 37 rfl rfl (by decide) rfl
    have hj65 : ∀ (m : Mi), Sm u_X10_takeIdentifiers (3, 0, 0, t.length, zs t) (kI t) 65 [] [] (t, m) (f_X10_takeIdentifiers_j65 t m) := by
      intro m
      unfold f_X10_takeIdentifiers_j65
      refine r_iconst 40 66 (v := 0) rfl rfl (by decide) ?_
      exact r_zret 41 rfl rfl (by decide) rfl
    refine r_lp (Lf := fun x : Int32 × Mi => [(0, .inr (.inr a0)), (1, .inl a1), (2, .inl (x.1))]) (Mf := fun x : Int32 × Mi => (t, x.2)) (a2, m) ?_ FUEL
    rintro ⟨a2, m⟩ κ2 hc2 he2
    refine r_eq (L' := [(0, .inr (.inr a0)), (1, .inl a1), (2, .inl a2)]) (M' := (t, m)) rfl rfl ?_
    refine r_eqr (r' := f_X10_takeIdentifiers_l2 t m a0 a1 a2) rfl ?_
    unfold f_X10_takeIdentifiers_l2
    refine r_iload_n 2 3 2 rfl rfl rfl rfl ?_
    refine r_iconst 3 4 (v := 4) rfl rfl (by decide) ?_
    refine r_icmp_ge 4 65 7 rfl rfl rfl (fun h1 => ?_) (fun h1 => ?_)
    · refine r_leaf (r2 := (f_X10_takeIdentifiers_j65 t m : Option (Int32 × Mi))) (he2 _) ?_
      exact r_sub [] rfl (hj65 m)
    · refine r_aload_n 5 8 0 rfl rfl rfl rfl ?_
      refine r_dup 6 9 rfl rfl rfl ?_
      refine r_getI 7 12 rfl rfl fl_RX10_23 rfl h0 ?_
      refine r_iconst 8 13 (v := 1) rfl rfl (by decide) ?_
      refine r_iadd 9 14 rfl rfl ?_
      refine r_putI 10 17 rfl rfl fl_RX10_23 (fun h => by cases h) (Or.inl rfl) h0 ?_
      refine r_ltM (fun m2 => ?_)
      refine r_aload_n 11 18 0 rfl rfl rfl rfl ?_
      refine r_iload_n 12 19 1 rfl rfl rfl rfl ?_
      refine r_VL 13 22 (st := []) (av := [.inr (.inr a0), .inl a1]) (av' := [.inl a1]) (μ' := u_X10_takeKey) (d := 2) rfl rfl mc_X10_takeKey in_X10_takeKey lk_RX10_61 (Nat.le_of_ble_eq_true rfl) rfl rfl h0 rfl (Nat.le_of_ble_eq_true rfl) (fun _ _ h => ct_X10_takeKey h0 h) (fun x3 m4 => ?_)
      refine r_lstore_n 14 23 (L' := [(3, .inr (.inl x3)), (0, .inr (.inr a0)), (1, .inl a1), (2, .inl a2)]) rfl rfl rfl (by decide) rfl ?_
      refine r_lload_n 15 24 0 rfl rfl rfl rfl ?_
      refine r_lconst 16 25 (v := 0) rfl rfl (by decide) ?_
      refine r_lcmp 17 26 rfl rfl ?_
      refine r_if_ne 18 31 29 rfl rfl rfl (fun h5 => ?_) (fun h5 => ?_)
      · refine r_leaf (r2 := (f_X10_takeIdentifiers_j29 t m4 : Option (Int32 × Mi))) (he2 _) ?_
        exact r_sub [] rfl (hj29 m4)
      · refine r_iload_n 21 32 2 rfl rfl rfl rfl ?_
        have hj44 : ∀ (m : Mi) (a2 : Int32), Sm u_X10_takeIdentifiers (3, 0, 0, t.length, zs t) κ2 44 [(0, .inr (.inr a0)), (1, .inl a1), (2, .inl a2)] [] (t, m) (f_X10_takeIdentifiers_j44 t m a0 a1 a2) := by
          intro m a2
          unfold f_X10_takeIdentifiers_j44
          refine r_aload_n 30 45 0 rfl rfl rfl rfl ?_
          refine r_aload_n 31 46 0 rfl rfl rfl rfl ?_
          refine r_getI 32 49 rfl rfl fl_RX10_23 rfl h0 ?_
          refine r_VIo 33 52 (st := []) (av := [.inr (.inr a0), .inl (gi m a0 3)]) (av' := [.inl (gi m a0 3)]) (μ' := u_X10_signAt) (d := 1) rfl rfl mc_X10_signAt in_X10_signAt lk_RX10_47 (Nat.le_of_ble_eq_true rfl) rfl rfl h0 rfl (Nat.le_of_ble_eq_true rfl) (fun _ h => ct_X10_signAt h0 h) (fun x6 => ?_)
          refine r_bipush 34 54 (v := 46) rfl rfl (by decide) ?_
          refine r_icmp_eq 35 59 57 rfl rfl rfl (fun h7 => ?_) (fun h7 => ?_)
          · refine r_iinc 38 62 2 (L' := [(2, .inl (a2 + 1)), (0, .inr (.inr a0)), (1, .inl a1)]) rfl rfl rfl (by decide) rfl ?_
            refine r_ltV (fun x8 => ?_)
            refine r_goto 39 2 rfl rfl ?_
            exact r_sub [1, 2, 0] rfl (hc2 (x8, m))
          · refine r_leaf (r2 := (f_X10_takeIdentifiers_j57 t m : Option (Int32 × Mi))) (he2 _) ?_
            exact r_sub [] rfl (hj57 m)
        refine r_if_eq 22 44 35 rfl rfl rfl (fun h9 => ?_) (fun h9 => ?_)
        · exact r_sub [1, 2, 3] rfl (hj44 m4 a2)
        · refine r_aload_n 23 36 1 rfl rfl rfl rfl ?_
          refine r_getR 24 39 rfl rfl fl_RX10_11 rfl h0 ?_
          refine r_iconst 25 40 (v := 3) rfl rfl (by decide) ?_
          refine r_iload_n 26 41 3 rfl rfl rfl rfl ?_
          refine r_iadd 27 42 rfl rfl ?_
          refine r_lload_n 28 43 0 rfl rfl rfl rfl ?_
          refine r_gd (fun h10 => ?_)
          refine r_last 29 44 rfl rfl h10 ?_
          refine r_ltM (fun m11 => ?_)
          exact r_sub [1, 2, 3] rfl (hj44 m11 a2)
  exact r_sub [1, 2, 0] rfl (hj2 m 0)
theorem ct_X10_takeIdentifiers {t : List Sh} {m : Mi} {a0 : Nat} {a1 : Int32} {m' : Mi} {v : Int32}  (h0 : sh t a0 = some (.inl 10)) (h : f_X10_takeIdentifiers t m a0 a1 = some (v, m')) : Ct u_X10_takeIdentifiers 3 0 0 [.inr (.inr a0), .inl a1] (t, m) (some (.inl v), (t, m')) :=
  ct_of (by decide) tk_X10_takeIdentifiers (Nat.le_of_ble_eq_true rfl) (sm_X10_takeIdentifiers t m a0 a1 h0) (by rw [h]; rfl) (Nat.le_refl _) (Nat.le_refl _)
theorem lk_RX10_40 : Cond.methodLink RX10 40 yX10_takeNumbers ∈ TB := tbm 704 (by decide +kernel) rfl
theorem lk_RX10_51 : Cond.methodLink RX10 51 yX10_takeIdentifiers ∈ TB := tbm 718 (by decide +kernel) rfl
theorem lk_RX10_44 : Cond.methodLink RX10 44 yX10_endsAfterFilling ∈ TB := tbm 714 (by decide +kernel) rfl
def tb_X10_take : Tb := [(0, (.aload_n 0, 1)), (1, (.aload_n 1, 1)), (2, (.putfield 19, 3)), (5, (.aload_n 0, 1)), (6, (.iload_n 2, 1)), (7, (.putfield 23, 3)), (10, (.aload_n 0, 1)), (11, (.iload_n 3, 1)), (12, (.putfield 26, 3)), (15, (.aload_n 0, 1)), (16, (.iconst 0, 1)), (17, (.putfield 15, 3)), (20, (.aload_n 0, 1)), (21, (.getfield 11, 3)), (24, (.lconst 0, 1)), (25, (.invokestatic 29, 3)), (28, (.aload_n 0, 1)), (29, (.getfield 11, 3)), (32, (.ldc2_w 35, 3)), (35, (.invokestatic 37, 3)), (38, (.aload_n 0, 1)), (39, (.invokevirtual 40, 3)), (42, (.ifCond .ne 5, 3)), (45, (.iconst 0, 1)), (46, (.ireturn, 1)), (47, (.aload_n 0, 1)), (48, (.getfield 15, 3)), (51, (.iconst 3, 1)), (52, (.if_icmp .ge 16, 3)), (55, (.aload_n 0, 1)), (56, (.invokevirtual 44, 3)), (59, (.ifCond .eq 7, 3)), (62, (.iconst 1, 1)), (63, (.goto 4, 3)), (66, (.iconst 0, 1)), (67, (.ireturn, 1)), (68, (.aload_n 0, 1)), (69, (.aload_n 0, 1)), (70, (.getfield 23, 3)), (73, (.invokevirtual 47, 3)), (76, (.bipush 45, 2)), (78, (.if_icmp .ne 13, 3)), (81, (.aload_n 0, 1)), (82, (.iconst 1, 1)), (83, (.invokevirtual 51, 3)), (86, (.ifCond .ne 5, 3)), (89, (.iconst 0, 1)), (90, (.ireturn, 1)), (91, (.aload_n 0, 1)), (92, (.aload_n 0, 1)), (93, (.getfield 23, 3)), (96, (.invokevirtual 47, 3)), (99, (.bipush 43, 2)), (101, (.if_icmp .ne 13, 3)), (104, (.aload_n 0, 1)), (105, (.iconst 0, 1)), (106, (.invokevirtual 51, 3)), (109, (.ifCond .ne 5, 3)), (112, (.iconst 0, 1)), (113, (.ireturn, 1)), (114, (.aload_n 0, 1)), (115, (.getfield 23, 3)), (118, (.aload_n 0, 1)), (119, (.getfield 26, 3)), (122, (.if_icmp .ne 7, 3)), (125, (.iconst 2, 1)), (126, (.goto 4, 3)), (129, (.iconst 0, 1)), (130, (.ireturn, 1))]
def u_X10_take : Fx := (yX10_take, (cX10_take, (4, ((some .int), tb_X10_take))))
theorem tk_X10_take : ∀ q ∈ u_X10_take.2.2.2.2, decode u_X10_take.2.1 q.1 = .ok q.2 := by decide +kernel
theorem mc_X10_take : MC u_X10_take 3 := ⟨tbm 702 (by decide +kernel) rfl, tbm 117 (by decide +kernel) rfl, ⟨by decide, by decide, by decide +kernel⟩, by decide⟩
theorem in_X10_take : Cond.instanceMethod u_X10_take.1 ∈ TB ∧ Cond.selects u_X10_take.1.cls u_X10_take.1 u_X10_take.1 ∈ TB := ⟨tbm 700 (by decide +kernel) rfl, tbm 701 (by decide +kernel) rfl⟩
def f_X10_take_j114 (t : List Sh) (m : Mi) (a0 : Nat) : Option (Int32 × Mi) :=
  if (gi m a0 3) = (gi m a0 4) then
    some (2, m)
  else
    some (0, m)
def f_X10_take_j91 (t : List Sh) (m : Mi) (a0 : Nat) : Option (Int32 × Mi) :=
  (f_X10_signAt t m a0 (gi m a0 3)).bind fun x12 =>
  if x12 = 43 then
    bd (f_X10_takeIdentifiers t m a0 0) fun x15 m16 =>
    if x15 = 0 then
      some (0, m16)
    else
      f_X10_take_j114 t m16 a0
  else
    f_X10_take_j114 t m a0
def f_X10_take (t : List Sh) (m : Mi) (a0 : Nat) (a1 : Nat) (a2 : Int32) (a3 : Int32) : Option (Int32 × Mi) :=
  lt (sr m a0 2 a1) fun m1 =>
  lt (si m1 a0 3 a2) fun m2 =>
  lt (si m2 a0 4 a3) fun m3 =>
  lt (si m3 a0 1 0) fun m4 =>
  (f_J7_fill_d0a16 t m4 (gr m4 a0 0) 0).bind fun m5 =>
  (f_X10_setIdentifier t m5 (gr m5 a0 0) 9223372036854775807).bind fun m6 =>
  bd (f_X10_takeNumbers t m6 a0) fun x7 m8 =>
  if x7 = 0 then
    some (0, m8)
  else
    if 3 ≤ (gi m8 a0 1) then
      (f_X10_signAt t m8 a0 (gi m8 a0 3)).bind fun x11 =>
      if x11 = 45 then
        bd (f_X10_takeIdentifiers t m8 a0 1) fun x19 m20 =>
        if x19 = 0 then
          some (0, m20)
        else
          f_X10_take_j91 t m20 a0
      else
        f_X10_take_j91 t m8 a0
    else
      bd (f_X10_endsAfterFilling t m8 a0) fun x22 m23 =>
      if x22 = 0 then
        some (0, m23)
      else
        some (1, m23)
set_option maxRecDepth 4000 in
set_option maxHeartbeats 4000000 in
theorem sm_X10_take (t : List Sh) (m : Mi) (a0 : Nat) (a1 : Nat) (a2 : Int32) (a3 : Int32) (h0 : sh t a0 = some (.inl 10)) : Sm u_X10_take (4, 0, 0, t.length, zs t) (kI t) 0 [(0, .inr (.inr a0)), (1, .inr (.inr a1)), (2, .inl a2), (3, .inl a3)] [] (t, m) (f_X10_take t m a0 a1 a2 a3) := by
  unfold f_X10_take
  refine r_aload_n 0 1 0 rfl rfl rfl rfl ?_
  refine r_aload_n 1 2 1 rfl rfl rfl rfl ?_
  refine r_putR 2 5 rfl rfl fl_RX10_19 (fun h => by cases h) rfl h0 ?_
  refine r_ltM (fun m1 => ?_)
  refine r_aload_n 3 6 0 rfl rfl rfl rfl ?_
  refine r_iload_n 4 7 2 rfl rfl rfl rfl ?_
  refine r_putI 5 10 rfl rfl fl_RX10_23 (fun h => by cases h) (Or.inl rfl) h0 ?_
  refine r_ltM (fun m2 => ?_)
  refine r_aload_n 6 11 0 rfl rfl rfl rfl ?_
  refine r_iload_n 7 12 3 rfl rfl rfl rfl ?_
  refine r_putI 8 15 rfl rfl fl_RX10_26 (fun h => by cases h) (Or.inl rfl) h0 ?_
  refine r_ltM (fun m3 => ?_)
  refine r_aload_n 9 16 0 rfl rfl rfl rfl ?_
  refine r_iconst 10 17 (v := 0) rfl rfl (by decide) ?_
  refine r_putI 11 20 rfl rfl fl_RX10_15 (fun h => by cases h) (Or.inl rfl) h0 ?_
  refine r_ltM (fun m4 => ?_)
  refine r_aload_n 12 21 0 rfl rfl rfl rfl ?_
  refine r_getR 13 24 rfl rfl fl_RX10_11 rfl h0 ?_
  refine r_lconst 14 25 (v := 0) rfl rfl (by decide) ?_
  refine r_SV 15 28 (a := 0) (cn := 0) (st := []) (av := [.inr (.inr (gr m4 a0 0)), .inr (.inl 0)]) (μ' := u_J7_fill_d0a16) (d := 1) rfl rfl mc_J7_fill_d0a16 st_J7_fill_d0a16 lk_RX10_29 (Nat.le_of_ble_eq_true rfl) rfl (Nat.le_of_ble_eq_true rfl) (fun _ h => ct_J7_fill_d0a16 h) (fun m5 => ?_)
  refine r_aload_n 16 29 0 rfl rfl rfl rfl ?_
  refine r_getR 17 32 rfl rfl fl_RX10_11 rfl h0 ?_
  refine r_ldc2 18 35 rfl rfl kc_RX10_35 ?_
  refine r_SV 19 38 (a := 0) (cn := 0) (st := []) (av := [.inr (.inr (gr m5 a0 0)), .inr (.inl 9223372036854775807)]) (μ' := u_X10_setIdentifier) (d := 1) rfl rfl mc_X10_setIdentifier st_X10_setIdentifier lk_RX10_37 (Nat.le_of_ble_eq_true rfl) rfl (Nat.le_of_ble_eq_true rfl) (fun _ h => ct_X10_setIdentifier h) (fun m6 => ?_)
  refine r_aload_n 20 39 0 rfl rfl rfl rfl ?_
  refine r_VI 21 42 (st := []) (av := [.inr (.inr a0)]) (av' := []) (μ' := u_X10_takeNumbers) (d := 2) rfl rfl mc_X10_takeNumbers in_X10_takeNumbers lk_RX10_40 (Nat.le_of_ble_eq_true rfl) rfl rfl h0 rfl (Nat.le_of_ble_eq_true rfl) (fun _ _ h => ct_X10_takeNumbers h0 h) (fun x7 m8 => ?_)
  refine r_if_ne 22 47 45 rfl rfl rfl (fun h9 => ?_) (fun h9 => ?_)
  · refine r_iconst 23 46 (v := 0) rfl rfl (by decide) ?_
    exact r_iret 24 rfl rfl rfl
  · refine r_aload_n 25 48 0 rfl rfl rfl rfl ?_
    refine r_getI 26 51 rfl rfl fl_RX10_15 rfl h0 ?_
    refine r_iconst 27 52 (v := 3) rfl rfl (by decide) ?_
    refine r_icmp_ge 28 68 55 rfl rfl rfl (fun h10 => ?_) (fun h10 => ?_)
    · refine r_aload_n 36 69 0 rfl rfl rfl rfl ?_
      refine r_aload_n 37 70 0 rfl rfl rfl rfl ?_
      refine r_getI 38 73 rfl rfl fl_RX10_23 rfl h0 ?_
      refine r_VIo 39 76 (st := []) (av := [.inr (.inr a0), .inl (gi m8 a0 3)]) (av' := [.inl (gi m8 a0 3)]) (μ' := u_X10_signAt) (d := 1) rfl rfl mc_X10_signAt in_X10_signAt lk_RX10_47 (Nat.le_of_ble_eq_true rfl) rfl rfl h0 rfl (Nat.le_of_ble_eq_true rfl) (fun _ h => ct_X10_signAt h0 h) (fun x11 => ?_)
      refine r_bipush 40 78 (v := 45) rfl rfl (by decide) ?_
      have hj91 : ∀ (m : Mi), Sm u_X10_take (4, 0, 0, t.length, zs t) (kI t) 91 [(0, .inr (.inr a0))] [] (t, m) (f_X10_take_j91 t m a0) := by
        intro m
        unfold f_X10_take_j91
        refine r_aload_n 48 92 0 rfl rfl rfl rfl ?_
        refine r_aload_n 49 93 0 rfl rfl rfl rfl ?_
        refine r_getI 50 96 rfl rfl fl_RX10_23 rfl h0 ?_
        refine r_VIo 51 99 (st := []) (av := [.inr (.inr a0), .inl (gi m a0 3)]) (av' := [.inl (gi m a0 3)]) (μ' := u_X10_signAt) (d := 1) rfl rfl mc_X10_signAt in_X10_signAt lk_RX10_47 (Nat.le_of_ble_eq_true rfl) rfl rfl h0 rfl (Nat.le_of_ble_eq_true rfl) (fun _ h => ct_X10_signAt h0 h) (fun x12 => ?_)
        refine r_bipush 52 101 (v := 43) rfl rfl (by decide) ?_
        have hj114 : ∀ (m : Mi), Sm u_X10_take (4, 0, 0, t.length, zs t) (kI t) 114 [(0, .inr (.inr a0))] [] (t, m) (f_X10_take_j114 t m a0) := by
          intro m
          unfold f_X10_take_j114
          refine r_aload_n 60 115 0 rfl rfl rfl rfl ?_
          refine r_getI 61 118 rfl rfl fl_RX10_23 rfl h0 ?_
          refine r_aload_n 62 119 0 rfl rfl rfl rfl ?_
          refine r_getI 63 122 rfl rfl fl_RX10_26 rfl h0 ?_
          refine r_icmp_ne 64 129 125 rfl rfl rfl (fun h13 => ?_) (fun h13 => ?_)
          · refine r_iconst 65 126 (v := 2) rfl rfl (by decide) ?_
            refine r_goto 66 130 rfl rfl ?_
            exact r_iret 68 rfl rfl rfl
          · refine r_iconst 67 130 (v := 0) rfl rfl (by decide) ?_
            exact r_iret 68 rfl rfl rfl
        refine r_icmp_ne 53 114 104 rfl rfl rfl (fun h14 => ?_) (fun h14 => ?_)
        · refine r_aload_n 54 105 0 rfl rfl rfl rfl ?_
          refine r_iconst 55 106 (v := 0) rfl rfl (by decide) ?_
          refine r_VI 56 109 (st := []) (av := [.inr (.inr a0), .inl 0]) (av' := [.inl 0]) (μ' := u_X10_takeIdentifiers) (d := 3) rfl rfl mc_X10_takeIdentifiers in_X10_takeIdentifiers lk_RX10_51 (Nat.le_of_ble_eq_true rfl) rfl rfl h0 rfl (Nat.le_of_ble_eq_true rfl) (fun _ _ h => ct_X10_takeIdentifiers h0 h) (fun x15 m16 => ?_)
          refine r_if_ne 57 114 112 rfl rfl rfl (fun h17 => ?_) (fun h17 => ?_)
          · refine r_iconst 58 113 (v := 0) rfl rfl (by decide) ?_
            exact r_iret 59 rfl rfl rfl
          · exact hj114 m16
        · exact hj114 m
      refine r_icmp_ne 41 91 81 rfl rfl rfl (fun h18 => ?_) (fun h18 => ?_)
      · refine r_aload_n 42 82 0 rfl rfl rfl rfl ?_
        refine r_iconst 43 83 (v := 1) rfl rfl (by decide) ?_
        refine r_VI 44 86 (st := []) (av := [.inr (.inr a0), .inl 1]) (av' := [.inl 1]) (μ' := u_X10_takeIdentifiers) (d := 3) rfl rfl mc_X10_takeIdentifiers in_X10_takeIdentifiers lk_RX10_51 (Nat.le_of_ble_eq_true rfl) rfl rfl h0 rfl (Nat.le_of_ble_eq_true rfl) (fun _ _ h => ct_X10_takeIdentifiers h0 h) (fun x19 m20 => ?_)
        refine r_if_ne 45 91 89 rfl rfl rfl (fun h21 => ?_) (fun h21 => ?_)
        · refine r_iconst 46 90 (v := 0) rfl rfl (by decide) ?_
          exact r_iret 47 rfl rfl rfl
        · exact r_sub [0] rfl (hj91 m20)
      · exact r_sub [0] rfl (hj91 m8)
    · refine r_aload_n 29 56 0 rfl rfl rfl rfl ?_
      refine r_VI 30 59 (st := []) (av := [.inr (.inr a0)]) (av' := []) (μ' := u_X10_endsAfterFilling) (d := 2) rfl rfl mc_X10_endsAfterFilling in_X10_endsAfterFilling lk_RX10_44 (Nat.le_of_ble_eq_true rfl) rfl rfl h0 rfl (Nat.le_of_ble_eq_true rfl) (fun _ _ h => ct_X10_endsAfterFilling h0 h) (fun x22 m23 => ?_)
      refine r_if_eq 31 66 62 rfl rfl rfl (fun h24 => ?_) (fun h24 => ?_)
      · refine r_iconst 34 67 (v := 0) rfl rfl (by decide) ?_
        exact r_iret 35 rfl rfl rfl
      · refine r_iconst 32 63 (v := 1) rfl rfl (by decide) ?_
        refine r_goto 33 67 rfl rfl ?_
        exact r_iret 35 rfl rfl rfl
theorem ct_X10_take {t : List Sh} {m : Mi} {a0 : Nat} {a1 : Nat} {a2 : Int32} {a3 : Int32} {m' : Mi} {v : Int32}  (h0 : sh t a0 = some (.inl 10)) (h : f_X10_take t m a0 a1 a2 a3 = some (v, m')) : Ct u_X10_take 4 0 0 [.inr (.inr a0), .inr (.inr a1), .inl a2, .inl a3] (t, m) (some (.inl v), (t, m')) :=
  ct_of (by decide) tk_X10_take (Nat.le_of_ble_eq_true rfl) (sm_X10_take t m a0 a1 a2 a3 h0) (by rw [h]; rfl) (Nat.le_refl _) (Nat.le_refl _)
