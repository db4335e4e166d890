theorem fl_RX12_259 : FL RX12 259 12 17 false := ⟨RX12, TX12, 61, rfl, inW12, tyX12_ok, nmX12, by decide, rfl, rfl, rfl, tbm 1344 (by decide +kernel) rfl⟩
theorem fl_RX12_237 : FL RX12 237 12 14 false := ⟨RX12, TX12, 61, rfl, inW12, tyX12_ok, nmX12, by decide, rfl, rfl, rfl, tbm 1341 (by decide +kernel) rfl⟩
theorem lk_RX12_265 : Cond.methodLink RX12 265 yX12_reads ∈ TB := tbm 1563 (by decide +kernel) rfl
theorem lk_RX12_262 : Cond.methodLink RX12 262 yX12_isSign ∈ TB := tbm 1557 (by decide +kernel) rfl
def tb_X12_part : Tb := [(0, (.aload_n 0, 1)), (1, (.iconst 0, 1)), (2, (.putfield 256, 3)), (5, (.aload_n 0, 1)), (6, (.iload_n 1, 1)), (7, (.putfield 259, 3)), (10, (.iload_n 2, 1)), (11, (.bipush 42, 2)), (13, (.if_icmp .ne 21, 3)), (16, (.aload_n 0, 1)), (17, (.iload_n 2, 1)), (18, (.putfield 256, 3)), (21, (.aload_n 0, 1)), (22, (.iload_n 1, 1)), (23, (.iconst 1, 1)), (24, (.iadd, 1)), (25, (.putfield 234, 3)), (28, (.aload_n 0, 1)), (29, (.iconst 2, 1)), (30, (.putfield 237, 3)), (33, (.return_, 1)), (34, (.iload_n 2, 1)), (35, (.bipush 61, 2)), (37, (.if_icmp .eq 27, 3)), (40, (.iload_n 2, 1)), (41, (.bipush 62, 2)), (43, (.if_icmp .eq 21, 3)), (46, (.iload_n 2, 1)), (47, (.bipush 60, 2)), (49, (.if_icmp .eq 15, 3)), (52, (.iload_n 2, 1)), (53, (.bipush 94, 2)), (55, (.if_icmp .eq 9, 3)), (58, (.iload_n 2, 1)), (59, (.bipush 126, 2)), (61, (.if_icmp .ne 55, 3)), (64, (.aload_n 0, 1)), (65, (.iload_n 2, 1)), (66, (.putfield 256, 3)), (69, (.aload_n 0, 1)), (70, (.iload_n 1, 1)), (71, (.iconst 1, 1)), (72, (.iadd, 1)), (73, (.putfield 259, 3)), (76, (.iload_n 2, 1)), (77, (.bipush 62, 2)), (79, (.if_icmp .eq 9, 3)), (82, (.iload_n 2, 1)), (83, (.bipush 60, 2)), (85, (.if_icmp .ne 31, 3)), (88, (.aload_n 0, 1)), (89, (.iload_n 1, 1)), (90, (.iconst 1, 1)), (91, (.iadd, 1)), (92, (.invokevirtual 169, 3)), (95, (.bipush 61, 2)), (97, (.if_icmp .ne 19, 3)), (100, (.aload_n 0, 1)), (101, (.iload_n 2, 1)), (102, (.sipush 256, 3)), (105, (.iadd, 1)), (106, (.putfield 256, 3)), (109, (.aload_n 0, 1)), (110, (.iload_n 1, 1)), (111, (.iconst 2, 1)), (112, (.iadd, 1)), (113, (.putfield 259, 3)), (116, (.aload_n 0, 1)), (117, (.getfield 259, 3)), (120, (.istore_n 3, 1)), (121, (.iload_n 3, 1)), (122, (.aload_n 0, 1)), (123, (.getfield 156, 3)), (126, (.if_icmp .ge 21, 3)), (129, (.aload_n 0, 1)), (130, (.iload_n 3, 1)), (131, (.invokevirtual 169, 3)), (134, (.invokestatic 262, 3)), (137, (.ifCond .eq 10, 3)), (140, (.iload_n 3, 1)), (141, (.iconst 1, 1)), (142, (.iadd, 1)), (143, (.istore_n 3, 1)), (144, (.goto (-23), 3)), (147, (.aload_n 0, 1)), (148, (.iload_n 3, 1)), (149, (.iload_n 1, 1)), (150, (.if_icmp .le 7, 3)), (153, (.iload_n 3, 1)), (154, (.goto 6, 3)), (157, (.iload_n 1, 1)), (158, (.iconst 1, 1)), (159, (.iadd, 1)), (160, (.putfield 234, 3)), (163, (.aload_n 0, 1)), (164, (.iload_n 3, 1)), (165, (.aload_n 0, 1)), (166, (.getfield 259, 3)), (169, (.if_icmp .le 19, 3)), (172, (.aload_n 0, 1)), (173, (.aload_n 0, 1)), (174, (.getfield 259, 3)), (177, (.iload_n 3, 1)), (178, (.invokevirtual 265, 3)), (181, (.ifCond .le 7, 3)), (184, (.iconst 2, 1)), (185, (.goto 5, 3)), (188, (.bipush 7, 2)), (190, (.putfield 237, 3)), (193, (.return_, 1))]
def u_X12_part : Fx := (yX12_part, (cX12_part, (4, (none, tb_X12_part))))
theorem tk_X12_part : ∀ q ∈ u_X12_part.2.2.2.2, decode u_X12_part.2.1 q.1 = .ok q.2 := by decide +kernel
theorem mc_X12_part : MC u_X12_part 2 := ⟨tbm 1556 (by decide +kernel) rfl, tbm 128 (by decide +kernel) rfl, ⟨by decide, by decide, by decide +kernel⟩, by decide⟩
theorem in_X12_part : Cond.instanceMethod u_X12_part.1 ∈ TB ∧ Cond.selects u_X12_part.1.cls u_X12_part.1 u_X12_part.1 ∈ TB := ⟨tbm 1555 (by decide +kernel) rfl, tbm 73 (by decide +kernel) rfl⟩
def f_X12_part_j190 (t : List Sh) (m : Mi) (s0 : Int32) (s1 : Nat) : Option (Mi) :=
  (if ob t s1 12 = true then
  lt (si m s1 14 s0) fun m11 =>
  some m11
  else none)
def f_X12_part_j188 (t : List Sh) (m : Mi) (s0 : Nat) : Option (Mi) :=
  f_X12_part_j190 t m 7 s0
def f_X12_part_j160 (t : List Sh) (m : Mi) (a0 : Nat) (a3 : Int32) (s0 : Int32) (s1 : Nat) : Option (Mi) :=
  (if ob t s1 12 = true then
  lt (si m s1 16 s0) fun m9 =>
  if a3 ≤ (gi m9 a0 17) then
    f_X12_part_j188 t m9 a0
  else
    bd (f_X12_reads t m9 a0 (gi m9 a0 17) a3) fun x13 m14 =>
    if x13 ≤ 0 then
      f_X12_part_j188 t m14 a0
    else
      f_X12_part_j190 t m14 2 a0
  else none)
def f_X12_part_j147 (t : List Sh) (m : Mi) (a0 : Nat) (a1 : Int32) (a3 : Int32) : Option (Mi) :=
  if a3 ≤ a1 then
    f_X12_part_j160 t m a0 a3 (a1 + 1) a0
  else
    f_X12_part_j160 t m a0 a3 a3 a0
def f_X12_part_l121 (t : List Sh) (m : Mi) (a0 : Nat) (a1 : Int32) (a3 : Int32) : Option ((Int32) ⊕ ((Int32))) :=
  if (gi m a0 3) ≤ a3 then
    some (.inr a3)
  else
    (f_X12_at t m a0 a3).bind fun x18 =>
    (f_X12_isSign x18).bind fun x19 =>
    if x19 = 0 then
      some (.inr a3)
    else
      lt (a3 + 1) fun x21 =>
      some (.inl x21)
def f_X12_part_j121 (t : List Sh) (m : Mi) (a0 : Nat) (a1 : Int32) (a3 : Int32) : Option (Mi) :=
  (lp (fun x : Int32 => f_X12_part_l121 t m a0 a1 x) FUEL a3).bind (fun y : Int32 => f_X12_part_j147 t m a0 a1 y)
def f_X12_part_j116 (t : List Sh) (m : Mi) (a0 : Nat) (a1 : Int32) : Option (Mi) :=
  lt (gi m a0 17) fun x7 =>
  f_X12_part_j121 t m a0 a1 x7
def f_X12_part_j88 (t : List Sh) (m : Mi) (a0 : Nat) (a1 : Int32) (a2 : Int32) : Option (Mi) :=
  (f_X12_at t m a0 (a1 + 1)).bind fun x24 =>
  if x24 = 61 then
    lt (si m a0 18 (a2 + 256)) fun m26 =>
    lt (si m26 a0 17 (a1 + 2)) fun m27 =>
    f_X12_part_j116 t m27 a0 a1
  else
    f_X12_part_j116 t m a0 a1
def f_X12_part_j64 (t : List Sh) (m : Mi) (a0 : Nat) (a1 : Int32) (a2 : Int32) : Option (Mi) :=
  lt (si m a0 18 a2) fun m22 =>
  lt (si m22 a0 17 (a1 + 1)) fun m23 =>
  if a2 = 62 then
    f_X12_part_j88 t m23 a0 a1 a2
  else
    if a2 = 60 then
      f_X12_part_j88 t m23 a0 a1 a2
    else
      f_X12_part_j116 t m23 a0 a1
def f_X12_part (t : List Sh) (m : Mi) (a0 : Nat) (a1 : Int32) (a2 : Int32) : Option (Mi) :=
  lt (si m a0 18 0) fun m1 =>
  lt (si m1 a0 17 a1) fun m2 =>
  if a2 = 42 then
    lt (si m2 a0 18 a2) fun m4 =>
    lt (si m4 a0 16 (a1 + 1)) fun m5 =>
    lt (si m5 a0 14 2) fun m6 =>
    some m6
  else
    if a2 = 61 then
      f_X12_part_j64 t m2 a0 a1 a2
    else
      if a2 = 62 then
        f_X12_part_j64 t m2 a0 a1 a2
      else
        if a2 = 60 then
          f_X12_part_j64 t m2 a0 a1 a2
        else
          if a2 = 94 then
            f_X12_part_j64 t m2 a0 a1 a2
          else
            if a2 = 126 then
              f_X12_part_j64 t m2 a0 a1 a2
            else
              f_X12_part_j116 t m2 a0 a1
set_option maxRecDepth 4000 in
set_option maxHeartbeats 4000000 in
theorem sm_X12_part (t : List Sh) (m : Mi) (a0 : Nat) (a1 : Int32) (a2 : Int32) (h0 : sh t a0 = some (.inl 12)) : Sm u_X12_part (6, 0, 0, t.length, zs t) (kV t) 0 [(0, .inr (.inr a0)), (1, .inl a1), (2, .inl a2)] [] (t, m) (f_X12_part t m a0 a1 a2) := by
  unfold f_X12_part
  refine r_aload_n 0 1 0 rfl rfl rfl rfl ?_
  refine r_iconst 1 2 (v := 0) rfl rfl (by decide) ?_
  refine r_putI 2 5 rfl rfl fl_RX12_256 (fun h => by cases h) (Or.inl rfl) h0 ?_
  refine r_ltM (fun m1 => ?_)
  refine r_aload_n 3 6 0 rfl rfl rfl rfl ?_
  refine r_iload_n 4 7 1 rfl rfl rfl rfl ?_
  refine r_putI 5 10 rfl rfl fl_RX12_259 (fun h => by cases h) (Or.inl rfl) h0 ?_
  refine r_ltM (fun m2 => ?_)
  refine r_iload_n 6 11 2 rfl rfl rfl rfl ?_
  refine r_bipush 7 13 (v := 42) rfl rfl (by decide) ?_
  refine r_icmp_ne 8 34 16 rfl rfl rfl (fun h3 => ?_) (fun h3 => ?_)
  · refine r_aload_n 9 17 0 rfl rfl rfl rfl ?_
    refine r_iload_n 10 18 2 rfl rfl rfl rfl ?_
    refine r_putI 11 21 rfl rfl fl_RX12_256 (fun h => by cases h) (Or.inl rfl) h0 ?_
    refine r_ltM (fun m4 => ?_)
    refine r_aload_n 12 22 0 rfl rfl rfl rfl ?_
    refine r_iload_n 13 23 1 rfl rfl rfl rfl ?_
    refine r_iconst 14 24 (v := 1) rfl rfl (by decide) ?_
    refine r_iadd 15 25 rfl rfl ?_
    refine r_putI 16 28 rfl rfl fl_RX12_234 (fun h => by cases h) (Or.inl rfl) h0 ?_
    refine r_ltM (fun m5 => ?_)
    refine r_aload_n 17 29 0 rfl rfl rfl rfl ?_
    refine r_iconst 18 30 (v := 2) rfl rfl (by decide) ?_
    refine r_putI 19 33 rfl rfl fl_RX12_237 (fun h => by cases h) (Or.inl rfl) h0 ?_
    refine r_ltM (fun m6 => ?_)
    exact r_vret 20 rfl rfl rfl
  · refine r_iload_n 21 35 2 rfl rfl rfl rfl ?_
    refine r_bipush 22 37 (v := 61) rfl rfl (by decide) ?_
    have hj116 : ∀ (m : Mi), Sm u_X12_part (6, 0, 0, t.length, zs t) (kV t) 116 [(0, .inr (.inr a0)), (1, .inl a1)] [] (t, m) (f_X12_part_j116 t m a0 a1) := by
      intro m
      unfold f_X12_part_j116
      refine r_aload_n 67 117 0 rfl rfl rfl rfl ?_
      refine r_getI 68 120 rfl rfl fl_RX12_259 rfl h0 ?_
      refine r_ltI (fun x7 => ?_)
      refine r_istore_n 69 121 (L' := [(3, .inl x7), (0, .inr (.inr a0)), (1, .inl a1)]) rfl rfl rfl (by decide) rfl ?_
      have hj121 : ∀ (m : Mi) (a3 : Int32), Sm u_X12_part (6, 0, 0, t.length, zs t) (kV t) 121 [(0, .inr (.inr a0)), (1, .inl a1), (3, .inl a3)] [] (t, m) (f_X12_part_j121 t m a0 a1 a3) := by
        intro m a3
        unfold f_X12_part_j121
        have hj147 : ∀ (m : Mi) (a3 : Int32), Sm u_X12_part (6, 0, 0, t.length, zs t) (kV t) 147 [(0, .inr (.inr a0)), (1, .inl a1), (3, .inl a3)] [] (t, m) (f_X12_part_j147 t m a0 a1 a3) := by
          intro m a3
          unfold f_X12_part_j147
          refine r_aload_n 84 148 0 rfl rfl rfl rfl ?_
          refine r_iload_n 85 149 2 rfl rfl rfl rfl ?_
          refine r_iload_n 86 150 1 rfl rfl rfl rfl ?_
          have hj160 : ∀ (m : Mi) (a3 : Int32) (s0 : Int32) (s1 : Nat), Sm u_X12_part (6, 0, 0, t.length, zs t) (kV t) 160 [(0, .inr (.inr a0)), (3, .inl a3)] [.inl s0, .inr (.inr s1)] (t, m) (f_X12_part_j160 t m a0 a3 s0 s1) := by
            intro m a3 s0 s1
            unfold f_X12_part_j160
            refine r_gd (fun h8 => ?_)
            refine r_putI 93 163 rfl rfl fl_RX12_234 (fun h => by cases h) (Or.inl rfl) (ob_sh h8) ?_
            refine r_ltM (fun m9 => ?_)
            refine r_aload_n 94 164 0 rfl rfl rfl rfl ?_
            refine r_iload_n 95 165 1 rfl rfl rfl rfl ?_
            refine r_aload_n 96 166 0 rfl rfl rfl rfl ?_
            refine r_getI 97 169 rfl rfl fl_RX12_259 rfl h0 ?_
            have hj190 : ∀ (m : Mi) (s0 : Int32) (s1 : Nat), Sm u_X12_part (6, 0, 0, t.length, zs t) (kV t) 190 [] [.inl s0, .inr (.inr s1)] (t, m) (f_X12_part_j190 t m s0 s1) := by
              intro m s0 s1
              unfold f_X12_part_j190
              refine r_gd (fun h10 => ?_)
              refine r_putI 108 193 rfl rfl fl_RX12_237 (fun h => by cases h) (Or.inl rfl) (ob_sh h10) ?_
              refine r_ltM (fun m11 => ?_)
              exact r_vret 109 rfl rfl rfl
            have hj188 : ∀ (m : Mi) (s0 : Nat), Sm u_X12_part (6, 0, 0, t.length, zs t) (kV t) 188 [] [.inr (.inr s0)] (t, m) (f_X12_part_j188 t m s0) := by
              intro m s0
              unfold f_X12_part_j188
              refine r_bipush 107 190 (v := 7) rfl rfl (by decide) ?_
              exact hj190 m 7 s0
            refine r_icmp_le 98 188 172 rfl rfl rfl (fun h12 => ?_) (fun h12 => ?_)
            · exact r_sub [] rfl (hj188 m9 a0)
            · refine r_aload_n 99 173 0 rfl rfl rfl rfl ?_
              refine r_aload_n 100 174 0 rfl rfl rfl rfl ?_
              refine r_getI 101 177 rfl rfl fl_RX12_259 rfl h0 ?_
              refine r_iload_n 102 178 1 rfl rfl rfl rfl ?_
              refine r_VI 103 181 (st := [.inr (.inr a0)]) (av := [.inr (.inr a0), .inl (gi m9 a0 17), .inl a3]) (av' := [.inl (gi m9 a0 17), .inl a3]) (μ' := u_X12_reads) (d := 5) rfl rfl mc_X12_reads in_X12_reads lk_RX12_265 (Nat.le_of_ble_eq_true rfl) rfl rfl h0 rfl (Nat.le_of_ble_eq_true rfl) (fun _ _ h => ct_X12_reads h0 h) (fun x13 m14 => ?_)
              refine r_if_le 104 188 184 rfl rfl rfl (fun h15 => ?_) (fun h15 => ?_)
              · exact r_sub [] rfl (hj188 m14 a0)
              · refine r_iconst 105 185 (v := 2) rfl rfl (by decide) ?_
                refine r_goto 106 190 rfl rfl ?_
                exact r_sub [] rfl (hj190 m14 2 a0)
          refine r_icmp_le 87 157 153 rfl rfl rfl (fun h16 => ?_) (fun h16 => ?_)
          · refine r_iload_n 90 158 1 rfl rfl rfl rfl ?_
            refine r_iconst 91 159 (v := 1) rfl rfl (by decide) ?_
            refine r_iadd 92 160 rfl rfl ?_
            exact r_sub [0, 2] rfl (hj160 m a3 (a1 + 1) a0)
          · refine r_iload_n 88 154 2 rfl rfl rfl rfl ?_
            refine r_goto 89 160 rfl rfl ?_
            exact r_sub [0, 2] rfl (hj160 m a3 a3 a0)
        refine r_lp (Lf := fun x : Int32 => [(0, .inr (.inr a0)), (1, .inl a1), (3, .inl x)]) (Mf := fun x : Int32 => (t, m)) a3 ?_ FUEL
        rintro a3 κ121 hc121 he121
        refine r_eq (L' := [(0, .inr (.inr a0)), (1, .inl a1), (3, .inl a3)]) (M' := (t, m)) rfl rfl ?_
        refine r_eqr (r' := f_X12_part_l121 t m a0 a1 a3) rfl ?_
        unfold f_X12_part_l121
        refine r_iload_n 70 122 2 rfl rfl rfl rfl ?_
        refine r_aload_n 71 123 0 rfl rfl rfl rfl ?_
        refine r_getI 72 126 rfl rfl fl_RX12_156 rfl h0 ?_
        refine r_icmp_ge 73 147 129 rfl rfl rfl (fun h17 => ?_) (fun h17 => ?_)
        · refine r_leaf (r2 := (f_X12_part_j147 t m a0 a1 a3 : Option (Mi))) (he121 _) ?_
          exact hj147 m a3
        · refine r_aload_n 74 130 0 rfl rfl rfl rfl ?_
          refine r_iload_n 75 131 2 rfl rfl rfl rfl ?_
          refine r_VIo 76 134 (st := []) (av := [.inr (.inr a0), .inl a3]) (av' := [.inl a3]) (μ' := u_X12_at) (d := 1) rfl rfl mc_X12_at in_X12_at lk_RX12_169 (Nat.le_of_ble_eq_true rfl) rfl rfl h0 rfl (Nat.le_of_ble_eq_true rfl) (fun _ h => ct_X12_at h0 h) (fun x18 => ?_)
          refine r_SIo 77 137 (a := 0) (cn := 0) (st := []) (av := [.inl x18]) (μ' := u_X12_isSign) (d := 3) rfl rfl mc_X12_isSign st_X12_isSign lk_RX12_262 (Nat.le_of_ble_eq_true rfl) rfl (Nat.le_of_ble_eq_true rfl) (fun _ h => ct_X12_isSign h) (fun x19 => ?_)
          refine r_if_eq 78 147 140 rfl rfl rfl (fun h20 => ?_) (fun h20 => ?_)
          · refine r_leaf (r2 := (f_X12_part_j147 t m a0 a1 a3 : Option (Mi))) (he121 _) ?_
            exact hj147 m a3
          · refine r_iload_n 79 141 2 rfl rfl rfl rfl ?_
            refine r_iconst 80 142 (v := 1) rfl rfl (by decide) ?_
            refine r_iadd 81 143 rfl rfl ?_
            refine r_ltI (fun x21 => ?_)
            refine r_istore_n 82 144 (L' := [(3, .inl x21), (0, .inr (.inr a0)), (1, .inl a1)]) rfl rfl rfl (by decide) rfl ?_
            refine r_goto 83 121 rfl rfl ?_
            exact r_sub [1, 2, 0] rfl (hc121 x21)
      exact r_sub [1, 2, 0] rfl (hj121 m x7)
    have hj64 : ∀ (m : Mi), Sm u_X12_part (6, 0, 0, t.length, zs t) (kV t) 64 [(0, .inr (.inr a0)), (1, .inl a1), (2, .inl a2)] [] (t, m) (f_X12_part_j64 t m a0 a1 a2) := by
      intro m
      unfold f_X12_part_j64
      refine r_aload_n 36 65 0 rfl rfl rfl rfl ?_
      refine r_iload_n 37 66 2 rfl rfl rfl rfl ?_
      refine r_putI 38 69 rfl rfl fl_RX12_256 (fun h => by cases h) (Or.inl rfl) h0 ?_
      refine r_ltM (fun m22 => ?_)
      refine r_aload_n 39 70 0 rfl rfl rfl rfl ?_
      refine r_iload_n 40 71 1 rfl rfl rfl rfl ?_
      refine r_iconst 41 72 (v := 1) rfl rfl (by decide) ?_
      refine r_iadd 42 73 rfl rfl ?_
      refine r_putI 43 76 rfl rfl fl_RX12_259 (fun h => by cases h) (Or.inl rfl) h0 ?_
      refine r_ltM (fun m23 => ?_)
      refine r_iload_n 44 77 2 rfl rfl rfl rfl ?_
      refine r_bipush 45 79 (v := 62) rfl rfl (by decide) ?_
      have hj88 : ∀ (m : Mi), Sm u_X12_part (6, 0, 0, t.length, zs t) (kV t) 88 [(0, .inr (.inr a0)), (1, .inl a1), (2, .inl a2)] [] (t, m) (f_X12_part_j88 t m a0 a1 a2) := by
        intro m
        unfold f_X12_part_j88
        refine r_aload_n 50 89 0 rfl rfl rfl rfl ?_
        refine r_iload_n 51 90 1 rfl rfl rfl rfl ?_
        refine r_iconst 52 91 (v := 1) rfl rfl (by decide) ?_
        refine r_iadd 53 92 rfl rfl ?_
        refine r_VIo 54 95 (st := []) (av := [.inr (.inr a0), .inl (a1 + 1)]) (av' := [.inl (a1 + 1)]) (μ' := u_X12_at) (d := 1) rfl rfl mc_X12_at in_X12_at lk_RX12_169 (Nat.le_of_ble_eq_true rfl) rfl rfl h0 rfl (Nat.le_of_ble_eq_true rfl) (fun _ h => ct_X12_at h0 h) (fun x24 => ?_)
        refine r_bipush 55 97 (v := 61) rfl rfl (by decide) ?_
        refine r_icmp_ne 56 116 100 rfl rfl rfl (fun h25 => ?_) (fun h25 => ?_)
        · refine r_aload_n 57 101 0 rfl rfl rfl rfl ?_
          refine r_iload_n 58 102 2 rfl rfl rfl rfl ?_
          refine r_sipush 59 105 (v := 256) rfl rfl (by decide) ?_
          refine r_iadd 60 106 rfl rfl ?_
          refine r_putI 61 109 rfl rfl fl_RX12_256 (fun h => by cases h) (Or.inl rfl) h0 ?_
          refine r_ltM (fun m26 => ?_)
          refine r_aload_n 62 110 0 rfl rfl rfl rfl ?_
          refine r_iload_n 63 111 1 rfl rfl rfl rfl ?_
          refine r_iconst 64 112 (v := 2) rfl rfl (by decide) ?_
          refine r_iadd 65 113 rfl rfl ?_
          refine r_putI 66 116 rfl rfl fl_RX12_259 (fun h => by cases h) (Or.inl rfl) h0 ?_
          refine r_ltM (fun m27 => ?_)
          exact r_sub [0, 1] rfl (hj116 m27)
        · exact r_sub [0, 1] rfl (hj116 m)
      refine r_icmp_eq 46 88 82 rfl rfl rfl (fun h28 => ?_) (fun h28 => ?_)
      · exact hj88 m23
      · refine r_iload_n 47 83 2 rfl rfl rfl rfl ?_
        refine r_bipush 48 85 (v := 60) rfl rfl (by decide) ?_
        refine r_icmp_ne 49 116 88 rfl rfl rfl (fun h29 => ?_) (fun h29 => ?_)
        · exact hj88 m23
        · exact r_sub [0, 1] rfl (hj116 m23)
    refine r_icmp_eq 23 64 40 rfl rfl rfl (fun h30 => ?_) (fun h30 => ?_)
    · exact hj64 m2
    · refine r_iload_n 24 41 2 rfl rfl rfl rfl ?_
      refine r_bipush 25 43 (v := 62) rfl rfl (by decide) ?_
      refine r_icmp_eq 26 64 46 rfl rfl rfl (fun h31 => ?_) (fun h31 => ?_)
      · exact hj64 m2
      · refine r_iload_n 27 47 2 rfl rfl rfl rfl ?_
        refine r_bipush 28 49 (v := 60) rfl rfl (by decide) ?_
        refine r_icmp_eq 29 64 52 rfl rfl rfl (fun h32 => ?_) (fun h32 => ?_)
        · exact hj64 m2
        · refine r_iload_n 30 53 2 rfl rfl rfl rfl ?_
          refine r_bipush 31 55 (v := 94) rfl rfl (by decide) ?_
          refine r_icmp_eq 32 64 58 rfl rfl rfl (fun h33 => ?_) (fun h33 => ?_)
          · exact hj64 m2
          · refine r_iload_n 33 59 2 rfl rfl rfl rfl ?_
            refine r_bipush 34 61 (v := 126) rfl rfl (by decide) ?_
            refine r_icmp_ne 35 116 64 rfl rfl rfl (fun h34 => ?_) (fun h34 => ?_)
            · exact hj64 m2
            · exact r_sub [0, 1] rfl (hj116 m2)
theorem ct_X12_part {t : List Sh} {m : Mi} {a0 : Nat} {a1 : Int32} {a2 : Int32} {m' : Mi}  (h0 : sh t a0 = some (.inl 12)) (h : f_X12_part t m a0 a1 a2 = some m') : Ct u_X12_part 6 0 0 [.inr (.inr a0), .inl a1, .inl a2] (t, m) (none, (t, m')) :=
  ct_of (by decide) tk_X12_part (Nat.le_of_ble_eq_true rfl) (sm_X12_part t m a0 a1 a2 h0) (by rw [h]; rfl) (Nat.le_refl _) (Nat.le_refl _)
theorem lk_RX12_271 : Cond.methodLink RX12 271 yX12_upTo ∈ TB := tbm 1599 (by decide +kernel) rfl
def tb_X12_partRange : Tb := [(0, (.aload_n 0, 1)), (1, (.iload_n 1, 1)), (2, (.invokevirtual 145, 3)), (5, (.aload_n 0, 1)), (6, (.getfield 256, 3)), (9, (.bipush 42, 2)), (11, (.if_icmp .ne 4, 3)), (14, (.return_, 1)), (15, (.aload_n 0, 1)), (16, (.aload_n 0, 1)), (17, (.getfield 259, 3)), (20, (.aload_n 0, 1)), (21, (.getfield 234, 3)), (24, (.invokevirtual 265, 3)), (27, (.iconst 1, 1)), (28, (.if_icmp .ne 7, 3)), (31, (.iconst 1, 1)), (32, (.goto 4, 3)), (35, (.iconst 0, 1)), (36, (.istore_n 2, 1)), (37, (.iload_n 1, 1)), (38, (.iconst 0, 1)), (39, (.invokestatic 194, 3)), (42, (.istore_n 3, 1)), (43, (.iload_n 1, 1)), (44, (.iconst 0, 1)), (45, (.invokestatic 203, 3)), (48, (.istore 4, 2)), (50, (.iload_n 2, 1)), (51, (.ifCond .eq 54, 3)), (54, (.aload_n 0, 1)), (55, (.getfield 37, 3)), (58, (.iconst 0, 1)), (59, (.aload_n 0, 1)), (60, (.getfield 16, 3)), (63, (.iconst 0, 1)), (64, (.invokestatic 224, 3)), (67, (.aload_n 0, 1)), (68, (.getfield 37, 3)), (71, (.aload_n 0, 1)), (72, (.getfield 183, 3)), (75, (.iconst 1, 1)), (76, (.isub, 1)), (77, (.aload_n 0, 1)), (78, (.getfield 37, 3)), (81, (.aload_n 0, 1)), (82, (.getfield 183, 3)), (85, (.iconst 1, 1)), (86, (.isub, 1)), (87, (.laload, 1)), (88, (.lconst 1, 1)), (89, (.ladd, 1)), (90, (.lastore, 1)), (91, (.aload_n 0, 1)), (92, (.getfield 37, 3)), (95, (.iconst 3, 1)), (96, (.lconst 1, 1)), (97, (.lastore, 1)), (98, (.aload_n 0, 1)), (99, (.getfield 37, 3)), (102, (.iconst 4, 1)), (103, (.lconst 0, 1)), (104, (.lastore, 1)), (105, (.aload_n 0, 1)), (106, (.getfield 256, 3)), (109, (.lookupswitch 256 #[(0, 59), (60, 174), (61, 59), (62, 125), (316, 215), (318, 111)], 59)), (168, (.aload_n 0, 1)), (169, (.getfield 25, 3)), (172, (.iload_n 3, 1)), (173, (.aload_n 0, 1)), (174, (.getfield 16, 3)), (177, (.iconst 0, 1)), (178, (.invokestatic 224, 3)), (181, (.aload_n 0, 1)), (182, (.getfield 25, 3)), (185, (.iload 4, 2)), (187, (.iload_n 2, 1)), (188, (.ifCond .eq 10, 3)), (191, (.aload_n 0, 1)), (192, (.getfield 37, 3)), (195, (.goto 7, 3)), (198, (.aload_n 0, 1)), (199, (.getfield 16, 3)), (202, (.iconst 0, 1)), (203, (.invokestatic 224, 3)), (206, (.iload_n 2, 1)), (207, (.ifCond .ne 12, 3)), (210, (.aload_n 0, 1)), (211, (.getfield 25, 3)), (214, (.iload 4, 2)), (216, (.invokestatic 268, 3)), (219, (.return_, 1)), (220, (.aload_n 0, 1)), (221, (.getfield 25, 3)), (224, (.iload_n 3, 1)), (225, (.aload_n 0, 1)), (226, (.getfield 16, 3)), (229, (.iconst 0, 1)), (230, (.invokestatic 224, 3)), (233, (.return_, 1)), (234, (.aload_n 0, 1)), (235, (.getfield 25, 3)), (238, (.iload_n 3, 1)), (239, (.iload_n 2, 1)), (240, (.ifCond .eq 10, 3)), (243, (.aload_n 0, 1)), (244, (.getfield 37, 3)), (247, (.goto 7, 3)), (250, (.aload_n 0, 1)), (251, (.getfield 16, 3)), (254, (.iconst 0, 1)), (255, (.invokestatic 224, 3)), (258, (.iload_n 2, 1)), (259, (.ifCond .eq 15, 3)), (262, (.aload_n 0, 1)), (263, (.getfield 25, 3)), (266, (.iload_n 3, 1)), (267, (.iconst 3, 1)), (268, (.iadd, 1)), (269, (.lconst 0, 1)), (270, (.lastore, 1)), (271, (.goto 11, 3)), (274, (.aload_n 0, 1)), (275, (.getfield 25, 3)), (278, (.iload_n 3, 1)), (279, (.invokestatic 268, 3)), (282, (.return_, 1)), (283, (.aload_n 0, 1)), (284, (.getfield 25, 3)), (287, (.iload 4, 2)), (289, (.aload_n 0, 1)), (290, (.getfield 16, 3)), (293, (.iconst 0, 1)), (294, (.invokestatic 224, 3)), (297, (.iload_n 2, 1)), (298, (.ifCond .eq 74, 3)), (301, (.aload_n 0, 1)), (302, (.getfield 25, 3)), (305, (.iload 4, 2)), (307, (.iconst 3, 1)), (308, (.iadd, 1)), (309, (.lconst 1, 1)), (310, (.lastore, 1)), (311, (.aload_n 0, 1)), (312, (.getfield 25, 3)), (315, (.iload 4, 2)), (317, (.iconst 4, 1)), (318, (.iadd, 1)), (319, (.lconst 0, 1)), (320, (.lastore, 1)), (321, (.goto 51, 3)), (324, (.aload_n 0, 1)), (325, (.getfield 25, 3)), (328, (.iload 4, 2)), (330, (.iload_n 2, 1)), (331, (.ifCond .eq 10, 3)), (334, (.aload_n 0, 1)), (335, (.getfield 37, 3)), (338, (.goto 7, 3)), (341, (.aload_n 0, 1)), (342, (.getfield 16, 3)), (345, (.iconst 0, 1)), (346, (.invokestatic 224, 3)), (349, (.iload_n 2, 1)), (350, (.ifCond .ne 22, 3)), (353, (.aload_n 0, 1)), (354, (.getfield 25, 3)), (357, (.iload 4, 2)), (359, (.invokestatic 268, 3)), (362, (.goto 10, 3)), (365, (.aload_n 0, 1)), (366, (.iload_n 3, 1)), (367, (.iload 4, 2)), (369, (.invokevirtual 271, 3)), (372, (.aload_n 0, 1)), (373, (.getfield 25, 3)), (376, (.iload_n 3, 1)), (377, (.aload_n 0, 1)), (378, (.getfield 25, 3)), (381, (.iload 4, 2)), (383, (.invokestatic 209, 3)), (386, (.ifCond .lt 10, 3)), (389, (.aload_n 0, 1)), (390, (.getfield 20, 3)), (393, (.iload_n 1, 1)), (394, (.iconst 0, 1)), (395, (.iastore, 1)), (396, (.return_, 1))]
def u_X12_partRange : Fx := (yX12_partRange, (cX12_partRange, (5, (none, tb_X12_partRange))))
theorem tk_X12_partRange : ∀ q ∈ u_X12_partRange.2.2.2.2, decode u_X12_partRange.2.1 q.1 = .ok q.2 := by decide +kernel
theorem mc_X12_partRange : MC u_X12_partRange 1 := ⟨tbm 1592 (by decide +kernel) rfl, tbm 128 (by decide +kernel) rfl, ⟨by decide, by decide, by decide +kernel⟩, by decide⟩
theorem in_X12_partRange : Cond.instanceMethod u_X12_partRange.1 ∈ TB ∧ Cond.selects u_X12_partRange.1.cls u_X12_partRange.1 u_X12_partRange.1 ∈ TB := ⟨tbm 1591 (by decide +kernel) rfl, tbm 80 (by decide +kernel) rfl⟩
def f_X12_partRange_j202 (t : List Sh) (m : Mi) (a0 : Nat) (a2 : Int32) (a4 : Int32) (s0 : Nat) (s1 : Int32) (s2 : Nat) : Option (Mi) :=
  (f_X12_copy t m s2 s1 s0 0).bind fun m9 =>
  if a2 = 0 then
    (f_X12_next t m9 (gr m9 a0 8) a4).bind fun m11 =>
    some m11
  else
    some m9
def f_X12_partRange_j168 (t : List Sh) (m : Mi) (a0 : Nat) (a2 : Int32) (a3 : Int32) (a4 : Int32) : Option (Mi) :=
  (f_X12_copy t m (gr m a0 8) a3 (gr m a0 4) 0).bind fun m8 =>
  if a2 = 0 then
    f_X12_partRange_j202 t m8 a0 a2 a4 (gr m8 a0 4) a4 (gr m8 a0 8)
  else
    f_X12_partRange_j202 t m8 a0 a2 a4 (gr m8 a0 13) a4 (gr m8 a0 8)
def f_X12_partRange_j372 (t : List Sh) (m : Mi) (a0 : Nat) (a1 : Int32) (a3 : Int32) (a4 : Int32) : Option (Mi) :=
  (f_X12_compare t m (gr m a0 8) a3 (gr m a0 8) a4).bind fun x13 =>
  if x13 < 0 then
    some m
  else
    (if ar t (gr m a0 7) .int a1 = true then
    lt (si m (gr m a0 7) (ix a1) 0) fun m16 =>
    some m16
    else none)
def f_X12_partRange_j254 (t : List Sh) (m : Mi) (a0 : Nat) (a2 : Int32) (a3 : Int32) (s0 : Nat) (s1 : Int32) (s2 : Nat) : Option (Mi) :=
  (f_X12_copy t m s2 s1 s0 0).bind fun m27 =>
  if a2 = 0 then
    (f_X12_next t m27 (gr m27 a0 8) a3).bind fun m29 =>
    some m29
  else
    (if ar t (gr m27 a0 8) .long (a3 + 3) = true then
    lt (sl m27 (gr m27 a0 8) (ix (a3 + 3)) 0) fun m31 =>
    some m31
    else none)
def f_X12_partRange_j345 (t : List Sh) (m : Mi) (a0 : Nat) (a1 : Int32) (a2 : Int32) (a3 : Int32) (a4 : Int32) (s0 : Nat) (s1 : Int32) (s2 : Nat) : Option (Mi) :=
  (f_X12_copy t m s2 s1 s0 0).bind fun m34 =>
  if a2 = 0 then
    (f_X12_next t m34 (gr m34 a0 8) a4).bind fun m36 =>
    f_X12_partRange_j372 t m36 a0 a1 a3 a4
  else
    f_X12_partRange_j372 t m34 a0 a1 a3 a4
def f_X12_partRange_j105 (t : List Sh) (m : Mi) (a0 : Nat) (a1 : Int32) (a2 : Int32) (a3 : Int32) (a4 : Int32) : Option (Mi) :=
  lt (gi m a0 18) fun x7 =>
  if x7 = 0 then
    f_X12_partRange_j168 t m a0 a2 a3 a4
  else
    if x7 = 60 then
      (f_X12_copy t m (gr m a0 8) a4 (gr m a0 4) 0).bind fun m19 =>
      if a2 = 0 then
        f_X12_partRange_j372 t m19 a0 a1 a3 a4
      else
        (if ar t (gr m19 a0 8) .long (a4 + 3) = true then
        lt (sl m19 (gr m19 a0 8) (ix (a4 + 3)) 1) fun m22 =>
        (if ar t (gr m22 a0 8) .long (a4 + 4) = true then
        lt (sl m22 (gr m22 a0 8) (ix (a4 + 4)) 0) fun m24 =>
        f_X12_partRange_j372 t m24 a0 a1 a3 a4
        else none)
        else none)
    else
      if x7 = 61 then
        f_X12_partRange_j168 t m a0 a2 a3 a4
      else
        if x7 = 62 then
          if a2 = 0 then
            f_X12_partRange_j254 t m a0 a2 a3 (gr m a0 4) a3 (gr m a0 8)
          else
            f_X12_partRange_j254 t m a0 a2 a3 (gr m a0 13) a3 (gr m a0 8)
        else
          if x7 = 316 then
            if a2 = 0 then
              f_X12_partRange_j345 t m a0 a1 a2 a3 a4 (gr m a0 4) a4 (gr m a0 8)
            else
              f_X12_partRange_j345 t m a0 a1 a2 a3 a4 (gr m a0 13) a4 (gr m a0 8)
          else
            if x7 = 318 then
              (f_X12_copy t m (gr m a0 8) a3 (gr m a0 4) 0).bind fun m39 =>
              some m39
            else
              (f_X12_upTo t m a0 a3 a4).bind fun m40 =>
              f_X12_partRange_j372 t m40 a0 a1 a3 a4
def f_X12_partRange_j36 (t : List Sh) (m : Mi) (a0 : Nat) (a1 : Int32) (s0 : Int32) : Option (Mi) :=
  (f_X12_from a1 0).bind fun x5 =>
  (f_X12_below a1 0).bind fun x6 =>
  if s0 = 0 then
    f_X12_partRange_j105 t m a0 a1 s0 x5 x6
  else
    (f_X12_copy t m (gr m a0 13) 0 (gr m a0 4) 0).bind fun m42 =>
    (if ar t (gr m42 a0 13) .long ((gi m42 a0 5) - 1) = true then
    lt (sl m42 (gr m42 a0 13) (ix ((gi m42 a0 5) - 1)) ((gl m42 (gr m42 a0 13) (ix ((gi m42 a0 5) - 1))) + 1)) fun m44 =>
    (if ar t (gr m44 a0 13) .long 3 = true then
    lt (sl m44 (gr m44 a0 13) (ix 3) 1) fun m46 =>
    (if ar t (gr m46 a0 13) .long 4 = true then
    lt (sl m46 (gr m46 a0 13) (ix 4) 0) fun m48 =>
    f_X12_partRange_j105 t m48 a0 a1 s0 x5 x6
    else none)
    else none)
    else none)
def f_X12_partRange (t : List Sh) (m : Mi) (a0 : Nat) (a1 : Int32) : Option (Mi) :=
  (f_X12_full t m a0 a1).bind fun m1 =>
  if (gi m1 a0 18) = 42 then
    some m1
  else
    bd (f_X12_reads t m1 a0 (gi m1 a0 17) (gi m1 a0 16)) fun x3 m4 =>
    if x3 = 1 then
      f_X12_partRange_j36 t m4 a0 a1 1
    else
      f_X12_partRange_j36 t m4 a0 a1 0
set_option maxRecDepth 4000 in
set_option maxHeartbeats 4000000 in
theorem sm_X12_partRange (t : List Sh) (m : Mi) (a0 : Nat) (a1 : Int32) (h0 : sh t a0 = some (.inl 12)) : Sm u_X12_partRange (6, 0, 0, t.length, zs t) (kV t) 0 [(0, .inr (.inr a0)), (1, .inl a1)] [] (t, m) (f_X12_partRange t m a0 a1) := by
  unfold f_X12_partRange
  refine r_aload_n 0 1 0 rfl rfl rfl rfl ?_
  refine r_iload_n 1 2 1 rfl rfl rfl rfl ?_
  refine r_VV 2 5 (st := []) (av := [.inr (.inr a0), .inl a1]) (av' := [.inl a1]) (μ' := u_X12_full) (d := 3) rfl rfl mc_X12_full in_X12_full lk_RX12_145 (Nat.le_of_ble_eq_true rfl) rfl rfl h0 rfl (Nat.le_of_ble_eq_true rfl) (fun _ h => ct_X12_full h0 h) (fun m1 => ?_)
  refine r_aload_n 3 6 0 rfl rfl rfl rfl ?_
  refine r_getI 4 9 rfl rfl fl_RX12_256 rfl h0 ?_
  refine r_bipush 5 11 (v := 42) rfl rfl (by decide) ?_
  refine r_icmp_ne 6 15 14 rfl rfl rfl (fun h2 => ?_) (fun h2 => ?_)
  · exact r_vret 7 rfl rfl rfl
  · refine r_aload_n 8 16 0 rfl rfl rfl rfl ?_
    refine r_aload_n 9 17 0 rfl rfl rfl rfl ?_
    refine r_getI 10 20 rfl rfl fl_RX12_259 rfl h0 ?_
    refine r_aload_n 11 21 0 rfl rfl rfl rfl ?_
    refine r_getI 12 24 rfl rfl fl_RX12_234 rfl h0 ?_
    refine r_VI 13 27 (st := []) (av := [.inr (.inr a0), .inl (gi m1 a0 17), .inl (gi m1 a0 16)]) (av' := [.inl (gi m1 a0 17), .inl (gi m1 a0 16)]) (μ' := u_X12_reads) (d := 5) rfl rfl mc_X12_reads in_X12_reads lk_RX12_265 (Nat.le_of_ble_eq_true rfl) rfl rfl h0 rfl (Nat.le_of_ble_eq_true rfl) (fun _ _ h => ct_X12_reads h0 h) (fun x3 m4 => ?_)
    refine r_iconst 14 28 (v := 1) rfl rfl (by decide) ?_
    have hj36 : ∀ (m : Mi) (s0 : Int32), Sm u_X12_partRange (6, 0, 0, t.length, zs t) (kV t) 36 [(0, .inr (.inr a0)), (1, .inl a1)] [.inl s0] (t, m) (f_X12_partRange_j36 t m a0 a1 s0) := by
      intro m s0
      unfold f_X12_partRange_j36
      refine r_istore_n 19 37 (L' := [(2, .inl s0), (0, .inr (.inr a0)), (1, .inl a1)]) rfl rfl rfl (by decide) rfl ?_
      refine r_iload_n 20 38 2 rfl rfl rfl rfl ?_
      refine r_iconst 21 39 (v := 0) rfl rfl (by decide) ?_
      refine r_SIo 22 42 (a := 0) (cn := 0) (st := []) (av := [.inl a1, .inl 0]) (μ' := u_X12_from) (d := 1) rfl rfl mc_X12_from st_X12_from lk_RX12_194 (Nat.le_of_ble_eq_true rfl) rfl (Nat.le_of_ble_eq_true rfl) (fun _ h => ct_X12_from h) (fun x5 => ?_)
      refine r_istore_n 23 43 (L' := [(3, .inl x5), (2, .inl s0), (0, .inr (.inr a0)), (1, .inl a1)]) rfl rfl rfl (by decide) rfl ?_
      refine r_iload_n 24 44 3 rfl rfl rfl rfl ?_
      refine r_iconst 25 45 (v := 0) rfl rfl (by decide) ?_
      refine r_SIo 26 48 (a := 0) (cn := 0) (st := []) (av := [.inl a1, .inl 0]) (μ' := u_X12_below) (d := 2) rfl rfl mc_X12_below st_X12_below lk_RX12_203 (Nat.le_of_ble_eq_true rfl) rfl (Nat.le_of_ble_eq_true rfl) (fun _ h => ct_X12_below h) (fun x6 => ?_)
      refine r_istore 27 50 (L' := [(4, .inl x6), (3, .inl x5), (2, .inl s0), (0, .inr (.inr a0)), (1, .inl a1)]) rfl rfl (by decide) rfl ?_
      refine r_iload_n 28 51 2 rfl rfl rfl rfl ?_
      have hj105 : ∀ (m : Mi) (a2 : Int32) (a3 : Int32) (a4 : Int32), Sm u_X12_partRange (6, 0, 0, t.length, zs t) (kV t) 105 [(0, .inr (.inr a0)), (1, .inl a1), (2, .inl a2), (3, .inl a3), (4, .inl a4)] [] (t, m) (f_X12_partRange_j105 t m a0 a1 a2 a3 a4) := by
        intro m a2 a3 a4
        unfold f_X12_partRange_j105
        refine r_aload_n 63 106 0 rfl rfl rfl rfl ?_
        refine r_getI 64 109 rfl rfl fl_RX12_256 rfl h0 ?_
        refine r_ltI (fun x7 => ?_)
        have hj168 : ∀ (m : Mi) (a2 : Int32) (a3 : Int32) (a4 : Int32), Sm u_X12_partRange (6, 0, 0, t.length, zs t) (kV t) 168 [(0, .inr (.inr a0)), (2, .inl a2), (3, .inl a3), (4, .inl a4)] [] (t, m) (f_X12_partRange_j168 t m a0 a2 a3 a4) := by
          intro m a2 a3 a4
          unfold f_X12_partRange_j168
          refine r_aload_n 66 169 0 rfl rfl rfl rfl ?_
          refine r_getR 67 172 rfl rfl fl_RX12_25 rfl h0 ?_
          refine r_iload_n 68 173 2 rfl rfl rfl rfl ?_
          refine r_aload_n 69 174 0 rfl rfl rfl rfl ?_
          refine r_getR 70 177 rfl rfl fl_RX12_16 rfl h0 ?_
          refine r_iconst 71 178 (v := 0) rfl rfl (by decide) ?_
          refine r_SV 72 181 (a := 0) (cn := 0) (st := []) (av := [.inr (.inr (gr m a0 8)), .inl a3, .inr (.inr (gr m a0 4)), .inl 0]) (μ' := u_X12_copy) (d := 1) rfl rfl mc_X12_copy st_X12_copy lk_RX12_224 (Nat.le_of_ble_eq_true rfl) rfl (Nat.le_of_ble_eq_true rfl) (fun _ h => ct_X12_copy h) (fun m8 => ?_)
          refine r_aload_n 73 182 0 rfl rfl rfl rfl ?_
          refine r_getR 74 185 rfl rfl fl_RX12_25 rfl h0 ?_
          refine r_iload 75 187 3 rfl rfl rfl ?_
          refine r_iload_n 76 188 1 rfl rfl rfl rfl ?_
          have hj202 : ∀ (m : Mi) (a2 : Int32) (a4 : Int32) (s0 : Nat) (s1 : Int32) (s2 : Nat), Sm u_X12_partRange (6, 0, 0, t.length, zs t) (kV t) 202 [(0, .inr (.inr a0)), (2, .inl a2), (4, .inl a4)] [.inr (.inr s0), .inl s1, .inr (.inr s2)] (t, m) (f_X12_partRange_j202 t m a0 a2 a4 s0 s1 s2) := by
            intro m a2 a4 s0 s1 s2
            unfold f_X12_partRange_j202
            refine r_iconst 83 203 (v := 0) rfl rfl (by decide) ?_
            refine r_SV 84 206 (a := 0) (cn := 0) (st := []) (av := [.inr (.inr s2), .inl s1, .inr (.inr s0), .inl 0]) (μ' := u_X12_copy) (d := 1) rfl rfl mc_X12_copy st_X12_copy lk_RX12_224 (Nat.le_of_ble_eq_true rfl) rfl (Nat.le_of_ble_eq_true rfl) (fun _ h => ct_X12_copy h) (fun m9 => ?_)
            refine r_iload_n 85 207 1 rfl rfl rfl rfl ?_
            refine r_if_ne 86 219 210 rfl rfl rfl (fun h10 => ?_) (fun h10 => ?_)
            · refine r_aload_n 87 211 0 rfl rfl rfl rfl ?_
              refine r_getR 88 214 rfl rfl fl_RX12_25 rfl h0 ?_
              refine r_iload 89 216 2 rfl rfl rfl ?_
              refine r_SV 90 219 (a := 0) (cn := 0) (st := []) (av := [.inr (.inr (gr m9 a0 8)), .inl a4]) (μ' := u_X12_next) (d := 1) rfl rfl mc_X12_next st_X12_next lk_RX12_268 (Nat.le_of_ble_eq_true rfl) rfl (Nat.le_of_ble_eq_true rfl) (fun _ h => ct_X12_next h) (fun m11 => ?_)
              exact r_vret 91 rfl rfl rfl
            · exact r_vret 91 rfl rfl rfl
          refine r_if_eq 77 198 191 rfl rfl rfl (fun h12 => ?_) (fun h12 => ?_)
          · refine r_aload_n 81 199 0 rfl rfl rfl rfl ?_
            refine r_getR 82 202 rfl rfl fl_RX12_16 rfl h0 ?_
            exact r_sub [0, 1, 3] rfl (hj202 m8 a2 a4 (gr m8 a0 4) a4 (gr m8 a0 8))
          · refine r_aload_n 78 192 0 rfl rfl rfl rfl ?_
            refine r_getR 79 195 rfl rfl fl_RX12_37 rfl h0 ?_
            refine r_goto 80 202 rfl rfl ?_
            exact r_sub [0, 1, 3] rfl (hj202 m8 a2 a4 (gr m8 a0 13) a4 (gr m8 a0 8))
        have hj372 : ∀ (m : Mi) (a3 : Int32) (a4 : Int32), Sm u_X12_partRange (6, 0, 0, t.length, zs t) (kV t) 372 [(0, .inr (.inr a0)), (1, .inl a1), (3, .inl a3), (4, .inl a4)] [] (t, m) (f_X12_partRange_j372 t m a0 a1 a3 a4) := by
          intro m a3 a4
          unfold f_X12_partRange_j372
          refine r_aload_n 174 373 0 rfl rfl rfl rfl ?_
          refine r_getR 175 376 rfl rfl fl_RX12_25 rfl h0 ?_
          refine r_iload_n 176 377 2 rfl rfl rfl rfl ?_
          refine r_aload_n 177 378 0 rfl rfl rfl rfl ?_
          refine r_getR 178 381 rfl rfl fl_RX12_25 rfl h0 ?_
          refine r_iload 179 383 3 rfl rfl rfl ?_
          refine r_SIo 180 386 (a := 0) (cn := 0) (st := []) (av := [.inr (.inr (gr m a0 8)), .inl a3, .inr (.inr (gr m a0 8)), .inl a4]) (μ' := u_X12_compare) (d := 1) rfl rfl mc_X12_compare st_X12_compare lk_RX12_209 (Nat.le_of_ble_eq_true rfl) rfl (Nat.le_of_ble_eq_true rfl) (fun _ h => ct_X12_compare h) (fun x13 => ?_)
          refine r_if_lt 181 396 389 rfl rfl rfl (fun h14 => ?_) (fun h14 => ?_)
          · exact r_vret 187 rfl rfl rfl
          · refine r_aload_n 182 390 0 rfl rfl rfl rfl ?_
            refine r_getR 183 393 rfl rfl fl_RX12_20 rfl h0 ?_
            refine r_iload_n 184 394 1 rfl rfl rfl rfl ?_
            refine r_iconst 185 395 (v := 0) rfl rfl (by decide) ?_
            refine r_gd (fun h15 => ?_)
            refine r_iast 186 396 rfl rfl h15 ?_
            refine r_ltM (fun m16 => ?_)
            exact r_vret 187 rfl rfl rfl
        refine r_if (fun h17 => ?_) (fun h17 => ?_)
        · refine r_looC 65 168 0 h17 rfl (by decide) rfl rfl ?_
          exact r_sub [0, 2, 3, 4] rfl (hj168 m a2 a3 a4)
        · refine r_if (fun h18 => ?_) (fun h18 => ?_)
          · refine r_looC 65 283 60 h18 rfl (by decide) rfl rfl ?_
            refine r_aload_n 127 284 0 rfl rfl rfl rfl ?_
            refine r_getR 128 287 rfl rfl fl_RX12_25 rfl h0 ?_
            refine r_iload 129 289 4 rfl rfl rfl ?_
            refine r_aload_n 130 290 0 rfl rfl rfl rfl ?_
            refine r_getR 131 293 rfl rfl fl_RX12_16 rfl h0 ?_
            refine r_iconst 132 294 (v := 0) rfl rfl (by decide) ?_
            refine r_SV 133 297 (a := 0) (cn := 0) (st := []) (av := [.inr (.inr (gr m a0 8)), .inl a4, .inr (.inr (gr m a0 4)), .inl 0]) (μ' := u_X12_copy) (d := 1) rfl rfl mc_X12_copy st_X12_copy lk_RX12_224 (Nat.le_of_ble_eq_true rfl) rfl (Nat.le_of_ble_eq_true rfl) (fun _ h => ct_X12_copy h) (fun m19 => ?_)
            refine r_iload_n 134 298 2 rfl rfl rfl rfl ?_
            refine r_if_eq 135 372 301 rfl rfl rfl (fun h20 => ?_) (fun h20 => ?_)
            · exact r_sub [0, 1, 3, 4] rfl (hj372 m19 a3 a4)
            · refine r_aload_n 136 302 0 rfl rfl rfl rfl ?_
              refine r_getR 137 305 rfl rfl fl_RX12_25 rfl h0 ?_
              refine r_iload 138 307 4 rfl rfl rfl ?_
              refine r_iconst 139 308 (v := 3) rfl rfl (by decide) ?_
              refine r_iadd 140 309 rfl rfl ?_
              refine r_lconst 141 310 (v := 1) rfl rfl (by decide) ?_
              refine r_gd (fun h21 => ?_)
              refine r_last 142 311 rfl rfl h21 ?_
              refine r_ltM (fun m22 => ?_)
              refine r_aload_n 143 312 0 rfl rfl rfl rfl ?_
              refine r_getR 144 315 rfl rfl fl_RX12_25 rfl h0 ?_
              refine r_iload 145 317 4 rfl rfl rfl ?_
              refine r_iconst 146 318 (v := 4) rfl rfl (by decide) ?_
              refine r_iadd 147 319 rfl rfl ?_
              refine r_lconst 148 320 (v := 0) rfl rfl (by decide) ?_
              refine r_gd (fun h23 => ?_)
              refine r_last 149 321 rfl rfl h23 ?_
              refine r_ltM (fun m24 => ?_)
              refine r_goto 150 372 rfl rfl ?_
              exact r_sub [0, 1, 3, 4] rfl (hj372 m24 a3 a4)
          · refine r_if (fun h25 => ?_) (fun h25 => ?_)
            · refine r_looC 65 168 61 h25 rfl (by decide) rfl rfl ?_
              exact r_sub [0, 2, 3, 4] rfl (hj168 m a2 a3 a4)
            · refine r_if (fun h26 => ?_) (fun h26 => ?_)
              · refine r_looC 65 234 62 h26 rfl (by decide) rfl rfl ?_
                refine r_aload_n 100 235 0 rfl rfl rfl rfl ?_
                refine r_getR 101 238 rfl rfl fl_RX12_25 rfl h0 ?_
                refine r_iload_n 102 239 3 rfl rfl rfl rfl ?_
                refine r_iload_n 103 240 2 rfl rfl rfl rfl ?_
                have hj254 : ∀ (m : Mi) (a2 : Int32) (a3 : Int32) (s0 : Nat) (s1 : Int32) (s2 : Nat), Sm u_X12_partRange (6, 0, 0, t.length, zs t) (kV t) 254 [(0, .inr (.inr a0)), (2, .inl a2), (3, .inl a3)] [.inr (.inr s0), .inl s1, .inr (.inr s2)] (t, m) (f_X12_partRange_j254 t m a0 a2 a3 s0 s1 s2) := by
                  intro m a2 a3 s0 s1 s2
                  unfold f_X12_partRange_j254
                  refine r_iconst 110 255 (v := 0) rfl rfl (by decide) ?_
                  refine r_SV 111 258 (a := 0) (cn := 0) (st := []) (av := [.inr (.inr s2), .inl s1, .inr (.inr s0), .inl 0]) (μ' := u_X12_copy) (d := 1) rfl rfl mc_X12_copy st_X12_copy lk_RX12_224 (Nat.le_of_ble_eq_true rfl) rfl (Nat.le_of_ble_eq_true rfl) (fun _ h => ct_X12_copy h) (fun m27 => ?_)
                  refine r_iload_n 112 259 1 rfl rfl rfl rfl ?_
                  refine r_if_eq 113 274 262 rfl rfl rfl (fun h28 => ?_) (fun h28 => ?_)
                  · refine r_aload_n 122 275 0 rfl rfl rfl rfl ?_
                    refine r_getR 123 278 rfl rfl fl_RX12_25 rfl h0 ?_
                    refine r_iload_n 124 279 2 rfl rfl rfl rfl ?_
                    refine r_SV 125 282 (a := 0) (cn := 0) (st := []) (av := [.inr (.inr (gr m27 a0 8)), .inl a3]) (μ' := u_X12_next) (d := 1) rfl rfl mc_X12_next st_X12_next lk_RX12_268 (Nat.le_of_ble_eq_true rfl) rfl (Nat.le_of_ble_eq_true rfl) (fun _ h => ct_X12_next h) (fun m29 => ?_)
                    exact r_vret 126 rfl rfl rfl
                  · refine r_aload_n 114 263 0 rfl rfl rfl rfl ?_
                    refine r_getR 115 266 rfl rfl fl_RX12_25 rfl h0 ?_
                    refine r_iload_n 116 267 2 rfl rfl rfl rfl ?_
                    refine r_iconst 117 268 (v := 3) rfl rfl (by decide) ?_
                    refine r_iadd 118 269 rfl rfl ?_
                    refine r_lconst 119 270 (v := 0) rfl rfl (by decide) ?_
                    refine r_gd (fun h30 => ?_)
                    refine r_last 120 271 rfl rfl h30 ?_
                    refine r_ltM (fun m31 => ?_)
                    refine r_goto 121 282 rfl rfl ?_
                    exact r_vret 126 rfl rfl rfl
                refine r_if_eq 104 250 243 rfl rfl rfl (fun h32 => ?_) (fun h32 => ?_)
                · refine r_aload_n 108 251 0 rfl rfl rfl rfl ?_
                  refine r_getR 109 254 rfl rfl fl_RX12_16 rfl h0 ?_
                  exact r_sub [0, 2, 3] rfl (hj254 m a2 a3 (gr m a0 4) a3 (gr m a0 8))
                · refine r_aload_n 105 244 0 rfl rfl rfl rfl ?_
                  refine r_getR 106 247 rfl rfl fl_RX12_37 rfl h0 ?_
                  refine r_goto 107 254 rfl rfl ?_
                  exact r_sub [0, 2, 3] rfl (hj254 m a2 a3 (gr m a0 13) a3 (gr m a0 8))
              · refine r_if (fun h33 => ?_) (fun h33 => ?_)
                · refine r_looC 65 324 316 h33 rfl (by decide) rfl rfl ?_
                  refine r_aload_n 151 325 0 rfl rfl rfl rfl ?_
                  refine r_getR 152 328 rfl rfl fl_RX12_25 rfl h0 ?_
                  refine r_iload 153 330 4 rfl rfl rfl ?_
                  refine r_iload_n 154 331 2 rfl rfl rfl rfl ?_
                  have hj345 : ∀ (m : Mi) (a2 : Int32) (a3 : Int32) (a4 : Int32) (s0 : Nat) (s1 : Int32) (s2 : Nat), Sm u_X12_partRange (6, 0, 0, t.length, zs t) (kV t) 345 [(0, .inr (.inr a0)), (1, .inl a1), (2, .inl a2), (3, .inl a3), (4, .inl a4)] [.inr (.inr s0), .inl s1, .inr (.inr s2)] (t, m) (f_X12_partRange_j345 t m a0 a1 a2 a3 a4 s0 s1 s2) := by
                    intro m a2 a3 a4 s0 s1 s2
                    unfold f_X12_partRange_j345
                    refine r_iconst 161 346 (v := 0) rfl rfl (by decide) ?_
                    refine r_SV 162 349 (a := 0) (cn := 0) (st := []) (av := [.inr (.inr s2), .inl s1, .inr (.inr s0), .inl 0]) (μ' := u_X12_copy) (d := 1) rfl rfl mc_X12_copy st_X12_copy lk_RX12_224 (Nat.le_of_ble_eq_true rfl) rfl (Nat.le_of_ble_eq_true rfl) (fun _ h => ct_X12_copy h) (fun m34 => ?_)
                    refine r_iload_n 163 350 2 rfl rfl rfl rfl ?_
                    refine r_if_ne 164 372 353 rfl rfl rfl (fun h35 => ?_) (fun h35 => ?_)
                    · refine r_aload_n 165 354 0 rfl rfl rfl rfl ?_
                      refine r_getR 166 357 rfl rfl fl_RX12_25 rfl h0 ?_
                      refine r_iload 167 359 4 rfl rfl rfl ?_
                      refine r_SV 168 362 (a := 0) (cn := 0) (st := []) (av := [.inr (.inr (gr m34 a0 8)), .inl a4]) (μ' := u_X12_next) (d := 1) rfl rfl mc_X12_next st_X12_next lk_RX12_268 (Nat.le_of_ble_eq_true rfl) rfl (Nat.le_of_ble_eq_true rfl) (fun _ h => ct_X12_next h) (fun m36 => ?_)
                      refine r_goto 169 372 rfl rfl ?_
                      exact r_sub [0, 1, 3, 4] rfl (hj372 m36 a3 a4)
                    · exact r_sub [0, 1, 3, 4] rfl (hj372 m34 a3 a4)
                  refine r_if_eq 155 341 334 rfl rfl rfl (fun h37 => ?_) (fun h37 => ?_)
                  · refine r_aload_n 159 342 0 rfl rfl rfl rfl ?_
                    refine r_getR 160 345 rfl rfl fl_RX12_16 rfl h0 ?_
                    exact hj345 m a2 a3 a4 (gr m a0 4) a4 (gr m a0 8)
                  · refine r_aload_n 156 335 0 rfl rfl rfl rfl ?_
                    refine r_getR 157 338 rfl rfl fl_RX12_37 rfl h0 ?_
                    refine r_goto 158 345 rfl rfl ?_
                    exact hj345 m a2 a3 a4 (gr m a0 13) a4 (gr m a0 8)
                · refine r_if (fun h38 => ?_) (fun h38 => ?_)
                  · refine r_looC 65 220 318 h38 rfl (by decide) rfl rfl ?_
                    refine r_aload_n 92 221 0 rfl rfl rfl rfl ?_
                    refine r_getR 93 224 rfl rfl fl_RX12_25 rfl h0 ?_
                    refine r_iload_n 94 225 3 rfl rfl rfl rfl ?_
                    refine r_aload_n 95 226 0 rfl rfl rfl rfl ?_
                    refine r_getR 96 229 rfl rfl fl_RX12_16 rfl h0 ?_
                    refine r_iconst 97 230 (v := 0) rfl rfl (by decide) ?_
                    refine r_SV 98 233 (a := 0) (cn := 0) (st := []) (av := [.inr (.inr (gr m a0 8)), .inl a3, .inr (.inr (gr m a0 4)), .inl 0]) (μ' := u_X12_copy) (d := 1) rfl rfl mc_X12_copy st_X12_copy lk_RX12_224 (Nat.le_of_ble_eq_true rfl) rfl (Nat.le_of_ble_eq_true rfl) (fun _ h => ct_X12_copy h) (fun m39 => ?_)
                    exact r_vret 99 rfl rfl rfl
                  · refine r_looO 65 365 rfl (by decide) (lk_out _ _ _ (by show ∀ q ∈ ([0, 60, 61, 62, 316, 318] : List Int), _ ≠ q; exact List.forall_mem_cons.mpr ⟨i32ne h17 rfl, List.forall_mem_cons.mpr ⟨i32ne h18 rfl, List.forall_mem_cons.mpr ⟨i32ne h25 rfl, List.forall_mem_cons.mpr ⟨i32ne h26 rfl, List.forall_mem_cons.mpr ⟨i32ne h33 rfl, List.forall_mem_cons.mpr ⟨i32ne h38 rfl, fun _ h => by cases h⟩⟩⟩⟩⟩⟩)) rfl ?_
                    refine r_aload_n 170 366 0 rfl rfl rfl rfl ?_
                    refine r_iload_n 171 367 3 rfl rfl rfl rfl ?_
                    refine r_iload 172 369 4 rfl rfl rfl ?_
                    refine r_VV 173 372 (st := []) (av := [.inr (.inr a0), .inl a3, .inl a4]) (av' := [.inl a3, .inl a4]) (μ' := u_X12_upTo) (d := 2) rfl rfl mc_X12_upTo in_X12_upTo lk_RX12_271 (Nat.le_of_ble_eq_true rfl) rfl rfl h0 rfl (Nat.le_of_ble_eq_true rfl) (fun _ h => ct_X12_upTo h0 h) (fun m40 => ?_)
                    exact r_sub [0, 1, 3, 4] rfl (hj372 m40 a3 a4)
      refine r_if_eq 29 105 54 rfl rfl rfl (fun h41 => ?_) (fun h41 => ?_)
      · exact r_sub [3, 4, 2, 1, 0] rfl (hj105 m s0 x5 x6)
      · refine r_aload_n 30 55 3 rfl rfl rfl rfl ?_
        refine r_getR 31 58 rfl rfl fl_RX12_37 rfl h0 ?_
        refine r_iconst 32 59 (v := 0) rfl rfl (by decide) ?_
        refine r_aload_n 33 60 3 rfl rfl rfl rfl ?_
        refine r_getR 34 63 rfl rfl fl_RX12_16 rfl h0 ?_
        refine r_iconst 35 64 (v := 0) rfl rfl (by decide) ?_
        refine r_SV 36 67 (a := 0) (cn := 0) (st := []) (av := [.inr (.inr (gr m a0 13)), .inl 0, .inr (.inr (gr m a0 4)), .inl 0]) (μ' := u_X12_copy) (d := 1) rfl rfl mc_X12_copy st_X12_copy lk_RX12_224 (Nat.le_of_ble_eq_true rfl) rfl (Nat.le_of_ble_eq_true rfl) (fun _ h => ct_X12_copy h) (fun m42 => ?_)
        refine r_aload_n 37 68 3 rfl rfl rfl rfl ?_
        refine r_getR 38 71 rfl rfl fl_RX12_37 rfl h0 ?_
        refine r_aload_n 39 72 3 rfl rfl rfl rfl ?_
        refine r_getI 40 75 rfl rfl fl_RX12_183 rfl h0 ?_
        refine r_iconst 41 76 (v := 1) rfl rfl (by decide) ?_
        refine r_isub 42 77 rfl rfl ?_
        refine r_aload_n 43 78 3 rfl rfl rfl rfl ?_
        refine r_getR 44 81 rfl rfl fl_RX12_37 rfl h0 ?_
        refine r_aload_n 45 82 3 rfl rfl rfl rfl ?_
        refine r_getI 46 85 rfl rfl fl_RX12_183 rfl h0 ?_
        refine r_iconst 47 86 (v := 1) rfl rfl (by decide) ?_
        refine r_isub 48 87 rfl rfl ?_
        refine r_gd (fun h43 => ?_)
        refine r_lald 49 88 rfl rfl h43 ?_
        refine r_lconst 50 89 (v := 1) rfl rfl (by decide) ?_
        refine r_ladd 51 90 rfl rfl ?_
        refine r_last 52 91 rfl rfl h43 ?_
        refine r_ltM (fun m44 => ?_)
        refine r_aload_n 53 92 3 rfl rfl rfl rfl ?_
        refine r_getR 54 95 rfl rfl fl_RX12_37 rfl h0 ?_
        refine r_iconst 55 96 (v := 3) rfl rfl (by decide) ?_
        refine r_lconst 56 97 (v := 1) rfl rfl (by decide) ?_
        refine r_gd (fun h45 => ?_)
        refine r_last 57 98 rfl rfl h45 ?_
        refine r_ltM (fun m46 => ?_)
        refine r_aload_n 58 99 3 rfl rfl rfl rfl ?_
        refine r_getR 59 102 rfl rfl fl_RX12_37 rfl h0 ?_
        refine r_iconst 60 103 (v := 4) rfl rfl (by decide) ?_
        refine r_lconst 61 104 (v := 0) rfl rfl (by decide) ?_
        refine r_gd (fun h47 => ?_)
        refine r_last 62 105 rfl rfl h47 ?_
        refine r_ltM (fun m48 => ?_)
        exact r_sub [3, 4, 2, 1, 0] rfl (hj105 m48 s0 x5 x6)
    refine r_icmp_ne 15 35 31 rfl rfl rfl (fun h49 => ?_) (fun h49 => ?_)
    · refine r_iconst 16 32 (v := 1) rfl rfl (by decide) ?_
      refine r_goto 17 36 rfl rfl ?_
      exact hj36 m4 1
    · refine r_iconst 18 36 (v := 0) rfl rfl (by decide) ?_
      exact hj36 m4 0
theorem ct_X12_partRange {t : List Sh} {m : Mi} {a0 : Nat} {a1 : Int32} {m' : Mi}  (h0 : sh t a0 = some (.inl 12)) (h : f_X12_partRange t m a0 a1 = some m') : Ct u_X12_partRange 6 0 0 [.inr (.inr a0), .inl a1] (t, m) (none, (t, m')) :=
  ct_of (by decide) tk_X12_partRange (Nat.le_of_ble_eq_true rfl) (sm_X12_partRange t m a0 a1 h0) (by rw [h]; rfl) (Nat.le_refl _) (Nat.le_refl _)
theorem lk_RX12_382 : Cond.methodLink RX12 382 yX12_allOn ∈ TB := tbm 1688 (by decide +kernel) rfl
def tb_X12_solutions : Tb := [(0, (.iload_n 1, 1)), (1, (.iconst 1, 1)), (2, (.if_icmp .lt 10, 3)), (5, (.iload_n 1, 1)), (6, (.sipush 1000, 3)), (9, (.if_icmp .le 5, 3)), (12, (.iconst (-1), 1)), (13, (.ireturn, 1)), (14, (.aload_n 0, 1)), (15, (.iconst 1, 1)), (16, (.invokevirtual 382, 3)), (19, (.aload_n 0, 1)), (20, (.iload_n 1, 1)), (21, (.invokevirtual 386, 3)), (24, (.ireturn, 1))]
def u_X12_solutions : Fx := (yX12_solutions, (cX12_solutions, (2, ((some .int), tb_X12_solutions))))
theorem tk_X12_solutions : ∀ q ∈ u_X12_solutions.2.2.2.2, decode u_X12_solutions.2.1 q.1 = .ok q.2 := by decide +kernel
theorem mc_X12_solutions : MC u_X12_solutions 1 := ⟨tbm 1741 (by decide +kernel) rfl, tbm 128 (by decide +kernel) rfl, ⟨by decide, by decide, by decide +kernel⟩, by decide⟩
theorem in_X12_solutions : Cond.instanceMethod u_X12_solutions.1 ∈ TB ∧ Cond.selects u_X12_solutions.1.cls u_X12_solutions.1 u_X12_solutions.1 ∈ TB := ⟨tbm 1739 (by decide +kernel) rfl, tbm 1740 (by decide +kernel) rfl⟩
def f_X12_solutions (t : List Sh) (m : Mi) (a0 : Nat) (a1 : Int32) : Option (Int32 × Mi) :=
  if a1 < 1 then
    some ((-1), m)
  else
    if a1 ≤ 1000 then
      (f_X12_allOn t m a0 1).bind fun m3 =>
      bd (f_X12_solved t m3 a0 a1) fun x4 m5 =>
      some (x4, m5)
    else
      some ((-1), m)
set_option maxRecDepth 4000 in
set_option maxHeartbeats 4000000 in
theorem sm_X12_solutions (t : List Sh) (m : Mi) (a0 : Nat) (a1 : Int32) (h0 : sh t a0 = some (.inl 12)) : Sm u_X12_solutions (6, 0, 0, t.length, zs t) (kI t) 0 [(0, .inr (.inr a0)), (1, .inl a1)] [] (t, m) (f_X12_solutions t m a0 a1) := by
  unfold f_X12_solutions
  refine r_iload_n 0 1 1 rfl rfl rfl rfl ?_
  refine r_iconst 1 2 (v := 1) rfl rfl (by decide) ?_
  refine r_icmp_lt 2 12 5 rfl rfl rfl (fun h1 => ?_) (fun h1 => ?_)
  · refine r_iconst 6 13 (v := (-1)) rfl rfl (by decide) ?_
    exact r_iret 7 rfl rfl rfl
  · refine r_iload_n 3 6 1 rfl rfl rfl rfl ?_
    refine r_sipush 4 9 (v := 1000) rfl rfl (by decide) ?_
    refine r_icmp_le 5 14 12 rfl rfl rfl (fun h2 => ?_) (fun h2 => ?_)
    · refine r_aload_n 8 15 0 rfl rfl rfl rfl ?_
      refine r_iconst 9 16 (v := 1) rfl rfl (by decide) ?_
      refine r_VV 10 19 (st := []) (av := [.inr (.inr a0), .inl 1]) (av' := [.inl 1]) (μ' := u_X12_allOn) (d := 1) rfl rfl mc_X12_allOn in_X12_allOn lk_RX12_382 (Nat.le_of_ble_eq_true rfl) rfl rfl h0 rfl (Nat.le_of_ble_eq_true rfl) (fun _ h => ct_X12_allOn h0 h) (fun m3 => ?_)
      refine r_aload_n 11 20 0 rfl rfl rfl rfl ?_
      refine r_iload_n 12 21 1 rfl rfl rfl rfl ?_
      refine r_VI 13 24 (st := []) (av := [.inr (.inr a0), .inl a1]) (av' := [.inl a1]) (μ' := u_X12_solved) (d := 5) rfl rfl mc_X12_solved in_X12_solved lk_RX12_386 (Nat.le_of_ble_eq_true rfl) rfl rfl h0 rfl (Nat.le_of_ble_eq_true rfl) (fun _ _ h => ct_X12_solved h0 h) (fun x4 m5 => ?_)
      exact r_iret 14 rfl rfl rfl
    · refine r_iconst 6 13 (v := (-1)) rfl rfl (by decide) ?_
      exact r_iret 7 rfl rfl rfl
theorem ct_X12_solutions {t : List Sh} {m : Mi} {a0 : Nat} {a1 : Int32} {m' : Mi} {v : Int32}  (h0 : sh t a0 = some (.inl 12)) (h : f_X12_solutions t m a0 a1 = some (v, m')) : Ct u_X12_solutions 6 0 0 [.inr (.inr a0), .inl a1] (t, m) (some (.inl v), (t, m')) :=
  ct_of (by decide) tk_X12_solutions (Nat.le_of_ble_eq_true rfl) (sm_X12_solutions t m a0 a1 h0) (by rw [h]; rfl) (Nat.le_refl _) (Nat.le_refl _)
theorem lk_RX12_420 : Cond.methodLink RX12 420 yX12_saysRange ∈ TB := tbm 1755 (by decide +kernel) rfl
theorem lk_RX12_423 : Cond.methodLink RX12 423 yX12_saysRelease ∈ TB := tbm 1776 (by decide +kernel) rfl
theorem lk_RX12_426 : Cond.methodLink RX12 426 yX12_saysWord ∈ TB := tbm 1784 (by decide +kernel) rfl
theorem kc_RX12_248 : Cond.constantLong RX12 248 (474147546227) ∈ TB := tbm 1551 (by decide +kernel) rfl
theorem kc_RX12_250 : Cond.constantLong RX12 250 (427020088168) ∈ TB := tbm 1552 (by decide +kernel) rfl
theorem kc_RX12_246 : Cond.constantLong RX12 246 (2002873972) ∈ TB := tbm 1550 (by decide +kernel) rfl
def tb_X12_write : Tb := [(0, (.iload_n 1, 1)), (1, (.ifCond .ne 10, 3)), (4, (.iload_n 2, 1)), (5, (.invokestatic 305, 3)), (8, (.goto 55, 3)), (11, (.iload_n 1, 1)), (12, (.iconst 1, 1)), (13, (.if_icmp .ne 28, 3)), (16, (.iload_n 2, 1)), (17, (.ifCond .lt 20, 3)), (20, (.iload_n 2, 1)), (21, (.aload_n 0, 1)), (22, (.getfield 46, 3)), (25, (.aload_n 0, 1)), (26, (.getfield 326, 3)), (29, (.iaload, 1)), (30, (.if_icmp .ge 7, 3)), (33, (.iconst 1, 1)), (34, (.goto 29, 3)), (37, (.iconst 0, 1)), (38, (.goto 25, 3)), (41, (.iload_n 1, 1)), (42, (.iconst 2, 1)), (43, (.if_icmp .ne 19, 3)), (46, (.iload_n 2, 1)), (47, (.ifCond .lt 15, 3)), (50, (.iload_n 2, 1)), (51, (.aload_n 0, 1)), (52, (.invokevirtual 332, 3)), (55, (.if_icmp .ge 7, 3)), (58, (.iconst 1, 1)), (59, (.goto 4, 3)), (62, (.iconst 0, 1)), (63, (.istore_n 3, 1)), (64, (.iload_n 3, 1)), (65, (.ifCond .ne 5, 3)), (68, (.iconst (-1), 1)), (69, (.ireturn, 1)), (70, (.aload_n 0, 1)), (71, (.iconst 0, 1)), (72, (.putfield 399, 3)), (75, (.iload_n 1, 1)), (76, (.ifCond .ne 14, 3)), (79, (.aload_n 0, 1)), (80, (.iload_n 2, 1)), (81, (.invokestatic 141, 3)), (84, (.invokevirtual 420, 3)), (87, (.goto 128, 3)), (90, (.iload_n 1, 1)), (91, (.iconst 1, 1)), (92, (.if_icmp .ne 11, 3)), (95, (.aload_n 0, 1)), (96, (.iload_n 2, 1)), (97, (.invokevirtual 423, 3)), (100, (.goto 115, 3)), (103, (.sipush 250, 3)), (106, (.aload_n 0, 1)), (107, (.getfield 326, 3)), (110, (.imul, 1)), (111, (.iload_n 2, 1)), (112, (.iadd, 1)), (113, (.istore 4, 2)), (115, (.aload_n 0, 1)), (116, (.getfield 76, 3)), (119, (.iload 4, 2)), (121, (.iaload, 1)), (122, (.iconst (-1), 1)), (123, (.if_icmp .eq 20, 3)), (126, (.aload_n 0, 1)), (127, (.aload_n 0, 1)), (128, (.getfield 76, 3)), (131, (.iload 4, 2)), (133, (.iaload, 1)), (134, (.invokevirtual 423, 3)), (137, (.aload_n 0, 1)), (138, (.bipush 32, 2)), (140, (.invokevirtual 402, 3)), (143, (.aload_n 0, 1)), (144, (.aload_n 0, 1)), (145, (.getfield 79, 3)), (148, (.iload 4, 2)), (150, (.iaload, 1)), (151, (.bipush 10, 2)), (153, (.if_icmp .ne 9, 3)), (156, (.ldc2_w 248, 3)), (159, (.goto 24, 3)), (162, (.aload_n 0, 1)), (163, (.getfield 79, 3)), (166, (.iload 4, 2)), (168, (.iaload, 1)), (169, (.bipush 11, 2)), (171, (.if_icmp .ne 9, 3)), (174, (.ldc2_w 250, 3)), (177, (.goto 6, 3)), (180, (.ldc2_w 246, 3)), (183, (.invokevirtual 426, 3)), (186, (.aload_n 0, 1)), (187, (.aload_n 0, 1)), (188, (.getfield 82, 3)), (191, (.iload 4, 2)), (193, (.iaload, 1)), (194, (.aload_n 0, 1)), (195, (.getfield 85, 3)), (198, (.iload 4, 2)), (200, (.iaload, 1)), (201, (.invokevirtual 417, 3)), (204, (.aload_n 0, 1)), (205, (.bipush 32, 2)), (207, (.invokevirtual 402, 3)), (210, (.aload_n 0, 1)), (211, (.iload_n 2, 1)), (212, (.invokevirtual 420, 3)), (215, (.aload_n 0, 1)), (216, (.getfield 399, 3)), (219, (.ireturn, 1))]
def u_X12_write : Fx := (yX12_write, (cX12_write, (5, ((some .int), tb_X12_write))))
theorem tk_X12_write : ∀ q ∈ u_X12_write.2.2.2.2, decode u_X12_write.2.1 q.1 = .ok q.2 := by decide +kernel
theorem mc_X12_write : MC u_X12_write 2 := ⟨tbm 1754 (by decide +kernel) rfl, tbm 128 (by decide +kernel) rfl, ⟨by decide, by decide, by decide +kernel⟩, by decide⟩
theorem in_X12_write : Cond.instanceMethod u_X12_write.1 ∈ TB ∧ Cond.selects u_X12_write.1.cls u_X12_write.1 u_X12_write.1 ∈ TB := ⟨tbm 1752 (by decide +kernel) rfl, tbm 1753 (by decide +kernel) rfl⟩
def f_X12_write_j183 (t : List Sh) (m : Mi) (a0 : Nat) (a2 : Int32) (a4 : Int32) (s0 : Int64) (s1 : Nat) : Option (Int32 × Mi) :=
  (if ob t s1 12 = true then
  (f_X12_saysWord t m s1 s0).bind fun m12 =>
  (if ar t (gr m12 a0 36) .int a4 = true then
  (if ar t (gr m12 a0 37) .int a4 = true then
  (f_X12_saysText t m12 a0 (gi m12 (gr m12 a0 36) (ix a4)) (gi m12 (gr m12 a0 37) (ix a4))).bind fun m15 =>
  (f_X12_says t m15 a0 32).bind fun m16 =>
  (f_X12_saysRange t m16 a0 a2).bind fun m17 =>
  some (gi m17 a0 60, m17)
  else none)
  else none)
  else none)
def f_X12_write_j143 (t : List Sh) (m : Mi) (a0 : Nat) (a2 : Int32) (a4 : Int32) : Option (Int32 × Mi) :=
  (if ar t (gr m a0 35) .int a4 = true then
  if (gi m (gr m a0 35) (ix a4)) = 10 then
    f_X12_write_j183 t m a0 a2 a4 474147546227 a0
  else
    if (gi m (gr m a0 35) (ix a4)) = 11 then
      f_X12_write_j183 t m a0 a2 a4 427020088168 a0
    else
      f_X12_write_j183 t m a0 a2 a4 2002873972 a0
  else none)
def f_X12_write_j63 (t : List Sh) (m : Mi) (a0 : Nat) (a1 : Int32) (a2 : Int32) (s0 : Int32) : Option (Int32 × Mi) :=
  if s0 = 0 then
    some ((-1), m)
  else
    lt (si m a0 60 0) fun m2 =>
    if a1 = 0 then
      (f_X12_slotOf a2).bind fun x4 =>
      (f_X12_saysRange t m2 a0 x4).bind fun m5 =>
      some (gi m5 a0 60, m5)
    else
      if a1 = 1 then
        (f_X12_saysRelease t m2 a0 a2).bind fun m7 =>
        some (gi m7 a0 60, m7)
      else
        lt ((250 * (gi m2 a0 21)) + a2) fun x8 =>
        (if ar t (gr m2 a0 34) .int x8 = true then
        if (gi m2 (gr m2 a0 34) (ix x8)) = (-1) then
          f_X12_write_j143 t m2 a0 a2 x8
        else
          (f_X12_saysRelease t m2 a0 (gi m2 (gr m2 a0 34) (ix x8))).bind fun m21 =>
          (f_X12_says t m21 a0 32).bind fun m22 =>
          f_X12_write_j143 t m22 a0 a2 x8
        else none)
def f_X12_write_j37 (t : List Sh) (m : Mi) (a0 : Nat) (a1 : Int32) (a2 : Int32) : Option (Int32 × Mi) :=
  f_X12_write_j63 t m a0 a1 a2 0
def f_X12_write_j62 (t : List Sh) (m : Mi) (a0 : Nat) (a1 : Int32) (a2 : Int32) : Option (Int32 × Mi) :=
  f_X12_write_j63 t m a0 a1 a2 0
def f_X12_write (t : List Sh) (m : Mi) (a0 : Nat) (a1 : Int32) (a2 : Int32) : Option (Int32 × Mi) :=
  if a1 = 0 then
    (f_X12_isSlot a2).bind fun x24 =>
    f_X12_write_j63 t m a0 a1 a2 x24
  else
    if a1 = 1 then
      if a2 < 0 then
        f_X12_write_j37 t m a0 a1 a2
      else
        (if ar t (gr m a0 24) .int (gi m a0 21) = true then
        if (gi m (gr m a0 24) (ix (gi m a0 21))) ≤ a2 then
          f_X12_write_j37 t m a0 a1 a2
        else
          f_X12_write_j63 t m a0 a1 a2 1
        else none)
    else
      if a1 = 2 then
        if a2 < 0 then
          f_X12_write_j62 t m a0 a1 a2
        else
          (f_X12_constraints t m a0).bind fun x31 =>
          if x31 ≤ a2 then
            f_X12_write_j62 t m a0 a1 a2
          else
            f_X12_write_j63 t m a0 a1 a2 1
      else
        f_X12_write_j62 t m a0 a1 a2
set_option maxRecDepth 4000 in
set_option maxHeartbeats 4000000 in
theorem sm_X12_write (t : List Sh) (m : Mi) (a0 : Nat) (a1 : Int32) (a2 : Int32) (h0 : sh t a0 = some (.inl 12)) : Sm u_X12_write (6, 0, 0, t.length, zs t) (kI t) 0 [(0, .inr (.inr a0)), (1, .inl a1), (2, .inl a2)] [] (t, m) (f_X12_write t m a0 a1 a2) := by
  unfold f_X12_write
  refine r_iload_n 0 1 1 rfl rfl rfl rfl ?_
  have hj63 : ∀ (m : Mi) (s0 : Int32), Sm u_X12_write (6, 0, 0, t.length, zs t) (kI t) 63 [(0, .inr (.inr a0)), (1, .inl a1), (2, .inl a2)] [.inl s0] (t, m) (f_X12_write_j63 t m a0 a1 a2 s0) := by
    intro m s0
    unfold f_X12_write_j63
    refine r_istore_n 33 64 (L' := [(3, .inl s0), (0, .inr (.inr a0)), (1, .inl a1), (2, .inl a2)]) rfl rfl rfl (by decide) rfl ?_
    refine r_iload_n 34 65 0 rfl rfl rfl rfl ?_
    refine r_if_ne 35 70 68 rfl rfl rfl (fun h1 => ?_) (fun h1 => ?_)
    · refine r_iconst 36 69 (v := (-1)) rfl rfl (by decide) ?_
      exact r_iret 37 rfl rfl rfl
    · refine r_aload_n 38 71 1 rfl rfl rfl rfl ?_
      refine r_iconst 39 72 (v := 0) rfl rfl (by decide) ?_
      refine r_putI 40 75 rfl rfl fl_RX12_399 (fun h => by cases h) (Or.inl rfl) h0 ?_
      refine r_ltM (fun m2 => ?_)
      refine r_iload_n 41 76 2 rfl rfl rfl rfl ?_
      refine r_if_ne 42 90 79 rfl rfl rfl (fun h3 => ?_) (fun h3 => ?_)
      · refine r_aload_n 43 80 1 rfl rfl rfl rfl ?_
        refine r_iload_n 44 81 3 rfl rfl rfl rfl ?_
        refine r_SIo 45 84 (a := 0) (cn := 0) (st := [.inr (.inr a0)]) (av := [.inl a2]) (μ' := u_X12_slotOf) (d := 1) rfl rfl mc_X12_slotOf st_X12_slotOf lk_RX12_141 (Nat.le_of_ble_eq_true rfl) rfl (Nat.le_of_ble_eq_true rfl) (fun _ h => ct_X12_slotOf h) (fun x4 => ?_)
        refine r_VV 46 87 (st := []) (av := [.inr (.inr a0), .inl x4]) (av' := [.inl x4]) (μ' := u_X12_saysRange) (d := 5) rfl rfl mc_X12_saysRange in_X12_saysRange lk_RX12_420 (Nat.le_of_ble_eq_true rfl) rfl rfl h0 rfl (Nat.le_of_ble_eq_true rfl) (fun _ h => ct_X12_saysRange h0 h) (fun m5 => ?_)
        refine r_goto 47 215 rfl rfl ?_
        refine r_aload_n 112 216 1 rfl rfl rfl rfl ?_
        refine r_getI 113 219 rfl rfl fl_RX12_399 rfl h0 ?_
        exact r_iret 114 rfl rfl rfl
      · refine r_iload_n 48 91 2 rfl rfl rfl rfl ?_
        refine r_iconst 49 92 (v := 1) rfl rfl (by decide) ?_
        refine r_icmp_ne 50 103 95 rfl rfl rfl (fun h6 => ?_) (fun h6 => ?_)
        · refine r_aload_n 51 96 1 rfl rfl rfl rfl ?_
          refine r_iload_n 52 97 3 rfl rfl rfl rfl ?_
          refine r_VV 53 100 (st := []) (av := [.inr (.inr a0), .inl a2]) (av' := [.inl a2]) (μ' := u_X12_saysRelease) (d := 3) rfl rfl mc_X12_saysRelease in_X12_saysRelease lk_RX12_423 (Nat.le_of_ble_eq_true rfl) rfl rfl h0 rfl (Nat.le_of_ble_eq_true rfl) (fun _ h => ct_X12_saysRelease h0 h) (fun m7 => ?_)
          refine r_goto 54 215 rfl rfl ?_
          refine r_aload_n 112 216 1 rfl rfl rfl rfl ?_
          refine r_getI 113 219 rfl rfl fl_RX12_399 rfl h0 ?_
          exact r_iret 114 rfl rfl rfl
        · refine r_sipush 55 106 (v := 250) rfl rfl (by decide) ?_
          refine r_aload_n 56 107 1 rfl rfl rfl rfl ?_
          refine r_getI 57 110 rfl rfl fl_RX12_326 rfl h0 ?_
          refine r_imul 58 111 rfl rfl ?_
          refine r_iload_n 59 112 3 rfl rfl rfl rfl ?_
          refine r_iadd 60 113 rfl rfl ?_
          refine r_ltI (fun x8 => ?_)
          refine r_istore 61 115 (L' := [(4, .inl x8), (3, .inl s0), (0, .inr (.inr a0)), (1, .inl a1), (2, .inl a2)]) rfl rfl (by decide) rfl ?_
          refine r_aload_n 62 116 2 rfl rfl rfl rfl ?_
          refine r_getR 63 119 rfl rfl fl_RX12_76 rfl h0 ?_
          refine r_iload 64 121 0 rfl rfl rfl ?_
          refine r_gd (fun h9 => ?_)
          refine r_iald 65 122 rfl rfl h9 ?_
          refine r_iconst 66 123 (v := (-1)) rfl rfl (by decide) ?_
          have hj143 : ∀ (m : Mi) (a4 : Int32), Sm u_X12_write (6, 0, 0, t.length, zs t) (kI t) 143 [(0, .inr (.inr a0)), (2, .inl a2), (4, .inl a4)] [] (t, m) (f_X12_write_j143 t m a0 a2 a4) := by
            intro m a4
            unfold f_X12_write_j143
            refine r_aload_n 77 144 0 rfl rfl rfl rfl ?_
            refine r_aload_n 78 145 0 rfl rfl rfl rfl ?_
            refine r_getR 79 148 rfl rfl fl_RX12_79 rfl h0 ?_
            refine r_iload 80 150 2 rfl rfl rfl ?_
            refine r_gd (fun h10 => ?_)
            refine r_iald 81 151 rfl rfl h10 ?_
            refine r_bipush 82 153 (v := 10) rfl rfl (by decide) ?_
            have hj183 : ∀ (m : Mi) (a4 : Int32) (s0 : Int64) (s1 : Nat), Sm u_X12_write (6, 0, 0, t.length, zs t) (kI t) 183 [(0, .inr (.inr a0)), (2, .inl a2), (4, .inl a4)] [.inr (.inl s0), .inr (.inr s1)] (t, m) (f_X12_write_j183 t m a0 a2 a4 s0 s1) := by
              intro m a4 s0 s1
              unfold f_X12_write_j183
              refine r_gd (fun h11 => ?_)
              refine r_VV 95 186 (st := []) (av := [.inr (.inr s1), .inr (.inl s0)]) (av' := [.inr (.inl s0)]) (μ' := u_X12_saysWord) (d := 2) rfl rfl mc_X12_saysWord in_X12_saysWord lk_RX12_426 (Nat.le_of_ble_eq_true rfl) rfl rfl (ob_sh h11) rfl (Nat.le_of_ble_eq_true rfl) (fun _ h => ct_X12_saysWord (ob_sh h11) h) (fun m12 => ?_)
              refine r_aload_n 96 187 0 rfl rfl rfl rfl ?_
              refine r_aload_n 97 188 0 rfl rfl rfl rfl ?_
              refine r_getR 98 191 rfl rfl fl_RX12_82 rfl h0 ?_
              refine r_iload 99 193 2 rfl rfl rfl ?_
              refine r_gd (fun h13 => ?_)
              refine r_iald 100 194 rfl rfl h13 ?_
              refine r_aload_n 101 195 0 rfl rfl rfl rfl ?_
              refine r_getR 102 198 rfl rfl fl_RX12_85 rfl h0 ?_
              refine r_iload 103 200 2 rfl rfl rfl ?_
              refine r_gd (fun h14 => ?_)
              refine r_iald 104 201 rfl rfl h14 ?_
              refine r_VV 105 204 (st := []) (av := [.inr (.inr a0), .inl (gi m12 (gr m12 a0 36) (ix a4)), .inl (gi m12 (gr m12 a0 37) (ix a4))]) (av' := [.inl (gi m12 (gr m12 a0 36) (ix a4)), .inl (gi m12 (gr m12 a0 37) (ix a4))]) (μ' := u_X12_saysText) (d := 2) rfl rfl mc_X12_saysText in_X12_saysText lk_RX12_417 (Nat.le_of_ble_eq_true rfl) rfl rfl h0 rfl (Nat.le_of_ble_eq_true rfl) (fun _ h => ct_X12_saysText h0 h) (fun m15 => ?_)
              refine r_aload_n 106 205 0 rfl rfl rfl rfl ?_
              refine r_bipush 107 207 (v := 32) rfl rfl (by decide) ?_
              refine r_VV 108 210 (st := []) (av := [.inr (.inr a0), .inl 32]) (av' := [.inl 32]) (μ' := u_X12_says) (d := 1) rfl rfl mc_X12_says in_X12_says lk_RX12_402 (Nat.le_of_ble_eq_true rfl) rfl rfl h0 rfl (Nat.le_of_ble_eq_true rfl) (fun _ h => ct_X12_says h0 h) (fun m16 => ?_)
              refine r_aload_n 109 211 0 rfl rfl rfl rfl ?_
              refine r_iload_n 110 212 1 rfl rfl rfl rfl ?_
              refine r_VV 111 215 (st := []) (av := [.inr (.inr a0), .inl a2]) (av' := [.inl a2]) (μ' := u_X12_saysRange) (d := 5) rfl rfl mc_X12_saysRange in_X12_saysRange lk_RX12_420 (Nat.le_of_ble_eq_true rfl) rfl rfl h0 rfl (Nat.le_of_ble_eq_true rfl) (fun _ h => ct_X12_saysRange h0 h) (fun m17 => ?_)
              refine r_aload_n 112 216 0 rfl rfl rfl rfl ?_
              refine r_getI 113 219 rfl rfl fl_RX12_399 rfl h0 ?_
              exact r_iret 114 rfl rfl rfl
            refine r_icmp_ne 83 162 156 rfl rfl rfl (fun h18 => ?_) (fun h18 => ?_)
            · refine r_ldc2 84 159 rfl rfl kc_RX12_248 ?_
              refine r_goto 85 183 rfl rfl ?_
              exact hj183 m a4 474147546227 a0
            · refine r_aload_n 86 163 0 rfl rfl rfl rfl ?_
              refine r_getR 87 166 rfl rfl fl_RX12_79 rfl h0 ?_
              refine r_iload 88 168 2 rfl rfl rfl ?_
              refine r_iald 89 169 rfl rfl h10 ?_
              refine r_bipush 90 171 (v := 11) rfl rfl (by decide) ?_
              refine r_icmp_ne 91 180 174 rfl rfl rfl (fun h19 => ?_) (fun h19 => ?_)
              · refine r_ldc2 92 177 rfl rfl kc_RX12_250 ?_
                refine r_goto 93 183 rfl rfl ?_
                exact hj183 m a4 427020088168 a0
              · refine r_ldc2 94 183 rfl rfl kc_RX12_246 ?_
                exact hj183 m a4 2002873972 a0
          refine r_icmp_eq 67 143 126 rfl rfl rfl (fun h20 => ?_) (fun h20 => ?_)
          · exact r_sub [2, 4, 0] rfl (hj143 m2 x8)
          · refine r_aload_n 68 127 2 rfl rfl rfl rfl ?_
            refine r_aload_n 69 128 2 rfl rfl rfl rfl ?_
            refine r_getR 70 131 rfl rfl fl_RX12_76 rfl h0 ?_
            refine r_iload 71 133 0 rfl rfl rfl ?_
            refine r_iald 72 134 rfl rfl h9 ?_
            refine r_VV 73 137 (st := []) (av := [.inr (.inr a0), .inl (gi m2 (gr m2 a0 34) (ix x8))]) (av' := [.inl (gi m2 (gr m2 a0 34) (ix x8))]) (μ' := u_X12_saysRelease) (d := 3) rfl rfl mc_X12_saysRelease in_X12_saysRelease lk_RX12_423 (Nat.le_of_ble_eq_true rfl) rfl rfl h0 rfl (Nat.le_of_ble_eq_true rfl) (fun _ h => ct_X12_saysRelease h0 h) (fun m21 => ?_)
            refine r_aload_n 74 138 2 rfl rfl rfl rfl ?_
            refine r_bipush 75 140 (v := 32) rfl rfl (by decide) ?_
            refine r_VV 76 143 (st := []) (av := [.inr (.inr a0), .inl 32]) (av' := [.inl 32]) (μ' := u_X12_says) (d := 1) rfl rfl mc_X12_says in_X12_says lk_RX12_402 (Nat.le_of_ble_eq_true rfl) rfl rfl h0 rfl (Nat.le_of_ble_eq_true rfl) (fun _ h => ct_X12_says h0 h) (fun m22 => ?_)
            exact r_sub [2, 4, 0] rfl (hj143 m22 x8)
  refine r_if_ne 1 11 4 rfl rfl rfl (fun h23 => ?_) (fun h23 => ?_)
  · refine r_iload_n 2 5 2 rfl rfl rfl rfl ?_
    refine r_SIo 3 8 (a := 0) (cn := 0) (st := []) (av := [.inl a2]) (μ' := u_X12_isSlot) (d := 1) rfl rfl mc_X12_isSlot st_X12_isSlot lk_RX12_305 (Nat.le_of_ble_eq_true rfl) rfl (Nat.le_of_ble_eq_true rfl) (fun _ h => ct_X12_isSlot h) (fun x24 => ?_)
    refine r_goto 4 63 rfl rfl ?_
    exact hj63 m x24
  · refine r_iload_n 5 12 1 rfl rfl rfl rfl ?_
    refine r_iconst 6 13 (v := 1) rfl rfl (by decide) ?_
    refine r_icmp_ne 7 41 16 rfl rfl rfl (fun h25 => ?_) (fun h25 => ?_)
    · refine r_iload_n 8 17 2 rfl rfl rfl rfl ?_
      have hj37 : ∀ (m : Mi), Sm u_X12_write (6, 0, 0, t.length, zs t) (kI t) 37 [(0, .inr (.inr a0)), (1, .inl a1), (2, .inl a2)] [] (t, m) (f_X12_write_j37 t m a0 a1 a2) := by
        intro m
        unfold f_X12_write_j37
        refine r_iconst 19 38 (v := 0) rfl rfl (by decide) ?_
        refine r_goto 20 63 rfl rfl ?_
        exact hj63 m 0
      refine r_if_lt 9 37 20 rfl rfl rfl (fun h26 => ?_) (fun h26 => ?_)
      · exact hj37 m
      · refine r_iload_n 10 21 2 rfl rfl rfl rfl ?_
        refine r_aload_n 11 22 0 rfl rfl rfl rfl ?_
        refine r_getR 12 25 rfl rfl fl_RX12_46 rfl h0 ?_
        refine r_aload_n 13 26 0 rfl rfl rfl rfl ?_
        refine r_getI 14 29 rfl rfl fl_RX12_326 rfl h0 ?_
        refine r_gd (fun h27 => ?_)
        refine r_iald 15 30 rfl rfl h27 ?_
        refine r_icmp_ge 16 37 33 rfl rfl rfl (fun h28 => ?_) (fun h28 => ?_)
        · exact hj37 m
        · refine r_iconst 17 34 (v := 1) rfl rfl (by decide) ?_
          refine r_goto 18 63 rfl rfl ?_
          exact hj63 m 1
    · refine r_iload_n 21 42 1 rfl rfl rfl rfl ?_
      refine r_iconst 22 43 (v := 2) rfl rfl (by decide) ?_
      have hj62 : ∀ (m : Mi), Sm u_X12_write (6, 0, 0, t.length, zs t) (kI t) 62 [(0, .inr (.inr a0)), (1, .inl a1), (2, .inl a2)] [] (t, m) (f_X12_write_j62 t m a0 a1 a2) := by
        intro m
        unfold f_X12_write_j62
        refine r_iconst 32 63 (v := 0) rfl rfl (by decide) ?_
        exact hj63 m 0
      refine r_icmp_ne 23 62 46 rfl rfl rfl (fun h29 => ?_) (fun h29 => ?_)
      · refine r_iload_n 24 47 2 rfl rfl rfl rfl ?_
        refine r_if_lt 25 62 50 rfl rfl rfl (fun h30 => ?_) (fun h30 => ?_)
        · exact hj62 m
        · refine r_iload_n 26 51 2 rfl rfl rfl rfl ?_
          refine r_aload_n 27 52 0 rfl rfl rfl rfl ?_
          refine r_VIo 28 55 (st := [.inl a2]) (av := [.inr (.inr a0)]) (av' := []) (μ' := u_X12_constraints) (d := 1) rfl rfl mc_X12_constraints in_X12_constraints lk_RX12_332 (Nat.le_of_ble_eq_true rfl) rfl rfl h0 rfl (Nat.le_of_ble_eq_true rfl) (fun _ h => ct_X12_constraints h0 h) (fun x31 => ?_)
          refine r_icmp_ge 29 62 58 rfl rfl rfl (fun h32 => ?_) (fun h32 => ?_)
          · exact hj62 m
          · refine r_iconst 30 59 (v := 1) rfl rfl (by decide) ?_
            refine r_goto 31 63 rfl rfl ?_
            exact hj63 m 1
      · exact hj62 m
theorem ct_X12_write {t : List Sh} {m : Mi} {a0 : Nat} {a1 : Int32} {a2 : Int32} {m' : Mi} {v : Int32}  (h0 : sh t a0 = some (.inl 12)) (h : f_X12_write t m a0 a1 a2 = some (v, m')) : Ct u_X12_write 6 0 0 [.inr (.inr a0), .inl a1, .inl a2] (t, m) (some (.inl v), (t, m')) :=
  ct_of (by decide) tk_X12_write (Nat.le_of_ble_eq_true rfl) (sm_X12_write t m a0 a1 a2 h0) (by rw [h]; rfl) (Nat.le_refl _) (Nat.le_refl _)
theorem lk_RX12_389 : Cond.methodLink RX12 389 yX12_findsReason ∈ TB := tbm 1718 (by decide +kernel) rfl
theorem lk_RX12_392 : Cond.methodLink RX12 392 yX12_rows ∈ TB := tbm 1722 (by decide +kernel) rfl
def tb_X12_resolve : Tb := [(0, (.aload_n 0, 1)), (1, (.iconst 1, 1)), (2, (.invokevirtual 382, 3)), (5, (.aload_n 0, 1)), (6, (.iconst 0, 1)), (7, (.putfield 343, 3)), (10, (.aload_n 0, 1)), (11, (.iconst 1, 1)), (12, (.invokevirtual 386, 3)), (15, (.ifCond .ne 19, 3)), (18, (.aload_n 0, 1)), (19, (.invokevirtual 389, 3)), (22, (.aload_n 0, 1)), (23, (.iconst 2, 1)), (24, (.putfield 336, 3)), (27, (.aload_n 0, 1)), (28, (.iconst 0, 1)), (29, (.putfield 346, 3)), (32, (.iconst 0, 1)), (33, (.ireturn, 1)), (34, (.iconst 0, 1)), (35, (.istore_n 2, 1)), (36, (.iload_n 2, 1)), (37, (.aload_n 0, 1)), (38, (.getfield 43, 3)), (41, (.aload_n 0, 1)), (42, (.getfield 326, 3)), (45, (.iaload, 1)), (46, (.if_icmp .ge 67, 3)), (49, (.aload_n 0, 1)), (50, (.iload_n 2, 1)), (51, (.iload_n 1, 1)), (52, (.invokevirtual 392, 3)), (55, (.iconst 0, 1)), (56, (.istore_n 3, 1)), (57, (.iconst 0, 1)), (58, (.istore 4, 2)), (60, (.iload 4, 2)), (62, (.aload_n 0, 1)), (63, (.getfield 376, 3)), (66, (.if_icmp .ge 41, 3)), (69, (.iload_n 3, 1)), (70, (.ifCond .ne 37, 3)), (73, (.aload_n 0, 1)), (74, (.getfield 114, 3)), (77, (.iload_n 2, 1)), (78, (.aload_n 0, 1)), (79, (.getfield 132, 3)), (82, (.iload 4, 2)), (84, (.iaload, 1)), (85, (.iastore, 1)), (86, (.aload_n 0, 1)), (87, (.iconst 1, 1)), (88, (.invokevirtual 386, 3)), (91, (.iconst 1, 1)), (92, (.if_icmp .ne 7, 3)), (95, (.iconst 1, 1)), (96, (.goto 4, 3)), (99, (.iconst 0, 1)), (100, (.istore_n 3, 1)), (101, (.iinc 4 1, 3)), (104, (.goto (-44), 3)), (107, (.iinc 2 1, 3)), (110, (.goto (-74), 3)), (113, (.aload_n 0, 1)), (114, (.iconst 0, 1)), (115, (.putfield 346, 3)), (118, (.iconst 0, 1)), (119, (.istore_n 2, 1)), (120, (.iload_n 2, 1)), (121, (.aload_n 0, 1)), (122, (.getfield 43, 3)), (125, (.aload_n 0, 1)), (126, (.getfield 326, 3)), (129, (.iaload, 1)), (130, (.if_icmp .ge 56, 3)), (133, (.aload_n 0, 1)), (134, (.getfield 123, 3)), (137, (.iload_n 2, 1)), (138, (.aload_n 0, 1)), (139, (.getfield 114, 3)), (142, (.iload_n 2, 1)), (143, (.iaload, 1)), (144, (.iastore, 1)), (145, (.aload_n 0, 1)), (146, (.getfield 126, 3)), (149, (.iload_n 2, 1)), (150, (.aload_n 0, 1)), (151, (.getfield 114, 3)), (154, (.iload_n 2, 1)), (155, (.iaload, 1)), (156, (.iastore, 1)), (157, (.aload_n 0, 1)), (158, (.aload_n 0, 1)), (159, (.getfield 346, 3)), (162, (.aload_n 0, 1)), (163, (.getfield 123, 3)), (166, (.iload_n 2, 1)), (167, (.iaload, 1)), (168, (.ifCond .le 7, 3)), (171, (.iconst 1, 1)), (172, (.goto 4, 3)), (175, (.iconst 0, 1)), (176, (.iadd, 1)), (177, (.putfield 346, 3)), (180, (.iinc 2 1, 3)), (183, (.goto (-63), 3)), (186, (.aload_n 0, 1)), (187, (.iconst 1, 1)), (188, (.putfield 339, 3)), (191, (.aload_n 0, 1)), (192, (.iconst 1, 1)), (193, (.putfield 336, 3)), (196, (.iconst 1, 1)), (197, (.ireturn, 1))]
def u_X12_resolve : Fx := (yX12_resolve, (cX12_resolve, (5, ((some .int), tb_X12_resolve))))
theorem tk_X12_resolve : ∀ q ∈ u_X12_resolve.2.2.2.2, decode u_X12_resolve.2.1 q.1 = .ok q.2 := by decide +kernel
theorem mc_X12_resolve : MC u_X12_resolve 1 := ⟨tbm 1687 (by decide +kernel) rfl, tbm 128 (by decide +kernel) rfl, ⟨by decide, by decide, by decide +kernel⟩, by decide⟩
theorem in_X12_resolve : Cond.instanceMethod u_X12_resolve.1 ∈ TB ∧ Cond.selects u_X12_resolve.1.cls u_X12_resolve.1 u_X12_resolve.1 ∈ TB := ⟨tbm 1685 (by decide +kernel) rfl, tbm 1686 (by decide +kernel) rfl⟩
def f_X12_resolve_j186 (t : List Sh) (m : Mi) (a0 : Nat) : Option (Int32 × Mi) :=
  lt (si m a0 52 1) fun m10 =>
  lt (si m10 a0 49 1) fun m11 =>
  some (1, m11)
def f_X12_resolve_j176 (t : List Sh) (m : Mi) (a0 : Nat) (a2 : Int32) (s0 : Int32) (s1 : Int32) (s2 : Nat) : Option ((Int32 × Mi) ⊕ ((Mi))) :=
  (if ob t s2 12 = true then
  lt (si m s2 51 (s1 + s0)) fun m22 =>
  lt (a2 + 1) fun x23 =>
  some (.inl (x23, m22))
  else none)
def f_X12_resolve_l120 (t : List Sh) (m : Mi) (a0 : Nat) (a2 : Int32) : Option ((Int32 × Mi) ⊕ ((Mi))) :=
  (if ar t (gr m a0 23) .int (gi m a0 21) = true then
  if (gi m (gr m a0 23) (ix (gi m a0 21))) ≤ a2 then
    some (.inr m)
  else
    (if ar t (gr m a0 46) .int a2 = true then
    (if ar t (gr m a0 53) .int a2 = true then
    lt (si m (gr m a0 53) (ix a2) (gi m (gr m a0 46) (ix a2))) fun m16 =>
    (if ar t (gr m16 a0 46) .int a2 = true then
    (if ar t (gr m16 a0 54) .int a2 = true then
    lt (si m16 (gr m16 a0 54) (ix a2) (gi m16 (gr m16 a0 46) (ix a2))) fun m19 =>
    (if ar t (gr m19 a0 53) .int a2 = true then
    if (gi m19 (gr m19 a0 53) (ix a2)) ≤ 0 then
      f_X12_resolve_j176 t m19 a0 a2 0 (gi m19 a0 51) a0
    else
      f_X12_resolve_j176 t m19 a0 a2 1 (gi m19 a0 51) a0
    else none)
    else none)
    else none)
    else none)
    else none)
  else none)
def f_X12_resolve_j120 (t : List Sh) (m : Mi) (a0 : Nat) (a2 : Int32) : Option (Int32 × Mi) :=
  (lp (fun x : Int32 × Mi => f_X12_resolve_l120 t x.2 a0 x.1) FUEL (a2, m)).bind (fun y : Mi => f_X12_resolve_j186 t y a0)
def f_X12_resolve_j113 (t : List Sh) (m : Mi) (a0 : Nat) : Option (Int32 × Mi) :=
  lt (si m a0 51 0) fun m9 =>
  f_X12_resolve_j120 t m9 a0 0
def f_X12_resolve_j107 (t : List Sh) (m : Mi) (a0 : Nat) (a1 : Int32) (a2 : Int32) : Option ((Int32 × Mi) ⊕ ((Mi))) :=
  lt (a2 + 1) fun x28 =>
  some (.inl (x28, m))
def f_X12_resolve_l60 (t : List Sh) (m : Mi) (a0 : Nat) (a1 : Int32) (a2 : Int32) (a3 : Int32) (a4 : Int32) : Option ((Int32 × Int32 × Mi) ⊕ ((Mi))) :=
  if (gi m a0 57) ≤ a4 then
    some (.inr m)
  else
    if a3 = 0 then
      (if ar t (gr m a0 56) .int a4 = true then
      (if ar t (gr m a0 46) .int a2 = true then
      lt (si m (gr m a0 46) (ix a2) (gi m (gr m a0 56) (ix a4))) fun m33 =>
      bd (f_X12_solved t m33 a0 1) fun x34 m35 =>
      if x34 = 1 then
        lt (a4 + 1) fun x37 =>
        some (.inl (1, x37, m35))
      else
        lt (a4 + 1) fun x38 =>
        some (.inl (0, x38, m35))
      else none)
      else none)
    else
      some (.inr m)
def f_X12_resolve_j60 (t : List Sh) (m : Mi) (a0 : Nat) (a1 : Int32) (a2 : Int32) (a3 : Int32) (a4 : Int32) : Option ((Int32 × Mi) ⊕ ((Mi))) :=
  (lp (fun x : Int32 × Int32 × Mi => f_X12_resolve_l60 t x.2.2 a0 a1 a2 x.1 x.2.1) FUEL (a3, a4, m)).bind (fun y : Mi => f_X12_resolve_j107 t y a0 a1 a2)
def f_X12_resolve_l36 (t : List Sh) (m : Mi) (a0 : Nat) (a1 : Int32) (a2 : Int32) : Option ((Int32 × Mi) ⊕ ((Mi))) :=
  (if ar t (gr m a0 23) .int (gi m a0 21) = true then
  if (gi m (gr m a0 23) (ix (gi m a0 21))) ≤ a2 then
    some (.inr m)
  else
    (f_X12_rows t m a0 a2 a1).bind fun m27 =>
    f_X12_resolve_j60 t m27 a0 a1 a2 0 0
  else none)
def f_X12_resolve_j36 (t : List Sh) (m : Mi) (a0 : Nat) (a1 : Int32) (a2 : Int32) : Option (Int32 × Mi) :=
  (lp (fun x : Int32 × Mi => f_X12_resolve_l36 t x.2 a0 a1 x.1) FUEL (a2, m)).bind (fun y : Mi => f_X12_resolve_j113 t y a0)
def f_X12_resolve (t : List Sh) (m : Mi) (a0 : Nat) (a1 : Int32) : Option (Int32 × Mi) :=
  (f_X12_allOn t m a0 1).bind fun m1 =>
  lt (si m1 a0 50 0) fun m2 =>
  bd (f_X12_solved t m2 a0 1) fun x3 m4 =>
  if x3 = 0 then
    (f_X12_findsReason t m4 a0).bind fun m6 =>
    lt (si m6 a0 49 2) fun m7 =>
    lt (si m7 a0 51 0) fun m8 =>
    some (0, m8)
  else
    f_X12_resolve_j36 t m4 a0 a1 0
set_option maxRecDepth 4000 in
set_option maxHeartbeats 4000000 in
theorem sm_X12_resolve (t : List Sh) (m : Mi) (a0 : Nat) (a1 : Int32) (h0 : sh t a0 = some (.inl 12)) : Sm u_X12_resolve (7, 0, 0, t.length, zs t) (kI t) 0 [(0, .inr (.inr a0)), (1, .inl a1)] [] (t, m) (f_X12_resolve t m a0 a1) := by
  unfold f_X12_resolve
  refine r_aload_n 0 1 0 rfl rfl rfl rfl ?_
  refine r_iconst 1 2 (v := 1) rfl rfl (by decide) ?_
  refine r_VV 2 5 (st := []) (av := [.inr (.inr a0), .inl 1]) (av' := [.inl 1]) (μ' := u_X12_allOn) (d := 1) rfl rfl mc_X12_allOn in_X12_allOn lk_RX12_382 (Nat.le_of_ble_eq_true rfl) rfl rfl h0 rfl (Nat.le_of_ble_eq_true rfl) (fun _ h => ct_X12_allOn h0 h) (fun m1 => ?_)
  refine r_aload_n 3 6 0 rfl rfl rfl rfl ?_
  refine r_iconst 4 7 (v := 0) rfl rfl (by decide) ?_
  refine r_putI 5 10 rfl rfl fl_RX12_343 (fun h => by cases h) (Or.inl rfl) h0 ?_
  refine r_ltM (fun m2 => ?_)
  refine r_aload_n 6 11 0 rfl rfl rfl rfl ?_
  refine r_iconst 7 12 (v := 1) rfl rfl (by decide) ?_
  refine r_VI 8 15 (st := []) (av := [.inr (.inr a0), .inl 1]) (av' := [.inl 1]) (μ' := u_X12_solved) (d := 5) rfl rfl mc_X12_solved in_X12_solved lk_RX12_386 (Nat.le_of_ble_eq_true rfl) rfl rfl h0 rfl (Nat.le_of_ble_eq_true rfl) (fun _ _ h => ct_X12_solved h0 h) (fun x3 m4 => ?_)
  refine r_if_ne 9 34 18 rfl rfl rfl (fun h5 => ?_) (fun h5 => ?_)
  · refine r_aload_n 10 19 0 rfl rfl rfl rfl ?_
    refine r_VV 11 22 (st := []) (av := [.inr (.inr a0)]) (av' := []) (μ' := u_X12_findsReason) (d := 6) rfl rfl mc_X12_findsReason in_X12_findsReason lk_RX12_389 (Nat.le_of_ble_eq_true rfl) rfl rfl h0 rfl (Nat.le_of_ble_eq_true rfl) (fun _ h => ct_X12_findsReason h0 h) (fun m6 => ?_)
    refine r_aload_n 12 23 0 rfl rfl rfl rfl ?_
    refine r_iconst 13 24 (v := 2) rfl rfl (by decide) ?_
    refine r_putI 14 27 rfl rfl fl_RX12_336 (fun h => by cases h) (Or.inl rfl) h0 ?_
    refine r_ltM (fun m7 => ?_)
    refine r_aload_n 15 28 0 rfl rfl rfl rfl ?_
    refine r_iconst 16 29 (v := 0) rfl rfl (by decide) ?_
    refine r_putI 17 32 rfl rfl fl_RX12_346 (fun h => by cases h) (Or.inl rfl) h0 ?_
    refine r_ltM (fun m8 => ?_)
    refine r_iconst 18 33 (v := 0) rfl rfl (by decide) ?_
    exact r_iret 19 rfl rfl rfl
  · refine r_iconst 20 35 (v := 0) rfl rfl (by decide) ?_
    refine r_istore_n 21 36 (L' := [(2, .inl 0), (0, .inr (.inr a0)), (1, .inl a1)]) rfl rfl rfl (by decide) rfl ?_
    have hj36 : ∀ (m : Mi) (a2 : Int32), Sm u_X12_resolve (7, 0, 0, t.length, zs t) (kI t) 36 [(0, .inr (.inr a0)), (1, .inl a1), (2, .inl a2)] [] (t, m) (f_X12_resolve_j36 t m a0 a1 a2) := by
      intro m a2
      unfold f_X12_resolve_j36
      have hj113 : ∀ (m : Mi), Sm u_X12_resolve (7, 0, 0, t.length, zs t) (kI t) 113 [(0, .inr (.inr a0))] [] (t, m) (f_X12_resolve_j113 t m a0) := by
        intro m
        unfold f_X12_resolve_j113
        refine r_aload_n 64 114 0 rfl rfl rfl rfl ?_
        refine r_iconst 65 115 (v := 0) rfl rfl (by decide) ?_
        refine r_putI 66 118 rfl rfl fl_RX12_346 (fun h => by cases h) (Or.inl rfl) h0 ?_
        refine r_ltM (fun m9 => ?_)
        refine r_iconst 67 119 (v := 0) rfl rfl (by decide) ?_
        refine r_istore_n 68 120 (L' := [(2, .inl 0), (0, .inr (.inr a0))]) rfl rfl rfl (by decide) rfl ?_
        have hj120 : ∀ (m : Mi) (a2 : Int32), Sm u_X12_resolve (7, 0, 0, t.length, zs t) (kI t) 120 [(0, .inr (.inr a0)), (2, .inl a2)] [] (t, m) (f_X12_resolve_j120 t m a0 a2) := by
          intro m a2
          unfold f_X12_resolve_j120
          have hj186 : ∀ (m : Mi), Sm u_X12_resolve (7, 0, 0, t.length, zs t) (kI t) 186 [(0, .inr (.inr a0))] [] (t, m) (f_X12_resolve_j186 t m a0) := by
            intro m
            unfold f_X12_resolve_j186
            refine r_aload_n 107 187 0 rfl rfl rfl rfl ?_
            refine r_iconst 108 188 (v := 1) rfl rfl (by decide) ?_
            refine r_putI 109 191 rfl rfl fl_RX12_339 (fun h => by cases h) (Or.inr ⟨rfl, by decide⟩) h0 ?_
            refine r_ltM (fun m10 => ?_)
            refine r_aload_n 110 192 0 rfl rfl rfl rfl ?_
            refine r_iconst 111 193 (v := 1) rfl rfl (by decide) ?_
            refine r_putI 112 196 rfl rfl fl_RX12_336 (fun h => by cases h) (Or.inl rfl) h0 ?_
            refine r_ltM (fun m11 => ?_)
            refine r_iconst 113 197 (v := 1) rfl rfl (by decide) ?_
            exact r_iret 114 rfl rfl rfl
          refine r_lp (Lf := fun x : Int32 × Mi => [(0, .inr (.inr a0)), (2, .inl (x.1))]) (Mf := fun x : Int32 × Mi => (t, x.2)) (a2, m) ?_ FUEL
          rintro ⟨a2, m⟩ κ120 hc120 he120
          refine r_eq (L' := [(0, .inr (.inr a0)), (2, .inl a2)]) (M' := (t, m)) rfl rfl ?_
          refine r_eqr (r' := f_X12_resolve_l120 t m a0 a2) rfl ?_
          unfold f_X12_resolve_l120
          refine r_iload_n 69 121 1 rfl rfl rfl rfl ?_
          refine r_aload_n 70 122 0 rfl rfl rfl rfl ?_
          refine r_getR 71 125 rfl rfl fl_RX12_43 rfl h0 ?_
          refine r_aload_n 72 126 0 rfl rfl rfl rfl ?_
          refine r_getI 73 129 rfl rfl fl_RX12_326 rfl h0 ?_
          refine r_gd (fun h12 => ?_)
          refine r_iald 74 130 rfl rfl h12 ?_
          refine r_icmp_ge 75 186 133 rfl rfl rfl (fun h13 => ?_) (fun h13 => ?_)
          · refine r_leaf (r2 := (f_X12_resolve_j186 t m a0 : Option (Int32 × Mi))) (he120 _) ?_
            exact r_sub [0] rfl (hj186 m)
          · refine r_aload_n 76 134 0 rfl rfl rfl rfl ?_
            refine r_getR 77 137 rfl rfl fl_RX12_123 rfl h0 ?_
            refine r_iload_n 78 138 1 rfl rfl rfl rfl ?_
            refine r_aload_n 79 139 0 rfl rfl rfl rfl ?_
            refine r_getR 80 142 rfl rfl fl_RX12_114 rfl h0 ?_
            refine r_iload_n 81 143 1 rfl rfl rfl rfl ?_
            refine r_gd (fun h14 => ?_)
            refine r_iald 82 144 rfl rfl h14 ?_
            refine r_gd (fun h15 => ?_)
            refine r_iast 83 145 rfl rfl h15 ?_
            refine r_ltM (fun m16 => ?_)
            refine r_aload_n 84 146 0 rfl rfl rfl rfl ?_
            refine r_getR 85 149 rfl rfl fl_RX12_126 rfl h0 ?_
            refine r_iload_n 86 150 1 rfl rfl rfl rfl ?_
            refine r_aload_n 87 151 0 rfl rfl rfl rfl ?_
            refine r_getR 88 154 rfl rfl fl_RX12_114 rfl h0 ?_
            refine r_iload_n 89 155 1 rfl rfl rfl rfl ?_
            refine r_gd (fun h17 => ?_)
            refine r_iald 90 156 rfl rfl h17 ?_
            refine r_gd (fun h18 => ?_)
            refine r_iast 91 157 rfl rfl h18 ?_
            refine r_ltM (fun m19 => ?_)
            refine r_aload_n 92 158 0 rfl rfl rfl rfl ?_
            refine r_aload_n 93 159 0 rfl rfl rfl rfl ?_
            refine r_getI 94 162 rfl rfl fl_RX12_346 rfl h0 ?_
            refine r_aload_n 95 163 0 rfl rfl rfl rfl ?_
            refine r_getR 96 166 rfl rfl fl_RX12_123 rfl h0 ?_
            refine r_iload_n 97 167 1 rfl rfl rfl rfl ?_
            refine r_gd (fun h20 => ?_)
            refine r_iald 98 168 rfl rfl h20 ?_
            have hj176 : ∀ (m : Mi) (a2 : Int32) (s0 : Int32) (s1 : Int32) (s2 : Nat), Sm u_X12_resolve (7, 0, 0, t.length, zs t) κ120 176 [(0, .inr (.inr a0)), (2, .inl a2)] [.inl s0, .inl s1, .inr (.inr s2)] (t, m) (f_X12_resolve_j176 t m a0 a2 s0 s1 s2) := by
              intro m a2 s0 s1 s2
              unfold f_X12_resolve_j176
              refine r_iadd 103 177 rfl rfl ?_
              refine r_gd (fun h21 => ?_)
              refine r_putI 104 180 rfl rfl fl_RX12_346 (fun h => by cases h) (Or.inl rfl) (ob_sh h21) ?_
              refine r_ltM (fun m22 => ?_)
              refine r_iinc 105 183 1 (L' := [(2, .inl (a2 + 1)), (0, .inr (.inr a0))]) rfl rfl rfl (by decide) rfl ?_
              refine r_ltV (fun x23 => ?_)
              refine r_goto 106 120 rfl rfl ?_
              exact r_sub [1, 0] rfl (hc120 (x23, m22))
            refine r_if_le 99 175 171 rfl rfl rfl (fun h24 => ?_) (fun h24 => ?_)
            · refine r_iconst 102 176 (v := 0) rfl rfl (by decide) ?_
              exact hj176 m19 a2 0 (gi m19 a0 51) a0
            · refine r_iconst 100 172 (v := 1) rfl rfl (by decide) ?_
              refine r_goto 101 176 rfl rfl ?_
              exact hj176 m19 a2 1 (gi m19 a0 51) a0
        exact r_sub [1, 0] rfl (hj120 m9 0)
      refine r_lp (Lf := fun x : Int32 × Mi => [(0, .inr (.inr a0)), (1, .inl a1), (2, .inl (x.1))]) (Mf := fun x : Int32 × Mi => (t, x.2)) (a2, m) ?_ FUEL
      rintro ⟨a2, m⟩ κ36 hc36 he36
      refine r_eq (L' := [(0, .inr (.inr a0)), (1, .inl a1), (2, .inl a2)]) (M' := (t, m)) rfl rfl ?_
      refine r_eqr (r' := f_X12_resolve_l36 t m a0 a1 a2) rfl ?_
      unfold f_X12_resolve_l36
      refine r_iload_n 22 37 2 rfl rfl rfl rfl ?_
      refine r_aload_n 23 38 0 rfl rfl rfl rfl ?_
      refine r_getR 24 41 rfl rfl fl_RX12_43 rfl h0 ?_
      refine r_aload_n 25 42 0 rfl rfl rfl rfl ?_
      refine r_getI 26 45 rfl rfl fl_RX12_326 rfl h0 ?_
      refine r_gd (fun h25 => ?_)
      refine r_iald 27 46 rfl rfl h25 ?_
      refine r_icmp_ge 28 113 49 rfl rfl rfl (fun h26 => ?_) (fun h26 => ?_)
      · refine r_leaf (r2 := (f_X12_resolve_j113 t m a0 : Option (Int32 × Mi))) (he36 _) ?_
        exact r_sub [0] rfl (hj113 m)
      · refine r_aload_n 29 50 0 rfl rfl rfl rfl ?_
        refine r_iload_n 30 51 2 rfl rfl rfl rfl ?_
        refine r_iload_n 31 52 1 rfl rfl rfl rfl ?_
        refine r_VV 32 55 (st := []) (av := [.inr (.inr a0), .inl a2, .inl a1]) (av' := [.inl a2, .inl a1]) (μ' := u_X12_rows) (d := 3) rfl rfl mc_X12_rows in_X12_rows lk_RX12_392 (Nat.le_of_ble_eq_true rfl) rfl rfl h0 rfl (Nat.le_of_ble_eq_true rfl) (fun _ h => ct_X12_rows h0 h) (fun m27 => ?_)
        refine r_iconst 33 56 (v := 0) rfl rfl (by decide) ?_
        refine r_istore_n 34 57 (L' := [(3, .inl 0), (0, .inr (.inr a0)), (1, .inl a1), (2, .inl a2)]) rfl rfl rfl (by decide) rfl ?_
        refine r_iconst 35 58 (v := 0) rfl rfl (by decide) ?_
        refine r_istore 36 60 (L' := [(4, .inl 0), (3, .inl 0), (0, .inr (.inr a0)), (1, .inl a1), (2, .inl a2)]) rfl rfl (by decide) rfl ?_
        have hj60 : ∀ (m : Mi) (a2 : Int32) (a3 : Int32) (a4 : Int32), Sm u_X12_resolve (7, 0, 0, t.length, zs t) κ36 60 [(0, .inr (.inr a0)), (1, .inl a1), (2, .inl a2), (3, .inl a3), (4, .inl a4)] [] (t, m) (f_X12_resolve_j60 t m a0 a1 a2 a3 a4) := by
          intro m a2 a3 a4
          unfold f_X12_resolve_j60
          have hj107 : ∀ (m : Mi) (a2 : Int32), Sm u_X12_resolve (7, 0, 0, t.length, zs t) κ36 107 [(0, .inr (.inr a0)), (1, .inl a1), (2, .inl a2)] [] (t, m) (f_X12_resolve_j107 t m a0 a1 a2) := by
            intro m a2
            unfold f_X12_resolve_j107
            refine r_iinc 62 110 2 (L' := [(2, .inl (a2 + 1)), (0, .inr (.inr a0)), (1, .inl a1)]) rfl rfl rfl (by decide) rfl ?_
            refine r_ltV (fun x28 => ?_)
            refine r_goto 63 36 rfl rfl ?_
            exact r_sub [1, 2, 0] rfl (hc36 (x28, m))
          refine r_lp (Lf := fun x : Int32 × Int32 × Mi => [(0, .inr (.inr a0)), (1, .inl a1), (2, .inl a2), (3, .inl (x.1)), (4, .inl (x.2.1))]) (Mf := fun x : Int32 × Int32 × Mi => (t, x.2.2)) (a3, a4, m) ?_ FUEL
          rintro ⟨a3, a4, m⟩ κ60 hc60 he60
          refine r_eq (L' := [(0, .inr (.inr a0)), (1, .inl a1), (2, .inl a2), (3, .inl a3), (4, .inl a4)]) (M' := (t, m)) rfl rfl ?_
          refine r_eqr (r' := f_X12_resolve_l60 t m a0 a1 a2 a3 a4) rfl ?_
          unfold f_X12_resolve_l60
          refine r_iload 37 62 4 rfl rfl rfl ?_
          refine r_aload_n 38 63 0 rfl rfl rfl rfl ?_
          refine r_getI 39 66 rfl rfl fl_RX12_376 rfl h0 ?_
          refine r_icmp_ge 40 107 69 rfl rfl rfl (fun h29 => ?_) (fun h29 => ?_)
          · refine r_leaf (r2 := (f_X12_resolve_j107 t m a0 a1 a2 : Option ((Int32 × Mi) ⊕ ((Mi))))) (he60 _) ?_
            exact r_sub [0, 1, 2] rfl (hj107 m a2)
          · refine r_iload_n 41 70 3 rfl rfl rfl rfl ?_
            refine r_if_ne 42 107 73 rfl rfl rfl (fun h30 => ?_) (fun h30 => ?_)
            · refine r_aload_n 43 74 0 rfl rfl rfl rfl ?_
              refine r_getR 44 77 rfl rfl fl_RX12_114 rfl h0 ?_
              refine r_iload_n 45 78 2 rfl rfl rfl rfl ?_
              refine r_aload_n 46 79 0 rfl rfl rfl rfl ?_
              refine r_getR 47 82 rfl rfl fl_RX12_132 rfl h0 ?_
              refine r_iload 48 84 4 rfl rfl rfl ?_
              refine r_gd (fun h31 => ?_)
              refine r_iald 49 85 rfl rfl h31 ?_
              refine r_gd (fun h32 => ?_)
              refine r_iast 50 86 rfl rfl h32 ?_
              refine r_ltM (fun m33 => ?_)
              refine r_aload_n 51 87 0 rfl rfl rfl rfl ?_
              refine r_iconst 52 88 (v := 1) rfl rfl (by decide) ?_
              refine r_VI 53 91 (st := []) (av := [.inr (.inr a0), .inl 1]) (av' := [.inl 1]) (μ' := u_X12_solved) (d := 5) rfl rfl mc_X12_solved in_X12_solved lk_RX12_386 (Nat.le_of_ble_eq_true rfl) rfl rfl h0 rfl (Nat.le_of_ble_eq_true rfl) (fun _ _ h => ct_X12_solved h0 h) (fun x34 m35 => ?_)
              refine r_iconst 54 92 (v := 1) rfl rfl (by decide) ?_
              refine r_icmp_ne 55 99 95 rfl rfl rfl (fun h36 => ?_) (fun h36 => ?_)
              · refine r_iconst 56 96 (v := 1) rfl rfl (by decide) ?_
                refine r_goto 57 100 rfl rfl ?_
                refine r_istore_n 59 101 (L' := [(3, .inl 1), (0, .inr (.inr a0)), (1, .inl a1), (2, .inl a2), (4, .inl a4)]) rfl rfl rfl (by decide) rfl ?_
                refine r_iinc 60 104 4 (L' := [(4, .inl (a4 + 1)), (3, .inl 1), (0, .inr (.inr a0)), (1, .inl a1), (2, .inl a2)]) rfl rfl rfl (by decide) rfl ?_
                refine r_ltV (fun x37 => ?_)
                refine r_goto 61 60 rfl rfl ?_
                exact r_sub [2, 3, 4, 1, 0] rfl (hc60 (1, x37, m35))
              · refine r_iconst 58 100 (v := 0) rfl rfl (by decide) ?_
                refine r_istore_n 59 101 (L' := [(3, .inl 0), (0, .inr (.inr a0)), (1, .inl a1), (2, .inl a2), (4, .inl a4)]) rfl rfl rfl (by decide) rfl ?_
                refine r_iinc 60 104 4 (L' := [(4, .inl (a4 + 1)), (3, .inl 0), (0, .inr (.inr a0)), (1, .inl a1), (2, .inl a2)]) rfl rfl rfl (by decide) rfl ?_
                refine r_ltV (fun x38 => ?_)
                refine r_goto 61 60 rfl rfl ?_
                exact r_sub [2, 3, 4, 1, 0] rfl (hc60 (0, x38, m35))
            · refine r_leaf (r2 := (f_X12_resolve_j107 t m a0 a1 a2 : Option ((Int32 × Mi) ⊕ ((Mi))))) (he60 _) ?_
              exact r_sub [0, 1, 2] rfl (hj107 m a2)
        exact r_sub [2, 3, 4, 1, 0] rfl (hj60 m27 a2 0 0)
    exact r_sub [1, 2, 0] rfl (hj36 m4 0)
theorem ct_X12_resolve {t : List Sh} {m : Mi} {a0 : Nat} {a1 : Int32} {m' : Mi} {v : Int32}  (h0 : sh t a0 = some (.inl 12)) (h : f_X12_resolve t m a0 a1 = some (v, m')) : Ct u_X12_resolve 7 0 0 [.inr (.inr a0), .inl a1] (t, m) (some (.inl v), (t, m')) :=
  ct_of (by decide) tk_X12_resolve (Nat.le_of_ble_eq_true rfl) (sm_X12_resolve t m a0 a1 h0) (by rw [h]; rfl) (Nat.le_refl _) (Nat.le_refl _)
theorem lk_RX12_252 : Cond.methodLink RX12 252 yX12_part ∈ TB := tbm 1553 (by decide +kernel) rfl
theorem kc_RX12_240 : Cond.constantLong RX12 240 (31632277022795621) ∈ TB := tbm 1545 (by decide +kernel) rfl
theorem lk_RX12_242 : Cond.methodLink RX12 242 yX12_isWord ∈ TB := tbm 1546 (by decide +kernel) rfl
def tb_X12_token : Tb := [(0, (.aload_n 0, 1)), (1, (.getfield 234, 3)), (4, (.istore_n 1, 1)), (5, (.iload_n 1, 1)), (6, (.aload_n 0, 1)), (7, (.getfield 156, 3)), (10, (.if_icmp .ge 30, 3)), (13, (.aload_n 0, 1)), (14, (.iload_n 1, 1)), (15, (.invokevirtual 169, 3)), (18, (.bipush 32, 2)), (20, (.if_icmp .eq 13, 3)), (23, (.aload_n 0, 1)), (24, (.iload_n 1, 1)), (25, (.invokevirtual 169, 3)), (28, (.bipush 10, 2)), (30, (.if_icmp .ne 10, 3)), (33, (.iload_n 1, 1)), (34, (.iconst 1, 1)), (35, (.iadd, 1)), (36, (.istore_n 1, 1)), (37, (.goto (-32), 3)), (40, (.aload_n 0, 1)), (41, (.iload_n 1, 1)), (42, (.putfield 231, 3)), (45, (.aload_n 0, 1)), (46, (.iload_n 1, 1)), (47, (.invokevirtual 169, 3)), (50, (.istore_n 2, 1)), (51, (.iload_n 1, 1)), (52, (.aload_n 0, 1)), (53, (.getfield 156, 3)), (56, (.if_icmp .lt 16, 3)), (59, (.aload_n 0, 1)), (60, (.iload_n 1, 1)), (61, (.putfield 234, 3)), (64, (.aload_n 0, 1)), (65, (.iconst 0, 1)), (66, (.putfield 237, 3)), (69, (.goto 264, 3)), (72, (.iload_n 2, 1)), (73, (.invokestatic 159, 3)), (76, (.ifCond .eq 143, 3)), (79, (.aload_n 0, 1)), (80, (.iload_n 1, 1)), (81, (.invokevirtual 169, 3)), (84, (.invokestatic 159, 3)), (87, (.ifCond .ne 24, 3)), (90, (.aload_n 0, 1)), (91, (.iload_n 1, 1)), (92, (.invokevirtual 169, 3)), (95, (.invokestatic 163, 3)), (98, (.ifCond .ne 13, 3)), (101, (.aload_n 0, 1)), (102, (.iload_n 1, 1)), (103, (.invokevirtual 169, 3)), (106, (.bipush 95, 2)), (108, (.if_icmp .ne 10, 3)), (111, (.iload_n 1, 1)), (112, (.iconst 1, 1)), (113, (.iadd, 1)), (114, (.istore_n 1, 1)), (115, (.goto (-36), 3)), (118, (.aload_n 0, 1)), (119, (.iload_n 1, 1)), (120, (.putfield 234, 3)), (123, (.aload_n 0, 1)), (124, (.aload_n 0, 1)), (125, (.getfield 234, 3)), (128, (.aload_n 0, 1)), (129, (.getfield 231, 3)), (132, (.isub, 1)), (133, (.bipush 12, 2)), (135, (.if_icmp .le 8, 3)), (138, (.bipush 7, 2)), (140, (.goto 4, 3)), (143, (.iconst 1, 1)), (144, (.putfield 237, 3)), (147, (.aload_n 0, 1)), (148, (.ldc2_w 240, 3)), (151, (.bipush 7, 2)), (153, (.invokevirtual 242, 3)), (156, (.ifCond .eq 9, 3)), (159, (.aload_n 0, 1)), (160, (.bipush 8, 2)), (162, (.putfield 237, 3)), (165, (.aload_n 0, 1)), (166, (.ldc2_w 246, 3)), (169, (.iconst 4, 1)), (170, (.invokevirtual 242, 3)), (173, (.ifCond .eq 9, 3)), (176, (.aload_n 0, 1)), (177, (.bipush 9, 2)), (179, (.putfield 237, 3)), (182, (.aload_n 0, 1)), (183, (.ldc2_w 248, 3)), (186, (.iconst 5, 1)), (187, (.invokevirtual 242, 3)), (190, (.ifCond .eq 9, 3)), (193, (.aload_n 0, 1)), (194, (.bipush 10, 2)), (196, (.putfield 237, 3)), (199, (.aload_n 0, 1)), (200, (.ldc2_w 250, 3)), (203, (.iconst 5, 1)), (204, (.invokevirtual 242, 3)), (207, (.ifCond .eq 126, 3)), (210, (.aload_n 0, 1)), (211, (.bipush 11, 2)), (213, (.putfield 237, 3)), (216, (.goto 117, 3)), (219, (.iload_n 2, 1)), (220, (.bipush 124, 2)), (222, (.if_icmp .ne 51, 3)), (225, (.aload_n 0, 1)), (226, (.aload_n 0, 1)), (227, (.iload_n 1, 1)), (228, (.iconst 1, 1)), (229, (.iadd, 1)), (230, (.invokevirtual 169, 3)), (233, (.bipush 124, 2)), (235, (.if_icmp .ne 9, 3)), (238, (.iload_n 1, 1)), (239, (.iconst 2, 1)), (240, (.iadd, 1)), (241, (.goto 6, 3)), (244, (.iload_n 1, 1)), (245, (.iconst 1, 1)), (246, (.iadd, 1)), (247, (.putfield 234, 3)), (250, (.aload_n 0, 1)), (251, (.aload_n 0, 1)), (252, (.getfield 234, 3)), (255, (.iload_n 1, 1)), (256, (.isub, 1)), (257, (.iconst 2, 1)), (258, (.if_icmp .ne 7, 3)), (261, (.iconst 3, 1)), (262, (.goto 5, 3)), (265, (.bipush 7, 2)), (267, (.putfield 237, 3)), (270, (.goto 63, 3)), (273, (.iload_n 2, 1)), (274, (.bipush 123, 2)), (276, (.if_icmp .eq 15, 3)), (279, (.iload_n 2, 1)), (280, (.bipush 125, 2)), (282, (.if_icmp .eq 9, 3)), (285, (.iload_n 2, 1)), (286, (.bipush 59, 2)), (288, (.if_icmp .ne 39, 3)), (291, (.aload_n 0, 1)), (292, (.iload_n 1, 1)), (293, (.iconst 1, 1)), (294, (.iadd, 1)), (295, (.putfield 234, 3)), (298, (.aload_n 0, 1)), (299, (.iload_n 2, 1)), (300, (.bipush 123, 2)), (302, (.if_icmp .ne 7, 3)), (305, (.iconst 4, 1)), (306, (.goto 15, 3)), (309, (.iload_n 2, 1)), (310, (.bipush 125, 2)), (312, (.if_icmp .ne 7, 3)), (315, (.iconst 5, 1)), (316, (.goto 5, 3)), (319, (.bipush 6, 2)), (321, (.putfield 237, 3)), (324, (.goto 9, 3)), (327, (.aload_n 0, 1)), (328, (.iload_n 1, 1)), (329, (.iload_n 2, 1)), (330, (.invokevirtual 252, 3)), (333, (.return_, 1))]
def u_X12_token : Fx := (yX12_token, (cX12_token, (3, (none, tb_X12_token))))
theorem tk_X12_token : ∀ q ∈ u_X12_token.2.2.2.2, decode u_X12_token.2.1 q.1 = .ok q.2 := by decide +kernel
theorem mc_X12_token : MC u_X12_token 0 := ⟨tbm 1534 (by decide +kernel) rfl, tbm 128 (by decide +kernel) rfl, ⟨by decide, by decide, by decide +kernel⟩, by decide⟩
theorem in_X12_token : Cond.instanceMethod u_X12_token.1 ∈ TB ∧ Cond.selects u_X12_token.1.cls u_X12_token.1 u_X12_token.1 ∈ TB := ⟨tbm 1533 (by decide +kernel) rfl, tbm 70 (by decide +kernel) rfl⟩
def f_X12_token_j267 (t : List Sh) (m : Mi) (s0 : Int32) (s1 : Nat) : Option (Mi) :=
  (if ob t s1 12 = true then
  lt (si m s1 14 s0) fun m12 =>
  some m12
  else none)
def f_X12_token_j247 (t : List Sh) (m : Mi) (a0 : Nat) (a1 : Int32) (s0 : Int32) (s1 : Nat) : Option (Mi) :=
  (if ob t s1 12 = true then
  lt (si m s1 16 s0) fun m10 =>
  if ((gi m10 a0 16) - a1) = 2 then
    f_X12_token_j267 t m10 3 a0
  else
    f_X12_token_j267 t m10 7 a0
  else none)
def f_X12_token_j321 (t : List Sh) (m : Mi) (s0 : Int32) (s1 : Nat) : Option (Mi) :=
  (if ob t s1 12 = true then
  lt (si m s1 14 s0) fun m17 =>
  some m17
  else none)
def f_X12_token_j291 (t : List Sh) (m : Mi) (a0 : Nat) (a1 : Int32) (a2 : Int32) : Option (Mi) :=
  lt (si m a0 16 (a1 + 1)) fun m15 =>
  if a2 = 123 then
    f_X12_token_j321 t m15 4 a0
  else
    if a2 = 125 then
      f_X12_token_j321 t m15 5 a0
    else
      f_X12_token_j321 t m15 6 a0
def f_X12_token_j199 (t : List Sh) (m : Mi) (a0 : Nat) : Option (Mi) :=
  (f_X12_isWord t m a0 427020088168 5).bind fun x30 =>
  if x30 = 0 then
    some m
  else
    lt (si m a0 14 11) fun m32 =>
    some m32
def f_X12_token_j182 (t : List Sh) (m : Mi) (a0 : Nat) : Option (Mi) :=
  (f_X12_isWord t m a0 474147546227 5).bind fun x29 =>
  if x29 = 0 then
    f_X12_token_j199 t m a0
  else
    lt (si m a0 14 10) fun m34 =>
    f_X12_token_j199 t m34 a0
def f_X12_token_j165 (t : List Sh) (m : Mi) (a0 : Nat) : Option (Mi) :=
  (f_X12_isWord t m a0 2002873972 4).bind fun x28 =>
  if x28 = 0 then
    f_X12_token_j182 t m a0
  else
    lt (si m a0 14 9) fun m36 =>
    f_X12_token_j182 t m36 a0
def f_X12_token_j144 (t : List Sh) (m : Mi) (a0 : Nat) (s0 : Int32) (s1 : Nat) : Option (Mi) :=
  (if ob t s1 12 = true then
  lt (si m s1 14 s0) fun m26 =>
  (f_X12_isWord t m26 a0 31632277022795621 7).bind fun x27 =>
  if x27 = 0 then
    f_X12_token_j165 t m26 a0
  else
    lt (si m26 a0 14 8) fun m38 =>
    f_X12_token_j165 t m38 a0
  else none)
def f_X12_token_j118 (t : List Sh) (m : Mi) (a0 : Nat) (a1 : Int32) : Option (Mi) :=
  lt (si m a0 16 a1) fun m24 =>
  if ((gi m24 a0 16) - (gi m24 a0 15)) ≤ 12 then
    f_X12_token_j144 t m24 a0 1 a0
  else
    f_X12_token_j144 t m24 a0 7 a0
def f_X12_token_l79 (t : List Sh) (m : Mi) (a0 : Nat) (a1 : Int32) : Option ((Int32) ⊕ ((Int32))) :=
  (f_X12_at t m a0 a1).bind fun x40 =>
  (f_X12_isSmall x40).bind fun x41 =>
  if x41 = 0 then
    (f_X12_at t m a0 a1).bind fun x43 =>
    (f_X12_isDigit x43).bind fun x44 =>
    if x44 = 0 then
      (f_X12_at t m a0 a1).bind fun x46 =>
      if x46 = 95 then
        lt (a1 + 1) fun x48 =>
        some (.inl x48)
      else
        some (.inr a1)
    else
      lt (a1 + 1) fun x49 =>
      some (.inl x49)
  else
    lt (a1 + 1) fun x50 =>
    some (.inl x50)
def f_X12_token_j79 (t : List Sh) (m : Mi) (a0 : Nat) (a1 : Int32) : Option (Mi) :=
  (lp (fun x : Int32 => f_X12_token_l79 t m a0 x) FUEL a1).bind (fun y : Int32 => f_X12_token_j118 t m a0 y)
def f_X12_token_j40 (t : List Sh) (m : Mi) (a0 : Nat) (a1 : Int32) : Option (Mi) :=
  lt (si m a0 15 a1) fun m2 =>
  (f_X12_at t m2 a0 a1).bind fun x3 =>
  if a1 < (gi m2 a0 3) then
    (f_X12_isSmall x3).bind fun x5 =>
    if x5 = 0 then
      if x3 = 124 then
        (f_X12_at t m2 a0 (a1 + 1)).bind fun x8 =>
        if x8 = 124 then
          f_X12_token_j247 t m2 a0 a1 (a1 + 2) a0
        else
          f_X12_token_j247 t m2 a0 a1 (a1 + 1) a0
      else
        if x3 = 123 then
          f_X12_token_j291 t m2 a0 a1 x3
        else
          if x3 = 125 then
            f_X12_token_j291 t m2 a0 a1 x3
          else
            if x3 = 59 then
              f_X12_token_j291 t m2 a0 a1 x3
            else
              (f_X12_part t m2 a0 a1 x3).bind fun m23 =>
              some m23
    else
      f_X12_token_j79 t m2 a0 a1
  else
    lt (si m2 a0 16 a1) fun m51 =>
    lt (si m51 a0 14 0) fun m52 =>
    some m52
def f_X12_token_l5 (t : List Sh) (m : Mi) (a0 : Nat) (a1 : Int32) : Option ((Int32) ⊕ ((Int32))) :=
  if (gi m a0 3) ≤ a1 then
    some (.inr a1)
  else
    (f_X12_at t m a0 a1).bind fun x54 =>
    if x54 = 32 then
      lt (a1 + 1) fun x56 =>
      some (.inl x56)
    else
      (f_X12_at t m a0 a1).bind fun x57 =>
      if x57 = 10 then
        lt (a1 + 1) fun x59 =>
        some (.inl x59)
      else
        some (.inr a1)
def f_X12_token_j5 (t : List Sh) (m : Mi) (a0 : Nat) (a1 : Int32) : Option (Mi) :=
  (lp (fun x : Int32 => f_X12_token_l5 t m a0 x) FUEL a1).bind (fun y : Int32 => f_X12_token_j40 t m a0 y)
def f_X12_token (t : List Sh) (m : Mi) (a0 : Nat) : Option (Mi) :=
  lt (gi m a0 16) fun x1 =>
  f_X12_token_j5 t m a0 x1
set_option maxRecDepth 4000 in
set_option maxHeartbeats 4000000 in
theorem sm_X12_token (t : List Sh) (m : Mi) (a0 : Nat) (h0 : sh t a0 = some (.inl 12)) : Sm u_X12_token (7, 0, 0, t.length, zs t) (kV t) 0 [(0, .inr (.inr a0))] [] (t, m) (f_X12_token t m a0) := by
  unfold f_X12_token
  refine r_aload_n 0 1 0 rfl rfl rfl rfl ?_
  refine r_getI 1 4 rfl rfl fl_RX12_234 rfl h0 ?_
  refine r_ltI (fun x1 => ?_)
  refine r_istore_n 2 5 (L' := [(1, .inl x1), (0, .inr (.inr a0))]) rfl rfl rfl (by decide) rfl ?_
  have hj5 : ∀ (m : Mi) (a1 : Int32), Sm u_X12_token (7, 0, 0, t.length, zs t) (kV t) 5 [(0, .inr (.inr a0)), (1, .inl a1)] [] (t, m) (f_X12_token_j5 t m a0 a1) := by
    intro m a1
    unfold f_X12_token_j5
    have hj40 : ∀ (m : Mi) (a1 : Int32), Sm u_X12_token (7, 0, 0, t.length, zs t) (kV t) 40 [(0, .inr (.inr a0)), (1, .inl a1)] [] (t, m) (f_X12_token_j40 t m a0 a1) := by
      intro m a1
      unfold f_X12_token_j40
      refine r_aload_n 22 41 0 rfl rfl rfl rfl ?_
      refine r_iload_n 23 42 1 rfl rfl rfl rfl ?_
      refine r_putI 24 45 rfl rfl fl_RX12_231 (fun h => by cases h) (Or.inl rfl) h0 ?_
      refine r_ltM (fun m2 => ?_)
      refine r_aload_n 25 46 0 rfl rfl rfl rfl ?_
      refine r_iload_n 26 47 1 rfl rfl rfl rfl ?_
      refine r_VIo 27 50 (st := []) (av := [.inr (.inr a0), .inl a1]) (av' := [.inl a1]) (μ' := u_X12_at) (d := 1) rfl rfl mc_X12_at in_X12_at lk_RX12_169 (Nat.le_of_ble_eq_true rfl) rfl rfl h0 rfl (Nat.le_of_ble_eq_true rfl) (fun _ h => ct_X12_at h0 h) (fun x3 => ?_)
      refine r_istore_n 28 51 (L' := [(2, .inl x3), (0, .inr (.inr a0)), (1, .inl a1)]) rfl rfl rfl (by decide) rfl ?_
      refine r_iload_n 29 52 2 rfl rfl rfl rfl ?_
      refine r_aload_n 30 53 1 rfl rfl rfl rfl ?_
      refine r_getI 31 56 rfl rfl fl_RX12_156 rfl h0 ?_
      refine r_icmp_lt 32 72 59 rfl rfl rfl (fun h4 => ?_) (fun h4 => ?_)
      · refine r_iload_n 40 73 0 rfl rfl rfl rfl ?_
        refine r_SIo 41 76 (a := 0) (cn := 0) (st := []) (av := [.inl x3]) (μ' := u_X12_isSmall) (d := 1) rfl rfl mc_X12_isSmall st_X12_isSmall lk_RX12_159 (Nat.le_of_ble_eq_true rfl) rfl (Nat.le_of_ble_eq_true rfl) (fun _ h => ct_X12_isSmall h) (fun x5 => ?_)
        refine r_if_eq 42 219 79 rfl rfl rfl (fun h6 => ?_) (fun h6 => ?_)
        · refine r_iload_n 111 220 0 rfl rfl rfl rfl ?_
          refine r_bipush 112 222 (v := 124) rfl rfl (by decide) ?_
          refine r_icmp_ne 113 273 225 rfl rfl rfl (fun h7 => ?_) (fun h7 => ?_)
          · refine r_aload_n 114 226 1 rfl rfl rfl rfl ?_
            refine r_aload_n 115 227 1 rfl rfl rfl rfl ?_
            refine r_iload_n 116 228 2 rfl rfl rfl rfl ?_
            refine r_iconst 117 229 (v := 1) rfl rfl (by decide) ?_
            refine r_iadd 118 230 rfl rfl ?_
            refine r_VIo 119 233 (st := [.inr (.inr a0)]) (av := [.inr (.inr a0), .inl (a1 + 1)]) (av' := [.inl (a1 + 1)]) (μ' := u_X12_at) (d := 1) rfl rfl mc_X12_at in_X12_at lk_RX12_169 (Nat.le_of_ble_eq_true rfl) rfl rfl h0 rfl (Nat.le_of_ble_eq_true rfl) (fun _ h => ct_X12_at h0 h) (fun x8 => ?_)
            refine r_bipush 120 235 (v := 124) rfl rfl (by decide) ?_
            have hj247 : ∀ (m : Mi) (a1 : Int32) (s0 : Int32) (s1 : Nat), Sm u_X12_token (7, 0, 0, t.length, zs t) (kV t) 247 [(0, .inr (.inr a0)), (1, .inl a1)] [.inl s0, .inr (.inr s1)] (t, m) (f_X12_token_j247 t m a0 a1 s0 s1) := by
              intro m a1 s0 s1
              unfold f_X12_token_j247
              refine r_gd (fun h9 => ?_)
              refine r_putI 129 250 rfl rfl fl_RX12_234 (fun h => by cases h) (Or.inl rfl) (ob_sh h9) ?_
              refine r_ltM (fun m10 => ?_)
              refine r_aload_n 130 251 0 rfl rfl rfl rfl ?_
              refine r_aload_n 131 252 0 rfl rfl rfl rfl ?_
              refine r_getI 132 255 rfl rfl fl_RX12_234 rfl h0 ?_
              refine r_iload_n 133 256 1 rfl rfl rfl rfl ?_
              refine r_isub 134 257 rfl rfl ?_
              refine r_iconst 135 258 (v := 2) rfl rfl (by decide) ?_
              have hj267 : ∀ (m : Mi) (s0 : Int32) (s1 : Nat), Sm u_X12_token (7, 0, 0, t.length, zs t) (kV t) 267 [] [.inl s0, .inr (.inr s1)] (t, m) (f_X12_token_j267 t m s0 s1) := by
                intro m s0 s1
                unfold f_X12_token_j267
                refine r_gd (fun h11 => ?_)
                refine r_putI 140 270 rfl rfl fl_RX12_237 (fun h => by cases h) (Or.inl rfl) (ob_sh h11) ?_
                refine r_ltM (fun m12 => ?_)
                refine r_goto 141 333 rfl rfl ?_
                exact r_vret 174 rfl rfl rfl
              refine r_icmp_ne 136 265 261 rfl rfl rfl (fun h13 => ?_) (fun h13 => ?_)
              · refine r_iconst 137 262 (v := 3) rfl rfl (by decide) ?_
                refine r_goto 138 267 rfl rfl ?_
                exact r_sub [] rfl (hj267 m10 3 a0)
              · refine r_bipush 139 267 (v := 7) rfl rfl (by decide) ?_
                exact r_sub [] rfl (hj267 m10 7 a0)
            refine r_icmp_ne 121 244 238 rfl rfl rfl (fun h14 => ?_) (fun h14 => ?_)
            · refine r_iload_n 122 239 2 rfl rfl rfl rfl ?_
              refine r_iconst 123 240 (v := 2) rfl rfl (by decide) ?_
              refine r_iadd 124 241 rfl rfl ?_
              refine r_goto 125 247 rfl rfl ?_
              exact r_sub [1, 2] rfl (hj247 m2 a1 (a1 + 2) a0)
            · refine r_iload_n 126 245 2 rfl rfl rfl rfl ?_
              refine r_iconst 127 246 (v := 1) rfl rfl (by decide) ?_
              refine r_iadd 128 247 rfl rfl ?_
              exact r_sub [1, 2] rfl (hj247 m2 a1 (a1 + 1) a0)
          · refine r_iload_n 142 274 0 rfl rfl rfl rfl ?_
            refine r_bipush 143 276 (v := 123) rfl rfl (by decide) ?_
            have hj291 : ∀ (m : Mi) (a1 : Int32) (a2 : Int32), Sm u_X12_token (7, 0, 0, t.length, zs t) (kV t) 291 [(0, .inr (.inr a0)), (1, .inl a1), (2, .inl a2)] [] (t, m) (f_X12_token_j291 t m a0 a1 a2) := by
              intro m a1 a2
              unfold f_X12_token_j291
              refine r_aload_n 151 292 0 rfl rfl rfl rfl ?_
              refine r_iload_n 152 293 1 rfl rfl rfl rfl ?_
              refine r_iconst 153 294 (v := 1) rfl rfl (by decide) ?_
              refine r_iadd 154 295 rfl rfl ?_
              refine r_putI 155 298 rfl rfl fl_RX12_234 (fun h => by cases h) (Or.inl rfl) h0 ?_
              refine r_ltM (fun m15 => ?_)
              refine r_aload_n 156 299 0 rfl rfl rfl rfl ?_
              refine r_iload_n 157 300 2 rfl rfl rfl rfl ?_
              refine r_bipush 158 302 (v := 123) rfl rfl (by decide) ?_
              have hj321 : ∀ (m : Mi) (s0 : Int32) (s1 : Nat), Sm u_X12_token (7, 0, 0, t.length, zs t) (kV t) 321 [] [.inl s0, .inr (.inr s1)] (t, m) (f_X12_token_j321 t m s0 s1) := by
                intro m s0 s1
                unfold f_X12_token_j321
                refine r_gd (fun h16 => ?_)
                refine r_putI 168 324 rfl rfl fl_RX12_237 (fun h => by cases h) (Or.inl rfl) (ob_sh h16) ?_
                refine r_ltM (fun m17 => ?_)
                refine r_goto 169 333 rfl rfl ?_
                exact r_vret 174 rfl rfl rfl
              refine r_icmp_ne 159 309 305 rfl rfl rfl (fun h18 => ?_) (fun h18 => ?_)
              · refine r_iconst 160 306 (v := 4) rfl rfl (by decide) ?_
                refine r_goto 161 321 rfl rfl ?_
                exact r_sub [] rfl (hj321 m15 4 a0)
              · refine r_iload_n 162 310 2 rfl rfl rfl rfl ?_
                refine r_bipush 163 312 (v := 125) rfl rfl (by decide) ?_
                refine r_icmp_ne 164 319 315 rfl rfl rfl (fun h19 => ?_) (fun h19 => ?_)
                · refine r_iconst 165 316 (v := 5) rfl rfl (by decide) ?_
                  refine r_goto 166 321 rfl rfl ?_
                  exact r_sub [] rfl (hj321 m15 5 a0)
                · refine r_bipush 167 321 (v := 6) rfl rfl (by decide) ?_
                  exact r_sub [] rfl (hj321 m15 6 a0)
            refine r_icmp_eq 144 291 279 rfl rfl rfl (fun h20 => ?_) (fun h20 => ?_)
            · exact r_sub [1, 2, 0] rfl (hj291 m2 a1 x3)
            · refine r_iload_n 145 280 0 rfl rfl rfl rfl ?_
              refine r_bipush 146 282 (v := 125) rfl rfl (by decide) ?_
              refine r_icmp_eq 147 291 285 rfl rfl rfl (fun h21 => ?_) (fun h21 => ?_)
              · exact r_sub [1, 2, 0] rfl (hj291 m2 a1 x3)
              · refine r_iload_n 148 286 0 rfl rfl rfl rfl ?_
                refine r_bipush 149 288 (v := 59) rfl rfl (by decide) ?_
                refine r_icmp_ne 150 327 291 rfl rfl rfl (fun h22 => ?_) (fun h22 => ?_)
                · exact r_sub [1, 2, 0] rfl (hj291 m2 a1 x3)
                · refine r_aload_n 170 328 1 rfl rfl rfl rfl ?_
                  refine r_iload_n 171 329 2 rfl rfl rfl rfl ?_
                  refine r_iload_n 172 330 0 rfl rfl rfl rfl ?_
                  refine r_VV 173 333 (st := []) (av := [.inr (.inr a0), .inl a1, .inl x3]) (av' := [.inl a1, .inl x3]) (μ' := u_X12_part) (d := 6) rfl rfl mc_X12_part in_X12_part lk_RX12_252 (Nat.le_of_ble_eq_true rfl) rfl rfl h0 rfl (Nat.le_of_ble_eq_true rfl) (fun _ h => ct_X12_part h0 h) (fun m23 => ?_)
                  exact r_vret 174 rfl rfl rfl
        · have hj79 : ∀ (m : Mi) (a1 : Int32), Sm u_X12_token (7, 0, 0, t.length, zs t) (kV t) 79 [(0, .inr (.inr a0)), (1, .inl a1)] [] (t, m) (f_X12_token_j79 t m a0 a1) := by
            intro m a1
            unfold f_X12_token_j79
            have hj118 : ∀ (m : Mi) (a1 : Int32), Sm u_X12_token (7, 0, 0, t.length, zs t) (kV t) 118 [(0, .inr (.inr a0)), (1, .inl a1)] [] (t, m) (f_X12_token_j118 t m a0 a1) := by
              intro m a1
              unfold f_X12_token_j118
              refine r_aload_n 63 119 0 rfl rfl rfl rfl ?_
              refine r_iload_n 64 120 1 rfl rfl rfl rfl ?_
              refine r_putI 65 123 rfl rfl fl_RX12_234 (fun h => by cases h) (Or.inl rfl) h0 ?_
              refine r_ltM (fun m24 => ?_)
              refine r_aload_n 66 124 0 rfl rfl rfl rfl ?_
              refine r_aload_n 67 125 0 rfl rfl rfl rfl ?_
              refine r_getI 68 128 rfl rfl fl_RX12_234 rfl h0 ?_
              refine r_aload_n 69 129 0 rfl rfl rfl rfl ?_
              refine r_getI 70 132 rfl rfl fl_RX12_231 rfl h0 ?_
              refine r_isub 71 133 rfl rfl ?_
              refine r_bipush 72 135 (v := 12) rfl rfl (by decide) ?_
              have hj144 : ∀ (m : Mi) (s0 : Int32) (s1 : Nat), Sm u_X12_token (7, 0, 0, t.length, zs t) (kV t) 144 [(0, .inr (.inr a0))] [.inl s0, .inr (.inr s1)] (t, m) (f_X12_token_j144 t m a0 s0 s1) := by
                intro m s0 s1
                unfold f_X12_token_j144
                refine r_gd (fun h25 => ?_)
                refine r_putI 77 147 rfl rfl fl_RX12_237 (fun h => by cases h) (Or.inl rfl) (ob_sh h25) ?_
                refine r_ltM (fun m26 => ?_)
                refine r_aload_n 78 148 0 rfl rfl rfl rfl ?_
                refine r_ldc2 79 151 rfl rfl kc_RX12_240 ?_
                refine r_bipush 80 153 (v := 7) rfl rfl (by decide) ?_
                refine r_VIo 81 156 (st := []) (av := [.inr (.inr a0), .inr (.inl 31632277022795621), .inl 7]) (av' := [.inr (.inl 31632277022795621), .inl 7]) (μ' := u_X12_isWord) (d := 2) rfl rfl mc_X12_isWord in_X12_isWord lk_RX12_242 (Nat.le_of_ble_eq_true rfl) rfl rfl h0 rfl (Nat.le_of_ble_eq_true rfl) (fun _ h => ct_X12_isWord h0 h) (fun x27 => ?_)
                have hj165 : ∀ (m : Mi), Sm u_X12_token (7, 0, 0, t.length, zs t) (kV t) 165 [(0, .inr (.inr a0))] [] (t, m) (f_X12_token_j165 t m a0) := by
                  intro m
                  unfold f_X12_token_j165
                  refine r_aload_n 86 166 0 rfl rfl rfl rfl ?_
                  refine r_ldc2 87 169 rfl rfl kc_RX12_246 ?_
                  refine r_iconst 88 170 (v := 4) rfl rfl (by decide) ?_
                  refine r_VIo 89 173 (st := []) (av := [.inr (.inr a0), .inr (.inl 2002873972), .inl 4]) (av' := [.inr (.inl 2002873972), .inl 4]) (μ' := u_X12_isWord) (d := 2) rfl rfl mc_X12_isWord in_X12_isWord lk_RX12_242 (Nat.le_of_ble_eq_true rfl) rfl rfl h0 rfl (Nat.le_of_ble_eq_true rfl) (fun _ h => ct_X12_isWord h0 h) (fun x28 => ?_)
                  have hj182 : ∀ (m : Mi), Sm u_X12_token (7, 0, 0, t.length, zs t) (kV t) 182 [(0, .inr (.inr a0))] [] (t, m) (f_X12_token_j182 t m a0) := by
                    intro m
                    unfold f_X12_token_j182
                    refine r_aload_n 94 183 0 rfl rfl rfl rfl ?_
                    refine r_ldc2 95 186 rfl rfl kc_RX12_248 ?_
                    refine r_iconst 96 187 (v := 5) rfl rfl (by decide) ?_
                    refine r_VIo 97 190 (st := []) (av := [.inr (.inr a0), .inr (.inl 474147546227), .inl 5]) (av' := [.inr (.inl 474147546227), .inl 5]) (μ' := u_X12_isWord) (d := 2) rfl rfl mc_X12_isWord in_X12_isWord lk_RX12_242 (Nat.le_of_ble_eq_true rfl) rfl rfl h0 rfl (Nat.le_of_ble_eq_true rfl) (fun _ h => ct_X12_isWord h0 h) (fun x29 => ?_)
                    have hj199 : ∀ (m : Mi), Sm u_X12_token (7, 0, 0, t.length, zs t) (kV t) 199 [(0, .inr (.inr a0))] [] (t, m) (f_X12_token_j199 t m a0) := by
                      intro m
                      unfold f_X12_token_j199
                      refine r_aload_n 102 200 0 rfl rfl rfl rfl ?_
                      refine r_ldc2 103 203 rfl rfl kc_RX12_250 ?_
                      refine r_iconst 104 204 (v := 5) rfl rfl (by decide) ?_
                      refine r_VIo 105 207 (st := []) (av := [.inr (.inr a0), .inr (.inl 427020088168), .inl 5]) (av' := [.inr (.inl 427020088168), .inl 5]) (μ' := u_X12_isWord) (d := 2) rfl rfl mc_X12_isWord in_X12_isWord lk_RX12_242 (Nat.le_of_ble_eq_true rfl) rfl rfl h0 rfl (Nat.le_of_ble_eq_true rfl) (fun _ h => ct_X12_isWord h0 h) (fun x30 => ?_)
                      refine r_if_eq 106 333 210 rfl rfl rfl (fun h31 => ?_) (fun h31 => ?_)
                      · exact r_vret 174 rfl rfl rfl
                      · refine r_aload_n 107 211 0 rfl rfl rfl rfl ?_
                        refine r_bipush 108 213 (v := 11) rfl rfl (by decide) ?_
                        refine r_putI 109 216 rfl rfl fl_RX12_237 (fun h => by cases h) (Or.inl rfl) h0 ?_
                        refine r_ltM (fun m32 => ?_)
                        refine r_goto 110 333 rfl rfl ?_
                        exact r_vret 174 rfl rfl rfl
                    refine r_if_eq 98 199 193 rfl rfl rfl (fun h33 => ?_) (fun h33 => ?_)
                    · exact hj199 m
                    · refine r_aload_n 99 194 0 rfl rfl rfl rfl ?_
                      refine r_bipush 100 196 (v := 10) rfl rfl (by decide) ?_
                      refine r_putI 101 199 rfl rfl fl_RX12_237 (fun h => by cases h) (Or.inl rfl) h0 ?_
                      refine r_ltM (fun m34 => ?_)
                      exact hj199 m34
                  refine r_if_eq 90 182 176 rfl rfl rfl (fun h35 => ?_) (fun h35 => ?_)
                  · exact hj182 m
                  · refine r_aload_n 91 177 0 rfl rfl rfl rfl ?_
                    refine r_bipush 92 179 (v := 9) rfl rfl (by decide) ?_
                    refine r_putI 93 182 rfl rfl fl_RX12_237 (fun h => by cases h) (Or.inl rfl) h0 ?_
                    refine r_ltM (fun m36 => ?_)
                    exact hj182 m36
                refine r_if_eq 82 165 159 rfl rfl rfl (fun h37 => ?_) (fun h37 => ?_)
                · exact hj165 m26
                · refine r_aload_n 83 160 0 rfl rfl rfl rfl ?_
                  refine r_bipush 84 162 (v := 8) rfl rfl (by decide) ?_
                  refine r_putI 85 165 rfl rfl fl_RX12_237 (fun h => by cases h) (Or.inl rfl) h0 ?_
                  refine r_ltM (fun m38 => ?_)
                  exact hj165 m38
              refine r_icmp_le 73 143 138 rfl rfl rfl (fun h39 => ?_) (fun h39 => ?_)
              · refine r_iconst 76 144 (v := 1) rfl rfl (by decide) ?_
                exact r_sub [0] rfl (hj144 m24 1 a0)
              · refine r_bipush 74 140 (v := 7) rfl rfl (by decide) ?_
                refine r_goto 75 144 rfl rfl ?_
                exact r_sub [0] rfl (hj144 m24 7 a0)
            refine r_lp (Lf := fun x : Int32 => [(0, .inr (.inr a0)), (1, .inl x)]) (Mf := fun x : Int32 => (t, m)) a1 ?_ FUEL
            rintro a1 κ79 hc79 he79
            refine r_eq (L' := [(0, .inr (.inr a0)), (1, .inl a1)]) (M' := (t, m)) rfl rfl ?_
            refine r_eqr (r' := f_X12_token_l79 t m a0 a1) rfl ?_
            unfold f_X12_token_l79
            refine r_aload_n 43 80 0 rfl rfl rfl rfl ?_
            refine r_iload_n 44 81 1 rfl rfl rfl rfl ?_
            refine r_VIo 45 84 (st := []) (av := [.inr (.inr a0), .inl a1]) (av' := [.inl a1]) (μ' := u_X12_at) (d := 1) rfl rfl mc_X12_at in_X12_at lk_RX12_169 (Nat.le_of_ble_eq_true rfl) rfl rfl h0 rfl (Nat.le_of_ble_eq_true rfl) (fun _ h => ct_X12_at h0 h) (fun x40 => ?_)
            refine r_SIo 46 87 (a := 0) (cn := 0) (st := []) (av := [.inl x40]) (μ' := u_X12_isSmall) (d := 1) rfl rfl mc_X12_isSmall st_X12_isSmall lk_RX12_159 (Nat.le_of_ble_eq_true rfl) rfl (Nat.le_of_ble_eq_true rfl) (fun _ h => ct_X12_isSmall h) (fun x41 => ?_)
            refine r_if_ne 47 111 90 rfl rfl rfl (fun h42 => ?_) (fun h42 => ?_)
            · refine r_aload_n 48 91 0 rfl rfl rfl rfl ?_
              refine r_iload_n 49 92 1 rfl rfl rfl rfl ?_
              refine r_VIo 50 95 (st := []) (av := [.inr (.inr a0), .inl a1]) (av' := [.inl a1]) (μ' := u_X12_at) (d := 1) rfl rfl mc_X12_at in_X12_at lk_RX12_169 (Nat.le_of_ble_eq_true rfl) rfl rfl h0 rfl (Nat.le_of_ble_eq_true rfl) (fun _ h => ct_X12_at h0 h) (fun x43 => ?_)
              refine r_SIo 51 98 (a := 0) (cn := 0) (st := []) (av := [.inl x43]) (μ' := u_X12_isDigit) (d := 1) rfl rfl mc_X12_isDigit st_X12_isDigit lk_RX12_163 (Nat.le_of_ble_eq_true rfl) rfl (Nat.le_of_ble_eq_true rfl) (fun _ h => ct_X12_isDigit h) (fun x44 => ?_)
              refine r_if_ne 52 111 101 rfl rfl rfl (fun h45 => ?_) (fun h45 => ?_)
              · refine r_aload_n 53 102 0 rfl rfl rfl rfl ?_
                refine r_iload_n 54 103 1 rfl rfl rfl rfl ?_
                refine r_VIo 55 106 (st := []) (av := [.inr (.inr a0), .inl a1]) (av' := [.inl a1]) (μ' := u_X12_at) (d := 1) rfl rfl mc_X12_at in_X12_at lk_RX12_169 (Nat.le_of_ble_eq_true rfl) rfl rfl h0 rfl (Nat.le_of_ble_eq_true rfl) (fun _ h => ct_X12_at h0 h) (fun x46 => ?_)
                refine r_bipush 56 108 (v := 95) rfl rfl (by decide) ?_
                refine r_icmp_ne 57 118 111 rfl rfl rfl (fun h47 => ?_) (fun h47 => ?_)
                · refine r_iload_n 58 112 1 rfl rfl rfl rfl ?_
                  refine r_iconst 59 113 (v := 1) rfl rfl (by decide) ?_
                  refine r_iadd 60 114 rfl rfl ?_
                  refine r_ltI (fun x48 => ?_)
                  refine r_istore_n 61 115 (L' := [(1, .inl x48), (0, .inr (.inr a0))]) rfl rfl rfl (by decide) rfl ?_
                  refine r_goto 62 79 rfl rfl ?_
                  exact r_sub [1, 0] rfl (hc79 x48)
                · refine r_leaf (r2 := (f_X12_token_j118 t m a0 a1 : Option (Mi))) (he79 _) ?_
                  exact hj118 m a1
              · refine r_iload_n 58 112 1 rfl rfl rfl rfl ?_
                refine r_iconst 59 113 (v := 1) rfl rfl (by decide) ?_
                refine r_iadd 60 114 rfl rfl ?_
                refine r_ltI (fun x49 => ?_)
                refine r_istore_n 61 115 (L' := [(1, .inl x49), (0, .inr (.inr a0))]) rfl rfl rfl (by decide) rfl ?_
                refine r_goto 62 79 rfl rfl ?_
                exact r_sub [1, 0] rfl (hc79 x49)
            · refine r_iload_n 58 112 1 rfl rfl rfl rfl ?_
              refine r_iconst 59 113 (v := 1) rfl rfl (by decide) ?_
              refine r_iadd 60 114 rfl rfl ?_
              refine r_ltI (fun x50 => ?_)
              refine r_istore_n 61 115 (L' := [(1, .inl x50), (0, .inr (.inr a0))]) rfl rfl rfl (by decide) rfl ?_
              refine r_goto 62 79 rfl rfl ?_
              exact r_sub [1, 0] rfl (hc79 x50)
          exact r_sub [1, 2] rfl (hj79 m2 a1)
      · refine r_aload_n 33 60 1 rfl rfl rfl rfl ?_
        refine r_iload_n 34 61 2 rfl rfl rfl rfl ?_
        refine r_putI 35 64 rfl rfl fl_RX12_234 (fun h => by cases h) (Or.inl rfl) h0 ?_
        refine r_ltM (fun m51 => ?_)
        refine r_aload_n 36 65 1 rfl rfl rfl rfl ?_
        refine r_iconst 37 66 (v := 0) rfl rfl (by decide) ?_
        refine r_putI 38 69 rfl rfl fl_RX12_237 (fun h => by cases h) (Or.inl rfl) h0 ?_
        refine r_ltM (fun m52 => ?_)
        refine r_goto 39 333 rfl rfl ?_
        exact r_vret 174 rfl rfl rfl
    refine r_lp (Lf := fun x : Int32 => [(0, .inr (.inr a0)), (1, .inl x)]) (Mf := fun x : Int32 => (t, m)) a1 ?_ FUEL
    rintro a1 κ5 hc5 he5
    refine r_eq (L' := [(0, .inr (.inr a0)), (1, .inl a1)]) (M' := (t, m)) rfl rfl ?_
    refine r_eqr (r' := f_X12_token_l5 t m a0 a1) rfl ?_
    unfold f_X12_token_l5
    refine r_iload_n 3 6 1 rfl rfl rfl rfl ?_
    refine r_aload_n 4 7 0 rfl rfl rfl rfl ?_
    refine r_getI 5 10 rfl rfl fl_RX12_156 rfl h0 ?_
    refine r_icmp_ge 6 40 13 rfl rfl rfl (fun h53 => ?_) (fun h53 => ?_)
    · refine r_leaf (r2 := (f_X12_token_j40 t m a0 a1 : Option (Mi))) (he5 _) ?_
      exact hj40 m a1
    · refine r_aload_n 7 14 0 rfl rfl rfl rfl ?_
      refine r_iload_n 8 15 1 rfl rfl rfl rfl ?_
      refine r_VIo 9 18 (st := []) (av := [.inr (.inr a0), .inl a1]) (av' := [.inl a1]) (μ' := u_X12_at) (d := 1) rfl rfl mc_X12_at in_X12_at lk_RX12_169 (Nat.le_of_ble_eq_true rfl) rfl rfl h0 rfl (Nat.le_of_ble_eq_true rfl) (fun _ h => ct_X12_at h0 h) (fun x54 => ?_)
      refine r_bipush 10 20 (v := 32) rfl rfl (by decide) ?_
      refine r_icmp_eq 11 33 23 rfl rfl rfl (fun h55 => ?_) (fun h55 => ?_)
      · refine r_iload_n 17 34 1 rfl rfl rfl rfl ?_
        refine r_iconst 18 35 (v := 1) rfl rfl (by decide) ?_
        refine r_iadd 19 36 rfl rfl ?_
        refine r_ltI (fun x56 => ?_)
        refine r_istore_n 20 37 (L' := [(1, .inl x56), (0, .inr (.inr a0))]) rfl rfl rfl (by decide) rfl ?_
        refine r_goto 21 5 rfl rfl ?_
        exact r_sub [1, 0] rfl (hc5 x56)
      · refine r_aload_n 12 24 0 rfl rfl rfl rfl ?_
        refine r_iload_n 13 25 1 rfl rfl rfl rfl ?_
        refine r_VIo 14 28 (st := []) (av := [.inr (.inr a0), .inl a1]) (av' := [.inl a1]) (μ' := u_X12_at) (d := 1) rfl rfl mc_X12_at in_X12_at lk_RX12_169 (Nat.le_of_ble_eq_true rfl) rfl rfl h0 rfl (Nat.le_of_ble_eq_true rfl) (fun _ h => ct_X12_at h0 h) (fun x57 => ?_)
        refine r_bipush 15 30 (v := 10) rfl rfl (by decide) ?_
        refine r_icmp_ne 16 40 33 rfl rfl rfl (fun h58 => ?_) (fun h58 => ?_)
        · refine r_iload_n 17 34 1 rfl rfl rfl rfl ?_
          refine r_iconst 18 35 (v := 1) rfl rfl (by decide) ?_
          refine r_iadd 19 36 rfl rfl ?_
          refine r_ltI (fun x59 => ?_)
          refine r_istore_n 20 37 (L' := [(1, .inl x59), (0, .inr (.inr a0))]) rfl rfl rfl (by decide) rfl ?_
          refine r_goto 21 5 rfl rfl ?_
          exact r_sub [1, 0] rfl (hc5 x59)
        · refine r_leaf (r2 := (f_X12_token_j40 t m a0 a1 : Option (Mi))) (he5 _) ?_
          exact hj40 m a1
  exact r_sub [1, 0] rfl (hj5 m x1)
theorem ct_X12_token {t : List Sh} {m : Mi} {a0 : Nat} {m' : Mi}  (h0 : sh t a0 = some (.inl 12)) (h : f_X12_token t m a0 = some m') : Ct u_X12_token 7 0 0 [.inr (.inr a0)] (t, m) (none, (t, m')) :=
  ct_of (by decide) tk_X12_token (Nat.le_of_ble_eq_true rfl) (sm_X12_token t m a0 h0) (by rw [h]; rfl) (Nat.le_refl _) (Nat.le_refl _)
theorem lk_RX12_280 : Cond.methodLink RX12 280 yX12_fault ∈ TB := tbm 1585 (by decide +kernel) rfl
theorem lk_RX12_290 : Cond.methodLink RX12 290 yX12_token ∈ TB := tbm 1531 (by decide +kernel) rfl
theorem lk_RX12_283 : Cond.methodLink RX12 283 yX12_partRange ∈ TB := tbm 1589 (by decide +kernel) rfl
def tb_X12_range : Tb := [(0, (.aload_n 0, 1)), (1, (.getfield 20, 3)), (4, (.iload_n 1, 1)), (5, (.iconst 0, 1)), (6, (.iastore, 1)), (7, (.iconst 0, 1)), (8, (.istore_n 2, 1)), (9, (.iconst 1, 1)), (10, (.istore_n 3, 1)), (11, (.iload_n 3, 1)), (12, (.ifCond .eq 135, 3)), (15, (.aload_n 0, 1)), (16, (.getfield 237, 3)), (19, (.iconst 2, 1)), (20, (.if_icmp .eq 9, 3)), (23, (.aload_n 0, 1)), (24, (.iconst 1, 1)), (25, (.invokevirtual 280, 3)), (28, (.ireturn, 1)), (29, (.iload_n 2, 1)), (30, (.bipush 16, 2)), (32, (.if_icmp .ne 9, 3)), (35, (.aload_n 0, 1)), (36, (.iconst 2, 1)), (37, (.invokevirtual 280, 3)), (40, (.ireturn, 1)), (41, (.iload_n 2, 1)), (42, (.iconst 1, 1)), (43, (.iadd, 1)), (44, (.istore_n 2, 1)), (45, (.aload_n 0, 1)), (46, (.sipush 266, 3)), (49, (.invokevirtual 145, 3)), (52, (.iconst 0, 1)), (53, (.istore 4, 2)), (55, (.aload_n 0, 1)), (56, (.getfield 237, 3)), (59, (.iconst 2, 1)), (60, (.if_icmp .ne 51, 3)), (63, (.iload 4, 2)), (65, (.bipush 6, 2)), (67, (.if_icmp .ne 9, 3)), (70, (.aload_n 0, 1)), (71, (.iconst 2, 1)), (72, (.invokevirtual 280, 3)), (75, (.ireturn, 1)), (76, (.iload 4, 2)), (78, (.iconst 1, 1)), (79, (.iadd, 1)), (80, (.istore 4, 2)), (82, (.aload_n 0, 1)), (83, (.sipush 267, 3)), (86, (.invokevirtual 283, 3)), (89, (.aload_n 0, 1)), (90, (.iconst 0, 1)), (91, (.sipush 266, 3)), (94, (.sipush 267, 3)), (97, (.sipush 266, 3)), (100, (.invokevirtual 286, 3)), (103, (.pop, 1)), (104, (.aload_n 0, 1)), (105, (.invokevirtual 290, 3)), (108, (.goto (-53), 3)), (111, (.aload_n 0, 1)), (112, (.iconst 1, 1)), (113, (.iload_n 1, 1)), (114, (.sipush 266, 3)), (117, (.iload_n 1, 1)), (118, (.invokevirtual 286, 3)), (121, (.pop, 1)), (122, (.aload_n 0, 1)), (123, (.getfield 237, 3)), (126, (.iconst 3, 1)), (127, (.if_icmp .ne 7, 3)), (130, (.iconst 1, 1)), (131, (.goto 4, 3)), (134, (.iconst 0, 1)), (135, (.istore_n 3, 1)), (136, (.iload_n 3, 1)), (137, (.ifCond .eq 7, 3)), (140, (.aload_n 0, 1)), (141, (.invokevirtual 290, 3)), (144, (.goto (-133), 3)), (147, (.iconst 1, 1)), (148, (.ireturn, 1))]
def u_X12_range : Fx := (yX12_range, (cX12_range, (5, ((some .boolean), tb_X12_range))))
theorem tk_X12_range : ∀ q ∈ u_X12_range.2.2.2.2, decode u_X12_range.2.1 q.1 = .ok q.2 := by decide +kernel
theorem mc_X12_range : MC u_X12_range 1 := ⟨tbm 1584 (by decide +kernel) rfl, tbm 128 (by decide +kernel) rfl, ⟨by decide, by decide, by decide +kernel⟩, by decide⟩
theorem in_X12_range : Cond.instanceMethod u_X12_range.1 ∈ TB ∧ Cond.selects u_X12_range.1.cls u_X12_range.1 u_X12_range.1 ∈ TB := ⟨tbm 1583 (by decide +kernel) rfl, tbm 78 (by decide +kernel) rfl⟩
def f_X12_range_j23 (t : List Sh) (m : Mi) (a0 : Nat) : Option (Int32 × Mi) :=
  bd (f_X12_fault t m a0 1) fun x3 m4 =>
  (if zb x3 = true then
  some (x3, m4)
  else none)
def f_X12_range_j35 (t : List Sh) (m : Mi) (a0 : Nat) : Option (Int32 × Mi) :=
  bd (f_X12_fault t m a0 2) fun x6 m7 =>
  (if zb x6 = true then
  some (x6, m7)
  else none)
def f_X12_range_j70 (t : List Sh) (m : Mi) (a0 : Nat) : Option (Int32 × Mi) :=
  bd (f_X12_fault t m a0 2) fun x9 m10 =>
  (if zb x9 = true then
  some (x9, m10)
  else none)
def f_X12_range_j147 (t : List Sh) (m : Mi) : Option (Int32 × Mi) :=
  some (1, m)
def f_X12_range_j135 (t : List Sh) (m : Mi) (a0 : Nat) (a1 : Int32) (a2 : Int32) (s0 : Int32) : Option ((Int32 × Int32 × Mi) ⊕ (((Mi) ⊕ ((Mi) ⊕ ((Mi) ⊕ (Mi)))))) :=
  if s0 = 0 then
    some (.inl (a2, s0, m))
  else
    (f_X12_token t m a0).bind fun m20 =>
    some (.inl (a2, s0, m20))
def f_X12_range_j111 (t : List Sh) (m : Mi) (a0 : Nat) (a1 : Int32) (a2 : Int32) : Option ((Int32 × Int32 × Mi) ⊕ (((Mi) ⊕ ((Mi) ⊕ ((Mi) ⊕ (Mi)))))) :=
  bd (f_X12_combined t m a0 1 a1 266 a1) fun x17 m18 =>
  if (gi m18 a0 14) = 3 then
    f_X12_range_j135 t m18 a0 a1 a2 1
  else
    f_X12_range_j135 t m18 a0 a1 a2 0
def f_X12_range_l55 (t : List Sh) (m : Mi) (a0 : Nat) (a1 : Int32) (a2 : Int32) (a4 : Int32) : Option ((Int32 × Mi) ⊕ ((Mi) ⊕ (Mi))) :=
  if (gi m a0 14) = 2 then
    if a4 = 6 then
      some (.inr (.inr m))
    else
      lt (a4 + 1) fun x24 =>
      (f_X12_partRange t m a0 267).bind fun m25 =>
      bd (f_X12_combined t m25 a0 0 266 267 266) fun x26 m27 =>
      (f_X12_token t m27 a0).bind fun m28 =>
      some (.inl (x24, m28))
  else
    some (.inr (.inl m))
def f_X12_range_j55 (t : List Sh) (m : Mi) (a0 : Nat) (a1 : Int32) (a2 : Int32) (a4 : Int32) : Option ((Int32 × Int32 × Mi) ⊕ (((Mi) ⊕ ((Mi) ⊕ ((Mi) ⊕ (Mi)))))) :=
  (lp (fun x : Int32 × Mi => f_X12_range_l55 t x.2 a0 a1 a2 x.1) FUEL (a4, m)).bind (Sum.elim (fun y : Mi => f_X12_range_j111 t y a0 a1 a2) (fun y : Mi => some (.inr (.inr (.inr (.inr y))))))
def f_X12_range_l11 (t : List Sh) (m : Mi) (a0 : Nat) (a1 : Int32) (a2 : Int32) (a3 : Int32) : Option ((Int32 × Int32 × Mi) ⊕ (((Mi) ⊕ ((Mi) ⊕ ((Mi) ⊕ (Mi)))))) :=
  if a3 = 0 then
    some (.inr (.inl m))
  else
    if (gi m a0 14) = 2 then
      if a2 = 16 then
        some (.inr (.inr (.inr (.inl m))))
      else
        lt (a2 + 1) fun x15 =>
        (f_X12_full t m a0 266).bind fun m16 =>
        f_X12_range_j55 t m16 a0 a1 x15 0
    else
      some (.inr (.inr (.inl m)))
def f_X12_range_j11 (t : List Sh) (m : Mi) (a0 : Nat) (a1 : Int32) (a2 : Int32) (a3 : Int32) : Option (Int32 × Mi) :=
  (lp (fun x : Int32 × Int32 × Mi => f_X12_range_l11 t x.2.2 a0 a1 x.1 x.2.1) FUEL (a2, a3, m)).bind (Sum.elim (fun y : Mi => f_X12_range_j147 t y) (Sum.elim (fun y : Mi => f_X12_range_j23 t y a0) (Sum.elim (fun y : Mi => f_X12_range_j35 t y a0) (fun y : Mi => f_X12_range_j70 t y a0))))
def f_X12_range (t : List Sh) (m : Mi) (a0 : Nat) (a1 : Int32) : Option (Int32 × Mi) :=
  (if ar t (gr m a0 7) .int a1 = true then
  lt (si m (gr m a0 7) (ix a1) 0) fun m2 =>
  f_X12_range_j11 t m2 a0 a1 0 1
  else none)
set_option maxRecDepth 4000 in
set_option maxHeartbeats 4000000 in
theorem sm_X12_range (t : List Sh) (m : Mi) (a0 : Nat) (a1 : Int32) (h0 : sh t a0 = some (.inl 12)) : Sm u_X12_range (8, 0, 0, t.length, zs t) (kI t) 0 [(0, .inr (.inr a0)), (1, .inl a1)] [] (t, m) (f_X12_range t m a0 a1) := by
  unfold f_X12_range
  refine r_aload_n 0 1 0 rfl rfl rfl rfl ?_
  refine r_getR 1 4 rfl rfl fl_RX12_20 rfl h0 ?_
  refine r_iload_n 2 5 1 rfl rfl rfl rfl ?_
  refine r_iconst 3 6 (v := 0) rfl rfl (by decide) ?_
  refine r_gd (fun h1 => ?_)
  refine r_iast 4 7 rfl rfl h1 ?_
  refine r_ltM (fun m2 => ?_)
  refine r_iconst 5 8 (v := 0) rfl rfl (by decide) ?_
  refine r_istore_n 6 9 (L' := [(2, .inl 0), (0, .inr (.inr a0)), (1, .inl a1)]) rfl rfl rfl (by decide) rfl ?_
  refine r_iconst 7 10 (v := 1) rfl rfl (by decide) ?_
  refine r_istore_n 8 11 (L' := [(3, .inl 1), (2, .inl 0), (0, .inr (.inr a0)), (1, .inl a1)]) rfl rfl rfl (by decide) rfl ?_
  have hj11 : ∀ (m : Mi) (a2 : Int32) (a3 : Int32), Sm u_X12_range (8, 0, 0, t.length, zs t) (kI t) 11 [(0, .inr (.inr a0)), (1, .inl a1), (2, .inl a2), (3, .inl a3)] [] (t, m) (f_X12_range_j11 t m a0 a1 a2 a3) := by
    intro m a2 a3
    unfold f_X12_range_j11
    have hj23 : ∀ (m : Mi), Sm u_X12_range (8, 0, 0, t.length, zs t) (kI t) 23 [(0, .inr (.inr a0))] [] (t, m) (f_X12_range_j23 t m a0) := by
      intro m
      unfold f_X12_range_j23
      refine r_aload_n 15 24 0 rfl rfl rfl rfl ?_
      refine r_iconst 16 25 (v := 1) rfl rfl (by decide) ?_
      refine r_VI 17 28 (st := []) (av := [.inr (.inr a0), .inl 1]) (av' := [.inl 1]) (μ' := u_X12_fault) (d := 1) rfl rfl mc_X12_fault in_X12_fault lk_RX12_280 (Nat.le_of_ble_eq_true rfl) rfl rfl h0 rfl (Nat.le_of_ble_eq_true rfl) (fun _ _ h => ct_X12_fault h0 h) (fun x3 m4 => ?_)
      refine r_gd (fun h5 => ?_)
      exact r_zret 18 rfl rfl (zb_nar h5) rfl
    have hj35 : ∀ (m : Mi), Sm u_X12_range (8, 0, 0, t.length, zs t) (kI t) 35 [(0, .inr (.inr a0))] [] (t, m) (f_X12_range_j35 t m a0) := by
      intro m
      unfold f_X12_range_j35
      refine r_aload_n 22 36 0 rfl rfl rfl rfl ?_
      refine r_iconst 23 37 (v := 2) rfl rfl (by decide) ?_
      refine r_VI 24 40 (st := []) (av := [.inr (.inr a0), .inl 2]) (av' := [.inl 2]) (μ' := u_X12_fault) (d := 1) rfl rfl mc_X12_fault in_X12_fault lk_RX12_280 (Nat.le_of_ble_eq_true rfl) rfl rfl h0 rfl (Nat.le_of_ble_eq_true rfl) (fun _ _ h => ct_X12_fault h0 h) (fun x6 m7 => ?_)
      refine r_gd (fun h8 => ?_)
      exact r_zret 25 rfl rfl (zb_nar h8) rfl
    have hj70 : ∀ (m : Mi), Sm u_X12_range (8, 0, 0, t.length, zs t) (kI t) 70 [(0, .inr (.inr a0))] [] (t, m) (f_X12_range_j70 t m a0) := by
      intro m
      unfold f_X12_range_j70
      refine r_aload_n 42 71 0 rfl rfl rfl rfl ?_
      refine r_iconst 43 72 (v := 2) rfl rfl (by decide) ?_
      refine r_VI 44 75 (st := []) (av := [.inr (.inr a0), .inl 2]) (av' := [.inl 2]) (μ' := u_X12_fault) (d := 1) rfl rfl mc_X12_fault in_X12_fault lk_RX12_280 (Nat.le_of_ble_eq_true rfl) rfl rfl h0 rfl (Nat.le_of_ble_eq_true rfl) (fun _ _ h => ct_X12_fault h0 h) (fun x9 m10 => ?_)
      refine r_gd (fun h11 => ?_)
      exact r_zret 45 rfl rfl (zb_nar h11) rfl
    have hj147 : ∀ (m : Mi), Sm u_X12_range (8, 0, 0, t.length, zs t) (kI t) 147 [] [] (t, m) (f_X12_range_j147 t m) := by
      intro m
      unfold f_X12_range_j147
      refine r_iconst 83 148 (v := 1) rfl rfl (by decide) ?_
      exact r_zret 84 rfl rfl (by decide) rfl
    refine r_lp (Lf := fun x : Int32 × Int32 × Mi => [(0, .inr (.inr a0)), (1, .inl a1), (2, .inl (x.1)), (3, .inl (x.2.1))]) (Mf := fun x : Int32 × Int32 × Mi => (t, x.2.2)) (a2, a3, m) ?_ FUEL
    rintro ⟨a2, a3, m⟩ κ11 hc11 he11
    refine r_eq (L' := [(0, .inr (.inr a0)), (1, .inl a1), (2, .inl a2), (3, .inl a3)]) (M' := (t, m)) rfl rfl ?_
    refine r_eqr (r' := f_X12_range_l11 t m a0 a1 a2 a3) rfl ?_
    unfold f_X12_range_l11
    refine r_iload_n 9 12 3 rfl rfl rfl rfl ?_
    refine r_if_eq 10 147 15 rfl rfl rfl (fun h12 => ?_) (fun h12 => ?_)
    · refine r_leaf (r2 := (f_X12_range_j147 t m : Option (Int32 × Mi))) (he11 _) ?_
      exact r_sub [] rfl (hj147 m)
    · refine r_aload_n 11 16 0 rfl rfl rfl rfl ?_
      refine r_getI 12 19 rfl rfl fl_RX12_237 rfl h0 ?_
      refine r_iconst 13 20 (v := 2) rfl rfl (by decide) ?_
      refine r_icmp_eq 14 29 23 rfl rfl rfl (fun h13 => ?_) (fun h13 => ?_)
      · refine r_iload_n 19 30 2 rfl rfl rfl rfl ?_
        refine r_bipush 20 32 (v := 16) rfl rfl (by decide) ?_
        refine r_icmp_ne 21 41 35 rfl rfl rfl (fun h14 => ?_) (fun h14 => ?_)
        · refine r_leaf (r2 := (f_X12_range_j35 t m a0 : Option (Int32 × Mi))) (he11 _) ?_
          exact r_sub [0] rfl (hj35 m)
        · refine r_iload_n 26 42 2 rfl rfl rfl rfl ?_
          refine r_iconst 27 43 (v := 1) rfl rfl (by decide) ?_
          refine r_iadd 28 44 rfl rfl ?_
          refine r_ltI (fun x15 => ?_)
          refine r_istore_n 29 45 (L' := [(2, .inl x15), (0, .inr (.inr a0)), (1, .inl a1), (3, .inl a3)]) rfl rfl rfl (by decide) rfl ?_
          refine r_aload_n 30 46 1 rfl rfl rfl rfl ?_
          refine r_sipush 31 49 (v := 266) rfl rfl (by decide) ?_
          refine r_VV 32 52 (st := []) (av := [.inr (.inr a0), .inl 266]) (av' := [.inl 266]) (μ' := u_X12_full) (d := 3) rfl rfl mc_X12_full in_X12_full lk_RX12_145 (Nat.le_of_ble_eq_true rfl) rfl rfl h0 rfl (Nat.le_of_ble_eq_true rfl) (fun _ h => ct_X12_full h0 h) (fun m16 => ?_)
          refine r_iconst 33 53 (v := 0) rfl rfl (by decide) ?_
          refine r_istore 34 55 (L' := [(4, .inl 0), (2, .inl x15), (0, .inr (.inr a0)), (1, .inl a1), (3, .inl a3)]) rfl rfl (by decide) rfl ?_
          have hj55 : ∀ (m : Mi) (a2 : Int32) (a4 : Int32), Sm u_X12_range (8, 0, 0, t.length, zs t) κ11 55 [(0, .inr (.inr a0)), (1, .inl a1), (2, .inl a2), (4, .inl a4)] [] (t, m) (f_X12_range_j55 t m a0 a1 a2 a4) := by
            intro m a2 a4
            unfold f_X12_range_j55
            have hj111 : ∀ (m : Mi) (a2 : Int32), Sm u_X12_range (8, 0, 0, t.length, zs t) κ11 111 [(0, .inr (.inr a0)), (1, .inl a1), (2, .inl a2)] [] (t, m) (f_X12_range_j111 t m a0 a1 a2) := by
              intro m a2
              unfold f_X12_range_j111
              refine r_aload_n 63 112 0 rfl rfl rfl rfl ?_
              refine r_iconst 64 113 (v := 1) rfl rfl (by decide) ?_
              refine r_iload_n 65 114 1 rfl rfl rfl rfl ?_
              refine r_sipush 66 117 (v := 266) rfl rfl (by decide) ?_
              refine r_iload_n 67 118 1 rfl rfl rfl rfl ?_
              refine r_VI 68 121 (st := []) (av := [.inr (.inr a0), .inl 1, .inl a1, .inl 266, .inl a1]) (av' := [.inl 1, .inl a1, .inl 266, .inl a1]) (μ' := u_X12_combined) (d := 4) rfl rfl mc_X12_combined in_X12_combined lk_RX12_286 (Nat.le_of_ble_eq_true rfl) rfl rfl h0 rfl (Nat.le_of_ble_eq_true rfl) (fun _ _ h => ct_X12_combined h0 h) (fun x17 m18 => ?_)
              refine r_pop 69 122 rfl rfl rfl ?_
              refine r_aload_n 70 123 0 rfl rfl rfl rfl ?_
              refine r_getI 71 126 rfl rfl fl_RX12_237 rfl h0 ?_
              refine r_iconst 72 127 (v := 3) rfl rfl (by decide) ?_
              have hj135 : ∀ (m : Mi) (a2 : Int32) (s0 : Int32), Sm u_X12_range (8, 0, 0, t.length, zs t) κ11 135 [(0, .inr (.inr a0)), (1, .inl a1), (2, .inl a2)] [.inl s0] (t, m) (f_X12_range_j135 t m a0 a1 a2 s0) := by
                intro m a2 s0
                unfold f_X12_range_j135
                refine r_istore_n 77 136 (L' := [(3, .inl s0), (0, .inr (.inr a0)), (1, .inl a1), (2, .inl a2)]) rfl rfl rfl (by decide) rfl ?_
                refine r_iload_n 78 137 0 rfl rfl rfl rfl ?_
                refine r_if_eq 79 144 140 rfl rfl rfl (fun h19 => ?_) (fun h19 => ?_)
                · refine r_goto 82 11 rfl rfl ?_
                  exact r_sub [1, 2, 3, 0] rfl (hc11 (a2, s0, m))
                · refine r_aload_n 80 141 1 rfl rfl rfl rfl ?_
                  refine r_VV 81 144 (st := []) (av := [.inr (.inr a0)]) (av' := []) (μ' := u_X12_token) (d := 7) rfl rfl mc_X12_token in_X12_token lk_RX12_290 (Nat.le_of_ble_eq_true rfl) rfl rfl h0 rfl (Nat.le_of_ble_eq_true rfl) (fun _ h => ct_X12_token h0 h) (fun m20 => ?_)
                  refine r_goto 82 11 rfl rfl ?_
                  exact r_sub [1, 2, 3, 0] rfl (hc11 (a2, s0, m20))
              refine r_icmp_ne 73 134 130 rfl rfl rfl (fun h21 => ?_) (fun h21 => ?_)
              · refine r_iconst 74 131 (v := 1) rfl rfl (by decide) ?_
                refine r_goto 75 135 rfl rfl ?_
                exact hj135 m18 a2 1
              · refine r_iconst 76 135 (v := 0) rfl rfl (by decide) ?_
                exact hj135 m18 a2 0
            refine r_lp (Lf := fun x : Int32 × Mi => [(0, .inr (.inr a0)), (1, .inl a1), (2, .inl a2), (4, .inl (x.1))]) (Mf := fun x : Int32 × Mi => (t, x.2)) (a4, m) ?_ FUEL
            rintro ⟨a4, m⟩ κ55 hc55 he55
            refine r_eq (L' := [(0, .inr (.inr a0)), (1, .inl a1), (2, .inl a2), (4, .inl a4)]) (M' := (t, m)) rfl rfl ?_
            refine r_eqr (r' := f_X12_range_l55 t m a0 a1 a2 a4) rfl ?_
            unfold f_X12_range_l55
            refine r_aload_n 35 56 0 rfl rfl rfl rfl ?_
            refine r_getI 36 59 rfl rfl fl_RX12_237 rfl h0 ?_
            refine r_iconst 37 60 (v := 2) rfl rfl (by decide) ?_
            refine r_icmp_ne 38 111 63 rfl rfl rfl (fun h22 => ?_) (fun h22 => ?_)
            · refine r_iload 39 65 3 rfl rfl rfl ?_
              refine r_bipush 40 67 (v := 6) rfl rfl (by decide) ?_
              refine r_icmp_ne 41 76 70 rfl rfl rfl (fun h23 => ?_) (fun h23 => ?_)
              · refine r_leaf (r2 := (some (.inr (.inr (.inr (.inr m)))) : Option ((Int32 × Int32 × Mi) ⊕ (((Mi) ⊕ ((Mi) ⊕ ((Mi) ⊕ (Mi)))))))) (he55 _) ?_
                refine r_leaf (r2 := (f_X12_range_j70 t m a0 : Option (Int32 × Mi))) (he11 _) ?_
                exact r_sub [0] rfl (hj70 m)
              · refine r_iload 46 78 3 rfl rfl rfl ?_
                refine r_iconst 47 79 (v := 1) rfl rfl (by decide) ?_
                refine r_iadd 48 80 rfl rfl ?_
                refine r_ltI (fun x24 => ?_)
                refine r_istore 49 82 (L' := [(4, .inl x24), (0, .inr (.inr a0)), (1, .inl a1), (2, .inl a2)]) rfl rfl (by decide) rfl ?_
                refine r_aload_n 50 83 1 rfl rfl rfl rfl ?_
                refine r_sipush 51 86 (v := 267) rfl rfl (by decide) ?_
                refine r_VV 52 89 (st := []) (av := [.inr (.inr a0), .inl 267]) (av' := [.inl 267]) (μ' := u_X12_partRange) (d := 6) rfl rfl mc_X12_partRange in_X12_partRange lk_RX12_283 (Nat.le_of_ble_eq_true rfl) rfl rfl h0 rfl (Nat.le_of_ble_eq_true rfl) (fun _ h => ct_X12_partRange h0 h) (fun m25 => ?_)
                refine r_aload_n 53 90 1 rfl rfl rfl rfl ?_
                refine r_iconst 54 91 (v := 0) rfl rfl (by decide) ?_
                refine r_sipush 55 94 (v := 266) rfl rfl (by decide) ?_
                refine r_sipush 56 97 (v := 267) rfl rfl (by decide) ?_
                refine r_sipush 57 100 (v := 266) rfl rfl (by decide) ?_
                refine r_VI 58 103 (st := []) (av := [.inr (.inr a0), .inl 0, .inl 266, .inl 267, .inl 266]) (av' := [.inl 0, .inl 266, .inl 267, .inl 266]) (μ' := u_X12_combined) (d := 4) rfl rfl mc_X12_combined in_X12_combined lk_RX12_286 (Nat.le_of_ble_eq_true rfl) rfl rfl h0 rfl (Nat.le_of_ble_eq_true rfl) (fun _ _ h => ct_X12_combined h0 h) (fun x26 m27 => ?_)
                refine r_pop 59 104 rfl rfl rfl ?_
                refine r_aload_n 60 105 1 rfl rfl rfl rfl ?_
                refine r_VV 61 108 (st := []) (av := [.inr (.inr a0)]) (av' := []) (μ' := u_X12_token) (d := 7) rfl rfl mc_X12_token in_X12_token lk_RX12_290 (Nat.le_of_ble_eq_true rfl) rfl rfl h0 rfl (Nat.le_of_ble_eq_true rfl) (fun _ h => ct_X12_token h0 h) (fun m28 => ?_)
                refine r_goto 62 55 rfl rfl ?_
                exact r_sub [1, 2, 3, 0] rfl (hc55 (x24, m28))
            · refine r_leaf (r2 := (f_X12_range_j111 t m a0 a1 a2 : Option ((Int32 × Int32 × Mi) ⊕ (((Mi) ⊕ ((Mi) ⊕ ((Mi) ⊕ (Mi)))))))) (he55 _) ?_
              exact r_sub [0, 1, 2] rfl (hj111 m a2)
          exact r_sub [2, 3, 1, 0] rfl (hj55 m16 x15 0)
      · refine r_leaf (r2 := (f_X12_range_j23 t m a0 : Option (Int32 × Mi))) (he11 _) ?_
        exact r_sub [0] rfl (hj23 m)
  exact r_sub [2, 3, 1, 0] rfl (hj11 m2 0 1)
theorem ct_X12_range {t : List Sh} {m : Mi} {a0 : Nat} {a1 : Int32} {m' : Mi} {v : Int32}  (h0 : sh t a0 = some (.inl 12)) (h : f_X12_range t m a0 a1 = some (v, m')) : Ct u_X12_range 8 0 0 [.inr (.inr a0), .inl a1] (t, m) (some (.inl v), (t, m')) :=
  ct_of (by decide) tk_X12_range (Nat.le_of_ble_eq_true rfl) (sm_X12_range t m a0 a1 h0) (by rw [h]; rfl) (Nat.le_refl _) (Nat.le_refl _)
def tb_X12_starts : Tb := [(0, (.aload_n 0, 1)), (1, (.iconst 0, 1)), (2, (.putfield 274, 3)), (5, (.aload_n 0, 1)), (6, (.iconst 0, 1)), (7, (.putfield 277, 3)), (10, (.aload_n 0, 1)), (11, (.iconst 0, 1)), (12, (.putfield 234, 3)), (15, (.aload_n 0, 1)), (16, (.invokevirtual 290, 3)), (19, (.return_, 1))]
def u_X12_starts : Fx := (yX12_starts, (cX12_starts, (1, (none, tb_X12_starts))))
theorem tk_X12_starts : ∀ q ∈ u_X12_starts.2.2.2.2, decode u_X12_starts.2.1 q.1 = .ok q.2 := by decide +kernel
theorem mc_X12_starts : MC u_X12_starts 0 := ⟨tbm 1530 (by decide +kernel) rfl, tbm 128 (by decide +kernel) rfl, ⟨by decide, by decide, by decide +kernel⟩, by decide⟩
theorem in_X12_starts : Cond.instanceMethod u_X12_starts.1 ∈ TB ∧ Cond.selects u_X12_starts.1.cls u_X12_starts.1 u_X12_starts.1 ∈ TB := ⟨tbm 1529 (by decide +kernel) rfl, tbm 69 (by decide +kernel) rfl⟩
def f_X12_starts (t : List Sh) (m : Mi) (a0 : Nat) : Option (Mi) :=
  lt (si m a0 19 0) fun m1 =>
  lt (si m1 a0 20 0) fun m2 =>
  lt (si m2 a0 16 0) fun m3 =>
  (f_X12_token t m3 a0).bind fun m4 =>
  some m4
set_option maxRecDepth 4000 in
set_option maxHeartbeats 4000000 in
theorem sm_X12_starts (t : List Sh) (m : Mi) (a0 : Nat) (h0 : sh t a0 = some (.inl 12)) : Sm u_X12_starts (8, 0, 0, t.length, zs t) (kV t) 0 [(0, .inr (.inr a0))] [] (t, m) (f_X12_starts t m a0) := by
  unfold f_X12_starts
  refine r_aload_n 0 1 0 rfl rfl rfl rfl ?_
  refine r_iconst 1 2 (v := 0) rfl rfl (by decide) ?_
  refine r_putI 2 5 rfl rfl fl_RX12_274 (fun h => by cases h) (Or.inl rfl) h0 ?_
  refine r_ltM (fun m1 => ?_)
  refine r_aload_n 3 6 0 rfl rfl rfl rfl ?_
  refine r_iconst 4 7 (v := 0) rfl rfl (by decide) ?_
  refine r_putI 5 10 rfl rfl fl_RX12_277 (fun h => by cases h) (Or.inl rfl) h0 ?_
  refine r_ltM (fun m2 => ?_)
  refine r_aload_n 6 11 0 rfl rfl rfl rfl ?_
  refine r_iconst 7 12 (v := 0) rfl rfl (by decide) ?_
  refine r_putI 8 15 rfl rfl fl_RX12_234 (fun h => by cases h) (Or.inl rfl) h0 ?_
  refine r_ltM (fun m3 => ?_)
  refine r_aload_n 9 16 0 rfl rfl rfl rfl ?_
  refine r_VV 10 19 (st := []) (av := [.inr (.inr a0)]) (av' := []) (μ' := u_X12_token) (d := 7) rfl rfl mc_X12_token in_X12_token lk_RX12_290 (Nat.le_of_ble_eq_true rfl) rfl rfl h0 rfl (Nat.le_of_ble_eq_true rfl) (fun _ h => ct_X12_token h0 h) (fun m4 => ?_)
  exact r_vret 11 rfl rfl rfl
theorem ct_X12_starts {t : List Sh} {m : Mi} {a0 : Nat} {m' : Mi}  (h0 : sh t a0 = some (.inl 12)) (h : f_X12_starts t m a0 = some m') : Ct u_X12_starts 8 0 0 [.inr (.inr a0)] (t, m) (none, (t, m')) :=
  ct_of (by decide) tk_X12_starts (Nat.le_of_ble_eq_true rfl) (sm_X12_starts t m a0 h0) (by rw [h]; rfl) (Nat.le_refl _) (Nat.le_refl _)
theorem lk_RX12_299 : Cond.methodLink RX12 299 yX12_range ∈ TB := tbm 1581 (by decide +kernel) rfl
theorem lk_RX12_312 : Cond.methodLink RX12 312 yX12_keepRange ∈ TB := tbm 1664 (by decide +kernel) rfl
def tb_X12_constraint : Tb := [(0, (.aload_n 0, 1)), (1, (.getfield 49, 3)), (4, (.iload_n 1, 1)), (5, (.iaload, 1)), (6, (.aload_n 0, 1)), (7, (.getfield 52, 3)), (10, (.iload_n 1, 1)), (11, (.iaload, 1)), (12, (.iadd, 1)), (13, (.istore 4, 2)), (15, (.aload_n 0, 1)), (16, (.invokevirtual 290, 3)), (19, (.aload_n 0, 1)), (20, (.getfield 237, 3)), (23, (.iconst 1, 1)), (24, (.if_icmp .eq 9, 3)), (27, (.aload_n 0, 1)), (28, (.iconst 1, 1)), (29, (.invokevirtual 280, 3)), (32, (.ireturn, 1)), (33, (.sipush 250, 3)), (36, (.iload_n 1, 1)), (37, (.imul, 1)), (38, (.iload 4, 2)), (40, (.iadd, 1)), (41, (.istore 5, 2)), (43, (.aload_n 0, 1)), (44, (.getfield 76, 3)), (47, (.iload 5, 2)), (49, (.iload_n 2, 1)), (50, (.iastore, 1)), (51, (.aload_n 0, 1)), (52, (.getfield 79, 3)), (55, (.iload 5, 2)), (57, (.iload_n 3, 1)), (58, (.iastore, 1)), (59, (.aload_n 0, 1)), (60, (.getfield 82, 3)), (63, (.iload 5, 2)), (65, (.aload_n 0, 1)), (66, (.getfield 231, 3)), (69, (.iastore, 1)), (70, (.aload_n 0, 1)), (71, (.getfield 85, 3)), (74, (.iload 5, 2)), (76, (.aload_n 0, 1)), (77, (.getfield 234, 3)), (80, (.aload_n 0, 1)), (81, (.getfield 231, 3)), (84, (.isub, 1)), (85, (.iastore, 1)), (86, (.aload_n 0, 1)), (87, (.invokevirtual 290, 3)), (90, (.aload_n 0, 1)), (91, (.sipush 268, 3)), (94, (.invokevirtual 299, 3)), (97, (.ifCond .ne 5, 3)), (100, (.iconst 0, 1)), (101, (.ireturn, 1)), (102, (.aload_n 0, 1)), (103, (.iload 4, 2)), (105, (.invokevirtual 312, 3)), (108, (.iconst 1, 1)), (109, (.ireturn, 1))]
def u_X12_constraint : Fx := (yX12_constraint, (cX12_constraint, (6, ((some .boolean), tb_X12_constraint))))
theorem tk_X12_constraint : ∀ q ∈ u_X12_constraint.2.2.2.2, decode u_X12_constraint.2.1 q.1 = .ok q.2 := by decide +kernel
theorem mc_X12_constraint : MC u_X12_constraint 3 := ⟨tbm 1663 (by decide +kernel) rfl, tbm 128 (by decide +kernel) rfl, ⟨by decide, by decide, by decide +kernel⟩, by decide⟩
theorem in_X12_constraint : Cond.instanceMethod u_X12_constraint.1 ∈ TB ∧ Cond.selects u_X12_constraint.1.cls u_X12_constraint.1 u_X12_constraint.1 ∈ TB := ⟨tbm 1662 (by decide +kernel) rfl, tbm 90 (by decide +kernel) rfl⟩
def f_X12_constraint (t : List Sh) (m : Mi) (a0 : Nat) (a1 : Int32) (a2 : Int32) (a3 : Int32) : Option (Int32 × Mi) :=
  (if ar t (gr m a0 25) .int a1 = true then
  (if ar t (gr m a0 26) .int a1 = true then
  lt ((gi m (gr m a0 25) (ix a1)) + (gi m (gr m a0 26) (ix a1))) fun x3 =>
  (f_X12_token t m a0).bind fun m4 =>
  if (gi m4 a0 14) = 1 then
    lt ((250 * a1) + x3) fun x6 =>
    (if ar t (gr m4 a0 34) .int x6 = true then
    lt (si m4 (gr m4 a0 34) (ix x6) a2) fun m8 =>
    (if ar t (gr m8 a0 35) .int x6 = true then
    lt (si m8 (gr m8 a0 35) (ix x6) a3) fun m10 =>
    (if ar t (gr m10 a0 36) .int x6 = true then
    lt (si m10 (gr m10 a0 36) (ix x6) (gi m10 a0 15)) fun m12 =>
    (if ar t (gr m12 a0 37) .int x6 = true then
    lt (si m12 (gr m12 a0 37) (ix x6) ((gi m12 a0 16) - (gi m12 a0 15))) fun m14 =>
    (f_X12_token t m14 a0).bind fun m15 =>
    bd (f_X12_range t m15 a0 268) fun x16 m17 =>
    if x16 = 0 then
      some (0, m17)
    else
      (f_X12_keepRange t m17 a0 x3).bind fun m19 =>
      some (1, m19)
    else none)
    else none)
    else none)
    else none)
  else
    bd (f_X12_fault t m4 a0 1) fun x20 m21 =>
    (if zb x20 = true then
    some (x20, m21)
    else none)
  else none)
  else none)
set_option maxRecDepth 4000 in
set_option maxHeartbeats 4000000 in
theorem sm_X12_constraint (t : List Sh) (m : Mi) (a0 : Nat) (a1 : Int32) (a2 : Int32) (a3 : Int32) (h0 : sh t a0 = some (.inl 12)) : Sm u_X12_constraint (9, 0, 0, t.length, zs t) (kI t) 0 [(0, .inr (.inr a0)), (1, .inl a1), (2, .inl a2), (3, .inl a3)] [] (t, m) (f_X12_constraint t m a0 a1 a2 a3) := by
  unfold f_X12_constraint
  refine r_aload_n 0 1 0 rfl rfl rfl rfl ?_
  refine r_getR 1 4 rfl rfl fl_RX12_49 rfl h0 ?_
  refine r_iload_n 2 5 1 rfl rfl rfl rfl ?_
  refine r_gd (fun h1 => ?_)
  refine r_iald 3 6 rfl rfl h1 ?_
  refine r_aload_n 4 7 0 rfl rfl rfl rfl ?_
  refine r_getR 5 10 rfl rfl fl_RX12_52 rfl h0 ?_
  refine r_iload_n 6 11 1 rfl rfl rfl rfl ?_
  refine r_gd (fun h2 => ?_)
  refine r_iald 7 12 rfl rfl h2 ?_
  refine r_iadd 8 13 rfl rfl ?_
  refine r_ltI (fun x3 => ?_)
  refine r_istore 9 15 (L' := [(4, .inl x3), (0, .inr (.inr a0)), (1, .inl a1), (2, .inl a2), (3, .inl a3)]) rfl rfl (by decide) rfl ?_
  refine r_aload_n 10 16 1 rfl rfl rfl rfl ?_
  refine r_VV 11 19 (st := []) (av := [.inr (.inr a0)]) (av' := []) (μ' := u_X12_token) (d := 7) rfl rfl mc_X12_token in_X12_token lk_RX12_290 (Nat.le_of_ble_eq_true rfl) rfl rfl h0 rfl (Nat.le_of_ble_eq_true rfl) (fun _ h => ct_X12_token h0 h) (fun m4 => ?_)
  refine r_aload_n 12 20 1 rfl rfl rfl rfl ?_
  refine r_getI 13 23 rfl rfl fl_RX12_237 rfl h0 ?_
  refine r_iconst 14 24 (v := 1) rfl rfl (by decide) ?_
  refine r_icmp_eq 15 33 27 rfl rfl rfl (fun h5 => ?_) (fun h5 => ?_)
  · refine r_sipush 20 36 (v := 250) rfl rfl (by decide) ?_
    refine r_iload_n 21 37 2 rfl rfl rfl rfl ?_
    refine r_imul 22 38 rfl rfl ?_
    refine r_iload 23 40 0 rfl rfl rfl ?_
    refine r_iadd 24 41 rfl rfl ?_
    refine r_ltI (fun x6 => ?_)
    refine r_istore 25 43 (L' := [(5, .inl x6), (4, .inl x3), (0, .inr (.inr a0)), (1, .inl a1), (2, .inl a2), (3, .inl a3)]) rfl rfl (by decide) rfl ?_
    refine r_aload_n 26 44 2 rfl rfl rfl rfl ?_
    refine r_getR 27 47 rfl rfl fl_RX12_76 rfl h0 ?_
    refine r_iload 28 49 0 rfl rfl rfl ?_
    refine r_iload_n 29 50 4 rfl rfl rfl rfl ?_
    refine r_gd (fun h7 => ?_)
    refine r_iast 30 51 rfl rfl h7 ?_
    refine r_ltM (fun m8 => ?_)
    refine r_aload_n 31 52 2 rfl rfl rfl rfl ?_
    refine r_getR 32 55 rfl rfl fl_RX12_79 rfl h0 ?_
    refine r_iload 33 57 0 rfl rfl rfl ?_
    refine r_iload_n 34 58 5 rfl rfl rfl rfl ?_
    refine r_gd (fun h9 => ?_)
    refine r_iast 35 59 rfl rfl h9 ?_
    refine r_ltM (fun m10 => ?_)
    refine r_aload_n 36 60 2 rfl rfl rfl rfl ?_
    refine r_getR 37 63 rfl rfl fl_RX12_82 rfl h0 ?_
    refine r_iload 38 65 0 rfl rfl rfl ?_
    refine r_aload_n 39 66 2 rfl rfl rfl rfl ?_
    refine r_getI 40 69 rfl rfl fl_RX12_231 rfl h0 ?_
    refine r_gd (fun h11 => ?_)
    refine r_iast 41 70 rfl rfl h11 ?_
    refine r_ltM (fun m12 => ?_)
    refine r_aload_n 42 71 2 rfl rfl rfl rfl ?_
    refine r_getR 43 74 rfl rfl fl_RX12_85 rfl h0 ?_
    refine r_iload 44 76 0 rfl rfl rfl ?_
    refine r_aload_n 45 77 2 rfl rfl rfl rfl ?_
    refine r_getI 46 80 rfl rfl fl_RX12_234 rfl h0 ?_
    refine r_aload_n 47 81 2 rfl rfl rfl rfl ?_
    refine r_getI 48 84 rfl rfl fl_RX12_231 rfl h0 ?_
    refine r_isub 49 85 rfl rfl ?_
    refine r_gd (fun h13 => ?_)
    refine r_iast 50 86 rfl rfl h13 ?_
    refine r_ltM (fun m14 => ?_)
    refine r_aload_n 51 87 2 rfl rfl rfl rfl ?_
    refine r_VV 52 90 (st := []) (av := [.inr (.inr a0)]) (av' := []) (μ' := u_X12_token) (d := 7) rfl rfl mc_X12_token in_X12_token lk_RX12_290 (Nat.le_of_ble_eq_true rfl) rfl rfl h0 rfl (Nat.le_of_ble_eq_true rfl) (fun _ h => ct_X12_token h0 h) (fun m15 => ?_)
    refine r_aload_n 53 91 2 rfl rfl rfl rfl ?_
    refine r_sipush 54 94 (v := 268) rfl rfl (by decide) ?_
    refine r_VI 55 97 (st := []) (av := [.inr (.inr a0), .inl 268]) (av' := [.inl 268]) (μ' := u_X12_range) (d := 8) rfl rfl mc_X12_range in_X12_range lk_RX12_299 (Nat.le_of_ble_eq_true rfl) rfl rfl h0 rfl (Nat.le_of_ble_eq_true rfl) (fun _ _ h => ct_X12_range h0 h) (fun x16 m17 => ?_)
    refine r_if_ne 56 102 100 rfl rfl rfl (fun h18 => ?_) (fun h18 => ?_)
    · refine r_iconst 57 101 (v := 0) rfl rfl (by decide) ?_
      exact r_zret 58 rfl rfl (by decide) rfl
    · refine r_aload_n 59 103 2 rfl rfl rfl rfl ?_
      refine r_iload 60 105 1 rfl rfl rfl ?_
      refine r_VV 61 108 (st := []) (av := [.inr (.inr a0), .inl x3]) (av' := [.inl x3]) (μ' := u_X12_keepRange) (d := 1) rfl rfl mc_X12_keepRange in_X12_keepRange lk_RX12_312 (Nat.le_of_ble_eq_true rfl) rfl rfl h0 rfl (Nat.le_of_ble_eq_true rfl) (fun _ h => ct_X12_keepRange h0 h) (fun m19 => ?_)
      refine r_iconst 62 109 (v := 1) rfl rfl (by decide) ?_
      exact r_zret 63 rfl rfl (by decide) rfl
  · refine r_aload_n 16 28 1 rfl rfl rfl rfl ?_
    refine r_iconst 17 29 (v := 1) rfl rfl (by decide) ?_
    refine r_VI 18 32 (st := []) (av := [.inr (.inr a0), .inl 1]) (av' := [.inl 1]) (μ' := u_X12_fault) (d := 1) rfl rfl mc_X12_fault in_X12_fault lk_RX12_280 (Nat.le_of_ble_eq_true rfl) rfl rfl h0 rfl (Nat.le_of_ble_eq_true rfl) (fun _ _ h => ct_X12_fault h0 h) (fun x20 m21 => ?_)
    refine r_gd (fun h22 => ?_)
    exact r_zret 19 rfl rfl (zb_nar h22) rfl
theorem ct_X12_constraint {t : List Sh} {m : Mi} {a0 : Nat} {a1 : Int32} {a2 : Int32} {a3 : Int32} {m' : Mi} {v : Int32}  (h0 : sh t a0 = some (.inl 12)) (h : f_X12_constraint t m a0 a1 a2 a3 = some (v, m')) : Ct u_X12_constraint 9 0 0 [.inr (.inr a0), .inl a1, .inl a2, .inl a3] (t, m) (some (.inl v), (t, m')) :=
  ct_of (by decide) tk_X12_constraint (Nat.le_of_ble_eq_true rfl) (sm_X12_constraint t m a0 a1 a2 a3 h0) (by rw [h]; rfl) (Nat.le_refl _) (Nat.le_refl _)
theorem lk_RX12_293 : Cond.methodLink RX12 293 yX12_takes ∈ TB := tbm 1523 (by decide +kernel) rfl
theorem lk_RX12_296 : Cond.methodLink RX12 296 yX12_starts ∈ TB := tbm 1527 (by decide +kernel) rfl
def tb_X12_order : Tb := [(0, (.aload_n 0, 1)), (1, (.iload_n 1, 1)), (2, (.invokevirtual 293, 3)), (5, (.ifCond .ne 6, 3)), (8, (.bipush (-2), 2)), (10, (.ireturn, 1)), (11, (.aload_n 0, 1)), (12, (.invokevirtual 296, 3)), (15, (.aload_n 0, 1)), (16, (.getfield 237, 3)), (19, (.iconst 2, 1)), (20, (.if_icmp .ne 26, 3)), (23, (.aload_n 0, 1)), (24, (.getfield 256, 3)), (27, (.ifCond .ne 19, 3)), (30, (.aload_n 0, 1)), (31, (.aload_n 0, 1)), (32, (.getfield 259, 3)), (35, (.aload_n 0, 1)), (36, (.getfield 234, 3)), (39, (.invokevirtual 265, 3)), (42, (.iconst 2, 1)), (43, (.if_icmp .eq 5, 3)), (46, (.iconst 2, 1)), (47, (.ireturn, 1)), (48, (.aload_n 0, 1)), (49, (.getfield 31, 3)), (52, (.iconst 0, 1)), (53, (.aload_n 0, 1)), (54, (.getfield 16, 3)), (57, (.iconst 0, 1)), (58, (.invokestatic 224, 3)), (61, (.aload_n 0, 1)), (62, (.invokevirtual 290, 3)), (65, (.aload_n 0, 1)), (66, (.getfield 237, 3)), (69, (.iconst 2, 1)), (70, (.if_icmp .ne 26, 3)), (73, (.aload_n 0, 1)), (74, (.getfield 256, 3)), (77, (.ifCond .ne 19, 3)), (80, (.aload_n 0, 1)), (81, (.aload_n 0, 1)), (82, (.getfield 259, 3)), (85, (.aload_n 0, 1)), (86, (.getfield 234, 3)), (89, (.invokevirtual 265, 3)), (92, (.iconst 2, 1)), (93, (.if_icmp .eq 5, 3)), (96, (.iconst 2, 1)), (97, (.ireturn, 1)), (98, (.aload_n 0, 1)), (99, (.getfield 34, 3)), (102, (.iconst 0, 1)), (103, (.aload_n 0, 1)), (104, (.getfield 16, 3)), (107, (.iconst 0, 1)), (108, (.invokestatic 224, 3)), (111, (.aload_n 0, 1)), (112, (.invokevirtual 290, 3)), (115, (.aload_n 0, 1)), (116, (.getfield 237, 3)), (119, (.ifCond .eq 7, 3)), (122, (.iconst 2, 1)), (123, (.goto 16, 3)), (126, (.aload_n 0, 1)), (127, (.getfield 31, 3)), (130, (.iconst 0, 1)), (131, (.aload_n 0, 1)), (132, (.getfield 34, 3)), (135, (.iconst 0, 1)), (136, (.invokestatic 209, 3)), (139, (.ireturn, 1))]
def u_X12_order : Fx := (yX12_order, (cX12_order, (2, ((some .int), tb_X12_order))))
theorem tk_X12_order : ∀ q ∈ u_X12_order.2.2.2.2, decode u_X12_order.2.1 q.1 = .ok q.2 := by decide +kernel
theorem mc_X12_order : MC u_X12_order 1 := ⟨tbm 1628 (by decide +kernel) rfl, tbm 128 (by decide +kernel) rfl, ⟨by decide, by decide, by decide +kernel⟩, by decide⟩
theorem in_X12_order : Cond.instanceMethod u_X12_order.1 ∈ TB ∧ Cond.selects u_X12_order.1.cls u_X12_order.1 u_X12_order.1 ∈ TB := ⟨tbm 1626 (by decide +kernel) rfl, tbm 1627 (by decide +kernel) rfl⟩
def f_X12_order (t : List Sh) (m : Mi) (a0 : Nat) (a1 : Int32) : Option (Int32 × Mi) :=
  bd (f_X12_takes t m a0 a1) fun x1 m2 =>
  if x1 = 0 then
    some ((-2), m2)
  else
    (f_X12_starts t m2 a0).bind fun m4 =>
    if (gi m4 a0 14) = 2 then
      if (gi m4 a0 18) = 0 then
        bd (f_X12_reads t m4 a0 (gi m4 a0 17) (gi m4 a0 16)) fun x7 m8 =>
        if x7 = 2 then
          (f_X12_copy t m8 (gr m8 a0 11) 0 (gr m8 a0 4) 0).bind fun m10 =>
          (f_X12_token t m10 a0).bind fun m11 =>
          if (gi m11 a0 14) = 2 then
            if (gi m11 a0 18) = 0 then
              bd (f_X12_reads t m11 a0 (gi m11 a0 17) (gi m11 a0 16)) fun x14 m15 =>
              if x14 = 2 then
                (f_X12_copy t m15 (gr m15 a0 12) 0 (gr m15 a0 4) 0).bind fun m17 =>
                (f_X12_token t m17 a0).bind fun m18 =>
                if (gi m18 a0 14) = 0 then
                  (f_X12_compare t m18 (gr m18 a0 11) 0 (gr m18 a0 12) 0).bind fun x20 =>
                  some (x20, m18)
                else
                  some (2, m18)
              else
                some (2, m15)
            else
              some (2, m11)
          else
            some (2, m11)
        else
          some (2, m8)
      else
        some (2, m4)
    else
      some (2, m4)
set_option maxRecDepth 4000 in
set_option maxHeartbeats 4000000 in
theorem sm_X12_order (t : List Sh) (m : Mi) (a0 : Nat) (a1 : Int32) (h0 : sh t a0 = some (.inl 12)) : Sm u_X12_order (9, 0, 0, t.length, zs t) (kI t) 0 [(0, .inr (.inr a0)), (1, .inl a1)] [] (t, m) (f_X12_order t m a0 a1) := by
  unfold f_X12_order
  refine r_aload_n 0 1 0 rfl rfl rfl rfl ?_
  refine r_iload_n 1 2 1 rfl rfl rfl rfl ?_
  refine r_VI 2 5 (st := []) (av := [.inr (.inr a0), .inl a1]) (av' := [.inl a1]) (μ' := u_X12_takes) (d := 1) rfl rfl mc_X12_takes in_X12_takes lk_RX12_293 (Nat.le_of_ble_eq_true rfl) rfl rfl h0 rfl (Nat.le_of_ble_eq_true rfl) (fun _ _ h => ct_X12_takes h0 h) (fun x1 m2 => ?_)
  refine r_if_ne 3 11 8 rfl rfl rfl (fun h3 => ?_) (fun h3 => ?_)
  · refine r_bipush 4 10 (v := (-2)) rfl rfl (by decide) ?_
    exact r_iret 5 rfl rfl rfl
  · refine r_aload_n 6 12 0 rfl rfl rfl rfl ?_
    refine r_VV 7 15 (st := []) (av := [.inr (.inr a0)]) (av' := []) (μ' := u_X12_starts) (d := 8) rfl rfl mc_X12_starts in_X12_starts lk_RX12_296 (Nat.le_of_ble_eq_true rfl) rfl rfl h0 rfl (Nat.le_of_ble_eq_true rfl) (fun _ h => ct_X12_starts h0 h) (fun m4 => ?_)
    refine r_aload_n 8 16 0 rfl rfl rfl rfl ?_
    refine r_getI 9 19 rfl rfl fl_RX12_237 rfl h0 ?_
    refine r_iconst 10 20 (v := 2) rfl rfl (by decide) ?_
    refine r_icmp_ne 11 46 23 rfl rfl rfl (fun h5 => ?_) (fun h5 => ?_)
    · refine r_aload_n 12 24 0 rfl rfl rfl rfl ?_
      refine r_getI 13 27 rfl rfl fl_RX12_256 rfl h0 ?_
      refine r_if_ne 14 46 30 rfl rfl rfl (fun h6 => ?_) (fun h6 => ?_)
      · refine r_aload_n 15 31 0 rfl rfl rfl rfl ?_
        refine r_aload_n 16 32 0 rfl rfl rfl rfl ?_
        refine r_getI 17 35 rfl rfl fl_RX12_259 rfl h0 ?_
        refine r_aload_n 18 36 0 rfl rfl rfl rfl ?_
        refine r_getI 19 39 rfl rfl fl_RX12_234 rfl h0 ?_
        refine r_VI 20 42 (st := []) (av := [.inr (.inr a0), .inl (gi m4 a0 17), .inl (gi m4 a0 16)]) (av' := [.inl (gi m4 a0 17), .inl (gi m4 a0 16)]) (μ' := u_X12_reads) (d := 5) rfl rfl mc_X12_reads in_X12_reads lk_RX12_265 (Nat.le_of_ble_eq_true rfl) rfl rfl h0 rfl (Nat.le_of_ble_eq_true rfl) (fun _ _ h => ct_X12_reads h0 h) (fun x7 m8 => ?_)
        refine r_iconst 21 43 (v := 2) rfl rfl (by decide) ?_
        refine r_icmp_eq 22 48 46 rfl rfl rfl (fun h9 => ?_) (fun h9 => ?_)
        · refine r_aload_n 25 49 0 rfl rfl rfl rfl ?_
          refine r_getR 26 52 rfl rfl fl_RX12_31 rfl h0 ?_
          refine r_iconst 27 53 (v := 0) rfl rfl (by decide) ?_
          refine r_aload_n 28 54 0 rfl rfl rfl rfl ?_
          refine r_getR 29 57 rfl rfl fl_RX12_16 rfl h0 ?_
          refine r_iconst 30 58 (v := 0) rfl rfl (by decide) ?_
          refine r_SV 31 61 (a := 0) (cn := 0) (st := []) (av := [.inr (.inr (gr m8 a0 11)), .inl 0, .inr (.inr (gr m8 a0 4)), .inl 0]) (μ' := u_X12_copy) (d := 1) rfl rfl mc_X12_copy st_X12_copy lk_RX12_224 (Nat.le_of_ble_eq_true rfl) rfl (Nat.le_of_ble_eq_true rfl) (fun _ h => ct_X12_copy h) (fun m10 => ?_)
          refine r_aload_n 32 62 0 rfl rfl rfl rfl ?_
          refine r_VV 33 65 (st := []) (av := [.inr (.inr a0)]) (av' := []) (μ' := u_X12_token) (d := 7) rfl rfl mc_X12_token in_X12_token lk_RX12_290 (Nat.le_of_ble_eq_true rfl) rfl rfl h0 rfl (Nat.le_of_ble_eq_true rfl) (fun _ h => ct_X12_token h0 h) (fun m11 => ?_)
          refine r_aload_n 34 66 0 rfl rfl rfl rfl ?_
          refine r_getI 35 69 rfl rfl fl_RX12_237 rfl h0 ?_
          refine r_iconst 36 70 (v := 2) rfl rfl (by decide) ?_
          refine r_icmp_ne 37 96 73 rfl rfl rfl (fun h12 => ?_) (fun h12 => ?_)
          · refine r_aload_n 38 74 0 rfl rfl rfl rfl ?_
            refine r_getI 39 77 rfl rfl fl_RX12_256 rfl h0 ?_
            refine r_if_ne 40 96 80 rfl rfl rfl (fun h13 => ?_) (fun h13 => ?_)
            · refine r_aload_n 41 81 0 rfl rfl rfl rfl ?_
              refine r_aload_n 42 82 0 rfl rfl rfl rfl ?_
              refine r_getI 43 85 rfl rfl fl_RX12_259 rfl h0 ?_
              refine r_aload_n 44 86 0 rfl rfl rfl rfl ?_
              refine r_getI 45 89 rfl rfl fl_RX12_234 rfl h0 ?_
              refine r_VI 46 92 (st := []) (av := [.inr (.inr a0), .inl (gi m11 a0 17), .inl (gi m11 a0 16)]) (av' := [.inl (gi m11 a0 17), .inl (gi m11 a0 16)]) (μ' := u_X12_reads) (d := 5) rfl rfl mc_X12_reads in_X12_reads lk_RX12_265 (Nat.le_of_ble_eq_true rfl) rfl rfl h0 rfl (Nat.le_of_ble_eq_true rfl) (fun _ _ h => ct_X12_reads h0 h) (fun x14 m15 => ?_)
              refine r_iconst 47 93 (v := 2) rfl rfl (by decide) ?_
              refine r_icmp_eq 48 98 96 rfl rfl rfl (fun h16 => ?_) (fun h16 => ?_)
              · refine r_aload_n 51 99 0 rfl rfl rfl rfl ?_
                refine r_getR 52 102 rfl rfl fl_RX12_34 rfl h0 ?_
                refine r_iconst 53 103 (v := 0) rfl rfl (by decide) ?_
                refine r_aload_n 54 104 0 rfl rfl rfl rfl ?_
                refine r_getR 55 107 rfl rfl fl_RX12_16 rfl h0 ?_
                refine r_iconst 56 108 (v := 0) rfl rfl (by decide) ?_
                refine r_SV 57 111 (a := 0) (cn := 0) (st := []) (av := [.inr (.inr (gr m15 a0 12)), .inl 0, .inr (.inr (gr m15 a0 4)), .inl 0]) (μ' := u_X12_copy) (d := 1) rfl rfl mc_X12_copy st_X12_copy lk_RX12_224 (Nat.le_of_ble_eq_true rfl) rfl (Nat.le_of_ble_eq_true rfl) (fun _ h => ct_X12_copy h) (fun m17 => ?_)
                refine r_aload_n 58 112 0 rfl rfl rfl rfl ?_
                refine r_VV 59 115 (st := []) (av := [.inr (.inr a0)]) (av' := []) (μ' := u_X12_token) (d := 7) rfl rfl mc_X12_token in_X12_token lk_RX12_290 (Nat.le_of_ble_eq_true rfl) rfl rfl h0 rfl (Nat.le_of_ble_eq_true rfl) (fun _ h => ct_X12_token h0 h) (fun m18 => ?_)
                refine r_aload_n 60 116 0 rfl rfl rfl rfl ?_
                refine r_getI 61 119 rfl rfl fl_RX12_237 rfl h0 ?_
                refine r_if_eq 62 126 122 rfl rfl rfl (fun h19 => ?_) (fun h19 => ?_)
                · refine r_aload_n 65 127 0 rfl rfl rfl rfl ?_
                  refine r_getR 66 130 rfl rfl fl_RX12_31 rfl h0 ?_
                  refine r_iconst 67 131 (v := 0) rfl rfl (by decide) ?_
                  refine r_aload_n 68 132 0 rfl rfl rfl rfl ?_
                  refine r_getR 69 135 rfl rfl fl_RX12_34 rfl h0 ?_
                  refine r_iconst 70 136 (v := 0) rfl rfl (by decide) ?_
                  refine r_SIo 71 139 (a := 0) (cn := 0) (st := []) (av := [.inr (.inr (gr m18 a0 11)), .inl 0, .inr (.inr (gr m18 a0 12)), .inl 0]) (μ' := u_X12_compare) (d := 1) rfl rfl mc_X12_compare st_X12_compare lk_RX12_209 (Nat.le_of_ble_eq_true rfl) rfl (Nat.le_of_ble_eq_true rfl) (fun _ h => ct_X12_compare h) (fun x20 => ?_)
                  exact r_iret 72 rfl rfl rfl
                · refine r_iconst 63 123 (v := 2) rfl rfl (by decide) ?_
                  refine r_goto 64 139 rfl rfl ?_
                  exact r_iret 72 rfl rfl rfl
              · refine r_iconst 49 97 (v := 2) rfl rfl (by decide) ?_
                exact r_iret 50 rfl rfl rfl
            · refine r_iconst 49 97 (v := 2) rfl rfl (by decide) ?_
              exact r_iret 50 rfl rfl rfl
          · refine r_iconst 49 97 (v := 2) rfl rfl (by decide) ?_
            exact r_iret 50 rfl rfl rfl
        · refine r_iconst 23 47 (v := 2) rfl rfl (by decide) ?_
          exact r_iret 24 rfl rfl rfl
      · refine r_iconst 23 47 (v := 2) rfl rfl (by decide) ?_
        exact r_iret 24 rfl rfl rfl
    · refine r_iconst 23 47 (v := 2) rfl rfl (by decide) ?_
      exact r_iret 24 rfl rfl rfl
theorem ct_X12_order {t : List Sh} {m : Mi} {a0 : Nat} {a1 : Int32} {m' : Mi} {v : Int32}  (h0 : sh t a0 = some (.inl 12)) (h : f_X12_order t m a0 a1 = some (v, m')) : Ct u_X12_order 9 0 0 [.inr (.inr a0), .inl a1] (t, m) (some (.inl v), (t, m')) :=
  ct_of (by decide) tk_X12_order (Nat.le_of_ble_eq_true rfl) (sm_X12_order t m a0 a1 h0) (by rw [h]; rfl) (Nat.le_refl _) (Nat.le_refl _)
def tb_X12_range_ : Tb := [(0, (.iload_n 1, 1)), (1, (.ifCond .lt 17, 3)), (4, (.iload_n 1, 1)), (5, (.bipush 15, 2)), (7, (.if_icmp .gt 11, 3)), (10, (.aload_n 0, 1)), (11, (.iload_n 2, 1)), (12, (.invokevirtual 293, 3)), (15, (.ifCond .ne 5, 3)), (18, (.iconst (-1), 1)), (19, (.ireturn, 1)), (20, (.aload_n 0, 1)), (21, (.invokevirtual 296, 3)), (24, (.aload_n 0, 1)), (25, (.sipush 268, 3)), (28, (.invokevirtual 299, 3)), (31, (.istore_n 3, 1)), (32, (.iload_n 3, 1)), (33, (.ifCond .eq 16, 3)), (36, (.aload_n 0, 1)), (37, (.getfield 237, 3)), (40, (.ifCond .eq 9, 3)), (43, (.aload_n 0, 1)), (44, (.iconst 1, 1)), (45, (.invokevirtual 280, 3)), (48, (.istore_n 3, 1)), (49, (.iload_n 3, 1)), (50, (.ifCond .ne 16, 3)), (53, (.aload_n 0, 1)), (54, (.getfield 274, 3)), (57, (.bipush 8, 2)), (59, (.aload_n 0, 1)), (60, (.getfield 277, 3)), (63, (.imul, 1)), (64, (.iadd, 1)), (65, (.ireturn, 1)), (66, (.aload_n 0, 1)), (67, (.iload_n 1, 1)), (68, (.invokestatic 141, 3)), (71, (.sipush 268, 3)), (74, (.invokevirtual 302, 3)), (77, (.iconst 0, 1)), (78, (.ireturn, 1))]
def u_X12_range_ : Fx := (yX12_range_, (cX12_range_, (4, ((some .int), tb_X12_range_))))
theorem tk_X12_range_ : ∀ q ∈ u_X12_range_.2.2.2.2, decode u_X12_range_.2.1 q.1 = .ok q.2 := by decide +kernel
theorem mc_X12_range_ : MC u_X12_range_ 2 := ⟨tbm 1522 (by decide +kernel) rfl, tbm 128 (by decide +kernel) rfl, ⟨by decide, by decide, by decide +kernel⟩, by decide⟩
theorem in_X12_range_ : Cond.instanceMethod u_X12_range_.1 ∈ TB ∧ Cond.selects u_X12_range_.1.cls u_X12_range_.1 u_X12_range_.1 ∈ TB := ⟨tbm 1520 (by decide +kernel) rfl, tbm 1521 (by decide +kernel) rfl⟩
def f_X12_range__j49 (t : List Sh) (m : Mi) (a0 : Nat) (a1 : Int32) (a3 : Int32) : Option (Int32 × Mi) :=
  if a3 = 0 then
    some ((gi m a0 19) + (8 * (gi m a0 20)), m)
  else
    (f_X12_slotOf a1).bind fun x10 =>
    (f_X12_copyRange t m a0 x10 268).bind fun m11 =>
    some (0, m11)
def f_X12_range_ (t : List Sh) (m : Mi) (a0 : Nat) (a1 : Int32) (a2 : Int32) : Option (Int32 × Mi) :=
  if a1 < 0 then
    some ((-1), m)
  else
    if 15 < a1 then
      some ((-1), m)
    else
      bd (f_X12_takes t m a0 a2) fun x3 m4 =>
      if x3 = 0 then
        some ((-1), m4)
      else
        (f_X12_starts t m4 a0).bind fun m6 =>
        bd (f_X12_range t m6 a0 268) fun x7 m8 =>
        if x7 = 0 then
          f_X12_range__j49 t m8 a0 a1 x7
        else
          if (gi m8 a0 14) = 0 then
            f_X12_range__j49 t m8 a0 a1 x7
          else
            bd (f_X12_fault t m8 a0 1) fun x14 m15 =>
            f_X12_range__j49 t m15 a0 a1 x14
set_option maxRecDepth 4000 in
set_option maxHeartbeats 4000000 in
theorem sm_X12_range_ (t : List Sh) (m : Mi) (a0 : Nat) (a1 : Int32) (a2 : Int32) (h0 : sh t a0 = some (.inl 12)) : Sm u_X12_range_ (9, 0, 0, t.length, zs t) (kI t) 0 [(0, .inr (.inr a0)), (1, .inl a1), (2, .inl a2)] [] (t, m) (f_X12_range_ t m a0 a1 a2) := by
  unfold f_X12_range_
  refine r_iload_n 0 1 1 rfl rfl rfl rfl ?_
  refine r_if_lt 1 18 4 rfl rfl rfl (fun h1 => ?_) (fun h1 => ?_)
  · refine r_iconst 9 19 (v := (-1)) rfl rfl (by decide) ?_
    exact r_iret 10 rfl rfl rfl
  · refine r_iload_n 2 5 1 rfl rfl rfl rfl ?_
    refine r_bipush 3 7 (v := 15) rfl rfl (by decide) ?_
    refine r_icmp_gt 4 18 10 rfl rfl rfl (fun h2 => ?_) (fun h2 => ?_)
    · refine r_iconst 9 19 (v := (-1)) rfl rfl (by decide) ?_
      exact r_iret 10 rfl rfl rfl
    · refine r_aload_n 5 11 0 rfl rfl rfl rfl ?_
      refine r_iload_n 6 12 2 rfl rfl rfl rfl ?_
      refine r_VI 7 15 (st := []) (av := [.inr (.inr a0), .inl a2]) (av' := [.inl a2]) (μ' := u_X12_takes) (d := 1) rfl rfl mc_X12_takes in_X12_takes lk_RX12_293 (Nat.le_of_ble_eq_true rfl) rfl rfl h0 rfl (Nat.le_of_ble_eq_true rfl) (fun _ _ h => ct_X12_takes h0 h) (fun x3 m4 => ?_)
      refine r_if_ne 8 20 18 rfl rfl rfl (fun h5 => ?_) (fun h5 => ?_)
      · refine r_iconst 9 19 (v := (-1)) rfl rfl (by decide) ?_
        exact r_iret 10 rfl rfl rfl
      · refine r_aload_n 11 21 0 rfl rfl rfl rfl ?_
        refine r_VV 12 24 (st := []) (av := [.inr (.inr a0)]) (av' := []) (μ' := u_X12_starts) (d := 8) rfl rfl mc_X12_starts in_X12_starts lk_RX12_296 (Nat.le_of_ble_eq_true rfl) rfl rfl h0 rfl (Nat.le_of_ble_eq_true rfl) (fun _ h => ct_X12_starts h0 h) (fun m6 => ?_)
        refine r_aload_n 13 25 0 rfl rfl rfl rfl ?_
        refine r_sipush 14 28 (v := 268) rfl rfl (by decide) ?_
        refine r_VI 15 31 (st := []) (av := [.inr (.inr a0), .inl 268]) (av' := [.inl 268]) (μ' := u_X12_range) (d := 8) rfl rfl mc_X12_range in_X12_range lk_RX12_299 (Nat.le_of_ble_eq_true rfl) rfl rfl h0 rfl (Nat.le_of_ble_eq_true rfl) (fun _ _ h => ct_X12_range h0 h) (fun x7 m8 => ?_)
        refine r_istore_n 16 32 (L' := [(3, .inl x7), (0, .inr (.inr a0)), (1, .inl a1), (2, .inl a2)]) rfl rfl rfl (by decide) rfl ?_
        refine r_iload_n 17 33 0 rfl rfl rfl rfl ?_
        have hj49 : ∀ (m : Mi) (a3 : Int32), Sm u_X12_range_ (9, 0, 0, t.length, zs t) (kI t) 49 [(0, .inr (.inr a0)), (1, .inl a1), (3, .inl a3)] [] (t, m) (f_X12_range__j49 t m a0 a1 a3) := by
          intro m a3
          unfold f_X12_range__j49
          refine r_iload_n 26 50 2 rfl rfl rfl rfl ?_
          refine r_if_ne 27 66 53 rfl rfl rfl (fun h9 => ?_) (fun h9 => ?_)
          · refine r_aload_n 28 54 0 rfl rfl rfl rfl ?_
            refine r_getI 29 57 rfl rfl fl_RX12_274 rfl h0 ?_
            refine r_bipush 30 59 (v := 8) rfl rfl (by decide) ?_
            refine r_aload_n 31 60 0 rfl rfl rfl rfl ?_
            refine r_getI 32 63 rfl rfl fl_RX12_277 rfl h0 ?_
            refine r_imul 33 64 rfl rfl ?_
            refine r_iadd 34 65 rfl rfl ?_
            exact r_iret 35 rfl rfl rfl
          · refine r_aload_n 36 67 0 rfl rfl rfl rfl ?_
            refine r_iload_n 37 68 1 rfl rfl rfl rfl ?_
            refine r_SIo 38 71 (a := 0) (cn := 0) (st := [.inr (.inr a0)]) (av := [.inl a1]) (μ' := u_X12_slotOf) (d := 1) rfl rfl mc_X12_slotOf st_X12_slotOf lk_RX12_141 (Nat.le_of_ble_eq_true rfl) rfl (Nat.le_of_ble_eq_true rfl) (fun _ h => ct_X12_slotOf h) (fun x10 => ?_)
            refine r_sipush 39 74 (v := 268) rfl rfl (by decide) ?_
            refine r_VV 40 77 (st := []) (av := [.inr (.inr a0), .inl x10, .inl 268]) (av' := [.inl x10, .inl 268]) (μ' := u_X12_copyRange) (d := 1) rfl rfl mc_X12_copyRange in_X12_copyRange lk_RX12_302 (Nat.le_of_ble_eq_true rfl) rfl rfl h0 rfl (Nat.le_of_ble_eq_true rfl) (fun _ h => ct_X12_copyRange h0 h) (fun m11 => ?_)
            refine r_iconst 41 78 (v := 0) rfl rfl (by decide) ?_
            exact r_iret 42 rfl rfl rfl
        refine r_if_eq 18 49 36 rfl rfl rfl (fun h12 => ?_) (fun h12 => ?_)
        · exact r_sub [1, 2, 0] rfl (hj49 m8 x7)
        · refine r_aload_n 19 37 1 rfl rfl rfl rfl ?_
          refine r_getI 20 40 rfl rfl fl_RX12_237 rfl h0 ?_
          refine r_if_eq 21 49 43 rfl rfl rfl (fun h13 => ?_) (fun h13 => ?_)
          · exact r_sub [1, 2, 0] rfl (hj49 m8 x7)
          · refine r_aload_n 22 44 1 rfl rfl rfl rfl ?_
            refine r_iconst 23 45 (v := 1) rfl rfl (by decide) ?_
            refine r_VI 24 48 (st := []) (av := [.inr (.inr a0), .inl 1]) (av' := [.inl 1]) (μ' := u_X12_fault) (d := 1) rfl rfl mc_X12_fault in_X12_fault lk_RX12_280 (Nat.le_of_ble_eq_true rfl) rfl rfl h0 rfl (Nat.le_of_ble_eq_true rfl) (fun _ _ h => ct_X12_fault h0 h) (fun x14 m15 => ?_)
            refine r_istore_n 25 49 (L' := [(3, .inl x14), (0, .inr (.inr a0)), (1, .inl a1), (2, .inl a2)]) rfl rfl rfl (by decide) rfl ?_
            exact r_sub [1, 2, 0] rfl (hj49 m15 x14)
theorem ct_X12_range_ {t : List Sh} {m : Mi} {a0 : Nat} {a1 : Int32} {a2 : Int32} {m' : Mi} {v : Int32}  (h0 : sh t a0 = some (.inl 12)) (h : f_X12_range_ t m a0 a1 a2 = some (v, m')) : Ct u_X12_range_ 9 0 0 [.inr (.inr a0), .inl a1, .inl a2] (t, m) (some (.inl v), (t, m')) :=
  ct_of (by decide) tk_X12_range_ (Nat.le_of_ble_eq_true rfl) (sm_X12_range_ t m a0 a1 a2 h0) (by rw [h]; rfl) (Nat.le_refl _) (Nat.le_refl _)
theorem lk_RX12_315 : Cond.methodLink RX12 315 yX12_constraint ∈ TB := tbm 1660 (by decide +kernel) rfl
def tb_X12_release : Tb := [(0, (.aload_n 0, 1)), (1, (.getfield 43, 3)), (4, (.iload_n 1, 1)), (5, (.iaload, 1)), (6, (.iconst 1, 1)), (7, (.isub, 1)), (8, (.istore_n 2, 1)), (9, (.aload_n 0, 1)), (10, (.getfield 237, 3)), (13, (.iconst 2, 1)), (14, (.if_icmp .ne 26, 3)), (17, (.aload_n 0, 1)), (18, (.getfield 256, 3)), (21, (.ifCond .ne 19, 3)), (24, (.aload_n 0, 1)), (25, (.aload_n 0, 1)), (26, (.getfield 259, 3)), (29, (.aload_n 0, 1)), (30, (.getfield 234, 3)), (33, (.invokevirtual 265, 3)), (36, (.iconst 2, 1)), (37, (.if_icmp .eq 9, 3)), (40, (.aload_n 0, 1)), (41, (.iconst 1, 1)), (42, (.invokevirtual 280, 3)), (45, (.ireturn, 1)), (46, (.aload_n 0, 1)), (47, (.getfield 46, 3)), (50, (.iload_n 1, 1)), (51, (.iaload, 1)), (52, (.istore_n 3, 1)), (53, (.iload_n 3, 1)), (54, (.aload_n 0, 1)), (55, (.getfield 61, 3)), (58, (.bipush 11, 2)), (60, (.iload_n 1, 1)), (61, (.imul, 1)), (62, (.iload_n 2, 1)), (63, (.iadd, 1)), (64, (.iaload, 1)), (65, (.isub, 1)), (66, (.bipush 6, 2)), (68, (.if_icmp .ne 9, 3)), (71, (.aload_n 0, 1)), (72, (.iconst 2, 1)), (73, (.invokevirtual 280, 3)), (76, (.ireturn, 1)), (77, (.aload_n 0, 1)), (78, (.getfield 61, 3)), (81, (.bipush 11, 2)), (83, (.iload_n 1, 1)), (84, (.imul, 1)), (85, (.iload_n 2, 1)), (86, (.iadd, 1)), (87, (.iaload, 1)), (88, (.istore 4, 2)), (90, (.iload 4, 2)), (92, (.iload_n 3, 1)), (93, (.if_icmp .ge 40, 3)), (96, (.aload_n 0, 1)), (97, (.getfield 73, 3)), (100, (.bipush 60, 2)), (102, (.iload_n 1, 1)), (103, (.imul, 1)), (104, (.iload 4, 2)), (106, (.iadd, 1)), (107, (.bipush 9, 2)), (109, (.imul, 1)), (110, (.aload_n 0, 1)), (111, (.getfield 16, 3)), (114, (.iconst 0, 1)), (115, (.invokestatic 209, 3)), (118, (.ifCond .ne 9, 3)), (121, (.aload_n 0, 1)), (122, (.iconst 3, 1)), (123, (.invokevirtual 280, 3)), (126, (.ireturn, 1)), (127, (.iinc 4 1, 3)), (130, (.goto (-40), 3)), (133, (.aload_n 0, 1)), (134, (.getfield 64, 3)), (137, (.bipush 60, 2)), (139, (.iload_n 1, 1)), (140, (.imul, 1)), (141, (.iload_n 3, 1)), (142, (.iadd, 1)), (143, (.iload_n 2, 1)), (144, (.iastore, 1)), (145, (.aload_n 0, 1)), (146, (.getfield 67, 3)), (149, (.bipush 60, 2)), (151, (.iload_n 1, 1)), (152, (.imul, 1)), (153, (.iload_n 3, 1)), (154, (.iadd, 1)), (155, (.aload_n 0, 1)), (156, (.getfield 231, 3)), (159, (.iastore, 1)), (160, (.aload_n 0, 1)), (161, (.getfield 70, 3)), (164, (.bipush 60, 2)), (166, (.iload_n 1, 1)), (167, (.imul, 1)), (168, (.iload_n 3, 1)), (169, (.iadd, 1)), (170, (.aload_n 0, 1)), (171, (.getfield 234, 3)), (174, (.aload_n 0, 1)), (175, (.getfield 231, 3)), (178, (.isub, 1)), (179, (.iastore, 1)), (180, (.aload_n 0, 1)), (181, (.getfield 73, 3)), (184, (.bipush 60, 2)), (186, (.iload_n 1, 1)), (187, (.imul, 1)), (188, (.iload_n 3, 1)), (189, (.iadd, 1)), (190, (.bipush 9, 2)), (192, (.imul, 1)), (193, (.aload_n 0, 1)), (194, (.getfield 16, 3)), (197, (.iconst 0, 1)), (198, (.invokestatic 224, 3)), (201, (.aload_n 0, 1)), (202, (.getfield 46, 3)), (205, (.iload_n 1, 1)), (206, (.iload_n 3, 1)), (207, (.iconst 1, 1)), (208, (.iadd, 1)), (209, (.iastore, 1)), (210, (.aload_n 0, 1)), (211, (.invokevirtual 290, 3)), (214, (.iconst 0, 1)), (215, (.istore 4, 2)), (217, (.aload_n 0, 1)), (218, (.getfield 237, 3)), (221, (.bipush 10, 2)), (223, (.if_icmp .eq 12, 3)), (226, (.aload_n 0, 1)), (227, (.getfield 237, 3)), (230, (.bipush 11, 2)), (232, (.if_icmp .ne 53, 3)), (235, (.iload 4, 2)), (237, (.iconst 4, 1)), (238, (.if_icmp .ne 9, 3)), (241, (.aload_n 0, 1)), (242, (.iconst 2, 1)), (243, (.invokevirtual 280, 3)), (246, (.ireturn, 1)), (247, (.iload 4, 2)), (249, (.iconst 1, 1)), (250, (.iadd, 1)), (251, (.istore 4, 2)), (253, (.aload_n 0, 1)), (254, (.iload_n 1, 1)), (255, (.iload_n 3, 1)), (256, (.aload_n 0, 1)), (257, (.getfield 237, 3)), (260, (.invokevirtual 315, 3)), (263, (.ifCond .ne 5, 3)), (266, (.iconst 0, 1)), (267, (.ireturn, 1)), (268, (.aload_n 0, 1)), (269, (.getfield 49, 3)), (272, (.iload_n 1, 1)), (273, (.aload_n 0, 1)), (274, (.getfield 49, 3)), (277, (.iload_n 1, 1)), (278, (.iaload, 1)), (279, (.iconst 1, 1)), (280, (.iadd, 1)), (281, (.iastore, 1)), (282, (.goto (-65), 3)), (285, (.aload_n 0, 1)), (286, (.getfield 237, 3)), (289, (.bipush 6, 2)), (291, (.if_icmp .eq 9, 3)), (294, (.aload_n 0, 1)), (295, (.iconst 1, 1)), (296, (.invokevirtual 280, 3)), (299, (.ireturn, 1)), (300, (.aload_n 0, 1)), (301, (.invokevirtual 290, 3)), (304, (.iconst 1, 1)), (305, (.ireturn, 1))]
def u_X12_release : Fx := (yX12_release, (cX12_release, (5, ((some .boolean), tb_X12_release))))
theorem tk_X12_release : ∀ q ∈ u_X12_release.2.2.2.2, decode u_X12_release.2.1 q.1 = .ok q.2 := by decide +kernel
theorem mc_X12_release : MC u_X12_release 1 := ⟨tbm 1659 (by decide +kernel) rfl, tbm 128 (by decide +kernel) rfl, ⟨by decide, by decide, by decide +kernel⟩, by decide⟩
theorem in_X12_release : Cond.instanceMethod u_X12_release.1 ∈ TB ∧ Cond.selects u_X12_release.1.cls u_X12_release.1 u_X12_release.1 ∈ TB := ⟨tbm 1658 (by decide +kernel) rfl, tbm 89 (by decide +kernel) rfl⟩
def f_X12_release_j40 (t : List Sh) (m : Mi) (a0 : Nat) : Option (Int32 × Mi) :=
  bd (f_X12_fault t m a0 1) fun x3 m4 =>
  (if zb x3 = true then
  some (x3, m4)
  else none)
def f_X12_release_j121 (t : List Sh) (m : Mi) (a0 : Nat) : Option (Int32 × Mi) :=
  bd (f_X12_fault t m a0 3) fun x19 m20 =>
  (if zb x19 = true then
  some (x19, m20)
  else none)
def f_X12_release_j241 (t : List Sh) (m : Mi) (a0 : Nat) : Option (Int32 × Mi) :=
  bd (f_X12_fault t m a0 2) fun x32 m33 =>
  (if zb x32 = true then
  some (x32, m33)
  else none)
def f_X12_release_j266 (t : List Sh) (m : Mi) : Option (Int32 × Mi) :=
  some (0, m)
def f_X12_release_j285 (t : List Sh) (m : Mi) (a0 : Nat) : Option (Int32 × Mi) :=
  if (gi m a0 14) = 6 then
    (f_X12_token t m a0).bind fun m36 =>
    some (1, m36)
  else
    bd (f_X12_fault t m a0 1) fun x37 m38 =>
    (if zb x37 = true then
    some (x37, m38)
    else none)
def f_X12_release_j235 (t : List Sh) (m : Mi) (a0 : Nat) (a1 : Int32) (a3 : Int32) (a4 : Int32) : Option ((Int32 × Mi) ⊕ (((Mi) ⊕ ((Mi) ⊕ (Mi))))) :=
  if a4 = 4 then
    some (.inr (.inr (.inl m)))
  else
    lt (a4 + 1) fun x41 =>
    bd (f_X12_constraint t m a0 a1 a3 (gi m a0 14)) fun x42 m43 =>
    if x42 = 0 then
      some (.inr (.inr (.inr m43)))
    else
      (if ar t (gr m43 a0 25) .int a1 = true then
      lt (si m43 (gr m43 a0 25) (ix a1) ((gi m43 (gr m43 a0 25) (ix a1)) + 1)) fun m46 =>
      some (.inl (x41, m46))
      else none)
def f_X12_release_l217 (t : List Sh) (m : Mi) (a0 : Nat) (a1 : Int32) (a3 : Int32) (a4 : Int32) : Option ((Int32 × Mi) ⊕ (((Mi) ⊕ ((Mi) ⊕ (Mi))))) :=
  if (gi m a0 14) = 10 then
    f_X12_release_j235 t m a0 a1 a3 a4
  else
    if (gi m a0 14) = 11 then
      f_X12_release_j235 t m a0 a1 a3 a4
    else
      some (.inr (.inl m))
def f_X12_release_j217 (t : List Sh) (m : Mi) (a0 : Nat) (a1 : Int32) (a3 : Int32) (a4 : Int32) : Option (Int32 × Mi) :=
  (lp (fun x : Int32 × Mi => f_X12_release_l217 t x.2 a0 a1 a3 x.1) FUEL (a4, m)).bind (Sum.elim (fun y : Mi => f_X12_release_j285 t y a0) (Sum.elim (fun y : Mi => f_X12_release_j241 t y a0) (fun y : Mi => f_X12_release_j266 t y)))
def f_X12_release_j133 (t : List Sh) (m : Mi) (a0 : Nat) (a1 : Int32) (a2 : Int32) (a3 : Int32) : Option (Int32 × Mi) :=
  (if ar t (gr m a0 30) .int ((60 * a1) + a3) = true then
  lt (si m (gr m a0 30) (ix ((60 * a1) + a3)) a2) fun m23 =>
  (if ar t (gr m23 a0 31) .int ((60 * a1) + a3) = true then
  lt (si m23 (gr m23 a0 31) (ix ((60 * a1) + a3)) (gi m23 a0 15)) fun m25 =>
  (if ar t (gr m25 a0 32) .int ((60 * a1) + a3) = true then
  lt (si m25 (gr m25 a0 32) (ix ((60 * a1) + a3)) ((gi m25 a0 16) - (gi m25 a0 15))) fun m27 =>
  (f_X12_copy t m27 (gr m27 a0 33) (((60 * a1) + a3) * 9) (gr m27 a0 4) 0).bind fun m28 =>
  (if ar t (gr m28 a0 24) .int a1 = true then
  lt (si m28 (gr m28 a0 24) (ix a1) (a3 + 1)) fun m30 =>
  (f_X12_token t m30 a0).bind fun m31 =>
  f_X12_release_j217 t m31 a0 a1 a3 0
  else none)
  else none)
  else none)
  else none)
def f_X12_release_l90 (t : List Sh) (m : Mi) (a0 : Nat) (a1 : Int32) (a2 : Int32) (a3 : Int32) (a4 : Int32) : Option ((Int32) ⊕ ((Unit) ⊕ (Unit))) :=
  if a3 ≤ a4 then
    some (.inr (.inl ()))
  else
    (f_X12_compare t m (gr m a0 33) (((60 * a1) + a4) * 9) (gr m a0 4) 0).bind fun x50 =>
    if x50 = 0 then
      some (.inr (.inr ()))
    else
      lt (a4 + 1) fun x52 =>
      some (.inl x52)
def f_X12_release_j90 (t : List Sh) (m : Mi) (a0 : Nat) (a1 : Int32) (a2 : Int32) (a3 : Int32) (a4 : Int32) : Option (Int32 × Mi) :=
  (lp (fun x : Int32 => f_X12_release_l90 t m a0 a1 a2 a3 x) FUEL a4).bind (Sum.elim (fun y : Unit => f_X12_release_j133 t m a0 a1 a2 a3) (fun y : Unit => f_X12_release_j121 t m a0))
def f_X12_release (t : List Sh) (m : Mi) (a0 : Nat) (a1 : Int32) : Option (Int32 × Mi) :=
  (if ar t (gr m a0 23) .int a1 = true then
  lt ((gi m (gr m a0 23) (ix a1)) - 1) fun x2 =>
  if (gi m a0 14) = 2 then
    if (gi m a0 18) = 0 then
      bd (f_X12_reads t m a0 (gi m a0 17) (gi m a0 16)) fun x8 m9 =>
      if x8 = 2 then
        (if ar t (gr m9 a0 24) .int a1 = true then
        lt (gi m9 (gr m9 a0 24) (ix a1)) fun x12 =>
        (if ar t (gr m9 a0 29) .int ((11 * a1) + x2) = true then
        if (x12 - (gi m9 (gr m9 a0 29) (ix ((11 * a1) + x2)))) = 6 then
          bd (f_X12_fault t m9 a0 2) fun x15 m16 =>
          (if zb x15 = true then
          some (x15, m16)
          else none)
        else
          lt (gi m9 (gr m9 a0 29) (ix ((11 * a1) + x2))) fun x18 =>
          f_X12_release_j90 t m9 a0 a1 x2 x12 x18
        else none)
        else none)
      else
        f_X12_release_j40 t m9 a0
    else
      f_X12_release_j40 t m a0
  else
    f_X12_release_j40 t m a0
  else none)
set_option maxRecDepth 4000 in
set_option maxHeartbeats 4000000 in
theorem sm_X12_release (t : List Sh) (m : Mi) (a0 : Nat) (a1 : Int32) (h0 : sh t a0 = some (.inl 12)) : Sm u_X12_release (10, 0, 0, t.length, zs t) (kI t) 0 [(0, .inr (.inr a0)), (1, .inl a1)] [] (t, m) (f_X12_release t m a0 a1) := by
  unfold f_X12_release
  refine r_aload_n 0 1 0 rfl rfl rfl rfl ?_
  refine r_getR 1 4 rfl rfl fl_RX12_43 rfl h0 ?_
  refine r_iload_n 2 5 1 rfl rfl rfl rfl ?_
  refine r_gd (fun h1 => ?_)
  refine r_iald 3 6 rfl rfl h1 ?_
  refine r_iconst 4 7 (v := 1) rfl rfl (by decide) ?_
  refine r_isub 5 8 rfl rfl ?_
  refine r_ltI (fun x2 => ?_)
  refine r_istore_n 6 9 (L' := [(2, .inl x2), (0, .inr (.inr a0)), (1, .inl a1)]) rfl rfl rfl (by decide) rfl ?_
  refine r_aload_n 7 10 1 rfl rfl rfl rfl ?_
  refine r_getI 8 13 rfl rfl fl_RX12_237 rfl h0 ?_
  refine r_iconst 9 14 (v := 2) rfl rfl (by decide) ?_
  have hj40 : ∀ (m : Mi), Sm u_X12_release (10, 0, 0, t.length, zs t) (kI t) 40 [(0, .inr (.inr a0))] [] (t, m) (f_X12_release_j40 t m a0) := by
    intro m
    unfold f_X12_release_j40
    refine r_aload_n 22 41 0 rfl rfl rfl rfl ?_
    refine r_iconst 23 42 (v := 1) rfl rfl (by decide) ?_
    refine r_VI 24 45 (st := []) (av := [.inr (.inr a0), .inl 1]) (av' := [.inl 1]) (μ' := u_X12_fault) (d := 1) rfl rfl mc_X12_fault in_X12_fault lk_RX12_280 (Nat.le_of_ble_eq_true rfl) rfl rfl h0 rfl (Nat.le_of_ble_eq_true rfl) (fun _ _ h => ct_X12_fault h0 h) (fun x3 m4 => ?_)
    refine r_gd (fun h5 => ?_)
    exact r_zret 25 rfl rfl (zb_nar h5) rfl
  refine r_icmp_ne 10 40 17 rfl rfl rfl (fun h6 => ?_) (fun h6 => ?_)
  · refine r_aload_n 11 18 1 rfl rfl rfl rfl ?_
    refine r_getI 12 21 rfl rfl fl_RX12_256 rfl h0 ?_
    refine r_if_ne 13 40 24 rfl rfl rfl (fun h7 => ?_) (fun h7 => ?_)
    · refine r_aload_n 14 25 1 rfl rfl rfl rfl ?_
      refine r_aload_n 15 26 1 rfl rfl rfl rfl ?_
      refine r_getI 16 29 rfl rfl fl_RX12_259 rfl h0 ?_
      refine r_aload_n 17 30 1 rfl rfl rfl rfl ?_
      refine r_getI 18 33 rfl rfl fl_RX12_234 rfl h0 ?_
      refine r_VI 19 36 (st := []) (av := [.inr (.inr a0), .inl (gi m a0 17), .inl (gi m a0 16)]) (av' := [.inl (gi m a0 17), .inl (gi m a0 16)]) (μ' := u_X12_reads) (d := 5) rfl rfl mc_X12_reads in_X12_reads lk_RX12_265 (Nat.le_of_ble_eq_true rfl) rfl rfl h0 rfl (Nat.le_of_ble_eq_true rfl) (fun _ _ h => ct_X12_reads h0 h) (fun x8 m9 => ?_)
      refine r_iconst 20 37 (v := 2) rfl rfl (by decide) ?_
      refine r_icmp_eq 21 46 40 rfl rfl rfl (fun h10 => ?_) (fun h10 => ?_)
      · refine r_aload_n 26 47 1 rfl rfl rfl rfl ?_
        refine r_getR 27 50 rfl rfl fl_RX12_46 rfl h0 ?_
        refine r_iload_n 28 51 2 rfl rfl rfl rfl ?_
        refine r_gd (fun h11 => ?_)
        refine r_iald 29 52 rfl rfl h11 ?_
        refine r_ltI (fun x12 => ?_)
        refine r_istore_n 30 53 (L' := [(3, .inl x12), (2, .inl x2), (0, .inr (.inr a0)), (1, .inl a1)]) rfl rfl rfl (by decide) rfl ?_
        refine r_iload_n 31 54 0 rfl rfl rfl rfl ?_
        refine r_aload_n 32 55 2 rfl rfl rfl rfl ?_
        refine r_getR 33 58 rfl rfl fl_RX12_61 rfl h0 ?_
        refine r_bipush 34 60 (v := 11) rfl rfl (by decide) ?_
        refine r_iload_n 35 61 3 rfl rfl rfl rfl ?_
        refine r_imul 36 62 rfl rfl ?_
        refine r_iload_n 37 63 1 rfl rfl rfl rfl ?_
        refine r_iadd 38 64 rfl rfl ?_
        refine r_gd (fun h13 => ?_)
        refine r_iald 39 65 rfl rfl h13 ?_
        refine r_isub 40 66 rfl rfl ?_
        refine r_bipush 41 68 (v := 6) rfl rfl (by decide) ?_
        refine r_icmp_ne 42 77 71 rfl rfl rfl (fun h14 => ?_) (fun h14 => ?_)
        · refine r_aload_n 43 72 2 rfl rfl rfl rfl ?_
          refine r_iconst 44 73 (v := 2) rfl rfl (by decide) ?_
          refine r_VI 45 76 (st := []) (av := [.inr (.inr a0), .inl 2]) (av' := [.inl 2]) (μ' := u_X12_fault) (d := 1) rfl rfl mc_X12_fault in_X12_fault lk_RX12_280 (Nat.le_of_ble_eq_true rfl) rfl rfl h0 rfl (Nat.le_of_ble_eq_true rfl) (fun _ _ h => ct_X12_fault h0 h) (fun x15 m16 => ?_)
          refine r_gd (fun h17 => ?_)
          exact r_zret 46 rfl rfl (zb_nar h17) rfl
        · refine r_aload_n 47 78 2 rfl rfl rfl rfl ?_
          refine r_getR 48 81 rfl rfl fl_RX12_61 rfl h0 ?_
          refine r_bipush 49 83 (v := 11) rfl rfl (by decide) ?_
          refine r_iload_n 50 84 3 rfl rfl rfl rfl ?_
          refine r_imul 51 85 rfl rfl ?_
          refine r_iload_n 52 86 1 rfl rfl rfl rfl ?_
          refine r_iadd 53 87 rfl rfl ?_
          refine r_iald 54 88 rfl rfl h13 ?_
          refine r_ltI (fun x18 => ?_)
          refine r_istore 55 90 (L' := [(4, .inl x18), (3, .inl x12), (2, .inl x2), (0, .inr (.inr a0)), (1, .inl a1)]) rfl rfl (by decide) rfl ?_
          have hj90 : ∀ (m : Mi) (a2 : Int32) (a3 : Int32) (a4 : Int32), Sm u_X12_release (10, 0, 0, t.length, zs t) (kI t) 90 [(0, .inr (.inr a0)), (1, .inl a1), (2, .inl a2), (3, .inl a3), (4, .inl a4)] [] (t, m) (f_X12_release_j90 t m a0 a1 a2 a3 a4) := by
            intro m a2 a3 a4
            unfold f_X12_release_j90
            have hj121 : ∀ (m : Mi), Sm u_X12_release (10, 0, 0, t.length, zs t) (kI t) 121 [(0, .inr (.inr a0))] [] (t, m) (f_X12_release_j121 t m a0) := by
              intro m
              unfold f_X12_release_j121
              refine r_aload_n 73 122 0 rfl rfl rfl rfl ?_
              refine r_iconst 74 123 (v := 3) rfl rfl (by decide) ?_
              refine r_VI 75 126 (st := []) (av := [.inr (.inr a0), .inl 3]) (av' := [.inl 3]) (μ' := u_X12_fault) (d := 1) rfl rfl mc_X12_fault in_X12_fault lk_RX12_280 (Nat.le_of_ble_eq_true rfl) rfl rfl h0 rfl (Nat.le_of_ble_eq_true rfl) (fun _ _ h => ct_X12_fault h0 h) (fun x19 m20 => ?_)
              refine r_gd (fun h21 => ?_)
              exact r_zret 76 rfl rfl (zb_nar h21) rfl
            have hj133 : ∀ (m : Mi) (a2 : Int32) (a3 : Int32), Sm u_X12_release (10, 0, 0, t.length, zs t) (kI t) 133 [(0, .inr (.inr a0)), (1, .inl a1), (2, .inl a2), (3, .inl a3)] [] (t, m) (f_X12_release_j133 t m a0 a1 a2 a3) := by
              intro m a2 a3
              unfold f_X12_release_j133
              refine r_aload_n 79 134 0 rfl rfl rfl rfl ?_
              refine r_getR 80 137 rfl rfl fl_RX12_64 rfl h0 ?_
              refine r_bipush 81 139 (v := 60) rfl rfl (by decide) ?_
              refine r_iload_n 82 140 1 rfl rfl rfl rfl ?_
              refine r_imul 83 141 rfl rfl ?_
              refine r_iload_n 84 142 3 rfl rfl rfl rfl ?_
              refine r_iadd 85 143 rfl rfl ?_
              refine r_iload_n 86 144 2 rfl rfl rfl rfl ?_
              refine r_gd (fun h22 => ?_)
              refine r_iast 87 145 rfl rfl h22 ?_
              refine r_ltM (fun m23 => ?_)
              refine r_aload_n 88 146 0 rfl rfl rfl rfl ?_
              refine r_getR 89 149 rfl rfl fl_RX12_67 rfl h0 ?_
              refine r_bipush 90 151 (v := 60) rfl rfl (by decide) ?_
              refine r_iload_n 91 152 1 rfl rfl rfl rfl ?_
              refine r_imul 92 153 rfl rfl ?_
              refine r_iload_n 93 154 3 rfl rfl rfl rfl ?_
              refine r_iadd 94 155 rfl rfl ?_
              refine r_aload_n 95 156 0 rfl rfl rfl rfl ?_
              refine r_getI 96 159 rfl rfl fl_RX12_231 rfl h0 ?_
              refine r_gd (fun h24 => ?_)
              refine r_iast 97 160 rfl rfl h24 ?_
              refine r_ltM (fun m25 => ?_)
              refine r_aload_n 98 161 0 rfl rfl rfl rfl ?_
              refine r_getR 99 164 rfl rfl fl_RX12_70 rfl h0 ?_
              refine r_bipush 100 166 (v := 60) rfl rfl (by decide) ?_
              refine r_iload_n 101 167 1 rfl rfl rfl rfl ?_
              refine r_imul 102 168 rfl rfl ?_
              refine r_iload_n 103 169 3 rfl rfl rfl rfl ?_
              refine r_iadd 104 170 rfl rfl ?_
              refine r_aload_n 105 171 0 rfl rfl rfl rfl ?_
              refine r_getI 106 174 rfl rfl fl_RX12_234 rfl h0 ?_
              refine r_aload_n 107 175 0 rfl rfl rfl rfl ?_
              refine r_getI 108 178 rfl rfl fl_RX12_231 rfl h0 ?_
              refine r_isub 109 179 rfl rfl ?_
              refine r_gd (fun h26 => ?_)
              refine r_iast 110 180 rfl rfl h26 ?_
              refine r_ltM (fun m27 => ?_)
              refine r_aload_n 111 181 0 rfl rfl rfl rfl ?_
              refine r_getR 112 184 rfl rfl fl_RX12_73 rfl h0 ?_
              refine r_bipush 113 186 (v := 60) rfl rfl (by decide) ?_
              refine r_iload_n 114 187 1 rfl rfl rfl rfl ?_
              refine r_imul 115 188 rfl rfl ?_
              refine r_iload_n 116 189 3 rfl rfl rfl rfl ?_
              refine r_iadd 117 190 rfl rfl ?_
              refine r_bipush 118 192 (v := 9) rfl rfl (by decide) ?_
              refine r_imul 119 193 rfl rfl ?_
              refine r_aload_n 120 194 0 rfl rfl rfl rfl ?_
              refine r_getR 121 197 rfl rfl fl_RX12_16 rfl h0 ?_
              refine r_iconst 122 198 (v := 0) rfl rfl (by decide) ?_
              refine r_SV 123 201 (a := 0) (cn := 0) (st := []) (av := [.inr (.inr (gr m27 a0 33)), .inl (((60 * a1) + a3) * 9), .inr (.inr (gr m27 a0 4)), .inl 0]) (μ' := u_X12_copy) (d := 1) rfl rfl mc_X12_copy st_X12_copy lk_RX12_224 (Nat.le_of_ble_eq_true rfl) rfl (Nat.le_of_ble_eq_true rfl) (fun _ h => ct_X12_copy h) (fun m28 => ?_)
              refine r_aload_n 124 202 0 rfl rfl rfl rfl ?_
              refine r_getR 125 205 rfl rfl fl_RX12_46 rfl h0 ?_
              refine r_iload_n 126 206 1 rfl rfl rfl rfl ?_
              refine r_iload_n 127 207 3 rfl rfl rfl rfl ?_
              refine r_iconst 128 208 (v := 1) rfl rfl (by decide) ?_
              refine r_iadd 129 209 rfl rfl ?_
              refine r_gd (fun h29 => ?_)
              refine r_iast 130 210 rfl rfl h29 ?_
              refine r_ltM (fun m30 => ?_)
              refine r_aload_n 131 211 0 rfl rfl rfl rfl ?_
              refine r_VV 132 214 (st := []) (av := [.inr (.inr a0)]) (av' := []) (μ' := u_X12_token) (d := 7) rfl rfl mc_X12_token in_X12_token lk_RX12_290 (Nat.le_of_ble_eq_true rfl) rfl rfl h0 rfl (Nat.le_of_ble_eq_true rfl) (fun _ h => ct_X12_token h0 h) (fun m31 => ?_)
              refine r_iconst 133 215 (v := 0) rfl rfl (by decide) ?_
              refine r_istore 134 217 (L' := [(4, .inl 0), (0, .inr (.inr a0)), (1, .inl a1), (2, .inl a2), (3, .inl a3)]) rfl rfl (by decide) rfl ?_
              have hj217 : ∀ (m : Mi) (a3 : Int32) (a4 : Int32), Sm u_X12_release (10, 0, 0, t.length, zs t) (kI t) 217 [(0, .inr (.inr a0)), (1, .inl a1), (3, .inl a3), (4, .inl a4)] [] (t, m) (f_X12_release_j217 t m a0 a1 a3 a4) := by
                intro m a3 a4
                unfold f_X12_release_j217
                have hj241 : ∀ (m : Mi), Sm u_X12_release (10, 0, 0, t.length, zs t) (kI t) 241 [(0, .inr (.inr a0))] [] (t, m) (f_X12_release_j241 t m a0) := by
                  intro m
                  unfold f_X12_release_j241
                  refine r_aload_n 146 242 0 rfl rfl rfl rfl ?_
                  refine r_iconst 147 243 (v := 2) rfl rfl (by decide) ?_
                  refine r_VI 148 246 (st := []) (av := [.inr (.inr a0), .inl 2]) (av' := [.inl 2]) (μ' := u_X12_fault) (d := 1) rfl rfl mc_X12_fault in_X12_fault lk_RX12_280 (Nat.le_of_ble_eq_true rfl) rfl rfl h0 rfl (Nat.le_of_ble_eq_true rfl) (fun _ _ h => ct_X12_fault h0 h) (fun x32 m33 => ?_)
                  refine r_gd (fun h34 => ?_)
                  exact r_zret 149 rfl rfl (zb_nar h34) rfl
                have hj266 : ∀ (m : Mi), Sm u_X12_release (10, 0, 0, t.length, zs t) (kI t) 266 [] [] (t, m) (f_X12_release_j266 t m) := by
                  intro m
                  unfold f_X12_release_j266
                  refine r_iconst 161 267 (v := 0) rfl rfl (by decide) ?_
                  exact r_zret 162 rfl rfl (by decide) rfl
                have hj285 : ∀ (m : Mi), Sm u_X12_release (10, 0, 0, t.length, zs t) (kI t) 285 [(0, .inr (.inr a0))] [] (t, m) (f_X12_release_j285 t m a0) := by
                  intro m
                  unfold f_X12_release_j285
                  refine r_aload_n 174 286 0 rfl rfl rfl rfl ?_
                  refine r_getI 175 289 rfl rfl fl_RX12_237 rfl h0 ?_
                  refine r_bipush 176 291 (v := 6) rfl rfl (by decide) ?_
                  refine r_icmp_eq 177 300 294 rfl rfl rfl (fun h35 => ?_) (fun h35 => ?_)
                  · refine r_aload_n 182 301 0 rfl rfl rfl rfl ?_
                    refine r_VV 183 304 (st := []) (av := [.inr (.inr a0)]) (av' := []) (μ' := u_X12_token) (d := 7) rfl rfl mc_X12_token in_X12_token lk_RX12_290 (Nat.le_of_ble_eq_true rfl) rfl rfl h0 rfl (Nat.le_of_ble_eq_true rfl) (fun _ h => ct_X12_token h0 h) (fun m36 => ?_)
                    refine r_iconst 184 305 (v := 1) rfl rfl (by decide) ?_
                    exact r_zret 185 rfl rfl (by decide) rfl
                  · refine r_aload_n 178 295 0 rfl rfl rfl rfl ?_
                    refine r_iconst 179 296 (v := 1) rfl rfl (by decide) ?_
                    refine r_VI 180 299 (st := []) (av := [.inr (.inr a0), .inl 1]) (av' := [.inl 1]) (μ' := u_X12_fault) (d := 1) rfl rfl mc_X12_fault in_X12_fault lk_RX12_280 (Nat.le_of_ble_eq_true rfl) rfl rfl h0 rfl (Nat.le_of_ble_eq_true rfl) (fun _ _ h => ct_X12_fault h0 h) (fun x37 m38 => ?_)
                    refine r_gd (fun h39 => ?_)
                    exact r_zret 181 rfl rfl (zb_nar h39) rfl
                refine r_lp (Lf := fun x : Int32 × Mi => [(0, .inr (.inr a0)), (1, .inl a1), (3, .inl a3), (4, .inl (x.1))]) (Mf := fun x : Int32 × Mi => (t, x.2)) (a4, m) ?_ FUEL
                rintro ⟨a4, m⟩ κ217 hc217 he217
                refine r_eq (L' := [(0, .inr (.inr a0)), (1, .inl a1), (3, .inl a3), (4, .inl a4)]) (M' := (t, m)) rfl rfl ?_
                refine r_eqr (r' := f_X12_release_l217 t m a0 a1 a3 a4) rfl ?_
                unfold f_X12_release_l217
                refine r_aload_n 135 218 0 rfl rfl rfl rfl ?_
                refine r_getI 136 221 rfl rfl fl_RX12_237 rfl h0 ?_
                refine r_bipush 137 223 (v := 10) rfl rfl (by decide) ?_
                have hj235 : ∀ (m : Mi) (a4 : Int32), Sm u_X12_release (10, 0, 0, t.length, zs t) κ217 235 [(0, .inr (.inr a0)), (1, .inl a1), (3, .inl a3), (4, .inl a4)] [] (t, m) (f_X12_release_j235 t m a0 a1 a3 a4) := by
                  intro m a4
                  unfold f_X12_release_j235
                  refine r_iload 143 237 3 rfl rfl rfl ?_
                  refine r_iconst 144 238 (v := 4) rfl rfl (by decide) ?_
                  refine r_icmp_ne 145 247 241 rfl rfl rfl (fun h40 => ?_) (fun h40 => ?_)
                  · refine r_leaf (r2 := (f_X12_release_j241 t m a0 : Option (Int32 × Mi))) (he217 _) ?_
                    exact r_sub [0] rfl (hj241 m)
                  · refine r_iload 150 249 3 rfl rfl rfl ?_
                    refine r_iconst 151 250 (v := 1) rfl rfl (by decide) ?_
                    refine r_iadd 152 251 rfl rfl ?_
                    refine r_ltI (fun x41 => ?_)
                    refine r_istore 153 253 (L' := [(4, .inl x41), (0, .inr (.inr a0)), (1, .inl a1), (3, .inl a3)]) rfl rfl (by decide) rfl ?_
                    refine r_aload_n 154 254 1 rfl rfl rfl rfl ?_
                    refine r_iload_n 155 255 2 rfl rfl rfl rfl ?_
                    refine r_iload_n 156 256 3 rfl rfl rfl rfl ?_
                    refine r_aload_n 157 257 1 rfl rfl rfl rfl ?_
                    refine r_getI 158 260 rfl rfl fl_RX12_237 rfl h0 ?_
                    refine r_VI 159 263 (st := []) (av := [.inr (.inr a0), .inl a1, .inl a3, .inl (gi m a0 14)]) (av' := [.inl a1, .inl a3, .inl (gi m a0 14)]) (μ' := u_X12_constraint) (d := 9) rfl rfl mc_X12_constraint in_X12_constraint lk_RX12_315 (Nat.le_of_ble_eq_true rfl) rfl rfl h0 rfl (Nat.le_of_ble_eq_true rfl) (fun _ _ h => ct_X12_constraint h0 h) (fun x42 m43 => ?_)
                    refine r_if_ne 160 268 266 rfl rfl rfl (fun h44 => ?_) (fun h44 => ?_)
                    · refine r_leaf (r2 := (f_X12_release_j266 t m43 : Option (Int32 × Mi))) (he217 _) ?_
                      exact r_sub [] rfl (hj266 m43)
                    · refine r_aload_n 163 269 1 rfl rfl rfl rfl ?_
                      refine r_getR 164 272 rfl rfl fl_RX12_49 rfl h0 ?_
                      refine r_iload_n 165 273 2 rfl rfl rfl rfl ?_
                      refine r_aload_n 166 274 1 rfl rfl rfl rfl ?_
                      refine r_getR 167 277 rfl rfl fl_RX12_49 rfl h0 ?_
                      refine r_iload_n 168 278 2 rfl rfl rfl rfl ?_
                      refine r_gd (fun h45 => ?_)
                      refine r_iald 169 279 rfl rfl h45 ?_
                      refine r_iconst 170 280 (v := 1) rfl rfl (by decide) ?_
                      refine r_iadd 171 281 rfl rfl ?_
                      refine r_iast 172 282 rfl rfl h45 ?_
                      refine r_ltM (fun m46 => ?_)
                      refine r_goto 173 217 rfl rfl ?_
                      exact r_sub [1, 2, 3, 0] rfl (hc217 (x41, m46))
                refine r_icmp_eq 138 235 226 rfl rfl rfl (fun h47 => ?_) (fun h47 => ?_)
                · exact hj235 m a4
                · refine r_aload_n 139 227 0 rfl rfl rfl rfl ?_
                  refine r_getI 140 230 rfl rfl fl_RX12_237 rfl h0 ?_
                  refine r_bipush 141 232 (v := 11) rfl rfl (by decide) ?_
                  refine r_icmp_ne 142 285 235 rfl rfl rfl (fun h48 => ?_) (fun h48 => ?_)
                  · exact hj235 m a4
                  · refine r_leaf (r2 := (f_X12_release_j285 t m a0 : Option (Int32 × Mi))) (he217 _) ?_
                    exact r_sub [0] rfl (hj285 m)
              exact r_sub [1, 2, 4, 0] rfl (hj217 m31 a3 0)
            refine r_lp (Lf := fun x : Int32 => [(0, .inr (.inr a0)), (1, .inl a1), (2, .inl a2), (3, .inl a3), (4, .inl x)]) (Mf := fun x : Int32 => (t, m)) a4 ?_ FUEL
            rintro a4 κ90 hc90 he90
            refine r_eq (L' := [(0, .inr (.inr a0)), (1, .inl a1), (2, .inl a2), (3, .inl a3), (4, .inl a4)]) (M' := (t, m)) rfl rfl ?_
            refine r_eqr (r' := f_X12_release_l90 t m a0 a1 a2 a3 a4) rfl ?_
            unfold f_X12_release_l90
            refine r_iload 56 92 4 rfl rfl rfl ?_
            refine r_iload_n 57 93 3 rfl rfl rfl rfl ?_
            refine r_icmp_ge 58 133 96 rfl rfl rfl (fun h49 => ?_) (fun h49 => ?_)
            · refine r_leaf (r2 := (f_X12_release_j133 t m a0 a1 a2 a3 : Option (Int32 × Mi))) (he90 _) ?_
              exact r_sub [0, 1, 2, 3] rfl (hj133 m a2 a3)
            · refine r_aload_n 59 97 0 rfl rfl rfl rfl ?_
              refine r_getR 60 100 rfl rfl fl_RX12_73 rfl h0 ?_
              refine r_bipush 61 102 (v := 60) rfl rfl (by decide) ?_
              refine r_iload_n 62 103 1 rfl rfl rfl rfl ?_
              refine r_imul 63 104 rfl rfl ?_
              refine r_iload 64 106 4 rfl rfl rfl ?_
              refine r_iadd 65 107 rfl rfl ?_
              refine r_bipush 66 109 (v := 9) rfl rfl (by decide) ?_
              refine r_imul 67 110 rfl rfl ?_
              refine r_aload_n 68 111 0 rfl rfl rfl rfl ?_
              refine r_getR 69 114 rfl rfl fl_RX12_16 rfl h0 ?_
              refine r_iconst 70 115 (v := 0) rfl rfl (by decide) ?_
              refine r_SIo 71 118 (a := 0) (cn := 0) (st := []) (av := [.inr (.inr (gr m a0 33)), .inl (((60 * a1) + a4) * 9), .inr (.inr (gr m a0 4)), .inl 0]) (μ' := u_X12_compare) (d := 1) rfl rfl mc_X12_compare st_X12_compare lk_RX12_209 (Nat.le_of_ble_eq_true rfl) rfl (Nat.le_of_ble_eq_true rfl) (fun _ h => ct_X12_compare h) (fun x50 => ?_)
              refine r_if_ne 72 127 121 rfl rfl rfl (fun h51 => ?_) (fun h51 => ?_)
              · refine r_leaf (r2 := (f_X12_release_j121 t m a0 : Option (Int32 × Mi))) (he90 _) ?_
                exact r_sub [0] rfl (hj121 m)
              · refine r_iinc 77 130 4 (L' := [(4, .inl (a4 + 1)), (0, .inr (.inr a0)), (1, .inl a1), (2, .inl a2), (3, .inl a3)]) rfl rfl rfl (by decide) rfl ?_
                refine r_ltV (fun x52 => ?_)
                refine r_goto 78 90 rfl rfl ?_
                exact r_sub [1, 2, 3, 4, 0] rfl (hc90 x52)
          exact r_sub [3, 4, 2, 1, 0] rfl (hj90 m9 x2 x12 x18)
      · exact r_sub [1] rfl (hj40 m9)
    · exact r_sub [1] rfl (hj40 m)
  · exact r_sub [1] rfl (hj40 m)
theorem ct_X12_release {t : List Sh} {m : Mi} {a0 : Nat} {a1 : Int32} {m' : Mi} {v : Int32}  (h0 : sh t a0 = some (.inl 12)) (h : f_X12_release t m a0 a1 = some (v, m')) : Ct u_X12_release 10 0 0 [.inr (.inr a0), .inl a1] (t, m) (some (.inl v), (t, m')) :=
  ct_of (by decide) tk_X12_release (Nat.le_of_ble_eq_true rfl) (sm_X12_release t m a0 a1 h0) (by rw [h]; rfl) (Nat.le_refl _) (Nat.le_refl _)
