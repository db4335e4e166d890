theorem fl_RX12_213 : FL RX12 213 12 10 false := ⟨RX12, TX12, 61, rfl, inW12, tyX12_ok, nmX12, by decide, rfl, rfl, rfl, tbm 1337 (by decide +kernel) rfl⟩
theorem fl_RX12_28 : FL RX12 28 12 9 true := ⟨RX12, TX12, 61, rfl, inW12, tyX12_ok, nmX12, by decide, rfl, rfl, rfl, tbm 1336 (by decide +kernel) rfl⟩
theorem lk_RX12_216 : Cond.methodLink RX12 216 yX12_has ∈ TB := tbm 1610 (by decide +kernel) rfl
theorem lk_RX12_220 : Cond.methodLink RX12 220 yX12_joins ∈ TB := tbm 1614 (by decide +kernel) rfl
theorem lk_RX12_228 : Cond.methodLink RX12 228 yX12_nextEnd ∈ TB := tbm 1617 (by decide +kernel) rfl
def tb_X12_combined : Tb := [(0, (.aload_n 0, 1)), (1, (.iconst 0, 1)), (2, (.putfield 213, 3)), (5, (.iconst 0, 1)), (6, (.istore 5, 2)), (8, (.aload_n 0, 1)), (9, (.aload_n 0, 1)), (10, (.getfield 34, 3)), (13, (.iconst 0, 1)), (14, (.invokevirtual 199, 3)), (17, (.iconst 1, 1)), (18, (.istore 6, 2)), (20, (.iload 6, 2)), (22, (.ifCond .eq 80, 3)), (25, (.iload_n 1, 1)), (26, (.aload_n 0, 1)), (27, (.iload_n 2, 1)), (28, (.aload_n 0, 1)), (29, (.getfield 34, 3)), (32, (.iconst 0, 1)), (33, (.invokevirtual 216, 3)), (36, (.aload_n 0, 1)), (37, (.iload_n 3, 1)), (38, (.aload_n 0, 1)), (39, (.getfield 34, 3)), (42, (.iconst 0, 1)), (43, (.invokevirtual 216, 3)), (46, (.invokestatic 220, 3)), (49, (.istore 7, 2)), (51, (.iload 7, 2)), (53, (.iload 5, 2)), (55, (.if_icmp .eq 36, 3)), (58, (.aload_n 0, 1)), (59, (.getfield 28, 3)), (62, (.aload_n 0, 1)), (63, (.getfield 213, 3)), (66, (.bipush 9, 2)), (68, (.imul, 1)), (69, (.aload_n 0, 1)), (70, (.getfield 34, 3)), (73, (.iconst 0, 1)), (74, (.invokestatic 224, 3)), (77, (.aload_n 0, 1)), (78, (.aload_n 0, 1)), (79, (.getfield 213, 3)), (82, (.iconst 1, 1)), (83, (.iadd, 1)), (84, (.putfield 213, 3)), (87, (.iload 7, 2)), (89, (.istore 5, 2)), (91, (.aload_n 0, 1)), (92, (.iload_n 2, 1)), (93, (.iload_n 3, 1)), (94, (.invokevirtual 228, 3)), (97, (.istore 6, 2)), (99, (.goto (-79), 3)), (102, (.iload 5, 2)), (104, (.ifCond .eq 28, 3)), (107, (.aload_n 0, 1)), (108, (.aload_n 0, 1)), (109, (.getfield 28, 3)), (112, (.aload_n 0, 1)), (113, (.getfield 213, 3)), (116, (.bipush 9, 2)), (118, (.imul, 1)), (119, (.invokevirtual 206, 3)), (122, (.aload_n 0, 1)), (123, (.aload_n 0, 1)), (124, (.getfield 213, 3)), (127, (.iconst 1, 1)), (128, (.iadd, 1)), (129, (.putfield 213, 3)), (132, (.aload_n 0, 1)), (133, (.getfield 213, 3)), (136, (.iconst 2, 1)), (137, (.idiv, 1)), (138, (.istore 7, 2)), (140, (.iload 7, 2)), (142, (.bipush 16, 2)), (144, (.if_icmp .le 6, 3)), (147, (.iload 7, 2)), (149, (.ireturn, 1)), (150, (.aload_n 0, 1)), (151, (.getfield 20, 3)), (154, (.iload 4, 2)), (156, (.iload 7, 2)), (158, (.iastore, 1)), (159, (.iconst 0, 1)), (160, (.istore 8, 2)), (162, (.iload 8, 2)), (164, (.iload 7, 2)), (166, (.if_icmp .ge 61, 3)), (169, (.aload_n 0, 1)), (170, (.getfield 25, 3)), (173, (.iload 4, 2)), (175, (.iload 8, 2)), (177, (.invokestatic 194, 3)), (180, (.aload_n 0, 1)), (181, (.getfield 28, 3)), (184, (.iconst 2, 1)), (185, (.iload 8, 2)), (187, (.imul, 1)), (188, (.bipush 9, 2)), (190, (.imul, 1)), (191, (.invokestatic 224, 3)), (194, (.aload_n 0, 1)), (195, (.getfield 25, 3)), (198, (.iload 4, 2)), (200, (.iload 8, 2)), (202, (.invokestatic 203, 3)), (205, (.aload_n 0, 1)), (206, (.getfield 28, 3)), (209, (.iconst 2, 1)), (210, (.iload 8, 2)), (212, (.imul, 1)), (213, (.iconst 1, 1)), (214, (.iadd, 1)), (215, (.bipush 9, 2)), (217, (.imul, 1)), (218, (.invokestatic 224, 3)), (221, (.iinc 8 1, 3)), (224, (.goto (-62), 3)), (227, (.iload 7, 2)), (229, (.ireturn, 1))]
def u_X12_combined : Fx := (yX12_combined, (cX12_combined, (9, ((some .int), tb_X12_combined))))
theorem tk_X12_combined : ∀ q ∈ u_X12_combined.2.2.2.2, decode u_X12_combined.2.1 q.1 = .ok q.2 := by decide +kernel
theorem mc_X12_combined : MC u_X12_combined 4 := ⟨tbm 1609 (by decide +kernel) rfl, tbm 128 (by decide +kernel) rfl, ⟨by decide, by decide, by decide +kernel⟩, by decide⟩
theorem in_X12_combined : Cond.instanceMethod u_X12_combined.1 ∈ TB ∧ Cond.selects u_X12_combined.1.cls u_X12_combined.1 u_X12_combined.1 ∈ TB := ⟨tbm 1608 (by decide +kernel) rfl, tbm 82 (by decide +kernel) rfl⟩
def f_X12_combined_j227 (t : List Sh) (m : Mi) (a7 : Int32) : Option (Int32 × Mi) :=
  some (a7, m)
def f_X12_combined_l162 (t : List Sh) (m : Mi) (a0 : Nat) (a4 : Int32) (a7 : Int32) (a8 : Int32) : Option ((Int32 × Mi) ⊕ ((Mi))) :=
  if a7 ≤ a8 then
    some (.inr m)
  else
    (f_X12_from a4 a8).bind fun x8 =>
    (f_X12_copy t m (gr m a0 8) x8 (gr m a0 9) ((2 * a8) * 9)).bind fun m9 =>
    (f_X12_below a4 a8).bind fun x10 =>
    (f_X12_copy t m9 (gr m9 a0 8) x10 (gr m9 a0 9) (((2 * a8) + 1) * 9)).bind fun m11 =>
    lt (a8 + 1) fun x12 =>
    some (.inl (x12, m11))
def f_X12_combined_j162 (t : List Sh) (m : Mi) (a0 : Nat) (a4 : Int32) (a7 : Int32) (a8 : Int32) : Option (Int32 × Mi) :=
  (lp (fun x : Int32 × Mi => f_X12_combined_l162 t x.2 a0 a4 a7 x.1) FUEL (a8, m)).bind (fun y : Mi => f_X12_combined_j227 t y a7)
def f_X12_combined_j132 (t : List Sh) (m : Mi) (a0 : Nat) (a4 : Int32) : Option (Int32 × Mi) :=
  lt ((gi m a0 10) / 2) fun x3 =>
  if x3 ≤ 16 then
    (if ar t (gr m a0 7) .int a4 = true then
    lt (si m (gr m a0 7) (ix a4) x3) fun m6 =>
    f_X12_combined_j162 t m6 a0 a4 x3 0
    else none)
  else
    some (x3, m)
def f_X12_combined_j102 (t : List Sh) (m : Mi) (a0 : Nat) (a4 : Int32) (a5 : Int32) : Option (Int32 × Mi) :=
  if a5 = 0 then
    f_X12_combined_j132 t m a0 a4
  else
    (f_X12_none t m a0 (gr m a0 9) ((gi m a0 10) * 9)).bind fun m14 =>
    lt (si m14 a0 10 ((gi m14 a0 10) + 1)) fun m15 =>
    f_X12_combined_j132 t m15 a0 a4
def f_X12_combined_j91 (t : List Sh) (m : Mi) (a0 : Nat) (a1 : Int32) (a2 : Int32) (a3 : Int32) (a4 : Int32) (a5 : Int32) : Option ((Int32 × Int32 × Mi) ⊕ ((Int32 × Mi))) :=
  bd (f_X12_nextEnd t m a0 a2 a3) fun x20 m21 =>
  some (.inl (a5, x20, m21))
def f_X12_combined_l20 (t : List Sh) (m : Mi) (a0 : Nat) (a1 : Int32) (a2 : Int32) (a3 : Int32) (a4 : Int32) (a5 : Int32) (a6 : Int32) : Option ((Int32 × Int32 × Mi) ⊕ ((Int32 × Mi))) :=
  if a6 = 0 then
    some (.inr (a5, m))
  else
    (f_X12_has t m a0 a2 (gr m a0 12) 0).bind fun x17 =>
    (f_X12_has t m a0 a3 (gr m a0 12) 0).bind fun x18 =>
    (f_X12_joins a1 x17 x18).bind fun x19 =>
    if x19 = a5 then
      f_X12_combined_j91 t m a0 a1 a2 a3 a4 a5
    else
      (f_X12_copy t m (gr m a0 9) ((gi m a0 10) * 9) (gr m a0 12) 0).bind fun m23 =>
      lt (si m23 a0 10 ((gi m23 a0 10) + 1)) fun m24 =>
      f_X12_combined_j91 t m24 a0 a1 a2 a3 a4 x19
def f_X12_combined_j20 (t : List Sh) (m : Mi) (a0 : Nat) (a1 : Int32) (a2 : Int32) (a3 : Int32) (a4 : Int32) (a5 : Int32) (a6 : Int32) : Option (Int32 × Mi) :=
  (lp (fun x : Int32 × Int32 × Mi => f_X12_combined_l20 t x.2.2 a0 a1 a2 a3 a4 x.1 x.2.1) FUEL (a5, a6, m)).bind (fun y : Int32 × Mi => f_X12_combined_j102 t (y.2) a0 a4 (y.1))
def f_X12_combined (t : List Sh) (m : Mi) (a0 : Nat) (a1 : Int32) (a2 : Int32) (a3 : Int32) (a4 : Int32) : Option (Int32 × Mi) :=
  lt (si m a0 10 0) fun m1 =>
  (f_X12_first t m1 a0 (gr m1 a0 12) 0).bind fun m2 =>
  f_X12_combined_j20 t m2 a0 a1 a2 a3 a4 0 1
set_option maxRecDepth 4000 in
set_option maxHeartbeats 4000000 in
theorem sm_X12_combined (t : List Sh) (m : Mi) (a0 : Nat) (a1 : Int32) (a2 : Int32) (a3 : Int32) (a4 : Int32) (h0 : sh t a0 = some (.inl 12)) : Sm u_X12_combined (4, 0, 0, t.length, zs t) (kI t) 0 [(0, .inr (.inr a0)), (1, .inl a1), (2, .inl a2), (3, .inl a3), (4, .inl a4)] [] (t, m) (f_X12_combined t m a0 a1 a2 a3 a4) := by
  unfold f_X12_combined
  refine r_aload_n 0 1 0 rfl rfl rfl rfl ?_
  refine r_iconst 1 2 (v := 0) rfl rfl (by decide) ?_
  refine r_putI 2 5 rfl rfl fl_RX12_213 (fun h => by cases h) (Or.inl rfl) h0 ?_
  refine r_ltM (fun m1 => ?_)
  refine r_iconst 3 6 (v := 0) rfl rfl (by decide) ?_
  refine r_istore 4 8 (L' := [(5, .inl 0), (0, .inr (.inr a0)), (1, .inl a1), (2, .inl a2), (3, .inl a3), (4, .inl a4)]) rfl rfl (by decide) rfl ?_
  refine r_aload_n 5 9 1 rfl rfl rfl rfl ?_
  refine r_aload_n 6 10 1 rfl rfl rfl rfl ?_
  refine r_getR 7 13 rfl rfl fl_RX12_34 rfl h0 ?_
  refine r_iconst 8 14 (v := 0) rfl rfl (by decide) ?_
  refine r_VV 9 17 (st := []) (av := [.inr (.inr a0), .inr (.inr (gr m1 a0 12)), .inl 0]) (av' := [.inr (.inr (gr m1 a0 12)), .inl 0]) (μ' := u_X12_first) (d := 1) rfl rfl mc_X12_first in_X12_first lk_RX12_199 (Nat.le_of_ble_eq_true rfl) rfl rfl h0 rfl (Nat.le_of_ble_eq_true rfl) (fun _ h => ct_X12_first h0 h) (fun m2 => ?_)
  refine r_iconst 10 18 (v := 1) rfl rfl (by decide) ?_
  refine r_istore 11 20 (L' := [(6, .inl 1), (5, .inl 0), (0, .inr (.inr a0)), (1, .inl a1), (2, .inl a2), (3, .inl a3), (4, .inl a4)]) rfl rfl (by decide) rfl ?_
  have hj20 : ∀ (m : Mi) (a5 : Int32) (a6 : Int32), Sm u_X12_combined (4, 0, 0, t.length, zs t) (kI t) 20 [(0, .inr (.inr a0)), (1, .inl a1), (2, .inl a2), (3, .inl a3), (4, .inl a4), (5, .inl a5), (6, .inl a6)] [] (t, m) (f_X12_combined_j20 t m a0 a1 a2 a3 a4 a5 a6) := by
    intro m a5 a6
    unfold f_X12_combined_j20
    have hj102 : ∀ (m : Mi) (a5 : Int32), Sm u_X12_combined (4, 0, 0, t.length, zs t) (kI t) 102 [(0, .inr (.inr a0)), (4, .inl a4), (5, .inl a5)] [] (t, m) (f_X12_combined_j102 t m a0 a4 a5) := by
      intro m a5
      unfold f_X12_combined_j102
      refine r_iload 56 104 2 rfl rfl rfl ?_
      have hj132 : ∀ (m : Mi), Sm u_X12_combined (4, 0, 0, t.length, zs t) (kI t) 132 [(0, .inr (.inr a0)), (4, .inl a4)] [] (t, m) (f_X12_combined_j132 t m a0 a4) := by
        intro m
        unfold f_X12_combined_j132
        refine r_aload_n 72 133 0 rfl rfl rfl rfl ?_
        refine r_getI 73 136 rfl rfl fl_RX12_213 rfl h0 ?_
        refine r_iconst 74 137 (v := 2) rfl rfl (by decide) ?_
        refine r_idiv 75 138 rfl rfl (by decide) ?_
        refine r_ltI (fun x3 => ?_)
        refine r_istore 76 140 (L' := [(7, .inl x3), (0, .inr (.inr a0)), (4, .inl a4)]) rfl rfl (by decide) rfl ?_
        refine r_iload 77 142 0 rfl rfl rfl ?_
        refine r_bipush 78 144 (v := 16) rfl rfl (by decide) ?_
        refine r_icmp_le 79 150 147 rfl rfl rfl (fun h4 => ?_) (fun h4 => ?_)
        · refine r_aload_n 82 151 1 rfl rfl rfl rfl ?_
          refine r_getR 83 154 rfl rfl fl_RX12_20 rfl h0 ?_
          refine r_iload 84 156 2 rfl rfl rfl ?_
          refine r_iload 85 158 0 rfl rfl rfl ?_
          refine r_gd (fun h5 => ?_)
          refine r_iast 86 159 rfl rfl h5 ?_
          refine r_ltM (fun m6 => ?_)
          refine r_iconst 87 160 (v := 0) rfl rfl (by decide) ?_
          refine r_istore 88 162 (L' := [(8, .inl 0), (7, .inl x3), (0, .inr (.inr a0)), (4, .inl a4)]) rfl rfl (by decide) rfl ?_
          have hj162 : ∀ (m : Mi) (a7 : Int32) (a8 : Int32), Sm u_X12_combined (4, 0, 0, t.length, zs t) (kI t) 162 [(0, .inr (.inr a0)), (4, .inl a4), (7, .inl a7), (8, .inl a8)] [] (t, m) (f_X12_combined_j162 t m a0 a4 a7 a8) := by
            intro m a7 a8
            unfold f_X12_combined_j162
            have hj227 : ∀ (m : Mi) (a7 : Int32), Sm u_X12_combined (4, 0, 0, t.length, zs t) (kI t) 227 [(7, .inl a7)] [] (t, m) (f_X12_combined_j227 t m a7) := by
              intro m a7
              unfold f_X12_combined_j227
              refine r_iload 122 229 0 rfl rfl rfl ?_
              exact r_iret 123 rfl rfl rfl
            refine r_lp (Lf := fun x : Int32 × Mi => [(0, .inr (.inr a0)), (4, .inl a4), (7, .inl a7), (8, .inl (x.1))]) (Mf := fun x : Int32 × Mi => (t, x.2)) (a8, m) ?_ FUEL
            rintro ⟨a8, m⟩ κ162 hc162 he162
            refine r_eq (L' := [(0, .inr (.inr a0)), (4, .inl a4), (7, .inl a7), (8, .inl a8)]) (M' := (t, m)) rfl rfl ?_
            refine r_eqr (r' := f_X12_combined_l162 t m a0 a4 a7 a8) rfl ?_
            unfold f_X12_combined_l162
            refine r_iload 89 164 3 rfl rfl rfl ?_
            refine r_iload 90 166 2 rfl rfl rfl ?_
            refine r_icmp_ge 91 227 169 rfl rfl rfl (fun h7 => ?_) (fun h7 => ?_)
            · refine r_leaf (r2 := (f_X12_combined_j227 t m a7 : Option (Int32 × Mi))) (he162 _) ?_
              exact r_sub [2] rfl (hj227 m a7)
            · refine r_aload_n 92 170 0 rfl rfl rfl rfl ?_
              refine r_getR 93 173 rfl rfl fl_RX12_25 rfl h0 ?_
              refine r_iload 94 175 1 rfl rfl rfl ?_
              refine r_iload 95 177 3 rfl rfl rfl ?_
              refine r_SIo 96 180 (a := 0) (cn := 0) (st := [.inr (.inr (gr m a0 8))]) (av := [.inl a4, .inl a8]) (μ' := u_X12_from) (d := 1) rfl rfl mc_X12_from st_X12_from lk_RX12_194 (Nat.le_of_ble_eq_true rfl) rfl (Nat.le_of_ble_eq_true rfl) (fun _ h => ct_X12_from h) (fun x8 => ?_)
              refine r_aload_n 97 181 0 rfl rfl rfl rfl ?_
              refine r_getR 98 184 rfl rfl fl_RX12_28 rfl h0 ?_
              refine r_iconst 99 185 (v := 2) rfl rfl (by decide) ?_
              refine r_iload 100 187 3 rfl rfl rfl ?_
              refine r_imul 101 188 rfl rfl ?_
              refine r_bipush 102 190 (v := 9) rfl rfl (by decide) ?_
              refine r_imul 103 191 rfl rfl ?_
              refine r_SV 104 194 (a := 0) (cn := 0) (st := []) (av := [.inr (.inr (gr m a0 8)), .inl x8, .inr (.inr (gr m a0 9)), .inl ((2 * a8) * 9)]) (μ' := u_X12_copy) (d := 1) rfl rfl mc_X12_copy st_X12_copy lk_RX12_224 (Nat.le_of_ble_eq_true rfl) rfl (Nat.le_of_ble_eq_true rfl) (fun _ h => ct_X12_copy h) (fun m9 => ?_)
              refine r_aload_n 105 195 0 rfl rfl rfl rfl ?_
              refine r_getR 106 198 rfl rfl fl_RX12_25 rfl h0 ?_
              refine r_iload 107 200 1 rfl rfl rfl ?_
              refine r_iload 108 202 3 rfl rfl rfl ?_
              refine r_SIo 109 205 (a := 0) (cn := 0) (st := [.inr (.inr (gr m9 a0 8))]) (av := [.inl a4, .inl a8]) (μ' := u_X12_below) (d := 2) rfl rfl mc_X12_below st_X12_below lk_RX12_203 (Nat.le_of_ble_eq_true rfl) rfl (Nat.le_of_ble_eq_true rfl) (fun _ h => ct_X12_below h) (fun x10 => ?_)
              refine r_aload_n 110 206 0 rfl rfl rfl rfl ?_
              refine r_getR 111 209 rfl rfl fl_RX12_28 rfl h0 ?_
              refine r_iconst 112 210 (v := 2) rfl rfl (by decide) ?_
              refine r_iload 113 212 3 rfl rfl rfl ?_
              refine r_imul 114 213 rfl rfl ?_
              refine r_iconst 115 214 (v := 1) rfl rfl (by decide) ?_
              refine r_iadd 116 215 rfl rfl ?_
              refine r_bipush 117 217 (v := 9) rfl rfl (by decide) ?_
              refine r_imul 118 218 rfl rfl ?_
              refine r_SV 119 221 (a := 0) (cn := 0) (st := []) (av := [.inr (.inr (gr m9 a0 8)), .inl x10, .inr (.inr (gr m9 a0 9)), .inl (((2 * a8) + 1) * 9)]) (μ' := u_X12_copy) (d := 1) rfl rfl mc_X12_copy st_X12_copy lk_RX12_224 (Nat.le_of_ble_eq_true rfl) rfl (Nat.le_of_ble_eq_true rfl) (fun _ h => ct_X12_copy h) (fun m11 => ?_)
              refine r_iinc 120 224 3 (L' := [(8, .inl (a8 + 1)), (0, .inr (.inr a0)), (4, .inl a4), (7, .inl a7)]) rfl rfl rfl (by decide) rfl ?_
              refine r_ltV (fun x12 => ?_)
              refine r_goto 121 162 rfl rfl ?_
              exact r_sub [1, 2, 3, 0] rfl (hc162 (x12, m11))
          exact r_sub [2, 3, 1, 0] rfl (hj162 m6 x3 0)
        · refine r_iload 80 149 0 rfl rfl rfl ?_
          exact r_iret 81 rfl rfl rfl
      refine r_if_eq 57 132 107 rfl rfl rfl (fun h13 => ?_) (fun h13 => ?_)
      · exact r_sub [0, 1] rfl (hj132 m)
      · refine r_aload_n 58 108 0 rfl rfl rfl rfl ?_
        refine r_aload_n 59 109 0 rfl rfl rfl rfl ?_
        refine r_getR 60 112 rfl rfl fl_RX12_28 rfl h0 ?_
        refine r_aload_n 61 113 0 rfl rfl rfl rfl ?_
        refine r_getI 62 116 rfl rfl fl_RX12_213 rfl h0 ?_
        refine r_bipush 63 118 (v := 9) rfl rfl (by decide) ?_
        refine r_imul 64 119 rfl rfl ?_
        refine r_VV 65 122 (st := []) (av := [.inr (.inr a0), .inr (.inr (gr m a0 9)), .inl ((gi m a0 10) * 9)]) (av' := [.inr (.inr (gr m a0 9)), .inl ((gi m a0 10) * 9)]) (μ' := u_X12_none) (d := 1) rfl rfl mc_X12_none in_X12_none lk_RX12_206 (Nat.le_of_ble_eq_true rfl) rfl rfl h0 rfl (Nat.le_of_ble_eq_true rfl) (fun _ h => ct_X12_none h0 h) (fun m14 => ?_)
        refine r_aload_n 66 123 0 rfl rfl rfl rfl ?_
        refine r_aload_n 67 124 0 rfl rfl rfl rfl ?_
        refine r_getI 68 127 rfl rfl fl_RX12_213 rfl h0 ?_
        refine r_iconst 69 128 (v := 1) rfl rfl (by decide) ?_
        refine r_iadd 70 129 rfl rfl ?_
        refine r_putI 71 132 rfl rfl fl_RX12_213 (fun h => by cases h) (Or.inl rfl) h0 ?_
        refine r_ltM (fun m15 => ?_)
        exact r_sub [0, 1] rfl (hj132 m15)
    refine r_lp (Lf := fun x : Int32 × Int32 × Mi => [(0, .inr (.inr a0)), (1, .inl a1), (2, .inl a2), (3, .inl a3), (4, .inl a4), (5, .inl (x.1)), (6, .inl (x.2.1))]) (Mf := fun x : Int32 × Int32 × Mi => (t, x.2.2)) (a5, a6, m) ?_ FUEL
    rintro ⟨a5, a6, m⟩ κ20 hc20 he20
    refine r_eq (L' := [(0, .inr (.inr a0)), (1, .inl a1), (2, .inl a2), (3, .inl a3), (4, .inl a4), (5, .inl a5), (6, .inl a6)]) (M' := (t, m)) rfl rfl ?_
    refine r_eqr (r' := f_X12_combined_l20 t m a0 a1 a2 a3 a4 a5 a6) rfl ?_
    unfold f_X12_combined_l20
    refine r_iload 12 22 6 rfl rfl rfl ?_
    refine r_if_eq 13 102 25 rfl rfl rfl (fun h16 => ?_) (fun h16 => ?_)
    · refine r_leaf (r2 := (f_X12_combined_j102 t m a0 a4 a5 : Option (Int32 × Mi))) (he20 _) ?_
      exact r_sub [0, 4, 5] rfl (hj102 m a5)
    · refine r_iload_n 14 26 1 rfl rfl rfl rfl ?_
      refine r_aload_n 15 27 0 rfl rfl rfl rfl ?_
      refine r_iload_n 16 28 2 rfl rfl rfl rfl ?_
      refine r_aload_n 17 29 0 rfl rfl rfl rfl ?_
      refine r_getR 18 32 rfl rfl fl_RX12_34 rfl h0 ?_
      refine r_iconst 19 33 (v := 0) rfl rfl (by decide) ?_
      refine r_VIo 20 36 (st := [.inl a1]) (av := [.inr (.inr a0), .inl a2, .inr (.inr (gr m a0 12)), .inl 0]) (av' := [.inl a2, .inr (.inr (gr m a0 12)), .inl 0]) (μ' := u_X12_has) (d := 3) rfl rfl mc_X12_has in_X12_has lk_RX12_216 (Nat.le_of_ble_eq_true rfl) rfl rfl h0 rfl (Nat.le_of_ble_eq_true rfl) (fun _ h => ct_X12_has h0 h) (fun x17 => ?_)
      refine r_aload_n 21 37 0 rfl rfl rfl rfl ?_
      refine r_iload_n 22 38 3 rfl rfl rfl rfl ?_
      refine r_aload_n 23 39 0 rfl rfl rfl rfl ?_
      refine r_getR 24 42 rfl rfl fl_RX12_34 rfl h0 ?_
      refine r_iconst 25 43 (v := 0) rfl rfl (by decide) ?_
      refine r_VIo 26 46 (st := [.inl x17, .inl a1]) (av := [.inr (.inr a0), .inl a3, .inr (.inr (gr m a0 12)), .inl 0]) (av' := [.inl a3, .inr (.inr (gr m a0 12)), .inl 0]) (μ' := u_X12_has) (d := 3) rfl rfl mc_X12_has in_X12_has lk_RX12_216 (Nat.le_of_ble_eq_true rfl) rfl rfl h0 rfl (Nat.le_of_ble_eq_true rfl) (fun _ h => ct_X12_has h0 h) (fun x18 => ?_)
      refine r_SIo 27 49 (a := 0) (cn := 0) (st := []) (av := [.inl a1, .inl x17, .inl x18]) (μ' := u_X12_joins) (d := 1) rfl rfl mc_X12_joins st_X12_joins lk_RX12_220 (Nat.le_of_ble_eq_true rfl) rfl (Nat.le_of_ble_eq_true rfl) (fun _ h => ct_X12_joins h) (fun x19 => ?_)
      refine r_istore 28 51 (L' := [(7, .inl x19), (0, .inr (.inr a0)), (1, .inl a1), (2, .inl a2), (3, .inl a3), (4, .inl a4), (5, .inl a5), (6, .inl a6)]) rfl rfl (by decide) rfl ?_
      refine r_iload 29 53 0 rfl rfl rfl ?_
      refine r_iload 30 55 6 rfl rfl rfl ?_
      have hj91 : ∀ (m : Mi) (a5 : Int32), Sm u_X12_combined (4, 0, 0, t.length, zs t) κ20 91 [(0, .inr (.inr a0)), (1, .inl a1), (2, .inl a2), (3, .inl a3), (4, .inl a4), (5, .inl a5)] [] (t, m) (f_X12_combined_j91 t m a0 a1 a2 a3 a4 a5) := by
        intro m a5
        unfold f_X12_combined_j91
        refine r_aload_n 50 92 0 rfl rfl rfl rfl ?_
        refine r_iload_n 51 93 2 rfl rfl rfl rfl ?_
        refine r_iload_n 52 94 3 rfl rfl rfl rfl ?_
        refine r_VI 53 97 (st := []) (av := [.inr (.inr a0), .inl a2, .inl a3]) (av' := [.inl a2, .inl a3]) (μ' := u_X12_nextEnd) (d := 2) rfl rfl mc_X12_nextEnd in_X12_nextEnd lk_RX12_228 (Nat.le_of_ble_eq_true rfl) rfl rfl h0 rfl (Nat.le_of_ble_eq_true rfl) (fun _ _ h => ct_X12_nextEnd h0 h) (fun x20 m21 => ?_)
        refine r_istore 54 99 (L' := [(6, .inl x20), (0, .inr (.inr a0)), (1, .inl a1), (2, .inl a2), (3, .inl a3), (4, .inl a4), (5, .inl a5)]) rfl rfl (by decide) rfl ?_
        refine r_goto 55 20 rfl rfl ?_
        exact r_sub [1, 2, 3, 4, 5, 6, 0] rfl (hc20 (a5, x20, m21))
      refine r_icmp_eq 31 91 58 rfl rfl rfl (fun h22 => ?_) (fun h22 => ?_)
      · exact r_sub [1, 2, 3, 4, 5, 6] rfl (hj91 m a5)
      · refine r_aload_n 32 59 1 rfl rfl rfl rfl ?_
        refine r_getR 33 62 rfl rfl fl_RX12_28 rfl h0 ?_
        refine r_aload_n 34 63 1 rfl rfl rfl rfl ?_
        refine r_getI 35 66 rfl rfl fl_RX12_213 rfl h0 ?_
        refine r_bipush 36 68 (v := 9) rfl rfl (by decide) ?_
        refine r_imul 37 69 rfl rfl ?_
        refine r_aload_n 38 70 1 rfl rfl rfl rfl ?_
        refine r_getR 39 73 rfl rfl fl_RX12_34 rfl h0 ?_
        refine r_iconst 40 74 (v := 0) rfl rfl (by decide) ?_
        refine r_SV 41 77 (a := 0) (cn := 0) (st := []) (av := [.inr (.inr (gr m a0 9)), .inl ((gi m a0 10) * 9), .inr (.inr (gr m a0 12)), .inl 0]) (μ' := u_X12_copy) (d := 1) rfl rfl mc_X12_copy st_X12_copy lk_RX12_224 (Nat.le_of_ble_eq_true rfl) rfl (Nat.le_of_ble_eq_true rfl) (fun _ h => ct_X12_copy h) (fun m23 => ?_)
        refine r_aload_n 42 78 1 rfl rfl rfl rfl ?_
        refine r_aload_n 43 79 1 rfl rfl rfl rfl ?_
        refine r_getI 44 82 rfl rfl fl_RX12_213 rfl h0 ?_
        refine r_iconst 45 83 (v := 1) rfl rfl (by decide) ?_
        refine r_iadd 46 84 rfl rfl ?_
        refine r_putI 47 87 rfl rfl fl_RX12_213 (fun h => by cases h) (Or.inl rfl) h0 ?_
        refine r_ltM (fun m24 => ?_)
        refine r_iload 48 89 0 rfl rfl rfl ?_
        refine r_istore 49 91 (L' := [(5, .inl x19), (7, .inl x19), (0, .inr (.inr a0)), (1, .inl a1), (2, .inl a2), (3, .inl a3), (4, .inl a4), (6, .inl a6)]) rfl rfl (by decide) rfl ?_
        exact r_sub [2, 3, 4, 5, 6, 0] rfl (hj91 m24 x19)
  exact r_sub [2, 3, 4, 5, 6, 1, 0] rfl (hj20 m2 0 1)
theorem ct_X12_combined {t : List Sh} {m : Mi} {a0 : Nat} {a1 : Int32} {a2 : Int32} {a3 : Int32} {a4 : Int32} {m' : Mi} {v : Int32}  (h0 : sh t a0 = some (.inl 12)) (h : f_X12_combined t m a0 a1 a2 a3 a4 = some (v, m')) : Ct u_X12_combined 4 0 0 [.inr (.inr a0), .inl a1, .inl a2, .inl a3, .inl a4] (t, m) (some (.inl v), (t, m')) :=
  ct_of (by decide) tk_X12_combined (Nat.le_of_ble_eq_true rfl) (sm_X12_combined t m a0 a1 a2 a3 a4 h0) (by rw [h]; rfl) (Nat.le_refl _) (Nat.le_refl _)
theorem lk_RX12_305 : Cond.methodLink RX12 305 yX12_isSlot ∈ TB := tbm 1633 (by decide +kernel) rfl
def tb_X12_holds : Tb := [(0, (.iload_n 1, 1)), (1, (.invokestatic 305, 3)), (4, (.ifCond .eq 20, 3)), (7, (.iload_n 2, 1)), (8, (.ifCond .lt 16, 3)), (11, (.iload_n 2, 1)), (12, (.aload_n 0, 1)), (13, (.getfield 46, 3)), (16, (.aload_n 0, 1)), (17, (.getfield 326, 3)), (20, (.iaload, 1)), (21, (.if_icmp .lt 5, 3)), (24, (.iconst (-1), 1)), (25, (.ireturn, 1)), (26, (.aload_n 0, 1)), (27, (.iload_n 1, 1)), (28, (.invokestatic 141, 3)), (31, (.aload_n 0, 1)), (32, (.getfield 73, 3)), (35, (.bipush 60, 2)), (37, (.aload_n 0, 1)), (38, (.getfield 326, 3)), (41, (.imul, 1)), (42, (.iload_n 2, 1)), (43, (.iadd, 1)), (44, (.bipush 9, 2)), (46, (.imul, 1)), (47, (.invokevirtual 216, 3)), (50, (.ifCond .eq 7, 3)), (53, (.iconst 1, 1)), (54, (.goto 4, 3)), (57, (.iconst 0, 1)), (58, (.ireturn, 1))]
def u_X12_holds : Fx := (yX12_holds, (cX12_holds, (3, ((some .int), tb_X12_holds))))
theorem tk_X12_holds : ∀ q ∈ u_X12_holds.2.2.2.2, decode u_X12_holds.2.1 q.1 = .ok q.2 := by decide +kernel
theorem mc_X12_holds : MC u_X12_holds 2 := ⟨tbm 1750 (by decide +kernel) rfl, tbm 128 (by decide +kernel) rfl, ⟨by decide, by decide, by decide +kernel⟩, by decide⟩
theorem in_X12_holds : Cond.instanceMethod u_X12_holds.1 ∈ TB ∧ Cond.selects u_X12_holds.1.cls u_X12_holds.1 u_X12_holds.1 ∈ TB := ⟨tbm 1748 (by decide +kernel) rfl, tbm 1749 (by decide +kernel) rfl⟩
def f_X12_holds (t : List Sh) (m : Mi) (a0 : Nat) (a1 : Int32) (a2 : Int32) : Option (Int32) :=
  (f_X12_isSlot a1).bind fun x1 =>
  if x1 = 0 then
    some (-1)
  else
    if a2 < 0 then
      some (-1)
    else
      (if ar t (gr m a0 24) .int (gi m a0 21) = true then
      if a2 < (gi m (gr m a0 24) (ix (gi m a0 21))) then
        (f_X12_slotOf a1).bind fun x6 =>
        (f_X12_has t m a0 x6 (gr m a0 33) (((60 * (gi m a0 21)) + a2) * 9)).bind fun x7 =>
        if x7 = 0 then
          some 0
        else
          some 1
      else
        some (-1)
      else none)
set_option maxRecDepth 4000 in
set_option maxHeartbeats 4000000 in
theorem sm_X12_holds (t : List Sh) (m : Mi) (a0 : Nat) (a1 : Int32) (a2 : Int32) (h0 : sh t a0 = some (.inl 12)) : Sm u_X12_holds (4, 0, 0, t.length, zs t) (kIo t m) 0 [(0, .inr (.inr a0)), (1, .inl a1), (2, .inl a2)] [] (t, m) (f_X12_holds t m a0 a1 a2) := by
  unfold f_X12_holds
  refine r_iload_n 0 1 1 rfl rfl rfl rfl ?_
  refine r_SIo 1 4 (a := 0) (cn := 0) (st := []) (av := [.inl a1]) (μ' := u_X12_isSlot) (d := 1) rfl rfl mc_X12_isSlot st_X12_isSlot lk_RX12_305 (Nat.le_of_ble_eq_true rfl) rfl (Nat.le_of_ble_eq_true rfl) (fun _ h => ct_X12_isSlot h) (fun x1 => ?_)
  refine r_if_eq 2 24 7 rfl rfl rfl (fun h2 => ?_) (fun h2 => ?_)
  · refine r_iconst 12 25 (v := (-1)) rfl rfl (by decide) ?_
    exact r_iret 13 rfl rfl rfl
  · refine r_iload_n 3 8 2 rfl rfl rfl rfl ?_
    refine r_if_lt 4 24 11 rfl rfl rfl (fun h3 => ?_) (fun h3 => ?_)
    · refine r_iconst 12 25 (v := (-1)) rfl rfl (by decide) ?_
      exact r_iret 13 rfl rfl rfl
    · refine r_iload_n 5 12 2 rfl rfl rfl rfl ?_
      refine r_aload_n 6 13 0 rfl rfl rfl rfl ?_
      refine r_getR 7 16 rfl rfl fl_RX12_46 rfl h0 ?_
      refine r_aload_n 8 17 0 rfl rfl rfl rfl ?_
      refine r_getI 9 20 rfl rfl fl_RX12_326 rfl h0 ?_
      refine r_gd (fun h4 => ?_)
      refine r_iald 10 21 rfl rfl h4 ?_
      refine r_icmp_lt 11 26 24 rfl rfl rfl (fun h5 => ?_) (fun h5 => ?_)
      · refine r_aload_n 14 27 0 rfl rfl rfl rfl ?_
        refine r_iload_n 15 28 1 rfl rfl rfl rfl ?_
        refine r_SIo 16 31 (a := 0) (cn := 0) (st := [.inr (.inr a0)]) (av := [.inl a1]) (μ' := u_X12_slotOf) (d := 1) rfl rfl mc_X12_slotOf st_X12_slotOf lk_RX12_141 (Nat.le_of_ble_eq_true rfl) rfl (Nat.le_of_ble_eq_true rfl) (fun _ h => ct_X12_slotOf h) (fun x6 => ?_)
        refine r_aload_n 17 32 0 rfl rfl rfl rfl ?_
        refine r_getR 18 35 rfl rfl fl_RX12_73 rfl h0 ?_
        refine r_bipush 19 37 (v := 60) rfl rfl (by decide) ?_
        refine r_aload_n 20 38 0 rfl rfl rfl rfl ?_
        refine r_getI 21 41 rfl rfl fl_RX12_326 rfl h0 ?_
        refine r_imul 22 42 rfl rfl ?_
        refine r_iload_n 23 43 2 rfl rfl rfl rfl ?_
        refine r_iadd 24 44 rfl rfl ?_
        refine r_bipush 25 46 (v := 9) rfl rfl (by decide) ?_
        refine r_imul 26 47 rfl rfl ?_
        refine r_VIo 27 50 (st := []) (av := [.inr (.inr a0), .inl x6, .inr (.inr (gr m a0 33)), .inl (((60 * (gi m a0 21)) + a2) * 9)]) (av' := [.inl x6, .inr (.inr (gr m a0 33)), .inl (((60 * (gi m a0 21)) + a2) * 9)]) (μ' := u_X12_has) (d := 3) rfl rfl mc_X12_has in_X12_has lk_RX12_216 (Nat.le_of_ble_eq_true rfl) rfl rfl h0 rfl (Nat.le_of_ble_eq_true rfl) (fun _ h => ct_X12_has h0 h) (fun x7 => ?_)
        refine r_if_eq 28 57 53 rfl rfl rfl (fun h8 => ?_) (fun h8 => ?_)
        · refine r_iconst 31 58 (v := 0) rfl rfl (by decide) ?_
          exact r_iret 32 rfl rfl rfl
        · refine r_iconst 29 54 (v := 1) rfl rfl (by decide) ?_
          refine r_goto 30 58 rfl rfl ?_
          exact r_iret 32 rfl rfl rfl
      · refine r_iconst 12 25 (v := (-1)) rfl rfl (by decide) ?_
        exact r_iret 13 rfl rfl rfl
theorem ct_X12_holds {t : List Sh} {m : Mi} {a0 : Nat} {a1 : Int32} {a2 : Int32} {v : Int32}  (h0 : sh t a0 = some (.inl 12)) (h : f_X12_holds t m a0 a1 a2 = some v) : Ct u_X12_holds 4 0 0 [.inr (.inr a0), .inl a1, .inl a2] (t, m) (some (.inl v), (t, m)) :=
  ct_of (by decide) tk_X12_holds (Nat.le_of_ble_eq_true rfl) (sm_X12_holds t m a0 a1 a2 h0) (by rw [h]; rfl) (Nat.le_refl _) (Nat.le_refl _)
theorem lk_RX12_3 : Cond.methodLink RX12 3 Lib.objectInit ∈ TB := tbm 1302 (by decide +kernel) rfl
theorem kc_RX12_24 : Cond.constant RX12 24 (78336) ∈ TB := tbm 1303 (by decide +kernel) rfl
theorem fl_RX12_31 : FL RX12 31 12 11 true := ⟨RX12, TX12, 61, rfl, inW12, tyX12_ok, nmX12, by decide, rfl, rfl, rfl, tbm 1338 (by decide +kernel) rfl⟩
theorem fl_RX12_82 : FL RX12 82 12 36 true := ⟨RX12, TX12, 61, rfl, inW12, tyX12_ok, nmX12, by decide, rfl, rfl, rfl, tbm 1363 (by decide +kernel) rfl⟩
theorem fl_RX12_85 : FL RX12 85 12 37 true := ⟨RX12, TX12, 61, rfl, inW12, tyX12_ok, nmX12, by decide, rfl, rfl, rfl, tbm 1364 (by decide +kernel) rfl⟩
theorem kc_RX12_94 : Cond.constant RX12 94 (72000) ∈ TB := tbm 1304 (by decide +kernel) rfl
theorem fl_RX12_117 : FL RX12 117 12 47 true := ⟨RX12, TX12, 61, rfl, inW12, tyX12_ok, nmX12, by decide, rfl, rfl, rfl, tbm 1374 (by decide +kernel) rfl⟩
theorem fl_RX12_120 : FL RX12 120 12 48 true := ⟨RX12, TX12, 61, rfl, inW12, tyX12_ok, nmX12, by decide, rfl, rfl, rfl, tbm 1375 (by decide +kernel) rfl⟩
theorem lk_RX12_145 : Cond.methodLink RX12 145 yX12_full ∈ TB := tbm 1308 (by decide +kernel) rfl
def tb_X12_init : Tb := [(0, (.aload_n 0, 1)), (1, (.invokespecial 3, 3)), (4, (.aload_n 0, 1)), (5, (.sipush 2000, 3)), (8, (.newarray .byte, 2)), (10, (.putfield 9, 3)), (13, (.aload_n 0, 1)), (14, (.sipush 2001, 3)), (17, (.newarray .byte, 2)), (19, (.putfield 13, 3)), (22, (.aload_n 0, 1)), (23, (.bipush 9, 2)), (25, (.newarray .long, 2)), (27, (.putfield 16, 3)), (30, (.aload_n 0, 1)), (31, (.sipush 272, 3)), (34, (.newarray .int, 2)), (36, (.putfield 20, 3)), (39, (.aload_n 0, 1)), (40, (.ldc 24, 2)), (42, (.newarray .long, 2)), (44, (.putfield 25, 3)), (47, (.aload_n 0, 1)), (48, (.sipush 6300, 3)), (51, (.newarray .long, 2)), (53, (.putfield 28, 3)), (56, (.aload_n 0, 1)), (57, (.bipush 9, 2)), (59, (.newarray .long, 2)), (61, (.putfield 31, 3)), (64, (.aload_n 0, 1)), (65, (.bipush 9, 2)), (67, (.newarray .long, 2)), (69, (.putfield 34, 3)), (72, (.aload_n 0, 1)), (73, (.bipush 9, 2)), (75, (.newarray .long, 2)), (77, (.putfield 37, 3)), (80, (.aload_n 0, 1)), (81, (.sipush 4000, 3)), (84, (.newarray .byte, 2)), (86, (.putfield 40, 3)), (89, (.aload_n 0, 1)), (90, (.iconst 2, 1)), (91, (.newarray .int, 2)), (93, (.putfield 43, 3)), (96, (.aload_n 0, 1)), (97, (.iconst 2, 1)), (98, (.newarray .int, 2)), (100, (.putfield 46, 3)), (103, (.aload_n 0, 1)), (104, (.iconst 2, 1)), (105, (.newarray .int, 2)), (107, (.putfield 49, 3)), (110, (.aload_n 0, 1)), (111, (.iconst 2, 1)), (112, (.newarray .int, 2)), (114, (.putfield 52, 3)), (117, (.aload_n 0, 1)), (118, (.bipush 20, 2)), (120, (.newarray .int, 2)), (122, (.putfield 55, 3)), (125, (.aload_n 0, 1)), (126, (.bipush 20, 2)), (128, (.newarray .int, 2)), (130, (.putfield 58, 3)), (133, (.aload_n 0, 1)), (134, (.bipush 22, 2)), (136, (.newarray .int, 2)), (138, (.putfield 61, 3)), (141, (.aload_n 0, 1)), (142, (.bipush 120, 2)), (144, (.newarray .int, 2)), (146, (.putfield 64, 3)), (149, (.aload_n 0, 1)), (150, (.bipush 120, 2)), (152, (.newarray .int, 2)), (154, (.putfield 67, 3)), (157, (.aload_n 0, 1)), (158, (.bipush 120, 2)), (160, (.newarray .int, 2)), (162, (.putfield 70, 3)), (165, (.aload_n 0, 1)), (166, (.sipush 1080, 3)), (169, (.newarray .long, 2)), (171, (.putfield 73, 3)), (174, (.aload_n 0, 1)), (175, (.sipush 500, 3)), (178, (.newarray .int, 2)), (180, (.putfield 76, 3)), (183, (.aload_n 0, 1)), (184, (.sipush 500, 3)), (187, (.newarray .int, 2)), (189, (.putfield 79, 3)), (192, (.aload_n 0, 1)), (193, (.sipush 500, 3)), (196, (.newarray .int, 2)), (198, (.putfield 82, 3)), (201, (.aload_n 0, 1)), (202, (.sipush 500, 3)), (205, (.newarray .int, 2)), (207, (.putfield 85, 3)), (210, (.aload_n 0, 1)), (211, (.sipush 500, 3)), (214, (.newarray .int, 2)), (216, (.putfield 88, 3)), (219, (.aload_n 0, 1)), (220, (.sipush 250, 3)), (223, (.newarray .int, 2)), (225, (.putfield 91, 3)), (228, (.aload_n 0, 1)), (229, (.ldc 94, 2)), (231, (.newarray .long, 2)), (233, (.putfield 95, 3)), (236, (.aload_n 0, 1)), (237, (.sipush 250, 3)), (240, (.newarray .int, 2)), (242, (.putfield 98, 3)), (245, (.aload_n 0, 1)), (246, (.sipush 250, 3)), (249, (.newarray .boolean, 2)), (251, (.putfield 101, 3)), (254, (.aload_n 0, 1)), (255, (.sipush 700, 3)), (258, (.newarray .int, 2)), (260, (.putfield 105, 3)), (263, (.aload_n 0, 1)), (264, (.sipush 700, 3)), (267, (.newarray .int, 2)), (269, (.putfield 108, 3)), (272, (.aload_n 0, 1)), (273, (.bipush 110, 2)), (275, (.newarray .int, 2)), (277, (.putfield 111, 3)), (280, (.aload_n 0, 1)), (281, (.bipush 10, 2)), (283, (.newarray .int, 2)), (285, (.putfield 114, 3)), (288, (.aload_n 0, 1)), (289, (.bipush 11, 2)), (291, (.newarray .int, 2)), (293, (.putfield 117, 3)), (296, (.aload_n 0, 1)), (297, (.bipush 11, 2)), (299, (.newarray .int, 2)), (301, (.putfield 120, 3)), (304, (.aload_n 0, 1)), (305, (.bipush 10, 2)), (307, (.newarray .int, 2)), (309, (.putfield 123, 3)), (312, (.aload_n 0, 1)), (313, (.bipush 10, 2)), (315, (.newarray .int, 2)), (317, (.putfield 126, 3)), (320, (.aload_n 0, 1)), (321, (.sipush 250, 3)), (324, (.newarray .int, 2)), (326, (.putfield 129, 3)), (329, (.aload_n 0, 1)), (330, (.bipush 9, 2)), (332, (.newarray .int, 2)), (334, (.putfield 132, 3)), (337, (.aload_n 0, 1)), (338, (.bipush 10, 2)), (340, (.newarray .int, 2)), (342, (.putfield 135, 3)), (345, (.aload_n 0, 1)), (346, (.sipush 4000, 3)), (349, (.newarray .byte, 2)), (351, (.putfield 138, 3)), (354, (.iconst 0, 1)), (355, (.istore_n 1, 1)), (356, (.iload_n 1, 1)), (357, (.bipush 16, 2)), (359, (.if_icmp .ge 17, 3)), (362, (.aload_n 0, 1)), (363, (.iload_n 1, 1)), (364, (.invokestatic 141, 3)), (367, (.invokevirtual 145, 3)), (370, (.iinc 1 1, 3)), (373, (.goto (-17), 3)), (376, (.return_, 1))]
def u_X12_init : Fx := (yX12_init, (cX12_init, (2, (none, tb_X12_init))))
theorem tk_X12_init : ∀ q ∈ u_X12_init.2.2.2.2, decode u_X12_init.2.1 q.1 = .ok q.2 := by decide +kernel
theorem mc_X12_init : MC u_X12_init 0 := ⟨tbm 1301 (by decide +kernel) rfl, tbm 128 (by decide +kernel) rfl, ⟨by decide, by decide, by decide +kernel⟩, by decide⟩
theorem ini_X12_init : Cond.instanceMethod u_X12_init.1 ∈ TB := tbm 1300 (by decide +kernel) rfl
def f_X12_init_j376 (t : List Sh) (m : Mi) : Option (Mm) :=
  some (t, m)
def f_X12_init_l356 (t : List Sh) (m : Mi) (a0 : Nat) (a1 : Int32) : Option ((Int32 × Mi) ⊕ ((Mi))) :=
  if 16 ≤ a1 then
    some (.inr m)
  else
    (f_X12_slotOf a1).bind fun x254 =>
    (if ob t a0 12 = true then
    (f_X12_full t m a0 x254).bind fun m256 =>
    lt (a1 + 1) fun x257 =>
    some (.inl (x257, m256))
    else none)
def f_X12_init_j356 (t : List Sh) (m : Mi) (a0 : Nat) (a1 : Int32) : Option (Mm) :=
  (lp (fun x : Int32 × Mi => f_X12_init_l356 t x.2 a0 x.1) FUEL (a1, m)).bind (fun y : Mi => f_X12_init_j376 t y)
set_option maxRecDepth 20000 in
def f_X12_init (t : List Sh) (m : Mi) (a0 : Nat) : Option (Mm) :=
  (if t.length < 1000000 then
  lt (t.length + 1) fun r2 =>
  lt (t ++ [.inr (.byte, ix 2000)]) fun t3 =>
  lt (zr m (t.length + 1)) fun m4 =>
  (if ob t3 a0 12 = true then
  lt (sr m4 a0 0 r2) fun m6 =>
  (if t3.length < 1000000 then
  lt (t3.length + 1) fun r8 =>
  lt (t3 ++ [.inr (.byte, ix 2001)]) fun t9 =>
  lt (zr m6 (t3.length + 1)) fun m10 =>
  (if ob t9 a0 12 = true then
  lt (sr m10 a0 2 r8) fun m12 =>
  (if t9.length < 1000000 then
  lt (t9.length + 1) fun r14 =>
  lt (t9 ++ [.inr (.long, ix 9)]) fun t15 =>
  lt (zr m12 (t9.length + 1)) fun m16 =>
  (if ob t15 a0 12 = true then
  lt (sr m16 a0 4 r14) fun m18 =>
  (if t15.length < 1000000 then
  lt (t15.length + 1) fun r20 =>
  lt (t15 ++ [.inr (.int, ix 272)]) fun t21 =>
  lt (zr m18 (t15.length + 1)) fun m22 =>
  (if ob t21 a0 12 = true then
  lt (sr m22 a0 7 r20) fun m24 =>
  (if t21.length < 1000000 then
  lt (t21.length + 1) fun r26 =>
  lt (t21 ++ [.inr (.long, ix 78336)]) fun t27 =>
  lt (zr m24 (t21.length + 1)) fun m28 =>
  (if ob t27 a0 12 = true then
  lt (sr m28 a0 8 r26) fun m30 =>
  (if t27.length < 1000000 then
  lt (t27.length + 1) fun r32 =>
  lt (t27 ++ [.inr (.long, ix 6300)]) fun t33 =>
  lt (zr m30 (t27.length + 1)) fun m34 =>
  (if ob t33 a0 12 = true then
  lt (sr m34 a0 9 r32) fun m36 =>
  (if t33.length < 1000000 then
  lt (t33.length + 1) fun r38 =>
  lt (t33 ++ [.inr (.long, ix 9)]) fun t39 =>
  lt (zr m36 (t33.length + 1)) fun m40 =>
  (if ob t39 a0 12 = true then
  lt (sr m40 a0 11 r38) fun m42 =>
  (if t39.length < 1000000 then
  lt (t39.length + 1) fun r44 =>
  lt (t39 ++ [.inr (.long, ix 9)]) fun t45 =>
  lt (zr m42 (t39.length + 1)) fun m46 =>
  (if ob t45 a0 12 = true then
  lt (sr m46 a0 12 r44) fun m48 =>
  (if t45.length < 1000000 then
  lt (t45.length + 1) fun r50 =>
  lt (t45 ++ [.inr (.long, ix 9)]) fun t51 =>
  lt (zr m48 (t45.length + 1)) fun m52 =>
  (if ob t51 a0 12 = true then
  lt (sr m52 a0 13 r50) fun m54 =>
  (if t51.length < 1000000 then
  lt (t51.length + 1) fun r56 =>
  lt (t51 ++ [.inr (.byte, ix 4000)]) fun t57 =>
  lt (zr m54 (t51.length + 1)) fun m58 =>
  (if ob t57 a0 12 = true then
  lt (sr m58 a0 22 r56) fun m60 =>
  (if t57.length < 1000000 then
  lt (t57.length + 1) fun r62 =>
  lt (t57 ++ [.inr (.int, ix 2)]) fun t63 =>
  lt (zr m60 (t57.length + 1)) fun m64 =>
  (if ob t63 a0 12 = true then
  lt (sr m64 a0 23 r62) fun m66 =>
  (if t63.length < 1000000 then
  lt (t63.length + 1) fun r68 =>
  lt (t63 ++ [.inr (.int, ix 2)]) fun t69 =>
  lt (zr m66 (t63.length + 1)) fun m70 =>
  (if ob t69 a0 12 = true then
  lt (sr m70 a0 24 r68) fun m72 =>
  (if t69.length < 1000000 then
  lt (t69.length + 1) fun r74 =>
  lt (t69 ++ [.inr (.int, ix 2)]) fun t75 =>
  lt (zr m72 (t69.length + 1)) fun m76 =>
  (if ob t75 a0 12 = true then
  lt (sr m76 a0 25 r74) fun m78 =>
  (if t75.length < 1000000 then
  lt (t75.length + 1) fun r80 =>
  lt (t75 ++ [.inr (.int, ix 2)]) fun t81 =>
  lt (zr m78 (t75.length + 1)) fun m82 =>
  (if ob t81 a0 12 = true then
  lt (sr m82 a0 26 r80) fun m84 =>
  (if t81.length < 1000000 then
  lt (t81.length + 1) fun r86 =>
  lt (t81 ++ [.inr (.int, ix 20)]) fun t87 =>
  lt (zr m84 (t81.length + 1)) fun m88 =>
  (if ob t87 a0 12 = true then
  lt (sr m88 a0 27 r86) fun m90 =>
  (if t87.length < 1000000 then
  lt (t87.length + 1) fun r92 =>
  lt (t87 ++ [.inr (.int, ix 20)]) fun t93 =>
  lt (zr m90 (t87.length + 1)) fun m94 =>
  (if ob t93 a0 12 = true then
  lt (sr m94 a0 28 r92) fun m96 =>
  (if t93.length < 1000000 then
  lt (t93.length + 1) fun r98 =>
  lt (t93 ++ [.inr (.int, ix 22)]) fun t99 =>
  lt (zr m96 (t93.length + 1)) fun m100 =>
  (if ob t99 a0 12 = true then
  lt (sr m100 a0 29 r98) fun m102 =>
  (if t99.length < 1000000 then
  lt (t99.length + 1) fun r104 =>
  lt (t99 ++ [.inr (.int, ix 120)]) fun t105 =>
  lt (zr m102 (t99.length + 1)) fun m106 =>
  (if ob t105 a0 12 = true then
  lt (sr m106 a0 30 r104) fun m108 =>
  (if t105.length < 1000000 then
  lt (t105.length + 1) fun r110 =>
  lt (t105 ++ [.inr (.int, ix 120)]) fun t111 =>
  lt (zr m108 (t105.length + 1)) fun m112 =>
  (if ob t111 a0 12 = true then
  lt (sr m112 a0 31 r110) fun m114 =>
  (if t111.length < 1000000 then
  lt (t111.length + 1) fun r116 =>
  lt (t111 ++ [.inr (.int, ix 120)]) fun t117 =>
  lt (zr m114 (t111.length + 1)) fun m118 =>
  (if ob t117 a0 12 = true then
  lt (sr m118 a0 32 r116) fun m120 =>
  (if t117.length < 1000000 then
  lt (t117.length + 1) fun r122 =>
  lt (t117 ++ [.inr (.long, ix 1080)]) fun t123 =>
  lt (zr m120 (t117.length + 1)) fun m124 =>
  (if ob t123 a0 12 = true then
  lt (sr m124 a0 33 r122) fun m126 =>
  (if t123.length < 1000000 then
  lt (t123.length + 1) fun r128 =>
  lt (t123 ++ [.inr (.int, ix 500)]) fun t129 =>
  lt (zr m126 (t123.length + 1)) fun m130 =>
  (if ob t129 a0 12 = true then
  lt (sr m130 a0 34 r128) fun m132 =>
  (if t129.length < 1000000 then
  lt (t129.length + 1) fun r134 =>
  lt (t129 ++ [.inr (.int, ix 500)]) fun t135 =>
  lt (zr m132 (t129.length + 1)) fun m136 =>
  (if ob t135 a0 12 = true then
  lt (sr m136 a0 35 r134) fun m138 =>
  (if t135.length < 1000000 then
  lt (t135.length + 1) fun r140 =>
  lt (t135 ++ [.inr (.int, ix 500)]) fun t141 =>
  lt (zr m138 (t135.length + 1)) fun m142 =>
  (if ob t141 a0 12 = true then
  lt (sr m142 a0 36 r140) fun m144 =>
  (if t141.length < 1000000 then
  lt (t141.length + 1) fun r146 =>
  lt (t141 ++ [.inr (.int, ix 500)]) fun t147 =>
  lt (zr m144 (t141.length + 1)) fun m148 =>
  (if ob t147 a0 12 = true then
  lt (sr m148 a0 37 r146) fun m150 =>
  (if t147.length < 1000000 then
  lt (t147.length + 1) fun r152 =>
  lt (t147 ++ [.inr (.int, ix 500)]) fun t153 =>
  lt (zr m150 (t147.length + 1)) fun m154 =>
  (if ob t153 a0 12 = true then
  lt (sr m154 a0 38 r152) fun m156 =>
  (if t153.length < 1000000 then
  lt (t153.length + 1) fun r158 =>
  lt (t153 ++ [.inr (.int, ix 250)]) fun t159 =>
  lt (zr m156 (t153.length + 1)) fun m160 =>
  (if ob t159 a0 12 = true then
  lt (sr m160 a0 39 r158) fun m162 =>
  (if t159.length < 1000000 then
  lt (t159.length + 1) fun r164 =>
  lt (t159 ++ [.inr (.long, ix 72000)]) fun t165 =>
  lt (zr m162 (t159.length + 1)) fun m166 =>
  (if ob t165 a0 12 = true then
  lt (sr m166 a0 40 r164) fun m168 =>
  (if t165.length < 1000000 then
  lt (t165.length + 1) fun r170 =>
  lt (t165 ++ [.inr (.int, ix 250)]) fun t171 =>
  lt (zr m168 (t165.length + 1)) fun m172 =>
  (if ob t171 a0 12 = true then
  lt (sr m172 a0 41 r170) fun m174 =>
  (if t171.length < 1000000 then
  lt (t171.length + 1) fun r176 =>
  lt (t171 ++ [.inr (.boolean, ix 250)]) fun t177 =>
  lt (zr m174 (t171.length + 1)) fun m178 =>
  (if ob t177 a0 12 = true then
  lt (sr m178 a0 42 r176) fun m180 =>
  (if t177.length < 1000000 then
  lt (t177.length + 1) fun r182 =>
  lt (t177 ++ [.inr (.int, ix 700)]) fun t183 =>
  lt (zr m180 (t177.length + 1)) fun m184 =>
  (if ob t183 a0 12 = true then
  lt (sr m184 a0 43 r182) fun m186 =>
  (if t183.length < 1000000 then
  lt (t183.length + 1) fun r188 =>
  lt (t183 ++ [.inr (.int, ix 700)]) fun t189 =>
  lt (zr m186 (t183.length + 1)) fun m190 =>
  (if ob t189 a0 12 = true then
  lt (sr m190 a0 44 r188) fun m192 =>
  (if t189.length < 1000000 then
  lt (t189.length + 1) fun r194 =>
  lt (t189 ++ [.inr (.int, ix 110)]) fun t195 =>
  lt (zr m192 (t189.length + 1)) fun m196 =>
  (if ob t195 a0 12 = true then
  lt (sr m196 a0 45 r194) fun m198 =>
  (if t195.length < 1000000 then
  lt (t195.length + 1) fun r200 =>
  lt (t195 ++ [.inr (.int, ix 10)]) fun t201 =>
  lt (zr m198 (t195.length + 1)) fun m202 =>
  (if ob t201 a0 12 = true then
  lt (sr m202 a0 46 r200) fun m204 =>
  (if t201.length < 1000000 then
  lt (t201.length + 1) fun r206 =>
  lt (t201 ++ [.inr (.int, ix 11)]) fun t207 =>
  lt (zr m204 (t201.length + 1)) fun m208 =>
  (if ob t207 a0 12 = true then
  lt (sr m208 a0 47 r206) fun m210 =>
  (if t207.length < 1000000 then
  lt (t207.length + 1) fun r212 =>
  lt (t207 ++ [.inr (.int, ix 11)]) fun t213 =>
  lt (zr m210 (t207.length + 1)) fun m214 =>
  (if ob t213 a0 12 = true then
  lt (sr m214 a0 48 r212) fun m216 =>
  (if t213.length < 1000000 then
  lt (t213.length + 1) fun r218 =>
  lt (t213 ++ [.inr (.int, ix 10)]) fun t219 =>
  lt (zr m216 (t213.length + 1)) fun m220 =>
  (if ob t219 a0 12 = true then
  lt (sr m220 a0 53 r218) fun m222 =>
  (if t219.length < 1000000 then
  lt (t219.length + 1) fun r224 =>
  lt (t219 ++ [.inr (.int, ix 10)]) fun t225 =>
  lt (zr m222 (t219.length + 1)) fun m226 =>
  (if ob t225 a0 12 = true then
  lt (sr m226 a0 54 r224) fun m228 =>
  (if t225.length < 1000000 then
  lt (t225.length + 1) fun r230 =>
  lt (t225 ++ [.inr (.int, ix 250)]) fun t231 =>
  lt (zr m228 (t225.length + 1)) fun m232 =>
  (if ob t231 a0 12 = true then
  lt (sr m232 a0 55 r230) fun m234 =>
  (if t231.length < 1000000 then
  lt (t231.length + 1) fun r236 =>
  lt (t231 ++ [.inr (.int, ix 9)]) fun t237 =>
  lt (zr m234 (t231.length + 1)) fun m238 =>
  (if ob t237 a0 12 = true then
  lt (sr m238 a0 56 r236) fun m240 =>
  (if t237.length < 1000000 then
  lt (t237.length + 1) fun r242 =>
  lt (t237 ++ [.inr (.int, ix 10)]) fun t243 =>
  lt (zr m240 (t237.length + 1)) fun m244 =>
  (if ob t243 a0 12 = true then
  lt (sr m244 a0 58 r242) fun m246 =>
  (if t243.length < 1000000 then
  lt (t243.length + 1) fun r248 =>
  lt (t243 ++ [.inr (.byte, ix 4000)]) fun t249 =>
  lt (zr m246 (t243.length + 1)) fun m250 =>
  (if ob t249 a0 12 = true then
  lt (sr m250 a0 59 r248) fun m252 =>
  f_X12_init_j356 t249 m252 a0 0
  else none)
  else none)
  else none)
  else none)
  else none)
  else none)
  else none)
  else none)
  else none)
  else none)
  else none)
  else none)
  else none)
  else none)
  else none)
  else none)
  else none)
  else none)
  else none)
  else none)
  else none)
  else none)
  else none)
  else none)
  else none)
  else none)
  else none)
  else none)
  else none)
  else none)
  else none)
  else none)
  else none)
  else none)
  else none)
  else none)
  else none)
  else none)
  else none)
  else none)
  else none)
  else none)
  else none)
  else none)
  else none)
  else none)
  else none)
  else none)
  else none)
  else none)
  else none)
  else none)
  else none)
  else none)
  else none)
  else none)
  else none)
  else none)
  else none)
  else none)
  else none)
  else none)
  else none)
  else none)
  else none)
  else none)
  else none)
  else none)
  else none)
  else none)
  else none)
  else none)
  else none)
  else none)
  else none)
  else none)
  else none)
  else none)
  else none)
  else none)
  else none)
  else none)
  else none)
  else none)
set_option maxRecDepth 40000 in
set_option maxHeartbeats 4000000 in
theorem sm_X12_init (e2 : Nat × (Nat × (Nat × Nat))) (t : List Sh) (m : Mi) (a0 : Nat) (h0 : sh t a0 = some (.inl 12)) : Sm u_X12_init (4, e2) kA 0 [(0, .inr (.inr a0))] [] (t, m) (f_X12_init t m a0) := by
  unfold f_X12_init
  refine r_aload_n 0 1 0 rfl rfl rfl rfl ?_
  refine r_objI 1 4 rfl rfl lk_RX12_3 (Nat.le_of_ble_eq_true rfl) (Nat.le_of_ble_eq_true rfl) h0 ?_
  refine r_aload_n 2 5 0 rfl rfl rfl rfl ?_
  refine r_sipush 3 8 (v := 2000) rfl rfl (by decide) ?_
  refine r_gd (fun h1 => ?_)
  refine r_newa 4 10 (ty := .byte) (q := 2) rfl rfl h1 rfl (by decide) (fun _ => rfl) wd_160 (by decide) (by decide) ?_
  refine r_ltR (fun r2 => ?_)
  refine r_ltT (fun t3 => ?_)
  refine r_ltM (fun m4 => ?_)
  refine r_gd (fun h5 => ?_)
  refine r_putR 5 13 rfl rfl fl_RX12_9 (fun _ => ⟨rfl, rfl⟩) rfl (ob_sh h5) ?_
  refine r_ltM (fun m6 => ?_)
  refine r_aload_n 6 14 0 rfl rfl rfl rfl ?_
  refine r_sipush 7 17 (v := 2001) rfl rfl (by decide) ?_
  refine r_gd (fun h7 => ?_)
  refine r_newa 8 19 (ty := .byte) (q := 2) rfl rfl h7 rfl (by decide) (fun _ => rfl) wd_160 (by decide) (by decide) ?_
  refine r_ltR (fun r8 => ?_)
  refine r_ltT (fun t9 => ?_)
  refine r_ltM (fun m10 => ?_)
  refine r_gd (fun h11 => ?_)
  refine r_putR 9 22 rfl rfl fl_RX12_13 (fun _ => ⟨rfl, rfl⟩) rfl (ob_sh h11) ?_
  refine r_ltM (fun m12 => ?_)
  refine r_aload_n 10 23 0 rfl rfl rfl rfl ?_
  refine r_bipush 11 25 (v := 9) rfl rfl (by decide) ?_
  refine r_gd (fun h13 => ?_)
  refine r_newa 12 27 (ty := .long) (q := 1) rfl rfl h13 rfl (by decide) (fun _ => rfl) wd_161 (by decide) (by decide) ?_
  refine r_ltR (fun r14 => ?_)
  refine r_ltT (fun t15 => ?_)
  refine r_ltM (fun m16 => ?_)
  refine r_gd (fun h17 => ?_)
  refine r_putR 13 30 rfl rfl fl_RX12_16 (fun _ => ⟨rfl, rfl⟩) rfl (ob_sh h17) ?_
  refine r_ltM (fun m18 => ?_)
  refine r_aload_n 14 31 0 rfl rfl rfl rfl ?_
  refine r_sipush 15 34 (v := 272) rfl rfl (by decide) ?_
  refine r_gd (fun h19 => ?_)
  refine r_newa 16 36 (ty := .int) (q := 0) rfl rfl h19 rfl (by decide) (fun _ => rfl) wd_231 (by decide) (by decide) ?_
  refine r_ltR (fun r20 => ?_)
  refine r_ltT (fun t21 => ?_)
  refine r_ltM (fun m22 => ?_)
  refine r_gd (fun h23 => ?_)
  refine r_putR 17 39 rfl rfl fl_RX12_20 (fun _ => ⟨rfl, rfl⟩) rfl (ob_sh h23) ?_
  refine r_ltM (fun m24 => ?_)
  refine r_aload_n 18 40 0 rfl rfl rfl rfl ?_
  refine r_ldc 19 42 rfl rfl kc_RX12_24 ?_
  refine r_gd (fun h25 => ?_)
  refine r_newa 20 44 (ty := .long) (q := 1) rfl rfl h25 rfl (by decide) (fun _ => rfl) wd_161 (by decide) (by decide) ?_
  refine r_ltR (fun r26 => ?_)
  refine r_ltT (fun t27 => ?_)
  refine r_ltM (fun m28 => ?_)
  refine r_gd (fun h29 => ?_)
  refine r_putR 21 47 rfl rfl fl_RX12_25 (fun _ => ⟨rfl, rfl⟩) rfl (ob_sh h29) ?_
  refine r_ltM (fun m30 => ?_)
  refine r_aload_n 22 48 0 rfl rfl rfl rfl ?_
  refine r_sipush 23 51 (v := 6300) rfl rfl (by decide) ?_
  refine r_gd (fun h31 => ?_)
  refine r_newa 24 53 (ty := .long) (q := 1) rfl rfl h31 rfl (by decide) (fun _ => rfl) wd_161 (by decide) (by decide) ?_
  refine r_ltR (fun r32 => ?_)
  refine r_ltT (fun t33 => ?_)
  refine r_ltM (fun m34 => ?_)
  refine r_gd (fun h35 => ?_)
  refine r_putR 25 56 rfl rfl fl_RX12_28 (fun _ => ⟨rfl, rfl⟩) rfl (ob_sh h35) ?_
  refine r_ltM (fun m36 => ?_)
  refine r_aload_n 26 57 0 rfl rfl rfl rfl ?_
  refine r_bipush 27 59 (v := 9) rfl rfl (by decide) ?_
  refine r_gd (fun h37 => ?_)
  refine r_newa 28 61 (ty := .long) (q := 1) rfl rfl h37 rfl (by decide) (fun _ => rfl) wd_161 (by decide) (by decide) ?_
  refine r_ltR (fun r38 => ?_)
  refine r_ltT (fun t39 => ?_)
  refine r_ltM (fun m40 => ?_)
  refine r_gd (fun h41 => ?_)
  refine r_putR 29 64 rfl rfl fl_RX12_31 (fun _ => ⟨rfl, rfl⟩) rfl (ob_sh h41) ?_
  refine r_ltM (fun m42 => ?_)
  refine r_aload_n 30 65 0 rfl rfl rfl rfl ?_
  refine r_bipush 31 67 (v := 9) rfl rfl (by decide) ?_
  refine r_gd (fun h43 => ?_)
  refine r_newa 32 69 (ty := .long) (q := 1) rfl rfl h43 rfl (by decide) (fun _ => rfl) wd_161 (by decide) (by decide) ?_
  refine r_ltR (fun r44 => ?_)
  refine r_ltT (fun t45 => ?_)
  refine r_ltM (fun m46 => ?_)
  refine r_gd (fun h47 => ?_)
  refine r_putR 33 72 rfl rfl fl_RX12_34 (fun _ => ⟨rfl, rfl⟩) rfl (ob_sh h47) ?_
  refine r_ltM (fun m48 => ?_)
  refine r_aload_n 34 73 0 rfl rfl rfl rfl ?_
  refine r_bipush 35 75 (v := 9) rfl rfl (by decide) ?_
  refine r_gd (fun h49 => ?_)
  refine r_newa 36 77 (ty := .long) (q := 1) rfl rfl h49 rfl (by decide) (fun _ => rfl) wd_161 (by decide) (by decide) ?_
  refine r_ltR (fun r50 => ?_)
  refine r_ltT (fun t51 => ?_)
  refine r_ltM (fun m52 => ?_)
  refine r_gd (fun h53 => ?_)
  refine r_putR 37 80 rfl rfl fl_RX12_37 (fun _ => ⟨rfl, rfl⟩) rfl (ob_sh h53) ?_
  refine r_ltM (fun m54 => ?_)
  refine r_aload_n 38 81 0 rfl rfl rfl rfl ?_
  refine r_sipush 39 84 (v := 4000) rfl rfl (by decide) ?_
  refine r_gd (fun h55 => ?_)
  refine r_newa 40 86 (ty := .byte) (q := 2) rfl rfl h55 rfl (by decide) (fun _ => rfl) wd_160 (by decide) (by decide) ?_
  refine r_ltR (fun r56 => ?_)
  refine r_ltT (fun t57 => ?_)
  refine r_ltM (fun m58 => ?_)
  refine r_gd (fun h59 => ?_)
  refine r_putR 41 89 rfl rfl fl_RX12_40 (fun _ => ⟨rfl, rfl⟩) rfl (ob_sh h59) ?_
  refine r_ltM (fun m60 => ?_)
  refine r_aload_n 42 90 0 rfl rfl rfl rfl ?_
  refine r_iconst 43 91 (v := 2) rfl rfl (by decide) ?_
  refine r_gd (fun h61 => ?_)
  refine r_newa 44 93 (ty := .int) (q := 0) rfl rfl h61 rfl (by decide) (fun _ => rfl) wd_231 (by decide) (by decide) ?_
  refine r_ltR (fun r62 => ?_)
  refine r_ltT (fun t63 => ?_)
  refine r_ltM (fun m64 => ?_)
  refine r_gd (fun h65 => ?_)
  refine r_putR 45 96 rfl rfl fl_RX12_43 (fun _ => ⟨rfl, rfl⟩) rfl (ob_sh h65) ?_
  refine r_ltM (fun m66 => ?_)
  refine r_aload_n 46 97 0 rfl rfl rfl rfl ?_
  refine r_iconst 47 98 (v := 2) rfl rfl (by decide) ?_
  refine r_gd (fun h67 => ?_)
  refine r_newa 48 100 (ty := .int) (q := 0) rfl rfl h67 rfl (by decide) (fun _ => rfl) wd_231 (by decide) (by decide) ?_
  refine r_ltR (fun r68 => ?_)
  refine r_ltT (fun t69 => ?_)
  refine r_ltM (fun m70 => ?_)
  refine r_gd (fun h71 => ?_)
  refine r_putR 49 103 rfl rfl fl_RX12_46 (fun _ => ⟨rfl, rfl⟩) rfl (ob_sh h71) ?_
  refine r_ltM (fun m72 => ?_)
  refine r_aload_n 50 104 0 rfl rfl rfl rfl ?_
  refine r_iconst 51 105 (v := 2) rfl rfl (by decide) ?_
  refine r_gd (fun h73 => ?_)
  refine r_newa 52 107 (ty := .int) (q := 0) rfl rfl h73 rfl (by decide) (fun _ => rfl) wd_231 (by decide) (by decide) ?_
  refine r_ltR (fun r74 => ?_)
  refine r_ltT (fun t75 => ?_)
  refine r_ltM (fun m76 => ?_)
  refine r_gd (fun h77 => ?_)
  refine r_putR 53 110 rfl rfl fl_RX12_49 (fun _ => ⟨rfl, rfl⟩) rfl (ob_sh h77) ?_
  refine r_ltM (fun m78 => ?_)
  refine r_aload_n 54 111 0 rfl rfl rfl rfl ?_
  refine r_iconst 55 112 (v := 2) rfl rfl (by decide) ?_
  refine r_gd (fun h79 => ?_)
  refine r_newa 56 114 (ty := .int) (q := 0) rfl rfl h79 rfl (by decide) (fun _ => rfl) wd_231 (by decide) (by decide) ?_
  refine r_ltR (fun r80 => ?_)
  refine r_ltT (fun t81 => ?_)
  refine r_ltM (fun m82 => ?_)
  refine r_gd (fun h83 => ?_)
  refine r_putR 57 117 rfl rfl fl_RX12_52 (fun _ => ⟨rfl, rfl⟩) rfl (ob_sh h83) ?_
  refine r_ltM (fun m84 => ?_)
  refine r_aload_n 58 118 0 rfl rfl rfl rfl ?_
  refine r_bipush 59 120 (v := 20) rfl rfl (by decide) ?_
  refine r_gd (fun h85 => ?_)
  refine r_newa 60 122 (ty := .int) (q := 0) rfl rfl h85 rfl (by decide) (fun _ => rfl) wd_231 (by decide) (by decide) ?_
  refine r_ltR (fun r86 => ?_)
  refine r_ltT (fun t87 => ?_)
  refine r_ltM (fun m88 => ?_)
  refine r_gd (fun h89 => ?_)
  refine r_putR 61 125 rfl rfl fl_RX12_55 (fun _ => ⟨rfl, rfl⟩) rfl (ob_sh h89) ?_
  refine r_ltM (fun m90 => ?_)
  refine r_aload_n 62 126 0 rfl rfl rfl rfl ?_
  refine r_bipush 63 128 (v := 20) rfl rfl (by decide) ?_
  refine r_gd (fun h91 => ?_)
  refine r_newa 64 130 (ty := .int) (q := 0) rfl rfl h91 rfl (by decide) (fun _ => rfl) wd_231 (by decide) (by decide) ?_
  refine r_ltR (fun r92 => ?_)
  refine r_ltT (fun t93 => ?_)
  refine r_ltM (fun m94 => ?_)
  refine r_gd (fun h95 => ?_)
  refine r_putR 65 133 rfl rfl fl_RX12_58 (fun _ => ⟨rfl, rfl⟩) rfl (ob_sh h95) ?_
  refine r_ltM (fun m96 => ?_)
  refine r_aload_n 66 134 0 rfl rfl rfl rfl ?_
  refine r_bipush 67 136 (v := 22) rfl rfl (by decide) ?_
  refine r_gd (fun h97 => ?_)
  refine r_newa 68 138 (ty := .int) (q := 0) rfl rfl h97 rfl (by decide) (fun _ => rfl) wd_231 (by decide) (by decide) ?_
  refine r_ltR (fun r98 => ?_)
  refine r_ltT (fun t99 => ?_)
  refine r_ltM (fun m100 => ?_)
  refine r_gd (fun h101 => ?_)
  refine r_putR 69 141 rfl rfl fl_RX12_61 (fun _ => ⟨rfl, rfl⟩) rfl (ob_sh h101) ?_
  refine r_ltM (fun m102 => ?_)
  refine r_aload_n 70 142 0 rfl rfl rfl rfl ?_
  refine r_bipush 71 144 (v := 120) rfl rfl (by decide) ?_
  refine r_gd (fun h103 => ?_)
  refine r_newa 72 146 (ty := .int) (q := 0) rfl rfl h103 rfl (by decide) (fun _ => rfl) wd_231 (by decide) (by decide) ?_
  refine r_ltR (fun r104 => ?_)
  refine r_ltT (fun t105 => ?_)
  refine r_ltM (fun m106 => ?_)
  refine r_gd (fun h107 => ?_)
  refine r_putR 73 149 rfl rfl fl_RX12_64 (fun _ => ⟨rfl, rfl⟩) rfl (ob_sh h107) ?_
  refine r_ltM (fun m108 => ?_)
  refine r_aload_n 74 150 0 rfl rfl rfl rfl ?_
  refine r_bipush 75 152 (v := 120) rfl rfl (by decide) ?_
  refine r_gd (fun h109 => ?_)
  refine r_newa 76 154 (ty := .int) (q := 0) rfl rfl h109 rfl (by decide) (fun _ => rfl) wd_231 (by decide) (by decide) ?_
  refine r_ltR (fun r110 => ?_)
  refine r_ltT (fun t111 => ?_)
  refine r_ltM (fun m112 => ?_)
  refine r_gd (fun h113 => ?_)
  refine r_putR 77 157 rfl rfl fl_RX12_67 (fun _ => ⟨rfl, rfl⟩) rfl (ob_sh h113) ?_
  refine r_ltM (fun m114 => ?_)
  refine r_aload_n 78 158 0 rfl rfl rfl rfl ?_
  refine r_bipush 79 160 (v := 120) rfl rfl (by decide) ?_
  refine r_gd (fun h115 => ?_)
  refine r_newa 80 162 (ty := .int) (q := 0) rfl rfl h115 rfl (by decide) (fun _ => rfl) wd_231 (by decide) (by decide) ?_
  refine r_ltR (fun r116 => ?_)
  refine r_ltT (fun t117 => ?_)
  refine r_ltM (fun m118 => ?_)
  refine r_gd (fun h119 => ?_)
  refine r_putR 81 165 rfl rfl fl_RX12_70 (fun _ => ⟨rfl, rfl⟩) rfl (ob_sh h119) ?_
  refine r_ltM (fun m120 => ?_)
  refine r_aload_n 82 166 0 rfl rfl rfl rfl ?_
  refine r_sipush 83 169 (v := 1080) rfl rfl (by decide) ?_
  refine r_gd (fun h121 => ?_)
  refine r_newa 84 171 (ty := .long) (q := 1) rfl rfl h121 rfl (by decide) (fun _ => rfl) wd_161 (by decide) (by decide) ?_
  refine r_ltR (fun r122 => ?_)
  refine r_ltT (fun t123 => ?_)
  refine r_ltM (fun m124 => ?_)
  refine r_gd (fun h125 => ?_)
  refine r_putR 85 174 rfl rfl fl_RX12_73 (fun _ => ⟨rfl, rfl⟩) rfl (ob_sh h125) ?_
  refine r_ltM (fun m126 => ?_)
  refine r_aload_n 86 175 0 rfl rfl rfl rfl ?_
  refine r_sipush 87 178 (v := 500) rfl rfl (by decide) ?_
  refine r_gd (fun h127 => ?_)
  refine r_newa 88 180 (ty := .int) (q := 0) rfl rfl h127 rfl (by decide) (fun _ => rfl) wd_231 (by decide) (by decide) ?_
  refine r_ltR (fun r128 => ?_)
  refine r_ltT (fun t129 => ?_)
  refine r_ltM (fun m130 => ?_)
  refine r_gd (fun h131 => ?_)
  refine r_putR 89 183 rfl rfl fl_RX12_76 (fun _ => ⟨rfl, rfl⟩) rfl (ob_sh h131) ?_
  refine r_ltM (fun m132 => ?_)
  refine r_aload_n 90 184 0 rfl rfl rfl rfl ?_
  refine r_sipush 91 187 (v := 500) rfl rfl (by decide) ?_
  refine r_gd (fun h133 => ?_)
  refine r_newa 92 189 (ty := .int) (q := 0) rfl rfl h133 rfl (by decide) (fun _ => rfl) wd_231 (by decide) (by decide) ?_
  refine r_ltR (fun r134 => ?_)
  refine r_ltT (fun t135 => ?_)
  refine r_ltM (fun m136 => ?_)
  refine r_gd (fun h137 => ?_)
  refine r_putR 93 192 rfl rfl fl_RX12_79 (fun _ => ⟨rfl, rfl⟩) rfl (ob_sh h137) ?_
  refine r_ltM (fun m138 => ?_)
  refine r_aload_n 94 193 0 rfl rfl rfl rfl ?_
  refine r_sipush 95 196 (v := 500) rfl rfl (by decide) ?_
  refine r_gd (fun h139 => ?_)
  refine r_newa 96 198 (ty := .int) (q := 0) rfl rfl h139 rfl (by decide) (fun _ => rfl) wd_231 (by decide) (by decide) ?_
  refine r_ltR (fun r140 => ?_)
  refine r_ltT (fun t141 => ?_)
  refine r_ltM (fun m142 => ?_)
  refine r_gd (fun h143 => ?_)
  refine r_putR 97 201 rfl rfl fl_RX12_82 (fun _ => ⟨rfl, rfl⟩) rfl (ob_sh h143) ?_
  refine r_ltM (fun m144 => ?_)
  refine r_aload_n 98 202 0 rfl rfl rfl rfl ?_
  refine r_sipush 99 205 (v := 500) rfl rfl (by decide) ?_
  refine r_gd (fun h145 => ?_)
  refine r_newa 100 207 (ty := .int) (q := 0) rfl rfl h145 rfl (by decide) (fun _ => rfl) wd_231 (by decide) (by decide) ?_
  refine r_ltR (fun r146 => ?_)
  refine r_ltT (fun t147 => ?_)
  refine r_ltM (fun m148 => ?_)
  refine r_gd (fun h149 => ?_)
  refine r_putR 101 210 rfl rfl fl_RX12_85 (fun _ => ⟨rfl, rfl⟩) rfl (ob_sh h149) ?_
  refine r_ltM (fun m150 => ?_)
  refine r_aload_n 102 211 0 rfl rfl rfl rfl ?_
  refine r_sipush 103 214 (v := 500) rfl rfl (by decide) ?_
  refine r_gd (fun h151 => ?_)
  refine r_newa 104 216 (ty := .int) (q := 0) rfl rfl h151 rfl (by decide) (fun _ => rfl) wd_231 (by decide) (by decide) ?_
  refine r_ltR (fun r152 => ?_)
  refine r_ltT (fun t153 => ?_)
  refine r_ltM (fun m154 => ?_)
  refine r_gd (fun h155 => ?_)
  refine r_putR 105 219 rfl rfl fl_RX12_88 (fun _ => ⟨rfl, rfl⟩) rfl (ob_sh h155) ?_
  refine r_ltM (fun m156 => ?_)
  refine r_aload_n 106 220 0 rfl rfl rfl rfl ?_
  refine r_sipush 107 223 (v := 250) rfl rfl (by decide) ?_
  refine r_gd (fun h157 => ?_)
  refine r_newa 108 225 (ty := .int) (q := 0) rfl rfl h157 rfl (by decide) (fun _ => rfl) wd_231 (by decide) (by decide) ?_
  refine r_ltR (fun r158 => ?_)
  refine r_ltT (fun t159 => ?_)
  refine r_ltM (fun m160 => ?_)
  refine r_gd (fun h161 => ?_)
  refine r_putR 109 228 rfl rfl fl_RX12_91 (fun _ => ⟨rfl, rfl⟩) rfl (ob_sh h161) ?_
  refine r_ltM (fun m162 => ?_)
  refine r_aload_n 110 229 0 rfl rfl rfl rfl ?_
  refine r_ldc 111 231 rfl rfl kc_RX12_94 ?_
  refine r_gd (fun h163 => ?_)
  refine r_newa 112 233 (ty := .long) (q := 1) rfl rfl h163 rfl (by decide) (fun _ => rfl) wd_161 (by decide) (by decide) ?_
  refine r_ltR (fun r164 => ?_)
  refine r_ltT (fun t165 => ?_)
  refine r_ltM (fun m166 => ?_)
  refine r_gd (fun h167 => ?_)
  refine r_putR 113 236 rfl rfl fl_RX12_95 (fun _ => ⟨rfl, rfl⟩) rfl (ob_sh h167) ?_
  refine r_ltM (fun m168 => ?_)
  refine r_aload_n 114 237 0 rfl rfl rfl rfl ?_
  refine r_sipush 115 240 (v := 250) rfl rfl (by decide) ?_
  refine r_gd (fun h169 => ?_)
  refine r_newa 116 242 (ty := .int) (q := 0) rfl rfl h169 rfl (by decide) (fun _ => rfl) wd_231 (by decide) (by decide) ?_
  refine r_ltR (fun r170 => ?_)
  refine r_ltT (fun t171 => ?_)
  refine r_ltM (fun m172 => ?_)
  refine r_gd (fun h173 => ?_)
  refine r_putR 117 245 rfl rfl fl_RX12_98 (fun _ => ⟨rfl, rfl⟩) rfl (ob_sh h173) ?_
  refine r_ltM (fun m174 => ?_)
  refine r_aload_n 118 246 0 rfl rfl rfl rfl ?_
  refine r_sipush 119 249 (v := 250) rfl rfl (by decide) ?_
  refine r_gd (fun h175 => ?_)
  refine r_newa 120 251 (ty := .boolean) (q := 3) rfl rfl h175 rfl (by decide) (fun _ => rfl) wd_472 (by decide) (by decide) ?_
  refine r_ltR (fun r176 => ?_)
  refine r_ltT (fun t177 => ?_)
  refine r_ltM (fun m178 => ?_)
  refine r_gd (fun h179 => ?_)
  refine r_putR 121 254 rfl rfl fl_RX12_101 (fun _ => ⟨rfl, rfl⟩) rfl (ob_sh h179) ?_
  refine r_ltM (fun m180 => ?_)
  refine r_aload_n 122 255 0 rfl rfl rfl rfl ?_
  refine r_sipush 123 258 (v := 700) rfl rfl (by decide) ?_
  refine r_gd (fun h181 => ?_)
  refine r_newa 124 260 (ty := .int) (q := 0) rfl rfl h181 rfl (by decide) (fun _ => rfl) wd_231 (by decide) (by decide) ?_
  refine r_ltR (fun r182 => ?_)
  refine r_ltT (fun t183 => ?_)
  refine r_ltM (fun m184 => ?_)
  refine r_gd (fun h185 => ?_)
  refine r_putR 125 263 rfl rfl fl_RX12_105 (fun _ => ⟨rfl, rfl⟩) rfl (ob_sh h185) ?_
  refine r_ltM (fun m186 => ?_)
  refine r_aload_n 126 264 0 rfl rfl rfl rfl ?_
  refine r_sipush 127 267 (v := 700) rfl rfl (by decide) ?_
  refine r_gd (fun h187 => ?_)
  refine r_newa 128 269 (ty := .int) (q := 0) rfl rfl h187 rfl (by decide) (fun _ => rfl) wd_231 (by decide) (by decide) ?_
  refine r_ltR (fun r188 => ?_)
  refine r_ltT (fun t189 => ?_)
  refine r_ltM (fun m190 => ?_)
  refine r_gd (fun h191 => ?_)
  refine r_putR 129 272 rfl rfl fl_RX12_108 (fun _ => ⟨rfl, rfl⟩) rfl (ob_sh h191) ?_
  refine r_ltM (fun m192 => ?_)
  refine r_aload_n 130 273 0 rfl rfl rfl rfl ?_
  refine r_bipush 131 275 (v := 110) rfl rfl (by decide) ?_
  refine r_gd (fun h193 => ?_)
  refine r_newa 132 277 (ty := .int) (q := 0) rfl rfl h193 rfl (by decide) (fun _ => rfl) wd_231 (by decide) (by decide) ?_
  refine r_ltR (fun r194 => ?_)
  refine r_ltT (fun t195 => ?_)
  refine r_ltM (fun m196 => ?_)
  refine r_gd (fun h197 => ?_)
  refine r_putR 133 280 rfl rfl fl_RX12_111 (fun _ => ⟨rfl, rfl⟩) rfl (ob_sh h197) ?_
  refine r_ltM (fun m198 => ?_)
  refine r_aload_n 134 281 0 rfl rfl rfl rfl ?_
  refine r_bipush 135 283 (v := 10) rfl rfl (by decide) ?_
  refine r_gd (fun h199 => ?_)
  refine r_newa 136 285 (ty := .int) (q := 0) rfl rfl h199 rfl (by decide) (fun _ => rfl) wd_231 (by decide) (by decide) ?_
  refine r_ltR (fun r200 => ?_)
  refine r_ltT (fun t201 => ?_)
  refine r_ltM (fun m202 => ?_)
  refine r_gd (fun h203 => ?_)
  refine r_putR 137 288 rfl rfl fl_RX12_114 (fun _ => ⟨rfl, rfl⟩) rfl (ob_sh h203) ?_
  refine r_ltM (fun m204 => ?_)
  refine r_aload_n 138 289 0 rfl rfl rfl rfl ?_
  refine r_bipush 139 291 (v := 11) rfl rfl (by decide) ?_
  refine r_gd (fun h205 => ?_)
  refine r_newa 140 293 (ty := .int) (q := 0) rfl rfl h205 rfl (by decide) (fun _ => rfl) wd_231 (by decide) (by decide) ?_
  refine r_ltR (fun r206 => ?_)
  refine r_ltT (fun t207 => ?_)
  refine r_ltM (fun m208 => ?_)
  refine r_gd (fun h209 => ?_)
  refine r_putR 141 296 rfl rfl fl_RX12_117 (fun _ => ⟨rfl, rfl⟩) rfl (ob_sh h209) ?_
  refine r_ltM (fun m210 => ?_)
  refine r_aload_n 142 297 0 rfl rfl rfl rfl ?_
  refine r_bipush 143 299 (v := 11) rfl rfl (by decide) ?_
  refine r_gd (fun h211 => ?_)
  refine r_newa 144 301 (ty := .int) (q := 0) rfl rfl h211 rfl (by decide) (fun _ => rfl) wd_231 (by decide) (by decide) ?_
  refine r_ltR (fun r212 => ?_)
  refine r_ltT (fun t213 => ?_)
  refine r_ltM (fun m214 => ?_)
  refine r_gd (fun h215 => ?_)
  refine r_putR 145 304 rfl rfl fl_RX12_120 (fun _ => ⟨rfl, rfl⟩) rfl (ob_sh h215) ?_
  refine r_ltM (fun m216 => ?_)
  refine r_aload_n 146 305 0 rfl rfl rfl rfl ?_
  refine r_bipush 147 307 (v := 10) rfl rfl (by decide) ?_
  refine r_gd (fun h217 => ?_)
  refine r_newa 148 309 (ty := .int) (q := 0) rfl rfl h217 rfl (by decide) (fun _ => rfl) wd_231 (by decide) (by decide) ?_
  refine r_ltR (fun r218 => ?_)
  refine r_ltT (fun t219 => ?_)
  refine r_ltM (fun m220 => ?_)
  refine r_gd (fun h221 => ?_)
  refine r_putR 149 312 rfl rfl fl_RX12_123 (fun _ => ⟨rfl, rfl⟩) rfl (ob_sh h221) ?_
  refine r_ltM (fun m222 => ?_)
  refine r_aload_n 150 313 0 rfl rfl rfl rfl ?_
  refine r_bipush 151 315 (v := 10) rfl rfl (by decide) ?_
  refine r_gd (fun h223 => ?_)
  refine r_newa 152 317 (ty := .int) (q := 0) rfl rfl h223 rfl (by decide) (fun _ => rfl) wd_231 (by decide) (by decide) ?_
  refine r_ltR (fun r224 => ?_)
  refine r_ltT (fun t225 => ?_)
  refine r_ltM (fun m226 => ?_)
  refine r_gd (fun h227 => ?_)
  refine r_putR 153 320 rfl rfl fl_RX12_126 (fun _ => ⟨rfl, rfl⟩) rfl (ob_sh h227) ?_
  refine r_ltM (fun m228 => ?_)
  refine r_aload_n 154 321 0 rfl rfl rfl rfl ?_
  refine r_sipush 155 324 (v := 250) rfl rfl (by decide) ?_
  refine r_gd (fun h229 => ?_)
  refine r_newa 156 326 (ty := .int) (q := 0) rfl rfl h229 rfl (by decide) (fun _ => rfl) wd_231 (by decide) (by decide) ?_
  refine r_ltR (fun r230 => ?_)
  refine r_ltT (fun t231 => ?_)
  refine r_ltM (fun m232 => ?_)
  refine r_gd (fun h233 => ?_)
  refine r_putR 157 329 rfl rfl fl_RX12_129 (fun _ => ⟨rfl, rfl⟩) rfl (ob_sh h233) ?_
  refine r_ltM (fun m234 => ?_)
  refine r_aload_n 158 330 0 rfl rfl rfl rfl ?_
  refine r_bipush 159 332 (v := 9) rfl rfl (by decide) ?_
  refine r_gd (fun h235 => ?_)
  refine r_newa 160 334 (ty := .int) (q := 0) rfl rfl h235 rfl (by decide) (fun _ => rfl) wd_231 (by decide) (by decide) ?_
  refine r_ltR (fun r236 => ?_)
  refine r_ltT (fun t237 => ?_)
  refine r_ltM (fun m238 => ?_)
  refine r_gd (fun h239 => ?_)
  refine r_putR 161 337 rfl rfl fl_RX12_132 (fun _ => ⟨rfl, rfl⟩) rfl (ob_sh h239) ?_
  refine r_ltM (fun m240 => ?_)
  refine r_aload_n 162 338 0 rfl rfl rfl rfl ?_
  refine r_bipush 163 340 (v := 10) rfl rfl (by decide) ?_
  refine r_gd (fun h241 => ?_)
  refine r_newa 164 342 (ty := .int) (q := 0) rfl rfl h241 rfl (by decide) (fun _ => rfl) wd_231 (by decide) (by decide) ?_
  refine r_ltR (fun r242 => ?_)
  refine r_ltT (fun t243 => ?_)
  refine r_ltM (fun m244 => ?_)
  refine r_gd (fun h245 => ?_)
  refine r_putR 165 345 rfl rfl fl_RX12_135 (fun _ => ⟨rfl, rfl⟩) rfl (ob_sh h245) ?_
  refine r_ltM (fun m246 => ?_)
  refine r_aload_n 166 346 0 rfl rfl rfl rfl ?_
  refine r_sipush 167 349 (v := 4000) rfl rfl (by decide) ?_
  refine r_gd (fun h247 => ?_)
  refine r_newa 168 351 (ty := .byte) (q := 2) rfl rfl h247 rfl (by decide) (fun _ => rfl) wd_160 (by decide) (by decide) ?_
  refine r_ltR (fun r248 => ?_)
  refine r_ltT (fun t249 => ?_)
  refine r_ltM (fun m250 => ?_)
  refine r_gd (fun h251 => ?_)
  refine r_putR 169 354 rfl rfl fl_RX12_138 (fun _ => ⟨rfl, rfl⟩) rfl (ob_sh h251) ?_
  refine r_ltM (fun m252 => ?_)
  refine r_iconst 170 355 (v := 0) rfl rfl (by decide) ?_
  refine r_istore_n 171 356 (L' := [(1, .inl 0), (0, .inr (.inr a0))]) rfl rfl rfl (by decide) rfl ?_
  have hj356 : ∀ (t : List Sh) (m : Mi) (a1 : Int32), Sm u_X12_init (4, e2) kA 356 [(0, .inr (.inr a0)), (1, .inl a1)] [] (t, m) (f_X12_init_j356 t m a0 a1) := by
    intro t m a1
    unfold f_X12_init_j356
    have hj376 : ∀ (t : List Sh) (m : Mi), Sm u_X12_init (4, e2) kA 376 [] [] (t, m) (f_X12_init_j376 t m) := by
      intro t m
      unfold f_X12_init_j376
      exact r_vret 181 rfl rfl rfl
    refine r_lp (Lf := fun x : Int32 × Mi => [(0, .inr (.inr a0)), (1, .inl (x.1))]) (Mf := fun x : Int32 × Mi => (t, x.2)) (a1, m) ?_ FUEL
    rintro ⟨a1, m⟩ κ356 hc356 he356
    refine r_eq (L' := [(0, .inr (.inr a0)), (1, .inl a1)]) (M' := (t, m)) rfl rfl ?_
    refine r_eqr (r' := f_X12_init_l356 t m a0 a1) rfl ?_
    unfold f_X12_init_l356
    refine r_iload_n 172 357 1 rfl rfl rfl rfl ?_
    refine r_bipush 173 359 (v := 16) rfl rfl (by decide) ?_
    refine r_icmp_ge 174 376 362 rfl rfl rfl (fun h253 => ?_) (fun h253 => ?_)
    · refine r_leaf (r2 := (f_X12_init_j376 t m : Option (Mm))) (he356 _) ?_
      exact r_sub [] rfl (hj376 t m)
    · refine r_aload_n 175 363 0 rfl rfl rfl rfl ?_
      refine r_iload_n 176 364 1 rfl rfl rfl rfl ?_
      refine r_SIo 177 367 (a := 0) (cn := 0) (st := [.inr (.inr a0)]) (av := [.inl a1]) (μ' := u_X12_slotOf) (d := 1) rfl rfl mc_X12_slotOf st_X12_slotOf lk_RX12_141 (Nat.le_of_ble_eq_true rfl) rfl (Nat.le_of_ble_eq_true rfl) (fun _ h => ct_X12_slotOf h) (fun x254 => ?_)
      refine r_gd (fun h255 => ?_)
      refine r_VV 178 370 (st := []) (av := [.inr (.inr a0), .inl x254]) (av' := [.inl x254]) (μ' := u_X12_full) (d := 3) rfl rfl mc_X12_full in_X12_full lk_RX12_145 (Nat.le_of_ble_eq_true rfl) rfl rfl (ob_sh h255) rfl (Nat.le_of_ble_eq_true rfl) (fun _ h => ct_X12_full (ob_sh h255) h) (fun m256 => ?_)
      refine r_iinc 179 373 1 (L' := [(1, .inl (a1 + 1)), (0, .inr (.inr a0))]) rfl rfl rfl (by decide) rfl ?_
      refine r_ltV (fun x257 => ?_)
      refine r_goto 180 356 rfl rfl ?_
      exact r_sub [1, 0] rfl (hc356 (x257, m256))
  exact r_sub [1, 0] rfl (hj356 t249 m252 0)
theorem mn_X12_init {t : List Sh} {m : Mi} {a0 : Nat} {q : Mm} (h0 : sh t a0 = some (.inl 12)) (h : f_X12_init t m a0 = some q) : t.length ≤ q.1.length ∧ zs t ≤ zs q.1 := ((sm_X12_init (0, 0, 0, 0) t m a0 h0) (none, q) (by rw [h]; rfl)).1
theorem ct_X12_init {t : List Sh} {m : Mi} {a0 : Nat} {q : Mm} (h0 : sh t a0 = some (.inl 12)) (h : f_X12_init t m a0 = some q) : Ct u_X12_init 4 (q.1.length - t.length) (zs q.1 - zs t) [.inr (.inr a0)] (t, m) (none, q) := by
  have hm := mn_X12_init h0 h
  exact ct_of (by decide) tk_X12_init (Nat.le_of_ble_eq_true rfl) (sm_X12_init (q.1.length - t.length, zs q.1 - zs t, t.length, zs t) t m a0 h0) (by rw [h]; rfl) (by show q.1.length ≤ t.length + (q.1.length - t.length); omega) (by show zs q.1 ≤ zs t + (zs q.1 - zs t); omega)
theorem lk_RX12_360 : Cond.methodLink RX12 360 yX12_pairs ∈ TB := tbm 1700 (by decide +kernel) rfl
theorem lk_RX12_363 : Cond.methodLink RX12 363 yX12_sifts ∈ TB := tbm 1707 (by decide +kernel) rfl
def tb_X12_opens : Tb := [(0, (.aload_n 0, 1)), (1, (.getfield 43, 3)), (4, (.aload_n 0, 1)), (5, (.getfield 326, 3)), (8, (.iaload, 1)), (9, (.istore_n 1, 1)), (10, (.iconst 0, 1)), (11, (.istore_n 2, 1)), (12, (.iload_n 2, 1)), (13, (.iload_n 1, 1)), (14, (.if_icmp .ge 55, 3)), (17, (.aload_n 0, 1)), (18, (.getfield 111, 3)), (21, (.iload_n 2, 1)), (22, (.iconst 2, 1)), (23, (.aload_n 0, 1)), (24, (.iload_n 2, 1)), (25, (.invokevirtual 354, 3)), (28, (.ishl, 1)), (29, (.iconst 1, 1)), (30, (.isub, 1)), (31, (.iastore, 1)), (32, (.aload_n 0, 1)), (33, (.getfield 114, 3)), (36, (.iload_n 2, 1)), (37, (.iaload, 1)), (38, (.iconst (-1), 1)), (39, (.if_icmp .eq 24, 3)), (42, (.aload_n 0, 1)), (43, (.getfield 111, 3)), (46, (.iload_n 2, 1)), (47, (.aload_n 0, 1)), (48, (.getfield 111, 3)), (51, (.iload_n 2, 1)), (52, (.iaload, 1)), (53, (.iconst 1, 1)), (54, (.aload_n 0, 1)), (55, (.getfield 114, 3)), (58, (.iload_n 2, 1)), (59, (.iaload, 1)), (60, (.ishl, 1)), (61, (.iand, 1)), (62, (.iastore, 1)), (63, (.iinc 2 1, 3)), (66, (.goto (-54), 3)), (69, (.aload_n 0, 1)), (70, (.getfield 49, 3)), (73, (.aload_n 0, 1)), (74, (.getfield 326, 3)), (77, (.iaload, 1)), (78, (.istore_n 2, 1)), (79, (.iload_n 2, 1)), (80, (.aload_n 0, 1)), (81, (.invokevirtual 332, 3)), (84, (.if_icmp .ge 53, 3)), (87, (.aload_n 0, 1)), (88, (.getfield 88, 3)), (91, (.sipush 250, 3)), (94, (.aload_n 0, 1)), (95, (.getfield 326, 3)), (98, (.imul, 1)), (99, (.iload_n 2, 1)), (100, (.iadd, 1)), (101, (.iaload, 1)), (102, (.istore_n 3, 1)), (103, (.aload_n 0, 1)), (104, (.getfield 101, 3)), (107, (.iload_n 2, 1)), (108, (.baload, 1)), (109, (.ifCond .eq 22, 3)), (112, (.aload_n 0, 1)), (113, (.getfield 111, 3)), (116, (.iload_n 3, 1)), (117, (.aload_n 0, 1)), (118, (.getfield 111, 3)), (121, (.iload_n 3, 1)), (122, (.iaload, 1)), (123, (.aload_n 0, 1)), (124, (.getfield 98, 3)), (127, (.iload_n 2, 1)), (128, (.iaload, 1)), (129, (.iand, 1)), (130, (.iastore, 1)), (131, (.iinc 2 1, 3)), (134, (.goto (-55), 3)), (137, (.aload_n 0, 1)), (138, (.invokevirtual 360, 3)), (141, (.aload_n 0, 1)), (142, (.iconst 0, 1)), (143, (.invokevirtual 363, 3)), (146, (.ireturn, 1))]
def u_X12_opens : Fx := (yX12_opens, (cX12_opens, (4, ((some .boolean), tb_X12_opens))))
theorem tk_X12_opens : ∀ q ∈ u_X12_opens.2.2.2.2, decode u_X12_opens.2.1 q.1 = .ok q.2 := by decide +kernel
theorem mc_X12_opens : MC u_X12_opens 0 := ⟨tbm 1699 (by decide +kernel) rfl, tbm 128 (by decide +kernel) rfl, ⟨by decide, by decide, by decide +kernel⟩, by decide⟩
theorem in_X12_opens : Cond.instanceMethod u_X12_opens.1 ∈ TB ∧ Cond.selects u_X12_opens.1.cls u_X12_opens.1 u_X12_opens.1 ∈ TB := ⟨tbm 1698 (by decide +kernel) rfl, tbm 98 (by decide +kernel) rfl⟩
def f_X12_opens_j137 (t : List Sh) (m : Mi) (a0 : Nat) : Option (Int32 × Mi) :=
  (f_X12_pairs t m a0).bind fun m5 =>
  bd (f_X12_sifts t m5 a0 0) fun x6 m7 =>
  (if zb x6 = true then
  some (x6, m7)
  else none)
def f_X12_opens_l79 (t : List Sh) (m : Mi) (a0 : Nat) (a2 : Int32) : Option ((Int32 × Mi) ⊕ ((Mi))) :=
  (f_X12_constraints t m a0).bind fun x9 =>
  if x9 ≤ a2 then
    some (.inr m)
  else
    (if ar t (gr m a0 38) .int ((250 * (gi m a0 21)) + a2) = true then
    lt (gi m (gr m a0 38) (ix ((250 * (gi m a0 21)) + a2))) fun x12 =>
    (if ar t (gr m a0 42) .boolean a2 = true then
    if (gi m (gr m a0 42) (ix a2)) = 0 then
      lt (a2 + 1) fun x15 =>
      some (.inl (x15, m))
    else
      (if ar t (gr m a0 45) .int x12 = true then
      (if ar t (gr m a0 41) .int a2 = true then
      lt (si m (gr m a0 45) (ix x12) ((gi m (gr m a0 45) (ix x12)) &&& (gi m (gr m a0 41) (ix a2)))) fun m18 =>
      lt (a2 + 1) fun x19 =>
      some (.inl (x19, m18))
      else none)
      else none)
    else none)
    else none)
def f_X12_opens_j79 (t : List Sh) (m : Mi) (a0 : Nat) (a2 : Int32) : Option (Int32 × Mi) :=
  (lp (fun x : Int32 × Mi => f_X12_opens_l79 t x.2 a0 x.1) FUEL (a2, m)).bind (fun y : Mi => f_X12_opens_j137 t y a0)
def f_X12_opens_j69 (t : List Sh) (m : Mi) (a0 : Nat) : Option (Int32 × Mi) :=
  (if ar t (gr m a0 25) .int (gi m a0 21) = true then
  lt (gi m (gr m a0 25) (ix (gi m a0 21))) fun x4 =>
  f_X12_opens_j79 t m a0 x4
  else none)
def f_X12_opens_l12 (t : List Sh) (m : Mi) (a0 : Nat) (a1 : Int32) (a2 : Int32) : Option ((Int32 × Mi) ⊕ ((Mi))) :=
  if a1 ≤ a2 then
    some (.inr m)
  else
    (f_X12_manyOf t m a0 a2).bind fun x21 =>
    (if ar t (gr m a0 45) .int a2 = true then
    lt (si m (gr m a0 45) (ix a2) ((2 <<< (x21 &&& 31)) - 1)) fun m23 =>
    (if ar t (gr m23 a0 46) .int a2 = true then
    if (gi m23 (gr m23 a0 46) (ix a2)) = (-1) then
      lt (a2 + 1) fun x26 =>
      some (.inl (x26, m23))
    else
      (if ar t (gr m23 a0 45) .int a2 = true then
      lt (si m23 (gr m23 a0 45) (ix a2) ((gi m23 (gr m23 a0 45) (ix a2)) &&& (1 <<< ((gi m23 (gr m23 a0 46) (ix a2)) &&& 31)))) fun m28 =>
      lt (a2 + 1) fun x29 =>
      some (.inl (x29, m28))
      else none)
    else none)
    else none)
def f_X12_opens_j12 (t : List Sh) (m : Mi) (a0 : Nat) (a1 : Int32) (a2 : Int32) : Option (Int32 × Mi) :=
  (lp (fun x : Int32 × Mi => f_X12_opens_l12 t x.2 a0 a1 x.1) FUEL (a2, m)).bind (fun y : Mi => f_X12_opens_j69 t y a0)
def f_X12_opens (t : List Sh) (m : Mi) (a0 : Nat) : Option (Int32 × Mi) :=
  (if ar t (gr m a0 23) .int (gi m a0 21) = true then
  lt (gi m (gr m a0 23) (ix (gi m a0 21))) fun x2 =>
  f_X12_opens_j12 t m a0 x2 0
  else none)
set_option maxRecDepth 4000 in
set_option maxHeartbeats 4000000 in
theorem sm_X12_opens (t : List Sh) (m : Mi) (a0 : Nat) (h0 : sh t a0 = some (.inl 12)) : Sm u_X12_opens (4, 0, 0, t.length, zs t) (kI t) 0 [(0, .inr (.inr a0))] [] (t, m) (f_X12_opens t m a0) := by
  unfold f_X12_opens
  refine r_aload_n 0 1 0 rfl rfl rfl rfl ?_
  refine r_getR 1 4 rfl rfl fl_RX12_43 rfl h0 ?_
  refine r_aload_n 2 5 0 rfl rfl rfl rfl ?_
  refine r_getI 3 8 rfl rfl fl_RX12_326 rfl h0 ?_
  refine r_gd (fun h1 => ?_)
  refine r_iald 4 9 rfl rfl h1 ?_
  refine r_ltI (fun x2 => ?_)
  refine r_istore_n 5 10 (L' := [(1, .inl x2), (0, .inr (.inr a0))]) rfl rfl rfl (by decide) rfl ?_
  refine r_iconst 6 11 (v := 0) rfl rfl (by decide) ?_
  refine r_istore_n 7 12 (L' := [(2, .inl 0), (1, .inl x2), (0, .inr (.inr a0))]) rfl rfl rfl (by decide) rfl ?_
  have hj12 : ∀ (m : Mi) (a1 : Int32) (a2 : Int32), Sm u_X12_opens (4, 0, 0, t.length, zs t) (kI t) 12 [(0, .inr (.inr a0)), (1, .inl a1), (2, .inl a2)] [] (t, m) (f_X12_opens_j12 t m a0 a1 a2) := by
    intro m a1 a2
    unfold f_X12_opens_j12
    have hj69 : ∀ (m : Mi), Sm u_X12_opens (4, 0, 0, t.length, zs t) (kI t) 69 [(0, .inr (.inr a0))] [] (t, m) (f_X12_opens_j69 t m a0) := by
      intro m
      unfold f_X12_opens_j69
      refine r_aload_n 45 70 0 rfl rfl rfl rfl ?_
      refine r_getR 46 73 rfl rfl fl_RX12_49 rfl h0 ?_
      refine r_aload_n 47 74 0 rfl rfl rfl rfl ?_
      refine r_getI 48 77 rfl rfl fl_RX12_326 rfl h0 ?_
      refine r_gd (fun h3 => ?_)
      refine r_iald 49 78 rfl rfl h3 ?_
      refine r_ltI (fun x4 => ?_)
      refine r_istore_n 50 79 (L' := [(2, .inl x4), (0, .inr (.inr a0))]) rfl rfl rfl (by decide) rfl ?_
      have hj79 : ∀ (m : Mi) (a2 : Int32), Sm u_X12_opens (4, 0, 0, t.length, zs t) (kI t) 79 [(0, .inr (.inr a0)), (2, .inl a2)] [] (t, m) (f_X12_opens_j79 t m a0 a2) := by
        intro m a2
        unfold f_X12_opens_j79
        have hj137 : ∀ (m : Mi), Sm u_X12_opens (4, 0, 0, t.length, zs t) (kI t) 137 [(0, .inr (.inr a0))] [] (t, m) (f_X12_opens_j137 t m a0) := by
          intro m
          unfold f_X12_opens_j137
          refine r_aload_n 85 138 0 rfl rfl rfl rfl ?_
          refine r_VV 86 141 (st := []) (av := [.inr (.inr a0)]) (av' := []) (μ' := u_X12_pairs) (d := 3) rfl rfl mc_X12_pairs in_X12_pairs lk_RX12_360 (Nat.le_of_ble_eq_true rfl) rfl rfl h0 rfl (Nat.le_of_ble_eq_true rfl) (fun _ h => ct_X12_pairs h0 h) (fun m5 => ?_)
          refine r_aload_n 87 142 0 rfl rfl rfl rfl ?_
          refine r_iconst 88 143 (v := 0) rfl rfl (by decide) ?_
          refine r_VI 89 146 (st := []) (av := [.inr (.inr a0), .inl 0]) (av' := [.inl 0]) (μ' := u_X12_sifts) (d := 3) rfl rfl mc_X12_sifts in_X12_sifts lk_RX12_363 (Nat.le_of_ble_eq_true rfl) rfl rfl h0 rfl (Nat.le_of_ble_eq_true rfl) (fun _ _ h => ct_X12_sifts h0 h) (fun x6 m7 => ?_)
          refine r_gd (fun h8 => ?_)
          exact r_zret 90 rfl rfl (zb_nar h8) rfl
        refine r_lp (Lf := fun x : Int32 × Mi => [(0, .inr (.inr a0)), (2, .inl (x.1))]) (Mf := fun x : Int32 × Mi => (t, x.2)) (a2, m) ?_ FUEL
        rintro ⟨a2, m⟩ κ79 hc79 he79
        refine r_eq (L' := [(0, .inr (.inr a0)), (2, .inl a2)]) (M' := (t, m)) rfl rfl ?_
        refine r_eqr (r' := f_X12_opens_l79 t m a0 a2) rfl ?_
        unfold f_X12_opens_l79
        refine r_iload_n 51 80 1 rfl rfl rfl rfl ?_
        refine r_aload_n 52 81 0 rfl rfl rfl rfl ?_
        refine r_VIo 53 84 (st := [.inl a2]) (av := [.inr (.inr a0)]) (av' := []) (μ' := u_X12_constraints) (d := 1) rfl rfl mc_X12_constraints in_X12_constraints lk_RX12_332 (Nat.le_of_ble_eq_true rfl) rfl rfl h0 rfl (Nat.le_of_ble_eq_true rfl) (fun _ h => ct_X12_constraints h0 h) (fun x9 => ?_)
        refine r_icmp_ge 54 137 87 rfl rfl rfl (fun h10 => ?_) (fun h10 => ?_)
        · refine r_leaf (r2 := (f_X12_opens_j137 t m a0 : Option (Int32 × Mi))) (he79 _) ?_
          exact r_sub [0] rfl (hj137 m)
        · refine r_aload_n 55 88 0 rfl rfl rfl rfl ?_
          refine r_getR 56 91 rfl rfl fl_RX12_88 rfl h0 ?_
          refine r_sipush 57 94 (v := 250) rfl rfl (by decide) ?_
          refine r_aload_n 58 95 0 rfl rfl rfl rfl ?_
          refine r_getI 59 98 rfl rfl fl_RX12_326 rfl h0 ?_
          refine r_imul 60 99 rfl rfl ?_
          refine r_iload_n 61 100 1 rfl rfl rfl rfl ?_
          refine r_iadd 62 101 rfl rfl ?_
          refine r_gd (fun h11 => ?_)
          refine r_iald 63 102 rfl rfl h11 ?_
          refine r_ltI (fun x12 => ?_)
          refine r_istore_n 64 103 (L' := [(3, .inl x12), (0, .inr (.inr a0)), (2, .inl a2)]) rfl rfl rfl (by decide) rfl ?_
          refine r_aload_n 65 104 1 rfl rfl rfl rfl ?_
          refine r_getR 66 107 rfl rfl fl_RX12_101 rfl h0 ?_
          refine r_iload_n 67 108 2 rfl rfl rfl rfl ?_
          refine r_gd (fun h13 => ?_)
          refine r_zald 68 109 rfl rfl h13 ?_
          refine r_if_eq 69 131 112 rfl rfl rfl (fun h14 => ?_) (fun h14 => ?_)
          · refine r_iinc 83 134 2 (L' := [(2, .inl (a2 + 1)), (3, .inl x12), (0, .inr (.inr a0))]) rfl rfl rfl (by decide) rfl ?_
            refine r_ltV (fun x15 => ?_)
            refine r_goto 84 79 rfl rfl ?_
            exact r_sub [2, 0] rfl (hc79 (x15, m))
          · refine r_aload_n 70 113 1 rfl rfl rfl rfl ?_
            refine r_getR 71 116 rfl rfl fl_RX12_111 rfl h0 ?_
            refine r_iload_n 72 117 0 rfl rfl rfl rfl ?_
            refine r_aload_n 73 118 1 rfl rfl rfl rfl ?_
            refine r_getR 74 121 rfl rfl fl_RX12_111 rfl h0 ?_
            refine r_iload_n 75 122 0 rfl rfl rfl rfl ?_
            refine r_gd (fun h16 => ?_)
            refine r_iald 76 123 rfl rfl h16 ?_
            refine r_aload_n 77 124 1 rfl rfl rfl rfl ?_
            refine r_getR 78 127 rfl rfl fl_RX12_98 rfl h0 ?_
            refine r_iload_n 79 128 2 rfl rfl rfl rfl ?_
            refine r_gd (fun h17 => ?_)
            refine r_iald 80 129 rfl rfl h17 ?_
            refine r_iand 81 130 rfl rfl ?_
            refine r_iast 82 131 rfl rfl h16 ?_
            refine r_ltM (fun m18 => ?_)
            refine r_iinc 83 134 2 (L' := [(2, .inl (a2 + 1)), (3, .inl x12), (0, .inr (.inr a0))]) rfl rfl rfl (by decide) rfl ?_
            refine r_ltV (fun x19 => ?_)
            refine r_goto 84 79 rfl rfl ?_
            exact r_sub [2, 0] rfl (hc79 (x19, m18))
      exact r_sub [1, 0] rfl (hj79 m x4)
    refine r_lp (Lf := fun x : Int32 × Mi => [(0, .inr (.inr a0)), (1, .inl a1), (2, .inl (x.1))]) (Mf := fun x : Int32 × Mi => (t, x.2)) (a2, m) ?_ FUEL
    rintro ⟨a2, m⟩ κ12 hc12 he12
    refine r_eq (L' := [(0, .inr (.inr a0)), (1, .inl a1), (2, .inl a2)]) (M' := (t, m)) rfl rfl ?_
    refine r_eqr (r' := f_X12_opens_l12 t m a0 a1 a2) rfl ?_
    unfold f_X12_opens_l12
    refine r_iload_n 8 13 2 rfl rfl rfl rfl ?_
    refine r_iload_n 9 14 1 rfl rfl rfl rfl ?_
    refine r_icmp_ge 10 69 17 rfl rfl rfl (fun h20 => ?_) (fun h20 => ?_)
    · refine r_leaf (r2 := (f_X12_opens_j69 t m a0 : Option (Int32 × Mi))) (he12 _) ?_
      exact r_sub [0] rfl (hj69 m)
    · refine r_aload_n 11 18 0 rfl rfl rfl rfl ?_
      refine r_getR 12 21 rfl rfl fl_RX12_111 rfl h0 ?_
      refine r_iload_n 13 22 2 rfl rfl rfl rfl ?_
      refine r_iconst 14 23 (v := 2) rfl rfl (by decide) ?_
      refine r_aload_n 15 24 0 rfl rfl rfl rfl ?_
      refine r_iload_n 16 25 2 rfl rfl rfl rfl ?_
      refine r_VIo 17 28 (st := [.inl 2, .inl a2, .inr (.inr (gr m a0 45))]) (av := [.inr (.inr a0), .inl a2]) (av' := [.inl a2]) (μ' := u_X12_manyOf) (d := 2) rfl rfl mc_X12_manyOf in_X12_manyOf lk_RX12_354 (Nat.le_of_ble_eq_true rfl) rfl rfl h0 rfl (Nat.le_of_ble_eq_true rfl) (fun _ h => ct_X12_manyOf h0 h) (fun x21 => ?_)
      refine r_ishl 18 29 rfl rfl ?_
      refine r_iconst 19 30 (v := 1) rfl rfl (by decide) ?_
      refine r_isub 20 31 rfl rfl ?_
      refine r_gd (fun h22 => ?_)
      refine r_iast 21 32 rfl rfl h22 ?_
      refine r_ltM (fun m23 => ?_)
      refine r_aload_n 22 33 0 rfl rfl rfl rfl ?_
      refine r_getR 23 36 rfl rfl fl_RX12_114 rfl h0 ?_
      refine r_iload_n 24 37 2 rfl rfl rfl rfl ?_
      refine r_gd (fun h24 => ?_)
      refine r_iald 25 38 rfl rfl h24 ?_
      refine r_iconst 26 39 (v := (-1)) rfl rfl (by decide) ?_
      refine r_icmp_eq 27 63 42 rfl rfl rfl (fun h25 => ?_) (fun h25 => ?_)
      · refine r_iinc 43 66 2 (L' := [(2, .inl (a2 + 1)), (0, .inr (.inr a0)), (1, .inl a1)]) rfl rfl rfl (by decide) rfl ?_
        refine r_ltV (fun x26 => ?_)
        refine r_goto 44 12 rfl rfl ?_
        exact r_sub [1, 2, 0] rfl (hc12 (x26, m23))
      · refine r_aload_n 28 43 0 rfl rfl rfl rfl ?_
        refine r_getR 29 46 rfl rfl fl_RX12_111 rfl h0 ?_
        refine r_iload_n 30 47 2 rfl rfl rfl rfl ?_
        refine r_aload_n 31 48 0 rfl rfl rfl rfl ?_
        refine r_getR 32 51 rfl rfl fl_RX12_111 rfl h0 ?_
        refine r_iload_n 33 52 2 rfl rfl rfl rfl ?_
        refine r_gd (fun h27 => ?_)
        refine r_iald 34 53 rfl rfl h27 ?_
        refine r_iconst 35 54 (v := 1) rfl rfl (by decide) ?_
        refine r_aload_n 36 55 0 rfl rfl rfl rfl ?_
        refine r_getR 37 58 rfl rfl fl_RX12_114 rfl h0 ?_
        refine r_iload_n 38 59 2 rfl rfl rfl rfl ?_
        refine r_iald 39 60 rfl rfl h24 ?_
        refine r_ishl 40 61 rfl rfl ?_
        refine r_iand 41 62 rfl rfl ?_
        refine r_iast 42 63 rfl rfl h27 ?_
        refine r_ltM (fun m28 => ?_)
        refine r_iinc 43 66 2 (L' := [(2, .inl (a2 + 1)), (0, .inr (.inr a0)), (1, .inl a1)]) rfl rfl rfl (by decide) rfl ?_
        refine r_ltV (fun x29 => ?_)
        refine r_goto 44 12 rfl rfl ?_
        exact r_sub [1, 2, 0] rfl (hc12 (x29, m28))
  exact r_sub [2, 1, 0] rfl (hj12 m x2 0)
theorem ct_X12_opens {t : List Sh} {m : Mi} {a0 : Nat} {m' : Mi} {v : Int32}  (h0 : sh t a0 = some (.inl 12)) (h : f_X12_opens t m a0 = some (v, m')) : Ct u_X12_opens 4 0 0 [.inr (.inr a0)] (t, m) (some (.inl v), (t, m')) :=
  ct_of (by decide) tk_X12_opens (Nat.le_of_ble_eq_true rfl) (sm_X12_opens t m a0 h0) (by rw [h]; rfl) (Nat.le_refl _) (Nat.le_refl _)
theorem lk_RX12_190 : Cond.methodLink RX12 190 yX12_identifiers ∈ TB := tbm 1577 (by decide +kernel) rfl
def tb_X12_rest : Tb := [(0, (.iload_n 1, 1)), (1, (.istore_n 3, 1)), (2, (.iload_n 3, 1)), (3, (.iload_n 2, 1)), (4, (.if_icmp .ge 30, 3)), (7, (.aload_n 0, 1)), (8, (.iload_n 3, 1)), (9, (.invokevirtual 169, 3)), (12, (.bipush 45, 2)), (14, (.if_icmp .ne 20, 3)), (17, (.aload_n 0, 1)), (18, (.iload_n 3, 1)), (19, (.iconst 1, 1)), (20, (.iadd, 1)), (21, (.iload_n 2, 1)), (22, (.iconst 1, 1)), (23, (.invokevirtual 190, 3)), (26, (.istore_n 3, 1)), (27, (.iload_n 3, 1)), (28, (.iconst (-1), 1)), (29, (.if_icmp .ne 5, 3)), (32, (.iconst 0, 1)), (33, (.ireturn, 1)), (34, (.iload_n 3, 1)), (35, (.iload_n 2, 1)), (36, (.if_icmp .ge 30, 3)), (39, (.aload_n 0, 1)), (40, (.iload_n 3, 1)), (41, (.invokevirtual 169, 3)), (44, (.bipush 43, 2)), (46, (.if_icmp .ne 20, 3)), (49, (.aload_n 0, 1)), (50, (.iload_n 3, 1)), (51, (.iconst 1, 1)), (52, (.iadd, 1)), (53, (.iload_n 2, 1)), (54, (.iconst 0, 1)), (55, (.invokevirtual 190, 3)), (58, (.istore_n 3, 1)), (59, (.iload_n 3, 1)), (60, (.iconst (-1), 1)), (61, (.if_icmp .ne 5, 3)), (64, (.iconst 0, 1)), (65, (.ireturn, 1)), (66, (.iload_n 3, 1)), (67, (.iload_n 2, 1)), (68, (.if_icmp .ne 7, 3)), (71, (.iconst 1, 1)), (72, (.goto 4, 3)), (75, (.iconst 0, 1)), (76, (.ireturn, 1))]
def u_X12_rest : Fx := (yX12_rest, (cX12_rest, (4, ((some .boolean), tb_X12_rest))))
theorem tk_X12_rest : ∀ q ∈ u_X12_rest.2.2.2.2, decode u_X12_rest.2.1 q.1 = .ok q.2 := by decide +kernel
theorem mc_X12_rest : MC u_X12_rest 2 := ⟨tbm 1576 (by decide +kernel) rfl, tbm 128 (by decide +kernel) rfl, ⟨by decide, by decide, by decide +kernel⟩, by decide⟩
theorem in_X12_rest : Cond.instanceMethod u_X12_rest.1 ∈ TB ∧ Cond.selects u_X12_rest.1.cls u_X12_rest.1 u_X12_rest.1 ∈ TB := ⟨tbm 1575 (by decide +kernel) rfl, tbm 76 (by decide +kernel) rfl⟩
def f_X12_rest_j66 (t : List Sh) (m : Mi) (a2 : Int32) (a3 : Int32) : Option (Int32 × Mi) :=
  if a3 = a2 then
    some (1, m)
  else
    some (0, m)
def f_X12_rest_j34 (t : List Sh) (m : Mi) (a0 : Nat) (a2 : Int32) (a3 : Int32) : Option (Int32 × Mi) :=
  if a2 ≤ a3 then
    f_X12_rest_j66 t m a2 a3
  else
    (f_X12_at t m a0 a3).bind fun x3 =>
    if x3 = 43 then
      bd (f_X12_identifiers t m a0 (a3 + 1) a2 0) fun x5 m6 =>
      if x5 = (-1) then
        some (0, m6)
      else
        f_X12_rest_j66 t m6 a2 x5
    else
      f_X12_rest_j66 t m a2 a3
def f_X12_rest (t : List Sh) (m : Mi) (a0 : Nat) (a1 : Int32) (a2 : Int32) : Option (Int32 × Mi) :=
  if a2 ≤ a1 then
    f_X12_rest_j34 t m a0 a2 a1
  else
    (f_X12_at t m a0 a1).bind fun x9 =>
    if x9 = 45 then
      bd (f_X12_identifiers t m a0 (a1 + 1) a2 1) fun x11 m12 =>
      if x11 = (-1) then
        some (0, m12)
      else
        f_X12_rest_j34 t m12 a0 a2 x11
    else
      f_X12_rest_j34 t m a0 a2 a1
set_option maxRecDepth 4000 in
set_option maxHeartbeats 4000000 in
theorem sm_X12_rest (t : List Sh) (m : Mi) (a0 : Nat) (a1 : Int32) (a2 : Int32) (h0 : sh t a0 = some (.inl 12)) : Sm u_X12_rest (4, 0, 0, t.length, zs t) (kI t) 0 [(0, .inr (.inr a0)), (1, .inl a1), (2, .inl a2)] [] (t, m) (f_X12_rest t m a0 a1 a2) := by
  unfold f_X12_rest
  refine r_iload_n 0 1 1 rfl rfl rfl rfl ?_
  refine r_istore_n 1 2 (L' := [(3, .inl a1), (0, .inr (.inr a0)), (1, .inl a1), (2, .inl a2)]) rfl rfl rfl (by decide) rfl ?_
  refine r_iload_n 2 3 0 rfl rfl rfl rfl ?_
  refine r_iload_n 3 4 3 rfl rfl rfl rfl ?_
  have hj34 : ∀ (m : Mi) (a3 : Int32), Sm u_X12_rest (4, 0, 0, t.length, zs t) (kI t) 34 [(0, .inr (.inr a0)), (2, .inl a2), (3, .inl a3)] [] (t, m) (f_X12_rest_j34 t m a0 a2 a3) := by
    intro m a3
    unfold f_X12_rest_j34
    refine r_iload_n 23 35 2 rfl rfl rfl rfl ?_
    refine r_iload_n 24 36 1 rfl rfl rfl rfl ?_
    have hj66 : ∀ (m : Mi) (a3 : Int32), Sm u_X12_rest (4, 0, 0, t.length, zs t) (kI t) 66 [(2, .inl a2), (3, .inl a3)] [] (t, m) (f_X12_rest_j66 t m a2 a3) := by
      intro m a3
      unfold f_X12_rest_j66
      refine r_iload_n 44 67 1 rfl rfl rfl rfl ?_
      refine r_iload_n 45 68 0 rfl rfl rfl rfl ?_
      refine r_icmp_ne 46 75 71 rfl rfl rfl (fun h1 => ?_) (fun h1 => ?_)
      · refine r_iconst 47 72 (v := 1) rfl rfl (by decide) ?_
        refine r_goto 48 76 rfl rfl ?_
        exact r_zret 50 rfl rfl (by decide) rfl
      · refine r_iconst 49 76 (v := 0) rfl rfl (by decide) ?_
        exact r_zret 50 rfl rfl (by decide) rfl
    refine r_icmp_ge 25 66 39 rfl rfl rfl (fun h2 => ?_) (fun h2 => ?_)
    · exact r_sub [1, 2] rfl (hj66 m a3)
    · refine r_aload_n 26 40 0 rfl rfl rfl rfl ?_
      refine r_iload_n 27 41 2 rfl rfl rfl rfl ?_
      refine r_VIo 28 44 (st := []) (av := [.inr (.inr a0), .inl a3]) (av' := [.inl a3]) (μ' := u_X12_at) (d := 1) rfl rfl mc_X12_at in_X12_at lk_RX12_169 (Nat.le_of_ble_eq_true rfl) rfl rfl h0 rfl (Nat.le_of_ble_eq_true rfl) (fun _ h => ct_X12_at h0 h) (fun x3 => ?_)
      refine r_bipush 29 46 (v := 43) rfl rfl (by decide) ?_
      refine r_icmp_ne 30 66 49 rfl rfl rfl (fun h4 => ?_) (fun h4 => ?_)
      · refine r_aload_n 31 50 0 rfl rfl rfl rfl ?_
        refine r_iload_n 32 51 2 rfl rfl rfl rfl ?_
        refine r_iconst 33 52 (v := 1) rfl rfl (by decide) ?_
        refine r_iadd 34 53 rfl rfl ?_
        refine r_iload_n 35 54 1 rfl rfl rfl rfl ?_
        refine r_iconst 36 55 (v := 0) rfl rfl (by decide) ?_
        refine r_VI 37 58 (st := []) (av := [.inr (.inr a0), .inl (a3 + 1), .inl a2, .inl 0]) (av' := [.inl (a3 + 1), .inl a2, .inl 0]) (μ' := u_X12_identifiers) (d := 3) rfl rfl mc_X12_identifiers in_X12_identifiers lk_RX12_190 (Nat.le_of_ble_eq_true rfl) rfl rfl h0 rfl (Nat.le_of_ble_eq_true rfl) (fun _ _ h => ct_X12_identifiers h0 h) (fun x5 m6 => ?_)
        refine r_istore_n 38 59 (L' := [(3, .inl x5), (0, .inr (.inr a0)), (2, .inl a2)]) rfl rfl rfl (by decide) rfl ?_
        refine r_iload_n 39 60 0 rfl rfl rfl rfl ?_
        refine r_iconst 40 61 (v := (-1)) rfl rfl (by decide) ?_
        refine r_icmp_ne 41 66 64 rfl rfl rfl (fun h7 => ?_) (fun h7 => ?_)
        · refine r_iconst 42 65 (v := 0) rfl rfl (by decide) ?_
          exact r_zret 43 rfl rfl (by decide) rfl
        · exact r_sub [2, 0] rfl (hj66 m6 x5)
      · exact r_sub [1, 2] rfl (hj66 m a3)
  refine r_icmp_ge 4 34 7 rfl rfl rfl (fun h8 => ?_) (fun h8 => ?_)
  · exact r_sub [1, 3, 0] rfl (hj34 m a1)
  · refine r_aload_n 5 8 1 rfl rfl rfl rfl ?_
    refine r_iload_n 6 9 0 rfl rfl rfl rfl ?_
    refine r_VIo 7 12 (st := []) (av := [.inr (.inr a0), .inl a1]) (av' := [.inl a1]) (μ' := u_X12_at) (d := 1) rfl rfl mc_X12_at in_X12_at lk_RX12_169 (Nat.le_of_ble_eq_true rfl) rfl rfl h0 rfl (Nat.le_of_ble_eq_true rfl) (fun _ h => ct_X12_at h0 h) (fun x9 => ?_)
    refine r_bipush 8 14 (v := 45) rfl rfl (by decide) ?_
    refine r_icmp_ne 9 34 17 rfl rfl rfl (fun h10 => ?_) (fun h10 => ?_)
    · refine r_aload_n 10 18 1 rfl rfl rfl rfl ?_
      refine r_iload_n 11 19 0 rfl rfl rfl rfl ?_
      refine r_iconst 12 20 (v := 1) rfl rfl (by decide) ?_
      refine r_iadd 13 21 rfl rfl ?_
      refine r_iload_n 14 22 3 rfl rfl rfl rfl ?_
      refine r_iconst 15 23 (v := 1) rfl rfl (by decide) ?_
      refine r_VI 16 26 (st := []) (av := [.inr (.inr a0), .inl (a1 + 1), .inl a2, .inl 1]) (av' := [.inl (a1 + 1), .inl a2, .inl 1]) (μ' := u_X12_identifiers) (d := 3) rfl rfl mc_X12_identifiers in_X12_identifiers lk_RX12_190 (Nat.le_of_ble_eq_true rfl) rfl rfl h0 rfl (Nat.le_of_ble_eq_true rfl) (fun _ _ h => ct_X12_identifiers h0 h) (fun x11 m12 => ?_)
      refine r_istore_n 17 27 (L' := [(3, .inl x11), (0, .inr (.inr a0)), (1, .inl a1), (2, .inl a2)]) rfl rfl rfl (by decide) rfl ?_
      refine r_iload_n 18 28 0 rfl rfl rfl rfl ?_
      refine r_iconst 19 29 (v := (-1)) rfl rfl (by decide) ?_
      refine r_icmp_ne 20 34 32 rfl rfl rfl (fun h13 => ?_) (fun h13 => ?_)
      · refine r_iconst 21 33 (v := 0) rfl rfl (by decide) ?_
        exact r_zret 22 rfl rfl (by decide) rfl
      · exact r_sub [1, 3, 0] rfl (hj34 m12 x11)
    · exact r_sub [1, 3, 0] rfl (hj34 m a1)
theorem ct_X12_rest {t : List Sh} {m : Mi} {a0 : Nat} {a1 : Int32} {a2 : Int32} {m' : Mi} {v : Int32}  (h0 : sh t a0 = some (.inl 12)) (h : f_X12_rest t m a0 a1 a2 = some (v, m')) : Ct u_X12_rest 4 0 0 [.inr (.inr a0), .inl a1, .inl a2] (t, m) (some (.inl v), (t, m')) :=
  ct_of (by decide) tk_X12_rest (Nat.le_of_ble_eq_true rfl) (sm_X12_rest t m a0 a1 a2 h0) (by rw [h]; rfl) (Nat.le_refl _) (Nat.le_refl _)
theorem lk_RX12_414 : Cond.methodLink RX12 414 yX12_saysVersion ∈ TB := tbm 1767 (by decide +kernel) rfl
theorem lk_RX12_268 : Cond.methodLink RX12 268 yX12_next ∈ TB := tbm 1596 (by decide +kernel) rfl
def tb_X12_saysStretch : Tb := [(0, (.aload_n 0, 1)), (1, (.aload_n 0, 1)), (2, (.getfield 31, 3)), (5, (.iconst 0, 1)), (6, (.invokevirtual 199, 3)), (9, (.aload_n 0, 1)), (10, (.getfield 25, 3)), (13, (.iload_n 1, 1)), (14, (.aload_n 0, 1)), (15, (.getfield 31, 3)), (18, (.iconst 0, 1)), (19, (.invokestatic 209, 3)), (22, (.ifCond .le 7, 3)), (25, (.iconst 1, 1)), (26, (.goto 4, 3)), (29, (.iconst 0, 1)), (30, (.istore_n 3, 1)), (31, (.aload_n 0, 1)), (32, (.getfield 25, 3)), (35, (.iload_n 2, 1)), (36, (.laload, 1)), (37, (.ldc2_w 197, 3)), (40, (.lcmp, 1)), (41, (.ifCond .eq 7, 3)), (44, (.iconst 1, 1)), (45, (.goto 4, 3)), (48, (.iconst 0, 1)), (49, (.istore 4, 2)), (51, (.aload_n 0, 1)), (52, (.getfield 34, 3)), (55, (.iconst 0, 1)), (56, (.aload_n 0, 1)), (57, (.getfield 25, 3)), (60, (.iload_n 1, 1)), (61, (.invokestatic 224, 3)), (64, (.aload_n 0, 1)), (65, (.getfield 34, 3)), (68, (.iconst 3, 1)), (69, (.laload, 1)), (70, (.l2i, 1)), (71, (.iconst 5, 1)), (72, (.if_icmp .ge 11, 3)), (75, (.aload_n 0, 1)), (76, (.getfield 34, 3)), (79, (.iconst 0, 1)), (80, (.invokestatic 268, 3)), (83, (.iload 4, 2)), (85, (.ifCond .eq 35, 3)), (88, (.aload_n 0, 1)), (89, (.getfield 34, 3)), (92, (.iconst 0, 1)), (93, (.aload_n 0, 1)), (94, (.getfield 25, 3)), (97, (.iload_n 2, 1)), (98, (.invokestatic 209, 3)), (101, (.ifCond .ne 19, 3)), (104, (.aload_n 0, 1)), (105, (.bipush 61, 2)), (107, (.invokevirtual 402, 3)), (110, (.aload_n 0, 1)), (111, (.aload_n 0, 1)), (112, (.getfield 25, 3)), (115, (.iload_n 1, 1)), (116, (.invokevirtual 414, 3)), (119, (.return_, 1)), (120, (.iload_n 3, 1)), (121, (.ifCond .ne 14, 3)), (124, (.iload 4, 2)), (126, (.ifCond .ne 9, 3)), (129, (.aload_n 0, 1)), (130, (.bipush 42, 2)), (132, (.invokevirtual 402, 3)), (135, (.iload_n 3, 1)), (136, (.ifCond .eq 24, 3)), (139, (.aload_n 0, 1)), (140, (.bipush 62, 2)), (142, (.invokevirtual 402, 3)), (145, (.aload_n 0, 1)), (146, (.bipush 61, 2)), (148, (.invokevirtual 402, 3)), (151, (.aload_n 0, 1)), (152, (.aload_n 0, 1)), (153, (.getfield 25, 3)), (156, (.iload_n 1, 1)), (157, (.invokevirtual 414, 3)), (160, (.iload_n 3, 1)), (161, (.ifCond .eq 14, 3)), (164, (.iload 4, 2)), (166, (.ifCond .eq 9, 3)), (169, (.aload_n 0, 1)), (170, (.bipush 32, 2)), (172, (.invokevirtual 402, 3)), (175, (.iload 4, 2)), (177, (.ifCond .eq 18, 3)), (180, (.aload_n 0, 1)), (181, (.bipush 60, 2)), (183, (.invokevirtual 402, 3)), (186, (.aload_n 0, 1)), (187, (.aload_n 0, 1)), (188, (.getfield 25, 3)), (191, (.iload_n 2, 1)), (192, (.invokevirtual 414, 3)), (195, (.return_, 1))]
def u_X12_saysStretch : Fx := (yX12_saysStretch, (cX12_saysStretch, (5, (none, tb_X12_saysStretch))))
theorem tk_X12_saysStretch : ∀ q ∈ u_X12_saysStretch.2.2.2.2, decode u_X12_saysStretch.2.1 q.1 = .ok q.2 := by decide +kernel
theorem mc_X12_saysStretch : MC u_X12_saysStretch 2 := ⟨tbm 1766 (by decide +kernel) rfl, tbm 128 (by decide +kernel) rfl, ⟨by decide, by decide, by decide +kernel⟩, by decide⟩
theorem in_X12_saysStretch : Cond.instanceMethod u_X12_saysStretch.1 ∈ TB ∧ Cond.selects u_X12_saysStretch.1.cls u_X12_saysStretch.1 u_X12_saysStretch.1 ∈ TB := ⟨tbm 1765 (by decide +kernel) rfl, tbm 107 (by decide +kernel) rfl⟩
def f_X12_saysStretch_j175 (t : List Sh) (m : Mi) (a0 : Nat) (a2 : Int32) (a4 : Int32) : Option (Mi) :=
  if a4 = 0 then
    some m
  else
    (f_X12_says t m a0 60).bind fun m7 =>
    (f_X12_saysVersion t m7 a0 (gr m7 a0 8) a2).bind fun m8 =>
    some m8
def f_X12_saysStretch_j160 (t : List Sh) (m : Mi) (a0 : Nat) (a2 : Int32) (a3 : Int32) (a4 : Int32) : Option (Mi) :=
  if a3 = 0 then
    f_X12_saysStretch_j175 t m a0 a2 a4
  else
    if a4 = 0 then
      f_X12_saysStretch_j175 t m a0 a2 a4
    else
      (f_X12_says t m a0 32).bind fun m11 =>
      f_X12_saysStretch_j175 t m11 a0 a2 a4
def f_X12_saysStretch_j135 (t : List Sh) (m : Mi) (a0 : Nat) (a1 : Int32) (a2 : Int32) (a3 : Int32) (a4 : Int32) : Option (Mi) :=
  if a3 = 0 then
    f_X12_saysStretch_j160 t m a0 a2 a3 a4
  else
    (f_X12_says t m a0 62).bind fun m13 =>
    (f_X12_says t m13 a0 61).bind fun m14 =>
    (f_X12_saysVersion t m14 a0 (gr m14 a0 8) a1).bind fun m15 =>
    f_X12_saysStretch_j160 t m15 a0 a2 a3 a4
def f_X12_saysStretch_j120 (t : List Sh) (m : Mi) (a0 : Nat) (a1 : Int32) (a2 : Int32) (a3 : Int32) (a4 : Int32) : Option (Mi) :=
  if a3 = 0 then
    if a4 = 0 then
      (f_X12_says t m a0 42).bind fun m18 =>
      f_X12_saysStretch_j135 t m18 a0 a1 a2 a3 a4
    else
      f_X12_saysStretch_j135 t m a0 a1 a2 a3 a4
  else
    f_X12_saysStretch_j135 t m a0 a1 a2 a3 a4
def f_X12_saysStretch_j83 (t : List Sh) (m : Mi) (a0 : Nat) (a1 : Int32) (a2 : Int32) (a3 : Int32) (a4 : Int32) : Option (Mi) :=
  if a4 = 0 then
    f_X12_saysStretch_j120 t m a0 a1 a2 a3 a4
  else
    (f_X12_compare t m (gr m a0 12) 0 (gr m a0 8) a2).bind fun x20 =>
    if x20 = 0 then
      (f_X12_says t m a0 61).bind fun m22 =>
      (f_X12_saysVersion t m22 a0 (gr m22 a0 8) a1).bind fun m23 =>
      some m23
    else
      f_X12_saysStretch_j120 t m a0 a1 a2 a3 a4
def f_X12_saysStretch_j49 (t : List Sh) (m : Mi) (a0 : Nat) (a1 : Int32) (a2 : Int32) (a3 : Int32) (s0 : Int32) : Option (Mi) :=
  (f_X12_copy t m (gr m a0 12) 0 (gr m a0 8) a1).bind fun m4 =>
  (if ar t (gr m4 a0 12) .long 3 = true then
  if 5 ≤ (Int64.toInt32 (gl m4 (gr m4 a0 12) (ix 3))) then
    f_X12_saysStretch_j83 t m4 a0 a1 a2 a3 s0
  else
    (f_X12_next t m4 (gr m4 a0 12) 0).bind fun m25 =>
    f_X12_saysStretch_j83 t m25 a0 a1 a2 a3 s0
  else none)
def f_X12_saysStretch_j30 (t : List Sh) (m : Mi) (a0 : Nat) (a1 : Int32) (a2 : Int32) (s0 : Int32) : Option (Mi) :=
  (if ar t (gr m a0 8) .long a2 = true then
  if (lg_cmp (gl m (gr m a0 8) (ix a2)) 1099511627776) = 0 then
    f_X12_saysStretch_j49 t m a0 a1 a2 s0 0
  else
    f_X12_saysStretch_j49 t m a0 a1 a2 s0 1
  else none)
def f_X12_saysStretch (t : List Sh) (m : Mi) (a0 : Nat) (a1 : Int32) (a2 : Int32) : Option (Mi) :=
  (f_X12_first t m a0 (gr m a0 11) 0).bind fun m1 =>
  (f_X12_compare t m1 (gr m1 a0 8) a1 (gr m1 a0 11) 0).bind fun x2 =>
  if x2 ≤ 0 then
    f_X12_saysStretch_j30 t m1 a0 a1 a2 0
  else
    f_X12_saysStretch_j30 t m1 a0 a1 a2 1
set_option maxRecDepth 4000 in
set_option maxHeartbeats 4000000 in
theorem sm_X12_saysStretch (t : List Sh) (m : Mi) (a0 : Nat) (a1 : Int32) (a2 : Int32) (h0 : sh t a0 = some (.inl 12)) : Sm u_X12_saysStretch (4, 0, 0, t.length, zs t) (kV t) 0 [(0, .inr (.inr a0)), (1, .inl a1), (2, .inl a2)] [] (t, m) (f_X12_saysStretch t m a0 a1 a2) := by
  unfold f_X12_saysStretch
  refine r_aload_n 0 1 0 rfl rfl rfl rfl ?_
  refine r_aload_n 1 2 0 rfl rfl rfl rfl ?_
  refine r_getR 2 5 rfl rfl fl_RX12_31 rfl h0 ?_
  refine r_iconst 3 6 (v := 0) rfl rfl (by decide) ?_
  refine r_VV 4 9 (st := []) (av := [.inr (.inr a0), .inr (.inr (gr m a0 11)), .inl 0]) (av' := [.inr (.inr (gr m a0 11)), .inl 0]) (μ' := u_X12_first) (d := 1) rfl rfl mc_X12_first in_X12_first lk_RX12_199 (Nat.le_of_ble_eq_true rfl) rfl rfl h0 rfl (Nat.le_of_ble_eq_true rfl) (fun _ h => ct_X12_first h0 h) (fun m1 => ?_)
  refine r_aload_n 5 10 0 rfl rfl rfl rfl ?_
  refine r_getR 6 13 rfl rfl fl_RX12_25 rfl h0 ?_
  refine r_iload_n 7 14 1 rfl rfl rfl rfl ?_
  refine r_aload_n 8 15 0 rfl rfl rfl rfl ?_
  refine r_getR 9 18 rfl rfl fl_RX12_31 rfl h0 ?_
  refine r_iconst 10 19 (v := 0) rfl rfl (by decide) ?_
  refine r_SIo 11 22 (a := 0) (cn := 0) (st := []) (av := [.inr (.inr (gr m1 a0 8)), .inl a1, .inr (.inr (gr m1 a0 11)), .inl 0]) (μ' := u_X12_compare) (d := 1) rfl rfl mc_X12_compare st_X12_compare lk_RX12_209 (Nat.le_of_ble_eq_true rfl) rfl (Nat.le_of_ble_eq_true rfl) (fun _ h => ct_X12_compare h) (fun x2 => ?_)
  have hj30 : ∀ (m : Mi) (s0 : Int32), Sm u_X12_saysStretch (4, 0, 0, t.length, zs t) (kV t) 30 [(0, .inr (.inr a0)), (1, .inl a1), (2, .inl a2)] [.inl s0] (t, m) (f_X12_saysStretch_j30 t m a0 a1 a2 s0) := by
    intro m s0
    unfold f_X12_saysStretch_j30
    refine r_istore_n 16 31 (L' := [(3, .inl s0), (0, .inr (.inr a0)), (1, .inl a1), (2, .inl a2)]) rfl rfl rfl (by decide) rfl ?_
    refine r_aload_n 17 32 1 rfl rfl rfl rfl ?_
    refine r_getR 18 35 rfl rfl fl_RX12_25 rfl h0 ?_
    refine r_iload_n 19 36 3 rfl rfl rfl rfl ?_
    refine r_gd (fun h3 => ?_)
    refine r_lald 20 37 rfl rfl h3 ?_
    refine r_ldc2 21 40 rfl rfl kc_RX12_197 ?_
    refine r_lcmp 22 41 rfl rfl ?_
    have hj49 : ∀ (m : Mi) (a3 : Int32) (s0 : Int32), Sm u_X12_saysStretch (4, 0, 0, t.length, zs t) (kV t) 49 [(0, .inr (.inr a0)), (1, .inl a1), (2, .inl a2), (3, .inl a3)] [.inl s0] (t, m) (f_X12_saysStretch_j49 t m a0 a1 a2 a3 s0) := by
      intro m a3 s0
      unfold f_X12_saysStretch_j49
      refine r_istore 27 51 (L' := [(4, .inl s0), (0, .inr (.inr a0)), (1, .inl a1), (2, .inl a2), (3, .inl a3)]) rfl rfl (by decide) rfl ?_
      refine r_aload_n 28 52 1 rfl rfl rfl rfl ?_
      refine r_getR 29 55 rfl rfl fl_RX12_34 rfl h0 ?_
      refine r_iconst 30 56 (v := 0) rfl rfl (by decide) ?_
      refine r_aload_n 31 57 1 rfl rfl rfl rfl ?_
      refine r_getR 32 60 rfl rfl fl_RX12_25 rfl h0 ?_
      refine r_iload_n 33 61 2 rfl rfl rfl rfl ?_
      refine r_SV 34 64 (a := 0) (cn := 0) (st := []) (av := [.inr (.inr (gr m a0 12)), .inl 0, .inr (.inr (gr m a0 8)), .inl a1]) (μ' := u_X12_copy) (d := 1) rfl rfl mc_X12_copy st_X12_copy lk_RX12_224 (Nat.le_of_ble_eq_true rfl) rfl (Nat.le_of_ble_eq_true rfl) (fun _ h => ct_X12_copy h) (fun m4 => ?_)
      refine r_aload_n 35 65 1 rfl rfl rfl rfl ?_
      refine r_getR 36 68 rfl rfl fl_RX12_34 rfl h0 ?_
      refine r_iconst 37 69 (v := 3) rfl rfl (by decide) ?_
      refine r_gd (fun h5 => ?_)
      refine r_lald 38 70 rfl rfl h5 ?_
      refine r_l2i 39 71 rfl rfl ?_
      refine r_iconst 40 72 (v := 5) rfl rfl (by decide) ?_
      have hj83 : ∀ (m : Mi) (a3 : Int32) (a4 : Int32), Sm u_X12_saysStretch (4, 0, 0, t.length, zs t) (kV t) 83 [(0, .inr (.inr a0)), (1, .inl a1), (2, .inl a2), (3, .inl a3), (4, .inl a4)] [] (t, m) (f_X12_saysStretch_j83 t m a0 a1 a2 a3 a4) := by
        intro m a3 a4
        unfold f_X12_saysStretch_j83
        refine r_iload 46 85 4 rfl rfl rfl ?_
        have hj120 : ∀ (m : Mi) (a3 : Int32) (a4 : Int32), Sm u_X12_saysStretch (4, 0, 0, t.length, zs t) (kV t) 120 [(0, .inr (.inr a0)), (1, .inl a1), (2, .inl a2), (3, .inl a3), (4, .inl a4)] [] (t, m) (f_X12_saysStretch_j120 t m a0 a1 a2 a3 a4) := by
          intro m a3 a4
          unfold f_X12_saysStretch_j120
          refine r_iload_n 65 121 3 rfl rfl rfl rfl ?_
          have hj135 : ∀ (m : Mi) (a3 : Int32) (a4 : Int32), Sm u_X12_saysStretch (4, 0, 0, t.length, zs t) (kV t) 135 [(0, .inr (.inr a0)), (1, .inl a1), (2, .inl a2), (3, .inl a3), (4, .inl a4)] [] (t, m) (f_X12_saysStretch_j135 t m a0 a1 a2 a3 a4) := by
            intro m a3 a4
            unfold f_X12_saysStretch_j135
            refine r_iload_n 72 136 3 rfl rfl rfl rfl ?_
            have hj160 : ∀ (m : Mi) (a3 : Int32) (a4 : Int32), Sm u_X12_saysStretch (4, 0, 0, t.length, zs t) (kV t) 160 [(0, .inr (.inr a0)), (2, .inl a2), (3, .inl a3), (4, .inl a4)] [] (t, m) (f_X12_saysStretch_j160 t m a0 a2 a3 a4) := by
              intro m a3 a4
              unfold f_X12_saysStretch_j160
              refine r_iload_n 85 161 2 rfl rfl rfl rfl ?_
              have hj175 : ∀ (m : Mi) (a4 : Int32), Sm u_X12_saysStretch (4, 0, 0, t.length, zs t) (kV t) 175 [(0, .inr (.inr a0)), (2, .inl a2), (4, .inl a4)] [] (t, m) (f_X12_saysStretch_j175 t m a0 a2 a4) := by
                intro m a4
                unfold f_X12_saysStretch_j175
                refine r_iload 92 177 2 rfl rfl rfl ?_
                refine r_if_eq 93 195 180 rfl rfl rfl (fun h6 => ?_) (fun h6 => ?_)
                · exact r_vret 102 rfl rfl rfl
                · refine r_aload_n 94 181 0 rfl rfl rfl rfl ?_
                  refine r_bipush 95 183 (v := 60) rfl rfl (by decide) ?_
                  refine r_VV 96 186 (st := []) (av := [.inr (.inr a0), .inl 60]) (av' := [.inl 60]) (μ' := u_X12_says) (d := 1) rfl rfl mc_X12_says in_X12_says lk_RX12_402 (Nat.le_of_ble_eq_true rfl) rfl rfl h0 rfl (Nat.le_of_ble_eq_true rfl) (fun _ h => ct_X12_says h0 h) (fun m7 => ?_)
                  refine r_aload_n 97 187 0 rfl rfl rfl rfl ?_
                  refine r_aload_n 98 188 0 rfl rfl rfl rfl ?_
                  refine r_getR 99 191 rfl rfl fl_RX12_25 rfl h0 ?_
                  refine r_iload_n 100 192 1 rfl rfl rfl rfl ?_
                  refine r_VV 101 195 (st := []) (av := [.inr (.inr a0), .inr (.inr (gr m7 a0 8)), .inl a2]) (av' := [.inr (.inr (gr m7 a0 8)), .inl a2]) (μ' := u_X12_saysVersion) (d := 3) rfl rfl mc_X12_saysVersion in_X12_saysVersion lk_RX12_414 (Nat.le_of_ble_eq_true rfl) rfl rfl h0 rfl (Nat.le_of_ble_eq_true rfl) (fun _ h => ct_X12_saysVersion h0 h) (fun m8 => ?_)
                  exact r_vret 102 rfl rfl rfl
              refine r_if_eq 86 175 164 rfl rfl rfl (fun h9 => ?_) (fun h9 => ?_)
              · exact r_sub [0, 1, 3] rfl (hj175 m a4)
              · refine r_iload 87 166 3 rfl rfl rfl ?_
                refine r_if_eq 88 175 169 rfl rfl rfl (fun h10 => ?_) (fun h10 => ?_)
                · exact r_sub [0, 1, 3] rfl (hj175 m a4)
                · refine r_aload_n 89 170 0 rfl rfl rfl rfl ?_
                  refine r_bipush 90 172 (v := 32) rfl rfl (by decide) ?_
                  refine r_VV 91 175 (st := []) (av := [.inr (.inr a0), .inl 32]) (av' := [.inl 32]) (μ' := u_X12_says) (d := 1) rfl rfl mc_X12_says in_X12_says lk_RX12_402 (Nat.le_of_ble_eq_true rfl) rfl rfl h0 rfl (Nat.le_of_ble_eq_true rfl) (fun _ h => ct_X12_says h0 h) (fun m11 => ?_)
                  exact r_sub [0, 1, 3] rfl (hj175 m11 a4)
            refine r_if_eq 73 160 139 rfl rfl rfl (fun h12 => ?_) (fun h12 => ?_)
            · exact r_sub [0, 2, 3, 4] rfl (hj160 m a3 a4)
            · refine r_aload_n 74 140 0 rfl rfl rfl rfl ?_
              refine r_bipush 75 142 (v := 62) rfl rfl (by decide) ?_
              refine r_VV 76 145 (st := []) (av := [.inr (.inr a0), .inl 62]) (av' := [.inl 62]) (μ' := u_X12_says) (d := 1) rfl rfl mc_X12_says in_X12_says lk_RX12_402 (Nat.le_of_ble_eq_true rfl) rfl rfl h0 rfl (Nat.le_of_ble_eq_true rfl) (fun _ h => ct_X12_says h0 h) (fun m13 => ?_)
              refine r_aload_n 77 146 0 rfl rfl rfl rfl ?_
              refine r_bipush 78 148 (v := 61) rfl rfl (by decide) ?_
              refine r_VV 79 151 (st := []) (av := [.inr (.inr a0), .inl 61]) (av' := [.inl 61]) (μ' := u_X12_says) (d := 1) rfl rfl mc_X12_says in_X12_says lk_RX12_402 (Nat.le_of_ble_eq_true rfl) rfl rfl h0 rfl (Nat.le_of_ble_eq_true rfl) (fun _ h => ct_X12_says h0 h) (fun m14 => ?_)
              refine r_aload_n 80 152 0 rfl rfl rfl rfl ?_
              refine r_aload_n 81 153 0 rfl rfl rfl rfl ?_
              refine r_getR 82 156 rfl rfl fl_RX12_25 rfl h0 ?_
              refine r_iload_n 83 157 1 rfl rfl rfl rfl ?_
              refine r_VV 84 160 (st := []) (av := [.inr (.inr a0), .inr (.inr (gr m14 a0 8)), .inl a1]) (av' := [.inr (.inr (gr m14 a0 8)), .inl a1]) (μ' := u_X12_saysVersion) (d := 3) rfl rfl mc_X12_saysVersion in_X12_saysVersion lk_RX12_414 (Nat.le_of_ble_eq_true rfl) rfl rfl h0 rfl (Nat.le_of_ble_eq_true rfl) (fun _ h => ct_X12_saysVersion h0 h) (fun m15 => ?_)
              exact r_sub [0, 2, 3, 4] rfl (hj160 m15 a3 a4)
          refine r_if_ne 66 135 124 rfl rfl rfl (fun h16 => ?_) (fun h16 => ?_)
          · refine r_iload 67 126 4 rfl rfl rfl ?_
            refine r_if_ne 68 135 129 rfl rfl rfl (fun h17 => ?_) (fun h17 => ?_)
            · refine r_aload_n 69 130 0 rfl rfl rfl rfl ?_
              refine r_bipush 70 132 (v := 42) rfl rfl (by decide) ?_
              refine r_VV 71 135 (st := []) (av := [.inr (.inr a0), .inl 42]) (av' := [.inl 42]) (μ' := u_X12_says) (d := 1) rfl rfl mc_X12_says in_X12_says lk_RX12_402 (Nat.le_of_ble_eq_true rfl) rfl rfl h0 rfl (Nat.le_of_ble_eq_true rfl) (fun _ h => ct_X12_says h0 h) (fun m18 => ?_)
              exact hj135 m18 a3 a4
            · exact hj135 m a3 a4
          · exact hj135 m a3 a4
        refine r_if_eq 47 120 88 rfl rfl rfl (fun h19 => ?_) (fun h19 => ?_)
        · exact hj120 m a3 a4
        · refine r_aload_n 48 89 0 rfl rfl rfl rfl ?_
          refine r_getR 49 92 rfl rfl fl_RX12_34 rfl h0 ?_
          refine r_iconst 50 93 (v := 0) rfl rfl (by decide) ?_
          refine r_aload_n 51 94 0 rfl rfl rfl rfl ?_
          refine r_getR 52 97 rfl rfl fl_RX12_25 rfl h0 ?_
          refine r_iload_n 53 98 2 rfl rfl rfl rfl ?_
          refine r_SIo 54 101 (a := 0) (cn := 0) (st := []) (av := [.inr (.inr (gr m a0 12)), .inl 0, .inr (.inr (gr m a0 8)), .inl a2]) (μ' := u_X12_compare) (d := 1) rfl rfl mc_X12_compare st_X12_compare lk_RX12_209 (Nat.le_of_ble_eq_true rfl) rfl (Nat.le_of_ble_eq_true rfl) (fun _ h => ct_X12_compare h) (fun x20 => ?_)
          refine r_if_ne 55 120 104 rfl rfl rfl (fun h21 => ?_) (fun h21 => ?_)
          · refine r_aload_n 56 105 0 rfl rfl rfl rfl ?_
            refine r_bipush 57 107 (v := 61) rfl rfl (by decide) ?_
            refine r_VV 58 110 (st := []) (av := [.inr (.inr a0), .inl 61]) (av' := [.inl 61]) (μ' := u_X12_says) (d := 1) rfl rfl mc_X12_says in_X12_says lk_RX12_402 (Nat.le_of_ble_eq_true rfl) rfl rfl h0 rfl (Nat.le_of_ble_eq_true rfl) (fun _ h => ct_X12_says h0 h) (fun m22 => ?_)
            refine r_aload_n 59 111 0 rfl rfl rfl rfl ?_
            refine r_aload_n 60 112 0 rfl rfl rfl rfl ?_
            refine r_getR 61 115 rfl rfl fl_RX12_25 rfl h0 ?_
            refine r_iload_n 62 116 1 rfl rfl rfl rfl ?_
            refine r_VV 63 119 (st := []) (av := [.inr (.inr a0), .inr (.inr (gr m22 a0 8)), .inl a1]) (av' := [.inr (.inr (gr m22 a0 8)), .inl a1]) (μ' := u_X12_saysVersion) (d := 3) rfl rfl mc_X12_saysVersion in_X12_saysVersion lk_RX12_414 (Nat.le_of_ble_eq_true rfl) rfl rfl h0 rfl (Nat.le_of_ble_eq_true rfl) (fun _ h => ct_X12_saysVersion h0 h) (fun m23 => ?_)
            exact r_vret 64 rfl rfl rfl
          · exact hj120 m a3 a4
      refine r_icmp_ge 41 83 75 rfl rfl rfl (fun h24 => ?_) (fun h24 => ?_)
      · exact r_sub [1, 2, 3, 4, 0] rfl (hj83 m4 a3 s0)
      · refine r_aload_n 42 76 1 rfl rfl rfl rfl ?_
        refine r_getR 43 79 rfl rfl fl_RX12_34 rfl h0 ?_
        refine r_iconst 44 80 (v := 0) rfl rfl (by decide) ?_
        refine r_SV 45 83 (a := 0) (cn := 0) (st := []) (av := [.inr (.inr (gr m4 a0 12)), .inl 0]) (μ' := u_X12_next) (d := 1) rfl rfl mc_X12_next st_X12_next lk_RX12_268 (Nat.le_of_ble_eq_true rfl) rfl (Nat.le_of_ble_eq_true rfl) (fun _ h => ct_X12_next h) (fun m25 => ?_)
        exact r_sub [1, 2, 3, 4, 0] rfl (hj83 m25 a3 s0)
    refine r_if_eq 23 48 44 rfl rfl rfl (fun h26 => ?_) (fun h26 => ?_)
    · refine r_iconst 26 49 (v := 0) rfl rfl (by decide) ?_
      exact r_sub [1, 2, 3, 0] rfl (hj49 m s0 0)
    · refine r_iconst 24 45 (v := 1) rfl rfl (by decide) ?_
      refine r_goto 25 49 rfl rfl ?_
      exact r_sub [1, 2, 3, 0] rfl (hj49 m s0 1)
  refine r_if_le 12 29 25 rfl rfl rfl (fun h27 => ?_) (fun h27 => ?_)
  · refine r_iconst 15 30 (v := 0) rfl rfl (by decide) ?_
    exact hj30 m1 0
  · refine r_iconst 13 26 (v := 1) rfl rfl (by decide) ?_
    refine r_goto 14 30 rfl rfl ?_
    exact hj30 m1 1
theorem ct_X12_saysStretch {t : List Sh} {m : Mi} {a0 : Nat} {a1 : Int32} {a2 : Int32} {m' : Mi}  (h0 : sh t a0 = some (.inl 12)) (h : f_X12_saysStretch t m a0 a1 a2 = some m') : Ct u_X12_saysStretch 4 0 0 [.inr (.inr a0), .inl a1, .inl a2] (t, m) (none, (t, m')) :=
  ct_of (by decide) tk_X12_saysStretch (Nat.le_of_ble_eq_true rfl) (sm_X12_saysStretch t m a0 a1 a2 h0) (by rw [h]; rfl) (Nat.le_refl _) (Nat.le_refl _)
def tb_X12_tables : Tb := [(0, (.iconst 0, 1)), (1, (.istore_n 1, 1)), (2, (.iload_n 1, 1)), (3, (.aload_n 0, 1)), (4, (.invokevirtual 332, 3)), (7, (.if_icmp .ge 95, 3)), (10, (.aload_n 0, 1)), (11, (.getfield 88, 3)), (14, (.sipush 250, 3)), (17, (.aload_n 0, 1)), (18, (.getfield 326, 3)), (21, (.imul, 1)), (22, (.iload_n 1, 1)), (23, (.iadd, 1)), (24, (.iaload, 1)), (25, (.istore_n 2, 1)), (26, (.aload_n 0, 1)), (27, (.getfield 98, 3)), (30, (.iload_n 1, 1)), (31, (.iconst 0, 1)), (32, (.iastore, 1)), (33, (.iconst 0, 1)), (34, (.istore_n 3, 1)), (35, (.iload_n 3, 1)), (36, (.aload_n 0, 1)), (37, (.iload_n 2, 1)), (38, (.invokevirtual 354, 3)), (41, (.if_icmp .ge 55, 3)), (44, (.aload_n 0, 1)), (45, (.iload_n 1, 1)), (46, (.aload_n 0, 1)), (47, (.getfield 73, 3)), (50, (.bipush 60, 2)), (52, (.aload_n 0, 1)), (53, (.getfield 326, 3)), (56, (.imul, 1)), (57, (.aload_n 0, 1)), (58, (.iload_n 2, 1)), (59, (.invokevirtual 352, 3)), (62, (.iadd, 1)), (63, (.iload_n 3, 1)), (64, (.iadd, 1)), (65, (.bipush 9, 2)), (67, (.imul, 1)), (68, (.invokevirtual 216, 3)), (71, (.ifCond .eq 19, 3)), (74, (.aload_n 0, 1)), (75, (.getfield 98, 3)), (78, (.iload_n 1, 1)), (79, (.aload_n 0, 1)), (80, (.getfield 98, 3)), (83, (.iload_n 1, 1)), (84, (.iaload, 1)), (85, (.iconst 2, 1)), (86, (.iload_n 3, 1)), (87, (.ishl, 1)), (88, (.ior, 1)), (89, (.iastore, 1)), (90, (.iinc 3 1, 3)), (93, (.goto (-58), 3)), (96, (.iinc 1 1, 3)), (99, (.goto (-97), 3)), (102, (.return_, 1))]
def u_X12_tables : Fx := (yX12_tables, (cX12_tables, (4, (none, tb_X12_tables))))
theorem tk_X12_tables : ∀ q ∈ u_X12_tables.2.2.2.2, decode u_X12_tables.2.1 q.1 = .ok q.2 := by decide +kernel
theorem mc_X12_tables : MC u_X12_tables 0 := ⟨tbm 1675 (by decide +kernel) rfl, tbm 128 (by decide +kernel) rfl, ⟨by decide, by decide, by decide +kernel⟩, by decide⟩
theorem in_X12_tables : Cond.instanceMethod u_X12_tables.1 ∈ TB ∧ Cond.selects u_X12_tables.1.cls u_X12_tables.1 u_X12_tables.1 ∈ TB := ⟨tbm 1674 (by decide +kernel) rfl, tbm 93 (by decide +kernel) rfl⟩
def f_X12_tables_j102 (t : List Sh) (m : Mi) : Option (Mi) :=
  some m
def f_X12_tables_j96 (t : List Sh) (m : Mi) (a0 : Nat) (a1 : Int32) : Option ((Int32 × Mi) ⊕ ((Mi))) :=
  lt (a1 + 1) fun x7 =>
  some (.inl (x7, m))
def f_X12_tables_l35 (t : List Sh) (m : Mi) (a0 : Nat) (a1 : Int32) (a2 : Int32) (a3 : Int32) : Option ((Int32 × Mi) ⊕ ((Mi))) :=
  (f_X12_manyOf t m a0 a2).bind fun x8 =>
  if x8 ≤ a3 then
    some (.inr m)
  else
    (f_X12_first_ t m a0 a2).bind fun x10 =>
    (f_X12_has t m a0 a1 (gr m a0 33) ((((60 * (gi m a0 21)) + x10) + a3) * 9)).bind fun x11 =>
    if x11 = 0 then
      lt (a3 + 1) fun x13 =>
      some (.inl (x13, m))
    else
      (if ar t (gr m a0 41) .int a1 = true then
      lt (si m (gr m a0 41) (ix a1) ((gi m (gr m a0 41) (ix a1)) ||| (2 <<< (a3 &&& 31)))) fun m15 =>
      lt (a3 + 1) fun x16 =>
      some (.inl (x16, m15))
      else none)
def f_X12_tables_j35 (t : List Sh) (m : Mi) (a0 : Nat) (a1 : Int32) (a2 : Int32) (a3 : Int32) : Option ((Int32 × Mi) ⊕ ((Mi))) :=
  (lp (fun x : Int32 × Mi => f_X12_tables_l35 t x.2 a0 a1 a2 x.1) FUEL (a3, m)).bind (fun y : Mi => f_X12_tables_j96 t y a0 a1)
def f_X12_tables_l2 (t : List Sh) (m : Mi) (a0 : Nat) (a1 : Int32) : Option ((Int32 × Mi) ⊕ ((Mi))) :=
  (f_X12_constraints t m a0).bind fun x1 =>
  if x1 ≤ a1 then
    some (.inr m)
  else
    (if ar t (gr m a0 38) .int ((250 * (gi m a0 21)) + a1) = true then
    lt (gi m (gr m a0 38) (ix ((250 * (gi m a0 21)) + a1))) fun x4 =>
    (if ar t (gr m a0 41) .int a1 = true then
    lt (si m (gr m a0 41) (ix a1) 0) fun m6 =>
    f_X12_tables_j35 t m6 a0 a1 x4 0
    else none)
    else none)
def f_X12_tables_j2 (t : List Sh) (m : Mi) (a0 : Nat) (a1 : Int32) : Option (Mi) :=
  (lp (fun x : Int32 × Mi => f_X12_tables_l2 t x.2 a0 x.1) FUEL (a1, m)).bind (fun y : Mi => f_X12_tables_j102 t y)
def f_X12_tables (t : List Sh) (m : Mi) (a0 : Nat) : Option (Mi) :=
  f_X12_tables_j2 t m a0 0
set_option maxRecDepth 4000 in
set_option maxHeartbeats 4000000 in
theorem sm_X12_tables (t : List Sh) (m : Mi) (a0 : Nat) (h0 : sh t a0 = some (.inl 12)) : Sm u_X12_tables (4, 0, 0, t.length, zs t) (kV t) 0 [(0, .inr (.inr a0))] [] (t, m) (f_X12_tables t m a0) := by
  unfold f_X12_tables
  refine r_iconst 0 1 (v := 0) rfl rfl (by decide) ?_
  refine r_istore_n 1 2 (L' := [(1, .inl 0), (0, .inr (.inr a0))]) rfl rfl rfl (by decide) rfl ?_
  have hj2 : ∀ (m : Mi) (a1 : Int32), Sm u_X12_tables (4, 0, 0, t.length, zs t) (kV t) 2 [(0, .inr (.inr a0)), (1, .inl a1)] [] (t, m) (f_X12_tables_j2 t m a0 a1) := by
    intro m a1
    unfold f_X12_tables_j2
    have hj102 : ∀ (m : Mi), Sm u_X12_tables (4, 0, 0, t.length, zs t) (kV t) 102 [] [] (t, m) (f_X12_tables_j102 t m) := by
      intro m
      unfold f_X12_tables_j102
      exact r_vret 62 rfl rfl rfl
    refine r_lp (Lf := fun x : Int32 × Mi => [(0, .inr (.inr a0)), (1, .inl (x.1))]) (Mf := fun x : Int32 × Mi => (t, x.2)) (a1, m) ?_ FUEL
    rintro ⟨a1, m⟩ κ2 hc2 he2
    refine r_eq (L' := [(0, .inr (.inr a0)), (1, .inl a1)]) (M' := (t, m)) rfl rfl ?_
    refine r_eqr (r' := f_X12_tables_l2 t m a0 a1) rfl ?_
    unfold f_X12_tables_l2
    refine r_iload_n 2 3 1 rfl rfl rfl rfl ?_
    refine r_aload_n 3 4 0 rfl rfl rfl rfl ?_
    refine r_VIo 4 7 (st := [.inl a1]) (av := [.inr (.inr a0)]) (av' := []) (μ' := u_X12_constraints) (d := 1) rfl rfl mc_X12_constraints in_X12_constraints lk_RX12_332 (Nat.le_of_ble_eq_true rfl) rfl rfl h0 rfl (Nat.le_of_ble_eq_true rfl) (fun _ h => ct_X12_constraints h0 h) (fun x1 => ?_)
    refine r_icmp_ge 5 102 10 rfl rfl rfl (fun h2 => ?_) (fun h2 => ?_)
    · refine r_leaf (r2 := (f_X12_tables_j102 t m : Option (Mi))) (he2 _) ?_
      exact r_sub [] rfl (hj102 m)
    · refine r_aload_n 6 11 0 rfl rfl rfl rfl ?_
      refine r_getR 7 14 rfl rfl fl_RX12_88 rfl h0 ?_
      refine r_sipush 8 17 (v := 250) rfl rfl (by decide) ?_
      refine r_aload_n 9 18 0 rfl rfl rfl rfl ?_
      refine r_getI 10 21 rfl rfl fl_RX12_326 rfl h0 ?_
      refine r_imul 11 22 rfl rfl ?_
      refine r_iload_n 12 23 1 rfl rfl rfl rfl ?_
      refine r_iadd 13 24 rfl rfl ?_
      refine r_gd (fun h3 => ?_)
      refine r_iald 14 25 rfl rfl h3 ?_
      refine r_ltI (fun x4 => ?_)
      refine r_istore_n 15 26 (L' := [(2, .inl x4), (0, .inr (.inr a0)), (1, .inl a1)]) rfl rfl rfl (by decide) rfl ?_
      refine r_aload_n 16 27 1 rfl rfl rfl rfl ?_
      refine r_getR 17 30 rfl rfl fl_RX12_98 rfl h0 ?_
      refine r_iload_n 18 31 2 rfl rfl rfl rfl ?_
      refine r_iconst 19 32 (v := 0) rfl rfl (by decide) ?_
      refine r_gd (fun h5 => ?_)
      refine r_iast 20 33 rfl rfl h5 ?_
      refine r_ltM (fun m6 => ?_)
      refine r_iconst 21 34 (v := 0) rfl rfl (by decide) ?_
      refine r_istore_n 22 35 (L' := [(3, .inl 0), (2, .inl x4), (0, .inr (.inr a0)), (1, .inl a1)]) rfl rfl rfl (by decide) rfl ?_
      have hj35 : ∀ (m : Mi) (a1 : Int32) (a2 : Int32) (a3 : Int32), Sm u_X12_tables (4, 0, 0, t.length, zs t) κ2 35 [(0, .inr (.inr a0)), (1, .inl a1), (2, .inl a2), (3, .inl a3)] [] (t, m) (f_X12_tables_j35 t m a0 a1 a2 a3) := by
        intro m a1 a2 a3
        unfold f_X12_tables_j35
        have hj96 : ∀ (m : Mi) (a1 : Int32), Sm u_X12_tables (4, 0, 0, t.length, zs t) κ2 96 [(0, .inr (.inr a0)), (1, .inl a1)] [] (t, m) (f_X12_tables_j96 t m a0 a1) := by
          intro m a1
          unfold f_X12_tables_j96
          refine r_iinc 60 99 1 (L' := [(1, .inl (a1 + 1)), (0, .inr (.inr a0))]) rfl rfl rfl (by decide) rfl ?_
          refine r_ltV (fun x7 => ?_)
          refine r_goto 61 2 rfl rfl ?_
          exact r_sub [1, 0] rfl (hc2 (x7, m))
        refine r_lp (Lf := fun x : Int32 × Mi => [(0, .inr (.inr a0)), (1, .inl a1), (2, .inl a2), (3, .inl (x.1))]) (Mf := fun x : Int32 × Mi => (t, x.2)) (a3, m) ?_ FUEL
        rintro ⟨a3, m⟩ κ35 hc35 he35
        refine r_eq (L' := [(0, .inr (.inr a0)), (1, .inl a1), (2, .inl a2), (3, .inl a3)]) (M' := (t, m)) rfl rfl ?_
        refine r_eqr (r' := f_X12_tables_l35 t m a0 a1 a2 a3) rfl ?_
        unfold f_X12_tables_l35
        refine r_iload_n 23 36 3 rfl rfl rfl rfl ?_
        refine r_aload_n 24 37 0 rfl rfl rfl rfl ?_
        refine r_iload_n 25 38 2 rfl rfl rfl rfl ?_
        refine r_VIo 26 41 (st := [.inl a3]) (av := [.inr (.inr a0), .inl a2]) (av' := [.inl a2]) (μ' := u_X12_manyOf) (d := 2) rfl rfl mc_X12_manyOf in_X12_manyOf lk_RX12_354 (Nat.le_of_ble_eq_true rfl) rfl rfl h0 rfl (Nat.le_of_ble_eq_true rfl) (fun _ h => ct_X12_manyOf h0 h) (fun x8 => ?_)
        refine r_icmp_ge 27 96 44 rfl rfl rfl (fun h9 => ?_) (fun h9 => ?_)
        · refine r_leaf (r2 := (f_X12_tables_j96 t m a0 a1 : Option ((Int32 × Mi) ⊕ ((Mi))))) (he35 _) ?_
          exact r_sub [0, 1] rfl (hj96 m a1)
        · refine r_aload_n 28 45 0 rfl rfl rfl rfl ?_
          refine r_iload_n 29 46 1 rfl rfl rfl rfl ?_
          refine r_aload_n 30 47 0 rfl rfl rfl rfl ?_
          refine r_getR 31 50 rfl rfl fl_RX12_73 rfl h0 ?_
          refine r_bipush 32 52 (v := 60) rfl rfl (by decide) ?_
          refine r_aload_n 33 53 0 rfl rfl rfl rfl ?_
          refine r_getI 34 56 rfl rfl fl_RX12_326 rfl h0 ?_
          refine r_imul 35 57 rfl rfl ?_
          refine r_aload_n 36 58 0 rfl rfl rfl rfl ?_
          refine r_iload_n 37 59 2 rfl rfl rfl rfl ?_
          refine r_VIo 38 62 (st := [.inl (60 * (gi m a0 21)), .inr (.inr (gr m a0 33)), .inl a1, .inr (.inr a0)]) (av := [.inr (.inr a0), .inl a2]) (av' := [.inl a2]) (μ' := u_X12_first_) (d := 1) rfl rfl mc_X12_first_ in_X12_first_ lk_RX12_352 (Nat.le_of_ble_eq_true rfl) rfl rfl h0 rfl (Nat.le_of_ble_eq_true rfl) (fun _ h => ct_X12_first_ h0 h) (fun x10 => ?_)
          refine r_iadd 39 63 rfl rfl ?_
          refine r_iload_n 40 64 3 rfl rfl rfl rfl ?_
          refine r_iadd 41 65 rfl rfl ?_
          refine r_bipush 42 67 (v := 9) rfl rfl (by decide) ?_
          refine r_imul 43 68 rfl rfl ?_
          refine r_VIo 44 71 (st := []) (av := [.inr (.inr a0), .inl a1, .inr (.inr (gr m a0 33)), .inl ((((60 * (gi m a0 21)) + x10) + a3) * 9)]) (av' := [.inl a1, .inr (.inr (gr m a0 33)), .inl ((((60 * (gi m a0 21)) + x10) + a3) * 9)]) (μ' := u_X12_has) (d := 3) rfl rfl mc_X12_has in_X12_has lk_RX12_216 (Nat.le_of_ble_eq_true rfl) rfl rfl h0 rfl (Nat.le_of_ble_eq_true rfl) (fun _ h => ct_X12_has h0 h) (fun x11 => ?_)
          refine r_if_eq 45 90 74 rfl rfl rfl (fun h12 => ?_) (fun h12 => ?_)
          · refine r_iinc 58 93 3 (L' := [(3, .inl (a3 + 1)), (0, .inr (.inr a0)), (1, .inl a1), (2, .inl a2)]) rfl rfl rfl (by decide) rfl ?_
            refine r_ltV (fun x13 => ?_)
            refine r_goto 59 35 rfl rfl ?_
            exact r_sub [1, 2, 3, 0] rfl (hc35 (x13, m))
          · refine r_aload_n 46 75 0 rfl rfl rfl rfl ?_
            refine r_getR 47 78 rfl rfl fl_RX12_98 rfl h0 ?_
            refine r_iload_n 48 79 1 rfl rfl rfl rfl ?_
            refine r_aload_n 49 80 0 rfl rfl rfl rfl ?_
            refine r_getR 50 83 rfl rfl fl_RX12_98 rfl h0 ?_
            refine r_iload_n 51 84 1 rfl rfl rfl rfl ?_
            refine r_gd (fun h14 => ?_)
            refine r_iald 52 85 rfl rfl h14 ?_
            refine r_iconst 53 86 (v := 2) rfl rfl (by decide) ?_
            refine r_iload_n 54 87 3 rfl rfl rfl rfl ?_
            refine r_ishl 55 88 rfl rfl ?_
            refine r_ior 56 89 rfl rfl ?_
            refine r_iast 57 90 rfl rfl h14 ?_
            refine r_ltM (fun m15 => ?_)
            refine r_iinc 58 93 3 (L' := [(3, .inl (a3 + 1)), (0, .inr (.inr a0)), (1, .inl a1), (2, .inl a2)]) rfl rfl rfl (by decide) rfl ?_
            refine r_ltV (fun x16 => ?_)
            refine r_goto 59 35 rfl rfl ?_
            exact r_sub [1, 2, 3, 0] rfl (hc35 (x16, m15))
      exact r_sub [2, 3, 1, 0] rfl (hj35 m6 a1 x4 0)
  exact r_sub [1, 0] rfl (hj2 m 0)
theorem ct_X12_tables {t : List Sh} {m : Mi} {a0 : Nat} {m' : Mi}  (h0 : sh t a0 = some (.inl 12)) (h : f_X12_tables t m a0 = some m') : Ct u_X12_tables 4 0 0 [.inr (.inr a0)] (t, m) (none, (t, m')) :=
  ct_of (by decide) tk_X12_tables (Nat.le_of_ble_eq_true rfl) (sm_X12_tables t m a0 h0) (by rw [h]; rfl) (Nat.le_refl _) (Nat.le_refl _)
theorem lk_RX12_286 : Cond.methodLink RX12 286 yX12_combined ∈ TB := tbm 1606 (by decide +kernel) rfl
theorem lk_RX12_302 : Cond.methodLink RX12 302 yX12_copyRange ∈ TB := tbm 1621 (by decide +kernel) rfl
def tb_X12_combine : Tb := [(0, (.iload_n 1, 1)), (1, (.ifCond .lt 30, 3)), (4, (.iload_n 1, 1)), (5, (.iconst 2, 1)), (6, (.if_icmp .gt 25, 3)), (9, (.iload_n 2, 1)), (10, (.invokestatic 305, 3)), (13, (.ifCond .eq 18, 3)), (16, (.iload_n 3, 1)), (17, (.invokestatic 305, 3)), (20, (.ifCond .eq 11, 3)), (23, (.iload 4, 2)), (25, (.invokestatic 305, 3)), (28, (.ifCond .ne 5, 3)), (31, (.iconst (-1), 1)), (32, (.ireturn, 1)), (33, (.aload_n 0, 1)), (34, (.iload_n 1, 1)), (35, (.iload_n 2, 1)), (36, (.invokestatic 141, 3)), (39, (.iload_n 3, 1)), (40, (.invokestatic 141, 3)), (43, (.sipush 266, 3)), (46, (.invokevirtual 286, 3)), (49, (.istore 5, 2)), (51, (.iload 5, 2)), (53, (.bipush 16, 2)), (55, (.if_icmp .le 5, 3)), (58, (.iconst (-1), 1)), (59, (.ireturn, 1)), (60, (.aload_n 0, 1)), (61, (.iload 4, 2)), (63, (.invokestatic 141, 3)), (66, (.sipush 266, 3)), (69, (.invokevirtual 302, 3)), (72, (.iload 5, 2)), (74, (.ireturn, 1))]
def u_X12_combine : Fx := (yX12_combine, (cX12_combine, (6, ((some .int), tb_X12_combine))))
theorem tk_X12_combine : ∀ q ∈ u_X12_combine.2.2.2.2, decode u_X12_combine.2.1 q.1 = .ok q.2 := by decide +kernel
theorem mc_X12_combine : MC u_X12_combine 4 := ⟨tbm 1632 (by decide +kernel) rfl, tbm 128 (by decide +kernel) rfl, ⟨by decide, by decide, by decide +kernel⟩, by decide⟩
theorem in_X12_combine : Cond.instanceMethod u_X12_combine.1 ∈ TB ∧ Cond.selects u_X12_combine.1.cls u_X12_combine.1 u_X12_combine.1 ∈ TB := ⟨tbm 1630 (by decide +kernel) rfl, tbm 1631 (by decide +kernel) rfl⟩
def f_X12_combine (t : List Sh) (m : Mi) (a0 : Nat) (a1 : Int32) (a2 : Int32) (a3 : Int32) (a4 : Int32) : Option (Int32 × Mi) :=
  if a1 < 0 then
    some ((-1), m)
  else
    if 2 < a1 then
      some ((-1), m)
    else
      (f_X12_isSlot a2).bind fun x3 =>
      if x3 = 0 then
        some ((-1), m)
      else
        (f_X12_isSlot a3).bind fun x5 =>
        if x5 = 0 then
          some ((-1), m)
        else
          (f_X12_isSlot a4).bind fun x7 =>
          if x7 = 0 then
            some ((-1), m)
          else
            (f_X12_slotOf a2).bind fun x9 =>
            (f_X12_slotOf a3).bind fun x10 =>
            bd (f_X12_combined t m a0 a1 x9 x10 266) fun x11 m12 =>
            if x11 ≤ 16 then
              (f_X12_slotOf a4).bind fun x14 =>
              (f_X12_copyRange t m12 a0 x14 266).bind fun m15 =>
              some (x11, m15)
            else
              some ((-1), m12)
set_option maxRecDepth 4000 in
set_option maxHeartbeats 4000000 in
theorem sm_X12_combine (t : List Sh) (m : Mi) (a0 : Nat) (a1 : Int32) (a2 : Int32) (a3 : Int32) (a4 : Int32) (h0 : sh t a0 = some (.inl 12)) : Sm u_X12_combine (5, 0, 0, t.length, zs t) (kI t) 0 [(0, .inr (.inr a0)), (1, .inl a1), (2, .inl a2), (3, .inl a3), (4, .inl a4)] [] (t, m) (f_X12_combine t m a0 a1 a2 a3 a4) := by
  unfold f_X12_combine
  refine r_iload_n 0 1 1 rfl rfl rfl rfl ?_
  refine r_if_lt 1 31 4 rfl rfl rfl (fun h1 => ?_) (fun h1 => ?_)
  · refine r_iconst 14 32 (v := (-1)) rfl rfl (by decide) ?_
    exact r_iret 15 rfl rfl rfl
  · refine r_iload_n 2 5 1 rfl rfl rfl rfl ?_
    refine r_iconst 3 6 (v := 2) rfl rfl (by decide) ?_
    refine r_icmp_gt 4 31 9 rfl rfl rfl (fun h2 => ?_) (fun h2 => ?_)
    · refine r_iconst 14 32 (v := (-1)) rfl rfl (by decide) ?_
      exact r_iret 15 rfl rfl rfl
    · refine r_iload_n 5 10 2 rfl rfl rfl rfl ?_
      refine r_SIo 6 13 (a := 0) (cn := 0) (st := []) (av := [.inl a2]) (μ' := u_X12_isSlot) (d := 1) rfl rfl mc_X12_isSlot st_X12_isSlot lk_RX12_305 (Nat.le_of_ble_eq_true rfl) rfl (Nat.le_of_ble_eq_true rfl) (fun _ h => ct_X12_isSlot h) (fun x3 => ?_)
      refine r_if_eq 7 31 16 rfl rfl rfl (fun h4 => ?_) (fun h4 => ?_)
      · refine r_iconst 14 32 (v := (-1)) rfl rfl (by decide) ?_
        exact r_iret 15 rfl rfl rfl
      · refine r_iload_n 8 17 3 rfl rfl rfl rfl ?_
        refine r_SIo 9 20 (a := 0) (cn := 0) (st := []) (av := [.inl a3]) (μ' := u_X12_isSlot) (d := 1) rfl rfl mc_X12_isSlot st_X12_isSlot lk_RX12_305 (Nat.le_of_ble_eq_true rfl) rfl (Nat.le_of_ble_eq_true rfl) (fun _ h => ct_X12_isSlot h) (fun x5 => ?_)
        refine r_if_eq 10 31 23 rfl rfl rfl (fun h6 => ?_) (fun h6 => ?_)
        · refine r_iconst 14 32 (v := (-1)) rfl rfl (by decide) ?_
          exact r_iret 15 rfl rfl rfl
        · refine r_iload 11 25 4 rfl rfl rfl ?_
          refine r_SIo 12 28 (a := 0) (cn := 0) (st := []) (av := [.inl a4]) (μ' := u_X12_isSlot) (d := 1) rfl rfl mc_X12_isSlot st_X12_isSlot lk_RX12_305 (Nat.le_of_ble_eq_true rfl) rfl (Nat.le_of_ble_eq_true rfl) (fun _ h => ct_X12_isSlot h) (fun x7 => ?_)
          refine r_if_ne 13 33 31 rfl rfl rfl (fun h8 => ?_) (fun h8 => ?_)
          · refine r_iconst 14 32 (v := (-1)) rfl rfl (by decide) ?_
            exact r_iret 15 rfl rfl rfl
          · refine r_aload_n 16 34 0 rfl rfl rfl rfl ?_
            refine r_iload_n 17 35 1 rfl rfl rfl rfl ?_
            refine r_iload_n 18 36 2 rfl rfl rfl rfl ?_
            refine r_SIo 19 39 (a := 0) (cn := 0) (st := [.inl a1, .inr (.inr a0)]) (av := [.inl a2]) (μ' := u_X12_slotOf) (d := 1) rfl rfl mc_X12_slotOf st_X12_slotOf lk_RX12_141 (Nat.le_of_ble_eq_true rfl) rfl (Nat.le_of_ble_eq_true rfl) (fun _ h => ct_X12_slotOf h) (fun x9 => ?_)
            refine r_iload_n 20 40 3 rfl rfl rfl rfl ?_
            refine r_SIo 21 43 (a := 0) (cn := 0) (st := [.inl x9, .inl a1, .inr (.inr a0)]) (av := [.inl a3]) (μ' := u_X12_slotOf) (d := 1) rfl rfl mc_X12_slotOf st_X12_slotOf lk_RX12_141 (Nat.le_of_ble_eq_true rfl) rfl (Nat.le_of_ble_eq_true rfl) (fun _ h => ct_X12_slotOf h) (fun x10 => ?_)
            refine r_sipush 22 46 (v := 266) rfl rfl (by decide) ?_
            refine r_VI 23 49 (st := []) (av := [.inr (.inr a0), .inl a1, .inl x9, .inl x10, .inl 266]) (av' := [.inl a1, .inl x9, .inl x10, .inl 266]) (μ' := u_X12_combined) (d := 4) rfl rfl mc_X12_combined in_X12_combined lk_RX12_286 (Nat.le_of_ble_eq_true rfl) rfl rfl h0 rfl (Nat.le_of_ble_eq_true rfl) (fun _ _ h => ct_X12_combined h0 h) (fun x11 m12 => ?_)
            refine r_istore 24 51 (L' := [(5, .inl x11), (0, .inr (.inr a0)), (1, .inl a1), (2, .inl a2), (3, .inl a3), (4, .inl a4)]) rfl rfl (by decide) rfl ?_
            refine r_iload 25 53 0 rfl rfl rfl ?_
            refine r_bipush 26 55 (v := 16) rfl rfl (by decide) ?_
            refine r_icmp_le 27 60 58 rfl rfl rfl (fun h13 => ?_) (fun h13 => ?_)
            · refine r_aload_n 30 61 1 rfl rfl rfl rfl ?_
              refine r_iload 31 63 5 rfl rfl rfl ?_
              refine r_SIo 32 66 (a := 0) (cn := 0) (st := [.inr (.inr a0)]) (av := [.inl a4]) (μ' := u_X12_slotOf) (d := 1) rfl rfl mc_X12_slotOf st_X12_slotOf lk_RX12_141 (Nat.le_of_ble_eq_true rfl) rfl (Nat.le_of_ble_eq_true rfl) (fun _ h => ct_X12_slotOf h) (fun x14 => ?_)
              refine r_sipush 33 69 (v := 266) rfl rfl (by decide) ?_
              refine r_VV 34 72 (st := []) (av := [.inr (.inr a0), .inl x14, .inl 266]) (av' := [.inl x14, .inl 266]) (μ' := u_X12_copyRange) (d := 1) rfl rfl mc_X12_copyRange in_X12_copyRange lk_RX12_302 (Nat.le_of_ble_eq_true rfl) rfl rfl h0 rfl (Nat.le_of_ble_eq_true rfl) (fun _ h => ct_X12_copyRange h0 h) (fun m15 => ?_)
              refine r_iload 35 74 0 rfl rfl rfl ?_
              exact r_iret 36 rfl rfl rfl
            · refine r_iconst 28 59 (v := (-1)) rfl rfl (by decide) ?_
              exact r_iret 29 rfl rfl rfl
theorem ct_X12_combine {t : List Sh} {m : Mi} {a0 : Nat} {a1 : Int32} {a2 : Int32} {a3 : Int32} {a4 : Int32} {m' : Mi} {v : Int32}  (h0 : sh t a0 = some (.inl 12)) (h : f_X12_combine t m a0 a1 a2 a3 a4 = some (v, m')) : Ct u_X12_combine 5 0 0 [.inr (.inr a0), .inl a1, .inl a2, .inl a3, .inl a4] (t, m) (some (.inl v), (t, m')) :=
  ct_of (by decide) tk_X12_combine (Nat.le_of_ble_eq_true rfl) (sm_X12_combine t m a0 a1 a2 a3 a4 h0) (by rw [h]; rfl) (Nat.le_refl _) (Nat.le_refl _)
def tb_X12_inside : Tb := [(0, (.iload_n 1, 1)), (1, (.invokestatic 305, 3)), (4, (.ifCond .eq 10, 3)), (7, (.iload_n 2, 1)), (8, (.invokestatic 305, 3)), (11, (.ifCond .ne 5, 3)), (14, (.iconst (-1), 1)), (15, (.ireturn, 1)), (16, (.aload_n 0, 1)), (17, (.iconst 2, 1)), (18, (.iload_n 1, 1)), (19, (.invokestatic 141, 3)), (22, (.iload_n 2, 1)), (23, (.invokestatic 141, 3)), (26, (.sipush 266, 3)), (29, (.invokevirtual 286, 3)), (32, (.ifCond .ne 7, 3)), (35, (.iconst 1, 1)), (36, (.goto 4, 3)), (39, (.iconst 0, 1)), (40, (.ireturn, 1))]
def u_X12_inside : Fx := (yX12_inside, (cX12_inside, (3, ((some .int), tb_X12_inside))))
theorem tk_X12_inside : ∀ q ∈ u_X12_inside.2.2.2.2, decode u_X12_inside.2.1 q.1 = .ok q.2 := by decide +kernel
theorem mc_X12_inside : MC u_X12_inside 2 := ⟨tbm 1639 (by decide +kernel) rfl, tbm 128 (by decide +kernel) rfl, ⟨by decide, by decide, by decide +kernel⟩, by decide⟩
theorem in_X12_inside : Cond.instanceMethod u_X12_inside.1 ∈ TB ∧ Cond.selects u_X12_inside.1.cls u_X12_inside.1 u_X12_inside.1 ∈ TB := ⟨tbm 1637 (by decide +kernel) rfl, tbm 1638 (by decide +kernel) rfl⟩
def f_X12_inside (t : List Sh) (m : Mi) (a0 : Nat) (a1 : Int32) (a2 : Int32) : Option (Int32 × Mi) :=
  (f_X12_isSlot a1).bind fun x1 =>
  if x1 = 0 then
    some ((-1), m)
  else
    (f_X12_isSlot a2).bind fun x3 =>
    if x3 = 0 then
      some ((-1), m)
    else
      (f_X12_slotOf a1).bind fun x5 =>
      (f_X12_slotOf a2).bind fun x6 =>
      bd (f_X12_combined t m a0 2 x5 x6 266) fun x7 m8 =>
      if x7 = 0 then
        some (1, m8)
      else
        some (0, m8)
set_option maxRecDepth 4000 in
set_option maxHeartbeats 4000000 in
theorem sm_X12_inside (t : List Sh) (m : Mi) (a0 : Nat) (a1 : Int32) (a2 : Int32) (h0 : sh t a0 = some (.inl 12)) : Sm u_X12_inside (5, 0, 0, t.length, zs t) (kI t) 0 [(0, .inr (.inr a0)), (1, .inl a1), (2, .inl a2)] [] (t, m) (f_X12_inside t m a0 a1 a2) := by
  unfold f_X12_inside
  refine r_iload_n 0 1 1 rfl rfl rfl rfl ?_
  refine r_SIo 1 4 (a := 0) (cn := 0) (st := []) (av := [.inl a1]) (μ' := u_X12_isSlot) (d := 1) rfl rfl mc_X12_isSlot st_X12_isSlot lk_RX12_305 (Nat.le_of_ble_eq_true rfl) rfl (Nat.le_of_ble_eq_true rfl) (fun _ h => ct_X12_isSlot h) (fun x1 => ?_)
  refine r_if_eq 2 14 7 rfl rfl rfl (fun h2 => ?_) (fun h2 => ?_)
  · refine r_iconst 6 15 (v := (-1)) rfl rfl (by decide) ?_
    exact r_iret 7 rfl rfl rfl
  · refine r_iload_n 3 8 2 rfl rfl rfl rfl ?_
    refine r_SIo 4 11 (a := 0) (cn := 0) (st := []) (av := [.inl a2]) (μ' := u_X12_isSlot) (d := 1) rfl rfl mc_X12_isSlot st_X12_isSlot lk_RX12_305 (Nat.le_of_ble_eq_true rfl) rfl (Nat.le_of_ble_eq_true rfl) (fun _ h => ct_X12_isSlot h) (fun x3 => ?_)
    refine r_if_ne 5 16 14 rfl rfl rfl (fun h4 => ?_) (fun h4 => ?_)
    · refine r_iconst 6 15 (v := (-1)) rfl rfl (by decide) ?_
      exact r_iret 7 rfl rfl rfl
    · refine r_aload_n 8 17 0 rfl rfl rfl rfl ?_
      refine r_iconst 9 18 (v := 2) rfl rfl (by decide) ?_
      refine r_iload_n 10 19 1 rfl rfl rfl rfl ?_
      refine r_SIo 11 22 (a := 0) (cn := 0) (st := [.inl 2, .inr (.inr a0)]) (av := [.inl a1]) (μ' := u_X12_slotOf) (d := 1) rfl rfl mc_X12_slotOf st_X12_slotOf lk_RX12_141 (Nat.le_of_ble_eq_true rfl) rfl (Nat.le_of_ble_eq_true rfl) (fun _ h => ct_X12_slotOf h) (fun x5 => ?_)
      refine r_iload_n 12 23 2 rfl rfl rfl rfl ?_
      refine r_SIo 13 26 (a := 0) (cn := 0) (st := [.inl x5, .inl 2, .inr (.inr a0)]) (av := [.inl a2]) (μ' := u_X12_slotOf) (d := 1) rfl rfl mc_X12_slotOf st_X12_slotOf lk_RX12_141 (Nat.le_of_ble_eq_true rfl) rfl (Nat.le_of_ble_eq_true rfl) (fun _ h => ct_X12_slotOf h) (fun x6 => ?_)
      refine r_sipush 14 29 (v := 266) rfl rfl (by decide) ?_
      refine r_VI 15 32 (st := []) (av := [.inr (.inr a0), .inl 2, .inl x5, .inl x6, .inl 266]) (av' := [.inl 2, .inl x5, .inl x6, .inl 266]) (μ' := u_X12_combined) (d := 4) rfl rfl mc_X12_combined in_X12_combined lk_RX12_286 (Nat.le_of_ble_eq_true rfl) rfl rfl h0 rfl (Nat.le_of_ble_eq_true rfl) (fun _ _ h => ct_X12_combined h0 h) (fun x7 m8 => ?_)
      refine r_if_ne 16 39 35 rfl rfl rfl (fun h9 => ?_) (fun h9 => ?_)
      · refine r_iconst 17 36 (v := 1) rfl rfl (by decide) ?_
        refine r_goto 18 40 rfl rfl ?_
        exact r_iret 20 rfl rfl rfl
      · refine r_iconst 19 40 (v := 0) rfl rfl (by decide) ?_
        exact r_iret 20 rfl rfl rfl
theorem ct_X12_inside {t : List Sh} {m : Mi} {a0 : Nat} {a1 : Int32} {a2 : Int32} {m' : Mi} {v : Int32}  (h0 : sh t a0 = some (.inl 12)) (h : f_X12_inside t m a0 a1 a2 = some (v, m')) : Ct u_X12_inside 5 0 0 [.inr (.inr a0), .inl a1, .inl a2] (t, m) (some (.inl v), (t, m')) :=
  ct_of (by decide) tk_X12_inside (Nat.le_of_ble_eq_true rfl) (sm_X12_inside t m a0 a1 a2 h0) (by rw [h]; rfl) (Nat.le_refl _) (Nat.le_refl _)
theorem lk_RX12_186 : Cond.methodLink RX12 186 yX12_rest ∈ TB := tbm 1573 (by decide +kernel) rfl
theorem lk_RX12_179 : Cond.methodLink RX12 179 yX12_number ∈ TB := tbm 1567 (by decide +kernel) rfl
def tb_X12_reads : Tb := [(0, (.iconst 0, 1)), (1, (.istore_n 3, 1)), (2, (.iload_n 3, 1)), (3, (.bipush 9, 2)), (5, (.if_icmp .ge 16, 3)), (8, (.aload_n 0, 1)), (9, (.getfield 16, 3)), (12, (.iload_n 3, 1)), (13, (.lconst 0, 1)), (14, (.lastore, 1)), (15, (.iinc 3 1, 3)), (18, (.goto (-16), 3)), (21, (.iload_n 1, 1)), (22, (.istore_n 3, 1)), (23, (.iconst 0, 1)), (24, (.istore 4, 2)), (26, (.iconst 1, 1)), (27, (.istore 5, 2)), (29, (.iload 5, 2)), (31, (.ifCond .eq 94, 3)), (34, (.aload_n 0, 1)), (35, (.iload_n 3, 1)), (36, (.iload_n 2, 1)), (37, (.invokevirtual 179, 3)), (40, (.istore 6, 2)), (42, (.iload 6, 2)), (44, (.iconst (-1), 1)), (45, (.if_icmp .ne 5, 3)), (48, (.iconst 0, 1)), (49, (.ireturn, 1)), (50, (.aload_n 0, 1)), (51, (.getfield 16, 3)), (54, (.iload 4, 2)), (56, (.aload_n 0, 1)), (57, (.getfield 175, 3)), (60, (.lastore, 1)), (61, (.iload 4, 2)), (63, (.iconst 1, 1)), (64, (.iadd, 1)), (65, (.istore 4, 2)), (67, (.iload 6, 2)), (69, (.istore_n 3, 1)), (70, (.iload 4, 2)), (72, (.iconst 3, 1)), (73, (.if_icmp .ge 37, 3)), (76, (.iload_n 3, 1)), (77, (.iconst 1, 1)), (78, (.iadd, 1)), (79, (.iload_n 2, 1)), (80, (.if_icmp .ge 30, 3)), (83, (.aload_n 0, 1)), (84, (.iload_n 3, 1)), (85, (.invokevirtual 169, 3)), (88, (.bipush 46, 2)), (90, (.if_icmp .ne 20, 3)), (93, (.aload_n 0, 1)), (94, (.iload_n 3, 1)), (95, (.iconst 1, 1)), (96, (.iadd, 1)), (97, (.invokevirtual 169, 3)), (100, (.invokestatic 163, 3)), (103, (.ifCond .eq 7, 3)), (106, (.iconst 1, 1)), (107, (.goto 4, 3)), (110, (.iconst 0, 1)), (111, (.istore 5, 2)), (113, (.iload 5, 2)), (115, (.ifCond .eq 7, 3)), (118, (.iload_n 3, 1)), (119, (.iconst 1, 1)), (120, (.iadd, 1)), (121, (.istore_n 3, 1)), (122, (.goto (-93), 3)), (125, (.aload_n 0, 1)), (126, (.iload 4, 2)), (128, (.putfield 183, 3)), (131, (.iload 4, 2)), (133, (.iconst 3, 1)), (134, (.if_icmp .ne 18, 3)), (137, (.aload_n 0, 1)), (138, (.iload_n 3, 1)), (139, (.iload_n 2, 1)), (140, (.invokevirtual 186, 3)), (143, (.ifCond .eq 7, 3)), (146, (.iconst 2, 1)), (147, (.goto 4, 3)), (150, (.iconst 0, 1)), (151, (.ireturn, 1)), (152, (.iload_n 3, 1)), (153, (.iload_n 2, 1)), (154, (.if_icmp .ne 5, 3)), (157, (.iconst 1, 1)), (158, (.ireturn, 1)), (159, (.iload_n 2, 1)), (160, (.iload_n 3, 1)), (161, (.isub, 1)), (162, (.iconst 2, 1)), (163, (.if_icmp .ne 27, 3)), (166, (.aload_n 0, 1)), (167, (.iload_n 3, 1)), (168, (.invokevirtual 169, 3)), (171, (.bipush 46, 2)), (173, (.if_icmp .ne 17, 3)), (176, (.aload_n 0, 1)), (177, (.iload_n 3, 1)), (178, (.iconst 1, 1)), (179, (.iadd, 1)), (180, (.invokevirtual 169, 3)), (183, (.bipush 120, 2)), (185, (.if_icmp .ne 5, 3)), (188, (.iconst 1, 1)), (189, (.ireturn, 1)), (190, (.iload 4, 2)), (192, (.iconst 1, 1)), (193, (.if_icmp .ne 60, 3)), (196, (.iload_n 2, 1)), (197, (.iload_n 3, 1)), (198, (.isub, 1)), (199, (.iconst 4, 1)), (200, (.if_icmp .ne 53, 3)), (203, (.aload_n 0, 1)), (204, (.iload_n 3, 1)), (205, (.invokevirtual 169, 3)), (208, (.bipush 46, 2)), (210, (.if_icmp .ne 43, 3)), (213, (.aload_n 0, 1)), (214, (.iload_n 3, 1)), (215, (.iconst 1, 1)), (216, (.iadd, 1)), (217, (.invokevirtual 169, 3)), (220, (.bipush 120, 2)), (222, (.if_icmp .ne 31, 3)), (225, (.aload_n 0, 1)), (226, (.iload_n 3, 1)), (227, (.iconst 2, 1)), (228, (.iadd, 1)), (229, (.invokevirtual 169, 3)), (232, (.bipush 46, 2)), (234, (.if_icmp .ne 19, 3)), (237, (.aload_n 0, 1)), (238, (.iload_n 3, 1)), (239, (.iconst 3, 1)), (240, (.iadd, 1)), (241, (.invokevirtual 169, 3)), (244, (.bipush 120, 2)), (246, (.if_icmp .ne 7, 3)), (249, (.iconst 1, 1)), (250, (.goto 4, 3)), (253, (.iconst 0, 1)), (254, (.ireturn, 1))]
def u_X12_reads : Fx := (yX12_reads, (cX12_reads, (7, ((some .int), tb_X12_reads))))
theorem tk_X12_reads : ∀ q ∈ u_X12_reads.2.2.2.2, decode u_X12_reads.2.1 q.1 = .ok q.2 := by decide +kernel
theorem mc_X12_reads : MC u_X12_reads 2 := ⟨tbm 1566 (by decide +kernel) rfl, tbm 128 (by decide +kernel) rfl, ⟨by decide, by decide, by decide +kernel⟩, by decide⟩
theorem in_X12_reads : Cond.instanceMethod u_X12_reads.1 ∈ TB ∧ Cond.selects u_X12_reads.1.cls u_X12_reads.1 u_X12_reads.1 ∈ TB := ⟨tbm 1565 (by decide +kernel) rfl, tbm 74 (by decide +kernel) rfl⟩
def f_X12_reads_j48 (t : List Sh) (m : Mi) : Option (Int32 × Mi) :=
  some (0, m)
def f_X12_reads_j190 (t : List Sh) (m : Mi) (a0 : Nat) (a2 : Int32) (a3 : Int32) (a4 : Int32) : Option (Int32 × Mi) :=
  if a4 = 1 then
    if (a2 - a3) = 4 then
      (f_X12_at t m a0 a3).bind fun x9 =>
      if x9 = 46 then
        (f_X12_at t m a0 (a3 + 1)).bind fun x11 =>
        if x11 = 120 then
          (f_X12_at t m a0 (a3 + 2)).bind fun x13 =>
          if x13 = 46 then
            (f_X12_at t m a0 (a3 + 3)).bind fun x15 =>
            if x15 = 120 then
              some (1, m)
            else
              some (0, m)
          else
            some (0, m)
        else
          some (0, m)
      else
        some (0, m)
    else
      some (0, m)
  else
    some (0, m)
def f_X12_reads_j125 (t : List Sh) (m : Mi) (a0 : Nat) (a2 : Int32) (a3 : Int32) (a4 : Int32) : Option (Int32 × Mi) :=
  lt (si m a0 5 a4) fun m1 =>
  if a4 = 3 then
    bd (f_X12_rest t m1 a0 a3 a2) fun x3 m4 =>
    if x3 = 0 then
      some (0, m4)
    else
      some (2, m4)
  else
    if a3 = a2 then
      some (1, m1)
    else
      if (a2 - a3) = 2 then
        (f_X12_at t m1 a0 a3).bind fun x18 =>
        if x18 = 46 then
          (f_X12_at t m1 a0 (a3 + 1)).bind fun x20 =>
          if x20 = 120 then
            some (1, m1)
          else
            f_X12_reads_j190 t m1 a0 a2 a3 a4
        else
          f_X12_reads_j190 t m1 a0 a2 a3 a4
      else
        f_X12_reads_j190 t m1 a0 a2 a3 a4
def f_X12_reads_j111 (t : List Sh) (m : Mi) (a0 : Nat) (a2 : Int32) (a3 : Int32) (a4 : Int32) (s0 : Int32) : Option ((Int32 × Int32 × Int32 × Mi) ⊕ ((Int32 × Int32 × Mi) ⊕ (Mi))) :=
  if s0 = 0 then
    some (.inl (a3, a4, s0, m))
  else
    lt (a3 + 1) fun x30 =>
    some (.inl (x30, a4, s0, m))
def f_X12_reads_j110 (t : List Sh) (m : Mi) (a0 : Nat) (a2 : Int32) (a3 : Int32) (a4 : Int32) : Option ((Int32 × Int32 × Int32 × Mi) ⊕ ((Int32 × Int32 × Mi) ⊕ (Mi))) :=
  f_X12_reads_j111 t m a0 a2 a3 a4 0
def f_X12_reads_l29 (t : List Sh) (m : Mi) (a0 : Nat) (a2 : Int32) (a3 : Int32) (a4 : Int32) (a5 : Int32) : Option ((Int32 × Int32 × Int32 × Mi) ⊕ ((Int32 × Int32 × Mi) ⊕ (Mi))) :=
  if a5 = 0 then
    some (.inr (.inl (a3, a4, m)))
  else
    bd (f_X12_number t m a0 a3 a2) fun x23 m24 =>
    if x23 = (-1) then
      some (.inr (.inr m24))
    else
      (if ar t (gr m24 a0 4) .long a4 = true then
      lt (sl m24 (gr m24 a0 4) (ix a4) (gl m24 a0 6)) fun m27 =>
      lt (a4 + 1) fun x28 =>
      if 3 ≤ x28 then
        f_X12_reads_j110 t m27 a0 a2 x23 x28
      else
        if a2 ≤ (x23 + 1) then
          f_X12_reads_j110 t m27 a0 a2 x23 x28
        else
          (f_X12_at t m27 a0 x23).bind fun x33 =>
          if x33 = 46 then
            (f_X12_at t m27 a0 (x23 + 1)).bind fun x35 =>
            (f_X12_isDigit x35).bind fun x36 =>
            if x36 = 0 then
              f_X12_reads_j110 t m27 a0 a2 x23 x28
            else
              f_X12_reads_j111 t m27 a0 a2 x23 x28 1
          else
            f_X12_reads_j110 t m27 a0 a2 x23 x28
      else none)
def f_X12_reads_j29 (t : List Sh) (m : Mi) (a0 : Nat) (a2 : Int32) (a3 : Int32) (a4 : Int32) (a5 : Int32) : Option (Int32 × Mi) :=
  (lp (fun x : Int32 × Int32 × Int32 × Mi => f_X12_reads_l29 t x.2.2.2 a0 a2 x.1 x.2.1 x.2.2.1) FUEL (a3, a4, a5, m)).bind (Sum.elim (fun y : Int32 × Int32 × Mi => f_X12_reads_j125 t (y.2.2) a0 a2 (y.1) (y.2.1)) (fun y : Mi => f_X12_reads_j48 t y))
def f_X12_reads_j21 (t : List Sh) (m : Mi) (a0 : Nat) (a1 : Int32) (a2 : Int32) : Option (Int32 × Mi) :=
  f_X12_reads_j29 t m a0 a2 a1 0 1
def f_X12_reads_l2 (t : List Sh) (m : Mi) (a0 : Nat) (a1 : Int32) (a2 : Int32) (a3 : Int32) : Option ((Int32 × Mi) ⊕ ((Mi))) :=
  if 9 ≤ a3 then
    some (.inr m)
  else
    (if ar t (gr m a0 4) .long a3 = true then
    lt (sl m (gr m a0 4) (ix a3) 0) fun m40 =>
    lt (a3 + 1) fun x41 =>
    some (.inl (x41, m40))
    else none)
def f_X12_reads_j2 (t : List Sh) (m : Mi) (a0 : Nat) (a1 : Int32) (a2 : Int32) (a3 : Int32) : Option (Int32 × Mi) :=
  (lp (fun x : Int32 × Mi => f_X12_reads_l2 t x.2 a0 a1 a2 x.1) FUEL (a3, m)).bind (fun y : Mi => f_X12_reads_j21 t y a0 a1 a2)
def f_X12_reads (t : List Sh) (m : Mi) (a0 : Nat) (a1 : Int32) (a2 : Int32) : Option (Int32 × Mi) :=
  f_X12_reads_j2 t m a0 a1 a2 0
set_option maxRecDepth 4000 in
set_option maxHeartbeats 4000000 in
theorem sm_X12_reads (t : List Sh) (m : Mi) (a0 : Nat) (a1 : Int32) (a2 : Int32) (h0 : sh t a0 = some (.inl 12)) : Sm u_X12_reads (5, 0, 0, t.length, zs t) (kI t) 0 [(0, .inr (.inr a0)), (1, .inl a1), (2, .inl a2)] [] (t, m) (f_X12_reads t m a0 a1 a2) := by
  unfold f_X12_reads
  refine r_iconst 0 1 (v := 0) rfl rfl (by decide) ?_
  refine r_istore_n 1 2 (L' := [(3, .inl 0), (0, .inr (.inr a0)), (1, .inl a1), (2, .inl a2)]) rfl rfl rfl (by decide) rfl ?_
  have hj2 : ∀ (m : Mi) (a3 : Int32), Sm u_X12_reads (5, 0, 0, t.length, zs t) (kI t) 2 [(0, .inr (.inr a0)), (1, .inl a1), (2, .inl a2), (3, .inl a3)] [] (t, m) (f_X12_reads_j2 t m a0 a1 a2 a3) := by
    intro m a3
    unfold f_X12_reads_j2
    have hj21 : ∀ (m : Mi), Sm u_X12_reads (5, 0, 0, t.length, zs t) (kI t) 21 [(0, .inr (.inr a0)), (1, .inl a1), (2, .inl a2)] [] (t, m) (f_X12_reads_j21 t m a0 a1 a2) := by
      intro m
      unfold f_X12_reads_j21
      refine r_iload_n 12 22 1 rfl rfl rfl rfl ?_
      refine r_istore_n 13 23 (L' := [(3, .inl a1), (0, .inr (.inr a0)), (1, .inl a1), (2, .inl a2)]) rfl rfl rfl (by decide) rfl ?_
      refine r_iconst 14 24 (v := 0) rfl rfl (by decide) ?_
      refine r_istore 15 26 (L' := [(4, .inl 0), (3, .inl a1), (0, .inr (.inr a0)), (1, .inl a1), (2, .inl a2)]) rfl rfl (by decide) rfl ?_
      refine r_iconst 16 27 (v := 1) rfl rfl (by decide) ?_
      refine r_istore 17 29 (L' := [(5, .inl 1), (4, .inl 0), (3, .inl a1), (0, .inr (.inr a0)), (1, .inl a1), (2, .inl a2)]) rfl rfl (by decide) rfl ?_
      have hj29 : ∀ (m : Mi) (a3 : Int32) (a4 : Int32) (a5 : Int32), Sm u_X12_reads (5, 0, 0, t.length, zs t) (kI t) 29 [(0, .inr (.inr a0)), (2, .inl a2), (3, .inl a3), (4, .inl a4), (5, .inl a5)] [] (t, m) (f_X12_reads_j29 t m a0 a2 a3 a4 a5) := by
        intro m a3 a4 a5
        unfold f_X12_reads_j29
        have hj48 : ∀ (m : Mi), Sm u_X12_reads (5, 0, 0, t.length, zs t) (kI t) 48 [] [] (t, m) (f_X12_reads_j48 t m) := by
          intro m
          unfold f_X12_reads_j48
          refine r_iconst 28 49 (v := 0) rfl rfl (by decide) ?_
          exact r_iret 29 rfl rfl rfl
        have hj125 : ∀ (m : Mi) (a3 : Int32) (a4 : Int32), Sm u_X12_reads (5, 0, 0, t.length, zs t) (kI t) 125 [(0, .inr (.inr a0)), (2, .inl a2), (3, .inl a3), (4, .inl a4)] [] (t, m) (f_X12_reads_j125 t m a0 a2 a3 a4) := by
          intro m a3 a4
          unfold f_X12_reads_j125
          refine r_aload_n 73 126 0 rfl rfl rfl rfl ?_
          refine r_iload 74 128 3 rfl rfl rfl ?_
          refine r_putI 75 131 rfl rfl fl_RX12_183 (fun h => by cases h) (Or.inl rfl) h0 ?_
          refine r_ltM (fun m1 => ?_)
          refine r_iload 76 133 3 rfl rfl rfl ?_
          refine r_iconst 77 134 (v := 3) rfl rfl (by decide) ?_
          refine r_icmp_ne 78 152 137 rfl rfl rfl (fun h2 => ?_) (fun h2 => ?_)
          · refine r_aload_n 79 138 0 rfl rfl rfl rfl ?_
            refine r_iload_n 80 139 2 rfl rfl rfl rfl ?_
            refine r_iload_n 81 140 1 rfl rfl rfl rfl ?_
            refine r_VI 82 143 (st := []) (av := [.inr (.inr a0), .inl a3, .inl a2]) (av' := [.inl a3, .inl a2]) (μ' := u_X12_rest) (d := 4) rfl rfl mc_X12_rest in_X12_rest lk_RX12_186 (Nat.le_of_ble_eq_true rfl) rfl rfl h0 rfl (Nat.le_of_ble_eq_true rfl) (fun _ _ h => ct_X12_rest h0 h) (fun x3 m4 => ?_)
            refine r_if_eq 83 150 146 rfl rfl rfl (fun h5 => ?_) (fun h5 => ?_)
            · refine r_iconst 86 151 (v := 0) rfl rfl (by decide) ?_
              exact r_iret 87 rfl rfl rfl
            · refine r_iconst 84 147 (v := 2) rfl rfl (by decide) ?_
              refine r_goto 85 151 rfl rfl ?_
              exact r_iret 87 rfl rfl rfl
          · refine r_iload_n 88 153 2 rfl rfl rfl rfl ?_
            refine r_iload_n 89 154 1 rfl rfl rfl rfl ?_
            refine r_icmp_ne 90 159 157 rfl rfl rfl (fun h6 => ?_) (fun h6 => ?_)
            · refine r_iconst 91 158 (v := 1) rfl rfl (by decide) ?_
              exact r_iret 92 rfl rfl rfl
            · refine r_iload_n 93 160 1 rfl rfl rfl rfl ?_
              refine r_iload_n 94 161 2 rfl rfl rfl rfl ?_
              refine r_isub 95 162 rfl rfl ?_
              refine r_iconst 96 163 (v := 2) rfl rfl (by decide) ?_
              have hj190 : ∀ (m : Mi) (a3 : Int32) (a4 : Int32), Sm u_X12_reads (5, 0, 0, t.length, zs t) (kI t) 190 [(0, .inr (.inr a0)), (2, .inl a2), (3, .inl a3), (4, .inl a4)] [] (t, m) (f_X12_reads_j190 t m a0 a2 a3 a4) := by
                intro m a3 a4
                unfold f_X12_reads_j190
                refine r_iload 112 192 3 rfl rfl rfl ?_
                refine r_iconst 113 193 (v := 1) rfl rfl (by decide) ?_
                refine r_icmp_ne 114 253 196 rfl rfl rfl (fun h7 => ?_) (fun h7 => ?_)
                · refine r_iload_n 115 197 1 rfl rfl rfl rfl ?_
                  refine r_iload_n 116 198 2 rfl rfl rfl rfl ?_
                  refine r_isub 117 199 rfl rfl ?_
                  refine r_iconst 118 200 (v := 4) rfl rfl (by decide) ?_
                  refine r_icmp_ne 119 253 203 rfl rfl rfl (fun h8 => ?_) (fun h8 => ?_)
                  · refine r_aload_n 120 204 0 rfl rfl rfl rfl ?_
                    refine r_iload_n 121 205 2 rfl rfl rfl rfl ?_
                    refine r_VIo 122 208 (st := []) (av := [.inr (.inr a0), .inl a3]) (av' := [.inl a3]) (μ' := u_X12_at) (d := 1) rfl rfl mc_X12_at in_X12_at lk_RX12_169 (Nat.le_of_ble_eq_true rfl) rfl rfl h0 rfl (Nat.le_of_ble_eq_true rfl) (fun _ h => ct_X12_at h0 h) (fun x9 => ?_)
                    refine r_bipush 123 210 (v := 46) rfl rfl (by decide) ?_
                    refine r_icmp_ne 124 253 213 rfl rfl rfl (fun h10 => ?_) (fun h10 => ?_)
                    · refine r_aload_n 125 214 0 rfl rfl rfl rfl ?_
                      refine r_iload_n 126 215 2 rfl rfl rfl rfl ?_
                      refine r_iconst 127 216 (v := 1) rfl rfl (by decide) ?_
                      refine r_iadd 128 217 rfl rfl ?_
                      refine r_VIo 129 220 (st := []) (av := [.inr (.inr a0), .inl (a3 + 1)]) (av' := [.inl (a3 + 1)]) (μ' := u_X12_at) (d := 1) rfl rfl mc_X12_at in_X12_at lk_RX12_169 (Nat.le_of_ble_eq_true rfl) rfl rfl h0 rfl (Nat.le_of_ble_eq_true rfl) (fun _ h => ct_X12_at h0 h) (fun x11 => ?_)
                      refine r_bipush 130 222 (v := 120) rfl rfl (by decide) ?_
                      refine r_icmp_ne 131 253 225 rfl rfl rfl (fun h12 => ?_) (fun h12 => ?_)
                      · refine r_aload_n 132 226 0 rfl rfl rfl rfl ?_
                        refine r_iload_n 133 227 2 rfl rfl rfl rfl ?_
                        refine r_iconst 134 228 (v := 2) rfl rfl (by decide) ?_
                        refine r_iadd 135 229 rfl rfl ?_
                        refine r_VIo 136 232 (st := []) (av := [.inr (.inr a0), .inl (a3 + 2)]) (av' := [.inl (a3 + 2)]) (μ' := u_X12_at) (d := 1) rfl rfl mc_X12_at in_X12_at lk_RX12_169 (Nat.le_of_ble_eq_true rfl) rfl rfl h0 rfl (Nat.le_of_ble_eq_true rfl) (fun _ h => ct_X12_at h0 h) (fun x13 => ?_)
                        refine r_bipush 137 234 (v := 46) rfl rfl (by decide) ?_
                        refine r_icmp_ne 138 253 237 rfl rfl rfl (fun h14 => ?_) (fun h14 => ?_)
                        · refine r_aload_n 139 238 0 rfl rfl rfl rfl ?_
                          refine r_iload_n 140 239 2 rfl rfl rfl rfl ?_
                          refine r_iconst 141 240 (v := 3) rfl rfl (by decide) ?_
                          refine r_iadd 142 241 rfl rfl ?_
                          refine r_VIo 143 244 (st := []) (av := [.inr (.inr a0), .inl (a3 + 3)]) (av' := [.inl (a3 + 3)]) (μ' := u_X12_at) (d := 1) rfl rfl mc_X12_at in_X12_at lk_RX12_169 (Nat.le_of_ble_eq_true rfl) rfl rfl h0 rfl (Nat.le_of_ble_eq_true rfl) (fun _ h => ct_X12_at h0 h) (fun x15 => ?_)
                          refine r_bipush 144 246 (v := 120) rfl rfl (by decide) ?_
                          refine r_icmp_ne 145 253 249 rfl rfl rfl (fun h16 => ?_) (fun h16 => ?_)
                          · refine r_iconst 146 250 (v := 1) rfl rfl (by decide) ?_
                            refine r_goto 147 254 rfl rfl ?_
                            exact r_iret 149 rfl rfl rfl
                          · refine r_iconst 148 254 (v := 0) rfl rfl (by decide) ?_
                            exact r_iret 149 rfl rfl rfl
                        · refine r_iconst 148 254 (v := 0) rfl rfl (by decide) ?_
                          exact r_iret 149 rfl rfl rfl
                      · refine r_iconst 148 254 (v := 0) rfl rfl (by decide) ?_
                        exact r_iret 149 rfl rfl rfl
                    · refine r_iconst 148 254 (v := 0) rfl rfl (by decide) ?_
                      exact r_iret 149 rfl rfl rfl
                  · refine r_iconst 148 254 (v := 0) rfl rfl (by decide) ?_
                    exact r_iret 149 rfl rfl rfl
                · refine r_iconst 148 254 (v := 0) rfl rfl (by decide) ?_
                  exact r_iret 149 rfl rfl rfl
              refine r_icmp_ne 97 190 166 rfl rfl rfl (fun h17 => ?_) (fun h17 => ?_)
              · refine r_aload_n 98 167 0 rfl rfl rfl rfl ?_
                refine r_iload_n 99 168 2 rfl rfl rfl rfl ?_
                refine r_VIo 100 171 (st := []) (av := [.inr (.inr a0), .inl a3]) (av' := [.inl a3]) (μ' := u_X12_at) (d := 1) rfl rfl mc_X12_at in_X12_at lk_RX12_169 (Nat.le_of_ble_eq_true rfl) rfl rfl h0 rfl (Nat.le_of_ble_eq_true rfl) (fun _ h => ct_X12_at h0 h) (fun x18 => ?_)
                refine r_bipush 101 173 (v := 46) rfl rfl (by decide) ?_
                refine r_icmp_ne 102 190 176 rfl rfl rfl (fun h19 => ?_) (fun h19 => ?_)
                · refine r_aload_n 103 177 0 rfl rfl rfl rfl ?_
                  refine r_iload_n 104 178 2 rfl rfl rfl rfl ?_
                  refine r_iconst 105 179 (v := 1) rfl rfl (by decide) ?_
                  refine r_iadd 106 180 rfl rfl ?_
                  refine r_VIo 107 183 (st := []) (av := [.inr (.inr a0), .inl (a3 + 1)]) (av' := [.inl (a3 + 1)]) (μ' := u_X12_at) (d := 1) rfl rfl mc_X12_at in_X12_at lk_RX12_169 (Nat.le_of_ble_eq_true rfl) rfl rfl h0 rfl (Nat.le_of_ble_eq_true rfl) (fun _ h => ct_X12_at h0 h) (fun x20 => ?_)
                  refine r_bipush 108 185 (v := 120) rfl rfl (by decide) ?_
                  refine r_icmp_ne 109 190 188 rfl rfl rfl (fun h21 => ?_) (fun h21 => ?_)
                  · refine r_iconst 110 189 (v := 1) rfl rfl (by decide) ?_
                    exact r_iret 111 rfl rfl rfl
                  · exact hj190 m1 a3 a4
                · exact hj190 m1 a3 a4
              · exact hj190 m1 a3 a4
        refine r_lp (Lf := fun x : Int32 × Int32 × Int32 × Mi => [(0, .inr (.inr a0)), (2, .inl a2), (3, .inl (x.1)), (4, .inl (x.2.1)), (5, .inl (x.2.2.1))]) (Mf := fun x : Int32 × Int32 × Int32 × Mi => (t, x.2.2.2)) (a3, a4, a5, m) ?_ FUEL
        rintro ⟨a3, a4, a5, m⟩ κ29 hc29 he29
        refine r_eq (L' := [(0, .inr (.inr a0)), (2, .inl a2), (3, .inl a3), (4, .inl a4), (5, .inl a5)]) (M' := (t, m)) rfl rfl ?_
        refine r_eqr (r' := f_X12_reads_l29 t m a0 a2 a3 a4 a5) rfl ?_
        unfold f_X12_reads_l29
        refine r_iload 18 31 4 rfl rfl rfl ?_
        refine r_if_eq 19 125 34 rfl rfl rfl (fun h22 => ?_) (fun h22 => ?_)
        · refine r_leaf (r2 := (f_X12_reads_j125 t m a0 a2 a3 a4 : Option (Int32 × Mi))) (he29 _) ?_
          exact r_sub [0, 1, 2, 3] rfl (hj125 m a3 a4)
        · refine r_aload_n 20 35 0 rfl rfl rfl rfl ?_
          refine r_iload_n 21 36 2 rfl rfl rfl rfl ?_
          refine r_iload_n 22 37 1 rfl rfl rfl rfl ?_
          refine r_VI 23 40 (st := []) (av := [.inr (.inr a0), .inl a3, .inl a2]) (av' := [.inl a3, .inl a2]) (μ' := u_X12_number) (d := 2) rfl rfl mc_X12_number in_X12_number lk_RX12_179 (Nat.le_of_ble_eq_true rfl) rfl rfl h0 rfl (Nat.le_of_ble_eq_true rfl) (fun _ _ h => ct_X12_number h0 h) (fun x23 m24 => ?_)
          refine r_istore 24 42 (L' := [(6, .inl x23), (0, .inr (.inr a0)), (2, .inl a2), (3, .inl a3), (4, .inl a4), (5, .inl a5)]) rfl rfl (by decide) rfl ?_
          refine r_iload 25 44 0 rfl rfl rfl ?_
          refine r_iconst 26 45 (v := (-1)) rfl rfl (by decide) ?_
          refine r_icmp_ne 27 50 48 rfl rfl rfl (fun h25 => ?_) (fun h25 => ?_)
          · refine r_leaf (r2 := (f_X12_reads_j48 t m24 : Option (Int32 × Mi))) (he29 _) ?_
            exact r_sub [] rfl (hj48 m24)
          · refine r_aload_n 30 51 1 rfl rfl rfl rfl ?_
            refine r_getR 31 54 rfl rfl fl_RX12_16 rfl h0 ?_
            refine r_iload 32 56 4 rfl rfl rfl ?_
            refine r_aload_n 33 57 1 rfl rfl rfl rfl ?_
            refine r_getL 34 60 rfl rfl fl_RX12_175 rfl h0 ?_
            refine r_gd (fun h26 => ?_)
            refine r_last 35 61 rfl rfl h26 ?_
            refine r_ltM (fun m27 => ?_)
            refine r_iload 36 63 4 rfl rfl rfl ?_
            refine r_iconst 37 64 (v := 1) rfl rfl (by decide) ?_
            refine r_iadd 38 65 rfl rfl ?_
            refine r_ltI (fun x28 => ?_)
            refine r_istore 39 67 (L' := [(4, .inl x28), (6, .inl x23), (0, .inr (.inr a0)), (2, .inl a2), (3, .inl a3), (5, .inl a5)]) rfl rfl (by decide) rfl ?_
            refine r_iload 40 69 1 rfl rfl rfl ?_
            refine r_istore_n 41 70 (L' := [(3, .inl x23), (4, .inl x28), (6, .inl x23), (0, .inr (.inr a0)), (2, .inl a2), (5, .inl a5)]) rfl rfl rfl (by decide) rfl ?_
            refine r_iload 42 72 1 rfl rfl rfl ?_
            refine r_iconst 43 73 (v := 3) rfl rfl (by decide) ?_
            have hj111 : ∀ (m : Mi) (a3 : Int32) (a4 : Int32) (s0 : Int32), Sm u_X12_reads (5, 0, 0, t.length, zs t) κ29 111 [(0, .inr (.inr a0)), (2, .inl a2), (3, .inl a3), (4, .inl a4)] [.inl s0] (t, m) (f_X12_reads_j111 t m a0 a2 a3 a4 s0) := by
              intro m a3 a4 s0
              unfold f_X12_reads_j111
              refine r_istore 65 113 (L' := [(5, .inl s0), (0, .inr (.inr a0)), (2, .inl a2), (3, .inl a3), (4, .inl a4)]) rfl rfl (by decide) rfl ?_
              refine r_iload 66 115 0 rfl rfl rfl ?_
              refine r_if_eq 67 122 118 rfl rfl rfl (fun h29 => ?_) (fun h29 => ?_)
              · refine r_goto 72 29 rfl rfl ?_
                exact r_sub [1, 2, 3, 4, 0] rfl (hc29 (a3, a4, s0, m))
              · refine r_iload_n 68 119 3 rfl rfl rfl rfl ?_
                refine r_iconst 69 120 (v := 1) rfl rfl (by decide) ?_
                refine r_iadd 70 121 rfl rfl ?_
                refine r_ltI (fun x30 => ?_)
                refine r_istore_n 71 122 (L' := [(3, .inl x30), (5, .inl s0), (0, .inr (.inr a0)), (2, .inl a2), (4, .inl a4)]) rfl rfl rfl (by decide) rfl ?_
                refine r_goto 72 29 rfl rfl ?_
                exact r_sub [2, 3, 0, 4, 1] rfl (hc29 (x30, a4, s0, m))
            have hj110 : ∀ (m : Mi) (a3 : Int32) (a4 : Int32), Sm u_X12_reads (5, 0, 0, t.length, zs t) κ29 110 [(0, .inr (.inr a0)), (2, .inl a2), (3, .inl a3), (4, .inl a4)] [] (t, m) (f_X12_reads_j110 t m a0 a2 a3 a4) := by
              intro m a3 a4
              unfold f_X12_reads_j110
              refine r_iconst 64 111 (v := 0) rfl rfl (by decide) ?_
              exact hj111 m a3 a4 0
            refine r_icmp_ge 44 110 76 rfl rfl rfl (fun h31 => ?_) (fun h31 => ?_)
            · exact r_sub [3, 4, 0, 1] rfl (hj110 m27 x23 x28)
            · refine r_iload_n 45 77 0 rfl rfl rfl rfl ?_
              refine r_iconst 46 78 (v := 1) rfl rfl (by decide) ?_
              refine r_iadd 47 79 rfl rfl ?_
              refine r_iload_n 48 80 4 rfl rfl rfl rfl ?_
              refine r_icmp_ge 49 110 83 rfl rfl rfl (fun h32 => ?_) (fun h32 => ?_)
              · exact r_sub [3, 4, 0, 1] rfl (hj110 m27 x23 x28)
              · refine r_aload_n 50 84 3 rfl rfl rfl rfl ?_
                refine r_iload_n 51 85 0 rfl rfl rfl rfl ?_
                refine r_VIo 52 88 (st := []) (av := [.inr (.inr a0), .inl x23]) (av' := [.inl x23]) (μ' := u_X12_at) (d := 1) rfl rfl mc_X12_at in_X12_at lk_RX12_169 (Nat.le_of_ble_eq_true rfl) rfl rfl h0 rfl (Nat.le_of_ble_eq_true rfl) (fun _ h => ct_X12_at h0 h) (fun x33 => ?_)
                refine r_bipush 53 90 (v := 46) rfl rfl (by decide) ?_
                refine r_icmp_ne 54 110 93 rfl rfl rfl (fun h34 => ?_) (fun h34 => ?_)
                · refine r_aload_n 55 94 3 rfl rfl rfl rfl ?_
                  refine r_iload_n 56 95 0 rfl rfl rfl rfl ?_
                  refine r_iconst 57 96 (v := 1) rfl rfl (by decide) ?_
                  refine r_iadd 58 97 rfl rfl ?_
                  refine r_VIo 59 100 (st := []) (av := [.inr (.inr a0), .inl (x23 + 1)]) (av' := [.inl (x23 + 1)]) (μ' := u_X12_at) (d := 1) rfl rfl mc_X12_at in_X12_at lk_RX12_169 (Nat.le_of_ble_eq_true rfl) rfl rfl h0 rfl (Nat.le_of_ble_eq_true rfl) (fun _ h => ct_X12_at h0 h) (fun x35 => ?_)
                  refine r_SIo 60 103 (a := 0) (cn := 0) (st := []) (av := [.inl x35]) (μ' := u_X12_isDigit) (d := 1) rfl rfl mc_X12_isDigit st_X12_isDigit lk_RX12_163 (Nat.le_of_ble_eq_true rfl) rfl (Nat.le_of_ble_eq_true rfl) (fun _ h => ct_X12_isDigit h) (fun x36 => ?_)
                  refine r_if_eq 61 110 106 rfl rfl rfl (fun h37 => ?_) (fun h37 => ?_)
                  · exact r_sub [3, 4, 0, 1] rfl (hj110 m27 x23 x28)
                  · refine r_iconst 62 107 (v := 1) rfl rfl (by decide) ?_
                    refine r_goto 63 111 rfl rfl ?_
                    exact r_sub [3, 4, 0, 1] rfl (hj111 m27 x23 x28 1)
                · exact r_sub [3, 4, 0, 1] rfl (hj110 m27 x23 x28)
      exact r_sub [3, 5, 2, 1, 0] rfl (hj29 m a1 0 1)
    refine r_lp (Lf := fun x : Int32 × Mi => [(0, .inr (.inr a0)), (1, .inl a1), (2, .inl a2), (3, .inl (x.1))]) (Mf := fun x : Int32 × Mi => (t, x.2)) (a3, m) ?_ FUEL
    rintro ⟨a3, m⟩ κ2 hc2 he2
    refine r_eq (L' := [(0, .inr (.inr a0)), (1, .inl a1), (2, .inl a2), (3, .inl a3)]) (M' := (t, m)) rfl rfl ?_
    refine r_eqr (r' := f_X12_reads_l2 t m a0 a1 a2 a3) rfl ?_
    unfold f_X12_reads_l2
    refine r_iload_n 2 3 3 rfl rfl rfl rfl ?_
    refine r_bipush 3 5 (v := 9) rfl rfl (by decide) ?_
    refine r_icmp_ge 4 21 8 rfl rfl rfl (fun h38 => ?_) (fun h38 => ?_)
    · refine r_leaf (r2 := (f_X12_reads_j21 t m a0 a1 a2 : Option (Int32 × Mi))) (he2 _) ?_
      exact r_sub [0, 1, 2] rfl (hj21 m)
    · refine r_aload_n 5 9 0 rfl rfl rfl rfl ?_
      refine r_getR 6 12 rfl rfl fl_RX12_16 rfl h0 ?_
      refine r_iload_n 7 13 3 rfl rfl rfl rfl ?_
      refine r_lconst 8 14 (v := 0) rfl rfl (by decide) ?_
      refine r_gd (fun h39 => ?_)
      refine r_last 9 15 rfl rfl h39 ?_
      refine r_ltM (fun m40 => ?_)
      refine r_iinc 10 18 3 (L' := [(3, .inl (a3 + 1)), (0, .inr (.inr a0)), (1, .inl a1), (2, .inl a2)]) rfl rfl rfl (by decide) rfl ?_
      refine r_ltV (fun x41 => ?_)
      refine r_goto 11 2 rfl rfl ?_
      exact r_sub [1, 2, 3, 0] rfl (hc2 (x41, m40))
  exact r_sub [1, 2, 3, 0] rfl (hj2 m 0)
theorem ct_X12_reads {t : List Sh} {m : Mi} {a0 : Nat} {a1 : Int32} {a2 : Int32} {m' : Mi} {v : Int32}  (h0 : sh t a0 = some (.inl 12)) (h : f_X12_reads t m a0 a1 a2 = some (v, m')) : Ct u_X12_reads 5 0 0 [.inr (.inr a0), .inl a1, .inl a2] (t, m) (some (.inl v), (t, m')) :=
  ct_of (by decide) tk_X12_reads (Nat.le_of_ble_eq_true rfl) (sm_X12_reads t m a0 a1 a2 h0) (by rw [h]; rfl) (Nat.le_refl _) (Nat.le_refl _)
theorem lk_RX12_411 : Cond.methodLink RX12 411 yX12_saysStretch ∈ TB := tbm 1763 (by decide +kernel) rfl
def tb_X12_saysRange : Tb := [(0, (.aload_n 0, 1)), (1, (.getfield 20, 3)), (4, (.iload_n 1, 1)), (5, (.iaload, 1)), (6, (.ifCond .ne 27, 3)), (9, (.aload_n 0, 1)), (10, (.bipush 110, 2)), (12, (.invokevirtual 402, 3)), (15, (.aload_n 0, 1)), (16, (.bipush 111, 2)), (18, (.invokevirtual 402, 3)), (21, (.aload_n 0, 1)), (22, (.bipush 110, 2)), (24, (.invokevirtual 402, 3)), (27, (.aload_n 0, 1)), (28, (.bipush 101, 2)), (30, (.invokevirtual 402, 3)), (33, (.iconst 0, 1)), (34, (.istore_n 2, 1)), (35, (.iload_n 2, 1)), (36, (.aload_n 0, 1)), (37, (.getfield 20, 3)), (40, (.iload_n 1, 1)), (41, (.iaload, 1)), (42, (.if_icmp .ge 51, 3)), (45, (.iload_n 2, 1)), (46, (.ifCond .le 27, 3)), (49, (.aload_n 0, 1)), (50, (.bipush 32, 2)), (52, (.invokevirtual 402, 3)), (55, (.aload_n 0, 1)), (56, (.bipush 124, 2)), (58, (.invokevirtual 402, 3)), (61, (.aload_n 0, 1)), (62, (.bipush 124, 2)), (64, (.invokevirtual 402, 3)), (67, (.aload_n 0, 1)), (68, (.bipush 32, 2)), (70, (.invokevirtual 402, 3)), (73, (.aload_n 0, 1)), (74, (.iload_n 1, 1)), (75, (.iload_n 2, 1)), (76, (.invokestatic 194, 3)), (79, (.iload_n 1, 1)), (80, (.iload_n 2, 1)), (81, (.invokestatic 203, 3)), (84, (.invokevirtual 411, 3)), (87, (.iinc 2 1, 3)), (90, (.goto (-55), 3)), (93, (.return_, 1))]
def u_X12_saysRange : Fx := (yX12_saysRange, (cX12_saysRange, (3, (none, tb_X12_saysRange))))
theorem tk_X12_saysRange : ∀ q ∈ u_X12_saysRange.2.2.2.2, decode u_X12_saysRange.2.1 q.1 = .ok q.2 := by decide +kernel
theorem mc_X12_saysRange : MC u_X12_saysRange 1 := ⟨tbm 1758 (by decide +kernel) rfl, tbm 128 (by decide +kernel) rfl, ⟨by decide, by decide, by decide +kernel⟩, by decide⟩
theorem in_X12_saysRange : Cond.instanceMethod u_X12_saysRange.1 ∈ TB ∧ Cond.selects u_X12_saysRange.1.cls u_X12_saysRange.1 u_X12_saysRange.1 ∈ TB := ⟨tbm 1757 (by decide +kernel) rfl, tbm 105 (by decide +kernel) rfl⟩
def f_X12_saysRange_j93 (t : List Sh) (m : Mi) : Option (Mi) :=
  some m
def f_X12_saysRange_j73 (t : List Sh) (m : Mi) (a0 : Nat) (a1 : Int32) (a2 : Int32) : Option ((Int32 × Mi) ⊕ ((Mi))) :=
  (f_X12_from a1 a2).bind fun x4 =>
  (f_X12_below a1 a2).bind fun x5 =>
  (f_X12_saysStretch t m a0 x4 x5).bind fun m6 =>
  lt (a2 + 1) fun x7 =>
  some (.inl (x7, m6))
def f_X12_saysRange_l35 (t : List Sh) (m : Mi) (a0 : Nat) (a1 : Int32) (a2 : Int32) : Option ((Int32 × Mi) ⊕ ((Mi))) :=
  (if ar t (gr m a0 7) .int a1 = true then
  if (gi m (gr m a0 7) (ix a1)) ≤ a2 then
    some (.inr m)
  else
    if a2 ≤ 0 then
      f_X12_saysRange_j73 t m a0 a1 a2
    else
      (f_X12_says t m a0 32).bind fun m9 =>
      (f_X12_says t m9 a0 124).bind fun m10 =>
      (f_X12_says t m10 a0 124).bind fun m11 =>
      (f_X12_says t m11 a0 32).bind fun m12 =>
      f_X12_saysRange_j73 t m12 a0 a1 a2
  else none)
def f_X12_saysRange_j35 (t : List Sh) (m : Mi) (a0 : Nat) (a1 : Int32) (a2 : Int32) : Option (Mi) :=
  (lp (fun x : Int32 × Mi => f_X12_saysRange_l35 t x.2 a0 a1 x.1) FUEL (a2, m)).bind (fun y : Mi => f_X12_saysRange_j93 t y)
def f_X12_saysRange_j33 (t : List Sh) (m : Mi) (a0 : Nat) (a1 : Int32) : Option (Mi) :=
  f_X12_saysRange_j35 t m a0 a1 0
def f_X12_saysRange (t : List Sh) (m : Mi) (a0 : Nat) (a1 : Int32) : Option (Mi) :=
  (if ar t (gr m a0 7) .int a1 = true then
  if (gi m (gr m a0 7) (ix a1)) = 0 then
    (f_X12_says t m a0 110).bind fun m14 =>
    (f_X12_says t m14 a0 111).bind fun m15 =>
    (f_X12_says t m15 a0 110).bind fun m16 =>
    (f_X12_says t m16 a0 101).bind fun m17 =>
    f_X12_saysRange_j33 t m17 a0 a1
  else
    f_X12_saysRange_j33 t m a0 a1
  else none)
set_option maxRecDepth 4000 in
set_option maxHeartbeats 4000000 in
theorem sm_X12_saysRange (t : List Sh) (m : Mi) (a0 : Nat) (a1 : Int32) (h0 : sh t a0 = some (.inl 12)) : Sm u_X12_saysRange (5, 0, 0, t.length, zs t) (kV t) 0 [(0, .inr (.inr a0)), (1, .inl a1)] [] (t, m) (f_X12_saysRange t m a0 a1) := by
  unfold f_X12_saysRange
  refine r_aload_n 0 1 0 rfl rfl rfl rfl ?_
  refine r_getR 1 4 rfl rfl fl_RX12_20 rfl h0 ?_
  refine r_iload_n 2 5 1 rfl rfl rfl rfl ?_
  refine r_gd (fun h1 => ?_)
  refine r_iald 3 6 rfl rfl h1 ?_
  have hj33 : ∀ (m : Mi), Sm u_X12_saysRange (5, 0, 0, t.length, zs t) (kV t) 33 [(0, .inr (.inr a0)), (1, .inl a1)] [] (t, m) (f_X12_saysRange_j33 t m a0 a1) := by
    intro m
    unfold f_X12_saysRange_j33
    refine r_iconst 17 34 (v := 0) rfl rfl (by decide) ?_
    refine r_istore_n 18 35 (L' := [(2, .inl 0), (0, .inr (.inr a0)), (1, .inl a1)]) rfl rfl rfl (by decide) rfl ?_
    have hj35 : ∀ (m : Mi) (a2 : Int32), Sm u_X12_saysRange (5, 0, 0, t.length, zs t) (kV t) 35 [(0, .inr (.inr a0)), (1, .inl a1), (2, .inl a2)] [] (t, m) (f_X12_saysRange_j35 t m a0 a1 a2) := by
      intro m a2
      unfold f_X12_saysRange_j35
      have hj93 : ∀ (m : Mi), Sm u_X12_saysRange (5, 0, 0, t.length, zs t) (kV t) 93 [] [] (t, m) (f_X12_saysRange_j93 t m) := by
        intro m
        unfold f_X12_saysRange_j93
        exact r_vret 49 rfl rfl rfl
      refine r_lp (Lf := fun x : Int32 × Mi => [(0, .inr (.inr a0)), (1, .inl a1), (2, .inl (x.1))]) (Mf := fun x : Int32 × Mi => (t, x.2)) (a2, m) ?_ FUEL
      rintro ⟨a2, m⟩ κ35 hc35 he35
      refine r_eq (L' := [(0, .inr (.inr a0)), (1, .inl a1), (2, .inl a2)]) (M' := (t, m)) rfl rfl ?_
      refine r_eqr (r' := f_X12_saysRange_l35 t m a0 a1 a2) rfl ?_
      unfold f_X12_saysRange_l35
      refine r_iload_n 19 36 2 rfl rfl rfl rfl ?_
      refine r_aload_n 20 37 0 rfl rfl rfl rfl ?_
      refine r_getR 21 40 rfl rfl fl_RX12_20 rfl h0 ?_
      refine r_iload_n 22 41 1 rfl rfl rfl rfl ?_
      refine r_gd (fun h2 => ?_)
      refine r_iald 23 42 rfl rfl h2 ?_
      refine r_icmp_ge 24 93 45 rfl rfl rfl (fun h3 => ?_) (fun h3 => ?_)
      · refine r_leaf (r2 := (f_X12_saysRange_j93 t m : Option (Mi))) (he35 _) ?_
        exact r_sub [] rfl (hj93 m)
      · refine r_iload_n 25 46 2 rfl rfl rfl rfl ?_
        have hj73 : ∀ (m : Mi) (a2 : Int32), Sm u_X12_saysRange (5, 0, 0, t.length, zs t) κ35 73 [(0, .inr (.inr a0)), (1, .inl a1), (2, .inl a2)] [] (t, m) (f_X12_saysRange_j73 t m a0 a1 a2) := by
          intro m a2
          unfold f_X12_saysRange_j73
          refine r_aload_n 39 74 0 rfl rfl rfl rfl ?_
          refine r_iload_n 40 75 1 rfl rfl rfl rfl ?_
          refine r_iload_n 41 76 2 rfl rfl rfl rfl ?_
          refine r_SIo 42 79 (a := 0) (cn := 0) (st := [.inr (.inr a0)]) (av := [.inl a1, .inl a2]) (μ' := u_X12_from) (d := 1) rfl rfl mc_X12_from st_X12_from lk_RX12_194 (Nat.le_of_ble_eq_true rfl) rfl (Nat.le_of_ble_eq_true rfl) (fun _ h => ct_X12_from h) (fun x4 => ?_)
          refine r_iload_n 43 80 1 rfl rfl rfl rfl ?_
          refine r_iload_n 44 81 2 rfl rfl rfl rfl ?_
          refine r_SIo 45 84 (a := 0) (cn := 0) (st := [.inl x4, .inr (.inr a0)]) (av := [.inl a1, .inl a2]) (μ' := u_X12_below) (d := 2) rfl rfl mc_X12_below st_X12_below lk_RX12_203 (Nat.le_of_ble_eq_true rfl) rfl (Nat.le_of_ble_eq_true rfl) (fun _ h => ct_X12_below h) (fun x5 => ?_)
          refine r_VV 46 87 (st := []) (av := [.inr (.inr a0), .inl x4, .inl x5]) (av' := [.inl x4, .inl x5]) (μ' := u_X12_saysStretch) (d := 4) rfl rfl mc_X12_saysStretch in_X12_saysStretch lk_RX12_411 (Nat.le_of_ble_eq_true rfl) rfl rfl h0 rfl (Nat.le_of_ble_eq_true rfl) (fun _ h => ct_X12_saysStretch h0 h) (fun m6 => ?_)
          refine r_iinc 47 90 2 (L' := [(2, .inl (a2 + 1)), (0, .inr (.inr a0)), (1, .inl a1)]) rfl rfl rfl (by decide) rfl ?_
          refine r_ltV (fun x7 => ?_)
          refine r_goto 48 35 rfl rfl ?_
          exact r_sub [1, 2, 0] rfl (hc35 (x7, m6))
        refine r_if_le 26 73 49 rfl rfl rfl (fun h8 => ?_) (fun h8 => ?_)
        · exact hj73 m a2
        · refine r_aload_n 27 50 0 rfl rfl rfl rfl ?_
          refine r_bipush 28 52 (v := 32) rfl rfl (by decide) ?_
          refine r_VV 29 55 (st := []) (av := [.inr (.inr a0), .inl 32]) (av' := [.inl 32]) (μ' := u_X12_says) (d := 1) rfl rfl mc_X12_says in_X12_says lk_RX12_402 (Nat.le_of_ble_eq_true rfl) rfl rfl h0 rfl (Nat.le_of_ble_eq_true rfl) (fun _ h => ct_X12_says h0 h) (fun m9 => ?_)
          refine r_aload_n 30 56 0 rfl rfl rfl rfl ?_
          refine r_bipush 31 58 (v := 124) rfl rfl (by decide) ?_
          refine r_VV 32 61 (st := []) (av := [.inr (.inr a0), .inl 124]) (av' := [.inl 124]) (μ' := u_X12_says) (d := 1) rfl rfl mc_X12_says in_X12_says lk_RX12_402 (Nat.le_of_ble_eq_true rfl) rfl rfl h0 rfl (Nat.le_of_ble_eq_true rfl) (fun _ h => ct_X12_says h0 h) (fun m10 => ?_)
          refine r_aload_n 33 62 0 rfl rfl rfl rfl ?_
          refine r_bipush 34 64 (v := 124) rfl rfl (by decide) ?_
          refine r_VV 35 67 (st := []) (av := [.inr (.inr a0), .inl 124]) (av' := [.inl 124]) (μ' := u_X12_says) (d := 1) rfl rfl mc_X12_says in_X12_says lk_RX12_402 (Nat.le_of_ble_eq_true rfl) rfl rfl h0 rfl (Nat.le_of_ble_eq_true rfl) (fun _ h => ct_X12_says h0 h) (fun m11 => ?_)
          refine r_aload_n 36 68 0 rfl rfl rfl rfl ?_
          refine r_bipush 37 70 (v := 32) rfl rfl (by decide) ?_
          refine r_VV 38 73 (st := []) (av := [.inr (.inr a0), .inl 32]) (av' := [.inl 32]) (μ' := u_X12_says) (d := 1) rfl rfl mc_X12_says in_X12_says lk_RX12_402 (Nat.le_of_ble_eq_true rfl) rfl rfl h0 rfl (Nat.le_of_ble_eq_true rfl) (fun _ h => ct_X12_says h0 h) (fun m12 => ?_)
          exact hj73 m12 a2
    exact r_sub [1, 2, 0] rfl (hj35 m 0)
  refine r_if_ne 4 33 9 rfl rfl rfl (fun h13 => ?_) (fun h13 => ?_)
  · refine r_aload_n 5 10 0 rfl rfl rfl rfl ?_
    refine r_bipush 6 12 (v := 110) rfl rfl (by decide) ?_
    refine r_VV 7 15 (st := []) (av := [.inr (.inr a0), .inl 110]) (av' := [.inl 110]) (μ' := u_X12_says) (d := 1) rfl rfl mc_X12_says in_X12_says lk_RX12_402 (Nat.le_of_ble_eq_true rfl) rfl rfl h0 rfl (Nat.le_of_ble_eq_true rfl) (fun _ h => ct_X12_says h0 h) (fun m14 => ?_)
    refine r_aload_n 8 16 0 rfl rfl rfl rfl ?_
    refine r_bipush 9 18 (v := 111) rfl rfl (by decide) ?_
    refine r_VV 10 21 (st := []) (av := [.inr (.inr a0), .inl 111]) (av' := [.inl 111]) (μ' := u_X12_says) (d := 1) rfl rfl mc_X12_says in_X12_says lk_RX12_402 (Nat.le_of_ble_eq_true rfl) rfl rfl h0 rfl (Nat.le_of_ble_eq_true rfl) (fun _ h => ct_X12_says h0 h) (fun m15 => ?_)
    refine r_aload_n 11 22 0 rfl rfl rfl rfl ?_
    refine r_bipush 12 24 (v := 110) rfl rfl (by decide) ?_
    refine r_VV 13 27 (st := []) (av := [.inr (.inr a0), .inl 110]) (av' := [.inl 110]) (μ' := u_X12_says) (d := 1) rfl rfl mc_X12_says in_X12_says lk_RX12_402 (Nat.le_of_ble_eq_true rfl) rfl rfl h0 rfl (Nat.le_of_ble_eq_true rfl) (fun _ h => ct_X12_says h0 h) (fun m16 => ?_)
    refine r_aload_n 14 28 0 rfl rfl rfl rfl ?_
    refine r_bipush 15 30 (v := 101) rfl rfl (by decide) ?_
    refine r_VV 16 33 (st := []) (av := [.inr (.inr a0), .inl 101]) (av' := [.inl 101]) (μ' := u_X12_says) (d := 1) rfl rfl mc_X12_says in_X12_says lk_RX12_402 (Nat.le_of_ble_eq_true rfl) rfl rfl h0 rfl (Nat.le_of_ble_eq_true rfl) (fun _ h => ct_X12_says h0 h) (fun m17 => ?_)
    exact hj33 m17
  · exact hj33 m
theorem ct_X12_saysRange {t : List Sh} {m : Mi} {a0 : Nat} {a1 : Int32} {m' : Mi}  (h0 : sh t a0 = some (.inl 12)) (h : f_X12_saysRange t m a0 a1 = some m') : Ct u_X12_saysRange 5 0 0 [.inr (.inr a0), .inl a1] (t, m) (none, (t, m')) :=
  ct_of (by decide) tk_X12_saysRange (Nat.le_of_ble_eq_true rfl) (sm_X12_saysRange t m a0 a1 h0) (by rw [h]; rfl) (Nat.le_refl _) (Nat.le_refl _)
theorem lk_RX12_369 : Cond.methodLink RX12 369 yX12_opens ∈ TB := tbm 1696 (by decide +kernel) rfl
theorem lk_RX12_373 : Cond.methodLink RX12 373 yX12_fewest ∈ TB := tbm 1711 (by decide +kernel) rfl
def tb_X12_solved : Tb := [(0, (.aload_n 0, 1)), (1, (.invokevirtual 369, 3)), (4, (.ifCond .ne 5, 3)), (7, (.iconst 0, 1)), (8, (.ireturn, 1)), (9, (.iconst 0, 1)), (10, (.istore_n 2, 1)), (11, (.iconst 0, 1)), (12, (.istore_n 3, 1)), (13, (.aload_n 0, 1)), (14, (.getfield 120, 3)), (17, (.iconst 0, 1)), (18, (.aload_n 0, 1)), (19, (.iconst 0, 1)), (20, (.invokevirtual 373, 3)), (23, (.iastore, 1)), (24, (.aload_n 0, 1)), (25, (.getfield 117, 3)), (28, (.iconst 0, 1)), (29, (.iconst (-1), 1)), (30, (.iastore, 1)), (31, (.aload_n 0, 1)), (32, (.getfield 120, 3)), (35, (.iconst 0, 1)), (36, (.iaload, 1)), (37, (.iconst (-1), 1)), (38, (.if_icmp .ne 5, 3)), (41, (.iconst 1, 1)), (42, (.ireturn, 1)), (43, (.iload_n 3, 1)), (44, (.ifCond .lt 209, 3)), (47, (.aload_n 0, 1)), (48, (.getfield 120, 3)), (51, (.iload_n 3, 1)), (52, (.iaload, 1)), (53, (.istore 4, 2)), (55, (.aload_n 0, 1)), (56, (.getfield 117, 3)), (59, (.iload_n 3, 1)), (60, (.iaload, 1)), (61, (.iconst 1, 1)), (62, (.iadd, 1)), (63, (.istore 5, 2)), (65, (.iload 5, 2)), (67, (.bipush 6, 2)), (69, (.if_icmp .gt 32, 3)), (72, (.aload_n 0, 1)), (73, (.getfield 111, 3)), (76, (.bipush 10, 2)), (78, (.iload_n 3, 1)), (79, (.imul, 1)), (80, (.iload 4, 2)), (82, (.iadd, 1)), (83, (.iaload, 1)), (84, (.iload 5, 2)), (86, (.ishr, 1)), (87, (.iconst 1, 1)), (88, (.iand, 1)), (89, (.ifCond .ne 12, 3)), (92, (.iload 5, 2)), (94, (.iconst 1, 1)), (95, (.iadd, 1)), (96, (.istore 5, 2)), (98, (.goto (-33), 3)), (101, (.aload_n 0, 1)), (102, (.getfield 117, 3)), (105, (.iload_n 3, 1)), (106, (.iload 5, 2)), (108, (.iastore, 1)), (109, (.iload 5, 2)), (111, (.bipush 6, 2)), (113, (.if_icmp .le 10, 3)), (116, (.iload_n 3, 1)), (117, (.iconst 1, 1)), (118, (.isub, 1)), (119, (.istore_n 3, 1)), (120, (.goto (-77), 3)), (123, (.iconst 0, 1)), (124, (.istore 6, 2)), (126, (.iload 6, 2)), (128, (.aload_n 0, 1)), (129, (.getfield 43, 3)), (132, (.aload_n 0, 1)), (133, (.getfield 326, 3)), (136, (.iaload, 1)), (137, (.if_icmp .ge 36, 3)), (140, (.aload_n 0, 1)), (141, (.getfield 111, 3)), (144, (.bipush 10, 2)), (146, (.iload_n 3, 1)), (147, (.imul, 1)), (148, (.bipush 10, 2)), (150, (.iadd, 1)), (151, (.iload 6, 2)), (153, (.iadd, 1)), (154, (.aload_n 0, 1)), (155, (.getfield 111, 3)), (158, (.bipush 10, 2)), (160, (.iload_n 3, 1)), (161, (.imul, 1)), (162, (.iload 6, 2)), (164, (.iadd, 1)), (165, (.iaload, 1)), (166, (.iastore, 1)), (167, (.iinc 6 1, 3)), (170, (.goto (-44), 3)), (173, (.aload_n 0, 1)), (174, (.getfield 111, 3)), (177, (.bipush 10, 2)), (179, (.iload_n 3, 1)), (180, (.imul, 1)), (181, (.bipush 10, 2)), (183, (.iadd, 1)), (184, (.iload 4, 2)), (186, (.iadd, 1)), (187, (.iconst 1, 1)), (188, (.iload 5, 2)), (190, (.ishl, 1)), (191, (.iastore, 1)), (192, (.aload_n 0, 1)), (193, (.iload_n 3, 1)), (194, (.iconst 1, 1)), (195, (.iadd, 1)), (196, (.invokevirtual 363, 3)), (199, (.ifCond .ne 6, 3)), (202, (.goto (-159), 3)), (205, (.aload_n 0, 1)), (206, (.iload_n 3, 1)), (207, (.iconst 1, 1)), (208, (.iadd, 1)), (209, (.invokevirtual 373, 3)), (212, (.istore 6, 2)), (214, (.iload 6, 2)), (216, (.iconst (-1), 1)), (217, (.if_icmp .ne 14, 3)), (220, (.iload_n 2, 1)), (221, (.iconst 1, 1)), (222, (.iadd, 1)), (223, (.istore_n 2, 1)), (224, (.iload_n 2, 1)), (225, (.iload_n 1, 1)), (226, (.if_icmp .ne 24, 3)), (229, (.iload_n 2, 1)), (230, (.ireturn, 1)), (231, (.iload_n 3, 1)), (232, (.iconst 1, 1)), (233, (.iadd, 1)), (234, (.istore_n 3, 1)), (235, (.aload_n 0, 1)), (236, (.getfield 120, 3)), (239, (.iload_n 3, 1)), (240, (.iload 6, 2)), (242, (.iastore, 1)), (243, (.aload_n 0, 1)), (244, (.getfield 117, 3)), (247, (.iload_n 3, 1)), (248, (.iconst (-1), 1)), (249, (.iastore, 1)), (250, (.goto (-207), 3)), (253, (.iload_n 2, 1)), (254, (.ireturn, 1))]
def u_X12_solved : Fx := (yX12_solved, (cX12_solved, (7, ((some .int), tb_X12_solved))))
theorem tk_X12_solved : ∀ q ∈ u_X12_solved.2.2.2.2, decode u_X12_solved.2.1 q.1 = .ok q.2 := by decide +kernel
theorem mc_X12_solved : MC u_X12_solved 1 := ⟨tbm 1695 (by decide +kernel) rfl, tbm 128 (by decide +kernel) rfl, ⟨by decide, by decide, by decide +kernel⟩, by decide⟩
theorem in_X12_solved : Cond.instanceMethod u_X12_solved.1 ∈ TB ∧ Cond.selects u_X12_solved.1.cls u_X12_solved.1 u_X12_solved.1 ∈ TB := ⟨tbm 1694 (by decide +kernel) rfl, tbm 97 (by decide +kernel) rfl⟩
def f_X12_solved_j229 (t : List Sh) (m : Mi) (a2 : Int32) : Option (Int32 × Mi) :=
  some (a2, m)
def f_X12_solved_j253 (t : List Sh) (m : Mi) (a2 : Int32) : Option (Int32 × Mi) :=
  some (a2, m)
def f_X12_solved_j173 (t : List Sh) (m : Mi) (a0 : Nat) (a1 : Int32) (a2 : Int32) (a3 : Int32) (a4 : Int32) (a5 : Int32) : Option ((Int32 × Int32 × Mi) ⊕ ((Int32 × Mi) ⊕ (Int32 × Mi))) :=
  (if ar t (gr m a0 45) .int (((10 * a3) + 10) + a4) = true then
  lt (si m (gr m a0 45) (ix (((10 * a3) + 10) + a4)) (1 <<< (a5 &&& 31))) fun m20 =>
  bd (f_X12_sifts t m20 a0 (a3 + 1)) fun x21 m22 =>
  if x21 = 0 then
    some (.inl (a2, a3, m22))
  else
    (f_X12_fewest t m22 a0 (a3 + 1)).bind fun x24 =>
    if x24 = (-1) then
      lt (a2 + 1) fun x26 =>
      if x26 = a1 then
        some (.inr (.inr (x26, m22)))
      else
        some (.inl (x26, a3, m22))
    else
      lt (a3 + 1) fun x28 =>
      (if ar t (gr m22 a0 48) .int x28 = true then
      lt (si m22 (gr m22 a0 48) (ix x28) x24) fun m30 =>
      (if ar t (gr m30 a0 47) .int x28 = true then
      lt (si m30 (gr m30 a0 47) (ix x28) (-1)) fun m32 =>
      some (.inl (a2, x28, m32))
      else none)
      else none)
  else none)
def f_X12_solved_l126 (t : List Sh) (m : Mi) (a0 : Nat) (a1 : Int32) (a2 : Int32) (a3 : Int32) (a4 : Int32) (a5 : Int32) (a6 : Int32) : Option ((Int32 × Mi) ⊕ ((Mi))) :=
  (if ar t (gr m a0 23) .int (gi m a0 21) = true then
  if (gi m (gr m a0 23) (ix (gi m a0 21))) ≤ a6 then
    some (.inr m)
  else
    (if ar t (gr m a0 45) .int ((10 * a3) + a6) = true then
    (if ar t (gr m a0 45) .int (((10 * a3) + 10) + a6) = true then
    lt (si m (gr m a0 45) (ix (((10 * a3) + 10) + a6)) (gi m (gr m a0 45) (ix ((10 * a3) + a6)))) fun m37 =>
    lt (a6 + 1) fun x38 =>
    some (.inl (x38, m37))
    else none)
    else none)
  else none)
def f_X12_solved_j126 (t : List Sh) (m : Mi) (a0 : Nat) (a1 : Int32) (a2 : Int32) (a3 : Int32) (a4 : Int32) (a5 : Int32) (a6 : Int32) : Option ((Int32 × Int32 × Mi) ⊕ ((Int32 × Mi) ⊕ (Int32 × Mi))) :=
  (lp (fun x : Int32 × Mi => f_X12_solved_l126 t x.2 a0 a1 a2 a3 a4 a5 x.1) FUEL (a6, m)).bind (fun y : Mi => f_X12_solved_j173 t y a0 a1 a2 a3 a4 a5)
def f_X12_solved_j101 (t : List Sh) (m : Mi) (a0 : Nat) (a1 : Int32) (a2 : Int32) (a3 : Int32) (a4 : Int32) (a5 : Int32) : Option ((Int32 × Int32 × Mi) ⊕ ((Int32 × Mi) ⊕ (Int32 × Mi))) :=
  (if ar t (gr m a0 47) .int a3 = true then
  lt (si m (gr m a0 47) (ix a3) a5) fun m17 =>
  if a5 ≤ 6 then
    f_X12_solved_j126 t m17 a0 a1 a2 a3 a4 a5 0
  else
    lt (a3 - 1) fun x39 =>
    some (.inl (a2, x39, m17))
  else none)
def f_X12_solved_l65 (t : List Sh) (m : Mi) (a0 : Nat) (a1 : Int32) (a2 : Int32) (a3 : Int32) (a4 : Int32) (a5 : Int32) : Option ((Int32) ⊕ ((Int32))) :=
  if 6 < a5 then
    some (.inr a5)
  else
    (if ar t (gr m a0 45) .int ((10 * a3) + a4) = true then
    if (((gi m (gr m a0 45) (ix ((10 * a3) + a4))) >>> (a5 &&& 31)) &&& 1) = 0 then
      lt (a5 + 1) fun x43 =>
      some (.inl x43)
    else
      some (.inr a5)
    else none)
def f_X12_solved_j65 (t : List Sh) (m : Mi) (a0 : Nat) (a1 : Int32) (a2 : Int32) (a3 : Int32) (a4 : Int32) (a5 : Int32) : Option ((Int32 × Int32 × Mi) ⊕ ((Int32 × Mi) ⊕ (Int32 × Mi))) :=
  (lp (fun x : Int32 => f_X12_solved_l65 t m a0 a1 a2 a3 a4 x) FUEL a5).bind (fun y : Int32 => f_X12_solved_j101 t m a0 a1 a2 a3 a4 y)
def f_X12_solved_l43 (t : List Sh) (m : Mi) (a0 : Nat) (a1 : Int32) (a2 : Int32) (a3 : Int32) : Option ((Int32 × Int32 × Mi) ⊕ ((Int32 × Mi) ⊕ (Int32 × Mi))) :=
  if a3 < 0 then
    some (.inr (.inl (a2, m)))
  else
    (if ar t (gr m a0 48) .int a3 = true then
    lt (gi m (gr m a0 48) (ix a3)) fun x13 =>
    (if ar t (gr m a0 47) .int a3 = true then
    lt ((gi m (gr m a0 47) (ix a3)) + 1) fun x15 =>
    f_X12_solved_j65 t m a0 a1 a2 a3 x13 x15
    else none)
    else none)
def f_X12_solved_j43 (t : List Sh) (m : Mi) (a0 : Nat) (a1 : Int32) (a2 : Int32) (a3 : Int32) : Option (Int32 × Mi) :=
  (lp (fun x : Int32 × Int32 × Mi => f_X12_solved_l43 t x.2.2 a0 a1 x.1 x.2.1) FUEL (a2, a3, m)).bind (Sum.elim (fun y : Int32 × Mi => f_X12_solved_j253 t (y.2) (y.1)) (fun y : Int32 × Mi => f_X12_solved_j229 t (y.2) (y.1)))
def f_X12_solved (t : List Sh) (m : Mi) (a0 : Nat) (a1 : Int32) : Option (Int32 × Mi) :=
  bd (f_X12_opens t m a0) fun x1 m2 =>
  if x1 = 0 then
    some (0, m2)
  else
    (f_X12_fewest t m2 a0 0).bind fun x4 =>
    (if ar t (gr m2 a0 48) .int 0 = true then
    lt (si m2 (gr m2 a0 48) (ix 0) x4) fun m6 =>
    (if ar t (gr m6 a0 47) .int 0 = true then
    lt (si m6 (gr m6 a0 47) (ix 0) (-1)) fun m8 =>
    (if ar t (gr m8 a0 48) .int 0 = true then
    if (gi m8 (gr m8 a0 48) (ix 0)) = (-1) then
      some (1, m8)
    else
      f_X12_solved_j43 t m8 a0 a1 0 0
    else none)
    else none)
    else none)
set_option maxRecDepth 4000 in
set_option maxHeartbeats 4000000 in
theorem sm_X12_solved (t : List Sh) (m : Mi) (a0 : Nat) (a1 : Int32) (h0 : sh t a0 = some (.inl 12)) : Sm u_X12_solved (5, 0, 0, t.length, zs t) (kI t) 0 [(0, .inr (.inr a0)), (1, .inl a1)] [] (t, m) (f_X12_solved t m a0 a1) := by
  unfold f_X12_solved
  refine r_aload_n 0 1 0 rfl rfl rfl rfl ?_
  refine r_VI 1 4 (st := []) (av := [.inr (.inr a0)]) (av' := []) (μ' := u_X12_opens) (d := 4) rfl rfl mc_X12_opens in_X12_opens lk_RX12_369 (Nat.le_of_ble_eq_true rfl) rfl rfl h0 rfl (Nat.le_of_ble_eq_true rfl) (fun _ _ h => ct_X12_opens h0 h) (fun x1 m2 => ?_)
  refine r_if_ne 2 9 7 rfl rfl rfl (fun h3 => ?_) (fun h3 => ?_)
  · refine r_iconst 3 8 (v := 0) rfl rfl (by decide) ?_
    exact r_iret 4 rfl rfl rfl
  · refine r_iconst 5 10 (v := 0) rfl rfl (by decide) ?_
    refine r_istore_n 6 11 (L' := [(2, .inl 0), (0, .inr (.inr a0)), (1, .inl a1)]) rfl rfl rfl (by decide) rfl ?_
    refine r_iconst 7 12 (v := 0) rfl rfl (by decide) ?_
    refine r_istore_n 8 13 (L' := [(3, .inl 0), (2, .inl 0), (0, .inr (.inr a0)), (1, .inl a1)]) rfl rfl rfl (by decide) rfl ?_
    refine r_aload_n 9 14 2 rfl rfl rfl rfl ?_
    refine r_getR 10 17 rfl rfl fl_RX12_120 rfl h0 ?_
    refine r_iconst 11 18 (v := 0) rfl rfl (by decide) ?_
    refine r_aload_n 12 19 2 rfl rfl rfl rfl ?_
    refine r_iconst 13 20 (v := 0) rfl rfl (by decide) ?_
    refine r_VIo 14 23 (st := [.inl 0, .inr (.inr (gr m2 a0 48))]) (av := [.inr (.inr a0), .inl 0]) (av' := [.inl 0]) (μ' := u_X12_fewest) (d := 2) rfl rfl mc_X12_fewest in_X12_fewest lk_RX12_373 (Nat.le_of_ble_eq_true rfl) rfl rfl h0 rfl (Nat.le_of_ble_eq_true rfl) (fun _ h => ct_X12_fewest h0 h) (fun x4 => ?_)
    refine r_gd (fun h5 => ?_)
    refine r_iast 15 24 rfl rfl h5 ?_
    refine r_ltM (fun m6 => ?_)
    refine r_aload_n 16 25 2 rfl rfl rfl rfl ?_
    refine r_getR 17 28 rfl rfl fl_RX12_117 rfl h0 ?_
    refine r_iconst 18 29 (v := 0) rfl rfl (by decide) ?_
    refine r_iconst 19 30 (v := (-1)) rfl rfl (by decide) ?_
    refine r_gd (fun h7 => ?_)
    refine r_iast 20 31 rfl rfl h7 ?_
    refine r_ltM (fun m8 => ?_)
    refine r_aload_n 21 32 2 rfl rfl rfl rfl ?_
    refine r_getR 22 35 rfl rfl fl_RX12_120 rfl h0 ?_
    refine r_iconst 23 36 (v := 0) rfl rfl (by decide) ?_
    refine r_gd (fun h9 => ?_)
    refine r_iald 24 37 rfl rfl h9 ?_
    refine r_iconst 25 38 (v := (-1)) rfl rfl (by decide) ?_
    refine r_icmp_ne 26 43 41 rfl rfl rfl (fun h10 => ?_) (fun h10 => ?_)
    · refine r_iconst 27 42 (v := 1) rfl rfl (by decide) ?_
      exact r_iret 28 rfl rfl rfl
    · have hj43 : ∀ (m : Mi) (a2 : Int32) (a3 : Int32), Sm u_X12_solved (5, 0, 0, t.length, zs t) (kI t) 43 [(0, .inr (.inr a0)), (1, .inl a1), (2, .inl a2), (3, .inl a3)] [] (t, m) (f_X12_solved_j43 t m a0 a1 a2 a3) := by
        intro m a2 a3
        unfold f_X12_solved_j43
        have hj229 : ∀ (m : Mi) (a2 : Int32), Sm u_X12_solved (5, 0, 0, t.length, zs t) (kI t) 229 [(2, .inl a2)] [] (t, m) (f_X12_solved_j229 t m a2) := by
          intro m a2
          unfold f_X12_solved_j229
          refine r_iload_n 142 230 0 rfl rfl rfl rfl ?_
          exact r_iret 143 rfl rfl rfl
        have hj253 : ∀ (m : Mi) (a2 : Int32), Sm u_X12_solved (5, 0, 0, t.length, zs t) (kI t) 253 [(2, .inl a2)] [] (t, m) (f_X12_solved_j253 t m a2) := by
          intro m a2
          unfold f_X12_solved_j253
          refine r_iload_n 159 254 0 rfl rfl rfl rfl ?_
          exact r_iret 160 rfl rfl rfl
        refine r_lp (Lf := fun x : Int32 × Int32 × Mi => [(0, .inr (.inr a0)), (1, .inl a1), (2, .inl (x.1)), (3, .inl (x.2.1))]) (Mf := fun x : Int32 × Int32 × Mi => (t, x.2.2)) (a2, a3, m) ?_ FUEL
        rintro ⟨a2, a3, m⟩ κ43 hc43 he43
        refine r_eq (L' := [(0, .inr (.inr a0)), (1, .inl a1), (2, .inl a2), (3, .inl a3)]) (M' := (t, m)) rfl rfl ?_
        refine r_eqr (r' := f_X12_solved_l43 t m a0 a1 a2 a3) rfl ?_
        unfold f_X12_solved_l43
        refine r_iload_n 29 44 3 rfl rfl rfl rfl ?_
        refine r_if_lt 30 253 47 rfl rfl rfl (fun h11 => ?_) (fun h11 => ?_)
        · refine r_leaf (r2 := (f_X12_solved_j253 t m a2 : Option (Int32 × Mi))) (he43 _) ?_
          exact r_sub [2] rfl (hj253 m a2)
        · refine r_aload_n 31 48 0 rfl rfl rfl rfl ?_
          refine r_getR 32 51 rfl rfl fl_RX12_120 rfl h0 ?_
          refine r_iload_n 33 52 3 rfl rfl rfl rfl ?_
          refine r_gd (fun h12 => ?_)
          refine r_iald 34 53 rfl rfl h12 ?_
          refine r_ltI (fun x13 => ?_)
          refine r_istore 35 55 (L' := [(4, .inl x13), (0, .inr (.inr a0)), (1, .inl a1), (2, .inl a2), (3, .inl a3)]) rfl rfl (by decide) rfl ?_
          refine r_aload_n 36 56 1 rfl rfl rfl rfl ?_
          refine r_getR 37 59 rfl rfl fl_RX12_117 rfl h0 ?_
          refine r_iload_n 38 60 4 rfl rfl rfl rfl ?_
          refine r_gd (fun h14 => ?_)
          refine r_iald 39 61 rfl rfl h14 ?_
          refine r_iconst 40 62 (v := 1) rfl rfl (by decide) ?_
          refine r_iadd 41 63 rfl rfl ?_
          refine r_ltI (fun x15 => ?_)
          refine r_istore 42 65 (L' := [(5, .inl x15), (4, .inl x13), (0, .inr (.inr a0)), (1, .inl a1), (2, .inl a2), (3, .inl a3)]) rfl rfl (by decide) rfl ?_
          have hj65 : ∀ (m : Mi) (a2 : Int32) (a3 : Int32) (a4 : Int32) (a5 : Int32), Sm u_X12_solved (5, 0, 0, t.length, zs t) κ43 65 [(0, .inr (.inr a0)), (1, .inl a1), (2, .inl a2), (3, .inl a3), (4, .inl a4), (5, .inl a5)] [] (t, m) (f_X12_solved_j65 t m a0 a1 a2 a3 a4 a5) := by
            intro m a2 a3 a4 a5
            unfold f_X12_solved_j65
            have hj101 : ∀ (m : Mi) (a2 : Int32) (a3 : Int32) (a4 : Int32) (a5 : Int32), Sm u_X12_solved (5, 0, 0, t.length, zs t) κ43 101 [(0, .inr (.inr a0)), (1, .inl a1), (2, .inl a2), (3, .inl a3), (4, .inl a4), (5, .inl a5)] [] (t, m) (f_X12_solved_j101 t m a0 a1 a2 a3 a4 a5) := by
              intro m a2 a3 a4 a5
              unfold f_X12_solved_j101
              refine r_aload_n 64 102 0 rfl rfl rfl rfl ?_
              refine r_getR 65 105 rfl rfl fl_RX12_117 rfl h0 ?_
              refine r_iload_n 66 106 3 rfl rfl rfl rfl ?_
              refine r_iload 67 108 5 rfl rfl rfl ?_
              refine r_gd (fun h16 => ?_)
              refine r_iast 68 109 rfl rfl h16 ?_
              refine r_ltM (fun m17 => ?_)
              refine r_iload 69 111 5 rfl rfl rfl ?_
              refine r_bipush 70 113 (v := 6) rfl rfl (by decide) ?_
              refine r_icmp_le 71 123 116 rfl rfl rfl (fun h18 => ?_) (fun h18 => ?_)
              · refine r_iconst 77 124 (v := 0) rfl rfl (by decide) ?_
                refine r_istore 78 126 (L' := [(6, .inl 0), (0, .inr (.inr a0)), (1, .inl a1), (2, .inl a2), (3, .inl a3), (4, .inl a4), (5, .inl a5)]) rfl rfl (by decide) rfl ?_
                have hj126 : ∀ (m : Mi) (a2 : Int32) (a3 : Int32) (a4 : Int32) (a5 : Int32) (a6 : Int32), Sm u_X12_solved (5, 0, 0, t.length, zs t) κ43 126 [(0, .inr (.inr a0)), (1, .inl a1), (2, .inl a2), (3, .inl a3), (4, .inl a4), (5, .inl a5), (6, .inl a6)] [] (t, m) (f_X12_solved_j126 t m a0 a1 a2 a3 a4 a5 a6) := by
                  intro m a2 a3 a4 a5 a6
                  unfold f_X12_solved_j126
                  have hj173 : ∀ (m : Mi) (a2 : Int32) (a3 : Int32) (a4 : Int32) (a5 : Int32), Sm u_X12_solved (5, 0, 0, t.length, zs t) κ43 173 [(0, .inr (.inr a0)), (1, .inl a1), (2, .inl a2), (3, .inl a3), (4, .inl a4), (5, .inl a5)] [] (t, m) (f_X12_solved_j173 t m a0 a1 a2 a3 a4 a5) := by
                    intro m a2 a3 a4 a5
                    unfold f_X12_solved_j173
                    refine r_aload_n 106 174 0 rfl rfl rfl rfl ?_
                    refine r_getR 107 177 rfl rfl fl_RX12_111 rfl h0 ?_
                    refine r_bipush 108 179 (v := 10) rfl rfl (by decide) ?_
                    refine r_iload_n 109 180 3 rfl rfl rfl rfl ?_
                    refine r_imul 110 181 rfl rfl ?_
                    refine r_bipush 111 183 (v := 10) rfl rfl (by decide) ?_
                    refine r_iadd 112 184 rfl rfl ?_
                    refine r_iload 113 186 4 rfl rfl rfl ?_
                    refine r_iadd 114 187 rfl rfl ?_
                    refine r_iconst 115 188 (v := 1) rfl rfl (by decide) ?_
                    refine r_iload 116 190 5 rfl rfl rfl ?_
                    refine r_ishl 117 191 rfl rfl ?_
                    refine r_gd (fun h19 => ?_)
                    refine r_iast 118 192 rfl rfl h19 ?_
                    refine r_ltM (fun m20 => ?_)
                    refine r_aload_n 119 193 0 rfl rfl rfl rfl ?_
                    refine r_iload_n 120 194 3 rfl rfl rfl rfl ?_
                    refine r_iconst 121 195 (v := 1) rfl rfl (by decide) ?_
                    refine r_iadd 122 196 rfl rfl ?_
                    refine r_VI 123 199 (st := []) (av := [.inr (.inr a0), .inl (a3 + 1)]) (av' := [.inl (a3 + 1)]) (μ' := u_X12_sifts) (d := 3) rfl rfl mc_X12_sifts in_X12_sifts lk_RX12_363 (Nat.le_of_ble_eq_true rfl) rfl rfl h0 rfl (Nat.le_of_ble_eq_true rfl) (fun _ _ h => ct_X12_sifts h0 h) (fun x21 m22 => ?_)
                    refine r_if_ne 124 205 202 rfl rfl rfl (fun h23 => ?_) (fun h23 => ?_)
                    · refine r_goto 125 43 rfl rfl ?_
                      exact r_sub [0, 1, 2, 3] rfl (hc43 (a2, a3, m22))
                    · refine r_aload_n 126 206 0 rfl rfl rfl rfl ?_
                      refine r_iload_n 127 207 3 rfl rfl rfl rfl ?_
                      refine r_iconst 128 208 (v := 1) rfl rfl (by decide) ?_
                      refine r_iadd 129 209 rfl rfl ?_
                      refine r_VIo 130 212 (st := []) (av := [.inr (.inr a0), .inl (a3 + 1)]) (av' := [.inl (a3 + 1)]) (μ' := u_X12_fewest) (d := 2) rfl rfl mc_X12_fewest in_X12_fewest lk_RX12_373 (Nat.le_of_ble_eq_true rfl) rfl rfl h0 rfl (Nat.le_of_ble_eq_true rfl) (fun _ h => ct_X12_fewest h0 h) (fun x24 => ?_)
                      refine r_istore 131 214 (L' := [(6, .inl x24), (0, .inr (.inr a0)), (1, .inl a1), (2, .inl a2), (3, .inl a3), (4, .inl a4), (5, .inl a5)]) rfl rfl (by decide) rfl ?_
                      refine r_iload 132 216 0 rfl rfl rfl ?_
                      refine r_iconst 133 217 (v := (-1)) rfl rfl (by decide) ?_
                      refine r_icmp_ne 134 231 220 rfl rfl rfl (fun h25 => ?_) (fun h25 => ?_)
                      · refine r_iload_n 135 221 3 rfl rfl rfl rfl ?_
                        refine r_iconst 136 222 (v := 1) rfl rfl (by decide) ?_
                        refine r_iadd 137 223 rfl rfl ?_
                        refine r_ltI (fun x26 => ?_)
                        refine r_istore_n 138 224 (L' := [(2, .inl x26), (6, .inl x24), (0, .inr (.inr a0)), (1, .inl a1), (3, .inl a3), (4, .inl a4), (5, .inl a5)]) rfl rfl rfl (by decide) rfl ?_
                        refine r_iload_n 139 225 0 rfl rfl rfl rfl ?_
                        refine r_iload_n 140 226 3 rfl rfl rfl rfl ?_
                        refine r_icmp_ne 141 250 229 rfl rfl rfl (fun h27 => ?_) (fun h27 => ?_)
                        · refine r_leaf (r2 := (f_X12_solved_j229 t m22 x26 : Option (Int32 × Mi))) (he43 _) ?_
                          exact r_sub [0] rfl (hj229 m22 x26)
                        · refine r_goto 158 43 rfl rfl ?_
                          exact r_sub [2, 3, 0, 4] rfl (hc43 (x26, a3, m22))
                      · refine r_iload_n 144 232 4 rfl rfl rfl rfl ?_
                        refine r_iconst 145 233 (v := 1) rfl rfl (by decide) ?_
                        refine r_iadd 146 234 rfl rfl ?_
                        refine r_ltI (fun x28 => ?_)
                        refine r_istore_n 147 235 (L' := [(3, .inl x28), (6, .inl x24), (0, .inr (.inr a0)), (1, .inl a1), (2, .inl a2), (4, .inl a4), (5, .inl a5)]) rfl rfl rfl (by decide) rfl ?_
                        refine r_aload_n 148 236 2 rfl rfl rfl rfl ?_
                        refine r_getR 149 239 rfl rfl fl_RX12_120 rfl h0 ?_
                        refine r_iload_n 150 240 0 rfl rfl rfl rfl ?_
                        refine r_iload 151 242 1 rfl rfl rfl ?_
                        refine r_gd (fun h29 => ?_)
                        refine r_iast 152 243 rfl rfl h29 ?_
                        refine r_ltM (fun m30 => ?_)
                        refine r_aload_n 153 244 2 rfl rfl rfl rfl ?_
                        refine r_getR 154 247 rfl rfl fl_RX12_117 rfl h0 ?_
                        refine r_iload_n 155 248 0 rfl rfl rfl rfl ?_
                        refine r_iconst 156 249 (v := (-1)) rfl rfl (by decide) ?_
                        refine r_gd (fun h31 => ?_)
                        refine r_iast 157 250 rfl rfl h31 ?_
                        refine r_ltM (fun m32 => ?_)
                        refine r_goto 158 43 rfl rfl ?_
                        exact r_sub [2, 3, 4, 0] rfl (hc43 (a2, x28, m32))
                  refine r_lp (Lf := fun x : Int32 × Mi => [(0, .inr (.inr a0)), (1, .inl a1), (2, .inl a2), (3, .inl a3), (4, .inl a4), (5, .inl a5), (6, .inl (x.1))]) (Mf := fun x : Int32 × Mi => (t, x.2)) (a6, m) ?_ FUEL
                  rintro ⟨a6, m⟩ κ126 hc126 he126
                  refine r_eq (L' := [(0, .inr (.inr a0)), (1, .inl a1), (2, .inl a2), (3, .inl a3), (4, .inl a4), (5, .inl a5), (6, .inl a6)]) (M' := (t, m)) rfl rfl ?_
                  refine r_eqr (r' := f_X12_solved_l126 t m a0 a1 a2 a3 a4 a5 a6) rfl ?_
                  unfold f_X12_solved_l126
                  refine r_iload 79 128 6 rfl rfl rfl ?_
                  refine r_aload_n 80 129 0 rfl rfl rfl rfl ?_
                  refine r_getR 81 132 rfl rfl fl_RX12_43 rfl h0 ?_
                  refine r_aload_n 82 133 0 rfl rfl rfl rfl ?_
                  refine r_getI 83 136 rfl rfl fl_RX12_326 rfl h0 ?_
                  refine r_gd (fun h33 => ?_)
                  refine r_iald 84 137 rfl rfl h33 ?_
                  refine r_icmp_ge 85 173 140 rfl rfl rfl (fun h34 => ?_) (fun h34 => ?_)
                  · refine r_leaf (r2 := (f_X12_solved_j173 t m a0 a1 a2 a3 a4 a5 : Option ((Int32 × Int32 × Mi) ⊕ ((Int32 × Mi) ⊕ (Int32 × Mi))))) (he126 _) ?_
                    exact r_sub [0, 1, 2, 3, 4, 5] rfl (hj173 m a2 a3 a4 a5)
                  · refine r_aload_n 86 141 0 rfl rfl rfl rfl ?_
                    refine r_getR 87 144 rfl rfl fl_RX12_111 rfl h0 ?_
                    refine r_bipush 88 146 (v := 10) rfl rfl (by decide) ?_
                    refine r_iload_n 89 147 3 rfl rfl rfl rfl ?_
                    refine r_imul 90 148 rfl rfl ?_
                    refine r_bipush 91 150 (v := 10) rfl rfl (by decide) ?_
                    refine r_iadd 92 151 rfl rfl ?_
                    refine r_iload 93 153 6 rfl rfl rfl ?_
                    refine r_iadd 94 154 rfl rfl ?_
                    refine r_aload_n 95 155 0 rfl rfl rfl rfl ?_
                    refine r_getR 96 158 rfl rfl fl_RX12_111 rfl h0 ?_
                    refine r_bipush 97 160 (v := 10) rfl rfl (by decide) ?_
                    refine r_iload_n 98 161 3 rfl rfl rfl rfl ?_
                    refine r_imul 99 162 rfl rfl ?_
                    refine r_iload 100 164 6 rfl rfl rfl ?_
                    refine r_iadd 101 165 rfl rfl ?_
                    refine r_gd (fun h35 => ?_)
                    refine r_iald 102 166 rfl rfl h35 ?_
                    refine r_gd (fun h36 => ?_)
                    refine r_iast 103 167 rfl rfl h36 ?_
                    refine r_ltM (fun m37 => ?_)
                    refine r_iinc 104 170 6 (L' := [(6, .inl (a6 + 1)), (0, .inr (.inr a0)), (1, .inl a1), (2, .inl a2), (3, .inl a3), (4, .inl a4), (5, .inl a5)]) rfl rfl rfl (by decide) rfl ?_
                    refine r_ltV (fun x38 => ?_)
                    refine r_goto 105 126 rfl rfl ?_
                    exact r_sub [1, 2, 3, 4, 5, 6, 0] rfl (hc126 (x38, m37))
                exact r_sub [1, 2, 3, 4, 5, 6, 0] rfl (hj126 m17 a2 a3 a4 a5 0)
              · refine r_iload_n 72 117 3 rfl rfl rfl rfl ?_
                refine r_iconst 73 118 (v := 1) rfl rfl (by decide) ?_
                refine r_isub 74 119 rfl rfl ?_
                refine r_ltI (fun x39 => ?_)
                refine r_istore_n 75 120 (L' := [(3, .inl x39), (0, .inr (.inr a0)), (1, .inl a1), (2, .inl a2), (4, .inl a4), (5, .inl a5)]) rfl rfl rfl (by decide) rfl ?_
                refine r_goto 76 43 rfl rfl ?_
                exact r_sub [1, 2, 3, 0] rfl (hc43 (a2, x39, m17))
            refine r_lp (Lf := fun x : Int32 => [(0, .inr (.inr a0)), (1, .inl a1), (2, .inl a2), (3, .inl a3), (4, .inl a4), (5, .inl x)]) (Mf := fun x : Int32 => (t, m)) a5 ?_ FUEL
            rintro a5 κ65 hc65 he65
            refine r_eq (L' := [(0, .inr (.inr a0)), (1, .inl a1), (2, .inl a2), (3, .inl a3), (4, .inl a4), (5, .inl a5)]) (M' := (t, m)) rfl rfl ?_
            refine r_eqr (r' := f_X12_solved_l65 t m a0 a1 a2 a3 a4 a5) rfl ?_
            unfold f_X12_solved_l65
            refine r_iload 43 67 5 rfl rfl rfl ?_
            refine r_bipush 44 69 (v := 6) rfl rfl (by decide) ?_
            refine r_icmp_gt 45 101 72 rfl rfl rfl (fun h40 => ?_) (fun h40 => ?_)
            · refine r_leaf (r2 := (f_X12_solved_j101 t m a0 a1 a2 a3 a4 a5 : Option ((Int32 × Int32 × Mi) ⊕ ((Int32 × Mi) ⊕ (Int32 × Mi))))) (he65 _) ?_
              exact hj101 m a2 a3 a4 a5
            · refine r_aload_n 46 73 0 rfl rfl rfl rfl ?_
              refine r_getR 47 76 rfl rfl fl_RX12_111 rfl h0 ?_
              refine r_bipush 48 78 (v := 10) rfl rfl (by decide) ?_
              refine r_iload_n 49 79 3 rfl rfl rfl rfl ?_
              refine r_imul 50 80 rfl rfl ?_
              refine r_iload 51 82 4 rfl rfl rfl ?_
              refine r_iadd 52 83 rfl rfl ?_
              refine r_gd (fun h41 => ?_)
              refine r_iald 53 84 rfl rfl h41 ?_
              refine r_iload 54 86 5 rfl rfl rfl ?_
              refine r_ishr 55 87 rfl rfl ?_
              refine r_iconst 56 88 (v := 1) rfl rfl (by decide) ?_
              refine r_iand 57 89 rfl rfl ?_
              refine r_if_ne 58 101 92 rfl rfl rfl (fun h42 => ?_) (fun h42 => ?_)
              · refine r_iload 59 94 5 rfl rfl rfl ?_
                refine r_iconst 60 95 (v := 1) rfl rfl (by decide) ?_
                refine r_iadd 61 96 rfl rfl ?_
                refine r_ltI (fun x43 => ?_)
                refine r_istore 62 98 (L' := [(5, .inl x43), (0, .inr (.inr a0)), (1, .inl a1), (2, .inl a2), (3, .inl a3), (4, .inl a4)]) rfl rfl (by decide) rfl ?_
                refine r_goto 63 65 rfl rfl ?_
                exact r_sub [1, 2, 3, 4, 5, 0] rfl (hc65 x43)
              · refine r_leaf (r2 := (f_X12_solved_j101 t m a0 a1 a2 a3 a4 a5 : Option ((Int32 × Int32 × Mi) ⊕ ((Int32 × Mi) ⊕ (Int32 × Mi))))) (he65 _) ?_
                exact hj101 m a2 a3 a4 a5
          exact r_sub [2, 3, 4, 5, 1, 0] rfl (hj65 m a2 a3 x13 x15)
      exact r_sub [2, 3, 1, 0] rfl (hj43 m8 0 0)
theorem ct_X12_solved {t : List Sh} {m : Mi} {a0 : Nat} {a1 : Int32} {m' : Mi} {v : Int32}  (h0 : sh t a0 = some (.inl 12)) (h : f_X12_solved t m a0 a1 = some (v, m')) : Ct u_X12_solved 5 0 0 [.inr (.inr a0), .inl a1] (t, m) (some (.inl v), (t, m')) :=
  ct_of (by decide) tk_X12_solved (Nat.le_of_ble_eq_true rfl) (sm_X12_solved t m a0 a1 h0) (by rw [h]; rfl) (Nat.le_refl _) (Nat.le_refl _)
theorem lk_RX12_386 : Cond.methodLink RX12 386 yX12_solved ∈ TB := tbm 1692 (by decide +kernel) rfl
def tb_X12_findsReason : Tb := [(0, (.aload_n 0, 1)), (1, (.invokevirtual 332, 3)), (4, (.iconst 1, 1)), (5, (.isub, 1)), (6, (.istore_n 1, 1)), (7, (.iload_n 1, 1)), (8, (.ifCond .lt 32, 3)), (11, (.aload_n 0, 1)), (12, (.getfield 101, 3)), (15, (.iload_n 1, 1)), (16, (.iconst 0, 1)), (17, (.bastore, 1)), (18, (.aload_n 0, 1)), (19, (.iconst 1, 1)), (20, (.invokevirtual 386, 3)), (23, (.iconst 1, 1)), (24, (.if_icmp .ne 10, 3)), (27, (.aload_n 0, 1)), (28, (.getfield 101, 3)), (31, (.iload_n 1, 1)), (32, (.iconst 1, 1)), (33, (.bastore, 1)), (34, (.iinc 1 (-1), 3)), (37, (.goto (-30), 3)), (40, (.iconst 0, 1)), (41, (.istore_n 1, 1)), (42, (.iload_n 1, 1)), (43, (.aload_n 0, 1)), (44, (.invokevirtual 332, 3)), (47, (.if_icmp .ge 41, 3)), (50, (.aload_n 0, 1)), (51, (.getfield 101, 3)), (54, (.iload_n 1, 1)), (55, (.baload, 1)), (56, (.ifCond .ne 6, 3)), (59, (.goto 23, 3)), (62, (.aload_n 0, 1)), (63, (.getfield 129, 3)), (66, (.aload_n 0, 1)), (67, (.getfield 343, 3)), (70, (.iload_n 1, 1)), (71, (.iastore, 1)), (72, (.aload_n 0, 1)), (73, (.aload_n 0, 1)), (74, (.getfield 343, 3)), (77, (.iconst 1, 1)), (78, (.iadd, 1)), (79, (.putfield 343, 3)), (82, (.iinc 1 1, 3)), (85, (.goto (-43), 3)), (88, (.return_, 1))]
def u_X12_findsReason : Fx := (yX12_findsReason, (cX12_findsReason, (2, (none, tb_X12_findsReason))))
theorem tk_X12_findsReason : ∀ q ∈ u_X12_findsReason.2.2.2.2, decode u_X12_findsReason.2.1 q.1 = .ok q.2 := by decide +kernel
theorem mc_X12_findsReason : MC u_X12_findsReason 0 := ⟨tbm 1721 (by decide +kernel) rfl, tbm 128 (by decide +kernel) rfl, ⟨by decide, by decide, by decide +kernel⟩, by decide⟩
theorem in_X12_findsReason : Cond.instanceMethod u_X12_findsReason.1 ∈ TB ∧ Cond.selects u_X12_findsReason.1.cls u_X12_findsReason.1 u_X12_findsReason.1 ∈ TB := ⟨tbm 1720 (by decide +kernel) rfl, tbm 102 (by decide +kernel) rfl⟩
def f_X12_findsReason_j88 (t : List Sh) (m : Mi) : Option (Mi) :=
  some m
def f_X12_findsReason_l42 (t : List Sh) (m : Mi) (a0 : Nat) (a1 : Int32) : Option ((Int32 × Mi) ⊕ ((Mi))) :=
  (f_X12_constraints t m a0).bind fun x3 =>
  if x3 ≤ a1 then
    some (.inr m)
  else
    (if ar t (gr m a0 42) .boolean a1 = true then
    if (gi m (gr m a0 42) (ix a1)) = 0 then
      lt (a1 + 1) fun x7 =>
      some (.inl (x7, m))
    else
      (if ar t (gr m a0 55) .int (gi m a0 50) = true then
      lt (si m (gr m a0 55) (ix (gi m a0 50)) a1) fun m9 =>
      lt (si m9 a0 50 ((gi m9 a0 50) + 1)) fun m10 =>
      lt (a1 + 1) fun x11 =>
      some (.inl (x11, m10))
      else none)
    else none)
def f_X12_findsReason_j42 (t : List Sh) (m : Mi) (a0 : Nat) (a1 : Int32) : Option (Mi) :=
  (lp (fun x : Int32 × Mi => f_X12_findsReason_l42 t x.2 a0 x.1) FUEL (a1, m)).bind (fun y : Mi => f_X12_findsReason_j88 t y)
def f_X12_findsReason_j40 (t : List Sh) (m : Mi) (a0 : Nat) : Option (Mi) :=
  f_X12_findsReason_j42 t m a0 0
def f_X12_findsReason_l7 (t : List Sh) (m : Mi) (a0 : Nat) (a1 : Int32) : Option ((Int32 × Mi) ⊕ ((Mi))) :=
  if a1 < 0 then
    some (.inr m)
  else
    (if ar t (gr m a0 42) .boolean a1 = true then
    lt (si m (gr m a0 42) (ix a1) (vp_nar .boolean 0)) fun m14 =>
    bd (f_X12_solved t m14 a0 1) fun x15 m16 =>
    if x15 = 1 then
      (if ar t (gr m16 a0 42) .boolean a1 = true then
      lt (si m16 (gr m16 a0 42) (ix a1) (vp_nar .boolean 1)) fun m19 =>
      lt (a1 + (-1)) fun x20 =>
      some (.inl (x20, m19))
      else none)
    else
      lt (a1 + (-1)) fun x21 =>
      some (.inl (x21, m16))
    else none)
def f_X12_findsReason_j7 (t : List Sh) (m : Mi) (a0 : Nat) (a1 : Int32) : Option (Mi) :=
  (lp (fun x : Int32 × Mi => f_X12_findsReason_l7 t x.2 a0 x.1) FUEL (a1, m)).bind (fun y : Mi => f_X12_findsReason_j40 t y a0)
def f_X12_findsReason (t : List Sh) (m : Mi) (a0 : Nat) : Option (Mi) :=
  (f_X12_constraints t m a0).bind fun x1 =>
  lt (x1 - 1) fun x2 =>
  f_X12_findsReason_j7 t m a0 x2
set_option maxRecDepth 4000 in
set_option maxHeartbeats 4000000 in
theorem sm_X12_findsReason (t : List Sh) (m : Mi) (a0 : Nat) (h0 : sh t a0 = some (.inl 12)) : Sm u_X12_findsReason (6, 0, 0, t.length, zs t) (kV t) 0 [(0, .inr (.inr a0))] [] (t, m) (f_X12_findsReason t m a0) := by
  unfold f_X12_findsReason
  refine r_aload_n 0 1 0 rfl rfl rfl rfl ?_
  refine r_VIo 1 4 (st := []) (av := [.inr (.inr a0)]) (av' := []) (μ' := u_X12_constraints) (d := 1) rfl rfl mc_X12_constraints in_X12_constraints lk_RX12_332 (Nat.le_of_ble_eq_true rfl) rfl rfl h0 rfl (Nat.le_of_ble_eq_true rfl) (fun _ h => ct_X12_constraints h0 h) (fun x1 => ?_)
  refine r_iconst 2 5 (v := 1) rfl rfl (by decide) ?_
  refine r_isub 3 6 rfl rfl ?_
  refine r_ltI (fun x2 => ?_)
  refine r_istore_n 4 7 (L' := [(1, .inl x2), (0, .inr (.inr a0))]) rfl rfl rfl (by decide) rfl ?_
  have hj7 : ∀ (m : Mi) (a1 : Int32), Sm u_X12_findsReason (6, 0, 0, t.length, zs t) (kV t) 7 [(0, .inr (.inr a0)), (1, .inl a1)] [] (t, m) (f_X12_findsReason_j7 t m a0 a1) := by
    intro m a1
    unfold f_X12_findsReason_j7
    have hj40 : ∀ (m : Mi), Sm u_X12_findsReason (6, 0, 0, t.length, zs t) (kV t) 40 [(0, .inr (.inr a0))] [] (t, m) (f_X12_findsReason_j40 t m a0) := by
      intro m
      unfold f_X12_findsReason_j40
      refine r_iconst 24 41 (v := 0) rfl rfl (by decide) ?_
      refine r_istore_n 25 42 (L' := [(1, .inl 0), (0, .inr (.inr a0))]) rfl rfl rfl (by decide) rfl ?_
      have hj42 : ∀ (m : Mi) (a1 : Int32), Sm u_X12_findsReason (6, 0, 0, t.length, zs t) (kV t) 42 [(0, .inr (.inr a0)), (1, .inl a1)] [] (t, m) (f_X12_findsReason_j42 t m a0 a1) := by
        intro m a1
        unfold f_X12_findsReason_j42
        have hj88 : ∀ (m : Mi), Sm u_X12_findsReason (6, 0, 0, t.length, zs t) (kV t) 88 [] [] (t, m) (f_X12_findsReason_j88 t m) := by
          intro m
          unfold f_X12_findsReason_j88
          exact r_vret 50 rfl rfl rfl
        refine r_lp (Lf := fun x : Int32 × Mi => [(0, .inr (.inr a0)), (1, .inl (x.1))]) (Mf := fun x : Int32 × Mi => (t, x.2)) (a1, m) ?_ FUEL
        rintro ⟨a1, m⟩ κ42 hc42 he42
        refine r_eq (L' := [(0, .inr (.inr a0)), (1, .inl a1)]) (M' := (t, m)) rfl rfl ?_
        refine r_eqr (r' := f_X12_findsReason_l42 t m a0 a1) rfl ?_
        unfold f_X12_findsReason_l42
        refine r_iload_n 26 43 1 rfl rfl rfl rfl ?_
        refine r_aload_n 27 44 0 rfl rfl rfl rfl ?_
        refine r_VIo 28 47 (st := [.inl a1]) (av := [.inr (.inr a0)]) (av' := []) (μ' := u_X12_constraints) (d := 1) rfl rfl mc_X12_constraints in_X12_constraints lk_RX12_332 (Nat.le_of_ble_eq_true rfl) rfl rfl h0 rfl (Nat.le_of_ble_eq_true rfl) (fun _ h => ct_X12_constraints h0 h) (fun x3 => ?_)
        refine r_icmp_ge 29 88 50 rfl rfl rfl (fun h4 => ?_) (fun h4 => ?_)
        · refine r_leaf (r2 := (f_X12_findsReason_j88 t m : Option (Mi))) (he42 _) ?_
          exact r_sub [] rfl (hj88 m)
        · refine r_aload_n 30 51 0 rfl rfl rfl rfl ?_
          refine r_getR 31 54 rfl rfl fl_RX12_101 rfl h0 ?_
          refine r_iload_n 32 55 1 rfl rfl rfl rfl ?_
          refine r_gd (fun h5 => ?_)
          refine r_zald 33 56 rfl rfl h5 ?_
          refine r_if_ne 34 62 59 rfl rfl rfl (fun h6 => ?_) (fun h6 => ?_)
          · refine r_goto 35 82 rfl rfl ?_
            refine r_iinc 48 85 1 (L' := [(1, .inl (a1 + 1)), (0, .inr (.inr a0))]) rfl rfl rfl (by decide) rfl ?_
            refine r_ltV (fun x7 => ?_)
            refine r_goto 49 42 rfl rfl ?_
            exact r_sub [1, 0] rfl (hc42 (x7, m))
          · refine r_aload_n 36 63 0 rfl rfl rfl rfl ?_
            refine r_getR 37 66 rfl rfl fl_RX12_129 rfl h0 ?_
            refine r_aload_n 38 67 0 rfl rfl rfl rfl ?_
            refine r_getI 39 70 rfl rfl fl_RX12_343 rfl h0 ?_
            refine r_iload_n 40 71 1 rfl rfl rfl rfl ?_
            refine r_gd (fun h8 => ?_)
            refine r_iast 41 72 rfl rfl h8 ?_
            refine r_ltM (fun m9 => ?_)
            refine r_aload_n 42 73 0 rfl rfl rfl rfl ?_
            refine r_aload_n 43 74 0 rfl rfl rfl rfl ?_
            refine r_getI 44 77 rfl rfl fl_RX12_343 rfl h0 ?_
            refine r_iconst 45 78 (v := 1) rfl rfl (by decide) ?_
            refine r_iadd 46 79 rfl rfl ?_
            refine r_putI 47 82 rfl rfl fl_RX12_343 (fun h => by cases h) (Or.inl rfl) h0 ?_
            refine r_ltM (fun m10 => ?_)
            refine r_iinc 48 85 1 (L' := [(1, .inl (a1 + 1)), (0, .inr (.inr a0))]) rfl rfl rfl (by decide) rfl ?_
            refine r_ltV (fun x11 => ?_)
            refine r_goto 49 42 rfl rfl ?_
            exact r_sub [1, 0] rfl (hc42 (x11, m10))
      exact r_sub [1, 0] rfl (hj42 m 0)
    refine r_lp (Lf := fun x : Int32 × Mi => [(0, .inr (.inr a0)), (1, .inl (x.1))]) (Mf := fun x : Int32 × Mi => (t, x.2)) (a1, m) ?_ FUEL
    rintro ⟨a1, m⟩ κ7 hc7 he7
    refine r_eq (L' := [(0, .inr (.inr a0)), (1, .inl a1)]) (M' := (t, m)) rfl rfl ?_
    refine r_eqr (r' := f_X12_findsReason_l7 t m a0 a1) rfl ?_
    unfold f_X12_findsReason_l7
    refine r_iload_n 5 8 1 rfl rfl rfl rfl ?_
    refine r_if_lt 6 40 11 rfl rfl rfl (fun h12 => ?_) (fun h12 => ?_)
    · refine r_leaf (r2 := (f_X12_findsReason_j40 t m a0 : Option (Mi))) (he7 _) ?_
      exact r_sub [0] rfl (hj40 m)
    · refine r_aload_n 7 12 0 rfl rfl rfl rfl ?_
      refine r_getR 8 15 rfl rfl fl_RX12_101 rfl h0 ?_
      refine r_iload_n 9 16 1 rfl rfl rfl rfl ?_
      refine r_iconst 10 17 (v := 0) rfl rfl (by decide) ?_
      refine r_gd (fun h13 => ?_)
      refine r_zast 11 18 rfl rfl h13 ?_
      refine r_ltM (fun m14 => ?_)
      refine r_aload_n 12 19 0 rfl rfl rfl rfl ?_
      refine r_iconst 13 20 (v := 1) rfl rfl (by decide) ?_
      refine r_VI 14 23 (st := []) (av := [.inr (.inr a0), .inl 1]) (av' := [.inl 1]) (μ' := u_X12_solved) (d := 5) rfl rfl mc_X12_solved in_X12_solved lk_RX12_386 (Nat.le_of_ble_eq_true rfl) rfl rfl h0 rfl (Nat.le_of_ble_eq_true rfl) (fun _ _ h => ct_X12_solved h0 h) (fun x15 m16 => ?_)
      refine r_iconst 15 24 (v := 1) rfl rfl (by decide) ?_
      refine r_icmp_ne 16 34 27 rfl rfl rfl (fun h17 => ?_) (fun h17 => ?_)
      · refine r_aload_n 17 28 0 rfl rfl rfl rfl ?_
        refine r_getR 18 31 rfl rfl fl_RX12_101 rfl h0 ?_
        refine r_iload_n 19 32 1 rfl rfl rfl rfl ?_
        refine r_iconst 20 33 (v := 1) rfl rfl (by decide) ?_
        refine r_gd (fun h18 => ?_)
        refine r_zast 21 34 rfl rfl h18 ?_
        refine r_ltM (fun m19 => ?_)
        refine r_iinc 22 37 1 (L' := [(1, .inl (a1 + (-1))), (0, .inr (.inr a0))]) rfl rfl rfl (by decide) rfl ?_
        refine r_ltV (fun x20 => ?_)
        refine r_goto 23 7 rfl rfl ?_
        exact r_sub [1, 0] rfl (hc7 (x20, m19))
      · refine r_iinc 22 37 1 (L' := [(1, .inl (a1 + (-1))), (0, .inr (.inr a0))]) rfl rfl rfl (by decide) rfl ?_
        refine r_ltV (fun x21 => ?_)
        refine r_goto 23 7 rfl rfl ?_
        exact r_sub [1, 0] rfl (hc7 (x21, m16))
  exact r_sub [1, 0] rfl (hj7 m x2)
theorem ct_X12_findsReason {t : List Sh} {m : Mi} {a0 : Nat} {m' : Mi}  (h0 : sh t a0 = some (.inl 12)) (h : f_X12_findsReason t m a0 = some m') : Ct u_X12_findsReason 6 0 0 [.inr (.inr a0)] (t, m) (none, (t, m')) :=
  ct_of (by decide) tk_X12_findsReason (Nat.le_of_ble_eq_true rfl) (sm_X12_findsReason t m a0 h0) (by rw [h]; rfl) (Nat.le_refl _) (Nat.le_refl _)
