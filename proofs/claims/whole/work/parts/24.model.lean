theorem lk_RX12_319 : Cond.methodLink RX12 319 yX12_packageCalled ∈ TB := tbm 1648 (by decide +kernel) rfl
theorem lk_RX12_323 : Cond.methodLink RX12 323 yX12_release ∈ TB := tbm 1656 (by decide +kernel) rfl
def tb_X12_registry : Tb := [(0, (.aload_n 0, 1)), (1, (.getfield 43, 3)), (4, (.iload_n 1, 1)), (5, (.iconst 0, 1)), (6, (.iastore, 1)), (7, (.aload_n 0, 1)), (8, (.getfield 46, 3)), (11, (.iload_n 1, 1)), (12, (.iconst 0, 1)), (13, (.iastore, 1)), (14, (.aload_n 0, 1)), (15, (.getfield 49, 3)), (18, (.iload_n 1, 1)), (19, (.iconst 0, 1)), (20, (.iastore, 1)), (21, (.aload_n 0, 1)), (22, (.getfield 52, 3)), (25, (.iload_n 1, 1)), (26, (.iconst 0, 1)), (27, (.iastore, 1)), (28, (.aload_n 0, 1)), (29, (.getfield 237, 3)), (32, (.bipush 8, 2)), (34, (.if_icmp .ne 200, 3)), (37, (.aload_n 0, 1)), (38, (.getfield 43, 3)), (41, (.iload_n 1, 1)), (42, (.iaload, 1)), (43, (.bipush 10, 2)), (45, (.if_icmp .ne 9, 3)), (48, (.aload_n 0, 1)), (49, (.iconst 2, 1)), (50, (.invokevirtual 280, 3)), (53, (.ireturn, 1)), (54, (.aload_n 0, 1)), (55, (.invokevirtual 290, 3)), (58, (.aload_n 0, 1)), (59, (.getfield 237, 3)), (62, (.iconst 1, 1)), (63, (.if_icmp .eq 9, 3)), (66, (.aload_n 0, 1)), (67, (.iconst 1, 1)), (68, (.invokevirtual 280, 3)), (71, (.ireturn, 1)), (72, (.aload_n 0, 1)), (73, (.iload_n 1, 1)), (74, (.aload_n 0, 1)), (75, (.getfield 231, 3)), (78, (.aload_n 0, 1)), (79, (.getfield 234, 3)), (82, (.aload_n 0, 1)), (83, (.getfield 231, 3)), (86, (.isub, 1)), (87, (.invokevirtual 319, 3)), (90, (.iconst (-1), 1)), (91, (.if_icmp .eq 9, 3)), (94, (.aload_n 0, 1)), (95, (.iconst 3, 1)), (96, (.invokevirtual 280, 3)), (99, (.ireturn, 1)), (100, (.aload_n 0, 1)), (101, (.getfield 43, 3)), (104, (.iload_n 1, 1)), (105, (.iaload, 1)), (106, (.istore_n 2, 1)), (107, (.aload_n 0, 1)), (108, (.getfield 55, 3)), (111, (.bipush 10, 2)), (113, (.iload_n 1, 1)), (114, (.imul, 1)), (115, (.iload_n 2, 1)), (116, (.iadd, 1)), (117, (.aload_n 0, 1)), (118, (.getfield 231, 3)), (121, (.iastore, 1)), (122, (.aload_n 0, 1)), (123, (.getfield 58, 3)), (126, (.bipush 10, 2)), (128, (.iload_n 1, 1)), (129, (.imul, 1)), (130, (.iload_n 2, 1)), (131, (.iadd, 1)), (132, (.aload_n 0, 1)), (133, (.getfield 234, 3)), (136, (.aload_n 0, 1)), (137, (.getfield 231, 3)), (140, (.isub, 1)), (141, (.iastore, 1)), (142, (.aload_n 0, 1)), (143, (.getfield 61, 3)), (146, (.bipush 11, 2)), (148, (.iload_n 1, 1)), (149, (.imul, 1)), (150, (.iload_n 2, 1)), (151, (.iadd, 1)), (152, (.aload_n 0, 1)), (153, (.getfield 46, 3)), (156, (.iload_n 1, 1)), (157, (.iaload, 1)), (158, (.iastore, 1)), (159, (.aload_n 0, 1)), (160, (.getfield 43, 3)), (163, (.iload_n 1, 1)), (164, (.iload_n 2, 1)), (165, (.iconst 1, 1)), (166, (.iadd, 1)), (167, (.iastore, 1)), (168, (.aload_n 0, 1)), (169, (.invokevirtual 290, 3)), (172, (.aload_n 0, 1)), (173, (.getfield 237, 3)), (176, (.iconst 4, 1)), (177, (.if_icmp .eq 9, 3)), (180, (.aload_n 0, 1)), (181, (.iconst 1, 1)), (182, (.invokevirtual 280, 3)), (185, (.ireturn, 1)), (186, (.aload_n 0, 1)), (187, (.invokevirtual 290, 3)), (190, (.aload_n 0, 1)), (191, (.getfield 237, 3)), (194, (.iconst 5, 1)), (195, (.if_icmp .eq 13, 3)), (198, (.aload_n 0, 1)), (199, (.iload_n 1, 1)), (200, (.invokevirtual 323, 3)), (203, (.ifCond .ne (-13), 3)), (206, (.iconst 0, 1)), (207, (.ireturn, 1)), (208, (.aload_n 0, 1)), (209, (.getfield 61, 3)), (212, (.bipush 11, 2)), (214, (.iload_n 1, 1)), (215, (.imul, 1)), (216, (.iload_n 2, 1)), (217, (.iadd, 1)), (218, (.iconst 1, 1)), (219, (.iadd, 1)), (220, (.aload_n 0, 1)), (221, (.getfield 46, 3)), (224, (.iload_n 1, 1)), (225, (.iaload, 1)), (226, (.iastore, 1)), (227, (.aload_n 0, 1)), (228, (.invokevirtual 290, 3)), (231, (.goto (-203), 3)), (234, (.aload_n 0, 1)), (235, (.getfield 237, 3)), (238, (.bipush 9, 2)), (240, (.if_icmp .ne 69, 3)), (243, (.aload_n 0, 1)), (244, (.getfield 52, 3)), (247, (.iload_n 1, 1)), (248, (.iaload, 1)), (249, (.bipush 10, 2)), (251, (.if_icmp .ne 9, 3)), (254, (.aload_n 0, 1)), (255, (.iconst 2, 1)), (256, (.invokevirtual 280, 3)), (259, (.ireturn, 1)), (260, (.aload_n 0, 1)), (261, (.iload_n 1, 1)), (262, (.iconst (-1), 1)), (263, (.bipush 9, 2)), (265, (.invokevirtual 315, 3)), (268, (.ifCond .ne 5, 3)), (271, (.iconst 0, 1)), (272, (.ireturn, 1)), (273, (.aload_n 0, 1)), (274, (.getfield 52, 3)), (277, (.iload_n 1, 1)), (278, (.aload_n 0, 1)), (279, (.getfield 52, 3)), (282, (.iload_n 1, 1)), (283, (.iaload, 1)), (284, (.iconst 1, 1)), (285, (.iadd, 1)), (286, (.iastore, 1)), (287, (.aload_n 0, 1)), (288, (.getfield 237, 3)), (291, (.bipush 6, 2)), (293, (.if_icmp .eq 9, 3)), (296, (.aload_n 0, 1)), (297, (.iconst 1, 1)), (298, (.invokevirtual 280, 3)), (301, (.ireturn, 1)), (302, (.aload_n 0, 1)), (303, (.invokevirtual 290, 3)), (306, (.goto (-72), 3)), (309, (.aload_n 0, 1)), (310, (.getfield 237, 3)), (313, (.ifCond .eq 9, 3)), (316, (.aload_n 0, 1)), (317, (.iconst 1, 1)), (318, (.invokevirtual 280, 3)), (321, (.ireturn, 1)), (322, (.iconst 0, 1)), (323, (.istore_n 2, 1)), (324, (.iload_n 2, 1)), (325, (.aload_n 0, 1)), (326, (.getfield 49, 3)), (329, (.iload_n 1, 1)), (330, (.iaload, 1)), (331, (.aload_n 0, 1)), (332, (.getfield 52, 3)), (335, (.iload_n 1, 1)), (336, (.iaload, 1)), (337, (.iadd, 1)), (338, (.if_icmp .ge 66, 3)), (341, (.sipush 250, 3)), (344, (.iload_n 1, 1)), (345, (.imul, 1)), (346, (.iload_n 2, 1)), (347, (.iadd, 1)), (348, (.istore_n 3, 1)), (349, (.aload_n 0, 1)), (350, (.getfield 88, 3)), (353, (.iload_n 3, 1)), (354, (.aload_n 0, 1)), (355, (.iload_n 1, 1)), (356, (.aload_n 0, 1)), (357, (.getfield 82, 3)), (360, (.iload_n 3, 1)), (361, (.iaload, 1)), (362, (.aload_n 0, 1)), (363, (.getfield 85, 3)), (366, (.iload_n 3, 1)), (367, (.iaload, 1)), (368, (.invokevirtual 319, 3)), (371, (.iastore, 1)), (372, (.aload_n 0, 1)), (373, (.getfield 88, 3)), (376, (.iload_n 3, 1)), (377, (.iaload, 1)), (378, (.iconst (-1), 1)), (379, (.if_icmp .ne 19, 3)), (382, (.aload_n 0, 1)), (383, (.aload_n 0, 1)), (384, (.getfield 82, 3)), (387, (.iload_n 3, 1)), (388, (.iaload, 1)), (389, (.putfield 231, 3)), (392, (.aload_n 0, 1)), (393, (.iconst 4, 1)), (394, (.invokevirtual 280, 3)), (397, (.ireturn, 1)), (398, (.iinc 2 1, 3)), (401, (.goto (-77), 3)), (404, (.iconst 1, 1)), (405, (.ireturn, 1))]
def u_X12_registry : Fx := (yX12_registry, (cX12_registry, (4, ((some .boolean), tb_X12_registry))))
theorem tk_X12_registry : ∀ q ∈ u_X12_registry.2.2.2.2, decode u_X12_registry.2.1 q.1 = .ok q.2 := by decide +kernel
theorem mc_X12_registry : MC u_X12_registry 1 := ⟨tbm 1647 (by decide +kernel) rfl, tbm 128 (by decide +kernel) rfl, ⟨by decide, by decide, by decide +kernel⟩, by decide⟩
theorem in_X12_registry : Cond.instanceMethod u_X12_registry.1 ∈ TB ∧ Cond.selects u_X12_registry.1.cls u_X12_registry.1 u_X12_registry.1 ∈ TB := ⟨tbm 1646 (by decide +kernel) rfl, tbm 86 (by decide +kernel) rfl⟩
def f_X12_registry_j48 (t : List Sh) (m : Mi) (a0 : Nat) : Option (Int32 × Mi) :=
  bd (f_X12_fault t m a0 2) fun x9 m10 =>
  (if zb x9 = true then
  some (x9, m10)
  else none)
def f_X12_registry_j66 (t : List Sh) (m : Mi) (a0 : Nat) : Option (Int32 × Mi) :=
  bd (f_X12_fault t m a0 1) fun x12 m13 =>
  (if zb x12 = true then
  some (x12, m13)
  else none)
def f_X12_registry_j94 (t : List Sh) (m : Mi) (a0 : Nat) : Option (Int32 × Mi) :=
  bd (f_X12_fault t m a0 3) fun x15 m16 =>
  (if zb x15 = true then
  some (x15, m16)
  else none)
def f_X12_registry_j180 (t : List Sh) (m : Mi) (a0 : Nat) : Option (Int32 × Mi) :=
  bd (f_X12_fault t m a0 1) fun x18 m19 =>
  (if zb x18 = true then
  some (x18, m19)
  else none)
def f_X12_registry_j206 (t : List Sh) (m : Mi) : Option (Int32 × Mi) :=
  some (0, m)
def f_X12_registry_j254 (t : List Sh) (m : Mi) (a0 : Nat) : Option (Int32 × Mi) :=
  bd (f_X12_fault t m a0 2) fun x21 m22 =>
  (if zb x21 = true then
  some (x21, m22)
  else none)
def f_X12_registry_j271 (t : List Sh) (m : Mi) : Option (Int32 × Mi) :=
  some (0, m)
def f_X12_registry_j296 (t : List Sh) (m : Mi) (a0 : Nat) : Option (Int32 × Mi) :=
  bd (f_X12_fault t m a0 1) fun x24 m25 =>
  (if zb x24 = true then
  some (x24, m25)
  else none)
def f_X12_registry_j382 (t : List Sh) (m : Mi) (a0 : Nat) (a3 : Int32) : Option (Int32 × Mi) :=
  (if ar t (gr m a0 36) .int a3 = true then
  lt (si m a0 15 (gi m (gr m a0 36) (ix a3))) fun m29 =>
  bd (f_X12_fault t m29 a0 4) fun x30 m31 =>
  (if zb x30 = true then
  some (x30, m31)
  else none)
  else none)
def f_X12_registry_j404 (t : List Sh) (m : Mi) : Option (Int32 × Mi) :=
  some (1, m)
def f_X12_registry_l324 (t : List Sh) (m : Mi) (a0 : Nat) (a1 : Int32) (a2 : Int32) : Option ((Int32 × Mi) ⊕ ((Mi) ⊕ (Int32 × Mi))) :=
  (if ar t (gr m a0 25) .int a1 = true then
  (if ar t (gr m a0 26) .int a1 = true then
  if ((gi m (gr m a0 25) (ix a1)) + (gi m (gr m a0 26) (ix a1))) ≤ a2 then
    some (.inr (.inl m))
  else
    lt ((250 * a1) + a2) fun x36 =>
    (if ar t (gr m a0 36) .int x36 = true then
    (if ar t (gr m a0 37) .int x36 = true then
    (f_X12_packageCalled t m a0 a1 (gi m (gr m a0 36) (ix x36)) (gi m (gr m a0 37) (ix x36))).bind fun x39 =>
    (if ar t (gr m a0 38) .int x36 = true then
    lt (si m (gr m a0 38) (ix x36) x39) fun m41 =>
    (if ar t (gr m41 a0 38) .int x36 = true then
    if (gi m41 (gr m41 a0 38) (ix x36)) = (-1) then
      some (.inr (.inr (x36, m41)))
    else
      lt (a2 + 1) fun x44 =>
      some (.inl (x44, m41))
    else none)
    else none)
    else none)
    else none)
  else none)
  else none)
def f_X12_registry_j324 (t : List Sh) (m : Mi) (a0 : Nat) (a1 : Int32) (a2 : Int32) : Option (Int32 × Mi) :=
  (lp (fun x : Int32 × Mi => f_X12_registry_l324 t x.2 a0 a1 x.1) FUEL (a2, m)).bind (Sum.elim (fun y : Mi => f_X12_registry_j404 t y) (fun y : Int32 × Mi => f_X12_registry_j382 t (y.2) a0 (y.1)))
def f_X12_registry_j309 (t : List Sh) (m : Mi) (a0 : Nat) (a1 : Int32) : Option (Int32 × Mi) :=
  if (gi m a0 14) = 0 then
    f_X12_registry_j324 t m a0 a1 0
  else
    bd (f_X12_fault t m a0 1) fun x45 m46 =>
    (if zb x45 = true then
    some (x45, m46)
    else none)
def f_X12_registry_l234 (t : List Sh) (m : Mi) (a0 : Nat) (a1 : Int32) : Option ((Mi) ⊕ (((Mi) ⊕ ((Mi) ⊕ ((Mi) ⊕ (Mi)))))) :=
  if (gi m a0 14) = 9 then
    (if ar t (gr m a0 26) .int a1 = true then
    if (gi m (gr m a0 26) (ix a1)) = 10 then
      some (.inr (.inr (.inl m)))
    else
      bd (f_X12_constraint t m a0 a1 (-1) 9) fun x51 m52 =>
      if x51 = 0 then
        some (.inr (.inr (.inr (.inl m52))))
      else
        (if ar t (gr m52 a0 26) .int a1 = true then
        lt (si m52 (gr m52 a0 26) (ix a1) ((gi m52 (gr m52 a0 26) (ix a1)) + 1)) fun m55 =>
        if (gi m55 a0 14) = 6 then
          (f_X12_token t m55 a0).bind fun m57 =>
          some (.inl m57)
        else
          some (.inr (.inr (.inr (.inr m55))))
        else none)
    else none)
  else
    some (.inr (.inl m))
def f_X12_registry_j234 (t : List Sh) (m : Mi) (a0 : Nat) (a1 : Int32) : Option (Int32 × Mi) :=
  (lp (fun x : Mi => f_X12_registry_l234 t x a0 a1) FUEL m).bind (Sum.elim (fun y : Mi => f_X12_registry_j309 t y a0 a1) (Sum.elim (fun y : Mi => f_X12_registry_j254 t y a0) (Sum.elim (fun y : Mi => f_X12_registry_j271 t y) (fun y : Mi => f_X12_registry_j296 t y a0))))
def f_X12_registry_j208 (t : List Sh) (m : Mi) (a0 : Nat) (a1 : Int32) (a2 : Int32) : Option ((Mi) ⊕ (((Mi) ⊕ ((Mi) ⊕ ((Mi) ⊕ ((Mi) ⊕ ((Mi) ⊕ (Mi)))))))) :=
  (if ar t (gr m a0 24) .int a1 = true then
  (if ar t (gr m a0 29) .int (((11 * a1) + a2) + 1) = true then
  lt (si m (gr m a0 29) (ix (((11 * a1) + a2) + 1)) (gi m (gr m a0 24) (ix a1))) fun m81 =>
  (f_X12_token t m81 a0).bind fun m82 =>
  some (.inl m82)
  else none)
  else none)
def f_X12_registry_l190 (t : List Sh) (m : Mi) (a0 : Nat) (a1 : Int32) (a2 : Int32) : Option ((Mi) ⊕ ((Mi) ⊕ (Mi))) :=
  if (gi m a0 14) = 5 then
    some (.inr (.inl m))
  else
    bd (f_X12_release t m a0 a1) fun x84 m85 =>
    if x84 = 0 then
      some (.inr (.inr m85))
    else
      some (.inl m85)
def f_X12_registry_j190 (t : List Sh) (m : Mi) (a0 : Nat) (a1 : Int32) (a2 : Int32) : Option ((Mi) ⊕ (((Mi) ⊕ ((Mi) ⊕ ((Mi) ⊕ ((Mi) ⊕ ((Mi) ⊕ (Mi)))))))) :=
  (lp (fun x : Mi => f_X12_registry_l190 t x a0 a1 a2) FUEL m).bind (Sum.elim (fun y : Mi => f_X12_registry_j208 t y a0 a1 a2) (fun y : Mi => some (.inr (.inr (.inr (.inr (.inr (.inr y))))))))
def f_X12_registry_l28 (t : List Sh) (m : Mi) (a0 : Nat) (a1 : Int32) : Option ((Mi) ⊕ (((Mi) ⊕ ((Mi) ⊕ ((Mi) ⊕ ((Mi) ⊕ ((Mi) ⊕ (Mi)))))))) :=
  if (gi m a0 14) = 8 then
    (if ar t (gr m a0 23) .int a1 = true then
    if (gi m (gr m a0 23) (ix a1)) = 10 then
      some (.inr (.inr (.inl m)))
    else
      (f_X12_token t m a0).bind fun m61 =>
      if (gi m61 a0 14) = 1 then
        (f_X12_packageCalled t m61 a0 a1 (gi m61 a0 15) ((gi m61 a0 16) - (gi m61 a0 15))).bind fun x63 =>
        if x63 = (-1) then
          (if ar t (gr m61 a0 23) .int a1 = true then
          lt (gi m61 (gr m61 a0 23) (ix a1)) fun x66 =>
          (if ar t (gr m61 a0 27) .int ((10 * a1) + x66) = true then
          lt (si m61 (gr m61 a0 27) (ix ((10 * a1) + x66)) (gi m61 a0 15)) fun m68 =>
          (if ar t (gr m68 a0 28) .int ((10 * a1) + x66) = true then
          lt (si m68 (gr m68 a0 28) (ix ((10 * a1) + x66)) ((gi m68 a0 16) - (gi m68 a0 15))) fun m70 =>
          (if ar t (gr m70 a0 24) .int a1 = true then
          (if ar t (gr m70 a0 29) .int ((11 * a1) + x66) = true then
          lt (si m70 (gr m70 a0 29) (ix ((11 * a1) + x66)) (gi m70 (gr m70 a0 24) (ix a1))) fun m73 =>
          (if ar t (gr m73 a0 23) .int a1 = true then
          lt (si m73 (gr m73 a0 23) (ix a1) (x66 + 1)) fun m75 =>
          (f_X12_token t m75 a0).bind fun m76 =>
          if (gi m76 a0 14) = 4 then
            (f_X12_token t m76 a0).bind fun m78 =>
            f_X12_registry_j190 t m78 a0 a1 x66
          else
            some (.inr (.inr (.inr (.inr (.inr (.inl m76))))))
          else none)
          else none)
          else none)
          else none)
          else none)
          else none)
        else
          some (.inr (.inr (.inr (.inr (.inl m61)))))
      else
        some (.inr (.inr (.inr (.inl m61))))
    else none)
  else
    some (.inr (.inl m))
def f_X12_registry_j28 (t : List Sh) (m : Mi) (a0 : Nat) (a1 : Int32) : Option (Int32 × Mi) :=
  (lp (fun x : Mi => f_X12_registry_l28 t x a0 a1) FUEL m).bind (Sum.elim (fun y : Mi => f_X12_registry_j234 t y a0 a1) (Sum.elim (fun y : Mi => f_X12_registry_j48 t y a0) (Sum.elim (fun y : Mi => f_X12_registry_j66 t y a0) (Sum.elim (fun y : Mi => f_X12_registry_j94 t y a0) (Sum.elim (fun y : Mi => f_X12_registry_j180 t y a0) (fun y : Mi => f_X12_registry_j206 t y))))))
def f_X12_registry (t : List Sh) (m : Mi) (a0 : Nat) (a1 : Int32) : Option (Int32 × Mi) :=
  (if ar t (gr m a0 23) .int a1 = true then
  lt (si m (gr m a0 23) (ix a1) 0) fun m2 =>
  (if ar t (gr m2 a0 24) .int a1 = true then
  lt (si m2 (gr m2 a0 24) (ix a1) 0) fun m4 =>
  (if ar t (gr m4 a0 25) .int a1 = true then
  lt (si m4 (gr m4 a0 25) (ix a1) 0) fun m6 =>
  (if ar t (gr m6 a0 26) .int a1 = true then
  lt (si m6 (gr m6 a0 26) (ix a1) 0) fun m8 =>
  f_X12_registry_j28 t m8 a0 a1
  else none)
  else none)
  else none)
  else none)
set_option maxRecDepth 4000 in
set_option maxHeartbeats 4000000 in
theorem sm_X12_registry (t : List Sh) (m : Mi) (a0 : Nat) (a1 : Int32) (h0 : sh t a0 = some (.inl 12)) : Sm u_X12_registry (11, 0, 0, t.length, zs t) (kI t) 0 [(0, .inr (.inr a0)), (1, .inl a1)] [] (t, m) (f_X12_registry t m a0 a1) := by
  unfold f_X12_registry
  refine r_aload_n 0 1 0 rfl rfl rfl rfl ?_
  refine r_getR 1 4 rfl rfl fl_RX12_43 rfl h0 ?_
  refine r_iload_n 2 5 1 rfl rfl rfl rfl ?_
  refine r_iconst 3 6 (v := 0) rfl rfl (by decide) ?_
  refine r_gd (fun h1 => ?_)
  refine r_iast 4 7 rfl rfl h1 ?_
  refine r_ltM (fun m2 => ?_)
  refine r_aload_n 5 8 0 rfl rfl rfl rfl ?_
  refine r_getR 6 11 rfl rfl fl_RX12_46 rfl h0 ?_
  refine r_iload_n 7 12 1 rfl rfl rfl rfl ?_
  refine r_iconst 8 13 (v := 0) rfl rfl (by decide) ?_
  refine r_gd (fun h3 => ?_)
  refine r_iast 9 14 rfl rfl h3 ?_
  refine r_ltM (fun m4 => ?_)
  refine r_aload_n 10 15 0 rfl rfl rfl rfl ?_
  refine r_getR 11 18 rfl rfl fl_RX12_49 rfl h0 ?_
  refine r_iload_n 12 19 1 rfl rfl rfl rfl ?_
  refine r_iconst 13 20 (v := 0) rfl rfl (by decide) ?_
  refine r_gd (fun h5 => ?_)
  refine r_iast 14 21 rfl rfl h5 ?_
  refine r_ltM (fun m6 => ?_)
  refine r_aload_n 15 22 0 rfl rfl rfl rfl ?_
  refine r_getR 16 25 rfl rfl fl_RX12_52 rfl h0 ?_
  refine r_iload_n 17 26 1 rfl rfl rfl rfl ?_
  refine r_iconst 18 27 (v := 0) rfl rfl (by decide) ?_
  refine r_gd (fun h7 => ?_)
  refine r_iast 19 28 rfl rfl h7 ?_
  refine r_ltM (fun m8 => ?_)
  have hj28 : ∀ (m : Mi), Sm u_X12_registry (11, 0, 0, t.length, zs t) (kI t) 28 [(0, .inr (.inr a0)), (1, .inl a1)] [] (t, m) (f_X12_registry_j28 t m a0 a1) := by
    intro m
    unfold f_X12_registry_j28
    have hj48 : ∀ (m : Mi), Sm u_X12_registry (11, 0, 0, t.length, zs t) (kI t) 48 [(0, .inr (.inr a0))] [] (t, m) (f_X12_registry_j48 t m a0) := by
      intro m
      unfold f_X12_registry_j48
      refine r_aload_n 30 49 0 rfl rfl rfl rfl ?_
      refine r_iconst 31 50 (v := 2) rfl rfl (by decide) ?_
      refine r_VI 32 53 (st := []) (av := [.inr (.inr a0), .inl 2]) (av' := [.inl 2]) (μ' := u_X12_fault) (d := 1) rfl rfl mc_X12_fault in_X12_fault lk_RX12_280 (Nat.le_of_ble_eq_true rfl) rfl rfl h0 rfl (Nat.le_of_ble_eq_true rfl) (fun _ _ h => ct_X12_fault h0 h) (fun x9 m10 => ?_)
      refine r_gd (fun h11 => ?_)
      exact r_zret 33 rfl rfl (zb_nar h11) rfl
    have hj66 : ∀ (m : Mi), Sm u_X12_registry (11, 0, 0, t.length, zs t) (kI t) 66 [(0, .inr (.inr a0))] [] (t, m) (f_X12_registry_j66 t m a0) := by
      intro m
      unfold f_X12_registry_j66
      refine r_aload_n 40 67 0 rfl rfl rfl rfl ?_
      refine r_iconst 41 68 (v := 1) rfl rfl (by decide) ?_
      refine r_VI 42 71 (st := []) (av := [.inr (.inr a0), .inl 1]) (av' := [.inl 1]) (μ' := u_X12_fault) (d := 1) rfl rfl mc_X12_fault in_X12_fault lk_RX12_280 (Nat.le_of_ble_eq_true rfl) rfl rfl h0 rfl (Nat.le_of_ble_eq_true rfl) (fun _ _ h => ct_X12_fault h0 h) (fun x12 m13 => ?_)
      refine r_gd (fun h14 => ?_)
      exact r_zret 43 rfl rfl (zb_nar h14) rfl
    have hj94 : ∀ (m : Mi), Sm u_X12_registry (11, 0, 0, t.length, zs t) (kI t) 94 [(0, .inr (.inr a0))] [] (t, m) (f_X12_registry_j94 t m a0) := by
      intro m
      unfold f_X12_registry_j94
      refine r_aload_n 56 95 0 rfl rfl rfl rfl ?_
      refine r_iconst 57 96 (v := 3) rfl rfl (by decide) ?_
      refine r_VI 58 99 (st := []) (av := [.inr (.inr a0), .inl 3]) (av' := [.inl 3]) (μ' := u_X12_fault) (d := 1) rfl rfl mc_X12_fault in_X12_fault lk_RX12_280 (Nat.le_of_ble_eq_true rfl) rfl rfl h0 rfl (Nat.le_of_ble_eq_true rfl) (fun _ _ h => ct_X12_fault h0 h) (fun x15 m16 => ?_)
      refine r_gd (fun h17 => ?_)
      exact r_zret 59 rfl rfl (zb_nar h17) rfl
    have hj180 : ∀ (m : Mi), Sm u_X12_registry (11, 0, 0, t.length, zs t) (kI t) 180 [(0, .inr (.inr a0))] [] (t, m) (f_X12_registry_j180 t m a0) := by
      intro m
      unfold f_X12_registry_j180
      refine r_aload_n 113 181 0 rfl rfl rfl rfl ?_
      refine r_iconst 114 182 (v := 1) rfl rfl (by decide) ?_
      refine r_VI 115 185 (st := []) (av := [.inr (.inr a0), .inl 1]) (av' := [.inl 1]) (μ' := u_X12_fault) (d := 1) rfl rfl mc_X12_fault in_X12_fault lk_RX12_280 (Nat.le_of_ble_eq_true rfl) rfl rfl h0 rfl (Nat.le_of_ble_eq_true rfl) (fun _ _ h => ct_X12_fault h0 h) (fun x18 m19 => ?_)
      refine r_gd (fun h20 => ?_)
      exact r_zret 116 rfl rfl (zb_nar h20) rfl
    have hj206 : ∀ (m : Mi), Sm u_X12_registry (11, 0, 0, t.length, zs t) (kI t) 206 [] [] (t, m) (f_X12_registry_j206 t m) := by
      intro m
      unfold f_X12_registry_j206
      refine r_iconst 127 207 (v := 0) rfl rfl (by decide) ?_
      exact r_zret 128 rfl rfl (by decide) rfl
    have hj234 : ∀ (m : Mi), Sm u_X12_registry (11, 0, 0, t.length, zs t) (kI t) 234 [(0, .inr (.inr a0)), (1, .inl a1)] [] (t, m) (f_X12_registry_j234 t m a0 a1) := by
      intro m
      unfold f_X12_registry_j234
      have hj254 : ∀ (m : Mi), Sm u_X12_registry (11, 0, 0, t.length, zs t) (kI t) 254 [(0, .inr (.inr a0))] [] (t, m) (f_X12_registry_j254 t m a0) := by
        intro m
        unfold f_X12_registry_j254
        refine r_aload_n 156 255 0 rfl rfl rfl rfl ?_
        refine r_iconst 157 256 (v := 2) rfl rfl (by decide) ?_
        refine r_VI 158 259 (st := []) (av := [.inr (.inr a0), .inl 2]) (av' := [.inl 2]) (μ' := u_X12_fault) (d := 1) rfl rfl mc_X12_fault in_X12_fault lk_RX12_280 (Nat.le_of_ble_eq_true rfl) rfl rfl h0 rfl (Nat.le_of_ble_eq_true rfl) (fun _ _ h => ct_X12_fault h0 h) (fun x21 m22 => ?_)
        refine r_gd (fun h23 => ?_)
        exact r_zret 159 rfl rfl (zb_nar h23) rfl
      have hj271 : ∀ (m : Mi), Sm u_X12_registry (11, 0, 0, t.length, zs t) (kI t) 271 [] [] (t, m) (f_X12_registry_j271 t m) := by
        intro m
        unfold f_X12_registry_j271
        refine r_iconst 166 272 (v := 0) rfl rfl (by decide) ?_
        exact r_zret 167 rfl rfl (by decide) rfl
      have hj296 : ∀ (m : Mi), Sm u_X12_registry (11, 0, 0, t.length, zs t) (kI t) 296 [(0, .inr (.inr a0))] [] (t, m) (f_X12_registry_j296 t m a0) := by
        intro m
        unfold f_X12_registry_j296
        refine r_aload_n 182 297 0 rfl rfl rfl rfl ?_
        refine r_iconst 183 298 (v := 1) rfl rfl (by decide) ?_
        refine r_VI 184 301 (st := []) (av := [.inr (.inr a0), .inl 1]) (av' := [.inl 1]) (μ' := u_X12_fault) (d := 1) rfl rfl mc_X12_fault in_X12_fault lk_RX12_280 (Nat.le_of_ble_eq_true rfl) rfl rfl h0 rfl (Nat.le_of_ble_eq_true rfl) (fun _ _ h => ct_X12_fault h0 h) (fun x24 m25 => ?_)
        refine r_gd (fun h26 => ?_)
        exact r_zret 185 rfl rfl (zb_nar h26) rfl
      have hj309 : ∀ (m : Mi), Sm u_X12_registry (11, 0, 0, t.length, zs t) (kI t) 309 [(0, .inr (.inr a0)), (1, .inl a1)] [] (t, m) (f_X12_registry_j309 t m a0 a1) := by
        intro m
        unfold f_X12_registry_j309
        refine r_aload_n 189 310 0 rfl rfl rfl rfl ?_
        refine r_getI 190 313 rfl rfl fl_RX12_237 rfl h0 ?_
        refine r_if_eq 191 322 316 rfl rfl rfl (fun h27 => ?_) (fun h27 => ?_)
        · refine r_iconst 196 323 (v := 0) rfl rfl (by decide) ?_
          refine r_istore_n 197 324 (L' := [(2, .inl 0), (0, .inr (.inr a0)), (1, .inl a1)]) rfl rfl rfl (by decide) rfl ?_
          have hj324 : ∀ (m : Mi) (a2 : Int32), Sm u_X12_registry (11, 0, 0, t.length, zs t) (kI t) 324 [(0, .inr (.inr a0)), (1, .inl a1), (2, .inl a2)] [] (t, m) (f_X12_registry_j324 t m a0 a1 a2) := by
            intro m a2
            unfold f_X12_registry_j324
            have hj382 : ∀ (m : Mi) (a3 : Int32), Sm u_X12_registry (11, 0, 0, t.length, zs t) (kI t) 382 [(0, .inr (.inr a0)), (3, .inl a3)] [] (t, m) (f_X12_registry_j382 t m a0 a3) := by
              intro m a3
              unfold f_X12_registry_j382
              refine r_aload_n 236 383 0 rfl rfl rfl rfl ?_
              refine r_aload_n 237 384 0 rfl rfl rfl rfl ?_
              refine r_getR 238 387 rfl rfl fl_RX12_82 rfl h0 ?_
              refine r_iload_n 239 388 1 rfl rfl rfl rfl ?_
              refine r_gd (fun h28 => ?_)
              refine r_iald 240 389 rfl rfl h28 ?_
              refine r_putI 241 392 rfl rfl fl_RX12_231 (fun h => by cases h) (Or.inl rfl) h0 ?_
              refine r_ltM (fun m29 => ?_)
              refine r_aload_n 242 393 0 rfl rfl rfl rfl ?_
              refine r_iconst 243 394 (v := 4) rfl rfl (by decide) ?_
              refine r_VI 244 397 (st := []) (av := [.inr (.inr a0), .inl 4]) (av' := [.inl 4]) (μ' := u_X12_fault) (d := 1) rfl rfl mc_X12_fault in_X12_fault lk_RX12_280 (Nat.le_of_ble_eq_true rfl) rfl rfl h0 rfl (Nat.le_of_ble_eq_true rfl) (fun _ _ h => ct_X12_fault h0 h) (fun x30 m31 => ?_)
              refine r_gd (fun h32 => ?_)
              exact r_zret 245 rfl rfl (zb_nar h32) rfl
            have hj404 : ∀ (m : Mi), Sm u_X12_registry (11, 0, 0, t.length, zs t) (kI t) 404 [] [] (t, m) (f_X12_registry_j404 t m) := by
              intro m
              unfold f_X12_registry_j404
              refine r_iconst 248 405 (v := 1) rfl rfl (by decide) ?_
              exact r_zret 249 rfl rfl (by decide) rfl
            refine r_lp (Lf := fun x : Int32 × Mi => [(0, .inr (.inr a0)), (1, .inl a1), (2, .inl (x.1))]) (Mf := fun x : Int32 × Mi => (t, x.2)) (a2, m) ?_ FUEL
            rintro ⟨a2, m⟩ κ324 hc324 he324
            refine r_eq (L' := [(0, .inr (.inr a0)), (1, .inl a1), (2, .inl a2)]) (M' := (t, m)) rfl rfl ?_
            refine r_eqr (r' := f_X12_registry_l324 t m a0 a1 a2) rfl ?_
            unfold f_X12_registry_l324
            refine r_iload_n 198 325 2 rfl rfl rfl rfl ?_
            refine r_aload_n 199 326 0 rfl rfl rfl rfl ?_
            refine r_getR 200 329 rfl rfl fl_RX12_49 rfl h0 ?_
            refine r_iload_n 201 330 1 rfl rfl rfl rfl ?_
            refine r_gd (fun h33 => ?_)
            refine r_iald 202 331 rfl rfl h33 ?_
            refine r_aload_n 203 332 0 rfl rfl rfl rfl ?_
            refine r_getR 204 335 rfl rfl fl_RX12_52 rfl h0 ?_
            refine r_iload_n 205 336 1 rfl rfl rfl rfl ?_
            refine r_gd (fun h34 => ?_)
            refine r_iald 206 337 rfl rfl h34 ?_
            refine r_iadd 207 338 rfl rfl ?_
            refine r_icmp_ge 208 404 341 rfl rfl rfl (fun h35 => ?_) (fun h35 => ?_)
            · refine r_leaf (r2 := (f_X12_registry_j404 t m : Option (Int32 × Mi))) (he324 _) ?_
              exact r_sub [] rfl (hj404 m)
            · refine r_sipush 209 344 (v := 250) rfl rfl (by decide) ?_
              refine r_iload_n 210 345 1 rfl rfl rfl rfl ?_
              refine r_imul 211 346 rfl rfl ?_
              refine r_iload_n 212 347 2 rfl rfl rfl rfl ?_
              refine r_iadd 213 348 rfl rfl ?_
              refine r_ltI (fun x36 => ?_)
              refine r_istore_n 214 349 (L' := [(3, .inl x36), (0, .inr (.inr a0)), (1, .inl a1), (2, .inl a2)]) rfl rfl rfl (by decide) rfl ?_
              refine r_aload_n 215 350 1 rfl rfl rfl rfl ?_
              refine r_getR 216 353 rfl rfl fl_RX12_88 rfl h0 ?_
              refine r_iload_n 217 354 0 rfl rfl rfl rfl ?_
              refine r_aload_n 218 355 1 rfl rfl rfl rfl ?_
              refine r_iload_n 219 356 2 rfl rfl rfl rfl ?_
              refine r_aload_n 220 357 1 rfl rfl rfl rfl ?_
              refine r_getR 221 360 rfl rfl fl_RX12_82 rfl h0 ?_
              refine r_iload_n 222 361 0 rfl rfl rfl rfl ?_
              refine r_gd (fun h37 => ?_)
              refine r_iald 223 362 rfl rfl h37 ?_
              refine r_aload_n 224 363 1 rfl rfl rfl rfl ?_
              refine r_getR 225 366 rfl rfl fl_RX12_85 rfl h0 ?_
              refine r_iload_n 226 367 0 rfl rfl rfl rfl ?_
              refine r_gd (fun h38 => ?_)
              refine r_iald 227 368 rfl rfl h38 ?_
              refine r_VIo 228 371 (st := [.inl x36, .inr (.inr (gr m a0 38))]) (av := [.inr (.inr a0), .inl a1, .inl (gi m (gr m a0 36) (ix x36)), .inl (gi m (gr m a0 37) (ix x36))]) (av' := [.inl a1, .inl (gi m (gr m a0 36) (ix x36)), .inl (gi m (gr m a0 37) (ix x36))]) (μ' := u_X12_packageCalled) (d := 2) rfl rfl mc_X12_packageCalled in_X12_packageCalled lk_RX12_319 (Nat.le_of_ble_eq_true rfl) rfl rfl h0 rfl (Nat.le_of_ble_eq_true rfl) (fun _ h => ct_X12_packageCalled h0 h) (fun x39 => ?_)
              refine r_gd (fun h40 => ?_)
              refine r_iast 229 372 rfl rfl h40 ?_
              refine r_ltM (fun m41 => ?_)
              refine r_aload_n 230 373 1 rfl rfl rfl rfl ?_
              refine r_getR 231 376 rfl rfl fl_RX12_88 rfl h0 ?_
              refine r_iload_n 232 377 0 rfl rfl rfl rfl ?_
              refine r_gd (fun h42 => ?_)
              refine r_iald 233 378 rfl rfl h42 ?_
              refine r_iconst 234 379 (v := (-1)) rfl rfl (by decide) ?_
              refine r_icmp_ne 235 398 382 rfl rfl rfl (fun h43 => ?_) (fun h43 => ?_)
              · refine r_leaf (r2 := (f_X12_registry_j382 t m41 a0 x36 : Option (Int32 × Mi))) (he324 _) ?_
                exact r_sub [1, 0] rfl (hj382 m41 x36)
              · refine r_iinc 246 401 3 (L' := [(2, .inl (a2 + 1)), (3, .inl x36), (0, .inr (.inr a0)), (1, .inl a1)]) rfl rfl rfl (by decide) rfl ?_
                refine r_ltV (fun x44 => ?_)
                refine r_goto 247 324 rfl rfl ?_
                exact r_sub [2, 3, 0] rfl (hc324 (x44, m41))
          exact r_sub [1, 2, 0] rfl (hj324 m 0)
        · refine r_aload_n 192 317 0 rfl rfl rfl rfl ?_
          refine r_iconst 193 318 (v := 1) rfl rfl (by decide) ?_
          refine r_VI 194 321 (st := []) (av := [.inr (.inr a0), .inl 1]) (av' := [.inl 1]) (μ' := u_X12_fault) (d := 1) rfl rfl mc_X12_fault in_X12_fault lk_RX12_280 (Nat.le_of_ble_eq_true rfl) rfl rfl h0 rfl (Nat.le_of_ble_eq_true rfl) (fun _ _ h => ct_X12_fault h0 h) (fun x45 m46 => ?_)
          refine r_gd (fun h47 => ?_)
          exact r_zret 195 rfl rfl (zb_nar h47) rfl
      refine r_lp (Lf := fun x : Mi => [(0, .inr (.inr a0)), (1, .inl a1)]) (Mf := fun x : Mi => (t, x)) m ?_ FUEL
      rintro m κ234 hc234 he234
      refine r_eq (L' := [(0, .inr (.inr a0)), (1, .inl a1)]) (M' := (t, m)) rfl rfl ?_
      refine r_eqr (r' := f_X12_registry_l234 t m a0 a1) rfl ?_
      unfold f_X12_registry_l234
      refine r_aload_n 146 235 0 rfl rfl rfl rfl ?_
      refine r_getI 147 238 rfl rfl fl_RX12_237 rfl h0 ?_
      refine r_bipush 148 240 (v := 9) rfl rfl (by decide) ?_
      refine r_icmp_ne 149 309 243 rfl rfl rfl (fun h48 => ?_) (fun h48 => ?_)
      · refine r_aload_n 150 244 0 rfl rfl rfl rfl ?_
        refine r_getR 151 247 rfl rfl fl_RX12_52 rfl h0 ?_
        refine r_iload_n 152 248 1 rfl rfl rfl rfl ?_
        refine r_gd (fun h49 => ?_)
        refine r_iald 153 249 rfl rfl h49 ?_
        refine r_bipush 154 251 (v := 10) rfl rfl (by decide) ?_
        refine r_icmp_ne 155 260 254 rfl rfl rfl (fun h50 => ?_) (fun h50 => ?_)
        · refine r_leaf (r2 := (f_X12_registry_j254 t m a0 : Option (Int32 × Mi))) (he234 _) ?_
          exact r_sub [0] rfl (hj254 m)
        · refine r_aload_n 160 261 0 rfl rfl rfl rfl ?_
          refine r_iload_n 161 262 1 rfl rfl rfl rfl ?_
          refine r_iconst 162 263 (v := (-1)) rfl rfl (by decide) ?_
          refine r_bipush 163 265 (v := 9) rfl rfl (by decide) ?_
          refine r_VI 164 268 (st := []) (av := [.inr (.inr a0), .inl a1, .inl (-1), .inl 9]) (av' := [.inl a1, .inl (-1), .inl 9]) (μ' := u_X12_constraint) (d := 9) rfl rfl mc_X12_constraint in_X12_constraint lk_RX12_315 (Nat.le_of_ble_eq_true rfl) rfl rfl h0 rfl (Nat.le_of_ble_eq_true rfl) (fun _ _ h => ct_X12_constraint h0 h) (fun x51 m52 => ?_)
          refine r_if_ne 165 273 271 rfl rfl rfl (fun h53 => ?_) (fun h53 => ?_)
          · refine r_leaf (r2 := (f_X12_registry_j271 t m52 : Option (Int32 × Mi))) (he234 _) ?_
            exact r_sub [] rfl (hj271 m52)
          · refine r_aload_n 168 274 0 rfl rfl rfl rfl ?_
            refine r_getR 169 277 rfl rfl fl_RX12_52 rfl h0 ?_
            refine r_iload_n 170 278 1 rfl rfl rfl rfl ?_
            refine r_aload_n 171 279 0 rfl rfl rfl rfl ?_
            refine r_getR 172 282 rfl rfl fl_RX12_52 rfl h0 ?_
            refine r_iload_n 173 283 1 rfl rfl rfl rfl ?_
            refine r_gd (fun h54 => ?_)
            refine r_iald 174 284 rfl rfl h54 ?_
            refine r_iconst 175 285 (v := 1) rfl rfl (by decide) ?_
            refine r_iadd 176 286 rfl rfl ?_
            refine r_iast 177 287 rfl rfl h54 ?_
            refine r_ltM (fun m55 => ?_)
            refine r_aload_n 178 288 0 rfl rfl rfl rfl ?_
            refine r_getI 179 291 rfl rfl fl_RX12_237 rfl h0 ?_
            refine r_bipush 180 293 (v := 6) rfl rfl (by decide) ?_
            refine r_icmp_eq 181 302 296 rfl rfl rfl (fun h56 => ?_) (fun h56 => ?_)
            · refine r_aload_n 186 303 0 rfl rfl rfl rfl ?_
              refine r_VV 187 306 (st := []) (av := [.inr (.inr a0)]) (av' := []) (μ' := u_X12_token) (d := 7) rfl rfl mc_X12_token in_X12_token lk_RX12_290 (Nat.le_of_ble_eq_true rfl) rfl rfl h0 rfl (Nat.le_of_ble_eq_true rfl) (fun _ h => ct_X12_token h0 h) (fun m57 => ?_)
              refine r_goto 188 234 rfl rfl ?_
              exact hc234 m57
            · refine r_leaf (r2 := (f_X12_registry_j296 t m55 a0 : Option (Int32 × Mi))) (he234 _) ?_
              exact r_sub [0] rfl (hj296 m55)
      · refine r_leaf (r2 := (f_X12_registry_j309 t m a0 a1 : Option (Int32 × Mi))) (he234 _) ?_
        exact hj309 m
    refine r_lp (Lf := fun x : Mi => [(0, .inr (.inr a0)), (1, .inl a1)]) (Mf := fun x : Mi => (t, x)) m ?_ FUEL
    rintro m κ28 hc28 he28
    refine r_eq (L' := [(0, .inr (.inr a0)), (1, .inl a1)]) (M' := (t, m)) rfl rfl ?_
    refine r_eqr (r' := f_X12_registry_l28 t m a0 a1) rfl ?_
    unfold f_X12_registry_l28
    refine r_aload_n 20 29 0 rfl rfl rfl rfl ?_
    refine r_getI 21 32 rfl rfl fl_RX12_237 rfl h0 ?_
    refine r_bipush 22 34 (v := 8) rfl rfl (by decide) ?_
    refine r_icmp_ne 23 234 37 rfl rfl rfl (fun h58 => ?_) (fun h58 => ?_)
    · refine r_aload_n 24 38 0 rfl rfl rfl rfl ?_
      refine r_getR 25 41 rfl rfl fl_RX12_43 rfl h0 ?_
      refine r_iload_n 26 42 1 rfl rfl rfl rfl ?_
      refine r_gd (fun h59 => ?_)
      refine r_iald 27 43 rfl rfl h59 ?_
      refine r_bipush 28 45 (v := 10) rfl rfl (by decide) ?_
      refine r_icmp_ne 29 54 48 rfl rfl rfl (fun h60 => ?_) (fun h60 => ?_)
      · refine r_leaf (r2 := (f_X12_registry_j48 t m a0 : Option (Int32 × Mi))) (he28 _) ?_
        exact r_sub [0] rfl (hj48 m)
      · refine r_aload_n 34 55 0 rfl rfl rfl rfl ?_
        refine r_VV 35 58 (st := []) (av := [.inr (.inr a0)]) (av' := []) (μ' := u_X12_token) (d := 7) rfl rfl mc_X12_token in_X12_token lk_RX12_290 (Nat.le_of_ble_eq_true rfl) rfl rfl h0 rfl (Nat.le_of_ble_eq_true rfl) (fun _ h => ct_X12_token h0 h) (fun m61 => ?_)
        refine r_aload_n 36 59 0 rfl rfl rfl rfl ?_
        refine r_getI 37 62 rfl rfl fl_RX12_237 rfl h0 ?_
        refine r_iconst 38 63 (v := 1) rfl rfl (by decide) ?_
        refine r_icmp_eq 39 72 66 rfl rfl rfl (fun h62 => ?_) (fun h62 => ?_)
        · refine r_aload_n 44 73 0 rfl rfl rfl rfl ?_
          refine r_iload_n 45 74 1 rfl rfl rfl rfl ?_
          refine r_aload_n 46 75 0 rfl rfl rfl rfl ?_
          refine r_getI 47 78 rfl rfl fl_RX12_231 rfl h0 ?_
          refine r_aload_n 48 79 0 rfl rfl rfl rfl ?_
          refine r_getI 49 82 rfl rfl fl_RX12_234 rfl h0 ?_
          refine r_aload_n 50 83 0 rfl rfl rfl rfl ?_
          refine r_getI 51 86 rfl rfl fl_RX12_231 rfl h0 ?_
          refine r_isub 52 87 rfl rfl ?_
          refine r_VIo 53 90 (st := []) (av := [.inr (.inr a0), .inl a1, .inl (gi m61 a0 15), .inl ((gi m61 a0 16) - (gi m61 a0 15))]) (av' := [.inl a1, .inl (gi m61 a0 15), .inl ((gi m61 a0 16) - (gi m61 a0 15))]) (μ' := u_X12_packageCalled) (d := 2) rfl rfl mc_X12_packageCalled in_X12_packageCalled lk_RX12_319 (Nat.le_of_ble_eq_true rfl) rfl rfl h0 rfl (Nat.le_of_ble_eq_true rfl) (fun _ h => ct_X12_packageCalled h0 h) (fun x63 => ?_)
          refine r_iconst 54 91 (v := (-1)) rfl rfl (by decide) ?_
          refine r_icmp_eq 55 100 94 rfl rfl rfl (fun h64 => ?_) (fun h64 => ?_)
          · refine r_aload_n 60 101 0 rfl rfl rfl rfl ?_
            refine r_getR 61 104 rfl rfl fl_RX12_43 rfl h0 ?_
            refine r_iload_n 62 105 1 rfl rfl rfl rfl ?_
            refine r_gd (fun h65 => ?_)
            refine r_iald 63 106 rfl rfl h65 ?_
            refine r_ltI (fun x66 => ?_)
            refine r_istore_n 64 107 (L' := [(2, .inl x66), (0, .inr (.inr a0)), (1, .inl a1)]) rfl rfl rfl (by decide) rfl ?_
            refine r_aload_n 65 108 1 rfl rfl rfl rfl ?_
            refine r_getR 66 111 rfl rfl fl_RX12_55 rfl h0 ?_
            refine r_bipush 67 113 (v := 10) rfl rfl (by decide) ?_
            refine r_iload_n 68 114 2 rfl rfl rfl rfl ?_
            refine r_imul 69 115 rfl rfl ?_
            refine r_iload_n 70 116 0 rfl rfl rfl rfl ?_
            refine r_iadd 71 117 rfl rfl ?_
            refine r_aload_n 72 118 1 rfl rfl rfl rfl ?_
            refine r_getI 73 121 rfl rfl fl_RX12_231 rfl h0 ?_
            refine r_gd (fun h67 => ?_)
            refine r_iast 74 122 rfl rfl h67 ?_
            refine r_ltM (fun m68 => ?_)
            refine r_aload_n 75 123 1 rfl rfl rfl rfl ?_
            refine r_getR 76 126 rfl rfl fl_RX12_58 rfl h0 ?_
            refine r_bipush 77 128 (v := 10) rfl rfl (by decide) ?_
            refine r_iload_n 78 129 2 rfl rfl rfl rfl ?_
            refine r_imul 79 130 rfl rfl ?_
            refine r_iload_n 80 131 0 rfl rfl rfl rfl ?_
            refine r_iadd 81 132 rfl rfl ?_
            refine r_aload_n 82 133 1 rfl rfl rfl rfl ?_
            refine r_getI 83 136 rfl rfl fl_RX12_234 rfl h0 ?_
            refine r_aload_n 84 137 1 rfl rfl rfl rfl ?_
            refine r_getI 85 140 rfl rfl fl_RX12_231 rfl h0 ?_
            refine r_isub 86 141 rfl rfl ?_
            refine r_gd (fun h69 => ?_)
            refine r_iast 87 142 rfl rfl h69 ?_
            refine r_ltM (fun m70 => ?_)
            refine r_aload_n 88 143 1 rfl rfl rfl rfl ?_
            refine r_getR 89 146 rfl rfl fl_RX12_61 rfl h0 ?_
            refine r_bipush 90 148 (v := 11) rfl rfl (by decide) ?_
            refine r_iload_n 91 149 2 rfl rfl rfl rfl ?_
            refine r_imul 92 150 rfl rfl ?_
            refine r_iload_n 93 151 0 rfl rfl rfl rfl ?_
            refine r_iadd 94 152 rfl rfl ?_
            refine r_aload_n 95 153 1 rfl rfl rfl rfl ?_
            refine r_getR 96 156 rfl rfl fl_RX12_46 rfl h0 ?_
            refine r_iload_n 97 157 2 rfl rfl rfl rfl ?_
            refine r_gd (fun h71 => ?_)
            refine r_iald 98 158 rfl rfl h71 ?_
            refine r_gd (fun h72 => ?_)
            refine r_iast 99 159 rfl rfl h72 ?_
            refine r_ltM (fun m73 => ?_)
            refine r_aload_n 100 160 1 rfl rfl rfl rfl ?_
            refine r_getR 101 163 rfl rfl fl_RX12_43 rfl h0 ?_
            refine r_iload_n 102 164 2 rfl rfl rfl rfl ?_
            refine r_iload_n 103 165 0 rfl rfl rfl rfl ?_
            refine r_iconst 104 166 (v := 1) rfl rfl (by decide) ?_
            refine r_iadd 105 167 rfl rfl ?_
            refine r_gd (fun h74 => ?_)
            refine r_iast 106 168 rfl rfl h74 ?_
            refine r_ltM (fun m75 => ?_)
            refine r_aload_n 107 169 1 rfl rfl rfl rfl ?_
            refine r_VV 108 172 (st := []) (av := [.inr (.inr a0)]) (av' := []) (μ' := u_X12_token) (d := 7) rfl rfl mc_X12_token in_X12_token lk_RX12_290 (Nat.le_of_ble_eq_true rfl) rfl rfl h0 rfl (Nat.le_of_ble_eq_true rfl) (fun _ h => ct_X12_token h0 h) (fun m76 => ?_)
            refine r_aload_n 109 173 1 rfl rfl rfl rfl ?_
            refine r_getI 110 176 rfl rfl fl_RX12_237 rfl h0 ?_
            refine r_iconst 111 177 (v := 4) rfl rfl (by decide) ?_
            refine r_icmp_eq 112 186 180 rfl rfl rfl (fun h77 => ?_) (fun h77 => ?_)
            · refine r_aload_n 117 187 1 rfl rfl rfl rfl ?_
              refine r_VV 118 190 (st := []) (av := [.inr (.inr a0)]) (av' := []) (μ' := u_X12_token) (d := 7) rfl rfl mc_X12_token in_X12_token lk_RX12_290 (Nat.le_of_ble_eq_true rfl) rfl rfl h0 rfl (Nat.le_of_ble_eq_true rfl) (fun _ h => ct_X12_token h0 h) (fun m78 => ?_)
              have hj190 : ∀ (m : Mi) (a2 : Int32), Sm u_X12_registry (11, 0, 0, t.length, zs t) κ28 190 [(0, .inr (.inr a0)), (1, .inl a1), (2, .inl a2)] [] (t, m) (f_X12_registry_j190 t m a0 a1 a2) := by
                intro m a2
                unfold f_X12_registry_j190
                have hj208 : ∀ (m : Mi) (a2 : Int32), Sm u_X12_registry (11, 0, 0, t.length, zs t) κ28 208 [(0, .inr (.inr a0)), (1, .inl a1), (2, .inl a2)] [] (t, m) (f_X12_registry_j208 t m a0 a1 a2) := by
                  intro m a2
                  unfold f_X12_registry_j208
                  refine r_aload_n 129 209 0 rfl rfl rfl rfl ?_
                  refine r_getR 130 212 rfl rfl fl_RX12_61 rfl h0 ?_
                  refine r_bipush 131 214 (v := 11) rfl rfl (by decide) ?_
                  refine r_iload_n 132 215 1 rfl rfl rfl rfl ?_
                  refine r_imul 133 216 rfl rfl ?_
                  refine r_iload_n 134 217 2 rfl rfl rfl rfl ?_
                  refine r_iadd 135 218 rfl rfl ?_
                  refine r_iconst 136 219 (v := 1) rfl rfl (by decide) ?_
                  refine r_iadd 137 220 rfl rfl ?_
                  refine r_aload_n 138 221 0 rfl rfl rfl rfl ?_
                  refine r_getR 139 224 rfl rfl fl_RX12_46 rfl h0 ?_
                  refine r_iload_n 140 225 1 rfl rfl rfl rfl ?_
                  refine r_gd (fun h79 => ?_)
                  refine r_iald 141 226 rfl rfl h79 ?_
                  refine r_gd (fun h80 => ?_)
                  refine r_iast 142 227 rfl rfl h80 ?_
                  refine r_ltM (fun m81 => ?_)
                  refine r_aload_n 143 228 0 rfl rfl rfl rfl ?_
                  refine r_VV 144 231 (st := []) (av := [.inr (.inr a0)]) (av' := []) (μ' := u_X12_token) (d := 7) rfl rfl mc_X12_token in_X12_token lk_RX12_290 (Nat.le_of_ble_eq_true rfl) rfl rfl h0 rfl (Nat.le_of_ble_eq_true rfl) (fun _ h => ct_X12_token h0 h) (fun m82 => ?_)
                  refine r_goto 145 28 rfl rfl ?_
                  exact r_sub [0, 1] rfl (hc28 m82)
                refine r_lp (Lf := fun x : Mi => [(0, .inr (.inr a0)), (1, .inl a1), (2, .inl a2)]) (Mf := fun x : Mi => (t, x)) m ?_ FUEL
                rintro m κ190 hc190 he190
                refine r_eq (L' := [(0, .inr (.inr a0)), (1, .inl a1), (2, .inl a2)]) (M' := (t, m)) rfl rfl ?_
                refine r_eqr (r' := f_X12_registry_l190 t m a0 a1 a2) rfl ?_
                unfold f_X12_registry_l190
                refine r_aload_n 119 191 0 rfl rfl rfl rfl ?_
                refine r_getI 120 194 rfl rfl fl_RX12_237 rfl h0 ?_
                refine r_iconst 121 195 (v := 5) rfl rfl (by decide) ?_
                refine r_icmp_eq 122 208 198 rfl rfl rfl (fun h83 => ?_) (fun h83 => ?_)
                · refine r_leaf (r2 := (f_X12_registry_j208 t m a0 a1 a2 : Option ((Mi) ⊕ (((Mi) ⊕ ((Mi) ⊕ ((Mi) ⊕ ((Mi) ⊕ ((Mi) ⊕ (Mi)))))))))) (he190 _) ?_
                  exact hj208 m a2
                · refine r_aload_n 123 199 0 rfl rfl rfl rfl ?_
                  refine r_iload_n 124 200 1 rfl rfl rfl rfl ?_
                  refine r_VI 125 203 (st := []) (av := [.inr (.inr a0), .inl a1]) (av' := [.inl a1]) (μ' := u_X12_release) (d := 10) rfl rfl mc_X12_release in_X12_release lk_RX12_323 (Nat.le_of_ble_eq_true rfl) rfl rfl h0 rfl (Nat.le_of_ble_eq_true rfl) (fun _ _ h => ct_X12_release h0 h) (fun x84 m85 => ?_)
                  refine r_if_ne 126 190 206 rfl rfl rfl (fun h86 => ?_) (fun h86 => ?_)
                  · refine r_leaf (r2 := (some (.inr (.inr (.inr (.inr (.inr (.inr m85)))))) : Option ((Mi) ⊕ (((Mi) ⊕ ((Mi) ⊕ ((Mi) ⊕ ((Mi) ⊕ ((Mi) ⊕ (Mi)))))))))) (he190 _) ?_
                    refine r_leaf (r2 := (f_X12_registry_j206 t m85 : Option (Int32 × Mi))) (he28 _) ?_
                    exact r_sub [] rfl (hj206 m85)
                  · exact hc190 m85
              exact r_sub [1, 2, 0] rfl (hj190 m78 x66)
            · refine r_leaf (r2 := (f_X12_registry_j180 t m76 a0 : Option (Int32 × Mi))) (he28 _) ?_
              exact r_sub [1] rfl (hj180 m76)
          · refine r_leaf (r2 := (f_X12_registry_j94 t m61 a0 : Option (Int32 × Mi))) (he28 _) ?_
            exact r_sub [0] rfl (hj94 m61)
        · refine r_leaf (r2 := (f_X12_registry_j66 t m61 a0 : Option (Int32 × Mi))) (he28 _) ?_
          exact r_sub [0] rfl (hj66 m61)
    · refine r_leaf (r2 := (f_X12_registry_j234 t m a0 a1 : Option (Int32 × Mi))) (he28 _) ?_
      exact hj234 m
  exact hj28 m8
theorem ct_X12_registry {t : List Sh} {m : Mi} {a0 : Nat} {a1 : Int32} {m' : Mi} {v : Int32}  (h0 : sh t a0 = some (.inl 12)) (h : f_X12_registry t m a0 a1 = some (v, m')) : Ct u_X12_registry 11 0 0 [.inr (.inr a0), .inl a1] (t, m) (some (.inl v), (t, m')) :=
  ct_of (by decide) tk_X12_registry (Nat.le_of_ble_eq_true rfl) (sm_X12_registry t m a0 a1 h0) (by rw [h]; rfl) (Nat.le_refl _) (Nat.le_refl _)
theorem lk_RX12_329 : Cond.methodLink RX12 329 yX12_registry ∈ TB := tbm 1644 (by decide +kernel) rfl
theorem lk_RX12_349 : Cond.methodLink RX12 349 yX12_tables ∈ TB := tbm 1672 (by decide +kernel) rfl
def tb_X12_read : Tb := [(0, (.aload_n 0, 1)), (1, (.iload_n 1, 1)), (2, (.invokevirtual 293, 3)), (5, (.ifCond .ne 5, 3)), (8, (.iconst (-1), 1)), (9, (.ireturn, 1)), (10, (.aload_n 0, 1)), (11, (.invokevirtual 296, 3)), (14, (.iconst 1, 1)), (15, (.aload_n 0, 1)), (16, (.getfield 326, 3)), (19, (.isub, 1)), (20, (.istore_n 2, 1)), (21, (.aload_n 0, 1)), (22, (.iload_n 2, 1)), (23, (.invokevirtual 329, 3)), (26, (.ifCond .ne 16, 3)), (29, (.aload_n 0, 1)), (30, (.getfield 274, 3)), (33, (.bipush 8, 2)), (35, (.aload_n 0, 1)), (36, (.getfield 277, 3)), (39, (.imul, 1)), (40, (.iadd, 1)), (41, (.ireturn, 1)), (42, (.aload_n 0, 1)), (43, (.iload_n 2, 1)), (44, (.putfield 326, 3)), (47, (.iconst 0, 1)), (48, (.istore_n 3, 1)), (49, (.iload_n 3, 1)), (50, (.aload_n 0, 1)), (51, (.getfield 156, 3)), (54, (.if_icmp .ge 27, 3)), (57, (.aload_n 0, 1)), (58, (.getfield 40, 3)), (61, (.sipush 2000, 3)), (64, (.iload_n 2, 1)), (65, (.imul, 1)), (66, (.iload_n 3, 1)), (67, (.iadd, 1)), (68, (.aload_n 0, 1)), (69, (.getfield 13, 3)), (72, (.iload_n 3, 1)), (73, (.baload, 1)), (74, (.bastore, 1)), (75, (.iinc 3 1, 3)), (78, (.goto (-29), 3)), (81, (.sipush 288, 3)), (84, (.istore_n 3, 1)), (85, (.iconst 0, 1)), (86, (.istore 4, 2)), (88, (.iload 4, 2)), (90, (.aload_n 0, 1)), (91, (.invokevirtual 332, 3)), (94, (.if_icmp .ge 62, 3)), (97, (.aload_n 0, 1)), (98, (.getfield 20, 3)), (101, (.iload 4, 2)), (103, (.aload_n 0, 1)), (104, (.getfield 91, 3)), (107, (.iload 4, 2)), (109, (.iaload, 1)), (110, (.iastore, 1)), (111, (.iconst 0, 1)), (112, (.istore 5, 2)), (114, (.iload 5, 2)), (116, (.iload_n 3, 1)), (117, (.if_icmp .ge 33, 3)), (120, (.aload_n 0, 1)), (121, (.getfield 25, 3)), (124, (.iload 4, 2)), (126, (.iload_n 3, 1)), (127, (.imul, 1)), (128, (.iload 5, 2)), (130, (.iadd, 1)), (131, (.aload_n 0, 1)), (132, (.getfield 95, 3)), (135, (.iload 4, 2)), (137, (.iload_n 3, 1)), (138, (.imul, 1)), (139, (.iload 5, 2)), (141, (.iadd, 1)), (142, (.laload, 1)), (143, (.lastore, 1)), (144, (.iinc 5 1, 3)), (147, (.goto (-33), 3)), (150, (.iinc 4 1, 3)), (153, (.goto (-65), 3)), (156, (.aload_n 0, 1)), (157, (.iconst 0, 1)), (158, (.putfield 336, 3)), (161, (.aload_n 0, 1)), (162, (.iconst 0, 1)), (163, (.putfield 339, 3)), (166, (.aload_n 0, 1)), (167, (.iconst 0, 1)), (168, (.putfield 343, 3)), (171, (.aload_n 0, 1)), (172, (.iconst 0, 1)), (173, (.putfield 346, 3)), (176, (.aload_n 0, 1)), (177, (.invokevirtual 349, 3)), (180, (.iconst 0, 1)), (181, (.ireturn, 1))]
def u_X12_read : Fx := (yX12_read, (cX12_read, (6, ((some .int), tb_X12_read))))
theorem tk_X12_read : ∀ q ∈ u_X12_read.2.2.2.2, decode u_X12_read.2.1 q.1 = .ok q.2 := by decide +kernel
theorem mc_X12_read : MC u_X12_read 1 := ⟨tbm 1643 (by decide +kernel) rfl, tbm 128 (by decide +kernel) rfl, ⟨by decide, by decide, by decide +kernel⟩, by decide⟩
theorem in_X12_read : Cond.instanceMethod u_X12_read.1 ∈ TB ∧ Cond.selects u_X12_read.1.cls u_X12_read.1 u_X12_read.1 ∈ TB := ⟨tbm 1641 (by decide +kernel) rfl, tbm 1642 (by decide +kernel) rfl⟩
def f_X12_read_j156 (t : List Sh) (m : Mi) (a0 : Nat) : Option (Int32 × Mi) :=
  lt (si m a0 49 0) fun m10 =>
  lt (si m10 a0 52 0) fun m11 =>
  lt (si m11 a0 50 0) fun m12 =>
  lt (si m12 a0 51 0) fun m13 =>
  (f_X12_tables t m13 a0).bind fun m14 =>
  some (0, m14)
def f_X12_read_j150 (t : List Sh) (m : Mi) (a0 : Nat) (a3 : Int32) (a4 : Int32) : Option ((Int32 × Mi) ⊕ ((Mi))) :=
  lt (a4 + 1) fun x20 =>
  some (.inl (x20, m))
def f_X12_read_l114 (t : List Sh) (m : Mi) (a0 : Nat) (a3 : Int32) (a4 : Int32) (a5 : Int32) : Option ((Int32 × Mi) ⊕ ((Mi))) :=
  if a3 ≤ a5 then
    some (.inr m)
  else
    (if ar t (gr m a0 40) .long ((a4 * a3) + a5) = true then
    (if ar t (gr m a0 8) .long ((a4 * a3) + a5) = true then
    lt (sl m (gr m a0 8) (ix ((a4 * a3) + a5)) (gl m (gr m a0 40) (ix ((a4 * a3) + a5)))) fun m24 =>
    lt (a5 + 1) fun x25 =>
    some (.inl (x25, m24))
    else none)
    else none)
def f_X12_read_j114 (t : List Sh) (m : Mi) (a0 : Nat) (a3 : Int32) (a4 : Int32) (a5 : Int32) : Option ((Int32 × Mi) ⊕ ((Mi))) :=
  (lp (fun x : Int32 × Mi => f_X12_read_l114 t x.2 a0 a3 a4 x.1) FUEL (a5, m)).bind (fun y : Mi => f_X12_read_j150 t y a0 a3 a4)
def f_X12_read_l88 (t : List Sh) (m : Mi) (a0 : Nat) (a3 : Int32) (a4 : Int32) : Option ((Int32 × Mi) ⊕ ((Mi))) :=
  (f_X12_constraints t m a0).bind fun x15 =>
  if x15 ≤ a4 then
    some (.inr m)
  else
    (if ar t (gr m a0 39) .int a4 = true then
    (if ar t (gr m a0 7) .int a4 = true then
    lt (si m (gr m a0 7) (ix a4) (gi m (gr m a0 39) (ix a4))) fun m19 =>
    f_X12_read_j114 t m19 a0 a3 a4 0
    else none)
    else none)
def f_X12_read_j88 (t : List Sh) (m : Mi) (a0 : Nat) (a3 : Int32) (a4 : Int32) : Option (Int32 × Mi) :=
  (lp (fun x : Int32 × Mi => f_X12_read_l88 t x.2 a0 a3 x.1) FUEL (a4, m)).bind (fun y : Mi => f_X12_read_j156 t y a0)
def f_X12_read_j81 (t : List Sh) (m : Mi) (a0 : Nat) : Option (Int32 × Mi) :=
  f_X12_read_j88 t m a0 288 0
def f_X12_read_l49 (t : List Sh) (m : Mi) (a0 : Nat) (a2 : Int32) (a3 : Int32) : Option ((Int32 × Mi) ⊕ ((Mi))) :=
  if (gi m a0 3) ≤ a3 then
    some (.inr m)
  else
    (if ar t (gr m a0 2) .byte a3 = true then
    (if ar t (gr m a0 22) .byte ((2000 * a2) + a3) = true then
    lt (si m (gr m a0 22) (ix ((2000 * a2) + a3)) (vp_nar .byte (gi m (gr m a0 2) (ix a3)))) fun m29 =>
    lt (a3 + 1) fun x30 =>
    some (.inl (x30, m29))
    else none)
    else none)
def f_X12_read_j49 (t : List Sh) (m : Mi) (a0 : Nat) (a2 : Int32) (a3 : Int32) : Option (Int32 × Mi) :=
  (lp (fun x : Int32 × Mi => f_X12_read_l49 t x.2 a0 a2 x.1) FUEL (a3, m)).bind (fun y : Mi => f_X12_read_j81 t y a0)
def f_X12_read (t : List Sh) (m : Mi) (a0 : Nat) (a1 : Int32) : Option (Int32 × Mi) :=
  bd (f_X12_takes t m a0 a1) fun x1 m2 =>
  if x1 = 0 then
    some ((-1), m2)
  else
    (f_X12_starts t m2 a0).bind fun m4 =>
    lt (1 - (gi m4 a0 21)) fun x5 =>
    bd (f_X12_registry t m4 a0 x5) fun x6 m7 =>
    if x6 = 0 then
      some ((gi m7 a0 19) + (8 * (gi m7 a0 20)), m7)
    else
      lt (si m7 a0 21 x5) fun m9 =>
      f_X12_read_j49 t m9 a0 x5 0
set_option maxRecDepth 4000 in
set_option maxHeartbeats 4000000 in
theorem sm_X12_read (t : List Sh) (m : Mi) (a0 : Nat) (a1 : Int32) (h0 : sh t a0 = some (.inl 12)) : Sm u_X12_read (12, 0, 0, t.length, zs t) (kI t) 0 [(0, .inr (.inr a0)), (1, .inl a1)] [] (t, m) (f_X12_read t m a0 a1) := by
  unfold f_X12_read
  refine r_aload_n 0 1 0 rfl rfl rfl rfl ?_
  refine r_iload_n 1 2 1 rfl rfl rfl rfl ?_
  refine r_VI 2 5 (st := []) (av := [.inr (.inr a0), .inl a1]) (av' := [.inl a1]) (μ' := u_X12_takes) (d := 1) rfl rfl mc_X12_takes in_X12_takes lk_RX12_293 (Nat.le_of_ble_eq_true rfl) rfl rfl h0 rfl (Nat.le_of_ble_eq_true rfl) (fun _ _ h => ct_X12_takes h0 h) (fun x1 m2 => ?_)
  refine r_if_ne 3 10 8 rfl rfl rfl (fun h3 => ?_) (fun h3 => ?_)
  · refine r_iconst 4 9 (v := (-1)) rfl rfl (by decide) ?_
    exact r_iret 5 rfl rfl rfl
  · refine r_aload_n 6 11 0 rfl rfl rfl rfl ?_
    refine r_VV 7 14 (st := []) (av := [.inr (.inr a0)]) (av' := []) (μ' := u_X12_starts) (d := 8) rfl rfl mc_X12_starts in_X12_starts lk_RX12_296 (Nat.le_of_ble_eq_true rfl) rfl rfl h0 rfl (Nat.le_of_ble_eq_true rfl) (fun _ h => ct_X12_starts h0 h) (fun m4 => ?_)
    refine r_iconst 8 15 (v := 1) rfl rfl (by decide) ?_
    refine r_aload_n 9 16 0 rfl rfl rfl rfl ?_
    refine r_getI 10 19 rfl rfl fl_RX12_326 rfl h0 ?_
    refine r_isub 11 20 rfl rfl ?_
    refine r_ltI (fun x5 => ?_)
    refine r_istore_n 12 21 (L' := [(2, .inl x5), (0, .inr (.inr a0)), (1, .inl a1)]) rfl rfl rfl (by decide) rfl ?_
    refine r_aload_n 13 22 1 rfl rfl rfl rfl ?_
    refine r_iload_n 14 23 0 rfl rfl rfl rfl ?_
    refine r_VI 15 26 (st := []) (av := [.inr (.inr a0), .inl x5]) (av' := [.inl x5]) (μ' := u_X12_registry) (d := 11) rfl rfl mc_X12_registry in_X12_registry lk_RX12_329 (Nat.le_of_ble_eq_true rfl) rfl rfl h0 rfl (Nat.le_of_ble_eq_true rfl) (fun _ _ h => ct_X12_registry h0 h) (fun x6 m7 => ?_)
    refine r_if_ne 16 42 29 rfl rfl rfl (fun h8 => ?_) (fun h8 => ?_)
    · refine r_aload_n 17 30 1 rfl rfl rfl rfl ?_
      refine r_getI 18 33 rfl rfl fl_RX12_274 rfl h0 ?_
      refine r_bipush 19 35 (v := 8) rfl rfl (by decide) ?_
      refine r_aload_n 20 36 1 rfl rfl rfl rfl ?_
      refine r_getI 21 39 rfl rfl fl_RX12_277 rfl h0 ?_
      refine r_imul 22 40 rfl rfl ?_
      refine r_iadd 23 41 rfl rfl ?_
      exact r_iret 24 rfl rfl rfl
    · refine r_aload_n 25 43 1 rfl rfl rfl rfl ?_
      refine r_iload_n 26 44 0 rfl rfl rfl rfl ?_
      refine r_putI 27 47 rfl rfl fl_RX12_326 (fun h => by cases h) (Or.inl rfl) h0 ?_
      refine r_ltM (fun m9 => ?_)
      refine r_iconst 28 48 (v := 0) rfl rfl (by decide) ?_
      refine r_istore_n 29 49 (L' := [(3, .inl 0), (2, .inl x5), (0, .inr (.inr a0)), (1, .inl a1)]) rfl rfl rfl (by decide) rfl ?_
      have hj49 : ∀ (m : Mi) (a2 : Int32) (a3 : Int32), Sm u_X12_read (12, 0, 0, t.length, zs t) (kI t) 49 [(0, .inr (.inr a0)), (2, .inl a2), (3, .inl a3)] [] (t, m) (f_X12_read_j49 t m a0 a2 a3) := by
        intro m a2 a3
        unfold f_X12_read_j49
        have hj81 : ∀ (m : Mi), Sm u_X12_read (12, 0, 0, t.length, zs t) (kI t) 81 [(0, .inr (.inr a0))] [] (t, m) (f_X12_read_j81 t m a0) := by
          intro m
          unfold f_X12_read_j81
          refine r_sipush 48 84 (v := 288) rfl rfl (by decide) ?_
          refine r_istore_n 49 85 (L' := [(3, .inl 288), (0, .inr (.inr a0))]) rfl rfl rfl (by decide) rfl ?_
          refine r_iconst 50 86 (v := 0) rfl rfl (by decide) ?_
          refine r_istore 51 88 (L' := [(4, .inl 0), (3, .inl 288), (0, .inr (.inr a0))]) rfl rfl (by decide) rfl ?_
          have hj88 : ∀ (m : Mi) (a3 : Int32) (a4 : Int32), Sm u_X12_read (12, 0, 0, t.length, zs t) (kI t) 88 [(0, .inr (.inr a0)), (3, .inl a3), (4, .inl a4)] [] (t, m) (f_X12_read_j88 t m a0 a3 a4) := by
            intro m a3 a4
            unfold f_X12_read_j88
            have hj156 : ∀ (m : Mi), Sm u_X12_read (12, 0, 0, t.length, zs t) (kI t) 156 [(0, .inr (.inr a0))] [] (t, m) (f_X12_read_j156 t m a0) := by
              intro m
              unfold f_X12_read_j156
              refine r_aload_n 89 157 0 rfl rfl rfl rfl ?_
              refine r_iconst 90 158 (v := 0) rfl rfl (by decide) ?_
              refine r_putI 91 161 rfl rfl fl_RX12_336 (fun h => by cases h) (Or.inl rfl) h0 ?_
              refine r_ltM (fun m10 => ?_)
              refine r_aload_n 92 162 0 rfl rfl rfl rfl ?_
              refine r_iconst 93 163 (v := 0) rfl rfl (by decide) ?_
              refine r_putI 94 166 rfl rfl fl_RX12_339 (fun h => by cases h) (Or.inr ⟨rfl, by decide⟩) h0 ?_
              refine r_ltM (fun m11 => ?_)
              refine r_aload_n 95 167 0 rfl rfl rfl rfl ?_
              refine r_iconst 96 168 (v := 0) rfl rfl (by decide) ?_
              refine r_putI 97 171 rfl rfl fl_RX12_343 (fun h => by cases h) (Or.inl rfl) h0 ?_
              refine r_ltM (fun m12 => ?_)
              refine r_aload_n 98 172 0 rfl rfl rfl rfl ?_
              refine r_iconst 99 173 (v := 0) rfl rfl (by decide) ?_
              refine r_putI 100 176 rfl rfl fl_RX12_346 (fun h => by cases h) (Or.inl rfl) h0 ?_
              refine r_ltM (fun m13 => ?_)
              refine r_aload_n 101 177 0 rfl rfl rfl rfl ?_
              refine r_VV 102 180 (st := []) (av := [.inr (.inr a0)]) (av' := []) (μ' := u_X12_tables) (d := 4) rfl rfl mc_X12_tables in_X12_tables lk_RX12_349 (Nat.le_of_ble_eq_true rfl) rfl rfl h0 rfl (Nat.le_of_ble_eq_true rfl) (fun _ h => ct_X12_tables h0 h) (fun m14 => ?_)
              refine r_iconst 103 181 (v := 0) rfl rfl (by decide) ?_
              exact r_iret 104 rfl rfl rfl
            refine r_lp (Lf := fun x : Int32 × Mi => [(0, .inr (.inr a0)), (3, .inl a3), (4, .inl (x.1))]) (Mf := fun x : Int32 × Mi => (t, x.2)) (a4, m) ?_ FUEL
            rintro ⟨a4, m⟩ κ88 hc88 he88
            refine r_eq (L' := [(0, .inr (.inr a0)), (3, .inl a3), (4, .inl a4)]) (M' := (t, m)) rfl rfl ?_
            refine r_eqr (r' := f_X12_read_l88 t m a0 a3 a4) rfl ?_
            unfold f_X12_read_l88
            refine r_iload 52 90 2 rfl rfl rfl ?_
            refine r_aload_n 53 91 0 rfl rfl rfl rfl ?_
            refine r_VIo 54 94 (st := [.inl a4]) (av := [.inr (.inr a0)]) (av' := []) (μ' := u_X12_constraints) (d := 1) rfl rfl mc_X12_constraints in_X12_constraints lk_RX12_332 (Nat.le_of_ble_eq_true rfl) rfl rfl h0 rfl (Nat.le_of_ble_eq_true rfl) (fun _ h => ct_X12_constraints h0 h) (fun x15 => ?_)
            refine r_icmp_ge 55 156 97 rfl rfl rfl (fun h16 => ?_) (fun h16 => ?_)
            · refine r_leaf (r2 := (f_X12_read_j156 t m a0 : Option (Int32 × Mi))) (he88 _) ?_
              exact r_sub [0] rfl (hj156 m)
            · refine r_aload_n 56 98 0 rfl rfl rfl rfl ?_
              refine r_getR 57 101 rfl rfl fl_RX12_20 rfl h0 ?_
              refine r_iload 58 103 2 rfl rfl rfl ?_
              refine r_aload_n 59 104 0 rfl rfl rfl rfl ?_
              refine r_getR 60 107 rfl rfl fl_RX12_91 rfl h0 ?_
              refine r_iload 61 109 2 rfl rfl rfl ?_
              refine r_gd (fun h17 => ?_)
              refine r_iald 62 110 rfl rfl h17 ?_
              refine r_gd (fun h18 => ?_)
              refine r_iast 63 111 rfl rfl h18 ?_
              refine r_ltM (fun m19 => ?_)
              refine r_iconst 64 112 (v := 0) rfl rfl (by decide) ?_
              refine r_istore 65 114 (L' := [(5, .inl 0), (0, .inr (.inr a0)), (3, .inl a3), (4, .inl a4)]) rfl rfl (by decide) rfl ?_
              have hj114 : ∀ (m : Mi) (a4 : Int32) (a5 : Int32), Sm u_X12_read (12, 0, 0, t.length, zs t) κ88 114 [(0, .inr (.inr a0)), (3, .inl a3), (4, .inl a4), (5, .inl a5)] [] (t, m) (f_X12_read_j114 t m a0 a3 a4 a5) := by
                intro m a4 a5
                unfold f_X12_read_j114
                have hj150 : ∀ (m : Mi) (a4 : Int32), Sm u_X12_read (12, 0, 0, t.length, zs t) κ88 150 [(0, .inr (.inr a0)), (3, .inl a3), (4, .inl a4)] [] (t, m) (f_X12_read_j150 t m a0 a3 a4) := by
                  intro m a4
                  unfold f_X12_read_j150
                  refine r_iinc 87 153 2 (L' := [(4, .inl (a4 + 1)), (0, .inr (.inr a0)), (3, .inl a3)]) rfl rfl rfl (by decide) rfl ?_
                  refine r_ltV (fun x20 => ?_)
                  refine r_goto 88 88 rfl rfl ?_
                  exact r_sub [1, 2, 0] rfl (hc88 (x20, m))
                refine r_lp (Lf := fun x : Int32 × Mi => [(0, .inr (.inr a0)), (3, .inl a3), (4, .inl a4), (5, .inl (x.1))]) (Mf := fun x : Int32 × Mi => (t, x.2)) (a5, m) ?_ FUEL
                rintro ⟨a5, m⟩ κ114 hc114 he114
                refine r_eq (L' := [(0, .inr (.inr a0)), (3, .inl a3), (4, .inl a4), (5, .inl a5)]) (M' := (t, m)) rfl rfl ?_
                refine r_eqr (r' := f_X12_read_l114 t m a0 a3 a4 a5) rfl ?_
                unfold f_X12_read_l114
                refine r_iload 66 116 3 rfl rfl rfl ?_
                refine r_iload_n 67 117 1 rfl rfl rfl rfl ?_
                refine r_icmp_ge 68 150 120 rfl rfl rfl (fun h21 => ?_) (fun h21 => ?_)
                · refine r_leaf (r2 := (f_X12_read_j150 t m a0 a3 a4 : Option ((Int32 × Mi) ⊕ ((Mi))))) (he114 _) ?_
                  exact r_sub [0, 1, 2] rfl (hj150 m a4)
                · refine r_aload_n 69 121 0 rfl rfl rfl rfl ?_
                  refine r_getR 70 124 rfl rfl fl_RX12_25 rfl h0 ?_
                  refine r_iload 71 126 2 rfl rfl rfl ?_
                  refine r_iload_n 72 127 1 rfl rfl rfl rfl ?_
                  refine r_imul 73 128 rfl rfl ?_
                  refine r_iload 74 130 3 rfl rfl rfl ?_
                  refine r_iadd 75 131 rfl rfl ?_
                  refine r_aload_n 76 132 0 rfl rfl rfl rfl ?_
                  refine r_getR 77 135 rfl rfl fl_RX12_95 rfl h0 ?_
                  refine r_iload 78 137 2 rfl rfl rfl ?_
                  refine r_iload_n 79 138 1 rfl rfl rfl rfl ?_
                  refine r_imul 80 139 rfl rfl ?_
                  refine r_iload 81 141 3 rfl rfl rfl ?_
                  refine r_iadd 82 142 rfl rfl ?_
                  refine r_gd (fun h22 => ?_)
                  refine r_lald 83 143 rfl rfl h22 ?_
                  refine r_gd (fun h23 => ?_)
                  refine r_last 84 144 rfl rfl h23 ?_
                  refine r_ltM (fun m24 => ?_)
                  refine r_iinc 85 147 3 (L' := [(5, .inl (a5 + 1)), (0, .inr (.inr a0)), (3, .inl a3), (4, .inl a4)]) rfl rfl rfl (by decide) rfl ?_
                  refine r_ltV (fun x25 => ?_)
                  refine r_goto 86 114 rfl rfl ?_
                  exact r_sub [1, 2, 3, 0] rfl (hc114 (x25, m24))
              exact r_sub [1, 2, 3, 0] rfl (hj114 m19 a4 0)
          exact r_sub [2, 1, 0] rfl (hj88 m 288 0)
        refine r_lp (Lf := fun x : Int32 × Mi => [(0, .inr (.inr a0)), (2, .inl a2), (3, .inl (x.1))]) (Mf := fun x : Int32 × Mi => (t, x.2)) (a3, m) ?_ FUEL
        rintro ⟨a3, m⟩ κ49 hc49 he49
        refine r_eq (L' := [(0, .inr (.inr a0)), (2, .inl a2), (3, .inl a3)]) (M' := (t, m)) rfl rfl ?_
        refine r_eqr (r' := f_X12_read_l49 t m a0 a2 a3) rfl ?_
        unfold f_X12_read_l49
        refine r_iload_n 30 50 2 rfl rfl rfl rfl ?_
        refine r_aload_n 31 51 0 rfl rfl rfl rfl ?_
        refine r_getI 32 54 rfl rfl fl_RX12_156 rfl h0 ?_
        refine r_icmp_ge 33 81 57 rfl rfl rfl (fun h26 => ?_) (fun h26 => ?_)
        · refine r_leaf (r2 := (f_X12_read_j81 t m a0 : Option (Int32 × Mi))) (he49 _) ?_
          exact r_sub [0] rfl (hj81 m)
        · refine r_aload_n 34 58 0 rfl rfl rfl rfl ?_
          refine r_getR 35 61 rfl rfl fl_RX12_40 rfl h0 ?_
          refine r_sipush 36 64 (v := 2000) rfl rfl (by decide) ?_
          refine r_iload_n 37 65 1 rfl rfl rfl rfl ?_
          refine r_imul 38 66 rfl rfl ?_
          refine r_iload_n 39 67 2 rfl rfl rfl rfl ?_
          refine r_iadd 40 68 rfl rfl ?_
          refine r_aload_n 41 69 0 rfl rfl rfl rfl ?_
          refine r_getR 42 72 rfl rfl fl_RX12_13 rfl h0 ?_
          refine r_iload_n 43 73 2 rfl rfl rfl rfl ?_
          refine r_gd (fun h27 => ?_)
          refine r_bald 44 74 rfl rfl h27 ?_
          refine r_gd (fun h28 => ?_)
          refine r_bast 45 75 rfl rfl h28 ?_
          refine r_ltM (fun m29 => ?_)
          refine r_iinc 46 78 2 (L' := [(3, .inl (a3 + 1)), (0, .inr (.inr a0)), (2, .inl a2)]) rfl rfl rfl (by decide) rfl ?_
          refine r_ltV (fun x30 => ?_)
          refine r_goto 47 49 rfl rfl ?_
          exact r_sub [1, 2, 0] rfl (hc49 (x30, m29))
      exact r_sub [2, 1, 0] rfl (hj49 m9 x5 0)
theorem ct_X12_read {t : List Sh} {m : Mi} {a0 : Nat} {a1 : Int32} {m' : Mi} {v : Int32}  (h0 : sh t a0 = some (.inl 12)) (h : f_X12_read t m a0 a1 = some (v, m')) : Ct u_X12_read 12 0 0 [.inr (.inr a0), .inl a1] (t, m) (some (.inl v), (t, m')) :=
  ct_of (by decide) tk_X12_read (Nat.le_of_ble_eq_true rfl) (sm_X12_read t m a0 a1 h0) (by rw [h]; rfl) (Nat.le_refl _) (Nat.le_refl _)
