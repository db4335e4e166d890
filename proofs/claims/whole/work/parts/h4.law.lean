/-! The law: its table, its calls. -/
def tb_L : Tb := [(0, (.new 7, 3)), (3, (.dup, 1)), (4, (.invokespecial 9, 3)), (7, (.astore_n 1, 1)), (8, (.new 10, 3)), (11, (.dup, 1)), (12, (.invokespecial 12, 3)), (15, (.astore_n 2, 1)), (16, (.iconst 0, 1)), (17, (.istore_n 3, 1)), (18, (.iload_n 3, 1)), (19, (.aload_n 0, 1)), (20, (.arraylength, 1)), (21, (.bipush 6, 2)), (23, (.isub, 1)), (24, (.if_icmp .gt 561, 3)), (27, (.aload_n 0, 1)), (28, (.iload_n 3, 1)), (29, (.iaload, 1)), (30, (.bipush 15, 2)), (32, (.iand, 1)), (33, (.tableswitch 546 0 14 #[75, 138, 161, 194, 217, 270, 303, 336, 369, 392, 431, 454, 477, 500, 523], 75)), (108, (.aload_n 1, 1)), (109, (.aload_n 0, 1)), (110, (.iload_n 3, 1)), (111, (.iconst 1, 1)), (112, (.iadd, 1)), (113, (.iaload, 1)), (114, (.aload_n 0, 1)), (115, (.iload_n 3, 1)), (116, (.iconst 2, 1)), (117, (.iadd, 1)), (118, (.iaload, 1)), (119, (.aload_n 0, 1)), (120, (.iload_n 3, 1)), (121, (.iconst 3, 1)), (122, (.iadd, 1)), (123, (.iaload, 1)), (124, (.aload_n 0, 1)), (125, (.iload_n 3, 1)), (126, (.iconst 4, 1)), (127, (.iadd, 1)), (128, (.iaload, 1)), (129, (.aload_n 0, 1)), (130, (.iload_n 3, 1)), (131, (.iconst 5, 1)), (132, (.iadd, 1)), (133, (.iaload, 1)), (134, (.invokevirtual 13, 3)), (137, (.aload_n 2, 1)), (138, (.aload_n 0, 1)), (139, (.iload_n 3, 1)), (140, (.iconst 1, 1)), (141, (.iadd, 1)), (142, (.iaload, 1)), (143, (.aload_n 0, 1)), (144, (.iload_n 3, 1)), (145, (.iconst 2, 1)), (146, (.iadd, 1)), (147, (.iaload, 1)), (148, (.aload_n 0, 1)), (149, (.iload_n 3, 1)), (150, (.iconst 3, 1)), (151, (.iadd, 1)), (152, (.iaload, 1)), (153, (.aload_n 0, 1)), (154, (.iload_n 3, 1)), (155, (.iconst 4, 1)), (156, (.iadd, 1)), (157, (.iaload, 1)), (158, (.aload_n 0, 1)), (159, (.iload_n 3, 1)), (160, (.iconst 5, 1)), (161, (.iadd, 1)), (162, (.iaload, 1)), (163, (.invokevirtual 17, 3)), (166, (.if_icmp .eq 413, 3)), (169, (.iconst 0, 1)), (170, (.ireturn, 1)), (171, (.aload_n 1, 1)), (172, (.aload_n 0, 1)), (173, (.iload_n 3, 1)), (174, (.iconst 1, 1)), (175, (.iadd, 1)), (176, (.iaload, 1)), (177, (.invokevirtual 18, 3)), (180, (.aload_n 2, 1)), (181, (.aload_n 0, 1)), (182, (.iload_n 3, 1)), (183, (.iconst 1, 1)), (184, (.iadd, 1)), (185, (.iaload, 1)), (186, (.invokevirtual 22, 3)), (189, (.if_icmp .eq 390, 3)), (192, (.iconst 0, 1)), (193, (.ireturn, 1)), (194, (.aload_n 1, 1)), (195, (.aload_n 0, 1)), (196, (.iload_n 3, 1)), (197, (.iconst 1, 1)), (198, (.iadd, 1)), (199, (.iaload, 1)), (200, (.aload_n 0, 1)), (201, (.iload_n 3, 1)), (202, (.iconst 2, 1)), (203, (.iadd, 1)), (204, (.iaload, 1)), (205, (.invokevirtual 23, 3)), (208, (.aload_n 2, 1)), (209, (.aload_n 0, 1)), (210, (.iload_n 3, 1)), (211, (.iconst 1, 1)), (212, (.iadd, 1)), (213, (.iaload, 1)), (214, (.aload_n 0, 1)), (215, (.iload_n 3, 1)), (216, (.iconst 2, 1)), (217, (.iadd, 1)), (218, (.iaload, 1)), (219, (.invokevirtual 27, 3)), (222, (.if_icmp .eq 357, 3)), (225, (.iconst 0, 1)), (226, (.ireturn, 1)), (227, (.aload_n 1, 1)), (228, (.aload_n 0, 1)), (229, (.iload_n 3, 1)), (230, (.iconst 1, 1)), (231, (.iadd, 1)), (232, (.iaload, 1)), (233, (.invokevirtual 28, 3)), (236, (.aload_n 2, 1)), (237, (.aload_n 0, 1)), (238, (.iload_n 3, 1)), (239, (.iconst 1, 1)), (240, (.iadd, 1)), (241, (.iaload, 1)), (242, (.invokevirtual 31, 3)), (245, (.if_icmp .eq 334, 3)), (248, (.iconst 0, 1)), (249, (.ireturn, 1)), (250, (.aload_n 1, 1)), (251, (.aload_n 0, 1)), (252, (.iload_n 3, 1)), (253, (.iconst 1, 1)), (254, (.iadd, 1)), (255, (.iaload, 1)), (256, (.aload_n 0, 1)), (257, (.iload_n 3, 1)), (258, (.iconst 2, 1)), (259, (.iadd, 1)), (260, (.iaload, 1)), (261, (.aload_n 0, 1)), (262, (.iload_n 3, 1)), (263, (.iconst 3, 1)), (264, (.iadd, 1)), (265, (.iaload, 1)), (266, (.aload_n 0, 1)), (267, (.iload_n 3, 1)), (268, (.iconst 4, 1)), (269, (.iadd, 1)), (270, (.iaload, 1)), (271, (.invokevirtual 32, 3)), (274, (.aload_n 2, 1)), (275, (.aload_n 0, 1)), (276, (.iload_n 3, 1)), (277, (.iconst 1, 1)), (278, (.iadd, 1)), (279, (.iaload, 1)), (280, (.aload_n 0, 1)), (281, (.iload_n 3, 1)), (282, (.iconst 2, 1)), (283, (.iadd, 1)), (284, (.iaload, 1)), (285, (.aload_n 0, 1)), (286, (.iload_n 3, 1)), (287, (.iconst 3, 1)), (288, (.iadd, 1)), (289, (.iaload, 1)), (290, (.aload_n 0, 1)), (291, (.iload_n 3, 1)), (292, (.iconst 4, 1)), (293, (.iadd, 1)), (294, (.iaload, 1)), (295, (.invokevirtual 36, 3)), (298, (.if_icmp .eq 281, 3)), (301, (.iconst 0, 1)), (302, (.ireturn, 1)), (303, (.aload_n 1, 1)), (304, (.aload_n 0, 1)), (305, (.iload_n 3, 1)), (306, (.iconst 1, 1)), (307, (.iadd, 1)), (308, (.iaload, 1)), (309, (.aload_n 0, 1)), (310, (.iload_n 3, 1)), (311, (.iconst 2, 1)), (312, (.iadd, 1)), (313, (.iaload, 1)), (314, (.invokevirtual 37, 3)), (317, (.aload_n 2, 1)), (318, (.aload_n 0, 1)), (319, (.iload_n 3, 1)), (320, (.iconst 1, 1)), (321, (.iadd, 1)), (322, (.iaload, 1)), (323, (.aload_n 0, 1)), (324, (.iload_n 3, 1)), (325, (.iconst 2, 1)), (326, (.iadd, 1)), (327, (.iaload, 1)), (328, (.invokevirtual 40, 3)), (331, (.if_icmp .eq 248, 3)), (334, (.iconst 0, 1)), (335, (.ireturn, 1)), (336, (.aload_n 1, 1)), (337, (.aload_n 0, 1)), (338, (.iload_n 3, 1)), (339, (.iconst 1, 1)), (340, (.iadd, 1)), (341, (.iaload, 1)), (342, (.aload_n 0, 1)), (343, (.iload_n 3, 1)), (344, (.iconst 2, 1)), (345, (.iadd, 1)), (346, (.iaload, 1)), (347, (.invokevirtual 41, 3)), (350, (.aload_n 2, 1)), (351, (.aload_n 0, 1)), (352, (.iload_n 3, 1)), (353, (.iconst 1, 1)), (354, (.iadd, 1)), (355, (.iaload, 1)), (356, (.aload_n 0, 1)), (357, (.iload_n 3, 1)), (358, (.iconst 2, 1)), (359, (.iadd, 1)), (360, (.iaload, 1)), (361, (.invokevirtual 44, 3)), (364, (.if_icmp .eq 215, 3)), (367, (.iconst 0, 1)), (368, (.ireturn, 1)), (369, (.aload_n 1, 1)), (370, (.aload_n 0, 1)), (371, (.iload_n 3, 1)), (372, (.iconst 1, 1)), (373, (.iadd, 1)), (374, (.iaload, 1)), (375, (.aload_n 0, 1)), (376, (.iload_n 3, 1)), (377, (.iconst 2, 1)), (378, (.iadd, 1)), (379, (.iaload, 1)), (380, (.invokevirtual 45, 3)), (383, (.aload_n 2, 1)), (384, (.aload_n 0, 1)), (385, (.iload_n 3, 1)), (386, (.iconst 1, 1)), (387, (.iadd, 1)), (388, (.iaload, 1)), (389, (.aload_n 0, 1)), (390, (.iload_n 3, 1)), (391, (.iconst 2, 1)), (392, (.iadd, 1)), (393, (.iaload, 1)), (394, (.invokevirtual 48, 3)), (397, (.if_icmp .eq 182, 3)), (400, (.iconst 0, 1)), (401, (.ireturn, 1)), (402, (.aload_n 1, 1)), (403, (.aload_n 0, 1)), (404, (.iload_n 3, 1)), (405, (.iconst 1, 1)), (406, (.iadd, 1)), (407, (.iaload, 1)), (408, (.invokevirtual 49, 3)), (411, (.aload_n 2, 1)), (412, (.aload_n 0, 1)), (413, (.iload_n 3, 1)), (414, (.iconst 1, 1)), (415, (.iadd, 1)), (416, (.iaload, 1)), (417, (.invokevirtual 52, 3)), (420, (.if_icmp .eq 159, 3)), (423, (.iconst 0, 1)), (424, (.ireturn, 1)), (425, (.aload_n 1, 1)), (426, (.aload_n 0, 1)), (427, (.iload_n 3, 1)), (428, (.iconst 1, 1)), (429, (.iadd, 1)), (430, (.iaload, 1)), (431, (.ifCond .eq 7, 3)), (434, (.iconst 1, 1)), (435, (.goto 4, 3)), (438, (.iconst 0, 1)), (439, (.invokevirtual 53, 3)), (442, (.aload_n 2, 1)), (443, (.aload_n 0, 1)), (444, (.iload_n 3, 1)), (445, (.iconst 1, 1)), (446, (.iadd, 1)), (447, (.iaload, 1)), (448, (.ifCond .eq 7, 3)), (451, (.iconst 1, 1)), (452, (.goto 4, 3)), (455, (.iconst 0, 1)), (456, (.invokevirtual 57, 3)), (459, (.if_icmp .eq 120, 3)), (462, (.iconst 0, 1)), (463, (.ireturn, 1)), (464, (.aload_n 1, 1)), (465, (.aload_n 0, 1)), (466, (.iload_n 3, 1)), (467, (.iconst 1, 1)), (468, (.iadd, 1)), (469, (.iaload, 1)), (470, (.invokevirtual 58, 3)), (473, (.aload_n 2, 1)), (474, (.aload_n 0, 1)), (475, (.iload_n 3, 1)), (476, (.iconst 1, 1)), (477, (.iadd, 1)), (478, (.iaload, 1)), (479, (.invokevirtual 61, 3)), (482, (.if_icmp .eq 97, 3)), (485, (.iconst 0, 1)), (486, (.ireturn, 1)), (487, (.aload_n 1, 1)), (488, (.aload_n 0, 1)), (489, (.iload_n 3, 1)), (490, (.iconst 1, 1)), (491, (.iadd, 1)), (492, (.iaload, 1)), (493, (.invokevirtual 62, 3)), (496, (.aload_n 2, 1)), (497, (.aload_n 0, 1)), (498, (.iload_n 3, 1)), (499, (.iconst 1, 1)), (500, (.iadd, 1)), (501, (.iaload, 1)), (502, (.invokevirtual 65, 3)), (505, (.if_icmp .eq 74, 3)), (508, (.iconst 0, 1)), (509, (.ireturn, 1)), (510, (.aload_n 1, 1)), (511, (.aload_n 0, 1)), (512, (.iload_n 3, 1)), (513, (.iconst 1, 1)), (514, (.iadd, 1)), (515, (.iaload, 1)), (516, (.invokevirtual 66, 3)), (519, (.aload_n 2, 1)), (520, (.aload_n 0, 1)), (521, (.iload_n 3, 1)), (522, (.iconst 1, 1)), (523, (.iadd, 1)), (524, (.iaload, 1)), (525, (.invokevirtual 69, 3)), (528, (.if_icmp .eq 51, 3)), (531, (.iconst 0, 1)), (532, (.ireturn, 1)), (533, (.aload_n 1, 1)), (534, (.aload_n 0, 1)), (535, (.iload_n 3, 1)), (536, (.iconst 1, 1)), (537, (.iadd, 1)), (538, (.iaload, 1)), (539, (.invokevirtual 70, 3)), (542, (.aload_n 2, 1)), (543, (.aload_n 0, 1)), (544, (.iload_n 3, 1)), (545, (.iconst 1, 1)), (546, (.iadd, 1)), (547, (.iaload, 1)), (548, (.invokevirtual 73, 3)), (551, (.if_icmp .eq 28, 3)), (554, (.iconst 0, 1)), (555, (.ireturn, 1)), (556, (.aload_n 1, 1)), (557, (.aload_n 0, 1)), (558, (.iload_n 3, 1)), (559, (.iconst 1, 1)), (560, (.iadd, 1)), (561, (.iaload, 1)), (562, (.invokevirtual 74, 3)), (565, (.aload_n 2, 1)), (566, (.aload_n 0, 1)), (567, (.iload_n 3, 1)), (568, (.iconst 1, 1)), (569, (.iadd, 1)), (570, (.iaload, 1)), (571, (.invokevirtual 77, 3)), (574, (.if_icmp .eq 5, 3)), (577, (.iconst 0, 1)), (578, (.ireturn, 1)), (579, (.iinc 3 6, 3)), (582, (.goto (-564), 3)), (585, (.iconst 1, 1)), (586, (.ireturn, 1))]
def u_L : Fx := (yL_law, (cL_law, (4, (some .boolean, tb_L))))
set_option maxRecDepth 40000 in
theorem tk_L : ∀ q ∈ u_L.2.2.2.2, decode u_L.2.1 q.1 = .ok q.2 := by decide +kernel
def EE : Ev := (1400, (600000, (7302250, (0, 0))))
abbrev LwL (x : Int32) : List (Nat × PV) := [(0, .inr (.inr (1048576 + 23))), (1, .inr (.inr 1)), (2, .inr (.inr 870)), (3, .inl x)]
def kLw (r : Rs) : Option Rs := some r
def sA (sa : Nat → Nat) (i : Nat) (j : Int32) : Int32 := Int32.ofNat (sa (25 + ix (nI i + j)))
def Lw (sa : Nat → Nat) (pc i : Nat) (m : Mi) : Prop := ∃ m', SmG (fun β => β.2 = sa) u_L EE kLw pc (LwL (nI i)) [] (TT, m) (some (some (.inl 1), (TT, m')))
section LawRows
variable {α : Type} {G : Bs → Prop} {μ μ' : Fx} {E : Ev} {κ : α → Option Rs} {pc : Nat} {L : List (Nat × PV)} {st : List PV} {t : List Sh} {m : Mi} {r : Option α} {av av' : List PV} {n d idx a cn : Nat}
theorem r_cal (i pc' : Nat) {v : Int32} {m1 : Mi} (hd : μ.2.2.2.2[i]? = some (pc, (.invokevirtual idx, 3))) (hp : pc + 3 = pc') (hM : MC μ' n) (hin : Cond.instanceMethod μ'.1 ∈ TB ∧ Cond.selects μ'.1.cls μ'.1 μ'.1 ∈ TB) (hl : Cond.methodLink μ.1.cls idx μ'.1 ∈ TB) (hlv : d < E.1) (hn : av'.length = n) (hav : av = .inr (.inr a) :: av') (hs : sh t a = some (.inl cn)) (hcl : CL[cn]?.map (fun q => q.1) = some μ'.1.cls) (hw : (st.map pcat).sum ≤ 8) (hct : Ct μ' d 0 0 av (t, m) (some (.inl v), (t, m1))) (k : SmG G μ E κ pc' L (.inl v :: st) (t, m1) r) : SmG G μ E κ pc L (av.reverse ++ st) (t, m) r :=
  r_invV (g := some ()) (f := fun _ => r) (vo := fun _ => some (.inl v)) (mo := fun _ => (t, m1)) i pc' hd hp hM hin hl hlv hn hav hs hcl hw (fun _ _ => hct) (fun _ _ => ⟨rfl, rfl⟩) (fun _ _ => k)
theorem r_ctor (i pc' : Nat) {x0 : Sh} {q : Mm} (hd : μ.2.2.2.2[i]? = some (pc, (.invokespecial idx, 3))) (hp : pc + 3 = pc') (hM : MC μ' n) (hrt : μ'.2.2.2.1 = none) (hnm : μ'.1.name = "<init>") (hin : Cond.instanceMethod μ'.1 ∈ TB) (hl : Cond.methodLink μ.1.cls idx μ'.1 ∈ TB) (hlv : d < E.1) (hn : av'.length = n) (hav : av = .inr (.inr a) :: av') (hs : sh t a = some x0) (hw : (st.map pcat).sum ≤ 8) (hct : Ct μ' d (q.1.length - t.length) (zs q.1 - zs t) av (t, m) (none, q)) (hmn : t.length ≤ q.1.length ∧ zs t ≤ zs q.1) (k : SmG G μ E κ pc' L st q r) : SmG G μ E κ pc L (av.reverse ++ st) (t, m) r :=
  r_invI (g := some ()) (f := fun _ => r) (vo := fun _ => none) (mo := fun _ => q) i pc' hd hp hM hrt hnm hin hl hlv hn hav hs hw (fun _ _ => hct) (fun _ _ => ⟨by show q.1.length = t.length + (q.1.length - t.length); omega, by show zs q.1 = zs t + (zs q.1 - zs t); omega⟩) (fun _ _ => k)
theorem r_eqv (i pc1 : Nat) {off : Int} {x : Int32} (hd : μ.2.2.2.2[i]? = some (pc, (.if_icmp .eq off, 3))) (ht : (pc : Int) + off = (pc1 : Int)) (k : SmG G μ E κ pc1 L st (t, m) r) : SmG G μ E κ pc L (.inl x :: .inl x :: st) (t, m) r := by
  have h := r_icmp_eq (r1 := r) (r2 := none) (x := x) (y := x) i pc1 (pc + 3) hd ht rfl (fun _ => k) (fun h => absurd rfl h)
  rw [if_pos rfl] at h
  exact h
end LawRows
theorem sx {sa : Nat → Nat} {i k : Nat} (hs : sa 24 ≤ 3072) (hi : i + 6 ≤ sa 24) (hk : k < 6) : ¬ (nI i + nI k) < 0 ∧ ix (nI i + nI k) < sa 24 := by
  rw [nI_add, ix_nI (by omega)]
  exact ⟨nI_pos (by omega), by omega⟩
theorem lk_RL_13 : Cond.methodLink RL 13 yX11_feed ∈ TB := tbm 563 (by decide +kernel) rfl
theorem lk_RL_17 : Cond.methodLink RL 17 yX12_feed ∈ TB := tbm 1511 (by decide +kernel) rfl
theorem lk_RL_18 : Cond.methodLink RL 18 yX11_read ∈ TB := tbm 571 (by decide +kernel) rfl
theorem lk_RL_22 : Cond.methodLink RL 22 yX12_read ∈ TB := tbm 1640 (by decide +kernel) rfl
theorem lk_RL_23 : Cond.methodLink RL 23 yX11_range ∈ TB := tbm 957 (by decide +kernel) rfl
theorem lk_RL_27 : Cond.methodLink RL 27 yX12_range_ ∈ TB := tbm 1519 (by decide +kernel) rfl
theorem lk_RL_28 : Cond.methodLink RL 28 yX11_order ∈ TB := tbm 968 (by decide +kernel) rfl
theorem lk_RL_31 : Cond.methodLink RL 31 yX12_order ∈ TB := tbm 1625 (by decide +kernel) rfl
theorem lk_RL_32 : Cond.methodLink RL 32 yX11_combine ∈ TB := tbm 983 (by decide +kernel) rfl
theorem lk_RL_36 : Cond.methodLink RL 36 yX12_combine ∈ TB := tbm 1629 (by decide +kernel) rfl
theorem lk_RL_37 : Cond.methodLink RL 37 yX11_inside ∈ TB := tbm 993 (by decide +kernel) rfl
theorem lk_RL_40 : Cond.methodLink RL 40 yX12_inside ∈ TB := tbm 1636 (by decide +kernel) rfl
theorem lk_RL_41 : Cond.methodLink RL 41 yX11_holds ∈ TB := tbm 997 (by decide +kernel) rfl
theorem lk_RL_44 : Cond.methodLink RL 44 yX12_holds ∈ TB := tbm 1747 (by decide +kernel) rfl
theorem lk_RL_45 : Cond.methodLink RL 45 yX11_write ∈ TB := tbm 1003 (by decide +kernel) rfl
theorem lk_RL_48 : Cond.methodLink RL 48 yX12_write ∈ TB := tbm 1751 (by decide +kernel) rfl
theorem lk_RL_49 : Cond.methodLink RL 49 yX11_octet ∈ TB := tbm 1103 (by decide +kernel) rfl
theorem lk_RL_52 : Cond.methodLink RL 52 yX12_octet ∈ TB := tbm 1788 (by decide +kernel) rfl
theorem lk_RL_53 : Cond.methodLink RL 53 yX11_resolve ∈ TB := tbm 1111 (by decide +kernel) rfl
theorem lk_RL_57 : Cond.methodLink RL 57 yX12_resolve ∈ TB := tbm 1684 (by decide +kernel) rfl
theorem lk_RL_58 : Cond.methodLink RL 58 yX11_chosen ∈ TB := tbm 1235 (by decide +kernel) rfl
theorem lk_RL_61 : Cond.methodLink RL 61 yX12_chosen ∈ TB := tbm 1730 (by decide +kernel) rfl
theorem lk_RL_62 : Cond.methodLink RL 62 yX11_reason ∈ TB := tbm 1240 (by decide +kernel) rfl
theorem lk_RL_65 : Cond.methodLink RL 65 yX12_reason ∈ TB := tbm 1734 (by decide +kernel) rfl
theorem lk_RL_66 : Cond.methodLink RL 66 yX11_solutions ∈ TB := tbm 1248 (by decide +kernel) rfl
theorem lk_RL_69 : Cond.methodLink RL 69 yX12_solutions ∈ TB := tbm 1738 (by decide +kernel) rfl
theorem lk_RL_70 : Cond.methodLink RL 70 yX11_why ∈ TB := tbm 1259 (by decide +kernel) rfl
theorem lk_RL_73 : Cond.methodLink RL 73 yX12_why ∈ TB := tbm 1742 (by decide +kernel) rfl
theorem lk_RL_74 : Cond.methodLink RL 74 yX11_count ∈ TB := tbm 1283 (by decide +kernel) rfl
theorem lk_RL_77 : Cond.methodLink RL 77 yX12_count ∈ TB := tbm 1792 (by decide +kernel) rfl
section LawBool
variable {α : Type} {G : Bs → Prop} {μ : Fx} {E : Ev} {κ : α → Option Rs} {pc : Nat} {L : List (Nat × PV)} {st : List PV} {t : List Sh} {m : Mi} {r : Option α}
theorem r_bool (i i1 i2 i3 pt pe : Nat) {x b : Int32} {o1 o2 : Int} (hd : μ.2.2.2.2[i]? = some (pc, (.ifCond .eq o1, 3))) (ht : (pc : Int) + o1 = (pt : Int)) (hd1 : μ.2.2.2.2[i1]? = some (pc + 3, (.iconst 1, 1))) (hd2 : μ.2.2.2.2[i2]? = some (pc + 3 + 1, (.goto o2, 3))) (ht2 : ((pc + 3 + 1 : Nat) : Int) + o2 = (pe : Int)) (hd3 : μ.2.2.2.2[i3]? = some (pt, (.iconst 0, 1))) (hp3 : pt + 1 = pe) (hz : True = True) (hb : b = if x = 0 then 0 else 1) (k : SmG G μ E κ pe L (.inl b :: st) (t, m) r) : SmG G μ E κ pc L (.inl x :: st) (t, m) r := by
  have h := r_if_eq (G := G) (μ := μ) (E := E) (κ := κ) (L := L) (st := st) (M := (t, m)) (r1 := r) (r2 := r) (x := x) i pt (pc + 3) hd ht rfl (fun e => ?_) (fun e => ?_)
  · by_cases e : x = 0
    · rw [if_pos e] at h
      exact h
    · rw [if_neg e] at h
      exact h
  · rw [if_pos e] at hb
    rw [hb] at k
    exact r_iconst i3 pe (v := 0) hd3 hp3 (by decide) k
  · rw [if_neg e] at hb
    rw [hb] at k
    exact r_iconst i1 (pc + 3 + 1) (v := 1) hd1 rfl (by decide) (r_goto i2 pe hd2 ht2 k)
end LawBool
set_option maxRecDepth 40000 in
set_option maxHeartbeats 4000000 in
theorem lw_feed {sa : Nat → Nat} {i : Nat} {m : Mi} {s : St} (hs : sa 24 ≤ 3072) (hi : i + 6 ≤ sa 24) (hc : SC m s) (hm : SM m s) (hg : SG s) (k : ∀ m' s', SC m' s' → SM m' s' → SG s' → Lw sa 579 i m') : Lw sa 108 i m := by
  obtain ⟨v, m1, m2, s', e1, e2, c1, c2, c3⟩ := both_feed hc hm hg (sA sa i 1) (sA sa i 2) (sA sa i 3) (sA sa i 4) (sA sa i 5)
  obtain ⟨mf, h⟩ := k m2 s' c1 c2 c3
  refine ⟨mf, ?_⟩
  refine r_aload_n 22 109 1 rfl rfl rfl rfl ?_
  refine r_aload_n 23 110 0 rfl rfl rfl rfl ?_
  refine r_iload_n 24 111 3 rfl rfl rfl rfl ?_
  refine r_iconst 25 112 (v := 1) rfl rfl (by decide) ?_
  refine r_iadd 26 113 rfl rfl ?_
  refine r_sld 27 114 rfl rfl (sx (k := 1) hs hi (by omega)) ?_
  refine r_aload_n 28 115 0 rfl rfl rfl rfl ?_
  refine r_iload_n 29 116 3 rfl rfl rfl rfl ?_
  refine r_iconst 30 117 (v := 2) rfl rfl (by decide) ?_
  refine r_iadd 31 118 rfl rfl ?_
  refine r_sld 32 119 rfl rfl (sx (k := 2) hs hi (by omega)) ?_
  refine r_aload_n 33 120 0 rfl rfl rfl rfl ?_
  refine r_iload_n 34 121 3 rfl rfl rfl rfl ?_
  refine r_iconst 35 122 (v := 3) rfl rfl (by decide) ?_
  refine r_iadd 36 123 rfl rfl ?_
  refine r_sld 37 124 rfl rfl (sx (k := 3) hs hi (by omega)) ?_
  refine r_aload_n 38 125 0 rfl rfl rfl rfl ?_
  refine r_iload_n 39 126 3 rfl rfl rfl rfl ?_
  refine r_iconst 40 127 (v := 4) rfl rfl (by decide) ?_
  refine r_iadd 41 128 rfl rfl ?_
  refine r_sld 42 129 rfl rfl (sx (k := 4) hs hi (by omega)) ?_
  refine r_aload_n 43 130 0 rfl rfl rfl rfl ?_
  refine r_iload_n 44 131 3 rfl rfl rfl rfl ?_
  refine r_iconst 45 132 (v := 5) rfl rfl (by decide) ?_
  refine r_iadd 46 133 rfl rfl ?_
  refine r_sld 47 134 rfl rfl (sx (k := 5) hs hi (by omega)) ?_
  refine r_cal 48 137 (st := []) (av := [.inr (.inr 1), .inl (sA sa i 1), .inl (sA sa i 2), .inl (sA sa i 3), .inl (sA sa i 4), .inl (sA sa i 5)]) (av' := [.inl (sA sa i 1), .inl (sA sa i 2), .inl (sA sa i 3), .inl (sA sa i 4), .inl (sA sa i 5)]) (μ' := u_X11_feed) (d := 2) rfl rfl mc_X11_feed in_X11_feed lk_RL_13 (Nat.le_of_ble_eq_true rfl) rfl rfl s_1 rfl (Nat.le_of_ble_eq_true rfl) (ct_X11_feed s_1 e1) ?_
  refine r_aload_n 49 138 2 rfl rfl rfl rfl ?_
  refine r_aload_n 50 139 0 rfl rfl rfl rfl ?_
  refine r_iload_n 51 140 3 rfl rfl rfl rfl ?_
  refine r_iconst 52 141 (v := 1) rfl rfl (by decide) ?_
  refine r_iadd 53 142 rfl rfl ?_
  refine r_sld 54 143 rfl rfl (sx (k := 1) hs hi (by omega)) ?_
  refine r_aload_n 55 144 0 rfl rfl rfl rfl ?_
  refine r_iload_n 56 145 3 rfl rfl rfl rfl ?_
  refine r_iconst 57 146 (v := 2) rfl rfl (by decide) ?_
  refine r_iadd 58 147 rfl rfl ?_
  refine r_sld 59 148 rfl rfl (sx (k := 2) hs hi (by omega)) ?_
  refine r_aload_n 60 149 0 rfl rfl rfl rfl ?_
  refine r_iload_n 61 150 3 rfl rfl rfl rfl ?_
  refine r_iconst 62 151 (v := 3) rfl rfl (by decide) ?_
  refine r_iadd 63 152 rfl rfl ?_
  refine r_sld 64 153 rfl rfl (sx (k := 3) hs hi (by omega)) ?_
  refine r_aload_n 65 154 0 rfl rfl rfl rfl ?_
  refine r_iload_n 66 155 3 rfl rfl rfl rfl ?_
  refine r_iconst 67 156 (v := 4) rfl rfl (by decide) ?_
  refine r_iadd 68 157 rfl rfl ?_
  refine r_sld 69 158 rfl rfl (sx (k := 4) hs hi (by omega)) ?_
  refine r_aload_n 70 159 0 rfl rfl rfl rfl ?_
  refine r_iload_n 71 160 3 rfl rfl rfl rfl ?_
  refine r_iconst 72 161 (v := 5) rfl rfl (by decide) ?_
  refine r_iadd 73 162 rfl rfl ?_
  refine r_sld 74 163 rfl rfl (sx (k := 5) hs hi (by omega)) ?_
  refine r_cal 75 166 (st := [.inl v]) (av := [.inr (.inr 870), .inl (sA sa i 1), .inl (sA sa i 2), .inl (sA sa i 3), .inl (sA sa i 4), .inl (sA sa i 5)]) (av' := [.inl (sA sa i 1), .inl (sA sa i 2), .inl (sA sa i 3), .inl (sA sa i 4), .inl (sA sa i 5)]) (μ' := u_X12_feed) (d := 2) rfl rfl mc_X12_feed in_X12_feed lk_RL_17 (Nat.le_of_ble_eq_true rfl) rfl rfl s_870 rfl (Nat.le_of_ble_eq_true rfl) (ct_X12_feed s_870 e2) ?_
  refine r_eqv 76 579 rfl rfl ?_
  exact h
set_option maxRecDepth 40000 in
set_option maxHeartbeats 4000000 in
theorem lw_read {sa : Nat → Nat} {i : Nat} {m : Mi} {s : St} (hs : sa 24 ≤ 3072) (hi : i + 6 ≤ sa 24) (hc : SC m s) (hm : SM m s) (hg : SG s) (k : ∀ m' s', SC m' s' → SM m' s' → SG s' → Lw sa 579 i m') : Lw sa 171 i m := by
  obtain ⟨v, m1, m2, s', e1, e2, c1, c2, c3⟩ := both_read hc hm hg (sA sa i 1)
  obtain ⟨mf, h⟩ := k m2 s' c1 c2 c3
  refine ⟨mf, ?_⟩
  refine r_aload_n 79 172 1 rfl rfl rfl rfl ?_
  refine r_aload_n 80 173 0 rfl rfl rfl rfl ?_
  refine r_iload_n 81 174 3 rfl rfl rfl rfl ?_
  refine r_iconst 82 175 (v := 1) rfl rfl (by decide) ?_
  refine r_iadd 83 176 rfl rfl ?_
  refine r_sld 84 177 rfl rfl (sx (k := 1) hs hi (by omega)) ?_
  refine r_cal 85 180 (st := []) (av := [.inr (.inr 1), .inl (sA sa i 1)]) (av' := [.inl (sA sa i 1)]) (μ' := u_X11_read) (d := 11) rfl rfl mc_X11_read in_X11_read lk_RL_18 (Nat.le_of_ble_eq_true rfl) rfl rfl s_1 rfl (Nat.le_of_ble_eq_true rfl) (ct_X11_read s_1 e1) ?_
  refine r_aload_n 86 181 2 rfl rfl rfl rfl ?_
  refine r_aload_n 87 182 0 rfl rfl rfl rfl ?_
  refine r_iload_n 88 183 3 rfl rfl rfl rfl ?_
  refine r_iconst 89 184 (v := 1) rfl rfl (by decide) ?_
  refine r_iadd 90 185 rfl rfl ?_
  refine r_sld 91 186 rfl rfl (sx (k := 1) hs hi (by omega)) ?_
  refine r_cal 92 189 (st := [.inl v]) (av := [.inr (.inr 870), .inl (sA sa i 1)]) (av' := [.inl (sA sa i 1)]) (μ' := u_X12_read) (d := 12) rfl rfl mc_X12_read in_X12_read lk_RL_22 (Nat.le_of_ble_eq_true rfl) rfl rfl s_870 rfl (Nat.le_of_ble_eq_true rfl) (ct_X12_read s_870 e2) ?_
  refine r_eqv 93 579 rfl rfl ?_
  exact h
set_option maxRecDepth 40000 in
set_option maxHeartbeats 4000000 in
theorem lw_range {sa : Nat → Nat} {i : Nat} {m : Mi} {s : St} (hs : sa 24 ≤ 3072) (hi : i + 6 ≤ sa 24) (hc : SC m s) (hm : SM m s) (hg : SG s) (k : ∀ m' s', SC m' s' → SM m' s' → SG s' → Lw sa 579 i m') : Lw sa 194 i m := by
  obtain ⟨v, m1, m2, s', e1, e2, c1, c2, c3⟩ := both_range hc hm hg (sA sa i 1) (sA sa i 2)
  obtain ⟨mf, h⟩ := k m2 s' c1 c2 c3
  refine ⟨mf, ?_⟩
  refine r_aload_n 96 195 1 rfl rfl rfl rfl ?_
  refine r_aload_n 97 196 0 rfl rfl rfl rfl ?_
  refine r_iload_n 98 197 3 rfl rfl rfl rfl ?_
  refine r_iconst 99 198 (v := 1) rfl rfl (by decide) ?_
  refine r_iadd 100 199 rfl rfl ?_
  refine r_sld 101 200 rfl rfl (sx (k := 1) hs hi (by omega)) ?_
  refine r_aload_n 102 201 0 rfl rfl rfl rfl ?_
  refine r_iload_n 103 202 3 rfl rfl rfl rfl ?_
  refine r_iconst 104 203 (v := 2) rfl rfl (by decide) ?_
  refine r_iadd 105 204 rfl rfl ?_
  refine r_sld 106 205 rfl rfl (sx (k := 2) hs hi (by omega)) ?_
  refine r_cal 107 208 (st := []) (av := [.inr (.inr 1), .inl (sA sa i 1), .inl (sA sa i 2)]) (av' := [.inl (sA sa i 1), .inl (sA sa i 2)]) (μ' := u_X11_range) (d := 10) rfl rfl mc_X11_range in_X11_range lk_RL_23 (Nat.le_of_ble_eq_true rfl) rfl rfl s_1 rfl (Nat.le_of_ble_eq_true rfl) (ct_X11_range s_1 e1) ?_
  refine r_aload_n 108 209 2 rfl rfl rfl rfl ?_
  refine r_aload_n 109 210 0 rfl rfl rfl rfl ?_
  refine r_iload_n 110 211 3 rfl rfl rfl rfl ?_
  refine r_iconst 111 212 (v := 1) rfl rfl (by decide) ?_
  refine r_iadd 112 213 rfl rfl ?_
  refine r_sld 113 214 rfl rfl (sx (k := 1) hs hi (by omega)) ?_
  refine r_aload_n 114 215 0 rfl rfl rfl rfl ?_
  refine r_iload_n 115 216 3 rfl rfl rfl rfl ?_
  refine r_iconst 116 217 (v := 2) rfl rfl (by decide) ?_
  refine r_iadd 117 218 rfl rfl ?_
  refine r_sld 118 219 rfl rfl (sx (k := 2) hs hi (by omega)) ?_
  refine r_cal 119 222 (st := [.inl v]) (av := [.inr (.inr 870), .inl (sA sa i 1), .inl (sA sa i 2)]) (av' := [.inl (sA sa i 1), .inl (sA sa i 2)]) (μ' := u_X12_range_) (d := 9) rfl rfl mc_X12_range_ in_X12_range_ lk_RL_27 (Nat.le_of_ble_eq_true rfl) rfl rfl s_870 rfl (Nat.le_of_ble_eq_true rfl) (ct_X12_range_ s_870 e2) ?_
  refine r_eqv 120 579 rfl rfl ?_
  exact h
set_option maxRecDepth 40000 in
set_option maxHeartbeats 4000000 in
theorem lw_order {sa : Nat → Nat} {i : Nat} {m : Mi} {s : St} (hs : sa 24 ≤ 3072) (hi : i + 6 ≤ sa 24) (hc : SC m s) (hm : SM m s) (hg : SG s) (k : ∀ m' s', SC m' s' → SM m' s' → SG s' → Lw sa 579 i m') : Lw sa 227 i m := by
  obtain ⟨v, m1, m2, s', e1, e2, c1, c2, c3⟩ := both_order hc hm hg (sA sa i 1)
  obtain ⟨mf, h⟩ := k m2 s' c1 c2 c3
  refine ⟨mf, ?_⟩
  refine r_aload_n 123 228 1 rfl rfl rfl rfl ?_
  refine r_aload_n 124 229 0 rfl rfl rfl rfl ?_
  refine r_iload_n 125 230 3 rfl rfl rfl rfl ?_
  refine r_iconst 126 231 (v := 1) rfl rfl (by decide) ?_
  refine r_iadd 127 232 rfl rfl ?_
  refine r_sld 128 233 rfl rfl (sx (k := 1) hs hi (by omega)) ?_
  refine r_cal 129 236 (st := []) (av := [.inr (.inr 1), .inl (sA sa i 1)]) (av' := [.inl (sA sa i 1)]) (μ' := u_X11_order) (d := 5) rfl rfl mc_X11_order in_X11_order lk_RL_28 (Nat.le_of_ble_eq_true rfl) rfl rfl s_1 rfl (Nat.le_of_ble_eq_true rfl) (ct_X11_order s_1 e1) ?_
  refine r_aload_n 130 237 2 rfl rfl rfl rfl ?_
  refine r_aload_n 131 238 0 rfl rfl rfl rfl ?_
  refine r_iload_n 132 239 3 rfl rfl rfl rfl ?_
  refine r_iconst 133 240 (v := 1) rfl rfl (by decide) ?_
  refine r_iadd 134 241 rfl rfl ?_
  refine r_sld 135 242 rfl rfl (sx (k := 1) hs hi (by omega)) ?_
  refine r_cal 136 245 (st := [.inl v]) (av := [.inr (.inr 870), .inl (sA sa i 1)]) (av' := [.inl (sA sa i 1)]) (μ' := u_X12_order) (d := 9) rfl rfl mc_X12_order in_X12_order lk_RL_31 (Nat.le_of_ble_eq_true rfl) rfl rfl s_870 rfl (Nat.le_of_ble_eq_true rfl) (ct_X12_order s_870 e2) ?_
  refine r_eqv 137 579 rfl rfl ?_
  exact h
set_option maxRecDepth 40000 in
set_option maxHeartbeats 4000000 in
theorem lw_combine {sa : Nat → Nat} {i : Nat} {m : Mi} {s : St} (hs : sa 24 ≤ 3072) (hi : i + 6 ≤ sa 24) (hc : SC m s) (hm : SM m s) (hg : SG s) (k : ∀ m' s', SC m' s' → SM m' s' → SG s' → Lw sa 579 i m') : Lw sa 250 i m := by
  obtain ⟨v, m1, m2, s', e1, e2, c1, c2, c3⟩ := both_combine hc hm hg (sA sa i 1) (sA sa i 2) (sA sa i 3) (sA sa i 4)
  obtain ⟨mf, h⟩ := k m2 s' c1 c2 c3
  refine ⟨mf, ?_⟩
  refine r_aload_n 140 251 1 rfl rfl rfl rfl ?_
  refine r_aload_n 141 252 0 rfl rfl rfl rfl ?_
  refine r_iload_n 142 253 3 rfl rfl rfl rfl ?_
  refine r_iconst 143 254 (v := 1) rfl rfl (by decide) ?_
  refine r_iadd 144 255 rfl rfl ?_
  refine r_sld 145 256 rfl rfl (sx (k := 1) hs hi (by omega)) ?_
  refine r_aload_n 146 257 0 rfl rfl rfl rfl ?_
  refine r_iload_n 147 258 3 rfl rfl rfl rfl ?_
  refine r_iconst 148 259 (v := 2) rfl rfl (by decide) ?_
  refine r_iadd 149 260 rfl rfl ?_
  refine r_sld 150 261 rfl rfl (sx (k := 2) hs hi (by omega)) ?_
  refine r_aload_n 151 262 0 rfl rfl rfl rfl ?_
  refine r_iload_n 152 263 3 rfl rfl rfl rfl ?_
  refine r_iconst 153 264 (v := 3) rfl rfl (by decide) ?_
  refine r_iadd 154 265 rfl rfl ?_
  refine r_sld 155 266 rfl rfl (sx (k := 3) hs hi (by omega)) ?_
  refine r_aload_n 156 267 0 rfl rfl rfl rfl ?_
  refine r_iload_n 157 268 3 rfl rfl rfl rfl ?_
  refine r_iconst 158 269 (v := 4) rfl rfl (by decide) ?_
  refine r_iadd 159 270 rfl rfl ?_
  refine r_sld 160 271 rfl rfl (sx (k := 4) hs hi (by omega)) ?_
  refine r_cal 161 274 (st := []) (av := [.inr (.inr 1), .inl (sA sa i 1), .inl (sA sa i 2), .inl (sA sa i 3), .inl (sA sa i 4)]) (av' := [.inl (sA sa i 1), .inl (sA sa i 2), .inl (sA sa i 3), .inl (sA sa i 4)]) (μ' := u_X11_combine) (d := 5) rfl rfl mc_X11_combine in_X11_combine lk_RL_32 (Nat.le_of_ble_eq_true rfl) rfl rfl s_1 rfl (Nat.le_of_ble_eq_true rfl) (ct_X11_combine s_1 e1) ?_
  refine r_aload_n 162 275 2 rfl rfl rfl rfl ?_
  refine r_aload_n 163 276 0 rfl rfl rfl rfl ?_
  refine r_iload_n 164 277 3 rfl rfl rfl rfl ?_
  refine r_iconst 165 278 (v := 1) rfl rfl (by decide) ?_
  refine r_iadd 166 279 rfl rfl ?_
  refine r_sld 167 280 rfl rfl (sx (k := 1) hs hi (by omega)) ?_
  refine r_aload_n 168 281 0 rfl rfl rfl rfl ?_
  refine r_iload_n 169 282 3 rfl rfl rfl rfl ?_
  refine r_iconst 170 283 (v := 2) rfl rfl (by decide) ?_
  refine r_iadd 171 284 rfl rfl ?_
  refine r_sld 172 285 rfl rfl (sx (k := 2) hs hi (by omega)) ?_
  refine r_aload_n 173 286 0 rfl rfl rfl rfl ?_
  refine r_iload_n 174 287 3 rfl rfl rfl rfl ?_
  refine r_iconst 175 288 (v := 3) rfl rfl (by decide) ?_
  refine r_iadd 176 289 rfl rfl ?_
  refine r_sld 177 290 rfl rfl (sx (k := 3) hs hi (by omega)) ?_
  refine r_aload_n 178 291 0 rfl rfl rfl rfl ?_
  refine r_iload_n 179 292 3 rfl rfl rfl rfl ?_
  refine r_iconst 180 293 (v := 4) rfl rfl (by decide) ?_
  refine r_iadd 181 294 rfl rfl ?_
  refine r_sld 182 295 rfl rfl (sx (k := 4) hs hi (by omega)) ?_
  refine r_cal 183 298 (st := [.inl v]) (av := [.inr (.inr 870), .inl (sA sa i 1), .inl (sA sa i 2), .inl (sA sa i 3), .inl (sA sa i 4)]) (av' := [.inl (sA sa i 1), .inl (sA sa i 2), .inl (sA sa i 3), .inl (sA sa i 4)]) (μ' := u_X12_combine) (d := 5) rfl rfl mc_X12_combine in_X12_combine lk_RL_36 (Nat.le_of_ble_eq_true rfl) rfl rfl s_870 rfl (Nat.le_of_ble_eq_true rfl) (ct_X12_combine s_870 e2) ?_
  refine r_eqv 184 579 rfl rfl ?_
  exact h
set_option maxRecDepth 40000 in
set_option maxHeartbeats 4000000 in
theorem lw_inside {sa : Nat → Nat} {i : Nat} {m : Mi} {s : St} (hs : sa 24 ≤ 3072) (hi : i + 6 ≤ sa 24) (hc : SC m s) (hm : SM m s) (hg : SG s) (k : ∀ m' s', SC m' s' → SM m' s' → SG s' → Lw sa 579 i m') : Lw sa 303 i m := by
  obtain ⟨v, m1, m2, s', e1, e2, c1, c2, c3⟩ := both_inside hc hm hg (sA sa i 1) (sA sa i 2)
  obtain ⟨mf, h⟩ := k m2 s' c1 c2 c3
  refine ⟨mf, ?_⟩
  refine r_aload_n 187 304 1 rfl rfl rfl rfl ?_
  refine r_aload_n 188 305 0 rfl rfl rfl rfl ?_
  refine r_iload_n 189 306 3 rfl rfl rfl rfl ?_
  refine r_iconst 190 307 (v := 1) rfl rfl (by decide) ?_
  refine r_iadd 191 308 rfl rfl ?_
  refine r_sld 192 309 rfl rfl (sx (k := 1) hs hi (by omega)) ?_
  refine r_aload_n 193 310 0 rfl rfl rfl rfl ?_
  refine r_iload_n 194 311 3 rfl rfl rfl rfl ?_
  refine r_iconst 195 312 (v := 2) rfl rfl (by decide) ?_
  refine r_iadd 196 313 rfl rfl ?_
  refine r_sld 197 314 rfl rfl (sx (k := 2) hs hi (by omega)) ?_
  refine r_cal 198 317 (st := []) (av := [.inr (.inr 1), .inl (sA sa i 1), .inl (sA sa i 2)]) (av' := [.inl (sA sa i 1), .inl (sA sa i 2)]) (μ' := u_X11_inside) (d := 5) rfl rfl mc_X11_inside in_X11_inside lk_RL_37 (Nat.le_of_ble_eq_true rfl) rfl rfl s_1 rfl (Nat.le_of_ble_eq_true rfl) (ct_X11_inside s_1 e1) ?_
  refine r_aload_n 199 318 2 rfl rfl rfl rfl ?_
  refine r_aload_n 200 319 0 rfl rfl rfl rfl ?_
  refine r_iload_n 201 320 3 rfl rfl rfl rfl ?_
  refine r_iconst 202 321 (v := 1) rfl rfl (by decide) ?_
  refine r_iadd 203 322 rfl rfl ?_
  refine r_sld 204 323 rfl rfl (sx (k := 1) hs hi (by omega)) ?_
  refine r_aload_n 205 324 0 rfl rfl rfl rfl ?_
  refine r_iload_n 206 325 3 rfl rfl rfl rfl ?_
  refine r_iconst 207 326 (v := 2) rfl rfl (by decide) ?_
  refine r_iadd 208 327 rfl rfl ?_
  refine r_sld 209 328 rfl rfl (sx (k := 2) hs hi (by omega)) ?_
  refine r_cal 210 331 (st := [.inl v]) (av := [.inr (.inr 870), .inl (sA sa i 1), .inl (sA sa i 2)]) (av' := [.inl (sA sa i 1), .inl (sA sa i 2)]) (μ' := u_X12_inside) (d := 5) rfl rfl mc_X12_inside in_X12_inside lk_RL_40 (Nat.le_of_ble_eq_true rfl) rfl rfl s_870 rfl (Nat.le_of_ble_eq_true rfl) (ct_X12_inside s_870 e2) ?_
  refine r_eqv 211 579 rfl rfl ?_
  exact h
set_option maxRecDepth 40000 in
set_option maxHeartbeats 4000000 in
theorem lw_holds {sa : Nat → Nat} {i : Nat} {m : Mi} {s : St} (hs : sa 24 ≤ 3072) (hi : i + 6 ≤ sa 24) (hc : SC m s) (hm : SM m s) (hg : SG s) (k : ∀ m' s', SC m' s' → SM m' s' → SG s' → Lw sa 579 i m') : Lw sa 336 i m := by
  obtain ⟨v, e1, e2⟩ := both_holds hc hm hg (sA sa i 1) (sA sa i 2)
  obtain ⟨mf, h⟩ := k m s hc hm hg
  refine ⟨mf, ?_⟩
  refine r_aload_n 214 337 1 rfl rfl rfl rfl ?_
  refine r_aload_n 215 338 0 rfl rfl rfl rfl ?_
  refine r_iload_n 216 339 3 rfl rfl rfl rfl ?_
  refine r_iconst 217 340 (v := 1) rfl rfl (by decide) ?_
  refine r_iadd 218 341 rfl rfl ?_
  refine r_sld 219 342 rfl rfl (sx (k := 1) hs hi (by omega)) ?_
  refine r_aload_n 220 343 0 rfl rfl rfl rfl ?_
  refine r_iload_n 221 344 3 rfl rfl rfl rfl ?_
  refine r_iconst 222 345 (v := 2) rfl rfl (by decide) ?_
  refine r_iadd 223 346 rfl rfl ?_
  refine r_sld 224 347 rfl rfl (sx (k := 2) hs hi (by omega)) ?_
  refine r_cal 225 350 (st := []) (av := [.inr (.inr 1), .inl (sA sa i 1), .inl (sA sa i 2)]) (av' := [.inl (sA sa i 1), .inl (sA sa i 2)]) (μ' := u_X11_holds) (d := 4) rfl rfl mc_X11_holds in_X11_holds lk_RL_41 (Nat.le_of_ble_eq_true rfl) rfl rfl s_1 rfl (Nat.le_of_ble_eq_true rfl) (ct_X11_holds s_1 e1) ?_
  refine r_aload_n 226 351 2 rfl rfl rfl rfl ?_
  refine r_aload_n 227 352 0 rfl rfl rfl rfl ?_
  refine r_iload_n 228 353 3 rfl rfl rfl rfl ?_
  refine r_iconst 229 354 (v := 1) rfl rfl (by decide) ?_
  refine r_iadd 230 355 rfl rfl ?_
  refine r_sld 231 356 rfl rfl (sx (k := 1) hs hi (by omega)) ?_
  refine r_aload_n 232 357 0 rfl rfl rfl rfl ?_
  refine r_iload_n 233 358 3 rfl rfl rfl rfl ?_
  refine r_iconst 234 359 (v := 2) rfl rfl (by decide) ?_
  refine r_iadd 235 360 rfl rfl ?_
  refine r_sld 236 361 rfl rfl (sx (k := 2) hs hi (by omega)) ?_
  refine r_cal 237 364 (st := [.inl v]) (av := [.inr (.inr 870), .inl (sA sa i 1), .inl (sA sa i 2)]) (av' := [.inl (sA sa i 1), .inl (sA sa i 2)]) (μ' := u_X12_holds) (d := 4) rfl rfl mc_X12_holds in_X12_holds lk_RL_44 (Nat.le_of_ble_eq_true rfl) rfl rfl s_870 rfl (Nat.le_of_ble_eq_true rfl) (ct_X12_holds s_870 e2) ?_
  refine r_eqv 238 579 rfl rfl ?_
  exact h
set_option maxRecDepth 40000 in
set_option maxHeartbeats 4000000 in
theorem lw_write {sa : Nat → Nat} {i : Nat} {m : Mi} {s : St} (hs : sa 24 ≤ 3072) (hi : i + 6 ≤ sa 24) (hc : SC m s) (hm : SM m s) (hg : SG s) (k : ∀ m' s', SC m' s' → SM m' s' → SG s' → Lw sa 579 i m') : Lw sa 369 i m := by
  obtain ⟨v, m1, m2, s', e1, e2, c1, c2, c3⟩ := both_write hc hm hg (sA sa i 1) (sA sa i 2)
  obtain ⟨mf, h⟩ := k m2 s' c1 c2 c3
  refine ⟨mf, ?_⟩
  refine r_aload_n 241 370 1 rfl rfl rfl rfl ?_
  refine r_aload_n 242 371 0 rfl rfl rfl rfl ?_
  refine r_iload_n 243 372 3 rfl rfl rfl rfl ?_
  refine r_iconst 244 373 (v := 1) rfl rfl (by decide) ?_
  refine r_iadd 245 374 rfl rfl ?_
  refine r_sld 246 375 rfl rfl (sx (k := 1) hs hi (by omega)) ?_
  refine r_aload_n 247 376 0 rfl rfl rfl rfl ?_
  refine r_iload_n 248 377 3 rfl rfl rfl rfl ?_
  refine r_iconst 249 378 (v := 2) rfl rfl (by decide) ?_
  refine r_iadd 250 379 rfl rfl ?_
  refine r_sld 251 380 rfl rfl (sx (k := 2) hs hi (by omega)) ?_
  refine r_cal 252 383 (st := []) (av := [.inr (.inr 1), .inl (sA sa i 1), .inl (sA sa i 2)]) (av' := [.inl (sA sa i 1), .inl (sA sa i 2)]) (μ' := u_X11_write) (d := 11) rfl rfl mc_X11_write in_X11_write lk_RL_45 (Nat.le_of_ble_eq_true rfl) rfl rfl s_1 rfl (Nat.le_of_ble_eq_true rfl) (ct_X11_write s_1 e1) ?_
  refine r_aload_n 253 384 2 rfl rfl rfl rfl ?_
  refine r_aload_n 254 385 0 rfl rfl rfl rfl ?_
  refine r_iload_n 255 386 3 rfl rfl rfl rfl ?_
  refine r_iconst 256 387 (v := 1) rfl rfl (by decide) ?_
  refine r_iadd 257 388 rfl rfl ?_
  refine r_sld 258 389 rfl rfl (sx (k := 1) hs hi (by omega)) ?_
  refine r_aload_n 259 390 0 rfl rfl rfl rfl ?_
  refine r_iload_n 260 391 3 rfl rfl rfl rfl ?_
  refine r_iconst 261 392 (v := 2) rfl rfl (by decide) ?_
  refine r_iadd 262 393 rfl rfl ?_
  refine r_sld 263 394 rfl rfl (sx (k := 2) hs hi (by omega)) ?_
  refine r_cal 264 397 (st := [.inl v]) (av := [.inr (.inr 870), .inl (sA sa i 1), .inl (sA sa i 2)]) (av' := [.inl (sA sa i 1), .inl (sA sa i 2)]) (μ' := u_X12_write) (d := 6) rfl rfl mc_X12_write in_X12_write lk_RL_48 (Nat.le_of_ble_eq_true rfl) rfl rfl s_870 rfl (Nat.le_of_ble_eq_true rfl) (ct_X12_write s_870 e2) ?_
  refine r_eqv 265 579 rfl rfl ?_
  exact h
set_option maxRecDepth 40000 in
set_option maxHeartbeats 4000000 in
theorem lw_octet {sa : Nat → Nat} {i : Nat} {m : Mi} {s : St} (hs : sa 24 ≤ 3072) (hi : i + 6 ≤ sa 24) (hc : SC m s) (hm : SM m s) (hg : SG s) (k : ∀ m' s', SC m' s' → SM m' s' → SG s' → Lw sa 579 i m') : Lw sa 402 i m := by
  obtain ⟨v, e1, e2⟩ := both_octet hc hm (sA sa i 1)
  obtain ⟨mf, h⟩ := k m s hc hm hg
  refine ⟨mf, ?_⟩
  refine r_aload_n 268 403 1 rfl rfl rfl rfl ?_
  refine r_aload_n 269 404 0 rfl rfl rfl rfl ?_
  refine r_iload_n 270 405 3 rfl rfl rfl rfl ?_
  refine r_iconst 271 406 (v := 1) rfl rfl (by decide) ?_
  refine r_iadd 272 407 rfl rfl ?_
  refine r_sld 273 408 rfl rfl (sx (k := 1) hs hi (by omega)) ?_
  refine r_cal 274 411 (st := []) (av := [.inr (.inr 1), .inl (sA sa i 1)]) (av' := [.inl (sA sa i 1)]) (μ' := u_X11_octet) (d := 2) rfl rfl mc_X11_octet in_X11_octet lk_RL_49 (Nat.le_of_ble_eq_true rfl) rfl rfl s_1 rfl (Nat.le_of_ble_eq_true rfl) (ct_X11_octet s_1 e1) ?_
  refine r_aload_n 275 412 2 rfl rfl rfl rfl ?_
  refine r_aload_n 276 413 0 rfl rfl rfl rfl ?_
  refine r_iload_n 277 414 3 rfl rfl rfl rfl ?_
  refine r_iconst 278 415 (v := 1) rfl rfl (by decide) ?_
  refine r_iadd 279 416 rfl rfl ?_
  refine r_sld 280 417 rfl rfl (sx (k := 1) hs hi (by omega)) ?_
  refine r_cal 281 420 (st := [.inl v]) (av := [.inr (.inr 870), .inl (sA sa i 1)]) (av' := [.inl (sA sa i 1)]) (μ' := u_X12_octet) (d := 1) rfl rfl mc_X12_octet in_X12_octet lk_RL_52 (Nat.le_of_ble_eq_true rfl) rfl rfl s_870 rfl (Nat.le_of_ble_eq_true rfl) (ct_X12_octet s_870 e2) ?_
  refine r_eqv 282 579 rfl rfl ?_
  exact h
set_option maxRecDepth 40000 in
set_option maxHeartbeats 4000000 in
theorem lw_resolve {sa : Nat → Nat} {i : Nat} {m : Mi} {s : St} (hs : sa 24 ≤ 3072) (hi : i + 6 ≤ sa 24) (hc : SC m s) (hm : SM m s) (hg : SG s) (k : ∀ m' s', SC m' s' → SM m' s' → SG s' → Lw sa 579 i m') : Lw sa 425 i m := by
  obtain ⟨b, hb⟩ : ∃ b : Int32, b = if sA sa i 1 = 0 then 0 else 1 := ⟨_, rfl⟩
  obtain ⟨v, m1, m2, s', e1, e2, c1, c2, c3⟩ := both_resolve hc hm hg b
  obtain ⟨mf, h⟩ := k m2 s' c1 c2 c3
  refine ⟨mf, ?_⟩
  refine r_aload_n 285 426 1 rfl rfl rfl rfl ?_
  refine r_aload_n 286 427 0 rfl rfl rfl rfl ?_
  refine r_iload_n 287 428 3 rfl rfl rfl rfl ?_
  refine r_iconst 288 429 (v := 1) rfl rfl (by decide) ?_
  refine r_iadd 289 430 rfl rfl ?_
  refine r_sld 290 431 rfl rfl (sx (k := 1) hs hi (by omega)) ?_
  refine r_bool 291 292 293 294 438 439 (b := b) rfl rfl rfl rfl rfl rfl rfl rfl hb ?_
  refine r_cal 295 442 (st := []) (av := [.inr (.inr 1), .inl b]) (av' := [.inl b]) (μ' := u_X11_resolve) (d := 19) rfl rfl mc_X11_resolve in_X11_resolve lk_RL_53 (Nat.le_of_ble_eq_true rfl) rfl rfl s_1 rfl (Nat.le_of_ble_eq_true rfl) (ct_X11_resolve s_1 e1) ?_
  refine r_aload_n 296 443 2 rfl rfl rfl rfl ?_
  refine r_aload_n 297 444 0 rfl rfl rfl rfl ?_
  refine r_iload_n 298 445 3 rfl rfl rfl rfl ?_
  refine r_iconst 299 446 (v := 1) rfl rfl (by decide) ?_
  refine r_iadd 300 447 rfl rfl ?_
  refine r_sld 301 448 rfl rfl (sx (k := 1) hs hi (by omega)) ?_
  refine r_bool 302 303 304 305 455 456 (b := b) rfl rfl rfl rfl rfl rfl rfl rfl hb ?_
  refine r_cal 306 459 (st := [.inl v]) (av := [.inr (.inr 870), .inl b]) (av' := [.inl b]) (μ' := u_X12_resolve) (d := 7) rfl rfl mc_X12_resolve in_X12_resolve lk_RL_57 (Nat.le_of_ble_eq_true rfl) rfl rfl s_870 rfl (Nat.le_of_ble_eq_true rfl) (ct_X12_resolve s_870 e2) ?_
  refine r_eqv 307 579 rfl rfl ?_
  exact h
set_option maxRecDepth 40000 in
set_option maxHeartbeats 4000000 in
theorem lw_chosen {sa : Nat → Nat} {i : Nat} {m : Mi} {s : St} (hs : sa 24 ≤ 3072) (hi : i + 6 ≤ sa 24) (hc : SC m s) (hm : SM m s) (hg : SG s) (k : ∀ m' s', SC m' s' → SM m' s' → SG s' → Lw sa 579 i m') : Lw sa 464 i m := by
  obtain ⟨v, e1, e2⟩ := both_chosen hc hm hg (sA sa i 1)
  obtain ⟨mf, h⟩ := k m s hc hm hg
  refine ⟨mf, ?_⟩
  refine r_aload_n 310 465 1 rfl rfl rfl rfl ?_
  refine r_aload_n 311 466 0 rfl rfl rfl rfl ?_
  refine r_iload_n 312 467 3 rfl rfl rfl rfl ?_
  refine r_iconst 313 468 (v := 1) rfl rfl (by decide) ?_
  refine r_iadd 314 469 rfl rfl ?_
  refine r_sld 315 470 rfl rfl (sx (k := 1) hs hi (by omega)) ?_
  refine r_cal 316 473 (st := []) (av := [.inr (.inr 1), .inl (sA sa i 1)]) (av' := [.inl (sA sa i 1)]) (μ' := u_X11_chosen) (d := 2) rfl rfl mc_X11_chosen in_X11_chosen lk_RL_58 (Nat.le_of_ble_eq_true rfl) rfl rfl s_1 rfl (Nat.le_of_ble_eq_true rfl) (ct_X11_chosen s_1 e1) ?_
  refine r_aload_n 317 474 2 rfl rfl rfl rfl ?_
  refine r_aload_n 318 475 0 rfl rfl rfl rfl ?_
  refine r_iload_n 319 476 3 rfl rfl rfl rfl ?_
  refine r_iconst 320 477 (v := 1) rfl rfl (by decide) ?_
  refine r_iadd 321 478 rfl rfl ?_
  refine r_sld 322 479 rfl rfl (sx (k := 1) hs hi (by omega)) ?_
  refine r_cal 323 482 (st := [.inl v]) (av := [.inr (.inr 870), .inl (sA sa i 1)]) (av' := [.inl (sA sa i 1)]) (μ' := u_X12_chosen) (d := 2) rfl rfl mc_X12_chosen in_X12_chosen lk_RL_61 (Nat.le_of_ble_eq_true rfl) rfl rfl s_870 rfl (Nat.le_of_ble_eq_true rfl) (ct_X12_chosen s_870 e2) ?_
  refine r_eqv 324 579 rfl rfl ?_
  exact h
set_option maxRecDepth 40000 in
set_option maxHeartbeats 4000000 in
theorem lw_reason {sa : Nat → Nat} {i : Nat} {m : Mi} {s : St} (hs : sa 24 ≤ 3072) (hi : i + 6 ≤ sa 24) (hc : SC m s) (hm : SM m s) (hg : SG s) (k : ∀ m' s', SC m' s' → SM m' s' → SG s' → Lw sa 579 i m') : Lw sa 487 i m := by
  obtain ⟨v, e1, e2⟩ := both_reason hc hm hg (sA sa i 1)
  obtain ⟨mf, h⟩ := k m s hc hm hg
  refine ⟨mf, ?_⟩
  refine r_aload_n 327 488 1 rfl rfl rfl rfl ?_
  refine r_aload_n 328 489 0 rfl rfl rfl rfl ?_
  refine r_iload_n 329 490 3 rfl rfl rfl rfl ?_
  refine r_iconst 330 491 (v := 1) rfl rfl (by decide) ?_
  refine r_iadd 331 492 rfl rfl ?_
  refine r_sld 332 493 rfl rfl (sx (k := 1) hs hi (by omega)) ?_
  refine r_cal 333 496 (st := []) (av := [.inr (.inr 1), .inl (sA sa i 1)]) (av' := [.inl (sA sa i 1)]) (μ' := u_X11_reason) (d := 2) rfl rfl mc_X11_reason in_X11_reason lk_RL_62 (Nat.le_of_ble_eq_true rfl) rfl rfl s_1 rfl (Nat.le_of_ble_eq_true rfl) (ct_X11_reason s_1 e1) ?_
  refine r_aload_n 334 497 2 rfl rfl rfl rfl ?_
  refine r_aload_n 335 498 0 rfl rfl rfl rfl ?_
  refine r_iload_n 336 499 3 rfl rfl rfl rfl ?_
  refine r_iconst 337 500 (v := 1) rfl rfl (by decide) ?_
  refine r_iadd 338 501 rfl rfl ?_
  refine r_sld 339 502 rfl rfl (sx (k := 1) hs hi (by omega)) ?_
  refine r_cal 340 505 (st := [.inl v]) (av := [.inr (.inr 870), .inl (sA sa i 1)]) (av' := [.inl (sA sa i 1)]) (μ' := u_X12_reason) (d := 1) rfl rfl mc_X12_reason in_X12_reason lk_RL_65 (Nat.le_of_ble_eq_true rfl) rfl rfl s_870 rfl (Nat.le_of_ble_eq_true rfl) (ct_X12_reason s_870 e2) ?_
  refine r_eqv 341 579 rfl rfl ?_
  exact h
set_option maxRecDepth 40000 in
set_option maxHeartbeats 4000000 in
theorem lw_solutions {sa : Nat → Nat} {i : Nat} {m : Mi} {s : St} (hs : sa 24 ≤ 3072) (hi : i + 6 ≤ sa 24) (hc : SC m s) (hm : SM m s) (hg : SG s) (k : ∀ m' s', SC m' s' → SM m' s' → SG s' → Lw sa 579 i m') : Lw sa 510 i m := by
  obtain ⟨v, m1, m2, s', e1, e2, c1, c2, c3⟩ := both_solutions hc hm hg (sA sa i 1)
  obtain ⟨mf, h⟩ := k m2 s' c1 c2 c3
  refine ⟨mf, ?_⟩
  refine r_aload_n 344 511 1 rfl rfl rfl rfl ?_
  refine r_aload_n 345 512 0 rfl rfl rfl rfl ?_
  refine r_iload_n 346 513 3 rfl rfl rfl rfl ?_
  refine r_iconst 347 514 (v := 1) rfl rfl (by decide) ?_
  refine r_iadd 348 515 rfl rfl ?_
  refine r_sld 349 516 rfl rfl (sx (k := 1) hs hi (by omega)) ?_
  refine r_cal 350 519 (st := []) (av := [.inr (.inr 1), .inl (sA sa i 1)]) (av' := [.inl (sA sa i 1)]) (μ' := u_X11_solutions) (d := 18) rfl rfl mc_X11_solutions in_X11_solutions lk_RL_66 (Nat.le_of_ble_eq_true rfl) rfl rfl s_1 rfl (Nat.le_of_ble_eq_true rfl) (ct_X11_solutions s_1 e1) ?_
  refine r_aload_n 351 520 2 rfl rfl rfl rfl ?_
  refine r_aload_n 352 521 0 rfl rfl rfl rfl ?_
  refine r_iload_n 353 522 3 rfl rfl rfl rfl ?_
  refine r_iconst 354 523 (v := 1) rfl rfl (by decide) ?_
  refine r_iadd 355 524 rfl rfl ?_
  refine r_sld 356 525 rfl rfl (sx (k := 1) hs hi (by omega)) ?_
  refine r_cal 357 528 (st := [.inl v]) (av := [.inr (.inr 870), .inl (sA sa i 1)]) (av' := [.inl (sA sa i 1)]) (μ' := u_X12_solutions) (d := 6) rfl rfl mc_X12_solutions in_X12_solutions lk_RL_69 (Nat.le_of_ble_eq_true rfl) rfl rfl s_870 rfl (Nat.le_of_ble_eq_true rfl) (ct_X12_solutions s_870 e2) ?_
  refine r_eqv 358 579 rfl rfl ?_
  exact h
set_option maxRecDepth 40000 in
set_option maxHeartbeats 4000000 in
theorem lw_why {sa : Nat → Nat} {i : Nat} {m : Mi} {s : St} (hs : sa 24 ≤ 3072) (hi : i + 6 ≤ sa 24) (hc : SC m s) (hm : SM m s) (hg : SG s) (k : ∀ m' s', SC m' s' → SM m' s' → SG s' → Lw sa 579 i m') : Lw sa 533 i m := by
  obtain ⟨v, m1, m2, s', e1, e2, c1, c2, c3⟩ := both_why hc hm hg (sA sa i 1)
  obtain ⟨mf, h⟩ := k m2 s' c1 c2 c3
  refine ⟨mf, ?_⟩
  refine r_aload_n 361 534 1 rfl rfl rfl rfl ?_
  refine r_aload_n 362 535 0 rfl rfl rfl rfl ?_
  refine r_iload_n 363 536 3 rfl rfl rfl rfl ?_
  refine r_iconst 364 537 (v := 1) rfl rfl (by decide) ?_
  refine r_iadd 365 538 rfl rfl ?_
  refine r_sld 366 539 rfl rfl (sx (k := 1) hs hi (by omega)) ?_
  refine r_cal 367 542 (st := []) (av := [.inr (.inr 1), .inl (sA sa i 1)]) (av' := [.inl (sA sa i 1)]) (μ' := u_X11_why) (d := 4) rfl rfl mc_X11_why in_X11_why lk_RL_70 (Nat.le_of_ble_eq_true rfl) rfl rfl s_1 rfl (Nat.le_of_ble_eq_true rfl) (ct_X11_why s_1 e1) ?_
  refine r_aload_n 368 543 2 rfl rfl rfl rfl ?_
  refine r_aload_n 369 544 0 rfl rfl rfl rfl ?_
  refine r_iload_n 370 545 3 rfl rfl rfl rfl ?_
  refine r_iconst 371 546 (v := 1) rfl rfl (by decide) ?_
  refine r_iadd 372 547 rfl rfl ?_
  refine r_sld 373 548 rfl rfl (sx (k := 1) hs hi (by omega)) ?_
  refine r_cal 374 551 (st := [.inl v]) (av := [.inr (.inr 870), .inl (sA sa i 1)]) (av' := [.inl (sA sa i 1)]) (μ' := u_X12_why) (d := 3) rfl rfl mc_X12_why in_X12_why lk_RL_73 (Nat.le_of_ble_eq_true rfl) rfl rfl s_870 rfl (Nat.le_of_ble_eq_true rfl) (ct_X12_why s_870 e2) ?_
  refine r_eqv 375 579 rfl rfl ?_
  exact h
set_option maxRecDepth 40000 in
set_option maxHeartbeats 4000000 in
theorem lw_count {sa : Nat → Nat} {i : Nat} {m : Mi} {s : St} (hs : sa 24 ≤ 3072) (hi : i + 6 ≤ sa 24) (hc : SC m s) (hm : SM m s) (hg : SG s) (k : ∀ m' s', SC m' s' → SM m' s' → SG s' → Lw sa 579 i m') : Lw sa 556 i m := by
  obtain ⟨v, e1, e2⟩ := both_count hc hm hg (sA sa i 1)
  obtain ⟨mf, h⟩ := k m s hc hm hg
  refine ⟨mf, ?_⟩
  refine r_aload_n 378 557 1 rfl rfl rfl rfl ?_
  refine r_aload_n 379 558 0 rfl rfl rfl rfl ?_
  refine r_iload_n 380 559 3 rfl rfl rfl rfl ?_
  refine r_iconst 381 560 (v := 1) rfl rfl (by decide) ?_
  refine r_iadd 382 561 rfl rfl ?_
  refine r_sld 383 562 rfl rfl (sx (k := 1) hs hi (by omega)) ?_
  refine r_cal 384 565 (st := []) (av := [.inr (.inr 1), .inl (sA sa i 1)]) (av' := [.inl (sA sa i 1)]) (μ' := u_X11_count) (d := 2) rfl rfl mc_X11_count in_X11_count lk_RL_74 (Nat.le_of_ble_eq_true rfl) rfl rfl s_1 rfl (Nat.le_of_ble_eq_true rfl) (ct_X11_count s_1 e1) ?_
  refine r_aload_n 385 566 2 rfl rfl rfl rfl ?_
  refine r_aload_n 386 567 0 rfl rfl rfl rfl ?_
  refine r_iload_n 387 568 3 rfl rfl rfl rfl ?_
  refine r_iconst 388 569 (v := 1) rfl rfl (by decide) ?_
  refine r_iadd 389 570 rfl rfl ?_
  refine r_sld 390 571 rfl rfl (sx (k := 1) hs hi (by omega)) ?_
  refine r_cal 391 574 (st := [.inl v]) (av := [.inr (.inr 870), .inl (sA sa i 1)]) (av' := [.inl (sA sa i 1)]) (μ' := u_X12_count) (d := 2) rfl rfl mc_X12_count in_X12_count lk_RL_77 (Nat.le_of_ble_eq_true rfl) rfl rfl s_870 rfl (Nat.le_of_ble_eq_true rfl) (ct_X12_count s_870 e2) ?_
  refine r_eqv 392 579 rfl rfl ?_
  exact h
