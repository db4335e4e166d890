/-! write of the class. -/
/-- the text of release r -/
def reT (T : Nat → Nat) (G : Rg) (r : Nat) : List Nat := match G.2.1[r]? with
  | some y => (match G.1[y.1]? with | some x => cutT T x.1 x.2.1 ++ (32 :: cutT T y.2.1 y.2.2.1) | none => [])
  | none => []
def kwT (k : Nat) : List Nat := if k = 4 then [119, 97, 110, 116] else if k = 5 then [110, 101, 101, 100, 115] else [99, 108, 97, 115, 104]
/-- the text of a constraint, ahead of its range -/
def liT (T : Nat → Nat) (G : Rg) (x : CnT) : List Nat := (if x.1 = 4 then [] else reT T G x.2.1 ++ [32]) ++ (kwT x.1 ++ (32 :: (cutT T x.2.2.1.1 x.2.2.1.2 ++ [32])))
theorem rel_of {T : Nat → Nat} {n : Nat} {G : Rg} (hO : RO T n G) (hN : NmL G) {r : Nat} (hr : r < G.2.1.length) : ∃ y x, G.2.1[r]? = some y ∧ G.1[y.1]? = some x ∧ y.1 < G.1.length ∧ reT T G r = cutT T x.1 x.2.1 ++ (32 :: cutT T y.2.1 y.2.2.1) ∧ x.1 ≤ x.2.1 ∧ x.2.1 ≤ n ∧ x.2.1 ≤ x.1 + 12 ∧ y.2.1 ≤ y.2.2.1 ∧ y.2.2.1 ≤ n ∧ y.2.2.1 ≤ y.2.1 + 101 := by
  obtain ⟨y, hy⟩ := get_some hr
  have hyl := hO.1.1.1 y (List.mem_of_getElem? hy)
  obtain ⟨x, hx⟩ := get_some hyl
  have hG := hO.1.2.2.1 y (List.mem_of_getElem? hy)
  obtain ⟨ns, is, hrd⟩ := hG.2.2
  have hl := rdv_len hrd
  have hp := hO.1.2.1 x (List.mem_of_getElem? hx)
  refine ⟨y, x, hy, hx, hyl, ?_, hp.1, hp.2, hN x (List.mem_of_getElem? hx), by omega, hG.2.1, hl.2⟩
  unfold reT
  rw [hy]
  show (match G.1[y.1]? with | some x => cutT T x.1 x.2.1 ++ (32 :: cutT T y.2.1 y.2.2.1) | none => []) = _
  rw [hx]
theorem reT_len {T : Nat → Nat} {n : Nat} {G : Rg} (hO : RO T n G) (hN : NmL G) {r : Nat} (hr : r < G.2.1.length) : (reT T G r).length ≤ 114 := by
  obtain ⟨y, x, _, _, _, e, h1, h2, h3, h4, h5, h6⟩ := rel_of hO hN hr
  rw [e, List.length_append, List.length_cons, cutT_len, cutT_len]
  omega
def FW8 (x : Nat) : Prop := 864 ≤ x ∧ x ≤ 869
theorem FJ.F {m m' : Mi} (h : FJ m m') : Fr FW8 m m' := ⟨fun x j e => ⟨h.1 x j (fun z => e (by unfold FPg at z; unfold FW8; omega)), h.2.1 x j (fun z => e (by unfold FW8; omega))⟩, fun x j _ => h.2.2 x j⟩
theorem CG0.keepJ {q n : Nat} {m m' : Mi} {T : Nat → Nat} {G : Rg} (h : CG0 q m T n G) (hq : QS q) (hB : BGd G) (k : FJ m m') : CG0 q m' T n G := h.keepF hq hB k.F (fun x a b => by
  unfold FW8
  rcases hq.1 with e | e <;> omega)
theorem release_C {q n r : Nat} {m : Mi} {L : List Nat} {T : Nat → Nat} {G : Rg} (hq : QS q) (hO : RO T n G) (hN : NmL G) (hC : CG0 q m T n G) (hP : PgC m L) (hr : r < G.2.1.length) (hL : L.length ≤ 1000) : ∃ m', f_X3_putRelease TT m 864 q (nI r) = some m' ∧ PgC m' (L ++ reT T G r) ∧ FI FPg m m' := by
  have hB := hO.2.1
  have hB1 := hB.1
  have hB2 := hB.2.1
  have hn := hO.2.2.2.2.1
  have hq1 := hq.1
  obtain ⟨y, x, hy, hx, hyl, e, a1, a2, a3, a4, a5, a6⟩ := rel_of hO hN hr
  have dr := hC.2.2.1.2.2.2.2.2.1 r y hy
  have dp := hC.2.2.1.2.2.2.2.1 y.1 x hx
  obtain ⟨m1, e1, p1, f1⟩ := putBytes_C (c := q + 1) hq.2.2.1 (by omega) hn a1 a2 hP (by omega) hC.2.1
  obtain ⟨m2, e2, p2, f2, _⟩ := sign_C (b := 32) (v := 32) p1 (by rw [List.length_append, cutT_len]; omega) (by omega) (nar_bT 32 (by omega))
  have hT2 : Tx m2 (q + 1) n T := fun j hj => ⟨((f1.tr f2).1 _ _ (by unfold FPg; omega)).trans (hC.2.1 j hj).1, (hC.2.1 j hj).2⟩
  obtain ⟨m3, e3, p3, f3⟩ := putBytes_C (c := q + 1) hq.2.2.1 (by omega) hn a4 a5 p2 (by rw [List.length_append, List.length_append, List.length_singleton, cutT_len]; omega) hT2
  refine ⟨m3, ?_, ?_, (f1.tr f2).tr f3⟩
  · unfold f_X3_putRelease
    rw [ob_of hq.2.1, if_pos rfl, releaseAt_C hq hC.1 hC.2.2.1 hB hr, Option.bind_some, if_neg (show ¬ q + 24 + 2 * r = 0 by omega), ob_of (hq.2.2.2.2.2.2.2.2.2.1 r (by omega)).1, if_pos rfl, dr.1, packAt_C hq hC.1 hC.2.2.1 hB hyl, Option.bind_some]
    unfold f_X3_putRelease_j22
    rw [if_neg (show ¬ q + 3 + 2 * y.1 = 0 by omega), ob_of (hq.2.2.2.2.2.2.2.2.1 y.1 (by omega)).1, if_pos rfl, hC.1.1, dp.1, dp.2.1, e1, Option.bind_some, e2, Option.bind_some, ob_of (hq.2.2.2.2.2.2.2.2.2.1 r (by omega)).1, if_pos rfl, show gr m2 q 0 = q + 1 from ((f1.tr f2).2.2 _ _).trans hC.1.1, show gi m2 (q + 24 + 2 * r) 2 = nI y.2.1 from ((f1.tr f2).1 _ _ (by unfold FPg; omega)).trans dr.2.1, show gi m2 (q + 24 + 2 * r) 3 = nI y.2.2.1 from ((f1.tr f2).1 _ _ (by unfold FPg; omega)).trans dr.2.2.1, e3, Option.bind_some]
  · rw [e]
    rw [List.append_assoc, List.append_assoc] at p3
    exact p3
theorem link_C {q n c : Nat} {m : Mi} {T : Nat → Nat} {G : Rg} {x : CnT} (hq : QS q) (hO : RO T n G) (hN : NmL G) (hC : CG0 q m T n G) (hP : PgC m []) (hx : G.2.2[c]? = some x) : ∃ m', f_X3_putLink TT m 864 q (q + 145 + c) = some m' ∧ PgC m' (liT T G x) ∧ FI FPg m m' ∧ (liT T G x).length ≤ 134 := by
  have hB := hO.2.1
  have hB2 := hB.2.1
  have hB3 := hB.2.2
  have hn := hO.2.2.2.2.1
  have hq1 := hq.1
  have hc := get_lt hx
  have hxm := List.mem_of_getElem? hx
  have hg := hO.1.2.2.2.1 x hxm
  have h12 := con_12 hO hN hx
  have dk := hC.2.2.1.2.2.2.2.2.2 c x hx
  have hob := ob_of (t := TT) (hq.2.2.2.2.2.2.2.2.2.2 c (by omega))
  have hkw : (kwT x.1).length ≤ 5 := by unfold kwT; split; decide; split <;> decide
  -- behind the word
  have rest : ∀ (m1 : Mi) (L1 : List Nat), PgC m1 L1 → FI FPg m m1 → L1.length ≤ 200 → ∃ m', f_X3_putLink_j51 TT m1 864 q (q + 145 + c) = some m' ∧ PgC m' (L1 ++ (32 :: (cutT T x.2.2.1.1 x.2.2.1.2 ++ [32]))) ∧ FI FPg m m' := by
    intro m1 L1 p1 f1 hL1
    obtain ⟨m2, e2, p2, f2, _⟩ := sign_C (b := 32) (v := 32) p1 (by omega) (by omega) (nar_bT 32 (by omega))
    have hT2 : Tx m2 (q + 1) n T := fun j hj => ⟨((f1.tr f2).1 _ _ (by unfold FPg; omega)).trans (hC.2.1 j hj).1, (hC.2.1 j hj).2⟩
    obtain ⟨m3, e3, p3, f3⟩ := putBytes_C (c := q + 1) hq.2.2.1 (by omega) hn hg.2.1 hg.2.2.1 p2 (by rw [List.length_append, List.length_singleton]; omega) hT2
    obtain ⟨m4, e4, p4, f4, _⟩ := sign_C (b := 32) (v := 32) p3 (by rw [List.length_append, List.length_append, List.length_singleton, cutT_len]; omega) (by omega) (nar_bT 32 (by omega))
    refine ⟨m4, ?_, ?_, ((f1.tr f2).tr f3).tr f4⟩
    · unfold f_X3_putLink_j51
      rw [e2, Option.bind_some, ob_of hq.2.1, if_pos rfl, show gr m2 q 0 = q + 1 from ((f1.tr f2).2.2 _ _).trans hC.1.1, show gi m2 (q + 145 + c) 2 = nI x.2.2.1.1 from ((f1.tr f2).1 _ _ (by unfold FPg; omega)).trans dk.2.2.1, show gi m2 (q + 145 + c) 3 = nI x.2.2.1.2 from ((f1.tr f2).1 _ _ (by unfold FPg; omega)).trans dk.2.2.2.1, e3, Option.bind_some, e4, Option.bind_some]
    · rw [List.append_assoc, List.append_assoc] at p4
      exact p4
  have hcl : (cutT T x.2.2.1.1 x.2.2.1.2).length ≤ 12 := by rw [cutT_len]; omega
  unfold f_X3_putLink
  rw [hob, if_pos rfl, dk.1]
  by_cases h4 : x.1 = 4
  · obtain ⟨m1, e1, p1, f1⟩ := words_C 0 (by omega) hP (by show 0 + 4 ≤ 2500; omega)
    rw [if_pos (show nI x.1 = 4 by rw [h4]; rfl), show f_X3_putText TT m 864 1048577 = _ from e1, Option.bind_some]
    obtain ⟨m', e, p, f⟩ := rest m1 _ p1 f1 (by show 4 ≤ 200; omega)
    have hl : liT T G x = [119, 97, 110, 116] ++ (32 :: (cutT T x.2.2.1.1 x.2.2.1.2 ++ [32])) := by
      unfold liT kwT
      rw [if_pos h4, if_pos h4]
      rfl
    refine ⟨m', e, by rw [hl]; exact p, f, ?_⟩
    rw [hl]
    simp only [List.length_append, List.length_cons, List.length_nil]
    omega
  · obtain ⟨_, y, hy, _, _, _, _, _⟩ := hv_of hO hx h4
    have hrl := get_lt hy
    obtain ⟨m1, e1, p1, f1⟩ := release_C hq hO hN hC hP hrl (by show 0 ≤ 1000; omega)
    have hre := reT_len hO hN hrl
    rw [List.nil_append] at p1
    obtain ⟨m2, e2, p2, f2, _⟩ := sign_C (b := 32) (v := 32) p1 (by omega) (by omega) (nar_bT 32 (by omega))
    have hk2 : gi m2 (q + 145 + c) 0 = nI x.1 := ((f1.tr f2).1 _ _ (by unfold FPg; omega)).trans dk.1
    have hkd := hg.1
    rw [if_neg (show ¬ nI x.1 = 4 from fun z => h4 ((nI_eq (b := 4) (by omega) (by omega)).mp z)), dk.2.1, if_neg h4, e1, Option.bind_some, e2, Option.bind_some, hk2]
    unfold f_X3_putLink_j48
    have fin : ∀ k, k < 10 → sTx (1048577 + k) = kwT x.1 → ∃ m', (if ob TT 864 3 = true then (f_X3_putText TT m2 864 (1048577 + k)).bind fun m11 => f_X3_putLink_j51 TT m11 864 q (q + 145 + c) else none) = some m' ∧ PgC m' (liT T G x) ∧ FI FPg m m' ∧ (liT T G x).length ≤ 134 := by
      intro k hk hkt
      obtain ⟨m3, e3, p3, f3⟩ := words_C k hk p2 (by rw [hkt, List.length_append, List.length_singleton]; omega)
      obtain ⟨m', e, p, f⟩ := rest m3 _ p3 ((f1.tr f2).tr f3) (by rw [hkt, List.length_append, List.length_append, List.length_singleton]; omega)
      have hl : liT T G x = (reT T G x.2.1 ++ [32] ++ sTx (1048577 + k)) ++ (32 :: (cutT T x.2.2.1.1 x.2.2.1.2 ++ [32])) := by
        unfold liT
        rw [if_neg h4, hkt, List.append_assoc (reT T G x.2.1 ++ [32])]
      refine ⟨m', ?_, by rw [hl]; exact p, f, ?_⟩
      · rw [ob_of s_864, if_pos rfl, e3, Option.bind_some, e]
      · rw [hl, hkt]
        simp only [List.length_append, List.length_cons, List.length_nil]
        omega
    by_cases h5 : x.1 = 5
    · rw [if_pos (show nI x.1 = 5 by rw [h5]; rfl)]
      exact fin 1 (by omega) (by unfold kwT; rw [if_neg h4, if_pos h5]; rfl)
    · rw [if_neg (show ¬ nI x.1 = 5 from fun z => h5 ((nI_eq (b := 5) (by omega) (by omega)).mp z))]
      exact fin 2 (by omega) (by unfold kwT; rw [if_neg h4, if_neg h5]; rfl)
theorem clear_P {m : Mi} {L : List Nat} (hP : PgC m L) : PgC (si m 864 1 0) [] ∧ FJ m (si m 864 1 0) := ⟨⟨hP.1, by simp, gi_si _ _ _ _, fun i b hi => by cases hi⟩, ⟨fun x j z => by simp only [mS]; rw [if_neg (fun y => z (Or.inr (Or.inr y)))], fun _ _ _ => rfl, fun _ _ => rfl⟩⟩
/-- a slot is written -/
theorem write0_C {k : Nat} {D : List DB} {m : Mi} {L : List Nat} {S : Nat → List Row} (hI : WFC m) (hS : CSl m S) (hP : PgC m L) (hk : k < 16) (hD : GD D) (hSD : S k = D.map rwO) : ∃ m', f_X11_write TT m 1 0 (nI k) = some (nI (wtx D).length, m') ∧ PgC m' (wtx D) ∧ FJ m m' := by
  obtain ⟨⟨w1, w2, w3, w4, w5, w6, w7, w8, w9, w10⟩, w11⟩ := hI
  obtain ⟨p0, j0⟩ := clear_P hP
  have hR : RG TT m (4 + 2 * k) 256 (D.map rwO) := by rw [← hSD]; exact hS.1 k hk
  obtain ⟨m1, e1, p1, j1⟩ := putRange_C hD (by omega) p0 (hR.keepJ (by omega) j0) (by simp)
  rw [List.nil_append] at p1
  refine ⟨m1, ?_, p1, j0.tr j1⟩
  unfold f_X11_write f_X3_clear
  rcases sOk_cases (nI k) with ⟨a1, a2, -⟩ | ⟨k', hk', e', a1, a2, -⟩
  · exfalso
    unfold f_X11_isSlot at a2
    rw [if_neg (nI_nlt0 (by omega)), if_neg (show ¬ (16 : Int32) ≤ nI k from nI_ge (b := 16) hk (by omega))] at a2
    cases a2
  · rw [if_pos rfl, a2, Option.bind_some, if_neg (by decide), w10, ob_of s_864, if_pos rfl, lt_eq, Option.bind_some, show gr (si m 864 1 0) 1 2 = 3 from w2, if_pos (ar_of s_3 hk (by omega)), show gr (si m 864 1 0) 1 12 = 864 from w10, ob_of s_864, if_pos rfl, ix_nI (by omega), show gr (si m 864 1 0) 3 k = 4 + 2 * k from w11 k hk, e1, Option.bind_some, show gr m1 1 12 = 864 from (j1.2.2 _ _).trans w10, ob_of s_864, if_pos rfl]
    unfold f_X3_length
    rw [Option.bind_some, p1.2.2.1]
/-- a release is written -/
theorem write1_C {r n : Nat} {m : Mi} {L : List Nat} {T : Nat → Nat} {G : Rg} (hI : WFC m) (hR : CRg m T n G) (hO : RO T n G) (hN : NmL G) (hP : PgC m L) (hr : r < G.2.1.length) : ∃ m', f_X11_write TT m 1 1 (nI r) = some (nI (reT T G r).length, m') ∧ PgC m' (reT T G r) ∧ FJ m m' := by
  have hB := hO.2.1
  obtain ⟨q, q', hqq, r8, r9, hcg, _⟩ := hR
  have hq : QS q := by rcases hqq with e | e <;> rw [e.1]; exact qs59; exact qs456
  have hq1 := hq.1
  obtain ⟨⟨w1, w2, w3, w4, w5, w6, w7, w8, w9, w10⟩, w11⟩ := hI
  obtain ⟨p0, j0⟩ := clear_P hP
  obtain ⟨m1, e1, p1, f1⟩ := release_C hq hO hN (hcg.1.keepJ hq hB j0) p0 hr (by simp)
  rw [List.nil_append] at p1
  refine ⟨m1, ?_, p1, j0.tr f1.J⟩
  unfold f_X11_write f_X11_write_j39 f_X3_clear
  rw [if_neg (by decide), if_pos rfl, r8, ob_of hq.2.1, if_pos rfl, releaseAt_C hq hcg.1.1 hcg.1.2.2.1 hB hr, Option.bind_some, if_neg (show ¬ q + 24 + 2 * r = 0 by omega), w10, ob_of s_864, if_pos rfl, lt_eq, Option.bind_some, show gr (si m 864 1 0) 1 12 = 864 from w10, ob_of s_864, if_pos rfl, show gr (si m 864 1 0) 1 8 = q from r8, e1, Option.bind_some, show gr m1 1 12 = 864 from (f1.2.2 _ _).trans w10, ob_of s_864, if_pos rfl]
  unfold f_X3_length
  rw [Option.bind_some, p1.2.2.1]
def FW9 (x : Nat) : Prop := FW8 x ∨ (42 ≤ x ∧ x ≤ 58) ∨ x = 36 ∨ x = 37
theorem PgC.kF {m m' : Mi} {L : List Nat} {P : Nat → Prop} (h : PgC m L) (k : Fr P m m') (hp : ¬ P 864 ∧ ¬ P 865) : PgC m' L := ⟨⟨(k.2 _ _ (by unfold NR; omega)).trans h.1.1, (k.2 _ _ (by unfold NR; omega)).trans h.1.2.1, (k.2 _ _ (by unfold NR; omega)).trans h.1.2.2.1, (k.2 _ _ (by unfold NR; omega)).trans h.1.2.2.2.1, (k.2 _ _ (by unfold NR; omega)).trans h.1.2.2.2.2⟩, h.2.1, (k.1 _ _ hp.1).1.trans h.2.2.1, fun i b hi => ⟨(k.1 _ _ hp.2).1.trans (h.2.2.2 i b hi).1, (h.2.2.2 i b hi).2⟩⟩
/-- a constraint is written -/
theorem write2_C {c n : Nat} {D : List DB} {m : Mi} {L : List Nat} {T : Nat → Nat} {G : Rg} {x : CnT} {S : Nat → List Row} (hI : InC m) (hS : CSl m S) (hR : CRg m T n G) (hO : RO T n G) (hN : NmL G) (hP : PgC m L) (hx : G.2.2[c]? = some x) (hD : GD D) (hSD : rgC T x = D.map rwO) : ∃ m', f_X11_write TT m 1 2 (nI c) = some (nI (liT T G x ++ wtx D).length, m') ∧ PgC m' (liT T G x ++ wtx D) ∧ Fr FW9 m m' ∧ InC m' ∧ ∃ J, RG TT m' 36 512 J := by
  have hB := hO.2.1
  have hB3 := hB.2.2
  have hc := get_lt hx
  obtain ⟨q, q', hqq, r8, r9, hcg, _⟩ := hR
  have hq : QS q := by rcases hqq with e | e <;> rw [e.1]; exact qs59; exact qs456
  have hq1 := hq.1
  have hWF := hI.1
  obtain ⟨⟨w1, w2, w3, w4, w5, w6, w7, w8, w9, w10⟩, w11⟩ := hWF
  obtain ⟨p0, j0⟩ := clear_P hP
  have C0 := hcg.1.keepJ hq hB j0
  obtain ⟨J, hJ⟩ := hS.2
  have J0 := hJ.keepJ (by omega) j0
  have I0 : InC (si m 864 1 0) := hI.keepF j0.F (hI.2.2.2.1.keepF j0.F (fun x a b => by unfold FW8; omega))
  obtain ⟨m2, m3, e2, e3, i3, g3, b3, f2, f3⟩ := rgRead_C hq hO I0 J0 C0 hx
  have p3 : PgC m3 [] := p0.kF f3 ⟨by omega, by omega⟩
  have C3 : CG0 q m3 T n G := C0.keepF hq hB f3 (fun x a b => by omega)
  obtain ⟨m4, e4, p4, f4, hl4⟩ := link_C hq hO hN C3 p3 hx
  rw [hSD] at g3
  obtain ⟨m5, e5, p5, j5⟩ := putRange_C hD (by omega) p4 (g3.keepJ (by omega) f4.J) (by omega)
  have j35 := f4.J.tr j5
  have ff : Fr FW9 m m5 := ((j0.F.mono (fun x h => Or.inl h)).tr (f3.mono (fun x h => Or.inr h))).tr (j35.F.mono (fun x h => Or.inl h))
  refine ⟨m5, ?_, p5, ff, i3.keepF j35.F (i3.2.2.2.1.keepF j35.F (fun x a b => by unfold FW8; omega)), _, g3.keepJ (by omega) j35⟩
  have n2 : ∀ x j, ¬ NR x j → gr m2 x j = gr m x j := fun x j z => f2.2 x j z
  have n3 : ∀ x j, ¬ NR x j → gr m3 x j = gr m x j := fun x j z => f3.2 x j z
  unfold f_X11_write f_X11_write_j39 f_X11_write_j82 f_X3_clear
  rw [if_neg (by decide), if_neg (by decide), r8, ob_of hq.2.1, if_pos rfl, conAt_C hq hcg.1.1 hcg.1.2.2.1 hB hc, Option.bind_some, if_pos rfl, if_neg (show ¬ q + 145 + c = 0 by omega), w10, ob_of s_864, if_pos rfl, lt_eq, Option.bind_some]
  unfold f_X11_putConstraint
  rw [show gr (si m 864 1 0) 1 8 = q from r8, ob_of hq.2.1, if_pos rfl, ob_of (hq.2.2.2.2.2.2.2.2.2.2 c (by omega)), if_pos rfl, show gr (si m 864 1 0) 1 6 = 42 from w6, ob_of s_42, if_pos rfl, show gr (si m 864 1 0) q 0 = q + 1 from hcg.1.1.1, e2, Option.bind_some, n2 1 8 (by unfold NR; omega), r8, ob_of hq.2.1, if_pos rfl, n2 1 7 (by unfold NR; omega), w7, ob_of s_48, if_pos rfl, n2 q 0 (by unfold NR; omega), hcg.1.1.1, n2 1 6 (by unfold NR; omega), w6, n2 1 3 (by unfold NR; omega), w3, e3, Option.bind_some, n3 1 12 (by unfold NR; omega), w10, ob_of s_864, if_pos rfl, n3 1 8 (by unfold NR; omega), r8, e4, Option.bind_some, show gr m4 1 12 = 864 from (f4.2.2 _ _).trans ((n3 1 12 (by unfold NR; omega)).trans w10), ob_of s_864, if_pos rfl, show gr m4 1 3 = 36 from (f4.2.2 _ _).trans ((n3 1 3 (by unfold NR; omega)).trans w3), e5, Option.bind_some, Option.bind_some, show gr m5 1 12 = 864 from (j5.2.2 _ _).trans ((f4.2.2 _ _).trans ((n3 1 12 (by unfold NR; omega)).trans w10)), ob_of s_864, if_pos rfl]
  unfold f_X3_length
  rw [Option.bind_some, p5.2.2.1]
/-- what there isn't isn't written -/
theorem writeN_C {n : Nat} {m : Mi} {T : Nat → Nat} {G : Rg} {a b : Int32} (hR : CRg m T n G) (hO : RO T n G) (h0 : a = 0 → sOk b = false) (h1 : a = 1 → b < 0 ∨ nI G.2.1.length ≤ b) (h2 : a = 2 → b < 0 ∨ nI G.2.2.length ≤ b) : f_X11_write TT m 1 a b = some (-1, m) := by
  have hB := hO.2.1
  have hB3 := hB.2.2
  obtain ⟨q, q', hqq, r8, r9, hcg, _⟩ := hR
  have hq : QS q := by rcases hqq with e | e <;> rw [e.1]; exact qs59; exact qs456
  have j82 : f_X11_write_j82 TT m 1 a b = some (-1, m) := by
    unfold f_X11_write_j82
    rw [r8, ob_of hq.2.1, if_pos rfl]
    by_cases e2 : a = 2
    · rw [conAt_no hcg.1.2.2.1 (h2 e2), Option.bind_some, if_pos e2, if_pos rfl]
    · rcases at_cases b G.2.2.length (by omega) with h | ⟨_, h⟩ | ⟨j, hj, rfl⟩
      · rw [conAt_no hcg.1.2.2.1 (Or.inl h), Option.bind_some, if_neg e2]
      · rw [conAt_no hcg.1.2.2.1 (Or.inr h), Option.bind_some, if_neg e2]
      · rw [conAt_C hq hcg.1.1 hcg.1.2.2.1 hB hj, Option.bind_some, if_neg e2]
  have j39 : f_X11_write_j39 TT m 1 a b = some (-1, m) := by
    unfold f_X11_write_j39
    by_cases e1 : a = 1
    · rw [if_pos e1, r8, ob_of hq.2.1, if_pos rfl, releaseAt_no hcg.1.2.2.1 (h1 e1), Option.bind_some, if_pos rfl, j82]
    · rw [if_neg e1, j82]
  unfold f_X11_write
  by_cases e0 : a = 0
  · rcases sOk_cases b with ⟨a1, a2, -⟩ | ⟨k, hk, rfl, a1, -, -⟩
    · rw [if_pos e0, a2, Option.bind_some, if_pos rfl, j39]
    · rw [h0 e0] at a1
      cases a1
  · rw [if_neg e0, j39]
