/-! write of the reference: releases, constraints, the call. -/
theorem FI.E {s n : Nat} {m m' : Mi} {T : Nat → Nat} {G : Rg} (h : ME s m T n G) (hB : BGd G) (k : FI FPm m m') : ME s m' T n G := h.keep hB k (fun x j z => by unfold FPm at z; omega)
theorem release_M {s n r : Nat} {m : Mi} {L : List Nat} {T : Nat → Nat} {G : Rg} (hO : RO T n G) (hN : NmL G) (hE : ME s m T n G) (hP : PgM m L) (hr : r < G.2.1.length) (hL : L.length ≤ 1000) : ∃ m', f_X12_saysRelease TT m 870 (nI r) = some m' ∧ PgM m' (L ++ reT T G r) ∧ FI FPm m m' := by
  have hB := hO.2.1
  have hB1 := hB.1
  have hB2 := hB.2.1
  have hn := hO.2.2.2.2.1
  have hs := hE.2.1
  obtain ⟨y, x, hy, hx, hyl, e, a1, a2, a3, a4, a5, a6⟩ := rel_of hO hN hr
  have er := hE.2.2.2.1.2.2.1 r y hy
  have ep := hE.2.2.2.1.2.1 y.1 x hx
  have hT := hO.2.2.2.2.2
  obtain ⟨m1, e1, p1, f1⟩ := saysText_M hs hn a1 a2 hT hP hE.2.2.1 hE.2.2.2.2.1 (by omega)
  obtain ⟨m2, e2, p2, f2⟩ := saysN_M 32 p1 (by rw [List.length_append, cutT_len]; omega) (by omega)
  have hE2 := (f1.tr f2).E hE hB
  obtain ⟨m3, e3, p3, f3⟩ := saysText_M hs hn a4 a5 hT p2 hE2.2.2.1 hE2.2.2.2.2.1 (by rw [List.length_append, List.length_append, List.length_singleton, cutT_len]; omega)
  have er2 := hE2.2.2.2.1.2.2.1 r y hy
  refine ⟨m3, ?_, ?_, (f1.tr f2).tr f3⟩
  · unfold f_X12_saysRelease
    rw [hE.2.2.1, show gr m 870 30 = 888 from hE.1 30 (by omega), show (60 : Int32) = nI 60 from rfl, pk_mul, nI_add, if_pos (ar_of s_888 (by omega) (by omega)), lt_eq, ix_nI (n := 60 * s + r) (by omega), er.1, show gr m 870 27 = 885 from hE.1 27 (by omega), show gr m 870 28 = 886 from hE.1 28 (by omega), show (10 : Int32) = nI 10 from rfl, pk_mul, nI_add, if_pos (ar_of s_885 (by omega) (by omega)), if_pos (ar_of s_886 (by omega) (by omega)), ix_nI (n := 10 * s + y.1) (by omega), ep.1, ep.2.1, e1, Option.bind_some, show f_X12_says TT m1 870 32 = _ from e2, Option.bind_some, show gr m2 870 31 = 889 from hE2.1 31 (by omega), hE2.2.2.1, pk_mul, nI_add, if_pos (ar_of s_889 (by omega) (by omega)), show gr m2 870 32 = 890 from hE2.1 32 (by omega), if_pos (ar_of s_890 (by omega) (by omega)), ix_nI (n := 60 * s + r) (by omega), er2.2.1, er2.2.2.1, e3, Option.bind_some]
  · rw [e]
    rw [List.append_assoc, List.append_assoc] at p3
    exact p3
theorem clear_M {m : Mi} {L : List Nat} (hP : PgM m L) : PgM (si m 870 60 0) [] ∧ FI FPm m (si m 870 60 0) := ⟨⟨hP.1, by simp, gi_si _ _ _ _, fun i b hi => by cases hi⟩, FI.si (P := FPm) (Or.inr ⟨rfl, rfl⟩)⟩
/-- a slot is written -/
theorem write0_M {k : Nat} {D : List DB} {m : Mi} {L : List Nat} {S : Nat → List Row} (hS : MSl m S) (hP : PgM m L) (hk : k < 16) (hD : GD D) (hSD : S k = D.map rwO) : ∃ m', f_X12_write TT m 870 0 (nI k) = some (nI (wtx D).length, m') ∧ PgM m' (wtx D) ∧ FJm m m' := by
  obtain ⟨p0, f0⟩ := clear_M hP
  have hR : MG m (250 + k) (D.map rwO) := by rw [← hSD]; exact hS k hk
  obtain ⟨m1, e1, p1, j1⟩ := range_Mw hD (show 250 + k < 272 by omega) p0 (hR.kJ f0.Jm) (by simp)
  rw [List.nil_append] at p1
  refine ⟨m1, ?_, p1, f0.Jm.tr j1⟩
  have hsl : f_X12_isSlot (nI k) = some 1 := by
    unfold f_X12_isSlot
    rw [if_neg (nI_nlt0 (by omega)), if_neg (show ¬ (16 : Int32) ≤ nI k from nI_ge (b := 16) hk (by omega))]
  unfold f_X12_write f_X12_write_j63 f_X12_slotOf
  rw [if_pos rfl, hsl, Option.bind_some, if_neg (by decide), lt_eq, if_pos rfl, Option.bind_some, show (250 : Int32) = nI 250 from rfl, nI_add, e1, Option.bind_some, p1.2.2.1]
theorem write1_M {r n : Nat} {m : Mi} {L : List Nat} {T : Nat → Nat} {G : Rg} (hM : WFM m) (hR : MRg m T n G) (hO : RO T n G) (hN : NmL G) (hP : PgM m L) (hr : r < G.2.1.length) : ∃ m', f_X12_write TT m 870 1 (nI r) = some (nI (reT T G r).length, m') ∧ PgM m' (reT T G r) ∧ FJm m m' := by
  have hB := hO.2.1
  have hB2 := hB.2.1
  obtain ⟨s, hs, h21, hRs⟩ := hR
  have hE : ME s m T n G := ⟨hM, hs, h21, hRs⟩
  obtain ⟨p0, f0⟩ := clear_M hP
  obtain ⟨m1, e1, p1, f1⟩ := release_M hO hN (f0.E hE hB) p0 hr (by simp)
  rw [List.nil_append] at p1
  refine ⟨m1, ?_, p1, (f0.tr f1).Jm⟩
  unfold f_X12_write f_X12_write_j63
  rw [if_neg (by decide), if_pos rfl, if_neg (nI_nlt0 (by omega)), h21, hM.W.2.1, if_pos (ar_of s_882 hs (by omega)), ix_nI (n := s) (by omega), hRs.1.1.2.1, if_neg (nI_ge (by omega) (by omega)), if_neg (by decide), lt_eq, if_neg (by decide), if_pos rfl, e1, Option.bind_some, p1.2.2.1]
theorem write2_M {c n : Nat} {D : List DB} {m : Mi} {L : List Nat} {T : Nat → Nat} {G : Rg} {x : CnT} (hM : WFM m) (hR : MRg m T n G) (hO : RO T n G) (hN : NmL G) (hP : PgM m L) (hx : G.2.2[c]? = some x) (hD : GD D) (hSD : rgC T x = D.map rwO) : ∃ m', f_X12_write TT m 870 2 (nI c) = some (nI (liT T G x ++ wtx D).length, m') ∧ PgM m' (liT T G x ++ wtx D) ∧ FJm m m' := by
  have hB := hO.2.1
  have hB2 := hB.2.1
  have hB3 := hB.2.2
  have hn := hO.2.2.2.2.1
  have hT := hO.2.2.2.2.2
  have hc := get_lt hx
  have hxm := List.mem_of_getElem? hx
  have hg := hO.1.2.2.2.1 x hxm
  have h12 := con_12 hO hN hx
  obtain ⟨s, hs, h21, hRs⟩ := hR
  have hE : ME s m T n G := ⟨hM, hs, h21, hRs⟩
  obtain ⟨p0, f0⟩ := clear_M hP
  have hE0 := f0.E hE hB
  have c0 := hE0.2.2.2.1.2.2.2.1 c x hx
  -- the word, the name and the range
  have rest : ∀ (m1 : Mi) (L1 : List Nat), PgM m1 L1 → FI FPm m m1 → L1.length ≤ 200 → ∃ m', f_X12_write_j143 TT m1 870 (nI c) (nI (250 * s + c)) = some (nI (L1 ++ (kwT x.1 ++ (32 :: (cutT T x.2.2.1.1 x.2.2.1.2 ++ [32]))) ++ wtx D).length, m') ∧ PgM m' (L1 ++ (kwT x.1 ++ (32 :: (cutT T x.2.2.1.1 x.2.2.1.2 ++ [32]))) ++ wtx D) ∧ FJm m m' := by
    intro m1 L1 p1 f1 hl1
    have hE1 := f1.E hE hB
    have c1 := hE1.2.2.2.1.2.2.2.1 c x hx
    have fin : ∀ w : Nat, w < 2 ^ 63 → wb w = kwT x.1 → ∃ m', f_X12_write_j183 TT m1 870 (nI c) (nI (250 * s + c)) (lN w) 870 = some (nI (L1 ++ (kwT x.1 ++ (32 :: (cutT T x.2.2.1.1 x.2.2.1.2 ++ [32]))) ++ wtx D).length, m') ∧ PgM m' (L1 ++ (kwT x.1 ++ (32 :: (cutT T x.2.2.1.1 x.2.2.1.2 ++ [32]))) ++ wtx D) ∧ FJm m m' := by
      intro w hw hwb
      have hkw : (kwT x.1).length ≤ 5 := by unfold kwT; split; decide; split <;> decide
      obtain ⟨m2, e2, p2, f2⟩ := word_M hw p1 (by omega)
      rw [hwb] at p2
      have hE2 := (f1.tr f2).E hE hB
      have c2 := hE2.2.2.2.1.2.2.2.1 c x hx
      obtain ⟨m3, e3, p3, f3⟩ := saysText_M hs hn hg.2.1 hg.2.2.1 hT p2 hE2.2.2.1 hE2.2.2.2.2.1 (by simp only [List.length_append, List.length_cons, List.length_nil]; omega)
      obtain ⟨m4, e4, p4, f4⟩ := saysN_M 32 p3 (by simp only [List.length_append, List.length_cons, List.length_nil, cutT_len]; omega) (by omega)
      have f14 := ((f1.tr f2).tr f3).tr f4
      have hE4 := f14.E hE hB
      have R4 : MG m4 c (D.map rwO) := by rw [← hSD]; exact hE4.2.2.2.2.2.1 c x hx
      obtain ⟨m5, e5, p5, j5⟩ := range_Mw hD (by omega) p4 R4 (by simp only [List.length_append, List.length_cons, List.length_nil, cutT_len]; omega)
      have el : L1 ++ (kwT x.1 ++ [32]) ++ cutT T x.2.2.1.1 x.2.2.1.2 ++ [32] ++ wtx D = L1 ++ (kwT x.1 ++ (32 :: (cutT T x.2.2.1.1 x.2.2.1.2 ++ [32]))) ++ wtx D := by simp [List.append_assoc]
      rw [el] at p5
      refine ⟨m5, ?_, p5, f14.Jm.tr j5⟩
      unfold f_X12_write_j183
      rw [ob_of s_870, if_pos rfl, e2, Option.bind_some, show gr m2 870 36 = 894 from hE2.1 36 (by omega), if_pos (ar_of s_894 (by omega) (by omega)), show gr m2 870 37 = 895 from hE2.1 37 (by omega), if_pos (ar_of s_895 (by omega) (by omega)), ix_nI (n := 250 * s + c) (by omega), c2.2.2.1, c2.2.2.2, e3, Option.bind_some, show f_X12_says TT m3 870 32 = _ from e4, Option.bind_some, e5, Option.bind_some, p5.2.2.1]
    unfold f_X12_write_j143
    rw [show gr m1 870 35 = 893 from hE1.1 35 (by omega), if_pos (ar_of s_893 (by omega) (by omega)), ix_nI (n := 250 * s + c) (by omega), c1.2.1]
    rcases hg.1 with h | h | h
    · rw [h, if_neg (by decide), if_neg (by decide)]
      rw [← h]
      exact fin 2002873972 (by omega) (by rw [h]; decide)
    · rw [h, if_pos (by decide)]
      rw [← h]
      exact fin 474147546227 (by omega) (by rw [h]; decide)
    · rw [h, if_neg (by decide), if_pos (by decide)]
      rw [← h]
      exact fin 427020088168 (by omega) (by rw [h]; decide)
  have hunf : f_X12_write TT m 870 2 (nI c) = if gi (si m 870 60 0) 892 (250 * s + c) = -1 then f_X12_write_j143 TT (si m 870 60 0) 870 (nI c) (nI (250 * s + c)) else (f_X12_saysRelease TT (si m 870 60 0) 870 (gi (si m 870 60 0) 892 (250 * s + c))).bind fun m21 => (f_X12_says TT m21 870 32).bind fun m22 => f_X12_write_j143 TT m22 870 (nI c) (nI (250 * s + c)) := by
    unfold f_X12_write f_X12_write_j63
    rw [if_neg (by decide), if_neg (by decide), if_pos rfl, if_neg (nI_nlt0 (by omega)), cons_M hM hs h21 hRs.1.1, Option.bind_some, if_neg (nI_ge (by omega) (by omega)), if_neg (by decide), lt_eq, if_neg (by decide), if_neg (by decide), hE0.2.2.1, show (250 : Int32) = nI 250 from rfl, pk_mul, nI_add, lt_eq, show gr (si m 870 60 0) 870 34 = 892 from hE0.1 34 (by omega), if_pos (ar_of s_892 (by omega) (by omega)), ix_nI (n := 250 * s + c) (by omega)]
  rw [hunf, c0.1]
  by_cases h4 : x.1 = 4
  · rw [if_pos h4, if_pos rfl]
    obtain ⟨m', e, p, f⟩ := rest _ [] p0 f0 (by simp)
    have el : liT T G x = [] ++ (kwT x.1 ++ (32 :: (cutT T x.2.2.1.1 x.2.2.1.2 ++ [32]))) := by unfold liT; rw [if_pos h4]
    rw [el]
    exact ⟨m', e, p, f⟩
  · obtain ⟨_, y, hy, _, _, _, _, _⟩ := hv_of hO hx h4
    have hrl := get_lt hy
    have hre := reT_len hO hN hrl
    rw [if_neg h4, if_neg (nneg (by omega))]
    obtain ⟨m1, e1, p1, f1⟩ := release_M hO hN hE0 p0 hrl (by simp)
    rw [List.nil_append] at p1
    obtain ⟨m2, e2, p2, f2⟩ := saysN_M 32 p1 (by omega) (by omega)
    rw [e1, Option.bind_some, show f_X12_says TT m1 870 32 = _ from e2, Option.bind_some]
    obtain ⟨m', e, p, f⟩ := rest m2 _ p2 ((f0.tr f1).tr f2) (by rw [List.length_append, List.length_singleton]; omega)
    have el : liT T G x = reT T G x.2.1 ++ [32] ++ (kwT x.1 ++ (32 :: (cutT T x.2.2.1.1 x.2.2.1.2 ++ [32]))) := by unfold liT; rw [if_neg h4]
    rw [el]
    exact ⟨m', e, p, f⟩
theorem writeN_M {n : Nat} {m : Mi} {T : Nat → Nat} {G : Rg} {a b : Int32} (hM : WFM m) (hR : MRg m T n G) (hO : RO T n G) (h0 : a = 0 → sOk b = false) (h1 : a = 1 → b < 0 ∨ nI G.2.1.length ≤ b) (h2 : a = 2 → b < 0 ∨ nI G.2.2.length ≤ b) : f_X12_write TT m 870 a b = some (-1, m) := by
  obtain ⟨s, hs, h21, hRs⟩ := hR
  have z : f_X12_write_j63 TT m 870 a b 0 = some (-1, m) := by
    unfold f_X12_write_j63
    rw [if_pos rfl]
  unfold f_X12_write f_X12_write_j37 f_X12_write_j62
  by_cases e0 : a = 0
  · rcases sOk_cases b with ⟨a1, -, a2⟩ | ⟨k, hk, rfl, a1, -, -⟩
    · rw [if_pos e0, a2, Option.bind_some, z]
    · rw [h0 e0] at a1
      cases a1
  · rw [if_neg e0]
    by_cases e1 : a = 1
    · rw [if_pos e1, z]
      by_cases hb : b < 0
      · rw [if_pos hb]
      · rw [if_neg hb, h21, hM.W.2.1, if_pos (ar_of s_882 hs (by omega)), ix_nI (n := s) (by omega), hRs.1.1.2.1, if_pos ((h1 e1).resolve_left hb)]
    · rw [if_neg e1]
      by_cases e2 : a = 2
      · rw [if_pos e2, z]
        by_cases hb : b < 0
        · rw [if_pos hb]
        · rw [if_neg hb, cons_M hM hs h21 hRs.1.1, Option.bind_some, if_pos ((h2 e2).resolve_left hb)]
      · rw [if_neg e2, z]
/-- a byte of the page -/
def spOc (L : List Nat) (a : Int32) : Int32 := if a < 0 ∨ nI L.length ≤ a then -1 else nI ((L[ix a]?).getD 0)
theorem octet_C {m : Mi} {L : List Nat} (hI : WFC m) (hP : PgC m L) (a : Int32) : f_X11_octet TT m 1 a = some (spOc L a) := by
  obtain ⟨hW, h1, h2, h3⟩ := hP
  unfold f_X11_octet f_X3_byteAt spOc
  rw [hI.1.2.2.2.2.2.2.2.2.2, ob_of s_864, if_pos rfl, h2, hW.1]
  rcases at_cases a L.length (by omega) with h | ⟨g1, g2⟩ | ⟨j, hj, rfl⟩
  · rw [if_pos h, if_pos (Or.inl h), Option.bind_some]
  · rw [if_neg g1, if_pos g2, if_pos (Or.inr g2), Option.bind_some]
  · have hn := nI_nlt0 (k := j) (by omega)
    have hng : ¬ nI L.length ≤ nI j := nI_ge (by omega) (by omega)
    have hor : ¬ (nI j < 0 ∨ nI L.length ≤ nI j) := fun z => z.elim hn hng
    obtain ⟨c, hc⟩ := get_some hj
    rw [if_neg hn, if_neg hng, if_neg hor, aa_of s_865, if_pos rfl, ln_of s_865, ofNat_nI, if_neg (nI_ge (by omega) (by omega)), if_pos (ar_of s_865 (by omega) (by omega)), ix_nI (by omega), (h3 j c hc).1, bT_and c (h3 j c hc).2, hc, Option.bind_some]
    rfl
theorem octet_M {m : Mi} {L : List Nat} (hP : PgM m L) (a : Int32) : f_X12_octet TT m 870 a = some (spOc L a) := by
  obtain ⟨hW, h1, h2, h3⟩ := hP
  unfold f_X12_octet spOc
  rw [h2, show gr m 870 59 = 912 from hW 59 (by omega)]
  rcases at_cases a L.length (by omega) with h | ⟨g1, g2⟩ | ⟨j, hj, rfl⟩
  · rw [if_pos h, if_pos (Or.inl h)]
  · rw [if_neg g1, if_pos g2, if_pos (Or.inr g2)]
  · have hn := nI_nlt0 (k := j) (by omega)
    have hng : ¬ nI L.length ≤ nI j := nI_ge (by omega) (by omega)
    have hor : ¬ (nI j < 0 ∨ nI L.length ≤ nI j) := fun z => z.elim hn hng
    obtain ⟨c, hc⟩ := get_some hj
    rw [if_neg hn, if_neg hng, if_neg hor, if_pos (ar_of s_912 (by omega) (by omega)), ix_nI (by omega), (h3 j c hc).1, bT_and c (h3 j c hc).2, hc]
    rfl
