/-! The class: a release more. -/
theorem rel_lp {q f z : Nat} {m : Mi} {T : Nat → Nat} {R : List RlT} {C : List CnT} {x : Row} {a1 a2 : Int32} {a3 : Nat} (hq : QS q) (hW : WQ q m) (h5 : gi m q 5 = nI R.length) (hR : R.length ≤ 60) (hD : DR q m T R C) (hx : rowL m (q + 396) 0 = x) (hf : f + z = R.length) :
    ∀ d k N, k + d = z → d < N → (∀ j, j < k → cmpL (rvR T R (f + j)) x ≠ 0) →
      lp (fun y : Int32 × Int32 => f_X6_addRelease_l35 TT m q a1 a2 a3 y.1 y.2) N (nI ((List.range k).countP (fun j => decide (cmpL (rvR T R (f + j)) x = 1))), nI (f + k)) = some (if ∃ j, j < z ∧ cmpL (rvR T R (f + j)) x = 0 then .inr () else .inl (nI ((List.range z).countP (fun j => decide (cmpL (rvR T R (f + j)) x = 1))))) := by
  intro d
  induction d with
  | zero =>
    intro k N hk hN hne
    obtain ⟨N, rfl⟩ : ∃ y, N = y + 1 := ⟨N - 1, by omega⟩
    have : k = z := by omega
    subst this
    rw [if_neg (by rintro ⟨j, hj, e⟩; exact hne j hj e)]
    refine lp_exit ?_
    show f_X6_addRelease_l35 TT m q a1 a2 a3 _ (nI (f + k)) = _
    unfold f_X6_addRelease_l35
    rw [h5, if_pos (nI_le (by omega) (by omega))]
  | succ d ih =>
    intro k N hk hN hne
    obtain ⟨N, rfl⟩ : ∃ y, N = y + 1 := ⟨N - 1, by omega⟩
    have hfk : f + k < R.length := by omega
    have hget : R[f + k]? = some R[f + k] := List.getElem?_eq_getElem hfk
    obtain ⟨_, _, _, _, _, hrow⟩ := hD (f + k) _ hget
    rw [← rvR_get (T := T) hget] at hrow
    have hc := compare_spec (t := TT) (m := m) (i := 0) (j := 0) (hq.2.2.2.2.2.2.2.2.2.1 (f + k) (by omega)).2 hq.2.2.2.2.2.2.2.1 (by omega) (by omega) (by omega) (by omega)
    rw [hrow, hx] at hc
    have hr := hW.2.2.2.2.2.2.2.1 (f + k) (by omega)
    have hcnt : (List.range (k + 1)).countP (fun j => decide (cmpL (rvR T R (f + j)) x = 1)) = (List.range k).countP (fun j => decide (cmpL (rvR T R (f + j)) x = 1)) + if cmpL (rvR T R (f + k)) x = 1 then 1 else 0 := by
      rw [List.range_succ, List.countP_append]
      by_cases h : cmpL (rvR T R (f + k)) x = 1
      · rw [if_pos h]; simp [List.countP_cons, h]
      · rw [if_neg h]; simp [List.countP_cons, h]
    have hle : (List.range k).countP (fun j => decide (cmpL (rvR T R (f + j)) x = 1)) ≤ k := by
      have := List.countP_le_length (p := fun j => decide (cmpL (rvR T R (f + j)) x = 1)) (l := List.range k)
      rw [List.length_range] at this
      exact this
    have hbd : ∀ g, f_X6_addRelease_l35 TT m q a1 a2 a3 (nI g) (nI (f + k)) = if cmpL (rvR T R (f + k)) x = 0 then some (.inr (.inr ())) else some (.inl (nI (g + if cmpL (rvR T R (f + k)) x = 1 then 1 else 0), nI (f + (k + 1)))) := by
      intro g
      unfold f_X6_addRelease_l35
      rw [h5, if_neg (nI_ge hfk (by omega)), hW.2.2.1, if_pos (ar_of hq.2.2.2.2.1 (by omega) (by omega)), ix_nI (by omega), hr.1, ob_of (hq.2.2.2.2.2.2.2.2.2.1 (f + k) (by omega)).1, if_pos rfl, hW.2.2.2.2.1, ob_of hq.2.2.2.2.2.2.1, if_pos rfl, hr.2, hW.2.2.2.2.2.1, show f_X10_compare TT m (q + 25 + 2 * (f + k)) 0 (q + 396) 0 = _ from hc, Option.bind_some]
      simp only [lt_eq, nI_1]
      rcases cmpL_vals (rvR T R (f + k)) x with h | h | h
      · rw [h, if_pos rfl, if_pos rfl]
      · rw [h, if_neg (by decide), if_neg (by decide), if_neg (by decide), if_pos rfl]
        rfl
      · rw [h, if_neg (by decide), if_pos (by decide), if_neg (by decide), if_neg (by decide), show nI g + 0 = nI (g + 0) from nI_add g 0]
        rfl
    by_cases h0 : cmpL (rvR T R (f + k)) x = 0
    · rw [if_pos ⟨k, by omega, h0⟩]
      refine lp_exit ?_
      show f_X6_addRelease_l35 TT m q a1 a2 a3 _ (nI (f + k)) = _
      rw [hbd, if_pos h0]
    · rw [← ih (k + 1) N (by omega) (by omega) (fun j hj => by
        by_cases hjk : j = k
        · rw [hjk]; exact h0
        · exact hne j (by omega))]
      refine lp_step ?_
      show f_X6_addRelease_l35 TT m q a1 a2 a3 _ (nI (f + k)) = _
      rw [hbd, if_neg h0, hcnt]
theorem dupR_iff {T : Nat → Nat} {G : Rg} {a b : Nat} {y : PkT} (hI : IW G) (hy : G.1[G.1.length - 1]? = some y) : dupR T G a b = true ↔ ∃ j, j < cntR G.2.1 (G.1.length - 1) ∧ cmpL (rvR T G.2.1 (y.2.2 + j)) (rwv T a b) = 0 := by
  obtain ⟨h1, h2, h3, _⟩ := hI
  obtain ⟨g1, g2⟩ := h2 _ y hy
  unfold dupR
  rw [List.any_eq_true]
  constructor
  · rintro ⟨x, hx, hc⟩
    rw [Bool.and_eq_true, decide_eq_true_eq, decide_eq_true_eq] at hc
    obtain ⟨r, hr⟩ := List.getElem?_of_mem hx
    have := (g2 r x hr).mp hc.1
    refine ⟨r - y.2.2, by omega, ?_⟩
    rw [show y.2.2 + (r - y.2.2) = r by omega, rvR_get hr]
    exact hc.2
  · rintro ⟨j, hj, hc⟩
    have hl : y.2.2 + j < G.2.1.length := by omega
    have hr : G.2.1[y.2.2 + j]? = some G.2.1[y.2.2 + j] := List.getElem?_eq_getElem hl
    refine ⟨G.2.1[y.2.2 + j], List.getElem_mem hl, ?_⟩
    rw [Bool.and_eq_true, decide_eq_true_eq, decide_eq_true_eq]
    rw [rvR_get hr] at hc
    exact ⟨(g2 _ _ hr).mpr (by omega), hc⟩
theorem addRelease_C {q a b : Nat} {m : Mi} {T : Nat → Nat} {G : Rg} (hq : QS q) (hW : WQ q m) (hD : DC q m T G) (hB : BGd G) (hR : G.2.1.length < 60) (hI : IW G) (hP : G.1 ≠ []) (hz : cntR G.2.1 (G.1.length - 1) < 6) (hv : rowL m (q + 396) 0 = rwv T a b) :
    ∃ m', f_X6_addRelease TT m q (nI a) (nI b) = some (bI (!dupR T G a b), m') ∧ Fr (FQ q) m m' ∧ gi m' q 9 = gi m q 9 ∧ (dupR T G a b = true → m' = m) ∧ (dupR T G a b = false → DC q m' T (addR a b G)) := by
  have hD0 := hD
  obtain ⟨h4, h5, h6, h7, hp, hr, hk⟩ := hD
  have hq1 := hq.1
  have hl : 0 < G.1.length := List.length_pos_iff.mpr hP
  have hlt : G.1.length - 1 < G.1.length := by omega
  have hB1 := hB.1
  obtain ⟨y, hy⟩ : ∃ y, G.1[G.1.length - 1]? = some y := ⟨_, List.getElem?_eq_getElem hlt⟩
  have hlast := hI.2.2.1 y hy
  have hdup := dupR_iff (T := T) (a := a) (b := b) hI hy
  obtain ⟨d1, d2, d3, d4, F, f1, f2, f3, f4⟩ := hp _ y hy
  generalize hzz : cntR G.2.1 (G.1.length - 1) = z at *
  have hloop := rel_lp (a1 := nI a) (a2 := nI b) (a3 := q + 3 + 2 * (G.1.length - 1)) hq hW h5 (by omega) hr hv hlast z 0 FUEL (by omega) (by unfold FUEL; omega) (fun j hj => by omega)
  have hpk := hW.2.2.2.2.2.2.1 (G.1.length - 1) (by omega)
  have hpat : f_X6_packAt TT m q (nI G.1.length - 1) = some (q + 3 + 2 * (G.1.length - 1)) := by
    unfold f_X6_packAt
    rw [show (1 : Int32) = nI 1 from rfl, pk_sub (by omega), if_neg (nI_pos (by omega)), h4, if_neg (nI_ge hlt (by omega)), hW.2.1, if_pos (ar_of hq.2.2.2.1 (by omega) (by omega)), ix_nI (by omega), hpk.1]
  unfold f_X6_addRelease f_X6_addRelease_j35
  rw [h4, hpat, Option.bind_some, if_neg (by omega), h5, if_pos (show nI G.2.1.length < 60 from nI_lt (b := 60) hR (by omega)), ob_of (hq.2.2.2.2.2.2.2.2.1 _ (by omega)).1, if_pos rfl, lt_eq, d3, show ((0 : Int32), nI y.2.2) = (nI ((List.range 0).countP (fun j => decide (cmpL (rvR T G.2.1 (y.2.2 + j)) (rwv T a b) = 1))), nI (y.2.2 + 0)) from rfl, hloop, Option.bind_some]
  cases hdd : dupR T G a b with
  | true =>
    rw [if_pos (hdup.mp hdd)]
    exact ⟨m, rfl, Fr.rf, rfl, fun _ => rfl, fun e => (by cases e)⟩
  | false =>
    have hno : ¬ ∃ j, j < z ∧ cmpL (rvR T G.2.1 (y.2.2 + j)) (rwv T a b) = 0 := fun e => by rw [hdup.mpr e] at hdd; cases hdd
    rw [if_neg hno]
    -- the new order
    have hw' : ∀ k, k < z → rvR T (addR a b G).2.1 (y.2.2 + k) = rvR T G.2.1 (y.2.2 + k) := fun k hk2 => rvR_app (by omega)
    have hnew : rvR T (addR a b G).2.1 (y.2.2 + z) = rwv T a b := by
      have : (addR a b G).2.1[y.2.2 + z]? = some (G.1.length - 1, (a, (b, G.2.2.length))) := by
        rw [hlast]
        show (G.2.1 ++ [_])[G.2.1.length]? = _
        rw [List.getElem?_append_right (Nat.le_refl _), Nat.sub_self]
        rfl
      rw [rvR_get this]
    obtain ⟨hgz, q1, q2, q3⟩ := fall_ins (F := F) (z := z) (w := fun k => rvR T G.2.1 (y.2.2 + k)) (w' := fun k => rvR T (addR a b G).2.1 (y.2.2 + k)) (fun k => rvR8 _ _ _) f4 f2 f3 hw' (by show R8 (rvR T (addR a b G).2.1 (y.2.2 + z)); exact rvR8 _ _ _) (fun k hk2 e => hno ⟨k, hk2, by have e : cmpL (rvR T G.2.1 (y.2.2 + k)) (rvR T (addR a b G).2.1 (y.2.2 + z)) = 0 := e; rw [hnew] at e; exact e⟩) rfl
    have hgg : (List.range z).countP (fun k => decide (cmpL (rvR T G.2.1 (y.2.2 + k)) (rvR T (addR a b G).2.1 (y.2.2 + z)) = 1)) = (List.range z).countP (fun j => decide (cmpL (rvR T G.2.1 (y.2.2 + j)) (rwv T a b) = 1)) := by rw [hnew]
    simp only [hgg] at hgz q1 q2 q3
    generalize (List.range z).countP (fun j => decide (cmpL (rvR T G.2.1 (y.2.2 + j)) (rwv T a b) = 1)) = g at *
    generalize hc : q + 3 + 2 * (G.1.length - 1) = c at *
    generalize hca : q + 4 + 2 * (G.1.length - 1) = ca at *
    have hcs : sh TT ca = some (.inr (.int, 6)) := by rw [← hca]; exact (hq.2.2.2.2.2.2.2.2.1 _ (by omega)).2
    have hins := insertRel_C (m := m) (c := c) (a := ca) (g := g) (z := z) hpk.2 hcs hz hgz d4 (by omega)
    generalize hm1 : si (si (blkI m ca (g + 1) (z + 1) (fun j => gi m ca (j - 1))) ca g (nI z)) c 4 (nI (z + 1)) = m1 at hins
    have k1 : ∀ x j, x ≠ c → x ≠ ca → gi m1 x j = gi m x j := by
      intro x j hx1 hx2
      rw [← hm1]
      simp only [mS]
      rw [if_neg (fun e => hx1 e.1), if_neg (fun e => hx2 e.1), if_neg (fun e => hx2 e.1)]
    have k1l : ∀ x j, gl m1 x j = gl m x j := fun x j => by rw [← hm1]; rfl
    have k1r : ∀ x j, gr m1 x j = gr m x j := fun x j => by rw [← hm1]; rfl
    generalize hx9 : q + 24 + 2 * G.2.1.length = x9
    have hrel := hW.2.2.2.2.2.2.2.1 G.2.1.length hR
    rw [hx9] at hrel
    have hx9r : q + 25 + 2 * G.2.1.length = x9 + 1 := by omega
    rw [hx9r] at hrel
    have hrs := hq.2.2.2.2.2.2.2.2.2.1 G.2.1.length hR
    rw [hx9, hx9r] at hrs
    obtain ⟨m2, e2, r2, kl2⟩ := copy_row (m := m1) (a := q + 396) (b := x9 + 1) (g := fun j => gl m1 (q + 396) j) hq.2.2.2.2.2.2.2.1 hrs.2 (fun j _ => rfl)
    have hj96 : f_X6_addRelease_j96 TT m q (nI a) (nI b) c (nI g) = some (1, si (si (si (si (si (si m2 x9 1 (nI (G.1.length - 1))) x9 2 (nI a)) x9 3 (nI b)) x9 4 (nI G.2.2.length)) x9 5 0) q 5 (nI (G.2.1.length + 1))) := by
      unfold f_X6_addRelease_j96
      rw [ob_of (by rw [← hc]; exact (hq.2.2.2.2.2.2.2.2.1 _ (by omega)).1), if_pos rfl, hins, Option.bind_some, k1r q 2, hW.2.2.1, k1 q 5 (by omega) (by omega), h5, if_pos (ar_of hq.2.2.2.2.1 (by omega) (by omega)), ix_nI (by omega), lt_eq, k1r (q + 23) G.2.1.length, hrel.1, k1r q 8, hW.2.2.2.2.1, ob_of hq.2.2.2.2.2.2.1, if_pos rfl, ob_of hrs.1, if_pos rfl, k1r (q + 395) 0, hW.2.2.2.2.2.1, k1r x9 0, hrel.2, e2, Option.bind_some]
      simp only [lt_eq, mS]
      rw [if_neg (by omega), if_neg (by omega), if_neg (by omega), if_neg (by omega), if_neg (by omega), if_neg (by omega), if_neg (by omega), if_neg (by omega), kl2.1, k1 q 4 (by omega) (by omega), h4, kl2.1, k1 q 6 (by omega) (by omega), h6, kl2.1, k1 q 5 (by omega) (by omega), h5, show (1 : Int32) = nI 1 from rfl, pk_sub (by omega), nI_add]
    show ∃ m', f_X6_addRelease_j96 TT m q (nI a) (nI b) c (nI g) = _ ∧ _
    rw [hj96]
    generalize hm3 : si (si (si (si (si (si m2 x9 1 (nI (G.1.length - 1))) x9 2 (nI a)) x9 3 (nI b)) x9 4 (nI G.2.2.length)) x9 5 0) q 5 (nI (G.2.1.length + 1)) = m3
    have k3 : ∀ x j, x ≠ x9 → ¬ (x = q ∧ j = 5) → x ≠ c → x ≠ ca → gi m3 x j = gi m x j := by
      intro x j a1 a2 a3 a4
      rw [← hm3]
      simp only [mS]
      rw [if_neg a2, if_neg (fun e => a1 e.1), if_neg (fun e => a1 e.1), if_neg (fun e => a1 e.1), if_neg (fun e => a1 e.1), if_neg (fun e => a1 e.1), kl2.1, k1 x j a3 a4]
    have k3c : ∀ x j, (x = c ∨ x = ca) → gi m3 x j = gi m1 x j := by
      intro x j hx
      rw [← hm3]
      simp only [mS]
      rw [if_neg (by omega), if_neg (by omega), if_neg (by omega), if_neg (by omega), if_neg (by omega), if_neg (by omega), kl2.1]
    have k3l : ∀ x j, x ≠ x9 + 1 → gl m3 x j = gl m x j := by
      intro x j hx
      rw [← hm3]
      simp only [mS]
      rw [kl2.2.1 x j hx, k1l]
    have k3r : ∀ x j, gr m3 x j = gr m x j := by
      intro x j
      rw [← hm3]
      simp only [mS]
      rw [kl2.2.2, k1r]
    refine ⟨m3, rfl, ⟨fun x j hx => ⟨?_, ?_⟩, fun x j _ => k3r x j⟩, ?_, fun e => (by cases e), fun _ => ⟨?_, ?_, ?_, ?_, ?_, ?_, ?_⟩⟩
    · exact k3 x j (fun e => hx (by unfold FQ; omega)) (fun e => hx (by unfold FQ; omega)) (fun e => hx (by unfold FQ; omega)) (fun e => hx (by unfold FQ; omega))
    · exact k3l x j (fun e => hx (by unfold FQ; omega))
    · exact k3 q 9 (by omega) (by omega) (by omega) (by omega)
    · exact (k3 q 4 (by omega) (by omega) (by omega) (by omega)).trans h4
    · rw [← hm3, gi_si]
      show _ = nI (G.2.1 ++ [_]).length
      rw [List.length_append, List.length_singleton]
    · exact (k3 q 6 (by omega) (by omega) (by omega) (by omega)).trans h6
    · exact (k3 q 7 (by omega) (by omega) (by omega) (by omega)).trans h7
    · intro p x hx
      have hx : G.1[p]? = some x := hx
      have hpl := get_lt hx
      show _ ∧ _ ∧ _ ∧ gi m3 (q + 3 + 2 * p) 4 = nI (cntR (G.2.1 ++ [_]) p) ∧ ∃ F : List Nat, _ ∧ F.length = cntR (G.2.1 ++ [_]) p ∧ (∀ k, k ∈ F ↔ k < cntR (G.2.1 ++ [_]) p) ∧ _
      rw [cntR_app]
      by_cases hpe : G.1.length - 1 = p
      · rw [if_pos hpe]
        have hxy : x = y := by rw [hpe] at hy; rw [hy] at hx; exact (Option.some.inj hx).symm
        have hcz : cntR G.2.1 p = z := by rw [← hpe]; exact hzz
        rw [← hpe, hc, hca, hxy, hpe, hcz]
        have kc : ∀ j, j ≠ 4 → gi m3 c j = gi m c j := by
          intro j hj
          rw [k3c c j (Or.inl rfl), ← hm1]
          simp only [mS]
          rw [if_neg (fun e => hj e.2), if_neg (by omega), if_neg (by omega)]
        refine ⟨(kc 1 (by omega)).trans d1, (kc 2 (by omega)).trans d2, (kc 3 (by omega)).trans d3, ?_, F.take g ++ z :: F.drop g, fun i k hik => ?_, q2, q3, q1⟩
        · rw [k3c c 4 (Or.inl rfl), ← hm1, gi_si]
        · have hil : i < z + 1 := by rw [← q2]; exact get_lt hik
          rw [k3c ca i (Or.inr rfl), ← hm1]
          simp only [mS]
          rw [if_neg (by omega)]
          have htl : (F.take g).length = g := by rw [List.length_take]; omega
          by_cases hig : i = g
          · rw [if_pos ⟨trivial, hig⟩]
            rw [hig, List.getElem?_append_right (by omega), htl, Nat.sub_self] at hik
            have hik : z = k := Option.some.inj hik
            rw [hik]
          · rw [if_neg (fun e => hig e.2)]
            by_cases hlt2 : i < g
            · rw [if_neg (by omega)]
              rw [List.getElem?_append_left (by omega), List.getElem?_take_of_lt hlt2] at hik
              exact f1 i k hik
            · rw [if_pos ⟨trivial, by omega, by omega⟩]
              rw [List.getElem?_append_right (by omega), htl] at hik
              obtain ⟨w, hw⟩ : ∃ w, i - g = w + 1 := ⟨i - g - 1, by omega⟩
              rw [hw, List.getElem?_cons_succ, List.getElem?_drop] at hik
              rw [show g + w = i - 1 by omega] at hik
              exact f1 (i - 1) k hik
      · rw [if_neg hpe, Nat.add_zero]
        obtain ⟨g1, g2, g3, g4, F2, l1, l2, l3, l4⟩ := hp p x hx
        have kp : ∀ w j, (w = q + 3 + 2 * p ∨ w = q + 4 + 2 * p) → gi m3 w j = gi m w j := fun w j hw => k3 w j (by omega) (by omega) (by omega) (by omega)
        refine ⟨(kp _ _ (Or.inl rfl)).trans g1, (kp _ _ (Or.inl rfl)).trans g2, (kp _ _ (Or.inl rfl)).trans g3, (kp _ _ (Or.inl rfl)).trans g4, F2, fun i k hik => (kp _ _ (Or.inr rfl)).trans (l1 i k hik), l2, l3, l4.imp_of_mem (fun {i j} hi hj h => ?_)⟩
        have hxl := (hI.2.1 p x hx).1
        have i1 := (l3 i).mp hi
        have j1 := (l3 j).mp hj
        show cmpL (rvR T (G.2.1 ++ [_]) (x.2.2 + i)) (rvR T (G.2.1 ++ [_]) (x.2.2 + j)) = 1
        rw [rvR_app (by omega), rvR_app (by omega)]
        exact h
    · intro r x hx
      rcases app_get hx with ⟨hj, hx⟩ | ⟨hj, hx⟩
      · obtain ⟨g1, g2, g3, g4, g5, g6⟩ := hr r x hx
        have kr : ∀ j, gi m3 (q + 24 + 2 * r) j = gi m (q + 24 + 2 * r) j := fun j => k3 _ j (by omega) (by omega) (by omega) (by omega)
        exact ⟨(kr 1).trans g1, (kr 2).trans g2, (kr 3).trans g3, (kr 4).trans g4, (kr 5).trans g5, by rw [← g6]; exact rowF_congr (fun w _ => k3l _ _ (by omega))⟩
      · rw [hx, hj, hx9, hx9r]
        have hcl : cntL G.2.2 G.2.1.length = 0 := cntL_zero hI.2.2.2.1
        refine ⟨?_, ?_, ?_, ?_, ?_, ?_⟩
        · rw [← hm3]; simp only [mS]; rw [if_neg (by omega), if_neg (by omega), if_neg (by omega), if_neg (by omega), if_neg (by omega), if_pos ⟨trivial, trivial⟩]
        · rw [← hm3]; simp only [mS]; rw [if_neg (by omega), if_neg (by omega), if_neg (by omega), if_neg (by omega), if_pos ⟨trivial, trivial⟩]
        · rw [← hm3]; simp only [mS]; rw [if_neg (by omega), if_neg (by omega), if_neg (by omega), if_pos ⟨trivial, trivial⟩]
        · rw [← hm3]; simp only [mS]; rw [if_neg (by omega), if_neg (by omega), if_pos ⟨trivial, trivial⟩]
        · rw [← hm3]; simp only [mS]; rw [if_neg (by omega), if_pos ⟨trivial, trivial⟩]; show (0 : Int32) = nI (cntL G.2.2 G.2.1.length); rw [hcl]; rfl
        · show _ = rwv T a b
          rw [← hv]
          refine rowF_congr (fun w hw => ?_)
          rw [Nat.zero_add, ← hm3]
          simp only [mS]
          exact (r2 w hw).trans (k1l _ _)
    · exact hk.keep hB.2.2 (fun x j h1 h2 => k3 x j (by omega) (by omega) (by omega) (by omega))
