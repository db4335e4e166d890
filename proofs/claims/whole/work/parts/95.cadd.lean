/-! The class: a package more, a release more. -/
theorem addPack_C {q a b : Nat} {m : Mi} {T : Nat → Nat} {G : Rg} (hq : QS q) (hW : WQ q m) (hD : DC q m T G) (hB : BGd G) (hP : G.1.length < 10) (hI : IW G) :
    ∃ m', f_X6_addPack TT m q (nI a) (nI b) = some m' ∧ DC q m' T (addP a b G) ∧ Fr (FQ q) m m' ∧ gi m' q 9 = gi m q 9 := by
  obtain ⟨h4, h5, h6, h7, hp, hr, hk⟩ := hD
  have hq1 := hq.1
  have hz : cntR G.2.1 G.1.length = 0 := cntR_zero hI.1
  generalize hc : q + 3 + 2 * G.1.length = c
  have he : f_X6_addPack TT m q (nI a) (nI b) = some (si (si (si (si (si m c 1 (nI a)) c 2 (nI b)) c 3 (nI G.2.1.length)) c 4 0) q 4 (nI (G.1.length + 1))) := by
    unfold f_X6_addPack
    rw [h4, if_neg (show ¬ (10 : Int32) ≤ nI G.1.length from nI_ge (b := 10) hP (by omega)), hW.2.1, if_pos (ar_of hq.2.2.2.1 (by omega) (by omega)), ix_nI (by omega), lt_eq, (hW.2.2.2.2.2.2.1 _ hP).1, ob_of (hq.2.2.2.2.2.2.2.2.1 _ hP).1, if_pos rfl, hc]
    simp only [lt_eq, mS]
    rw [if_neg (by omega), if_neg (by omega), if_neg (by omega), if_neg (by omega), if_neg (by omega), if_neg (by omega), h5, h4, nI_1]
  refine ⟨_, he, ⟨?_, ?_, ?_, ?_, ?_, ?_, ?_⟩, ?_, ?_⟩
  · rw [gi_si]
    show _ = nI (G.1 ++ [_]).length
    rw [List.length_append, List.length_singleton]
  · simp only [mS]
    rw [if_neg (by omega), if_neg (by omega), if_neg (by omega), if_neg (by omega), if_neg (by omega)]
    exact h5
  · simp only [mS]
    rw [if_neg (by omega), if_neg (by omega), if_neg (by omega), if_neg (by omega), if_neg (by omega)]
    exact h6
  · simp only [mS]
    rw [if_neg (by omega), if_neg (by omega), if_neg (by omega), if_neg (by omega), if_neg (by omega)]
    exact h7
  · intro p x hx
    rcases app_get hx with ⟨hj, hx⟩ | ⟨hj, hx⟩
    · obtain ⟨g1, g2, g3, g4, F, f1, f2, f3, f4⟩ := hp p x hx
      have kk : ∀ y j, (y = q + 3 + 2 * p ∨ y = q + 4 + 2 * p) → gi (si (si (si (si (si m c 1 (nI a)) c 2 (nI b)) c 3 (nI G.2.1.length)) c 4 0) q 4 (nI (G.1.length + 1))) y j = gi m y j := by
        intro y j hy
        simp only [mS]
        rw [if_neg (by omega), if_neg (by omega), if_neg (by omega), if_neg (by omega), if_neg (by omega)]
      exact ⟨(kk _ _ (Or.inl rfl)).trans g1, (kk _ _ (Or.inl rfl)).trans g2, (kk _ _ (Or.inl rfl)).trans g3, (kk _ _ (Or.inl rfl)).trans g4, F, fun i k hik => (kk _ _ (Or.inr rfl)).trans (f1 i k hik), f2, f3, f4⟩
    · rw [hx, hj, hc]
      show _ ∧ _ ∧ _ ∧ gi _ c 4 = nI (cntR G.2.1 G.1.length) ∧ ∃ F : List Nat, _ ∧ F.length = cntR G.2.1 G.1.length ∧ (∀ k, k ∈ F ↔ k < cntR G.2.1 G.1.length) ∧ _
      rw [hz]
      refine ⟨?_, ?_, ?_, ?_, [], fun i k hik => by simp at hik, rfl, fun k => by simp, List.Pairwise.nil⟩
      · simp only [mS]; rw [if_neg (by omega), if_neg (by omega), if_neg (by omega), if_neg (by omega), if_pos ⟨trivial, trivial⟩]
      · simp only [mS]; rw [if_neg (by omega), if_neg (by omega), if_neg (by omega), if_pos ⟨trivial, trivial⟩]
      · simp only [mS]; rw [if_neg (by omega), if_neg (by omega), if_pos ⟨trivial, trivial⟩]
      · simp only [mS]; rw [if_neg (by omega), if_pos ⟨trivial, trivial⟩]; rfl
  · refine hr.keep hB.2.1 (fun x j h1 h2 => ⟨?_, rfl⟩)
    simp only [mS]
    rw [if_neg (by omega), if_neg (by omega), if_neg (by omega), if_neg (by omega), if_neg (by omega)]
  · refine hk.keep hB.2.2 (fun x j h1 h2 => ?_)
    simp only [mS]
    rw [if_neg (by omega), if_neg (by omega), if_neg (by omega), if_neg (by omega), if_neg (by omega)]
  · exact ((((Fr.si (by unfold FQ; omega)).tr (Fr.si (by unfold FQ; omega))).tr (Fr.si (by unfold FQ; omega))).tr (Fr.si (by unfold FQ; omega))).tr (Fr.si (by unfold FQ; omega))
  · simp only [mS]
    rw [if_neg (by omega), if_neg (by omega), if_neg (by omega), if_neg (by omega), if_neg (by omega)]
theorem blkI_dn (m : Mi) (a i hi : Nat) (f : Nat → Int32) (h : i < hi) : si (blkI m a (i + 1) hi f) a i (f i) = blkI m a i hi f := by
  refine Mi.ext' (fun x j => ?_) (fun _ _ => rfl) (fun _ _ => rfl)
  simp only [mS]
  by_cases h1 : x = a ∧ j = i
  · rw [if_pos h1, if_pos (by omega), h1.2]
  · rw [if_neg h1]
    by_cases h2 : x = a ∧ i + 1 ≤ j ∧ j < hi
    · rw [if_pos h2, if_pos (by omega)]
    · rw [if_neg h2, if_neg (by omega)]
theorem ins_lp {c a g z : Nat} {m : Mi} (hr : gr m c 0 = a) (hs : sh TT a = some (.inr (.int, 6))) (hz : z < 6) :
    ∀ d i N, i = g + d → i ≤ z → d < N → lp (fun x : Int32 × Mi => f_X2_insertRelease_l15 TT x.2 c (nI g) x.1) N (nI i, blkI m a (i + 1) (z + 1) (fun j => gi m a (j - 1))) = some (blkI m a (g + 1) (z + 1) (fun j => gi m a (j - 1))) := by
  intro d
  induction d with
  | zero =>
    intro i N hi hiz hN
    obtain ⟨N, rfl⟩ : ∃ y, N = y + 1 := ⟨N - 1, by omega⟩
    have : i = g := by omega
    subst this
    refine lp_exit ?_
    show f_X2_insertRelease_l15 TT _ c (nI i) (nI i) = _
    unfold f_X2_insertRelease_l15
    rw [if_pos (nI_le (Nat.le_refl _) (by omega))]
  | succ d ih =>
    intro i N hi hiz hN
    obtain ⟨N, rfl⟩ : ∃ y, N = y + 1 := ⟨N - 1, by omega⟩
    obtain ⟨k, rfl⟩ : ∃ k, i = k + 1 := ⟨i - 1, by omega⟩
    rw [lp_step (x' := (nI k, blkI m a (k + 1) (z + 1) (fun j => gi m a (j - 1))))]
    · exact ih k N (by omega) (by omega) (by omega)
    · show f_X2_insertRelease_l15 TT (blkI m a (k + 1 + 1) (z + 1) _) c (nI g) (nI (k + 1)) = _
      unfold f_X2_insertRelease_l15
      simp only [mS, hr]
      rw [if_neg (nI_ge (by omega) (by omega)), if_neg (nI_nle (by omega) (by omega)), nI_pred, if_pos (ar_of hs (by omega) (by omega)), if_pos (ar_of hs (by omega) (by omega)), ix_nI (by omega), ix_nI (by omega), if_neg (by omega), lt_eq, lt_eq, pk_m1]
      have := blkI_dn m a (k + 1) (z + 1) (fun j => gi m a (j - 1)) (by omega)
      simp only [Nat.add_sub_cancel] at this
      rw [this]
theorem insertRel_C {c a g z : Nat} {m : Mi} (hr : gr m c 0 = a) (hs : sh TT a = some (.inr (.int, 6))) (hz : z < 6) (hgz : g ≤ z) (h4 : gi m c 4 = nI z) (hca : c ≠ a) :
    f_X2_insertRelease TT m c (nI g) = some (si (si (blkI m a (g + 1) (z + 1) (fun j => gi m a (j - 1))) a g (nI z)) c 4 (nI (z + 1))) := by
  unfold f_X2_insertRelease f_X2_insertRelease_j15 f_X2_insertRelease_j44 f_X2_insertRelease_j67
  rw [hr, aa_of hs, if_pos rfl, ln_of hs, ofNat_nI, show nI 6 - 1 = nI 5 from rfl, h4, lt_eq]
  have hx : (if nI 5 < nI z then nI 5 else nI z) = nI z := by rw [if_neg (nI_nlt (by omega) (by omega))]
  have hl := ins_lp (g := g) (m := m) hr hs hz (z - g) z FUEL (by omega) (Nat.le_refl _) (by unfold FUEL; omega)
  have hnil : blkI m a (z + 1) (z + 1) (fun j => gi m a (j - 1)) = m := blkI_nil _ _ _ _
  rw [hnil] at hl
  rw [hx, hl, Option.bind_some, if_neg (nI_pos (by omega))]
  simp only [mS, hr]
  rw [aa_of hs, if_pos rfl, ln_of hs, ofNat_nI, if_neg (nI_ge (by omega) (by omega)), if_pos (ar_of hs (by omega) (by omega)), ix_nI (by omega), if_neg (show ¬ (c = a ∧ g + 1 ≤ 4 ∧ 4 < z + 1) from fun e => hca e.1), h4]
  simp only [lt_eq, mS]
  rw [if_neg (fun e => hca e.1), if_neg (fun e => hca e.1), h4, nI_1]
/-- of a falling list: those above x are its first ones -/
theorem fall_split {F : List Nat} {w : Nat → Row} {x : Row} (h8 : ∀ k, R8 (w k)) (hx : R8 x) (hF : F.Pairwise (fun i j => cmpL (w i) (w j) = 1)) : (∀ k ∈ F.take (F.countP (fun k => decide (cmpL (w k) x = 1))), cmpL (w k) x = 1) ∧ (∀ k ∈ F.drop (F.countP (fun k => decide (cmpL (w k) x = 1))), cmpL (w k) x ≠ 1) := by
  induction F with
  | nil => exact ⟨fun k hk => by simp at hk, fun k hk => by simp at hk⟩
  | cons y F ih =>
    obtain ⟨p1, p2⟩ := List.pairwise_cons.mp hF
    obtain ⟨i1, i2⟩ := ih p2
    rw [List.countP_cons]
    by_cases hy : cmpL (w y) x = 1
    · rw [if_pos (by rw [decide_eq_true_eq]; exact hy), List.take_succ_cons, List.drop_succ_cons]
      refine ⟨fun k hk => ?_, i2⟩
      rcases List.mem_cons.mp hk with h | h
      · rw [h]; exact hy
      · exact i1 k h
    · have hz : F.countP (fun k => decide (cmpL (w k) x = 1)) = 0 := by
        rw [List.countP_eq_zero]
        intro k hk
        rw [decide_eq_true_eq]
        intro e
        have h1 := p1 k hk
        apply hy
        have a1 := (cmp_sw (h8 k) hx).1.mp e
        have a2 := (cmp_sw (h8 y) (h8 k)).1.mp h1
        exact (cmp_sw hx (h8 y)).2.mp (cmpL_tr x (w k) (w y) (hx.trans (h8 k).symm) ((h8 k).trans (h8 y).symm) a1 a2)
      rw [if_neg (by rw [decide_eq_true_eq]; exact hy), hz]
      refine ⟨fun k hk => by simp at hk, fun k hk => ?_⟩
      rcases List.mem_cons.mp hk with h | h
      · rw [h]; exact hy
      · intro e
        have h1 := List.countP_eq_zero.mp hz k h
        exact h1 (by rw [decide_eq_true_eq]; exact e)
theorem fall_perm {F : List Nat} {z : Nat} {w : Nat → Row} (hF : F.Pairwise (fun i j => cmpL (w i) (w j) = 1)) (hm : ∀ k, k ∈ F ↔ k < z) : F.Perm (List.range z) := by
  refine (List.perm_ext_iff_of_nodup ?_ List.nodup_range).mpr (fun k => ?_)
  · refine hF.imp (fun {i j} h e => ?_)
    rw [e, cmpL_rf] at h
    cases h
  · rw [hm k, List.mem_range]
/-- the new one in its place -/
theorem fall_ins {F : List Nat} {z : Nat} {w w' : Nat → Row} (h8 : ∀ k, R8 (w k)) (hF : F.Pairwise (fun i j => cmpL (w i) (w j) = 1)) (hl : F.length = z) (hm : ∀ k, k ∈ F ↔ k < z) (hw : ∀ k, k < z → w' k = w k) (hx : R8 (w' z)) (hne : ∀ k, k < z → cmpL (w k) (w' z) ≠ 0) {g : Nat} (hg : g = (List.range z).countP (fun k => decide (cmpL (w k) (w' z) = 1))) :
    g ≤ z ∧ (F.take g ++ z :: F.drop g).Pairwise (fun i j => cmpL (w' i) (w' j) = 1) ∧ (F.take g ++ z :: F.drop g).length = z + 1 ∧ (∀ k, k ∈ F.take g ++ z :: F.drop g ↔ k < z + 1) := by
  have hgF : g = F.countP (fun k => decide (cmpL (w k) (w' z) = 1)) := by rw [hg, (fall_perm hF hm).countP_eq]
  have hgz : g ≤ z := by rw [hgF, ← hl]; exact List.countP_le_length
  obtain ⟨s1, s2⟩ := fall_split h8 hx hF
  rw [← hgF] at s1 s2
  have mt : ∀ k, k ∈ F.take g → k < z := fun k hk => (hm k).mp (List.mem_of_mem_take hk)
  have md : ∀ k, k ∈ F.drop g → k < z := fun k hk => (hm k).mp (List.mem_of_mem_drop hk)
  have hF2 := hF
  rw [← List.take_append_drop g F] at hF2
  obtain ⟨t1, t2, t3⟩ := List.pairwise_append.mp hF2
  refine ⟨hgz, ?_, ?_, fun k => ?_⟩
  · rw [List.pairwise_append]
    refine ⟨t1.imp_of_mem (fun {i j} hi hj h => by rw [hw i (mt i hi), hw j (mt j hj)]; exact h), List.pairwise_cons.mpr ⟨fun j hj => ?_, t2.imp_of_mem (fun {i j} hi hj h => by rw [hw i (md i hi), hw j (md j hj)]; exact h)⟩, fun i hi j hj => ?_⟩
    · rw [hw j (md j hj)]
      have h1 := s2 j hj
      have h2 := hne j (md j hj)
      have h3 := cmp_lt_of (h8 j) hx h2 h1
      exact (cmp_sw (h8 j) hx).2.mp h3
    · rcases List.mem_cons.mp hj with h | h
      · rw [h, hw i (mt i hi)]
        exact s1 i hi
      · rw [hw i (mt i hi), hw j (md j h)]
        exact t3 i hi j h
  · rw [List.length_append, List.length_cons, List.length_take, List.length_drop]
    omega
  · rw [List.mem_append, List.mem_cons]
    have e : k ∈ F ↔ k ∈ F.take g ∨ k ∈ F.drop g := by
      conv => lhs; rw [← List.take_append_drop g F]
      exact List.mem_append
    constructor
    · rintro (h | h | h)
      · have := mt k h; omega
      · omega
      · have := md k h; omega
    · intro h
      by_cases hk : k = z
      · exact Or.inr (Or.inl hk)
      · rcases e.mp ((hm k).mpr (by omega)) with h | h
        · exact Or.inl h
        · exact Or.inr (Or.inr h)
theorem rwv8 (T : Nat → Nat) (a b : Nat) : R8 (rwv T a b) := by
  unfold rwv
  split
  · exact LE8
  · exact rW8 _ _
theorem rvR8 (T : Nat → Nat) (R : List RlT) (r : Nat) : R8 (rvR T R r) := by
  unfold rvR
  split
  · exact rwv8 _ _ _
  · exact LE8
theorem rvR_get {T : Nat → Nat} {R : List RlT} {r : Nat} {x : RlT} (h : R[r]? = some x) : rvR T R r = rwv T x.2.1 x.2.2.1 := by
  unfold rvR
  rw [h]
theorem rvR_app {T : Nat → Nat} {R : List RlT} {r : Nat} {y : RlT} (h : r < R.length) : rvR T (R ++ [y]) r = rvR T R r := by
  unfold rvR
  rw [List.getElem?_append_left h]
