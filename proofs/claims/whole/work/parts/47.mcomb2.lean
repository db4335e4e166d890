/-! 'combined': its loop over the marks, and what it lays down. -/
theorem trM_congr {f g : Nat → Int64} (h : ∀ z, z < 9 → f z = g z) : trM f = trM g := by
  unfold trM
  apply rowF_congr
  intro z hz
  unfold trF
  rw [h 0 (by omega), h 3 (by omega), h z (by omega), h (z + 1) (by omega)]
theorem joins_spec {how : Nat} (h : how < 3) (x y : Bool) : f_X12_joins (nI how) (bI x) (bI y) = some (bI (kp how x y)) := by
  have h3 : how = 0 ∨ how = 1 ∨ how = 2 := by omega
  rcases h3 with rfl | rfl | rfl <;> cases x <;> cases y <;> rfl
/-- the ends found so far stand in 876 -/
def MO (m : Mi) (O : List Row) : Prop := gi m 870 10 = nI O.length ∧ ∀ b, b < O.length → VR (fun z => gl m 876 (9 * b + z)) ∧ O[b]? = some (trM (fun z => gl m 876 (9 * b + z)))
def KpL (m m' : Mi) : Prop := (∀ x j, x ≠ 876 → x ≠ 878 → x ≠ 879 → gl m' x j = gl m x j) ∧ (∀ x j, ¬ (x = 870 ∧ j = 10) → gi m' x j = gi m x j) ∧ ∀ x j, gr m' x j = gr m x j
theorem KpL.rf {m : Mi} : KpL m m := ⟨fun _ _ _ _ _ => rfl, fun _ _ _ => rfl, fun _ _ => rfl⟩
theorem KpL.tr {m m1 m2 : Mi} (h : KpL m m1) (h2 : KpL m1 m2) : KpL m m2 := ⟨fun x j a b c => (h2.1 x j a b c).trans (h.1 x j a b c), fun x j a => (h2.2.1 x j a).trans (h.2.1 x j a), fun x j => (h2.2.2 x j).trans (h.2.2 x j)⟩
theorem KpN.L {m m' : Mi} (h : KpN m m') : KpL m m' := ⟨fun x j _ b c => h.1 x j b c, fun x j _ => h.2.1 x j, h.2.2⟩
theorem MG.keepL {m m' : Mi} {r : Nat} {B : List Row} (h : MG m r B) (k : KpL m m') : MG m' r B := by
  obtain ⟨n, h1, h2, h3, h4, h5⟩ := h
  have e : ∀ p, (fun z => gl m' 875 (p + z)) = fun z => gl m 875 (p + z) := fun p => funext fun z => k.1 _ _ (by decide) (by decide) (by decide)
  refine ⟨n, h1, h2, (k.2.1 _ _ (by omega)).trans h3, fun b hb => by rw [e]; exact h4 b hb, ?_⟩
  rw [← h5]
  unfold bM
  apply List.map_congr_left
  intro b _
  rw [e]
theorem WFM.keepL {m m' : Mi} (h : WFM m) (k : KpL m m') : WFM m' := fun z hz => (k.2.2 _ _).trans (h z hz)
theorem MO.keepN {m m' : Mi} {O : List Row} (h : MO m O) (k : KpN m m') : MO m' O := by
  have e : ∀ p, (fun z => gl m' 876 (p + z)) = fun z => gl m 876 (p + z) := fun p => funext fun z => k.1 _ _ (by decide) (by decide)
  refine ⟨(k.2.1 _ _).trans h.1, fun b hb => ?_⟩
  rw [e]
  exact h.2 b hb
/-- the mark goes to the ends -/
theorem mo_add {m : Mi} {O : List Row} (hM : WFM m) (hO : MO m O) (hl : O.length < 650) (hx : VR (row9 m 878)) :
    ∃ m', ((f_X12_copy TT m (gr m 870 9) ((gi m 870 10) * 9) (gr m 870 12) 0).bind fun m23 => some (si m23 870 10 ((gi m23 870 10) + 1))) = some m' ∧ MO m' (O ++ [trM (row9 m 878)]) ∧ KpL m m' ∧ ∀ j, gl m' 878 j = gl m 878 j := by
  have r9 : gr m 870 9 = 876 := hM 9 (by omega)
  have r12 : gr m 870 12 = 878 := hM 12 (by omega)
  have hcp := mcopy_spec (m := m) (a := 876) (i := 9 * O.length) (b := 878) (j := 0) s_876 s_878 (by omega) (by omega) (by omega) (by omega) (Or.inl (by decide))
  refine ⟨si (blkL m 876 (9 * O.length) (9 * O.length + 9) (fun q => gl m 878 (0 + (q - 9 * O.length)))) 870 10 (nI (O.length + 1)), ?_, ⟨?_, fun b hb => ?_⟩, ⟨fun x j h _ _ => ?_, fun x j h => ?_, fun _ _ => rfl⟩, fun j => ?_⟩
  · rw [r9, r12, hO.1, show (9 : Int32) = nI 9 from rfl, pk_mul, Nat.mul_comm O.length 9, show (0 : Int32) = nI 0 from rfl, hcp, Option.bind_some]
    simp only [mS]
    rw [hO.1, nI_1]
  · simp only [mS]
    simp
  · by_cases hb2 : b < O.length
    · have e : (fun z => gl (si (blkL m 876 (9 * O.length) (9 * O.length + 9) (fun q => gl m 878 (0 + (q - 9 * O.length)))) 870 10 (nI (O.length + 1))) 876 (9 * b + z)) = fun z => if 9 * O.length ≤ 9 * b + z ∧ 9 * b + z < 9 * O.length + 9 then gl m 878 (0 + (9 * b + z - 9 * O.length)) else gl m 876 (9 * b + z) := by
        funext z
        simp only [mS]
        simp
      obtain ⟨⟨g, hg1, hg2⟩, q2⟩ := hO.2 b hb2
      have e9 : ∀ z, z < 9 → (if 9 * O.length ≤ 9 * b + z ∧ 9 * b + z < 9 * O.length + 9 then gl m 878 (0 + (9 * b + z - 9 * O.length)) else gl m 876 (9 * b + z)) = gl m 876 (9 * b + z) := fun z hz => if_neg (by omega)
      rw [e]
      refine ⟨⟨g, fun z hz => by show (if _ then _ else _) = _ ∧ _; rw [e9 z hz]; exact hg1 z hz, hg2⟩, ?_⟩
      rw [List.getElem?_append_left hb2, q2]
      refine congrArg some ?_
      exact trM_congr (fun z hz => (e9 z hz).symm)
    · have hb3 : b = O.length := by simp at hb; omega
      subst hb3
      have e : (fun z => gl (si (blkL m 876 (9 * O.length) (9 * O.length + 9) (fun q => gl m 878 (0 + (q - 9 * O.length)))) 870 10 (nI (O.length + 1))) 876 (9 * O.length + z)) = fun z => if z < 9 then row9 m 878 z else gl m 876 (9 * O.length + z) := by
        funext z
        simp only [mS]
        unfold row9
        by_cases hz : z < 9
        · rw [if_pos ⟨trivial, by omega, by omega⟩, if_pos hz, show 9 * O.length + z - 9 * O.length = z by omega]
        · rw [if_neg (by omega), if_neg hz]
      rw [e]
      have e9 : ∀ z, z < 9 → (if z < 9 then row9 m 878 z else gl m 876 (9 * O.length + z)) = row9 m 878 z := fun z hz => if_pos hz
      obtain ⟨g, hg1, hg2⟩ := hx
      refine ⟨⟨g, fun z hz => by show (if _ then _ else _) = _ ∧ _; rw [e9 z hz]; exact hg1 z hz, hg2⟩, ?_⟩
      rw [List.getElem?_append_right (Nat.le_refl _), Nat.sub_self]
      refine congrArg some ?_
      exact trM_congr (fun z hz => (e9 z hz).symm)
  · simp only [mS]
    rw [if_neg (fun e => h e.1)]
  · simp only [mS]
    rw [if_neg h]
  · simp only [mS]
    rw [if_neg (by omega)]
theorem mcomb_step {how ra rb : Nat} {to : Int32} {A B : List Row} (hh : how < 3) (hra : ra < 272) (hrb : rb < 272) (uA : Up A) (uB : Up B) {i : Bool} {O : List Row} {m : Mi} (hl : O.length < 650) (hM : WFM m) (hA : MG m ra A) (hB : MG m rb B) (hx : VR (row9 m 878)) (hO : MO m O) {X : Row} (hX : trM (row9 m 878) = X) {s : Bool} (hs : kp how (par A X) (par B X) = s) :
    ∃ m', KpL m m' ∧ MO m' (if s = i then O else O ++ [X]) ∧ (if nx X (nx X EN A) B = EN then f_X12_combined_l20 TT m 870 (nI how) (nI ra) (nI rb) to (bI i) 1 = some (.inl (bI s, 0, m')) else f_X12_combined_l20 TT m 870 (nI how) (nI ra) (nI rb) to (bI i) 1 = some (.inl (bI s, 1, m')) ∧ VR (row9 m' 878) ∧ trM (row9 m' 878) = nx X (nx X EN A) B) := by
  have r12 : gr m 870 12 = 878 := hM 12 (by omega)
  have ha := mhas_spec (a := 878) (i := 0) hM hra hA uA s_878 (by omega) (by omega) hx
  have hb := mhas_spec (a := 878) (i := 0) hM hrb hB uB s_878 (by omega) (by omega) hx
  rw [show trM (fun z => gl m 878 (0 + z)) = X from hX] at ha hb
  have head : ∀ z : Option ((Int32 × Int32 × Mi) ⊕ ((Int32 × Mi))), (if s = i then f_X12_combined_j91 TT m 870 (nI how) (nI ra) (nI rb) to (bI i) else (f_X12_copy TT m (gr m 870 9) ((gi m 870 10) * 9) (gr m 870 12) 0).bind fun m23 => f_X12_combined_j91 TT (si m23 870 10 ((gi m23 870 10) + 1)) 870 (nI how) (nI ra) (nI rb) to (bI s)) = z → f_X12_combined_l20 TT m 870 (nI how) (nI ra) (nI rb) to (bI i) 1 = z := by
    intro z hz
    unfold f_X12_combined_l20
    rw [if_neg (by decide), r12, show (0 : Int32) = nI 0 from rfl, ha, Option.bind_some, hb, Option.bind_some, joins_spec hh, Option.bind_some, hs]
    simp only [lt_eq]
    rw [r12, show (0 : Int32) = nI 0 from rfl] at hz
    by_cases h : s = i
    · rw [if_pos (by rw [h]), ← hz, if_pos h]
    · rw [if_neg (fun e => h ((bI_eq _ _).mp e)), ← hz, if_neg h]
  by_cases hsi : s = i
  · obtain ⟨m1, k1, h1⟩ := mnext_spec hM hra hrb hA hB hx
    rw [hX] at h1
    refine ⟨m1, k1.L, by rw [if_pos hsi]; exact hO.keepN k1, ?_⟩
    by_cases hY : nx X (nx X EN A) B = EN
    · rw [if_pos hY] at h1 ⊢
      refine head _ ?_
      rw [if_pos hsi]
      unfold f_X12_combined_j91
      rw [h1, bd_some, hsi]
    · rw [if_neg hY] at h1 ⊢
      refine ⟨head _ ?_, h1.2⟩
      rw [if_pos hsi]
      unfold f_X12_combined_j91
      rw [h1.1, bd_some, hsi]
  · obtain ⟨m0, e0, o0, k0, g0⟩ := mo_add hM hO hl hx
    have e878 : row9 m0 878 = row9 m 878 := funext fun z => g0 _
    obtain ⟨m1, k1, h1⟩ := mnext_spec (hM.keepL k0) hra hrb (hA.keepL k0) (hB.keepL k0) (by rw [e878]; exact hx)
    rw [e878, hX] at h1
    rw [hX] at o0
    have hcopy : ∀ {γ : Type} (f : Mi → Option γ), ((f_X12_copy TT m (gr m 870 9) ((gi m 870 10) * 9) (gr m 870 12) 0).bind fun m23 => f (si m23 870 10 ((gi m23 870 10) + 1))) = f m0 := by
      intro γ f
      cases hc : f_X12_copy TT m (gr m 870 9) ((gi m 870 10) * 9) (gr m 870 12) 0 with
      | none => rw [hc] at e0; cases e0
      | some m23 =>
        rw [hc] at e0
        have := Option.some.inj e0
        rw [← this]
        rfl
    refine ⟨m1, k0.tr k1.L, by rw [if_neg hsi]; exact o0.keepN k1, ?_⟩
    by_cases hY : nx X (nx X EN A) B = EN
    · rw [if_pos hY] at h1 ⊢
      refine head _ ?_
      rw [if_neg hsi, hcopy (fun q => f_X12_combined_j91 TT q 870 (nI how) (nI ra) (nI rb) to (bI s))]
      unfold f_X12_combined_j91
      rw [h1, bd_some]
    · rw [if_neg hY] at h1 ⊢
      refine ⟨head _ ?_, h1.2⟩
      rw [if_neg hsi, hcopy (fun q => f_X12_combined_j91 TT q 870 (nI how) (nI ra) (nI rb) to (bI s))]
      unfold f_X12_combined_j91
      rw [h1.1, bd_some]
theorem mcomb_lp {how ra rb : Nat} {to : Int32} {A B : List Row} (hh : how < 3) (hra : ra < 272) (hrb : rb < 272) (uA : Up A) (uB : Up B) :
    ∀ (n : Nat) (i : Bool) (O : List Row) (N : Nat) (m : Mi) (X : Row), trM (row9 m 878) = X → cnt A B X ≤ n → n + 2 < N → O.length + n ≤ 600 → WFM m → MG m ra A → MG m rb B → VR (row9 m 878) → MO m O →
    ∃ m', lp (fun x : Int32 × Int32 × Mi => f_X12_combined_l20 TT x.2.2 870 (nI how) (nI ra) (nI rb) to x.1 x.2.1) N (bI i, 1, m) = some (bI (cbs how A B (n + 1) X i O).1, m') ∧ MO m' (cbs how A B (n + 1) X i O).2 ∧ KpL m m' := by
  have fini : ∀ (N : Nat) (s : Bool) (m1 : Mi), lp (fun x : Int32 × Int32 × Mi => f_X12_combined_l20 TT x.2.2 870 (nI how) (nI ra) (nI rb) to x.1 x.2.1) (N + 1) (bI s, 0, m1) = some (bI s, m1) := by
    intro N s m1
    refine lp_exit ?_
    show f_X12_combined_l20 TT m1 870 (nI how) (nI ra) (nI rb) to (bI s) 0 = _
    unfold f_X12_combined_l20
    rw [if_pos rfl]
  intro n
  induction n with
  | zero =>
    intro i O N m X hX hc hN hOn hM hA hB hx hO
    obtain ⟨N, rfl⟩ : ∃ z, N = z + 1 + 1 := ⟨N - 2, by omega⟩
    obtain ⟨m1, k1, o1, h1⟩ := mcomb_step (to := to) (i := i) hh hra hrb uA uB (by omega) hM hA hB hx hO hX rfl
    have hX8 : R8 X := by rw [← hX]; rfl
    have hY : nx X (nx X EN A) B = EN := by
      obtain ⟨a1, a2, -, -⟩ := nx_spec hX8 A EN EN8 uA.2
      obtain ⟨b1, b2, -, -⟩ := nx_spec hX8 B (nx X EN A) a1 uB.2
      have npos : ∀ e ∈ A ++ B, cmpL e X ≠ 1 := fun e he h => by
        have : 0 < cnt A B X := List.countP_pos_iff.mpr ⟨e, he, decide_eq_true h⟩
        omega
      rcases b2 with h | h
      · rw [h]
        rcases a2 with h' | h'
        · exact h'
        · exact absurd h'.2 (npos _ (List.mem_append_left _ h'.1))
      · exact absurd h.2 (npos _ (List.mem_append_right _ h.1))
    rw [if_pos hY] at h1
    rw [cbs, if_pos hY]
    refine ⟨m1, ?_, o1, k1⟩
    rw [lp_step (x' := (bI (kp how (par A X) (par B X)), 0, m1)) h1]
    exact fini _ _ _
  | succ n ih =>
    intro i O N m X hX hc hN hOn hM hA hB hx hO
    obtain ⟨N, rfl⟩ : ∃ z, N = z + 1 + 1 := ⟨N - 2, by omega⟩
    obtain ⟨m1, k1, o1, h1⟩ := mcomb_step (to := to) (i := i) hh hra hrb uA uB (by omega) hM hA hB hx hO hX rfl
    have hX8 : R8 X := by rw [← hX]; rfl
    rw [cbs]
    by_cases hY : nx X (nx X EN A) B = EN
    · rw [if_pos hY] at h1 ⊢
      refine ⟨m1, ?_, o1, k1⟩
      rw [lp_step (x' := (bI (kp how (par A X) (par B X)), 0, m1)) h1]
      exact fini _ _ _
    · rw [if_neg hY] at h1 ⊢
      have hlt : cnt A B (nx X (nx X EN A) B) < cnt A B X := by
        obtain ⟨a1, a2, a3, a4⟩ := nx_spec hX8 A EN EN8 uA.2
        obtain ⟨b1, b2, b3, b4⟩ := nx_spec hX8 B (nx X EN A) a1 uB.2
        have h6 : nx X (nx X EN A) B ∈ A ++ B ∧ cmpL (nx X (nx X EN A) B) X = 1 := by
          rcases b2 with h | h
          · rcases a2 with h' | h'
            · exact absurd (h.trans h') hY
            · rw [h]; exact ⟨List.mem_append_left _ h'.1, h'.2⟩
          · exact ⟨List.mem_append_right _ h.1, h.2⟩
        have hXY := (cmp_sw b1 hX8).1.mp h6.2
        unfold cnt
        refine countP_lt (y := nx X (nx X EN A) B) (fun a ha hp => ?_) h6.1 (by rw [cmpL_rf]; rfl) (decide_eq_true h6.2)
        have a8 : R8 a := (List.mem_append.mp ha).elim (uA.2 a) (uB.2 a)
        have q := (cmp_sw a8 b1).1.mp (of_decide_eq_true hp)
        exact decide_eq_true ((cmp_sw hX8 a8).2.mp (cmpL_tr X _ a (hX8.trans b1.symm) (b1.trans a8.symm) hXY q))
      have hlen : (if kp how (par A X) (par B X) = i then O else O ++ [X]).length ≤ O.length + 1 := by split <;> simp
      obtain ⟨m2, e2, o2, k2⟩ := ih (kp how (par A X) (par B X)) _ (N + 1) m1 _ h1.2.2 (by omega) (by omega) (by omega) (hM.keepL k1) (hA.keepL k1) (hB.keepL k1) h1.2.1 o1
      refine ⟨m2, ?_, o2, k1.tr k2⟩
      rw [lp_step (x' := (bI (kp how (par A X) (par B X)), 1, m1)) h1.1]
      exact e2
