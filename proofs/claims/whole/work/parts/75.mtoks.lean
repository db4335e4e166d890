/-! The reference reads tokens. -/
def mk (k : Nat) : Nat := [0, 7, 1, 8, 9, 10, 11, 2, 2, 3, 4, 5, 6].getD k 0
def opv (T : Nat → Nat) (n p : Nat) : Nat := if T p = 42 then 42 else if opn T n p = 0 then 0 else if opn T n p = 1 then T p else T p + 256
/-- the fields of the token at hand, l the tokens from it on -/
def CurM (m : Mi) (T : Nat → Nat) (n : Nat) (l : List Tok) : Prop := match l with
  | [] => gi m 870 14 = 0 ∧ gi m 870 15 = nI n ∧ gi m 870 16 = nI n
  | x :: r => gi m 870 14 = nI (mk x.1) ∧ gi m 870 15 = nI x.2.1 ∧ (x.1 ≠ 1 → gi m 870 16 = nI x.2.2 ∧ r = tl T n x.2.2) ∧ (x.1 = 7 ∨ x.1 = 8 → gi m 870 17 = nI (x.2.1 + opn T n x.2.1) ∧ gi m 870 18 = nI (opv T n x.2.1))
def KK (m m' : Mi) : Prop := (∀ x j, ¬ (x = 870 ∧ (j = 5 ∨ (14 ≤ j ∧ j ≤ 18))) → gi m' x j = gi m x j) ∧ (∀ x j, x ≠ 873 → ¬ (x = 870 ∧ j = 6) → gl m' x j = gl m x j) ∧ ∀ x j, gr m' x j = gr m x j
theorem KK.rf {m : Mi} : KK m m := ⟨fun _ _ _ => rfl, fun _ _ _ _ => rfl, fun _ _ => rfl⟩
theorem KK.tr {m m1 m2 : Mi} (h : KK m m1) (h2 : KK m1 m2) : KK m m2 := ⟨fun x j a => (h2.1 x j a).trans (h.1 x j a), fun x j a b => (h2.2.1 x j a b).trans (h.2.1 x j a b), fun x j => (h2.2.2 x j).trans (h.2.2 x j)⟩
theorem KD.K {m m' : Mi} (h : KD m m') : KK m m' := ⟨fun x j a => h.1 x j (by omega), h.2.1, h.2.2⟩
theorem KK.si {m : Mi} (j : Nat) (v : Int32) (h : 14 ≤ j ∧ j ≤ 18) : KK m (si m 870 j v) := by
  refine ⟨fun x k a => ?_, fun _ _ _ _ => rfl, fun _ _ => rfl⟩
  simp only [mS]
  rw [if_neg (by omega)]
theorem MT.keepK {m m' : Mi} {n : Nat} {T : Nat → Nat} (h : MT m n T) (k : KK m m') : MT m' n T :=
  ⟨fun z hz => (k.2.2 _ _).trans (h.1 z hz), (k.1 _ _ (by omega)).trans h.2.1, h.2.2.1, fun j hj => ⟨(k.1 _ _ (by omega)).trans (h.2.2.2 j hj).1, (h.2.2.2 j hj).2⟩⟩
theorem cmM : (∀ c, c < 256 → f_X12_isSmall (nI c) = some (bI (sml c))) ∧ (∀ c, c < 256 → f_X12_isSign (nI c) = some (bI (prs c))) := by decide +kernel
theorem nms_lt {c : Nat} (h : nms c = true) : c < 123 := by
  unfold nms sml dg at h
  simp only [Bool.or_eq_true, Bool.and_eq_true, decide_eq_true_eq] at h
  omega
theorem by8_inj {T U : Nat → Nat} {p q : Nat} : ∀ n, (∀ j, j < n → T (p + j) < 256) → (∀ j, j < n → U (q + j) < 256) → by8 T p n = by8 U q n → ∀ j, j < n → T (p + j) = U (q + j) := by
  intro n
  induction n with
  | zero => intro _ _ _ j hj; cases hj
  | succ n ih =>
    intro h1 h2 h3 j hj
    rw [by8, by8] at h3
    have a1 := h1 n (by omega)
    have a2 := h2 n (by omega)
    have e1 : by8 T p n = by8 U q n := by omega
    by_cases hjn : j = n
    · rw [hjn]; omega
    · exact ih (fun j hj => h1 j (by omega)) (fun j hj => h2 j (by omega)) e1 j (by omega)
theorem by8_cong {T U : Nat → Nat} {p q : Nat} : ∀ n, (∀ j, j < n → T (p + j) = U (q + j)) → by8 T p n = by8 U q n := by
  intro n
  induction n with
  | zero => intro _; rfl
  | succ n ih => intro h; rw [by8, by8, ih (fun j hj => h j (by omega)), h n (by omega)]
theorem mword_lp {m : Mi} {n b e : Nat} {a1 : Int64} {a3 : Int32} {T : Nat → Nat} (h : MT m n T) (he : e ≤ n) (h16 : gi m 870 16 = nI e) :
    ∀ d k N, b + k + d = e → d < N → lp (fun x : Int64 × Int32 => f_X12_isWord_l9 TT m 870 a1 a3 x.1 x.2) N (byL T b k, nI (b + k)) = some (byL T b (k + d)) := by
  have hn := h.2.2.1
  intro d
  induction d with
  | zero =>
    intro k N hk hN
    obtain ⟨N, rfl⟩ : ∃ z, N = z + 1 := ⟨N - 1, by omega⟩
    refine lp_exit ?_
    show f_X12_isWord_l9 TT m 870 a1 a3 (byL T b k) (nI (b + k)) = _
    unfold f_X12_isWord_l9
    rw [h16, if_pos (nI_le (by omega) (by omega))]
    rfl
  | succ d ih =>
    intro k N hk hN
    obtain ⟨N, rfl⟩ : ∃ z, N = z + 1 := ⟨N - 1, by omega⟩
    rw [lp_step (x' := (byL T b (k + 1), nI (b + (k + 1))))]
    · rw [ih (k + 1) N (by omega) (by omega), show k + 1 + d = k + (d + 1) by omega]
    · show f_X12_isWord_l9 TT m 870 a1 a3 (byL T b k) (nI (b + k)) = _
      unfold f_X12_isWord_l9
      rw [h16, if_neg (nI_ge (by omega) (by omega)), at_spec h (by omega), Option.bind_some]
      unfold mg
      rw [if_pos (by omega), lt_eq, lt_eq, nI_1]
      rfl
theorem mword_spec {m : Mi} {n b e : Nat} {T : Nat → Nat} {W : List Nat} (h : MT m n T) (hb : b ≤ e) (he : e ≤ n) (h15 : gi m 870 15 = nI b) (h16 : gi m 870 16 = nI e) (hs : ∀ j, j < e - b → T (b + j) < 123) (hl : W.length ≤ 7) (hW : ∀ x ∈ W, x < 123) :
    f_X12_isWord TT m 870 (lN (by8 (fun j => W.getD j 0) 0 W.length)) (nI W.length) = some (bI (wrd W T b (e - b))) := by
  have hn := h.2.2.1
  have l1 := mword_lp (b := b) (a1 := lN (by8 (fun j => W.getD j 0) 0 W.length)) (a3 := nI W.length) h he h16 (e - b) 0 FUEL (by omega) (by unfold FUEL; omega)
  rw [Nat.zero_add, Nat.add_zero] at l1
  unfold f_X12_isWord f_X12_isWord_j9
  rw [lt_eq, h15, show ((0 : Int64), nI b) = (byL T b 0, nI b) from rfl, l1, Option.bind_some]
  unfold f_X12_isWord_j39
  rw [h15, h16, pk_sub hb]
  by_cases hle : e - b = W.length
  · rw [if_pos (by rw [hle])]
    have hv : byL T b (e - b) = lN (by8 T b (e - b)) := byL_by8 _ (by omega) hs
    have b1 : ∀ n, n ≤ 7 → (∀ j, j < n → T (b + j) < 123) → by8 T b n < 2 ^ 63 := by
      intro n hn hh
      cases n with
      | zero => rw [by8]; omega
      | succ n =>
        have h1 := (by8_lt (T := T) (p := b) n hh).1
        have h2 : 256 ^ n ≤ 256 ^ 6 := Nat.pow_le_pow_right (by omega) (by omega)
        omega
    have hWj : ∀ j, j < W.length → W.getD j 0 < 123 := fun j hj => hW _ (getD_in hj)
    have b2 : by8 (fun j => W.getD j 0) 0 W.length < 2 ^ 63 := by
      cases hz : W.length with
      | zero => rw [by8]; omega
      | succ z =>
        have h1 := (by8_lt (T := fun j => W.getD j 0) (p := 0) z (fun j hj => by rw [Nat.zero_add]; exact hWj j (by omega))).1
        have h2 : 256 ^ z ≤ 256 ^ 6 := Nat.pow_le_pow_right (by omega) (by omega)
        omega
    rw [hv]
    by_cases hx : by8 T b (e - b) = by8 (fun j => W.getD j 0) 0 W.length
    · have hw : wrd W T b (e - b) = true := by
        rw [wrd_iff]
        refine ⟨hle.symm, fun j hj => ?_⟩
        rw [← hle] at hx
        have := by8_inj (e - b) (fun j hj => by have := hs j hj; omega) (fun j hj => by rw [Nat.zero_add]; have := hWj j (by omega); omega) hx j hj
        rw [Nat.zero_add] at this
        exact this.symm
      rw [if_pos ((lg_cmp_eq _ _).mpr (by rw [hx])), hw]
      rfl
    · have hw : wrd W T b (e - b) = false := by
        cases hz : wrd W T b (e - b) with
        | false => rfl
        | true =>
          exfalso
          apply hx
          rw [hle]
          refine by8_cong _ (fun j hj => ?_)
          rw [Nat.zero_add]
          exact ((wrd_iff.mp hz).2 j (by omega)).symm
      rw [if_neg (fun x => hx ((lN3 (b1 _ (by omega) hs) b2).mp ((lg_cmp_eq _ _).mp x))), hw]
      rfl
  · rw [if_neg (fun x => hle ((nI_eq (by omega) (by omega)).mp x))]
    have hw : wrd W T b (e - b) = false := by
      cases hz : wrd W T b (e - b) with
      | false => rfl
      | true => exact absurd (wrd_iff.mp hz).1.symm hle
    rw [hw]
    rfl
theorem wrd_ex {W V : List Nat} {T : Nat → Nat} {p l : Nat} (hne : W ≠ V) (h : wrd W T p l = true) : wrd V T p l = false := by
  unfold wrd at h ⊢
  rw [decide_eq_true_eq] at h
  rw [decide_eq_false_iff_not]
  intro h2
  exact hne (h.trans h2.symm)
theorem wordM : (by8 (fun j => W0.getD j 0) 0 7 = 31632277022795621) ∧ (by8 (fun j => W1.getD j 0) 0 4 = 2002873972) ∧ (by8 (fun j => W2.getD j 0) 0 5 = 474147546227) ∧ (by8 (fun j => W3.getD j 0) 0 5 = 427020088168) := by decide +kernel
/-- the word's kind: the reference asks for the four words one by one -/
theorem mname_spec {m : Mi} {n b e k0 : Nat} {T : Nat → Nat} (h : MT m n T) (hb : b ≤ e) (he : e ≤ n) (h15 : gi m 870 15 = nI b) (h16 : gi m 870 16 = nI e) (hs : ∀ j, j < e - b → T (b + j) < 123) :
    f_X12_token_j144 TT m 870 (nI k0) 870 = some (si m 870 14 (nI (if wrd W0 T b (e - b) = true then 8 else if wrd W1 T b (e - b) = true then 9 else if wrd W2 T b (e - b) = true then 10 else if wrd W3 T b (e - b) = true then 11 else k0))) := by
  have hw : ∀ v, MT (si m 870 14 v) n T ∧ gi (si m 870 14 v) 870 15 = nI b ∧ gi (si m 870 14 v) 870 16 = nI e := by
    intro v
    refine ⟨h.keepK (KK.si 14 v (by omega)), ?_, ?_⟩
    · simp only [mS]; rw [if_neg (by omega)]; exact h15
    · simp only [mS]; rw [if_neg (by omega)]; exact h16
  have w0 : ∀ v, f_X12_isWord TT (si m 870 14 v) 870 31632277022795621 7 = some (bI (wrd W0 T b (e - b))) := fun v => by
    have := mword_spec (W := W0) (hw v).1 hb he (hw v).2.1 (hw v).2.2 hs (by decide) (by decide)
    rw [show W0.length = 7 from rfl, wordM.1] at this
    exact this
  have w1 : ∀ v, f_X12_isWord TT (si m 870 14 v) 870 2002873972 4 = some (bI (wrd W1 T b (e - b))) := fun v => by
    have := mword_spec (W := W1) (hw v).1 hb he (hw v).2.1 (hw v).2.2 hs (by decide) (by decide)
    rw [show W1.length = 4 from rfl, wordM.2.1] at this
    exact this
  have w2 : ∀ v, f_X12_isWord TT (si m 870 14 v) 870 474147546227 5 = some (bI (wrd W2 T b (e - b))) := fun v => by
    have := mword_spec (W := W2) (hw v).1 hb he (hw v).2.1 (hw v).2.2 hs (by decide) (by decide)
    rw [show W2.length = 5 from rfl, wordM.2.2.1] at this
    exact this
  have w3 : ∀ v, f_X12_isWord TT (si m 870 14 v) 870 427020088168 5 = some (bI (wrd W3 T b (e - b))) := fun v => by
    have := mword_spec (W := W3) (hw v).1 hb he (hw v).2.1 (hw v).2.2 hs (by decide) (by decide)
    rw [show W3.length = 5 from rfl, wordM.2.2.2] at this
    exact this
  have j199 : ∀ v, f_X12_token_j199 TT (si m 870 14 v) 870 = some (si m 870 14 (if wrd W3 T b (e - b) = true then 11 else v)) := by
    intro v
    unfold f_X12_token_j199
    rw [w3, Option.bind_some]
    cases wrd W3 T b (e - b) with
    | true => rw [if_neg bTr, if_pos rfl, lt_eq, si_si]
    | false => rw [if_pos bF, if_neg fNt]
  have j182 : ∀ v, f_X12_token_j182 TT (si m 870 14 v) 870 = some (si m 870 14 (if wrd W3 T b (e - b) = true then 11 else if wrd W2 T b (e - b) = true then 10 else v)) := by
    intro v
    unfold f_X12_token_j182
    rw [w2, Option.bind_some]
    cases wrd W2 T b (e - b) with
    | true => rw [if_neg bTr, if_pos rfl, lt_eq, si_si, j199]
    | false => rw [if_pos bF, if_neg fNt, j199]
  have j165 : ∀ v, f_X12_token_j165 TT (si m 870 14 v) 870 = some (si m 870 14 (if wrd W3 T b (e - b) = true then 11 else if wrd W2 T b (e - b) = true then 10 else if wrd W1 T b (e - b) = true then 9 else v)) := by
    intro v
    unfold f_X12_token_j165
    rw [w1, Option.bind_some]
    cases wrd W1 T b (e - b) with
    | true => rw [if_neg bTr, if_pos rfl, lt_eq, si_si, j182]
    | false => rw [if_pos bF, if_neg fNt, j182]
  unfold f_X12_token_j144
  rw [ob_of s_870, if_pos rfl, lt_eq, w0, Option.bind_some]
  cases x0 : wrd W0 T b (e - b) with
  | true =>
    rw [if_neg bTr, if_pos rfl, lt_eq, si_si, j165, wrd_ex (by decide) x0, wrd_ex (V := W2) (by decide) x0, wrd_ex (V := W1) (by decide) x0]
    rfl
  | false =>
    rw [if_pos bF, if_neg fNt, j165]
    cases x1 : wrd W1 T b (e - b) with
    | true => rw [wrd_ex (V := W3) (by decide) x1, wrd_ex (V := W2) (by decide) x1]; rfl
    | false =>
      cases x2 : wrd W2 T b (e - b) with
      | true => rw [wrd_ex (V := W3) (by decide) x2]; rfl
      | false => cases wrd W3 T b (e - b) <;> rfl
