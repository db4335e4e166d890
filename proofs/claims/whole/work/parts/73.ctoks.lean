/-! The class reads tokens. -/
theorem run_lp {f : Nat → Bool} {T : Nat → Nat} {e : Nat} {body : Int32 → Option (Int32 ⊕ Int32)} (h : ∀ i, i ≤ e → body (nI i) = if i < e ∧ f (T i) = true then some (.inl (nI (i + 1))) else some (.inr (nI i))) :
    ∀ d p N, e - p ≤ d → d < N → p ≤ e → lp body N (nI p) = some (nI (p + run f T e d p)) := by
  intro d
  induction d with
  | zero =>
    intro p N h1 h2 h3
    obtain ⟨N, rfl⟩ : ∃ z, N = z + 1 := ⟨N - 1, by omega⟩
    exact lp_exit (by rw [h p h3, if_neg (by omega)]; rfl)
  | succ d ih =>
    intro p N h1 h2 h3
    obtain ⟨N, rfl⟩ : ∃ z, N = z + 1 := ⟨N - 1, by omega⟩
    rw [run]
    by_cases hc : p < e ∧ f (T p) = true
    · rw [if_pos hc, lp_step (x' := nI (p + 1)) (by rw [h p h3, if_pos hc]), ih (p + 1) N (by omega) (by omega) (by omega), show p + (run f T e d (p + 1) + 1) = p + 1 + run f T e d (p + 1) by omega]
    · rw [if_neg hc]
      exact lp_exit (by rw [h p h3, if_neg hc]; rfl)
theorem run_lpF {f : Nat → Bool} {T : Nat → Nat} {e p : Nat} {body : Int32 → Option (Int32 ⊕ Int32)} (h : ∀ i, i ≤ e → body (nI i) = if i < e ∧ f (T i) = true then some (.inl (nI (i + 1))) else some (.inr (nI i))) (hp : p ≤ e) (he : e < 2 ^ 31) :
    lp body FUEL (nI p) = some (nI (p + run f T e (e - p) p)) := run_lp h (e - p) p FUEL (Nat.le_refl _) (by unfold FUEL; omega) hp
/-- the tokens' object as it is laid -/
def WT (m : Mi) : Prop := gr m 42 0 = 43 ∧ gr m 42 1 = 44 ∧ gr m 42 2 = 45 ∧ gr m 42 6 = 46 ∧ gr m 46 0 = 47
def TS (m : Mi) (c e : Nat) (T : Nat → Nat) : Prop := gr m 42 4 = c ∧ c ≠ 0 ∧ (c < 42 ∨ 47 < c) ∧ sh TT c = some (.inr (.byte, 2000)) ∧ e ≤ 2000 ∧ gi m 42 5 = nI e ∧ Tx m c e T
def TLs (m : Mi) (l : List Tok) : Prop := gi m 42 3 = nI l.length ∧ l.length ≤ 2000 ∧ ∀ j x, l[j]? = some x → gi m 43 j = nI x.1 ∧ gi m 44 j = nI x.2.1 ∧ gi m 45 j = nI x.2.2
def KU (m m' : Mi) : Prop := (∀ x j, x ≠ 43 → x ≠ 44 → x ≠ 45 → x ≠ 46 → ¬ (x = 42 ∧ j = 3) → gi m' x j = gi m x j) ∧ (∀ x j, x ≠ 47 → gl m' x j = gl m x j) ∧ ∀ x j, ¬ (x = 46 ∧ j = 2) → gr m' x j = gr m x j
theorem KU.rf {m : Mi} : KU m m := ⟨fun _ _ _ _ _ _ _ => rfl, fun _ _ _ => rfl, fun _ _ _ => rfl⟩
theorem KU.tr {m m1 m2 : Mi} (h : KU m m1) (h2 : KU m1 m2) : KU m m2 := ⟨fun x j a b c d e => (h2.1 x j a b c d e).trans (h.1 x j a b c d e), fun x j a => (h2.2.1 x j a).trans (h.2.1 x j a), fun x j a => (h2.2.2 x j a).trans (h.2.2 x j a)⟩
theorem WT.keep {m m' : Mi} (h : WT m) (k : KU m m') : WT m' := by
  obtain ⟨h1, h2, h3, h4, h5⟩ := h
  exact ⟨(k.2.2 _ _ (by omega)).trans h1, (k.2.2 _ _ (by omega)).trans h2, (k.2.2 _ _ (by omega)).trans h3, (k.2.2 _ _ (by omega)).trans h4, (k.2.2 _ _ (by omega)).trans h5⟩
theorem TS.keep {m m' : Mi} {c e : Nat} {T : Nat → Nat} (h : TS m c e T) (k : KU m m') : TS m' c e T := by
  obtain ⟨h1, h2, h3, h4, h5, h6, h7⟩ := h
  exact ⟨(k.2.2 _ _ (by omega)).trans h1, h2, h3, h4, h5, (k.1 _ _ (by omega) (by omega) (by omega) (by omega) (by omega)).trans h6, fun j hj => ⟨(k.1 _ _ (by omega) (by omega) (by omega) (by omega) (by omega)).trans (h7 j hj).1, (h7 j hj).2⟩⟩
theorem TS.lt {m : Mi} {c e : Nat} {T : Nat → Nat} (h : TS m c e T) (i : Nat) (hi : i < e) : T i < 256 := (h.2.2.2.2.2.2 i hi).2
theorem tsign_spec {m : Mi} {c e i : Nat} {T : Nat → Nat} (h : TS m c e T) (hi : i < 2 ^ 31) : f_X9_signAt TT m 42 (nI i) = some (sg T e i) := by
  obtain ⟨h1, h2, h3, h4, h6, h7, h8⟩ := h
  unfold f_X9_signAt sg
  rw [h1, if_neg h2, if_neg (nI_pos hi), h7, aa_of h4, ln_of h4]
  by_cases hie : i < e
  · have e8 : gi m c i &&& 255 = nI (T i) := by rw [(h8 i hie).1, bT_and _ (h8 i hie).2]
    rw [if_neg (nI_ge hie (by omega)), if_pos rfl, if_pos (by rw [ofNat_nI]; exact nI_lt (by omega) (by omega)), if_pos (ar_of h4 (by omega) (by omega)), ix_nI hi, e8, if_pos hie]
  · rw [if_pos (nI_le (by omega) hi), if_neg hie]
theorem cmT : (∀ c, c < 256 → f_X9_isBlank (nI c) = some (bI (blk c))) ∧ (∀ c, c < 256 → f_X9_isSmall (nI c) = some (bI (sml c))) ∧ (∀ c, c < 256 → f_X9_isNameSign (nI c) = some (bI (nms c))) ∧ (∀ c, c < 256 → f_X9_isPartSign (nI c) = some (bI (prs c))) := by decide +kernel
theorem byte8 : ∀ k, k < 128 → vp_nar .byte ((Int32.toInt8 (nI k)).toInt32) = nI k := by
  intro k hk
  rw [pk_vb]
  revert k
  decide +kernel
theorem add_spec {m : Mi} {l : List Tok} {k b e : Nat} (hW : WT m) (h : TLs m l) (hl : l.length < 2000) (hk : k < 128) :
    ∃ m', f_X9_add TT m 42 (nI k) (nI b) (nI e) = some (nI e, m') ∧ TLs m' (l ++ [(k, (b, e))]) ∧ KU m m' := by
  obtain ⟨w1, w2, w3, w4, w5⟩ := hW
  obtain ⟨h1, h2, h3⟩ := h
  refine ⟨si (si (si (si m 43 l.length (nI k)) 44 l.length (nI b)) 45 l.length (nI e)) 42 3 (nI (l.length + 1)), ?_, ⟨?_, ?_, ?_⟩, ⟨fun x j a1 a2 a3 a4 a5 => ?_, fun _ _ _ => rfl, fun _ _ _ => rfl⟩⟩
  · unfold f_X9_add
    rw [w1, aa_of s_43, if_pos rfl, ln_of s_43, h1, ofNat_nI, if_neg (nI_ge hl (by omega)), if_pos (ar_of s_43 hl (by omega)), byte8 k hk]
    simp only [lt_eq, mS, w1, w2, w3]
    simp only [h1, show ¬ ((42 : Nat) = 43 ∧ (3 : Nat) = l.length) by omega, show ¬ ((42 : Nat) = 44 ∧ (3 : Nat) = l.length) by omega, show ¬ ((42 : Nat) = 45 ∧ (3 : Nat) = l.length) by omega, ix_nI (show l.length < 2 ^ 31 by omega), if_false]
    rw [if_pos (ar_of s_44 hl (by omega)), if_pos (ar_of s_45 hl (by omega)), nI_1]
  · rw [gi_si, List.length_append, List.length_singleton]
  · rw [List.length_append, List.length_singleton]; omega
  · intro j x hx
    simp only [mS]
    by_cases hj : j < l.length
    · rw [List.getElem?_append_left hj] at hx
      have := h3 j x hx
      rw [if_neg (by omega), if_neg (by omega), if_neg (by omega), if_neg (by omega), if_neg (by omega), if_neg (by omega), if_neg (by omega), if_neg (by omega), if_neg (by omega), if_neg (by omega), if_neg (by omega), if_neg (by omega)]
      exact this
    · rw [List.getElem?_append_right (by omega)] at hx
      have hj2 : j = l.length := by
        rcases Nat.lt_or_ge l.length j with h | h
        · rw [List.getElem?_eq_none (by simp; omega)] at hx
          cases hx
        · omega
      rw [hj2, Nat.sub_self] at hx
      have hx : (k, (b, e)) = x := Option.some.inj hx
      rw [← hx, hj2]
      simp
  · simp only [mS]
    rw [if_neg (by omega), if_neg (by omega), if_neg (by omega), if_neg (by omega)]
theorem addWrong_spec {m : Mi} {l : List Tok} {c b e : Nat} {T : Nat → Nat} (hW : WT m) (hT : TS m c e T) (h : TLs m l) (hl : l.length < 2000) :
    ∃ m', f_X9_addWrong TT m 42 (nI b) = some (nI e, m') ∧ TLs m' (l ++ [(1, (b, e))]) ∧ KU m m' := by
  obtain ⟨m', e1, h1, h2⟩ := add_spec (k := 1) (b := b) (e := e) hW h hl (by omega)
  refine ⟨m', ?_, h1, h2⟩
  unfold f_X9_addWrong
  rw [hT.2.2.2.2.2.1, show f_X9_add TT m 42 1 (nI b) (nI e) = _ from e1, bd_some, (hT.keep h2).2.2.2.2.2.1]
/-- the four words in the constant pool -/
theorem wordC : (f_len 1048576 = some (nI 7) ∧ ∀ j, j < 7 → f_chr 1048576 (nI j) = some (nI (W0.getD j 0))) ∧ (f_len 1048577 = some (nI 4) ∧ ∀ j, j < 4 → f_chr 1048577 (nI j) = some (nI (W1.getD j 0))) ∧ (f_len 1048578 = some (nI 5) ∧ ∀ j, j < 5 → f_chr 1048578 (nI j) = some (nI (W2.getD j 0))) ∧ (f_len 1048579 = some (nI 5) ∧ ∀ j, j < 5 → f_chr 1048579 (nI j) = some (nI (W3.getD j 0))) := by decide +kernel
theorem wrd_iff {W : List Nat} {T : Nat → Nat} {p l : Nat} : wrd W T p l = true ↔ W.length = l ∧ ∀ j, j < l → W.getD j 0 = T (p + j) := by
  unfold wrd
  rw [decide_eq_true_eq]
  constructor
  · intro h
    have hl : W.length = l := by rw [h]; simp
    refine ⟨hl, fun j hj => ?_⟩
    rw [h]
    simp [List.getD_eq_getElem?_getD, hj]
  · intro h
    apply List.ext_getElem?
    intro j
    by_cases hj : j < l
    · have := h.2 j hj
      rw [List.getD_eq_getElem?_getD, List.getElem?_eq_getElem (by omega)] at this
      rw [List.getElem?_eq_getElem (by omega)]
      simp only [Option.getD_some] at this
      simp [hj, this]
    · rw [List.getElem?_eq_none (by omega), List.getElem?_eq_none (by simp; omega)]
theorem word_lp {m : Mi} {c e p w : Nat} {W : List Nat} {T : Nat → Nat} (hT : TS m c e T) (hw : f_len w = some (nI W.length)) (hch : ∀ j, j < W.length → f_chr w (nI j) = some (nI (W.getD j 0))) (hW : ∀ x ∈ W, x < 256) (hp : p + W.length ≤ e) :
    ∀ d k N, k + d = W.length → d < N → (∀ j, j < k → W.getD j 0 = T (p + j)) →
    (lp (fun x : Int32 => f_X9_isWord_l15 TT m 42 w (nI p) x) N (nI k)).bind (Sum.elim (fun y : Unit => f_X9_isWord_j49 TT m) (fun y : Unit => f_X9_isWord_j41 TT m)) = some (bI (wrd W T p W.length)) := by
  have he := hT.2.2.2.2.1
  intro d
  induction d with
  | zero =>
    intro k N hk hN hall
    obtain ⟨N, rfl⟩ : ∃ z, N = z + 1 := ⟨N - 1, by omega⟩
    rw [lp_exit (y := .inl ())]
    · rw [wrd_iff.mpr ⟨rfl, fun j hj => hall j (by omega)⟩]
      rfl
    · show f_X9_isWord_l15 TT m 42 w (nI p) (nI k) = _
      unfold f_X9_isWord_l15
      rw [hw, Option.bind_some, if_pos (nI_le (by omega) (by omega))]
  | succ d ih =>
    intro k N hk hN hall
    obtain ⟨N, rfl⟩ : ∃ z, N = z + 1 := ⟨N - 1, by omega⟩
    have hWk : W.getD k 0 < 256 := hW _ (getD_in (by omega))
    have hb : f_X9_isWord_l15 TT m 42 w (nI p) (nI k) = if W.getD k 0 = T (p + k) then some (.inl (nI (k + 1))) else some (.inr (.inr ())) := by
      unfold f_X9_isWord_l15
      rw [hw, Option.bind_some, if_neg (nI_ge (by omega) (by omega)), nI_add, tsign_spec hT (by omega), Option.bind_some, hch k (by omega), Option.bind_some]
      unfold sg
      rw [if_pos (show p + k < e by omega)]
      have := hT.lt (p + k) (by omega)
      by_cases h : W.getD k 0 = T (p + k)
      · rw [if_pos h, if_pos (by rw [h]), lt_eq, nI_1]
      · rw [if_neg h, if_neg (fun x => h ((nI_eq (by omega) (by omega)).mp x).symm)]
    by_cases h : W.getD k 0 = T (p + k)
    · rw [lp_step (x' := nI (k + 1)) (by rw [hb, if_pos h])]
      refine ih (k + 1) N (by omega) (by omega) (fun j hj => ?_)
      by_cases hjk : j = k
      · rw [hjk]; exact h
      · exact hall j (by omega)
    · rw [lp_exit (y := .inr ()) (by rw [hb, if_neg h])]
      have : wrd W T p W.length = false := by
        cases hx : wrd W T p W.length with
        | false => rfl
        | true => exact absurd ((wrd_iff.mp hx).2 k (by omega)) h
      rw [this]
      rfl
theorem word_spec {m : Mi} {c e p q w : Nat} {W : List Nat} {T : Nat → Nat} (hT : TS m c e T) (hw : f_len w = some (nI W.length)) (hch : ∀ j, j < W.length → f_chr w (nI j) = some (nI (W.getD j 0))) (hW : ∀ x ∈ W, x < 256) (hl : W.length < 100) (hp : p ≤ q) (hq : q ≤ e) :
    f_X9_isWord TT m 42 w (nI p) (nI q) = some (bI (wrd W T p (q - p))) := by
  have he := hT.2.2.2.2.1
  unfold f_X9_isWord
  rw [hw, Option.bind_some, pk_sub hp]
  by_cases h : W.length = q - p
  · rw [if_pos (by rw [h]), ← h]
    exact word_lp hT hw hch hW (by omega) W.length 0 FUEL (by omega) (by unfold FUEL; omega) (fun j hj => by omega)
  · rw [if_neg (fun x => h ((nI_eq (by omega) (by omega)).mp x))]
    have : wrd W T p (q - p) = false := by
      cases hx : wrd W T p (q - p) with
      | false => rfl
      | true => exact absurd (wrd_iff.mp hx).1 h
    rw [this]
    rfl
theorem kindOf_spec {m : Mi} {c e p q : Nat} {T : Nat → Nat} (hT : TS m c e T) (hp : p ≤ q) (hq : q ≤ e) : f_X9_kindOfName TT m 42 (nI p) (nI q) = some (nI (knd T p (q - p))) := by
  unfold f_X9_kindOfName knd
  rw [word_spec (W := W0) hT wordC.1.1 wordC.1.2 (by decide) (by decide) hp hq, word_spec (W := W1) hT wordC.2.1.1 wordC.2.1.2 (by decide) (by decide) hp hq, word_spec (W := W2) hT wordC.2.2.1.1 wordC.2.2.1.2 (by decide) (by decide) hp hq, word_spec (W := W3) hT wordC.2.2.2.1 wordC.2.2.2.2 (by decide) (by decide) hp hq]
  simp only [Option.bind_some]
  cases wrd W0 T p (q - p) <;> cases wrd W1 T p (q - p) <;> cases wrd W2 T p (q - p) <;> cases wrd W3 T p (q - p) <;> rfl
