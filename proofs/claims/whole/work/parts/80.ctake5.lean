/-! The class: a range of tokens checked, and made. -/
theorem tsize_spec {m : Mi} {l : List Tok} (h : TLs m l) : f_X9_size TT m 42 = some (nI l.length) := by
  unfold f_X9_size
  rw [h.1]
def pl0 (n : Nat) (l : List Tok) : Nat := match l with
  | [] => n
  | x :: _ => x.2.1
def en0 (n : Nat) (l : List Tok) : Nat := match l with
  | [] => n
  | x :: _ => x.2.2
def kd0 (l : List Tok) : Nat := match l with
  | [] => 0
  | x :: _ => x.1
theorem drop_cons {l r : List Tok} {x : Tok} {s : Nat} (h : l.drop s = x :: r) : l[s]? = some x ∧ l.drop (s + 1) = r ∧ s < l.length := by
  have h1 : l[s]? = some x := by
    have := congrArg (fun z => z[0]?) h
    simpa [List.getElem?_drop] using this
  refine ⟨h1, ?_, ?_⟩
  · rw [← List.drop_drop, h]
    rfl
  · rcases Nat.lt_or_ge s l.length with h2 | h2
    · exact h2
    · rw [List.getElem?_eq_none h2] at h1
      cases h1
theorem drop_nil {l : List Tok} {s : Nat} (h : l.drop s = []) : l.length ≤ s := by
  have := congrArg List.length h
  rw [List.length_drop] at this
  simp only [List.length_nil] at this
  omega
theorem kindAt_spec {m : Mi} {l : List Tok} {k : Nat} (hW : WT m) (h : TLs m l) (hk : k < 2 ^ 31) : f_X9_kindAt TT m 42 (nI k) = some (nI (kd0 (l.drop k))) := by
  unfold f_X9_kindAt
  have h2 := h.2.1
  rw [if_neg (nI_pos hk), h.1, hW.1]
  cases hd : l.drop k with
  | nil => rw [if_pos (nI_le (drop_nil hd) hk)]; rfl
  | cons x r =>
    obtain ⟨d1, d2, d3⟩ := drop_cons hd
    rw [if_neg (nI_ge d3 (by omega)), if_pos (ar_of s_43 (by omega) (by omega)), ix_nI hk, (h.2.2 k _ d1).1]
    rfl
theorem placeAt_spec {m : Mi} {l : List Tok} {k e : Nat} (hW : WT m) (hT : gi m 42 5 = nI e) (h : TLs m l) (hk : k < 2 ^ 31) : f_X9_placeAt TT m 42 (nI k) = some (nI (pl0 e (l.drop k))) := by
  unfold f_X9_placeAt
  have h2 := h.2.1
  rw [if_neg (nI_pos hk), h.1, hW.2.1, hT]
  cases hd : l.drop k with
  | nil => rw [if_pos (nI_le (drop_nil hd) hk)]; rfl
  | cons x r =>
    obtain ⟨d1, d2, d3⟩ := drop_cons hd
    rw [if_neg (nI_ge d3 (by omega)), if_pos (ar_of s_44 (by omega) (by omega)), ix_nI hk, (h.2.2 k _ d1).2.1]
    rfl
theorem endAt_spec {m : Mi} {l : List Tok} {k e : Nat} (hW : WT m) (hT : gi m 42 5 = nI e) (h : TLs m l) (hk : k < 2 ^ 31) : f_X9_endAt TT m 42 (nI k) = some (nI (en0 e (l.drop k))) := by
  unfold f_X9_endAt
  have h2 := h.2.1
  rw [if_neg (nI_pos hk), h.1, hW.2.2.1, hT]
  cases hd : l.drop k with
  | nil => rw [if_pos (nI_le (drop_nil hd) hk)]; rfl
  | cons x r =>
    obtain ⟨d1, d2, d3⟩ := drop_cons hd
    rw [if_neg (nI_ge d3 (by omega)), if_pos (ar_of s_45 (by omega) (by omega)), ix_nI hk, (h.2.2 k _ d1).2.2]
    rfl
/-- what may lie in 42..47 is as it was -/
theorem TLs.keep {m m' : Mi} {l : List Tok} (h : TLs m l) (k : ∀ x j, 42 ≤ x → x ≤ 47 → gi m' x j = gi m x j) : TLs m' l := ⟨(k _ _ (by omega) (by omega)).trans h.1, h.2.1, fun j x hx => ⟨(k _ _ (by omega) (by omega)).trans (h.2.2 j x hx).1, (k _ _ (by omega) (by omega)).trans (h.2.2 j x hx).2.1, (k _ _ (by omega) (by omega)).trans (h.2.2 j x hx).2.2⟩⟩
theorem isPart_spec {k : Nat} (h : k < 100) : f_X9_isPart (nI k) = some (bI (isP k)) := by
  unfold f_X9_isPart isP
  by_cases h7 : k = 7
  · rw [h7]; decide
  · rw [if_neg (show ¬ nI k = 7 from fun x => h7 ((nI_eq (b := 7) (by omega) (by omega)).mp x))]
    by_cases h8 : k = 8
    · rw [h8]; decide
    · rw [if_neg (show ¬ nI k = 8 from fun x => h8 ((nI_eq (b := 8) (by omega) (by omega)).mp x)), decide_eq_false h7, decide_eq_false h8]
      rfl
theorem si_same {m : Mi} {a k : Nat} {v : Int32} (h : gi m a k = v) : si m a k v = m := by
  refine Mi.ext' (fun x j => ?_) (fun _ _ => rfl) (fun _ _ => rfl)
  simp only [mS]
  split
  · next e => rw [e.1, e.2, h]
  · rfl
theorem check_lp {l : List Tok} (h100 : ∀ x ∈ l, x.1 < 100) : ∀ (r : List Tok) (s a p N : Nat) (m : Mi), l.drop s = r → r.length < N → s < 10000 → a + r.length < 20000 → p < 100 → WT m → TLs m l → gi m 48 7 = nI s →
    (lp (fun x : Int32 × Int32 × Mi => f_X5_check_l10 TT x.2.2 48 42 x.1 x.2.1) N (nI a, nI p, m)).bind (Sum.elim (fun y : Int32 × Mi => f_X5_check_j88 TT (y.2) (y.1)) (fun y : Mi => f_X5_check_j55 TT y)) = some (nI (chk r a p).1, si m 48 7 (nI (s + (chk r a p).2))) := by
  have j88 : ∀ (m : Mi) (p : Nat), p < 100 → f_X5_check_j88 TT m (nI p) = some (nI (if p = 0 then 1 else 0), m) := by
    intro m p hp
    unfold f_X5_check_j88
    by_cases h0 : p = 0
    · rw [h0]; rfl
    · rw [if_neg (show ¬ nI p = 0 from fun x => h0 ((nI_eq (b := 0) (by omega) (by omega)).mp x)), if_neg h0]; rfl
  intro r
  induction r with
  | nil =>
    intro s a p N m hr hN ha ha2 hp hW h hs
    have hsl := drop_nil hr
    have h2 := h.2.1
    obtain ⟨N, rfl⟩ : ∃ z, N = z + 1 := ⟨N - 1, by omega⟩
    rw [lp_exit (y := .inl (nI p, m))]
    · show f_X5_check_j88 TT m (nI p) = _
      rw [j88 m p hp, chk, Nat.add_zero, si_same hs]
    · show f_X5_check_l10 TT m 48 42 (nI a) (nI p) = _
      unfold f_X5_check_l10
      rw [ob_of s_42, if_pos rfl, tsize_spec h, Option.bind_some, hs, if_pos (nI_le hsl (by omega))]
  | cons x r ih =>
    intro s a p N m hr hN ha ha2 hp hW h hs
    obtain ⟨hx, hr2, hsl⟩ := drop_cons hr
    have h2 := h.2.1
    have hx100 := h100 x (List.mem_of_getElem? hx)
    simp only [List.length_cons] at hN ha2
    obtain ⟨N, rfl⟩ : ∃ z, N = z + 1 := ⟨N - 1, by omega⟩
    have stop : ∀ z : Nat × Nat, z = (if p = 0 then 1 else 0, 0) → f_X5_check_l10 TT m 48 42 (nI a) (nI p) = some (.inr (.inl (nI p, m))) → (lp (fun x : Int32 × Int32 × Mi => f_X5_check_l10 TT x.2.2 48 42 x.1 x.2.1) (N + 1) (nI a, nI p, m)).bind (Sum.elim (fun y : Int32 × Mi => f_X5_check_j88 TT (y.2) (y.1)) (fun y : Mi => f_X5_check_j55 TT y)) = some (nI z.1, si m 48 7 (nI (s + z.2))) := by
      intro z hz hb
      rw [lp_exit (y := .inl (nI p, m)) hb, hz]
      show f_X5_check_j88 TT m (nI p) = _
      rw [j88 m p hp, Nat.add_zero, si_same hs]
    have go : ∀ a2 p2, a2 + r.length < 20000 → p2 < 100 → f_X5_check_l10 TT m 48 42 (nI a) (nI p) = some (.inl (nI a2, nI p2, si m 48 7 (nI (s + 1)))) → (lp (fun x : Int32 × Int32 × Mi => f_X5_check_l10 TT x.2.2 48 42 x.1 x.2.1) (N + 1) (nI a, nI p, m)).bind (Sum.elim (fun y : Int32 × Mi => f_X5_check_j88 TT (y.2) (y.1)) (fun y : Mi => f_X5_check_j55 TT y)) = some (nI (chk r a2 p2).1, si m 48 7 (nI (s + ((chk r a2 p2).2 + 1)))) := by
      intro a2 p2 g1 g2 hb
      rw [lp_step (x' := (nI a2, nI p2, si m 48 7 (nI (s + 1)))) hb, ih (s + 1) a2 p2 N _ hr2 (by omega) (by omega) g1 g2 ?_ ?_ (gi_si _ _ _ _), si_si, show s + 1 + (chk r a2 p2).2 = s + ((chk r a2 p2).2 + 1) by omega]
      · exact ⟨hW.1, hW.2.1, hW.2.2.1, hW.2.2.2.1, hW.2.2.2.2⟩
      · refine h.keep (fun x j h1 h2 => ?_)
        simp only [mS]
        rw [if_neg (by omega)]
    have body : f_X5_check_l10 TT m 48 42 (nI a) (nI p) = if isP x.1 = true then (if 6 < p + 1 ∨ 16 < a then some (.inr (.inr m)) else some (.inl (nI a, nI (p + 1), si m 48 7 (nI (s + 1))))) else if x.1 = 9 ∧ 0 < p then some (.inl (nI (a + 1), nI 0, si m 48 7 (nI (s + 1)))) else some (.inr (.inl (nI p, m))) := by
      unfold f_X5_check_l10 f_X5_check_j75
      rw [ob_of s_42, if_pos rfl, tsize_spec h, Option.bind_some, hs, if_neg (nI_ge hsl (by omega)), kindAt_spec hW h (by omega), hr, Option.bind_some, show kd0 (x :: r) = x.1 from rfl]
      rw [isPart_spec hx100, Option.bind_some]
      simp only [lt_eq, nI_1]
      cases hP : isP x.1 with
      | true =>
        rw [if_neg bTr, if_pos rfl]
        by_cases c1 : 6 < p + 1
        · rw [if_pos (show (6 : Int32) < nI (p + 1) from nI_lt (a := 6) c1 (by omega)), if_pos (Or.inl c1)]
        · rw [if_neg (show ¬ (6 : Int32) < nI (p + 1) from nI_nlt (b := p + 1) (a := 6) (by omega) (by omega))]
          by_cases c2 : 16 < a
          · rw [if_neg (show ¬ nI a ≤ 16 from nI_ge (a := 16) c2 (by omega)), if_pos (Or.inr c2)]
          · rw [if_pos (show nI a ≤ 16 from nI_le (b := 16) (by omega) (by omega)), if_neg (by omega)]
      | false =>
        rw [if_pos bF, if_neg fNt]
        by_cases c1 : x.1 = 9
        · rw [if_pos (show nI x.1 = 9 by rw [c1]; rfl)]
          by_cases c2 : 0 < p
          · rw [if_neg (nI_nle c2 (by omega)), if_pos ⟨c1, c2⟩]; rfl
          · rw [if_pos (show nI p ≤ 0 from nI_le (b := 0) (by omega) (by omega)), if_neg (fun e => c2 e.2)]
        · rw [if_neg (show ¬ nI x.1 = 9 from fun e => c1 ((nI_eq (b := 9) (by omega) (by omega)).mp e)), if_neg (fun e => c1 e.1)]
    rw [chk]
    by_cases hP : isP x.1 = true
    · rw [if_pos hP] at body ⊢
      by_cases c1 : 6 < p + 1 ∨ 16 < a
      · rw [if_pos c1] at body ⊢
        rw [lp_exit (y := .inr m) body]
        show f_X5_check_j55 TT m = _
        unfold f_X5_check_j55
        rw [Nat.add_zero, si_same hs]
        rfl
      · rw [if_neg c1] at body ⊢
        exact go a (p + 1) (by omega) (by omega) body
    · rw [if_neg hP] at body ⊢
      by_cases c1 : x.1 = 9 ∧ 0 < p
      · rw [if_pos c1] at body ⊢
        exact go (a + 1) 0 (by omega) (by omega) body
      · rw [if_neg c1] at body ⊢
        exact stop _ rfl body
theorem check_spec {m : Mi} {l : List Tok} {s : Nat} (h100 : ∀ x ∈ l, x.1 < 100) (hs : s < 10000) (hW : WT m) (h : TLs m l) : f_X5_check TT m 48 42 (nI s) = some (nI (chk (l.drop s) 1 0).1, si m 48 7 (nI (s + (chk (l.drop s) 1 0).2))) := by
  have h2 := h.2.1
  have hd : (l.drop s).length ≤ 2000 := by rw [List.length_drop]; omega
  unfold f_X5_check f_X5_check_j10
  rw [lt_eq, show ((1 : Int32), (0 : Int32), si m 48 7 (nI s)) = (nI 1, nI 0, si m 48 7 (nI s)) from rfl]
  rw [check_lp h100 (l.drop s) s 1 0 FUEL (si m 48 7 (nI s)) rfl (by unfold FUEL; omega) hs (by omega) (by omega) ?_ ?_ (gi_si _ _ _ _), si_si]
  · exact ⟨hW.1, hW.2.1, hW.2.2.1, hW.2.2.2.1, hW.2.2.2.2⟩
  · refine h.keep (fun x j h1 h2 => ?_)
    simp only [mS]
    rw [if_neg (by omega)]
/-! the range made -/
def OB (m : Mi) : Prop := (∃ A, RG TT m 55 16 A) ∧ ∃ B, RG TT m 57 512 B
def FT (r : Nat) (x : Nat) : Prop := (48 ≤ x ∧ x ≤ 58) ∨ x = r ∨ x = r + 1
theorem KpR.F {r q : Nat} {m m' : Mi} (h : KpR r m m') (h1 : FT q r) (h2 : FT q (r + 1)) : Fr (FT q) m m' := ⟨fun x j e => ⟨h.2.1 x j (fun z => e (z.1 ▸ h1)), h.1 x j (fun z => e (z ▸ h2))⟩, fun x j _ => h.2.2 x j⟩
theorem WT.keepF {m m' : Mi} {P : Nat → Prop} (h : WT m) (k : Fr P m m') : WT m' := by
  obtain ⟨h1, h2, h3, h4, h5⟩ := h
  exact ⟨(k.2 _ _ (by unfold NR; omega)).trans h1, (k.2 _ _ (by unfold NR; omega)).trans h2, (k.2 _ _ (by unfold NR; omega)).trans h3, (k.2 _ _ (by unfold NR; omega)).trans h4, (k.2 _ _ (by unfold NR; omega)).trans h5⟩
theorem RG.keepL {m m' : Mi} {r cap a : Nat} {B : List Row} (h : RG TT m r cap B) (k : KL a m m') (hne : a ≠ r + 1) : RG TT m' r cap B := by
  obtain ⟨h1, h2, h3, h4, h5, h6, h7, h8⟩ := h
  exact ⟨h1, (k.2.2 _ _).trans h2, h3, (k.1 _ _).trans h4, h5, h6, h7, by rw [bnd_congr (m := m) (fun q _ => k.2.1 _ _ (fun e => hne e.symm))]; exact h8⟩
theorem RG.keepF {m m' : Mi} {r cap : Nat} {P : Nat → Prop} {B : List Row} (h : RG TT m r cap B) (k : Fr P m m') (h1 : ¬ P r) (h2 : ¬ P (r + 1)) (h3 : ¬ NR r 0) : RG TT m' r cap B := by
  obtain ⟨g1, g2, g3, g4, g5, g6, g7, g8⟩ := h
  exact ⟨g1, (k.2 _ _ h3).trans g2, g3, (k.1 _ _ h1).1.trans g4, g5, g6, g7, by rw [bnd_congr (m := m) (fun q _ => (k.1 _ _ h2).2)]; exact g8⟩
theorem rowL_keepR {m m' : Mi} {r a p : Nat} (k : KpR r m m') (h : a ≠ r + 1) : rowL m' a p = rowL m a p := rowF_congr (fun q _ => k.1 _ _ h)
theorem closeAll_spec {m : Mi} {r cap : Nat} {R : List Row} {lo hi : Row} (hW : WR m) (hO : OB m) (hr : r ≤ 36) (h : RG TT m r cap R) (hcap : 256 ≤ cap) (hR : GB R) (hl : R.length ≤ 30) (h53 : rowL m 53 0 = lo) (h54 : rowL m 54 0 = hi) :
    ∃ m', f_X5_closeAll TT m 48 r = some m' ∧ RG TT m' r cap (jo 1 R (iv lo hi)) ∧ WR m' ∧ OB m' ∧ Fr (FT r) m m' := by
  unfold f_X5_closeAll
  have hc := compare_spec (t := TT) (m := m) (i := 0) (j := 0) s_53 s_54 (by omega) (by omega) (by omega) (by omega)
  rw [hW.2.2.2.1, hW.2.2.2.2.1, show f_X10_compare TT m 53 0 54 0 = _ from hc, Option.bind_some, h53, h54]
  by_cases hlt : cmpL lo hi = -1
  · obtain ⟨⟨A, hA⟩, B, hB⟩ := hO
    obtain ⟨m1, e1, g1, k1⟩ := setStretch_spec hA s_53 s_54 (by omega) (by omega) (by omega) (by omega) (by omega) (by omega) (by omega)
    rw [h53, h54] at g1
    have f1 : Fr (FT r) m m1 := k1.F (by unfold FT; omega) (by unfold FT; omega)
    have hW1 := hW.keep f1
    obtain ⟨m2, e2, g2, k2⟩ := setJoin_spec (how := 1) (by omega) (hB.keep k1 (by omega)) (h.keep k1 (by omega)) g1 (by omega) (by omega) (by simp only [List.length_cons, List.length_nil]; omega)
    have f2 : Fr (FT r) m1 m2 := k2.F (by unfold FT; omega) (by unfold FT; omega)
    have hW2 := hW1.keep f2
    have hiv : iv lo hi = [lo, hi] := by unfold iv; rw [if_pos hlt]
    have hj : jn 1 (R.length + [lo, hi].length) R [lo, hi] false false false = jo 1 R (iv lo hi) := by rw [hiv]; rfl
    rw [hj] at g2
    have hl2 : (jo 1 R (iv lo hi)).length ≤ 32 := by
      have := jo_len 1 R (iv lo hi)
      have := iv_len lo hi
      omega
    obtain ⟨m3, e3, g3, k3⟩ := setTo_spec ((h.keep k1 (by omega)).keep k2 (by omega)) g2 (by omega) (by omega) (by omega) (by omega)
    have f3 : Fr (FT r) m2 m3 := k3.F (by unfold FT; omega) (by unfold FT; omega)
    rw [if_neg (show ¬ (0 : Int32) ≤ cmpL lo hi by rw [hlt]; decide), hW.2.2.2.2.2.1, ob_of s_55, if_pos rfl, e1, Option.bind_some, hW1.2.2.2.2.2.2.1, ob_of s_57, if_pos rfl, hW1.2.2.2.2.2.1, show f_X4_setJoin TT m1 57 1 r 55 = _ from e2, Option.bind_some, ob_of h.1, if_pos rfl, hW2.2.2.2.2.2.2.1, e3, Option.bind_some]
    refine ⟨m3, rfl, g3, hW2.keep f3, ⟨⟨_, (g1.keep k2 (by omega)).keep k3 (by omega)⟩, _, g2.keep k3 (by omega)⟩, (f1.tr f2).tr f3⟩
  · have hiv : iv lo hi = [] := by unfold iv; rw [if_neg hlt]
    rw [if_pos (by rcases cmpL_vals lo hi with z | z | z <;> rw [z] <;> first | decide | exact absurd z hlt), hiv, jo_nil hR.1]
    exact ⟨m, rfl, h, hW, hO, Fr.rf⟩
theorem openAll_spec {m : Mi} (hW : WR m) : ∃ m', f_X5_openAll TT m 48 = some m' ∧ rowL m' 53 0 = LE ∧ rowL m' 54 0 = EN ∧ (∀ x j, gi m' x j = gi m x j) ∧ (∀ x j, x ≠ 53 → x ≠ 54 → gl m' x j = gl m x j) ∧ (∀ x j, gr m' x j = gr m x j) := by
  obtain ⟨m1, e1, r1, k1⟩ := least_row (m := m) s_53
  obtain ⟨m2, e2, r2, k2⟩ := end_row (m := m1) s_54
  unfold f_X5_openAll
  rw [hW.2.2.2.1, e1, Option.bind_some, (hW.keepL k1).2.2.2.2.1, e2, Option.bind_some]
  refine ⟨m2, rfl, ?_, r2, fun x j => (k2.1 x j).trans (k1.1 x j), fun x j a b => (k2.2.1 x j b).trans (k1.2.1 x j a), fun x j => (k2.2.2 x j).trans (k1.2.2 x j)⟩
  rw [← r1]
  exact rowF_congr (fun q _ => k2.2.1 _ _ (by omega))
theorem KL2 {m m' : Mi} {r cap : Nat} {B : List Row} {a b : Nat} (h : RG TT m r cap B) (h1 : ∀ x j, gi m' x j = gi m x j) (h2 : ∀ x j, x ≠ a → x ≠ b → gl m' x j = gl m x j) (h3 : ∀ x j, gr m' x j = gr m x j) (ha : a ≠ r + 1) (hb : b ≠ r + 1) : RG TT m' r cap B := by
  obtain ⟨g1, g2, g3, g4, g5, g6, g7, g8⟩ := h
  exact ⟨g1, (h3 _ _).trans g2, g3, (h1 _ _).trans g4, g5, g6, g7, by rw [bnd_congr (m := m) (fun q _ => h2 _ _ (fun e => ha e.symm) (fun e => hb e.symm))]; exact g8⟩
theorem narrowAll_spec {m : Mi} {lo hi pl ph : Row} (hW : WR m) (h51 : rowL m 51 0 = pl) (h52 : rowL m 52 0 = ph) (h53 : rowL m 53 0 = lo) (h54 : rowL m 54 0 = hi) :
    ∃ m', f_X5_narrowAll TT m 48 = some m' ∧ rowL m' 53 0 = mxR lo pl ∧ rowL m' 54 0 = mnR hi ph ∧ (∀ x j, gi m' x j = gi m x j) ∧ (∀ x j, x ≠ 53 → x ≠ 54 → gl m' x j = gl m x j) ∧ (∀ x j, gr m' x j = gr m x j) := by
  have j29 : ∀ m1, KL 53 m m1 → rowL m1 53 0 = mxR lo pl → ∃ m', f_X5_narrowAll_j29 TT m1 48 = some m' ∧ rowL m' 53 0 = mxR lo pl ∧ rowL m' 54 0 = mnR hi ph ∧ (∀ x j, gi m' x j = gi m x j) ∧ (∀ x j, x ≠ 53 → x ≠ 54 → gl m' x j = gl m x j) ∧ (∀ x j, gr m' x j = gr m x j) := by
    intro m1 k1 hx
    have hW1 := hW.keepL k1
    have a52 : rowL m1 52 0 = ph := by rw [← h52]; exact rowF_congr (fun q _ => k1.2.1 _ _ (by omega))
    have a54 : rowL m1 54 0 = hi := by rw [← h54]; exact rowF_congr (fun q _ => k1.2.1 _ _ (by omega))
    have hc := compare_spec (t := TT) (m := m1) (i := 0) (j := 0) s_52 s_54 (by omega) (by omega) (by omega) (by omega)
    rw [a52, a54] at hc
    unfold f_X5_narrowAll_j29
    rw [hW1.2.2.1, hW1.2.2.2.2.1, show f_X10_compare TT m1 52 0 54 0 = _ from hc, Option.bind_some]
    unfold mnR
    by_cases hlt : cmpL ph hi = -1
    · obtain ⟨m2, e2, r2, k2⟩ := copy_row (m := m1) (a := 52) (b := 54) (g := fun q => gl m1 52 q) s_52 s_54 (fun j _ => rfl)
      rw [if_neg (show ¬ (0 : Int32) ≤ cmpL ph hi by rw [hlt]; decide), e2, Option.bind_some, if_pos hlt]
      refine ⟨m2, rfl, ?_, ?_, fun x j => (k2.1 x j).trans (k1.1 x j), fun x j a b => (k2.2.1 x j b).trans (k1.2.1 x j a), fun x j => (k2.2.2 x j).trans (k1.2.2 x j)⟩
      · rw [← hx]; exact rowF_congr (fun q _ => k2.2.1 _ _ (by omega))
      · rw [r2.L, ← a52]
        exact rowF_congr (fun q _ => by rw [Nat.zero_add])
    · rw [if_pos (by rcases cmpL_vals ph hi with z | z | z <;> rw [z] <;> first | decide | exact absurd z hlt), if_neg hlt]
      exact ⟨m1, rfl, hx, a54, k1.1, fun x j a _ => k1.2.1 x j a, k1.2.2⟩
  have hc := compare_spec (t := TT) (m := m) (i := 0) (j := 0) s_51 s_53 (by omega) (by omega) (by omega) (by omega)
  rw [h51, h53] at hc
  unfold f_X5_narrowAll
  rw [hW.2.1, hW.2.2.2.1, show f_X10_compare TT m 51 0 53 0 = _ from hc, Option.bind_some]
  by_cases hgt : cmpL pl lo = 1
  · obtain ⟨m2, e2, r2, k2⟩ := copy_row (m := m) (a := 51) (b := 53) (g := fun q => gl m 51 q) s_51 s_53 (fun j _ => rfl)
    rw [if_neg (show ¬ cmpL pl lo ≤ 0 by rw [hgt]; decide), e2, Option.bind_some]
    refine j29 m2 k2 ?_
    unfold mxR
    rw [if_pos hgt, r2.L, ← h51]
    exact rowF_congr (fun q _ => by rw [Nat.zero_add])
  · rw [if_pos (by rcases cmpL_vals pl lo with z | z | z <;> rw [z] <;> first | decide | exact absurd z hgt)]
    refine j29 m KL.rf ?_
    unfold mxR
    rw [if_neg hgt]
    exact h53
