/-! What a part of a range says: two bounds. -/
theorem cmp_cL (f g : Nat → Int64) : cmpL (rowF f) (rowF g) = cL f g 8 0 := rfl
theorem cL_le {f g : Nat → Int64} : ∀ d k, (∀ q, k ≤ q → q < k + d → f q ≤ g q) → cL f g d k ≠ 1 := by
  intro d
  induction d with
  | zero => intro k _; show (0 : Int32) ≠ 1; decide
  | succ d ih =>
    intro k h
    rw [cL_succ]
    split
    · exact ih (k + 1) (fun q h1 h2 => h q (by omega) (by omega))
    · next hne =>
      have := h k (Nat.le_refl _) (by omega)
      rw [if_pos (by rcases Int64.le_iff_lt_or_eq.mp this with h | h; exact h; exact absurd h hne)]
      decide
theorem cL_lt {f g : Nat → Int64} {q : Nat} (hq : f q < g q) : ∀ d k, k ≤ q → q < k + d → (∀ j, k ≤ j → j < q → f j = g j) → cL f g d k = -1 := by
  intro d
  induction d with
  | zero => intro k h1 h2; omega
  | succ d ih =>
    intro k h1 h2 h3
    rw [cL_succ]
    by_cases hk : k = q
    · rw [hk, if_neg (fun e => absurd hq (by rw [e]; exact Int64.lt_irrefl)), if_pos hq]
    · rw [if_pos (h3 k (Nat.le_refl _) (by omega))]
      exact ih (k + 1) (by omega) (by omega) (fun j a b => h3 j (by omega) b)
/-- what is read is a version in bounds: by a memory that holds the text -/
theorem rdv_VW {T : Nat → Nat} {n a e f : Nat} {ns is : List Nat} (hT : ∀ j, j < n → T j < 256) (hn : n ≤ 2000) (he : e ≤ n) (ha : a ≤ e) (h : rdv T a e = some (f, (ns, is))) : VW f ns is := by
  have hM : MT ((fun x j => if x = 870 then nI n else bT (T j), (fun _ _ => 0, fun x k => RM k)) : Mi) n T := ⟨fun k _ => rfl, rfl, hn, fun j hj => ⟨rfl, hT j hj⟩⟩
  obtain ⟨m', _, _, h3⟩ := reads_spec (a := a) (e := e) hM he ha
  exact (h3 f ns is h).2.2
/-- the row of a version -/
def rW (ns is : List Nat) : Row := rowF (cR ns is)
theorem rW8 (ns is : List Nat) : R8 (rW ns is) := rfl
theorem ckey_lt {w : Nat} (h : okn w) : ckey w < 9223372036854775807 ∧ 1 ≤ ckey w := by
  unfold ckey
  unfold okn at h
  split <;> omega
theorem LE_F : LE = rowF (fun q => if q = 3 then 1 else 0) := rfl
theorem EN_F : EN = rowF (fun q => if q = 0 then 9223372036854775807 else 0) := rfl
theorem l0L : (0 : Int64) = lN 0 ∧ (1 : Int64) = lN 1 := ⟨rfl, rfl⟩
theorem rW_ge {ns is : List Nat} (h : VX ns is) : cmpL LE (rW ns is) ≠ 1 := by
  obtain ⟨h1, h2, h3⟩ := h
  have hn : ∀ j, ns.getD j 0 < 1099511627776 := getD_P h1 (by omega)
  unfold rW
  rw [LE_F, cmp_cL]
  refine cL_le 8 0 (fun q _ hq => ?_)
  show (if q = 3 then (1 : Int64) else 0) ≤ cR ns is q
  unfold cR
  by_cases hq3 : q < 3
  · rw [if_neg (by omega), if_pos hq3, l0L.1, pk_lLE (by omega) (by have := hn q; omega)]
    omega
  · rw [if_neg hq3]
    by_cases hl : is.length = 0
    · rw [if_pos hl]
      by_cases hq4 : q = 3
      · rw [if_pos hq4, if_pos hq4]; decide
      · rw [if_neg hq4, if_neg hq4]; exact Int64.le_refl _
    · rw [if_neg hl]
      by_cases hql : q - 3 < is.length
      · have hk := ckey_lt (h3 _ (getD_in hql))
        rw [if_pos hql]
        split
        · rw [l0L.2, pk_lLE (by omega) (by omega)]; omega
        · rw [l0L.1, pk_lLE (by omega) (by omega)]; omega
      · rw [if_neg hql, if_neg (by omega)]
        exact Int64.le_refl _
theorem rW_lt {ns is : List Nat} (h : VX ns is) : cmpL (rW ns is) EN = -1 := by
  obtain ⟨h1, h2, h3⟩ := h
  have hn := getD_P (P := fun w => w < 1099511627776) h1 (by omega) 0
  unfold rW
  rw [EN_F, cmp_cL]
  refine cL_lt (q := 0) ?_ 8 0 (Nat.le_refl _) (by omega) (fun j a b => by omega)
  show cR ns is 0 < 9223372036854775807
  rw [show cR ns is 0 = lN (ns.getD 0 0) from rfl, l40.2.1, pk_lLT (by omega) (by omega)]
  omega
def nxt (ns is : List Nat) : List Nat × List Nat := if is = [] then ([ns.getD 0 0, ns.getD 1 0, ns.getD 2 0 + 1], [0]) else (ns, is ++ [0])
def rsN (ns : List Nat) (k : Nat) : List Nat := [if 0 < k then ns.getD 0 0 else ns.getD 0 0 + 1, if 1 < k then ns.getD 1 0 else if 1 = k then ns.getD 1 0 + 1 else 0, if 2 < k then ns.getD 2 0 else if 2 = k then ns.getD 2 0 + 1 else 0]
theorem rsN_get (ns : List Nat) (k j : Nat) (hj : j < 3) : (rsN ns k).getD j 0 = if j < k then ns.getD j 0 else if j = k then ns.getD j 0 + 1 else 0 := by
  have h : j = 0 ∨ j = 1 ∨ j = 2 := by omega
  rcases h with rfl | rfl | rfl
  · show (if 0 < k then ns.getD 0 0 else ns.getD 0 0 + 1) = _
    by_cases hk : 0 < k
    · rw [if_pos hk, if_pos hk]
    · rw [if_neg hk, if_neg hk, if_pos (by omega)]
  · rfl
  · rfl
theorem rsN_X {f : Nat} {ns is : List Nat} (h : VW f ns is) (k : Nat) : VX (rsN ns k) [0] := by
  have hn : ∀ j, ns.getD j 0 < 1000000000 := getD_P h.1.2.2 (by omega)
  refine ⟨fun w hw => ?_, by decide, fun w hw => ?_⟩
  · unfold rsN at hw
    have a := hn 0
    have b := hn 1
    have c := hn 2
    simp only [List.mem_cons, List.not_mem_nil, or_false] at hw
    rcases hw with hw | hw | hw
    · split at hw <;> omega
    · split at hw
      · omega
      · split at hw <;> omega
    · split at hw
      · omega
      · split at hw <;> omega
  · rw [List.mem_singleton.mp hw]
    exact Or.inl (by omega)
theorem VX.nil {ns is : List Nat} (h : VX ns is) : VX ns [] := ⟨h.1, by simp, fun w hw => (by cases hw)⟩
theorem VX.zero {ns is : List Nat} (h : VX ns is) : VX ns [0] := ⟨h.1, by decide, fun w hw => by rw [List.mem_singleton.mp hw]; exact Or.inl (by omega)⟩
theorem nxt_X {f : Nat} {ns is : List Nat} (h : VW f ns is) : VX (nxt ns is).1 (nxt ns is).2 := by
  have hn : ∀ j, ns.getD j 0 < 1000000000 := getD_P h.1.2.2 (by omega)
  unfold nxt
  split
  · refine ⟨fun w hw => ?_, by simp, fun w hw => ?_⟩
    · have a := hn 0
      have b := hn 1
      have c := hn 2
      simp only [List.mem_cons, List.not_mem_nil, or_false] at hw
      omega
    · rw [List.mem_singleton.mp hw]
      exact Or.inl (by omega)
  · refine ⟨h.X.1, ?_, fun w hw => ?_⟩
    · show (is ++ [0]).length ≤ 5
      rw [List.length_append, List.length_singleton]
      have := h.2.1.1
      omega
    · rcases List.mem_append.mp hw with hw | hw
      · exact h.2.1.2 w hw
      · rw [List.mem_singleton.mp hw]
        exact Or.inl (by omega)
theorem cR_get {ns is : List Nat} {j : Nat} (h3 : ¬ j < 3) (hl : ¬ is.length = 0) : cR ns is j = if j - 3 < is.length then lN (ckey (is.getD (j - 3) 0)) else 0 := by
  unfold cR
  rw [if_neg h3, if_neg hl]
theorem rW_nxt {f : Nat} {ns is : List Nat} (h : VW f ns is) : cmpL (rW ns is) (rW (nxt ns is).1 (nxt ns is).2) = -1 := by
  have hn : ∀ j, ns.getD j 0 < 1000000000 := getD_P h.1.2.2 (by omega)
  unfold rW
  rw [cmp_cL]
  unfold nxt
  by_cases hi : is = []
  · rw [if_pos hi]
    refine cL_lt (q := 2) ?_ 8 0 (by omega) (by omega) (fun j a b => ?_)
    · show lN (ns.getD 2 0) < lN (ns.getD 2 0 + 1)
      rw [pk_lLT (by have := hn 2; omega) (by have := hn 2; omega)]
      omega
    · have : j = 0 ∨ j = 1 := by omega
      rcases this with rfl | rfl <;> rfl
  · rw [if_neg hi]
    have hl : is.length ≠ 0 := fun e => hi (List.length_eq_zero_iff.mp e)
    have h5 := h.2.1.1
    have hl2 : ¬ (is ++ [0]).length = 0 := by rw [List.length_append, List.length_singleton]; omega
    refine cL_lt (q := 3 + is.length) ?_ 8 0 (by omega) (by omega) (fun j a b => ?_)
    · show cR ns is (3 + is.length) < cR ns (is ++ [0]) (3 + is.length)
      rw [cR_get (by omega) hl, cR_get (by omega) hl2, if_neg (by omega), List.length_append, List.length_singleton, if_pos (by omega)]
      rw [show 3 + is.length - 3 = is.length by omega, List.getD_eq_getElem?_getD, List.getElem?_append_right (Nat.le_refl _), Nat.sub_self]
      decide
    · show cR ns is j = cR ns (is ++ [0]) j
      by_cases hj : j < 3
      · unfold cR
        rw [if_pos hj, if_pos hj]
      · rw [cR_get hj hl, cR_get hj hl2, if_pos (by omega), List.length_append, List.length_singleton, if_pos (by omega)]
        rw [List.getD_eq_getElem?_getD, List.getD_eq_getElem?_getD, List.getElem?_append_left (by omega)]
theorem rW_rsN {f : Nat} {ns is js : List Nat} (h : VW f ns is) {k : Nat} (hk : k < 3) : cmpL (rW ns is) (rW (rsN ns k) js) = -1 := by
  have hn : ∀ j, ns.getD j 0 < 1000000000 := getD_P h.1.2.2 (by omega)
  unfold rW
  rw [cmp_cL]
  refine cL_lt (q := k) ?_ 8 0 (by omega) (by omega) (fun j a b => ?_)
  · unfold cR
    rw [if_pos hk, if_pos hk, rsN_get ns k k hk, if_neg (by omega), if_pos rfl, pk_lLT (by have := hn k; omega) (by have := hn k; omega)]
    omega
  · unfold cR
    rw [if_pos (by omega), if_pos (by omega), rsN_get ns k j (by omega), if_pos b]
def fnz (ns : List Nat) : Nat := if ns.getD 0 0 ≠ 0 ∨ ns.length = 1 then 0 else if ns.getD 1 0 ≠ 0 ∨ ns.length = 2 then 1 else 2
theorem fnz_lt (ns : List Nat) : fnz ns < 3 := by unfold fnz; split; omega; split <;> omega
/-- the low and the high bound of a part with operator o -/
def plo (o f : Nat) (ns is : List Nat) : Row := if o = 60 ∨ o = 316 then LE else if o = 62 then (if f = 2 then rW (nxt ns is).1 (nxt ns is).2 else rW (rsN ns (ns.length - 1)) []) else rW ns is
def phi (o f : Nat) (ns is : List Nat) : Row := if o = 62 ∨ o = 318 then EN else if o = 60 then (if f = 2 then rW ns is else rW ns [0]) else if o = 94 then rW (rsN ns (fnz ns)) [0] else if o = 126 then rW (rsN ns (if ns.length = 1 then 0 else 1)) [0] else if f = 2 then rW (nxt ns is).1 (nxt ns is).2 else rW (rsN ns (ns.length - 1)) [0]
def BR (x : Row) : Prop := R8 x ∧ cmpL LE x ≠ 1 ∧ cmpL x EN ≠ 1
theorem BR_rW {ns is : List Nat} (h : VX ns is) : BR (rW ns is) := ⟨rW8 _ _, rW_ge h, by rw [rW_lt h]; decide⟩
theorem BR_LE : BR LE := ⟨rfl, by decide, by decide⟩
theorem BR_EN : BR EN := ⟨rfl, by decide, by decide⟩
theorem plo_BR {o f : Nat} {ns is : List Nat} (h : VW f ns is) : BR (plo o f ns is) := by
  unfold plo
  split
  · exact BR_LE
  · split
    · split
      · exact BR_rW (nxt_X h)
      · exact BR_rW (rsN_X h _).nil
    · exact BR_rW h.X
theorem phi_BR {o f : Nat} {ns is : List Nat} (h : VW f ns is) : BR (phi o f ns is) := by
  unfold phi
  split
  · exact BR_EN
  · split
    · split
      · exact BR_rW h.X
      · exact BR_rW h.X.zero
    · split
      · exact BR_rW (rsN_X h _)
      · split
        · exact BR_rW (rsN_X h _)
        · split
          · exact BR_rW (nxt_X h)
          · exact BR_rW (rsN_X h _)
/-- the bounds of the part at b, with end e, in a text of n signs -/
def prt (T : Nat → Nat) (n b e : Nat) : Row × Row := if T b = 42 then (LE, EN) else match rdv T (b + opn T n b) e with
  | none => (LE, EN)
  | some (f, (ns, is)) => (plo (opv T n b) f ns is, phi (opv T n b) f ns is)
/-! Intervals. -/
def iv (a b : Row) : List Row := if cmpL a b = -1 then [a, b] else []
def mxR (a x : Row) : Row := if cmpL x a = 1 then x else a
def mnR (b y : Row) : Row := if cmpL y b = -1 then y else b
theorem iv_up {a b : Row} (ha : R8 a) (hb : R8 b) : Up (iv a b) := by
  unfold iv
  split
  · next h =>
    refine ⟨List.pairwise_cons.mpr ⟨fun x hx => by rw [List.mem_singleton.mp hx]; exact h, List.pairwise_singleton _ _⟩, fun x hx => ?_⟩
    simp only [List.mem_cons, List.not_mem_nil, or_false] at hx
    rcases hx with rfl | rfl
    · exact ha
    · exact hb
  · exact ⟨List.Pairwise.nil, fun x hx => (by cases hx)⟩
theorem iv_par {a b x : Row} (ha : R8 a) (hb : R8 b) (hx : R8 x) : par (iv a b) x = true ↔ cmpL a x ≠ 1 ∧ cmpL x b = -1 := by
  unfold iv
  by_cases h : cmpL a b = -1
  · rw [if_pos h]
    unfold par par par
    by_cases h1 : cmpL a x = 1
    · have h2 : cmpL b x = 1 := (cmp_sw hx hb).2.mp (cmpL_tr x a b (hx.trans ha.symm) (ha.trans hb.symm) ((cmp_sw ha hx).1.mp h1) h)
      rw [if_pos h1, if_pos h2]
      exact ⟨fun e => (by cases e), fun e => absurd h1 e.1⟩
    · rw [if_neg h1]
      by_cases h2 : cmpL b x = 1
      · rw [if_pos h2]
        exact ⟨fun _ => ⟨h1, (cmp_sw hb hx).1.mp h2⟩, fun _ => rfl⟩
      · rw [if_neg h2]
        exact ⟨fun e => (by cases e), fun e => absurd ((cmp_sw hx hb).2.mp e.2) h2⟩
  · rw [if_neg h]
    unfold par
    exact ⟨fun e => (by cases e), fun e => absurd (cmp_le_lt ha hx hb e.1 e.2) h⟩
theorem mxR_iff {a c x : Row} (ha : R8 a) (hc : R8 c) (hx : R8 x) : cmpL (mxR a c) x ≠ 1 ↔ cmpL a x ≠ 1 ∧ cmpL c x ≠ 1 := by
  unfold mxR
  by_cases h : cmpL c a = 1
  · rw [if_pos h]
    refine ⟨fun e => ⟨fun e2 => ?_, e⟩, fun e => e.2⟩
    have h1 := (cmp_sw hc ha).1.mp h
    have h2 := (cmp_sw ha hx).1.mp e2
    exact e ((cmp_sw hx hc).2.mp (cmpL_tr x a c (hx.trans ha.symm) (ha.trans hc.symm) h2 h1))
  · rw [if_neg h]
    refine ⟨fun e => ⟨e, fun e2 => ?_⟩, fun e => e.1⟩
    have h2 := (cmp_sw hc hx).1.mp e2
    have h3 := cmp_lt_le hx hc ha h2 h
    exact e ((cmp_sw hx ha).2.mp h3)
theorem mnR_iff {b d x : Row} (hb : R8 b) (hd : R8 d) (hx : R8 x) : cmpL x (mnR b d) = -1 ↔ cmpL x b = -1 ∧ cmpL x d = -1 := by
  unfold mnR
  by_cases h : cmpL d b = -1
  · rw [if_pos h]
    exact ⟨fun e => ⟨cmpL_tr x d b (hx.trans hd.symm) (hd.trans hb.symm) e h, e⟩, fun e => e.2⟩
  · rw [if_neg h]
    refine ⟨fun e => ⟨e, ?_⟩, fun e => e.1⟩
    exact cmp_lt_le hx hb hd e (fun e2 => h ((cmp_sw hb hd).1.mp e2))
theorem mxR8 {a c : Row} (ha : R8 a) (hc : R8 c) : R8 (mxR a c) := by unfold mxR; split <;> assumption
theorem mnR8 {a c : Row} (ha : R8 a) (hc : R8 c) : R8 (mnR a c) := by unfold mnR; split <;> assumption
theorem mxBR {a c : Row} (ha : BR a) (hc : BR c) : BR (mxR a c) := by unfold mxR; split <;> assumption
theorem mnBR {a c : Row} (ha : BR a) (hc : BR c) : BR (mnR a c) := by unfold mnR; split <;> assumption
theorem jo_iv {a b c d : Row} (ha : R8 a) (hb : R8 b) (hc : R8 c) (hd : R8 d) : jo 0 (iv a b) (iv c d) = iv (mxR a c) (mnR b d) := by
  obtain ⟨h1, h2⟩ := jo_up (how := 0) (iv_up ha hb) (iv_up hc hd)
  refine up_uniq _ _ h1 (iv_up (mxR8 ha hc) (mnR8 hb hd)) (fun x hx => ?_)
  rw [h2 x hx]
  apply Bool.eq_iff_iff.mpr
  show (par (iv a b) x && par (iv c d) x) = true ↔ _
  rw [Bool.and_eq_true, iv_par ha hb hx, iv_par hc hd hx, iv_par (mxR8 ha hc) (mnR8 hb hd) hx, mxR_iff ha hc hx, mnR_iff hb hd hx]
  exact ⟨fun e => ⟨⟨e.1.1, e.2.1⟩, e.1.2, e.2.2⟩, fun e => ⟨⟨e.1.1, e.2.1⟩, e.1.2, e.2.2⟩⟩
theorem jo_nil {R : List Row} (h : Up R) : jo 1 R [] = R := by
  obtain ⟨h1, h2⟩ := jo_up (how := 1) h (B := []) ⟨List.Pairwise.nil, fun x hx => (by cases hx)⟩
  refine up_uniq _ _ h1 h (fun x hx => ?_)
  rw [h2 x hx]
  show (par R x || par [] x) = par R x
  rw [show par [] x = false from rfl, Bool.or_false]
theorem iv_GB {a b : Row} (ha : BR a) (hb : BR b) : GB (iv a b) := by
  refine ⟨iv_up ha.1 hb.1, ?_, ?_, fun x hx => ?_⟩
  · unfold iv; split
    · show od 2 = false
      decide
    · rfl
  · unfold iv; split <;> simp
  · unfold iv at hx
    split at hx
    · simp only [List.mem_cons, List.not_mem_nil, or_false] at hx
      rcases hx with rfl | rfl
      · exact ha.2
      · exact hb.2
    · cases hx
theorem jo_len (how : Nat) (A B : List Row) : (jo how A B).length ≤ A.length + B.length := jn_len how _ A B _ _ _
theorem iv_len (a b : Row) : (iv a b).length ≤ 2 := by unfold iv; split <;> simp
theorem jo1_GB {R : List Row} {a b : Row} (hR : GB R) (hl : R.length ≤ 30) (ha : BR a) (hb : BR b) : GB (jo 1 R (iv a b)) ∧ (jo 1 R (iv a b)).length ≤ R.length + 2 := by
  have h1 := jo_len 1 R (iv a b)
  have h2 := iv_len a b
  exact ⟨jo_GB hR (iv_GB ha hb) (by omega), by omega⟩
/-! The tokens of a range. -/
def isP (k : Nat) : Bool := decide (k = 7) || decide (k = 8)
def chk : List Tok → Nat → Nat → Nat × Nat
  | [], _, p => (if p = 0 then 1 else 0, 0)
  | x :: l, a, p => if isP x.1 = true then (if 6 < p + 1 ∨ 16 < a then (2, 0) else ((chk l a (p + 1)).1, (chk l a (p + 1)).2 + 1)) else if x.1 = 9 ∧ 0 < p then ((chk l (a + 1) 0).1, (chk l (a + 1) 0).2 + 1) else (if p = 0 then 1 else 0, 0)
def rgo (P : Tok → Row × Row) : List Tok → Row → Row → List Row → List Row
  | [], lo, hi, R => jo 1 R (iv lo hi)
  | x :: l, lo, hi, R => if x.1 = 9 then rgo P l LE EN (jo 1 R (iv lo hi)) else rgo P l (mxR lo (P x).1) (mnR hi (P x).2) R
def tP (T : Nat → Nat) (n : Nat) (x : Tok) : Row × Row := prt T n x.2.1 x.2.2
/-- the range of tokens -/
def rng (T : Nat → Nat) (n : Nat) (l : List Tok) : List Row := rgo (tP T n) l LE EN []
theorem chk_le : ∀ l a p, (chk l a p).2 ≤ l.length := by
  intro l
  induction l with
  | nil => intro a p; exact Nat.le_refl _
  | cons x l ih =>
    intro a p
    rw [chk]
    split
    · split
      · exact Nat.zero_le _
      · have := ih a (p + 1); simp only [List.length_cons]; omega
    · split
      · have := ih (a + 1) 0; simp only [List.length_cons]; omega
      · exact Nat.zero_le _
theorem prt_BR {T : Nat → Nat} {n b e : Nat} (hV : ∀ f ns is, rdv T (b + opn T n b) e = some (f, (ns, is)) → VW f ns is) : BR (prt T n b e).1 ∧ BR (prt T n b e).2 := by
  unfold prt
  split
  · exact ⟨BR_LE, BR_EN⟩
  · split
    · exact ⟨BR_LE, BR_EN⟩
    · next f ns is h => exact ⟨plo_BR (hV f ns is h), phi_BR (hV f ns is h)⟩
