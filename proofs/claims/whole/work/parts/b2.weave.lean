/-! The class's solver: which values go together. -/
def FI (P : Nat → Nat → Prop) (m m' : Mi) : Prop := (∀ x j, ¬ P x j → gi m' x j = gi m x j) ∧ (∀ x j, gl m' x j = gl m x j) ∧ ∀ x j, gr m' x j = gr m x j
theorem FI.rf {P : Nat → Nat → Prop} {m : Mi} : FI P m m := ⟨fun _ _ _ => rfl, fun _ _ => rfl, fun _ _ => rfl⟩
theorem FI.tr {P : Nat → Nat → Prop} {m m1 m2 : Mi} (h : FI P m m1) (h2 : FI P m1 m2) : FI P m m2 := ⟨fun x j a => (h2.1 x j a).trans (h.1 x j a), fun x j => (h2.2.1 x j).trans (h.2.1 x j), fun x j => (h2.2.2 x j).trans (h.2.2 x j)⟩
theorem FI.mono {P Q : Nat → Nat → Prop} {m m' : Mi} (h : FI P m m') (hq : ∀ x j, P x j → Q x j) : FI Q m m' := ⟨fun x j a => h.1 x j (fun e => a (hq x j e)), h.2.1, h.2.2⟩
theorem FI.si {P : Nat → Nat → Prop} {m : Mi} {a k : Nat} {v : Int32} (h : P a k) : FI P m (si m a k v) := by
  refine ⟨fun x j e => ?_, fun _ _ => rfl, fun _ _ => rfl⟩
  simp only [mS]
  rw [if_neg (fun z => e (by rw [z.1, z.2]; exact h))]
theorem FI.Fr {P : Nat → Nat → Prop} {Q : Nat → Prop} {m m' : Mi} (h : FI P m m') (hq : ∀ x j, P x j → Q x) : Fr Q m m' := ⟨fun x j e => ⟨h.1 x j (fun z => e (hq x j z)), h.2.1 x j⟩, fun x j _ => h.2.2 x j⟩
/-- the solver's own references -/
def SV (q : Nat) (m : Mi) : Prop := gr m 853 0 = q ∧ gr m 853 2 = 854 ∧ gr m 853 3 = 855 ∧ gr m 853 4 = 856 ∧ gr m 853 5 = 857 ∧ gr m 853 6 = 858 ∧ gr m 853 7 = 859
theorem SV.keep {q : Nat} {P : Nat → Nat → Prop} {m m' : Mi} (h : SV q m) (k : FI P m m') : SV q m' := by
  obtain ⟨h1, h2, h3, h4, h5, h6, h7⟩ := h
  exact ⟨(k.2.2 _ _).trans h1, (k.2.2 _ _).trans h2, (k.2.2 _ _).trans h3, (k.2.2 _ _).trans h4, (k.2.2 _ _).trans h5, (k.2.2 _ _).trans h6, (k.2.2 _ _).trans h7⟩
abbrev Sg : Type := Nat → Nat → Nat → Nat → Bool
/-- says and allowed, by what the values say -/
def Sa (m : Mi) (σ : Sg) : Prop := (∀ p b q, p < 10 → b < 7 → q < 10 → gi m 854 ((p * 7 + b) * 10 + q) = msk 7 (σ p b q)) ∧ ∀ p b q, p < 10 → b < 7 → q < 10 → p ≠ q → gi m 855 ((p * 7 + b) * 10 + q) = msk 7 (fun c => σ p b q c && σ q c p b)
def Ac (m : Mi) (act : Nat → Bool) : Prop := ∀ c, c < 250 → gi m 858 c = bI (act c)
theorem msk_get2 {i j : Nat} {f g : Nat → Bool} (hi : i < 7) (hj : j < 7) : ((msk 7 f >>> (nI i &&& 31)) &&& (msk 7 g >>> (nI j &&& 31))) &&& 1 = bI (f i && g j) := by
  refine b_ext (fun z hz => ?_)
  rw [b_and, b_and, b_sshr i (by omega) _ hz, b_sshr j (by omega) _ hz, bt_1 z hz]
  by_cases h : z = 0
  · subst h
    rw [if_pos (by omega), if_pos (by omega), bt_msk (by omega), bt_msk (by omega), Nat.add_zero, Nat.add_zero, decide_eq_true hi, decide_eq_true hj]
    cases f i <;> cases g j <;> decide
  · rw [decide_eq_false h, Bool.and_false]
    cases f i && g j
    · exact (b_0 z).symm
    · exact (by rw [show bI true = 1 from rfl, bt_1 z hz, decide_eq_false h])
theorem msk_set {n k : Nat} {A : Nat → Bool} (g : Bool) (hk : k < n) (hn : n ≤ 32) : (if g = true then msk n A ||| ((1 : Int32) <<< (nI k &&& 31)) else msk n A &&& (((1 : Int32) <<< (nI k &&& 31)) ^^^ (-1))) = msk n (fun i => if i = k then g else A i) := by
  rw [one_msk hk hn]
  cases g with
  | true =>
    rw [if_pos rfl, msk_or]
    refine msk_congr (fun i _ => ?_)
    by_cases h : i = k
    · rw [if_pos h, decide_eq_true h, Bool.or_true]
    · rw [if_neg h, decide_eq_false h, Bool.or_false]
  | false =>
    rw [if_neg fNt, msk_without]
    refine msk_congr (fun i _ => ?_)
    by_cases h : i = k
    · rw [if_pos h, decide_eq_true h]; simp
    · rw [if_neg h, decide_eq_false h]; simp
theorem match_C {q p v t o : Nat} {m : Mi} {f g : Nat → Bool} (hS : SV q m) (hp : p < 10) (hv : v < 7) (ht : t < 10) (ho : o < 7) (h1 : gi m 854 ((p * 7 + v) * 10 + t) = msk 7 f) (h2 : gi m 854 ((t * 7 + o) * 10 + p) = msk 7 g) :
    ∃ m', f_X8_matchValues TT m 853 (nI p) (nI v) (nI t) (nI o) = some m' ∧ FI (fun x j => x = 855 ∧ (j = (p * 7 + v) * 10 + t ∨ j = (t * 7 + o) * 10 + p)) m m' ∧
      (p ≠ t → ∀ A A2 : Nat → Bool, gi m 855 ((p * 7 + v) * 10 + t) = msk 7 A → gi m 855 ((t * 7 + o) * 10 + p) = msk 7 A2 → gi m' 855 ((p * 7 + v) * 10 + t) = msk 7 (fun i => if i = o then (f o && g v) else A i) ∧ gi m' 855 ((t * 7 + o) * 10 + p) = msk 7 (fun i => if i = v then (f o && g v) else A2 i)) := by
  obtain ⟨s0, s2, s3, s4, s5, s6, s7⟩ := hS
  have hb : f_X8_matchValues TT m 853 (nI p) (nI v) (nI t) (nI o) = f_X8_matchValues_j58 TT m 853 (nI v) (nI o) (nI ((p * 7 + v) * 10 + t)) (nI ((t * 7 + o) * 10 + p)) (bI (f o && g v)) := by
    unfold f_X8_matchValues
    rw [lt_eq, lt_eq, show (7 : Int32) = nI 7 from rfl, show (10 : Int32) = nI 10 from rfl, pk_mul, nI_add, pk_mul, nI_add, pk_mul, nI_add, pk_mul, nI_add, s2, if_pos (ar_of s_854 (by omega) (by omega)), if_pos (ar_of s_854 (by omega) (by omega)), ix_nI (by omega), ix_nI (by omega), h1, h2, msk_get2 ho hv]
    cases f o && g v
    · rw [if_neg (by decide)]; rfl
    · rw [if_pos (by decide)]; rfl
  rw [hb]
  unfold f_X8_matchValues_j58
  have fin : ∀ (w : Int32) (gg : Bool), gg = (f o && g v) → ∃ m', f_X8_matchValues_j100 TT m 853 (nI v) (nI ((t * 7 + o) * 10 + p)) (bI gg) w (nI ((p * 7 + v) * 10 + t)) 855 = some m' ∧ m' = si (si m 855 ((p * 7 + v) * 10 + t) w) 855 ((t * 7 + o) * 10 + p) (if gg = true then gi (si m 855 ((p * 7 + v) * 10 + t) w) 855 ((t * 7 + o) * 10 + p) ||| ((1 : Int32) <<< (nI v &&& 31)) else gi (si m 855 ((p * 7 + v) * 10 + t) w) 855 ((t * 7 + o) * 10 + p) &&& (((1 : Int32) <<< (nI v &&& 31)) ^^^ (-1))) := by
    intro w gg hgg
    unfold f_X8_matchValues_j100
    rw [if_pos (ar_of s_855 (by omega) (by omega)), lt_eq, ix_nI (n := (p * 7 + v) * 10 + t) (by omega), show gr (si m 855 ((p * 7 + v) * 10 + t) w) 853 3 = 855 from s3]
    cases gg with
    | true =>
      rw [if_neg bTr, if_pos (ar_of s_855 (by omega) (by omega))]
      unfold f_X8_matchValues_j139
      rw [if_pos (ar_of s_855 (by omega) (by omega)), lt_eq, ix_nI (by omega)]
      refine ⟨_, rfl, ?_⟩
      rw [if_pos rfl]
    | false =>
      rw [if_pos bF, if_pos (ar_of s_855 (by omega) (by omega))]
      unfold f_X8_matchValues_j139
      rw [if_pos (ar_of s_855 (by omega) (by omega)), lt_eq, ix_nI (by omega)]
      refine ⟨_, rfl, ?_⟩
      rw [if_neg fNt]
  have out : ∀ w m', m' = si (si m 855 ((p * 7 + v) * 10 + t) w) 855 ((t * 7 + o) * 10 + p) (if (f o && g v) = true then gi (si m 855 ((p * 7 + v) * 10 + t) w) 855 ((t * 7 + o) * 10 + p) ||| ((1 : Int32) <<< (nI v &&& 31)) else gi (si m 855 ((p * 7 + v) * 10 + t) w) 855 ((t * 7 + o) * 10 + p) &&& (((1 : Int32) <<< (nI v &&& 31)) ^^^ (-1))) → (∀ A : Nat → Bool, gi m 855 ((p * 7 + v) * 10 + t) = msk 7 A → w = msk 7 (fun i => if i = o then (f o && g v) else A i)) → FI (fun x j => x = 855 ∧ (j = (p * 7 + v) * 10 + t ∨ j = (t * 7 + o) * 10 + p)) m m' ∧ (p ≠ t → ∀ A A2 : Nat → Bool, gi m 855 ((p * 7 + v) * 10 + t) = msk 7 A → gi m 855 ((t * 7 + o) * 10 + p) = msk 7 A2 → gi m' 855 ((p * 7 + v) * 10 + t) = msk 7 (fun i => if i = o then (f o && g v) else A i) ∧ gi m' 855 ((t * 7 + o) * 10 + p) = msk 7 (fun i => if i = v then (f o && g v) else A2 i)) := by
    intro w m' hm hw
    rw [hm]
    refine ⟨(FI.si (P := fun x j => x = 855 ∧ (j = (p * 7 + v) * 10 + t ∨ j = (t * 7 + o) * 10 + p)) ⟨rfl, Or.inl rfl⟩).tr (FI.si (P := fun x j => x = 855 ∧ (j = (p * 7 + v) * 10 + t ∨ j = (t * 7 + o) * 10 + p)) ⟨rfl, Or.inr rfl⟩), fun hne A A2 hA hA2 => ⟨?_, ?_⟩⟩
    · simp only [mS]
      rw [if_neg (by omega), if_pos ⟨trivial, trivial⟩]
      exact hw A hA
    · rw [gi_si, show gi (si m 855 ((p * 7 + v) * 10 + t) w) 855 ((t * 7 + o) * 10 + p) = msk 7 A2 from by simp only [mS]; rw [if_neg (by omega)]; exact hA2]
      exact msk_set _ hv (by omega)
  cases hgo : (f o && g v) with
  | true =>
    obtain ⟨m', e1, e2⟩ := fin (gi m 855 ((p * 7 + v) * 10 + t) ||| ((1 : Int32) <<< (nI o &&& 31))) true hgo.symm
    rw [if_neg bTr, s3, if_pos (ar_of s_855 (by omega) (by omega)), ix_nI (by omega), e1]
    rw [hgo] at out
    obtain ⟨o1, o2⟩ := out _ m' e2 (fun A hA => by rw [hA]; have := msk_set (A := A) true ho (show 7 ≤ 32 by omega); rw [if_pos rfl] at this; exact this)
    exact ⟨m', rfl, o1, o2⟩
  | false =>
    obtain ⟨m', e1, e2⟩ := fin (gi m 855 ((p * 7 + v) * 10 + t) &&& (((1 : Int32) <<< (nI o &&& 31)) ^^^ (-1))) false hgo.symm
    rw [if_pos bF, s3, if_pos (ar_of s_855 (by omega) (by omega)), ix_nI (by omega), e1]
    rw [hgo] at out
    obtain ⟨o1, o2⟩ := out _ m' e2 (fun A hA => by rw [hA]; have := msk_set (A := A) false ho (show 7 ≤ 32 by omega); rw [if_neg fNt] at this; exact this)
    exact ⟨m', rfl, o1, o2⟩
/-- all values of the target -/
theorem match_lp {q a2 a3 h vl t : Nat} {σ : Sg} (hh : h < 10) (hv : vl < 7) (ht : t < 10) (ha2 : a2 < 853) (ha3 : a3 < 853) (s2 : sh TT a2 = some (.inl 0)) (s3 : sh TT a3 = some (.inl 7)) :
    ∀ (d k N : Nat) (m : Mi), k + d = 7 → d < N → SV q m → gi m a3 1 = nI h → gi m a2 4 = nI t → gi m 854 ((h * 7 + vl) * 10 + t) = msk 7 (σ h vl t) → (∀ o, o < 7 → gi m 854 ((t * 7 + o) * 10 + h) = msk 7 (σ t o h)) →
    ∃ m', lp (fun x : Int32 × Mi => f_X8_weaveLink_l242 TT x.2 853 a2 a3 (nI vl) x.1) N (nI k, m) = some m' ∧ FI (fun x j => x = 855 ∧ (j = (h * 7 + vl) * 10 + t ∨ ∃ o, o < 7 ∧ j = (t * 7 + o) * 10 + h)) m m' ∧
      (h ≠ t → ∀ (A : Nat → Bool) (A2 : Nat → Nat → Bool), gi m 855 ((h * 7 + vl) * 10 + t) = msk 7 A → (∀ o, o < 7 → gi m 855 ((t * 7 + o) * 10 + h) = msk 7 (A2 o)) → gi m' 855 ((h * 7 + vl) * 10 + t) = msk 7 (fun i => if k ≤ i then (σ h vl t i && σ t i h vl) else A i) ∧ ∀ o, o < 7 → gi m' 855 ((t * 7 + o) * 10 + h) = msk 7 (fun i => if k ≤ o ∧ i = vl then (σ h vl t o && σ t o h vl) else A2 o i)) := by
  intro d
  induction d with
  | zero =>
    intro k N m hk hN hS g1 g2 e1 e2
    obtain ⟨N, rfl⟩ : ∃ y, N = y + 1 := ⟨N - 1, by omega⟩
    refine ⟨m, lp_exit ?_, FI.rf, fun hne A A2 hA hA2 => ⟨?_, fun o ho => ?_⟩⟩
    · show f_X8_weaveLink_l242 TT m 853 a2 a3 (nI vl) (nI k) = _
      unfold f_X8_weaveLink_l242
      rw [if_pos (show (7 : Int32) ≤ nI k from nI_le (a := 7) (by omega) (by omega))]
    · rw [hA]
      exact msk_congr (fun i hi => by rw [if_neg (by omega)])
    · rw [hA2 o ho]
      exact msk_congr (fun i hi => by rw [if_neg (by omega)])
  | succ d ih =>
    intro k N m hk hN hS g1 g2 e1 e2
    obtain ⟨N, rfl⟩ : ∃ y, N = y + 1 := ⟨N - 1, by omega⟩
    obtain ⟨m1, c1, f1, u1⟩ := match_C (o := k) hS hh hv ht (by omega) e1 (e2 k (by omega))
    have hbody : f_X8_weaveLink_l242 TT m 853 a2 a3 (nI vl) (nI k) = some (.inl (nI (k + 1), m1)) := by
      unfold f_X8_weaveLink_l242
      rw [if_neg (show ¬ (7 : Int32) ≤ nI k from nI_ge (b := 7) (by omega) (by omega)), ob_of s3, if_pos rfl, ob_of s2, if_pos rfl, g1, g2, c1, Option.bind_some, lt_eq, nI_1]
    rw [lp_step hbody]
    obtain ⟨m', e3, f3, u3⟩ := ih (k + 1) N m1 (by omega) (by omega) (hS.keep f1) ((f1.1 _ _ (by omega)).trans g1) ((f1.1 _ _ (by omega)).trans g2) ((f1.1 _ _ (by omega)).trans e1) (fun o ho => (f1.1 _ _ (by omega)).trans (e2 o ho))
    refine ⟨m', e3, (f1.mono (fun x j h => ⟨h.1, h.2.elim Or.inl (fun e => Or.inr ⟨k, by omega, e⟩)⟩)).tr f3, fun hne A A2 hA hA2 => ?_⟩
    obtain ⟨w1, w2⟩ := u1 hne A (A2 k) hA (hA2 k (by omega))
    have w3 : ∀ o, o < 7 → gi m1 855 ((t * 7 + o) * 10 + h) = msk 7 (fun i => if o = k ∧ i = vl then (σ h vl t k && σ t k h vl) else A2 o i) := by
      intro o ho
      by_cases hok : o = k
      · subst hok
        rw [w2]
        refine msk_congr (fun i _ => ?_)
        by_cases hi : i = vl
        · rw [if_pos hi, if_pos ⟨rfl, hi⟩]
        · rw [if_neg hi, if_neg (fun z => hi z.2)]
      · rw [f1.1 _ _ (by omega), hA2 o ho]
        exact msk_congr (fun i _ => by rw [if_neg (fun z => hok z.1)])
    obtain ⟨y1, y2⟩ := u3 hne _ _ w1 w3
    refine ⟨?_, fun o ho => ?_⟩
    · rw [y1]
      refine msk_congr (fun i _ => ?_)
      by_cases h1 : k + 1 ≤ i
      · rw [if_pos h1, if_pos (by omega)]
      · rw [if_neg h1]
        by_cases h2 : i = k
        · rw [if_pos h2, if_pos (by omega), h2]
        · rw [if_neg h2, if_neg (by omega)]
    · rw [y2 o ho]
      refine msk_congr (fun i _ => ?_)
      by_cases h1 : k + 1 ≤ o ∧ i = vl
      · rw [if_pos h1, if_pos ⟨by omega, h1.2⟩]
      · rw [if_neg h1]
        by_cases h2 : o = k ∧ i = vl
        · rw [if_pos h2, if_pos ⟨by omega, h2.2⟩, h2.1]
        · rw [if_neg h2, if_neg (by omega)]
theorem isActive_C {q c : Nat} {m : Mi} {act : Nat → Bool} (hS : SV q m) (hA : Ac m act) (hc : c < 250) : f_X8_isActive TT m 853 (nI c) = some (bI (act c)) := by
  unfold f_X8_isActive
  rw [if_neg (nI_pos (by omega)), hS.2.2.2.2.2.1, aa_of s_858, if_pos rfl, ln_of s_858, ofNat_nI, if_neg (nI_ge hc (by omega)), if_pos (ar_of s_858 hc (by omega)), ix_nI (by omega), hA c hc]
  cases act c
  · rw [if_pos bF]; rfl
  · rw [if_neg bTr]; rfl
theorem m127 : (127 : Int32) = msk 7 (fun _ => true) := by decide +kernel
/-- what is said by links first .. first + k - 1 -/
def acL (T : Nat → Nat) (G : Rg) (act : Nat → Bool) (first t k b : Nat) : Bool := (List.range k).all (fun j => match G.2.2[first + j]? with
  | some z => !(act (first + j) && decide (tgt T G z = t)) || kpL T G z (em b)
  | none => true)
theorem acL_succ (T : Nat → Nat) (G : Rg) (act : Nat → Bool) (first t k b : Nat) {z : CnT} (hz : G.2.2[first + k]? = some z) : acL T G act first t (k + 1) b = (acL T G act first t k b && (!(act (first + k) && decide (tgt T G z = t)) || kpL T G z (em b))) := by
  unfold acL
  rw [List.range_succ, List.all_append]
  simp only [List.all_cons, List.all_nil, Bool.and_true, hz]
theorem says_lp {q n a2 r t : Nat} {m : Mi} {T : Nat → Nat} {G : Rg} {act : Nat → Bool} {y : RlT} {a5 : Int32} (hq : QS q) (hC : CG q m T n G) (hO : RO T n G) (hS : SV q m) (hA : Ac m act) (s2 : sh TT a2 = some (.inl 0)) (g2 : gi m a2 4 = nI t) (ht : t < 10) (hy : G.2.1[r]? = some y) :
    lp (fun x : Int32 × Int32 => f_X8_weaveLink_l120 TT m 853 a2 (q + 24 + 2 * r) a5 x.1 x.2) FUEL (127, 0) = some (msk 7 (acL T G act y.2.2.2 t (cntL G.2.2 r))) := by
  have hB := hO.2.1
  have hB2 := hB.2.1
  have hB3 := hB.2.2
  have hr := get_lt hy
  have hcl := hO.1.1.2.2.2.2.1 r y hy
  obtain ⟨_, _, _, d4, d5, _⟩ := hC.1.2.2.1.2.2.2.2.2.1 r y hy
  have hs7 := (hq.2.2.2.2.2.2.2.2.2.1 r (by omega)).1
  have hm := lp_count (body := fun x : Int32 × Int32 => f_X8_weaveLink_l120 TT m 853 a2 (q + 24 + 2 * r) a5 x.1 x.2) (fun k => (msk 7 (acL T G act y.2.2.2 t k), nI k)) (a := 0) (n := cntL G.2.2 r) (y := msk 7 (acL T G act y.2.2.2 t (cntL G.2.2 r))) (Nat.zero_le _) (by omega) (fun k _ hk => ?_) ?_
  · rw [show msk 7 (acL T G act y.2.2.2 t 0) = 127 from m127.symm] at hm
    exact hm
  · show f_X8_weaveLink_l120 TT m 853 a2 (q + 24 + 2 * r) a5 (msk 7 (acL T G act y.2.2.2 t k)) (nI k) = _
    obtain ⟨z, hz⟩ := get_some (l := G.2.2) (k := y.2.2.2 + k) (by omega)
    obtain ⟨c1, c2, c3, c4, c5, c6⟩ := hC.1.2.2.1.2.2.2.2.2.2 _ z hz
    have tg := hC.1.2.2.2 _ z hz
    have tw := hC.2 _ z hz
    have ut := unk_fnd hO.2.2.1 (List.mem_of_getElem? hz)
    have h6 := hO.2.2.2.1.1 (tgt T G z)
    have hB1 := hB.1
    rw [wi_msk T G z h6] at tw
    unfold f_X8_weaveLink_l120
    rw [ob_of hs7, if_pos rfl, d5, if_neg (nI_ge hk (by omega)), hS.1, ob_of hq.2.1, if_pos rfl, d4, nI_add, conAt_C hq hC.1.1 hC.1.2.2.1 hB (by omega), Option.bind_some, if_neg (show ¬ q + 145 + (y.2.2.2 + k) = 0 by omega), ob_of (hq.2.2.2.2.2.2.2.2.2.2 _ (by omega)), if_pos rfl, ob_of s2, if_pos rfl, tg, g2]
    have su := fun b => acL_succ T G act y.2.2.2 t k b hz
    have fin : ∀ f : Nat → Bool, (∀ b, f b = acL T G act y.2.2.2 t (k + 1) b) → msk 7 f = msk 7 (acL T G act y.2.2.2 t (k + 1)) := fun f hf => msk_congr (fun b _ => hf b)
    by_cases htt : tgt T G z = t
    · rw [if_pos (by rw [htt]), isActive_C hS hA (by omega), Option.bind_some]
      cases hac : act (y.2.2.2 + k) with
      | false =>
        rw [if_pos bF, lt_eq, nI_1]
        rw [fin (acL T G act y.2.2.2 t k) (fun b => by rw [su, hac]; simp)]
      | true =>
        rw [if_neg bTr, c1]
        have k5 : nI z.1 = 5 ↔ z.1 = 5 := nI_eq (b := 5) (by have := (hO.1.2.2.2.1 z (List.mem_of_getElem? hz)).1; omega) (by omega)
        by_cases h5 : z.1 = 5
        · rw [if_pos (k5.mpr h5), lt_eq, lt_eq, tw, msk_and, nI_1]
          rw [fin _ (fun b => by rw [su, hac, decide_eq_true htt]; unfold kpL; rw [if_pos h5]; simp)]
        · rw [if_neg (fun e => h5 (k5.mp e)), lt_eq, lt_eq, tw, m127, msk_without, msk_and, nI_1]
          rw [fin _ (fun b => by rw [su, hac, decide_eq_true htt]; unfold kpL; rw [if_neg h5]; simp)]
    · rw [if_neg (fun e => htt ((nI_eq (by omega) (by omega)).mp e)), lt_eq, nI_1]
      rw [fin (acL T G act y.2.2.2 t k) (fun b => by rw [su, decide_eq_false htt]; simp)]
  · show f_X8_weaveLink_l120 TT m 853 a2 (q + 24 + 2 * r) a5 (msk 7 _) (nI (cntL G.2.2 r)) = _
    unfold f_X8_weaveLink_l120
    rw [ob_of hs7, if_pos rfl, d5, if_pos (nI_le (Nat.le_refl _) (by omega))]
theorem acL_sy {T : Nat → Nat} {n : Nat} {G : Rg} (hO : RO T n G) {act : Nat → Bool} {r h t b : Nat} {y : RlT} (hy : G.2.1[r]? = some y) (h1 : fr G h ≤ r) (h2 : r < fr G h + cntR G.2.1 h) : acL T G act y.2.2.2 t (cntL G.2.2 r) b = sy T G act h (r - fr G h + 1) t (em b) := by
  have hcl := hO.1.1.2.2.2.2.1 r y hy
  rw [Bool.eq_iff_iff, sy_iff]
  unfold acL
  rw [List.all_eq_true]
  constructor
  · intro hh c x hx ha h4 hv ht
    have hv := of_decide_eq_true hv
    have hr : x.2.1 = r := by omega
    have hc := (hcl.2 c x hx).mp ⟨h4, hr⟩
    have := hh (c - y.2.2.2) (List.mem_range.mpr (by omega))
    rw [show y.2.2.2 + (c - y.2.2.2) = c by omega, hx] at this
    simpa [ha, ht] using this
  · intro hh j hj
    have hj := List.mem_range.mp hj
    obtain ⟨z, hz⟩ := get_some (l := G.2.2) (k := y.2.2.2 + j) (by omega)
    rw [hz]
    show (!(act (y.2.2.2 + j) && decide (tgt T G z = t)) || kpL T G z (em b)) = true
    have hl := (hcl.2 _ z hz).mpr ⟨by omega, by omega⟩
    cases ha : act (y.2.2.2 + j) with
    | false => rfl
    | true =>
      by_cases ht : tgt T G z = t
      · rw [hh _ z hz ha hl.1 (by unfold hvB; exact decide_eq_true ⟨by omega, by omega, by omega⟩) ht, Bool.or_true]
      · simp [ht]
def KW (x j : Nat) : Prop := x = 854 ∨ x = 855
theorem CG.keepI {q n : Nat} {m m' : Mi} {P : Nat → Nat → Prop} {T : Nat → Nat} {G : Rg} (h : CG q m T n G) (hq : QS q) (hB : BGd G) (k : FI P m m') (hp : ∀ x j, P x j → 853 ≤ x) : CG q m' T n G := h.keepF hq hB (k.Fr (Q := fun x => 853 ≤ x) hp) (fun x a b => by have := hq.1; omega)
theorem weave_C {q n c : Nat} {m : Mi} {T : Nat → Nat} {G : Rg} {act : Nat → Bool} {σ : Sg} {x : CnT} (hq : QS q) (hC : CG q m T n G) (hO : RO T n G) (hS : SV q m) (hA : Ac m act) (hs : Sa m σ) (hx : G.2.2[c]? = some x) (h4 : x.1 ≠ 4) :
    ∃ m' h vl, f_X8_weaveLink TT m 853 (nI c) = some m' ∧ FI KW m m' ∧ h < G.1.length ∧ vl < 6 ∧ hvB G x h (vl + 1) = true ∧ Sa m' (fun p b q' => if p = h ∧ b = vl ∧ q' = tgt T G x then (fun b' => sy T G act h (vl + 1) (tgt T G x) (em b')) else σ p b q') := by
  have hq1 := hq.1
  have hB := hO.2.1
  have hB1 := hB.1
  have hB2 := hB.2.1
  have hB3 := hB.2.2
  have hc := get_lt hx
  obtain ⟨h, y, hy, hyh, hh, l1, l2, _⟩ := hv_of hO hx h4
  have hr := get_lt hy
  have h6 := hO.2.2.2.1.1 h
  obtain ⟨c1, c2, c3, c4, c5, c6⟩ := hC.1.2.2.1.2.2.2.2.2.2 c x hx
  rw [if_neg h4] at c2
  have tg := hC.1.2.2.2 c x hx
  have ut := unk_fnd hO.2.2.1 (List.mem_of_getElem? hx)
  obtain ⟨r1, _, _, r4, r5, _⟩ := hC.1.2.2.1.2.2.2.2.2.1 _ y hy
  obtain ⟨w, hw⟩ := get_some hh
  obtain ⟨_, _, p3, p4, _⟩ := hC.1.2.2.1.2.2.2.2.1 h w hw
  have hsc := hq.2.2.2.2.2.2.2.2.2.2 c (by omega)
  have hsr := (hq.2.2.2.2.2.2.2.2.2.1 x.2.1 (by omega)).1
  have hsp := (hq.2.2.2.2.2.2.2.2.1 h (by omega)).1
  have hlp := says_lp (a5 := nI (x.2.1 - fr G h)) hq hC hO hS hA hsc tg (by omega) hy
  have hval : x.2.1 - fr G h < 6 := by omega
  have hmk : msk 7 (acL T G act y.2.2.2 (tgt T G x) (cntL G.2.2 x.2.1)) = msk 7 (fun b' => sy T G act h (x.2.1 - fr G h + 1) (tgt T G x) (em b')) := msk_congr (fun b _ => acL_sy hO hy l1 l2)
  rw [hmk] at hlp
  have hb : f_X8_weaveLink TT m 853 (nI c) = f_X8_weaveLink_j242 TT (si m 854 ((h * 7 + (x.2.1 - fr G h)) * 10 + tgt T G x) (msk 7 (fun b' => sy T G act h (x.2.1 - fr G h + 1) (tgt T G x) (em b')))) 853 (q + 145 + c) (q + 24 + 2 * x.2.1) (nI (x.2.1 - fr G h)) 0 := by
    unfold f_X8_weaveLink f_X8_weaveLink_j28 f_X8_weaveLink_j48 f_X8_weaveLink_j120
    rw [hS.1, ob_of hq.2.1, if_pos rfl, conAt_C hq hC.1.1 hC.1.2.2.1 hB hc, Option.bind_some, if_neg (show ¬ q + 145 + c = 0 by omega), ob_of hsc, if_pos rfl, c2, releaseAt_C hq hC.1.1 hC.1.2.2.1 hB hr, Option.bind_some, if_neg (show ¬ q + 24 + 2 * x.2.1 = 0 by omega), ob_of hsr, if_pos rfl, r1, hyh, packAt_C hq hC.1.1 hC.1.2.2.1 hB hh, Option.bind_some, if_neg (show ¬ q + 3 + 2 * h = 0 by omega), tg, if_neg (nI_pos (by omega)), if_pos (show nI (tgt T G x) < 10 from nI_lt (b := 10) (by omega) (by omega)), ob_of hsp, if_pos rfl, lt_eq, p3, ← fr_get hw, pk_sub l1, if_neg (show ¬ nI h < 0 from nI_pos (by omega)), if_neg (show ¬ (10 : Int32) ≤ nI h from nI_ge (b := 10) (by omega) (by omega)), if_neg (show ¬ nI (x.2.1 - fr G h) < 0 from nI_pos (by omega)), if_pos (show nI (x.2.1 - fr G h) < 6 from nI_lt (b := 6) hval (by omega)), hlp, Option.bind_some]
    unfold f_X8_weaveLink_j214
    rw [ob_of hsr, if_pos rfl, ob_of hsc, if_pos rfl, r1, hyh, tg, hS.2.1, show (7 : Int32) = nI 7 from rfl, show (10 : Int32) = nI 10 from rfl, pk_mul, nI_add, pk_mul, nI_add, if_pos (ar_of s_854 (by omega) (by omega)), lt_eq, ix_nI (by omega)]
    repeat rw [if_pos rfl]
  generalize hnw : (fun b' => sy T G act h (x.2.1 - fr G h + 1) (tgt T G x) (em b')) = nw at *
  generalize hvl : x.2.1 - fr G h = vl at *
  generalize htt : tgt T G x = t at *
  have f1 : FI KW m (si m 854 ((h * 7 + vl) * 10 + t) (msk 7 nw)) := FI.si (Or.inl rfl)
  have v1 : gi (si m 854 ((h * 7 + vl) * 10 + t) (msk 7 nw)) 854 ((h * 7 + vl) * 10 + t) = msk 7 nw := gi_si _ _ _ _
  have o1 : ∀ j, j ≠ (h * 7 + vl) * 10 + t → gi (si m 854 ((h * 7 + vl) * 10 + t) (msk 7 nw)) 854 j = gi m 854 j := fun j hj => by simp only [mS]; rw [if_neg (by omega)]
  have o2 : ∀ z j, z ≠ 854 → gi (si m 854 ((h * 7 + vl) * 10 + t) (msk 7 nw)) z j = gi m z j := fun z j hz => by simp only [mS]; rw [if_neg (by omega)]
  generalize si m 854 ((h * 7 + vl) * 10 + t) (msk 7 nw) = m1 at *
  -- the new says
  have hsays : ∀ p b q', p < 10 → b < 7 → q' < 10 → gi m1 854 ((p * 7 + b) * 10 + q') = msk 7 ((fun p b q' => if p = h ∧ b = vl ∧ q' = t then nw else σ p b q') p b q') := by
    intro p b q' hp hb' hq'
    by_cases he : p = h ∧ b = vl ∧ q' = t
    · simp only [if_pos he]
      rw [he.1, he.2.1, he.2.2]
      exact v1
    · simp only [if_neg he]
      rw [o1 _ (by omega)]
      exact hs.1 p b q' hp hb' hq'
  have hth : t < 10 := by omega
  obtain ⟨m', e3, f3, u3⟩ := match_lp (σ := fun p b q' => if p = h ∧ b = vl ∧ q' = t then nw else σ p b q') (by omega : h < 10) (by omega : vl < 7) hth (by omega : q + 145 + c < 853) (by omega : q + 24 + 2 * x.2.1 < 853) hsc hsr 7 0 FUEL m1 (by omega) (by unfold FUEL; omega) (hS.keep f1) ((o2 _ _ (by omega)).trans (r1.trans (by rw [hyh]))) ((o2 _ _ (by omega)).trans tg) (hsays h vl t (by omega) (by omega) hth) (fun o ho => hsays t o h hth ho (by omega))
  refine ⟨m', h, vl, ?_, f1.tr (f3.mono (fun z j e => Or.inr e.1)), hh, by omega, ?_, ?_⟩
  · rw [hb]
    unfold f_X8_weaveLink_j242
    rw [show ((0 : Int32), m1) = (nI 0, m1) from rfl, e3]
    rfl
  · rw [← hvl]
    exact hv_is l1 l2
  · rw [hnw]
    refine ⟨fun p b q' hp hb' hq' => ?_, fun p b q' hp hb' hq' hne => ?_⟩
    · rw [f3.1 _ _ (by omega)]
      exact hsays p b q' hp hb' hq'
    -- allowed
    have old : ∀ p b q', p < 10 → b < 7 → q' < 10 → p ≠ q' → gi m1 855 ((p * 7 + b) * 10 + q') = msk 7 (fun c => σ p b q' c && σ q' c p b) := fun p b q' a1 a2 a3 a4 => (o2 _ _ (by omega)).trans (hs.2 p b q' a1 a2 a3 a4)
    by_cases he : p = h ∧ b = vl ∧ q' = t
    · obtain ⟨rfl, rfl, rfl⟩ := he
      obtain ⟨y1, y2⟩ := u3 hne _ (fun o => fun c => σ q' o p c && σ p c q' o) (old p b q' hp hb' hq' hne) (fun o ho => old q' o p hq' ho hp (fun e => hne e.symm))
      rw [y1]
      refine msk_congr (fun i _ => ?_)
      rw [if_pos (Nat.zero_le _)]
    · by_cases he2 : p = t ∧ q' = h
      · obtain ⟨rfl, rfl⟩ := he2
        obtain ⟨y1, y2⟩ := u3 (fun e => hne e.symm) _ (fun o => fun c => σ p o q' c && σ q' c p o) (old q' vl p hq' (by omega) hp (fun e => hne e.symm)) (fun o ho => old p o q' hp ho hq' hne)
        rw [y2 b hb']
        refine msk_congr (fun i _ => ?_)
        by_cases hi : i = vl
        · subst hi
          rw [if_pos ⟨Nat.zero_le _, rfl⟩, Bool.and_comm]
        · rw [if_neg (fun e => hi e.2)]
          simp only
          rw [if_neg (fun e => hne e.1), if_neg (fun e => hi e.2.1)]
      · have hno : ¬ ((855 : Nat) = 855 ∧ ((p * 7 + b) * 10 + q' = (h * 7 + vl) * 10 + t ∨ ∃ o, o < 7 ∧ (p * 7 + b) * 10 + q' = (t * 7 + o) * 10 + h)) := by
          rintro ⟨_, e | ⟨o, ho, e⟩⟩
          · exact he (by omega)
          · exact he2 (by omega)
        rw [f3.1 _ _ hno, old p b q' hp hb' hq' hne]
        refine msk_congr (fun i hi => ?_)
        simp only
        rw [if_neg he, if_neg (fun e => he2 ⟨e.2.2, e.1⟩)]
