/-! The slots: combine and inside, class and reference. -/
/-- the class's own references that never change -/
def WFC (m : Mi) : Prop := (gr m 1 0 = 2 ∧ gr m 1 2 = 3 ∧ gr m 1 3 = 36 ∧ gr m 1 4 = 38 ∧ gr m 1 5 = 40 ∧ gr m 1 6 = 42 ∧ gr m 1 7 = 48 ∧ gr m 1 10 = 853 ∧ gr m 1 11 = 860 ∧ gr m 1 12 = 864) ∧ ∀ k, k < 16 → gr m 3 k = 4 + 2 * k
/-- the class's slots hold S -/
def CSl (m : Mi) (S : Nat → List Row) : Prop := (∀ k, k < 16 → RG TT m (4 + 2 * k) 256 (S k)) ∧ ∃ J, RG TT m 36 512 J
/-- the reference's slots hold S -/
def MSl (m : Mi) (S : Nat → List Row) : Prop := ∀ k, k < 16 → MG m (250 + k) (S k)
def GS (S : Nat → List Row) : Prop := ∀ k, k < 16 → GB (S k)
def sOk (x : Int32) : Bool := !decide (x < 0) && !decide (16 ≤ x)
def spComb (S : Nat → List Row) (h a b c : Int32) : Int32 × (Nat → List Row) :=
  if (sOk a && (sOk b && (sOk c && (!decide (h < 0) && decide (h ≤ 2))))) = true then (if (jo (ix h) (S (ix a)) (S (ix b))).length ≤ 32 then (nI ((jo (ix h) (S (ix a)) (S (ix b))).length / 2), fun k => if k = ix c then jo (ix h) (S (ix a)) (S (ix b)) else S k) else (-1, S)) else (-1, S)
def spIns (S : Nat → List Row) (a b : Int32) : Int32 := if (sOk a && sOk b) = true then (if (jo 2 (S (ix a)) (S (ix b))).length = 0 then 1 else 0) else -1
theorem sOk_cases (x : Int32) : (sOk x = false ∧ f_X11_isSlot x = some 0 ∧ f_X12_isSlot x = some 0) ∨ ∃ k, k < 16 ∧ x = nI k ∧ sOk x = true ∧ f_X11_isSlot x = some 1 ∧ f_X12_isSlot x = some 1 := by
  unfold f_X11_isSlot f_X12_isSlot sOk
  rcases pk_ix x (n := 16) (by omega) with h | h | ⟨k, hk, rfl⟩
  · left
    rw [if_pos h]
    simp [h]
  · left
    have h : (16 : Int32) ≤ x := h
    have h0 : ¬ x < 0 := fun e => absurd (Int32.lt_of_lt_of_le e (by decide : (0 : Int32) ≤ 16)) (Int32.not_lt.mpr h)
    rw [if_neg h0, if_pos h]
    simp [h]
  · right
    have h0 : ¬ nI k < 0 := nI_pos (by omega)
    have h1 : ¬ (16 : Int32) ≤ nI k := by rw [show (16 : Int32) = nI 16 from rfl]; exact nI_ge hk (by omega)
    refine ⟨k, hk, rfl, by simp [h0, h1], ?_, ?_⟩
    · rw [if_neg h0, if_neg h1]
    · rw [if_neg h0, if_neg h1]
/-- only the slots and the joined range have changed -/
def KpS (m m' : Mi) : Prop := (∀ x j, ¬ (4 ≤ x ∧ x ≤ 37) → gl m' x j = gl m x j ∧ gi m' x j = gi m x j) ∧ ∀ x j, gr m' x j = gr m x j
theorem KpS.rf {m : Mi} : KpS m m := ⟨fun _ _ _ => ⟨rfl, rfl⟩, fun _ _ => rfl⟩
theorem KpS.tr {m m1 m2 : Mi} (h : KpS m m1) (h2 : KpS m1 m2) : KpS m m2 := ⟨fun x j a => ⟨(h2.1 x j a).1.trans (h.1 x j a).1, (h2.1 x j a).2.trans (h.1 x j a).2⟩, fun x j => (h2.2 x j).trans (h.2 x j)⟩
theorem KpR.S {r : Nat} {m m' : Mi} (h : KpR r m m') (h1 : 4 ≤ r) (h2 : r ≤ 36) : KpS m m' := ⟨fun x j a => ⟨h.1 x j (by omega), h.2.1 x j (by omega)⟩, h.2.2⟩
theorem WFC.keep {m m' : Mi} (h : WFC m) (k : ∀ x j, gr m' x j = gr m x j) : WFC m' := by
  unfold WFC at h ⊢
  simp only [k]
  exact h
theorem stretches_spec {t : List Sh} {m : Mi} {r cap : Nat} {B : List Row} (h : RG t m r cap B) : f_X4_stretches t m r = some (nI (B.length / 2)) := by
  unfold f_X4_stretches
  have := h.2.2.2.2.1
  have := h.2.2.2.2.2.2.1
  rw [h.2.2.2.1, show (2 : Int32) = nI 2 from rfl, pk_div (by omega) (by omega) (by omega)]
theorem jo_le {how : Nat} {A B : List Row} (hA : GB A) (hB : GB B) : (jo how A B).length ≤ 64 := by
  have := jn_len how (A.length + B.length) A B false false false
  have h2 := hA.2.2.1
  have h3 := hB.2.2.1
  show (jn how (A.length + B.length) A B false false false).length ≤ 64
  omega
theorem combine_C {m : Mi} {S : Nat → List Row} (hW : WFC m) (hS : CSl m S) (hG : GS S) (h a b c : Int32) : ∃ m', f_X11_combine TT m 1 h a b c = some ((spComb S h a b c).1, m') ∧ CSl m' (spComb S h a b c).2 ∧ KpS m m' := by
  unfold f_X11_combine spComb
  rcases sOk_cases a with ⟨a1, a2, -⟩ | ⟨ka, ha, rfl, a1, a2, -⟩
  · rw [a1, a2]
    exact ⟨m, rfl, hS, KpS.rf⟩
  rcases sOk_cases b with ⟨b1, b2, -⟩ | ⟨kb, hb, rfl, b1, b2, -⟩
  · rw [a1, a2, b1, b2]
    exact ⟨m, rfl, hS, KpS.rf⟩
  rcases sOk_cases c with ⟨c1, c2, -⟩ | ⟨kc, hc, rfl, c1, c2, -⟩
  · rw [a1, a2, b1, b2, c1, c2]
    exact ⟨m, rfl, hS, KpS.rf⟩
  rw [a1, a2, b1, b2, c1, c2]
  simp only [Option.bind_some, Bool.true_and]
  rw [if_neg (by decide), if_neg (by decide), if_neg (by decide)]
  by_cases h0 : h < 0
  · rw [if_pos h0]
    simp only [decide_eq_true h0, Bool.not_true, Bool.false_and, Bool.false_eq_true, if_false]
    exact ⟨m, rfl, hS, KpS.rf⟩
  by_cases h2 : h ≤ 2
  · obtain ⟨kh, hkh, rfl⟩ : ∃ k, k ≤ 2 ∧ h = nI k := nI_of2 (M := 2) (n := 2) rfl h0 h2
    have r2 := hW.1.2.1
    have r3 := hW.1.2.2.1
    obtain ⟨J, hJ⟩ := hS.2
    have gA := hG ka ha
    have gB := hG kb hb
    obtain ⟨m1, e1, g1, k1⟩ := setJoin_spec (how := kh) (by omega) hJ (hS.1 ka ha) (hS.1 kb hb) (by omega) (by omega) (by have := gA.2.2.1; have := gB.2.2.1; omega)
    have g1 : RG TT m1 36 512 (jo kh (S ka) (S kb)) := g1
    rw [if_neg h0, if_pos h2, r2, if_pos (ar_of s_3 ha (by omega)), if_pos (ar_of s_3 hb (by omega)), r3, if_pos (ob_of s_36), ix_nI (by omega), ix_nI (by omega), hW.2 ka ha, hW.2 kb hb, e1, Option.bind_some]
    simp only [k1.2.2, r2, r3]
    rw [if_pos (ob_of s_36), stretches_spec g1, Option.bind_some]
    simp only [decide_eq_false h0, decide_eq_true h2, Bool.not_false, Bool.true_and, if_true, ix_nI (show kh < 2 ^ 31 by omega), ix_nI (show ka < 2 ^ 31 by omega), ix_nI (show kb < 2 ^ 31 by omega), ix_nI (show kc < 2 ^ 31 by omega)]
    have hev := jo_even (how := kh) gA gB
    have hle := jo_le (how := kh) gA gB
    have hdiv : (jo kh (S ka) (S kb)).length = 2 * ((jo kh (S ka) (S kb)).length / 2) := by
      unfold od at hev
      have : ¬ (jo kh (S ka) (S kb)).length % 2 = 1 := by simpa using hev
      omega
    by_cases hl : (jo kh (S ka) (S kb)).length ≤ 32
    · rw [if_pos hl, if_pos (by rw [show (16 : Int32) = nI 16 from rfl]; exact nI_le (by omega) (by omega)), if_pos (ar_of s_3 hc (by omega)), hW.2 kc hc, if_pos (ob_of (sT_slot kc hc).1)]
      obtain ⟨m2, e2, g2, k2⟩ := setTo_spec ((hS.1 kc hc).keep k1 (by omega)) g1 (by omega) (by omega) (by omega) (by omega)
      rw [e2, Option.bind_some]
      simp only [k2.2.2, k1.2.2, r3]
      rw [if_pos (ob_of s_36), stretches_spec (g1.keep k2 (by omega)), Option.bind_some]
      refine ⟨m2, rfl, ⟨fun k hk => ?_, ⟨_, g1.keep k2 (by omega)⟩⟩, (k1.S (by omega) (by omega)).tr (k2.S (by omega) (by omega))⟩
      show RG TT m2 (4 + 2 * k) 256 (if k = kc then _ else S k)
      by_cases hkc : k = kc
      · rw [if_pos hkc, hkc]; exact g2
      · rw [if_neg hkc]; exact ((hS.1 k hk).keep k1 (by omega)).keep k2 (by omega)
    · rw [if_neg hl, if_neg (by rw [show (16 : Int32) = nI 16 from rfl]; exact nI_ge (by omega) (by omega))]
      exact ⟨m1, rfl, ⟨fun k hk => (hS.1 k hk).keep k1 (by omega), ⟨_, g1⟩⟩, k1.S (by omega) (by omega)⟩
  · rw [if_neg h0, if_neg h2]
    simp only [decide_eq_false h2, Bool.and_false, Bool.false_eq_true, if_false]
    exact ⟨m, rfl, hS, KpS.rf⟩
theorem inside_C {m : Mi} {S : Nat → List Row} (hW : WFC m) (hS : CSl m S) (hG : GS S) (a b : Int32) : ∃ m', f_X11_inside TT m 1 a b = some (spIns S a b, m') ∧ CSl m' S ∧ KpS m m' := by
  unfold f_X11_inside spIns
  rcases sOk_cases a with ⟨a1, a2, -⟩ | ⟨ka, ha, rfl, a1, a2, -⟩
  · rw [a1, a2]
    exact ⟨m, rfl, hS, KpS.rf⟩
  rcases sOk_cases b with ⟨b1, b2, -⟩ | ⟨kb, hb, rfl, b1, b2, -⟩
  · rw [a1, a2, b1, b2]
    exact ⟨m, rfl, hS, KpS.rf⟩
  rw [a1, a2, b1, b2]
  simp only [Option.bind_some, Bool.true_and, if_true]
  rw [if_neg (by decide), if_neg (by decide)]
  have r2 := hW.1.2.1
  have r3 := hW.1.2.2.1
  obtain ⟨J, hJ⟩ := hS.2
  have gA := hG ka ha
  have gB := hG kb hb
  obtain ⟨m1, e1, g1, k1⟩ := setJoin_spec (how := 2) (by omega) hJ (hS.1 ka ha) (hS.1 kb hb) (by omega) (by omega) (by have := gA.2.2.1; have := gB.2.2.1; omega)
  have g1 : RG TT m1 36 512 (jo 2 (S ka) (S kb)) := g1
  have e1 : f_X4_setJoin TT m 36 2 (4 + 2 * ka) (4 + 2 * kb) = some m1 := e1
  rw [r2, if_pos (ar_of s_3 ha (by omega)), if_pos (ar_of s_3 hb (by omega)), r3, if_pos (ob_of s_36), ix_nI (by omega), ix_nI (by omega), hW.2 ka ha, hW.2 kb hb, e1, Option.bind_some]
  simp only [k1.2.2, r3]
  rw [if_pos (ob_of s_36), stretches_spec g1, Option.bind_some]
  have hev := jo_even (how := 2) gA gB
  have hle := jo_le (how := 2) gA gB
  refine ⟨m1, ?_, ⟨fun k hk => (hS.1 k hk).keep k1 (by omega), ⟨_, g1⟩⟩, k1.S (by omega) (by omega)⟩
  by_cases hz : (jo 2 (S ka) (S kb)).length = 0
  · rw [if_pos (by rw [hz]; rfl), if_pos hz]
  · have hev2 : ¬ (jo 2 (S ka) (S kb)).length % 2 = 1 := by
      unfold od at hev
      simpa using hev
    have hpos : 0 < (jo 2 (S ka) (S kb)).length / 2 := by omega
    rw [if_neg (nI_ne0 hpos (by omega)), if_neg hz]
