/-! range, of both sides. -/
def InC (m : Mi) : Prop := WFC m ∧ WT m ∧ WR m ∧ OB m ∧ gr m 38 0 = 39 ∧ gr m 40 0 = 41
def Low (x : Nat) : Prop := x < 59
theorem WFC.keepF {m m' : Mi} {P : Nat → Prop} (h : WFC m) (k : Fr P m m') : WFC m' := by
  have n : ∀ x j, ¬ NR x j → gr m' x j = gr m x j := k.2
  obtain ⟨⟨h1, h2, h3, h4, h5, h6, h7, h8, h9, h10⟩, h11⟩ := h
  refine ⟨⟨(n _ _ (by unfold NR; omega)).trans h1, (n _ _ (by unfold NR; omega)).trans h2, (n _ _ (by unfold NR; omega)).trans h3, (n _ _ (by unfold NR; omega)).trans h4, (n _ _ (by unfold NR; omega)).trans h5, (n _ _ (by unfold NR; omega)).trans h6, (n _ _ (by unfold NR; omega)).trans h7, (n _ _ (by unfold NR; omega)).trans h8, (n _ _ (by unfold NR; omega)).trans h9, (n _ _ (by unfold NR; omega)).trans h10⟩, fun z hz => (n _ _ (by unfold NR; omega)).trans (h11 z hz)⟩
theorem OB.keepF {m m' : Mi} {P : Nat → Prop} (h : OB m) (k : Fr P m m') (hp : ∀ x, 55 ≤ x → x ≤ 58 → ¬ P x) : OB m' := by
  obtain ⟨⟨A, hA⟩, B, hB⟩ := h
  exact ⟨⟨A, hA.keepF k (hp _ (by omega) (by omega)) (hp _ (by omega) (by omega)) (by unfold NR; omega)⟩, B, hB.keepF k (hp _ (by omega) (by omega)) (hp _ (by omega) (by omega)) (by unfold NR; omega)⟩
theorem InC.keepF {m m' : Mi} {P : Nat → Prop} (h : InC m) (k : Fr P m m') (ho : OB m') : InC m' := by
  obtain ⟨h1, h2, h3, h4, h5, h6⟩ := h
  exact ⟨h1.keepF k, h2.keepF k, h3.keep k, ho, (k.2 _ _ (by unfold NR; omega)).trans h5, (k.2 _ _ (by unfold NR; omega)).trans h6⟩
theorem KT.F {m m' : Mi} (h : KT m m') : Fr (fun x => 42 ≤ x ∧ x ≤ 47) m m' := ⟨fun x j e => ⟨h.1 x j (fun z => e (by omega)), h.2.1 x j (fun z => e (by omega))⟩, fun x j e => h.2.2 x j (fun z => e (by unfold NR; omega)) (fun z => e (by unfold NR; omega))⟩
theorem Fr.si {P : Nat → Prop} {m : Mi} {a k : Nat} {v : Int32} (h : P a) : Fr P m (si m a k v) := by
  refine ⟨fun x j e => ⟨?_, rfl⟩, fun _ _ _ => rfl⟩
  simp only [mS]
  rw [if_neg (fun z => e (by rw [z.1]; exact h))]
theorem CSl.keepF {m m' : Mi} {P : Nat → Prop} {S : Nat → List Row} (h : CSl m S) (k : Fr P m m') (hp : ∀ x, 4 ≤ x → x ≤ 37 → ¬ P x) : CSl m' S := by
  obtain ⟨h1, J, hJ⟩ := h
  exact ⟨fun q hq => (h1 q hq).keepF k (hp _ (by omega) (by omega)) (hp _ (by omega) (by omega)) (by unfold NR; omega), J, hJ.keepF k (hp _ (by omega) (by omega)) (hp _ (by omega) (by omega)) (by unfold NR; omega)⟩
theorem rgo_congr {P Q : Tok → Row × Row} : ∀ (l : List Tok) (lo hi : Row) (R : List Row), (∀ x ∈ l, x.1 ≠ 9 → P x = Q x) → rgo P l lo hi R = rgo Q l lo hi R := by
  intro l
  induction l with
  | nil => intro lo hi R _; rfl
  | cons x l ih =>
    intro lo hi R h
    rw [rgo, rgo]
    by_cases h9 : x.1 = 9
    · rw [if_pos h9, if_pos h9, ih _ _ _ (fun y hy => h y (List.mem_cons_of_mem _ hy))]
    · rw [if_neg h9, if_neg h9, h x List.mem_cons_self h9, ih _ _ _ (fun y hy => h y (List.mem_cons_of_mem _ hy))]
theorem chk_take : ∀ (l : List Tok) (a p : Nat), ∀ x ∈ l.take (chk l a p).2, isP x.1 = true ∨ x.1 = 9 := by
  intro l
  induction l with
  | nil => intro a p x hx; simp at hx
  | cons y l ih =>
    intro a p x hx
    rw [chk] at hx
    by_cases hP : isP y.1 = true
    · rw [if_pos hP] at hx
      by_cases hc : 6 < p + 1 ∨ 16 < a
      · rw [if_pos hc] at hx
        simp at hx
      · rw [if_neg hc] at hx
        have hx : x ∈ (y :: l).take ((chk l a (p + 1)).2 + 1) := hx
        rw [List.take_succ_cons] at hx
        rcases List.mem_cons.mp hx with h | h
        · rw [h]; exact Or.inl hP
        · exact ih _ _ x h
    · rw [if_neg hP] at hx
      by_cases hc : y.1 = 9 ∧ 0 < p
      · rw [if_pos hc] at hx
        have hx : x ∈ (y :: l).take ((chk l (a + 1) 0).2 + 1) := hx
        rw [List.take_succ_cons] at hx
        rcases List.mem_cons.mp hx with h | h
        · rw [h]; exact Or.inr hc.1
        · exact ih _ _ x h
      · rw [if_neg hc] at hx
        simp at hx
/-- the check of the tokens that it took says the same -/
theorem chk_pre : ∀ (l : List Tok) (a p : Nat), (chk l a p).1 = 0 → chk (l.take (chk l a p).2) a p = (0, (l.take (chk l a p).2).length) := by
  intro l
  induction l with
  | nil =>
    intro a p h
    rw [chk] at h ⊢
    simp only at h
    by_cases h0 : p = 0
    · rw [if_pos h0] at h; cases h
    · rw [if_neg h0]
      show chk [] a p = (0, 0)
      rw [chk, if_neg h0]
  | cons y l ih =>
    intro a p h
    rw [chk] at h
    by_cases hP : isP y.1 = true
    · rw [if_pos hP] at h
      by_cases hc : 6 < p + 1 ∨ 16 < a
      · rw [if_pos hc] at h; cases h
      · rw [if_neg hc] at h
        have h : (chk l a (p + 1)).1 = 0 := h
        have e2 : (chk (y :: l) a p).2 = (chk l a (p + 1)).2 + 1 := by rw [chk, if_pos hP, if_neg hc]
        rw [e2, List.take_succ_cons, chk, if_pos hP, if_neg hc, ih a (p + 1) h]
        rfl
    · rw [if_neg hP] at h
      by_cases hc : y.1 = 9 ∧ 0 < p
      · rw [if_pos hc] at h
        have h : (chk l (a + 1) 0).1 = 0 := h
        have e2 : (chk (y :: l) a p).2 = (chk l (a + 1) 0).2 + 1 := by rw [chk, if_neg hP, if_pos hc]
        rw [e2, List.take_succ_cons, chk, if_neg hP, if_pos hc, ih (a + 1) 0 h]
        rfl
      · rw [if_neg hc] at h
        have e2 : (chk (y :: l) a p).2 = 0 := by rw [chk, if_neg hP, if_neg hc]
        rw [e2, List.take_zero]
        show chk [] a p = (0, 0)
        rw [chk]
        have h : (if p = 0 then 1 else 0) = 0 := h
        by_cases h0 : p = 0
        · rw [if_pos h0] at h; cases h
        · rw [if_neg h0]
/-- what range says and does: the answer, what is left on the tape, the slots -/
def spRange (T : Nat → Nat) (f : Nat) (S : Nat → List Row) (k n : Int32) : Int32 × (Nat × (Nat → List Row)) :=
  if sOk k = true ∧ ¬ (n < 0 ∨ nI f < n) then
    (if (chk (tl T (ix n) 0) 1 0).1 ≠ 0 then (nI ((chk (tl T (ix n) 0) 1 0).1 + 8 * pl0 (ix n) ((tl T (ix n) 0).drop (chk (tl T (ix n) 0) 1 0).2)), (0, S))
    else if (tl T (ix n) 0).drop (chk (tl T (ix n) 0) 1 0).2 ≠ [] then (nI (1 + 8 * pl0 (ix n) ((tl T (ix n) 0).drop (chk (tl T (ix n) 0) 1 0).2)), (0, S))
    else (0, (0, fun j => if j = ix k then rgo (tP T (ix n)) (tl T (ix n) 0) LE EN [] else S j)))
  else (-1, (f, S))
theorem pl0_drop {T : Nat → Nat} {n p : Nat} (j : Nat) : pl0 n ((tl T n p).drop j) ≤ n := by
  unfold pl0
  split
  · exact Nat.le_refl _
  · next x r h =>
    have hm : x ∈ tl T n p := List.mem_of_mem_drop (by rw [h]; exact List.mem_cons_self)
    have := tl_mem (n - p) p (Nat.le_refl _) x hm
    omega
theorem chk_small : ∀ (l : List Tok) (a p : Nat), (chk l a p).1 ≤ 2 := by
  intro l
  induction l with
  | nil => intro a p; rw [chk]; show (if p = 0 then 1 else 0) ≤ 2; split <;> omega
  | cons y l ih =>
    intro a p
    rw [chk]
    split
    · split
      · exact Nat.le_refl _
      · exact ih _ _
    · split
      · exact ih _ _
      · show (if p = 0 then 1 else 0) ≤ 2
        split <;> omega
theorem range_C {m : Mi} {T : Nat → Nat} {f : Nat} {S : Nat → List Row} (hI : InC m) (hS : CSl m S) (hG : GS S) (hT : Tap m 1 2 T f) (k n : Int32) :
    ∃ m', f_X11_range TT m 1 k n = some ((spRange T f S k n).1, m') ∧ InC m' ∧ CSl m' (spRange T f S k n).2.2 ∧ GS (spRange T f S k n).2.2 ∧ Tap m' 1 2 T (spRange T f S k n).2.1 ∧ Fr Low m m' := by
  have hf := hT.2.1
  unfold f_X11_range spRange
  rcases sOk_cases k with ⟨hk, e1, _⟩ | ⟨kk, hkk, rfl, hk, e1, _⟩
  · rw [e1, Option.bind_some, if_pos rfl, if_neg (by rw [hk]; exact fun x => fNt x.1)]
    exact ⟨m, rfl, hI, hS, hG, hT, Fr.rf⟩
  · rw [e1, Option.bind_some, if_neg (by decide)]
    rcases tap_cases n hf with hn | ⟨nn, hnn, rfl⟩
    · rw [onTape_no hT hn, Option.bind_some, if_pos rfl, if_neg (fun x => x.2 hn)]
      exact ⟨m, rfl, hI, hS, hG, hT, Fr.rf⟩
    · rw [onTape_yes hT hnn, Option.bind_some, if_neg (by decide), if_pos ⟨hk, by
        intro x
        rcases x with x | x
        · exact nI_pos (by omega) x
        · exact nI_nlt hnn (by omega) x⟩, ix_nI (by omega), ix_nI (by omega), lt_eq]
      have hI0 := hI
      obtain ⟨⟨⟨w1, w2, w3, w4, w5, w6, w7, w8, w9, w10⟩, w11⟩, hWT, hWR, hOB, h38, h40⟩ := hI
      -- the tape is empty from here on
      have f1 : Fr (fun x => x = 1) m (si m 1 1 0) := Fr.si rfl
      have hT1 : Tx (si m 1 1 0) 2 nn T := fun j hj => ⟨by simp only [mS]; rw [if_neg (by omega)]; exact (hT.2.2 j (by omega)).1, (hT.2.2 j (by omega)).2⟩
      obtain ⟨m2, e2, l2, t2, k2, wt2⟩ := scan_spec (m := si m 1 1 0) (c := 2) (a := 0) (e := nn) (T := T) (hWT.keepF f1) (by omega) (by omega) s_2 (by omega) (by omega) hT1
      have f2 := k2.F
      have h100 : ∀ x ∈ tl T nn 0, x.1 < 100 := fun x hx => by have := (tl_kind hx).2; omega
      have e3 := check_spec (m := m2) (s := 0) h100 (by omega) wt2 l2
      rw [List.drop_zero, Nat.zero_add] at e3
      have htR : ∀ x ∈ tl T nn 0, isP x.1 = true → tokR T nn x ∧ tP T nn x = cP T x := fun x hx hp => ⟨(tl_tokR hx hp).1, (tl_tokR hx hp).2.1⟩
      have hpos : ∀ x ∈ tl T nn 0, 0 < x.1 := fun x hx => (tl_kind hx).1
      have hpl : ∀ j, pl0 nn ((tl T nn 0).drop j) ≤ nn := fun j => pl0_drop j
      generalize tl T nn 0 = L at *
      have hz2 := chk_le L 1 0
      have hzs := chk_small L 1 0
      have hL2 := l2.2.1
      -- behind the check
      have t3 : TS (si m2 48 7 (nI (chk L 1 0).2)) 2 nn T := by
        obtain ⟨q1, q2, q3, q4, q5, q6, q7⟩ := t2
        refine ⟨q1, q2, q3, q4, q5, ?_, fun j hj => ⟨?_, (q7 j hj).2⟩⟩
        · simp only [mS]; rw [if_neg (by omega)]; exact q6
        · simp only [mS]; rw [if_neg (by omega)]; exact (q7 j hj).1
      have g7 : gi (si m2 48 7 (nI (chk L 1 0).2)) 48 7 = nI (chk L 1 0).2 := gi_si _ _ _ _
      have f3 : Fr (fun x => x = 48) m2 (si m2 48 7 (nI (chk L 1 0).2)) := Fr.si rfl
      generalize hm3 : si m2 48 7 (nI (chk L 1 0).2) = m3 at e3 t3 g7 f3
      have fm3 : Fr (fun x => x = 1 ∨ (42 ≤ x ∧ x ≤ 48)) m m3 := ((f1.mono (fun x h => Or.inl h)).tr (f2.mono (fun x h => Or.inr (by omega)))).tr (f3.mono (fun x h => Or.inr (by omega)))
      have hWT3 := wt2.keepF f3
      have hL3 : TLs m3 L := l2.keep (fun x j a b => (f3.1 x j (by omega)).1)
      have hWR3 : WR m3 := hWR.keep fm3
      have hOB3 : OB m3 := hOB.keepF fm3 (fun x a b => by omega)
      have hS3 : CSl m3 S := hS.keepF fm3 (fun x a b => by omega)
      have hI3 : InC m3 := hI0.keepF fm3 hOB3
      have tap3 : Tap m3 1 2 T 0 := by
        refine ⟨?_, by omega, fun j hj => by omega⟩
        rw [(f3.1 _ _ (by omega)).1, (f2.1 _ _ (by omega)).1]
        exact gi_si _ _ _ _
      have g3 : ∀ x j, ¬ NR x j → gr m3 x j = gr m x j := fm3.2
      have flow : Fr Low m m3 := fm3.mono (fun x h => by unfold Low; omega)
      have g2 : ∀ x j, ¬ NR x j → gr m2 x j = gr m x j := fun x j hx => (f2.2 x j hx).trans (f1.2 x j hx)
      rw [show gr (si m 1 1 0) 1 6 = 42 from w6, ob_of s_42, if_pos rfl, show gr (si m 1 1 0) 1 0 = 2 from w1, show f_X9_scan TT (si m 1 1 0) 42 2 0 (nI nn) = _ from e2, Option.bind_some, g2 1 7 (by unfold NR; omega), w7, ob_of s_48, if_pos rfl, g2 1 6 (by unfold NR; omega), w6, show f_X5_check TT m2 48 42 0 = _ from e3, bd_some, g3 1 7 (by unfold NR; omega), w7, ob_of s_48, if_pos rfl]
      unfold f_X5_stop
      rw [Option.bind_some, g7, g3 1 6 (by unfold NR; omega), w6, ob_of s_42, if_pos rfl]
      -- the two ends
      have bad : ∀ c, 0 < c → c ≤ 2 → f_X11_range_j75 TT m3 1 (nI kk) (nI c) (nI (chk L 1 0).2) = some (nI (c + 8 * pl0 nn (L.drop (chk L 1 0).2)), m3) := by
        intro c hc0 hc2
        have hp2 := hpl (chk L 1 0).2
        unfold f_X11_range_j75
        rw [if_neg (nI_ne0 hc0 (by omega)), g3 1 6 (by unfold NR; omega), w6, ob_of s_42, if_pos rfl, placeAt_spec hWT3 t3.2.2.2.2.2.1 hL3 (by omega), Option.bind_some, show (8 : Int32) = nI 8 from rfl, pk_mul, nI_add]
      by_cases hz0 : (chk L 1 0).1 = 0
      · rw [if_pos (show nI (chk L 1 0).1 = 0 by rw [hz0]; rfl), if_neg (show ¬ (chk L 1 0).1 ≠ 0 from fun e => e hz0), kindAt_spec hWT3 hL3 (by omega), Option.bind_some]
        by_cases hre : L.drop (chk L 1 0).2 = []
        · have hzl := drop_nil hre
          rw [if_neg (show ¬ L.drop (chk L 1 0).2 ≠ [] from fun e => e hre), if_pos (show nI (kd0 (L.drop (chk L 1 0).2)) = 0 by rw [hre]; rfl), hz0]
          have hchk : chk L 1 0 = (0, L.length) := Prod.ext hz0 (by show (chk L 1 0).2 = L.length; omega)
          have hall : ∀ x ∈ L, isP x.1 = true ∨ x.1 = 9 := by
            intro x hx
            have := chk_take L 1 0 x
            rw [List.take_of_length_le hzl] at this
            exact this hx
          have htk : ∀ x ∈ L, tokR T nn x := by
            intro x hx
            rcases hall x hx with h | h
            · exact (htR x hx h).1
            · exact Or.inl h
          obtain ⟨m4, e4, r4, b4, wr4, ob4, f4⟩ := takeC (m := m3) (c := 2) (r := 4 + 2 * kk) (cap := 256) (e := nn) (T := T) (l := L) (by omega) (by omega) (by omega) (by omega) (by omega) (by omega) s_2 (by omega) htk hchk hWR3 hOB3 hWT3 hL3 t3.2.2.2.2.2.2 (hS3.1 kk hkk)
          have hcg : rgo (cP T) L LE EN [] = rgo (tP T nn) L LE EN [] := rgo_congr L LE EN [] (fun x hx h9 => (htR x hx ((hall x hx).resolve_right h9)).2.symm)
          rw [hcg] at r4 b4
          unfold f_X11_range_j75
          rw [if_pos (show nI 0 = 0 from rfl), g3 1 2 (by unfold NR; omega), w2, if_pos (ar_of s_3 hkk (by omega)), g3 1 7 (by unfold NR; omega), w7, ob_of s_48, if_pos rfl, g3 1 0 (by unfold NR; omega), w1, g3 1 6 (by unfold NR; omega), w6, ix_nI (by omega), g3 3 kk (by unfold NR; omega), w11 kk hkk, e4, Option.bind_some]
          have f4L : Fr Low m3 m4 := f4.mono (fun x h => by unfold FT at h; unfold Low; omega)
          refine ⟨m4, rfl, hI3.keepF f4 ob4, ⟨fun j hj => ?_, ?_⟩, fun j hj => ?_, ?_, flow.tr f4L⟩
          · show RG TT m4 (4 + 2 * j) 256 (if j = kk then rgo (tP T nn) L LE EN [] else S j)
            by_cases hjk : j = kk
            · rw [if_pos hjk, hjk]; exact r4
            · rw [if_neg hjk]
              exact (hS3.1 j hj).keepF f4 (by unfold FT; omega) (by unfold FT; omega) (by unfold NR; omega)
          · obtain ⟨J, hJ⟩ := hS3.2
            exact ⟨J, hJ.keepF f4 (by unfold FT; omega) (by unfold FT; omega) (by unfold NR; omega)⟩
          · show GB (if j = kk then rgo (tP T nn) L LE EN [] else S j)
            by_cases hjk : j = kk
            · rw [if_pos hjk]; exact b4
            · rw [if_neg hjk]; exact hG j hj
          · show Tap m4 1 2 T 0
            refine ⟨?_, by omega, fun j hj => by omega⟩
            rw [(f4.1 _ _ (by unfold FT; omega)).1]
            exact tap3.1
        · rw [if_pos (show L.drop (chk L 1 0).2 ≠ [] from hre)]
          obtain ⟨x, r, hxr⟩ := List.exists_cons_of_ne_nil hre
          have hx := (drop_cons hxr).1
          have hxm := List.mem_of_getElem? hx
          have hx0 := hpos x hxm
          have hx1 := h100 x hxm
          rw [if_neg (show ¬ nI (kd0 (L.drop (chk L 1 0).2)) = 0 by rw [hxr]; exact nI_ne0 hx0 (by show x.1 < _; omega)), show (1 : Int32) = nI 1 from rfl, bad 1 (by omega) (by omega)]
          exact ⟨m3, rfl, hI3, hS3, hG, tap3, flow⟩
      · rw [if_pos (show (chk L 1 0).1 ≠ 0 from hz0), if_neg (show ¬ nI (chk L 1 0).1 = 0 from nI_ne0 (by omega) (by omega)), bad _ (by omega) (by omega)]
        exact ⟨m3, rfl, hI3, hS3, hG, tap3, flow⟩
