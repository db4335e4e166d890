/-! read of the class. -/
def EO (L : List Tok) (r : RgS) : Prop := match r with
  | .inl e => 0 < e.1 ∧ e.1 ≤ 3 ∧ Sfx L e.2
  | .inr w => Sfx L w.1
theorem EO_bn {L : List Tok} {r : RgS} {f : List Tok → Rg → RgS} (h : EO L r) (hf : ∀ l G, Sfx L l → EO L (f l G)) : EO L (bnR r f) := by
  cases r with
  | inl e => exact h
  | inr w =>
    obtain ⟨l, G⟩ := w
    exact hf l G h
theorem EO_exp {L l : List Tok} {k : Nat} {f : List Tok → RgS} (hs : Sfx L l) (hf : EO L (f l.tail)) : EO L (pExp k l f) := by
  unfold pExp
  split
  · exact hf
  · exact ⟨by omega, by omega, hs⟩
theorem pCon_EO {L l : List Tok} {k : Nat} {G : Rg} (hs : Sfx L l) : EO L (pCon k l G) := by
  unfold pCon
  split
  · split
    · exact hs.tail.drop _
    · rename_i h
      exact ⟨by omega, by have := chk_small l.tail 1 0; omega, hs.tail.drop _⟩
  · exact ⟨by omega, by omega, hs⟩
theorem pLinks_EO {L : List Tok} : ∀ (d : Nat) (l : List Tok) (G : Rg), Sfx L l → EO L (pLinks d l G) := by
  intro d
  induction d with
  | zero =>
    intro l G hs
    rw [pLinks]
    split
    · exact ⟨by omega, by omega, hs⟩
    · exact hs
  | succ d ih =>
    intro l G hs
    rw [pLinks]
    split
    · exact EO_bn (pCon_EO hs.tail) (fun l' G' h => ih l' G' h)
    · exact hs
theorem pRels_EO {L : List Tok} {T : Nat → Nat} : ∀ (d : Nat) (l : List Tok) (G : Rg), Sfx L l → EO L (pRels T d l G) := by
  intro d
  induction d with
  | zero =>
    intro l G hs
    rw [pRels]
    split
    · exact ⟨by omega, by omega, hs⟩
    · exact hs
  | succ d ih =>
    intro l G hs
    rw [pRels]
    split
    · split
      · exact ⟨by omega, by omega, hs⟩
      · exact EO_bn (pLinks_EO 4 _ _ hs.tail) (fun l' G' h => EO_exp h (ih _ _ h.tail))
    · exact hs
theorem pPacks_EO {L : List Tok} {T : Nat → Nat} : ∀ (d : Nat) (l : List Tok) (G : Rg), Sfx L l → EO L (pPacks T d l G) := by
  intro d
  induction d with
  | zero =>
    intro l G hs
    rw [pPacks]
    split
    · exact ⟨by omega, by omega, hs⟩
    · exact hs
  | succ d ih =>
    intro l G hs
    rw [pPacks]
    split
    · split
      · split
        · exact ⟨by omega, by omega, hs.tail⟩
        · exact EO_exp hs.tail.tail (EO_bn (pRels_EO 6 _ _ hs.tail.tail.tail) (fun l' G' h => EO_exp h (ih _ _ h.tail)))
      · exact ⟨by omega, by omega, hs.tail⟩
    · exact hs
theorem pWants_EO {L : List Tok} : ∀ (d : Nat) (l : List Tok) (G : Rg), Sfx L l → EO L (pWants d l G) := by
  intro d
  induction d with
  | zero =>
    intro l G hs
    rw [pWants]
    split
    · exact ⟨by omega, by omega, hs⟩
    · exact hs
  | succ d ih =>
    intro l G hs
    rw [pWants]
    split
    · exact EO_bn (pCon_EO hs.tail) (fun l' G' h => EO_exp h (ih _ _ h.tail))
    · exact hs
theorem pAll_EO {T : Nat → Nat} (L : List Tok) : EO L (pAll T L) := by
  unfold pAll
  refine EO_bn (pPacks_EO 10 _ _ ⟨0, rfl⟩) (fun l G h => EO_bn (pWants_EO 10 _ _ h) (fun l' G' h' => ?_))
  split
  · exact h'
  · exact ⟨by omega, by omega, h'⟩
/-- the registry that a text makes, if it is one -/
def nwR (T : Nat → Nat) (n : Nat) : Option Rg := match pAll T (tl T n 0) with
  | .inl _ => none
  | .inr (_, G) => if (unk T G).isNone = true then some G else none
theorem nwR_cases (T : Nat → Nat) {n : Nat} (hn : n ≤ 2000) : (∃ l G, pAll T (tl T n 0) = .inr (l, G) ∧ unk T G = none ∧ rdA T n = 0 ∧ nwR T n = some G) ∨ (rdA T n ≠ 0 ∧ rdA T n < 2 ^ 31 ∧ nwR T n = none) := by
  have he := pAll_EO (T := T) (tl T n 0)
  cases hp : pAll T (tl T n 0) with
  | inl e =>
    rw [hp] at he
    obtain ⟨h1, h2, i, h3⟩ := he
    have hpl := pl0_drop (T := T) (n := n) (p := 0) i
    rw [h3] at hpl
    refine Or.inr ⟨?_, ?_, ?_⟩
    · unfold rdA; rw [hp]; show e.1 + 8 * pl0 n e.2 ≠ 0; omega
    · unfold rdA; rw [hp]; show e.1 + 8 * pl0 n e.2 < _; omega
    · unfold nwR; rw [hp]
  | inr w =>
    obtain ⟨l, G⟩ := w
    cases hu : unk T G with
    | none =>
      refine Or.inl ⟨l, G, rfl, hu, ?_, ?_⟩
      · unfold rdA; rw [hp]; show (match unk T G with | some x => 4 + 8 * x.2.2.1.1 | none => 0) = 0; rw [hu]
      · unfold nwR; rw [hp]; show (if (unk T G).isNone = true then some G else none) = _; rw [hu]; rfl
    | some x =>
      have hxm : x ∈ G.2.2 := List.mem_of_find?_eq_some hu
      obtain ⟨g1, g2, g3, g4⟩ := (pAll_W hp).1.2.2.2.1 x hxm
      have e : rdA T n = 4 + 8 * x.2.2.1.1 := by unfold rdA; rw [hp]; show (match unk T G with | some x => 4 + 8 * x.2.2.1.1 | none => 0) = _; rw [hu]
      refine Or.inr ⟨by omega, by omega, ?_⟩
      unfold nwR; rw [hp]; show (if (unk T G).isNone = true then some G else none) = _; rw [hu]; rfl
/-- what read says and does -/
def spRead (T : Nat → Nat) (f : Nat) (n : Int32) : Int32 × (Nat × Option Rg) := if n < 0 ∨ nI f < n then (-1, (f, none)) else (nI (rdA T (ix n)), (0, nwR T (ix n)))
/-- the class's registry, and its draft -/
def CRg (m : Mi) (T : Nat → Nat) (n : Nat) (G : Rg) : Prop := ∃ q q', ((q = 59 ∧ q' = 456) ∨ (q = 456 ∧ q' = 59)) ∧ gr m 1 8 = q ∧ gr m 1 9 = q' ∧ CG q m T n G ∧ WQ q' m
theorem CRg.keepF {m m' : Mi} {P : Nat → Prop} {T : Nat → Nat} {n : Nat} {G : Rg} (h : CRg m T n G) (hB : BGd G) (k : Fr P m m') (hp : ∀ x, 59 ≤ x → x ≤ 852 → ¬ P x) : CRg m' T n G := by
  obtain ⟨q, q', hqq, h1, h2, h3, h4⟩ := h
  have hq : QS q := by rcases hqq with e | e <;> rw [e.1]; exact qs59; exact qs456
  have hq' : QS q' := by rcases hqq with e | e <;> rw [e.2]; exact qs456; exact qs59
  exact ⟨q, q', hqq, (k.2 _ _ (by unfold NR; omega)).trans h1, (k.2 _ _ (by unfold NR; omega)).trans h2, h3.keepF hq hB k (fun x a b => hp x (by omega) (by omega)), h4.keep k hq'⟩
theorem fits_bT : ∀ c, c < 256 → fits .byte (.int (bT c)) = true := by decide +kernel
theorem setText_C {q k f : Nat} {m : Mi} {T : Nat → Nat} (hq : QS q) (h0 : gr m q 0 = q + 1) (hT : Tx m 2 f T) (hk : k ≤ f) (hf : f ≤ 2000) : ∃ m', f_X6_setText TT m q 2 (nI k) = some m' ∧ Tx m' (q + 1) k T ∧ Fr (fun x => x = q + 1) m m' := by
  have hq1 := hq.1
  unfold f_X6_setText
  have hfit : fitB m 2 (ix 0) (ix (nI k)) = true := by
    unfold fitB
    rw [List.all_eq_true]
    intro i hi
    rw [ix_nI (by omega)] at hi
    have hi := List.mem_range.mp hi
    have := hT i (by omega)
    rw [show ix 0 + i = i from Nat.zero_add i, this.1]
    exact fits_bT _ this.2
  rw [if_neg (nI_pos (by omega)), h0, aa_of hq.2.2.1, if_pos rfl, ln_of hq.2.2.1, ofNat_nI, if_neg (nI_nlt (by omega) (by omega)), aa_of s_2, if_pos rfl, ln_of s_2, ofNat_nI, if_neg (nI_nlt (by omega) (by omega)), if_pos (show inS TT 2 .byte 0 (nI k) = true from inS_of (p := 0) s_2 (by omega) (by omega)), if_pos (show inS TT (q + 1) .byte 0 (nI k) = true from inS_of (p := 0) hq.2.2.1 (by omega) (by omega)), if_pos hfit, lt_eq, ix_nI (by omega), cpi_blk]
  refine ⟨_, rfl, fun j hj => ⟨?_, (hT j (by omega)).2⟩, fun x j e => ⟨?_, rfl⟩, fun _ _ _ => rfl⟩
  · simp only [mS]
    rw [if_pos ⟨trivial, Nat.zero_le _, by show j < 0 + k; omega⟩, show ix 0 + (j - ix 0) = j from by show 0 + (j - 0) = j; omega]
    exact (hT j (by omega)).1
  · simp only [mS]
    rw [if_neg (fun z => e z.1)]
/-- the class's cells behind the registries: which of them read may change -/
def RdE (o : Option Rg) (m m' : Mi) : Prop := (∀ x j, 853 ≤ x → (o = none ∨ x ≠ 860) → gi m' x j = gi m x j) ∧ (∀ x j, 853 ≤ x → gl m' x j = gl m x j ∧ gr m' x j = gr m x j)
theorem read_C {m : Mi} {T Tr : Nat → Nat} {f n0 : Nat} {S : Nat → List Row} {Gr : Rg} (hI : InC m) (hS : CSl m S) (hT : Tap m 1 2 T f) (hR : CRg m Tr n0 Gr) (hO : RO Tr n0 Gr) (n : Int32) :
    ∃ m', f_X11_read TT m 1 n = some ((spRead T f n).1, m') ∧ InC m' ∧ CSl m' S ∧ Tap m' 1 2 T (spRead T f n).2.1 ∧ RdE (spRead T f n).2.2 m m' ∧
      (match (spRead T f n).2.2 with
        | none => CRg m' Tr n0 Gr
        | some G => CRg m' T (ix n) G ∧ RO T (ix n) G ∧ gi m' 860 0 = 0 ∧ gi m' 860 1 = 0 ∧ gi m' 860 4 = 0 ∧ ∀ j, j ≠ 0 → j ≠ 1 → j ≠ 4 → gi m' 860 j = gi m 860 j) := by
  have hf : f ≤ 2000 := hT.2.1
  rcases tap_cases n hf with hno | ⟨k, hk, rfl⟩
  · have hs : spRead T f n = (-1, (f, none)) := by unfold spRead; rw [if_pos hno]
    rw [hs]
    unfold f_X11_read
    rw [onTape_no hT hno, Option.bind_some, if_pos rfl]
    exact ⟨m, rfl, hI, hS, hT, ⟨fun _ _ _ _ => rfl, fun _ _ _ => ⟨rfl, rfl⟩⟩, hR⟩
  · have hs : spRead T f (nI k) = (nI (rdA T k), (0, nwR T k)) := by
      unfold spRead
      rw [if_neg (by
        rintro (h | h)
        · exact absurd h (nI_pos (by omega))
        · exact absurd h (nI_nlt hk (by omega))), ix_nI (by omega)]
    rw [hs, ix_nI (by omega)]
    obtain ⟨q, q', hqq, r8, r9, hcg, hwq⟩ := hR
    have hq : QS q := by rcases hqq with e | e <;> rw [e.1]; exact qs59; exact qs456
    have hq' : QS q' := by rcases hqq with e | e <;> rw [e.2]; exact qs456; exact qs59
    have hB := hO.2.1
    obtain ⟨⟨⟨w1, w2, w3, w4, w5, w6, w7, w8, w9, w10⟩, w11⟩, hWT, hWR, hOB, hI4⟩ := hI
    have hI0 : InC m := ⟨⟨⟨w1, w2, w3, w4, w5, w6, w7, w8, w9, w10⟩, w11⟩, hWT, hWR, hOB, hI4⟩
    -- the tape is empty now
    have f1 : Fr (fun x => x = 1) m (si m 1 1 0) := Fr.si rfl
    have hT1 : Tx (si m 1 1 0) 2 f T := fun j hj => ⟨by simp only [mS]; rw [if_neg (by omega)]; exact (hT.2.2 j hj).1, (hT.2.2 j hj).2⟩
    obtain ⟨m2, e2, t2, f2⟩ := setText_C (m := si m 1 1 0) hq' hwq.1 hT1 hk hf
    have f12 : Fr (fun x => x = 1 ∨ x = q' + 1) m m2 := (f1.mono (fun x h => Or.inl h)).tr (f2.mono (fun x h => Or.inr h))
    obtain ⟨m3, e3, l3, s3, k3, wt3⟩ := scan_spec (m := m2) (c := q' + 1) (a := 0) (e := k) (T := T) (hWT.keepF f12) (by omega) (by omega) hq'.2.2.1 (by omega) (by omega) t2
    have f3 := k3.F
    have f13 : Fr (fun x => x = 1 ∨ x = q' + 1 ∨ (42 ≤ x ∧ x ≤ 47)) m m3 := (f12.mono (fun x h => by omega)).tr (f3.mono (fun x h => by omega))
    have hX3 : CQ q' m3 T k (tl T k 0) := ⟨hwq.keep f13 hq', wt3, hWR.keep f13, l3, s3.2.2.2.2.2.1, s3.2.2.2.2.2.2, by omega, rfl⟩
    obtain ⟨m4, e4, x4, f4, d4⟩ := takeAll_C hq' hX3
    have f14 : Fr (fun x => x = 1 ∨ (42 ≤ x ∧ x ≤ 48) ∨ (q' ≤ x ∧ x ≤ q' + 396)) m m4 := (f13.mono (fun x h => by omega)).tr (f4.mono (fun x h => by unfold FQ at h; omega))
    have g2 : ∀ x j, ¬ NR x j → gr m2 x j = gr m x j := f12.2
    have g3 : ∀ x j, ¬ NR x j → gr m3 x j = gr m x j := f13.2
    have g4 : ∀ x j, ¬ NR x j → gr m4 x j = gr m x j := f14.2
    have ob4 : OB m4 := hOB.keepF f14 (fun x a b => by omega)
    have hI4' : InC m4 := hI0.keepF f14 ob4
    have hS4 : CSl m4 S := hS.keepF f14 (fun x a b => by omega)
    have tap4 : gi m4 1 1 = 0 := by
      rw [(f4.1 _ _ (by unfold FQ; omega)).1, (f3.1 _ _ (by omega)).1, (f2.1 _ _ (by omega)).1]
      exact gi_si _ _ _ _
    have hC4 : CG q m4 Tr n0 Gr := hcg.keepF hq hB f14 (fun x a b => by omega)
    have r9' : gr (si m 1 1 0) 1 9 = q' := r9
    have w1' : gr (si m 1 1 0) 1 0 = 2 := w1
    have e3' : f_X9_scan TT m2 42 (q' + 1) 0 (nI k) = some m3 := e3
    unfold f_X11_read
    rw [onTape_yes hT hk, Option.bind_some, if_neg (by decide), lt_eq, r9', ob_of hq'.2.1, if_pos rfl, w1', e2, Option.bind_some, g2 1 9 (by unfold NR; omega), r9, ob_of hq'.2.1, if_pos rfl, g2 1 6 (by unfold NR; omega), w6, ob_of s_42, if_pos rfl, g2 q' 0 (by unfold NR; omega), hwq.1, e3', Option.bind_some, g3 1 9 (by unfold NR; omega), r9, ob_of hq'.2.1, if_pos rfl, g3 1 6 (by unfold NR; omega), w6, g3 1 7 (by unfold NR; omega), w7, e4, bd_some]
    rcases nwR_cases T (n := k) (by omega) with ⟨l, G, hp, hu, hr, hnw⟩ | ⟨hr, hr2, hnw⟩
    · have hO' : RO T k G := RO_of hp hu (by omega) (fun j hj => (hT.2.2 j (by omega)).2)
      have hB' := hO'.2.1
      obtain ⟨dd, tt⟩ := d4 l G hp hu
      have hC0 : CG0 q' m4 T k G := ⟨x4.1, x4.2.2.2.2.2.1, dd, tt⟩
      obtain ⟨m5, e5, i5, j5, c5, f5⟩ := mark_lp hq' hO' G.2.2.length 0 FUEL m4 (by omega) (by have := hB'.2.2; unfold FUEL; omega) hI4' hS4.2 hC0 (fun c x hc => by omega)
      have e5' : f_X11_markReleasesInRanges TT m4 1 q' = some m5 := by
        unfold f_X11_markReleasesInRanges f_X11_markReleasesInRanges_j2
        rw [show lp (fun x : Int32 × Mi => f_X11_markReleasesInRanges_l2 TT x.2 1 q' x.1) FUEL (0, m4) = some m5 from e5]
        rfl
      have g5 : ∀ x j, ¬ NR x j → gr m5 x j = gr m x j := fun x j hx => (f5.2 x j hx).trans (g4 x j hx)
      have f15 : Fr (fun x => x = 1 ∨ x = 36 ∨ x = 37 ∨ (42 ≤ x ∧ x ≤ 58) ∨ (q' ≤ x ∧ x ≤ q' + 396)) m m5 := (f14.mono (fun x h => by omega)).tr (f5.mono (fun x h => by unfold FM at h; omega))
      have hS5 : CSl m5 S := by
        refine ⟨fun j hj => ?_, j5⟩
        exact (hS.1 j hj).keepF f15 (by omega) (by omega) (by unfold NR; omega)
      have hC5 : CG q m5 Tr n0 Gr := hC4.keepF hq hB f5 (fun x a b => by unfold FM; omega)
      rw [hr, hnw, if_pos (show nI 0 = 0 from rfl), g4 1 9 (by unfold NR; omega), r9, e5', Option.bind_some, lt_eq, lt_eq, lt_eq]
      have h11 : gr (sr (sr m5 1 8 (gr m5 1 9)) 1 9 (gr m5 1 8)) 1 11 = 860 := by
        simp only [mS]
        rw [if_neg (by omega), if_neg (by omega), g5 1 11 (by unfold NR; omega), w9]
      rw [h11, ob_of s_860, if_pos rfl]
      unfold f_X1_forget
      simp only [lt_eq]
      rw [Option.bind_some]
      have ge : ∀ x j, x ≠ 860 → gi (si (si (si (sr (sr m5 1 8 (gr m5 1 9)) 1 9 (gr m5 1 8)) 860 0 0) 860 1 0) 860 4 0) x j = gi m5 x j := by
        intro x j hx
        simp only [mS]
        rw [if_neg (by omega), if_neg (by omega), if_neg (by omega)]
      have gle : ∀ x j, gl (si (si (si (sr (sr m5 1 8 (gr m5 1 9)) 1 9 (gr m5 1 8)) 860 0 0) 860 1 0) 860 4 0) x j = gl m5 x j := fun _ _ => rfl
      have gre : ∀ x j, ¬ (x = 1 ∧ (j = 8 ∨ j = 9)) → gr (si (si (si (sr (sr m5 1 8 (gr m5 1 9)) 1 9 (gr m5 1 8)) 860 0 0) 860 1 0) 860 4 0) x j = gr m5 x j := by
        intro x j hx
        simp only [mS]
        rw [if_neg (by omega), if_neg (by omega)]
      have gr8 : gr (si (si (si (sr (sr m5 1 8 (gr m5 1 9)) 1 9 (gr m5 1 8)) 860 0 0) 860 1 0) 860 4 0) 1 8 = q' := by
        simp only [mS]
        rw [if_neg (by omega), if_pos ⟨trivial, trivial⟩, g5 1 9 (by unfold NR; omega), r9]
      have gr9 : gr (si (si (si (sr (sr m5 1 8 (gr m5 1 9)) 1 9 (gr m5 1 8)) 860 0 0) 860 1 0) 860 4 0) 1 9 = q := by
        simp only [mS]
        rw [if_pos ⟨trivial, trivial⟩, g5 1 8 (by unfold NR; omega), r8]
      have gz : gi (si (si (si (sr (sr m5 1 8 (gr m5 1 9)) 1 9 (gr m5 1 8)) 860 0 0) 860 1 0) 860 4 0) 860 0 = 0 ∧ gi (si (si (si (sr (sr m5 1 8 (gr m5 1 9)) 1 9 (gr m5 1 8)) 860 0 0) 860 1 0) 860 4 0) 860 1 = 0 ∧ gi (si (si (si (sr (sr m5 1 8 (gr m5 1 9)) 1 9 (gr m5 1 8)) 860 0 0) 860 1 0) 860 4 0) 860 4 = 0 := by simp [mS]
      have gn : ∀ j, j ≠ 0 → j ≠ 1 → j ≠ 4 → gi (si (si (si (sr (sr m5 1 8 (gr m5 1 9)) 1 9 (gr m5 1 8)) 860 0 0) 860 1 0) 860 4 0) 860 j = gi m5 860 j := by
        intro j a b c
        simp only [mS]
        rw [if_neg (by omega), if_neg (by omega), if_neg (by omega)]
      generalize hm6 : si (si (si (sr (sr m5 1 8 (gr m5 1 9)) 1 9 (gr m5 1 8)) 860 0 0) 860 1 0) 860 4 0 = m6 at *
      -- m6 against m5: a frame but for (1, 8), (1, 9)
      have wfq : ∀ z, QS z → WQ z m5 → WQ z m6 := by
        intro z hz hw
        have hz1 := hz.1
        obtain ⟨v1, v2, v3, v4, v5, v6, v7, v8, v9⟩ := hw
        exact ⟨(gre _ _ (by omega)).trans v1, (gre _ _ (by omega)).trans v2, (gre _ _ (by omega)).trans v3, (gre _ _ (by omega)).trans v4, (gre _ _ (by omega)).trans v5, (gre _ _ (by omega)).trans v6, fun p hp => ⟨(gre _ _ (by omega)).trans (v7 p hp).1, (gre _ _ (by omega)).trans (v7 p hp).2⟩, fun p hp => ⟨(gre _ _ (by omega)).trans (v8 p hp).1, (gre _ _ (by omega)).trans (v8 p hp).2⟩, fun p hp => (gre _ _ (by omega)).trans (v9 p hp)⟩
      have rgk : ∀ r cap B, r ≠ 1 → r ≠ 860 → RG TT m5 r cap B → RG TT m6 r cap B := by
        intro r cap B h1 h2 h
        obtain ⟨v1, v2, v3, v4, v5, v6, v7, v8⟩ := h
        exact ⟨v1, (gre _ _ (by omega)).trans v2, v3, (ge _ _ h2).trans v4, v5, v6, v7, by rw [bnd_congr (m := m5) (fun z _ => gle _ _)]; exact v8⟩
      have ob6 : OB m6 := by
        obtain ⟨⟨A, hA⟩, B, hB⟩ := i5.2.2.2.1
        exact ⟨⟨A, rgk _ _ _ (by omega) (by omega) hA⟩, B, rgk _ _ _ (by omega) (by omega) hB⟩
      have i6 : InC m6 := by
        obtain ⟨⟨⟨v1, v2, v3, v4, v5, v6, v7, v8, v9, v10⟩, v11⟩, ⟨t1, t2', t3, t4, t5⟩, ⟨u1, u2, u3, u4, u5, u6, u7, u8⟩, _, z1, z2⟩ := i5
        exact ⟨⟨⟨(gre _ _ (by omega)).trans v1, (gre _ _ (by omega)).trans v2, (gre _ _ (by omega)).trans v3, (gre _ _ (by omega)).trans v4, (gre _ _ (by omega)).trans v5, (gre _ _ (by omega)).trans v6, (gre _ _ (by omega)).trans v7, (gre _ _ (by omega)).trans v8, (gre _ _ (by omega)).trans v9, (gre _ _ (by omega)).trans v10⟩, fun j hj => (gre _ _ (by omega)).trans (v11 j hj)⟩, ⟨(gre _ _ (by omega)).trans t1, (gre _ _ (by omega)).trans t2', (gre _ _ (by omega)).trans t3, (gre _ _ (by omega)).trans t4, (gre _ _ (by omega)).trans t5⟩, ⟨(gre _ _ (by omega)).trans u1, (gre _ _ (by omega)).trans u2, (gre _ _ (by omega)).trans u3, (gre _ _ (by omega)).trans u4, (gre _ _ (by omega)).trans u5, (gre _ _ (by omega)).trans u6, (gre _ _ (by omega)).trans u7, (gre _ _ (by omega)).trans u8⟩, ob6, (gre _ _ (by omega)).trans z1, (gre _ _ (by omega)).trans z2⟩
      have fr6 : Fr (fun x => x = 1 ∨ x = 860) m5 (sr (sr m6 1 8 (gr m5 1 8)) 1 9 (gr m5 1 9)) := by
        refine ⟨fun x j e => ⟨ge x j (by omega), gle x j⟩, fun x j _ => ?_⟩
        simp only [mS]
        by_cases h9 : x = 1 ∧ j = 9
        · rw [if_pos h9, h9.1, h9.2]
        · rw [if_neg h9]
          by_cases h8 : x = 1 ∧ j = 8
          · rw [if_pos h8, h8.1, h8.2]
          · rw [if_neg h8, gre x j (by omega)]
      have cgk : CG q' m6 T k G := by
        have h := c5.keepF hq' hB' fr6 (fun x a b => by omega)
        refine ⟨⟨wfq q' hq' c5.1.1, h.1.2.1, ?_, h.1.2.2.2⟩, h.2⟩
        exact h.1.2.2.1
      refine ⟨m6, rfl, i6, ⟨fun j hj => rgk _ _ _ (by omega) (by omega) (hS5.1 j hj), ?_⟩, ⟨?_, by omega, fun j hj => by omega⟩, ⟨fun x j hx ho => ?_, fun x j hx => ⟨?_, ?_⟩⟩, ⟨q', q, by omega, gr8, gr9, cgk, wfq q hq hC5.1.1⟩, hO', gz.1, gz.2.1, gz.2.2, fun j a b c => ?_⟩
      · obtain ⟨J, hJ⟩ := j5
        exact ⟨J, rgk _ _ _ (by omega) (by omega) hJ⟩
      · rw [ge _ _ (by omega), (f5.1 _ _ (by unfold FM; omega)).1]
        exact tap4
      · have hx : x ≠ 860 := ho.resolve_left (fun e => by cases e)
        rw [ge x j hx, (f15.1 x j (by omega)).1]
      · rw [gle x j, (f15.1 x j (by omega)).2]
      · rw [gre x j (by omega)]
        exact g5 x j (by unfold NR; omega)
      · rw [gn j a b c, (f15.1 860 j (by omega)).1]
    · rw [if_neg (show ¬ nI (rdA T k) = 0 from nI_ne0 (by omega) hr2), hnw]
      refine ⟨m4, rfl, hI4', hS4, ⟨tap4, Nat.zero_le _, fun j hj => absurd hj (Nat.not_lt_zero j)⟩, ⟨fun x j hx _ => (f14.1 x j (by omega)).1, fun x j hx => ⟨(f14.1 x j (by omega)).2, g4 x j (by unfold NR; omega)⟩⟩, ⟨q, q', hqq, (g4 _ _ (by unfold NR; omega)).trans r8, (g4 _ _ (by unfold NR; omega)).trans r9, hC4, x4.1⟩⟩
