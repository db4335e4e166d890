/-! The class: a constraint more. -/
theorem isLink_spec {k : Nat} (h : k < 100) : f_X9_isLink (nI k) = some (bI (decide (k = 5 ∨ k = 6))) := by
  unfold f_X9_isLink
  by_cases h5 : k = 5
  · rw [h5]; decide
  · rw [if_neg (show ¬ nI k = 5 from fun e => h5 ((nI_eq (b := 5) (by omega) (by omega)).mp e))]
    by_cases h6 : k = 6
    · rw [h6]; decide
    · rw [if_neg (show ¬ nI k = 6 from fun e => h6 ((nI_eq (b := 6) (by omega) (by omega)).mp e)), decide_eq_false (by omega)]
      rfl
theorem lst_take {l : List Tok} {j n : Nat} (h1 : 1 ≤ j) (h2 : j ≤ l.length) : lst (l.take j) = en0 n (l.drop (j - 1)) ∧ pl0 0 (l.take j) = pl0 n l := by
  obtain ⟨k, rfl⟩ : ∃ k, j = k + 1 := ⟨j - 1, by omega⟩
  constructor
  · unfold lst
    have : (l.take (k + 1)).getLast? = some l[k] := by
      rw [List.getLast?_eq_getElem?, List.length_take, show min (k + 1) l.length - 1 = k by omega, List.getElem?_take_of_lt (by omega), List.getElem?_eq_getElem (by omega)]
    rw [this, show k + 1 - 1 = k by omega, List.drop_eq_getElem_cons (by omega)]
    rfl
  · cases l with
    | nil => simp at h2
    | cons x r => rfl
theorem addCon_C {q n w j : Nat} {m : Mi} {T : Nat → Nat} {L : List Tok} {G : Rg} (hq : QS q) (hX : CQ q m T n L) (hD : DC q m T G) (hB : BGd G) (hC : G.2.2.length < 250) (hw : w + 2 + j ≤ L.length) (hj : 1 ≤ j) (hk : kd0 (L.drop w) = 4 ∨ kd0 (L.drop w) = 5 ∨ kd0 (L.drop w) = 6) (hR : kd0 (L.drop w) ≠ 4 → G.2.1 ≠ []) :
    ∃ m', f_X6_addConstraint TT m q 42 (nI w) (nI (w + 2 + j)) = some m' ∧ DC q m' T (addC (kd0 (L.drop w)) (pl0 0 (L.drop (w + 1))) (en0 0 (L.drop (w + 1))) ((L.drop (w + 2)).take j) G) ∧ Fr (FQ q) m m' ∧ gi m' q 9 = gi m q 9 := by
  have hq1 := hq.1
  obtain ⟨hW, hWT, hWR, hL, h42, hT, hn, hLt⟩ := hX
  obtain ⟨h4, h5, h6, h7, hp, hr, hcc⟩ := hD
  have hLl := hL.2.1
  have hB2 := hB.2.1
  generalize hc : q + 145 + G.2.2.length = c
  have hcs : sh TT c = some (.inl 0) := by rw [← hc]; exact hq.2.2.2.2.2.2.2.2.2.2 _ hC
  have hcr : gr m (q + 144) G.2.2.length = c := by rw [← hc]; exact hW.2.2.2.2.2.2.2.2 _ hC
  -- what is asked of the tokens, in any memory that has them
  have ask : ∀ M : Mi, (∀ x i, x ≤ 47 → gi M x i = gi m x i) → (∀ x i, gr M x i = gr m x i) → WT M ∧ TLs M L ∧ gi M 42 5 = nI n := by
    intro M k1 k2
    exact ⟨⟨(k2 _ _).trans hWT.1, (k2 _ _).trans hWT.2.1, (k2 _ _).trans hWT.2.2.1, (k2 _ _).trans hWT.2.2.2.1, (k2 _ _).trans hWT.2.2.2.2⟩, hL.keep (fun x i a b => k1 x i b), (k1 _ _ (by omega)).trans h42⟩
  have pl : ∀ (M : Mi) (i : Nat), i ≤ 3000 → (∀ x i, x ≤ 47 → gi M x i = gi m x i) → (∀ x i, gr M x i = gr m x i) → f_X9_placeAt TT M 42 (nI i) = some (nI (pl0 n (L.drop i))) := fun M i hi k1 k2 => placeAt_spec (ask M k1 k2).1 (ask M k1 k2).2.2 (ask M k1 k2).2.1 (by omega)
  have en : ∀ (M : Mi) (i : Nat), i ≤ 3000 → (∀ x i, x ≤ 47 → gi M x i = gi m x i) → (∀ x i, gr M x i = gr m x i) → f_X9_endAt TT M 42 (nI i) = some (nI (en0 n (L.drop i))) := fun M i hi k1 k2 => endAt_spec (ask M k1 k2).1 (ask M k1 k2).2.2 (ask M k1 k2).2.1 (by omega)
  have hkd := kindAt_spec hWT hL (k := w) (by omega)
  -- their places in the whole text are places
  have e1 : pl0 0 (L.drop (w + 1)) = pl0 n (L.drop (w + 1)) ∧ en0 0 (L.drop (w + 1)) = en0 n (L.drop (w + 1)) := by
    rw [List.drop_eq_getElem_cons (show w + 1 < L.length by omega)]
    exact ⟨rfl, rfl⟩
  have hdl : (L.drop (w + 2)).length = L.length - (w + 2) := List.length_drop
  have e2 := lst_take (l := L.drop (w + 2)) (j := j) (n := n) hj (by omega)
  rw [List.drop_drop, show w + 2 + (j - 1) = w + 1 + j by omega] at e2
  generalize hkk : kd0 (L.drop w) = k at *
  generalize hts : (L.drop (w + 2)).take j = ts at *
  generalize ha : pl0 n (L.drop (w + 1)) = a at *
  generalize hb : en0 n (L.drop (w + 1)) = b at *
  generalize hra : pl0 n (L.drop (w + 2)) = ra at *
  generalize hrb : en0 n (L.drop (w + 1 + j)) = rb at *
  have k8 : ∀ (v0 : Int32), ∀ x i, x ≤ 47 → gi (si m c 0 v0) x i = gi m x i := fun v0 x i hx => by simp only [mS]; rw [if_neg (by omega)]
  generalize hm18 : si (si (si (si (si (si (si (si m c 0 (nI k)) c 2 (nI a)) c 3 (nI b)) c 5 (nI ra)) c 6 (nI rb)) c 4 (-1)) c 7 0) c 1 (-1) = m18
  have g18 : ∀ x i, x ≠ c → gi m18 x i = gi m x i := by
    intro x i hx
    rw [← hm18]
    simp only [mS]
    rw [if_neg (fun e => hx e.1), if_neg (fun e => hx e.1), if_neg (fun e => hx e.1), if_neg (fun e => hx e.1), if_neg (fun e => hx e.1), if_neg (fun e => hx e.1), if_neg (fun e => hx e.1), if_neg (fun e => hx e.1)]
  have l18 : ∀ x i, gl m18 x i = gl m x i := fun x i => by rw [← hm18]; rfl
  have r18 : ∀ x i, gr m18 x i = gr m x i := fun x i => by rw [← hm18]; rfl
  have c18 : gi m18 c 0 = nI k ∧ gi m18 c 1 = -1 ∧ gi m18 c 2 = nI a ∧ gi m18 c 3 = nI b ∧ gi m18 c 5 = nI ra ∧ gi m18 c 6 = nI rb := by
    rw [← hm18]
    simp only [mS]
    simp
  generalize hm19 : si m18 q 6 (nI (G.2.2.length + 1)) = m19
  have hk100 : k < 100 := by omega
  have hmain : f_X6_addConstraint TT m q 42 (nI w) (nI (w + 2 + j)) = if k = 4 then some m19 else some (si (si (si m19 c 1 (nI (G.2.1.length - 1))) (q + 24 + 2 * (G.2.1.length - 1)) 5 (nI (cntL G.2.2 (G.2.1.length - 1) + 1))) q 7 (nI (lnkN G.2.2 + 1))) := by
    unfold f_X6_addConstraint
    rw [h6, if_pos (show nI G.2.2.length < 250 from nI_lt (b := 250) hC (by omega)), hW.2.2.2.1, if_pos (ar_of hq.2.2.2.2.2.1 hC (by omega)), ix_nI (by omega), lt_eq, hcr, ob_of s_42, if_pos rfl, hkd, Option.bind_some, ob_of hcs, if_pos rfl, lt_eq, show nI w + 1 = nI (w + 1) from nI_add w 1, show nI w + 2 = nI (w + 2) from nI_add w 2, show nI (w + 2 + j) - 1 = nI (w + 1 + j) by rw [show (1 : Int32) = nI 1 from rfl, pk_sub (by omega), show w + 2 + j - 1 = w + 1 + j by omega]]
    rw [pl (si m c 0 (nI k)) (w + 1) (by omega) (k8 _) (fun _ _ => rfl), Option.bind_some, ha, lt_eq]
    rw [en (si (si m c 0 (nI k)) c 2 (nI a)) (w + 1) (by omega) (fun x i hx => by simp only [mS]; rw [if_neg (by omega), if_neg (by omega)]) (fun _ _ => rfl), Option.bind_some, hb, lt_eq]
    rw [pl (si (si (si m c 0 (nI k)) c 2 (nI a)) c 3 (nI b)) (w + 2) (by omega) (fun x i hx => by simp only [mS]; rw [if_neg (by omega), if_neg (by omega), if_neg (by omega)]) (fun _ _ => rfl), Option.bind_some, hra, lt_eq]
    rw [en (si (si (si (si m c 0 (nI k)) c 2 (nI a)) c 3 (nI b)) c 5 (nI ra)) (w + 1 + j) (by omega) (fun x i hx => by simp only [mS]; rw [if_neg (by omega), if_neg (by omega), if_neg (by omega), if_neg (by omega)]) (fun _ _ => rfl), Option.bind_some, hrb, lt_eq, lt_eq, lt_eq, lt_eq, hm18, lt_eq, g18 q 6 (by omega), h6, nI_1, hm19]
    have h190 : gi m19 c 0 = nI k := by rw [← hm19]; simp only [mS]; rw [if_neg (by omega)]; exact c18.1
    have h195 : gi m19 q 5 = nI G.2.1.length := by rw [← hm19]; simp only [mS]; rw [if_neg (by omega), g18 q 5 (by omega)]; exact h5
    rw [h190, isLink_spec hk100, Option.bind_some]
    by_cases h4k : k = 4
    · rw [if_pos h4k, decide_eq_false (by omega), if_pos bF]
    · have hne := hR h4k
      have hl : 0 < G.2.1.length := List.length_pos_iff.mpr hne
      obtain ⟨x, hx⟩ : ∃ x, G.2.1[G.2.1.length - 1]? = some x := ⟨_, List.getElem?_eq_getElem (by omega)⟩
      have hx5 := (hr _ x hx).2.2.2.2.1
      have hrel := hW.2.2.2.2.2.2.2.1 (G.2.1.length - 1) (by omega)
      have hrs := (hq.2.2.2.2.2.2.2.2.2.1 (G.2.1.length - 1) (by omega)).1
      have s23 : gi (si m19 c 1 (nI (G.2.1.length - 1))) q 5 = nI G.2.1.length := by simp only [mS]; rw [if_neg (by omega)]; exact h195
      have g23 : gr (si m19 c 1 (nI (G.2.1.length - 1))) q 2 = q + 23 := by rw [← hm19]; simp only [mS]; rw [r18]; exact hW.2.2.1
      have g24 : gr (si m19 c 1 (nI (G.2.1.length - 1))) (q + 23) (G.2.1.length - 1) = q + 24 + 2 * (G.2.1.length - 1) := by rw [← hm19]; simp only [mS]; rw [r18]; exact hrel.1
      have g25 : gi (si m19 c 1 (nI (G.2.1.length - 1))) (q + 24 + 2 * (G.2.1.length - 1)) 5 = nI (cntL G.2.2 (G.2.1.length - 1)) := by rw [← hm19]; simp only [mS]; rw [if_neg (by omega), if_neg (by omega), g18 _ _ (by omega)]; exact hx5
      have g26 : gi (si (si m19 c 1 (nI (G.2.1.length - 1))) (q + 24 + 2 * (G.2.1.length - 1)) 5 (nI (cntL G.2.2 (G.2.1.length - 1) + 1))) q 7 = nI (lnkN G.2.2) := by rw [← hm19]; simp only [mS]; rw [if_neg (by omega), if_neg (by omega), if_neg (by omega), g18 _ _ (by omega)]; exact h7
      rw [if_neg h4k, decide_eq_true (by omega), if_neg bTr, h195, if_neg (nI_nle hl (by omega)), show nI G.2.1.length - 1 = nI (G.2.1.length - 1) by rw [show (1 : Int32) = nI 1 from rfl, pk_sub (by omega)], lt_eq, s23, show nI G.2.1.length - 1 = nI (G.2.1.length - 1) by rw [show (1 : Int32) = nI 1 from rfl, pk_sub (by omega)], g23, if_pos (ar_of hq.2.2.2.2.1 (by omega) (by omega)), ix_nI (by omega), lt_eq, g24, ob_of hrs, if_pos rfl, g25, nI_1, lt_eq, g26, nI_1, lt_eq]
  -- both ends as one memory
  have fin : ∀ m', (∀ x i, x ≠ c → ¬ (x = q ∧ (i = 6 ∨ i = 7)) → ¬ (x = q + 24 + 2 * (G.2.1.length - 1) ∧ i = 5 ∧ k ≠ 4) → gi m' x i = gi m x i) → (∀ x i, gl m' x i = gl m x i) → (∀ x i, gr m' x i = gr m x i) → gi m' q 6 = nI (G.2.2.length + 1) → gi m' q 7 = nI (lnkN G.2.2 + if k ≠ 4 then 1 else 0) → (k ≠ 4 → gi m' (q + 24 + 2 * (G.2.1.length - 1)) 5 = nI (cntL G.2.2 (G.2.1.length - 1) + 1)) → (gi m' c 0 = nI k ∧ gi m' c 1 = (if k = 4 then -1 else nI (G.2.1.length - 1)) ∧ gi m' c 2 = nI a ∧ gi m' c 3 = nI b ∧ gi m' c 5 = nI ra ∧ gi m' c 6 = nI rb) →
      DC q m' T (addC k (pl0 0 (L.drop (w + 1))) (en0 0 (L.drop (w + 1))) ts G) ∧ Fr (FQ q) m m' ∧ gi m' q 9 = gi m q 9 := by
    intro m' kg kl kr n6 n7 n5 nc
    refine ⟨⟨?_, ?_, ?_, ?_, ?_, ?_, ?_⟩, ⟨fun x i hx => ⟨?_, kl x i⟩, fun x i _ => kr x i⟩, ?_⟩
    · exact (kg q 4 (by omega) (by omega) (by omega)).trans h4
    · exact (kg q 5 (by omega) (by omega) (by omega)).trans h5
    · rw [n6]
      show _ = nI (G.2.2 ++ [_]).length
      rw [List.length_append, List.length_singleton]
    · rw [n7]
      show _ = nI (lnkN (G.2.2 ++ [_]))
      rw [lnkN_app]
    · exact hp.keep hB.1 (fun x i h1 h2 => kg x i (by omega) (by omega) (by omega))
    · intro r x hx
      have hx : G.2.1[r]? = some x := hx
      have hrl := get_lt hx
      obtain ⟨g1, g2, g3, g4, g5, g6⟩ := hr r x hx
      refine ⟨(kg _ _ (by omega) (by omega) (by omega)).trans g1, (kg _ _ (by omega) (by omega) (by omega)).trans g2, (kg _ _ (by omega) (by omega) (by omega)).trans g3, (kg _ _ (by omega) (by omega) (by omega)).trans g4, ?_, by rw [← g6]; exact rowF_congr (fun z _ => kl _ _)⟩
      show gi m' (q + 24 + 2 * r) 5 = nI (cntL (G.2.2 ++ [_]) r)
      rw [cntL_app]
      by_cases hh : k ≠ 4 ∧ G.2.1.length - 1 = r
      · rw [if_pos hh, ← hh.2]
        exact n5 hh.1
      · rw [if_neg hh, kg _ _ (by omega) (by omega) (by omega)]
        exact g5
    · intro c2 x hx
      rcases app_get hx with ⟨hj2, hx⟩ | ⟨hj2, hx⟩
      · obtain ⟨g1, g2, g3, g4, g5, g6⟩ := hcc c2 x hx
        have kk : ∀ i, gi m' (q + 145 + c2) i = gi m (q + 145 + c2) i := fun i => kg _ _ (by omega) (by omega) (by omega)
        exact ⟨(kk 0).trans g1, (kk 1).trans g2, (kk 2).trans g3, (kk 3).trans g4, (kk 5).trans g5, (kk 6).trans g6⟩
      · rw [hx, hj2, hc]
        obtain ⟨c0, c1, c2', c3, c5, c6⟩ := nc
        refine ⟨c0, c1, ?_, ?_, ?_, ?_⟩
        · show _ = nI (pl0 0 (L.drop (w + 1)))
          rw [c2', e1.1]
        · show _ = nI (en0 0 (L.drop (w + 1)))
          rw [c3, e1.2]
        · show _ = nI (pl0 0 ts)
          rw [c5, e2.2]
        · show _ = nI (lst ts)
          rw [c6, e2.1]
    · exact kg x i (fun e => hx (by unfold FQ; omega)) (fun e => hx (by unfold FQ; omega)) (fun e => hx (by unfold FQ; omega))
    · exact kg q 9 (by omega) (by omega) (by omega)
  rw [hmain]
  by_cases h4k : k = 4
  · rw [if_pos h4k]
    refine ⟨m19, rfl, fin m19 (fun x i a1 a2 a3 => ?_) (fun x i => ?_) (fun x i => ?_) ?_ ?_ (fun e => absurd h4k e) ?_⟩
    · rw [← hm19]; simp only [mS]; rw [if_neg (by omega)]; exact g18 x i a1
    · rw [← hm19]; exact l18 x i
    · rw [← hm19]; exact r18 x i
    · rw [← hm19]; exact gi_si _ _ _ _
    · rw [if_neg (fun e => e h4k), ← hm19]; simp only [mS]; rw [if_neg (by omega), g18 _ _ (by omega)]; exact h7
    · rw [if_pos h4k, ← hm19]
      simp only [mS]
      rw [if_neg (by omega), if_neg (by omega), if_neg (by omega), if_neg (by omega), if_neg (by omega), if_neg (by omega)]
      exact c18
  · rw [if_neg h4k]
    refine ⟨_, rfl, fin _ (fun x i a1 a2 a3 => ?_) (fun x i => ?_) (fun x i => ?_) ?_ ?_ (fun e => ?_) ?_⟩
    · rw [← hm19]; simp only [mS]; rw [if_neg (by omega), if_neg (by omega), if_neg (by omega), if_neg (by omega)]; exact g18 x i a1
    · rw [← hm19]; exact l18 x i
    · rw [← hm19]; exact r18 x i
    · rw [← hm19]; simp only [mS]; rw [if_neg (by omega), if_neg (by omega), if_neg (by omega), if_pos ⟨trivial, trivial⟩]
    · rw [if_pos h4k]; exact gi_si _ _ _ _
    · simp only [mS]; rw [if_neg (by omega), if_pos ⟨trivial, trivial⟩]
    · rw [if_neg h4k, ← hm19]
      simp only [mS]
      rw [if_neg (by omega), if_neg (by omega), if_neg (by omega), if_neg (by omega), if_neg (by omega), if_neg (by omega), if_pos ⟨trivial, trivial⟩, if_neg (by omega), if_neg (by omega), if_neg (by omega), if_neg (by omega), if_neg (by omega), if_neg (by omega), if_neg (by omega), if_neg (by omega), if_neg (by omega), if_neg (by omega), if_neg (by omega), if_neg (by omega), if_neg (by omega), if_neg (by omega), if_neg (by omega), if_neg (by omega)]
      exact ⟨c18.1, rfl, c18.2.2⟩
