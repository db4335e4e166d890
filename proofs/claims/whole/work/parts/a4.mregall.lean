/-! The reference reads a registry: wants, targets, all. -/
abbrev jW (K : Mi → Option (Int32 × Mi)) : Mi ⊕ (Mi ⊕ (Mi ⊕ Mi)) → Option (Int32 × Mi) := Sum.elim K (Sum.elim (fun y : Mi => f_X12_registry_j254 TT y 870) (Sum.elim (fun y : Mi => f_X12_registry_j271 TT y) (fun y : Mi => f_X12_registry_j296 TT y 870)))
theorem DN.want {s : Nat} {m : Mi} {G G' : Rg} (h : DN s m G) (hs : s < 2) (hle : lnkN G.2.2 ≤ G.2.2.length) (h1 : lnkN G'.2.2 = lnkN G.2.2) (h2 : G'.2.2.length = G.2.2.length + 1) (h3 : G'.1 = G.1) (h4 : G'.2.1 = G.2.1) : DN s (si m 884 s (nI (G.2.2.length - lnkN G.2.2 + 1))) G' := by
  obtain ⟨a1, a2, a3, a4⟩ := h
  refine ⟨?_, ?_, ?_, ?_⟩
  · simp only [mS]; rw [if_neg (by omega), h3]; exact a1
  · simp only [mS]; rw [if_neg (by omega), h4]; exact a2
  · simp only [mS]; rw [if_neg (by omega), h1]; exact a3
  · rw [h1, h2, show G.2.2.length + 1 - lnkN G.2.2 = G.2.2.length - lnkN G.2.2 + 1 by omega]; exact gi_si _ _ _ _
theorem PF.keep {s : Nat} {m m' : Mi} {G G' : Rg} (h : PF s m G) (h1 : G'.1 = G.1) (h2 : G'.2.1 = G.2.1) (k : gi m' 887 (11 * s + G.1.length) = gi m 887 (11 * s + G.1.length)) : PF s m' G' := by
  intro hne
  rw [h1] at hne ⊢
  rw [h2, k]
  exact h hne
theorem FS887 {s : Nat} {m m' : Mi} {G : Rg} {P : Nat → Nat → Prop} (k : FrM P m m') (h : ∀ j, ¬ P 887 j) : gi m' 887 (11 * s + G.1.length) = gi m 887 (11 * s + G.1.length) := (k.1 _ _ (h _)).1
theorem con_887 {s n : Nat} {m : Mi} {T : Nat → Nat} {l : List Tok} {G : Rg} {rl : Int32} {v : Int32} {m' : Mi} (hs : s < 2) (hM : MT m n T) (hC : CurM m T n l) (hl : Sfx (tl T n 0) l) (hD : DM s m T G) (hB : BGd G) (hc : G.2.2.length < 250) (hk : kd0 l = 4 ∨ kd0 l = 5 ∨ kd0 l = 6) (hrl : rl = if kd0 l = 4 then -1 else nI (G.2.1.length - 1)) (he : f_X12_constraint TT m 870 (nI s) rl (nI (mk (kd0 l))) = some (v, m')) (j : Nat) : v = 1 → gi m' 887 j = gi m 887 j := by
  intro hv
  have hW := hM.1.W
  have hn := hM.2.2.1
  have hlk := lnkN_le G.2.2
  obtain ⟨⟨n1, n2, n3, n4⟩, eP, eR, eC, eK⟩ := hD
  obtain ⟨m1, e1, k1, M1, C1⟩ := next_M hM hC hl (by omega) (by omega)
  have W1 := M1.1.W
  unfold f_X12_constraint at he
  rw [hW.2.2.1, if_pos (ar_of s_883 hs (by omega)), hW.2.2.2.1, if_pos (ar_of s_884 hs (by omega)), lt_eq, ix_nI (by omega), n3, n4, nI_add, show lnkN G.2.2 + (G.2.2.length - lnkN G.2.2) = G.2.2.length by omega, e1, Option.bind_some] at he
  have hl1 := hl.tail
  by_cases h2 : kd0 l.tail = 2
  · have en := C1.ends hl1 (by omega) (by omega)
    rw [if_pos (show gi m1 870 14 = 1 from (kdM C1 hl1 2 (by omega) (by omega) (by omega)).mpr h2), lt_eq, show (250 : Int32) = nI 250 from rfl, pk_mul, nI_add, st4 W1 (by omega)] at he
    have f2 : FrM (fun x j => x = 892 ∨ x = 893 ∨ x = 894 ∨ x = 895) m1 (si (si (si (si m1 892 (250 * s + G.2.2.length) rl) 893 (250 * s + G.2.2.length) (nI (mk (kd0 l)))) 894 (250 * s + G.2.2.length) (gi m1 870 15)) 895 (250 * s + G.2.2.length) (gi m1 870 16 - gi m1 870 15)) := (((FrM.si (P := fun x j => x = 892 ∨ x = 893 ∨ x = 894 ∨ x = 895) (by omega)).tr (FrM.si (P := fun x j => x = 892 ∨ x = 893 ∨ x = 894 ∨ x = 895) (by omega))).tr (FrM.si (P := fun x j => x = 892 ∨ x = 893 ∨ x = 894 ∨ x = 895) (by omega))).tr (FrM.si (P := fun x j => x = 892 ∨ x = 893 ∨ x = 894 ∨ x = 895) (by omega))
    have f2s : FrM (FS s) m1 (si (si (si (si m1 892 (250 * s + G.2.2.length) rl) 893 (250 * s + G.2.2.length) (nI (mk (kd0 l)))) 894 (250 * s + G.2.2.length) (gi m1 870 15)) 895 (250 * s + G.2.2.length) (gi m1 870 16 - gi m1 870 15)) := (((FrM.si (by unfold FS; omega)).tr (FrM.si (by unfold FS; omega))).tr (FrM.si (by unfold FS; omega))).tr (FrM.si (by unfold FS; omega))
    generalize si (si (si (si m1 892 (250 * s + G.2.2.length) rl) 893 (250 * s + G.2.2.length) (nI (mk (kd0 l)))) 894 (250 * s + G.2.2.length) (gi m1 870 15)) 895 (250 * s + G.2.2.length) (gi m1 870 16 - gi m1 870 15) = m2 at *
    have M2 := M1.keepS f2s
    have C2 : CurM m2 T n l.tail := C1.keep (fun j a b => (f2.1 _ _ (by omega)).1)
    obtain ⟨m3, e3, k3, M3, C3⟩ := next_M M2 C2 hl1 (by omega) (by omega)
    have hl3 := hl1.tail
    obtain ⟨q3, hq3⟩ := hl3.tl
    obtain ⟨m4, e4, f4, C4, g4, b4⟩ := mrange_spec hq3 M3 C3
    rw [e3, Option.bind_some, show f_X12_range TT m3 870 268 = _ from e4, bd_some] at he
    have M4 := M3.keepF f4
    by_cases hz : (chk l.tail.tail 1 0).1 = 0
    · rw [decide_eq_true hz, if_neg bTr] at he
      obtain ⟨g5, g6⟩ := g4 hz
      obtain ⟨m5, e5, r5, f5⟩ := keepRange_M M4.1 hc g5
      rw [e5, Option.bind_some] at he
      cases he
      rw [(f5.1 _ _ (by omega)).1, (f4.1 _ _ (by unfold PR; omega)).1, (k3.F.1 _ _ (by unfold PR; omega)).1, (f2.1 _ _ (by omega)).1, (k1.F.1 _ _ (by unfold PR; omega)).1]
    · rw [decide_eq_false hz, if_pos bF] at he
      cases he
      exact absurd hv (by decide)
  · obtain ⟨m2, e2, o2⟩ := faultO (s := s) (c := 1) M1 C1
    rw [if_neg (show ¬ gi m1 870 14 = 1 from fun e => h2 ((kdM C1 hl1 2 (by omega) (by omega) (by omega)).mp e)), show (1 : Int32) = nI 1 from rfl, e2] at he
    cases he
    exact absurd hv (by decide)
theorem mwants_lp {s n : Nat} {T : Nat → Nat} (K : Mi → Option (Int32 × Mi)) (hs : s < 2) : ∀ (d N : Nat) (m : Mi) (l : List Tok) (G : Rg), d + 1 < N → MT m n T → CurM m T n l → Sfx (tl T n 0) l → DM s m T G → PF s m G → BGd G → GW T n G → (G.2.2.length - lnkN G.2.2) + d = 10 → G.2.2.length + d ≤ 250 →
    GoM s m T n (pWants d l G) K ((lp (fun x : Mi => f_X12_registry_l234 TT x 870 (nI s)) N m).bind (jW K)) := by
  have stop : ∀ (N : Nat) (m : Mi) (l : List Tok) (G : Rg), 0 < N → MT m n T → CurM m T n l → Sfx (tl T n 0) l → DM s m T G → PF s m G → kd0 l ≠ 4 → GoM s m T n (.inr (l, G)) K ((lp (fun x : Mi => f_X12_registry_l234 TT x 870 (nI s)) N m).bind (jW K)) := by
    intro N m l G hN hM hC hl hD hF h4
    obtain ⟨N, rfl⟩ : ∃ y, N = y + 1 := ⟨N - 1, by omega⟩
    rw [lp_exit (y := .inl m)]
    · exact ⟨m, rfl, ⟨hM, FrM.rf, rfl, hD, hC, hl⟩, hF⟩
    · show f_X12_registry_l234 TT m 870 (nI s) = _
      unfold f_X12_registry_l234
      rw [if_neg (show ¬ gi m 870 14 = 9 from fun e => h4 ((kdM hC hl 4 (by omega) (by omega) (by omega)).mp e))]
  intro d
  induction d with
  | zero =>
    intro N m l G hN hM hC hl hD hF hB hG hd hc
    rw [pWants]
    by_cases h4 : kd0 l = 4
    · rw [if_pos h4]
      obtain ⟨N, rfl⟩ : ∃ y, N = y + 1 := ⟨N - 1, by omega⟩
      obtain ⟨m1, e1, o1⟩ := faultO (s := s) (c := 2) hM hC
      rw [lp_exit (y := .inr (.inl m))]
      · refine ⟨m1, ?_, o1⟩
        show f_X12_registry_j254 TT m 870 = _
        unfold f_X12_registry_j254
        rw [show (2 : Int32) = nI 2 from rfl, e1]
      · show f_X12_registry_l234 TT m 870 (nI s) = _
        unfold f_X12_registry_l234
        rw [if_pos (show gi m 870 14 = 9 from (kdM hC hl 4 (by omega) (by omega) (by omega)).mpr h4), hM.1.W.2.2.2.1, if_pos (ar_of s_884 hs (by omega)), ix_nI (by omega), hD.1.2.2.2, if_pos (show nI (G.2.2.length - lnkN G.2.2) = 10 by rw [show G.2.2.length - lnkN G.2.2 = 10 by omega]; rfl)]
    · rw [if_neg h4]
      exact stop N m l G (by omega) hM hC hl hD hF h4
  | succ d ih =>
    intro N m l G hN hM hC hl hD hF hB hG hd hc
    rw [pWants]
    by_cases h4 : kd0 l = 4
    · rw [if_pos h4]
      obtain ⟨N, rfl⟩ : ∃ y, N = y + 1 := ⟨N - 1, by omega⟩
      have hrl : (-1 : Int32) = if kd0 l = 4 then -1 else nI (G.2.1.length - 1) := by rw [if_pos h4]
      obtain ⟨v1, m1, e1, M1, f1, o1⟩ := con_M (rl := -1) hs hM hC hl hD hB (by omega) (Or.inl h4) hrl
      have h887 := con_887 hs hM hC hl hD hB (by omega) (Or.inl h4) hrl e1
      rw [h4] at e1 o1
      have hW := hM.1.W
      have W1 := M1.1.W
      have hbody : f_X12_registry_l234 TT m 870 (nI s) = if v1 = 0 then some (.inr (.inr (.inr (.inl m1)))) else if gi (si m1 884 s (gi m1 884 s + 1)) 870 14 = 6 then (f_X12_token TT (si m1 884 s (gi m1 884 s + 1)) 870).bind fun m57 => some (.inl m57) else some (.inr (.inr (.inr (.inr (si m1 884 s (gi m1 884 s + 1)))))) := by
        unfold f_X12_registry_l234
        rw [if_pos (show gi m 870 14 = 9 from (kdM hC hl 4 (by omega) (by omega) (by omega)).mpr h4), hW.2.2.2.1, if_pos (ar_of s_884 hs (by omega)), ix_nI (by omega), hD.1.2.2.2, if_neg (show ¬ nI (G.2.2.length - lnkN G.2.2) = 10 from fun e => by have := (nI_eq (b := 10) (by omega) (by omega)).mp e; omega), show f_X12_constraint TT m 870 (nI s) (-1) 9 = _ from e1, bd_some, W1.2.2.2.1, if_pos (ar_of s_884 hs (by omega)), lt_eq]
      cases hp : pCon 4 l.tail G with
      | inl e =>
        rw [hp] at o1
        obtain ⟨c, l'⟩ := e
        obtain ⟨h1, h2, h3⟩ := o1
        rw [h1, if_pos rfl] at hbody
        rw [lp_exit (y := .inr (.inr (.inl m1))) hbody]
        exact ⟨m1, rfl, M1, f1, rfl, h2, h3⟩
      | inr w =>
        obtain ⟨l', G'⟩ := w
        rw [hp] at o1
        obtain ⟨h1, h2, h3, h5, h6⟩ := o1
        obtain ⟨c1, c2, c3, c4⟩ := pCon_N hp
        have hlk := lnkN_le G.2.2
        rw [if_neg (by omega), Nat.add_zero] at c1
        obtain ⟨w1, w2, w3, w4, w5, w6⟩ := pCon_W hl.tail hG (Or.inl rfl) (fun h => absurd rfl h) (fun h => absurd rfl h) hp
        rw [h1, if_neg (by decide), h2.2.2.2, nI_1] at hbody
        have f2 : FrM (FS s) m1 (si m1 884 s (nI (G.2.2.length - lnkN G.2.2 + 1))) := FrM.si (by unfold FS; omega)
        have M2 := M1.keepS f2
        have dn := h2.want (G' := G') hs (lnkN_le _) c1 c2 c3 c4
        have dx : DX s (si m1 884 s (nI (G.2.2.length - lnkN G.2.2 + 1))) T G' := h3.keep (fun x j a b => ⟨by simp only [mS]; rw [if_neg (by omega)], rfl⟩)
        have C2 : CurM (si m1 884 s (nI (G.2.2.length - lnkN G.2.2 + 1))) T n l' := h5.keep (fun j a b => by simp only [mS]; rw [if_neg (by omega)])
        have v887 : gi (si m1 884 s (nI (G.2.2.length - lnkN G.2.2 + 1))) 887 (11 * s + G.1.length) = gi m1 887 (11 * s + G.1.length) := by simp only [mS]; rw [if_neg (by omega)]
        have hF2 : PF s (si m1 884 s (nI (G.2.2.length - lnkN G.2.2 + 1))) G' := hF.keep c3 c4 (v887.trans (h887 _ h1))
        have hB' : BGd G' := ⟨by rw [c3]; exact hB.1, by rw [c4]; exact hB.2.1, by omega⟩
        generalize si m1 884 s (nI (G.2.2.length - lnkN G.2.2 + 1)) = m2 at *
        show GoM s m T n (pExp 12 l' (fun l'' => pWants d l'' G')) K _
        unfold pExp
        by_cases h12 : kd0 l' = 12
        · rw [if_pos h12]
          obtain ⟨m3, e3, k3, M3, C3⟩ := next_M M2 C2 h6 (by omega) (by omega)
          rw [if_pos (show gi m2 870 14 = 6 from (kdM C2 h6 12 (by omega) (by omega) (by omega)).mpr h12), e3, Option.bind_some] at hbody
          rw [lp_step hbody]
          have hF3 : PF s m3 G' := hF2.keep rfl rfl (k3.F.1 _ _ (by unfold PR; omega)).1
          have r := ih N m3 l'.tail G' (by omega) M3 C3 h6.tail (DM.keepR ⟨dn, dx⟩ k3.F) hF3 hB' w2 (by omega) (by omega)
          exact GoM.tr ((f1.tr f2).tr k3.S) r
        · rw [if_neg h12]
          rw [if_neg (show ¬ gi m2 870 14 = 6 from fun e => h12 ((kdM C2 h6 12 (by omega) (by omega) (by omega)).mp e))] at hbody
          obtain ⟨m3, e3, o3⟩ := faultO (s := s) (c := 1) M2 C2
          rw [lp_exit (y := .inr (.inr (.inr m2))) hbody]
          refine ⟨m3, ?_, OuM.tr (f1.tr f2) o3⟩
          show f_X12_registry_j296 TT m2 870 = _
          unfold f_X12_registry_j296
          rw [show (1 : Int32) = nI 1 from rfl, e3]
    · rw [if_neg h4]
      exact stop N m l G (by omega) hM hC hl hD hF h4
/-- the targets -/
def LT (s : Nat) (m : Mi) (T : Nat → Nat) (G : Rg) : Prop := ∀ c x, G.2.2[c]? = some x → gi m 896 (250 * s + c) = nI (tgt T G x)
theorem mtgt_lp {s n : Nat} {T : Nat → Nat} {G : Rg} (hs : s < 2) (hB : BGd G) (hG : GW T n G) : ∀ (d k N : Nat) (m : Mi), k + d = G.2.2.length → d < N → MT m n T → DM s m T G → (∀ c x, c < k → G.2.2[c]? = some x → gi m 896 (250 * s + c) = nI (tgt T G x)) →
    ∃ v m', (lp (fun x : Int32 × Mi => f_X12_registry_l324 TT x.2 870 (nI s) x.1) N (nI k, m)).bind (Sum.elim (fun y : Mi => f_X12_registry_j404 TT y) (fun y : Int32 × Mi => f_X12_registry_j382 TT (y.2) 870 (y.1))) = some (v, m') ∧ FrM (fun x j => (x = 896 ∧ 250 * s ≤ j ∧ j < 250 * s + 250) ∨ (x = 870 ∧ (j = 15 ∨ j = 19 ∨ j = 20))) m m' ∧
      (match (G.2.2.drop k).find? (noT T G) with
        | some x => v = 0 ∧ gi m' 870 19 = nI 4 ∧ gi m' 870 20 = nI x.2.2.1.1
        | none => v = 1 ∧ LT s m' T G) := by
  have hB3 := hB.2.2
  intro d
  induction d with
  | zero =>
    intro k N m hk hN hM hD hc
    have hW := hM.1.W
    obtain ⟨N, rfl⟩ : ∃ y, N = y + 1 := ⟨N - 1, by omega⟩
    have hlk := lnkN_le G.2.2
    rw [lp_exit (y := .inl m), List.drop_of_length_le (by omega)]
    · exact ⟨1, m, rfl, FrM.rf, rfl, fun c x hx => hc c x (by have := get_lt hx; omega) hx⟩
    · show f_X12_registry_l324 TT m 870 (nI s) (nI k) = _
      unfold f_X12_registry_l324
      rw [hW.2.2.1, if_pos (ar_of s_883 hs (by omega)), hW.2.2.2.1, if_pos (ar_of s_884 hs (by omega)), ix_nI (by omega), hD.1.2.2.1, hD.1.2.2.2, nI_add, show lnkN G.2.2 + (G.2.2.length - lnkN G.2.2) = G.2.2.length by omega, if_pos (nI_le (by omega) (by omega))]
  | succ d ih =>
    intro k N m hk hN hM hD hc
    have hW := hM.1.W
    obtain ⟨N, rfl⟩ : ∃ y, N = y + 1 := ⟨N - 1, by omega⟩
    have hlk := lnkN_le G.2.2
    obtain ⟨x, hx⟩ := get_some (l := G.2.2) (k := k) (by omega)
    have hxm := List.mem_of_getElem? hx
    obtain ⟨g1, g2, g3, g4⟩ := hG.2.2.2.1 x hxm
    obtain ⟨a1, a2, a3, a4⟩ := hD.2.2.2.1 k x hx
    have hnm := called_M hs hM hB.1 hD.1.1 hD.2.1 hG.2.1 g2 g3
    have hfn := fndI_none (fnd T G.1 x.2.2.1.1 x.2.2.1.2) (fun p hp => by have := fnd_lt hp; have := hB.1; omega)
    obtain ⟨w23, w24, w25, w26, w27, w28, w29, w30, w31, w32, w33, w34, w35, w36, w37, w38, _⟩ := hW
    have hbody : f_X12_registry_l324 TT m 870 (nI s) (nI k) = if fndI (fnd T G.1 x.2.2.1.1 x.2.2.1.2) = -1 then some (.inr (.inr (nI (250 * s + k), si m 896 (250 * s + k) (fndI (fnd T G.1 x.2.2.1.1 x.2.2.1.2))))) else some (.inl (nI (k + 1), si m 896 (250 * s + k) (fndI (fnd T G.1 x.2.2.1.1 x.2.2.1.2)))) := by
      unfold f_X12_registry_l324
      rw [w25, if_pos (ar_of s_883 hs (by omega)), w26, if_pos (ar_of s_884 hs (by omega)), ix_nI (by omega), hD.1.2.2.1, hD.1.2.2.2, nI_add, show lnkN G.2.2 + (G.2.2.length - lnkN G.2.2) = G.2.2.length by omega, if_neg (nI_ge (by omega) (by omega)), lt_eq, show (250 : Int32) = nI 250 from rfl, pk_mul, nI_add, w36, if_pos (ar_of s_894 (by omega) (by omega)), w37, if_pos (ar_of s_895 (by omega) (by omega)), ix_nI (by omega), a3, a4, hnm, Option.bind_some, w38, if_pos (ar_of s_896 (by omega) (by omega)), lt_eq, show gr (si m 896 (250 * s + k) (fndI (fnd T G.1 x.2.2.1.1 x.2.2.1.2))) 870 38 = 896 from w38, if_pos (ar_of s_896 (by omega) (by omega)), gi_si]
      simp only [lt_eq, nI_1]
    rw [drop_get hx]
    have f1 : FrM (fun x j => (x = 896 ∧ 250 * s ≤ j ∧ j < 250 * s + 250) ∨ (x = 870 ∧ (j = 15 ∨ j = 19 ∨ j = 20))) m (si m 896 (250 * s + k) (fndI (fnd T G.1 x.2.2.1.1 x.2.2.1.2))) := FrM.si (P := fun x j => (x = 896 ∧ 250 * s ≤ j ∧ j < 250 * s + 250) ∨ (x = 870 ∧ (j = 15 ∨ j = 19 ∨ j = 20))) (by omega)
    cases hf : fnd T G.1 x.2.2.1.1 x.2.2.1.2 with
    | none =>
      rw [hf] at hbody f1
      rw [if_pos (show fndI none = -1 from rfl)] at hbody
      rw [lp_exit (y := .inr (nI (250 * s + k), si m 896 (250 * s + k) (fndI none))) hbody, List.find?_cons_of_pos (show noT T G x = true by unfold noT; rw [hf]; rfl)]
      have v36 : gr (si m 896 (250 * s + k) (fndI none)) 870 36 = 894 := w36
      have va3 : gi (si m 896 (250 * s + k) (fndI none)) 894 (250 * s + k) = nI x.2.2.1.1 := by simp only [mS]; rw [if_neg (by omega)]; exact a3
      generalize si m 896 (250 * s + k) (fndI none) = m1 at *
      have f2 : FrM (fun x j => (x = 896 ∧ 250 * s ≤ j ∧ j < 250 * s + 250) ∨ (x = 870 ∧ (j = 15 ∨ j = 19 ∨ j = 20))) m1 (si (si (si m1 870 15 (nI x.2.2.1.1)) 870 19 (nI 4)) 870 20 (nI x.2.2.1.1)) := ((FrM.si (P := fun x j => (x = 896 ∧ 250 * s ≤ j ∧ j < 250 * s + 250) ∨ (x = 870 ∧ (j = 15 ∨ j = 19 ∨ j = 20))) (by omega)).tr (FrM.si (P := fun x j => (x = 896 ∧ 250 * s ≤ j ∧ j < 250 * s + 250) ∨ (x = 870 ∧ (j = 15 ∨ j = 19 ∨ j = 20))) (by omega))).tr (FrM.si (P := fun x j => (x = 896 ∧ 250 * s ≤ j ∧ j < 250 * s + 250) ∨ (x = 870 ∧ (j = 15 ∨ j = 19 ∨ j = 20))) (by omega))
      refine ⟨0, _, ?_, f1.tr f2, rfl, ?_, gi_si _ _ _ _⟩
      · show f_X12_registry_j382 TT m1 870 (nI (250 * s + k)) = _
        unfold f_X12_registry_j382 f_X12_fault
        rw [v36, if_pos (ar_of s_894 (by omega) (by omega)), lt_eq, ix_nI (by omega), va3, lt_eq, lt_eq, bd_some, if_pos (show zb 0 = true from rfl)]
        rw [show gi (si (si m1 870 15 (nI x.2.2.1.1)) 870 19 4) 870 15 = nI x.2.2.1.1 from by simp only [mS]; rw [if_neg (by omega), if_pos ⟨trivial, trivial⟩]]
        rfl
      · simp only [mS]
        rw [if_neg (by omega), if_pos ⟨trivial, trivial⟩]
    | some p =>
      rw [hf] at hbody f1 hfn
      rw [if_neg (fun e => by have := hfn.mp e; cases this)] at hbody
      rw [List.find?_cons_of_neg (show ¬ noT T G x = true by unfold noT; rw [hf]; simp), lp_step hbody]
      have htg : tgt T G x = p := by unfold tgt; rw [hf]; rfl
      have M1 : MT (si m 896 (250 * s + k) (fndI (some p))) n T := hM.keepS (s := s) (FrM.si (by unfold FS; omega))
      have D1 : DM s (si m 896 (250 * s + k) (fndI (some p))) T G := by
        obtain ⟨dn, ep, er, ec, ek⟩ := hD
        exact ⟨dn.keep (fun x j a b => by simp only [mS]; rw [if_neg (by omega)]), ep.keep (fun x j a b => by simp only [mS]; rw [if_neg (by omega)]), er.keep (fun x j a b => ⟨by simp only [mS]; rw [if_neg (by omega)], rfl⟩), ec.keep (fun x j a b => by simp only [mS]; rw [if_neg (by omega)]), ek.keep (fun x j a => ⟨by simp only [mS]; rw [if_neg (by omega)], rfl⟩)⟩
      obtain ⟨v', m', e1, e2, e3⟩ := ih (k + 1) N _ (by omega) (by omega) M1 D1 (fun c y hck hy => by
        by_cases h : c = k
        · subst h
          rw [hx] at hy
          cases hy
          rw [htg]
          exact gi_si _ _ _ _
        · simp only [mS]
          rw [if_neg (by omega)]
          exact hc c y (by omega) hy)
      exact ⟨v', m', e1, f1.tr e2, e3⟩
theorem tgF {s : Nat} {m m' : Mi} (h : FrM (fun x j => (x = 896 ∧ 250 * s ≤ j ∧ j < 250 * s + 250) ∨ (x = 870 ∧ (j = 15 ∨ j = 19 ∨ j = 20))) m m') : FrM (FS s) m m' := by
  refine h.mono (fun x j e => ?_)
  rcases e with ⟨h1, h2, h3⟩ | ⟨h1, h2⟩
  · exact Or.inr (Or.inr (Or.inr (Or.inr (Or.inr (Or.inr (Or.inl ⟨by omega, h2, h3⟩))))))
  · exact Or.inl (Or.inl ⟨h1, by omega⟩)
theorem registry_M {s n : Nat} {m : Mi} {T : Nat → Nat} (hs : s < 2) (hM : MT m n T) (hC : CurM m T n (tl T n 0)) :
    ∃ v m', f_X12_registry TT m 870 (nI s) = some (v, m') ∧ MT m' n T ∧ FrM (FS s) m m' ∧ ((v = 0 ∧ nwR T n = none ∧ ∃ c p, gi m' 870 19 = nI c ∧ gi m' 870 20 = nI p ∧ rdA T n = c + 8 * p) ∨ (v = 1 ∧ ∃ l G, pAll T (tl T n 0) = .inr (l, G) ∧ unk T G = none ∧ nwR T n = some G ∧ rdA T n = 0 ∧ DM s m' T G ∧ PF s m' G ∧ LT s m' T G)) := by
  have hW := hM.1.W
  have hF : 12 < FUEL := by unfold FUEL; omega
  unfold f_X12_registry
  rw [hW.1, if_pos (ar_of s_881 hs (by omega)), lt_eq, ix_nI (by omega), show gr (si m 881 s 0) 870 24 = 882 from hW.2.1, if_pos (ar_of s_882 hs (by omega)), lt_eq, show gr (si (si m 881 s 0) 882 s 0) 870 25 = 883 from hW.2.2.1, if_pos (ar_of s_883 hs (by omega)), lt_eq, show gr (si (si (si m 881 s 0) 882 s 0) 883 s 0) 870 26 = 884 from hW.2.2.2.1, if_pos (ar_of s_884 hs (by omega)), lt_eq]
  have f1 : FrM (FS s) m (si (si (si (si m 881 s 0) 882 s 0) 883 s 0) 884 s 0) := (((FrM.si (by unfold FS; omega)).tr (FrM.si (by unfold FS; omega))).tr (FrM.si (by unfold FS; omega))).tr (FrM.si (by unfold FS; omega))
  have D1 : DM s (si (si (si (si m 881 s 0) 882 s 0) 883 s 0) 884 s 0) T ([], ([], [])) := by
    refine ⟨⟨?_, ?_, ?_, ?_⟩, fun p x h => by simp at h, fun p x h => by simp at h, fun p x h => by simp at h, fun p x h => by simp at h⟩
    · show _ = nI 0
      simp [mS, nI_0]
    · show _ = nI 0
      simp [mS, nI_0]
    · show _ = nI 0
      simp [mS, nI_0]
    · show _ = nI 0
      simp [mS, nI_0]
  have C1 : CurM (si (si (si (si m 881 s 0) 882 s 0) 883 s 0) 884 s 0) T n (tl T n 0) := hC.keep (fun j a b => by simp only [mS]; rw [if_neg (by omega), if_neg (by omega), if_neg (by omega), if_neg (by omega)])
  have M1 := hM.keepS f1
  generalize si (si (si (si m 881 s 0) 882 s 0) 883 s 0) 884 s 0 = m1 at *
  have hs0 : Sfx (tl T n 0) (tl T n 0) := ⟨0, rfl⟩
  have r2 := mpacks_lp (n := n) (T := T) (fun y => f_X12_registry_j234 TT y 870 (nI s)) hs 10 FUEL m1 (tl T n 0) ([], ([], [])) (by omega) M1 C1 hs0 D1 (fun h => absurd rfl h) ⟨by simp, by simp, by simp⟩ (GW_nil T n) rfl (by simp) (by simp) (by simp)
  unfold f_X12_registry_j28
  have bad : ∀ (e : Nat × List Tok) (m' : Mi), pAll T (tl T n 0) = .inl e → OuM s m1 m' T n (.inl e) 0 → ∃ v m'', some ((0 : Int32), m') = some (v, m'') ∧ MT m'' n T ∧ FrM (FS s) m m'' ∧ ((v = 0 ∧ nwR T n = none ∧ ∃ c p, gi m'' 870 19 = nI c ∧ gi m'' 870 20 = nI p ∧ rdA T n = c + 8 * p) ∨ (v = 1 ∧ ∃ l G, pAll T (tl T n 0) = .inr (l, G) ∧ unk T G = none ∧ nwR T n = some G ∧ rdA T n = 0 ∧ DM s m'' T G ∧ PF s m'' G ∧ LT s m'' T G)) := by
    intro e m' hpa o
    refine ⟨0, m', rfl, o.1, f1.tr o.2.1, Or.inl ⟨rfl, ?_, e.1, pl0 n e.2, o.inl.2.1, o.inl.2.2, ?_⟩⟩
    · unfold nwR; rw [hpa]
    · unfold rdA; rw [hpa]
  cases hp : pPacks T 10 (tl T n 0) ([], ([], [])) with
  | inl e =>
    rw [hp] at r2
    obtain ⟨m2, e2, o2⟩ := r2
    rw [e2]
    exact bad e m2 (by unfold pAll; rw [hp]; rfl) o2
  | inr w =>
    obtain ⟨l2, G2⟩ := w
    rw [hp] at r2
    obtain ⟨m2, e2, o2, F2⟩ := r2
    rw [e2]
    obtain ⟨_, D2, C2, hl2⟩ := o2.inr
    obtain ⟨w1, w2, w3, w4, w5, w6⟩ := pPacks_W 10 _ _ _ _ hs0 (GW_nil T n) rfl (Nat.zero_le _) (Nat.zero_le _) hp
    have w4 : G2.1.length ≤ 0 + 10 := w4
    have hB2 : BGd G2 := ⟨by omega, by omega, by omega⟩
    have r3 := mwants_lp (n := n) (T := T) (fun y => f_X12_registry_j309 TT y 870 (nI s)) hs 10 FUEL m2 l2 G2 (by omega) o2.1 C2 hl2 D2 F2 hB2 w2 (by omega) (by omega)
    show ∃ v m', f_X12_registry_j234 TT m2 870 (nI s) = some (v, m') ∧ _
    unfold f_X12_registry_j234
    cases hw : pWants 10 l2 G2 with
    | inl e =>
      rw [hw] at r3
      obtain ⟨m3, e3, o3⟩ := r3
      rw [e3]
      exact bad e m3 (by unfold pAll; rw [hp]; show bnR (pWants 10 l2 G2) _ = _; rw [hw]; rfl) (OuM.tr o2.2.1 o3)
    | inr w =>
      obtain ⟨l3, G3⟩ := w
      rw [hw] at r3
      obtain ⟨m3, e3, o3, F3⟩ := r3
      have o3 := OuM.tr o2.2.1 o3
      rw [e3]
      obtain ⟨_, D3, C3, hl3⟩ := o3.inr
      obtain ⟨y1, y2, y3, y4, y5⟩ := pWants_W 10 _ _ _ _ w1 w2 hw
      have hB3 : BGd G3 := ⟨by rw [y3]; exact hB2.1, by rw [y4]; exact hB2.2.1, by omega⟩
      have hpa : pAll T (tl T n 0) = if kd0 l3 = 0 then .inr (l3, G3) else .inl (1, l3) := by
        unfold pAll
        rw [hp]
        show bnR (pWants 10 l2 G2) _ = _
        rw [hw]
        rfl
      show ∃ v m', f_X12_registry_j309 TT m3 870 (nI s) = some (v, m') ∧ _
      unfold f_X12_registry_j309
      by_cases h0 : kd0 l3 = 0
      · rw [if_pos h0] at hpa
        rw [if_pos (show gi m3 870 14 = 0 from (kdM C3 hl3 0 (by omega) (by omega) (by omega)).mpr h0)]
        obtain ⟨v4, m4, e4, f4, t4⟩ := mtgt_lp hs hB3 y2 G3.2.2.length 0 FUEL m3 (by omega) (by have := hB3.2.2; unfold FUEL; omega) o3.1 D3 (fun c x hc => by omega)
        rw [List.drop_zero] at t4
        have f4s : FrM (FS s) m3 m4 := tgF f4
        have M4 := o3.1.keepS f4s
        unfold f_X12_registry_j324
        rw [show lp (fun x : Int32 × Mi => f_X12_registry_l324 TT x.2 870 (nI s) x.1) FUEL (0, m3) = lp (fun x : Int32 × Mi => f_X12_registry_l324 TT x.2 870 (nI s) x.1) FUEL (nI 0, m3) from rfl, e4]
        have hun : unk T G3 = G3.2.2.find? (noT T G3) := rfl
        cases hu : G3.2.2.find? (noT T G3) with
        | some x =>
          rw [hu] at t4
          obtain ⟨t1, t2, t3⟩ := t4
          refine ⟨v4, m4, rfl, M4, (f1.tr o3.2.1).tr f4s, Or.inl ⟨t1, ?_, 4, x.2.2.1.1, t2, t3, ?_⟩⟩
          · unfold nwR; rw [hpa]; show (if (unk T G3).isNone = true then some G3 else none) = _; rw [hun, hu]; rfl
          · unfold rdA; rw [hpa]; show (match unk T G3 with | some x => 4 + 8 * x.2.2.1.1 | none => 0) = _; rw [hun, hu]
        | none =>
          rw [hu] at t4
          obtain ⟨t1, t2⟩ := t4
          have D4 : DM s m4 T G3 := by
            obtain ⟨dn, ep, er, ec, ek⟩ := D3
            exact ⟨dn.keep (fun x j a b => (f4.1 x j (by omega)).1), ep.keep (fun x j a b => (f4.1 x j (by omega)).1), er.keep (fun x j a b => f4.1 x j (by omega)), ec.keep (fun x j a b => (f4.1 x j (by omega)).1), ek.keep (fun x j a => f4.1 x j (by omega))⟩
          refine ⟨v4, m4, rfl, M4, (f1.tr o3.2.1).tr f4s, Or.inr ⟨t1, l3, G3, hpa, by rw [hun]; exact hu, ?_, ?_, D4, F3.keep rfl rfl (f4.1 _ _ (by omega)).1, t2⟩⟩
          · unfold nwR; rw [hpa]; show (if (unk T G3).isNone = true then some G3 else none) = _; rw [hun, hu]; rfl
          · unfold rdA; rw [hpa]; show (match unk T G3 with | some x => 4 + 8 * x.2.2.1.1 | none => 0) = _; rw [hun, hu]
      · rw [if_neg h0] at hpa
        rw [if_neg (show ¬ gi m3 870 14 = 0 from fun e => h0 ((kdM C3 hl3 0 (by omega) (by omega) (by omega)).mp e))]
        obtain ⟨m4, e4, o4⟩ := faultO (s := s) (c := 1) o3.1 C3
        rw [show (1 : Int32) = nI 1 from rfl, e4]
        exact bad (1, l3) m4 hpa (OuM.tr o3.2.1 o4)
