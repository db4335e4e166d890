/-! The reference reads a registry: its loops. -/
theorem pRels_step {T : Nat → Nat} {d : Nat} {l : List Tok} {G : Rg} (h : kd0 l = 8) (h6 : cntR G.2.1 (G.1.length - 1) ≠ 6) : pRels T (d + 1) l G = bnR (pRel1 T l G) (fun l' G' => pRels T d l' G') := by
  rw [pRels, if_pos h]
  unfold pRel1
  rw [if_pos h, if_neg h6]
  by_cases hd : dupR T G (pl0 0 l) (en0 0 l) = true
  · rw [if_pos hd, if_pos hd]
    rfl
  · rw [if_neg hd, if_neg hd]
    cases pLinks 4 l.tail (addR (pl0 0 l) (en0 0 l) G) with
    | inl e => rfl
    | inr w =>
      obtain ⟨l1, G1⟩ := w
      show pExp 12 l1 (fun l'' => pRels T d l'' G1) = bnR (pExp 12 l1 (fun l'' => .inr (l'', G1))) (fun l' G' => pRels T d l' G')
      unfold pExp
      by_cases h12 : kd0 l1 = 12
      · rw [if_pos h12, if_pos h12]
        rfl
      · rw [if_neg h12, if_neg h12]
        rfl
theorem pRel1_W {T : Nat → Nat} {n : Nat} {l l' : List Tok} {G G' : Rg} (hs : Sfx (tl T n 0) l) (hG : GW T n G) (hI : lnkN G.2.2 = G.2.2.length) (hP : G.1 ≠ []) (h4 : G.2.2.length ≤ 4 * G.2.1.length) (h : pRel1 T l G = .inr (l', G')) :
    GW T n G' ∧ lnkN G'.2.2 = G'.2.2.length ∧ G'.1 = G.1 ∧ G'.2.1.length = G.2.1.length + 1 ∧ cntR G'.2.1 (G.1.length - 1) = cntR G.2.1 (G.1.length - 1) + 1 ∧ G'.2.2.length ≤ 4 * G'.2.1.length := by
  unfold pRel1 at h
  by_cases h8 : kd0 l = 8
  · rw [if_pos h8] at h
    by_cases h6 : cntR G.2.1 (G.1.length - 1) = 6
    · rw [if_pos h6] at h; cases h
    · rw [if_neg h6] at h
      cases hd : dupR T G (pl0 0 l) (en0 0 l) with
      | true => rw [hd, if_pos rfl] at h; cases h
      | false =>
        rw [hd, if_neg fNt] at h
        obtain ⟨l1, G1, h1, h2⟩ := bnR_inr h
        obtain ⟨h3, h5⟩ := pExp_inr h2
        cases h5
        have tn := tok_name hs (by omega)
        obtain ⟨ns, is, hrd⟩ := tok_ver hs h8
        obtain ⟨gw, il⟩ := GW_addR (a := pl0 0 l) (b := en0 0 l) hG hI hP ⟨tn.2.2.1, tn.2.2.2, ns, is, hrd⟩ hd
        obtain ⟨w1, w2, w3, w4, w5, w6⟩ := pLinks_W 4 _ _ _ _ hs.tail gw il addR_ne h1
        have al := addR_len (a := pl0 0 l) (b := en0 0 l) (G := G)
        have ac : (addR (pl0 0 l) (en0 0 l) G).2.2 = G.2.2 := rfl
        rw [ac] at w6
        refine ⟨w2, w3.1, w4, by rw [w5]; exact al.1, by rw [w5]; exact al.2, by rw [w5, al.1]; omega⟩
  · rw [if_neg h8] at h; cases h
theorem mrels_lp {s n : Nat} {T : Nat → Nat} {a2 : Int32} (hs : s < 2) : ∀ (d N : Nat) (m : Mi) (l : List Tok) (G : Rg), d + 1 < N → MT m n T → CurM m T n l → Sfx (tl T n 0) l → DM s m T G → BGd G → GW T n G → lnkN G.2.2 = G.2.2.length → G.1 ≠ [] → cntR G.2.1 (G.1.length - 1) + d = 6 → G.2.1.length + d ≤ 60 → G.2.2.length ≤ 4 * G.2.1.length →
    ∃ y v m', lp (fun x : Mi => f_X12_registry_l190 TT x 870 (nI s) a2) N m = some y ∧ OuM s m m' T n (bnR (pRels T d l G) (fun l' G' => if kd0 l' = 11 then .inr (l', G') else .inl (1, l'))) v ∧ (v = 0 → y = .inr m') ∧ (v = 1 → y = .inl m') := by
  have shut : ∀ (N : Nat) (m : Mi) (l : List Tok) (G : Rg), 0 < N → MT m n T → CurM m T n l → Sfx (tl T n 0) l → DM s m T G → kd0 l = 11 → ∃ y v m', lp (fun x : Mi => f_X12_registry_l190 TT x 870 (nI s) a2) N m = some y ∧ OuM s m m' T n (if kd0 l = 11 then .inr (l, G) else .inl (1, l)) v ∧ (v = 0 → y = .inr m') ∧ (v = 1 → y = .inl m') := by
    intro N m l G hN hM hC hl hD h11
    obtain ⟨N, rfl⟩ : ∃ y, N = y + 1 := ⟨N - 1, by omega⟩
    rw [if_pos h11]
    refine ⟨.inl m, 1, m, lp_exit ?_, ⟨hM, FrM.rf, rfl, hD, hC, hl⟩, fun h => absurd h (by decide), fun _ => rfl⟩
    show f_X12_registry_l190 TT m 870 (nI s) a2 = _
    unfold f_X12_registry_l190
    rw [if_pos (show gi m 870 14 = 5 from (kdM hC hl 11 (by omega) (by omega) (by omega)).mpr h11)]
  have other : ∀ (N : Nat) (m : Mi) (l : List Tok) (G : Rg), MT m n T → CurM m T n l → Sfx (tl T n 0) l → DM s m T G → BGd G → GW T n G → lnkN G.2.2 = G.2.2.length → G.1 ≠ [] → cntR G.2.1 (G.1.length - 1) ≤ 6 → (cntR G.2.1 (G.1.length - 1) < 6 → G.2.1.length < 60) → G.2.2.length ≤ 4 * G.2.1.length → kd0 l ≠ 11 → ∃ v m1, OuM s m m1 T n (pRel1 T l G) v ∧ f_X12_registry_l190 TT m 870 (nI s) a2 = if v = 0 then some (.inr (.inr m1)) else some (.inl m1) := by
    intro N m l G hM hC hl hD hB hG hI hP h6 h60 h4 h11
    obtain ⟨v, m1, e1, o1⟩ := rel_M hs hM hC hl hD hB hG hI hP h6 h60 h4
    refine ⟨v, m1, o1, ?_⟩
    unfold f_X12_registry_l190
    rw [if_neg (show ¬ gi m 870 14 = 5 from fun e => h11 ((kdM hC hl 11 (by omega) (by omega) (by omega)).mp e)), e1, bd_some]
  intro d
  induction d with
  | zero =>
    intro N m l G hN hM hC hl hD hB hG hI hP hc hR h4
    rw [pRels]
    by_cases h11 : kd0 l = 11
    · rw [if_neg (by omega)]
      exact shut N m l G (by omega) hM hC hl hD h11
    · obtain ⟨v, m1, o1, hb⟩ := other N m l G hM hC hl hD hB hG hI hP (by omega) (fun h => by omega) h4 h11
      have hr : pRel1 T l G = .inl (if kd0 l = 8 then 2 else 1, l) := by
        unfold pRel1
        by_cases h8 : kd0 l = 8
        · rw [if_pos h8, if_pos (by omega), if_pos h8]
        · rw [if_neg h8, if_neg h8]
      have hr2 : bnR (if kd0 l = 8 then .inl (2, l) else .inr (l, G)) (fun l' G' => if kd0 l' = 11 then .inr (l', G') else .inl (1, l')) = .inl (if kd0 l = 8 then 2 else 1, l) := by
        by_cases h8 : kd0 l = 8
        · rw [if_pos h8, if_pos h8]; rfl
        · rw [if_neg h8, if_neg h8]
          show (if kd0 l = 11 then _ else _) = _
          rw [if_neg h11]
      rw [hr2]
      rw [hr] at o1
      have hv := o1.inl.1
      rw [hv, if_pos rfl] at hb
      obtain ⟨N, rfl⟩ : ∃ y, N = y + 1 := ⟨N - 1, by omega⟩
      refine ⟨.inr m1, 0, m1, lp_exit hb, by rw [hv] at o1; exact o1, fun _ => rfl, fun h => absurd h (by decide)⟩
  | succ d ih =>
    intro N m l G hN hM hC hl hD hB hG hI hP hc hR h4
    by_cases h11 : kd0 l = 11
    · rw [pRels, if_neg (by omega)]
      exact shut N m l G (by omega) hM hC hl hD h11
    · obtain ⟨v, m1, o1, hb⟩ := other N m l G hM hC hl hD hB hG hI hP (by omega) (fun h => by omega) h4 h11
      obtain ⟨N, rfl⟩ : ∃ y, N = y + 1 := ⟨N - 1, by omega⟩
      by_cases h8 : kd0 l = 8
      · rw [pRels_step h8 (by omega)]
        cases hp : pRel1 T l G with
        | inl e =>
          rw [hp] at o1
          have hv := o1.inl.1
          rw [hv, if_pos rfl] at hb
          exact ⟨.inr m1, 0, m1, lp_exit hb, by rw [hv] at o1; exact o1, fun _ => rfl, fun h => absurd h (by decide)⟩
        | inr w =>
          obtain ⟨l1, G1⟩ := w
          rw [hp] at o1
          obtain ⟨hv, hD1, hC1, hl1⟩ := o1.inr
          obtain ⟨w1, w2, w3, w4, w5, w6⟩ := pRel1_W hl hG hI hP h4 hp
          rw [hv, if_neg (by decide)] at hb
          obtain ⟨y, v', m', e', o', y1, y2⟩ := ih N m1 l1 G1 (by omega) o1.1 hC1 hl1 hD1 ⟨by rw [w3]; exact hB.1, by omega, by omega⟩ w1 w2 (by rw [w3]; exact hP) (by rw [w3, w5]; omega) (by omega) w6
          exact ⟨y, v', m', by rw [lp_step hb]; exact e', OuM.tr o1.2.1 o', y1, y2⟩
      · have hr : pRel1 T l G = .inl (1, l) := by unfold pRel1; rw [if_neg h8]
        rw [hr] at o1
        have hv := o1.inl.1
        rw [hv, if_pos rfl] at hb
        rw [pRels, if_neg h8]
        refine ⟨.inr m1, 0, m1, lp_exit hb, ?_, fun _ => rfl, fun h => absurd h (by decide)⟩
        show OuM s m m1 T n (if kd0 l = 11 then _ else _) 0
        rw [if_neg h11]
        rw [hv] at o1
        exact o1
/-- behind the last package the next release is told -/
def PF (s : Nat) (m : Mi) (G : Rg) : Prop := G.1 ≠ [] → gi m 887 (11 * s + G.1.length) = nI G.2.1.length
theorem st5 {m : Mi} {s p : Nat} (hW : WM m) (hs : s < 2) (hp : gi m 881 s = nI p) (hp10 : p < 10) {α : Type} (K : Int32 → Mi → Option α) :
    (if ar TT (gr m 870 23) .int (nI s) = true then
    lt (gi m (gr m 870 23) (ix (nI s))) fun x66 =>
    (if ar TT (gr m 870 27) .int ((10 * nI s) + x66) = true then
    lt (si m (gr m 870 27) (ix ((10 * nI s) + x66)) (gi m 870 15)) fun m68 =>
    (if ar TT (gr m68 870 28) .int ((10 * nI s) + x66) = true then
    lt (si m68 (gr m68 870 28) (ix ((10 * nI s) + x66)) ((gi m68 870 16) - (gi m68 870 15))) fun m70 =>
    (if ar TT (gr m70 870 24) .int (nI s) = true then
    (if ar TT (gr m70 870 29) .int ((11 * nI s) + x66) = true then
    lt (si m70 (gr m70 870 29) (ix ((11 * nI s) + x66)) (gi m70 (gr m70 870 24) (ix (nI s)))) fun m73 =>
    (if ar TT (gr m73 870 23) .int (nI s) = true then
    lt (si m73 (gr m73 870 23) (ix (nI s)) (x66 + 1)) fun m75 => K x66 m75
    else none)
    else none)
    else none)
    else none)
    else none)
    else none) = K (nI p) (si (si (si (si m 885 (10 * s + p) (gi m 870 15)) 886 (10 * s + p) (gi m 870 16 - gi m 870 15)) 887 (11 * s + p) (gi m 882 s)) 881 s (nI (p + 1))) := by
  obtain ⟨w23, w24, _, _, w27, w28, w29, _⟩ := hW
  rw [w23, if_pos (ar_of s_881 hs (by omega)), lt_eq, ix_nI (by omega), hp, w27, show (10 : Int32) = nI 10 from rfl, pk_mul, nI_add, if_pos (ar_of s_885 (by omega) (by omega)), lt_eq, ix_nI (by omega)]
  rw [show gr (si m 885 (10 * s + p) (gi m 870 15)) 870 28 = 886 from w28, if_pos (ar_of s_886 (by omega) (by omega)), lt_eq]
  rw [show gi (si m 885 (10 * s + p) (gi m 870 15)) 870 15 = gi m 870 15 from by simp only [mS]; rw [if_neg (by omega)]]
  rw [show gi (si m 885 (10 * s + p) (gi m 870 15)) 870 16 = gi m 870 16 from by simp only [mS]; rw [if_neg (by omega)]]
  rw [show gr (si (si m 885 (10 * s + p) (gi m 870 15)) 886 (10 * s + p) (gi m 870 16 - gi m 870 15)) 870 24 = 882 from w24, if_pos (ar_of s_882 hs (by omega)), show gr (si (si m 885 (10 * s + p) (gi m 870 15)) 886 (10 * s + p) (gi m 870 16 - gi m 870 15)) 870 29 = 887 from w29, show (11 : Int32) = nI 11 from rfl, pk_mul, nI_add, if_pos (ar_of s_887 (by omega) (by omega)), lt_eq, ix_nI (by omega)]
  rw [show gi (si (si m 885 (10 * s + p) (gi m 870 15)) 886 (10 * s + p) (gi m 870 16 - gi m 870 15)) 882 s = gi m 882 s from by simp only [mS]; rw [if_neg (by omega), if_neg (by omega)]]
  rw [show gr (si (si (si m 885 (10 * s + p) (gi m 870 15)) 886 (10 * s + p) (gi m 870 16 - gi m 870 15)) 887 (11 * s + p) (gi m 882 s)) 870 23 = 881 from w23, if_pos (ar_of s_881 hs (by omega)), lt_eq, nI_1]
abbrev jR (K : Mi → Option (Int32 × Mi)) : Mi ⊕ (Mi ⊕ (Mi ⊕ (Mi ⊕ (Mi ⊕ Mi)))) → Option (Int32 × Mi) := Sum.elim K (Sum.elim (fun y : Mi => f_X12_registry_j48 TT y 870) (Sum.elim (fun y : Mi => f_X12_registry_j66 TT y 870) (Sum.elim (fun y : Mi => f_X12_registry_j94 TT y 870) (Sum.elim (fun y : Mi => f_X12_registry_j180 TT y 870) (fun y : Mi => f_X12_registry_j206 TT y)))))
/-- how a loop of the registry goes on: with K, or it failed -/
def GoM (s : Nat) (m : Mi) (T : Nat → Nat) (n : Nat) (r : RgS) (K : Mi → Option (Int32 × Mi)) (res : Option (Int32 × Mi)) : Prop := ∃ m', match r with
  | .inl e => res = some (0, m') ∧ OuM s m m' T n (.inl e) 0
  | .inr w => res = K m' ∧ OuM s m m' T n (.inr w) 1 ∧ PF s m' w.2
theorem GoM.tr {s n : Nat} {m m1 : Mi} {T : Nat → Nat} {r : RgS} {K : Mi → Option (Int32 × Mi)} {res : Option (Int32 × Mi)} (k : FrM (FS s) m m1) (h : GoM s m1 T n r K res) : GoM s m T n r K res := by
  obtain ⟨m', h⟩ := h
  cases r with
  | inl e => exact ⟨m', h.1, OuM.tr k h.2⟩
  | inr w => exact ⟨m', h.1, OuM.tr k h.2.1, h.2.2⟩
theorem mpacks_lp {s n : Nat} {T : Nat → Nat} (K : Mi → Option (Int32 × Mi)) (hs : s < 2) : ∀ (d N : Nat) (m : Mi) (l : List Tok) (G : Rg), d + 1 < N → MT m n T → CurM m T n l → Sfx (tl T n 0) l → DM s m T G → PF s m G → BGd G → GW T n G → lnkN G.2.2 = G.2.2.length → G.1.length + d = 10 → G.2.1.length ≤ 6 * G.1.length → G.2.2.length ≤ 4 * G.2.1.length →
    GoM s m T n (pPacks T d l G) K ((lp (fun x : Mi => f_X12_registry_l28 TT x 870 (nI s)) N m).bind (jR K)) := by
  have stop : ∀ (N : Nat) (m : Mi) (l : List Tok) (G : Rg), 0 < N → MT m n T → CurM m T n l → Sfx (tl T n 0) l → DM s m T G → PF s m G → kd0 l ≠ 3 → GoM s m T n (.inr (l, G)) K ((lp (fun x : Mi => f_X12_registry_l28 TT x 870 (nI s)) N m).bind (jR K)) := by
    intro N m l G hN hM hC hl hD hF h3
    obtain ⟨N, rfl⟩ : ∃ y, N = y + 1 := ⟨N - 1, by omega⟩
    rw [lp_exit (y := .inl m)]
    · exact ⟨m, rfl, ⟨hM, FrM.rf, rfl, hD, hC, hl⟩, hF⟩
    · show f_X12_registry_l28 TT m 870 (nI s) = _
      unfold f_X12_registry_l28
      rw [if_neg (show ¬ gi m 870 14 = 8 from fun e => h3 ((kdM hC hl 3 (by omega) (by omega) (by omega)).mp e))]
  intro d
  induction d with
  | zero =>
    intro N m l G hN hM hC hl hD hF hB hG hI hd h6 h4
    rw [pPacks]
    by_cases h3 : kd0 l = 3
    · rw [if_pos h3]
      obtain ⟨N, rfl⟩ : ∃ y, N = y + 1 := ⟨N - 1, by omega⟩
      obtain ⟨m1, e1, o1⟩ := faultO (s := s) (c := 2) hM hC
      rw [lp_exit (y := .inr (.inl m))]
      · refine ⟨m1, ?_, o1⟩
        show f_X12_registry_j48 TT m 870 = _
        unfold f_X12_registry_j48
        rw [show (2 : Int32) = nI 2 from rfl, e1]
      · show f_X12_registry_l28 TT m 870 (nI s) = _
        unfold f_X12_registry_l28
        rw [if_pos (show gi m 870 14 = 8 from (kdM hC hl 3 (by omega) (by omega) (by omega)).mpr h3), hM.1.W.1, if_pos (ar_of s_881 hs (by omega)), ix_nI (by omega), hD.1.1, if_pos (show nI G.1.length = 10 by rw [show G.1.length = 10 by omega]; rfl)]
    · rw [if_neg h3]
      exact stop N m l G (by omega) hM hC hl hD hF h3
  | succ d ih =>
    intro N m l G hN hM hC hl hD hF hB hG hI hd h6 h4
    rw [pPacks]
    by_cases h3 : kd0 l = 3
    · rw [if_pos h3]
      obtain ⟨N, rfl⟩ : ∃ y, N = y + 1 := ⟨N - 1, by omega⟩
      have hB2 := hB.2.1
      obtain ⟨m1, e1, k1, M1, C1⟩ := next_M hM hC hl (by omega) (by omega)
      have hl1 := hl.tail
      have W1 := M1.1.W
      have D1 := hD.keepR k1.F
      obtain ⟨⟨n1, n2, n3, n4⟩, eP, eR, eC, eK⟩ := D1
      have start : ∀ y, f_X12_registry_l28 TT m 870 (nI s) = y ↔ (if (gi m1 870 14) = 1 then
        (f_X12_packageCalled TT m1 870 (nI s) (gi m1 870 15) ((gi m1 870 16) - (gi m1 870 15))).bind fun x63 =>
        if x63 = (-1) then
          (if ar TT (gr m1 870 23) .int (nI s) = true then
          lt (gi m1 (gr m1 870 23) (ix (nI s))) fun x66 =>
          (if ar TT (gr m1 870 27) .int ((10 * nI s) + x66) = true then
          lt (si m1 (gr m1 870 27) (ix ((10 * nI s) + x66)) (gi m1 870 15)) fun m68 =>
          (if ar TT (gr m68 870 28) .int ((10 * nI s) + x66) = true then
          lt (si m68 (gr m68 870 28) (ix ((10 * nI s) + x66)) ((gi m68 870 16) - (gi m68 870 15))) fun m70 =>
          (if ar TT (gr m70 870 24) .int (nI s) = true then
          (if ar TT (gr m70 870 29) .int ((11 * nI s) + x66) = true then
          lt (si m70 (gr m70 870 29) (ix ((11 * nI s) + x66)) (gi m70 (gr m70 870 24) (ix (nI s)))) fun m73 =>
          (if ar TT (gr m73 870 23) .int (nI s) = true then
          lt (si m73 (gr m73 870 23) (ix (nI s)) (x66 + 1)) fun m75 =>
          (f_X12_token TT m75 870).bind fun m76 =>
          if (gi m76 870 14) = 4 then
            (f_X12_token TT m76 870).bind fun m78 =>
            f_X12_registry_j190 TT m78 870 (nI s) x66
          else
            some (.inr (.inr (.inr (.inr (.inr (.inl m76))))))
          else none)
          else none)
          else none)
          else none)
          else none)
          else none)
        else
          some (.inr (.inr (.inr (.inr (.inl m1)))))
      else
        some (.inr (.inr (.inr (.inl m1))))) = y := by
        intro y
        unfold f_X12_registry_l28
        rw [if_pos (show gi m 870 14 = 8 from (kdM hC hl 3 (by omega) (by omega) (by omega)).mpr h3), hM.1.W.1, if_pos (ar_of s_881 hs (by omega)), ix_nI (by omega), hD.1.1, if_neg (show ¬ nI G.1.length = 10 from fun e => by have := (nI_eq (b := 10) (by omega) (by omega)).mp e; omega), e1, Option.bind_some]
      by_cases h2 : kd0 l.tail = 2
      · rw [if_pos h2]
        have en := C1.ends hl1 (by omega) (by omega)
        have hcal := called_M hs M1 hB.1 n1 eP hG.2.1 (Nat.le_of_lt en.2.2.1) en.2.2.2.1
        have hfn := fndI_none (fnd T G.1 (pl0 0 l.tail) (en0 0 l.tail)) (fun p hp => by have := fnd_lt hp; omega)
        rw [if_pos (show gi m1 870 14 = 1 from (kdM C1 hl1 2 (by omega) (by omega) (by omega)).mpr h2), en.1, en.2.1, pk_sub (Nat.le_of_lt en.2.2.1), hcal, Option.bind_some] at start
        cases hf : (fnd T G.1 (pl0 0 l.tail) (en0 0 l.tail)).isSome with
        | true =>
          rw [if_pos rfl]
          rw [if_neg (fun e => by rw [hfn.mp e] at hf; cases hf)] at start
          obtain ⟨m2, e2, o2⟩ := faultO (s := s) (c := 3) M1 C1
          rw [lp_exit (y := .inr (.inr (.inr (.inl m1)))) ((start _).mpr rfl)]
          refine ⟨m2, ?_, OuM.tr k1.S o2⟩
          show f_X12_registry_j94 TT m1 870 = _
          unfold f_X12_registry_j94
          rw [show (3 : Int32) = nI 3 from rfl, e2]
        | false =>
          rw [if_neg fNt]
          rw [if_pos (hfn.mpr hf)] at start
          have st := st5 (m := m1) W1 hs n1 (show G.1.length < 10 by omega) (fun x66 m75 => (f_X12_token TT m75 870).bind fun m76 => if (gi m76 870 14) = 4 then (f_X12_token TT m76 870).bind fun m78 => f_X12_registry_j190 TT m78 870 (nI s) x66 else some (.inr (.inr (.inr (.inr (.inr (.inl m76)))))))
          rw [en.1, en.2.1, pk_sub (Nat.le_of_lt en.2.2.1), n2] at st
          rw [st] at start
          -- the new package
          have v1 : gi (si (si (si (si m1 885 (10 * s + G.1.length) (nI (pl0 0 l.tail))) 886 (10 * s + G.1.length) (nI (en0 0 l.tail - pl0 0 l.tail))) 887 (11 * s + G.1.length) (nI G.2.1.length)) 881 s (nI (G.1.length + 1))) 885 (10 * s + G.1.length) = nI (pl0 0 l.tail) := by
            simp only [mS]
            rw [if_neg (by omega), if_neg (by omega), if_neg (by omega), if_pos ⟨trivial, trivial⟩]
          have v2 : gi (si (si (si (si m1 885 (10 * s + G.1.length) (nI (pl0 0 l.tail))) 886 (10 * s + G.1.length) (nI (en0 0 l.tail - pl0 0 l.tail))) 887 (11 * s + G.1.length) (nI G.2.1.length)) 881 s (nI (G.1.length + 1))) 886 (10 * s + G.1.length) = nI (en0 0 l.tail - pl0 0 l.tail) := by
            simp only [mS]
            rw [if_neg (by omega), if_neg (by omega), if_pos ⟨trivial, trivial⟩]
          have v3 : gi (si (si (si (si m1 885 (10 * s + G.1.length) (nI (pl0 0 l.tail))) 886 (10 * s + G.1.length) (nI (en0 0 l.tail - pl0 0 l.tail))) 887 (11 * s + G.1.length) (nI G.2.1.length)) 881 s (nI (G.1.length + 1))) 887 (11 * s + G.1.length) = nI G.2.1.length := by
            simp only [mS]
            rw [if_neg (by omega), if_pos ⟨trivial, trivial⟩]
          have v4 : gi (si (si (si (si m1 885 (10 * s + G.1.length) (nI (pl0 0 l.tail))) 886 (10 * s + G.1.length) (nI (en0 0 l.tail - pl0 0 l.tail))) 887 (11 * s + G.1.length) (nI G.2.1.length)) 881 s (nI (G.1.length + 1))) 881 s = nI (G.1.length + 1) := gi_si _ _ _ _
          have f2 : FrM (fun x j => ((x = 885 ∨ x = 886) ∧ j = 10 * s + G.1.length) ∨ (x = 887 ∧ j = 11 * s + G.1.length) ∨ (x = 881 ∧ j = s)) m1 (si (si (si (si m1 885 (10 * s + G.1.length) (nI (pl0 0 l.tail))) 886 (10 * s + G.1.length) (nI (en0 0 l.tail - pl0 0 l.tail))) 887 (11 * s + G.1.length) (nI G.2.1.length)) 881 s (nI (G.1.length + 1))) := (((FrM.si (P := fun x j => ((x = 885 ∨ x = 886) ∧ j = 10 * s + G.1.length) ∨ (x = 887 ∧ j = 11 * s + G.1.length) ∨ (x = 881 ∧ j = s)) (by omega)).tr (FrM.si (P := fun x j => ((x = 885 ∨ x = 886) ∧ j = 10 * s + G.1.length) ∨ (x = 887 ∧ j = 11 * s + G.1.length) ∨ (x = 881 ∧ j = s)) (by omega))).tr (FrM.si (P := fun x j => ((x = 885 ∨ x = 886) ∧ j = 10 * s + G.1.length) ∨ (x = 887 ∧ j = 11 * s + G.1.length) ∨ (x = 881 ∧ j = s)) (by omega))).tr (FrM.si (P := fun x j => ((x = 885 ∨ x = 886) ∧ j = 10 * s + G.1.length) ∨ (x = 887 ∧ j = 11 * s + G.1.length) ∨ (x = 881 ∧ j = s)) (by omega))
          generalize si (si (si (si m1 885 (10 * s + G.1.length) (nI (pl0 0 l.tail))) 886 (10 * s + G.1.length) (nI (en0 0 l.tail - pl0 0 l.tail))) 887 (11 * s + G.1.length) (nI G.2.1.length)) 881 s (nI (G.1.length + 1)) = m2 at *
          have f2s : FrM (FS s) m1 m2 := f2.mono (fun x j h => by unfold FS; omega)
          have M2 := M1.keepS f2s
          have C2 : CurM m2 T n l.tail := C1.keep (fun j a b => (f2.1 _ _ (by omega)).1)
          have tn := tok_name hl1 (by omega)
          have gw := GW_addP (a := pl0 0 l.tail) (b := en0 0 l.tail) hG (by omega) tn.2.2.2
          have pl : (addP (pl0 0 l.tail) (en0 0 l.tail) G).1.length = G.1.length + 1 := by
            show (G.1 ++ [_]).length = _
            rw [List.length_append, List.length_singleton]
          have hz : cntR (addP (pl0 0 l.tail) (en0 0 l.tail) G).2.1 ((addP (pl0 0 l.tail) (en0 0 l.tail) G).1.length - 1) = 0 := by
            rw [pl, Nat.add_sub_cancel]
            exact cntR_zero hG.1.1
          have pne : (addP (pl0 0 l.tail) (en0 0 l.tail) G).1 ≠ [] := by
            intro e
            rw [e] at pl
            simp at pl
          have D2 : DM s m2 T (addP (pl0 0 l.tail) (en0 0 l.tail) G) := by
            refine ⟨⟨by rw [pl]; exact v4, (f2.1 _ _ (by omega)).1.trans n2, (f2.1 _ _ (by omega)).1.trans n3, (f2.1 _ _ (by omega)).1.trans n4⟩, ?_, eR.keep (fun x j a b => f2.1 _ _ (by omega)), eC.keep (fun x j a b => (f2.1 _ _ (by omega)).1), eK.keep (fun x j a => f2.1 _ _ (by omega))⟩
            intro p x hx
            rcases app_get (l := G.1) hx with ⟨hpl, hx⟩ | ⟨hpl, hy⟩
            · obtain ⟨a1, a2, a3⟩ := eP p x hx
              exact ⟨(f2.1 _ _ (by omega)).1.trans a1, (f2.1 _ _ (by omega)).1.trans a2, (f2.1 _ _ (by omega)).1.trans a3⟩
            · subst hpl
              rw [hy]
              exact ⟨v1, v2, v3⟩
          obtain ⟨m3, e3, k3, M3, C3⟩ := next_M M2 C2 hl1 (by omega) (by omega)
          rw [e3, Option.bind_some] at start
          have f13 : FrM (FS s) m m3 := (k1.S.tr f2s).tr k3.S
          unfold pExp
          have hl2 := hl1.tail
          by_cases h10 : kd0 l.tail.tail = 10
          · rw [if_pos h10]
            obtain ⟨m4, e4, k4, M4, C4⟩ := next_M M3 C3 hl2 (by omega) (by omega)
            rw [if_pos (show gi m3 870 14 = 4 from (kdM C3 hl2 10 (by omega) (by omega) (by omega)).mpr h10), e4, Option.bind_some] at start
            have pr2 : (addP (pl0 0 l.tail) (en0 0 l.tail) G).2.1 = G.2.1 := rfl
            have pr3 : (addP (pl0 0 l.tail) (en0 0 l.tail) G).2.2 = G.2.2 := rfl
            have D4 := (D2.keepR k3.F).keepR k4.F
            have hBP : BGd (addP (pl0 0 l.tail) (en0 0 l.tail) G) := ⟨by omega, hB.2⟩
            obtain ⟨y5, v5, m5, e5, o5, y51, y52⟩ := mrels_lp (a2 := nI G.1.length) hs 6 FUEL m4 l.tail.tail.tail _ (by unfold FUEL; omega) M4 C4 hl2.tail D4 hBP gw hI pne (by omega) (by rw [pr2]; omega) h4
            have o5 := OuM.tr (f13.tr k4.S) o5
            unfold f_X12_registry_j190 at start
            rw [e5, Option.bind_some] at start
            show GoM s m T n (bnR (pRels T 6 l.tail.tail.tail (addP (pl0 0 l.tail) (en0 0 l.tail) G)) (fun l3 G3 => if kd0 l3 = 11 then pPacks T d l3.tail G3 else .inl (1, l3))) K _
            cases hpR : pRels T 6 l.tail.tail.tail (addP (pl0 0 l.tail) (en0 0 l.tail) G) with
            | inl e =>
              rw [hpR] at o5
              have o5 : OuM s m m5 T n (.inl e) v5 := o5
              have hv := o5.inl.1
              rw [y51 hv] at start
              rw [lp_exit (y := .inr (.inr (.inr (.inr (.inr m5))))) ((start _).mpr rfl)]
              exact ⟨m5, rfl, by rw [hv] at o5; exact o5⟩
            | inr w =>
              obtain ⟨l5, G5⟩ := w
              rw [hpR] at o5
              have o5 : OuM s m m5 T n (if kd0 l5 = 11 then .inr (l5, G5) else .inl (1, l5)) v5 := o5
              show GoM s m T n (if kd0 l5 = 11 then pPacks T d l5.tail G5 else .inl (1, l5)) K _
              by_cases h11 : kd0 l5 = 11
              · rw [if_pos h11] at o5 ⊢
                obtain ⟨hv, D5, C5, hl5⟩ := o5.inr
                rw [y52 hv] at start
                obtain ⟨w1, w2, w3, w4, w5, w6⟩ := pRels_W 6 _ _ _ _ hl2.tail gw hI pne h4 hpR
                rw [pr2] at w5
                have w4l := congrArg List.length w4
                rw [pl] at w4l
                have W5 := o5.1.1.W
                have hbody : f_X12_registry_j208 TT m5 870 (nI s) (nI G.1.length) = (f_X12_token TT (si m5 887 (11 * s + G.1.length + 1) (gi m5 882 s)) 870).bind fun m82 => some (.inl m82) := by
                  unfold f_X12_registry_j208
                  rw [W5.2.1, if_pos (ar_of s_882 hs (by omega)), W5.2.2.2.2.2.2.1, show (11 : Int32) = nI 11 from rfl, pk_mul, nI_add, nI_1, if_pos (ar_of s_887 (by omega) (by omega)), lt_eq, ix_nI (by omega), ix_nI (by omega)]
                have D5n := D5.1.2.1
                rw [D5n] at hbody
                have f6 : FrM (FS s) m5 (si m5 887 (11 * s + G.1.length + 1) (nI G5.2.1.length)) := FrM.si (by unfold FS; omega)
                have C6 : CurM (si m5 887 (11 * s + G.1.length + 1) (nI G5.2.1.length)) T n l5 := C5.keep (fun j a b => by simp only [mS]; rw [if_neg (by omega)])
                have v6 : gi (si m5 887 (11 * s + G.1.length + 1) (nI G5.2.1.length)) 887 (11 * s + G.1.length + 1) = nI G5.2.1.length := gi_si _ _ _ _
                have D6 : DM s (si m5 887 (11 * s + G.1.length + 1) (nI G5.2.1.length)) T G5 := by
                  obtain ⟨dn, ep, er, ec, ek⟩ := D5
                  refine ⟨dn.keep (fun x j a b => by simp only [mS]; rw [if_neg (by omega)]), fun p x hx => ?_, er.keep (fun x j a b => ⟨by simp only [mS]; rw [if_neg (by omega)], rfl⟩), ec.keep (fun x j a b => by simp only [mS]; rw [if_neg (by omega)]), ek.keep (fun x j a => ⟨by simp only [mS]; rw [if_neg (by omega)], rfl⟩)⟩
                  obtain ⟨a1, a2, a3⟩ := ep p x hx
                  have hpl := get_lt hx
                  refine ⟨?_, ?_, ?_⟩
                  · simp only [mS]; rw [if_neg (by omega)]; exact a1
                  · simp only [mS]; rw [if_neg (by omega)]; exact a2
                  · simp only [mS]; rw [if_neg (by omega)]; exact a3
                generalize si m5 887 (11 * s + G.1.length + 1) (nI G5.2.1.length) = m6 at *
                have M6 := o5.1.keepS f6
                obtain ⟨m7, e7, k7, M7, C7⟩ := next_M M6 C6 hl5 (by omega) (by omega)
                rw [e7, Option.bind_some] at hbody
                have hstep : f_X12_registry_l28 TT m 870 (nI s) = some (.inl m7) := (start _).mpr hbody
                have hF7 : PF s m7 G5 := by
                  intro _
                  rw [show 11 * s + G5.1.length = 11 * s + G.1.length + 1 by omega, (k7.F.1 _ _ (by unfold PR; omega)).1]
                  exact v6
                rw [lp_step hstep]
                have r := ih N m7 l5.tail G5 (by omega) M7 C7 hl5.tail (D6.keepR k7.F) hF7 ⟨by omega, by omega, by omega⟩ w2 w3 (by omega) (by omega) w6
                exact GoM.tr ((o5.2.1.tr f6).tr k7.S) r
              · rw [if_neg h11] at o5 ⊢
                have hv := o5.inl.1
                rw [y51 hv] at start
                rw [lp_exit (y := .inr (.inr (.inr (.inr (.inr m5))))) ((start _).mpr rfl)]
                exact ⟨m5, rfl, by rw [hv] at o5; exact o5⟩
          · rw [if_neg h10]
            rw [if_neg (show ¬ gi m3 870 14 = 4 from fun e => h10 ((kdM C3 hl2 10 (by omega) (by omega) (by omega)).mp e))] at start
            obtain ⟨m4, e4, o4⟩ := faultO (s := s) (c := 1) M3 C3
            rw [lp_exit (y := .inr (.inr (.inr (.inr (.inl m3))))) ((start _).mpr rfl)]
            refine ⟨m4, ?_, OuM.tr f13 o4⟩
            show f_X12_registry_j180 TT m3 870 = _
            unfold f_X12_registry_j180
            rw [show (1 : Int32) = nI 1 from rfl, e4]
      · rw [if_neg h2]
        rw [if_neg (show ¬ gi m1 870 14 = 1 from fun e => h2 ((kdM C1 hl1 2 (by omega) (by omega) (by omega)).mp e))] at start
        obtain ⟨m2, e2, o2⟩ := faultO (s := s) (c := 1) M1 C1
        rw [lp_exit (y := .inr (.inr (.inl m1))) ((start _).mpr rfl)]
        refine ⟨m2, ?_, OuM.tr k1.S o2⟩
        show f_X12_registry_j66 TT m1 870 = _
        unfold f_X12_registry_j66
        rw [show (1 : Int32) = nI 1 from rfl, e2]
    · rw [if_neg h3]
      exact stop N m l G (by omega) hM hC hl hD hF h3
