/-! The reference reads a release. -/
theorem pCon_N {k : Nat} {l l' : List Tok} {G G' : Rg} (h : pCon k l G = .inr (l', G')) : lnkN G'.2.2 = lnkN G.2.2 + (if k ≠ 4 then 1 else 0) ∧ G'.2.2.length = G.2.2.length + 1 ∧ G'.1 = G.1 ∧ G'.2.1 = G.2.1 := by
  unfold pCon at h
  split at h
  · split at h
    · cases h
      refine ⟨lnkN_app _ _, ?_, rfl, rfl⟩
      show (G.2.2 ++ [_]).length = _
      rw [List.length_append, List.length_singleton]
    · cases h
  · cases h
theorem DN.link {s : Nat} {m : Mi} {G G' : Rg} (h : DN s m G) (hs : s < 2) (h1 : lnkN G'.2.2 = lnkN G.2.2 + 1) (h2 : G'.2.2.length = G.2.2.length + 1) (h3 : G'.1 = G.1) (h4 : G'.2.1 = G.2.1) : DN s (si m 883 s (nI (lnkN G.2.2 + 1))) G' := by
  obtain ⟨a1, a2, a3, a4⟩ := h
  refine ⟨?_, ?_, ?_, ?_⟩
  · simp only [mS]; rw [if_neg (by omega), h3]; exact a1
  · simp only [mS]; rw [if_neg (by omega), h4]; exact a2
  · rw [h1]; exact gi_si _ _ _ _
  · simp only [mS]; rw [if_neg (by omega), h1, h2, show G.2.2.length + 1 - (lnkN G.2.2 + 1) = G.2.2.length - lnkN G.2.2 by omega]; exact a4
theorem DX.keep {s : Nat} {m m' : Mi} {T : Nat → Nat} {G : Rg} (h : DX s m T G) (k : ∀ x j, 885 ≤ x → x ≤ 898 → gi m' x j = gi m x j ∧ gl m' x j = gl m x j) : DX s m' T G :=
  ⟨h.1.keep (fun x j a b => (k x j (by omega) (by omega)).1), h.2.1.keep (fun x j a b => k x j (by omega) (by omega)), h.2.2.1.keep (fun x j a b => (k x j (by omega) (by omega)).1), h.2.2.2.keep (fun x j a => k x j (by omega) (by omega))⟩
theorem mlinks_lp {s n : Nat} {T : Nat → Nat} (hs : s < 2) : ∀ (d k N : Nat) (m : Mi) (l : List Tok) (G : Rg), k + d = 4 → d + 1 < N → MT m n T → CurM m T n l → Sfx (tl T n 0) l → DM s m T G → BGd G → GW T n G → IL G → G.2.1 ≠ [] → G.2.2.length + d < 250 →
    ∃ v m', (lp (fun x : Int32 × Mi => f_X12_release_l217 TT x.2 870 (nI s) (nI (G.2.1.length - 1)) x.1) N (nI k, m)).bind (Sum.elim (fun y : Mi => f_X12_release_j285 TT y 870) (Sum.elim (fun y : Mi => f_X12_release_j241 TT y 870) (fun y : Mi => f_X12_release_j266 TT y))) = some (v, m') ∧ OuM s m m' T n (bnR (pLinks d l G) (fun l' G' => pExp 12 l' (fun l'' => .inr (l'', G')))) v := by
  have stop : ∀ (k N : Nat) (m : Mi) (l : List Tok) (G : Rg) (r : Int32), 0 < N → MT m n T → CurM m T n l → Sfx (tl T n 0) l → DM s m T G → ¬ (kd0 l = 5 ∨ kd0 l = 6) →
      ∃ v m', (lp (fun x : Int32 × Mi => f_X12_release_l217 TT x.2 870 (nI s) r x.1) N (nI k, m)).bind (Sum.elim (fun y : Mi => f_X12_release_j285 TT y 870) (Sum.elim (fun y : Mi => f_X12_release_j241 TT y 870) (fun y : Mi => f_X12_release_j266 TT y))) = some (v, m') ∧ OuM s m m' T n (pExp 12 l (fun l'' => .inr (l'', G))) v := by
    intro k N m l G r hN hM hC hl hD hno
    obtain ⟨N, rfl⟩ : ∃ y, N = y + 1 := ⟨N - 1, by omega⟩
    rw [lp_exit (y := .inl m)]
    · show ∃ v m', f_X12_release_j285 TT m 870 = some (v, m') ∧ _
      unfold f_X12_release_j285 pExp
      by_cases h12 : kd0 l = 12
      · obtain ⟨m1, e1, k1, M1, C1⟩ := next_M hM hC hl (by omega) (by omega)
        rw [if_pos (show gi m 870 14 = 6 from (kdM hC hl 12 (by omega) (by omega) (by omega)).mpr h12), if_pos h12, e1, Option.bind_some]
        exact ⟨1, m1, rfl, M1, k1.S, rfl, hD.keepR k1.F, C1, hl.tail⟩
      · obtain ⟨m1, e1, o1⟩ := faultO (s := s) (c := 1) hM hC
        rw [if_neg (show ¬ gi m 870 14 = 6 from fun e => h12 ((kdM hC hl 12 (by omega) (by omega) (by omega)).mp e)), if_neg h12, show (1 : Int32) = nI 1 from rfl, e1]
        exact ⟨0, m1, rfl, o1⟩
    · show f_X12_release_l217 TT m 870 (nI s) r (nI k) = _
      unfold f_X12_release_l217
      rw [if_neg (show ¬ gi m 870 14 = 10 from fun e => hno (Or.inl ((kdM hC hl 5 (by omega) (by omega) (by omega)).mp e))), if_neg (show ¬ gi m 870 14 = 11 from fun e => hno (Or.inr ((kdM hC hl 6 (by omega) (by omega) (by omega)).mp e)))]
  have body : ∀ (k : Nat) (m : Mi) (l : List Tok) (r : Int32), CurM m T n l → Sfx (tl T n 0) l → (kd0 l = 5 ∨ kd0 l = 6) → f_X12_release_l217 TT m 870 (nI s) r (nI k) = f_X12_release_j235 TT m 870 (nI s) r (nI k) := by
    intro k m l r hC hl hk
    unfold f_X12_release_l217
    rcases hk with h | h
    · rw [if_pos (show gi m 870 14 = 10 from (kdM hC hl 5 (by omega) (by omega) (by omega)).mpr h)]
    · rw [if_neg (show ¬ gi m 870 14 = 10 from fun e => by have := (kdM hC hl 5 (by omega) (by omega) (by omega)).mp e; omega), if_pos (show gi m 870 14 = 11 from (kdM hC hl 6 (by omega) (by omega) (by omega)).mpr h)]
  intro d
  induction d with
  | zero =>
    intro k N m l G hk hN hM hC hl hD hB hG hI hR hC2
    rw [pLinks]
    by_cases hkd : kd0 l = 5 ∨ kd0 l = 6
    · rw [if_pos hkd]
      obtain ⟨N, rfl⟩ : ∃ y, N = y + 1 := ⟨N - 1, by omega⟩
      obtain ⟨m1, e1, o1⟩ := faultO (s := s) (c := 2) hM hC
      rw [lp_exit (y := .inr (.inl m))]
      · refine ⟨0, m1, ?_, o1⟩
        show f_X12_release_j241 TT m 870 = _
        unfold f_X12_release_j241
        rw [show (2 : Int32) = nI 2 from rfl, e1]
      · show f_X12_release_l217 TT m 870 (nI s) _ (nI k) = _
        rw [body k m l _ hC hl hkd]
        unfold f_X12_release_j235
        rw [if_pos (show nI k = 4 by rw [show k = 4 by omega]; rfl)]
    · rw [if_neg hkd]
      exact stop k N m l G _ (by omega) hM hC hl hD hkd
  | succ d ih =>
    intro k N m l G hk hN hM hC hl hD hB hG hI hR hC2
    rw [pLinks]
    by_cases hkd : kd0 l = 5 ∨ kd0 l = 6
    · rw [if_pos hkd]
      obtain ⟨N, rfl⟩ : ∃ y, N = y + 1 := ⟨N - 1, by omega⟩
      obtain ⟨v1, m1, e1, M1, f1, o1⟩ := con_M (rl := nI (G.2.1.length - 1)) hs hM hC hl hD hB (by omega) (Or.inr hkd) (by rw [if_neg (by omega)])
      have W1 := M1.1.W
      have hbody : f_X12_release_l217 TT m 870 (nI s) (nI (G.2.1.length - 1)) (nI k) = if v1 = 0 then some (.inr (.inr (.inr m1))) else some (.inl (nI (k + 1), si m1 883 s (gi m1 883 s + 1))) := by
        rw [body k m l _ hC hl hkd]
        unfold f_X12_release_j235
        rw [if_neg (show ¬ nI k = 4 from fun e => by have := (nI_eq (b := 4) (by omega) (by omega)).mp e; omega), lt_eq, hC.kd, e1, bd_some, W1.2.2.1, if_pos (ar_of s_883 hs (by omega)), lt_eq, ix_nI (by omega), nI_1]
      cases hp : pCon (kd0 l) l.tail G with
      | inl e =>
        rw [hp] at o1
        obtain ⟨c, l'⟩ := e
        obtain ⟨h1, h2, h3⟩ := o1
        rw [h1, if_pos rfl] at hbody
        rw [lp_exit (y := .inr (.inr m1)) hbody]
        exact ⟨0, m1, rfl, M1, f1, rfl, h2, h3⟩
      | inr w =>
        obtain ⟨l', G'⟩ := w
        rw [hp] at o1
        obtain ⟨h1, h2, h3, h4, h5⟩ := o1
        obtain ⟨c1, c2, c3, c4⟩ := pCon_N hp
        rw [if_pos (by omega)] at c1
        obtain ⟨w1, w2, w3, w4, w5, w6⟩ := pCon_W hl.tail hG (Or.inr hkd) (fun _ => hI) (fun _ => hR) hp
        rw [h1, if_neg (by decide), h2.2.2.1, nI_1] at hbody
        have f2 : FrM (FS s) m1 (si m1 883 s (nI (lnkN G.2.2 + 1))) := FrM.si (by unfold FS; omega)
        have M2 := M1.keepS f2
        have dn := h2.link (G' := G') hs c1 c2 c3 c4
        have dx : DX s (si m1 883 s (nI (lnkN G.2.2 + 1))) T G' := h3.keep (fun x j a b => ⟨by simp only [mS]; rw [if_neg (by omega)], rfl⟩)
        have C2 : CurM (si m1 883 s (nI (lnkN G.2.2 + 1))) T n l' := h4.keep (fun j a b => by simp only [mS]; rw [if_neg (by omega)])
        have hB' : BGd G' := ⟨by rw [c3]; exact hB.1, by rw [c4]; exact hB.2.1, by omega⟩
        have hr' : G'.2.1.length - 1 = G.2.1.length - 1 := by rw [c4]
        obtain ⟨v', m', e', o'⟩ := ih (k + 1) N _ l' G' (by omega) (by omega) M2 C2 h5 ⟨dn, dx⟩ hB' w2 (w3 (by omega)) (by rw [c4]; exact hR) (by omega)
        rw [hr'] at e'
        rw [lp_step hbody]
        exact ⟨v', m', e', OuM.tr (f1.tr f2) o'⟩
    · rw [if_neg hkd]
      exact stop k N m l G _ (by omega) hM hC hl hD hkd
theorem st3 {m : Mi} {i : Nat} {a : Int32} (hW : WM m) (hi : i < 120) {α : Type} (K : Mi → Option α) :
    (if ar TT (gr m 870 30) .int (nI i) = true then
    lt (si m (gr m 870 30) (ix (nI i)) a) fun m23 =>
    (if ar TT (gr m23 870 31) .int (nI i) = true then
    lt (si m23 (gr m23 870 31) (ix (nI i)) (gi m23 870 15)) fun m25 =>
    (if ar TT (gr m25 870 32) .int (nI i) = true then
    lt (si m25 (gr m25 870 32) (ix (nI i)) ((gi m25 870 16) - (gi m25 870 15))) fun m27 => K m27
    else none)
    else none)
    else none) = K (si (si (si m 888 i a) 889 i (gi m 870 15)) 890 i (gi m 870 16 - gi m 870 15)) := by
  obtain ⟨_, _, _, _, _, _, _, w30, w31, w32, _⟩ := hW
  rw [w30, if_pos (ar_of s_888 (by omega) (by omega)), lt_eq, ix_nI (by omega), show gr (si m 888 i a) 870 31 = 889 from w31, if_pos (ar_of s_889 (by omega) (by omega)), lt_eq]
  rw [show gi (si m 888 i a) 870 15 = gi m 870 15 from by simp only [mS]; rw [if_neg (by omega)]]
  rw [show gr (si (si m 888 i a) 889 i (gi m 870 15)) 870 32 = 890 from w32, if_pos (ar_of s_890 (by omega) (by omega)), lt_eq]
  rw [show gi (si (si m 888 i a) 889 i (gi m 870 15)) 870 15 = gi m 870 15 from by simp only [mS]; rw [if_neg (by omega), if_neg (by omega)]]
  rw [show gi (si (si m 888 i a) 889 i (gi m 870 15)) 870 16 = gi m 870 16 from by simp only [mS]; rw [if_neg (by omega), if_neg (by omega)]]
theorem rel90_lp {s n f z : Nat} {m : Mi} {T : Nat → Nat} {R : List RlT} {x : Row} {a2 : Int32} (hs : s < 2) (hM : MT m n T) (hR : R.length ≤ 60) (hE : ER s m T R) (hxr : VR (fun q => gl m 873 (0 + q))) (hx : trM (fun q => gl m 873 (0 + q)) = x) (hf : f + z = R.length) :
    ∀ d k N, k + d = z → d < N → (∀ j, j < k → cmpL (rvR T R (f + j)) x ≠ 0) →
      lp (fun y : Int32 => f_X12_release_l90 TT m 870 (nI s) a2 (nI R.length) y) N (nI (f + k)) = some (if ∃ j, j < z ∧ cmpL (rvR T R (f + j)) x = 0 then .inr () else .inl ()) := by
  have hW := hM.1.W
  have w4 : gr m 870 4 = 873 := hM.1 4 (by omega)
  intro d
  induction d with
  | zero =>
    intro k N hk hN hall
    obtain ⟨N, rfl⟩ : ∃ y, N = y + 1 := ⟨N - 1, by omega⟩
    rw [if_neg (by rintro ⟨j, h1, h2⟩; exact hall j (by omega) h2), lp_exit]
    show f_X12_release_l90 TT m 870 (nI s) a2 (nI R.length) (nI (f + k)) = _
    unfold f_X12_release_l90
    rw [if_pos (nI_le (by omega) (by omega))]
  | succ d ih =>
    intro k N hk hN hall
    obtain ⟨N, rfl⟩ : ∃ y, N = y + 1 := ⟨N - 1, by omega⟩
    obtain ⟨w, hw⟩ := get_some (l := R) (k := f + k) (by omega)
    obtain ⟨_, _, _, a4, a5⟩ := hE _ w hw
    have hc := mcompare_spec (t := TT) (m := m) (i := (60 * s + (f + k)) * 9) (j := 0) s_891 s_873 (by omega) (by omega) (by omega) (by omega)
    rw [cmp_tr a4 hxr, a5, hx, ← rvR_get hw] at hc
    have hbody : f_X12_release_l90 TT m 870 (nI s) a2 (nI R.length) (nI (f + k)) = if cmpL (rvR T R (f + k)) x = 0 then some (.inr (.inr ())) else some (.inl (nI (f + (k + 1)))) := by
      unfold f_X12_release_l90
      rw [if_neg (nI_ge (by omega) (by omega)), hW.2.2.2.2.2.2.2.2.2.2.1, w4, show (60 : Int32) = nI 60 from rfl, pk_mul, nI_add, show (9 : Int32) = nI 9 from rfl, pk_mul, show f_X12_compare TT m 891 (nI ((60 * s + (f + k)) * 9)) 873 0 = _ from hc, Option.bind_some, lt_eq, nI_1]
      rfl
    by_cases h0 : cmpL (rvR T R (f + k)) x = 0
    · rw [if_pos h0] at hbody
      rw [lp_exit hbody, if_pos ⟨k, by omega, h0⟩]
    · rw [if_neg h0] at hbody
      rw [lp_step hbody]
      exact ih (k + 1) N (by omega) (by omega) (fun j hj => by
        by_cases hj2 : j = k
        · rw [hj2]; exact h0
        · exact hall j (by omega))
/-- one release -/
def pRel1 (T : Nat → Nat) (l : List Tok) (G : Rg) : RgS := if kd0 l = 8 then (if cntR G.2.1 (G.1.length - 1) = 6 then .inl (2, l) else if dupR T G (pl0 0 l) (en0 0 l) = true then .inl (3, l) else bnR (pLinks 4 l.tail (addR (pl0 0 l) (en0 0 l) G)) (fun l' G' => pExp 12 l' (fun l'' => .inr (l'', G')))) else .inl (1, l)
theorem j40_M {s n : Nat} {m : Mi} {T : Nat → Nat} {l : List Tok} (hM : MT m n T) (hC : CurM m T n l) : ∃ m', f_X12_release_j40 TT m 870 = some (0, m') ∧ OuM s m m' T n (.inl (1, l)) 0 := by
  obtain ⟨m1, e1, o1⟩ := faultO (s := s) (c := 1) hM hC
  exact ⟨m1, e1, o1⟩
theorem rel_M {s n : Nat} {m : Mi} {T : Nat → Nat} {l : List Tok} {G : Rg} (hs : s < 2) (hM : MT m n T) (hC : CurM m T n l) (hl : Sfx (tl T n 0) l) (hD : DM s m T G) (hB : BGd G) (hG : GW T n G) (hI : lnkN G.2.2 = G.2.2.length) (hP : G.1 ≠ []) (h6 : cntR G.2.1 (G.1.length - 1) ≤ 6) (h60 : cntR G.2.1 (G.1.length - 1) < 6 → G.2.1.length < 60) (h4 : G.2.2.length ≤ 4 * G.2.1.length) :
    ∃ v m', f_X12_release TT m 870 (nI s) = some (v, m') ∧ OuM s m m' T n (pRel1 T l G) v := by
  have hW := hM.1.W
  have hn := hM.2.2.1
  obtain ⟨⟨n1, n2, n3, n4⟩, eP, eR, eC, eK⟩ := hD
  have hP1 : 0 < G.1.length := List.length_pos_iff.mpr hP
  have hB1 := hB.1
  have hB2 := hB.2.1
  obtain ⟨y, hy⟩ := get_some (l := G.1) (k := G.1.length - 1) (by omega)
  have hlast := hG.1.2.2.1 y hy
  obtain ⟨_, _, y3⟩ := eP _ y hy
  unfold f_X12_release
  rw [hW.1, if_pos (ar_of s_881 hs (by omega)), lt_eq, ix_nI (by omega), n1, show nI G.1.length - 1 = nI (G.1.length - 1) from pk_sub (b := 1) (by omega)]
  unfold pRel1
  cases hll : l with
  | nil =>
    rw [hll] at hC hl
    obtain ⟨m1, e1, o1⟩ := j40_M (s := s) hM hC
    rw [hC.1, if_neg (by decide), e1, if_neg (show ¬ kd0 [] = 8 from by decide)]
    exact ⟨0, m1, rfl, o1⟩
  | cons x r =>
    rw [hll] at hC hl
    obtain ⟨p, hp⟩ := hl.tl
    have hkx : kd0 (x :: r) = x.1 := rfl
    rcases isVer_M hM hp hC (fun x8 m9 => if x8 = 2 then
        (if ar TT (gr m9 870 24) .int (nI s) = true then
        lt (gi m9 (gr m9 870 24) s) fun x12 =>
        (if ar TT (gr m9 870 29) .int ((11 * nI s) + nI (G.1.length - 1)) = true then
        if (x12 - (gi m9 (gr m9 870 29) (ix ((11 * nI s) + nI (G.1.length - 1))))) = 6 then
          bd (f_X12_fault TT m9 870 2) fun x15 m16 =>
          (if zb x15 = true then
          some (x15, m16)
          else none)
        else
          lt (gi m9 (gr m9 870 29) (ix ((11 * nI s) + nI (G.1.length - 1)))) fun x18 =>
          f_X12_release_j90 TT m9 870 (nI s) (nI (G.1.length - 1)) x12 x18
        else none)
        else none)
      else
        f_X12_release_j40 TT m9 870) (fun m9 => f_X12_release_j40 TT m9 870) (fun v m' hv => if_neg hv) with ⟨h8, m1, k1, e1⟩ | ⟨h8, m1, ns, is, k1, e1, hrd, hvw, hrow⟩
    · rw [e1]
      have M1 := hM.keep k1
      have C1 : CurM m1 T n (x :: r) := hC.keep (fun j a b => k1.1 _ _ (by omega))
      obtain ⟨m2, e2, o2⟩ := j40_M (s := s) M1 C1
      rw [e2, if_neg (show ¬ kd0 (x :: r) = 8 from h8)]
      exact ⟨0, m2, rfl, OuM.tr k1.K.S o2⟩
    · rw [e1, if_pos rfl, if_pos (show kd0 (x :: r) = 8 from h8)]
      have M1 := hM.keep k1
      have W1 := M1.1.W
      have C1 : CurM m1 T n (x :: r) := hC.keep (fun j a b => k1.1 _ _ (by omega))
      have kk : ∀ x j, 881 ≤ x → x ≤ 898 → gi m1 x j = gi m x j ∧ gl m1 x j = gl m x j := fun x j a b => ⟨k1.1 x j (by omega), k1.2.1 x j (by omega) (by omega)⟩
      have en := C1.ends hl (by rw [hkx]; omega) (by rw [hkx]; omega)
      have hf6 : G.2.1.length - y.2.2 = cntR G.2.1 (G.1.length - 1) := by omega
      rw [W1.2.1, if_pos (ar_of s_882 hs (by omega)), lt_eq, (kk _ _ (by omega) (by omega)).1, n2, W1.2.2.2.2.2.2.1, show (11 : Int32) = nI 11 from rfl, pk_mul, nI_add, if_pos (ar_of s_887 (by omega) (by omega)), ix_nI (by omega), (kk _ _ (by omega) (by omega)).1, y3, pk_sub (by omega), hf6]
      by_cases hc6 : cntR G.2.1 (G.1.length - 1) = 6
      · obtain ⟨m2, e2, o2⟩ := faultO (s := s) (c := 2) M1 C1
        rw [if_pos (show nI (cntR G.2.1 (G.1.length - 1)) = 6 by rw [hc6]; rfl), if_pos hc6, show (2 : Int32) = nI 2 from rfl, e2]
        exact ⟨0, m2, rfl, OuM.tr k1.K.S o2⟩
      · rw [if_neg (show ¬ nI (cntR G.2.1 (G.1.length - 1)) = 6 from fun e => hc6 ((nI_eq (b := 6) (by omega) (by omega)).mp e)), if_neg hc6, lt_eq]
        have hR60 := h60 (by omega)
        have vx := hvw.X
        have hrd' : rdv T (pl0 0 (x :: r)) (en0 0 (x :: r)) = some (2, (ns, is)) := hrd
        have hxv : trM (fun q => gl m1 873 (0 + q)) = rwv T (pl0 0 (x :: r)) (en0 0 (x :: r)) := by rw [rwv_some hrd', rowM_tr hrow, mR_tr vx]; rfl
        have hxr : VR (fun q => gl m1 873 (0 + q)) := rowM_VR hrow (mR_VR vx)
        have eR1 : ER s m1 T G.2.1 := eR.keep (fun x j a b => kk x j (by omega) (by omega))
        have hlp := rel90_lp (a2 := nI (G.1.length - 1)) hs M1 hB2 eR1 hxr hxv hlast (cntR G.2.1 (G.1.length - 1)) 0 FUEL (by omega) (by unfold FUEL; omega) (fun j hj => by omega)
        rw [Nat.add_zero] at hlp
        unfold f_X12_release_j90
        rw [hlp]
        have hdi := dupR_iff (T := T) (a := pl0 0 (x :: r)) (b := en0 0 (x :: r)) hG.1 hy
        cases hdd : dupR T G (pl0 0 (x :: r)) (en0 0 (x :: r)) with
        | true =>
          rw [if_pos (hdi.mp hdd), if_pos rfl]
          obtain ⟨m2, e2, o2⟩ := faultO (s := s) (c := 3) M1 C1
          refine ⟨0, m2, ?_, OuM.tr k1.K.S o2⟩
          show f_X12_release_j121 TT m1 870 = _
          unfold f_X12_release_j121
          rw [show (3 : Int32) = nI 3 from rfl, e2]
        | false =>
          rw [if_neg (fun e => by rw [hdi.mpr e] at hdd; cases hdd), if_neg fNt]
          show ∃ v m', f_X12_release_j133 TT m1 870 (nI s) (nI (G.1.length - 1)) (nI G.2.1.length) = some (v, m') ∧ _
          unfold f_X12_release_j133
          rw [show (60 : Int32) = nI 60 from rfl, pk_mul, nI_add, st3 W1 (by omega), en.1, en.2.1, pk_sub (Nat.le_of_lt en.2.2.1)]
          -- what is stored
          have v1 : gi (si (si (si m1 888 (60 * s + G.2.1.length) (nI (G.1.length - 1))) 889 (60 * s + G.2.1.length) (nI (pl0 0 (x :: r)))) 890 (60 * s + G.2.1.length) (nI (en0 0 (x :: r) - pl0 0 (x :: r)))) 888 (60 * s + G.2.1.length) = nI (G.1.length - 1) := by
            simp only [mS]
            rw [if_neg (by omega), if_neg (by omega), if_pos ⟨trivial, trivial⟩]
          have v2 : gi (si (si (si m1 888 (60 * s + G.2.1.length) (nI (G.1.length - 1))) 889 (60 * s + G.2.1.length) (nI (pl0 0 (x :: r)))) 890 (60 * s + G.2.1.length) (nI (en0 0 (x :: r) - pl0 0 (x :: r)))) 889 (60 * s + G.2.1.length) = nI (pl0 0 (x :: r)) := by
            simp only [mS]
            rw [if_neg (by omega), if_pos ⟨trivial, trivial⟩]
          have v3 : gi (si (si (si m1 888 (60 * s + G.2.1.length) (nI (G.1.length - 1))) 889 (60 * s + G.2.1.length) (nI (pl0 0 (x :: r)))) 890 (60 * s + G.2.1.length) (nI (en0 0 (x :: r) - pl0 0 (x :: r)))) 890 (60 * s + G.2.1.length) = nI (en0 0 (x :: r) - pl0 0 (x :: r)) := gi_si _ _ _ _
          have f2 : FrM (fun x j => (x = 888 ∨ x = 889 ∨ x = 890) ∧ j = 60 * s + G.2.1.length) m1 (si (si (si m1 888 (60 * s + G.2.1.length) (nI (G.1.length - 1))) 889 (60 * s + G.2.1.length) (nI (pl0 0 (x :: r)))) 890 (60 * s + G.2.1.length) (nI (en0 0 (x :: r) - pl0 0 (x :: r)))) := ((FrM.si (P := fun x j => (x = 888 ∨ x = 889 ∨ x = 890) ∧ j = 60 * s + G.2.1.length) (by omega)).tr (FrM.si (P := fun x j => (x = 888 ∨ x = 889 ∨ x = 890) ∧ j = 60 * s + G.2.1.length) (by omega))).tr (FrM.si (P := fun x j => (x = 888 ∨ x = 889 ∨ x = 890) ∧ j = 60 * s + G.2.1.length) (by omega))
          generalize si (si (si m1 888 (60 * s + G.2.1.length) (nI (G.1.length - 1))) 889 (60 * s + G.2.1.length) (nI (pl0 0 (x :: r)))) 890 (60 * s + G.2.1.length) (nI (en0 0 (x :: r) - pl0 0 (x :: r))) = m2 at *
          have f2s : FrM (FS s) m1 m2 := f2.mono (fun x j h => by unfold FS; omega)
          have M2 := M1.keepS f2s
          have W2 := M2.1.W
          have w4 : gr m2 870 4 = 873 := M2.1 4 (by omega)
          have hrow2 : rowM m2 873 0 (mR ns is) := hrow.keep f2 (fun z _ => by omega)
          obtain ⟨m3, e3, r3, f3⟩ := copy_rowM (m := m2) (a := 891) (b := 873) (i := (60 * s + G.2.1.length) * 9) (j := 0) s_891 s_873 (by omega) (by omega) (by omega) (by omega) (by omega) hrow2
          have f3s : FrM (FS s) m2 m3 := f3.mono (fun x j h => by unfold FS; omega)
          have M3 := M2.keepS f3s
          have W3 := M3.1.W
          rw [W2.2.2.2.2.2.2.2.2.2.2.1, w4, show (9 : Int32) = nI 9 from rfl, pk_mul, show f_X12_copy TT m2 891 (nI ((60 * s + G.2.1.length) * 9)) 873 0 = _ from e3, Option.bind_some, W3.2.1, if_pos (ar_of s_882 hs (by omega)), lt_eq, ix_nI (by omega), nI_1]
          have f4 : FrM (fun x j => x = 882 ∧ j = s) m3 (si m3 882 s (nI (G.2.1.length + 1))) := FrM.si (P := fun x j => x = 882 ∧ j = s) ⟨rfl, rfl⟩
          have v4 : gi (si m3 882 s (nI (G.2.1.length + 1))) 882 s = nI (G.2.1.length + 1) := gi_si _ _ _ _
          generalize si m3 882 s (nI (G.2.1.length + 1)) = m4 at *
          have f4s : FrM (FS s) m3 m4 := f4.mono (fun x j h => by unfold FS; omega)
          have M4 := M3.keepS f4s
          have k14 : ∀ a j, (a = 881 ∨ a = 883 ∨ a = 884 ∨ a = 885 ∨ a = 886 ∨ a = 887 ∨ a = 892 ∨ a = 893 ∨ a = 894 ∨ a = 895 ∨ a = 897 ∨ a = 898) → gi m4 a j = gi m a j ∧ gl m4 a j = gl m a j := by
            intro a j ha
            have h1 := f4.1 a j (by omega)
            have h2 := f3.1 a j (by omega)
            have h3 := f2.1 a j (by omega)
            have h4 := kk a j (by omega) (by omega)
            exact ⟨h1.1.trans (h2.1.trans (h3.1.trans h4.1)), h1.2.trans (h2.2.trans (h3.2.trans h4.2))⟩
          have C4 : CurM m4 T n (x :: r) := C1.keep (fun j a b => (f4.1 _ _ (by omega)).1.trans ((f3.1 _ _ (by omega)).1.trans (f2.1 _ _ (by omega)).1))
          have k4v : ∀ a j, (a = 888 ∨ a = 889 ∨ a = 890) → gi m4 a j = gi m2 a j := fun a j ha => (f4.1 _ _ (by omega)).1.trans (f3.1 _ _ (by omega)).1
          have D4 : DM s m4 T (addR (pl0 0 (x :: r)) (en0 0 (x :: r)) G) := by
            have al : (addR (pl0 0 (x :: r)) (en0 0 (x :: r)) G).2.1.length = G.2.1.length + 1 := addR_len.1
            refine ⟨⟨(k14 _ _ (by omega)).1.trans n1, by rw [al]; exact v4, (k14 _ _ (by omega)).1.trans n3, (k14 _ _ (by omega)).1.trans n4⟩, eP.keep (fun a j h1 h2 => (k14 a j (by omega)).1), ?_, eC.keep (fun a j h1 h2 => (k14 a j (by omega)).1), eK.keep (fun a j h => k14 a j (by omega))⟩
            intro q w hw
            rcases app_get (l := G.2.1) hw with ⟨hql, hw⟩ | ⟨hql, hy2⟩
            · obtain ⟨a1, a2, a3, a4, a5⟩ := eR1 q w hw
              have ko : ∀ z, z < 9 → gl m4 891 ((60 * s + q) * 9 + z) = gl m1 891 ((60 * s + q) * 9 + z) := fun z hz => (f4.1 _ _ (by omega)).2.trans ((f3.1 _ _ (by omega)).2.trans (f2.1 _ _ (by omega)).2)
              refine ⟨?_, ?_, ?_, VR_congr ko a4, (trM_congr ko).trans a5⟩
              · rw [k4v _ _ (by omega), (f2.1 _ _ (by omega)).1]; exact a1
              · rw [k4v _ _ (by omega), (f2.1 _ _ (by omega)).1]; exact a2
              · rw [k4v _ _ (by omega), (f2.1 _ _ (by omega)).1]; exact a3
            · subst hql
              rw [hy2]
              have ko : ∀ z, z < 9 → gl m4 891 ((60 * s + G.2.1.length) * 9 + z) = mR ns is z := fun z hz => (f4.1 _ _ (by omega)).2.trans (r3 z hz)
              refine ⟨(k4v _ _ (by omega)).trans v1, (k4v _ _ (by omega)).trans v2, (k4v _ _ (by omega)).trans v3, VR_congr ko (mR_VR vx), ?_⟩
              rw [trM_congr ko, mR_tr vx]
              exact (rwv_some hrd').symm
          obtain ⟨m5, e5, k5, M5, C5⟩ := next_M M4 C4 hl (by rw [hkx]; omega) (by rw [hkx]; omega)
          rw [e5, Option.bind_some]
          obtain ⟨gw, il⟩ := GW_addR (a := pl0 0 (x :: r)) (b := en0 0 (x :: r)) hG hI hP ⟨en.2.2.1, en.2.2.2.1, ns, is, hrd'⟩ hdd
          have al := addR_len (a := pl0 0 (x :: r)) (b := en0 0 (x :: r)) (G := G)
          have ac : (addR (pl0 0 (x :: r)) (en0 0 (x :: r)) G).2.2 = G.2.2 := rfl
          obtain ⟨v', m', e', o'⟩ := mlinks_lp hs 4 0 FUEL m5 r (addR (pl0 0 (x :: r)) (en0 0 (x :: r)) G) (by omega) (by unfold FUEL; omega) M5 C5 hl.tail (D4.keepR k5.F) ⟨hB.1, by omega, hB.2.2⟩ gw il addR_ne (by rw [ac]; omega)
          rw [show (addR (pl0 0 (x :: r)) (en0 0 (x :: r)) G).2.1.length - 1 = G.2.1.length by omega] at e'
          refine ⟨v', m', e', OuM.tr ((((k1.K.S.tr f2s).tr f3s).tr f4s).tr k5.S) o'⟩
