/-! The class reads a version: identifiers, and all together. -/
theorem ckey_ne {w : Nat} (h : okn w) : ¬ lN (ckey w) = 0 := by
  intro e
  have hk : ckey w < 2 ^ 63 ∧ 0 < ckey w := by
    unfold ckey
    rcases h with h | h
    · rw [if_pos (by omega)]; omega
    · rw [if_neg (by omega)]; omega
  have := (pk_lEQ (b := 0) hk.1 (by omega)).mp e
  omega
theorem ids_lp {v r c L e : Nat} {cn : Bool} {T : Nat → Nat} (hv : sh TT v = some (.inl 10)) (hr : sh TT r = some (.inr (.long, 8))) :
    ∀ d k p N m, k + d = 4 → d < N → VS m v c L e T → gr m v 0 = r → p < e → gi m v 3 = nI p →
    (ids T e cn d (p + 1) = none → ∃ m' y, lp (fun x : Int32 × Mi => f_X10_takeIdentifiers_l2 TT x.2 v (bI cn) x.1) N (nI k, m) = some y ∧ (y = .inl m' ∨ y = .inr (.inl m')) ∧ KI v r m m') ∧
    (∀ is q, ids T e cn d (p + 1) = some (is, q) → ∃ m', lp (fun x : Int32 × Mi => f_X10_takeIdentifiers_l2 TT x.2 v (bI cn) x.1) N (nI k, m) = some (.inr (.inr m')) ∧ KI v r m m' ∧ gi m' v 3 = nI q ∧ gi m' v 1 = gi m v 1 ∧ q ≤ e ∧ 1 ≤ is.length ∧ is.length ≤ d ∧ ∀ j, gl m' r j = if cn = true ∧ 3 + k ≤ j ∧ j < 3 + k + is.length then lN (ckey (is.getD (j - (3 + k)) 0)) else gl m r j) := by
  have hvr : v ≠ r := fun e => by rw [e, hr] at hv; cases hv
  intro d
  induction d with
  | zero =>
    intro k p N m hk hN h h0 hp h3
    obtain ⟨N, rfl⟩ : ∃ z, N = z + 1 := ⟨N - 1, by omega⟩
    refine ⟨fun _ => ⟨m, .inl m, lp_exit ?_, Or.inl rfl, KI.rf⟩, fun is q hx => by rw [ids] at hx; cases hx⟩
    show f_X10_takeIdentifiers_l2 TT m v (bI cn) (nI k) = _
    unfold f_X10_takeIdentifiers_l2
    rw [if_pos (show (4 : Int32) ≤ nI k from nI_le (a := 4) (by omega) (by omega))]
  | succ d ih =>
    intro k p N m hk hN h h0 hp h3
    obtain ⟨N, rfl⟩ : ∃ z, N = z + 1 := ⟨N - 1, by omega⟩
    have he := h.2.2.2.2.1
    have he2 := h.2.2.2.2.2.1
    have h' : VS (si m v 3 (nI (p + 1))) v c L e T := h.keep (KI.s3 (r := r) _)
    have hkey := key_spec (r := r) (cn := cn) (p := p + 1) h' (by omega) (gi_si _ _ _ _)
    have hb0 : ∀ z, f_X10_takeIdentifiers_l2 TT m v (bI cn) (nI k) = z ↔ (bd (f_X10_takeKey TT (si m v 3 (nI (p + 1))) v (bI cn)) fun x3 m4 => if (lg_cmp x3 0) = 0 then some (.inr (.inr (.inl m4))) else if bI cn = 0 then f_X10_takeIdentifiers_j44 TT m4 v (bI cn) (nI k) else (if ar TT (gr m4 v 0) .long (3 + nI k) = true then lt (sl m4 (gr m4 v 0) (ix (3 + nI k)) x3) fun m11 => f_X10_takeIdentifiers_j44 TT m11 v (bI cn) (nI k) else none)) = z := by
      intro z
      unfold f_X10_takeIdentifiers_l2
      rw [if_neg (show ¬ (4 : Int32) ≤ nI k from nI_ge (b := 4) (by omega) (by omega)), h3, nI_1]
      rfl
    rw [ids]
    cases hid : idn T e cn (p + 1) with
    | none =>
      obtain ⟨m1, e1, k1⟩ := hkey.1 hid
      refine ⟨fun _ => ⟨m1, .inr (.inl m1), lp_exit ?_, Or.inr rfl, (KI.s3 _).tr k1⟩, fun is q hx => (by cases hx)⟩
      show f_X10_takeIdentifiers_l2 TT m v (bI cn) (nI k) = _
      rw [hb0, e1, bd_some, if_pos ((lg_cmp_eq _ _).mpr rfl)]
    | some w =>
      obtain ⟨w, qq⟩ := w
      obtain ⟨m1, e1, rfl, hq, hok, hpq⟩ := hkey.2 w qq hid
      simp only [Option.bind_some]
      have hm2 : ∃ m2, f_X10_takeIdentifiers_l2 TT m v (bI cn) (nI k) = f_X10_takeIdentifiers_j44 TT m2 v (bI cn) (nI k) ∧ KI v r m m2 ∧ gi m2 v 3 = nI qq ∧ gi m2 v 1 = gi m v 1 ∧ ∀ j, gl m2 r j = if cn = true ∧ j = 3 + k then lN (ckey w) else gl m r j := by
        cases cn with
        | false =>
          refine ⟨si (si m v 3 (nI (p + 1))) v 3 (nI qq), ?_, (KI.s3 _).tr (KI.s3 _), gi_si _ _ _ _, ?_, fun j => by rw [if_neg (by simp)]; rfl⟩
          · rw [hb0, e1, bd_some, if_neg (fun e => ckey_ne hok ((lg_cmp_eq _ _).mp e)), if_pos (show bI false = 0 from rfl)]
          · simp only [mS]
            rw [if_neg (by omega), if_neg (by omega)]
        | true =>
          refine ⟨sl (si (si m v 3 (nI (p + 1))) v 3 (nI qq)) r (3 + k) (lN (ckey w)), ?_, ((KI.s3 _).tr (KI.s3 _)).tr (KI.sr _ _), ?_, ?_, fun j => ?_⟩
          · rw [hb0, e1, bd_some, if_neg (fun e => ckey_ne hok ((lg_cmp_eq _ _).mp e)), if_neg (show ¬ bI true = 0 by decide)]
            have g0 : gr (si (si m v 3 (nI (p + 1))) v 3 (nI qq)) v 0 = r := h0
            rw [g0, show (3 : Int32) = nI 3 from rfl, nI_add, if_pos (ar_of hr (by omega) (by omega)), ix_nI (by omega), lt_eq]
          · show gi (si (si m v 3 (nI (p + 1))) v 3 (nI qq)) v 3 = _
            exact gi_si _ _ _ _
          · simp only [mS]
            rw [if_neg (by omega), if_neg (by omega)]
          · simp only [mS]
      obtain ⟨m2, e2, k2, g3, g1, gl2⟩ := hm2
      have h2 : VS m2 v c L e T := h.keep k2
      have s0 := signAt_spec (i := qq) h2 (by omega)
      have h46 : sg T e qq = 46 ↔ _ := sg_eq (c := 46) (h2.lt qq) (by omega)
      by_cases hc : atE (fun x => decide (x = 46)) T e qq = true
      · have hqe : qq < e := by
          unfold atE at hc
          simp only [Bool.and_eq_true, decide_eq_true_eq] at hc
          exact hc.1
        have hst : lp (fun x : Int32 × Mi => f_X10_takeIdentifiers_l2 TT x.2 v (bI cn) x.1) (N + 1) (nI k, m) = lp (fun x : Int32 × Mi => f_X10_takeIdentifiers_l2 TT x.2 v (bI cn) x.1) N (nI (k + 1), m2) := by
          refine lp_step ?_
          show f_X10_takeIdentifiers_l2 TT m v (bI cn) (nI k) = _
          rw [e2]
          unfold f_X10_takeIdentifiers_j44
          rw [g3, s0, Option.bind_some, if_pos (h46.mpr hc), lt_eq, nI_1]
        obtain ⟨i1, i2⟩ := ih (k + 1) qq N m2 (by omega) (by omega) h2 ((k2.2.2 _ _).trans h0) hqe g3
        rw [hst, if_pos hc]
        cases ht : ids T e cn d (qq + 1) with
        | none =>
          refine ⟨fun _ => ?_, fun is q' hx => (by cases hx)⟩
          obtain ⟨m3, y, e3, hy, k3⟩ := i1 ht
          exact ⟨m3, y, e3, hy, k2.tr k3⟩
        | some r2 =>
          obtain ⟨n2, q2⟩ := r2
          refine ⟨fun hx => (by cases hx), fun is q' hx => ?_⟩
          have hx := Option.some.inj hx
          have e3 : is = w :: n2 := (congrArg Prod.fst hx).symm
          have e4 : q' = q2 := (congrArg Prod.snd hx).symm
          subst e3
          subst e4
          obtain ⟨m3, e3, k3, a3, a1, aq, al1, al, ar⟩ := i2 n2 q' ht
          refine ⟨m3, e3, k2.tr k3, a3, a1.trans g1, aq, by simp, by simp; omega, fun j => ?_⟩
          rw [ar j, gl2 j]
          simp only [List.length_cons]
          by_cases hj : cn = true ∧ 3 + (k + 1) ≤ j ∧ j < 3 + (k + 1) + n2.length
          · rw [if_pos hj, if_pos ⟨hj.1, by omega, by omega⟩, show j - (3 + k) = (j - (3 + (k + 1))) + 1 by omega, List.getD_cons_succ]
          · rw [if_neg hj]
            by_cases hjk : cn = true ∧ j = 3 + k
            · rw [if_pos hjk, if_pos ⟨hjk.1, by omega, by omega⟩, show j - (3 + k) = 0 by omega, List.getD_cons_zero]
            · rw [if_neg hjk, if_neg (fun e => (by by_cases h9 : j = 3 + k; (exact hjk ⟨e.1, h9⟩); (exact hj ⟨e.1, by omega, by omega⟩)))]
      · rw [if_neg hc]
        refine ⟨fun hx => (by cases hx), fun is q' hx => ?_⟩
        have hx := Option.some.inj hx
        have e3 : is = [w] := (congrArg Prod.fst hx).symm
        have e4 : q' = qq := (congrArg Prod.snd hx).symm
        subst e3
        subst e4
        refine ⟨m2, lp_exit ?_, k2, g3, g1, hq, by simp, by simp, fun j => ?_⟩
        · show f_X10_takeIdentifiers_l2 TT m v (bI cn) (nI k) = _
          rw [e2]
          unfold f_X10_takeIdentifiers_j44
          rw [g3, s0, Option.bind_some, if_neg (fun e => hc (h46.mp e))]
        · rw [gl2 j]
          simp only [List.length_cons, List.length_nil]
          by_cases hjk : cn = true ∧ j = 3 + k
          · rw [if_pos hjk, if_pos ⟨hjk.1, by omega, by omega⟩, show j - (3 + k) = 0 by omega, List.getD_cons_zero]
          · rw [if_neg hjk, if_neg (fun e => hjk ⟨e.1, by omega⟩)]
theorem idsC_spec {m : Mi} {v r c L e p : Nat} {cn : Bool} {T : Nat → Nat} (hv : sh TT v = some (.inl 10)) (hr : sh TT r = some (.inr (.long, 8))) (h : VS m v c L e T) (h0 : gr m v 0 = r) (hp : p < e) (h3 : gi m v 3 = nI p) :
    (ids T e cn 4 (p + 1) = none → ∃ m', f_X10_takeIdentifiers TT m v (bI cn) = some (0, m') ∧ KI v r m m') ∧
    (∀ is q, ids T e cn 4 (p + 1) = some (is, q) → ∃ m', f_X10_takeIdentifiers TT m v (bI cn) = some (1, m') ∧ KI v r m m' ∧ gi m' v 3 = nI q ∧ gi m' v 1 = gi m v 1 ∧ q ≤ e ∧ 1 ≤ is.length ∧ is.length ≤ 4 ∧ ∀ j, gl m' r j = if cn = true ∧ 3 ≤ j ∧ j < 3 + is.length then lN (ckey (is.getD (j - 3) 0)) else gl m r j) := by
  obtain ⟨i1, i2⟩ := ids_lp (cn := cn) hv hr 4 0 p FUEL m (by omega) (by unfold FUEL; omega) h h0 hp h3
  unfold f_X10_takeIdentifiers f_X10_takeIdentifiers_j2
  refine ⟨fun hx => ?_, fun is q hx => ?_⟩
  · obtain ⟨m1, y, e1, hy, k1⟩ := i1 hx
    refine ⟨m1, ?_, k1⟩
    rw [show (0 : Int32) = nI 0 from rfl, e1]
    rcases hy with hy | hy <;> rw [hy] <;> rfl
  · obtain ⟨m1, e1, rest⟩ := i2 is q hx
    refine ⟨m1, ?_, rest⟩
    rw [show (0 : Int32) = nI 0 from rfl, e1]
    rfl
/-- the class's row of a version -/
def cR (ns is : List Nat) (j : Nat) : Int64 := if j < 3 then lN (ns.getD j 0) else if is.length = 0 then (if j = 3 then 9223372036854775807 else 0) else if j - 3 < is.length then lN (ckey (is.getD (j - 3) 0)) else 0
def KV (v r : Nat) (m m' : Mi) : Prop := (∀ x j, x ≠ v → gi m' x j = gi m x j) ∧ (∀ x j, x ≠ r → gl m' x j = gl m x j) ∧ ∀ x j, ¬ (x = v ∧ j = 2) → gr m' x j = gr m x j
theorem KI.V {v r : Nat} {m m' : Mi} (h : KI v r m m') : KV v r m m' := ⟨fun x j a => h.1 x j (by omega), h.2.1, fun x j _ => h.2.2 x j⟩
theorem KV.tr {v r : Nat} {m m1 m2 : Mi} (h : KV v r m m1) (h2 : KV v r m1 m2) : KV v r m m2 := ⟨fun x j a => (h2.1 x j a).trans (h.1 x j a), fun x j a => (h2.2.1 x j a).trans (h.2.1 x j a), fun x j a => (h2.2.2 x j a).trans (h.2.2 x j a)⟩
def rdc (T : Nat → Nat) (a e : Nat) : Nat := match rdv T a e with
  | none => 0
  | some w => w.1
theorem take_spec {m : Mi} {v r c L a e : Nat} {T : Nat → Nat} (hv : sh TT v = some (.inl 10)) (hr : sh TT r = some (.inr (.long, 8))) (h0 : gr m v 0 = r) (hc0 : c ≠ 0) (hc : sh TT c = some (.inr (.byte, L))) (hL : L < 100000) (he : e ≤ L) (ha : a ≤ e) (hT : Tx m c e T) :
    ∃ m', f_X10_take TT m v c (nI a) (nI e) = some (nI (rdc T a e), m') ∧ KV v r m m' ∧ ∀ f ns is, rdv T a e = some (f, (ns, is)) → gi m' v 1 = nI ns.length ∧ ∀ j, j < 8 → gl m' r j = cR ns is j := by
  have hvr : v ≠ r := fun e => by rw [e, hr] at hv; cases hv
  have hcv : c ≠ v := fun e => by rw [e, hv] at hc; cases hc
  have hcr : c ≠ r := fun e => by rw [e, hr] at hc; cases hc
  generalize hm5 : blkL (blkL (si (si (si (sr m v 2 c) v 3 (nI a)) v 4 (nI e)) v 1 0) r 0 8 (fun _ => 0)) r 3 8 (fun q => if q = 3 then 9223372036854775807 else 0) = m5
  have hst : f_X10_take TT m v c (nI a) (nI e) = (bd (f_X10_takeNumbers TT m5 v) fun x7 m8 => if x7 = 0 then some (0, m8) else if 3 ≤ (gi m8 v 1) then (f_X10_signAt TT m8 v (gi m8 v 3)).bind fun x11 => if x11 = 45 then bd (f_X10_takeIdentifiers TT m8 v 1) fun x19 m20 => if x19 = 0 then some (0, m20) else f_X10_take_j91 TT m20 v else f_X10_take_j91 TT m8 v else bd (f_X10_endsAfterFilling TT m8 v) fun x22 m23 => if x22 = 0 then some (0, m23) else some (1, m23)) := by
    unfold f_X10_take
    simp only [lt_eq]
    have g0 : gr (si (si (si (sr m v 2 c) v 3 (nI a)) v 4 (nI e)) v 1 0) v 0 = r := by
      simp only [mS]
      rw [if_neg (by omega)]
      exact h0
    rw [g0, fill_l hr (by omega), Option.bind_some]
    have g1 : gr (blkL (si (si (si (sr m v 2 c) v 3 (nI a)) v 4 (nI e)) v 1 0) r 0 8 (fun _ => 0)) v 0 = r := g0
    rw [g1, setId_spec hr (by omega) (by omega), Option.bind_some, hm5]
  have k5 : KV v r m m5 := by
    rw [← hm5]
    refine ⟨fun x j hx => ?_, fun x j hx => ?_, fun x j hx => ?_⟩
    · simp only [mS]
      rw [if_neg (by omega), if_neg (by omega), if_neg (by omega)]
    · simp only [mS]
      rw [if_neg (by omega), if_neg (by omega)]
    · simp only [mS]
      rw [if_neg hx]
  have l5 : ∀ j, j < 8 → gl m5 r j = if j = 3 then 9223372036854775807 else 0 := by
    intro j hj
    rw [← hm5]
    simp only [mS]
    by_cases h3 : 3 ≤ j
    · rw [if_pos ⟨trivial, h3, hj⟩]
    · rw [if_neg (by omega), if_pos ⟨trivial, by omega, hj⟩, if_neg (by omega)]
  have v5 : VS m5 v c L e T := by
    refine ⟨?_, hc0, hcv, hc, hL, he, ?_, fun j hj => ⟨(k5.1 _ _ hcv).trans (hT j hj).1, (hT j hj).2⟩⟩
    · rw [← hm5]
      simp only [mS]
      rw [if_pos ⟨trivial, trivial⟩]
    · rw [← hm5]
      simp only [mS]
      rw [if_neg (by omega), if_pos ⟨trivial, trivial⟩]
  have g3 : gi m5 v 3 = nI a := by
    rw [← hm5]
    simp only [mS]
    rw [if_neg (by omega), if_neg (by omega), if_pos ⟨trivial, trivial⟩]
  have g1 : gi m5 v 1 = nI 0 := by
    rw [← hm5]
    simp only [mS]
    rw [if_pos ⟨trivial, trivial⟩]
    rfl
  have g0 : gr m5 v 0 = r := (k5.2.2 _ _ (by omega)).trans h0
  obtain ⟨n1, n2⟩ := nums_spec hv hr v5 g0 ha g3 g1
  rw [hst]
  unfold rdc
  cases hn : nums T e a with
  | none =>
    obtain ⟨m6, e6, k6⟩ := n1 hn
    have hrd : rdv T a e = none := by unfold rdv; rw [hn]; rfl
    rw [e6, bd_some, if_pos rfl, hrd]
    exact ⟨m6, rfl, k5.tr k6.V, fun f ns is hx => (by cases hx)⟩
  | some w =>
    obtain ⟨ns, q⟩ := w
    obtain ⟨m6, e6, k6, a3, a1, aq, l1, l3, lr⟩ := n2 ns q hn
    have v6 : VS m6 v c L e T := v5.keep k6
    have s0 := signAt_spec (i := q) v6 (by omega)
    rw [e6, bd_some, if_neg (by decide), a1, a3, s0, Option.bind_some]
    have hrd : rdv T a e = (if ns.length = 3 then
        (if atE (fun x => decide (x = 45)) T e q = true then ids T e true 4 (q + 1) else some ([], q)).bind fun i =>
        (if atE (fun x => decide (x = 43)) T e i.2 = true then (ids T e false 4 (i.2 + 1)).map (fun z => z.2) else some i.2).bind fun q => if q = e then some (2, (ns, i.1)) else none
      else if fil T e (3 - ns.length) q = true then some (1, (ns, [])) else none) := by
      unfold rdv
      rw [hn]
      rfl
    by_cases h3 : ns.length = 3
    · rw [if_pos (show (3 : Int32) ≤ nI ns.length from nI_le (a := 3) (by omega) (by omega))]
      rw [if_pos h3] at hrd
      -- the end, from behind the identifiers
      have fin : ∀ (m7 : Mi) (is : List Nat) (q7 : Nat), KI v r m6 m7 → gi m7 v 3 = nI q7 → gi m7 v 1 = gi m6 v 1 → q7 ≤ e → (∀ j, j < 8 → gl m7 r j = cR ns is j) → rdv T a e = ((if atE (fun x => decide (x = 43)) T e q7 = true then (ids T e false 4 (q7 + 1)).map (fun z => z.2) else some q7).bind fun q => if q = e then some (2, (ns, is)) else none) →
          ∃ m', f_X10_take_j91 TT m7 v = some (nI (match rdv T a e with | none => 0 | some w => w.1), m') ∧ KV v r m m' ∧ ∀ f ns is, rdv T a e = some (f, (ns, is)) → gi m' v 1 = nI ns.length ∧ ∀ j, j < 8 → gl m' r j = cR ns is j := by
        intro m7 is q7 k7 b3 b1 bq bl hR
        have v7 : VS m7 v c L e T := v6.keep k7
        have s7 := signAt_spec (i := q7) v7 (by omega)
        have h43 : sg T e q7 = 43 ↔ _ := sg_eq (c := 43) (v7.lt q7) (by omega)
        have done : ∀ (m8 : Mi) (q8 : Nat), KI v r m6 m8 → gi m8 v 3 = nI q8 → gi m8 v 1 = gi m6 v 1 → q8 ≤ e → (∀ j, gl m8 r j = gl m7 r j) → rdv T a e = (if q8 = e then some (2, (ns, is)) else none) → ∃ m', f_X10_take_j114 TT m8 v = some (nI (match rdv T a e with | none => 0 | some w => w.1), m') ∧ KV v r m m' ∧ ∀ f ns is, rdv T a e = some (f, (ns, is)) → gi m' v 1 = nI ns.length ∧ ∀ j, j < 8 → gl m' r j = cR ns is j := by
          intro m8 q8 k8 c3 c1 cq cl hR8
          have v8 : VS m8 v c L e T := v6.keep k8
          unfold f_X10_take_j114
          rw [c3, v8.2.2.2.2.2.2.1, hR8]
          by_cases hqe : q8 = e
          · rw [if_pos (by rw [hqe]), if_pos hqe]
            refine ⟨m8, rfl, (k5.tr k6.V).tr k8.V, fun f ns' is' hx => ?_⟩
            have hx := Option.some.inj hx
            have x1 : ns' = ns := (congrArg (fun z => z.2.1) hx).symm
            have x2 : is' = is := (congrArg (fun z => z.2.2) hx).symm
            rw [x1, x2]
            exact ⟨c1.trans a1, fun j hj => (cl j).trans (bl j hj)⟩
          · rw [if_neg (fun x => hqe ((nI_eq (by omega) (by omega)).mp x)), if_neg hqe]
            exact ⟨m8, rfl, (k5.tr k6.V).tr k8.V, fun f ns' is' hx => (by cases hx)⟩
        unfold f_X10_take_j91
        rw [b3, s7, Option.bind_some]
        by_cases hp : atE (fun x => decide (x = 43)) T e q7 = true
        · rw [if_pos (h43.mpr hp)]
          rw [if_pos hp] at hR
          have hq7 : q7 < e := by
            unfold atE at hp
            simp only [Bool.and_eq_true, decide_eq_true_eq] at hp
            exact hp.1
          obtain ⟨i1, i2⟩ := idsC_spec (cn := false) hv hr v7 ((k7.2.2 _ _).trans ((k6.2.2 _ _).trans g0)) hq7 b3
          cases hi : ids T e false 4 (q7 + 1) with
          | none =>
            obtain ⟨m8, e8, k8⟩ := i1 hi
            rw [hi] at hR
            rw [show (0 : Int32) = bI false from rfl, e8, bd_some, hR]
            exact ⟨m8, rfl, ((k5.tr k6.V).tr k7.V).tr k8.V, fun f ns' is' hx => (by cases hx)⟩
          | some w8 =>
            obtain ⟨is8, q8⟩ := w8
            obtain ⟨m8, e8, k8, c3, c1, cq, cl1, cl4, cl⟩ := i2 is8 q8 hi
            rw [hi] at hR
            rw [show (0 : Int32) = bI false from rfl, e8, bd_some, if_neg (by decide)]
            exact done m8 q8 (k7.tr k8) c3 (c1.trans b1) cq (fun j => by rw [cl j, if_neg (by simp)]) hR
        · rw [if_neg (fun x => hp (h43.mp x))]
          rw [if_neg hp] at hR
          exact done m7 q7 k7 b3 b1 bq (fun _ => rfl) hR
      have base : ∀ j, j < 8 → gl m6 r j = if j < 3 then lN (ns.getD j 0) else if j = 3 then 9223372036854775807 else 0 := by
        intro j hj
        rw [lr j, h3]
        by_cases hj3 : j < 3
        · rw [if_pos hj3, if_pos hj3]
        · rw [if_neg hj3, if_neg hj3, l5 j hj]
      have h45 : sg T e q = 45 ↔ _ := sg_eq (c := 45) (v6.lt q) (by omega)
      by_cases hm : atE (fun x => decide (x = 45)) T e q = true
      · rw [if_pos (h45.mpr hm)]
        rw [if_pos hm] at hrd
        have hq : q < e := by
          unfold atE at hm
          simp only [Bool.and_eq_true, decide_eq_true_eq] at hm
          exact hm.1
        obtain ⟨i1, i2⟩ := idsC_spec (cn := true) hv hr v6 ((k6.2.2 _ _).trans g0) hq a3
        cases hi : ids T e true 4 (q + 1) with
        | none =>
          obtain ⟨m7, e7, k7⟩ := i1 hi
          rw [hi] at hrd
          rw [show (1 : Int32) = bI true from rfl, e7, bd_some, hrd]
          exact ⟨m7, rfl, (k5.tr k6.V).tr k7.V, fun f ns' is' hx => (by cases hx)⟩
        | some w7 =>
          obtain ⟨is7, q7⟩ := w7
          obtain ⟨m7, e7, k7, b3, b1, bq, bl1, bl4, bl⟩ := i2 is7 q7 hi
          rw [hi] at hrd
          rw [show (1 : Int32) = bI true from rfl, e7, bd_some, if_neg (by decide)]
          refine fin m7 is7 q7 k7 b3 b1 bq (fun j hj => ?_) hrd
          rw [bl j, base j hj]
          unfold cR
          by_cases hj3 : j < 3
          · rw [if_neg (by omega), if_pos hj3, if_pos hj3]
          · rw [if_neg hj3, if_neg hj3, if_neg (show ¬ is7.length = 0 by omega)]
            by_cases hj4 : j < 3 + is7.length
            · rw [if_pos ⟨rfl, by omega, hj4⟩, if_pos (by omega)]
            · rw [if_neg (by omega), if_neg (by omega), if_neg (by omega)]
      · rw [if_neg (fun x => hm (h45.mp x))]
        rw [if_neg hm] at hrd
        refine fin m6 [] q KI.rf a3 rfl aq (fun j hj => ?_) hrd
        rw [base j hj]
        unfold cR
        rfl
    · rw [if_neg (show ¬ (3 : Int32) ≤ nI ns.length from nI_ge (b := 3) (by omega) (by omega))]
      rw [if_neg h3] at hrd
      obtain ⟨m7, e7, k7, b1, bl⟩ := fil_lp (r := r) (3 - ns.length) ns.length q FUEL m6 (by omega) (by unfold FUEL; omega) v6 aq a3
      unfold f_X10_endsAfterFilling f_X10_endsAfterFilling_j5
      rw [lt_eq, a1, e7, bd_some, hrd]
      cases hf : fil T e (3 - ns.length) q
      · exact ⟨m7, rfl, (k5.tr k6.V).tr k7.V, fun f ns' is' hx => (by cases hx)⟩
      · refine ⟨m7, rfl, (k5.tr k6.V).tr k7.V, fun f ns' is' hx => ?_⟩
        have hx := Option.some.inj hx
        have x1 : ns' = ns := (congrArg (fun z => z.2.1) hx).symm
        have x2 : is' = [] := (congrArg (fun z => z.2.2) hx).symm
        rw [x1, x2]
        refine ⟨b1.trans a1, fun j hj => ?_⟩
        rw [bl j, lr j]
        unfold cR
        by_cases hj3 : j < 3
        · rw [if_pos hj3]
          by_cases hjn : j < ns.length
          · rw [if_pos hjn]
          · rw [if_neg hjn, l5 j hj, if_neg (by omega), show ns.getD j 0 = 0 by rw [List.getD_eq_getElem?_getD, List.getElem?_eq_none (by omega)]; rfl]
            rfl
        · rw [if_neg (by omega), if_neg hj3, if_pos (show ([] : List Nat).length = 0 from rfl), l5 j hj]
