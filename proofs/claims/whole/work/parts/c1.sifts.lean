/-! The reference's solver: sifting. -/
def RWm (m : Mi) (G : Rg) (d : Nat) (D : Nat → Nat → Bool) : Prop := ∀ p, p < G.1.length → gi m 903 (10 * d + p) = msk 7 (D p)
def SR (T : Nat → Nat) (G : Rg) (act : Nat → Bool) (D : Nat → Nat → Bool) (f : Nat → Nat) : Prop := (∀ p, p < G.1.length → D p (f p) = true) ∧ ∀ p q, p < G.1.length → q < G.1.length → BT T G act p (f p) q (f q) = true
def DV (G : Rg) (D : Nat → Nat → Bool) : Prop := ∀ p v, p < G.1.length → D p v = true → v ≤ cntR G.2.1 p
/-- value v of p is supported -/
def sup (T : Nat → Nat) (G : Rg) (act : Nat → Bool) (D : Nat → Nat → Bool) (p v : Nat) : Prop := ∀ q, q < G.1.length → ∃ w, w < 7 ∧ BT T G act p v q w = true ∧ D q w = true
def del (D : Nat → Nat → Bool) (p v : Nat) : Nat → Nat → Bool := fun q u => if q = p ∧ u = v then false else D q u
def cntD (np : Nat) (D : Nat → Nat → Bool) : Nat := ((List.range np).map (fun p => (List.range 7).countP (D p))).sum
theorem sum_le_lt {g h : Nat → Nat} {p : Nat} (hp : g p < h p) (hle : ∀ q, g q ≤ h q) : ∀ L : List Nat, (L.map g).sum ≤ (L.map h).sum ∧ (p ∈ L → (L.map g).sum < (L.map h).sum) := by
  intro L
  induction L with
  | nil => exact ⟨Nat.le_refl _, fun h => (by cases h)⟩
  | cons a L ih =>
    simp only [List.map_cons, List.sum_cons]
    have := hle a
    refine ⟨by have := ih.1; omega, fun hm => ?_⟩
    rcases List.mem_cons.mp hm with e | e
    · rw [← e] at this ⊢
      have := ih.1
      omega
    · have := ih.2 e
      omega
theorem cntD_del {np p v : Nat} {D : Nat → Nat → Bool} (hp : p < np) (hv : v < 7) (h : D p v = true) : cntD np (del D p v) < cntD np D := by
  unfold cntD
  have himp : ∀ q u, del D p v q u = true → D q u = true := fun q u hu => by
    unfold del at hu
    by_cases he : q = p ∧ u = v
    · rw [if_pos he] at hu; cases hu
    · rw [if_neg he] at hu; exact hu
  refine (sum_le_lt (g := fun q => (List.range 7).countP (del D p v q)) (h := fun q => (List.range 7).countP (D q)) (p := p) ?_ (fun q => List.countP_mono_left (fun u _ => himp q u)) (List.range np)).2 (List.mem_range.mpr hp)
  have hlt : ∀ n, v < n → (List.range n).countP (del D p v p) < (List.range n).countP (D p) := by
    intro n
    induction n with
    | zero => intro hn; omega
    | succ n ih =>
      intro hn
      rw [List.range_succ, List.countP_append, List.countP_append]
      simp only [List.countP_cons, List.countP_nil]
      by_cases hvn : v = n
      · subst hvn
        have h1 : del D p v p v = false := by unfold del; rw [if_pos ⟨rfl, rfl⟩]
        have h2 := List.countP_mono_left (l := List.range v) (fun u _ => himp p u)
        rw [h1, h]
        simp
        omega
      · have h1 := ih (by omega)
        have h2 : del D p v p n = D p n := by unfold del; rw [if_neg (fun z => hvn z.2.symm)]
        rw [h2]
        omega
  exact hlt 7 hv
def SfR (T : Nat → Nat) (G : Rg) (act : Nat → Bool) (D D' : Nat → Nat → Bool) : Prop := (∀ q u, D' q u = true → D q u = true) ∧ ∀ f, SR T G act D f → SR T G act D' f
theorem SfR.rf {T : Nat → Nat} {G : Rg} {act : Nat → Bool} {D : Nat → Nat → Bool} : SfR T G act D D := ⟨fun _ _ h => h, fun _ h => h⟩
theorem SfR.tr {T : Nat → Nat} {G : Rg} {act : Nat → Bool} {D D1 D2 : Nat → Nat → Bool} (h : SfR T G act D D1) (h2 : SfR T G act D1 D2) : SfR T G act D D2 := ⟨fun q u hu => h.1 q u (h2.1 q u hu), fun f hf => h2.2 f (h.2 f hf)⟩
theorem sup_lp {s n d p v : Nat} {m : Mi} {T : Nat → Nat} {G : Rg} {act : Nat → Bool} {D : Nat → Nat → Bool} {a4 : Int32} (hO : RO T n G) (hE : ME s m T n G) (hP : PBo m T G act) (hR : RWm m G d D) (hd : d ≤ 10) (hp : p < G.1.length) (hv : v ≤ cntR G.2.1 p) :
    ∀ (e k N : Nat), k + e = G.1.length → e + 1 < N → (∀ q, q < k → ∃ w, w < 7 ∧ BT T G act p v q w = true ∧ D q w = true) → ∃ r, lp (fun x : Int32 × Int32 => f_X12_sifts_l75 TT m 870 (nI G.1.length) (nI (10 * d)) a4 (nI p) (nI v) x.1 x.2) N (1, nI k) = some (bI r) ∧ (r = true ↔ sup T G act D p v) := by
  have hB1 := hO.2.1.1
  have h6 := hO.2.2.2.1.1 p
  have w44 : gr m 870 44 = 902 := hE.1 44 (by omega)
  have w45 : gr m 870 45 = 903 := hE.1 45 (by omega)
  intro e
  induction e with
  | zero =>
    intro k N hk hN hall
    obtain ⟨N, rfl⟩ : ∃ y, N = y + 1 := ⟨N - 1, by omega⟩
    refine ⟨true, lp_exit ?_, fun _ q hq => hall q (by omega), fun _ => rfl⟩
    show f_X12_sifts_l75 TT m 870 (nI G.1.length) (nI (10 * d)) a4 (nI p) (nI v) 1 (nI k) = _
    unfold f_X12_sifts_l75
    rw [if_pos (nI_le (by omega) (by omega))]
    rfl
  | succ e ih =>
    intro k N hk hN hall
    obtain ⟨N, rfl⟩ : ∃ y, N = y + 1 := ⟨N - 1, by omega⟩
    have hbody : f_X12_sifts_l75 TT m 870 (nI G.1.length) (nI (10 * d)) a4 (nI p) (nI v) 1 (nI k) = if msk 7 (fun w => BT T G act p v k w && D k w) = 0 then some (.inl (0, nI (k + 1))) else some (.inl (1, nI (k + 1))) := by
      unfold f_X12_sifts_l75 f_X12_pair
      rw [if_neg (nI_ge (by omega) (by omega)), if_neg (by decide), Option.bind_some, show (7 : Int32) = nI 7 from rfl, show (10 : Int32) = nI 10 from rfl, pk_mul, nI_add, pk_mul, nI_add, w44, if_pos (ar_of s_902 (by omega) (by omega)), w45, nI_add, if_pos (ar_of s_903 (by omega) (by omega)), ix_nI (n := (7 * p + v) * 10 + k) (by omega), ix_nI (n := 10 * d + k) (by omega), hP p v k hp hv (by omega), hR k (by omega), msk_and]
      simp only [lt_eq, nI_1]
    by_cases hz : msk 7 (fun w => BT T G act p v k w && D k w) = 0
    · rw [if_pos hz] at hbody
      obtain ⟨N, rfl⟩ : ∃ y, N = y + 1 := ⟨N - 1, by omega⟩
      refine ⟨false, ?_, fun h => (by cases h), fun hs => ?_⟩
      · rw [lp_step hbody, lp_exit (y := 0)]
        · rfl
        · show f_X12_sifts_l75 TT m 870 (nI G.1.length) (nI (10 * d)) a4 (nI p) (nI v) 0 (nI (k + 1)) = _
          unfold f_X12_sifts_l75
          by_cases hl : G.1.length ≤ k + 1
          · rw [if_pos (nI_le hl (by omega))]
          · rw [if_neg (nI_ge (by omega) (by omega)), if_pos rfl]
      · obtain ⟨w, h1, h2, h3⟩ := hs k (by omega)
        have := (msk_zero (by omega)).mp hz w h1
        rw [h2, h3] at this
        cases this
    · rw [if_neg hz] at hbody
      rw [lp_step hbody]
      refine ih (k + 1) N (by omega) (by omega) (fun q hq => ?_)
      by_cases hqk : q = k
      · rw [hqk]
        by_cases hex : ∃ w, w < 7 ∧ BT T G act p v k w = true ∧ D k w = true
        · exact hex
        · exfalso
          apply hz
          refine (msk_zero (by omega)).mpr (fun w hw => ?_)
          cases hb : BT T G act p v k w with
          | false => rfl
          | true =>
            cases hd2 : D k w with
            | false => rfl
            | true => exact absurd ⟨w, hw, hb, hd2⟩ hex
      · exact hall q (by omega)
theorem sv_lp {s n d p : Nat} {T : Nat → Nat} {G : Rg} {act : Nat → Bool} (hO : RO T n G) (hd : d ≤ 10) (hp : p < G.1.length) :
    ∀ (e k N : Nat) (m : Mi) (D : Nat → Nat → Bool) (mo : Bool), k + e = cntR G.2.1 p + 1 → e < N → ME s m T n G → PBo m T G act → RWm m G d D → DV G D →
    ∃ mo' D' m', lp (fun x : Int32 × Int32 × Mi => f_X12_sifts_l38 TT x.2.2 870 (nI G.1.length) (nI (10 * d)) x.1 (nI p) x.2.1) N (bI mo, nI k, m) = some (bI mo', m') ∧ FI (fun x j => x = 903 ∧ j = 10 * d + p) m m' ∧ RWm m' G d D' ∧ DV G D' ∧ SfR T G act D D' ∧ ((D' = D ∧ mo' = mo ∧ ∀ v, k ≤ v → D p v = true → sup T G act D p v) ∨ (mo' = true ∧ cntD G.1.length D' < cntD G.1.length D)) := by
  have hB := hO.2.1
  have hB1 := hB.1
  have h6 := hO.2.2.2.1.1 p
  intro e
  induction e with
  | zero =>
    intro k N m D mo hk hN hE hP hR hV
    obtain ⟨N, rfl⟩ : ∃ y, N = y + 1 := ⟨N - 1, by omega⟩
    refine ⟨mo, D, m, lp_exit ?_, FI.rf, hR, hV, SfR.rf, Or.inl ⟨rfl, rfl, fun v hv hD => by have := hV p v hp hD; omega⟩⟩
    show f_X12_sifts_l38 TT m 870 (nI G.1.length) (nI (10 * d)) (bI mo) (nI p) (nI k) = _
    unfold f_X12_sifts_l38
    rw [many_M hE.1 hE.2.1 hE.2.2.1 hE.2.2.2.1 hO hp, Option.bind_some, if_pos (nI_lt (by omega) (by omega))]
  | succ e ih =>
    intro k N m D mo hk hN hE hP hR hV
    obtain ⟨N, rfl⟩ : ∃ y, N = y + 1 := ⟨N - 1, by omega⟩
    have w45 : gr m 870 45 = 903 := hE.1 45 (by omega)
    have hstart : f_X12_sifts_l38 TT m 870 (nI G.1.length) (nI (10 * d)) (bI mo) (nI p) (nI k) = if bI (D p k) = 0 then some (.inl (bI mo, nI (k + 1), m)) else f_X12_sifts_j75 TT m 870 (nI G.1.length) (nI (10 * d)) (bI mo) (nI p) (nI k) 1 0 := by
      unfold f_X12_sifts_l38
      rw [many_M hE.1 hE.2.1 hE.2.2.1 hE.2.2.2.1 hO hp, Option.bind_some, if_neg (nI_nlt (by omega) (by omega)), w45, nI_add, if_pos (ar_of s_903 (by omega) (by omega)), ix_nI (by omega), hR p hp, msk_get (show k < 7 by omega) (by omega), lt_eq, nI_1]
    cases hD : D p k with
    | false =>
      rw [hD, if_pos bF] at hstart
      rw [lp_step hstart]
      obtain ⟨mo', D', m', e1, f1, r1, v1, s1, o1⟩ := ih (k + 1) N m D mo (by omega) (by omega) hE hP hR hV
      refine ⟨mo', D', m', e1, f1, r1, v1, s1, o1.imp (fun h => ⟨h.1, h.2.1, fun v hv hDv => ?_⟩) id⟩
      by_cases hvk : v = k
      · rw [hvk, hD] at hDv; cases hDv
      · exact h.2.2 v (by omega) hDv
    | true =>
      rw [hD, if_neg bTr] at hstart
      obtain ⟨r, e1, g1⟩ := sup_lp (a4 := bI mo) hO hE hP hR hd hp (show k ≤ cntR G.2.1 p by omega) G.1.length 0 FUEL (by omega) (by unfold FUEL; omega) (fun q hq => by omega)
      unfold f_X12_sifts_j75 at hstart
      rw [show ((1 : Int32), (0 : Int32)) = (1, nI 0) from rfl, e1, Option.bind_some] at hstart
      unfold f_X12_sifts_j126 at hstart
      cases r with
      | true =>
        rw [if_neg bTr, lt_eq, nI_1] at hstart
        rw [lp_step hstart]
        obtain ⟨mo', D', m', e2, f2, r2, v2, s2, o2⟩ := ih (k + 1) N m D mo (by omega) (by omega) hE hP hR hV
        refine ⟨mo', D', m', e2, f2, r2, v2, s2, o2.imp (fun h => ⟨h.1, h.2.1, fun v hv hDv => ?_⟩) id⟩
        by_cases hvk : v = k
        · rw [hvk]; exact g1.mp rfl
        · exact h.2.2 v (by omega) hDv
      | false =>
        rw [if_pos bF, w45, nI_add, if_pos (ar_of s_903 (by omega) (by omega)), lt_eq, lt_eq, ix_nI (by omega), hR p hp, one_msk (show k < 7 by omega) (by omega), msk_without, nI_1] at hstart
        have hm : msk 7 (fun i => D p i && !decide (i = k)) = msk 7 (del D p k p) := msk_congr (fun i _ => by
          unfold del
          by_cases hik : i = k
          · rw [if_pos ⟨rfl, hik⟩, decide_eq_true hik]; simp
          · rw [if_neg (fun z => hik z.2), decide_eq_false hik]; simp)
        rw [hm] at hstart
        have f1 : FI (fun x j => x = 903 ∧ j = 10 * d + p) m (si m 903 (10 * d + p) (msk 7 (del D p k p))) := FI.si (P := fun x j => x = 903 ∧ j = 10 * d + p) ⟨rfl, rfl⟩
        have hR1 : RWm (si m 903 (10 * d + p) (msk 7 (del D p k p))) G d (del D p k) := fun q hq => by
          by_cases hqp : q = p
          · rw [hqp]; exact gi_si _ _ _ _
          · simp only [mS]
            rw [if_neg (by omega), hR q hq]
            exact msk_congr (fun u _ => by unfold del; rw [if_neg (fun z => hqp z.1)])
        have hsub : ∀ q u, del D p k q u = true → D q u = true := fun q u hu => by
          unfold del at hu
          by_cases he : q = p ∧ u = k
          · rw [if_pos he] at hu; cases hu
          · rw [if_neg he] at hu; exact hu
        have hS1 : SfR T G act D (del D p k) := by
          refine ⟨hsub, fun f hf => ⟨fun q hq => ?_, hf.2⟩⟩
          unfold del
          by_cases he : q = p ∧ f q = k
          · exfalso
            have hns : ¬ sup T G act D p k := fun z => by have := g1.mpr z; cases this
            apply hns
            intro t ht
            have hb := hf.2 p t hp ht
            rw [← he.1, he.2] at hb
            have hdt := hf.1 t ht
            have hb' : BT T G act p k t (f t) = true := by rw [← he.1]; exact hb
            refine ⟨f t, ?_, hb', hdt⟩
            have := hV t _ ht hdt
            have := hO.2.2.2.1.1 t
            omega
          · rw [if_neg he]; exact hf.1 q hq
        rw [lp_step (show f_X12_sifts_l38 TT m 870 (nI G.1.length) (nI (10 * d)) (bI mo) (nI p) (nI k) = some (.inl (bI true, nI (k + 1), si m 903 (10 * d + p) (msk 7 (del D p k p)))) from hstart)]
        have hc := cntD_del hp (show k < 7 by omega) hD
        obtain ⟨mo', D', m', e2, f2, r2, v2, s2, o2⟩ := ih (k + 1) N (si m 903 (10 * d + p) (msk 7 (del D p k p))) (del D p k) true (by omega) (by omega) (hE.keep hB f1 (fun x j z => by omega)) (fun a b c h1 h2 h3 => (f1.1 _ _ (by omega)).trans (hP a b c h1 h2 h3)) hR1 (fun q u hq hu => hV q u hq (hsub q u hu))
        refine ⟨mo', D', m', e2, f1.tr f2, r2, v2, hS1.tr s2, Or.inr ?_⟩
        rcases o2 with ⟨a1, a2, _⟩ | ⟨a1, a2⟩
        · exact ⟨a2, by rw [a1]; exact hc⟩
        · exact ⟨a1, by omega⟩
theorem sp_lp {s n d : Nat} {T : Nat → Nat} {G : Rg} {act : Nat → Bool} (hO : RO T n G) (hd : d ≤ 10) :
    ∀ (e k N : Nat) (m : Mi) (D : Nat → Nat → Bool) (mo : Bool), k + e = G.1.length → e < N → ME s m T n G → PBo m T G act → RWm m G d D → DV G D →
    ∃ y D' m', lp (fun x : Int32 × Int32 × Mi => f_X12_sifts_l29 TT x.2.2 870 (nI G.1.length) (nI (10 * d)) x.1 x.2.1) N (bI mo, nI k, m) = some y ∧ FI (fun x j => x = 903 ∧ 10 * d ≤ j ∧ j < 10 * d + 10) m m' ∧ RWm m' G d D' ∧ DV G D' ∧ SfR T G act D D' ∧ ((∃ mo', y = .inl (bI mo', m') ∧ ((D' = D ∧ mo' = mo ∧ ∀ p, k ≤ p → p < G.1.length → (∀ v, D p v = true → sup T G act D p v) ∧ ∃ v, v < 7 ∧ D p v = true) ∨ (mo' = true ∧ cntD G.1.length D' < cntD G.1.length D))) ∨ (y = .inr m' ∧ ∃ p, p < G.1.length ∧ ∀ v, v < 7 → D' p v = false)) := by
  have hB := hO.2.1
  have hB1 := hB.1
  intro e
  induction e with
  | zero =>
    intro k N m D mo hk hN hE hP hR hV
    obtain ⟨N, rfl⟩ : ∃ y, N = y + 1 := ⟨N - 1, by omega⟩
    refine ⟨.inl (bI mo, m), D, m, lp_exit ?_, FI.rf, hR, hV, SfR.rf, Or.inl ⟨mo, rfl, Or.inl ⟨rfl, rfl, fun p h1 h2 => by omega⟩⟩⟩
    show f_X12_sifts_l29 TT m 870 (nI G.1.length) (nI (10 * d)) (bI mo) (nI k) = _
    unfold f_X12_sifts_l29
    rw [if_pos (nI_le (by omega) (by omega))]
  | succ e ih =>
    intro k N m D mo hk hN hE hP hR hV
    obtain ⟨N, rfl⟩ : ∃ y, N = y + 1 := ⟨N - 1, by omega⟩
    have h6 := hO.2.2.2.1.1 k
    obtain ⟨mo1, D1, m1, e1, f1, r1, v1, s1, o1⟩ := sv_lp (p := k) hO hd (by omega) (cntR G.2.1 k + 1) 0 FUEL m D mo (by omega) (by unfold FUEL; omega) hE hP hR hV
    have f1' : FI (fun x j => x = 903 ∧ 10 * d ≤ j ∧ j < 10 * d + 10) m m1 := f1.mono (fun x j z => by omega)
    have E1 := hE.keep hB f1 (fun x j z => by omega)
    have P1 : PBo m1 T G act := fun a b c h1 h2 h3 => (f1.1 _ _ (by omega)).trans (hP a b c h1 h2 h3)
    have w45 : gr m1 870 45 = 903 := E1.1 45 (by omega)
    have hstart : f_X12_sifts_l29 TT m 870 (nI G.1.length) (nI (10 * d)) (bI mo) (nI k) = if msk 7 (D1 k) = 0 then some (.inr (.inr m1)) else some (.inl (bI mo1, nI (k + 1), m1)) := by
      unfold f_X12_sifts_l29 f_X12_sifts_j38
      rw [if_neg (nI_ge (by omega) (by omega)), show (bI mo, (0 : Int32), m) = (bI mo, nI 0, m) from rfl, e1, Option.bind_some]
      unfold f_X12_sifts_j168
      rw [w45, nI_add, if_pos (ar_of s_903 (by omega) (by omega)), ix_nI (by omega), r1 k (by omega), lt_eq, nI_1]
    by_cases hz : msk 7 (D1 k) = 0
    · rw [if_pos hz] at hstart
      exact ⟨.inr m1, D1, m1, lp_exit hstart, f1', r1, v1, s1, Or.inr ⟨rfl, k, by omega, (msk_zero (by omega)).mp hz⟩⟩
    · rw [if_neg hz] at hstart
      have hne : ∃ v, v < 7 ∧ D1 k v = true := by
        by_cases hex : ∃ v, v < 7 ∧ D1 k v = true
        · exact hex
        · exfalso
          apply hz
          refine (msk_zero (by omega)).mpr (fun v hv => ?_)
          cases hh : D1 k v with
          | false => rfl
          | true => exact absurd ⟨v, hv, hh⟩ hex
      obtain ⟨y, D', m', e2, f2, r2, v2, s2, o2⟩ := ih (k + 1) N m1 D1 mo1 (by omega) (by omega) E1 P1 r1 v1
      refine ⟨y, D', m', by rw [lp_step hstart]; exact e2, f1'.tr f2, r2, v2, s1.tr s2, o2.imp (fun h => ?_) id⟩
      obtain ⟨mo', hy, ho⟩ := h
      refine ⟨mo', hy, ?_⟩
      rcases o1 with ⟨a1, a2, a3⟩ | ⟨a1, a2⟩
      · rcases ho with ⟨b1, b2, b3⟩ | ⟨b1, b2⟩
        · refine Or.inl ⟨b1.trans a1, b2.trans a2, fun p h1 h2 => ?_⟩
          by_cases hpk : p = k
          · subst hpk
            rw [a1] at hne
            exact ⟨fun v hv => a3 v (Nat.zero_le _) hv, hne⟩
          · have := b3 p (by omega) h2
            rw [a1] at this
            exact this
        · exact Or.inr ⟨b1, by rw [← a1]; exact b2⟩
      · rcases ho with ⟨b1, b2, b3⟩ | ⟨b1, b2⟩
        · exact Or.inr ⟨b2.trans a1, by rw [b1]; exact a2⟩
        · exact Or.inr ⟨b1, by omega⟩
/-- every value left is supported, and one is left of each package -/
def AC (T : Nat → Nat) (G : Rg) (act : Nat → Bool) (D : Nat → Nat → Bool) : Prop := ∀ p, p < G.1.length → (∀ v, D p v = true → sup T G act D p v) ∧ ∃ v, v < 7 ∧ D p v = true
theorem sifts_lp {s n d : Nat} {T : Nat → Nat} {G : Rg} {act : Nat → Bool} (hO : RO T n G) (hd : d ≤ 10) :
    ∀ (c N : Nat) (m : Mi) (D : Nat → Nat → Bool), cntD G.1.length D ≤ c → c + 2 < N → ME s m T n G → PBo m T G act → RWm m G d D → DV G D →
    ∃ r D' m', (lp (fun x : Int32 × Mi => f_X12_sifts_l18 TT x.2 870 (nI G.1.length) (nI (10 * d)) x.1) N (1, m)).bind (Sum.elim (fun y : Mi => f_X12_sifts_j191 TT y) (fun y : Mi => f_X12_sifts_j180 TT y)) = some (bI r, m') ∧ FI (fun x j => x = 903 ∧ 10 * d ≤ j ∧ j < 10 * d + 10) m m' ∧ RWm m' G d D' ∧ DV G D' ∧ SfR T G act D D' ∧ (r = true → AC T G act D') ∧ (r = false → ∀ f, ¬ SR T G act D f) := by
  have hB := hO.2.1
  have hB1 := hB.1
  intro c
  induction c with
  | zero =>
    intro N m D hc hN hE hP hR hV
    obtain ⟨N, rfl⟩ : ∃ y, N = y + 1 + 1 := ⟨N - 2, by omega⟩
    obtain ⟨y, D1, m1, e1, f1, r1, v1, s1, o1⟩ := sp_lp hO hd G.1.length 0 FUEL m D false (by omega) (by unfold FUEL; omega) hE hP hR hV
    have hstart : f_X12_sifts_l18 TT m 870 (nI G.1.length) (nI (10 * d)) 1 = (some y).bind (Sum.elim (fun y : Int32 × Mi => f_X12_sifts_j188 TT (y.2) 870 (nI G.1.length) (nI (10 * d)) (y.1)) (fun y : Mi => some (.inr (.inr y)))) := by
      unfold f_X12_sifts_l18 f_X12_sifts_j29
      rw [if_neg (by decide), show ((0 : Int32), (0 : Int32), m) = (bI false, nI 0, m) from rfl, e1]
    rcases o1 with ⟨mo', hy, ho⟩ | ⟨hy, p, hp, hpz⟩
    · rw [hy] at hstart
      have hstart : f_X12_sifts_l18 TT m 870 (nI G.1.length) (nI (10 * d)) 1 = some (.inl (bI mo', m1)) := hstart
      rcases ho with ⟨a1, a2, a3⟩ | ⟨a1, a2⟩
      · refine ⟨true, D1, m1, ?_, f1, r1, v1, s1, fun _ p hp => ?_, fun h => (by cases h)⟩
        · rw [lp_step hstart, a2, lp_exit (y := .inl m1)]
          · rfl
          · show f_X12_sifts_l18 TT m1 870 (nI G.1.length) (nI (10 * d)) (bI false) = _
            unfold f_X12_sifts_l18
            rw [if_pos bF]
        · rw [a1]; exact a3 p (Nat.zero_le _) hp
      · omega
    · rw [hy] at hstart
      refine ⟨false, D1, m1, ?_, f1, r1, v1, s1, fun h => (by cases h), fun _ f hf => ?_⟩
      · rw [lp_exit (y := .inr m1) hstart]
        rfl
      · have h1 := (s1.2 f hf).1 p hp
        have h2 := v1 p _ hp h1
        have h6 := hO.2.2.2.1.1 p
        rw [hpz (f p) (by omega)] at h1
        cases h1
  | succ c ih =>
    intro N m D hc hN hE hP hR hV
    obtain ⟨N, rfl⟩ : ∃ y, N = y + 1 + 1 := ⟨N - 2, by omega⟩
    obtain ⟨y, D1, m1, e1, f1, r1, v1, s1, o1⟩ := sp_lp hO hd G.1.length 0 FUEL m D false (by omega) (by unfold FUEL; omega) hE hP hR hV
    have hstart : f_X12_sifts_l18 TT m 870 (nI G.1.length) (nI (10 * d)) 1 = (some y).bind (Sum.elim (fun y : Int32 × Mi => f_X12_sifts_j188 TT (y.2) 870 (nI G.1.length) (nI (10 * d)) (y.1)) (fun y : Mi => some (.inr (.inr y)))) := by
      unfold f_X12_sifts_l18 f_X12_sifts_j29
      rw [if_neg (by decide), show ((0 : Int32), (0 : Int32), m) = (bI false, nI 0, m) from rfl, e1]
    rcases o1 with ⟨mo', hy, ho⟩ | ⟨hy, p, hp, hpz⟩
    · rw [hy] at hstart
      have hstart : f_X12_sifts_l18 TT m 870 (nI G.1.length) (nI (10 * d)) 1 = some (.inl (bI mo', m1)) := hstart
      rcases ho with ⟨a1, a2, a3⟩ | ⟨a1, a2⟩
      · refine ⟨true, D1, m1, ?_, f1, r1, v1, s1, fun _ p hp => ?_, fun h => (by cases h)⟩
        · rw [lp_step hstart, a2, lp_exit (y := .inl m1)]
          · rfl
          · show f_X12_sifts_l18 TT m1 870 (nI G.1.length) (nI (10 * d)) (bI false) = _
            unfold f_X12_sifts_l18
            rw [if_pos bF]
        · rw [a1]; exact a3 p (Nat.zero_le _) hp
      · obtain ⟨r, D', m', e2, f2, r2, v2, s2, g2, g3⟩ := ih (N + 1) m1 D1 (by omega) (by omega) (hE.keep hB f1 (fun x j z => by omega)) (fun a b c h1 h2 h3 => (f1.1 _ _ (by omega)).trans (hP a b c h1 h2 h3)) r1 v1
        refine ⟨r, D', m', ?_, f1.tr f2, r2, v2, s1.tr s2, g2, fun hr f hf => g3 hr f (s1.2 f hf)⟩
        rw [lp_step hstart, a1]
        exact e2
    · rw [hy] at hstart
      refine ⟨false, D1, m1, ?_, f1, r1, v1, s1, fun h => (by cases h), fun _ f hf => ?_⟩
      · rw [lp_exit (y := .inr m1) hstart]
        rfl
      · have h1 := (s1.2 f hf).1 p hp
        have h2 := v1 p _ hp h1
        have h6 := hO.2.2.2.1.1 p
        rw [hpz (f p) (by omega)] at h1
        cases h1
theorem cntD_le (np : Nat) (D : Nat → Nat → Bool) : cntD np D ≤ 7 * np := by
  unfold cntD
  have : ∀ L : List Nat, (L.map (fun p => (List.range 7).countP (D p))).sum ≤ 7 * L.length := by
    intro L
    induction L with
    | nil => simp
    | cons a L ih =>
      simp only [List.map_cons, List.sum_cons, List.length_cons]
      have := cnt7 (D a)
      omega
  have h := this (List.range np)
  rw [List.length_range] at h
  exact h
theorem sifts_M {s n d : Nat} {m : Mi} {T : Nat → Nat} {G : Rg} {act : Nat → Bool} {D : Nat → Nat → Bool} (hO : RO T n G) (hd : d ≤ 10) (hE : ME s m T n G) (hP : PBo m T G act) (hR : RWm m G d D) (hV : DV G D) :
    ∃ r D' m', f_X12_sifts TT m 870 (nI d) = some (bI r, m') ∧ FI (fun x j => x = 903 ∧ 10 * d ≤ j ∧ j < 10 * d + 10) m m' ∧ RWm m' G d D' ∧ DV G D' ∧ SfR T G act D D' ∧ (r = true → AC T G act D') ∧ (r = false → ∀ f, ¬ SR T G act D f) := by
  have hB1 := hO.2.1.1
  have := cntD_le G.1.length D
  obtain ⟨r, D', m', e1, h⟩ := sifts_lp (act := act) hO hd 70 FUEL m D (by omega) (by unfold FUEL; omega) hE hP hR hV
  refine ⟨r, D', m', ?_, h⟩
  unfold f_X12_sifts f_X12_sifts_j18
  rw [hE.2.2.1, hE.1.W.1, if_pos (ar_of s_881 hE.2.1 (by omega)), lt_eq, ix_nI (by have := hE.2.1; omega), hE.2.2.2.1.1.1, lt_eq, show (10 : Int32) = nI 10 from rfl, pk_mul]
  exact e1
