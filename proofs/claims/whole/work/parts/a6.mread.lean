/-! read of the reference. -/
def RdM (x j : Nat) : Prop := (x = 870 ∧ (j = 1 ∨ j = 3 ∨ j = 5 ∨ j = 6 ∨ j = 10 ∨ (14 ≤ j ∧ j ≤ 21) ∨ (49 ≤ j ∧ j ≤ 52))) ∨ x = 872 ∨ x = 873 ∨ x = 876 ∨ x = 878 ∨ x = 879 ∨ (x = 874 ∧ (j < 250 ∨ 266 ≤ j)) ∨ (x = 875 ∧ (j < 72000 ∨ 76608 ≤ j)) ∨ (880 ≤ x ∧ x ≤ 899)
theorem PR.D {m m' : Mi} (h : FrM PR m m') : FrM RdM m m' := h.mono (fun x j e => by unfold PR at e; unfold RdM; omega)
theorem FS.D {s : Nat} {m m' : Mi} (h : FrM (FS s) m m') : FrM RdM m m' := h.mono (fun x j e => by
  rcases e with e | e | e | e | e | e | e | e | e
  · unfold PR at e; unfold RdM; omega
  · unfold RdM; omega
  · unfold RdM; omega
  · unfold RdM; omega
  · unfold RdM; omega
  · unfold RdM; omega
  · unfold RdM; omega
  · unfold RdM; omega
  · unfold RdM; omega)
theorem text_lp {s n : Nat} {m : Mi} {T : Nat → Nat} (hs : s < 2) (hM : MT m n T) : lp (fun x : Int32 × Mi => f_X12_read_l49 TT x.2 870 (nI s) x.1) FUEL (0, m) = some (blkI m 880 (2000 * s) (2000 * s + n) (fun j => bT (T (j - 2000 * s)))) := by
  have hn := hM.2.2.1
  have h22 : gr m 870 22 = 880 := hM.1 22 (by omega)
  have h2 : gr m 870 2 = 872 := hM.1 2 (by omega)
  have h := lp_count (body := fun x : Int32 × Mi => f_X12_read_l49 TT x.2 870 (nI s) x.1) (fun k => (nI k, blkI m 880 (2000 * s) (2000 * s + k) (fun j => bT (T (j - 2000 * s))))) (a := 0) (n := n) (y := blkI m 880 (2000 * s) (2000 * s + n) (fun j => bT (T (j - 2000 * s)))) (Nat.zero_le _) (by omega) (fun k _ hk => ?_) ?_
  · rw [Nat.add_zero, blkI_nil] at h
    exact h
  · show f_X12_read_l49 TT (blkI m 880 (2000 * s) (2000 * s + k) (fun j => bT (T (j - 2000 * s)))) 870 (nI s) (nI k) = _
    have e3 : gi (blkI m 880 (2000 * s) (2000 * s + k) (fun j => bT (T (j - 2000 * s)))) 870 3 = nI n := by simp only [mS]; rw [if_neg (by omega)]; exact hM.2.1
    have eT : gi (blkI m 880 (2000 * s) (2000 * s + k) (fun j => bT (T (j - 2000 * s)))) 872 k = bT (T k) := by simp only [mS]; rw [if_neg (by omega)]; exact (hM.2.2.2 k hk).1
    have r22 : gr (blkI m 880 (2000 * s) (2000 * s + k) (fun j => bT (T (j - 2000 * s)))) 870 22 = 880 := h22
    have r2 : gr (blkI m 880 (2000 * s) (2000 * s + k) (fun j => bT (T (j - 2000 * s)))) 870 2 = 872 := h2
    have sn := blkI_snoc m 880 (2000 * s) (2000 * s + k) (fun j => bT (T (j - 2000 * s))) (by omega)
    simp only [Nat.add_sub_cancel_left] at sn
    unfold f_X12_read_l49
    rw [e3, if_neg (nI_ge hk (by omega)), r2, if_pos (ar_of s_872 (by omega) (by omega)), r22, show (2000 : Int32) = nI 2000 from rfl, pk_mul, nI_add, if_pos (ar_of s_880 (by omega) (by omega)), lt_eq, lt_eq, ix_nI (by omega), ix_nI (by omega), eT, bT_nar _ (hM.2.2.2 k hk).2, sn, nI_1]
    rfl
  · show f_X12_read_l49 TT (blkI m 880 (2000 * s) (2000 * s + n) (fun j => bT (T (j - 2000 * s)))) 870 (nI s) (nI n) = _
    have e3 : gi (blkI m 880 (2000 * s) (2000 * s + n) (fun j => bT (T (j - 2000 * s)))) 870 3 = nI n := by simp only [mS]; rw [if_neg (by omega)]; exact hM.2.1
    unfold f_X12_read_l49
    rw [e3, if_pos (nI_le (Nat.le_refl _) (by omega))]
/-- a range that was read becomes range c -/
theorem rcopy_M {m : Mi} {c : Nat} {B : List Row} (hM : WFM m) (hc : c < 250) (h : MR m c B) :
    ∃ m', (if ar TT (gr m 870 39) .int (nI c) = true then (if ar TT (gr m 870 7) .int (nI c) = true then lt (si m (gr m 870 7) (ix (nI c)) (gi m (gr m 870 39) (ix (nI c)))) fun m19 => f_X12_read_j114 TT m19 870 288 (nI c) 0 else none) else none) = some (.inl (nI (c + 1), m')) ∧ MG m' c B ∧ FrM (fun x j => (x = 874 ∧ j = c) ∨ (x = 875 ∧ 288 * c ≤ j ∧ j < 288 * c + 288)) m m' := by
  have hW := hM.W
  have h7 : gr m 870 7 = 874 := hM 7 (by omega)
  have h8 : gr m 870 8 = 875 := hM 8 (by omega)
  obtain ⟨n, b1, b2, b3, b4, b5⟩ := h
  rw [hW.2.2.2.2.2.2.2.2.2.2.2.2.2.2.2.2.1, if_pos (ar_of s_897 hc (by omega)), h7, if_pos (ar_of s_874 (by omega) (by omega)), lt_eq, ix_nI (by omega), b3]
  have q1 : gi (si m 874 c (nI n)) 874 c = nI n := gi_si _ _ _ _
  have f1 : FrM (fun x j => (x = 874 ∧ j = c) ∨ (x = 875 ∧ 288 * c ≤ j ∧ j < 288 * c + 288)) m (si m 874 c (nI n)) := FrM.si (P := fun x j => (x = 874 ∧ j = c) ∨ (x = 875 ∧ 288 * c ≤ j ∧ j < 288 * c + 288)) (Or.inl ⟨rfl, rfl⟩)
  have k8 : gr (si m 874 c (nI n)) 870 8 = 875 := h8
  have k40 : gr (si m 874 c (nI n)) 870 40 = 898 := hW.2.2.2.2.2.2.2.2.2.2.2.2.2.2.2.2.2.1
  have kl : ∀ j, gl (si m 874 c (nI n)) 898 j = gl m 898 j := fun _ => rfl
  generalize si m 874 c (nI n) = m3 at *
  have st : ∀ k, k < 288 → f_X12_read_l114 TT (blkL m3 875 (288 * c) (288 * c + k) (fun j => gl m3 898 j)) 870 288 (nI c) (nI k) = some (.inl (nI (k + 1), blkL m3 875 (288 * c) (288 * c + (k + 1)) (fun j => gl m3 898 j))) := by
    intro k hk
    have e : gl (blkL m3 875 (288 * c) (288 * c + k) (fun j => gl m3 898 j)) 898 (288 * c + k) = gl m3 898 (288 * c + k) := by
      simp only [mS]
      rw [if_neg (by omega)]
    have r8 : gr (blkL m3 875 (288 * c) (288 * c + k) (fun j => gl m3 898 j)) 870 8 = 875 := k8
    have r40 : gr (blkL m3 875 (288 * c) (288 * c + k) (fun j => gl m3 898 j)) 870 40 = 898 := k40
    have sn := blkL_snoc m3 875 (288 * c) (288 * c + k) (fun j => gl m3 898 j) (by omega)
    unfold f_X12_read_l114
    rw [if_neg (show ¬ (288 : Int32) ≤ nI k from nI_ge (b := 288) hk (by omega)), r8, r40, show (288 : Int32) = nI 288 from rfl, pk_mul, nI_add, if_pos (ar_of s_898 (by omega) (by omega)), if_pos (ar_of s_875 (by omega) (by omega)), lt_eq, lt_eq, ix_nI (by omega), show c * 288 + k = 288 * c + k by omega, e, nI_1, sn]
    rfl
  have hlp := lp_count (body := fun x : Int32 × Mi => f_X12_read_l114 TT x.2 870 288 (nI c) x.1) (fun k => (nI k, blkL m3 875 (288 * c) (288 * c + k) (fun j => gl m3 898 j))) (a := 0) (n := 288) (y := blkL m3 875 (288 * c) (288 * c + 288) (fun j => gl m3 898 j)) (Nat.zero_le _) (by omega) (fun k _ hk => st k hk) (by
    show f_X12_read_l114 TT _ 870 288 (nI c) (nI 288) = _
    unfold f_X12_read_l114
    rw [if_pos (by decide)])
  rw [Nat.add_zero, blkL_nil] at hlp
  unfold f_X12_read_j114
  rw [show ((0 : Int32), m3) = (nI 0, m3) from rfl, hlp, Option.bind_some]
  unfold f_X12_read_j150
  rw [lt_eq, nI_1]
  have f2 : FrM (fun x j => (x = 874 ∧ j = c) ∨ (x = 875 ∧ 288 * c ≤ j ∧ j < 288 * c + 288)) m3 (blkL m3 875 (288 * c) (288 * c + 288) (fun j => gl m3 898 j)) := FrM.blk (fun j a b => Or.inr ⟨rfl, a, b⟩)
  refine ⟨_, rfl, ⟨n, b1, b2, q1, ?_, ?_⟩, f1.tr f2⟩
  · intro b hb
    refine VR_congr (fun z hz => ?_) (b4 b hb)
    simp only [mS]
    rw [if_pos ⟨trivial, by omega, by omega⟩, kl]
  · rw [← b5]
    unfold bM
    apply List.map_congr_left
    intro b hb
    have hb := List.mem_range.mp hb
    refine trM_congr (fun z hz => ?_)
    simp only [mS]
    rw [if_pos ⟨trivial, by omega, by omega⟩, kl]
theorem ranges_lp {s n : Nat} {T : Nat → Nat} {G : Rg} (hs : s < 2) (hO : RO T n G) : ∀ (d k N : Nat) (m : Mi), k + d = G.2.2.length → d < N → WFM m → gi m 870 21 = nI s → DN s m G → EK m T G.2.2 → (∀ c x, c < k → G.2.2[c]? = some x → MG m c (rgC T x)) →
    ∃ m', lp (fun y : Int32 × Mi => f_X12_read_l88 TT y.2 870 288 y.1) N (nI k, m) = some m' ∧ FrM (fun x j => (x = 874 ∧ j < 250) ∨ (x = 875 ∧ j < 72000)) m m' ∧ ∀ c x, G.2.2[c]? = some x → MG m' c (rgC T x) := by
  have hB := hO.2.1
  have hB3 := hB.2.2
  intro d
  induction d with
  | zero =>
    intro k N m hk hN hM h21 h0 hE hc
    obtain ⟨N, rfl⟩ : ∃ y, N = y + 1 := ⟨N - 1, by omega⟩
    refine ⟨m, lp_exit ?_, FrM.rf, fun c x hx => hc c x (by have := get_lt hx; omega) hx⟩
    show f_X12_read_l88 TT m 870 288 (nI k) = _
    unfold f_X12_read_l88
    rw [cons_M hM hs h21 h0, Option.bind_some, if_pos (nI_le (by omega) (by omega))]
  | succ d ih =>
    intro k N m hk hN hM h21 h0 hE hc
    obtain ⟨N, rfl⟩ : ∃ y, N = y + 1 := ⟨N - 1, by omega⟩
    obtain ⟨x, hx⟩ := get_some (l := G.2.2) (k := k) (by omega)
    obtain ⟨m1, e1, g1, f1⟩ := rcopy_M hM (by omega) (hE k x hx)
    have hbody : f_X12_read_l88 TT m 870 288 (nI k) = some (.inl (nI (k + 1), m1)) := by
      unfold f_X12_read_l88
      rw [cons_M hM hs h21 h0, Option.bind_some, if_neg (nI_ge (by omega) (by omega)), e1]
    rw [lp_step hbody]
    have f1' : FrM (fun x j => (x = 874 ∧ j < 250) ∨ (x = 875 ∧ j < 72000)) m m1 := f1.mono (fun y j h => by omega)
    obtain ⟨m', e2, f2, g2⟩ := ih (k + 1) N m1 (by omega) (by omega) (hM.keepF f1) ((f1.1 _ _ (by omega)).1.trans h21) (h0.keep (fun y j a b => (f1.1 _ _ (by omega)).1)) (hE.keep (fun y j a => f1.1 _ _ (by omega))) (fun c y hck hy => by
      by_cases h : c = k
      · subst h
        rw [hx] at hy
        cases hy
        exact g1
      · exact (hc c y (by omega) hy).keepF f1 (by omega) (fun j a b => by omega))
    exact ⟨m', e2, f1'.tr f2, g2⟩
theorem rgC_up {T : Nat → Nat} {n : Nat} {G : Rg} (hO : RO T n G) {c : Nat} {x : CnT} (hx : G.2.2[c]? = some x) : GB (rgC T x) := by
  obtain ⟨g1, g2, g3, g4⟩ := hO.1.2.2.2.1 x (List.mem_of_getElem? hx)
  obtain ⟨t1, t2, t3, t4⟩ := ts_cut g4
  have hgo : ∀ (l : List Tok) (lo hi : Row) (R : List Row) (a p : Nat), (∀ y ∈ l, isP y.1 = true ∨ y.1 = 9) → (∀ y ∈ l, isP y.1 = true → BR (cP T y).1 ∧ BR (cP T y).2) → BR lo → BR hi → GB R → R.length + 2 ≤ 2 * a → a ≤ 16 → (chk l a p).1 = 0 → (chk l a p).2 = l.length → GB (rgo (cP T) l lo hi R) := by
    intro l
    induction l with
    | nil =>
      intro lo hi R a p _ _ hlo hhi hR hl ha _ _
      exact (jo1_GB hR (by omega) hlo hhi).1
    | cons y l ih =>
      intro lo hi R a p h1 h2 hlo hhi hR hl ha hz hz2
      rw [rgo]
      rw [chk] at hz hz2
      by_cases hP : isP y.1 = true
      · have hy9 : ¬ y.1 = 9 := by
          intro e
          rw [e] at hP
          cases hP
        rw [if_pos hP] at hz hz2
        by_cases h6 : 6 < p + 1 ∨ 16 < a
        · rw [if_pos h6] at hz
          cases hz
        · rw [if_neg h6] at hz hz2
          rw [if_neg hy9]
          have hb := h2 y List.mem_cons_self hP
          simp only [List.length_cons] at hz2
          exact ih _ _ R a (p + 1) (fun w hw => h1 w (List.mem_cons_of_mem _ hw)) (fun w hw => h2 w (List.mem_cons_of_mem _ hw)) (mxBR hlo hb.1) (mnBR hhi hb.2) hR hl ha hz (by omega)
      · rw [if_neg hP] at hz hz2
        have hy9 : y.1 = 9 := (h1 y List.mem_cons_self).resolve_left hP
        by_cases hp0 : y.1 = 9 ∧ 0 < p
        · rw [if_pos hp0] at hz hz2
          rw [if_pos hy9]
          obtain ⟨j1, j2⟩ := jo1_GB hR (by omega) hlo hhi
          simp only [List.length_cons] at hz2
          by_cases ha16 : a = 16
          · exfalso
            cases l with
            | nil => rw [chk] at hz; cases hz
            | cons w l2 =>
              rw [chk] at hz
              by_cases hw : isP w.1 = true
              · rw [if_pos hw, if_pos (Or.inr (by omega))] at hz
                cases hz
              · rw [if_neg hw, if_neg (by omega)] at hz
                cases hz
          · exact ih _ _ _ (a + 1) 0 (fun w hw => h1 w (List.mem_cons_of_mem _ hw)) (fun w hw => h2 w (List.mem_cons_of_mem _ hw)) BR_LE BR_EN j1 (by omega) (by omega) hz (by omega)
        · rw [if_neg hp0] at hz2
          simp at hz2
  have hTT : ∀ j, j < lst x.2.2.2 → T j < 256 := fun j hj => hO.2.2.2.2.2 j (by omega)
  have hn := hO.2.2.2.2.1
  refine hgo x.2.2.2 LE EN [] 1 0 t4 (fun y hy hP => ?_) BR_LE BR_EN GB_nil (by simp) (by omega) (by rw [g4.1]) (by rw [g4.1])
  have htr := (tl_tokR (p := pl0 0 x.2.2.2) (n := lst x.2.2.2) (by rw [t1]; exact hy) hP).1
  exact tokR_BR htr hP (by omega) hTT
theorem read_M {m : Mi} {T Tr : Nat → Nat} {f n0 : Nat} {S : Nat → List Row} {Gr : Rg} (hM : WFM m) (hS : MSl m S) (hT : Tap m 870 871 T f) (hR : MRg m Tr n0 Gr) (hO : RO Tr n0 Gr) (n : Int32) :
    ∃ m', f_X12_read TT m 870 n = some ((spRead T f n).1, m') ∧ WFM m' ∧ MSl m' S ∧ Tap m' 870 871 T (spRead T f n).2.1 ∧ FrM RdM m m' ∧
      (match (spRead T f n).2.2 with
        | none => MRg m' Tr n0 Gr ∧ ∀ j, 49 ≤ j → j ≤ 52 → gi m' 870 j = gi m 870 j
        | some G => MRg m' T (ix n) G ∧ gi m' 870 49 = 0 ∧ gi m' 870 50 = 0 ∧ gi m' 870 51 = 0 ∧ gi m' 870 52 = 0) := by
  have hf : f ≤ 2000 := hT.2.1
  have slk : ∀ m', FrM RdM m m' → MSl m' S := fun m' k j hj => (hS j hj).keepF k (by unfold RdM; omega) (fun i a b => by unfold RdM; omega)
  rcases tap_cases n hf with hno | ⟨k, hk, rfl⟩
  · have hs : spRead T f n = (-1, (f, none)) := by unfold spRead; rw [if_pos hno]
    rw [hs]
    unfold f_X12_read
    rw [takes_no hT hno, bd_some, if_pos rfl]
    exact ⟨m, rfl, hM, hS, hT, FrM.rf, hR, fun _ _ _ => rfl⟩
  · have hsp : spRead T f (nI k) = (nI (rdA T k), (0, nwR T k)) := by
      unfold spRead
      rw [if_neg (by
        rintro (h | h)
        · exact absurd h (nI_pos (by omega))
        · exact absurd h (nI_nlt hk (by omega))), ix_nI (by omega)]
    rw [hsp, ix_nI (by omega)]
    obtain ⟨s0, hs0, h21, hms⟩ := hR
    have hB := hO.2.1
    obtain ⟨m1, e1, M1, g1, f1⟩ := takes_yes hM hT hk
    obtain ⟨m2, e2, C2, f2⟩ := starts_spec M1
    have M2 := M1.keepF f2
    have hss : ∃ s, s < 2 ∧ s0 ≠ s ∧ (1 : Int32) - nI s0 = nI s := ⟨1 - s0, by omega, by omega, pk_sub (a := 1) (by omega)⟩
    obtain ⟨s, hs, hne, hsub⟩ := hss
    obtain ⟨v3, m3, e3, M3, f3, r3⟩ := registry_M hs M2 C2
    have f12 : FrM (fun x j => ((x = 870 ∧ (j = 1 ∨ j = 3)) ∨ x = 872) ∨ PR x j) m m2 := (f1.mono (fun x j h => Or.inl h)).tr (f2.mono (fun x j h => Or.inr h))
    have f1D : FrM RdM m m1 := f1.mono (fun x j h => by unfold RdM; omega)
    have f13D : FrM RdM m m3 := (f1D.tr (PR.D f2)).tr (FS.D f3)
    have h212 : gi m2 870 21 = nI s0 := (f2.1 _ _ (by unfold PR; omega)).1.trans ((f1.1 _ _ (by omega)).1.trans h21)
    have t3 : gi m3 870 1 = nI 0 := (f3.1 _ _ (by unfold FS PR; omega)).1.trans ((f2.1 _ _ (by unfold PR; omega)).1.trans g1)
    unfold f_X12_read
    rw [e1, bd_some, if_neg (by decide), e2, Option.bind_some, lt_eq, h212, hsub, e3, bd_some]
    rcases r3 with ⟨hv, hnw, c, p, c1, c2, c3⟩ | ⟨hv, l, G, hpa, hun, hnw, hrd, hD, hF, hL⟩
    · rw [hv, if_pos rfl, c1, c2, show (8 : Int32) = nI 8 from rfl, pk_mul, nI_add, ← c3, hnw]
      have ho : ∀ x j, (ON s0 x j ∨ x = 880 ∨ x = 899 ∨ (x = 874 ∧ j < 250) ∨ (x = 875 ∧ j < 72000) ∨ (x = 870 ∧ (j = 21 ∨ (49 ≤ j ∧ j ≤ 52)))) → gi m3 x j = gi m x j ∧ gl m3 x j = gl m x j := by
        intro x j hx
        have q1 := f1.1 x j (by rcases hx with h | h | h | h | h | h; (unfold ON at h; omega); all_goals omega)
        have q2 := f2.1 x j (by unfold PR; rcases hx with h | h | h | h | h | h; (unfold ON at h; omega); all_goals omega)
        have q3 := f3.1 x j (by rcases hx with h | h | h | h | h | h; (exact FS_no hs0 hs hne h); all_goals (unfold FS PR; omega))
        exact ⟨q3.1.trans (q2.1.trans q1.1), q3.2.trans (q2.2.trans q1.2)⟩
      refine ⟨m3, rfl, M3.1, slk m3 f13D, ⟨t3, Nat.zero_le _, fun j hj => absurd hj (Nat.not_lt_zero j)⟩, f13D, ⟨s0, hs0, ((ho _ _ (by omega)).1).trans h21, hms.keep hB (fun x j hx => ho x j (Or.inl hx)) (fun x j hx => (ho x j (by omega)).1) (fun j hj => (ho _ _ (by omega)).1) (fun j hj => (ho _ _ (by omega)).2)⟩, fun j a b => (ho _ _ (by omega)).1⟩
    · have hO' : RO T k G := RO_of hpa hun (by omega) (fun j hj => (hT.2.2 j (by omega)).2)
      have hB' := hO'.2.1
      have hB3 := hB'.2.2
      have hrd2 := hrd
      rw [hv, if_neg (by decide), lt_eq, hrd, hnw]
      -- the side
      have f4 : FrM RdM m3 (si m3 870 21 (nI s)) := FrM.si (by unfold RdM; omega)
      have h214 : gi (si m3 870 21 (nI s)) 870 21 = nI s := gi_si _ _ _ _
      have k4 : ∀ x j, ¬ (x = 870 ∧ j = 21) → gi (si m3 870 21 (nI s)) x j = gi m3 x j ∧ gl (si m3 870 21 (nI s)) x j = gl m3 x j := fun x j h => ⟨by simp only [mS]; rw [if_neg h], rfl⟩
      have M4 : MT (si m3 870 21 (nI s)) k T := ⟨M3.1, (k4 _ _ (by omega)).1.trans M3.2.1, M3.2.2.1, fun j hj => ⟨(k4 _ _ (by omega)).1.trans (M3.2.2.2 j hj).1, (M3.2.2.2 j hj).2⟩⟩
      generalize si m3 870 21 (nI s) = m4 at *
      have tx := text_lp (m := m4) hs M4
      unfold f_X12_read_j49
      rw [tx, Option.bind_some]
      have f5 : FrM (fun x j => x = 880) m4 (blkI m4 880 (2000 * s) (2000 * s + k) (fun j => bT (T (j - 2000 * s)))) := ⟨fun x j e => ⟨by simp only [mS]; rw [if_neg (fun z => e z.1)], rfl⟩, fun _ _ => rfl⟩
      have v5 : ∀ j, j < k → gi (blkI m4 880 (2000 * s) (2000 * s + k) (fun j => bT (T (j - 2000 * s)))) 880 (2000 * s + j) = bT (T j) := by
        intro j hj
        simp only [mS]
        rw [if_pos ⟨trivial, by omega, by omega⟩, Nat.add_sub_cancel_left]
      generalize blkI m4 880 (2000 * s) (2000 * s + k) (fun j => bT (T (j - 2000 * s))) = m5 at *
      have hM5 : WFM m5 := M4.1.keepF f5
      have h215 : gi m5 870 21 = nI s := (f5.1 _ _ (by omega)).1.trans h214
      have k35 : ∀ x j, x ≠ 870 → x ≠ 880 → gi m5 x j = gi m3 x j ∧ gl m5 x j = gl m3 x j := fun x j h1 h2 => ⟨(f5.1 _ _ h2).1.trans (k4 _ _ (by omega)).1, (f5.1 _ _ h2).2.trans (k4 _ _ (by omega)).2⟩
      have D5 : DM s m5 T G := hD.keep (fun x j a b => k35 x j (by omega) (by omega))
      unfold f_X12_read_j81 f_X12_read_j88
      obtain ⟨m6, e6, f6, g6⟩ := ranges_lp hs hO' G.2.2.length 0 FUEL m5 (by omega) (by unfold FUEL; omega) hM5 h215 D5.1 D5.2.2.2.2 (fun c x hc => by omega)
      rw [show ((0 : Int32), m5) = (nI 0, m5) from rfl, e6, Option.bind_some]
      have hM6 : WFM m6 := hM5.keepF f6
      have h216 : gi m6 870 21 = nI s := (f6.1 _ _ (by omega)).1.trans h215
      unfold f_X12_read_j156
      simp only [lt_eq]
      -- the finding is forgotten
      have f7 : FrM (fun x j => x = 870 ∧ 49 ≤ j ∧ j ≤ 52) m6 (si (si (si (si m6 870 49 0) 870 52 0) 870 50 0) 870 51 0) := (((FrM.si (P := fun x j => x = 870 ∧ 49 ≤ j ∧ j ≤ 52) (by omega)).tr (FrM.si (P := fun x j => x = 870 ∧ 49 ≤ j ∧ j ≤ 52) (by omega))).tr (FrM.si (P := fun x j => x = 870 ∧ 49 ≤ j ∧ j ≤ 52) (by omega))).tr (FrM.si (P := fun x j => x = 870 ∧ 49 ≤ j ∧ j ≤ 52) (by omega))
      have v7 : gi (si (si (si (si m6 870 49 0) 870 52 0) 870 50 0) 870 51 0) 870 49 = 0 ∧ gi (si (si (si (si m6 870 49 0) 870 52 0) 870 50 0) 870 51 0) 870 50 = 0 ∧ gi (si (si (si (si m6 870 49 0) 870 52 0) 870 50 0) 870 51 0) 870 51 = 0 ∧ gi (si (si (si (si m6 870 49 0) 870 52 0) 870 50 0) 870 51 0) 870 52 = 0 := by simp [mS]
      generalize si (si (si (si m6 870 49 0) 870 52 0) 870 50 0) 870 51 0 = m7 at *
      have hM7 : WFM m7 := hM6.keepF f7
      have h217 : gi m7 870 21 = nI s := (f7.1 _ _ (by omega)).1.trans h216
      have k37 : ∀ x j, 881 ≤ x → gi m7 x j = gi m3 x j ∧ gl m7 x j = gl m3 x j := fun x j h => by
        have q7 := f7.1 x j (by omega)
        have q6 := f6.1 x j (by omega)
        have q5 := k35 x j (by omega) (by omega)
        exact ⟨q7.1.trans (q6.1.trans q5.1), q7.2.trans (q6.2.trans q5.2)⟩
      have h0 : MR0 s m3 T G := ⟨hD.1, hD.2.1, hD.2.2.1, hD.2.2.2.1, hL, hF⟩
      have h07 : MR0 s m7 T G := h0.keep hB' (fun x j hx => k37 x j (by unfold ON at hx; omega))
      have g7 : ∀ c x, G.2.2[c]? = some x → MG m7 c (rgC T x) := fun c x hx => (g6 c x hx).keepF f7 (by omega) (fun j a b => by omega)
      obtain ⟨m8, e8, f8, g8⟩ := tables_lp hs hO' (fun c x hx => (rgC_up hO' hx).1) G.2.2.length 0 FUEL m7 (by omega) (by unfold FUEL; omega) hM7 h217 h07 g7 (fun c x hc => by omega)
      have e8' : f_X12_tables TT m7 870 = some m8 := by
        unfold f_X12_tables f_X12_tables_j2
        rw [show ((0 : Int32), m7) = (nI 0, m7) from rfl, e8]
        rfl
      rw [e8', Option.bind_some]
      have f48 : FrM RdM m4 m8 := (((f5.mono (fun x j h => by unfold RdM; omega)).tr (f6.mono (fun x j h => by unfold RdM; omega))).tr (f7.mono (fun x j h => by unfold RdM; omega))).tr (f8.mono (fun x j h => by unfold RdM; omega))
      have fall : FrM RdM m m8 := (f13D.tr f4).tr f48
      have v8 : ∀ j, gi m8 870 j = gi m7 870 j := fun j => (f8.1 _ _ (by omega)).1
      refine ⟨m8, rfl, hM7.keepF f8, slk m8 fall, ⟨?_, Nat.zero_le _, fun j hj => absurd hj (Nat.not_lt_zero j)⟩, fall, ⟨s, hs, (v8 _).trans h217, h07.keep hB' (fun x j hx => f8.1 x j (by unfold ON at hx; omega)), fun j hj => ?_, fun c x hx => (g7 c x hx).keepF f8 (by omega) (fun j a b => by omega), g8⟩, (v8 _).trans v7.1, (v8 _).trans v7.2.1, (v8 _).trans v7.2.2.1, (v8 _).trans v7.2.2.2⟩
      · rw [v8, (f7.1 _ _ (by omega)).1, (f6.1 _ _ (by omega)).1, (f5.1 _ _ (by omega)).1, (k4 _ _ (by omega)).1]
        exact t3
      · rw [(f8.1 _ _ (by omega)).1, (f7.1 _ _ (by omega)).1, (f6.1 _ _ (by omega)).1]
        exact v5 j hj
