/-! The reference's registry in memory, on side s. -/
def WM (m : Mi) : Prop := gr m 870 23 = 881 ∧ gr m 870 24 = 882 ∧ gr m 870 25 = 883 ∧ gr m 870 26 = 884 ∧ gr m 870 27 = 885 ∧ gr m 870 28 = 886 ∧ gr m 870 29 = 887 ∧ gr m 870 30 = 888 ∧ gr m 870 31 = 889 ∧ gr m 870 32 = 890 ∧ gr m 870 33 = 891 ∧ gr m 870 34 = 892 ∧ gr m 870 35 = 893 ∧ gr m 870 36 = 894 ∧ gr m 870 37 = 895 ∧ gr m 870 38 = 896 ∧ gr m 870 39 = 897 ∧ gr m 870 40 = 898 ∧ gr m 870 41 = 899
theorem WFM.W {m : Mi} (h : WFM m) : WM m := ⟨h 23 (by omega), h 24 (by omega), h 25 (by omega), h 26 (by omega), h 27 (by omega), h 28 (by omega), h 29 (by omega), h 30 (by omega), h 31 (by omega), h 32 (by omega), h 33 (by omega), h 34 (by omega), h 35 (by omega), h 36 (by omega), h 37 (by omega), h 38 (by omega), h 39 (by omega), h 40 (by omega), h 41 (by omega)⟩
/-- a range as it is kept while a registry is read -/
def MR (m : Mi) (c : Nat) (B : List Row) : Prop := ∃ n, B.length = 2 * n ∧ n ≤ 16 ∧ gi m 897 c = nI n ∧ (∀ b, b < 2 * n → VR (fun z => gl m 898 (288 * c + 9 * b + z))) ∧ (List.range (2 * n)).map (fun b => trM (fun z => gl m 898 (288 * c + 9 * b + z))) = B
/-- the counts -/
def DN (s : Nat) (m : Mi) (G : Rg) : Prop := gi m 881 s = nI G.1.length ∧ gi m 882 s = nI G.2.1.length ∧ gi m 883 s = nI (lnkN G.2.2) ∧ gi m 884 s = nI (G.2.2.length - lnkN G.2.2)
def EP (s : Nat) (m : Mi) (P : List PkT) : Prop := ∀ p x, P[p]? = some x → gi m 885 (10 * s + p) = nI x.1 ∧ gi m 886 (10 * s + p) = nI (x.2.1 - x.1) ∧ gi m 887 (11 * s + p) = nI x.2.2
def ER (s : Nat) (m : Mi) (T : Nat → Nat) (R : List RlT) : Prop := ∀ r x, R[r]? = some x → gi m 888 (60 * s + r) = nI x.1 ∧ gi m 889 (60 * s + r) = nI x.2.1 ∧ gi m 890 (60 * s + r) = nI (x.2.2.1 - x.2.1) ∧ VR (fun z => gl m 891 ((60 * s + r) * 9 + z)) ∧ trM (fun z => gl m 891 ((60 * s + r) * 9 + z)) = rwv T x.2.1 x.2.2.1
def EC (s : Nat) (m : Mi) (T : Nat → Nat) (C : List CnT) : Prop := ∀ c x, C[c]? = some x → gi m 892 (250 * s + c) = (if x.1 = 4 then -1 else nI x.2.1) ∧ gi m 893 (250 * s + c) = nI (mk x.1) ∧ gi m 894 (250 * s + c) = nI x.2.2.1.1 ∧ gi m 895 (250 * s + c) = nI (x.2.2.1.2 - x.2.2.1.1)
def EK (m : Mi) (T : Nat → Nat) (C : List CnT) : Prop := ∀ c x, C[c]? = some x → MR m c (rgC T x)
def DM (s : Nat) (m : Mi) (T : Nat → Nat) (G : Rg) : Prop := DN s m G ∧ EP s m G.1 ∧ ER s m T G.2.1 ∧ EC s m T G.2.2 ∧ EK m T G.2.2
theorem MR.keep {m m' : Mi} {c : Nat} {B : List Row} (h : MR m c B) (h1 : gi m' 897 c = gi m 897 c) (h2 : ∀ j, 288 * c ≤ j → j < 288 * c + 288 → gl m' 898 j = gl m 898 j) : MR m' c B := by
  obtain ⟨n, a1, a2, a3, a4, a5⟩ := h
  have e : ∀ b, b < 2 * n → ∀ z, z < 9 → gl m' 898 (288 * c + 9 * b + z) = gl m 898 (288 * c + 9 * b + z) := fun b hb z hz => h2 _ (by omega) (by omega)
  refine ⟨n, a1, a2, h1.trans a3, fun b hb => ?_, ?_⟩
  · obtain ⟨g, v1, v2⟩ := a4 b hb
    exact ⟨g, fun k hk => ⟨(e b hb k hk).trans (v1 k hk).1, (v1 k hk).2⟩, v2⟩
  · rw [← a5]
    apply List.map_congr_left
    intro b hb
    exact trM_congr (fun z hz => e b (List.mem_range.mp hb) z hz)
theorem EK.keep {m m' : Mi} {T : Nat → Nat} {C : List CnT} (h : EK m T C) (k : ∀ x j, x = 897 ∨ x = 898 → gi m' x j = gi m x j ∧ gl m' x j = gl m x j) : EK m' T C := fun c x hx => (h c x hx).keep (k _ _ (Or.inl rfl)).1 (fun j _ _ => (k _ _ (Or.inr rfl)).2)
theorem EP.keep {s : Nat} {m m' : Mi} {P : List PkT} (h : EP s m P) (k : ∀ x j, 885 ≤ x → x ≤ 887 → gi m' x j = gi m x j) : EP s m' P := fun p x hx => by
  obtain ⟨a1, a2, a3⟩ := h p x hx
  exact ⟨(k _ _ (by omega) (by omega)).trans a1, (k _ _ (by omega) (by omega)).trans a2, (k _ _ (by omega) (by omega)).trans a3⟩
theorem VR_congr {f g : Nat → Int64} (h : ∀ z, z < 9 → g z = f z) (hv : VR f) : VR g := by
  obtain ⟨w, v1, v2⟩ := hv
  exact ⟨w, fun k hk => ⟨(h k hk).trans (v1 k hk).1, (v1 k hk).2⟩, v2⟩
theorem ER.keep {s : Nat} {m m' : Mi} {T : Nat → Nat} {R : List RlT} (h : ER s m T R) (k : ∀ x j, 888 ≤ x → x ≤ 891 → gi m' x j = gi m x j ∧ gl m' x j = gl m x j) : ER s m' T R := fun r x hx => by
  obtain ⟨a1, a2, a3, a4, a5⟩ := h r x hx
  exact ⟨(k _ _ (by omega) (by omega)).1.trans a1, (k _ _ (by omega) (by omega)).1.trans a2, (k _ _ (by omega) (by omega)).1.trans a3, VR_congr (fun z _ => (k _ _ (by omega) (by omega)).2) a4, (trM_congr (fun z _ => (k _ _ (by omega) (by omega)).2)).trans a5⟩
theorem EC.keep {s : Nat} {m m' : Mi} {T : Nat → Nat} {C : List CnT} (h : EC s m T C) (k : ∀ x j, 892 ≤ x → x ≤ 895 → gi m' x j = gi m x j) : EC s m' T C := fun c x hx => by
  obtain ⟨a1, a2, a3, a4⟩ := h c x hx
  exact ⟨(k _ _ (by omega) (by omega)).trans a1, (k _ _ (by omega) (by omega)).trans a2, (k _ _ (by omega) (by omega)).trans a3, (k _ _ (by omega) (by omega)).trans a4⟩
theorem DN.keep {s : Nat} {m m' : Mi} {G : Rg} (h : DN s m G) (k : ∀ x j, 881 ≤ x → x ≤ 884 → gi m' x j = gi m x j) : DN s m' G := by
  obtain ⟨a1, a2, a3, a4⟩ := h
  exact ⟨(k _ _ (by omega) (by omega)).trans a1, (k _ _ (by omega) (by omega)).trans a2, (k _ _ (by omega) (by omega)).trans a3, (k _ _ (by omega) (by omega)).trans a4⟩
theorem DM.keep {s : Nat} {m m' : Mi} {T : Nat → Nat} {G : Rg} (h : DM s m T G) (k : ∀ x j, 881 ≤ x → x ≤ 898 → gi m' x j = gi m x j ∧ gl m' x j = gl m x j) : DM s m' T G :=
  ⟨h.1.keep (fun x j a b => (k x j (by omega) (by omega)).1), h.2.1.keep (fun x j a b => (k x j (by omega) (by omega)).1), h.2.2.1.keep (fun x j a b => k x j (by omega) (by omega)), h.2.2.2.1.keep (fun x j a b => (k x j (by omega) (by omega)).1), h.2.2.2.2.keep (fun x j a => k x j (by omega) (by omega))⟩
theorem DM.keepR {s : Nat} {m m' : Mi} {T : Nat → Nat} {G : Rg} (h : DM s m T G) (k : FrM PR m m') : DM s m' T G := h.keep (fun x j a b => k.1 x j (by unfold PR; omega))
/-- what reading a registry to side s may change -/
def FS (s x j : Nat) : Prop := PR x j ∨ ((x = 881 ∨ x = 882 ∨ x = 883 ∨ x = 884) ∧ j = s) ∨ ((x = 885 ∨ x = 886) ∧ 10 * s ≤ j ∧ j < 10 * s + 10) ∨ (x = 887 ∧ 11 * s ≤ j ∧ j < 11 * s + 11) ∨ ((x = 888 ∨ x = 889 ∨ x = 890) ∧ 60 * s ≤ j ∧ j < 60 * s + 60) ∨ (x = 891 ∧ 540 * s ≤ j ∧ j < 540 * s + 540) ∨ ((x = 892 ∨ x = 893 ∨ x = 894 ∨ x = 895 ∨ x = 896) ∧ 250 * s ≤ j ∧ j < 250 * s + 250) ∨ x = 897 ∨ x = 898
theorem FS.R {s : Nat} {m m' : Mi} (h : FrM PR m m') : FrM (FS s) m m' := h.mono (fun x j e => Or.inl e)
theorem MT.keepS {s n : Nat} {m m' : Mi} {T : Nat → Nat} (h : MT m n T) (k : FrM (FS s) m m') : MT m' n T := ⟨h.1.keepF k, (k.1 _ _ (by unfold FS PR; omega)).1.trans h.2.1, h.2.2.1, fun j hj => ⟨(k.1 _ _ (by unfold FS PR; omega)).1.trans (h.2.2.2 j hj).1, (h.2.2.2 j hj).2⟩⟩
/-- what a step of reading leaves -/
def OuM (s : Nat) (m m' : Mi) (T : Nat → Nat) (n : Nat) (r : RgS) (v : Int32) : Prop := MT m' n T ∧ FrM (FS s) m m' ∧ match r with
  | .inl (c, l) => v = 0 ∧ gi m' 870 19 = nI c ∧ gi m' 870 20 = nI (pl0 n l)
  | .inr (l, G) => v = 1 ∧ DM s m' T G ∧ CurM m' T n l ∧ Sfx (tl T n 0) l
theorem OuM.tr {s n : Nat} {m m1 m' : Mi} {T : Nat → Nat} {r : RgS} {v : Int32} (k : FrM (FS s) m m1) (h : OuM s m1 m' T n r v) : OuM s m m' T n r v := ⟨h.1, k.tr h.2.1, h.2.2⟩
theorem OuM.inl {s n : Nat} {m m' : Mi} {T : Nat → Nat} {e : Nat × List Tok} {v : Int32} (h : OuM s m m' T n (.inl e) v) : v = 0 ∧ gi m' 870 19 = nI e.1 ∧ gi m' 870 20 = nI (pl0 n e.2) := h.2.2
theorem OuM.inr {s n : Nat} {m m' : Mi} {T : Nat → Nat} {w : List Tok × Rg} {v : Int32} (h : OuM s m m' T n (.inr w) v) : v = 1 ∧ DM s m' T w.2 ∧ CurM m' T n w.1 ∧ Sfx (tl T n 0) w.1 := h.2.2
theorem faultO {s n c : Nat} {m : Mi} {T : Nat → Nat} {l : List Tok} (hM : MT m n T) (hC : CurM m T n l) : ∃ m', (bd (f_X12_fault TT m 870 (nI c)) fun x m' => (if zb x = true then some (x, m') else none)) = some (0, m') ∧ OuM s m m' T n (.inl (c, l)) 0 := by
  obtain ⟨m', e1, g1, g2, g3, f1⟩ := fault_spec (c := c) hC
  refine ⟨m', by rw [e1, bd_some]; rfl, hM.keepF (F2.R f1), FS.R (F2.R f1), rfl, g1, g2⟩
/-- the kind of the token at hand -/
theorem CurM.kd {m : Mi} {T : Nat → Nat} {n : Nat} {l : List Tok} (hC : CurM m T n l) : gi m 870 14 = nI (mk (kd0 l)) := by
  cases l with
  | nil => exact hC.1
  | cons x r => exact hC.1
theorem mk_inj : ∀ a, a < 13 → ∀ b, b < 13 → b ≠ 7 → b ≠ 8 → (mk a = mk b ↔ a = b) := by decide
theorem mk_lt : ∀ a, a < 13 → mk a < 13 := by decide
theorem Sfx.tl {T : Nat → Nat} {n : Nat} {l : List Tok} (h : Sfx (tl T n 0) l) : ∃ p, l = tl T n p := by
  obtain ⟨i, rfl⟩ := h
  exact tl_sub i
theorem kdM {m : Mi} {T : Nat → Nat} {n : Nat} {l : List Tok} (hC : CurM m T n l) (hs : Sfx (tl T n 0) l) (b : Nat) (hb : b < 13) (h7 : b ≠ 7) (h8 : b ≠ 8) : gi m 870 14 = nI (mk b) ↔ kd0 l = b := by
  obtain ⟨p, hl⟩ := hs.tl
  have hk : kd0 l < 13 := by
    cases l with
    | nil => show 0 < 13; omega
    | cons x r => exact (tl_kind (by rw [← hl]; exact List.mem_cons_self)).2
  rw [hC.kd, nI_eq (by have := mk_lt _ hk; omega) (by have := mk_lt _ hb; omega)]
  exact mk_inj _ hk _ hb h7 h8
/-- one token on -/
theorem next_M {m : Mi} {T : Nat → Nat} {n : Nat} {l : List Tok} (hM : MT m n T) (hC : CurM m T n l) (hs : Sfx (tl T n 0) l) (h0 : kd0 l ≠ 0) (h1 : kd0 l ≠ 1) : ∃ m', f_X12_token TT m 870 = some m' ∧ KK m m' ∧ MT m' n T ∧ CurM m' T n l.tail := by
  obtain ⟨p, hl⟩ := hs.tl
  obtain ⟨x, r, rfl⟩ := kd0_ne h0
  have hx1 : x.1 ≠ 1 := h1
  obtain ⟨h16, hr⟩ := hC.2.2.1 hx1
  have hxm : x ∈ tl T n p := by rw [← hl]; exact List.mem_cons_self
  have hm := tl_mem (n - p) p (Nat.le_refl _) x hxm
  have hgt := tk_gt (T := T) (n := n) hm.2.1
  obtain ⟨m', e, k, c⟩ := token_spec hM h16 (by rw [hm.2.2.2.1]; exact hgt.2)
  rw [← hr] at c
  exact ⟨m', e, k, hM.keepK k, c⟩
/-- of the token at hand: where it begins and ends -/
theorem CurM.ends {m : Mi} {T : Nat → Nat} {n : Nat} {l : List Tok} (hC : CurM m T n l) (hs : Sfx (tl T n 0) l) (h0 : kd0 l ≠ 0) (h1 : kd0 l ≠ 1) : gi m 870 15 = nI (pl0 0 l) ∧ gi m 870 16 = nI (en0 0 l) ∧ pl0 0 l < en0 0 l ∧ en0 0 l ≤ n ∧ pl0 n l = pl0 0 l := by
  obtain ⟨p, hl⟩ := hs.tl
  obtain ⟨x, r, rfl⟩ := kd0_ne h0
  have hx1 : x.1 ≠ 1 := h1
  obtain ⟨h16, hr⟩ := hC.2.2.1 hx1
  have hxm : x ∈ tl T n p := by rw [← hl]; exact List.mem_cons_self
  have hm := tl_mem (n - p) p (Nat.le_refl _) x hxm
  have hgt := tk_gt (T := T) (n := n) hm.2.1
  refine ⟨hC.2.1, h16, ?_, ?_, rfl⟩
  · show x.2.1 < x.2.2
    rw [hm.2.2.2.1]
    exact hgt.1
  · show x.2.2 ≤ n
    rw [hm.2.2.2.1]
    exact hgt.2
theorem KK.S {s : Nat} {m m' : Mi} (h : KK m m') : FrM (FS s) m m' := FS.R h.F
/-! names -/
theorem gr2_M {m : Mi} (h : WFM m) : gr m 870 2 = 872 := h 2 (by omega)
theorem isSame_lp {n a c L : Nat} {m : Mi} {T : Nat → Nat} (hM : MT m n T) (ha : a + L ≤ n) (hc : c + L ≤ n) :
    ∀ d k N, k + d = L → d + 1 < N → (∀ j, j < k → T (a + j) = T (c + j)) →
    lp (fun x : Int32 × Int32 => f_X12_isSame_l16 TT m 870 (nI a) (nI L) (nI c) x.1 x.2) N (1, nI k) = some (bI (decide (∀ j, j < L → T (a + j) = T (c + j)))) := by
  have hn := hM.2.2.1
  intro d
  induction d with
  | zero =>
    intro k N hk hN hall
    obtain ⟨N, rfl⟩ : ∃ y, N = y + 1 := ⟨N - 1, by omega⟩
    rw [lp_exit (y := 1), decide_eq_true (fun j hj => hall j (by omega))]
    · rfl
    · show f_X12_isSame_l16 TT m 870 (nI a) (nI L) (nI c) 1 (nI k) = _
      unfold f_X12_isSame_l16
      rw [if_pos (nI_le (by omega) (by omega))]
  | succ d ih =>
    intro k N hk hN hall
    obtain ⟨N, rfl⟩ : ∃ y, N = y + 1 := ⟨N - 1, by omega⟩
    have t1 := hM.2.2.2 (a + k) (by omega)
    have t2 := hM.2.2.2 (c + k) (by omega)
    have hbody : f_X12_isSame_l16 TT m 870 (nI a) (nI L) (nI c) 1 (nI k) = if T (a + k) = T (c + k) then some (.inl (1, nI (k + 1))) else some (.inl (0, nI (k + 1))) := by
      unfold f_X12_isSame_l16
      rw [if_neg (nI_ge (by omega) (by omega)), if_neg (by decide), gr2_M hM.1, nI_add, nI_add, if_pos (ar_of s_872 (by omega) (by omega)), if_pos (ar_of s_872 (by omega) (by omega)), ix_nI (by omega), ix_nI (by omega), t1.1, t2.1]
      simp only [lt_eq, nI_1]
      by_cases h : T (a + k) = T (c + k)
      · rw [if_pos (by rw [h]), if_pos h]
      · rw [if_neg (fun e => h ((bT_inj t1.2 t2.2).mp e)), if_neg h]
    by_cases h : T (a + k) = T (c + k)
    · rw [if_pos h] at hbody
      rw [lp_step hbody]
      exact ih (k + 1) N (by omega) (by omega) (fun j hj => by
        by_cases hj2 : j = k
        · rw [hj2]; exact h
        · exact hall j (by omega))
    · rw [if_neg h] at hbody
      obtain ⟨N, rfl⟩ : ∃ y, N = y + 1 := ⟨N - 1, by omega⟩
      rw [lp_step hbody, lp_exit (y := 0), decide_eq_false (fun hh => h (hh k (by omega)))]
      · rfl
      · show f_X12_isSame_l16 TT m 870 (nI a) (nI L) (nI c) 0 (nI (k + 1)) = _
        unfold f_X12_isSame_l16
        by_cases h2 : L ≤ k + 1
        · rw [if_pos (nI_le h2 (by omega))]
        · rw [if_neg (nI_ge (by omega) (by omega)), if_pos rfl]
theorem isSame_M {n a b c d : Nat} {m : Mi} {T : Nat → Nat} (hM : MT m n T) (hab : a ≤ b) (hb : b ≤ n) (hcd : c ≤ d) (hd : d ≤ n) : f_X12_isSame TT m 870 (nI a) (nI (b - a)) (nI c) (nI (d - c)) = some (bI (nmE T a b c d)) := by
  have hn := hM.2.2.1
  unfold f_X12_isSame f_X12_isSame_j11 f_X12_isSame_j16 nmE
  by_cases h : b - a = d - c
  · rw [if_pos (by rw [h]), show ((1 : Int32), (0 : Int32)) = (1, nI 0) from rfl, isSame_lp (L := b - a) hM (by omega) (by omega) (b - a) 0 FUEL (by omega) (by unfold FUEL; omega) (fun j hj => by omega), Option.bind_some]
    unfold f_X12_isSame_j61
    rw [zb_bI, if_pos rfl, decide_eq_true h, Bool.true_and]
  · rw [if_neg (fun e => h ((nI_eq (by omega) (by omega)).mp e)), decide_eq_false h, Bool.false_and]
    obtain ⟨F, hF⟩ : ∃ F, FUEL = F + 1 := ⟨2 ^ 64 - 1, by unfold FUEL; omega⟩
    rw [hF, lp_exit (y := 0)]
    · rfl
    · show f_X12_isSame_l16 TT m 870 (nI a) (nI (b - a)) (nI c) 0 0 = _
      unfold f_X12_isSame_l16
      by_cases h2 : b - a = 0
      · rw [if_pos (by rw [h2]; decide)]
      · rw [if_neg (nI_nle (by omega) (by omega)), if_pos rfl]
theorem called_lp {s n a b : Nat} {m : Mi} {T : Nat → Nat} {P : List PkT} (hs : s < 2) (hM : MT m n T) (hP : P.length ≤ 10) (h1 : gi m 881 s = nI P.length) (hE : EP s m P) (hNP : NP n P) (hab : a ≤ b) (hb : b ≤ n) :
    ∀ d k N, k + d = P.length → d < N →
    (lp (fun x : Int32 => f_X12_packageCalled_l3 TT m 870 (nI s) (nI a) (nI (b - a)) x) N (nI k)).bind (Sum.elim (fun y : Unit => f_X12_packageCalled_j56 TT m) (fun y : Int32 => f_X12_packageCalled_j47 TT m y)) = some (fndI (((P.drop k).findIdx? (fun x => nmE T x.1 x.2.1 a b)).map (fun i => i + k))) := by
  have hW := hM.1.W
  have hn := hM.2.2.1
  intro d
  induction d with
  | zero =>
    intro k N hk hN
    obtain ⟨N, rfl⟩ : ∃ y, N = y + 1 := ⟨N - 1, by omega⟩
    rw [lp_exit (y := .inl ()), List.drop_of_length_le (by omega)]
    · rfl
    · show f_X12_packageCalled_l3 TT m 870 (nI s) (nI a) (nI (b - a)) (nI k) = _
      unfold f_X12_packageCalled_l3
      rw [hW.1, if_pos (ar_of s_881 hs (by omega)), ix_nI (by omega), h1, if_pos (nI_le (by omega) (by omega))]
  | succ d ih =>
    intro k N hk hN
    obtain ⟨N, rfl⟩ : ∃ y, N = y + 1 := ⟨N - 1, by omega⟩
    obtain ⟨x, hx⟩ := get_some (l := P) (k := k) (by omega)
    obtain ⟨a1, a2, a3⟩ := hE k x hx
    have hxn := hNP x (List.mem_of_getElem? hx)
    have hbody : f_X12_packageCalled_l3 TT m 870 (nI s) (nI a) (nI (b - a)) (nI k) = if bI (nmE T x.1 x.2.1 a b) = 0 then some (.inl (nI (k + 1))) else some (.inr (.inr (nI k))) := by
      unfold f_X12_packageCalled_l3
      rw [hW.1, if_pos (ar_of s_881 hs (by omega)), ix_nI (by omega), h1, if_neg (nI_ge (by omega) (by omega)), hW.2.2.2.2.1, hW.2.2.2.2.2.1, show (10 : Int32) = nI 10 from rfl, pk_mul, nI_add, if_pos (ar_of s_885 (by omega) (by omega)), if_pos (ar_of s_886 (by omega) (by omega)), ix_nI (by omega), a1, a2, isSame_M hM hxn.1 hxn.2 hab hb, Option.bind_some, lt_eq, nI_1]
    rw [drop_get hx, List.findIdx?_cons]
    cases hq : nmE T x.1 x.2.1 a b with
    | true =>
      rw [hq, if_neg bTr] at hbody
      rw [lp_exit (y := .inr (nI k)) hbody, if_pos rfl]
      show some (nI k) = some (fndI (some (0 + k)))
      rw [Nat.zero_add]
      rfl
    | false =>
      rw [hq, if_pos bF] at hbody
      rw [lp_step hbody, ih (k + 1) N (by omega) (by omega), if_neg fNt, Option.map_map]
      congr 3
      funext i
      show i + (k + 1) = i + 1 + k
      omega
theorem called_M {s n a b : Nat} {m : Mi} {T : Nat → Nat} {P : List PkT} (hs : s < 2) (hM : MT m n T) (hP : P.length ≤ 10) (h1 : gi m 881 s = nI P.length) (hE : EP s m P) (hN : NP n P) (hab : a ≤ b) (hb : b ≤ n) : f_X12_packageCalled TT m 870 (nI s) (nI a) (nI (b - a)) = some (fndI (fnd T P a b)) := by
  have h := called_lp hs hM hP h1 hE hN hab hb P.length 0 FUEL (by omega) (by unfold FUEL; omega)
  unfold f_X12_packageCalled f_X12_packageCalled_j3
  rw [show (0 : Int32) = nI 0 from rfl, h, List.drop_zero]
  unfold fnd
  cases P.findIdx? (fun x => nmE T x.1 x.2.1 a b) <;> rfl
