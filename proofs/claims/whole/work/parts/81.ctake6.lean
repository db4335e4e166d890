/-! The class: take of the range reader. -/
/-- a token that a range may have, in a text -/
def tokR (T : Nat → Nat) (e : Nat) (x : Tok) : Prop := x.1 = 9 ∨ (isP x.1 = true ∧ x.2.1 < x.2.2 ∧ x.2.2 ≤ e ∧ (T x.2.1 = 42 ∨ ∃ f ns is, rdv T (x.2.1 + opn T x.2.2 x.2.1) x.2.2 = some (f, (ns, is))))
def cP (T : Nat → Nat) (x : Tok) : Row × Row := prt T x.2.2 x.2.1 x.2.2
theorem tokR_BR {T : Nat → Nat} {e : Nat} {x : Tok} (h : tokR T e x) (hP : isP x.1 = true) (he : e ≤ 2000) (hT : ∀ j, j < e → T j < 256) : BR (cP T x).1 ∧ BR (cP T x).2 := by
  rcases h with h | ⟨_, h1, h2, h3⟩
  · rw [h] at hP; cases hP
  · exact prt_BR (fun f ns is hr => rdv_VW (fun j hj => hT j hj) he h2 (opn_in h1) hr)
theorem takeC_lp {c r cap e : Nat} {T : Nat → Nat} {l : List Tok} (hr : r ≤ 36) (hcap : 256 ≤ cap) (hc0 : c ≠ 0) (hc : c < r ∨ r + 1 < c) (hc2 : c < 42 ∨ 58 < c) (hs : sh TT c = some (.inr (.byte, 2000))) (he : e ≤ 2000) (htk : ∀ x ∈ l, tokR T e x) (hr4 : 4 ≤ r) :
    ∀ (rest : List Tok) (k a p N : Nat) (m : Mi) (lo hi : Row) (R : List Row), l.drop k = rest → rest.length < N → k < 10000 → chk rest a p = (0, rest.length) → (0 < p → a ≤ 16) → 1 ≤ a → R.length ≤ 2 * (a - 1) → GB R → BR lo → BR hi →
      WR m → OB m → WT m → TLs m l → TS m c e T → RG TT m r cap R → rowL m 53 0 = lo → rowL m 54 0 = hi →
      ∃ m', (lp (fun x : Int32 × Mi => f_X5_take_l11 TT x.2 48 c 42 r x.1) N (nI k, m)).bind (fun y : Mi => f_X5_take_j70 TT y 48 r) = some m' ∧ RG TT m' r cap (rgo (cP T) rest lo hi R) ∧ GB (rgo (cP T) rest lo hi R) ∧ WR m' ∧ OB m' ∧ Fr (FT r) m m' := by
  intro rest
  induction rest with
  | nil =>
    intro k a p N m lo hi R hd hN hk hchk hpa ha1 hl hR hlo hhi hW hO hWT hL hTS hRG h53 h54
    have hkl := drop_nil hd
    have h2 := hL.2.1
    obtain ⟨N, rfl⟩ : ∃ z, N = z + 1 := ⟨N - 1, by omega⟩
    have hp : 0 < p := by
      rw [chk] at hchk
      have := congrArg (fun z => z.1) hchk
      simp only at this
      by_cases h0 : p = 0
      · rw [if_pos h0] at this; cases this
      · omega
    have hl30 : R.length ≤ 30 := by have := hpa hp; omega
    rw [lp_exit (y := m)]
    · obtain ⟨m', e1, g1, w1, o1, f1⟩ := closeAll_spec hW hO hr hRG hcap hR hl30 h53 h54
      refine ⟨m', ?_, g1, (jo1_GB hR hl30 hlo hhi).1, w1, o1, f1⟩
      show f_X5_take_j70 TT m 48 r = _
      unfold f_X5_take_j70
      rw [e1]
      rfl
    · show f_X5_take_l11 TT m 48 c 42 r (nI k) = _
      unfold f_X5_take_l11
      rw [ob_of s_42, if_pos rfl, tsize_spec hL, Option.bind_some, if_pos (nI_le hkl (by omega))]
  | cons x rest ih =>
    intro k a p N m lo hi R hd hN hk hchk hpa ha1 hl hR hlo hhi hW hO hWT hL hTS hRG h53 h54
    obtain ⟨hx, hd2, hkl⟩ := drop_cons hd
    have h2 := hL.2.1
    simp only [List.length_cons] at hN
    obtain ⟨N, rfl⟩ : ∃ z, N = z + 1 := ⟨N - 1, by omega⟩
    have hxm := htk x (List.mem_of_getElem? hx)
    rw [chk] at hchk
    simp only [List.length_cons] at hchk
    -- the frame keeps what the loop reads
    have keepA : ∀ m1, Fr (FT r) m m1 → WT m1 ∧ TLs m1 l ∧ TS m1 c e T := by
      intro m1 f1
      refine ⟨hWT.keepF f1, hL.keep (fun y j a b => (f1.1 y j (by unfold FT; omega)).1), ?_⟩
      obtain ⟨t1, t2, t3, t4, t5, t6, t7⟩ := hTS
      refine ⟨?_, t2, t3, t4, t5, (f1.1 _ _ (by unfold FT; omega)).1.trans t6, fun j hj => ⟨(f1.1 _ _ (by unfold FT; omega)).1.trans (t7 j hj).1, (t7 j hj).2⟩⟩
      sorry
    by_cases hP : isP x.1 = true
    · sorry
    · sorry
