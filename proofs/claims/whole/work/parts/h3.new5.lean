/-! The reference's constructor: its first state. -/
def IM (m : Mi) (n : Nat) (M : Mi) (g : Nat → Nat) : Prop := nwK 869 m M ∧ (∀ j, gr M 870 j = g j) ∧ (∀ j, gi M 870 j = 0) ∧ ∀ x j, 870 < x → x ≤ n → gi M x j = 0
theorem wp_m {A : Type} {t L : List Sh} {m M : Mi} {n k : Nat} {s : Sh} {g : Nat → Nat} {P : A → Prop} {K : Nat → List Sh → Mi → Option A} (I : IM m n M g) (e : t ++ s :: L = TT) (hl : t.length = n) (hn : 870 ≤ n ∧ n < 1000000) (ho : sh t 870 = some (.inl 12)) (h : ∀ M', IM m (n + 1) M' (fun j => if j = k then n + 1 else g j) → (t ++ [s]) ++ L = TT → (t ++ [s]).length = n + 1 → sh (t ++ [s]) 870 = some (.inl 12) → Wp (K (n + 1) (t ++ [s]) M') P) :
    Wp (if t.length < 1000000 then lt (t.length + 1) fun r => lt (t ++ [s]) fun t' => lt (zr M (t.length + 1)) fun m' => (if ob t' 870 12 = true then lt (sr m' 870 k r) fun m2 => K r t' m2 else none) else none) P := by
  refine wp_arr hl hn.2 ho (fun o => h _ ?_ (by rw [List.append_assoc]; exact e) (by simp [hl]) o)
  obtain ⟨h1, h2, h3, h4⟩ := I
  refine ⟨(h1.zr (by omega)).sr (by omega), fun j => ?_, fun j => ?_, fun x j hx hx2 => ?_⟩
  · simp only [mS, mZ]
    by_cases e : j = k
    · rw [if_pos ⟨trivial, e⟩, if_pos e]
    · rw [if_neg (fun z => e z.2), if_neg e, if_neg (by omega)]
      exact h2 j
  · simp only [mS, mZ]
    rw [if_neg (by omega)]
    exact h3 j
  · simp only [mS, mZ]
    by_cases e : x = n + 1
    · rw [if_pos e]
    · rw [if_neg e]
      exact h4 x j hx (by omega)
def TM : List Sh := [.inr (.byte, ix 2000), .inr (.byte, ix 2001), .inr (.long, ix 9), .inr (.int, ix 272), .inr (.long, ix 78336), .inr (.long, ix 6300), .inr (.long, ix 9), .inr (.long, ix 9), .inr (.long, ix 9), .inr (.byte, ix 4000), .inr (.int, ix 2), .inr (.int, ix 2), .inr (.int, ix 2), .inr (.int, ix 2), .inr (.int, ix 20), .inr (.int, ix 20), .inr (.int, ix 22), .inr (.int, ix 120), .inr (.int, ix 120), .inr (.int, ix 120), .inr (.long, ix 1080), .inr (.int, ix 500), .inr (.int, ix 500), .inr (.int, ix 500), .inr (.int, ix 500), .inr (.int, ix 500), .inr (.int, ix 250), .inr (.long, ix 72000), .inr (.int, ix 250), .inr (.boolean, ix 250), .inr (.int, ix 700), .inr (.int, ix 700), .inr (.int, ix 110), .inr (.int, ix 10), .inr (.int, ix 11), .inr (.int, ix 11), .inr (.int, ix 10), .inr (.int, ix 10), .inr (.int, ix 250), .inr (.int, ix 9), .inr (.int, ix 10), .inr (.byte, ix 4000)]
theorem TM_ok : (TT.take 869 ++ [.inl 12]) ++ TM = TT := by decide +kernel
theorem len869 : (TT.take 869).length = 869 := by decide +kernel
set_option maxHeartbeats 4000000 in
set_option maxRecDepth 100000 in
theorem new_12 (m : Mi) : Wp (f_X12_init (TT.take 869 ++ [.inl 12]) (zr m 870) 870) (fun q => q.1 = TT ∧ nwK 869 m q.2 ∧ SM q.2 s0) := by
  have I : IM m 870 (zr m 870) (fun _ => 0) := ⟨nwK.rf.zr (by omega), fun j => by simp [mZ], fun j => by simp [mZ], fun x j h1 h2 => by omega⟩
  have e := TM_ok
  unfold TM at e
  have l : (TT.take 869 ++ [Sum.inl 12]).length = 870 := by rw [List.length_append, len869]; rfl
  have o : sh (TT.take 869 ++ [Sum.inl 12]) 870 = some (.inl 12) := nw_at (k := 0) (n := 869) len869 rfl
  revert I e l o
  generalize TT.take 869 ++ [Sum.inl 12] = t
  intro I e l o
  unfold f_X12_init
  refine wp_m I e l (by omega) o (fun M I e l o => ?_)
  refine wp_m I e l (by omega) o (fun M I e l o => ?_)
  refine wp_m I e l (by omega) o (fun M I e l o => ?_)
  refine wp_m I e l (by omega) o (fun M I e l o => ?_)
  refine wp_m I e l (by omega) o (fun M I e l o => ?_)
  refine wp_m I e l (by omega) o (fun M I e l o => ?_)
  refine wp_m I e l (by omega) o (fun M I e l o => ?_)
  refine wp_m I e l (by omega) o (fun M I e l o => ?_)
  refine wp_m I e l (by omega) o (fun M I e l o => ?_)
  refine wp_m I e l (by omega) o (fun M I e l o => ?_)
  refine wp_m I e l (by omega) o (fun M I e l o => ?_)
  refine wp_m I e l (by omega) o (fun M I e l o => ?_)
  refine wp_m I e l (by omega) o (fun M I e l o => ?_)
  refine wp_m I e l (by omega) o (fun M I e l o => ?_)
  refine wp_m I e l (by omega) o (fun M I e l o => ?_)
  refine wp_m I e l (by omega) o (fun M I e l o => ?_)
  refine wp_m I e l (by omega) o (fun M I e l o => ?_)
  refine wp_m I e l (by omega) o (fun M I e l o => ?_)
  refine wp_m I e l (by omega) o (fun M I e l o => ?_)
  refine wp_m I e l (by omega) o (fun M I e l o => ?_)
  refine wp_m I e l (by omega) o (fun M I e l o => ?_)
  refine wp_m I e l (by omega) o (fun M I e l o => ?_)
  refine wp_m I e l (by omega) o (fun M I e l o => ?_)
  refine wp_m I e l (by omega) o (fun M I e l o => ?_)
  refine wp_m I e l (by omega) o (fun M I e l o => ?_)
  refine wp_m I e l (by omega) o (fun M I e l o => ?_)
  refine wp_m I e l (by omega) o (fun M I e l o => ?_)
  refine wp_m I e l (by omega) o (fun M I e l o => ?_)
  refine wp_m I e l (by omega) o (fun M I e l o => ?_)
  refine wp_m I e l (by omega) o (fun M I e l o => ?_)
  refine wp_m I e l (by omega) o (fun M I e l o => ?_)
  refine wp_m I e l (by omega) o (fun M I e l o => ?_)
  refine wp_m I e l (by omega) o (fun M I e l o => ?_)
  refine wp_m I e l (by omega) o (fun M I e l o => ?_)
  refine wp_m I e l (by omega) o (fun M I e l o => ?_)
  refine wp_m I e l (by omega) o (fun M I e l o => ?_)
  refine wp_m I e l (by omega) o (fun M I e l o => ?_)
  refine wp_m I e l (by omega) o (fun M I e l o => ?_)
  refine wp_m I e l (by omega) o (fun M I e l o => ?_)
  refine wp_m I e l (by omega) o (fun M I e l o => ?_)
  refine wp_m I e l (by omega) o (fun M I e l o => ?_)
  refine wp_m I e l (by omega) o (fun M I e l o => ?_)
  rw [List.append_nil] at e
  rw [e]
  obtain ⟨I1, I2, I3, I4⟩ := I
  have hM : WFM M := fun k hk => (I2 k).trans (by revert k; decide +kernel)
  unfold f_X12_init_j356
  refine wp_bi (Q := fun M' => (∀ y j, y ≠ 874 → y ≠ 875 → gi M' y j = gi M y j ∧ gl M' y j = gl M y j) ∧ (∀ y j, gr M' y j = gr M y j) ∧ ∀ i, i < 16 → rowM M' 875 (288 * (250 + i)) mLE ∧ rowM M' 875 (288 * (250 + i) + 9) mEN ∧ gi M' 874 (250 + i) = 1) ?_ (fun M' hq => ?_)
  · refine wp_lp (fun x => ∃ k, k ≤ 16 ∧ x.1 = nI k ∧ (∀ y j, y ≠ 874 → y ≠ 875 → gi x.2 y j = gi M y j ∧ gl x.2 y j = gl M y j) ∧ (∀ y j, gr x.2 y j = gr M y j) ∧ ∀ i, i < k → rowM x.2 875 (288 * (250 + i)) mLE ∧ rowM x.2 875 (288 * (250 + i) + 9) mEN ∧ gi x.2 874 (250 + i) = 1) _ (fun x => 16 - ix x.1) (fun x hx => ?_) ⟨0, by omega, rfl, fun _ _ _ _ => ⟨rfl, rfl⟩, fun _ _ => rfl, fun j hj => by omega⟩ (by show 16 - ix 0 < 2 ^ 63; omega)
    obtain ⟨i, m1⟩ := x
    obtain ⟨k, hk, y1, y2, y3, y4⟩ := hx
    have e1 : i = nI k := y1
    have h2 : ∀ y j, y ≠ 874 → y ≠ 875 → gi m1 y j = gi M y j ∧ gl m1 y j = gl M y j := y2
    have h3 : ∀ y j, gr m1 y j = gr M y j := y3
    have h4 : ∀ i, i < k → rowM m1 875 (288 * (250 + i)) mLE ∧ rowM m1 875 (288 * (250 + i) + 9) mEN ∧ gi m1 874 (250 + i) = 1 := y4
    clear y1 y2 y3 y4
    subst e1
    show Wp (f_X12_init_l356 TT m1 870 (nI k)) _
    unfold f_X12_init_l356
    by_cases hk2 : k = 16
    · subst hk2
      rw [if_pos (by decide)]
      exact wp_some ⟨h2, h3, h4⟩
    · refine wp_no (by rw [show (16 : Int32) = nI 16 from rfl]; exact nI_ge (by omega) (by omega)) ?_
      unfold f_X12_slotOf
      rw [Option.bind_some, show (250 : Int32) + nI k = nI (250 + k) from nI_add 250 k]
      obtain ⟨m2, f1, f2, f3, f4, f5⟩ := full_spec (m := m1) (r := 250 + k) (fun z hz => (h3 870 z).trans (hM z hz)) (by omega)
      refine wp_if (ob_of s_870) ?_
      rw [f1, Option.bind_some]
      refine wp_lt (wp_some ⟨⟨k + 1, by omega, nI_1 k, fun y j y1 y2 => ?_, fun y j => (f5.2 y j).trans (h3 y j), fun i hi => ?_⟩, ?_⟩)
      · obtain ⟨z1, z2⟩ := f5.1 y j (by omega)
        obtain ⟨x1, x2⟩ := h2 y j y1 y2
        exact ⟨z1.trans x1, z2.trans x2⟩
      · by_cases hi2 : i = k
        · subst hi2
          exact ⟨f2, f3, f4⟩
        · obtain ⟨x1, x2, x3⟩ := h4 i (by omega)
          exact ⟨x1.keep f5 (fun z hz => by omega), x2.keep f5 (fun z hz => by omega), ((f5.1 874 (250 + i) (by omega)).1).trans x3⟩
      · show 16 - ix (nI k + 1) < 16 - ix (nI k)
        rw [nI_1, ix_nI (n := k + 1) (by omega), ix_nI (n := k) (by omega)]
        omega
  · obtain ⟨q1, q2, q3⟩ := hq
    have w : WFM M' := fun z hz => (q2 870 z).trans (hM z hz)
    have z0 : ∀ j, gi M' 870 j = 0 := fun j => ((q1 870 j (by omega) (by omega)).1).trans (I3 j)
    have zx : ∀ x j, 870 < x → x ≤ 912 → x ≠ 874 → x ≠ 875 → gi M' x j = 0 := fun x j h1 h2 h3 h4 => ((q1 x j h3 h4).1).trans (I4 x j h1 h2)
    unfold f_X12_init_j376
    refine wp_some ⟨rfl, fun x j hx => ?_, w, fun k hk => ?_, ⟨z0 1, by show 0 ≤ 2000; omega, fun j hj => absurd hj (Nat.not_lt_zero j)⟩, ?_, ⟨z0 49, z0 50, z0 51, z0 52⟩, ⟨w, by show 0 ≤ 4000; omega, z0 60, fun i b hb => (nil_no hb).elim⟩⟩
    · obtain ⟨x1, x2⟩ := q1 x j (by omega) (by omega)
      obtain ⟨y1, y2, y3⟩ := I1 x j hx
      exact ⟨x1.trans y1, x2.trans y2, (q2 x j).trans y3⟩
    · obtain ⟨x1, x2, x3⟩ := q3 k hk
      refine ⟨1, rfl, by omega, x3, fun b hb => ?_, ?_⟩
      · rcases (show b = 0 ∨ b = 1 by omega) with rfl | rfl
        · exact rowM_VR x1 mLE_tr.1
        · exact rowM_VR x2 mEN_tr.1
      · show [trM _, trM _] = [LE, EN]
        rw [← mLE_tr.2, ← mEN_tr.2]
        exact congr (congrArg List.cons (rowM_tr x1)) (congr (congrArg List.cons (rowM_tr x2)) rfl)
    · refine ⟨0, by omega, z0 21, ⟨⟨zx 881 0 (by omega) (by omega) (by omega) (by omega), zx 882 0 (by omega) (by omega) (by omega) (by omega), zx 883 0 (by omega) (by omega) (by omega) (by omega), zx 884 0 (by omega) (by omega) (by omega) (by omega)⟩, fun p x hx => (nil_no hx).elim, fun p x hx => (nil_no hx).elim, fun p x hx => (nil_no hx).elim, fun p x hx => (nil_no hx).elim, fun h => absurd rfl h⟩, fun j hj => absurd hj (Nat.not_lt_zero j), fun p x hx => (nil_no hx).elim, fun p x hx => (nil_no hx).elim⟩
