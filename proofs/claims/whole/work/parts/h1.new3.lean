/-! Constructors: the registry, the slots. -/
def RG6 : List Sh := [.inl 6, .inr (.byte, 2000), .inr (.object RX2, 10)] ++ (rpB (.inl 2) (.inr (.int, 6)) 10 ++ ([.inr (.object RX7, 60)] ++ (rpB (.inl 7) (.inr (.long, 8)) 60 ++ ([.inr (.object RX0, 250)] ++ (rpA (.inl 0) 250 ++ [.inl 10, .inr (.long, 8)])))))
set_option maxHeartbeats 4000000 in
theorem new_6 {t : List Sh} {m : Mi} {n : Nat} (hl : t.length = n) (hn : n < 700000) : Wp (f_X6_init (t ++ [.inl 6]) (zr m (n + 1)) (n + 1)) (fun q => q.1 = t ++ RG6 ∧ nwK n m q.2 ∧ WQ (n + 1) q.2 ∧ gi q.2 (n + 1) 4 = 0 ∧ gi q.2 (n + 1) 5 = 0 ∧ gi q.2 (n + 1) 6 = 0 ∧ gi q.2 (n + 1) 7 = 0) := by
  unfold f_X6_init
  refine wp_arr (n := n + 1) (by simp [hl]) (by omega) (by subst hl; exact sh_new) (fun o => ?_)
  refine wp_arr (n := n + 2) (by simp [hl]) (by omega) o (fun o => ?_)
  obtain ⟨t0, e0⟩ : ∃ t0, t0 = t ++ [.inl 6] ++ [.inr (.byte, ix 2000)] ++ [.inr (.object RX2, ix 10)] := ⟨_, rfl⟩
  obtain ⟨M0, hM0⟩ : ∃ M0, M0 = sr (zr (sr (zr (zr m (n + 1)) (n + 1 + 1)) (n + 1) 0 (n + 1 + 1)) (n + 2 + 1)) (n + 1) 1 (n + 2 + 1) := ⟨_, rfl⟩
  rw [← e0, ← hM0]
  rw [← e0] at o
  have f0 : nwK n m M0 := by
    rw [hM0]
    exact ((((nwK.rf.zr (by omega)).zr (by omega)).sr (by omega)).zr (by omega)).sr (by omega)
  have p0 : gr M0 (n + 1) 0 = n + 2 := by rw [hM0]; simp [mS, mZ]
  have p1 : gr M0 (n + 1) 1 = n + 3 := by rw [hM0]; simp [mS, mZ]
  have l0 : t0.length = n + 3 := by rw [e0]; simp [hl]
  have A0 : sh t0 (n + 3) = some (.inr (.object RX2, 10)) := by
    rw [e0]
    exact nw_at (k := 0) (n := n + 2) (by simp [hl]) (by simp [ixL])
  unfold f_X6_init_j24
  refine wp_bi (new_packs l0 (by omega) o A0 (by omega) p1) (fun y hy => ?_)
  obtain ⟨t1, M1⟩ := y
  obtain ⟨e1, f1, g1⟩ := hy
  have e1 : t1 = t0 ++ rpB (.inl 2) (.inr (.int, 6)) 10 := e1
  have f1 : nwA (n + 3) (n + 3) M0 M1 := f1
  have g1 : ∀ j, j < 10 → gr M1 (n + 3) j = n + 3 + 1 + 2 * j ∧ gr M1 (n + 3 + 1 + 2 * j) 0 = n + 3 + 2 + 2 * j := g1
  have l1 : t1.length = n + 23 := by rw [e1, List.length_append, rpB_len, l0]
  have o1 : sh t1 (n + 1) = some (.inl 6) := by rw [e1]; exact nw_sh o
  show Wp (f_X6_init_j49 t1 M1 (n + 1)) _
  unfold f_X6_init_j49
  refine wp_arr (n := n + 23) l1 (by omega) o1 (fun o2 => ?_)
  obtain ⟨t2, e2⟩ : ∃ t2, t2 = t1 ++ [.inr (.object RX7, ix 60)] := ⟨_, rfl⟩
  rw [← e2]
  rw [← e2] at o2
  have l2 : t2.length = n + 24 := by rw [e2]; simp [l1]
  have A2 : sh t2 (n + 24) = some (.inr (.object RX7, 60)) := by
    rw [e2]
    exact nw_at (k := 0) (n := n + 23) l1 (by simp [ixL])
  unfold f_X6_init_j60
  refine wp_bi (new_rels l2 (by omega) o2 A2 (by omega) (by simp [mS])) (fun y hy => ?_)
  obtain ⟨t3, M2⟩ := y
  obtain ⟨e3, f2, g2⟩ := hy
  have e3 : t3 = t2 ++ rpB (.inl 7) (.inr (.long, 8)) 60 := e3
  have f2 : nwA (n + 24) (n + 24) (sr (zr M1 (n + 23 + 1)) (n + 1) 2 (n + 23 + 1)) M2 := f2
  have g2 : ∀ j, j < 60 → gr M2 (n + 24) j = n + 24 + 1 + 2 * j ∧ gr M2 (n + 24 + 1 + 2 * j) 0 = n + 24 + 2 + 2 * j := g2
  have l3 : t3.length = n + 144 := by rw [e3, List.length_append, rpB_len, l2]
  have o3 : sh t3 (n + 1) = some (.inl 6) := by rw [e3]; exact nw_sh o2
  show Wp (f_X6_init_j85 t3 M2 (n + 1)) _
  unfold f_X6_init_j85
  refine wp_arr (n := n + 144) l3 (by omega) o3 (fun o4 => ?_)
  obtain ⟨t4, e4⟩ : ∃ t4, t4 = t3 ++ [.inr (.object RX0, ix 250)] := ⟨_, rfl⟩
  rw [← e4]
  rw [← e4] at o4
  have l4 : t4.length = n + 145 := by rw [e4]; simp [l3]
  have A4 : sh t4 (n + 145) = some (.inr (.object RX0, 250)) := by
    rw [e4]
    exact nw_at (k := 0) (n := n + 144) l3 (by simp [ixL])
  unfold f_X6_init_j97
  refine wp_bi (new_cons l4 (by omega) o4 A4 (by omega) (by simp [mS])) (fun y hy => ?_)
  obtain ⟨t5, M3⟩ := y
  obtain ⟨e5, f3, g3⟩ := hy
  have e5 : t5 = t4 ++ rpA (.inl 0) 250 := e5
  have f3 : nwA (n + 145) (n + 145) (sr (zr M2 (n + 144 + 1)) (n + 1) 3 (n + 144 + 1)) M3 := f3
  have g3 : ∀ j, j < 250 → gr M3 (n + 145) j = n + 145 + 1 + j := g3
  have l5 : t5.length = n + 395 := by rw [e5, List.length_append, rpA_len, l4]
  have o5 : sh t5 (n + 1) = some (.inl 6) := by rw [e5]; exact nw_sh o4
  show Wp (f_X6_init_j123 t5 M3 (n + 1)) _
  unfold f_X6_init_j123
  refine wp_obj (n := n + 395) (L := [.inl 10, .inr (.long, 8)]) (Q := fun m' => gr m' (n + 396) 0 = n + 397) l5 (by omega) o5 (new_10 l5 (by omega)) (fun M4 k4 q4 o6 => ?_)
  have hc : Wp (f_X6_clear (t5 ++ [.inl 10, .inr (.long, 8)]) (sr M4 (n + 1) 8 (n + 395 + 1)) (n + 1)) (fun M5 => gi M5 (n + 1) 4 = 0 ∧ gi M5 (n + 1) 5 = 0 ∧ gi M5 (n + 1) 6 = 0 ∧ gi M5 (n + 1) 7 = 0 ∧ nwK n M4 M5 ∧ ∀ x j, gr M5 x j = gr (sr M4 (n + 1) 8 (n + 396)) x j) := by
    unfold f_X6_clear
    refine wp_lt (wp_lt (wp_lt (wp_lt (wp_lt (wp_lt (wp_some ⟨by simp [mS], by simp [mS], by simp [mS], by simp [mS], ?_, fun x j => rfl⟩))))))
    exact ((((((nwK.rf.sr (by omega)).si (by omega)).si (by omega)).si (by omega)).si (by omega)).si (by omega)).si (by omega)
  refine wp_bi hc (fun M5 hM => ?_)
  obtain ⟨c4, c5, c6, c7, c8, c9⟩ := hM
  have k3 : ∀ x j, x ≤ n + 395 → x ≠ n + 1 → gr M5 x j = gr M3 x j := fun x j hx hx2 => by
    rw [c9]
    simp only [mS]
    rw [if_neg (fun e => hx2 e.1)]
    exact (k4 x j hx).2.2
  have k2 : ∀ x j, x ≤ n + 144 → x ≠ n + 1 → gr M3 x j = gr M2 x j := fun x j hx hx2 => by
    rw [(f3 x j (by omega) (by omega)).2.2]
    simp only [mS, mZ]
    rw [if_neg (fun e => hx2 e.1), if_neg (by omega)]
  have k1 : ∀ x j, x ≤ n + 23 → x ≠ n + 1 → gr M2 x j = gr M1 x j := fun x j hx hx2 => by
    rw [(f2 x j (by omega) (by omega)).2.2]
    simp only [mS, mZ]
    rw [if_neg (fun e => hx2 e.1), if_neg (by omega)]
  have b1 : ∀ j, gr M1 (n + 1) j = gr M0 (n + 1) j := fun j => (f1 (n + 1) j (by omega) (by omega)).2.2
  have b2 : ∀ j, gr M2 (n + 1) j = if j = 2 then n + 24 else gr M1 (n + 1) j := fun j => by
    rw [(f2 (n + 1) j (by omega) (by omega)).2.2]
    simp only [mS, mZ]
    by_cases h2 : j = 2
    · rw [if_pos ⟨trivial, h2⟩, if_pos h2]
    · rw [if_neg (fun e => h2 e.2), if_neg h2, if_neg (by omega)]
  have b3 : ∀ j, gr M3 (n + 1) j = if j = 3 then n + 145 else gr M2 (n + 1) j := fun j => by
    rw [(f3 (n + 1) j (by omega) (by omega)).2.2]
    simp only [mS, mZ]
    by_cases h2 : j = 3
    · rw [if_pos ⟨trivial, h2⟩, if_pos h2]
    · rw [if_neg (fun e => h2 e.2), if_neg h2, if_neg (by omega)]
  have b5 : ∀ j, gr M5 (n + 1) j = if j = 8 then n + 396 else gr M3 (n + 1) j := fun j => by
    rw [c9]
    simp only [mS]
    by_cases h2 : j = 8
    · rw [if_pos ⟨trivial, h2⟩, if_pos h2]
    · rw [if_neg (fun e => h2 e.2), if_neg h2]
      exact (k4 (n + 1) j (by omega)).2.2
  refine wp_some ⟨?_, ?_, ⟨?_, ?_, ?_, ?_, ?_, ?_, fun p hp => ?_, fun p hp => ?_, fun p hp => ?_⟩, c4, c5, c6, c7⟩
  · show t5 ++ [.inl 10, .inr (.long, 8)] = _
    rw [e5, e4, e3, e2, e1, e0]
    unfold RG6
    simp [ixL]
  · exact (((((f0.tr (f1.K (k := n) (by omega) (by omega)) (Nat.le_refl _)).zr (by omega)).sr (by omega)).tr (f2.K (k := n) (by omega) (by omega)) (Nat.le_refl _)).zr (by omega)).sr (by omega) |>.tr (f3.K (k := n) (by omega) (by omega)) (Nat.le_refl _) |>.tr (k4.le (k := n) (by omega)) (Nat.le_refl _) |>.tr c8 (Nat.le_refl _)
  · rw [b5, if_neg (by omega), b3, if_neg (by omega), b2, if_neg (by omega), b1, p0]
  · rw [b5, if_neg (by omega), b3, if_neg (by omega), b2, if_neg (by omega), b1, p1]
  · rw [b5, if_neg (by omega), b3, if_neg (by omega), b2, if_pos rfl]
  · rw [b5, if_neg (by omega), b3, if_pos rfl]
  · rw [b5, if_pos rfl]
  · rw [c9]
    simp only [mS]
    rw [if_neg (by omega), show n + 1 + 395 = n + 396 by omega, q4]
  · have := g1 p hp
    rw [show n + 1 + 2 = n + 3 by omega, show n + 1 + 3 + 2 * p = n + 3 + 1 + 2 * p by omega, k3 _ _ (by omega) (by omega), k2 _ _ (by omega) (by omega), k1 (n + 3) _ (by omega) (by omega), this.1, k3 _ _ (by omega) (by omega), k2 _ _ (by omega) (by omega), k1 _ _ (by omega) (by omega), this.2]
    omega
  · have := g2 p hp
    rw [show n + 1 + 23 = n + 24 by omega, show n + 1 + 24 + 2 * p = n + 24 + 1 + 2 * p by omega, k3 _ _ (by omega) (by omega), k2 _ _ (by omega) (by omega), this.1, k3 _ _ (by omega) (by omega), k2 _ _ (by omega) (by omega), this.2]
    omega
  · have := g3 p hp
    rw [show n + 1 + 144 = n + 145 by omega, k3 _ _ (by omega) (by omega), this]
/-- a slot that holds all -/
def SLt (m : Mi) (r : Nat) : Prop := gr m r 0 = r + 1 ∧ gi m r 1 = 2 ∧ bnd m (r + 1) 2 = [LE, EN]
theorem SLt.keep {m m' : Mi} {r : Nat} (h : SLt m r) (k : ∀ x j, x = r ∨ x = r + 1 → gi m' x j = gi m x j ∧ gl m' x j = gl m x j ∧ gr m' x j = gr m x j) : SLt m' r := by
  obtain ⟨h1, h2, h3⟩ := h
  refine ⟨((k r 0 (Or.inl rfl)).2.2).trans h1, ((k r 1 (Or.inl rfl)).1).trans h2, ?_⟩
  rw [bnd_congr (m := m) (fun q _ => (k (r + 1) q (Or.inr rfl)).2.1)]
  exact h3
theorem all_spec {t : List Sh} {m : Mi} {r : Nat} (h0 : gr m r 0 = r + 1) (hs : sh t (r + 1) = some (.inr (.long, 256))) : Wp (f_X4_setAll t m r) (fun m' => SLt m' r ∧ (∀ x j, x ≠ r → x ≠ r + 1 → gi m' x j = gi m x j ∧ gl m' x j = gl m x j) ∧ ∀ x j, gr m' x j = gr m x j) := by
  unfold f_X4_setAll
  rw [h0, setLeast_spec hs (by omega) (by omega), Option.bind_some]
  simp only [mS, h0]
  refine wp_if (ar_of (k := 8) hs (by omega) (by omega)) (wp_lt (wp_lt (wp_some ⟨⟨?_, ?_, ?_⟩, fun x j h1 h2 => ⟨?_, ?_⟩, fun x j => ?_⟩)))
  · simp only [mS]
    exact h0
  · simp [mS]
  · simp [bnd, rowL, rowF, List.range_succ, mS, LE, EN, ixL]
  · simp only [mS]
    rw [if_neg (fun e => h1 e.1)]
  · simp only [mS]
    rw [if_neg (fun e => h2 e.1), if_neg (fun e => h2 e.1)]
  · simp only [mS]
set_option maxHeartbeats 4000000 in
theorem new_slots {t : List Sh} {m : Mi} {n a A : Nat} (hl : t.length = n) (hn : n < 800000) (ha : sh t a = some (.inl 11)) (hA : sh t A = some (.inr (.object RX4, 16))) (haA : a ≠ A) (hf : gr m a 2 = A) :
    Wp (lp (fun x : Int32 × List Sh × Mi => f_X11_init_l29 x.2.1 x.2.2 a x.1) FUEL (0, t, m)) (fun q => q.1 = t ++ rpB (.inl 4) (.inr (.long, 256)) 16 ∧ nwA n A m q.2 ∧ ∀ j, j < 16 → gr q.2 A j = n + 1 + 2 * j ∧ SLt q.2 (n + 1 + 2 * j)) := by
  have la : a ≤ n := by rw [← hl]; exact (sh_le ha).2
  have lA : A ≤ n := by rw [← hl]; exact (sh_le hA).2
  refine wp_lp (fun x => ∃ k, k ≤ 16 ∧ x.1 = nI k ∧ x.2.1 = t ++ rpB (.inl 4) (.inr (.long, 256)) k ∧ nwA n A m x.2.2 ∧ ∀ j, j < k → gr x.2.2 A j = n + 1 + 2 * j ∧ SLt x.2.2 (n + 1 + 2 * j)) _ (fun x => 16 - ix x.1) (fun x hx => ?_) ⟨0, by omega, rfl, (List.append_nil t).symm, fun _ _ _ _ => ⟨rfl, rfl, rfl⟩, fun j hj => by omega⟩ (by show 16 - ix 0 < 2 ^ 63; omega)
  obtain ⟨i, t1, m1⟩ := x
  obtain ⟨k, hk, y1, y2, y3, y4⟩ := hx
  have e1 : i = nI k := y1
  have e2 : t1 = t ++ rpB (.inl 4) (.inr (.long, 256)) k := y2
  have h3 : nwA n A m m1 := y3
  have h4 : ∀ j, j < k → gr m1 A j = n + 1 + 2 * j ∧ SLt m1 (n + 1 + 2 * j) := y4
  clear y1 y2 y3 y4
  subst e1
  have l1 : t1.length = n + 2 * k := by rw [e2, List.length_append, rpB_len, hl]
  have a1 : sh t1 a = some (.inl 11) := by rw [e2]; exact nw_sh ha
  have A1 : sh t1 A = some (.inr (.object RX4, 16)) := by rw [e2]; exact nw_sh hA
  have f1 : gr m1 a 2 = A := ((h3 a _ la haA).2.2).trans hf
  show Wp (f_X11_init_l29 t1 m1 a (nI k)) _
  unfold f_X11_init_l29
  by_cases hk2 : k = 16
  · subst hk2
    rw [if_pos (by decide)]
    exact wp_some ⟨e2, h3, h4⟩
  · refine wp_no (by rw [show (16 : Int32) = nI 16 from rfl]; exact nI_ge (by omega) (by omega)) (wp_if (ob_of a1) (wp_new l1 (by omega) (wp_if (by rw [← l1]; exact ob_of sh_new) (wp_bd (new_4 (w := 256) l1 (by omega) (by decide) (by omega) (by decide)) (fun t2 m2 q => ?_)))))
    obtain ⟨q1, q2, q3, q4, q5⟩ := q
    have q1 : t2 = t1 ++ [.inl 4, .inr (.long, 256)] := q1
    have q2 : nwK (n + 2 * k) m1 m2 := q2
    have q3 : gr m2 (n + 2 * k + 1) 0 = n + 2 * k + 1 + 1 := q3
    have g2 : sh t2 (n + 2 * k + 1) = some (.inl 4) := by rw [q1]; exact nw_at (k := 0) l1 rfl
    have g3 : sh t2 (n + 2 * k + 1 + 1) = some (.inr (.long, 256)) := by rw [q1]; exact nw_at (k := 1) l1 rfl
    have g4 : sh t2 a = some (.inl 11) := by rw [q1]; exact nw_sh a1
    have g5 : sh t2 A = some (.inr (.object RX4, 16)) := by rw [q1]; exact nw_sh A1
    have h5 : gr (sr m2 A (ix (nI k)) (n + 2 * k + 1)) a 2 = A := by
      simp only [mS]
      rw [if_neg (fun e => haA e.1), (q2 a 2 (by omega)).2.2]
      exact f1
    have h6 : gr (sr m2 A (ix (nI k)) (n + 2 * k + 1)) A (ix (nI k)) = n + 2 * k + 1 := by simp [mS]
    rw [f1]
    refine wp_if (ar_of g5 (by omega) (by omega)) (wp_if (ob_of g2) (wp_lt (wp_if (ob_of g4) ?_)))
    rw [h5, h6]
    refine wp_if (ar_of g5 (by omega) (by omega)) (wp_if (ob_of g2) (wp_bi (all_spec (r := n + 2 * k + 1) ?_ g3) (fun m3 hm => ?_)))
    · simp only [mS]
      rw [if_neg (by omega)]
      exact q3
    obtain ⟨r1, r2, r3⟩ := hm
    refine wp_lt (wp_some ⟨⟨k + 1, by omega, nI_1 k, ?_, fun x j hx hxA => ?_, fun j hj => ?_⟩, ?_⟩)
    · show t2 = t ++ (rpB _ _ k ++ [_, _])
      rw [q1, e2, List.append_assoc]
    · obtain ⟨x1, x2, x3⟩ := q2 x j (by omega)
      obtain ⟨y1, y2, y3⟩ := h3 x j hx hxA
      obtain ⟨z1, z2⟩ := r2 x j (by omega) (by omega)
      refine ⟨z1.trans (x1.trans y1), z2.trans (x2.trans y2), (r3 x j).trans ?_⟩
      simp only [mS]
      rw [if_neg (fun e => hxA e.1)]
      exact x3.trans y3
    · by_cases hj2 : j = k
      · subst hj2
        refine ⟨(r3 A j).trans ?_, by rw [show n + 1 + 2 * j = n + 2 * j + 1 by omega]; exact r1⟩
        simp only [mS]
        rw [if_pos ⟨trivial, (ix_nI (by omega)).symm⟩]
        omega
      · obtain ⟨y1, y2⟩ := h4 j (by omega)
        refine ⟨(r3 A j).trans ?_, y2.keep (fun x i hx => ?_)⟩
        · simp only [mS]
          rw [if_neg (fun e => hj2 (by rw [ix_nI (by omega)] at e; exact e.2))]
          exact ((q2 A j (by omega)).2.2).trans y1
        · obtain ⟨z1, z2⟩ := r2 x i (by omega) (by omega)
          obtain ⟨x1, x2, x3⟩ := q2 x i (by omega)
          refine ⟨z1.trans x1, z2.trans x2, (r3 x i).trans ?_⟩
          simp only [mS]
          rw [if_neg (by omega)]
          exact x3
    · show 16 - ix (nI k + 1) < 16 - ix (nI k)
      rw [nI_1, ix_nI (n := k + 1) (by omega), ix_nI (n := k) (by omega)]
      omega
