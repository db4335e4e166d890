/-! The reference reads a constraint. -/
theorem keepRange_M {m : Mi} {c : Nat} {B : List Row} (hM : WFM m) (hc : c < 250) (h : MG m 268 B) : ∃ m', f_X12_keepRange TT m 870 (nI c) = some m' ∧ MR m' c B ∧ FrM (fun x j => (x = 897 ∧ j = c) ∨ (x = 898 ∧ 288 * c ≤ j ∧ j < 288 * c + 288)) m m' := by
  have hW := hM.W
  have h7 : gr m 870 7 = 874 := hM 7 (by omega)
  have h8 : gr m 870 8 = 875 := hM 8 (by omega)
  obtain ⟨n, b1, b2, b3, b4, b5⟩ := h
  unfold f_X12_keepRange f_X12_keepRange_j20
  rw [h7, if_pos (show ar TT 874 .int 268 = true from ar_of (k := 268) s_874 (by omega) (by omega)), hW.2.2.2.2.2.2.2.2.2.2.2.2.2.2.2.2.1, if_pos (ar_of s_897 hc (by omega)), lt_eq, ix_nI (by omega), show ix 268 = 268 from ix_nI (n := 268) (by omega), b3]
  have q1 : gi (si m 897 c (nI n)) 897 c = nI n := gi_si _ _ _ _
  have f1 : FrM (fun x j => (x = 897 ∧ j = c) ∨ (x = 898 ∧ 288 * c ≤ j ∧ j < 288 * c + 288)) m (si m 897 c (nI n)) := FrM.si (P := fun x j => (x = 897 ∧ j = c) ∨ (x = 898 ∧ 288 * c ≤ j ∧ j < 288 * c + 288)) (Or.inl ⟨rfl, rfl⟩)
  have k8 : gr (si m 897 c (nI n)) 870 8 = 875 := h8
  have k40 : gr (si m 897 c (nI n)) 870 40 = 898 := hW.2.2.2.2.2.2.2.2.2.2.2.2.2.2.2.2.2.1
  have kl : ∀ j, gl (si m 897 c (nI n)) 875 j = gl m 875 j := fun _ => rfl
  generalize si m 897 c (nI n) = m3 at *
  have st : ∀ k, k < 288 → f_X12_keepRange_l20 TT (blkL m3 898 (288 * c) (288 * c + k) (fun j => gl m3 875 (77184 + (j - 288 * c)))) 870 (nI c) 288 (nI k) = some (.inl (nI (k + 1), blkL m3 898 (288 * c) (288 * c + (k + 1)) (fun j => gl m3 875 (77184 + (j - 288 * c))))) := by
    intro k hk
    have e : gl (blkL m3 898 (288 * c) (288 * c + k) (fun j => gl m3 875 (77184 + (j - 288 * c)))) 875 (77184 + k) = gl m3 875 (77184 + k) := by
      simp only [mS]
      rw [if_neg (by omega)]
    have r8 : gr (blkL m3 898 (288 * c) (288 * c + k) (fun j => gl m3 875 (77184 + (j - 288 * c)))) 870 8 = 875 := k8
    have r40 : gr (blkL m3 898 (288 * c) (288 * c + k) (fun j => gl m3 875 (77184 + (j - 288 * c)))) 870 40 = 898 := k40
    have sn := blkL_snoc m3 898 (288 * c) (288 * c + k) (fun j => gl m3 875 (77184 + (j - 288 * c))) (by omega)
    simp only [Nat.add_sub_cancel_left] at sn
    unfold f_X12_keepRange_l20
    rw [if_neg (show ¬ (288 : Int32) ≤ nI k from nI_ge (b := 288) hk (by omega)), r8, r40, show (268 : Int32) * 288 = nI 77184 from by decide, show (288 : Int32) = nI 288 from rfl, pk_mul, nI_add, nI_add, if_pos (ar_of s_875 (by omega) (by omega)), if_pos (ar_of s_898 (by omega) (by omega)), lt_eq, lt_eq, ix_nI (by omega), ix_nI (by omega), e, nI_1, show c * 288 + k = 288 * c + k by omega, sn]
    rfl
  have hlp := lp_count (body := fun x : Int32 × Mi => f_X12_keepRange_l20 TT x.2 870 (nI c) 288 x.1) (fun k => (nI k, blkL m3 898 (288 * c) (288 * c + k) (fun j => gl m3 875 (77184 + (j - 288 * c))))) (a := 0) (n := 288) (y := blkL m3 898 (288 * c) (288 * c + 288) (fun j => gl m3 875 (77184 + (j - 288 * c)))) (Nat.zero_le _) (by omega) (fun k _ hk => st k hk) (by
    show f_X12_keepRange_l20 TT _ 870 (nI c) 288 (nI 288) = _
    unfold f_X12_keepRange_l20
    rw [if_pos (by decide)])
  rw [Nat.add_zero, blkL_nil] at hlp
  rw [show ((0 : Int32), m3) = (nI 0, m3) from rfl, hlp, Option.bind_some]
  have f2 : FrM (fun x j => (x = 897 ∧ j = c) ∨ (x = 898 ∧ 288 * c ≤ j ∧ j < 288 * c + 288)) m3 (blkL m3 898 (288 * c) (288 * c + 288) (fun j => gl m3 875 (77184 + (j - 288 * c)))) := FrM.blk (fun j a b => Or.inr ⟨rfl, a, b⟩)
  refine ⟨_, rfl, ⟨n, b1, b2, q1, ?_, ?_⟩, f1.tr f2⟩
  · intro b hb
    refine VR_congr (fun z hz => ?_) (b4 b hb)
    simp only [mS]
    rw [if_pos ⟨trivial, by omega, by omega⟩, kl]
    congr 1
    omega
  · rw [← b5]
    unfold bM
    apply List.map_congr_left
    intro b hb
    have hb := List.mem_range.mp hb
    refine trM_congr (fun z hz => ?_)
    simp only [mS]
    rw [if_pos ⟨trivial, by omega, by omega⟩, kl]
    congr 1
    omega
theorem st4 {m : Mi} {i : Nat} {a b : Int32} (hW : WM m) (hi : i < 500) {α : Type} (K : Mi → Option α) :
    (if ar TT (gr m 870 34) .int (nI i) = true then
    lt (si m (gr m 870 34) (ix (nI i)) a) fun m8 =>
    (if ar TT (gr m8 870 35) .int (nI i) = true then
    lt (si m8 (gr m8 870 35) (ix (nI i)) b) fun m10 =>
    (if ar TT (gr m10 870 36) .int (nI i) = true then
    lt (si m10 (gr m10 870 36) (ix (nI i)) (gi m10 870 15)) fun m12 =>
    (if ar TT (gr m12 870 37) .int (nI i) = true then
    lt (si m12 (gr m12 870 37) (ix (nI i)) ((gi m12 870 16) - (gi m12 870 15))) fun m14 => K m14
    else none)
    else none)
    else none)
    else none) = K (si (si (si (si m 892 i a) 893 i b) 894 i (gi m 870 15)) 895 i (gi m 870 16 - gi m 870 15)) := by
  obtain ⟨_, _, _, _, _, _, _, _, _, _, _, w34, w35, w36, w37, _⟩ := hW
  rw [w34, if_pos (ar_of s_892 (by omega) (by omega)), lt_eq, ix_nI (by omega), show gr (si m 892 i a) 870 35 = 893 from w35, if_pos (ar_of s_893 (by omega) (by omega)), lt_eq, show gr (si (si m 892 i a) 893 i b) 870 36 = 894 from w36, if_pos (ar_of s_894 (by omega) (by omega)), lt_eq]
  rw [show gi (si (si m 892 i a) 893 i b) 870 15 = gi m 870 15 from by simp only [mS]; rw [if_neg (by omega), if_neg (by omega)]]
  rw [show gr (si (si (si m 892 i a) 893 i b) 894 i (gi m 870 15)) 870 37 = 895 from w37, if_pos (ar_of s_895 (by omega) (by omega)), lt_eq]
  rw [show gi (si (si (si m 892 i a) 893 i b) 894 i (gi m 870 15)) 870 15 = gi m 870 15 from by simp only [mS]; rw [if_neg (by omega), if_neg (by omega), if_neg (by omega)]]
  rw [show gi (si (si (si m 892 i a) 893 i b) 894 i (gi m 870 15)) 870 16 = gi m 870 16 from by simp only [mS]; rw [if_neg (by omega), if_neg (by omega), if_neg (by omega)]]
theorem rgC_tP {T : Nat → Nat} {n : Nat} {l : List Tok} (hs : Sfx (tl T n 0) l) : rgo (tP T n) (l.take (chk l 1 0).2) LE EN [] = rgo (cP T) (l.take (chk l 1 0).2) LE EN [] := by
  obtain ⟨p, hl⟩ := hs.tl
  exact rgo_congr _ _ _ _ (fun x hx h9 => (tl_tokR (p := p) (by rw [← hl]; exact List.mem_of_mem_take hx) ((chk_take l 1 0 x hx).resolve_right h9)).2.1)
/-- all of a registry but its counts -/
def DX (s : Nat) (m : Mi) (T : Nat → Nat) (G : Rg) : Prop := EP s m G.1 ∧ ER s m T G.2.1 ∧ EC s m T G.2.2 ∧ EK m T G.2.2
theorem con_M {s n : Nat} {m : Mi} {T : Nat → Nat} {l : List Tok} {G : Rg} {rl : Int32} (hs : s < 2) (hM : MT m n T) (hC : CurM m T n l) (hl : Sfx (tl T n 0) l) (hD : DM s m T G) (hB : BGd G) (hc : G.2.2.length < 250) (hk : kd0 l = 4 ∨ kd0 l = 5 ∨ kd0 l = 6) (hrl : rl = if kd0 l = 4 then -1 else nI (G.2.1.length - 1)) :
    ∃ v m', f_X12_constraint TT m 870 (nI s) rl (nI (mk (kd0 l))) = some (v, m') ∧ MT m' n T ∧ FrM (FS s) m m' ∧ match pCon (kd0 l) l.tail G with
      | .inl (c, l') => v = 0 ∧ gi m' 870 19 = nI c ∧ gi m' 870 20 = nI (pl0 n l')
      | .inr (l', G') => v = 1 ∧ DN s m' G ∧ DX s m' T G' ∧ CurM m' T n l' ∧ Sfx (tl T n 0) l' := by
  have hW := hM.1.W
  have hn := hM.2.2.1
  have hlk := lnkN_le G.2.2
  obtain ⟨⟨n1, n2, n3, n4⟩, eP, eR, eC, eK⟩ := hD
  obtain ⟨m1, e1, k1, M1, C1⟩ := next_M hM hC hl (by omega) (by omega)
  have W1 := M1.1.W
  unfold f_X12_constraint
  rw [hW.2.2.1, if_pos (ar_of s_883 hs (by omega)), hW.2.2.2.1, if_pos (ar_of s_884 hs (by omega)), lt_eq, ix_nI (by omega), n3, n4, nI_add, show lnkN G.2.2 + (G.2.2.length - lnkN G.2.2) = G.2.2.length by omega, e1, Option.bind_some]
  have hl1 := hl.tail
  unfold pCon
  by_cases h2 : kd0 l.tail = 2
  · have en := C1.ends hl1 (by omega) (by omega)
    rw [if_pos (show gi m1 870 14 = 1 from (kdM C1 hl1 2 (by omega) (by omega) (by omega)).mpr h2), if_pos h2, lt_eq, show (250 : Int32) = nI 250 from rfl, pk_mul, nI_add, st4 W1 (by omega), en.1, en.2.1, pk_sub (Nat.le_of_lt en.2.2.1)]
    -- what is stored
    have v1 : gi (si (si (si (si m1 892 (250 * s + G.2.2.length) rl) 893 (250 * s + G.2.2.length) (nI (mk (kd0 l)))) 894 (250 * s + G.2.2.length) (nI (pl0 0 l.tail))) 895 (250 * s + G.2.2.length) (nI (en0 0 l.tail - pl0 0 l.tail))) 892 (250 * s + G.2.2.length) = rl := by
      simp only [mS]
      rw [if_neg (by omega), if_neg (by omega), if_neg (by omega), if_pos ⟨trivial, trivial⟩]
    have v2 : gi (si (si (si (si m1 892 (250 * s + G.2.2.length) rl) 893 (250 * s + G.2.2.length) (nI (mk (kd0 l)))) 894 (250 * s + G.2.2.length) (nI (pl0 0 l.tail))) 895 (250 * s + G.2.2.length) (nI (en0 0 l.tail - pl0 0 l.tail))) 893 (250 * s + G.2.2.length) = nI (mk (kd0 l)) := by
      simp only [mS]
      rw [if_neg (by omega), if_neg (by omega), if_pos ⟨trivial, trivial⟩]
    have v3 : gi (si (si (si (si m1 892 (250 * s + G.2.2.length) rl) 893 (250 * s + G.2.2.length) (nI (mk (kd0 l)))) 894 (250 * s + G.2.2.length) (nI (pl0 0 l.tail))) 895 (250 * s + G.2.2.length) (nI (en0 0 l.tail - pl0 0 l.tail))) 894 (250 * s + G.2.2.length) = nI (pl0 0 l.tail) := by
      simp only [mS]
      rw [if_neg (by omega), if_pos ⟨trivial, trivial⟩]
    have v4 : gi (si (si (si (si m1 892 (250 * s + G.2.2.length) rl) 893 (250 * s + G.2.2.length) (nI (mk (kd0 l)))) 894 (250 * s + G.2.2.length) (nI (pl0 0 l.tail))) 895 (250 * s + G.2.2.length) (nI (en0 0 l.tail - pl0 0 l.tail))) 895 (250 * s + G.2.2.length) = nI (en0 0 l.tail - pl0 0 l.tail) := gi_si _ _ _ _
    have f2 : FrM (fun x j => (x = 892 ∨ x = 893 ∨ x = 894 ∨ x = 895) ∧ j = 250 * s + G.2.2.length) m1 (si (si (si (si m1 892 (250 * s + G.2.2.length) rl) 893 (250 * s + G.2.2.length) (nI (mk (kd0 l)))) 894 (250 * s + G.2.2.length) (nI (pl0 0 l.tail))) 895 (250 * s + G.2.2.length) (nI (en0 0 l.tail - pl0 0 l.tail))) := (((FrM.si (P := fun x j => (x = 892 ∨ x = 893 ∨ x = 894 ∨ x = 895) ∧ j = 250 * s + G.2.2.length) (by omega)).tr (FrM.si (P := fun x j => (x = 892 ∨ x = 893 ∨ x = 894 ∨ x = 895) ∧ j = 250 * s + G.2.2.length) (by omega))).tr (FrM.si (P := fun x j => (x = 892 ∨ x = 893 ∨ x = 894 ∨ x = 895) ∧ j = 250 * s + G.2.2.length) (by omega))).tr (FrM.si (P := fun x j => (x = 892 ∨ x = 893 ∨ x = 894 ∨ x = 895) ∧ j = 250 * s + G.2.2.length) (by omega))
    generalize si (si (si (si m1 892 (250 * s + G.2.2.length) rl) 893 (250 * s + G.2.2.length) (nI (mk (kd0 l)))) 894 (250 * s + G.2.2.length) (nI (pl0 0 l.tail))) 895 (250 * s + G.2.2.length) (nI (en0 0 l.tail - pl0 0 l.tail)) = m2 at *
    have f2s : FrM (FS s) m1 m2 := f2.mono (fun x j h => by unfold FS; omega)
    have M2 := M1.keepS f2s
    have C2 : CurM m2 T n l.tail := C1.keep (fun j a b => (f2.1 _ _ (by omega)).1)
    obtain ⟨m3, e3, k3, M3, C3⟩ := next_M M2 C2 hl1 (by omega) (by omega)
    have hl3 := hl1.tail
    obtain ⟨q3, hq3⟩ := hl3.tl
    obtain ⟨m4, e4, f4, C4, g4, b4⟩ := mrange_spec hq3 M3 C3
    rw [e3, Option.bind_some, show f_X12_range TT m3 870 268 = _ from e4, bd_some]
    have f14 : FrM (FS s) m m4 := ((k1.S.tr f2s).tr k3.S).tr (FS.R f4)
    have M4 := M3.keepF f4
    by_cases hz : (chk l.tail.tail 1 0).1 = 0
    · rw [decide_eq_true hz, if_neg bTr, if_pos hz]
      obtain ⟨g5, g6⟩ := g4 hz
      rw [rgC_tP hl3] at g5
      obtain ⟨m5, e5, r5, f5⟩ := keepRange_M M4.1 hc g5
      rw [e5, Option.bind_some]
      have f5s : FrM (FS s) m4 m5 := f5.mono (fun x j h => by unfold FS; omega)
      have k45 : ∀ x j, 881 ≤ x → x ≤ 896 → gi m5 x j = gi m2 x j ∧ gl m5 x j = gl m2 x j := by
        intro x j a b
        have h1 := f5.1 x j (by omega)
        have h2 := f4.1 x j (by unfold PR; omega)
        have h3 := k3.F.1 x j (by unfold PR; omega)
        exact ⟨h1.1.trans (h2.1.trans h3.1), h1.2.trans (h2.2.trans h3.2)⟩
      have k01 : ∀ x j, 881 ≤ x → x ≤ 898 → gi m1 x j = gi m x j ∧ gl m1 x j = gl m x j := fun x j a b => k1.F.1 x j (by unfold PR; omega)
      have kall : ∀ x j, 881 ≤ x → x ≤ 891 → gi m5 x j = gi m x j ∧ gl m5 x j = gl m x j := by
        intro x j a b
        have h1 := k45 x j a (by omega)
        have h2 := f2.1 x j (by omega)
        have h3 := k01 x j a (by omega)
        exact ⟨h1.1.trans (h2.1.trans h3.1), h1.2.trans (h2.2.trans h3.2)⟩
      have kold : ∀ x j, 892 ≤ x → x ≤ 895 → j ≠ 250 * s + G.2.2.length → gi m5 x j = gi m x j := by
        intro x j a b hj
        exact ((k45 x j (by omega) (by omega)).1.trans (f2.1 x j (by omega)).1).trans (k01 x j (by omega) (by omega)).1
      refine ⟨1, m5, rfl, M4.keepS f5s, f14.tr f5s, rfl, DN.keep ⟨n1, n2, n3, n4⟩ (fun x j a b => (kall x j a (by omega)).1), ⟨eP.keep (fun x j a b => (kall x j (by omega) (by omega)).1), eR.keep (fun x j a b => kall x j (by omega) (by omega)), ?_, ?_⟩, ?_, hl3.drop _⟩
      · intro c x hx
        rcases app_get (l := G.2.2) hx with ⟨hcl, hx⟩ | ⟨hcl, hy⟩
        · obtain ⟨a1, a2, a3, a4⟩ := eC c x hx
          exact ⟨(kold _ _ (by omega) (by omega) (by omega)).trans a1, (kold _ _ (by omega) (by omega) (by omega)).trans a2, (kold _ _ (by omega) (by omega) (by omega)).trans a3, (kold _ _ (by omega) (by omega) (by omega)).trans a4⟩
        · subst hcl
          rw [hy]
          refine ⟨?_, (k45 _ _ (by omega) (by omega)).1.trans v2, (k45 _ _ (by omega) (by omega)).1.trans v3, (k45 _ _ (by omega) (by omega)).1.trans v4⟩
          rw [(k45 _ _ (by omega) (by omega)).1, v1, hrl]
      · intro c x hx
        rcases app_get (l := G.2.2) hx with ⟨hcl, hx⟩ | ⟨hcl, hy⟩
        · have hold := eK c x hx
          refine hold.keep ?_ (fun j a b => ?_)
          · rw [(f5.1 _ _ (by omega)).1, (f4.1 _ _ (by unfold PR; omega)).1, (k3.F.1 _ _ (by unfold PR; omega)).1, (f2.1 _ _ (by omega)).1, (k01 _ _ (by omega) (by omega)).1]
          · rw [(f5.1 _ _ (by omega)).2, (f4.1 _ _ (by unfold PR; omega)).2, (k3.F.1 _ _ (by unfold PR; omega)).2, (f2.1 _ _ (by omega)).2, (k01 _ _ (by omega) (by omega)).2]
        · subst hcl
          rw [hy]
          exact r5
      · exact C4.keep (fun j a b => (f5.1 _ _ (by omega)).1)
    · rw [decide_eq_false hz, if_pos bF, if_neg hz]
      obtain ⟨b5, b6⟩ := b4 hz
      exact ⟨0, m4, rfl, M4, f14, rfl, b5, b6⟩
  · obtain ⟨m2, e2, o2⟩ := faultO (s := s) (c := 1) M1 C1
    rw [if_neg (show ¬ gi m1 870 14 = 1 from fun e => h2 ((kdM C1 hl1 2 (by omega) (by omega) (by omega)).mp e)), if_neg h2, show (1 : Int32) = nI 1 from rfl, e2]
    have o2 := OuM.tr k1.S o2
    exact ⟨0, m2, rfl, o2.1, o2.2.1, rfl, o2.inl.2⟩
