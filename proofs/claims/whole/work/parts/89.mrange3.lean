/-! range of the reference. -/
/-- what a call of the reference that reads a text into a slot may change -/
def PT (x j : Nat) : Prop := (x = 870 ∧ (j = 1 ∨ j = 3 ∨ j = 5 ∨ j = 6 ∨ j = 10 ∨ (14 ≤ j ∧ j ≤ 20))) ∨ x = 872 ∨ x = 873 ∨ x = 876 ∨ x = 877 ∨ x = 878 ∨ x = 879 ∨ (x = 874 ∧ 250 ≤ j) ∨ (x = 875 ∧ 72000 ≤ j)
theorem PR.T {m m' : Mi} (h : FrM PR m m') : FrM PT m m' := h.mono (fun x j e => by unfold PR at e; unfold PT; omega)
theorem starts_spec {m : Mi} {n : Nat} {T : Nat → Nat} (h : MT m n T) : ∃ m', f_X12_starts TT m 870 = some m' ∧ CurM m' T n (tl T n 0) ∧ FrM PR m m' := by
  have f1 : FrM PR m (si (si (si m 870 19 0) 870 20 0) 870 16 0) := ((FrM.si (by unfold PR; omega)).tr (FrM.si (by unfold PR; omega))).tr (FrM.si (by unfold PR; omega))
  obtain ⟨m', e1, k1, c1⟩ := token_spec (p := 0) (h.keepF f1) (gi_si _ _ _ _) (by omega)
  refine ⟨m', ?_, c1, f1.tr k1.F⟩
  unfold f_X12_starts
  rw [lt_eq, lt_eq, lt_eq, e1]
  rfl
theorem range_M {m : Mi} {T : Nat → Nat} {f : Nat} {S : Nat → List Row} (hM : WFM m) (hS : MSl m S) (hG : GS S) (hT : Tap m 870 871 T f) (k n : Int32) :
    ∃ m', f_X12_range_ TT m 870 k n = some ((spRange T f S k n).1, m') ∧ MSl m' (spRange T f S k n).2.2 ∧ Tap m' 870 871 T (spRange T f S k n).2.1 ∧ FrM PT m m' := by
  have hf := hT.2.1
  unfold f_X12_range_ spRange
  have hbad : sOk k = false → (if k < 0 then some (-1, m) else if 15 < k then some (-1, m) else none : Option (Int32 × Mi)) = some (-1, m) := by
    intro h
    unfold sOk at h
    simp only [Bool.and_eq_false_iff, Bool.not_eq_false', decide_eq_true_eq] at h
    by_cases h0 : k < 0
    · rw [if_pos h0]
    · rw [if_neg h0]
      obtain ⟨j, hj, rfl⟩ := nI_of h0
      have h16 := h.resolve_left h0
      have : 16 ≤ j := (nI_leI (a := 16) (by omega) hj).mp h16
      rw [if_pos (show (15 : Int32) < nI j from nI_lt (a := 15) (by omega) hj)]
  rcases sOk_cases k with ⟨hk, _, _⟩ | ⟨kk, hkk, rfl, hk, _, _⟩
  · rw [if_neg (show ¬ (sOk k = true ∧ ¬ (n < 0 ∨ nI f < n)) by rw [hk]; exact fun x => fNt x.1)]
    have hb := hbad hk
    by_cases h0 : k < 0
    · rw [if_pos h0]
      exact ⟨m, rfl, hS, hT, FrM.rf⟩
    · rw [if_neg h0]
      rw [if_neg h0] at hb
      by_cases h1 : 15 < k
      · rw [if_pos h1]
        exact ⟨m, rfl, hS, hT, FrM.rf⟩
      · rw [if_neg h1] at hb
        cases hb
  · rw [if_neg (nI_pos (by omega)), if_neg (show ¬ (15 : Int32) < nI kk from nI_nlt (a := 15) (by omega) (by omega))]
    rcases tap_cases n hf with hn | ⟨nn, hnn, rfl⟩
    · rw [takes_no hT hn, bd_some, if_pos rfl, if_neg (fun x => x.2 hn)]
      exact ⟨m, rfl, hS, hT, FrM.rf⟩
    · obtain ⟨m1, e1, t1, g1, f1⟩ := takes_yes hM hT hnn
      rw [e1, bd_some, if_neg (by decide), if_pos ⟨hk, by
        intro x
        rcases x with x | x
        · exact nI_pos (by omega) x
        · exact nI_nlt hnn (by omega) x⟩, ix_nI (by omega), ix_nI (by omega)]
      obtain ⟨m2, e2, c2, f2⟩ := starts_spec t1
      have t2 := t1.keepF f2
      obtain ⟨m3, e3, f3, c3, g3, b3⟩ := mrange_spec (q := 0) rfl t2 c2
      have t3 := t2.keepF f3
      have fm : FrM PT m m3 := ((f1.mono (fun x j e => by unfold PT; omega)).tr (PR.T f2)).tr (PR.T f3)
      have tap3 : Tap m3 870 871 T 0 := by
        refine ⟨?_, by omega, fun j hj => by omega⟩
        rw [(f3.1 _ _ (by unfold PR; omega)).1, (f2.1 _ _ (by unfold PR; omega)).1]
        exact g1
      have hS3 : MSl m3 S := fun j hj => by
        have k1 := (hS j hj).keepF f1 (by omega) (fun q a b => by omega)
        have k2 := k1.keepF f2 (by unfold PR; omega) (fun q a b => by unfold PR; omega)
        exact k2.keepF f3 (by unfold PR; omega) (fun q a b => by unfold PR; omega)
      have hpl := fun j => pl0_drop (T := T) (n := nn) (p := 0) j
      have hpos : ∀ x ∈ tl T nn 0, 0 < x.1 ∧ x.1 < 13 := fun x hx => tl_kind hx
      rw [e2, Option.bind_some, show f_X12_range TT m2 870 268 = _ from e3, bd_some]
      generalize tl T nn 0 = L at *
      have hzs := chk_small L 1 0
      have hp2 := hpl (chk L 1 0).2
      unfold f_X12_range__j49
      by_cases hz0 : (chk L 1 0).1 = 0
      · rw [if_neg (show ¬ (chk L 1 0).1 ≠ 0 from fun e => e hz0), decide_eq_true hz0, if_neg (by decide)]
        by_cases hre : L.drop (chk L 1 0).2 = []
        · have hzl := drop_nil hre
          rw [if_neg (show ¬ L.drop (chk L 1 0).2 ≠ [] from fun e => e hre)]
          rw [hre] at c3
          obtain ⟨g31, g32⟩ := g3 hz0
          rw [List.take_of_length_le hzl] at g31 g32
          obtain ⟨m4, e4, k4, g4⟩ := copyRange_spec (r := 268) (to := 250 + kk) t3.1 (by omega) (by omega) (by omega) g31
          rw [c3.1, if_pos rfl, if_neg (by decide), slotOf_spec, Option.bind_some, show f_X12_copyRange TT m3 870 (nI (250 + kk)) 268 = _ from e4, Option.bind_some]
          refine ⟨m4, rfl, fun j hj => ?_, ?_, fm.tr ⟨fun x j e => ⟨k4.2.1 x j (fun z => e (by unfold PT; omega)) (fun z => e (by unfold PT; omega)), k4.1 x j (fun z => e (by unfold PT; omega)) (fun z => e (by unfold PT; omega)) (fun z => e (by unfold PT; omega)) (fun z => e (by unfold PT; omega))⟩, k4.2.2⟩⟩
          · show MG m4 (250 + j) (if j = kk then rgo (tP T nn) L LE EN [] else S j)
            by_cases hjk : j = kk
            · rw [if_pos hjk, hjk]; exact g4
            · rw [if_neg hjk]
              exact (hS3 j hj).keepC k4 (by omega)
          · show Tap m4 870 871 T 0
            refine ⟨?_, by omega, fun j hj => by omega⟩
            rw [k4.2.1 _ _ (by omega) (by omega)]
            exact tap3.1
        · rw [if_pos (show L.drop (chk L 1 0).2 ≠ [] from hre)]
          obtain ⟨x, r, hxr⟩ := List.exists_cons_of_ne_nil hre
          have hxm := List.mem_of_getElem? (drop_cons hxr).1
          have hx := hpos x hxm
          have hms := mk_small x.1 hx.2
          have h14 : gi m3 870 14 = nI (mk x.1) := by rw [hxr] at c3; exact c3.1
          rw [h14, if_neg (show ¬ nI (mk x.1) = 0 from fun e => by
            have := (nI_eq (b := 0) (by omega) (by omega)).mp e
            rw [hms.2.2.2] at this
            omega)]
          obtain ⟨m4, e4, q1, q2, q3, f4⟩ := fault_spec (c := 1) c3
          rw [show f_X12_fault TT m3 870 1 = _ from e4, bd_some, if_pos rfl, q1, q2, show (8 : Int32) = nI 8 from rfl, pk_mul, nI_add]
          have tap4 : Tap m4 870 871 T 0 := ⟨(f4.1 _ _ (by omega)).1.trans tap3.1, by omega, fun j hj => by omega⟩
          exact ⟨m4, rfl, fun j hj => (hS3 j hj).keepF f4 (by omega) (fun q a b => by omega), tap4, fm.tr (f4.mono (fun x j e => by unfold PT; omega))⟩
      · obtain ⟨q1, q2⟩ := b3 hz0
        rw [if_pos (show (chk L 1 0).1 ≠ 0 from hz0), decide_eq_false hz0, if_pos (by decide), if_pos (by decide), q1, q2, show (8 : Int32) = nI 8 from rfl, pk_mul, nI_add]
        exact ⟨m3, rfl, hS3, tap3, fm⟩
