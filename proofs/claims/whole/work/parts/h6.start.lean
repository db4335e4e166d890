/-! The law's start: what the tables and the Statement's own words say of it. -/
def tmS (i : Nat) : Term := Term.string (sRef.getD i ("", 0, "", 0)).1 (sRef.getD i ("", 0, "", 0)).2.1
theorem st_ex : ∀ i, i < 11 → Cond.exactly (tmS i) "java/lang/String" ∈ flatC (Jvm.Cond.and given_1 narrow_1) := by decide +kernel
theorem st_co : ∀ i, i < 11 → Cond.eq (.field (tmS i) "java/lang/String" "coder" "B") (.int 0) ∈ flatC (Jvm.Cond.and given_1 narrow_1) := by decide +kernel
theorem st_ar : ∀ i, i < 11 → Cond.arrayOf (.field (tmS i) "java/lang/String" "value" "[B") .byte ∈ flatC (Jvm.Cond.and given_1 narrow_1) := by decide +kernel
theorem st_le : ∀ i, i < 11 → Cond.eq (.length (.field (tmS i) "java/lang/String" "value" "[B")) (.int (Int32.ofNat (sLen.getD i 0))) ∈ flatC (Jvm.Cond.and given_1 narrow_1) := by decide +kernel
theorem st_el : ∀ i, i < 11 → ∀ j, j < sLen.getD i 0 → Cond.eq (.elem (.field (tmS i) "java/lang/String" "value" "[B") (.int (Int32.ofNat j))) (.int ((sByt.getD i []).getD j 0)) ∈ flatC (Jvm.Cond.and given_1 narrow_1) := by decide +kernel
theorem st_ne : ∀ i, i < 11 → ∀ j, j < 11 → i ≠ j → Cond.not (Cond.eq (tmS i) (tmS j)) ∈ flatC (Jvm.Cond.and given_1 narrow_1) ∨ Cond.not (Cond.eq (tmS j) (tmS i)) ∈ flatC (Jvm.Cond.and given_1 narrow_1) := by decide +kernel
theorem st_rf : ∀ q ∈ sRef, Cond.stringRef q.1 q.2.1 q.2.2.1 ∈ lw_tbl := by decide +kernel
theorem st_w1 : Cond.eq (.string RX9 97) (.string RX3 110) ∈ flatC (Jvm.Cond.and given_1 narrow_1) := by decide +kernel
theorem st_w2 : Cond.eq (.string RX9 99) (.string RX3 119) ∈ flatC (Jvm.Cond.and given_1 narrow_1) := by decide +kernel
theorem st_w3 : Cond.eq (.string RX9 101) (.string RX3 121) ∈ flatC (Jvm.Cond.and given_1 narrow_1) := by decide +kernel
theorem st_cs : Cond.eq (.static "java/lang/String" "COMPACT_STRINGS" "Z") (.int 1) ∈ flatC (Jvm.Cond.and given_1 narrow_1) := by decide +kernel
theorem st_fm : Cond.isRef (.static "jdk/internal/util/Preconditions" "SIOOBE_FORMATTER" "Ljava/util/function/BiFunction;") ∈ flatC (Jvm.Cond.and given_1 narrow_1) := by decide +kernel
theorem st_l1 : Cond.laysStatic "java/lang/String" "COMPACT_STRINGS" "Z" ∈ lw_tbl := List.mem_of_getElem? (i := 640) (by decide +kernel)
theorem st_l2 : Cond.laysStatic "jdk/internal/util/Preconditions" "SIOOBE_FORMATTER" "Ljava/util/function/BiFunction;" ∈ lw_tbl := List.mem_of_getElem? (i := 656) (by decide +kernel)
theorem st_i1 : Cond.initialized "java/lang/String" ∈ lw_tbl := List.mem_of_getElem? (i := 130) (by decide +kernel)
theorem st_i2 : Cond.initialized "jdk/internal/util/Preconditions" ∈ lw_tbl := List.mem_of_getElem? (i := 132) (by decide +kernel)
theorem st_ao : ∀ C ∈ [RX4, RX2, RX7, RX0], Cond.arrayOver (.object C) ∈ lw_tbl := by decide +kernel
theorem st_ac : ∀ ty ∈ [FieldType.int, .long, .byte, .boolean], Cond.arrayClass ty ∈ lw_tbl := by decide +kernel
theorem st_in : ∀ q ∈ CL, Cond.instantiable q.1 q.2.2 ∈ lw_tbl := by decide +kernel
theorem inTB {w : Cond} (h : w ∈ TB) : w ∈ lw_tbl := (List.mem_filter.mp h).1
theorem st_u : ∀ (c : Nat) (q : vw_C), CL[c]? = some q → ∀ w ∈ u_ws q.1 q.2.1 q.2.2, w ∈ lw_tbl := by
  intro c q hq
  match c, hq with
  | 0, hq => cases hq; exact fun w h => inTB (inW0 w h)
  | 1, hq => cases hq; exact fun w h => inTB (inW1 w h)
  | 2, hq => cases hq; exact fun w h => inTB (inW2 w h)
  | 3, hq => cases hq; exact fun w h => inTB (inW3 w h)
  | 4, hq => cases hq; exact fun w h => inTB (inW4 w h)
  | 5, hq => cases hq; exact fun w h => inTB (inW5 w h)
  | 6, hq => cases hq; exact fun w h => inTB (inW6 w h)
  | 7, hq => cases hq; exact fun w h => inTB (inW7 w h)
  | 8, hq => cases hq; exact fun w h => inTB (inW8 w h)
  | 9, hq => cases hq; exact fun w h => inTB (inW9 w h)
  | 10, hq => cases hq; exact fun w h => inTB (inW10 w h)
  | 11, hq => cases hq; exact fun w h => inTB (inW11 w h)
  | 12, hq => cases hq; exact fun w h => inTB (inW12 w h)
  | c + 13, hq => simp [CL] at hq
def btS (adK adV : Nat → Nat) (f b L : Nat) (xs : Nat → Int32) : Nat → Nat := fun k => if k < 11 then adK k else if k < 22 then adV (k - 11) else if k = 22 then f else if k = 23 then b else if k = 24 then L else (xs (k - 25)).toBitVec.toNat
theorem of_toN (x : Int32) : Int32.ofNat x.toBitVec.toNat = x := by
  apply Int32.toBitVec_inj.mp
  apply BitVec.eq_of_toNat_eq
  show (BitVec.ofNat 32 x.toBitVec.toNat).toNat = _
  rw [BitVec.toNat_ofNat]
  have := x.toBitVec.isLt
  omega
theorem vkS_cg {N : Nat} {len : List Nat} {byt : List (List Int32)} {adK adV adK' adV' : Nat → Nat} {A : Nat → Prop} {U : State} {H : Heap} (h : vk_S N len byt adK adV A U H) (h1 : ∀ i, i < N → adK' i = adK i) (h2 : ∀ i, i < N → adV' i = adV i) : vk_S N len byt adK' adV' A U H := by
  refine ⟨fun i hi => ?_, fun i j hi hj e => h.2 i j hi hj (by rw [← h1 i hi, ← h1 j hj]; exact e)⟩
  rw [h1 i hi, h2 i hi]
  exact h.1 i hi
theorem lw_KS {s : State} {b L : Nat} {xs : Nat → Int32} (hts : ∀ w ∈ lw_tbl, w.before #[Value.ref b] s = true) (hX : va_X b L xs s s.heap) (hb : b < s.heap.size) (hgv : (Jvm.Cond.and given_1 narrow_1).before #[Value.ref b] s = true) : ∃ (β : Bs) (D : va_G) (cA : FieldType → ClassId), KS β D cA s ∧ β.1 + 1 = s.heap.size ∧ β.2 23 = b ∧ β.2 24 = L := by
  have hs := flat_of_before _ hgv
  have hcl : ∀ c : Nat, ∃ z : ClassId × (Nat → Nat), ∀ q : vw_C, CL[c]? = some q → u_Kn s q.1 q.2.1 q.2.2 z.1 z.2 := by
    intro c
    cases hq : CL[c]? with
    | none => exact ⟨(0, fun _ => 0), fun q h => by cases h⟩
    | some q =>
      obtain ⟨cC, iS, h⟩ := u_known (C := q.1) (T := q.2.1) (N := q.2.2) (n := q.2.2) hts (st_u c q hq) (hts _ (st_in q (List.mem_of_getElem? hq)))
      exact ⟨(cC, iS), fun q' h' => by cases h'; exact h⟩
  obtain ⟨dd, hdd⟩ := Classical.axiomOfChoice hcl
  have har : ∀ ty : FieldType, ∃ z : ClassId, ty ∈ [FieldType.int, .long, .byte, .boolean, .object RX4, .object RX2, .object RX7, .object RX0] → ArrOfT s z ty ∧ va_RA s z ty := by
    intro ty
    by_cases hp : ty ∈ [FieldType.int, .long, .byte, .boolean]
    · obtain ⟨c, k, comp, f1, f2, f3⟩ := Cond.arrayClass_spec (hts _ (st_ac ty hp))
      refine ⟨c, fun _ => ⟨fun n z => ⟨(fun k h => by cases h), k, f2, comp, f3⟩, ?_⟩⟩
      simp only [List.mem_cons, List.not_mem_nil, or_false] at hp
      rcases hp with rfl | rfl | rfl | rfl
      · exact f1
      · exact f1
      · exact f1
      · exact f1
    · by_cases ho : ∃ C, C ∈ [RX4, RX2, RX7, RX0] ∧ ty = .object C
      · obtain ⟨C, hC, rfl⟩ := ho
        obtain ⟨comp, c, k, f1, -, f3, f4, f5⟩ := Cond.arrayOver_spec (hts _ (st_ao C hC))
        exact ⟨c, fun _ => ⟨fun n z => ⟨(fun k h => by cases h), k, f3, comp, f4⟩, k, comp, f3, f4, f1, f5⟩⟩
      · refine ⟨0, fun h => ?_⟩
        rw [show [FieldType.int, .long, .byte, .boolean, .object RX4, .object RX2, .object RX7, .object RX0] = [FieldType.int, .long, .byte, .boolean] ++ [FieldType.object RX4, .object RX2, .object RX7, .object RX0] from rfl] at h
        rcases List.mem_append.mp h with h | h
        · exact absurd h hp
        · simp only [List.mem_cons, List.not_mem_nil, or_false] at h
          rcases h with h | h | h | h
          · exact absurd ⟨RX4, by simp, h⟩ ho
          · exact absurd ⟨RX2, by simp, h⟩ ho
          · exact absurd ⟨RX7, by simp, h⟩ ho
          · exact absurd ⟨RX0, by simp, h⟩ ho
  obtain ⟨cA, hcA⟩ := Classical.axiomOfChoice har
  have hA : ∀ a : Nat, a < s.heap.size → ¬ (fun q => s.heap.size - 1 < q) a := fun a h1 h2 => by
    have h2 : s.heap.size - 1 < a := h2
    omega
  obtain ⟨adK, adV, hS, hev⟩ := vk_Sof (N := 11) (tm := tmS) (len := sLen) (byt := sByt) (by decide) (fun i hi => hs _ (st_ex i hi)) (fun i hi => hs _ (st_co i hi)) (fun i hi => hs _ (st_ar i hi)) (fun i hi => hs _ (st_le i hi)) (fun i hi j hj => hs _ (st_el i hi j hj)) (fun i j hi hj hij => (st_ne i hi j hj hij).elim (fun h => Or.inl (hs _ h)) (fun h => Or.inr (hs _ h))) hA
  obtain ⟨v, hv, hr⟩ := Cond.isRef_spec (hs _ st_fm)
  obtain ⟨f, hf⟩ : ∃ f : Nat, v = .null ∨ v = .ref f := by
    cases v with
    | null => exact ⟨0, Or.inl rfl⟩
    | ref a => exact ⟨a, Or.inr rfl⟩
    | _ => cases hr
  have hZ := va_Zof (A := fun q => s.heap.size - 1 < q) (hts _ st_l2) (hts _ st_i2) hv hA
  refine ⟨(s.heap.size - 1, btS adK adV f b L xs), (fun c => (dd c).1, fun c => (dd c).2), cA, ⟨⟨fun c q hq => hdd c q hq, fun k q hq => ?_⟩, ⟨vkS_cg hS (fun i hi => ?_) (fun i hi => ?_), ?_, va_Zof (hts _ st_l1) (hts _ st_i1) (va_eqt (hs _ st_cs)) hA, ?_, ?_, ?_⟩, ⟨va_AO.of (hts _ (st_ao RX4 (by simp))), va_AO.of (hts _ (st_ao RX2 (by simp))), va_AO.of (hts _ (st_ao RX7 (by simp))), va_AO.of (hts _ (st_ao RX0 (by simp)))⟩, by show s.heap.size - 1 < s.heap.size; omega⟩, by show s.heap.size - 1 + 1 = _; omega, rfl, rfl⟩
  · have hm := List.mem_of_getElem? hq
    simp only [TYS, List.mem_cons, List.not_mem_nil, or_false] at hm
    rcases hm with rfl | rfl | rfl | rfl | rfl | rfl | rfl | rfl
    · exact hcA _ (by simp)
    · exact hcA _ (by simp)
    · exact hcA _ (by simp)
    · exact hcA _ (by simp)
    · exact hcA _ (by simp)
    · exact hcA _ (by simp)
    · exact hcA _ (by simp)
    · exact hcA _ (by simp)
  · show (if i < 11 then adK i else _) = _
    rw [if_pos hi]
  · show (if 11 + i < 11 then _ else if 11 + i < 22 then adV (11 + i - 11) else _) = _
    rw [if_neg (by omega), if_pos (by omega), show 11 + i - 11 = i by omega]
  · intro q hq
    have h1 := hts _ (st_rf q hq)
    simp only [sRef, List.mem_cons, List.not_mem_nil, or_false] at hq
    rcases hq with rfl | rfl | rfl | rfl | rfl | rfl | rfl | rfl | rfl | rfl | rfl | rfl | rfl | rfl
    · exact vk_R.of h1 (hev 0 (by omega))
    · exact vk_R.of h1 (hev 1 (by omega))
    · exact vk_R.of h1 (hev 2 (by omega))
    · exact vk_R.of h1 (hev 3 (by omega))
    · exact vk_R.of h1 (hev 4 (by omega))
    · exact vk_R.of h1 (hev 5 (by omega))
    · exact vk_R.of h1 (hev 6 (by omega))
    · exact vk_R.of h1 (hev 7 (by omega))
    · exact vk_R.of h1 (hev 8 (by omega))
    · exact vk_R.of h1 (hev 9 (by omega))
    · exact vk_R.of h1 (hev 10 (by omega))
    · exact vk_R.of h1 (va_eqR (hs _ st_w1) (hev 1 (by omega)))
    · exact vk_R.of h1 (va_eqR (hs _ st_w2) (hev 2 (by omega)))
    · exact vk_R.of h1 (va_eqR (hs _ st_w3) (hev 3 (by omega)))
  · have e : (fun j => Int32.ofNat (btS adK adV f b L xs (25 + j))) = xs := by
      funext j
      unfold btS
      rw [if_neg (by omega), if_neg (by omega), if_neg (by omega), if_neg (by omega), if_neg (by omega), show 25 + j - 25 = j by omega]
      exact of_toN _
    show va_X b L (fun j => Int32.ofNat (btS adK adV f b L xs (25 + j))) s s.heap
    rw [e]
    exact hX
  · show b ≤ s.heap.size - 1
    omega
  · rcases hf with rfl | rfl
    · exact Or.inl hZ
    · exact Or.inr hZ
