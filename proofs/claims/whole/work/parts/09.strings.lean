/-! String.length, String.charAt of the constants: the JDK's own code, walked. A string constant is the reference 1048576 + k, its bytes 1048587 + k. -/
def isS (a : Nat) : Bool := decide (1048576 ≤ a) && decide (a < 1048587)
def sL (a : Nat) : Nat := sLen.getD (a - 1048576) 0
def sB (a j : Nat) : Int32 := (sByt.getD (a - 1048576) []).getD j 0
section StrA
variable {α : Type} {G : Bs → Prop} {μ : Fx} {E : Ev} {κ : α → Option Rs} {pc pc' : Nat} {L : List (Nat × PV)} {st st' : List PV} {t : List Sh} {m : Mi} {r : Option α} {idx : Nat}
theorem r_none : SmG G μ E κ pc L st (t, m) none := fun res hr => by cases hr
theorem Sm.rs (h : ∀ (β : Bs) (D : va_G) (cA : FieldType → ClassId) (p : Program) (l : Launch) (e : Env) (R : Room) (s : State) (mm : MethodId) (args : Array Value) (below : List Frame) (meth : Method) (c : Code) (H : Heap) (locs : List Loc) (ls : Array Slot) (cells slots : Nat) (Q : State → Prop),
      CX β D cA μ p s mm args meth c → va_S (fun q => β.1 < q) s.heap H locs → W p l e R s mm args below meth c H locs cells slots Q (F0 mm pc' ls (vs β st')) → W p l e R s mm args below meth c H locs cells slots Q (F0 mm pc ls (vs β st)))
    (k : SmG G μ E κ pc' L st' (t, m) r) : SmG G μ E κ pc L st (t, m) r := by
  intro res hr
  obtain ⟨h1, h2⟩ := k res hr
  refine ⟨h1, ?_⟩
  intro β D cA p l e R s mm args below meth c H locs ls hG C hW ho hl hz hls a1 a2 a3 a4 b1 b2 b3 b4
  exact h β D cA p l e R s mm args below meth c H locs ls _ _ _ C ⟨hz, fun q _ hq => ho q (Nat.le_of_not_lt hq), hl⟩ (h2 β D cA p l e R s mm args below meth c H locs ls hG C hW ho hl hz hls a1 a2 a3 a4 b1 b2 b3 b4)
theorem isS_spec {a : Nat} (h : isS a = true) : ∃ k, k < 11 ∧ a = 1048576 + k := by
  simp only [isS, Bool.and_eq_true, decide_eq_true_eq] at h
  exact ⟨a - 1048576, by omega, by omega⟩
theorem rv_for (β : Bs) (k : Nat) : rv β (1048576 + k) = .ref (β.2 k) := by
  have a1 : ¬ 1048576 + k = 0 := by omega
  have a2 : ¬ 1048576 + k < 1048576 := by omega
  simp only [rv, rf, if_neg a1, if_neg a2, va_rf, Nat.add_sub_cancel_left]
theorem r_Scod (i pc' : Nat) {a : Nat} (hd : μ.2.2.2.2[i]? = some (pc, (.getfield idx, 3))) (hp : pc + 3 = pc') (hl : Cond.fieldLink μ.1.cls idx "java/lang/String" "coder" "B" ∈ TB) (ha : isS a = true) (k : SmG G μ E κ pc' L (.inl 0 :: st) (t, m) r) : SmG G μ E κ pc L (.inr (.inr a) :: st) (t, m) r := by
  subst hp
  obtain ⟨q, hq, rfl⟩ := isS_spec ha
  refine Sm.rs (fun β D cA p l e R s mm args below meth c H locs ls cells slots Q C hS kk => ?_) k
  show W p l e R s mm args below meth c H locs cells slots Q (F0 mm pc ls (rv β (1048576 + q) :: vs β st))
  rw [rv_for]
  exact vk_getf C.1 C.2.1 (C.2.2.2.2.2.1.2.1.1.1 q hq).2.1 hS C.2.2.2.1 (C.2.2.2.2.1 _ hl) (fun _ h => h) (C.dk hd) kk
theorem r_Sval (i pc' : Nat) {a : Nat} (hd : μ.2.2.2.2[i]? = some (pc, (.getfield idx, 3))) (hp : pc + 3 = pc') (hl : Cond.fieldLink μ.1.cls idx "java/lang/String" "value" "[B" ∈ TB) (ha : isS a = true) (k : SmG G μ E κ pc' L (.inr (.inr (a + 11)) :: st) (t, m) r) : SmG G μ E κ pc L (.inr (.inr a) :: st) (t, m) r := by
  subst hp
  obtain ⟨q, hq, rfl⟩ := isS_spec ha
  refine Sm.rs (fun β D cA p l e R s mm args below meth c H locs ls cells slots Q C hS kk => ?_) k
  show W p l e R s mm args below meth c H locs cells slots Q (F0 mm pc ls (rv β (1048576 + q) :: vs β st))
  have k1 : W p l e R s mm args below meth c H locs cells slots Q (F0 mm (pc + 3) ls (rv β (1048576 + q + 11) :: vs β st)) := kk
  rw [show 1048576 + q + 11 = 1048576 + (11 + q) by omega, rv_for] at k1
  rw [rv_for]
  exact vk_getf C.1 C.2.1 (C.2.2.2.2.2.1.2.1.1.1 q hq).2.2.1 hS C.2.2.2.1 (C.2.2.2.2.1 _ hl) (fun _ h => h) (C.dk hd) k1
theorem r_Slen (i pc' : Nat) {a : Nat} (hd : μ.2.2.2.2[i]? = some (pc, (.arraylength, 1))) (hp : pc + 1 = pc') (ha : isS a = true) (k : SmG G μ E κ pc' L (.inl (Int32.ofNat (sL a)) :: st) (t, m) r) : SmG G μ E κ pc L (.inr (.inr (a + 11)) :: st) (t, m) r := by
  subst hp
  obtain ⟨q, hq, rfl⟩ := isS_spec ha
  refine Sm.rs (fun β D cA p l e R s mm args below meth c H locs ls cells slots Q C hS kk => ?_) k
  show W p l e R s mm args below meth c H locs cells slots Q (F0 mm pc ls (rv β (1048576 + q + 11) :: vs β st))
  rw [show 1048576 + q + 11 = 1048576 + (11 + q) by omega, rv_for]
  have k1 : W p l e R s mm args below meth c H locs cells slots Q (F0 mm (pc + 1) ls (.int (Int32.ofNat (sL (1048576 + q))) :: vs β st)) := kk
  rw [show sL (1048576 + q) = sLen.getD q 0 by simp [sL]] at k1
  exact va_tlen C.1 C.2.1 (C.2.2.2.2.2.1.2.1.1.1 q hq).2.2.2 hS rfl (C.dk hd) k1
theorem r_Sbal (i pc' : Nat) {a : Nat} {x : Int32} (hd : μ.2.2.2.2[i]? = some (pc, (.baload, 1))) (hp : pc + 1 = pc') (ha : isS a = true) (hx : ¬ x < 0 ∧ ix x < sL a) (k : SmG G μ E κ pc' L (.inl (sB a (ix x)) :: st) (t, m) r) : SmG G μ E κ pc L (.inl x :: .inr (.inr (a + 11)) :: st) (t, m) r := by
  subst hp
  obtain ⟨q, hq, rfl⟩ := isS_spec ha
  refine Sm.rs (fun β D cA p l e R s mm args below meth c H locs ls cells slots Q C hS kk => ?_) k
  show W p l e R s mm args below meth c H locs cells slots Q (F0 mm pc ls (.int x :: rv β (1048576 + q + 11) :: vs β st))
  rw [show 1048576 + q + 11 = 1048576 + (11 + q) by omega, rv_for]
  have k1 : W p l e R s mm args below meth c H locs cells slots Q (F0 mm (pc + 1) ls (.int (sB (1048576 + q) (ix x)) :: vs β st)) := kk
  rw [show sB (1048576 + q) (ix x) = (sByt.getD q []).getD (ix x) 0 by simp [sB]] at k1
  have hx2 : ix x < sLen.getD q 0 := by have := hx.2; rwa [show sL (1048576 + q) = sLen.getD q 0 by simp [sL]] at this
  refine va_tb C.1 C.2.1 (C.2.2.2.2.2.1.2.1.1.1 q hq).2.2.2 hS ?_ rfl (C.dk hd) k1
  rintro (h | h)
  · exact hx.1 h
  · exact absurd hx2 (Nat.not_lt.mpr h)
theorem r_gets1 (i pc' : Nat) (hd : μ.2.2.2.2[i]? = some (pc, (.getstatic idx, 3))) (hp : pc + 3 = pc') (hl : Cond.fieldLink μ.1.cls idx "java/lang/String" "COMPACT_STRINGS" "Z" ∈ TB) (k : SmG G μ E κ pc' L (.inl 1 :: st) (t, m) r) : SmG G μ E κ pc L st (t, m) r := by
  subst hp
  exact Sm.rs (fun β D cA p l e R s mm args below meth c H locs ls cells slots Q C hS kk => va_gets C.1 C.2.1 C.2.2.2.2.2.1.2.1.2.2.1 hS C.2.2.2.1 (C.2.2.2.2.1 _ hl) (fun _ h => h) (C.dk hd) kk) k
theorem r_getsF (i pc' : Nat) (hd : μ.2.2.2.2[i]? = some (pc, (.getstatic idx, 3))) (hp : pc + 3 = pc') (hl : Cond.fieldLink μ.1.cls idx "jdk/internal/util/Preconditions" "SIOOBE_FORMATTER" "Ljava/util/function/BiFunction;" ∈ TB) (k : ∀ n : Nat, SmG G μ E κ pc' L (.inr (.inr n) :: st) (t, m) r) : SmG G μ E κ pc L st (t, m) r := by
  subst hp
  intro res hr
  refine ⟨(k 0 res hr).1, ?_⟩
  intro β D cA p l e R s mm args below meth c H locs ls hG C hW ho hl' hz hls a1 a2 a3 a4 b1 b2 b3 b4
  have hS : va_S (fun q => β.1 < q) s.heap H locs := ⟨hz, fun q _ hq => ho q (Nat.le_of_not_lt hq), hl'⟩
  rcases C.2.2.2.2.2.1.2.1.2.2.2.2.2 with hZ | hZ
  · exact va_gets C.1 C.2.1 hZ hS C.2.2.2.1 (C.2.2.2.2.1 _ hl) (fun _ h => h) (C.dk hd) ((k 0 res hr).2 β D cA p l e R s mm args below meth c H locs ls hG C hW ho hl' hz hls a1 a2 a3 a4 b1 b2 b3 b4)
  · have k1 := (k (1048576 + 22) res hr).2 β D cA p l e R s mm args below meth c H locs ls hG C hW ho hl' hz hls a1 a2 a3 a4 b1 b2 b3 b4
    have e1 : vs β (.inr (.inr (1048576 + 22)) :: st) = Value.ref (β.2 22) :: vs β st := by
      show rv β (1048576 + 22) :: vs β st = _
      rw [rv_for]
    rw [e1] at k1
    exact va_gets C.1 C.2.1 hZ hS C.2.2.2.1 (C.2.2.2.2.1 _ hl) (fun _ h => h) (C.dk hd) k1
theorem r_i2c (i pc' : Nat) {x : Int32} (hd : μ.2.2.2.2[i]? = some (pc, (.i2c, 1))) (hp : pc + 1 = pc') (k : SmG G μ E κ pc' L (.inl ((x.toUInt32 % 65536).toInt32) :: st) (t, m) r) : SmG G μ E κ pc L (.inl x :: st) (t, m) r := by
  subst hp
  exact Sm.go (fun β D cA p l e R s m args below meth c H locs ls cells slots Q C hl kk => lv_i2c C.1 C.2.1 (C.dk hd) rfl (kk ls hl)) k
/-- a virtual call on a string constant -/
theorem r_invVS (i pc' : Nat) {μ' : Fx} {a n d : Nat} {av av' : List PV} {g : Option Int32} {f : Int32 → Option α} (hd : μ.2.2.2.2[i]? = some (pc, (.invokevirtual idx, 3))) (hp : pc + 3 = pc') (hM : MC μ' n) (hin : Cond.instanceMethod μ'.1 ∈ TB ∧ Cond.selects μ'.1.cls μ'.1 μ'.1 ∈ TB) (hl : Cond.methodLink μ.1.cls idx μ'.1 ∈ TB) (hlv : d < E.1) (hn : av'.length = n) (hav : av = .inr (.inr a) :: av') (hs : isS a = true) (hcl : "java/lang/String" = μ'.1.cls) (hw : (st.map pcat).sum ≤ 8)
    (hct : ∀ v, g = some v → Ct μ' d 0 0 av (t, m) (some (.inl v), (t, m))) (k : ∀ v, SmG G μ E κ pc' L (.inl v :: st) (t, m) (f v)) : SmG G μ E κ pc L (av.reverse ++ st) (t, m) (g.bind f) := by
  refine Sm.call (mc := 0) (ms := 0) (vo := fun v => some (.inl v)) (mo := fun _ => (t, m)) (d := d) pc' hp hct (fun x hx => ⟨rfl, rfl⟩) (fun x β D cA p l e R s mm args below meth c H locs ls cells slots hb1 hb2 hg C hW ho hz hls hf hMet => ?_) (fun x hx => k x)
  have hdd := C.dk hd
  obtain ⟨q, hq, rfl⟩ := isS_spec hs
  have hvs : vs β av = Value.ref (β.2 q) :: vs β av' := by
    rw [hav]
    show rv β (1048576 + q) :: vs β av' = _
    rw [rv_for]
  have hpre := c_Pre (av := av) C hW ho hz
  have hS : va_S (fun q => β.1 < q) s.heap H [] := ⟨hz, fun q _ hq => ho q (Nat.le_of_not_lt hq), fun _ h => by cases h⟩
  have hrecv := vk_recv C.2.2.2.2.2.1.2.1.1 hq hS
  rw [hcl] at hrecv
  rw [hvs] at hpre hMet ⊢
  refine va_runV (rest := vs β st) (As := vs β av') (n := n) (C := μ'.1.cls) ⟨C.1, C.2.1, C.2.2.1, C.2.2.2.1, C.2.2.2.2.1⟩ hMet ⟨c_B C hM hl hlv hb1 hb2, C.2.2.2.2.1 _ hin.1, C.2.2.2.2.1 _ hin.2⟩ ⟨hpre.1, hrecv, hpre.2⟩ rfl (by simpa [vs] using hn) hls ?_ ?_ hdd hf
  · show vs β (av.reverse ++ st) = _
    rw [vs_rev, hvs]
    simp
  · rw [vs_cat]
    show 2 * 0 + _ ≤ 8
    omega
/-- the law's own script, by its places: its length is β.2 24, its ints stand from 25 on -/
theorem r_sld (i pc' : Nat) {sa : Nat → Nat} {x : Int32} (hd : μ.2.2.2.2[i]? = some (pc, (.iaload, 1))) (hp : pc + 1 = pc') (hx : ¬ x < 0 ∧ ix x < sa 24) (k : SmG (fun β => β.2 = sa) μ E κ pc' L (.inl (Int32.ofNat (sa (25 + ix x))) :: st) (t, m) r) : SmG (fun β => β.2 = sa) μ E κ pc L (.inl x :: .inr (.inr (1048576 + 23)) :: st) (t, m) r := by
  subst hp
  intro res hr
  obtain ⟨h1, h2⟩ := k res hr
  refine ⟨h1, ?_⟩
  intro β D cA p l e R s mm args below meth c H locs ls hG C hW ho hl hz hls a1 a2 a3 a4 b1 b2 b3 b4
  have k1 := h2 β D cA p l e R s mm args below meth c H locs ls hG C hW ho hl hz hls a1 a2 a3 a4 b1 b2 b3 b4
  show W p l e R s mm args below meth c H locs _ _ _ (F0 mm pc ls (.int x :: rv β (1048576 + 23) :: vs β st))
  rw [rv_for]
  have hG : β.2 = sa := hG
  have hX := C.2.2.2.2.2.1.2.1.2.2.2.1
  have hb := C.2.2.2.2.2.1.2.1.2.2.2.2.1
  have hz0 := C.2.2.2.2.2.1.2.2.2
  have hS : va_S (fun q => β.1 < q) s.heap H locs := ⟨hz, fun q _ hq => ho q (Nat.le_of_not_lt hq), hl⟩
  refine va_sld C.1 C.2.1 hX (by omega) (by omega) hS (i := x) (by rw [hG]; exact fun h => h.elim (fun h => hx.1 h) (fun h => absurd hx.2 (Nat.not_lt.mpr h))) (C.dk hd) ?_
  rw [← hG] at k1
  exact k1
theorem r_slen (i pc' : Nat) {sa : Nat → Nat} (hd : μ.2.2.2.2[i]? = some (pc, (.arraylength, 1))) (hp : pc + 1 = pc') (k : SmG (fun β => β.2 = sa) μ E κ pc' L (.inl (Int32.ofNat (sa 24)) :: st) (t, m) r) : SmG (fun β => β.2 = sa) μ E κ pc L (.inr (.inr (1048576 + 23)) :: st) (t, m) r := by
  subst hp
  intro res hr
  obtain ⟨h1, h2⟩ := k res hr
  refine ⟨h1, ?_⟩
  intro β D cA p l e R s mm args below meth c H locs ls hG C hW ho hl hz hls a1 a2 a3 a4 b1 b2 b3 b4
  have k1 := h2 β D cA p l e R s mm args below meth c H locs ls hG C hW ho hl hz hls a1 a2 a3 a4 b1 b2 b3 b4
  show W p l e R s mm args below meth c H locs _ _ _ (F0 mm pc ls (rv β (1048576 + 23) :: vs β st))
  rw [rv_for]
  have hG : β.2 = sa := hG
  have hX := C.2.2.2.2.2.1.2.1.2.2.2.1
  have hb := C.2.2.2.2.2.1.2.1.2.2.2.2.1
  have hz0 := C.2.2.2.2.2.1.2.2.2
  have hS : va_S (fun q => β.1 < q) s.heap H locs := ⟨hz, fun q _ hq => ho q (Nat.le_of_not_lt hq), hl⟩
  refine va_slen C.1 C.2.1 hX (by omega) (by omega) hS (C.dk hd) ?_
  rw [← hG] at k1
  exact k1
end StrA
theorem ws_cod : Cond.fieldLink "java/lang/String" 15 "java/lang/String" "coder" "B" ∈ TB := tbm 1797 (by decide +kernel) rfl
theorem ws_val : Cond.fieldLink "java/lang/String" 9 "java/lang/String" "value" "[B" ∈ TB := tbm 1796 (by decide +kernel) rfl
theorem ws_cps : Cond.fieldLink "java/lang/String" 38 "java/lang/String" "COMPACT_STRINGS" "Z" ∈ TB := tbm 639 (by decide +kernel) rfl
theorem ws_fmt : Cond.fieldLink "java/lang/String" 1053 "jdk/internal/util/Preconditions" "SIOOBE_FORMATTER" "Ljava/util/function/BiFunction;" ∈ TB := tbm 655 (by decide +kernel) rfl
theorem ws_m335 : Cond.methodLink "java/lang/String" 335 yJ0_coder_7d493 ∈ TB := tbm 635 (by decide +kernel) rfl
theorem ws_m492 : Cond.methodLink "java/lang/String" 492 yJ0_isLatin1_aae02 ∈ TB := tbm 645 (by decide +kernel) rfl
theorem ws_m495 : Cond.methodLink "java/lang/String" 495 yJ1_charAt_3b067 ∈ TB := tbm 649 (by decide +kernel) rfl
theorem ws_m1059 : Cond.methodLink "java/lang/String" 1059 yJ3_checkIndex_8e157 ∈ TB := tbm 657 (by decide +kernel) rfl
theorem ws_l9 : Cond.methodLink "java/lang/StringLatin1" 9 yJ0_checkIndex_df160 ∈ TB := tbm 652 (by decide +kernel) rfl
def tb_J0_coder_7d493 : Tb := [(0, (.getstatic 38, 3)), (3, (.ifCond .eq 10, 3)), (6, (.aload_n 0, 1)), (7, (.getfield 15, 3)), (10, (.goto 4, 3)), (13, (.iconst 1, 1)), (14, (.ireturn, 1))]
def u_J0_coder_7d493 : Fx := (yJ0_coder_7d493, (cJ0_coder_7d493, (1, ((some .byte), tb_J0_coder_7d493))))
theorem tk_J0_coder_7d493 : ∀ q ∈ u_J0_coder_7d493.2.2.2.2, decode u_J0_coder_7d493.2.1 q.1 = .ok q.2 := by decide +kernel
theorem mc_J0_coder_7d493 : MC u_J0_coder_7d493 0 := ⟨tbm 638 (by decide +kernel) rfl, tbm 130 (by decide +kernel) rfl, ⟨by decide, by decide, by decide +kernel⟩, by decide⟩
theorem in_J0_coder_7d493 : Cond.instanceMethod u_J0_coder_7d493.1 ∈ TB ∧ Cond.selects u_J0_coder_7d493.1.cls u_J0_coder_7d493.1 u_J0_coder_7d493.1 ∈ TB := ⟨tbm 636 (by decide +kernel) rfl, tbm 637 (by decide +kernel) rfl⟩
def tb_J0_isLatin1_aae02 : Tb := [(0, (.getstatic 38, 3)), (3, (.ifCond .eq 14, 3)), (6, (.aload_n 0, 1)), (7, (.getfield 15, 3)), (10, (.ifCond .ne 7, 3)), (13, (.iconst 1, 1)), (14, (.goto 4, 3)), (17, (.iconst 0, 1)), (18, (.ireturn, 1))]
def u_J0_isLatin1_aae02 : Fx := (yJ0_isLatin1_aae02, (cJ0_isLatin1_aae02, (1, ((some .boolean), tb_J0_isLatin1_aae02))))
theorem tk_J0_isLatin1_aae02 : ∀ q ∈ u_J0_isLatin1_aae02.2.2.2.2, decode u_J0_isLatin1_aae02.2.1 q.1 = .ok q.2 := by decide +kernel
theorem mc_J0_isLatin1_aae02 : MC u_J0_isLatin1_aae02 0 := ⟨tbm 648 (by decide +kernel) rfl, tbm 130 (by decide +kernel) rfl, ⟨by decide, by decide, by decide +kernel⟩, by decide⟩
theorem in_J0_isLatin1_aae02 : Cond.instanceMethod u_J0_isLatin1_aae02.1 ∈ TB ∧ Cond.selects u_J0_isLatin1_aae02.1.cls u_J0_isLatin1_aae02.1 u_J0_isLatin1_aae02.1 ∈ TB := ⟨tbm 646 (by decide +kernel) rfl, tbm 647 (by decide +kernel) rfl⟩
def tb_J0_length_8abf5 : Tb := [(0, (.aload_n 0, 1)), (1, (.getfield 9, 3)), (4, (.arraylength, 1)), (5, (.aload_n 0, 1)), (6, (.invokevirtual 335, 3)), (9, (.ishr, 1)), (10, (.ireturn, 1))]
def u_J0_length_8abf5 : Fx := (yJ0_length_8abf5, (cJ0_length_8abf5, (1, ((some .int), tb_J0_length_8abf5))))
theorem tk_J0_length_8abf5 : ∀ q ∈ u_J0_length_8abf5.2.2.2.2, decode u_J0_length_8abf5.2.1 q.1 = .ok q.2 := by decide +kernel
theorem mc_J0_length_8abf5 : MC u_J0_length_8abf5 0 := ⟨tbm 634 (by decide +kernel) rfl, tbm 130 (by decide +kernel) rfl, ⟨by decide, by decide, by decide +kernel⟩, by decide⟩
theorem in_J0_length_8abf5 : Cond.instanceMethod u_J0_length_8abf5.1 ∈ TB ∧ Cond.selects u_J0_length_8abf5.1.cls u_J0_length_8abf5.1 u_J0_length_8abf5.1 ∈ TB := ⟨tbm 632 (by decide +kernel) rfl, tbm 633 (by decide +kernel) rfl⟩
def tb_J3_checkIndex_8e157 : Tb := [(0, (.iload_n 0, 1)), (1, (.ifCond .lt 8, 3)), (4, (.iload_n 0, 1)), (5, (.iload_n 1, 1)), (6, (.if_icmp .lt 10, 3)), (9, (.aload_n 2, 1)), (10, (.iload_n 0, 1)), (11, (.iload_n 1, 1)), (12, (.invokestatic 95, 3)), (15, (.athrow, 1)), (16, (.iload_n 0, 1)), (17, (.ireturn, 1))]
def u_J3_checkIndex_8e157 : Fx := (yJ3_checkIndex_8e157, (cJ3_checkIndex_8e157, (3, ((some .int), tb_J3_checkIndex_8e157))))
theorem tk_J3_checkIndex_8e157 : ∀ q ∈ u_J3_checkIndex_8e157.2.2.2.2, decode u_J3_checkIndex_8e157.2.1 q.1 = .ok q.2 := by decide +kernel
theorem mc_J3_checkIndex_8e157 : MC u_J3_checkIndex_8e157 3 := ⟨tbm 659 (by decide +kernel) rfl, tbm 132 (by decide +kernel) rfl, ⟨by decide, by decide, by decide +kernel⟩, by decide⟩
theorem st_J3_checkIndex_8e157 : Cond.static u_J3_checkIndex_8e157.1 ∈ TB := tbm 658 (by decide +kernel) rfl
def tb_J0_checkIndex_df160 : Tb := [(0, (.iload_n 0, 1)), (1, (.iload_n 1, 1)), (2, (.getstatic 1053, 3)), (5, (.invokestatic 1059, 3)), (8, (.pop, 1)), (9, (.return_, 1))]
def u_J0_checkIndex_df160 : Fx := (yJ0_checkIndex_df160, (cJ0_checkIndex_df160, (2, (none, tb_J0_checkIndex_df160))))
theorem tk_J0_checkIndex_df160 : ∀ q ∈ u_J0_checkIndex_df160.2.2.2.2, decode u_J0_checkIndex_df160.2.1 q.1 = .ok q.2 := by decide +kernel
theorem mc_J0_checkIndex_df160 : MC u_J0_checkIndex_df160 2 := ⟨tbm 654 (by decide +kernel) rfl, tbm 130 (by decide +kernel) rfl, ⟨by decide, by decide, by decide +kernel⟩, by decide⟩
theorem st_J0_checkIndex_df160 : Cond.static u_J0_checkIndex_df160.1 ∈ TB := tbm 653 (by decide +kernel) rfl
def tb_J1_charAt_3b067 : Tb := [(0, (.iload_n 1, 1)), (1, (.aload_n 0, 1)), (2, (.arraylength, 1)), (3, (.invokestatic 9, 3)), (6, (.aload_n 0, 1)), (7, (.iload_n 1, 1)), (8, (.baload, 1)), (9, (.sipush 255, 3)), (12, (.iand, 1)), (13, (.i2c, 1)), (14, (.ireturn, 1))]
def u_J1_charAt_3b067 : Fx := (yJ1_charAt_3b067, (cJ1_charAt_3b067, (2, ((some .char), tb_J1_charAt_3b067))))
theorem tk_J1_charAt_3b067 : ∀ q ∈ u_J1_charAt_3b067.2.2.2.2, decode u_J1_charAt_3b067.2.1 q.1 = .ok q.2 := by decide +kernel
theorem mc_J1_charAt_3b067 : MC u_J1_charAt_3b067 2 := ⟨tbm 651 (by decide +kernel) rfl, tbm 131 (by decide +kernel) rfl, ⟨by decide, by decide, by decide +kernel⟩, by decide⟩
theorem st_J1_charAt_3b067 : Cond.static u_J1_charAt_3b067.1 ∈ TB := tbm 650 (by decide +kernel) rfl
def tb_J0_charAt_5068e : Tb := [(0, (.aload_n 0, 1)), (1, (.invokevirtual 492, 3)), (4, (.ifCond .eq 12, 3)), (7, (.aload_n 0, 1)), (8, (.getfield 9, 3)), (11, (.iload_n 1, 1)), (12, (.invokestatic 495, 3)), (15, (.ireturn, 1)), (16, (.aload_n 0, 1)), (17, (.getfield 9, 3)), (20, (.iload_n 1, 1)), (21, (.invokestatic 498, 3)), (24, (.ireturn, 1))]
def u_J0_charAt_5068e : Fx := (yJ0_charAt_5068e, (cJ0_charAt_5068e, (2, ((some .char), tb_J0_charAt_5068e))))
theorem tk_J0_charAt_5068e : ∀ q ∈ u_J0_charAt_5068e.2.2.2.2, decode u_J0_charAt_5068e.2.1 q.1 = .ok q.2 := by decide +kernel
theorem mc_J0_charAt_5068e : MC u_J0_charAt_5068e 1 := ⟨tbm 644 (by decide +kernel) rfl, tbm 130 (by decide +kernel) rfl, ⟨by decide, by decide, by decide +kernel⟩, by decide⟩
theorem in_J0_charAt_5068e : Cond.instanceMethod u_J0_charAt_5068e.1 ∈ TB ∧ Cond.selects u_J0_charAt_5068e.1.cls u_J0_charAt_5068e.1 u_J0_charAt_5068e.1 ∈ TB := ⟨tbm 642 (by decide +kernel) rfl, tbm 643 (by decide +kernel) rfl⟩
def chb (v : Int32) : Bool := decide (narrow .char (.int v) = .int v)
theorem chb_n {v : Int32} (h : chb v = true) : narrow .char (.int v) = .int v := by simpa [chb] using h
def f_cod (_ : Nat) : Option Int32 := if (1 : Int32) = 0 then none else some 0
def f_isl (_ : Nat) : Option Int32 := if (1 : Int32) = 0 then none else if (0 : Int32) = 0 then some 1 else none
def f_len (a : Nat) : Option Int32 := if isS a = true then (f_cod a).bind fun x => some (Int32.ofNat (sL a) >>> (x &&& 31)) else none
def f_pch (a0 a1 : Int32) : Option Int32 := if a0 < 0 then none else if a0 < a1 then some a0 else none
def f_chk (a0 a1 : Int32) : Option Unit := (f_pch a0 a1).bind fun _ => some ()
def f_lch (a : Nat) (x : Int32) : Option Int32 := (f_chk x (Int32.ofNat (sL a))).bind fun _ => if ¬ x < 0 ∧ ix x < sL a then (if chb (((sB a (ix x)) &&& 255).toUInt32 % 65536).toInt32 = true then some (((sB a (ix x)) &&& 255).toUInt32 % 65536).toInt32 else none) else none
def f_chr (a : Nat) (x : Int32) : Option Int32 := if isS a = true then (f_isl a).bind fun q => if q = 0 then none else (f_lch a x).bind fun v => if chb v = true then some v else none else none
theorem sm_cod (t : List Sh) (m : Mi) (a : Nat) (ha : isS a = true) : Sm u_J0_coder_7d493 (1, 0, 0, t.length, zs t) (kIo t m) 0 [(0, .inr (.inr a))] [] (t, m) (f_cod a) := by
  unfold f_cod
  refine r_gets1 0 3 rfl rfl ws_cps ?_
  refine r_if_eq 1 13 6 rfl rfl rfl (fun _ => r_none) (fun _ => ?_)
  refine r_aload_n 2 7 0 rfl rfl rfl rfl ?_
  refine r_Scod 3 10 rfl rfl ws_cod ha ?_
  refine r_goto 4 14 rfl rfl ?_
  exact r_zret 6 rfl rfl (by decide) rfl
theorem ct_cod {t : List Sh} {m : Mi} {a : Nat} {v : Int32} (ha : isS a = true) (h : f_cod a = some v) : Ct u_J0_coder_7d493 1 0 0 [.inr (.inr a)] (t, m) (some (.inl v), (t, m)) :=
  ct_of (by decide) tk_J0_coder_7d493 (Nat.le_of_ble_eq_true rfl) (sm_cod t m a ha) (by rw [h]; rfl) (Nat.le_refl _) (Nat.le_refl _)
theorem sm_isl (t : List Sh) (m : Mi) (a : Nat) (ha : isS a = true) : Sm u_J0_isLatin1_aae02 (1, 0, 0, t.length, zs t) (kIo t m) 0 [(0, .inr (.inr a))] [] (t, m) (f_isl a) := by
  unfold f_isl
  refine r_gets1 0 3 rfl rfl ws_cps ?_
  refine r_if_eq 1 17 6 rfl rfl rfl (fun _ => r_none) (fun _ => ?_)
  refine r_aload_n 2 7 0 rfl rfl rfl rfl ?_
  refine r_Scod 3 10 rfl rfl ws_cod ha ?_
  refine r_if_ne 4 17 13 rfl rfl rfl (fun _ => ?_) (fun _ => r_none)
  refine r_iconst 5 14 (v := 1) rfl rfl (by decide) ?_
  refine r_goto 6 18 rfl rfl ?_
  exact r_zret 8 rfl rfl (by decide) rfl
theorem ct_isl {t : List Sh} {m : Mi} {a : Nat} {v : Int32} (ha : isS a = true) (h : f_isl a = some v) : Ct u_J0_isLatin1_aae02 1 0 0 [.inr (.inr a)] (t, m) (some (.inl v), (t, m)) :=
  ct_of (by decide) tk_J0_isLatin1_aae02 (Nat.le_of_ble_eq_true rfl) (sm_isl t m a ha) (by rw [h]; rfl) (Nat.le_refl _) (Nat.le_refl _)
theorem sm_len (t : List Sh) (m : Mi) (a : Nat) : Sm u_J0_length_8abf5 (2, 0, 0, t.length, zs t) (kIo t m) 0 [(0, .inr (.inr a))] [] (t, m) (f_len a) := by
  unfold f_len
  refine r_gd (fun ha => ?_)
  refine r_aload_n 0 1 0 rfl rfl rfl rfl ?_
  refine r_Sval 1 4 rfl rfl ws_val ha ?_
  refine r_Slen 2 5 rfl rfl ha ?_
  refine r_aload_n 3 6 0 rfl rfl rfl rfl ?_
  refine r_invVS 4 9 (st := [.inl (Int32.ofNat (sL a))]) (av := [.inr (.inr a)]) (av' := []) (μ' := u_J0_coder_7d493) (d := 1) rfl rfl mc_J0_coder_7d493 in_J0_coder_7d493 ws_m335 (Nat.le_of_ble_eq_true rfl) rfl rfl ha rfl (Nat.le_of_ble_eq_true rfl) (fun _ h => ct_cod ha h) (fun x => ?_)
  refine r_ishr 5 10 rfl rfl ?_
  exact r_iret 6 rfl rfl rfl
theorem ct_len {t : List Sh} {m : Mi} {a : Nat} {v : Int32} (h : f_len a = some v) : Ct u_J0_length_8abf5 2 0 0 [.inr (.inr a)] (t, m) (some (.inl v), (t, m)) :=
  ct_of (by decide) tk_J0_length_8abf5 (Nat.le_of_ble_eq_true rfl) (sm_len t m a) (by rw [h]; rfl) (Nat.le_refl _) (Nat.le_refl _)
theorem sm_pch (t : List Sh) (m : Mi) (a0 a1 : Int32) (a2 : Nat) : Sm u_J3_checkIndex_8e157 (1, 0, 0, t.length, zs t) (kIo t m) 0 [(0, .inl a0), (1, .inl a1), (2, .inr (.inr a2))] [] (t, m) (f_pch a0 a1) := by
  unfold f_pch
  refine r_iload_n 0 1 0 rfl rfl rfl rfl ?_
  refine r_if_lt 1 9 4 rfl rfl rfl (fun _ => r_none) (fun _ => ?_)
  refine r_iload_n 2 5 0 rfl rfl rfl rfl ?_
  refine r_iload_n 3 6 1 rfl rfl rfl rfl ?_
  refine r_icmp_lt 4 16 9 rfl rfl rfl (fun _ => ?_) (fun _ => r_none)
  refine r_iload_n 10 17 0 rfl rfl rfl rfl ?_
  exact r_iret 11 rfl rfl rfl
theorem ct_pch {t : List Sh} {m : Mi} {a0 a1 : Int32} {a2 : Nat} {v : Int32} (h : f_pch a0 a1 = some v) : Ct u_J3_checkIndex_8e157 1 0 0 [.inl a0, .inl a1, .inr (.inr a2)] (t, m) (some (.inl v), (t, m)) :=
  ct_of (by decide) tk_J3_checkIndex_8e157 (Nat.le_of_ble_eq_true rfl) (sm_pch t m a0 a1 a2) (by rw [h]; rfl) (Nat.le_refl _) (Nat.le_refl _)
theorem sm_chk (t : List Sh) (m : Mi) (a0 a1 : Int32) : Sm u_J0_checkIndex_df160 (2, 0, 0, t.length, zs t) (kVo t m) 0 [(0, .inl a0), (1, .inl a1)] [] (t, m) (f_chk a0 a1) := by
  unfold f_chk
  refine r_iload_n 0 1 0 rfl rfl rfl rfl ?_
  refine r_iload_n 1 2 1 rfl rfl rfl rfl ?_
  refine r_getsF 2 5 rfl rfl ws_fmt (fun n => ?_)
  refine r_SIo 3 8 (a := 0) (cn := 0) (st := []) (av := [.inl a0, .inl a1, .inr (.inr n)]) (μ' := u_J3_checkIndex_8e157) (d := 1) rfl rfl mc_J3_checkIndex_8e157 st_J3_checkIndex_8e157 ws_m1059 (Nat.le_of_ble_eq_true rfl) rfl (Nat.le_of_ble_eq_true rfl) (fun _ h => ct_pch h) (fun x => ?_)
  refine r_pop 4 9 rfl rfl rfl ?_
  exact r_vret 5 rfl rfl rfl
theorem ct_chk {t : List Sh} {m : Mi} {a0 a1 : Int32} (h : f_chk a0 a1 = some ()) : Ct u_J0_checkIndex_df160 2 0 0 [.inl a0, .inl a1] (t, m) (none, (t, m)) :=
  ct_of (by decide) tk_J0_checkIndex_df160 (Nat.le_of_ble_eq_true rfl) (sm_chk t m a0 a1) (by rw [h]; rfl) (Nat.le_refl _) (Nat.le_refl _)
theorem sm_lch (t : List Sh) (m : Mi) (a : Nat) (x : Int32) (ha : isS a = true) : Sm u_J1_charAt_3b067 (3, 0, 0, t.length, zs t) (kIo t m) 0 [(0, .inr (.inr (a + 11))), (1, .inl x)] [] (t, m) (f_lch a x) := by
  unfold f_lch
  refine r_iload_n 0 1 1 rfl rfl rfl rfl ?_
  refine r_aload_n 1 2 0 rfl rfl rfl rfl ?_
  refine r_Slen 2 3 rfl rfl ha ?_
  refine r_SVo 3 6 (a := 0) (cn := 0) (st := []) (av := [.inl x, .inl (Int32.ofNat (sL a))]) (μ' := u_J0_checkIndex_df160) (d := 2) rfl rfl mc_J0_checkIndex_df160 st_J0_checkIndex_df160 ws_l9 (Nat.le_of_ble_eq_true rfl) rfl (Nat.le_of_ble_eq_true rfl) (fun h => ct_chk h) ?_
  refine r_gd (fun hx => ?_)
  refine r_aload_n 4 7 0 rfl rfl rfl rfl ?_
  refine r_iload_n 5 8 1 rfl rfl rfl rfl ?_
  refine r_Sbal 6 9 rfl rfl ha hx ?_
  refine r_sipush 7 12 (v := 255) rfl rfl (by decide) ?_
  refine r_iand 8 13 rfl rfl ?_
  refine r_i2c 9 14 rfl rfl ?_
  refine r_gd (fun hc => ?_)
  exact r_zret 10 rfl rfl (chb_n hc) rfl
theorem ct_lch {t : List Sh} {m : Mi} {a : Nat} {x v : Int32} (ha : isS a = true) (h : f_lch a x = some v) : Ct u_J1_charAt_3b067 3 0 0 [.inr (.inr (a + 11)), .inl x] (t, m) (some (.inl v), (t, m)) :=
  ct_of (by decide) tk_J1_charAt_3b067 (Nat.le_of_ble_eq_true rfl) (sm_lch t m a x ha) (by rw [h]; rfl) (Nat.le_refl _) (Nat.le_refl _)
theorem sm_chr (t : List Sh) (m : Mi) (a : Nat) (x : Int32) : Sm u_J0_charAt_5068e (4, 0, 0, t.length, zs t) (kIo t m) 0 [(0, .inr (.inr a)), (1, .inl x)] [] (t, m) (f_chr a x) := by
  unfold f_chr
  refine r_gd (fun ha => ?_)
  refine r_aload_n 0 1 0 rfl rfl rfl rfl ?_
  refine r_invVS 1 4 (st := []) (av := [.inr (.inr a)]) (av' := []) (μ' := u_J0_isLatin1_aae02) (d := 1) rfl rfl mc_J0_isLatin1_aae02 in_J0_isLatin1_aae02 ws_m492 (Nat.le_of_ble_eq_true rfl) rfl rfl ha rfl (Nat.le_of_ble_eq_true rfl) (fun _ h => ct_isl ha h) (fun q => ?_)
  refine r_if_eq 2 16 7 rfl rfl rfl (fun _ => r_none) (fun _ => ?_)
  refine r_aload_n 3 8 0 rfl rfl rfl rfl ?_
  refine r_Sval 4 11 rfl rfl ws_val ha ?_
  refine r_iload_n 5 12 1 rfl rfl rfl rfl ?_
  refine r_SIo 6 15 (a := 0) (cn := 0) (st := []) (av := [.inr (.inr (a + 11)), .inl x]) (μ' := u_J1_charAt_3b067) (d := 3) rfl rfl mc_J1_charAt_3b067 st_J1_charAt_3b067 ws_m495 (Nat.le_of_ble_eq_true rfl) rfl (Nat.le_of_ble_eq_true rfl) (fun _ h => ct_lch ha h) (fun v => ?_)
  refine r_gd (fun hc => ?_)
  exact r_zret 7 rfl rfl (chb_n hc) rfl
theorem ct_chr {t : List Sh} {m : Mi} {a : Nat} {x v : Int32} (h : f_chr a x = some v) : Ct u_J0_charAt_5068e 4 0 0 [.inr (.inr a), .inl x] (t, m) (some (.inl v), (t, m)) :=
  ct_of (by decide) tk_J0_charAt_5068e (Nat.le_of_ble_eq_true rfl) (sm_chr t m a x) (by rw [h]; rfl) (Nat.le_refl _) (Nat.le_refl _)
section Str
variable {α : Type} {G : Bs → Prop} {μ : Fx} {E : Ev} {κ : α → Option Rs} {pc : Nat} {L : List (Nat × PV)} {st : List PV} {t : List Sh} {m : Mi} {idx : Nat}
theorem r_len (i pc' : Nat) {a : Nat} {f : Int32 → Option α} (hd : μ.2.2.2.2[i]? = some (pc, (.invokevirtual idx, 3))) (hp : pc + 3 = pc') (hl : Cond.methodLink μ.1.cls idx yJ0_length_8abf5 ∈ TB) (hlv : 5 < E.1) (hw : (st.map pcat).sum ≤ 8) (k : ∀ v, SmG G μ E κ pc' L (.inl v :: st) (t, m) (f v)) : SmG G μ E κ pc L (.inr (.inr a) :: st) (t, m) ((f_len a).bind f) := by
  by_cases ha : isS a = true
  · exact r_invVS i pc' (av := [.inr (.inr a)]) (av' := []) (μ' := u_J0_length_8abf5) (d := 2) hd hp mc_J0_length_8abf5 in_J0_length_8abf5 hl (by omega) rfl rfl ha rfl hw (fun _ h => ct_len h) k
  · intro res hr
    unfold f_len at hr
    rw [if_neg ha] at hr
    cases hr
theorem r_chr (i pc' : Nat) {a : Nat} {x : Int32} {f : Int32 → Option α} (hd : μ.2.2.2.2[i]? = some (pc, (.invokevirtual idx, 3))) (hp : pc + 3 = pc') (hl : Cond.methodLink μ.1.cls idx yJ0_charAt_5068e ∈ TB) (hlv : 5 < E.1) (hw : (st.map pcat).sum ≤ 8) (k : ∀ v, SmG G μ E κ pc' L (.inl v :: st) (t, m) (f v)) : SmG G μ E κ pc L (.inl x :: .inr (.inr a) :: st) (t, m) ((f_chr a x).bind f) := by
  by_cases ha : isS a = true
  · exact r_invVS i pc' (av := [.inr (.inr a), .inl x]) (av' := [.inl x]) (μ' := u_J0_charAt_5068e) (d := 4) hd hp mc_J0_charAt_5068e in_J0_charAt_5068e hl (by omega) rfl rfl ha rfl hw (fun _ h => ct_chr h) k
  · intro res hr
    unfold f_chr at hr
    rw [if_neg ha] at hr
    cases hr
end Str
