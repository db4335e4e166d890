/-! arraycopy; names for values; calls by kind of answer. -/
def bd {A B C : Type} (g : Option (A × B)) (f : A → B → Option C) : Option C := g.bind (fun q => f q.1 q.2)
def zb (v : Int32) : Bool := v == 0 || v == 1
theorem zb_or {v : Int32} (h : zb v = true) : v = 0 ∨ v = 1 := by
  simpa [zb] using h
theorem zb_nar {v : Int32} (h : zb v = true) : narrow .boolean (.int v) = .int v := by
  rcases zb_or h with h | h <;> rw [h] <;> rfl
theorem tbm {w : Cond} (i : Nat) (h : lw_tbl[i]? = some w) (hg : goodWord w = true) : w ∈ TB := List.mem_filter.mpr ⟨List.mem_of_getElem? h, hg⟩
def kIo (t : List Sh) (m : Mi) (q : Int32) : Option Rs := some (some (.inl q), (t, m))
def kLo (t : List Sh) (m : Mi) (q : Int64) : Option Rs := some (some (.inr (.inl q)), (t, m))
def kRo (t : List Sh) (m : Mi) (q : Nat) : Option Rs := some (some (.inr (.inr q)), (t, m))
def kVo (t : List Sh) (m : Mi) (_ : Unit) : Option Rs := some (none, (t, m))
def kI (t : List Sh) (q : Int32 × Mi) : Option Rs := some (some (.inl q.1), (t, q.2))
def kL (t : List Sh) (q : Int64 × Mi) : Option Rs := some (some (.inr (.inl q.1)), (t, q.2))
def kR (t : List Sh) (q : Nat × Mi) : Option Rs := some (some (.inr (.inr q.1)), (t, q.2))
def kV (t : List Sh) (q : Mi) : Option Rs := some (none, (t, q))
def cpi (m : Mi) (a0 a1 sp dp n : Nat) : Mi := (fun x j => if x = a1 then va_cpy (m.1 a0) (m.1 a1) sp dp n j else m.1 x j, m.2)
def cpl (m : Mi) (a0 a1 sp dp n : Nat) : Mi := (m.1, (fun x j => if x = a1 then va_cpy (m.2.1 a0) (m.2.1 a1) sp dp n j else m.2.1 x j, m.2.2))
def fitB (m : Mi) (a sp n : Nat) : Bool := (List.range n).all (fun i => fits .byte (.int (gi m a (sp + i))))
/-- a copy's stretch lies in its array -/
def inS (t : List Sh) (a : Nat) (ty : FieldType) (p n : Int32) : Bool := aa t a ty && (!decide (p < 0) && (!decide (n < 0) && decide (p.toNatClampNeg + n.toNatClampNeg ≤ ln t a)))
theorem inS_sh {t : List Sh} {a : Nat} {ty : FieldType} {p n : Int32} (h : inS t a ty p n = true) : sh t a = some (.inr (ty, ln t a)) ∧ ¬ p < 0 ∧ ¬ n < 0 ∧ p.toNatClampNeg + n.toNatClampNeg ≤ ln t a := by
  simp only [inS, Bool.and_eq_true, decide_eq_true_eq, Bool.not_eq_true', decide_eq_false_iff_not] at h
  exact ⟨aa_sh h.1, h.2.1, h.2.2.1, h.2.2.2⟩
theorem nn32 (z : Int32) (hz : ¬ z < 0) : z.toInt = (z.toNatClampNeg : Int) := by
  have hz0 : (0 : Int) ≤ z.toInt := by
    have := Int32.not_lt.mp hz
    simpa using Int32.le_iff_toInt_le.mp this
  show z.toInt = ((z.toInt.toNat : Nat) : Int)
  omega
theorem cpyW : Cond.native arraycopyName ∈ TB ∧ Cond.static arraycopyName ∈ TB ∧ Cond.initialized "java/lang/System" ∈ TB := by decide +kernel

theorem ce_cpi {β : Bs} {cA : FieldType → ClassId} {t : List Sh} {m : Mi} {a0 a sp dp n : Nat} (r : Nat) (h : r ≠ a) : ce β cA t (cpi m a0 a sp dp n) r = ce β cA t m r := by
  have e : ∀ j, gi (cpi m a0 a sp dp n) r j = gi m r j := fun j => by simp [gi, cpi, h]
  have e2 : gi (cpi m a0 a sp dp n) r = gi m r := funext e
  unfold ce
  split
  · refine congrArg Sum.inr (Prod.ext rfl ?_)
    apply List.map_congr_left
    intro j _
    unfold fval
    split <;> first | rfl | rw [e j]
  · unfold aval
    split <;> first | rfl | rw [e2]
  · rfl
theorem ce_cpl {β : Bs} {cA : FieldType → ClassId} {t : List Sh} {m : Mi} {a0 a sp dp n : Nat} (r : Nat) (h : r ≠ a) : ce β cA t (cpl m a0 a sp dp n) r = ce β cA t m r := by
  have e : ∀ j, gl (cpl m a0 a sp dp n) r j = gl m r j := fun j => by simp [gl, cpl, h]
  have e2 : gl (cpl m a0 a sp dp n) r = gl m r := funext e
  unfold ce
  split
  · refine congrArg Sum.inr (Prod.ext rfl ?_)
    apply List.map_congr_left
    intro j _
    unfold fval
    split <;> first | rfl | rw [e j]
  · unfold aval
    split <;> first | rfl | rw [e2]
  · rfl

theorem w_copyL {p : Program} {l : Launch} {e : Env} {R : Room} {s : State} {mm : MethodId} {args : Array Value} {below : List Frame} {meth : Method} {c : Code} {H : Heap} {locs : List Loc} {cells slots : Nat} {Q : State → Prop} {β : Bs} {D : va_G} {cA : FieldType → ClassId} {μ : Fx} {pc : Nat} {ls : Array Slot} {rest : List Value} {t : List Sh} {m : Mi}
    (C : CX β D cA μ p s mm args meth c) (hW : WH β D cA (t, m) H) (hls : ls.size = μ.2.2.1) {i idx a0 a1 : Nat} {sp dp n : Int32} (hd : μ.2.2.2.2[i]? = some (pc, (.invokestatic idx, 3))) (hl : Cond.methodLink μ.1.cls idx arraycopyName ∈ TB) (h0 : inS t a0 .long sp n = true) (h1 : inS t a1 .long dp n = true)
    (hframes : 1 ≤ R.frames) (hlocals : (rest.map fun v => v.category).sum + (nativeFrameWords "java/lang/System" "arraycopy" 5 + 11) ≤ R.locals)
    (kk : ∀ (H1 : Heap) (L1 : List Loc), WH β D cA (t, cpl m a0 a1 (ix sp) (ix dp) (ix n)) H1 → H1.size = H.size → (∀ q : Nat, q ≠ β.1 + a1 → H1[q]? = H[q]?) → (∀ q ∈ L1, β.1 < q.base) → W p l e R s mm args below meth c H1 (locs ++ L1) cells slots Q (F0 mm (pc + 3) ls rest)) :
    W p l e R s mm args below meth c H locs cells slots Q (F0 mm pc ls (.int n :: .int dp :: rv β a1 :: .int sp :: rv β a0 :: rest)) := by
  obtain ⟨s0, p0, n0, b0⟩ := inS_sh h0
  obtain ⟨s1, p1, -, b1⟩ := inS_sh h1
  rw [hW.ref s0, hW.ref s1]
  have hdd := C.dk hd
  obtain ⟨C1, C2, C3, C4, C5, ⟨hK, -⟩, -⟩ := C
  intro T hT X
  have hc0 : H[β.1 + a0]? = some (vp_cell (cA .long) (ln t a0, .inr (.inl (gl m a0)))) := hW.arr s0
  have hc1 : H[β.1 + a1]? = some (vp_cell (cA .long) (ln t a1, .inr (.inl (gl m a1)))) := hW.arr s1
  obtain ⟨-, k0, hk0, cm0, hkk0⟩ := (hK.2 1 _ rfl).1 (ln t a0) (fun j => Value.long (gl m a0 j))
  obtain ⟨-, k1, hk1, cm1, hkk1⟩ := (hK.2 1 _ rfl).1 (ln t a1) (fun j => Value.long (gl m a1 j))
  obtain ⟨vm', X', step⟩ := X.arraycopy C1 C4 (C5 _ hl) (C5 _ cpyW.1) (C5 _ cpyW.2.1) (C5 _ cpyW.2.2) (src := β.1 + a0) (dst := β.1 + a1) (cs := vp_cell (cA .long) (ln t a0, .inr (.inl (gl m a0)))) (cd := vp_cell (cA .long) (ln t a1, .inr (.inl (gl m a1)))) (srcPos := sp) (destPos := dp) (n := n) (by rw [hT]; exact hc0) (by rw [hT]; exact hc1)
    (fun _ h => by cases h) (fun _ h => by cases h) (fun h => by cases h) (fun h => by cases h) hk0 hk1 hkk0 hkk1 (by simp [refKind]) p0 p1 n0
    (by rw [nn32 sp p0, nn32 n n0]; show ¬ _ > ((arrV _ (ln t a0) (fun j => Value.long (gl m a0 j))).slots.size : Int); rw [arrV_size]; omega)
    (by rw [nn32 dp p1, nn32 n n0]; show ¬ _ > ((arrV _ (ln t a1) (fun j => Value.long (gl m a1 j))).slots.size : Int); rw [arrV_size]; omega)
    (fun vm₁ _ i hi => by
      have e : (vp_cell (cA .long) (ln t a0, .inr (.inl (gl m a0)))).slots.getD (sp.toNatClampNeg + i) .null = Value.long (gl m a0 (sp.toNatClampNeg + i)) := by
        show (arrV _ (ln t a0) (fun j => Value.long (gl m a0 j))).slots.getD _ _ = _
        rw [Array.getD_eq_getD_getElem?, arrV_read _ _ (by omega)]
        rfl
      refine ⟨?_, ?_⟩
      · rw [e]
        rfl
      · rw [e]
        exact trivial)
    (g := F0 mm pc ls (.int n :: .int dp :: .ref (β.1 + a1) :: .int sp :: .ref (β.1 + a0) :: rest)) rfl (by rw [C3]; exact hls) (rest := rest) rfl (by rw [C2]; exact hdd) hframes (by show 2 * 0 + _ + _ ≤ _; omega)
  have e1 : copied (vp_cell (cA .long) (ln t a0, .inr (.inl (gl m a0)))) (vp_cell (cA .long) (ln t a1, .inr (.inl (gl m a1)))) sp dp n = vp_cell (cA .long) (ln t a1, .inr (.inl (va_cpy (gl m a0) (gl m a1) (ix sp) (ix dp) (ix n)))) := va_copied (fun z => Value.long z) _ _ (gl m a0) (gl m a1) b0
  rw [e1] at X' step
  have hl1 : β.1 + a1 < H.size := (Array.getElem?_eq_some_iff.mp hc1).1
  have hheap : ((T.setVm vm').setCell (β.1 + a1) (vp_cell (cA .long) (ln t a1, .inr (.inl (va_cpy (gl m a0) (gl m a1) (ix sp) (ix dp) (ix n)))))).heap = H.setIfInBounds (β.1 + a1) (vp_cell (cA .long) (ln t a1, .inr (.inl (va_cpy (gl m a0) (gl m a1) (ix sp) (ix dp) (ix n))))) := by rw [← hT]; rfl
  have oq : ∀ q : Nat, q ≠ β.1 + a1 → (H.setIfInBounds (β.1 + a1) (vp_cell (cA .long) (ln t a1, .inr (.inl (va_cpy (gl m a0) (gl m a1) (ix sp) (ix dp) (ix n))))))[q]? = H[q]? := fun q hq => by simp [Array.getElem?_setIfInBounds, Ne.symm hq]
  have hW1 : WH β D cA (t, cpl m a0 a1 (ix sp) (ix dp) (ix n)) (H.setIfInBounds (β.1 + a1) (vp_cell (cA .long) (ln t a1, .inr (.inl (va_cpy (gl m a0) (gl m a1) (ix sp) (ix dp) (ix n)))))) := by
    refine hW.set s1 (by simp) oq ?_ (fun r hr => ce_cpl r hr)
    simp only [ce, s1]
    show (H.setIfInBounds (β.1 + a1) (vp_cell (cA .long) (ln t a1, .inr (.inl (va_cpy (gl m a0) (gl m a1) (ix sp) (ix dp) (ix n))))))[β.1 + a1]? = some _
    have e5 : gl (cpl m a0 a1 (ix sp) (ix dp) (ix n)) a1 = va_cpy (gl m a0) (gl m a1) (ix sp) (ix dp) (ix n) := by
      funext j
      simp [gl, cpl]
      rfl
    simp only [aval, e5]
    simp [Array.getElem?_setIfInBounds, hl1]
  obtain ⟨t2, a2, b2⟩ := kk _ _ hW1 (by simp) oq (fun q hq => by
    obtain ⟨z, -, hz⟩ := List.mem_map.mp hq
    rw [← hz]
    have := (sh_le s1).1
    show β.1 < β.1 + a1
    omega) _ hheap X'
  exact ⟨t2, step t2 a2, b2⟩
theorem w_copyB {p : Program} {l : Launch} {e : Env} {R : Room} {s : State} {mm : MethodId} {args : Array Value} {below : List Frame} {meth : Method} {c : Code} {H : Heap} {locs : List Loc} {cells slots : Nat} {Q : State → Prop} {β : Bs} {D : va_G} {cA : FieldType → ClassId} {μ : Fx} {pc : Nat} {ls : Array Slot} {rest : List Value} {t : List Sh} {m : Mi}
    (C : CX β D cA μ p s mm args meth c) (hW : WH β D cA (t, m) H) (hls : ls.size = μ.2.2.1) {i idx a0 a1 : Nat} {sp dp n : Int32} (hd : μ.2.2.2.2[i]? = some (pc, (.invokestatic idx, 3))) (hl : Cond.methodLink μ.1.cls idx arraycopyName ∈ TB) (h0 : inS t a0 .byte sp n = true) (h1 : inS t a1 .byte dp n = true) (hfit : fitB m a0 (ix sp) (ix n) = true)
    (hframes : 1 ≤ R.frames) (hlocals : (rest.map fun v => v.category).sum + (nativeFrameWords "java/lang/System" "arraycopy" 5 + 11) ≤ R.locals)
    (kk : ∀ (H1 : Heap) (L1 : List Loc), WH β D cA (t, cpi m a0 a1 (ix sp) (ix dp) (ix n)) H1 → H1.size = H.size → (∀ q : Nat, q ≠ β.1 + a1 → H1[q]? = H[q]?) → (∀ q ∈ L1, β.1 < q.base) → W p l e R s mm args below meth c H1 (locs ++ L1) cells slots Q (F0 mm (pc + 3) ls rest)) :
    W p l e R s mm args below meth c H locs cells slots Q (F0 mm pc ls (.int n :: .int dp :: rv β a1 :: .int sp :: rv β a0 :: rest)) := by
  obtain ⟨s0, p0, n0, b0⟩ := inS_sh h0
  obtain ⟨s1, p1, -, b1⟩ := inS_sh h1
  rw [hW.ref s0, hW.ref s1]
  have hdd := C.dk hd
  obtain ⟨C1, C2, C3, C4, C5, ⟨hK, -⟩, -⟩ := C
  intro T hT X
  have hc0 : H[β.1 + a0]? = some (vp_cell (cA .byte) (ln t a0, .inl (gi m a0))) := hW.arr s0
  have hc1 : H[β.1 + a1]? = some (vp_cell (cA .byte) (ln t a1, .inl (gi m a1))) := hW.arr s1
  obtain ⟨-, k0, hk0, cm0, hkk0⟩ := (hK.2 2 _ rfl).1 (ln t a0) (fun j => Value.int (gi m a0 j))
  obtain ⟨-, k1, hk1, cm1, hkk1⟩ := (hK.2 2 _ rfl).1 (ln t a1) (fun j => Value.int (gi m a1 j))
  obtain ⟨vm', X', step⟩ := X.arraycopy C1 C4 (C5 _ hl) (C5 _ cpyW.1) (C5 _ cpyW.2.1) (C5 _ cpyW.2.2) (src := β.1 + a0) (dst := β.1 + a1) (cs := vp_cell (cA .byte) (ln t a0, .inl (gi m a0))) (cd := vp_cell (cA .byte) (ln t a1, .inl (gi m a1))) (srcPos := sp) (destPos := dp) (n := n) (by rw [hT]; exact hc0) (by rw [hT]; exact hc1)
    (fun _ h => by cases h) (fun _ h => by cases h) (fun h => by cases h) (fun h => by cases h) hk0 hk1 hkk0 hkk1 (by simp [refKind]) p0 p1 n0
    (by rw [nn32 sp p0, nn32 n n0]; show ¬ _ > ((arrV _ (ln t a0) (fun j => Value.int (gi m a0 j))).slots.size : Int); rw [arrV_size]; omega)
    (by rw [nn32 dp p1, nn32 n n0]; show ¬ _ > ((arrV _ (ln t a1) (fun j => Value.int (gi m a1 j))).slots.size : Int); rw [arrV_size]; omega)
    (fun vm₁ _ i hi => by
      have e : (vp_cell (cA .byte) (ln t a0, .inl (gi m a0))).slots.getD (sp.toNatClampNeg + i) .null = Value.int (gi m a0 (sp.toNatClampNeg + i)) := by
        show (arrV _ (ln t a0) (fun j => Value.int (gi m a0 j))).slots.getD _ _ = _
        rw [Array.getD_eq_getD_getElem?, arrV_read _ _ (by omega)]
        rfl
      refine ⟨?_, ?_⟩
      · rw [e]
        exact List.all_eq_true.mp hfit i (List.mem_range.mpr hi)
      · rw [e]
        exact trivial)
    (g := F0 mm pc ls (.int n :: .int dp :: .ref (β.1 + a1) :: .int sp :: .ref (β.1 + a0) :: rest)) rfl (by rw [C3]; exact hls) (rest := rest) rfl (by rw [C2]; exact hdd) hframes (by show 2 * 0 + _ + _ ≤ _; omega)
  have e1 : copied (vp_cell (cA .byte) (ln t a0, .inl (gi m a0))) (vp_cell (cA .byte) (ln t a1, .inl (gi m a1))) sp dp n = vp_cell (cA .byte) (ln t a1, .inl (va_cpy (gi m a0) (gi m a1) (ix sp) (ix dp) (ix n))) := va_copied (fun z => Value.int z) _ _ (gi m a0) (gi m a1) b0
  rw [e1] at X' step
  have hl1 : β.1 + a1 < H.size := (Array.getElem?_eq_some_iff.mp hc1).1
  have hheap : ((T.setVm vm').setCell (β.1 + a1) (vp_cell (cA .byte) (ln t a1, .inl (va_cpy (gi m a0) (gi m a1) (ix sp) (ix dp) (ix n))))).heap = H.setIfInBounds (β.1 + a1) (vp_cell (cA .byte) (ln t a1, .inl (va_cpy (gi m a0) (gi m a1) (ix sp) (ix dp) (ix n)))) := by rw [← hT]; rfl
  have oq : ∀ q : Nat, q ≠ β.1 + a1 → (H.setIfInBounds (β.1 + a1) (vp_cell (cA .byte) (ln t a1, .inl (va_cpy (gi m a0) (gi m a1) (ix sp) (ix dp) (ix n)))))[q]? = H[q]? := fun q hq => by simp [Array.getElem?_setIfInBounds, Ne.symm hq]
  have hW1 : WH β D cA (t, cpi m a0 a1 (ix sp) (ix dp) (ix n)) (H.setIfInBounds (β.1 + a1) (vp_cell (cA .byte) (ln t a1, .inl (va_cpy (gi m a0) (gi m a1) (ix sp) (ix dp) (ix n))))) := by
    refine hW.set s1 (by simp) oq ?_ (fun r hr => ce_cpi r hr)
    simp only [ce, s1]
    show (H.setIfInBounds (β.1 + a1) (vp_cell (cA .byte) (ln t a1, .inl (va_cpy (gi m a0) (gi m a1) (ix sp) (ix dp) (ix n)))))[β.1 + a1]? = some _
    have e5 : gi (cpi m a0 a1 (ix sp) (ix dp) (ix n)) a1 = va_cpy (gi m a0) (gi m a1) (ix sp) (ix dp) (ix n) := by
      funext j
      simp [gi, cpi]
      rfl
    simp only [aval, e5]
    simp [Array.getElem?_setIfInBounds, hl1]
  obtain ⟨t2, a2, b2⟩ := kk _ _ hW1 (by simp) oq (fun q hq => by
    obtain ⟨z, -, hz⟩ := List.mem_map.mp hq
    rw [← hz]
    have := (sh_le s1).1
    show β.1 < β.1 + a1
    omega) _ hheap X'
  exact ⟨t2, step t2 a2, b2⟩
section Rows7
variable {α : Type} {G : Bs → Prop} {μ μ' : Fx} {E : Ev} {κ : α → Option Rs} {pc : Nat} {L : List (Nat × PV)} {st : List PV} {t : List Sh} {m : Mi} {r : Option α} {av av' : List PV} {n d idx : Nat}
theorem r_cpyL (i pc' : Nat) {a0 a1 : Nat} {sp dp k : Int32} (hd : μ.2.2.2.2[i]? = some (pc, (.invokestatic idx, 3))) (hp : pc + 3 = pc') (hl : Cond.methodLink μ.1.cls idx arraycopyName ∈ TB) (hlv : 0 < E.1) (hw : (st.map pcat).sum ≤ 8) (h0 : inS t a0 .long sp k = true) (h1 : inS t a1 .long dp k = true) (kk : SmG G μ E κ pc' L st (t, cpl m a0 a1 (ix sp) (ix dp) (ix k)) r) : SmG G μ E κ pc L (.inl k :: .inl dp :: .inr (.inr a1) :: .inl sp :: .inr (.inr a0) :: st) (t, m) r := by
  subst hp
  refine Sm.wr (fun β D cA p l e R s mm args below meth cc H locs ls cells slots Q C hW hf hlo hls kk => w_copyL C hW hls hd hl h0 h1 ?_ ?_ (fun H1 L1 w1 w2 w3 w4 => kk H1 L1 w1 w2 (fun q hq => w3 q ?_) w4)) kk
  · omega
  · show ((vs β st).map fun v => v.category).sum + _ ≤ _
    rw [vs_cat]
    have : nativeFrameWords "java/lang/System" "arraycopy" 5 ≤ 20 := by decide +kernel
    omega
  · have := (sh_le (inS_sh h1).1).1
    omega
theorem r_cpyB (i pc' : Nat) {a0 a1 : Nat} {sp dp k : Int32} (hd : μ.2.2.2.2[i]? = some (pc, (.invokestatic idx, 3))) (hp : pc + 3 = pc') (hl : Cond.methodLink μ.1.cls idx arraycopyName ∈ TB) (hlv : 0 < E.1) (hw : (st.map pcat).sum ≤ 8) (h0 : inS t a0 .byte sp k = true) (h1 : inS t a1 .byte dp k = true) (hfit : fitB m a0 (ix sp) (ix k) = true) (kk : SmG G μ E κ pc' L st (t, cpi m a0 a1 (ix sp) (ix dp) (ix k)) r) : SmG G μ E κ pc L (.inl k :: .inl dp :: .inr (.inr a1) :: .inl sp :: .inr (.inr a0) :: st) (t, m) r := by
  subst hp
  refine Sm.wr (fun β D cA p l e R s mm args below meth cc H locs ls cells slots Q C hW hf hlo hls kk => w_copyB C hW hls hd hl h0 h1 hfit ?_ ?_ (fun H1 L1 w1 w2 w3 w4 => kk H1 L1 w1 w2 (fun q hq => w3 q ?_) w4)) kk
  · omega
  · show ((vs β st).map fun v => v.category).sum + _ ≤ _
    rw [vs_cat]
    have : nativeFrameWords "java/lang/System" "arraycopy" 5 ≤ 20 := by decide +kernel
    omega
  · have := (sh_le (inS_sh h1).1).1
    omega
theorem r_eqr {r' : Option α} (h : r = r') (k : SmG G μ E κ pc L st (t, m) r') : SmG G μ E κ pc L st (t, m) r := h ▸ k
theorem r_eqs {st' : List PV} (h : st = st') (k : SmG G μ E κ pc L st' (t, m) r) : SmG G μ E κ pc L st (t, m) r := h ▸ k
theorem r_ltI {x : Int32} {f : Int32 → Option α} (k : ∀ y, SmG G μ E κ pc L (.inl y :: st) (t, m) (f y)) : SmG G μ E κ pc L (.inl x :: st) (t, m) (lt x f) := k x
theorem r_ltL {x : Int64} {f : Int64 → Option α} (k : ∀ y, SmG G μ E κ pc L (.inr (.inl y) :: st) (t, m) (f y)) : SmG G μ E κ pc L (.inr (.inl x) :: st) (t, m) (lt x f) := k x
theorem r_ltR {x : Nat} {f : Nat → Option α} (k : ∀ y, SmG G μ E κ pc L (.inr (.inr y) :: st) (t, m) (f y)) : SmG G μ E κ pc L (.inr (.inr x) :: st) (t, m) (lt x f) := k x
theorem r_ltM {f : Mi → Option α} (k : ∀ m', SmG G μ E κ pc L st (t, m') (f m')) : SmG G μ E κ pc L st (t, m) (lt m f) := k m
theorem r_ltV {x : Int32} {j : Nat} {f : Int32 → Option α} {L0 : List (Nat × PV)} (k : ∀ y, SmG G μ E κ pc ((j, .inl y) :: L0) st (t, m) (f y)) : SmG G μ E κ pc ((j, .inl x) :: L0) st (t, m) (lt x f) := k x
theorem r_VIo (i pc' : Nat) {a cn : Nat} {g : Option (Int32)} {f : Int32 → Option α} (hd : μ.2.2.2.2[i]? = some (pc, (.invokevirtual idx, 3))) (hp : pc + 3 = pc') (hM : MC μ' n) (hin : Cond.instanceMethod μ'.1 ∈ TB ∧ Cond.selects μ'.1.cls μ'.1 μ'.1 ∈ TB) (hl : Cond.methodLink μ.1.cls idx μ'.1 ∈ TB) (hlv : d < E.1) (hn : av'.length = n) (hav : av = .inr (.inr a) :: av') (hs : sh t a = some (.inl cn)) (hcl : CL[cn]?.map (fun q => q.1) = some μ'.1.cls) (hw : (st.map pcat).sum ≤ 8) (hct : ∀ v, g = some v → Ct μ' d 0 0 av (t, m) (some (.inl v), (t, m))) (k : ∀ v, SmG G μ E κ pc' L (.inl v :: st) (t, m) (f v)) : SmG G μ E κ pc L (av.reverse ++ st) (t, m) (g.bind f) :=
  r_invV i pc' hd hp hM hin hl hlv hn hav hs hcl hw (mc := 0) (ms := 0) (vo := fun v => some (.inl v)) (mo := fun _ => (t, m)) (fun x hx => hct x hx) (fun x hx => ⟨rfl, rfl⟩) (fun x hx => k x)
theorem r_VI (i pc' : Nat) {a cn : Nat} {g : Option (Int32 × Mi)} {f : Int32 → Mi → Option α} (hd : μ.2.2.2.2[i]? = some (pc, (.invokevirtual idx, 3))) (hp : pc + 3 = pc') (hM : MC μ' n) (hin : Cond.instanceMethod μ'.1 ∈ TB ∧ Cond.selects μ'.1.cls μ'.1 μ'.1 ∈ TB) (hl : Cond.methodLink μ.1.cls idx μ'.1 ∈ TB) (hlv : d < E.1) (hn : av'.length = n) (hav : av = .inr (.inr a) :: av') (hs : sh t a = some (.inl cn)) (hcl : CL[cn]?.map (fun q => q.1) = some μ'.1.cls) (hw : (st.map pcat).sum ≤ 8) (hct : ∀ v m', g = some (v, m') → Ct μ' d 0 0 av (t, m) (some (.inl v), (t, m'))) (k : ∀ v m', SmG G μ E κ pc' L (.inl v :: st) (t, m') (f v m')) : SmG G μ E κ pc L (av.reverse ++ st) (t, m) (bd g f) :=
  r_invV i pc' hd hp hM hin hl hlv hn hav hs hcl hw (mc := 0) (ms := 0) (vo := fun x : Int32 × Mi => some (.inl x.1)) (mo := fun x : Int32 × Mi => (t, x.2)) (fun x hx => hct x.1 x.2 hx) (fun x hx => ⟨rfl, rfl⟩) (fun x hx => k x.1 x.2)
theorem r_VLo (i pc' : Nat) {a cn : Nat} {g : Option (Int64)} {f : Int64 → Option α} (hd : μ.2.2.2.2[i]? = some (pc, (.invokevirtual idx, 3))) (hp : pc + 3 = pc') (hM : MC μ' n) (hin : Cond.instanceMethod μ'.1 ∈ TB ∧ Cond.selects μ'.1.cls μ'.1 μ'.1 ∈ TB) (hl : Cond.methodLink μ.1.cls idx μ'.1 ∈ TB) (hlv : d < E.1) (hn : av'.length = n) (hav : av = .inr (.inr a) :: av') (hs : sh t a = some (.inl cn)) (hcl : CL[cn]?.map (fun q => q.1) = some μ'.1.cls) (hw : (st.map pcat).sum ≤ 8) (hct : ∀ v, g = some v → Ct μ' d 0 0 av (t, m) (some (.inr (.inl v)), (t, m))) (k : ∀ v, SmG G μ E κ pc' L (.inr (.inl v) :: st) (t, m) (f v)) : SmG G μ E κ pc L (av.reverse ++ st) (t, m) (g.bind f) :=
  r_invV i pc' hd hp hM hin hl hlv hn hav hs hcl hw (mc := 0) (ms := 0) (vo := fun v => some (.inr (.inl v))) (mo := fun _ => (t, m)) (fun x hx => hct x hx) (fun x hx => ⟨rfl, rfl⟩) (fun x hx => k x)
theorem r_VL (i pc' : Nat) {a cn : Nat} {g : Option (Int64 × Mi)} {f : Int64 → Mi → Option α} (hd : μ.2.2.2.2[i]? = some (pc, (.invokevirtual idx, 3))) (hp : pc + 3 = pc') (hM : MC μ' n) (hin : Cond.instanceMethod μ'.1 ∈ TB ∧ Cond.selects μ'.1.cls μ'.1 μ'.1 ∈ TB) (hl : Cond.methodLink μ.1.cls idx μ'.1 ∈ TB) (hlv : d < E.1) (hn : av'.length = n) (hav : av = .inr (.inr a) :: av') (hs : sh t a = some (.inl cn)) (hcl : CL[cn]?.map (fun q => q.1) = some μ'.1.cls) (hw : (st.map pcat).sum ≤ 8) (hct : ∀ v m', g = some (v, m') → Ct μ' d 0 0 av (t, m) (some (.inr (.inl v)), (t, m'))) (k : ∀ v m', SmG G μ E κ pc' L (.inr (.inl v) :: st) (t, m') (f v m')) : SmG G μ E κ pc L (av.reverse ++ st) (t, m) (bd g f) :=
  r_invV i pc' hd hp hM hin hl hlv hn hav hs hcl hw (mc := 0) (ms := 0) (vo := fun x : Int64 × Mi => some (.inr (.inl x.1))) (mo := fun x : Int64 × Mi => (t, x.2)) (fun x hx => hct x.1 x.2 hx) (fun x hx => ⟨rfl, rfl⟩) (fun x hx => k x.1 x.2)
theorem r_VRo (i pc' : Nat) {a cn : Nat} {g : Option (Nat)} {f : Nat → Option α} (hd : μ.2.2.2.2[i]? = some (pc, (.invokevirtual idx, 3))) (hp : pc + 3 = pc') (hM : MC μ' n) (hin : Cond.instanceMethod μ'.1 ∈ TB ∧ Cond.selects μ'.1.cls μ'.1 μ'.1 ∈ TB) (hl : Cond.methodLink μ.1.cls idx μ'.1 ∈ TB) (hlv : d < E.1) (hn : av'.length = n) (hav : av = .inr (.inr a) :: av') (hs : sh t a = some (.inl cn)) (hcl : CL[cn]?.map (fun q => q.1) = some μ'.1.cls) (hw : (st.map pcat).sum ≤ 8) (hct : ∀ v, g = some v → Ct μ' d 0 0 av (t, m) (some (.inr (.inr v)), (t, m))) (k : ∀ v, SmG G μ E κ pc' L (.inr (.inr v) :: st) (t, m) (f v)) : SmG G μ E κ pc L (av.reverse ++ st) (t, m) (g.bind f) :=
  r_invV i pc' hd hp hM hin hl hlv hn hav hs hcl hw (mc := 0) (ms := 0) (vo := fun v => some (.inr (.inr v))) (mo := fun _ => (t, m)) (fun x hx => hct x hx) (fun x hx => ⟨rfl, rfl⟩) (fun x hx => k x)
theorem r_VR (i pc' : Nat) {a cn : Nat} {g : Option (Nat × Mi)} {f : Nat → Mi → Option α} (hd : μ.2.2.2.2[i]? = some (pc, (.invokevirtual idx, 3))) (hp : pc + 3 = pc') (hM : MC μ' n) (hin : Cond.instanceMethod μ'.1 ∈ TB ∧ Cond.selects μ'.1.cls μ'.1 μ'.1 ∈ TB) (hl : Cond.methodLink μ.1.cls idx μ'.1 ∈ TB) (hlv : d < E.1) (hn : av'.length = n) (hav : av = .inr (.inr a) :: av') (hs : sh t a = some (.inl cn)) (hcl : CL[cn]?.map (fun q => q.1) = some μ'.1.cls) (hw : (st.map pcat).sum ≤ 8) (hct : ∀ v m', g = some (v, m') → Ct μ' d 0 0 av (t, m) (some (.inr (.inr v)), (t, m'))) (k : ∀ v m', SmG G μ E κ pc' L (.inr (.inr v) :: st) (t, m') (f v m')) : SmG G μ E κ pc L (av.reverse ++ st) (t, m) (bd g f) :=
  r_invV i pc' hd hp hM hin hl hlv hn hav hs hcl hw (mc := 0) (ms := 0) (vo := fun x : Nat × Mi => some (.inr (.inr x.1))) (mo := fun x : Nat × Mi => (t, x.2)) (fun x hx => hct x.1 x.2 hx) (fun x hx => ⟨rfl, rfl⟩) (fun x hx => k x.1 x.2)
theorem r_VVo (i pc' : Nat) {a cn : Nat} {g : Option (Unit)} {f : Unit → Option α} (hd : μ.2.2.2.2[i]? = some (pc, (.invokevirtual idx, 3))) (hp : pc + 3 = pc') (hM : MC μ' n) (hin : Cond.instanceMethod μ'.1 ∈ TB ∧ Cond.selects μ'.1.cls μ'.1 μ'.1 ∈ TB) (hl : Cond.methodLink μ.1.cls idx μ'.1 ∈ TB) (hlv : d < E.1) (hn : av'.length = n) (hav : av = .inr (.inr a) :: av') (hs : sh t a = some (.inl cn)) (hcl : CL[cn]?.map (fun q => q.1) = some μ'.1.cls) (hw : (st.map pcat).sum ≤ 8) (hct : g = some () → Ct μ' d 0 0 av (t, m) (none, (t, m))) (k : SmG G μ E κ pc' L st (t, m) (f ())) : SmG G μ E κ pc L (av.reverse ++ st) (t, m) (g.bind f) :=
  r_invV i pc' hd hp hM hin hl hlv hn hav hs hcl hw (mc := 0) (ms := 0) (vo := fun _ => none) (mo := fun _ => (t, m)) (fun x hx => hct hx) (fun x hx => ⟨rfl, rfl⟩) (fun x hx => k)
theorem r_VV (i pc' : Nat) {a cn : Nat} {g : Option (Mi)} {f : Mi → Option α} (hd : μ.2.2.2.2[i]? = some (pc, (.invokevirtual idx, 3))) (hp : pc + 3 = pc') (hM : MC μ' n) (hin : Cond.instanceMethod μ'.1 ∈ TB ∧ Cond.selects μ'.1.cls μ'.1 μ'.1 ∈ TB) (hl : Cond.methodLink μ.1.cls idx μ'.1 ∈ TB) (hlv : d < E.1) (hn : av'.length = n) (hav : av = .inr (.inr a) :: av') (hs : sh t a = some (.inl cn)) (hcl : CL[cn]?.map (fun q => q.1) = some μ'.1.cls) (hw : (st.map pcat).sum ≤ 8) (hct : ∀ m', g = some m' → Ct μ' d 0 0 av (t, m) (none, (t, m'))) (k : ∀ m', SmG G μ E κ pc' L st (t, m') (f m')) : SmG G μ E κ pc L (av.reverse ++ st) (t, m) (g.bind f) :=
  r_invV i pc' hd hp hM hin hl hlv hn hav hs hcl hw (mc := 0) (ms := 0) (vo := fun _ => none) (mo := fun x => (t, x)) (fun x hx => hct x hx) (fun x hx => ⟨rfl, rfl⟩) (fun x hx => k x)
theorem r_SIo (i pc' : Nat) {a cn : Nat} {g : Option (Int32)} {f : Int32 → Option α} (hd : μ.2.2.2.2[i]? = some (pc, (.invokestatic idx, 3))) (hp : pc + 3 = pc') (hM : MC μ' n) (hst : Cond.static μ'.1 ∈ TB) (hl : Cond.methodLink μ.1.cls idx μ'.1 ∈ TB) (hlv : d < E.1) (hn : av.length = n) (hw : (st.map pcat).sum ≤ 8) (hct : ∀ v, g = some v → Ct μ' d 0 0 av (t, m) (some (.inl v), (t, m))) (k : ∀ v, SmG G μ E κ pc' L (.inl v :: st) (t, m) (f v)) : SmG G μ E κ pc L (av.reverse ++ st) (t, m) (g.bind f) :=
  r_invS i pc' hd hp hM hst hl hlv hn hw (mc := 0) (ms := 0) (vo := fun v => some (.inl v)) (mo := fun _ => (t, m)) (fun x hx => hct x hx) (fun x hx => ⟨rfl, rfl⟩) (fun x hx => k x)
theorem r_SI (i pc' : Nat) {a cn : Nat} {g : Option (Int32 × Mi)} {f : Int32 → Mi → Option α} (hd : μ.2.2.2.2[i]? = some (pc, (.invokestatic idx, 3))) (hp : pc + 3 = pc') (hM : MC μ' n) (hst : Cond.static μ'.1 ∈ TB) (hl : Cond.methodLink μ.1.cls idx μ'.1 ∈ TB) (hlv : d < E.1) (hn : av.length = n) (hw : (st.map pcat).sum ≤ 8) (hct : ∀ v m', g = some (v, m') → Ct μ' d 0 0 av (t, m) (some (.inl v), (t, m'))) (k : ∀ v m', SmG G μ E κ pc' L (.inl v :: st) (t, m') (f v m')) : SmG G μ E κ pc L (av.reverse ++ st) (t, m) (bd g f) :=
  r_invS i pc' hd hp hM hst hl hlv hn hw (mc := 0) (ms := 0) (vo := fun x : Int32 × Mi => some (.inl x.1)) (mo := fun x : Int32 × Mi => (t, x.2)) (fun x hx => hct x.1 x.2 hx) (fun x hx => ⟨rfl, rfl⟩) (fun x hx => k x.1 x.2)
theorem r_SLo (i pc' : Nat) {a cn : Nat} {g : Option (Int64)} {f : Int64 → Option α} (hd : μ.2.2.2.2[i]? = some (pc, (.invokestatic idx, 3))) (hp : pc + 3 = pc') (hM : MC μ' n) (hst : Cond.static μ'.1 ∈ TB) (hl : Cond.methodLink μ.1.cls idx μ'.1 ∈ TB) (hlv : d < E.1) (hn : av.length = n) (hw : (st.map pcat).sum ≤ 8) (hct : ∀ v, g = some v → Ct μ' d 0 0 av (t, m) (some (.inr (.inl v)), (t, m))) (k : ∀ v, SmG G μ E κ pc' L (.inr (.inl v) :: st) (t, m) (f v)) : SmG G μ E κ pc L (av.reverse ++ st) (t, m) (g.bind f) :=
  r_invS i pc' hd hp hM hst hl hlv hn hw (mc := 0) (ms := 0) (vo := fun v => some (.inr (.inl v))) (mo := fun _ => (t, m)) (fun x hx => hct x hx) (fun x hx => ⟨rfl, rfl⟩) (fun x hx => k x)
theorem r_SL (i pc' : Nat) {a cn : Nat} {g : Option (Int64 × Mi)} {f : Int64 → Mi → Option α} (hd : μ.2.2.2.2[i]? = some (pc, (.invokestatic idx, 3))) (hp : pc + 3 = pc') (hM : MC μ' n) (hst : Cond.static μ'.1 ∈ TB) (hl : Cond.methodLink μ.1.cls idx μ'.1 ∈ TB) (hlv : d < E.1) (hn : av.length = n) (hw : (st.map pcat).sum ≤ 8) (hct : ∀ v m', g = some (v, m') → Ct μ' d 0 0 av (t, m) (some (.inr (.inl v)), (t, m'))) (k : ∀ v m', SmG G μ E κ pc' L (.inr (.inl v) :: st) (t, m') (f v m')) : SmG G μ E κ pc L (av.reverse ++ st) (t, m) (bd g f) :=
  r_invS i pc' hd hp hM hst hl hlv hn hw (mc := 0) (ms := 0) (vo := fun x : Int64 × Mi => some (.inr (.inl x.1))) (mo := fun x : Int64 × Mi => (t, x.2)) (fun x hx => hct x.1 x.2 hx) (fun x hx => ⟨rfl, rfl⟩) (fun x hx => k x.1 x.2)
theorem r_SRo (i pc' : Nat) {a cn : Nat} {g : Option (Nat)} {f : Nat → Option α} (hd : μ.2.2.2.2[i]? = some (pc, (.invokestatic idx, 3))) (hp : pc + 3 = pc') (hM : MC μ' n) (hst : Cond.static μ'.1 ∈ TB) (hl : Cond.methodLink μ.1.cls idx μ'.1 ∈ TB) (hlv : d < E.1) (hn : av.length = n) (hw : (st.map pcat).sum ≤ 8) (hct : ∀ v, g = some v → Ct μ' d 0 0 av (t, m) (some (.inr (.inr v)), (t, m))) (k : ∀ v, SmG G μ E κ pc' L (.inr (.inr v) :: st) (t, m) (f v)) : SmG G μ E κ pc L (av.reverse ++ st) (t, m) (g.bind f) :=
  r_invS i pc' hd hp hM hst hl hlv hn hw (mc := 0) (ms := 0) (vo := fun v => some (.inr (.inr v))) (mo := fun _ => (t, m)) (fun x hx => hct x hx) (fun x hx => ⟨rfl, rfl⟩) (fun x hx => k x)
theorem r_SR (i pc' : Nat) {a cn : Nat} {g : Option (Nat × Mi)} {f : Nat → Mi → Option α} (hd : μ.2.2.2.2[i]? = some (pc, (.invokestatic idx, 3))) (hp : pc + 3 = pc') (hM : MC μ' n) (hst : Cond.static μ'.1 ∈ TB) (hl : Cond.methodLink μ.1.cls idx μ'.1 ∈ TB) (hlv : d < E.1) (hn : av.length = n) (hw : (st.map pcat).sum ≤ 8) (hct : ∀ v m', g = some (v, m') → Ct μ' d 0 0 av (t, m) (some (.inr (.inr v)), (t, m'))) (k : ∀ v m', SmG G μ E κ pc' L (.inr (.inr v) :: st) (t, m') (f v m')) : SmG G μ E κ pc L (av.reverse ++ st) (t, m) (bd g f) :=
  r_invS i pc' hd hp hM hst hl hlv hn hw (mc := 0) (ms := 0) (vo := fun x : Nat × Mi => some (.inr (.inr x.1))) (mo := fun x : Nat × Mi => (t, x.2)) (fun x hx => hct x.1 x.2 hx) (fun x hx => ⟨rfl, rfl⟩) (fun x hx => k x.1 x.2)
theorem r_SVo (i pc' : Nat) {a cn : Nat} {g : Option (Unit)} {f : Unit → Option α} (hd : μ.2.2.2.2[i]? = some (pc, (.invokestatic idx, 3))) (hp : pc + 3 = pc') (hM : MC μ' n) (hst : Cond.static μ'.1 ∈ TB) (hl : Cond.methodLink μ.1.cls idx μ'.1 ∈ TB) (hlv : d < E.1) (hn : av.length = n) (hw : (st.map pcat).sum ≤ 8) (hct : g = some () → Ct μ' d 0 0 av (t, m) (none, (t, m))) (k : SmG G μ E κ pc' L st (t, m) (f ())) : SmG G μ E κ pc L (av.reverse ++ st) (t, m) (g.bind f) :=
  r_invS i pc' hd hp hM hst hl hlv hn hw (mc := 0) (ms := 0) (vo := fun _ => none) (mo := fun _ => (t, m)) (fun x hx => hct hx) (fun x hx => ⟨rfl, rfl⟩) (fun x hx => k)
theorem r_SV (i pc' : Nat) {a cn : Nat} {g : Option (Mi)} {f : Mi → Option α} (hd : μ.2.2.2.2[i]? = some (pc, (.invokestatic idx, 3))) (hp : pc + 3 = pc') (hM : MC μ' n) (hst : Cond.static μ'.1 ∈ TB) (hl : Cond.methodLink μ.1.cls idx μ'.1 ∈ TB) (hlv : d < E.1) (hn : av.length = n) (hw : (st.map pcat).sum ≤ 8) (hct : ∀ m', g = some m' → Ct μ' d 0 0 av (t, m) (none, (t, m'))) (k : ∀ m', SmG G μ E κ pc' L st (t, m') (f m')) : SmG G μ E κ pc L (av.reverse ++ st) (t, m) (g.bind f) :=
  r_invS i pc' hd hp hM hst hl hlv hn hw (mc := 0) (ms := 0) (vo := fun _ => none) (mo := fun x => (t, x)) (fun x hx => hct x hx) (fun x hx => ⟨rfl, rfl⟩) (fun x hx => k x)
end Rows7
