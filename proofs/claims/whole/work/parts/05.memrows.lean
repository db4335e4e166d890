/-! Rows of the judgement for fields and arrays. -/
def ob (t : List Sh) (a c : Nat) : Bool := match sh t a with
  | some (.inl x) => x == c
  | _ => false
def ar (t : List Sh) (a : Nat) (ty : FieldType) (i : Int32) : Bool := match sh t a with
  | some (.inr q) => decide (q.1 = ty) && (!decide (i < 0) && decide (i.toNatClampNeg < q.2))
  | _ => false
def ln (t : List Sh) (a : Nat) : Nat := match sh t a with
  | some (.inr q) => q.2
  | _ => 0
def aa (t : List Sh) (a : Nat) (ty : FieldType) : Bool := match sh t a with
  | some (.inr q) => decide (q.1 = ty)
  | _ => false
def ix (i : Int32) : Nat := i.toNatClampNeg
theorem ob_sh {t : List Sh} {a c : Nat} (h : ob t a c = true) : sh t a = some (.inl c) := by
  unfold ob at h
  split at h
  · next x e => rw [e, eq_of_beq h]
  · cases h
theorem ar_sh {t : List Sh} {a : Nat} {ty : FieldType} {i : Int32} (h : ar t a ty i = true) : ∃ n, sh t a = some (.inr (ty, n)) ∧ vp_in i n := by
  unfold ar at h
  split at h
  · next q e =>
    simp only [Bool.and_eq_true, decide_eq_true_eq, Bool.not_eq_true', decide_eq_false_iff_not] at h
    obtain ⟨h1, h2, h3⟩ := h
    refine ⟨q.2, by rw [e, ← h1], ?_⟩
    rintro (h4 | h4)
    · exact h2 h4
    · omega
  · cases h
theorem aa_sh {t : List Sh} {a : Nat} {ty : FieldType} (h : aa t a ty = true) : sh t a = some (.inr (ty, ln t a)) := by
  unfold aa at h
  split at h
  · next q e =>
    simp only [decide_eq_true_eq] at h
    unfold ln
    rw [e, ← h]
  · cases h
section MemR
variable {α : Type} {G : Bs → Prop} {μ : Fx} {E : Ev} {κ : α → Option Rs} {pc pc' : Nat} {L L' : List (Nat × PV)} {st st' : List PV} {t : List Sh} {m m' : Mi} {r : Option α}
theorem Sm.rd (h : ∀ (β : Bs) (D : va_G) (cA : FieldType → ClassId) (p : Program) (l : Launch) (e : Env) (R : Room) (s : State) (mm : MethodId) (args : Array Value) (below : List Frame) (meth : Method) (c : Code) (H : Heap) (locs : List Loc) (ls : Array Slot) (cells slots : Nat) (Q : State → Prop),
      CX β D cA μ p s mm args meth c → WH β D cA (t, m) H → W p l e R s mm args below meth c H locs cells slots Q (F0 mm pc' ls (vs β st')) → W p l e R s mm args below meth c H locs cells slots Q (F0 mm pc ls (vs β st)))
    (k : SmG G μ E κ pc' L st' (t, m) r) : SmG G μ E κ pc L st (t, m) r := by
  intro res hr
  obtain ⟨h1, h2⟩ := k res hr
  refine ⟨h1, ?_⟩
  intro β D cA p l e R s mm args below meth c H locs ls hG C hW ho hl hz hls a1 a2 a3 a4 b1 b2 b3 b4
  exact h β D cA p l e R s mm args below meth c H locs ls _ _ _ C hW (h2 β D cA p l e R s mm args below meth c H locs ls hG C hW ho hl hz hls a1 a2 a3 a4 b1 b2 b3 b4)
theorem Sm.wr (h : ∀ (β : Bs) (D : va_G) (cA : FieldType → ClassId) (p : Program) (l : Launch) (e : Env) (R : Room) (s : State) (mm : MethodId) (args : Array Value) (below : List Frame) (meth : Method) (c : Code) (H : Heap) (locs : List Loc) (ls : Array Slot) (cells slots : Nat) (Q : State → Prop),
      CX β D cA μ p s mm args meth c → WH β D cA (t, m) H → 1 ≤ R.frames ∨ E.1 = 0 → 60 * E.1 ≤ R.locals → ls.size = μ.2.2.1 →
      (∀ (H1 : Heap) (L1 : List Loc), WH β D cA (t, m') H1 → H1.size = H.size → (∀ q : Nat, q ≤ β.1 → H1[q]? = H[q]?) → (∀ q ∈ L1, β.1 < q.base) → W p l e R s mm args below meth c H1 (locs ++ L1) cells slots Q (F0 mm pc' ls (vs β st'))) → W p l e R s mm args below meth c H locs cells slots Q (F0 mm pc ls (vs β st)))
    (k : SmG G μ E κ pc' L st' (t, m') r) : SmG G μ E κ pc L st (t, m) r := by
  intro res hr
  obtain ⟨h1, h2⟩ := k res hr
  refine ⟨h1, ?_⟩
  intro β D cA p l e R s mm args below meth c H locs ls hG C hW ho hl hz hls a1 a2 a3 a4 b1 b2 b3 b4
  refine h β D cA p l e R s mm args below meth c H locs ls _ _ _ C hW ?_ b2 hls.1 (fun H1 L1 w1 w2 w3 w4 => h2 β D cA p l e R s mm args below meth c H1 (locs ++ L1) ls hG C w1 (fun q hq => (w3 q hq).trans (ho q hq)) ?_ (by omega) hls a1 a2 a3 a4 b1 b2 b3 b4)
  · omega
  · intro q hq
    rcases List.mem_append.mp hq with h | h
    · exact hl q h
    · exact w4 q h
theorem r_getI (i pc' : Nat) {idx c k a : Nat} {fin : Bool} (hd : μ.2.2.2.2[i]? = some (pc, (.getfield idx, 3))) (hp : pc + 3 = pc') (hF : FL μ.1.cls idx c k fin) (ht : isI (fT c k) = true) (hs : sh t a = some (.inl c)) (kk : SmG G μ E κ pc' L (.inl (gi m a k) :: st) (t, m) r) : SmG G μ E κ pc L (.inr (.inr a) :: st) (t, m) r := by
  subst hp
  refine Sm.rd (fun β D cA p l e R s mm args below meth cc H locs ls cells slots Q C hW kk => w_get C hW hd hF hs ?_) kk
  have e : fval β m c a k = .int (gi m a k) := by
    unfold fval
    unfold isI at ht
    split <;> simp_all
  show W p l _ R s mm args below meth cc H locs cells slots Q (F0 mm (pc + 3) ls (fval β m c a k :: vs β st))
  rw [e]
  exact kk
theorem r_getL (i pc' : Nat) {idx c k a : Nat} {fin : Bool} (hd : μ.2.2.2.2[i]? = some (pc, (.getfield idx, 3))) (hp : pc + 3 = pc') (hF : FL μ.1.cls idx c k fin) (ht : fT c k = .long) (hs : sh t a = some (.inl c)) (kk : SmG G μ E κ pc' L (.inr (.inl (gl m a k)) :: st) (t, m) r) : SmG G μ E κ pc L (.inr (.inr a) :: st) (t, m) r := by
  subst hp
  refine Sm.rd (fun β D cA p l e R s mm args below meth cc H locs ls cells slots Q C hW kk => w_get C hW hd hF hs ?_) kk
  have e : fval β m c a k = .long (gl m a k) := by
    unfold fval
    rw [ht]
  show W p l _ R s mm args below meth cc H locs cells slots Q (F0 mm (pc + 3) ls (fval β m c a k :: vs β st))
  rw [e]
  exact kk
theorem r_getR (i pc' : Nat) {idx c k a : Nat} {fin : Bool} (hd : μ.2.2.2.2[i]? = some (pc, (.getfield idx, 3))) (hp : pc + 3 = pc') (hF : FL μ.1.cls idx c k fin) (ht : isR (fT c k) = true) (hs : sh t a = some (.inl c)) (kk : SmG G μ E κ pc' L (.inr (.inr (gr m a k)) :: st) (t, m) r) : SmG G μ E κ pc L (.inr (.inr a) :: st) (t, m) r := by
  subst hp
  refine Sm.rd (fun β D cA p l e R s mm args below meth cc H locs ls cells slots Q C hW kk => w_get C hW hd hF hs ?_) kk
  have e : fval β m c a k = rv β (gr m a k) := by
    unfold fval
    unfold isR at ht
    split <;> simp_all
  show W p l _ R s mm args below meth cc H locs cells slots Q (F0 mm (pc + 3) ls (fval β m c a k :: vs β st))
  rw [e]
  exact kk
theorem r_putI (i pc' : Nat) {idx c k a : Nat} {x : Int32} {fin : Bool} (hd : μ.2.2.2.2[i]? = some (pc, (.putfield idx, 3))) (hp : pc + 3 = pc') (hF : FL μ.1.cls idx c k fin) (hfin : fin = true → μ.1.name = "<init>" ∧ CL[c]?.map (fun q => q.1) = some μ.1.cls) (ht : fT c k = .int ∨ (fT c k = .boolean ∧ (x = 0 ∨ x = 1))) (hs : sh t a = some (.inl c)) (kk : SmG G μ E κ pc' L st (t, si m a k x) r) : SmG G μ E κ pc L (.inl x :: .inr (.inr a) :: st) (t, m) r := by
  subst hp
  refine Sm.wr (fun β D cA p l e R s mm args below meth cc H locs ls cells slots Q C hW _ _ _ kk => w_put C hW hd hF hfin hs (v := .int x) (m' := si m a k x) ?_ ?_ ?_ (fun r h => ce_si r h) (fun H1 k0 w1 w2 w3 => kk H1 [⟨β.1 + a, k0⟩] w1 w2 (fun q hq => w3 q ?_) ?_)) kk
  · rcases ht with h | ⟨h, rfl | rfl⟩ <;> rw [h] <;> rfl
  · rcases ht with h | ⟨h, rfl | rfl⟩ <;> rw [h] <;> rfl
  · intro j _
    unfold fval
    by_cases hj : j = k
    · subst hj
      rw [if_pos rfl]
      rcases ht with h | ⟨h, -⟩ <;> rw [h] <;> simp [gi, si]
    · rw [if_neg hj]
      split <;> simp [gi, gl, gr, si, hj]
  · have := (sh_le hs).1
    omega
  · intro q hq
    rw [List.mem_singleton.mp hq]
    have := (sh_le hs).1
    show β.1 < β.1 + a
    omega
theorem r_putL (i pc' : Nat) {idx c k a : Nat} {x : Int64} {fin : Bool} (hd : μ.2.2.2.2[i]? = some (pc, (.putfield idx, 3))) (hp : pc + 3 = pc') (hF : FL μ.1.cls idx c k fin) (hfin : fin = true → μ.1.name = "<init>" ∧ CL[c]?.map (fun q => q.1) = some μ.1.cls) (ht : fT c k = .long) (hs : sh t a = some (.inl c)) (kk : SmG G μ E κ pc' L st (t, sl m a k x) r) : SmG G μ E κ pc L (.inr (.inl x) :: .inr (.inr a) :: st) (t, m) r := by
  subst hp
  refine Sm.wr (fun β D cA p l e R s mm args below meth cc H locs ls cells slots Q C hW _ _ _ kk => w_put C hW hd hF hfin hs (v := .long x) (m' := sl m a k x) ?_ ?_ ?_ (fun r h => ce_sl r h) (fun H1 k0 w1 w2 w3 => kk H1 [⟨β.1 + a, k0⟩] w1 w2 (fun q hq => w3 q ?_) ?_)) kk
  · rw [ht]; rfl
  · rw [ht]; rfl
  · intro j _
    unfold fval
    by_cases hj : j = k
    · subst hj
      rw [if_pos rfl, ht]
      simp [gl, sl]
    · rw [if_neg hj]
      split <;> simp [gi, gl, gr, sl, hj]
  · have := (sh_le hs).1
    omega
  · intro q hq
    rw [List.mem_singleton.mp hq]
    have := (sh_le hs).1
    show β.1 < β.1 + a
    omega
theorem r_putR (i pc' : Nat) {idx c k a : Nat} {x : Nat} {fin : Bool} (hd : μ.2.2.2.2[i]? = some (pc, (.putfield idx, 3))) (hp : pc + 3 = pc') (hF : FL μ.1.cls idx c k fin) (hfin : fin = true → μ.1.name = "<init>" ∧ CL[c]?.map (fun q => q.1) = some μ.1.cls) (ht : isR (fT c k) = true) (hs : sh t a = some (.inl c)) (kk : SmG G μ E κ pc' L st (t, sr m a k x) r) : SmG G μ E κ pc L (.inr (.inr x) :: .inr (.inr a) :: st) (t, m) r := by
  subst hp
  refine Sm.wr (fun β D cA p l e R s mm args below meth cc H locs ls cells slots Q C hW _ _ _ kk => w_put C hW hd hF hfin hs (v := rv β x) (m' := sr m a k x) ?_ ?_ ?_ (fun r h => ce_sr r h) (fun H1 k0 w1 w2 w3 => kk H1 [⟨β.1 + a, k0⟩] w1 w2 (fun q hq => w3 q ?_) ?_)) kk
  · rcases rv_cases β x with ⟨-, h⟩ | ⟨-, b, h⟩ <;> rw [h] <;> unfold isR at ht <;> split at ht <;> first | (simp at ht; done) | (rename_i e1; rw [e1]; rfl)
  · rcases rv_cases β x with ⟨-, h⟩ | ⟨-, b, h⟩ <;> rw [h] <;> unfold isR at ht <;> split at ht <;> first | (simp at ht; done) | (rename_i e1; rw [e1]; rfl)
  · intro j _
    unfold fval
    by_cases hj : j = k
    · subst hj
      rw [if_pos rfl]
      unfold isR at ht
      split at ht <;> first | (simp at ht; done) | (rename_i e1; rw [e1]; simp [gr, sr])
    · rw [if_neg hj]
      split <;> simp [gi, gl, gr, sr, hj]
  · have := (sh_le hs).1
    omega
  · intro q hq
    rw [List.mem_singleton.mp hq]
    have := (sh_le hs).1
    show β.1 < β.1 + a
    omega
theorem r_iald (i pc' : Nat) {a : Nat} {x : Int32} (hd : μ.2.2.2.2[i]? = some (pc, (.iaload, 1))) (hp : pc + 1 = pc') (hs : ar t a .int x = true) (kk : SmG G μ E κ pc' L (.inl (gi m a (ix x)) :: st) (t, m) r) : SmG G μ E κ pc L (.inl x :: .inr (.inr a) :: st) (t, m) r := by
  subst hp
  obtain ⟨n, hs, hin⟩ := ar_sh hs
  refine Sm.rd (fun β D cA p l e R s mm args below meth cc H locs ls cells slots Q C hW kk => ?_) kk
  show W p l _ R s mm args below meth cc H locs cells slots Q (F0 mm pc ls (.int x :: rv β a :: vs β st))
  rw [hW.ref hs]
  exact va_iald C.1 C.2.1 C.2.2.2.2.2.1.1 (va_P1 (hW.arr hs)) 0 0 rfl rfl hin (C.dk hd) kk
theorem r_bald (i pc' : Nat) {a : Nat} {x : Int32} (hd : μ.2.2.2.2[i]? = some (pc, (.baload, 1))) (hp : pc + 1 = pc') (hs : ar t a .byte x = true) (kk : SmG G μ E κ pc' L (.inl (gi m a (ix x)) :: st) (t, m) r) : SmG G μ E κ pc L (.inl x :: .inr (.inr a) :: st) (t, m) r := by
  subst hp
  obtain ⟨n, hs, hin⟩ := ar_sh hs
  refine Sm.rd (fun β D cA p l e R s mm args below meth cc H locs ls cells slots Q C hW kk => ?_) kk
  show W p l _ R s mm args below meth cc H locs cells slots Q (F0 mm pc ls (.int x :: rv β a :: vs β st))
  rw [hW.ref hs]
  exact va_bald C.1 C.2.1 C.2.2.2.2.2.1.1 (va_P1 (hW.arr hs)) 0 2 rfl rfl hin (C.dk hd) kk
theorem r_zald (i pc' : Nat) {a : Nat} {x : Int32} (hd : μ.2.2.2.2[i]? = some (pc, (.baload, 1))) (hp : pc + 1 = pc') (hs : ar t a .boolean x = true) (kk : SmG G μ E κ pc' L (.inl (gi m a (ix x)) :: st) (t, m) r) : SmG G μ E κ pc L (.inl x :: .inr (.inr a) :: st) (t, m) r := by
  subst hp
  obtain ⟨n, hs, hin⟩ := ar_sh hs
  refine Sm.rd (fun β D cA p l e R s mm args below meth cc H locs ls cells slots Q C hW kk => ?_) kk
  show W p l _ R s mm args below meth cc H locs cells slots Q (F0 mm pc ls (.int x :: rv β a :: vs β st))
  rw [hW.ref hs]
  exact va_zald C.1 C.2.1 C.2.2.2.2.2.1.1 (va_P1 (hW.arr hs)) 0 3 rfl rfl hin (C.dk hd) kk
theorem r_lald (i pc' : Nat) {a : Nat} {x : Int32} (hd : μ.2.2.2.2[i]? = some (pc, (.laload, 1))) (hp : pc + 1 = pc') (hs : ar t a .long x = true) (kk : SmG G μ E κ pc' L (.inr (.inl (gl m a (ix x))) :: st) (t, m) r) : SmG G μ E κ pc L (.inl x :: .inr (.inr a) :: st) (t, m) r := by
  subst hp
  obtain ⟨n, hs, hin⟩ := ar_sh hs
  refine Sm.rd (fun β D cA p l e R s mm args below meth cc H locs ls cells slots Q C hW kk => ?_) kk
  show W p l _ R s mm args below meth cc H locs cells slots Q (F0 mm pc ls (.int x :: rv β a :: vs β st))
  rw [hW.ref hs]
  exact va_lald C.1 C.2.1 C.2.2.2.2.2.1.1 (va_P1 (hW.arr hs)) 0 1 rfl rfl hin (C.dk hd) kk
theorem r_aald (i pc' q : Nat) {a : Nat} {x : Int32} {C0 : String} (hd : μ.2.2.2.2[i]? = some (pc, (.aaload, 1))) (hp : pc + 1 = pc') (hq : ∀ cA : FieldType → ClassId, (TYS cA)[q]? = some (cA (.object C0), .object C0)) (hs : ar t a (.object C0) x = true) (kk : SmG G μ E κ pc' L (.inr (.inr (gr m a (ix x))) :: st) (t, m) r) : SmG G μ E κ pc L (.inl x :: .inr (.inr a) :: st) (t, m) r := by
  subst hp
  obtain ⟨n, hs, hin⟩ := ar_sh hs
  refine Sm.rd (fun β D cA p l e R s mm args below meth cc H locs ls cells slots Q C hW kk => ?_) kk
  show W p l _ R s mm args below meth cc H locs cells slots Q (F0 mm pc ls (.int x :: rv β a :: vs β st))
  rw [hW.ref hs]
  exact va_aldq C.1 C.2.1 C.2.2.2.2.2.1.1 (va_P1 (hW.arr hs)) 0 q rfl (hq cA) hin (C.dk hd) kk
theorem r_alen (i pc' q : Nat) {a : Nat} {ty : FieldType} (hd : μ.2.2.2.2[i]? = some (pc, (.arraylength, 1))) (hp : pc + 1 = pc') (hq : ∀ cA : FieldType → ClassId, (TYS cA)[q]? = some (cA ty, ty)) (hs : aa t a ty = true) (kk : SmG G μ E κ pc' L (.inl (Int32.ofNat (ln t a)) :: st) (t, m) r) : SmG G μ E κ pc L (.inr (.inr a) :: st) (t, m) r := by
  subst hp
  have hs := aa_sh hs
  refine Sm.rd (fun β D cA p l e R s mm args below meth cc H locs ls cells slots Q C hW kk => ?_) kk
  show W p l _ R s mm args below meth cc H locs cells slots Q (F0 mm pc ls (rv β a :: vs β st))
  rw [hW.ref hs]
  exact va_alen C.1 C.2.1 C.2.2.2.2.2.1.1 (va_P1 (hW.arr hs)) 0 q rfl (hq cA) rfl (C.dk hd) kk
theorem WH.setA {β : Bs} {D : va_G} {cA : FieldType → ClassId} {H H1 : Heap} (hW : WH β D cA (t, m) H) {a n j : Nat} {ty : FieldType} (hs : sh t a = some (.inr (ty, n))) {cell : Cell} {v : Value} (hc : vp_cell (cA ty) (n, aval β m a ty) = cell) (e : H1[β.1 + a]? = some (cell.setSlot j v)) (z : H1.size = H.size) (oq : ∀ q : Nat, q ≠ β.1 + a → H1[q]? = H[q]?) (hr : ∀ r, r ≠ a → ce β cA t m' r = ce β cA t m r) (hce : cell.setSlot j v = vp_cell (cA ty) (n, aval β m' a ty)) : WH β D cA (t, m') H1 := by
  refine hW.set hs z oq ?_ hr
  simp only [ce, hs]
  show H1[β.1 + a]? = some (vp_cell (cA ty) (n, aval β m' a ty))
  rw [e, hce]
theorem r_iast (i pc' : Nat) {a : Nat} {x y : Int32} (hd : μ.2.2.2.2[i]? = some (pc, (.iastore, 1))) (hp : pc + 1 = pc') (hs : ar t a .int x = true) (kk : SmG G μ E κ pc' L st (t, si m a (ix x) y) r) : SmG G μ E κ pc L (.inl y :: .inl x :: .inr (.inr a) :: st) (t, m) r := by
  subst hp
  obtain ⟨n, hs, hin⟩ := ar_sh hs
  refine Sm.wr (fun β D cA p l e R s mm args below meth cc H locs ls cells slots Q C hW _ _ _ kk => ?_) kk
  show W p l _ R s mm args below meth cc H locs cells slots Q (F0 mm pc ls (.int y :: .int x :: rv β a :: vs β st))
  rw [hW.ref hs]
  have hK := C.2.2.2.2.2.1.1
  refine W.iast C.1 C.2.1 (hW.arr hs) ((hK.2 0 _ rfl).1 n (fun j => .int (gi m a j))) (fun q => by cases q) (by show ¬ (x < 0 ∨ (arrV _ _ _).slots.size ≤ _); rw [arrV_size]; exact hin) rfl rfl (C.dk hd) fun H1 e z oq => ?_
  refine kk H1 [⟨β.1 + a, _⟩] (hW.setA hs rfl e z oq (fun r h => ce_si r h) ?_) z (fun q hq => oq q ?_) ?_
  · show (arrV (cA .int) n (fun j => .int (gi m a j))).setSlot _ _ = arrV (cA .int) n (fun j => .int (gi (si m a (ix x) y) a j))
    rw [arrV_store]
    congr 1
    funext j
    unfold updV gi si ix
    by_cases hj : j = x.toNatClampNeg
    · simp [hj]
    · simp [hj]
  · have := (sh_le hs).1
    show q ≠ β.1 + a
    omega
  · intro q hq
    rw [List.mem_singleton.mp hq]
    have := (sh_le hs).1
    show β.1 < β.1 + a
    omega
theorem r_bast (i pc' : Nat) {a : Nat} {x y : Int32} (hd : μ.2.2.2.2[i]? = some (pc, (.bastore, 1))) (hp : pc + 1 = pc') (hs : ar t a .byte x = true) (kk : SmG G μ E κ pc' L st (t, si m a (ix x) (vp_nar .byte y)) r) : SmG G μ E κ pc L (.inl y :: .inl x :: .inr (.inr a) :: st) (t, m) r := by
  subst hp
  obtain ⟨n, hs, hin⟩ := ar_sh hs
  refine Sm.wr (fun β D cA p l e R s mm args below meth cc H locs ls cells slots Q C hW _ _ _ kk => ?_) kk
  show W p l _ R s mm args below meth cc H locs cells slots Q (F0 mm pc ls (.int y :: .int x :: rv β a :: vs β st))
  rw [hW.ref hs]
  have hK := C.2.2.2.2.2.1.1
  refine W.bast C.1 C.2.1 (hW.arr hs) ((hK.2 2 _ rfl).1 n (fun j => .int (gi m a j))) (fun q => by cases q) (by show ¬ (x < 0 ∨ (arrV _ _ _).slots.size ≤ _); rw [arrV_size]; exact hin) rfl rfl (C.dk hd) fun H1 e z oq => ?_
  refine kk H1 [⟨β.1 + a, _⟩] (hW.setA hs rfl e z oq (fun r h => ce_si r h) ?_) z (fun q hq => oq q ?_) ?_
  · show (arrV (cA .byte) n (fun j => .int (gi m a j))).setSlot _ _ = arrV (cA .byte) n (fun j => .int (gi (si m a (ix x) (vp_nar .byte y)) a j))
    rw [arrV_store]
    congr 1
    funext j
    unfold updV gi si ix
    by_cases hj : j = x.toNatClampNeg
    · simp [hj, vp_nar, narrow]
    · simp [hj]
  · have := (sh_le hs).1
    show q ≠ β.1 + a
    omega
  · intro q hq
    rw [List.mem_singleton.mp hq]
    have := (sh_le hs).1
    show β.1 < β.1 + a
    omega
theorem r_zast (i pc' : Nat) {a : Nat} {x y : Int32} (hd : μ.2.2.2.2[i]? = some (pc, (.bastore, 1))) (hp : pc + 1 = pc') (hs : ar t a .boolean x = true) (kk : SmG G μ E κ pc' L st (t, si m a (ix x) (vp_nar .boolean y)) r) : SmG G μ E κ pc L (.inl y :: .inl x :: .inr (.inr a) :: st) (t, m) r := by
  subst hp
  obtain ⟨n, hs, hin⟩ := ar_sh hs
  refine Sm.wr (fun β D cA p l e R s mm args below meth cc H locs ls cells slots Q C hW _ _ _ kk => ?_) kk
  show W p l _ R s mm args below meth cc H locs cells slots Q (F0 mm pc ls (.int y :: .int x :: rv β a :: vs β st))
  rw [hW.ref hs]
  have hK := C.2.2.2.2.2.1.1
  refine W.zast C.1 C.2.1 (hW.arr hs) ((hK.2 3 _ rfl).1 n (fun j => .int (gi m a j))) (fun q => by cases q) (by show ¬ (x < 0 ∨ (arrV _ _ _).slots.size ≤ _); rw [arrV_size]; exact hin) rfl rfl (C.dk hd) fun H1 e z oq => ?_
  refine kk H1 [⟨β.1 + a, _⟩] (hW.setA hs rfl e z oq (fun r h => ce_si r h) ?_) z (fun q hq => oq q ?_) ?_
  · show (arrV (cA .boolean) n (fun j => .int (gi m a j))).setSlot _ _ = arrV (cA .boolean) n (fun j => .int (gi (si m a (ix x) (vp_nar .boolean y)) a j))
    rw [arrV_store]
    congr 1
    funext j
    unfold updV gi si ix
    by_cases hj : j = x.toNatClampNeg
    · simp [hj, vp_nar, narrow]
    · simp [hj]
  · have := (sh_le hs).1
    show q ≠ β.1 + a
    omega
  · intro q hq
    rw [List.mem_singleton.mp hq]
    have := (sh_le hs).1
    show β.1 < β.1 + a
    omega
theorem r_last (i pc' : Nat) {a : Nat} {x : Int32} {y : Int64} (hd : μ.2.2.2.2[i]? = some (pc, (.lastore, 1))) (hp : pc + 1 = pc') (hs : ar t a .long x = true) (kk : SmG G μ E κ pc' L st (t, sl m a (ix x) y) r) : SmG G μ E κ pc L (.inr (.inl y) :: .inl x :: .inr (.inr a) :: st) (t, m) r := by
  subst hp
  obtain ⟨n, hs, hin⟩ := ar_sh hs
  refine Sm.wr (fun β D cA p l e R s mm args below meth cc H locs ls cells slots Q C hW _ _ _ kk => ?_) kk
  show W p l _ R s mm args below meth cc H locs cells slots Q (F0 mm pc ls (.long y :: .int x :: rv β a :: vs β st))
  rw [hW.ref hs]
  have hK := C.2.2.2.2.2.1.1
  refine W.last C.1 C.2.1 (hW.arr hs) ((hK.2 1 _ rfl).1 n (fun j => .long (gl m a j))) (fun q => by cases q) (by show ¬ (x < 0 ∨ (arrV _ _ _).slots.size ≤ _); rw [arrV_size]; exact hin) rfl rfl (C.dk hd) fun H1 e z oq => ?_
  refine kk H1 [⟨β.1 + a, _⟩] (hW.setA hs rfl e z oq (fun r h => ce_sl r h) ?_) z (fun q hq => oq q ?_) ?_
  · show (arrV (cA .long) n (fun j => .long (gl m a j))).setSlot _ _ = arrV (cA .long) n (fun j => .long (gl (sl m a (ix x) y) a j))
    rw [arrV_store]
    congr 1
    funext j
    unfold updV gl sl ix
    by_cases hj : j = x.toNatClampNeg
    · simp [hj]
    · simp [hj]
  · have := (sh_le hs).1
    show q ≠ β.1 + a
    omega
  · intro q hq
    rw [List.mem_singleton.mp hq]
    have := (sh_le hs).1
    show β.1 < β.1 + a
    omega
end MemR
