/-! The pure picture: values, memory, shapes; the judgement 'Sm'. -/
abbrev PV : Type := Int32 ⊕ (Int64 ⊕ Nat)
abbrev Sh : Type := Nat ⊕ (FieldType × Nat)
abbrev Mi : Type := (Nat → Nat → Int32) × ((Nat → Nat → Int64) × (Nat → Nat → Nat))
abbrev Mm : Type := List Sh × Mi
abbrev Bs : Type := Nat × (Nat → Nat)
abbrev Rs : Type := Option PV × Mm
abbrev Tb : Type := List (Nat × (Instr × Nat))
abbrev Fx : Type := MethodName × (ByteArray × (Nat × (Option FieldType × Tb)))
abbrev Ev : Type := Nat × (Nat × (Nat × (Nat × Nat)))
def pcat (v : PV) : Nat := match v with
  | .inr (.inl _) => 2
  | _ => 1
def rf (β : Bs) (n : Nat) : Option Nat := if n = 0 then none else if n < 1048576 then some (β.1 + n) else some (β.2 (n - 1048576))
def rv (β : Bs) (n : Nat) : Value := va_rf (rf β n)
def vv (β : Bs) (v : PV) : Value := match v with
  | .inl x => .int x
  | .inr (.inl x) => .long x
  | .inr (.inr n) => rv β n
def sh (t : List Sh) (n : Nat) : Option Sh := if n = 0 then none else t[n - 1]?
def gi (m : Mi) (a k : Nat) : Int32 := m.1 a k
def gl (m : Mi) (a k : Nat) : Int64 := m.2.1 a k
def gr (m : Mi) (a k : Nat) : Nat := m.2.2 a k
def si (m : Mi) (a k : Nat) (v : Int32) : Mi := (fun x j => if x = a ∧ j = k then v else m.1 x j, m.2)
def sl (m : Mi) (a k : Nat) (v : Int64) : Mi := (m.1, (fun x j => if x = a ∧ j = k then v else m.2.1 x j, m.2.2))
def sr (m : Mi) (a k : Nat) (v : Nat) : Mi := (m.1, (m.2.1, fun x j => if x = a ∧ j = k then v else m.2.2 x j))
def shz (s : Sh) : Nat := match s with
  | .inl c => fN c
  | .inr q => q.2
def zs (t : List Sh) : Nat := (t.map shz).sum
def lt {α β : Type} (x : α) (f : α → β) : β := f x
def fval (β : Bs) (m : Mi) (c r k : Nat) : Value := match fT c k with
  | .long => .long (gl m r k)
  | .object _ => rv β (gr m r k)
  | .array _ => rv β (gr m r k)
  | _ => .int (gi m r k)
def aval (β : Bs) (m : Mi) (r : Nat) (ty : FieldType) : (Nat → Int32) ⊕ (Nat → Int64) ⊕ (Nat → UInt32) ⊕ (Nat → UInt64) ⊕ (Nat → Option Nat) := match ty with
  | .long => .inr (.inl (gl m r))
  | .object _ => .inr (.inr (.inr (.inr (fun j => rf β (gr m r j)))))
  | .array _ => .inr (.inr (.inr (.inr (fun j => rf β (gr m r j)))))
  | _ => .inl (gi m r)
def ce (β : Bs) (cA : FieldType → ClassId) (t : List Sh) (m : Mi) (r : Nat) : va_E := match sh t r with
  | some (.inl c) => .inr (c, (List.range (fN c)).map (fun k => fval β m c r k))
  | some (.inr q) => .inl (cA q.1, (q.2, aval β m r q.1))
  | none => .inr (0, [])
def WH (β : Bs) (D : va_G) (cA : FieldType → ClassId) (M : Mm) (H : Heap) : Prop :=
  H.size = β.1 + 1 + M.1.length ∧ M.1.length < 1048576 ∧ ∀ r, 0 < r → r ≤ M.1.length → va_at D CL (β.1 + r, ce β cA M.1 M.2 r) H
def TYS (cA : FieldType → ClassId) : List (ClassId × FieldType) := [(cA .int, .int), (cA .long, .long), (cA .byte, .byte), (cA .boolean, .boolean), (cA (.object RX4), .object RX4), (cA (.object RX2), .object RX2), (cA (.object RX7), .object RX7), (cA (.object RX0), .object RX0)]
def sLen : List Nat := [7, 4, 5, 5, 1, 4, 0, 4, 1, 2, 1]
def sByt : List (List Int32) := [[112, 97, 99, 107, 97, 103, 101], [119, 97, 110, 116], [110, 101, 101, 100, 115], [99, 108, 97, 115, 104], [42], [110, 111, 110, 101], [], [32, 124, 124, 32], [46], [62, 61], [32]]
def sRef : List (String × Nat × String × Nat) := [(RX9, 91, "package", 0), (RX9, 97, "want", 1), (RX9, 99, "needs", 2), (RX9, 101, "clash", 3), (RX3, 40, "*", 4), (RX3, 50, "none", 5), (RX3, 52, "", 6), (RX3, 54, " || ", 7), (RX3, 155, ".", 8), (RX3, 148, ">=", 9), (RX3, 150, " ", 10), (RX3, 110, "want", 1), (RX3, 119, "needs", 2), (RX3, 121, "clash", 3)]
/-- what is known of the strings and of the JDK's statics -/
def SX (β : Bs) (U : State) (H : Heap) : Prop :=
  vk_S 11 sLen sByt β.2 (fun k => β.2 (11 + k)) (fun q => β.1 < q) U H ∧ (∀ q ∈ sRef, vk_R q.1 q.2.1 q.2.2.1 (β.2 q.2.2.2) U) ∧
  va_Z "java/lang/String" "COMPACT_STRINGS" "Z" (.int 1) (fun q => β.1 < q) U H ∧ va_X (β.2 23) (β.2 24) (fun j => Int32.ofNat (β.2 (25 + j))) U H ∧ β.2 23 ≤ β.1 ∧ (va_Z "jdk/internal/util/Preconditions" "SIOOBE_FORMATTER" "Ljava/util/function/BiFunction;" .null (fun q => β.1 < q) U H ∨ va_Z "jdk/internal/util/Preconditions" "SIOOBE_FORMATTER" "Ljava/util/function/BiFunction;" (.ref (β.2 22)) (fun q => β.1 < q) U H)
def AO4 (U : State) : Prop := va_AO RX4 U ∧ va_AO RX2 U ∧ va_AO RX7 U ∧ va_AO RX0 U
def KS (β : Bs) (D : va_G) (cA : FieldType → ClassId) (U : State) : Prop := va_K D CL (TYS cA) U ∧ SX β U U.heap ∧ AO4 U ∧ β.1 < U.heap.size
theorem SX.go {β : Bs} {s U : State} {H : Heap} (h : SX β s s.heap) (hW : s.WarmedH U.vm) (hz : β.1 < s.heap.size) (ho : ∀ q : Nat, q ≤ β.1 → H[q]? = s.heap[q]?) : SX β U H := by
  have ho' : ∀ a : Nat, a < s.heap.size → ¬ β.1 < a → H[a]? = s.heap[a]? := fun a _ h2 => ho a (Nat.le_of_not_lt h2)
  obtain ⟨h1, h2, h3, h5, h6, h4⟩ := h
  exact ⟨(h1.moved hW.alike).kept ho', fun q hq => (h2 q hq).warm hW, (h3.moved hW.alike).kept ho', (h5.moved hW.alike).kept (ho _ h6), h6, h4.elim (fun h => Or.inl ((h.moved hW.alike).kept ho')) (fun h => Or.inr ((h.moved hW.alike).kept ho'))⟩
theorem KS.go {β : Bs} {D : va_G} {cA : FieldType → ClassId} {s U : State} (h : KS β D cA s) (hW : s.WarmedH U.vm) (hz : s.heap.size ≤ U.heap.size) (ho : ∀ q : Nat, q ≤ β.1 → U.heap[q]? = s.heap[q]?) : KS β D cA U := by
  obtain ⟨h1, h2, ⟨a1, a2, a3, a4⟩, h4⟩ := h
  exact ⟨h1.moved hW.alike, h2.go hW h4 ho, ⟨a1.moved hW.alike, a2.moved hW.alike, a3.moved hW.alike, a4.moved hW.alike⟩, Nat.lt_of_lt_of_le h4 hz⟩
/-- what holds all through a method's body -/
def CX (β : Bs) (D : va_G) (cA : FieldType → ClassId) (μ : Fx) (p : Program) (s : State) (m : MethodId) (args : Array Value) (meth : Method) (c : Code) : Prop :=
  p.tables.exec = Jvm.exec ∧ c.code = μ.2.1 ∧ c.maxLocals = μ.2.2.1 ∧ s.vm.findClass μ.1.cls = some m.cls ∧ (∀ w ∈ TB, w.before args s = true) ∧ KS β D cA s ∧ meth.sig.returnType = μ.2.2.2.1 ∧ meth.locks = false ∧ meth.name = μ.1.name ∧ (∀ q ∈ μ.2.2.2.2, decode μ.2.1 q.1 = .ok q.2)
theorem CX.dk {β : Bs} {D : va_G} {cA : FieldType → ClassId} {μ : Fx} {p : Program} {s : State} {m : MethodId} {args : Array Value} {meth : Method} {c : Code} (C : CX β D cA μ p s m args meth c) {i pc len : Nat} {ins : Instr} (h : μ.2.2.2.2[i]? = some (pc, (ins, len))) : decode μ.2.1 pc = .ok (ins, len) := by
  obtain ⟨-, -, -, -, -, -, -, -, -, hd⟩ := C
  exact hd (pc, (ins, len)) (List.mem_of_getElem? h)
def vl (β : Bs) (L : List (Nat × PV)) : List (Nat × Value) := L.map (fun q => (q.1, vv β q.2))
def vs (β : Bs) (st : List PV) : List Value := st.map (vv β)
def Qm (β : Bs) (D : va_G) (cA : FieldType → ClassId) (res : Rs) : Array Value → State → Outcome → State → Prop := fun _ st o t =>
  o = .returned (res.1.map (vv β)) ∧ WH β D cA res.2 t.heap ∧ ∀ q : Nat, q ≤ β.1 → t.heap[q]? = st.heap[q]?
def PW (G : Bs → Prop) (μ : Fx) (E : Ev) (res : Rs) (pc : Nat) (L : List (Nat × PV)) (st : List PV) (M : Mm) : Prop :=
  ∀ (β : Bs) (D : va_G) (cA : FieldType → ClassId) (p : Program) (l : Launch) (e : Env) (R : Room) (s : State) (m : MethodId) (args : Array Value) (below : List Frame) (meth : Method) (c : Code) (H : Heap) (locs : List Loc) (ls : Array Slot),
    G β → CX β D cA μ p s m args meth c → WH β D cA M H → (∀ q : Nat, q ≤ β.1 → H[q]? = s.heap[q]?) → (∀ q ∈ locs, β.1 < q.base) → s.heap.size ≤ H.size → lv_has ls μ.2.2.1 (vl β L) →
    E.2.2.2.1 ≤ M.1.length → E.2.2.2.2 ≤ zs M.1 → res.2.1.length ≤ E.2.2.2.1 + E.2.1 → zs res.2.1 ≤ E.2.2.2.2 + E.2.2.1 → E.1 ≤ R.frames → 60 * E.1 ≤ R.locals → R.cells = E.2.1 → R.slots = E.2.2.1 →
    W p l e R s m args below meth c H locs (M.1.length - E.2.2.2.1) (zs M.1 - E.2.2.2.2) (MQ below (Qm β D cA res) args s E.2.1 E.2.2.1 (fun q => β.1 < q)) (F0 m pc ls (vs β st))
def SmG {α : Type} (G : Bs → Prop) (μ : Fx) (E : Ev) (κ : α → Option Rs) (pc : Nat) (L : List (Nat × PV)) (st : List PV) (M : Mm) (r : Option α) : Prop :=
  ∀ res : Rs, r.bind κ = some res → (M.1.length ≤ res.2.1.length ∧ zs M.1 ≤ zs res.2.1) ∧ PW G μ E res pc L st M
abbrev Sm {α : Type} (μ : Fx) (E : Ev) (κ : α → Option Rs) (pc : Nat) (L : List (Nat × PV)) (st : List PV) (M : Mm) (r : Option α) : Prop := SmG (fun _ => True) μ E κ pc L st M r
section SmGo
variable {α : Type} {G : Bs → Prop} {μ : Fx} {E : Ev} {κ : α → Option Rs} {pc pc' : Nat} {L L' : List (Nat × PV)} {st st' : List PV} {M : Mm} {r : Option α}
theorem Sm.go (h : ∀ (β : Bs) (D : va_G) (cA : FieldType → ClassId) (p : Program) (l : Launch) (e : Env) (R : Room) (s : State) (m : MethodId) (args : Array Value) (below : List Frame) (meth : Method) (c : Code) (H : Heap) (locs : List Loc) (ls : Array Slot) (cells slots : Nat) (Q : State → Prop),
      CX β D cA μ p s m args meth c → lv_has ls μ.2.2.1 (vl β L) → (∀ ls' : Array Slot, lv_has ls' μ.2.2.1 (vl β L') → W p l e R s m args below meth c H locs cells slots Q (F0 m pc' ls' (vs β st'))) → W p l e R s m args below meth c H locs cells slots Q (F0 m pc ls (vs β st)))
    (k : SmG G μ E κ pc' L' st' M r) : SmG G μ E κ pc L st M r := by
  intro res hr
  obtain ⟨h1, h2⟩ := k res hr
  refine ⟨h1, ?_⟩
  intro β D cA p l e R s m args below meth c H locs ls hG C hW ho hl hz hls a1 a2 a3 a4 b1 b2 b3 b4
  exact h β D cA p l e R s m args below meth c H locs ls _ _ _ C hls (fun ls' hls' => h2 β D cA p l e R s m args below meth c H locs ls' hG C hW ho hl hz hls' a1 a2 a3 a4 b1 b2 b3 b4)
theorem vl_at {β : Bs} {ls : Array Slot} {nL : Nat} {L : List (Nat × PV)} (h : lv_has ls nL (vl β L)) {k i : Nat} {v : PV} (hk : L[k]? = some (i, v)) : ls[i]? = some (.val (vv β v)) := by
  refine lv_at h k ?_
  simp [vl, hk]
def stL (L : List (Nat × PV)) (i : Nat) (v : PV) : List (Nat × PV) := (i, v) :: L.filter (fun q => !(q.1 == i) && !(q.1 + 1 == i && pcat q.2 == 2))
def stL2 (L : List (Nat × PV)) (i : Nat) (v : PV) : List (Nat × PV) := (i, v) :: L.filter (fun q => !(q.1 == i) && (!(q.1 == i + 1) && !(q.1 + 1 == i && pcat q.2 == 2)))
theorem rv_cat (β : Bs) (n : Nat) : (rv β n).category = 1 := by
  unfold rv rf
  split
  · rfl
  · split <;> rfl
theorem vv_cat (β : Bs) (v : PV) : (vv β v).category = pcat v := by
  rcases v with x | x | n
  · rfl
  · rfl
  · exact rv_cat β n
theorem rv_cases (β : Bs) (n : Nat) : (n = 0 ∧ rv β n = .null) ∨ (n ≠ 0 ∧ ∃ a, rv β n = .ref a) := by
  by_cases h : n = 0
  · exact Or.inl ⟨h, by simp [rv, rf, h, va_rf]⟩
  · refine Or.inr ⟨h, ?_⟩
    by_cases h2 : n < 1048576
    · exact ⟨β.1 + n, by simp [rv, rf, h, h2, va_rf]⟩
    · exact ⟨β.2 (n - 1048576), by simp [rv, rf, h, h2, va_rf]⟩
theorem vl_stL (β : Bs) (L : List (Nat × PV)) (i : Nat) (v : PV) : (i, vv β v) :: (vl β L).filter (fun q => !(q.1 == i) && !(q.1 + 1 == i && q.2.category == 2)) = vl β (stL L i v) := by
  simp only [vl, stL, List.map_cons, List.filter_map]
  congr 2
  apply List.filter_congr
  intro q _
  simp [vv_cat]
theorem vl_stL2 (β : Bs) (L : List (Nat × PV)) (i : Nat) (v : PV) : (i, vv β v) :: (vl β L).filter (fun q => !(q.1 == i) && (!(q.1 == i + 1) && !(q.1 + 1 == i && q.2.category == 2))) = vl β (stL2 L i v) := by
  simp only [vl, stL2, List.map_cons, List.filter_map]
  congr 2
  apply List.filter_congr
  intro q _
  simp [vv_cat]
end SmGo
section Rows
variable {α : Type} {G : Bs → Prop} {μ : Fx} {E : Ev} {κ : α → Option Rs} {pc : Nat} {L : List (Nat × PV)} {st : List PV} {M : Mm} {r : Option α}
theorem r_iconst (i pc' : Nat) {n : Int} {v : Int32} (hd : μ.2.2.2.2[i]? = some (pc, (.iconst n, 1))) (hp : pc + 1 = pc') (hv : Int32.ofInt n = v) (k : SmG G μ E κ pc' L (.inl v :: st) M r) : SmG G μ E κ pc L st M r := by
  subst hp
  exact Sm.go (fun β D cA p l e R s m args below meth c H locs ls cells slots Q C hl kk => lv_iconst C.1 C.2.1 (C.dk hd) hv (kk ls hl)) k
theorem r_bipush (i pc' : Nat) {n : Int} {v : Int32} (hd : μ.2.2.2.2[i]? = some (pc, (.bipush n, 2))) (hp : pc + 2 = pc') (hv : (Int8.ofInt n).toInt32 = v) (k : SmG G μ E κ pc' L (.inl v :: st) M r) : SmG G μ E κ pc L st M r := by
  subst hp
  exact Sm.go (fun β D cA p l e R s m args below meth c H locs ls cells slots Q C hl kk => lv_bipush C.1 C.2.1 (C.dk hd) hv (kk ls hl)) k
theorem r_sipush (i pc' : Nat) {n : Int} {v : Int32} (hd : μ.2.2.2.2[i]? = some (pc, (.sipush n, 3))) (hp : pc + 3 = pc') (hv : (Int16.ofInt n).toInt32 = v) (k : SmG G μ E κ pc' L (.inl v :: st) M r) : SmG G μ E κ pc L st M r := by
  subst hp
  exact Sm.go (fun β D cA p l e R s m args below meth c H locs ls cells slots Q C hl kk => lv_sipush C.1 C.2.1 (C.dk hd) hv (kk ls hl)) k
theorem r_lconst (i pc' : Nat) {n : Fin 2} {v : Int64} (hd : μ.2.2.2.2[i]? = some (pc, (.lconst n, 1))) (hp : pc + 1 = pc') (hv : Int64.ofNat (n : Nat) = v) (k : SmG G μ E κ pc' L (.inr (.inl v) :: st) M r) : SmG G μ E κ pc L st M r := by
  subst hp
  exact Sm.go (fun β D cA p l e R s m args below meth c H locs ls cells slots Q C hl kk => lv_lconst C.1 C.2.1 (C.dk hd) hv (kk ls hl)) k
theorem r_null (i pc' : Nat) (hd : μ.2.2.2.2[i]? = some (pc, (.aconst_null, 1))) (hp : pc + 1 = pc') (k : SmG G μ E κ pc' L (.inr (.inr 0) :: st) M r) : SmG G μ E κ pc L st M r := by
  subst hp
  exact Sm.go (fun β D cA p l e R s m args below meth c H locs ls cells slots Q C hl kk => lv_null C.1 C.2.1 (C.dk hd) (kk ls hl)) k
theorem r_iload_n (i pc' q : Nat) {n : Fin 4} {j : Nat} {x : Int32} (hd : μ.2.2.2.2[i]? = some (pc, (.iload_n n, 1))) (hp : pc + 1 = pc') (hj : (n : Nat) = j) (hq : L[q]? = some (j, .inl x)) (k : SmG G μ E κ pc' L (.inl x :: st) M r) : SmG G μ E κ pc L st M r := by
  subst hp
  exact Sm.go (fun β D cA p l e R s m args below meth c H locs ls cells slots Q C hl kk => lv_iload_n C.1 C.2.1 (C.dk hd) hj (vl_at hl hq) (kk ls hl)) k
theorem r_iload (i pc' q : Nat) {j : Nat} {x : Int32} (hd : μ.2.2.2.2[i]? = some (pc, (.iload j, 2))) (hp : pc + 2 = pc') (hq : L[q]? = some (j, .inl x)) (k : SmG G μ E κ pc' L (.inl x :: st) M r) : SmG G μ E κ pc L st M r := by
  subst hp
  exact Sm.go (fun β D cA p l e R s m args below meth c H locs ls cells slots Q C hl kk => lv_iload C.1 C.2.1 (C.dk hd) (vl_at hl hq) (kk ls hl)) k
theorem r_lload_n (i pc' q : Nat) {n : Fin 4} {j : Nat} {x : Int64} (hd : μ.2.2.2.2[i]? = some (pc, (.lload_n n, 1))) (hp : pc + 1 = pc') (hj : (n : Nat) = j) (hq : L[q]? = some (j, .inr (.inl x))) (k : SmG G μ E κ pc' L (.inr (.inl x) :: st) M r) : SmG G μ E κ pc L st M r := by
  subst hp
  exact Sm.go (fun β D cA p l e R s m args below meth c H locs ls cells slots Q C hl kk => lv_lload_n C.1 C.2.1 (C.dk hd) hj (vl_at hl hq) (kk ls hl)) k
theorem r_lload (i pc' q : Nat) {j : Nat} {x : Int64} (hd : μ.2.2.2.2[i]? = some (pc, (.lload j, 2))) (hp : pc + 2 = pc') (hq : L[q]? = some (j, .inr (.inl x))) (k : SmG G μ E κ pc' L (.inr (.inl x) :: st) M r) : SmG G μ E κ pc L st M r := by
  subst hp
  exact Sm.go (fun β D cA p l e R s m args below meth c H locs ls cells slots Q C hl kk => lv_lload C.1 C.2.1 (C.dk hd) (vl_at hl hq) (kk ls hl)) k
theorem r_aload_n (i pc' q : Nat) {n : Fin 4} {j x : Nat} (hd : μ.2.2.2.2[i]? = some (pc, (.aload_n n, 1))) (hp : pc + 1 = pc') (hj : (n : Nat) = j) (hq : L[q]? = some (j, .inr (.inr x))) (k : SmG G μ E κ pc' L (.inr (.inr x) :: st) M r) : SmG G μ E κ pc L st M r := by
  subst hp
  refine Sm.go (fun β D cA p l e R s m args below meth c H locs ls cells slots Q C hl kk => ?_) k
  have hv := vl_at hl hq
  have k1 : W p l e R s m args below meth c H locs cells slots Q (F0 m (pc + 1) ls (rv β x :: vs β st)) := kk ls hl
  change ls[j]? = some (.val (rv β x)) at hv
  rcases rv_cases β x with ⟨-, h⟩ | ⟨-, a, h⟩
  · rw [h] at hv k1
    exact lv_aload_nN C.1 C.2.1 (C.dk hd) hj hv k1
  · rw [h] at hv k1
    exact lv_aload_n C.1 C.2.1 (C.dk hd) hj hv k1
theorem r_aload (i pc' q : Nat) {j x : Nat} (hd : μ.2.2.2.2[i]? = some (pc, (.aload j, 2))) (hp : pc + 2 = pc') (hq : L[q]? = some (j, .inr (.inr x))) (k : SmG G μ E κ pc' L (.inr (.inr x) :: st) M r) : SmG G μ E κ pc L st M r := by
  subst hp
  refine Sm.go (fun β D cA p l e R s m args below meth c H locs ls cells slots Q C hl kk => ?_) k
  have hv := vl_at hl hq
  have k1 : W p l e R s m args below meth c H locs cells slots Q (F0 m (pc + 2) ls (rv β x :: vs β st)) := kk ls hl
  change ls[j]? = some (.val (rv β x)) at hv
  rcases rv_cases β x with ⟨-, h⟩ | ⟨-, a, h⟩
  · rw [h] at hv k1
    exact lv_aloadN C.1 C.2.1 (C.dk hd) hv k1
  · rw [h] at hv k1
    exact lv_aload C.1 C.2.1 (C.dk hd) hv k1
theorem r_iadd (i pc' : Nat) {x y : Int32} (hd : μ.2.2.2.2[i]? = some (pc, (.iadd, 1))) (hp : pc + 1 = pc') (k : SmG G μ E κ pc' L (.inl (x + y) :: st) M r) : SmG G μ E κ pc L (.inl y :: .inl x :: st) M r := by
  subst hp
  exact Sm.go (fun β D cA p l e R s m args below meth c H locs ls cells slots Q C hl kk => lv_iadd C.1 C.2.1 (C.dk hd) (kk ls hl)) k
theorem r_icmp_ge (i pc1 pc2 : Nat) {off : Int} {x y : Int32} {r1 r2 : Option α} (hd : μ.2.2.2.2[i]? = some (pc, (.if_icmp .ge off, 3))) (ht : (pc : Int) + off = (pc1 : Int)) (hp : pc + 3 = pc2) (k1 : y ≤ x → SmG G μ E κ pc1 L st M r1) (k2 : ¬ y ≤ x → SmG G μ E κ pc2 L st M r2) : SmG G μ E κ pc L (.inl y :: .inl x :: st) M (if y ≤ x then r1 else r2) := by
  subst hp
  by_cases hc : y ≤ x
  · rw [if_pos hc]
    exact Sm.go (fun β D cA p l e R s m args below meth c H locs ls cells slots Q C hl kk => lv_icmp_ge C.1 C.2.1 (C.dk hd) ht (fun _ => kk ls hl) (fun hn => absurd hc hn)) (k1 hc)
  · rw [if_neg hc]
    exact Sm.go (fun β D cA p l e R s m args below meth c H locs ls cells slots Q C hl kk => lv_icmp_ge C.1 C.2.1 (C.dk hd) ht (fun hn => absurd hn hc) (fun _ => kk ls hl)) (k2 hc)
end Rows
