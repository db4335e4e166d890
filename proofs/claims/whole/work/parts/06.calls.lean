/-! Contracts, calls, returns. -/
def Ct (μ : Fx) (d mc ms : Nat) (av : List PV) (M : Mm) (res : Rs) : Prop := ∀ (l : Launch) (β : Bs) (D : va_G) (cA : FieldType → ClassId),
  Met l μ.1 (Cond.code μ.1 μ.2.1 μ.2.2.1 μ.2.2.2.1 :: TB) { frames := d, cells := mc, slots := ms, locals := 60 * d } (va_Pc (vs β av) (fun U => WH β D cA M U.heap ∧ KS β D cA U)) (Qm β D cA res) mc ms (fun q => β.1 < q)
def la : Nat → List PV → List (Nat × PV)
  | _, [] => []
  | i, v :: w => (i, v) :: la (i + pcat v) w
theorem la_vl (β : Bs) (av : List PV) : ∀ i, lv_args i (vs β av) = vl β (la i av) := by
  induction av with
  | nil => intro i; rfl
  | cons v w ih =>
    intro i
    show (i, vv β v) :: lv_args (if (vv β v).category = 2 then i + 2 else i + 1) (vs β w) = (i, vv β v) :: vl β (la (i + pcat v) w)
    rw [ih, vv_cat]
    congr 3
    rcases v with x | x | n <;> rfl
theorem lg_len (β : Bs) (av : List PV) : (lg_sl (vs β av)).length = (av.map pcat).sum := by
  induction av with
  | nil => rfl
  | cons v w ih =>
    have e : lg_sl (vs β (v :: w)) = (if (vv β v).category = 2 then [.val (vv β v), .second] else [.val (vv β v)]) ++ lg_sl (vs β w) := by
      simp [lg_sl, vs]
    rw [e, List.length_append, ih, List.map_cons, List.sum_cons, vv_cat]
    rcases v with x | x | n <;> rfl
theorem TB_good : ∀ w ∈ TB, goodWord w = true := fun w hw => (List.mem_filter.mp hw).2
theorem KS.calling {β : Bs} {D : va_G} {cA : FieldType → ClassId} {U : State} (g : JFrame) (mk : MethodId) (a : Array Value) (h : KS β D cA U) : KS β D cA (U.calling g mk a) :=
  KS.go (s := U) (U := U.calling g mk a) h (State.WarmedH.refl U) (Nat.le_refl _) (fun _ _ => rfl)
theorem ct_of {α : Type} {μ : Fx} {d mc ms : Nat} {av : List PV} {M : Mm} {res : Rs} {κ : α → Option Rs} {r : Option α} (hy : plainName μ.1.cls = true) (htb : ∀ q ∈ μ.2.2.2.2, decode μ.2.1 q.1 = .ok q.2) (hn : (av.map pcat).sum ≤ μ.2.2.1)
    (h : Sm μ (d, mc, ms, M.1.length, zs M.1) κ 0 (la 0 av) [] M r) (hr : r.bind κ = some res) (h1 : res.2.1.length ≤ M.1.length + mc) (h2 : zs res.2.1 ≤ zs M.1 + ms) : Ct μ d mc ms av M res := by
  intro l β D cA
  refine Met.ofW (cc := μ.2.1) (maxL := μ.2.2.1) (ret := μ.2.2.2.1) hy rfl ?_
  intro p e s m args below meth c s₁ B hml hv
  obtain ⟨rfl, hW, hK⟩ := hv
  have hts := atoms_spec (ws := Cond.code μ.1 μ.2.1 μ.2.2.1 μ.2.2.2.1 :: TB) B.pre
  have hC : CX β D cA μ p s m (vs β av).toArray meth c := ⟨B.exec, B.bytes, hml, findClass_of_methodNamed B.named, fun w hw => hts w (List.mem_cons_of_mem _ hw), hK, B.returns, B.notSynchronized, (name_of_methodNamed B.named B.method).1, htb⟩
  have hl := lv_entry (vs β av) (n := μ.2.2.1) (by rw [lg_len]; exact hn)
  rw [lg_entry_eq]
  rw [la_vl] at hl
  have := (h res hr).2 β D cA p l e (headSpec (Cond.code μ.1 μ.2.1 μ.2.2.1 μ.2.2.2.1 :: TB) { frames := d, cells := mc, slots := ms, locals := 60 * d }).room s m (vs β av).toArray below meth c s.heap [] _ trivial hC hW (fun _ _ => rfl) (fun _ h => by cases h) (Nat.le_refl _) hl (Nat.le_refl _) (Nat.le_refl _) h1 h2 (Nat.le_refl _) (Nat.le_refl _) rfl rfl
  simp only [Nat.sub_self] at this
  exact this
/-- what the tables say of a method -/
def MC (μ : Fx) (n : Nat) : Prop := Cond.code μ.1 μ.2.1 μ.2.2.1 μ.2.2.2.1 ∈ TB ∧ Cond.initialized μ.1.cls ∈ TB ∧ (μ.1.cls ≠ "java/lang/invoke/MethodHandle" ∧ μ.1.cls ≠ "java/lang/invoke/VarHandle" ∧ (parseMethodDescriptor μ.1.desc).map (fun d => d.parameters.length) = some n) ∧ μ.2.2.1 ≤ 41
theorem vs_rev (β : Bs) (av st : List PV) : vs β (av.reverse ++ st) = (vs β av).reverse ++ vs β st := by
  simp [vs]
theorem vs_cat (β : Bs) (st : List PV) : ((vs β st).map fun v => v.category).sum = (st.map pcat).sum := by
  congr 1
  simp only [vs, List.map_map]
  apply List.map_congr_left
  intro v _
  exact vv_cat β v
section Calls
variable {p : Program} {l : Launch} {e : Env} {s : State} {m : MethodId} {args : Array Value} {below : List Frame} {meth : Method} {c : Code} {H : Heap} {locs : List Loc} {cells slots : Nat} {Q : State → Prop}
variable {β : Bs} {D : va_G} {cA : FieldType → ClassId} {μ μ' : Fx} {pc : Nat} {ls : Array Slot} {E : Ev} {M : Mm} {av st : List PV} {n d mc ms idx : Nat} {res : Rs}
theorem c_B {R : Room} (C : CX β D cA μ p s m args meth c) (hM : MC μ' n) (hl : Cond.methodLink μ.1.cls idx μ'.1 ∈ TB) (hd : d < E.1) (hf : E.1 ≤ R.frames) (hlo : 60 * E.1 ≤ R.locals) :
    CallB R s args μ.1.cls idx μ'.1 μ'.2.1 μ'.2.2.1 μ'.2.2.2.1 (Cond.code μ'.1 μ'.2.1 μ'.2.2.1 μ'.2.2.2.1 :: TB) { frames := d, cells := mc, slots := ms, locals := 60 * d } mc ms n := by
  have hts := C.2.2.2.2.1
  obtain ⟨h1, h2, h3, h4⟩ := hM
  refine callB_of (ws' := TB) n hts (fun w hw => ?_) rfl rfl rfl (hts _ h2) (hts _ hl) h3 ⟨by show d + 1 ≤ R.frames; omega, by show 8 + (μ'.2.2.1 + 11) + 60 * d ≤ R.locals; omega⟩
  rcases List.mem_cons.mp hw with h | h
  · rw [h]
    exact ⟨h1, good_of_word (TB_good _ h1)⟩
  · exact ⟨h, good_of_word (TB_good _ h)⟩
theorem c_Pre (C : CX β D cA μ p s m args meth c) (hW : WH β D cA M H) (ho : ∀ q : Nat, q ≤ β.1 → H[q]? = s.heap[q]?) (hz : s.heap.size ≤ H.size) : PreS s H (va_Pc (vs β av) (fun U => WH β D cA M U.heap ∧ KS β D cA U)) (vs β av) :=
  ⟨fun a U g mk q => ⟨q.1, q.2.1, q.2.2.calling g mk a⟩, fun U hU hW' => ⟨rfl, by rw [hU]; exact hW, C.2.2.2.2.2.1.go hW' (by rw [hU]; exact hz) (fun q hq => by rw [hU]; exact ho q hq)⟩⟩
/-- behind a call -/
theorem c_back {R : Room} {mc ms : Nat} {st0 : List Value} (hr : va_Run p l e R s m args below meth c H locs cells slots mc ms (F0 m pc ls st0) (vs β st) (Qm β D cA res (vs β av).toArray) (fun q => β.1 < q)) (hl : ∀ q ∈ locs, β.1 < q.base)
    (kk : ∀ (H1 : Heap) (L1 : List Loc), WH β D cA res.2 H1 → (∀ q : Nat, q ≤ β.1 → H1[q]? = H[q]?) → (∀ q ∈ L1, β.1 < q.base) → W p l e R s m args below meth c H1 L1 (cells + mc) (slots + ms) Q (F0 m (pc + 3) ls (vs β (res.1.toList ++ st)))) : W p l e R s m args below meth c H locs cells slots Q (F0 m pc ls st0) := by
  intro T hT X
  obtain ⟨v, st₀, t, T', L', h0, X', hL, e1, e2, ⟨hv, hW', ho'⟩, go⟩ := hr T hT X
  rw [h0] at ho'
  have hv : v = res.1.map (vv β) := by injection hv
  subst hv
  obtain ⟨t2, a1, b1⟩ := kk T'.heap (locs ++ L') (by rw [e1]; exact hW') (fun q hq => by rw [e1]; exact ho' q hq) (fun q hq => (List.mem_append.mp hq).elim (hl q) (hL q)) T' rfl X'
  refine ⟨t2, go t2 ?_, b1⟩
  have e3 : vs β (res.1.toList ++ st) = (res.1.map (vv β)).toList ++ vs β st := by
    cases res.1 <;> simp [vs]
  rw [e3] at a1
  exact a1
end Calls
section CallRows
variable {α γ : Type} {G : Bs → Prop} {μ μ' : Fx} {E : Ev} {κ : α → Option Rs} {pc : Nat} {L : List (Nat × PV)} {st : List PV} {M : Mm} {g : Option γ} {f : γ → Option α} {vo : γ → Option PV} {mo : γ → Mm} {av : List PV} {n d mc ms idx : Nat}
/-- a call, whatever its kind: 'run' is the machine's part -/
theorem Sm.call (pc' : Nat) (hp : pc + 3 = pc') (hct : ∀ x, g = some x → Ct μ' d mc ms av M (vo x, mo x)) (hcs : ∀ x, g = some x → (mo x).1.length = M.1.length + mc ∧ zs (mo x).1 = zs M.1 + ms)
    (run : ∀ (x : γ) (β : Bs) (D : va_G) (cA : FieldType → ClassId) (p : Program) (l : Launch) (e : Env) (R : Room) (s : State) (m : MethodId) (args : Array Value) (below : List Frame) (meth : Method) (c : Code) (H : Heap) (locs : List Loc) (ls : Array Slot) (cells slots : Nat), E.1 ≤ R.frames → 60 * E.1 ≤ R.locals → g = some x → CX β D cA μ p s m args meth c → WH β D cA M H → (∀ q : Nat, q ≤ β.1 → H[q]? = s.heap[q]?) → s.heap.size ≤ H.size → ls.size = μ.2.2.1 → cells + mc ≤ R.cells ∧ slots + ms ≤ R.slots →
      Met l μ'.1 (Cond.code μ'.1 μ'.2.1 μ'.2.2.1 μ'.2.2.2.1 :: TB) { frames := d, cells := mc, slots := ms, locals := 60 * d } (va_Pc (vs β av) (fun U => WH β D cA M U.heap ∧ KS β D cA U)) (Qm β D cA (vo x, mo x)) mc ms (fun q => β.1 < q) →
      va_Run p l e R s m args below meth c H locs cells slots mc ms (F0 m pc ls (vs β (av.reverse ++ st))) (vs β st) (Qm β D cA (vo x, mo x) (vs β av).toArray) (fun q => β.1 < q))
    (k : ∀ x, g = some x → SmG G μ E κ pc' L ((vo x).toList ++ st) (mo x) (f x)) : SmG G μ E κ pc L (av.reverse ++ st) M (g.bind f) := by
  subst hp
  intro res hr
  cases hg : g with
  | none => rw [hg] at hr; cases hr
  | some x =>
    rw [hg] at hr
    obtain ⟨hm, hpw⟩ := k x hg res hr
    obtain ⟨c1, c2⟩ := hcs x hg
    refine ⟨⟨by omega, by omega⟩, ?_⟩
    intro β D cA p l e R s m args below meth c H locs ls hG C hW ho hl hz hls a1 a2 a3 a4 b1 b2 b3 b4
    refine c_back (run x β D cA p l e R s m args below meth c H locs ls _ _ b1 b2 hg C hW ho hz hls.1 ⟨by omega, by omega⟩ (hct x hg l β D cA)) hl (fun H1 L1 w1 w2 w3 => ?_)
    have := hpw β D cA p l e R s m args below meth c H1 L1 ls hG C w1 (fun q hq => (w2 q hq).trans (ho q hq)) w3 (by have w5 : H1.size = β.1 + 1 + (mo x).1.length := w1.1; have := hW.1; omega) hls (by omega) (by omega) a3 a4 b1 b2 b3 b4
    rw [c1, c2] at this
    rw [show M.1.length - E.2.2.2.1 + mc = M.1.length + mc - E.2.2.2.1 by omega, show zs M.1 - E.2.2.2.2 + ms = zs M.1 + ms - E.2.2.2.2 by omega]
    exact this
theorem r_invS (i pc' : Nat) (hd : μ.2.2.2.2[i]? = some (pc, (.invokestatic idx, 3))) (hp : pc + 3 = pc') (hM : MC μ' n) (hst : Cond.static μ'.1 ∈ TB) (hl : Cond.methodLink μ.1.cls idx μ'.1 ∈ TB) (hlv : d < E.1) (hn : av.length = n) (hw : (st.map pcat).sum ≤ 8)
    (hct : ∀ x, g = some x → Ct μ' d mc ms av M (vo x, mo x)) (hcs : ∀ x, g = some x → (mo x).1.length = M.1.length + mc ∧ zs (mo x).1 = zs M.1 + ms) (k : ∀ x, g = some x → SmG G μ E κ pc' L ((vo x).toList ++ st) (mo x) (f x)) : SmG G μ E κ pc L (av.reverse ++ st) M (g.bind f) := by
  refine Sm.call pc' hp hct hcs (fun x β D cA p l e R s m args below meth c H locs ls cells slots hb1 hb2 hg C hW ho hz hs hf hMet => ?_) k
  have hdd := C.dk hd
  refine va_runS (rest := vs β st) (As := vs β av) (n := n) ⟨C.1, C.2.1, C.2.2.1, C.2.2.2.1, C.2.2.2.2.1⟩ hMet ⟨c_B C hM hl hlv hb1 hb2, C.2.2.2.2.1 _ hst⟩ (c_Pre C hW ho hz) rfl (by simpa [vs] using hn) hs (vs_rev β av st) ?_ hdd hf
  rw [vs_cat]
  show 2 * 0 + _ ≤ 8
  omega
theorem r_invV (i pc' : Nat) {a cn : Nat} {av' : List PV} (hd : μ.2.2.2.2[i]? = some (pc, (.invokevirtual idx, 3))) (hp : pc + 3 = pc') (hM : MC μ' n) (hin : Cond.instanceMethod μ'.1 ∈ TB ∧ Cond.selects μ'.1.cls μ'.1 μ'.1 ∈ TB) (hl : Cond.methodLink μ.1.cls idx μ'.1 ∈ TB) (hlv : d < E.1) (hn : av'.length = n) (hav : av = .inr (.inr a) :: av') (hs : sh M.1 a = some (.inl cn)) (hcl : CL[cn]?.map (fun q => q.1) = some μ'.1.cls) (hw : (st.map pcat).sum ≤ 8)
    (hct : ∀ x, g = some x → Ct μ' d mc ms av M (vo x, mo x)) (hcs : ∀ x, g = some x → (mo x).1.length = M.1.length + mc ∧ zs (mo x).1 = zs M.1 + ms) (k : ∀ x, g = some x → SmG G μ E κ pc' L ((vo x).toList ++ st) (mo x) (f x)) : SmG G μ E κ pc L (av.reverse ++ st) M (g.bind f) := by
  refine Sm.call pc' hp hct hcs (fun x β D cA p l e R s m args below meth c H locs ls cells slots hb1 hb2 hg C hW ho hz hls hf hMet => ?_) k
  have hdd := C.dk hd
  have hr := hW.ref hs
  have hvs : vs β av = Value.ref (β.1 + a) :: vs β av' := by
    rw [hav]
    show rv β a :: vs β av' = _
    rw [hr]
  have hpre := c_Pre (av := av) C hW ho hz
  have hc1 : ∃ q, CL[cn]? = some q ∧ q.1 = μ'.1.cls := by
    cases hq : CL[cn]? with
    | none => rw [hq] at hcl; cases hcl
    | some q => rw [hq] at hcl; exact ⟨q, rfl, Option.some.inj hcl⟩
  obtain ⟨q, hq1, hq2⟩ := hc1
  have hrecv := va_recv C.2.2.2.2.2.1.1 (va_P1 (hW.obj hs)) hq1 (q0 := 0) rfl
  rw [hq2] at hrecv
  rw [hvs] at hpre hMet ⊢
  refine va_runV (rest := vs β st) (As := vs β av') (n := n) (C := μ'.1.cls) ⟨C.1, C.2.1, C.2.2.1, C.2.2.2.1, C.2.2.2.2.1⟩ hMet ⟨c_B C hM hl hlv hb1 hb2, C.2.2.2.2.1 _ hin.1, C.2.2.2.2.1 _ hin.2⟩ ⟨hpre.1, hrecv, hpre.2⟩ rfl (by simpa [vs] using hn) hls ?_ ?_ hdd hf
  · show vs β (av.reverse ++ st) = _
    rw [vs_rev, hvs]
    simp
  · rw [vs_cat]
    show 2 * 0 + _ ≤ 8
    omega
theorem r_invI (i pc' : Nat) {a : Nat} {x0 : Sh} {av' : List PV} (hd : μ.2.2.2.2[i]? = some (pc, (.invokespecial idx, 3))) (hp : pc + 3 = pc') (hM : MC μ' n) (hrt : μ'.2.2.2.1 = none) (hnm : μ'.1.name = "<init>") (hin : Cond.instanceMethod μ'.1 ∈ TB) (hl : Cond.methodLink μ.1.cls idx μ'.1 ∈ TB) (hlv : d < E.1) (hn : av'.length = n) (hav : av = .inr (.inr a) :: av') (hs : sh M.1 a = some x0) (hw : (st.map pcat).sum ≤ 8)
    (hct : ∀ x, g = some x → Ct μ' d mc ms av M (vo x, mo x)) (hcs : ∀ x, g = some x → (mo x).1.length = M.1.length + mc ∧ zs (mo x).1 = zs M.1 + ms) (k : ∀ x, g = some x → SmG G μ E κ pc' L ((vo x).toList ++ st) (mo x) (f x)) : SmG G μ E κ pc L (av.reverse ++ st) M (g.bind f) := by
  refine Sm.call pc' hp hct hcs (fun x β D cA p l e R s m args below meth c H locs ls cells slots hb1 hb2 hg C hW ho hz hls hf hMet => ?_) k
  have hdd := C.dk hd
  have hr := hW.ref hs
  have hvs : vs β av = Value.ref (β.1 + a) :: vs β av' := by
    rw [hav]
    show rv β a :: vs β av' = _
    rw [hr]
  have hpre := c_Pre (av := av) C hW ho hz
  rw [hvs] at hpre hMet ⊢
  have hB := c_B (mc := mc) (ms := ms) C hM hl hlv hb1 hb2
  rw [hrt] at hB hMet
  refine va_runI (rest := vs β st) (As := vs β av') (n := n) ⟨C.1, C.2.1, C.2.2.1, C.2.2.2.1, C.2.2.2.2.1⟩ hMet ⟨hB, hnm, C.2.2.2.2.1 _ hin⟩ hpre rfl (by simpa [vs] using hn) hls ?_ ?_ hdd hf
  · show vs β (av.reverse ++ st) = _
    rw [vs_rev, hvs]
    simp
  · rw [vs_cat]
    show 2 * 0 + _ ≤ 8
    omega
end CallRows
section Rets
variable {α : Type} {G : Bs → Prop} {μ : Fx} {E : Ev} {κ : α → Option Rs} {pc : Nat} {L : List (Nat × PV)} {M : Mm} {x : α}
theorem r_iret (i : Nat) {v : Int32} (hd : μ.2.2.2.2[i]? = some (pc, (.ireturn, 1))) (hr : μ.2.2.2.1 = some .int) (hk : κ x = some (some (.inl v), M)) : SmG G μ E κ pc L [.inl v] M (some x) := by
  intro res hres
  have e : res = (some (.inl v), M) := by
    rw [show (some x).bind κ = κ x from rfl, hk] at hres
    exact (Option.some.inj hres).symm
  subst e
  refine ⟨⟨Nat.le_refl _, Nat.le_refl _⟩, ?_⟩
  intro β D cA p l e R s m args below meth c H locs ls hG C hW ho hl hz hls a1 a2 a3 a4 b1 b2 b3 b4
  refine W.widen (k := E.2.1) (n := E.2.2.1) (by have a5 : M.1.length ≤ E.2.2.2.1 + E.2.1 := a3; omega) (by have a5 : zs M.1 ≤ E.2.2.2.2 + E.2.2.1 := a4; omega) ?_
  exact W.iret C.1 C.2.1 (C.2.2.2.2.2.2.1.trans hr) (fun t ht _ => ⟨rfl, by rw [ht]; exact hW, fun q hq => by rw [ht]; exact ho q hq⟩) hl (C.dk hd) C.2.2.2.2.2.2.2.1
theorem r_zret (i : Nat) {v : Int32} {ty : FieldType} (hd : μ.2.2.2.2[i]? = some (pc, (.ireturn, 1))) (hr : μ.2.2.2.1 = some ty) (hn : narrow ty (.int v) = .int v) (hk : κ x = some (some (.inl v), M)) : SmG G μ E κ pc L [.inl v] M (some x) := by
  intro res hres
  have e : res = (some (.inl v), M) := by
    rw [show (some x).bind κ = κ x from rfl, hk] at hres
    exact (Option.some.inj hres).symm
  subst e
  refine ⟨⟨Nat.le_refl _, Nat.le_refl _⟩, ?_⟩
  intro β D cA p l e R s m args below meth c H locs ls hG C hW ho hl hz hls a1 a2 a3 a4 b1 b2 b3 b4
  refine W.widen (k := E.2.1) (n := E.2.2.1) (by have a5 : M.1.length ≤ E.2.2.2.1 + E.2.1 := a3; omega) (by have a5 : zs M.1 ≤ E.2.2.2.2 + E.2.2.1 := a4; omega) ?_
  exact W.zret C.1 C.2.1 (C.2.2.2.2.2.2.1.trans hr) hn (fun t ht _ => ⟨rfl, by rw [ht]; exact hW, fun q hq => by rw [ht]; exact ho q hq⟩) hl (C.dk hd) C.2.2.2.2.2.2.2.1
theorem r_lret (i : Nat) {v : Int64} (hd : μ.2.2.2.2[i]? = some (pc, (.lreturn, 1))) (hr : μ.2.2.2.1 = some .long) (hk : κ x = some (some (.inr (.inl v)), M)) : SmG G μ E κ pc L [.inr (.inl v)] M (some x) := by
  intro res hres
  have e : res = (some (.inr (.inl v)), M) := by
    rw [show (some x).bind κ = κ x from rfl, hk] at hres
    exact (Option.some.inj hres).symm
  subst e
  refine ⟨⟨Nat.le_refl _, Nat.le_refl _⟩, ?_⟩
  intro β D cA p l e R s m args below meth c H locs ls hG C hW ho hl hz hls a1 a2 a3 a4 b1 b2 b3 b4
  refine W.widen (k := E.2.1) (n := E.2.2.1) (by have a5 : M.1.length ≤ E.2.2.2.1 + E.2.1 := a3; omega) (by have a5 : zs M.1 ≤ E.2.2.2.2 + E.2.2.1 := a4; omega) ?_
  exact W.lret C.1 C.2.1 (C.2.2.2.2.2.2.1.trans hr) (fun t ht _ => ⟨rfl, by rw [ht]; exact hW, fun q hq => by rw [ht]; exact ho q hq⟩) hl (C.dk hd) C.2.2.2.2.2.2.2.1
theorem r_aret (i : Nat) {v : Nat} {rt : FieldType} (hd : μ.2.2.2.2[i]? = some (pc, (.areturn, 1))) (hr : μ.2.2.2.1 = some rt) (hrt : isR rt = true) (hk : κ x = some (some (.inr (.inr v)), M)) : SmG G μ E κ pc L [.inr (.inr v)] M (some x) := by
  intro res hres
  have e : res = (some (.inr (.inr v)), M) := by
    rw [show (some x).bind κ = κ x from rfl, hk] at hres
    exact (Option.some.inj hres).symm
  subst e
  refine ⟨⟨Nat.le_refl _, Nat.le_refl _⟩, ?_⟩
  intro β D cA p l e R s m args below meth c H locs ls hG C hW ho hl hz hls a1 a2 a3 a4 b1 b2 b3 b4
  refine W.widen (k := E.2.1) (n := E.2.2.1) (by have a5 : M.1.length ≤ E.2.2.2.1 + E.2.1 := a3; omega) (by have a5 : zs M.1 ≤ E.2.2.2.2 + E.2.2.1 := a4; omega) ?_
  have h1 : (∃ n, rt = .object n) ∨ ∃ t, rt = .array t := by
    unfold isR at hrt
    split at hrt
    · exact Or.inl ⟨_, rfl⟩
    · exact Or.inr ⟨_, rfl⟩
    · cases hrt
  have h2 : rv β v = .null ∨ ∃ a, rv β v = .ref a := (rv_cases β v).elim (fun h => Or.inl h.2) (fun h => Or.inr h.2)
  exact W.aret C.1 C.2.1 (C.2.2.2.2.2.2.1.trans hr) h1 h2 (fun t ht _ => ⟨rfl, by rw [ht]; exact hW, fun q hq => by rw [ht]; exact ho q hq⟩) hl (C.dk hd) C.2.2.2.2.2.2.2.1
theorem r_vret (i : Nat) (hd : μ.2.2.2.2[i]? = some (pc, (.return_, 1))) (hr : μ.2.2.2.1 = none) (hk : κ x = some (none, M)) : SmG G μ E κ pc L [] M (some x) := by
  intro res hres
  have e : res = (none, M) := by
    rw [show (some x).bind κ = κ x from rfl, hk] at hres
    exact (Option.some.inj hres).symm
  subst e
  refine ⟨⟨Nat.le_refl _, Nat.le_refl _⟩, ?_⟩
  intro β D cA p l e R s m args below meth c H locs ls hG C hW ho hl hz hls a1 a2 a3 a4 b1 b2 b3 b4
  refine W.widen (k := E.2.1) (n := E.2.2.1) (by have a5 : M.1.length ≤ E.2.2.2.1 + E.2.1 := a3; omega) (by have a5 : zs M.1 ≤ E.2.2.2.2 + E.2.2.1 := a4; omega) ?_
  exact W.vret C.1 C.2.1 (C.2.2.2.2.2.2.1.trans hr) (fun t ht _ => ⟨rfl, by rw [ht]; exact hW, fun q hq => by rw [ht]; exact ho q hq⟩) hl (C.dk hd) C.2.2.2.2.2.2.2.1
end Rets
