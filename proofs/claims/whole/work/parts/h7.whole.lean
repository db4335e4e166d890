/-! THE CLAIM OUT OF ONE WALK OF THE LAW'S BODY. Your part is whole_start (and what it stands on); all else here is the same for every law, but numbers. -/
def R_law : String := "RangeResolverLaw"
def lw_P (b : Addr) (xs : List Int32) (args : Array Value) (s : State) : Prop := args = #[.ref b] ∧ s.IntsAt b xs ∧ xs.length ≤ 3072 ∧ (Jvm.Cond.and given_1 narrow_1).before args s = true
def lw_Q (_ : Array Value) (s : State) (o : Outcome) (t : State) : Prop := o = .returned (some (.int 1)) ∧ Framed s o t [] 600000 7302250
def lw_Z (below : List Frame) (a : Array Value) (s : State) : State → Prop := fun t => ∃ o, t.status = .running ∧ Ended t below o ∧ lw_Q a s o t
/-- the law's own end, with 1 on the stack, nothing written that was there before, its room as the claim has it -/
theorem lw_ret {p : Program} {l : Launch} {e : Env} {s : State} {m : MethodId} {below : List Frame} {meth : Method} {c : Code} {b : Nat} (hx : p.tables.exec = Jvm.exec) (hb : c.code = code) (hr : meth.sig.returnType = ret) (hlocks : meth.locks = false) {pc : Nat} {H : Heap} {ls : Array Slot} (hdg : decode code pc = .ok (.ireturn, 1)) : W p l e room_1 s m #[Value.ref b] below meth c H [] 600000 7302250 (lw_Z below #[Value.ref b] s) (F0 m pc ls [.int 1]) := by
  intro T hT X
  obtain ⟨fs, hret, hrun, hended, hW, hframe⟩ := X.leave (v := some (.int 1)) (hlocks := hlocks) (fun h => by rw [hr] at h; cases h)
  have hmeth' : T.vm.method? m = some meth := X.method'
  refine ⟨T.setFrames fs, ?_, .returned (some (.int 1)), hrun, hended, rfl, ⟨_, rfl⟩, hW, hframe⟩
  jvm_step X.here [X.here.top, hx, hb, hdg, hmeth', hr, ret, narrow_b1]
  (try refine ⟨rfl, ?_⟩); (try refine ⟨rfl, ?_⟩)
  first | (intro acts; rw [hret _ acts rfl rfl rfl]) | rw [hret _ _ rfl rfl rfl]
  exact Steps.refl _
/-- what holds at the law's entry: the machine, the code, the tables' words (any of lw_tbl by 'hts w (by decide +kernel)'), the script of L ints xs at the cell b, what the Statement gives of the start (any of its parts by flat_of_before) -/
def lw_At (p : Program) (s : State) (m : MethodId) (meth : Method) (c : Code) (b L : Nat) (xs : Nat → Int32) : Prop :=
  p.tables.exec = Jvm.exec ∧ c.code = code ∧ meth.sig.returnType = ret ∧ c.maxLocals = 4 ∧ s.vm.findClass R_law = some m.cls ∧ (∀ w ∈ lw_tbl, w.before #[Value.ref b] s = true) ∧ va_X b L xs s s.heap ∧ b < s.heap.size ∧ meth.locks = false ∧ (Jvm.Cond.and given_1 narrow_1).before #[Value.ref b] s = true ∧ meth.name = "law"
theorem zs_TT : zs TT ≤ 7302250 := by decide +kernel
def zM : Mi := (fun _ _ => 0, (fun _ _ => 0, fun _ _ => 0))
/-- from the entry, for every script of at most 3072 ints, the law comes to its end with true -/
theorem whole_start {p : Program} {e : Env} {s : State} {m : MethodId} {below : List Frame} {meth : Method} {c : Code} (l : Launch) {b L : Nat} {xs : Nat → Int32} (hL : L ≤ 3072) (C0 : lw_At p s m meth c b L xs) : W p l e room_1 s m #[Value.ref b] below meth c s.heap [] 0 0 (lw_Z below #[Value.ref b] s) (entryFrame m ([Value.ref b] : List Value).toArray 4) := by
  obtain ⟨hx, hb, hr, hml, hown, hts, hX, hbl, hlocks, hgv, hnm⟩ := C0
  obtain ⟨β, D, cA, hK, h1, h23, h24⟩ := lw_KS hts hX hbl hgv
  obtain ⟨mf, h⟩ := lw_begin (sa := β.2) (by rw [h24]; exact hL) zM
  have hC : CX β D cA u_L p s m #[Value.ref b] meth c := ⟨hx, hb, hml, hown, fun w hw => hts w (inTB hw), hK, hr, hlocks, hnm, tk_L⟩
  have hW : WH β D cA ([], zM) s.heap := ⟨h1.symm, by decide, fun r a1 a2 => by
    have a2 : r ≤ 0 := a2
    omega⟩
  have hl := lv_entry ([Value.ref b]) (n := 4) (Nat.le_of_ble_eq_true rfl)
  rw [lg_entry_eq]
  generalize (lg_sl ([Value.ref b]) ++ List.replicate (4 - (lg_sl ([Value.ref b])).length) Slot.unset).toArray = ls at hl ⊢
  have hl : lv_has ls 4 [(0, .ref b)] := hl
  have hv : vl β [(0, .inr (.inr (1048576 + 23)))] = [(0, Value.ref b)] := by
    show [(0, rv β (1048576 + 23))] = _
    rw [rv_for, h23]
  have h2 := (h _ rfl).2 β D cA p l e room_1 s m #[Value.ref b] below meth c s.heap [] ls rfl hC hW (fun _ _ => rfl) (fun _ h => by cases h) (Nat.le_refl _) (by rw [hv]; exact hl) (Nat.zero_le _) (Nat.zero_le _) (by show TT.length ≤ 0 + 600000; rw [TT_len]; omega) (by show zs TT ≤ 0 + 7302250; have := zs_TT; omega) (by decide) (by decide) rfl rfl
  intro T hT X
  obtain ⟨t, a1, o, b1, b2, b3, L', b4, b5⟩ := h2 T hT X
  obtain ⟨ho, -, -⟩ := b3
  obtain ⟨c1, c2, c3, c4, c5, c6, c7, c8⟩ := b4
  refine ⟨t, a1, o, b1, b2, ho, c1, c2, c3, c4, c5, c6, c7, fun a cl hc => ?_⟩
  obtain ⟨c', x1, x2, x3, x4⟩ := c8 a cl hc
  refine ⟨c', x1, x2, x3, fun i _ => x4 i (fun hm => ?_)⟩
  have y1 : β.1 < a := b5 _ hm
  have y3 : a < β.1 + 1 := by
    rw [h1]
    exact (Array.getElem?_eq_some_iff.mp hc).1
  exact Nat.not_lt.mpr y1 y3
