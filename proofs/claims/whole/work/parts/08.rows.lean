/-! Object.<init>, ldc_w, switches; new cells. -/
theorem i32ne {x c : Int32} (h : ¬ x = c) {k : Int} (hk : c.toInt = k) : x.toInt ≠ k := by
  intro e
  exact h (Int32.toInt_inj.mp (e.trans hk.symm))
theorem lk_out (ps : List (Int × Int)) (d v : Int) (h : ∀ q ∈ ps.map (fun q => q.1), v ≠ q) : Op.lookupswitch.offset ps d v = d := by
  induction ps with
  | nil => rfl
  | cons q r ih =>
    obtain ⟨a, o⟩ := q
    have h1 : v ≠ a := h a (by simp)
    show (if a = v then o else Op.lookupswitch.offset r d v) = d
    rw [if_neg (Ne.symm h1)]
    exact ih (fun z hz => h z (List.mem_cons_of_mem _ hz))
section Rows8
variable {α : Type} {G : Bs → Prop} {μ : Fx} {E : Ev} {κ : α → Option Rs} {pc : Nat} {L : List (Nat × PV)} {st : List PV} {t : List Sh} {m : Mi} {M : Mm} {r : Option α} {n d idx : Nat}
theorem r_ldcw (i pc' : Nat) {j : Nat} {v : Int32} (hd : μ.2.2.2.2[i]? = some (pc, (.ldc_w j, 3))) (hp : pc + 3 = pc') (hw : Cond.constant μ.1.cls j v ∈ TB) (k : SmG G μ E κ pc' L (.inl v :: st) M r) : SmG G μ E κ pc L st M r := by
  subst hp
  exact Sm.go (fun β D cA p l e R s m args below meth c H locs ls cells slots Q C hl kk => lv_ldcw C.1 C.2.1 C.2.2.2.1 (C.2.2.2.2.1 _ hw) (C.dk hd) (kk ls hl)) k
theorem objW : Cond.instanceMethod Lib.objectInit ∈ TB ∧ Cond.code Lib.objectInit ⟨#[0xb1]⟩ 1 none ∈ TB := by decide +kernel
theorem r_objI (i pc' : Nat) {a : Nat} {x0 : Sh} (hd : μ.2.2.2.2[i]? = some (pc, (.invokespecial idx, 3))) (hp : pc + 3 = pc') (hl : Cond.methodLink μ.1.cls idx Lib.objectInit ∈ TB) (hlv : 0 < E.1) (hw : (st.map pcat).sum ≤ 8) (hs : sh t a = some x0) (k : SmG G μ E κ pc' L st (t, m) r) : SmG G μ E κ pc L (.inr (.inr a) :: st) (t, m) r := by
  subst hp
  refine Sm.wr (m' := m) (fun β D cA p l e R s mm args below meth cc H locs ls cells slots Q C hW hf hlo hls kk => ?_) k
  have k0 := kk H [] hW rfl (fun _ _ => rfl) (fun _ h => by cases h)
  rw [List.append_nil] at k0
  show W p l e R s mm args below meth cc H locs cells slots Q (F0 mm pc ls (rv β a :: vs β st))
  rw [hW.ref hs]
  refine W.objInit C.1 C.2.1 C.2.2.2.1 (C.2.2.2.2.1 _ hl) (C.2.2.2.2.1 _ objW.1) (C.2.2.2.2.1 _ objW.2) rfl (hls.trans C.2.2.1.symm) rfl (C.dk hd) (by omega) ?_ k0
  show 2 * 0 + ((vs β st).map fun v => v.category).sum + 12 ≤ R.locals
  rw [vs_cat]
  omega
theorem r_tabC (i tgt : Nat) (c : Int32) {x : Int32} {dflt lo hi : Int} {offs : Array Int} {len : Nat} {off : Int} (hx : x = c) (hd : μ.2.2.2.2[i]? = some (pc, (.tableswitch dflt lo hi offs, len))) (h1 : ¬ c.toInt < lo) (h2 : ¬ hi < c.toInt) (ho : offs[(c.toInt - lo).toNat]? = some off) (ht : (pc : Int) + off = (tgt : Int)) (k : SmG G μ E κ tgt L st M r) : SmG G μ E κ pc L (.inl x :: st) M r := by
  subst hx
  exact Sm.go (fun β D cA p l e R s m args below meth c H locs ls cells slots Q C hl kk => lv_tableIn C.1 C.2.1 (C.dk hd) h1 h2 ho ht (kk ls hl)) k
theorem r_tabO (i tgt : Nat) {x : Int32} {dflt lo hi : Int} {offs : Array Int} {len : Nat} (hd : μ.2.2.2.2[i]? = some (pc, (.tableswitch dflt lo hi offs, len))) (h : x.toInt < lo ∨ hi < x.toInt) (ht : (pc : Int) + dflt = (tgt : Int)) (k : SmG G μ E κ tgt L st M r) : SmG G μ E κ pc L (.inl x :: st) M r :=
  Sm.go (fun β D cA p l e R s m args below meth c H locs ls cells slots Q C hl kk => lv_tableOut C.1 C.2.1 (C.dk hd) h ht (kk ls hl)) k
theorem r_looC (i tgt : Nat) (c : Int32) {x : Int32} {dflt : Int} {ps : Array (Int × Int)} {len : Nat} {off : Int} (hx : x = c) (hd : μ.2.2.2.2[i]? = some (pc, (.lookupswitch dflt ps, len))) (hp : (ps.toList.zip (ps.toList.drop 1)).all (fun (a, next) => a.1 < next.1) = true) (ho : Op.lookupswitch.offset ps.toList dflt c.toInt = off) (ht : (pc : Int) + off = (tgt : Int)) (k : SmG G μ E κ tgt L st M r) : SmG G μ E κ pc L (.inl x :: st) M r := by
  subst hx
  exact Sm.go (fun β D cA p l e R s m args below meth c H locs ls cells slots Q C hl kk => lv_lookup C.1 C.2.1 (C.dk hd) hp ho ht (kk ls hl)) k
theorem r_looO (i tgt : Nat) {x : Int32} {dflt : Int} {ps : Array (Int × Int)} {len : Nat} (hd : μ.2.2.2.2[i]? = some (pc, (.lookupswitch dflt ps, len))) (hp : (ps.toList.zip (ps.toList.drop 1)).all (fun (a, next) => a.1 < next.1) = true) (ho : Op.lookupswitch.offset ps.toList dflt x.toInt = dflt) (ht : (pc : Int) + dflt = (tgt : Int)) (k : SmG G μ E κ tgt L st M r) : SmG G μ E κ pc L (.inl x :: st) M r :=
  Sm.go (fun β D cA p l e R s m args below meth c H locs ls cells slots Q C hl kk => lv_lookup C.1 C.2.1 (C.dk hd) hp ho ht (kk ls hl)) k
end Rows8
/-- a new cell's memory is all 0 -/
def zr (m : Mi) (a : Nat) : Mi := (fun x j => if x = a then 0 else m.1 x j, (fun x j => if x = a then 0 else m.2.1 x j, fun x j => if x = a then 0 else m.2.2 x j))
theorem sh_old {t : List Sh} {x : Sh} {r : Nat} (h : r ≤ t.length) : sh (t ++ [x]) r = sh t r := by
  unfold sh
  split
  · rfl
  · rw [List.getElem?_append_left (by omega)]
theorem sh_new {t : List Sh} {x : Sh} : sh (t ++ [x]) (t.length + 1) = some x := by
  unfold sh
  rw [if_neg (by omega), List.getElem?_append_right (by omega)]
  simp
theorem ce_old {β : Bs} {cA : FieldType → ClassId} {t : List Sh} {m : Mi} {x : Sh} {r : Nat} (h : r ≤ t.length) : ce β cA (t ++ [x]) (zr m (t.length + 1)) r = ce β cA t m r := by
  have hn : r ≠ t.length + 1 := by omega
  have e1 : gi (zr m (t.length + 1)) r = gi m r := by funext j; simp [gi, zr, hn]
  have e2 : gl (zr m (t.length + 1)) r = gl m r := by funext j; simp [gl, zr, hn]
  have e3 : gr (zr m (t.length + 1)) r = gr m r := by funext j; simp [gr, zr, hn]
  unfold ce
  rw [sh_old h]
  split
  · refine congrArg Sum.inr (Prod.ext rfl ?_)
    apply List.map_congr_left
    intro j _
    unfold fval
    simp only [e1, e2, e3]
  · unfold aval
    simp only [e1, e2, e3]
  · rfl
theorem zs_app (t : List Sh) (x : Sh) : zs (t ++ [x]) = zs t + shz x := by
  simp [zs]
theorem WH.grow {β : Bs} {D : va_G} {cA : FieldType → ClassId} {t : List Sh} {m : Mi} {H H1 : Heap} {x : Sh} (h : WH β D cA (t, m) H) (hb : t.length < 1000000) (hz : H1.size = H.size + 1) (oq : ∀ q : Nat, q < H.size → H1[q]? = H[q]?) (hat : va_at D CL (β.1 + (t.length + 1), ce β cA (t ++ [x]) (zr m (t.length + 1)) (t.length + 1)) H1) : WH β D cA (t ++ [x], zr m (t.length + 1)) H1 := by
  obtain ⟨h1, h2, h3⟩ := h
  refine ⟨by rw [hz, h1]; simp; omega, by show (t ++ [x]).length < 1048576; simp; omega, fun r hr0 hrl => ?_⟩
  have hrl : r ≤ t.length + 1 := by simpa using hrl
  by_cases hr : r = t.length + 1
  · subst hr
    exact hat
  · have hr1 : r ≤ t.length := by omega
    show va_at D CL (β.1 + r, ce β cA (t ++ [x]) (zr m (t.length + 1)) r) H1
    rw [ce_old hr1]
    refine (h3 r hr0 hr1).kept (oq _ ?_)
    show β.1 + r < H.size
    have : H.size = β.1 + 1 + t.length := h1
    omega
section Alloc
variable {α : Type} {G : Bs → Prop} {μ : Fx} {E : Ev} {κ : α → Option Rs} {pc pc' : Nat} {L : List (Nat × PV)} {st st' : List PV} {t : List Sh} {m : Mi} {r : Option α} {x : Sh}
theorem Sm.grow (hb : t.length < 1000000) (h : ∀ (β : Bs) (D : va_G) (cA : FieldType → ClassId) (p : Program) (l : Launch) (e : Env) (R : Room) (s : State) (mm : MethodId) (args : Array Value) (below : List Frame) (meth : Method) (c : Code) (H : Heap) (locs : List Loc) (ls : Array Slot) (cells slots : Nat) (Q : State → Prop),
      CX β D cA μ p s mm args meth c → WH β D cA (t, m) H → cells + 1 ≤ R.cells → slots + shz x ≤ R.slots →
      (∀ (H1 : Heap), va_at D CL (β.1 + (t.length + 1), ce β cA (t ++ [x]) (zr m (t.length + 1)) (t.length + 1)) H1 → H1.size = H.size + 1 → (∀ q : Nat, q < H.size → H1[q]? = H[q]?) → W p l e R s mm args below meth c H1 locs (cells + 1) (slots + shz x) Q (F0 mm pc' ls (Value.ref (β.1 + (t.length + 1)) :: vs β st'))) → W p l e R s mm args below meth c H locs cells slots Q (F0 mm pc ls (vs β st)))
    (k : SmG G μ E κ pc' L (.inr (.inr (t.length + 1)) :: st') (t ++ [x], zr m (t.length + 1)) r) : SmG G μ E κ pc L st (t, m) r := by
  intro res hr
  obtain ⟨h1, h2⟩ := k res hr
  have h1a : t.length + 1 ≤ res.2.1.length := by simpa using h1.1
  have h1b : zs t + shz x ≤ zs res.2.1 := by
    have := h1.2
    rw [zs_app] at this
    exact this
  refine ⟨⟨by show t.length ≤ _; omega, by show zs t ≤ _; omega⟩, ?_⟩
  intro β D cA p l e R s mm args below meth c H locs ls hG C hW ho hl hz hls a1 a2 a3 a4 b1 b2 b3 b4
  have a1 : E.2.2.2.1 ≤ t.length := a1
  have a2 : E.2.2.2.2 ≤ zs t := a2
  refine h β D cA p l e R s mm args below meth c H locs ls _ _ _ C hW (by show t.length - _ + 1 ≤ R.cells; omega) (by show zs t - _ + shz x ≤ R.slots; omega) (fun H1 w1 w2 w3 => ?_)
  have hW1 := hW.grow hb w2 w3 w1
  have hsz : H.size = β.1 + 1 + t.length := hW.1
  have := h2 β D cA p l e R s mm args below meth c H1 locs ls hG C hW1 (fun q hq => (w3 q (by omega)).trans (ho q hq)) hl (by omega) hls (by show _ ≤ (t ++ [x]).length; simp; omega) (by show _ ≤ zs (t ++ [x]); rw [zs_app]; omega) a3 a4 b1 b2 b3 b4
  have e1 : (t ++ [x]).length - E.2.2.2.1 = t.length - E.2.2.2.1 + 1 := by simp; omega
  have e2 : zs (t ++ [x]) - E.2.2.2.2 = zs t - E.2.2.2.2 + shz x := by rw [zs_app]; omega
  have e3 : vs β (.inr (.inr (t.length + 1)) :: st') = Value.ref (β.1 + (t.length + 1)) :: vs β st' := by
    show rv β (t.length + 1) :: vs β st' = _
    rw [hW1.ref sh_new]
  simp only [e1, e2, e3] at this
  exact this
theorem r_new (i pc' : Nat) {idx c : Nat} {C0 : String} {T : u_T} (hd : μ.2.2.2.2[i]? = some (pc, (.new idx, 3))) (hp : pc + 3 = pc') (hb : t.length < 1000000) (hc : CL[c]? = some (C0, T, fN c)) (hin : ∀ w ∈ u_ws C0 T (fN c), w ∈ TB) (hty : ∀ j, j < fN c → parseFieldDescriptor (T j).2.2.1 = some (fT c j)) (hl : Cond.classLink μ.1.cls idx C0 ∈ TB) (hi : Cond.instantiable C0 (fN c) ∈ TB) (hini : Cond.initialized C0 ∈ TB) (hdef : ∀ j, j < fN c → isI (fT c j) = true ∨ fT c j = .long ∨ isR (fT c j) = true) (k : SmG G μ E κ pc' L (.inr (.inr (t.length + 1)) :: st) (t ++ [.inl c], zr m (t.length + 1)) r) : SmG G μ E κ pc L st (t, m) r := by
  subst hp
  refine Sm.grow (x := .inl c) hb (fun β D cA p l e R s mm args below meth cc H locs ls cells slots Q C hW hcl hsl kk => ?_) k
  have hdd := C.dk hd
  obtain ⟨C1, C2, C3, C4, C5, ⟨hK, -⟩, -⟩ := C
  have hKn := hK.1 c _ hc
  have hsz : H.size = β.1 + (t.length + 1) := by have : H.size = β.1 + 1 + t.length := hW.1; omega
  refine W.newcK C1 C2 C4 (C5 _ hl) (C5 _ hi) (C5 _ hini) rfl hdd hcl hsl hKn.2.1 hsz (fun H1 kC hkC e1 z1 o1 => ?_)
  refine kk H1 ?_ (by omega) (fun q hq => o1 q (by omega))
  simp only [ce, sh_new]
  refine ⟨_, hc, (u_born (fT c) C5 hin hKn hkC e1 hty).to (fun j hj => ?_)⟩
  have hj : j < fN c := hj
  have e4 : vp_V ((List.range (fN c)).map (fun k => fval β (zr m (t.length + 1)) c (t.length + 1) k)) j = fval β (zr m (t.length + 1)) c (t.length + 1) j := by
    unfold vp_V
    rw [List.getD_eq_getElem?_getD, List.getElem?_map, List.getElem?_range hj]
    rfl
  show defaultValue (fT c j) = _
  rw [e4]
  unfold fval
  rcases hdef j hj with h | h | h
  · unfold isI at h
    split at h <;> first | (simp at h; done) | (rename_i e5; rw [e5]; simp [gi, zr]; rfl)
  · rw [h]; simp [gl, zr]; rfl
  · unfold isR at h
    split at h <;> first | (simp at h; done) | (rename_i e5; rw [e5]; simp [gr, zr]; rfl)
theorem r_newa (i pc' : Nat) {aty : ArrayType} {ty : FieldType} {q : Nat} {n : Int32} (hd : μ.2.2.2.2[i]? = some (pc, (.newarray aty, 2))) (hp : pc + 2 = pc') (hb : t.length < 1000000) (hty : newarray.typeOf aty = ty) (hI : ty = .int ∨ ty = .long ∨ ty = .byte ∨ ty = .boolean) (hq : ∀ cA : FieldType → ClassId, (TYS cA)[q]? = some (cA ty, ty)) (hw : Cond.arrayClass ty ∈ TB) (hn : ¬ n < 0) (hbig : ix n ≤ 100000) (k : SmG G μ E κ pc' L (.inr (.inr (t.length + 1)) :: st) (t ++ [.inr (ty, ix n)], zr m (t.length + 1)) r) : SmG G μ E κ pc L (.inl n :: st) (t, m) r := by
  subst hp
  subst hty
  refine Sm.grow (x := .inr (newarray.typeOf aty, ix n)) hb (fun β D cA p l e R s mm args below meth cc H locs ls cells slots Q C hW hcl hsl kk => ?_) k
  have hdd := C.dk hd
  obtain ⟨C1, C2, C3, C4, C5, ⟨hK, -⟩, -⟩ := C
  have hsz : H.size = β.1 + (t.length + 1) := by have : H.size = β.1 + 1 + t.length := hW.1; omega
  have hby : ix n * componentBytes (newarray.typeOf aty) ≤ 536870912 := by
    have : componentBytes (newarray.typeOf aty) ≤ 8 := by cases aty <;> decide
    calc ix n * componentBytes (newarray.typeOf aty) ≤ 100000 * 8 := Nat.mul_le_mul hbig this
      _ ≤ 536870912 := by decide
  refine va_newaK C1 C2 (C5 _ hw) rfl hdd rfl hn (N := ix n) rfl hby hcl hsl hsz (fun H1 cA' e1 z1 o1 hAr hNm => ?_)
  refine kk H1 ?_ (by omega) (fun q hq => o1 q (by omega))
  have hcA : cA' = cA (newarray.typeOf aty) := by
    have h2 := (hK.2 q _ (hq cA)).2
    have h3 : s.vm.findClass ("[" ++ (newarray.typeOf aty).toString) = some (cA (newarray.typeOf aty)) := by
      rcases hI with h | h | h | h <;> rw [h] at h2 ⊢ <;> exact h2
    exact Option.some.inj (hNm.symm.trans h3)
  simp only [ce, sh_new]
  show H1[β.1 + (t.length + 1)]? = some (vp_cell (cA (newarray.typeOf aty)) (ix n, aval β (zr m (t.length + 1)) (t.length + 1) (newarray.typeOf aty)))
  rw [e1, hcA]
  congr 1
  rcases hI with h | h | h | h <;> rw [h] <;> simp only [aval, vp_cell] <;> refine congrArg _ ?_ <;> funext j <;> simp [gi, gl, zr] <;> rfl
theorem r_anew (i pc' : Nat) {idx q : Nat} {C0 : String} {n : Int32} (hd : μ.2.2.2.2[i]? = some (pc, (.anewarray idx, 3))) (hp : pc + 3 = pc') (hb : t.length < 1000000) (hq : ∀ cA : FieldType → ClassId, (TYS cA)[q]? = some (cA (.object C0), .object C0)) (hl : Cond.classLink μ.1.cls idx C0 ∈ TB) (hao : ∀ U : State, AO4 U → va_AO C0 U) (hn : ¬ n < 0) (hbig : ix n ≤ 100000) (k : SmG G μ E κ pc' L (.inr (.inr (t.length + 1)) :: st) (t ++ [.inr (.object C0, ix n)], zr m (t.length + 1)) r) : SmG G μ E κ pc L (.inl n :: st) (t, m) r := by
  subst hp
  refine Sm.grow (x := .inr (.object C0, ix n)) hb (fun β D cA p l e R s mm args below meth cc H locs ls cells slots Q C hW hcl hsl kk => ?_) k
  have hdd := C.dk hd
  obtain ⟨C1, C2, C3, C4, C5, ⟨hK, -, hA4, -⟩, -⟩ := C
  have hsz : H.size = β.1 + (t.length + 1) := by have : H.size = β.1 + 1 + t.length := hW.1; omega
  refine W.anew C1 C2 C4 (C5 _ hl) (va_AO.use (hao _ hA4)) rfl hdd rfl hn (by show ix n * 4 ≤ _; omega) hcl hsl (fun cA' kA comp h1 h2 h3 h4 => ?_)
  have hcA : cA' = cA (.object C0) := by
    obtain ⟨_, _, -, -, -, h5⟩ := (hK.2 q _ (hq cA)).2
    exact Option.some.inj (h1.symm.trans h5)
  have k0 := kk (H.push { cls := cA', slots := Array.replicate (ix n) .null, vm := .none }) ?_ (by simp) (fun q hq => by rw [Array.getElem?_push, if_neg (Nat.ne_of_lt hq)])
  · rw [← hsz] at k0
    exact k0
  · simp only [ce, sh_new]
    show (H.push _)[β.1 + (t.length + 1)]? = some (vp_cell (cA (.object C0)) (ix n, aval β (zr m (t.length + 1)) (t.length + 1) (.object C0)))
    rw [← hsz, arrV_new, hcA]
    simp only [Array.getElem?_push_size, aval, vp_cell]
    congr 2
    funext j
    simp [gr, zr, rf]
    rfl
theorem r_aast (i pc' : Nat) {a v ci q : Nat} {C0 : String} {T : u_T} {n : Nat} {j : Int32} (hd : μ.2.2.2.2[i]? = some (pc, (.aastore, 1))) (hp : pc + 1 = pc') (hq : ∀ cA : FieldType → ClassId, (TYS cA)[q]? = some (cA (.object C0), .object C0)) (hc : CL[ci]? = some (C0, T, n)) (hs : ar t a (.object C0) j = true) (hv : sh t v = some (.inl ci)) (kk : SmG G μ E κ pc' L st (t, sr m a (ix j) v) r) : SmG G μ E κ pc L (.inr (.inr v) :: .inl j :: .inr (.inr a) :: st) (t, m) r := by
  subst hp
  obtain ⟨n0, hs, hin⟩ := ar_sh hs
  refine Sm.wr (fun β D cA p l e R s mm args below meth cc H locs ls cells slots Q C hW _ _ _ kk => ?_) kk
  show W p l _ R s mm args below meth cc H locs cells slots Q (F0 mm pc ls (rv β v :: .int j :: rv β a :: vs β st))
  rw [hW.ref hs, hW.ref hv]
  have hK := C.2.2.2.2.2.1.1
  have hlt : j.toNatClampNeg < n0 := Nat.not_le.mp fun q => hin (Or.inr q)
  obtain ⟨r', hr', cellV, g1, g2, g3, -⟩ := hW.obj hv
  have hr1 : r' = (C0, T, n) := Option.some.inj (hr'.symm.trans hc)
  subst hr1
  obtain ⟨kA, comp, h1, h2, h3, h4⟩ := (hK.2 q _ (hq cA)).2
  obtain ⟨-, hfc, kC, hkC, hkind⟩ := hK.1 ci _ hc
  have e5 : comp = D.1 ci := Option.some.inj (h3.symm.trans hfc)
  subst e5
  refine W.aast C.1 C.2.1 (hW.arr hs) (fun q h => by cases h) (fun h => by cases h) h1 h2 rfl hkC (by refine ⟨fun q => hin (Or.inl q), ?_⟩; show _ < (arrV _ _ _).slots.size; rw [arrV_size]; exact hlt) g1 (fun q h => by rw [g3] at h; cases h) (by rw [g2]; exact hkC) (by rw [g2]; exact va_assign ⟨hfc, kC, hkC, hkind⟩) rfl rfl (C.dk hd) fun H1 e z oq => ?_
  refine kk H1 [⟨β.1 + a, _⟩] (hW.setA hs rfl e z oq (fun r h => ce_sr r h) ?_) z (fun q hq => oq q ?_) ?_
  · show (arrV (cA (.object C0)) n0 (fun j => va_rf (rf β (gr m a j)))).setSlot _ _ = arrV (cA (.object C0)) n0 (fun j' => va_rf (rf β (gr (sr m a (ix j) v) a j')))
    rw [arrV_store]
    congr 1
    funext j'
    unfold updV gr sr ix
    by_cases hj : j' = j.toNatClampNeg
    · have := hW.ref hv
      unfold rv at this
      simp [hj, this]
    · simp [hj]
  · have := (sh_le hs).1
    show q ≠ β.1 + a
    omega
  · intro q hq
    rw [List.mem_singleton.mp hq]
    have := (sh_le hs).1
    show β.1 < β.1 + a
    omega
theorem r_ltT {f : List Sh → Option α} (k : ∀ t', SmG G μ E κ pc L st (t', m) (f t')) : SmG G μ E κ pc L st (t, m) (lt t f) := k t
theorem r_IV (i pc' : Nat) {μ' : Fx} {a idx n d : Nat} {x0 : Sh} {av av' : List PV} {g : Option Mi} {f : Mi → Option α} (hd : μ.2.2.2.2[i]? = some (pc, (.invokespecial idx, 3))) (hp : pc + 3 = pc') (hM : MC μ' n) (hrt : μ'.2.2.2.1 = none) (hnm : μ'.1.name = "<init>") (hin : Cond.instanceMethod μ'.1 ∈ TB) (hl : Cond.methodLink μ.1.cls idx μ'.1 ∈ TB) (hlv : d < E.1) (hn : av'.length = n) (hav : av = .inr (.inr a) :: av') (hs : sh t a = some x0) (hw : (st.map pcat).sum ≤ 8) (hct : ∀ m', g = some m' → Ct μ' d 0 0 av (t, m) (none, (t, m'))) (k : ∀ m', SmG G μ E κ pc' L st (t, m') (f m')) : SmG G μ E κ pc L (av.reverse ++ st) (t, m) (g.bind f) :=
  r_invI i pc' hd hp hM hrt hnm hin hl hlv hn hav hs hw (mc := 0) (ms := 0) (vo := fun _ => none) (mo := fun x => (t, x)) (fun x hx => hct x hx) (fun x hx => ⟨rfl, rfl⟩) (fun x hx => k x)
theorem r_IA (i pc' : Nat) {μ' : Fx} {a idx n d : Nat} {x0 : Sh} {av av' : List PV} {g : Option Mm} {f : List Sh → Mi → Option α} (hd : μ.2.2.2.2[i]? = some (pc, (.invokespecial idx, 3))) (hp : pc + 3 = pc') (hM : MC μ' n) (hrt : μ'.2.2.2.1 = none) (hnm : μ'.1.name = "<init>") (hin : Cond.instanceMethod μ'.1 ∈ TB) (hl : Cond.methodLink μ.1.cls idx μ'.1 ∈ TB) (hlv : d < E.1) (hn : av'.length = n) (hav : av = .inr (.inr a) :: av') (hs : sh t a = some x0) (hw : (st.map pcat).sum ≤ 8) (hct : ∀ q, g = some q → Ct μ' d (q.1.length - t.length) (zs q.1 - zs t) av (t, m) (none, q)) (hmn : ∀ q, g = some q → t.length ≤ q.1.length ∧ zs t ≤ zs q.1) (k : ∀ t' m', SmG G μ E κ pc' L st (t', m') (f t' m')) : SmG G μ E κ pc L (av.reverse ++ st) (t, m) (bd g f) := by
  cases hg : g with
  | none => intro res hr; cases hr
  | some q0 =>
    have hm := hmn q0 hg
    exact r_invI i pc' hd hp hM hrt hnm hin hl hlv hn hav hs hw (mc := q0.1.length - t.length) (ms := zs q0.1 - zs t) (g := some q0) (f := fun q : Mm => f q.1 q.2) (vo := fun _ => none) (mo := fun x : Mm => x) (fun x hx => by cases hx; exact hct q0 hg) (fun x hx => by cases hx; exact ⟨by show q0.1.length = t.length + (q0.1.length - t.length); omega, by show zs q0.1 = zs t + (zs q0.1 - zs t); omega⟩) (fun x hx => k x.1 x.2)
end Alloc
section MathR
variable {α : Type} {G : Bs → Prop} {μ : Fx} {E : Ev} {κ : α → Option Rs} {pc pc' : Nat} {L : List (Nat × PV)} {st st' : List PV} {t : List Sh} {m : Mi} {r : Option α} {idx : Nat}
theorem Sm.op (h : ∀ (β : Bs) (D : va_G) (cA : FieldType → ClassId) (p : Program) (l : Launch) (e : Env) (R : Room) (s : State) (mm : MethodId) (args : Array Value) (below : List Frame) (meth : Method) (c : Code) (H : Heap) (locs : List Loc) (ls : Array Slot) (cells slots : Nat) (Q : State → Prop),
      CX β D cA μ p s mm args meth c → E.1 ≤ R.frames → 60 * E.1 ≤ R.locals → ls.size = μ.2.2.1 → cells ≤ R.cells → slots ≤ R.slots → W p l e R s mm args below meth c H locs cells slots Q (F0 mm pc' ls (vs β st')) → W p l e R s mm args below meth c H locs cells slots Q (F0 mm pc ls (vs β st)))
    (k : SmG G μ E κ pc' L st' (t, m) r) : SmG G μ E κ pc L st (t, m) r := by
  intro res hr
  obtain ⟨h1, h2⟩ := k res hr
  refine ⟨h1, ?_⟩
  intro β D cA p l e R s mm args below meth c H locs ls hG C hW ho hl hz hls a1 a2 a3 a4 b1 b2 b3 b4
  refine h β D cA p l e R s mm args below meth c H locs ls _ _ _ C b1 b2 hls.1 ?_ ?_ (h2 β D cA p l e R s mm args below meth c H locs ls hG C hW ho hl hz hls a1 a2 a3 a4 b1 b2 b3 b4)
  · show (t, m).1.length - _ ≤ R.cells
    have := h1.1
    omega
  · show zs (t, m).1 - _ ≤ R.slots
    have := h1.2
    omega
theorem mw_maxI : Cond.static Lib.Math.max.name ∈ TB ∧ Cond.initialized "java/lang/Math" ∈ TB ∧ Cond.code Lib.Math.max.name Lib.Math.max.code 2 (some .int) ∈ TB := by decide +kernel
theorem r_maxI (i pc' : Nat) {x y : Int32} (hd : μ.2.2.2.2[i]? = some (pc, (.invokestatic idx, 3))) (hp : pc + 3 = pc') (hl : Cond.methodLink μ.1.cls idx Lib.Math.max.name ∈ TB) (hlv : 0 < E.1) (hw : (st.map pcat).sum ≤ 8) (k : SmG G μ E κ pc' L (.inl (if x < y then y else x) :: st) (t, m) r) : SmG G μ E κ pc L (.inl y :: .inl x :: st) (t, m) r := by
  subst hp
  refine Sm.op (fun β D cA p l e R s mm args below meth cc H locs ls cells slots Q C hf hlo hls hc hs kk => ?_) k
  refine va_mmax C.1 C.2.1 (C.2.2.1.trans hls.symm) C.2.2.2.1 (C.2.2.2.2.1 _ hl) (C.2.2.2.2.1 _ mw_maxI.1) (C.2.2.2.2.1 _ mw_maxI.2.1) (C.2.2.2.2.1 _ mw_maxI.2.2) (by omega) ?_ hc hs (C.dk hd) kk
  show ((vs β st).map fun v => v.category).sum + _ ≤ _
  rw [vs_cat]
  omega
theorem mw_minI : Cond.static Lib.Math.min.name ∈ TB ∧ Cond.initialized "java/lang/Math" ∈ TB ∧ Cond.code Lib.Math.min.name Lib.Math.min.code 2 (some .int) ∈ TB := by decide +kernel
theorem r_minI (i pc' : Nat) {x y : Int32} (hd : μ.2.2.2.2[i]? = some (pc, (.invokestatic idx, 3))) (hp : pc + 3 = pc') (hl : Cond.methodLink μ.1.cls idx Lib.Math.min.name ∈ TB) (hlv : 0 < E.1) (hw : (st.map pcat).sum ≤ 8) (k : SmG G μ E κ pc' L (.inl (if y < x then y else x) :: st) (t, m) r) : SmG G μ E κ pc L (.inl y :: .inl x :: st) (t, m) r := by
  subst hp
  refine Sm.op (fun β D cA p l e R s mm args below meth cc H locs ls cells slots Q C hf hlo hls hc hs kk => ?_) k
  refine va_mmin C.1 C.2.1 (C.2.2.1.trans hls.symm) C.2.2.2.1 (C.2.2.2.2.1 _ hl) (C.2.2.2.2.1 _ mw_minI.1) (C.2.2.2.2.1 _ mw_minI.2.1) (C.2.2.2.2.1 _ mw_minI.2.2) (by omega) ?_ hc hs (C.dk hd) kk
  show ((vs β st).map fun v => v.category).sum + _ ≤ _
  rw [vs_cat]
  omega
theorem mw_maxL : Cond.static Lib.MathLoose.max_long.x ∈ TB ∧ Cond.initialized "java/lang/Math" ∈ TB ∧ Cond.code Lib.MathLoose.max_long.x Lib.MathLoose.max_long.code 4 (some .long) ∈ TB := by decide +kernel
theorem r_maxL (i pc' : Nat) {x y : Int64} (hd : μ.2.2.2.2[i]? = some (pc, (.invokestatic idx, 3))) (hp : pc + 3 = pc') (hl : Cond.methodLink μ.1.cls idx Lib.MathLoose.max_long.x ∈ TB) (hlv : 0 < E.1) (hw : (st.map pcat).sum ≤ 8) (k : SmG G μ E κ pc' L (.inr (.inl (if y < x then x else y)) :: st) (t, m) r) : SmG G μ E κ pc L (.inr (.inl y) :: .inr (.inl x) :: st) (t, m) r := by
  subst hp
  refine Sm.op (fun β D cA p l e R s mm args below meth cc H locs ls cells slots Q C hf hlo hls hc hs kk => ?_) k
  refine va_mmax_long C.1 C.2.1 (C.2.2.1.trans hls.symm) C.2.2.2.1 (C.2.2.2.2.1 _ hl) (C.2.2.2.2.1 _ mw_maxL.1) (C.2.2.2.2.1 _ mw_maxL.2.1) (C.2.2.2.2.1 _ mw_maxL.2.2) (by omega) ?_ hc hs (C.dk hd) kk
  show ((vs β st).map fun v => v.category).sum + _ ≤ _
  rw [vs_cat]
  omega
end MathR
def kA (q : Mm) : Option Rs := some (none, q)
