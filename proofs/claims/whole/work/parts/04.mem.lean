/-! Rows that read and write memory. -/
/-- a field's link: the table's words, by class number and field number -/
def FL (own : String) (idx c k : Nat) (fin : Bool) : Prop := ∃ (C : String) (T : u_T) (N : Nat), CL[c]? = some (C, T, N) ∧ (∀ w ∈ u_ws C T N, w ∈ TB) ∧ (∀ j, j < N → parseFieldDescriptor (T j).2.2.1 = some (fT c j)) ∧ (∀ a, a < N → ∀ b, b < N → a ≠ b → (T a).2.1 ≠ (T b).2.1) ∧ k < N ∧ N = fN c ∧ (T k).2.2.2 = fin ∧ (T k).1 = C ∧ Cond.fieldLink own idx (T k).1 (T k).2.1 (T k).2.2.1 ∈ TB
theorem sh_le {t : List Sh} {a : Nat} {x : Sh} (h : sh t a = some x) : 0 < a ∧ a ≤ t.length := by
  unfold sh at h
  split at h
  · cases h
  · have := (List.getElem?_eq_some_iff.mp h).1
    omega
theorem WH.ref {β : Bs} {D : va_G} {cA : FieldType → ClassId} {M : Mm} {H : Heap} (h : WH β D cA M H) {a : Nat} {x : Sh} (hs : sh M.1 a = some x) : rv β a = .ref (β.1 + a) := by
  obtain ⟨h1, h2⟩ := sh_le hs
  obtain ⟨-, h3, -⟩ := h
  have a1 : ¬ a = 0 := by omega
  have a2 : a < 1048576 := by omega
  simp only [rv, rf, if_neg a1, if_pos a2, va_rf]
theorem WH.obj {β : Bs} {D : va_G} {cA : FieldType → ClassId} {M : Mm} {H : Heap} (h : WH β D cA M H) {a c : Nat} (hs : sh M.1 a = some (.inl c)) : va_at D CL (β.1 + a, .inr (c, (List.range (fN c)).map (fun k => fval β M.2 c a k))) H := by
  obtain ⟨h1, h2⟩ := sh_le hs
  have := h.2.2 a h1 h2
  simp only [ce, hs] at this
  exact this
theorem WH.arr {β : Bs} {D : va_G} {cA : FieldType → ClassId} {M : Mm} {H : Heap} (h : WH β D cA M H) {a n : Nat} {ty : FieldType} (hs : sh M.1 a = some (.inr (ty, n))) : va_at D CL (β.1 + a, .inl (cA ty, (n, aval β M.2 a ty))) H := by
  obtain ⟨h1, h2⟩ := sh_le hs
  have := h.2.2 a h1 h2
  simp only [ce, hs] at this
  exact this
theorem va_P1 {D : va_G} {cl : List vw_C} {q : Nat × va_E} {H : Heap} (h : va_at D cl q H) : va_P D cl [q] H := by
  intro k x hk
  have hz : k < 1 := (List.getElem?_eq_some_iff.mp hk).1
  rw [show k = 0 by omega] at hk
  cases hk
  exact h
theorem WH.set {β : Bs} {D : va_G} {cA : FieldType → ClassId} {t : List Sh} {m m' : Mi} {H H1 : Heap} (h : WH β D cA (t, m) H) {a : Nat} {x : Sh} (hs : sh t a = some x) (hz : H1.size = H.size) (oq : ∀ q : Nat, q ≠ β.1 + a → H1[q]? = H[q]?) (hat : va_at D CL (β.1 + a, ce β cA t m' a) H1) (hr : ∀ r, r ≠ a → ce β cA t m' r = ce β cA t m r) : WH β D cA (t, m') H1 := by
  obtain ⟨h1, h2, h3⟩ := h
  refine ⟨hz.trans h1, h2, fun r hr0 hrl => ?_⟩
  by_cases hra : r = a
  · rw [hra]
    exact hat
  · show va_at D CL (β.1 + r, ce β cA t m' r) H1
    rw [hr r hra]
    exact (h3 r hr0 hrl).kept (oq _ (by show β.1 + r ≠ β.1 + a; omega))
/-- what a value of a field's type is -/
def isI (ty : FieldType) : Bool := match ty with
  | .int => true
  | .boolean => true
  | _ => false
def isR (ty : FieldType) : Bool := match ty with
  | .object _ => true
  | .array _ => true
  | _ => false
theorem ce_si {β : Bs} {cA : FieldType → ClassId} {t : List Sh} {m : Mi} {a k : Nat} {v : Int32} (r : Nat) (h : r ≠ a) : ce β cA t (si m a k v) r = ce β cA t m r := by
  have e : ∀ j, gi (si m a k v) r j = gi m r j := fun j => by simp [gi, si, h]
  have e2 : gi (si m a k v) r = gi m r := funext e
  unfold ce
  split
  · refine congrArg Sum.inr (Prod.ext rfl ?_)
    apply List.map_congr_left
    intro j _
    unfold fval
    split <;> first | rfl | rw [e j]
  · unfold aval
    split <;> first | rfl | rw [e2]
  · rfl
theorem ce_sl {β : Bs} {cA : FieldType → ClassId} {t : List Sh} {m : Mi} {a k : Nat} {v : Int64} (r : Nat) (h : r ≠ a) : ce β cA t (sl m a k v) r = ce β cA t m r := by
  have e : ∀ j, gl (sl m a k v) r j = gl m r j := fun j => by simp [gl, sl, h]
  have e2 : gl (sl m a k v) r = gl m r := funext e
  unfold ce
  split
  · refine congrArg Sum.inr (Prod.ext rfl ?_)
    apply List.map_congr_left
    intro j _
    unfold fval
    split <;> first | rfl | rw [e j]
  · unfold aval
    split <;> first | rfl | rw [e2]
  · rfl
theorem ce_sr {β : Bs} {cA : FieldType → ClassId} {t : List Sh} {m : Mi} {a k : Nat} {v : Nat} (r : Nat) (h : r ≠ a) : ce β cA t (sr m a k v) r = ce β cA t m r := by
  have e : ∀ j, gr (sr m a k v) r j = gr m r j := fun j => by simp [gr, sr, h]
  unfold ce
  split
  · refine congrArg Sum.inr (Prod.ext rfl ?_)
    apply List.map_congr_left
    intro j _
    unfold fval
    split <;> first | rfl | rw [e j]
  · unfold aval
    split <;> first | rfl | simp only [e]
  · rfl
section MemW
variable {p : Program} {l : Launch} {e : Env} {R : Room} {s : State} {m : MethodId} {args : Array Value} {below : List Frame} {meth : Method} {c : Code} {H : Heap} {locs : List Loc} {cells slots : Nat} {Q : State → Prop}
variable {β : Bs} {D : va_G} {cA : FieldType → ClassId} {μ : Fx} {pc : Nat} {ls : Array Slot} {rest : List Value} {M : Mm}
theorem w_get (C : CX β D cA μ p s m args meth c) (hW : WH β D cA M H) {i idx cn k a : Nat} {fin : Bool} (hd : μ.2.2.2.2[i]? = some (pc, (.getfield idx, 3))) (hF : FL μ.1.cls idx cn k fin) (hs : sh M.1 a = some (.inl cn))
    (kk : W p l e R s m args below meth c H locs cells slots Q (F0 m (pc + 3) ls (fval β M.2 cn a k :: rest))) : W p l e R s m args below meth c H locs cells slots Q (F0 m pc ls (rv β a :: rest)) := by
  rw [hW.ref hs]
  have hat := hW.obj hs
  have hd' := C.dk hd
  obtain ⟨C1, C2, C3, C4, C5, ⟨hK, -⟩, -⟩ := C
  obtain ⟨Cn, T, N, h1, h2, h3, h4, h5, h6, h7, h8, h9⟩ := hF
  exact va_get (D := D) (ci := cn) C1 C2 C5 h2 C4 hK (va_P1 hat) 0 rfl h1 k h5 (C5 _ h9) (fun _ h => h) (by rw [List.getElem?_map, List.getElem?_range (by omega)]; rfl) hd' kk
theorem w_put (C : CX β D cA μ p s m args meth c) (hW : WH β D cA M H) {i idx cn k a : Nat} (hd : μ.2.2.2.2[i]? = some (pc, (.putfield idx, 3))) {fin : Bool} (hF : FL μ.1.cls idx cn k fin) (hfin : fin = true → μ.1.name = "<init>" ∧ CL[cn]?.map (fun q => q.1) = some μ.1.cls) (hs : sh M.1 a = some (.inl cn)) {v : Value} (hn : narrow (fT cn k) v = v) (hfit : fits (fT cn k) v = true) {m' : Mi} (hv : ∀ j, j < fN cn → fval β m' cn a j = if j = k then v else fval β M.2 cn a j) (hr : ∀ r, r ≠ a → ce β cA M.1 m' r = ce β cA M.1 M.2 r)
    (kk : ∀ (H1 : Heap) (k0 : Nat), WH β D cA (M.1, m') H1 → H1.size = H.size → (∀ q : Nat, q ≠ β.1 + a → H1[q]? = H[q]?) → W p l e R s m args below meth c H1 (locs ++ [⟨β.1 + a, k0⟩]) cells slots Q (F0 m (pc + 3) ls rest)) : W p l e R s m args below meth c H locs cells slots Q (F0 m pc ls (v :: rv β a :: rest)) := by
  rw [hW.ref hs]
  have hat := hW.obj hs
  have hd' := C.dk hd
  have hname : meth.name = μ.1.name := C.2.2.2.2.2.2.2.2.1
  obtain ⟨C1, C2, C3, C4, C5, ⟨hK, -⟩, -⟩ := C
  obtain ⟨Cn, T, N, h1, h2, h3, h4, h5, h6, h7, h8, h9⟩ := hF
  have hap := va_apart (own := μ.1.cls) C5 h2 (fT cn) h3 h4 hK h1
  obtain ⟨r0, hr0, cell, q1, q2, q3, q4⟩ := hat
  have hr1 : r0 = (Cn, T, N) := Option.some.inj (hr0.symm.trans h1)
  subst hr1
  obtain ⟨hS, hfc, kC, hkC, hkind⟩ := hK.1 cn _ h1
  obtain ⟨cf, kf, fi, f, hi, hsl⟩ := hS k h5
  have hlay := C5 _ (h2 _ (u_in_lay h5))
  have hst := (u_facts hfc hkC (u_lays C5 h2 h5) hi).1
  have hend : ∀ H1 : Heap, H1[β.1 + a]? = some (cell.setSlot (D.2 cn k) v) → H1.size = H.size → (∀ q : Nat, q ≠ β.1 + a → H1[q]? = H[q]?) → WH β D cA (M.1, m') H1 := by
    intro H1 e1 e2 e3
    refine WH.set (m := M.2) (t := M.1) hW hs e2 e3 ?_ hr
    simp only [ce, hs]
    refine ⟨_, h1, t_OB.to (V := updV (vp_V ((List.range (fN cn)).map (fun k => fval β M.2 cn a k))) k v) ⟨_, e1, q2, q3, t_set q4 hap h5 v⟩ (fun j hj => ?_)⟩
    have hj' : j < fN cn := by show j < fN cn; rw [← h6]; exact hj
    have e4 : ∀ g : Nat → Value, vp_V ((List.range (fN cn)).map g) j = g j := by
      intro g
      unfold vp_V
      rw [List.getD_eq_getElem?_getD, List.getElem?_map, List.getElem?_range hj']
      rfl
    rw [e4, hv j hj']
    unfold updV
    by_cases hjk : j = k
    · simp [hjk]
    · simp only [hjk, if_false]
      exact e4 _
  cases hfb : fin with
  | false =>
    rw [hfb] at h7
    unfold u_lay at hlay
    rw [if_neg (by rw [h7]; decide)] at hlay
    have h10 := u_store hfc hkC hkind hlay hi (h3 k h5) hn hfit
    refine W.putK C1 C2 (f := f) ⟨C4, C5 _ h9, ⟨_, _, _, hi⟩, hst⟩ (by rw [q2]; exact h10) q1 q3 (by rw [hsl]; exact k2_hasslot (q4 k h5)) rfl rfl hd' fun H' e1 e2 e3 => ?_
    rw [hsl] at e1
    exact kk H' _ (hend H' e1 e2 e3) e2 e3
  | true =>
    obtain ⟨hin2, hdecl⟩ := hfin hfb
    rw [hfb] at h7
    unfold u_lay at hlay
    rw [if_pos h7] at hlay
    have hown : Cn = μ.1.cls := by
      rw [h1] at hdecl
      exact Option.some.inj hdecl
    have hcf : m.cls = cf := by
      obtain ⟨_, _, c', _, _, _, -, -, hf', -, -, -, hown2, -⟩ := Cond.laysFinal_spec hlay
      have e1 : c' = cf := by have := hi.symm.trans hf'; simp at this; exact this.1.symm
      rw [h8, hown] at hown2
      rw [← e1]; exact Option.some.inj (C4.symm.trans hown2)
    have h10 := u_fits hfc hkC hkind (Or.inr hlay) hi (h3 k h5) hn hfit
    refine W.putFinK C1 C2 C4 (C5 _ h9) hi hst hcf (hname.trans hin2) (by rw [q2]; exact h10) q1 q3 (by rw [hsl]; exact k2_hasslot (q4 k h5)) rfl rfl hd' fun H' e1 e2 e3 => ?_
    rw [hsl] at e1
    exact kk H' _ (hend H' e1 e2 e3) e2 e3
end MemW
