/-! Constructors: a small calculus of what a pure run ends in, and what it keeps. -/
def Wp {A : Type} (x : Option A) (P : A → Prop) : Prop := ∃ r, x = some r ∧ P r
theorem wp_some {A : Type} {r : A} {P : A → Prop} (h : P r) : Wp (some r) P := ⟨r, rfl, h⟩
theorem wp_lt {A B : Type} {x : A} {f : A → Option B} {P : B → Prop} (h : Wp (f x) P) : Wp (lt x f) P := h
theorem wp_if {A : Type} {c : Prop} [Decidable c] {x : Option A} {P : A → Prop} (hc : c) (h : Wp x P) : Wp (if c then x else none) P := by
  rw [if_pos hc]
  exact h
theorem wp_no {A : Type} {c : Prop} [Decidable c] {x y : Option A} {P : A → Prop} (hc : ¬ c) (h : Wp y P) : Wp (if c then x else y) P := by
  rw [if_neg hc]
  exact h
theorem wp_bd {A B C : Type} {g : Option (A × B)} {f : A → B → Option C} {Q : A × B → Prop} {P : C → Prop} (hg : Wp g Q) (h : ∀ a b, Q (a, b) → Wp (f a b) P) : Wp (bd g f) P := by
  obtain ⟨⟨a, b⟩, e, q⟩ := hg
  rw [e]
  exact h a b q
theorem wp_bi {A C : Type} {g : Option A} {f : A → Option C} {Q : A → Prop} {P : C → Prop} (hg : Wp g Q) (h : ∀ a, Q a → Wp (f a) P) : Wp (g.bind f) P := by
  obtain ⟨a, e, q⟩ := hg
  rw [e]
  exact h a q
theorem wp_mo {A : Type} {x : Option A} {P Q : A → Prop} (h : Wp x P) (k : ∀ r, P r → Q r) : Wp x Q := by
  obtain ⟨r, e, p⟩ := h
  exact ⟨r, e, k r p⟩
/-- cells up to n are as they were -/
def nwK (n : Nat) (m m' : Mi) : Prop := ∀ x j, x ≤ n → gi m' x j = gi m x j ∧ gl m' x j = gl m x j ∧ gr m' x j = gr m x j
theorem nwK.rf {n : Nat} {m : Mi} : nwK n m m := fun _ _ _ => ⟨rfl, rfl, rfl⟩
theorem nwK.le {n k : Nat} {m m' : Mi} (h : nwK n m m') (hk : k ≤ n) : nwK k m m' := fun x j hx => h x j (by omega)
theorem nwK.tr {n k : Nat} {m m' m'' : Mi} (h : nwK n m m') (h' : nwK k m' m'') (hk : n ≤ k) : nwK n m m'' := fun x j hx => by
  obtain ⟨a, b, c⟩ := h x j hx
  obtain ⟨a', b', c'⟩ := h' x j (by omega)
  exact ⟨a'.trans a, b'.trans b, c'.trans c⟩
theorem nwK.zr {n a : Nat} {m m' : Mi} (h : nwK n m m') (ha : n < a) : nwK n m (zr m' a) := fun x j hx => by
  have e : ¬ x = a := by omega
  obtain ⟨h1, h2, h3⟩ := h x j hx
  exact ⟨(show (if x = a then 0 else gi m' x j) = _ by rw [if_neg e]; exact h1), (show (if x = a then 0 else gl m' x j) = _ by rw [if_neg e]; exact h2), (show (if x = a then 0 else gr m' x j) = _ by rw [if_neg e]; exact h3)⟩
theorem nwK.sr {n a k v : Nat} {m m' : Mi} (h : nwK n m m') (ha : n < a) : nwK n m (sr m' a k v) := fun x j hx => by
  have e : ¬ (x = a ∧ j = k) := by omega
  obtain ⟨h1, h2, h3⟩ := h x j hx
  exact ⟨h1, h2, (show (if x = a ∧ j = k then v else gr m' x j) = _ by rw [if_neg e]; exact h3)⟩
theorem nwK.si {n a k : Nat} {v : Int32} {m m' : Mi} (h : nwK n m m') (ha : n < a) : nwK n m (si m' a k v) := fun x j hx => by
  have e : ¬ (x = a ∧ j = k) := by omega
  obtain ⟨h1, h2, h3⟩ := h x j hx
  exact ⟨(show (if x = a ∧ j = k then v else gi m' x j) = _ by rw [if_neg e]; exact h1), h2, h3⟩
theorem nwK.sl {n a k : Nat} {v : Int64} {m m' : Mi} (h : nwK n m m') (ha : n < a) : nwK n m (sl m' a k v) := fun x j hx => by
  have e : ¬ (x = a ∧ j = k) := by omega
  obtain ⟨h1, h2, h3⟩ := h x j hx
  exact ⟨h1, (show (if x = a ∧ j = k then v else gl m' x j) = _ by rw [if_neg e]; exact h2), h3⟩
theorem nw_sh {t L : List Sh} {a : Nat} {x : Sh} (h : sh t a = some x) : sh (t ++ L) a = some x := by
  obtain ⟨h1, h2⟩ := sh_le h
  unfold sh at h ⊢
  rw [if_neg (by omega)] at h ⊢
  rw [List.getElem?_append_left (by omega)]
  exact h
theorem nw_at {t L : List Sh} {n k : Nat} {x : Sh} (hl : t.length = n) (h : L[k]? = some x) : sh (t ++ L) (n + 1 + k) = some x := by
  unfold sh
  rw [if_neg (by omega), List.getElem?_append_right (by omega), show n + 1 + k - 1 - t.length = k by omega]
  exact h
section NewRows
variable {A : Type} {t L : List Sh} {m : Mi} {n a c k : Nat} {s : Sh} {P : A → Prop}
theorem wp_new {K : Nat → List Sh → Mi → Option A} (hl : t.length = n) (hn : n < 1000000) (h : Wp (K (n + 1) (t ++ [s]) (zr m (n + 1))) P) : Wp (if t.length < 1000000 then lt (t.length + 1) fun r => lt (t ++ [s]) fun t' => lt (zr m (t.length + 1)) fun m' => K r t' m' else none) P := by
  subst hl
  rw [if_pos hn]
  exact h
/-- a new array into a field of a -/
theorem wp_arr {K : Nat → List Sh → Mi → Option A} (hl : t.length = n) (hn : n < 1000000) (ho : sh t a = some (.inl c)) (h : sh (t ++ [s]) a = some (.inl c) → Wp (K (n + 1) (t ++ [s]) (sr (zr m (n + 1)) a k (n + 1))) P) : Wp (if t.length < 1000000 then lt (t.length + 1) fun r => lt (t ++ [s]) fun t' => lt (zr m (t.length + 1)) fun m' => (if ob t' a c = true then lt (sr m' a k r) fun m2 => K r t' m2 else none) else none) P := by
  refine wp_new hl hn (wp_if (ob_of (nw_sh ho)) (h (nw_sh ho)))
/-- a new object into a field of a -/
theorem wp_obj {d : Nat} {F : List Sh → Mi → Nat → Option Mm} {K : Nat → List Sh → Mi → Option A} {Q : Mi → Prop} (hl : t.length = n) (hn : n < 1000000) (ho : sh t a = some (.inl c)) (hF : Wp (F (t ++ [.inl d]) (zr m (n + 1)) (n + 1)) (fun q => q.1 = t ++ L ∧ nwK n m q.2 ∧ Q q.2)) (h : ∀ m2, nwK n m m2 → Q m2 → sh (t ++ L) a = some (.inl c) → Wp (K (n + 1) (t ++ L) (sr m2 a k (n + 1))) P) :
    Wp (if t.length < 1000000 then lt (t.length + 1) fun r => lt (t ++ [.inl d]) fun t' => lt (zr m (t.length + 1)) fun m' => (if ob t' r d = true then bd (F t' m' r) fun t2 m2 => (if ob t2 a c = true then lt (sr m2 a k r) fun m3 => K r t2 m3 else none) else none) else none) P := by
  refine wp_new hl hn (wp_if ?_ (wp_bd hF (fun t2 m2 q => ?_)))
  · subst hl
    exact ob_of sh_new
  · obtain ⟨q1, q2, q3⟩ := q
    have q1 : t2 = t ++ L := q1
    subst q1
    exact wp_if (ob_of (nw_sh ho)) (h m2 q2 q3 (nw_sh ho))
end NewRows
theorem new_4 {t : List Sh} {m : Mi} {n : Nat} {v : Int32} {w : Nat} (hl : t.length = n) (hn : n < 900000) (hv : ix ((2 * (if 1 < v then v else 1)) * 8) = w) (hw : w ≤ 100000) (hp : ¬ ((2 * (if 1 < v then v else 1)) * 8) < 0) : Wp (f_X4_init (t ++ [.inl 4]) (zr m (n + 1)) (n + 1) v) (fun q => q.1 = t ++ [.inl 4, .inr (.long, w)] ∧ nwK n m q.2 ∧ gr q.2 (n + 1) 0 = n + 2 ∧ gi q.2 (n + 1) 1 = 0 ∧ ∀ j, gl q.2 (n + 2) j = 0) := by
  unfold f_X4_init
  refine wp_if hp (wp_if (by rw [hv]; exact hw) ?_)
  rw [hv]
  refine wp_arr (n := n + 1) (by simp [hl]) (by omega) (by subst hl; exact sh_new) (fun _ => ?_)
  refine wp_lt (wp_some ⟨by simp, ((((nwK.rf.zr (by omega)).zr (by omega)).sr (by omega)).si (by omega)), ?_, ?_, fun j => ?_⟩)
  · simp [gr, si, sr]
  · simp [gi, si]
  · simp [gl, si, sr, zr]
theorem new_10 {t : List Sh} {m : Mi} {n : Nat} (hl : t.length = n) (hn : n < 900000) : Wp (f_X10_init (t ++ [.inl 10]) (zr m (n + 1)) (n + 1)) (fun q => q.1 = t ++ [.inl 10, .inr (.long, 8)] ∧ nwK n m q.2 ∧ gr q.2 (n + 1) 0 = n + 2) := by
  unfold f_X10_init
  refine wp_arr (n := n + 1) (by simp [hl]) (by omega) (by subst hl; exact sh_new) (fun _ => ?_)
  refine wp_lt (wp_lt (wp_lt (wp_lt (wp_some ⟨by simp [ix], ((((((((nwK.rf.zr (by omega)).zr (by omega)).sr (by omega)).si (by omega)).sr (by omega)).si (by omega)).si (by omega))), ?_⟩))))
  simp [gr, si, sr]
theorem new_7 {t : List Sh} {m : Mi} {n : Nat} (hl : t.length = n) (hn : n < 900000) : Wp (f_X7_init (t ++ [.inl 7]) (zr m (n + 1)) (n + 1)) (fun q => q.1 = t ++ [.inl 7, .inr (.long, 8)] ∧ nwK n m q.2 ∧ gr q.2 (n + 1) 0 = n + 2) := by
  unfold f_X7_init
  refine wp_arr (n := n + 1) (by simp [hl]) (by omega) (by subst hl; exact sh_new) (fun _ => ?_)
  refine wp_lt (wp_lt (wp_lt (wp_lt (wp_lt (wp_some ⟨by simp [ix], ((((((((nwK.rf.zr (by omega)).zr (by omega)).sr (by omega)).si (by omega)).si (by omega)).si (by omega)).si (by omega)).si (by omega)), ?_⟩)))))
  simp [gr, si, sr]
theorem new_2 {t : List Sh} {m : Mi} {n : Nat} (hl : t.length = n) (hn : n < 900000) : Wp (f_X2_init (t ++ [.inl 2]) (zr m (n + 1)) (n + 1)) (fun q => q.1 = t ++ [.inl 2, .inr (.int, 6)] ∧ nwK n m q.2 ∧ gr q.2 (n + 1) 0 = n + 2) := by
  unfold f_X2_init
  refine wp_arr (n := n + 1) (by simp [hl]) (by omega) (by subst hl; exact sh_new) (fun _ => ?_)
  refine wp_lt (wp_lt (wp_lt (wp_lt (wp_some ⟨by simp [ix], (((((((nwK.rf.zr (by omega)).zr (by omega)).sr (by omega)).si (by omega)).si (by omega)).si (by omega)).si (by omega)), ?_⟩))))
  simp [gr, si, sr]
theorem wp_lp {σ ρ : Type} {body : σ → Option (σ ⊕ ρ)} (P : σ → Prop) (Q : ρ → Prop) (w : σ → Nat) {x : σ} (h : ∀ x, P x → Wp (body x) (fun z => match z with
  | .inl x' => P x' ∧ w x' < w x
  | .inr y => Q y)) (hx : P x) (hw : w x < 2 ^ 63) : Wp (lp body FUEL x) Q := by
  refine lp_inv P Q w (fun x hP => ?_) FUEL x hx (by unfold FUEL; omega)
  obtain ⟨z, e, hz⟩ := h x hP
  rcases z with x' | y
  · exact Or.inr ⟨x', e, hz.1, hz.2⟩
  · exact Or.inl ⟨y, e, hz⟩
def rpB (a b : Sh) : Nat → List Sh
  | 0 => []
  | k + 1 => rpB a b k ++ [a, b]
def rpA (a : Sh) : Nat → List Sh
  | 0 => []
  | k + 1 => rpA a k ++ [a]
theorem rpB_len (a b : Sh) (k : Nat) : (rpB a b k).length = 2 * k := by
  induction k with
  | zero => rfl
  | succ k ih =>
    show (rpB a b k ++ [a, b]).length = _
    rw [List.length_append, ih]
    show 2 * k + 2 = _
    omega
theorem rpA_len (a : Sh) (k : Nat) : (rpA a k).length = k := by
  induction k with
  | zero => rfl
  | succ k ih =>
    show (rpA a k ++ [a]).length = _
    rw [List.length_append, ih]
    rfl
/-- cells up to n, but for A, are as they were -/
def nwA (n A : Nat) (m m' : Mi) : Prop := ∀ x j, x ≤ n → x ≠ A → gi m' x j = gi m x j ∧ gl m' x j = gl m x j ∧ gr m' x j = gr m x j
theorem nwA.K {n A k : Nat} {m m' : Mi} (h : nwA n A m m') (hk : k ≤ n) (hA : k < A) : nwK k m m' := fun x j hx => h x j (by omega) (by omega)
theorem new_packs {t : List Sh} {m : Mi} {n a A : Nat} (hl : t.length = n) (hn : n < 800000) (ha : sh t a = some (.inl 6)) (hA : sh t A = some (.inr (.object RX2, 10))) (haA : a ≠ A) (hf : gr m a 1 = A) :
    Wp (lp (fun x : Int32 × List Sh × Mi => f_X6_init_l24 x.2.1 x.2.2 a x.1) FUEL (0, t, m)) (fun q => q.1 = t ++ rpB (.inl 2) (.inr (.int, 6)) 10 ∧ nwA n A m q.2 ∧ ∀ j, j < 10 → gr q.2 A j = n + 1 + 2 * j ∧ gr q.2 (n + 1 + 2 * j) 0 = n + 2 + 2 * j) := by
  have la : a ≤ n := by rw [← hl]; exact (sh_le ha).2
  have lA : A ≤ n := by rw [← hl]; exact (sh_le hA).2
  refine wp_lp (fun x => ∃ k, k ≤ 10 ∧ x.1 = nI k ∧ x.2.1 = t ++ rpB (.inl 2) (.inr (.int, 6)) k ∧ nwA n A m x.2.2 ∧ ∀ j, j < k → gr x.2.2 A j = n + 1 + 2 * j ∧ gr x.2.2 (n + 1 + 2 * j) 0 = n + 2 + 2 * j) _ (fun x => 10 - ix x.1) (fun x hx => ?_) ⟨0, by omega, rfl, (List.append_nil t).symm, fun _ _ _ _ => ⟨rfl, rfl, rfl⟩, fun j hj => by omega⟩ (by show 10 - ix 0 < 2 ^ 63; omega)
  obtain ⟨i, t1, m1⟩ := x
  obtain ⟨k, hk, y1, y2, y3, y4⟩ := hx
  have e1 : i = nI k := y1
  have e2 : t1 = t ++ rpB (.inl 2) (.inr (.int, 6)) k := y2
  have h3 : nwA n A m m1 := y3
  have h4 : ∀ j, j < k → gr m1 A j = n + 1 + 2 * j ∧ gr m1 (n + 1 + 2 * j) 0 = n + 2 + 2 * j := y4
  clear y1 y2 y3 y4
  subst e1
  have l1 : t1.length = n + 2 * k := by rw [e2, List.length_append, rpB_len, hl]
  have a1 : sh t1 a = some (.inl 6) := by rw [e2]; exact nw_sh ha
  have A1 : sh t1 A = some (.inr (.object RX2, 10)) := by rw [e2]; exact nw_sh hA
  have f1 : gr m1 a 1 = A := ((h3 a _ la haA).2.2).trans hf
  show Wp (f_X6_init_l24 t1 m1 a (nI k)) _
  unfold f_X6_init_l24
  by_cases hk2 : k = 10
  · subst hk2
    rw [if_pos (by decide)]
    exact wp_some ⟨e2, h3, h4⟩
  · refine wp_no (by rw [show (10 : Int32) = nI 10 from rfl]; exact nI_ge (by omega) (by omega)) (wp_if (ob_of a1) (wp_new l1 (by omega) (wp_if (by rw [← l1]; exact ob_of sh_new) (wp_bd (new_2 l1 (by omega)) (fun t2 m2 q => ?_)))))
    obtain ⟨q1, q2, q3⟩ := q
    have q1 : t2 = t1 ++ [.inl 2, .inr (.int, 6)] := q1
    have q2 : nwK (n + 2 * k) m1 m2 := q2
    have q3 : gr m2 (n + 2 * k + 1) 0 = n + 2 * k + 2 := q3
    rw [f1]
    refine wp_if (ar_of (by rw [q1]; exact nw_sh A1) (by omega) (by omega)) (wp_if ?_ (wp_lt (wp_lt (wp_some ⟨⟨k + 1, by omega, nI_1 k, ?_, fun x j hx hxA => ?_, fun j hj => ?_⟩, ?_⟩))))
    · rw [q1]
      exact ob_of (nw_at (k := 0) l1 rfl)
    · show t2 = t ++ (rpB _ _ k ++ [_, _])
      rw [q1, e2, List.append_assoc]
    · obtain ⟨x1, x2, x3⟩ := q2 x j (by omega)
      obtain ⟨y1, y2, y3⟩ := h3 x j hx hxA
      refine ⟨x1.trans y1, x2.trans y2, ?_⟩
      show (if x = A ∧ j = ix (nI k) then _ else gr m2 x j) = _
      rw [if_neg (fun e => hxA e.1)]
      exact x3.trans y3
    · rw [ix_nI (by omega)]
      show (if A = A ∧ j = k then n + 2 * k + 1 else gr m2 A j) = _ ∧ (if n + 1 + 2 * j = A ∧ 0 = k then n + 2 * k + 1 else gr m2 (n + 1 + 2 * j) 0) = _
      rw [if_neg (show ¬ (n + 1 + 2 * j = A ∧ 0 = k) by omega)]
      by_cases hj2 : j = k
      · subst hj2
        rw [if_pos ⟨rfl, rfl⟩]
        exact ⟨by omega, by rw [show n + 1 + 2 * j = n + 2 * j + 1 by omega, q3]; omega⟩
      · rw [if_neg (fun e => hj2 e.2)]
        obtain ⟨y1, y2⟩ := h4 j (by omega)
        exact ⟨((q2 A j (by omega)).2.2).trans y1, ((q2 _ 0 (by omega)).2.2).trans y2⟩
    · show 10 - ix (nI k + 1) < 10 - ix (nI k)
      rw [nI_1, ix_nI (n := k + 1) (by omega), ix_nI (n := k) (by omega)]
      omega
theorem new_rels {t : List Sh} {m : Mi} {n a A : Nat} (hl : t.length = n) (hn : n < 800000) (ha : sh t a = some (.inl 6)) (hA : sh t A = some (.inr (.object RX7, 60))) (haA : a ≠ A) (hf : gr m a 2 = A) :
    Wp (lp (fun x : Int32 × List Sh × Mi => f_X6_init_l60 x.2.1 x.2.2 a x.1) FUEL (0, t, m)) (fun q => q.1 = t ++ rpB (.inl 7) (.inr (.long, 8)) 60 ∧ nwA n A m q.2 ∧ ∀ j, j < 60 → gr q.2 A j = n + 1 + 2 * j ∧ gr q.2 (n + 1 + 2 * j) 0 = n + 2 + 2 * j) := by
  have la : a ≤ n := by rw [← hl]; exact (sh_le ha).2
  have lA : A ≤ n := by rw [← hl]; exact (sh_le hA).2
  refine wp_lp (fun x => ∃ k, k ≤ 60 ∧ x.1 = nI k ∧ x.2.1 = t ++ rpB (.inl 7) (.inr (.long, 8)) k ∧ nwA n A m x.2.2 ∧ ∀ j, j < k → gr x.2.2 A j = n + 1 + 2 * j ∧ gr x.2.2 (n + 1 + 2 * j) 0 = n + 2 + 2 * j) _ (fun x => 60 - ix x.1) (fun x hx => ?_) ⟨0, by omega, rfl, (List.append_nil t).symm, fun _ _ _ _ => ⟨rfl, rfl, rfl⟩, fun j hj => by omega⟩ (by show 60 - ix 0 < 2 ^ 63; omega)
  obtain ⟨i, t1, m1⟩ := x
  obtain ⟨k, hk, y1, y2, y3, y4⟩ := hx
  have e1 : i = nI k := y1
  have e2 : t1 = t ++ rpB (.inl 7) (.inr (.long, 8)) k := y2
  have h3 : nwA n A m m1 := y3
  have h4 : ∀ j, j < k → gr m1 A j = n + 1 + 2 * j ∧ gr m1 (n + 1 + 2 * j) 0 = n + 2 + 2 * j := y4
  clear y1 y2 y3 y4
  subst e1
  have l1 : t1.length = n + 2 * k := by rw [e2, List.length_append, rpB_len, hl]
  have a1 : sh t1 a = some (.inl 6) := by rw [e2]; exact nw_sh ha
  have A1 : sh t1 A = some (.inr (.object RX7, 60)) := by rw [e2]; exact nw_sh hA
  have f1 : gr m1 a 2 = A := ((h3 a _ la haA).2.2).trans hf
  show Wp (f_X6_init_l60 t1 m1 a (nI k)) _
  unfold f_X6_init_l60
  by_cases hk2 : k = 60
  · subst hk2
    rw [if_pos (by decide)]
    exact wp_some ⟨e2, h3, h4⟩
  · refine wp_no (by rw [show (60 : Int32) = nI 60 from rfl]; exact nI_ge (by omega) (by omega)) (wp_if (ob_of a1) (wp_new l1 (by omega) (wp_if (by rw [← l1]; exact ob_of sh_new) (wp_bd (new_7 l1 (by omega)) (fun t2 m2 q => ?_)))))
    obtain ⟨q1, q2, q3⟩ := q
    have q1 : t2 = t1 ++ [.inl 7, .inr (.long, 8)] := q1
    have q2 : nwK (n + 2 * k) m1 m2 := q2
    have q3 : gr m2 (n + 2 * k + 1) 0 = n + 2 * k + 2 := q3
    rw [f1]
    refine wp_if (ar_of (by rw [q1]; exact nw_sh A1) (by omega) (by omega)) (wp_if ?_ (wp_lt (wp_lt (wp_some ⟨⟨k + 1, by omega, nI_1 k, ?_, fun x j hx hxA => ?_, fun j hj => ?_⟩, ?_⟩))))
    · rw [q1]
      exact ob_of (nw_at (k := 0) l1 rfl)
    · show t2 = t ++ (rpB _ _ k ++ [_, _])
      rw [q1, e2, List.append_assoc]
    · obtain ⟨x1, x2, x3⟩ := q2 x j (by omega)
      obtain ⟨y1, y2, y3⟩ := h3 x j hx hxA
      refine ⟨x1.trans y1, x2.trans y2, ?_⟩
      show (if x = A ∧ j = ix (nI k) then _ else gr m2 x j) = _
      rw [if_neg (fun e => hxA e.1)]
      exact x3.trans y3
    · rw [ix_nI (by omega)]
      show (if A = A ∧ j = k then n + 2 * k + 1 else gr m2 A j) = _ ∧ (if n + 1 + 2 * j = A ∧ 0 = k then n + 2 * k + 1 else gr m2 (n + 1 + 2 * j) 0) = _
      rw [if_neg (show ¬ (n + 1 + 2 * j = A ∧ 0 = k) by omega)]
      by_cases hj2 : j = k
      · subst hj2
        rw [if_pos ⟨rfl, rfl⟩]
        exact ⟨by omega, by rw [show n + 1 + 2 * j = n + 2 * j + 1 by omega, q3]; omega⟩
      · rw [if_neg (fun e => hj2 e.2)]
        obtain ⟨y1, y2⟩ := h4 j (by omega)
        exact ⟨((q2 A j (by omega)).2.2).trans y1, ((q2 _ 0 (by omega)).2.2).trans y2⟩
    · show 60 - ix (nI k + 1) < 60 - ix (nI k)
      rw [nI_1, ix_nI (n := k + 1) (by omega), ix_nI (n := k) (by omega)]
      omega
theorem new_0 {t : List Sh} {m : Mi} {n : Nat} : Wp (f_X0_init t (zr m (n + 1)) (n + 1)) (fun q => nwK n m q) := by
  unfold f_X0_init
  exact wp_lt (wp_lt (wp_lt (wp_lt (wp_lt (wp_lt (wp_lt (wp_lt (wp_some (((((((((nwK.rf.zr (by omega)).si (by omega)).si (by omega)).si (by omega)).si (by omega)).si (by omega)).si (by omega)).si (by omega)).si (by omega))))))))))
theorem new_cons {t : List Sh} {m : Mi} {n a A : Nat} (hl : t.length = n) (hn : n < 800000) (ha : sh t a = some (.inl 6)) (hA : sh t A = some (.inr (.object RX0, 250))) (haA : a ≠ A) (hf : gr m a 3 = A) :
    Wp (lp (fun x : Int32 × List Sh × Mi => f_X6_init_l97 x.2.1 x.2.2 a x.1) FUEL (0, t, m)) (fun q => q.1 = t ++ rpA (.inl 0) 250 ∧ nwA n A m q.2 ∧ ∀ j, j < 250 → gr q.2 A j = n + 1 + j) := by
  have la : a ≤ n := by rw [← hl]; exact (sh_le ha).2
  have lA : A ≤ n := by rw [← hl]; exact (sh_le hA).2
  refine wp_lp (fun x => ∃ k, k ≤ 250 ∧ x.1 = nI k ∧ x.2.1 = t ++ rpA (.inl 0) k ∧ nwA n A m x.2.2 ∧ ∀ j, j < k → gr x.2.2 A j = n + 1 + j) _ (fun x => 250 - ix x.1) (fun x hx => ?_) ⟨0, by omega, rfl, (List.append_nil t).symm, fun _ _ _ _ => ⟨rfl, rfl, rfl⟩, fun j hj => by omega⟩ (by show 250 - ix 0 < 2 ^ 63; omega)
  obtain ⟨i, t1, m1⟩ := x
  obtain ⟨k, hk, y1, y2, y3, y4⟩ := hx
  have e1 : i = nI k := y1
  have e2 : t1 = t ++ rpA (.inl 0) k := y2
  have h3 : nwA n A m m1 := y3
  have h4 : ∀ j, j < k → gr m1 A j = n + 1 + j := y4
  clear y1 y2 y3 y4
  subst e1
  have l1 : t1.length = n + k := by rw [e2, List.length_append, rpA_len, hl]
  have a1 : sh t1 a = some (.inl 6) := by rw [e2]; exact nw_sh ha
  have A1 : sh t1 A = some (.inr (.object RX0, 250)) := by rw [e2]; exact nw_sh hA
  have f1 : gr m1 a 3 = A := ((h3 a _ la haA).2.2).trans hf
  show Wp (f_X6_init_l97 t1 m1 a (nI k)) _
  unfold f_X6_init_l97
  by_cases hk2 : k = 250
  · subst hk2
    rw [if_pos (by decide)]
    exact wp_some ⟨e2, h3, h4⟩
  · refine wp_no (by rw [show (250 : Int32) = nI 250 from rfl]; exact nI_ge (by omega) (by omega)) (wp_if (ob_of a1) (wp_new l1 (by omega) (wp_if (by rw [← l1]; exact ob_of sh_new) (wp_bi new_0 (fun m2 q2 => ?_)))))
    rw [f1]
    refine wp_if (ar_of (nw_sh A1) (by omega) (by omega)) (wp_lt (wp_lt (wp_some ⟨⟨k + 1, by omega, nI_1 k, ?_, fun x j hx hxA => ?_, fun j hj => ?_⟩, ?_⟩)))
    · show t1 ++ [_] = t ++ (rpA _ k ++ [_])
      rw [e2, List.append_assoc]
    · obtain ⟨x1, x2, x3⟩ := q2 x j (by omega)
      obtain ⟨y1, y2, y3⟩ := h3 x j hx hxA
      refine ⟨x1.trans y1, x2.trans y2, ?_⟩
      show (if x = A ∧ j = ix (nI k) then _ else gr m2 x j) = _
      rw [if_neg (fun e => hxA e.1)]
      exact x3.trans y3
    · rw [ix_nI (by omega)]
      show (if A = A ∧ j = k then n + k + 1 else gr m2 A j) = _
      by_cases hj2 : j = k
      · subst hj2
        rw [if_pos ⟨rfl, rfl⟩]
        omega
      · rw [if_neg (fun e => hj2 e.2)]
        exact ((q2 A j (by omega)).2.2).trans (h4 j (by omega))
    · show 250 - ix (nI k + 1) < 250 - ix (nI k)
      rw [nI_1, ix_nI (n := k + 1) (by omega), ix_nI (n := k) (by omega)]
      omega
