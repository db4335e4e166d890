section RowsB
variable {α : Type} {G : Bs → Prop} {μ : Fx} {E : Ev} {κ : α → Option Rs} {pc : Nat} {L L' : List (Nat × PV)} {st : List PV} {M : Mm} {r : Option α}

theorem r_isub (i pc' : Nat) {x y : Int32} (hd : μ.2.2.2.2[i]? = some (pc, (.isub, 1))) (hp : pc + 1 = pc') (k : SmG G μ E κ pc' L (.inl (x - y) :: st) M r) : SmG G μ E κ pc L (.inl y :: .inl x :: st) M r := by
  subst hp
  exact Sm.go (fun β D cA p l e R s m args below meth c H locs ls cells slots Q C hl kk => lv_isub C.1 C.2.1 (C.dk hd) (kk ls hl)) k
theorem r_imul (i pc' : Nat) {x y : Int32} (hd : μ.2.2.2.2[i]? = some (pc, (.imul, 1))) (hp : pc + 1 = pc') (k : SmG G μ E κ pc' L (.inl (x * y) :: st) M r) : SmG G μ E κ pc L (.inl y :: .inl x :: st) M r := by
  subst hp
  exact Sm.go (fun β D cA p l e R s m args below meth c H locs ls cells slots Q C hl kk => lv_imul C.1 C.2.1 (C.dk hd) (kk ls hl)) k
theorem r_iand (i pc' : Nat) {x y : Int32} (hd : μ.2.2.2.2[i]? = some (pc, (.iand, 1))) (hp : pc + 1 = pc') (k : SmG G μ E κ pc' L (.inl (x &&& y) :: st) M r) : SmG G μ E κ pc L (.inl y :: .inl x :: st) M r := by
  subst hp
  exact Sm.go (fun β D cA p l e R s m args below meth c H locs ls cells slots Q C hl kk => lv_iand C.1 C.2.1 (C.dk hd) (kk ls hl)) k
theorem r_ior (i pc' : Nat) {x y : Int32} (hd : μ.2.2.2.2[i]? = some (pc, (.ior, 1))) (hp : pc + 1 = pc') (k : SmG G μ E κ pc' L (.inl (x ||| y) :: st) M r) : SmG G μ E κ pc L (.inl y :: .inl x :: st) M r := by
  subst hp
  exact Sm.go (fun β D cA p l e R s m args below meth c H locs ls cells slots Q C hl kk => lv_ior C.1 C.2.1 (C.dk hd) (kk ls hl)) k
theorem r_ixor (i pc' : Nat) {x y : Int32} (hd : μ.2.2.2.2[i]? = some (pc, (.ixor, 1))) (hp : pc + 1 = pc') (k : SmG G μ E κ pc' L (.inl (x ^^^ y) :: st) M r) : SmG G μ E κ pc L (.inl y :: .inl x :: st) M r := by
  subst hp
  exact Sm.go (fun β D cA p l e R s m args below meth c H locs ls cells slots Q C hl kk => lv_ixor C.1 C.2.1 (C.dk hd) (kk ls hl)) k
theorem r_ishl (i pc' : Nat) {x y : Int32} (hd : μ.2.2.2.2[i]? = some (pc, (.ishl, 1))) (hp : pc + 1 = pc') (k : SmG G μ E κ pc' L (.inl (x <<< (y &&& 31)) :: st) M r) : SmG G μ E κ pc L (.inl y :: .inl x :: st) M r := by
  subst hp
  exact Sm.go (fun β D cA p l e R s m args below meth c H locs ls cells slots Q C hl kk => lv_ishl C.1 C.2.1 (C.dk hd) (kk ls hl)) k
theorem r_ishr (i pc' : Nat) {x y : Int32} (hd : μ.2.2.2.2[i]? = some (pc, (.ishr, 1))) (hp : pc + 1 = pc') (k : SmG G μ E κ pc' L (.inl (x >>> (y &&& 31)) :: st) M r) : SmG G μ E κ pc L (.inl y :: .inl x :: st) M r := by
  subst hp
  exact Sm.go (fun β D cA p l e R s m args below meth c H locs ls cells slots Q C hl kk => lv_ishr C.1 C.2.1 (C.dk hd) (kk ls hl)) k
theorem r_idiv (i pc' : Nat) {x y : Int32} (hd : μ.2.2.2.2[i]? = some (pc, (.idiv, 1))) (hp : pc + 1 = pc') (hne : ¬ y = 0) (k : SmG G μ E κ pc' L (.inl (x / y) :: st) M r) : SmG G μ E κ pc L (.inl y :: .inl x :: st) M r := by
  subst hp
  exact Sm.go (fun β D cA p l e R s m args below meth c H locs ls cells slots Q C hl kk => lv_idiv C.1 C.2.1 (C.dk hd) hne (kk ls hl)) k
theorem r_irem (i pc' : Nat) {x y : Int32} (hd : μ.2.2.2.2[i]? = some (pc, (.irem, 1))) (hp : pc + 1 = pc') (hne : ¬ y = 0) (k : SmG G μ E κ pc' L (.inl (x - x / y * y) :: st) M r) : SmG G μ E κ pc L (.inl y :: .inl x :: st) M r := by
  subst hp
  exact Sm.go (fun β D cA p l e R s m args below meth c H locs ls cells slots Q C hl kk => lv_irem C.1 C.2.1 (C.dk hd) hne (kk ls hl)) k
theorem r_iushr (i pc' : Nat) {x y : Int32} (hd : μ.2.2.2.2[i]? = some (pc, (.iushr, 1))) (hp : pc + 1 = pc') (k : SmG G μ E κ pc' L (.inl ((x.toUInt32 >>> (y.toUInt32 &&& Int32.toUInt32 31)).toInt32) :: st) M r) : SmG G μ E κ pc L (.inl y :: .inl x :: st) M r := by
  subst hp
  exact Sm.go (fun β D cA p l e R s m args below meth c H locs ls cells slots Q C hl kk => lv_iushr C.1 C.2.1 (C.dk hd) rfl (kk ls hl)) k
theorem r_ladd (i pc' : Nat) {x y : Int64} (hd : μ.2.2.2.2[i]? = some (pc, (.ladd, 1))) (hp : pc + 1 = pc') (k : SmG G μ E κ pc' L (.inr (.inl (x + y)) :: st) M r) : SmG G μ E κ pc L (.inr (.inl y) :: .inr (.inl x) :: st) M r := by
  subst hp
  exact Sm.go (fun β D cA p l e R s m args below meth c H locs ls cells slots Q C hl kk => lv_ladd C.1 C.2.1 (C.dk hd) (kk ls hl)) k
theorem r_lsub (i pc' : Nat) {x y : Int64} (hd : μ.2.2.2.2[i]? = some (pc, (.lsub, 1))) (hp : pc + 1 = pc') (k : SmG G μ E κ pc' L (.inr (.inl (x - y)) :: st) M r) : SmG G μ E κ pc L (.inr (.inl y) :: .inr (.inl x) :: st) M r := by
  subst hp
  exact Sm.go (fun β D cA p l e R s m args below meth c H locs ls cells slots Q C hl kk => lv_lsub C.1 C.2.1 (C.dk hd) (kk ls hl)) k
theorem r_lmul (i pc' : Nat) {x y : Int64} (hd : μ.2.2.2.2[i]? = some (pc, (.lmul, 1))) (hp : pc + 1 = pc') (k : SmG G μ E κ pc' L (.inr (.inl (x * y)) :: st) M r) : SmG G μ E κ pc L (.inr (.inl y) :: .inr (.inl x) :: st) M r := by
  subst hp
  exact Sm.go (fun β D cA p l e R s m args below meth c H locs ls cells slots Q C hl kk => lv_lmul C.1 C.2.1 (C.dk hd) (kk ls hl)) k
theorem r_land (i pc' : Nat) {x y : Int64} (hd : μ.2.2.2.2[i]? = some (pc, (.land, 1))) (hp : pc + 1 = pc') (k : SmG G μ E κ pc' L (.inr (.inl (x &&& y)) :: st) M r) : SmG G μ E κ pc L (.inr (.inl y) :: .inr (.inl x) :: st) M r := by
  subst hp
  exact Sm.go (fun β D cA p l e R s m args below meth c H locs ls cells slots Q C hl kk => lv_land C.1 C.2.1 (C.dk hd) (kk ls hl)) k
theorem r_lor (i pc' : Nat) {x y : Int64} (hd : μ.2.2.2.2[i]? = some (pc, (.lor, 1))) (hp : pc + 1 = pc') (k : SmG G μ E κ pc' L (.inr (.inl (x ||| y)) :: st) M r) : SmG G μ E κ pc L (.inr (.inl y) :: .inr (.inl x) :: st) M r := by
  subst hp
  exact Sm.go (fun β D cA p l e R s m args below meth c H locs ls cells slots Q C hl kk => lv_lor C.1 C.2.1 (C.dk hd) (kk ls hl)) k
theorem r_ldiv (i pc' : Nat) {x y : Int64} (hd : μ.2.2.2.2[i]? = some (pc, (.ldiv, 1))) (hp : pc + 1 = pc') (hne : ¬ y = 0) (k : SmG G μ E κ pc' L (.inr (.inl (x / y)) :: st) M r) : SmG G μ E κ pc L (.inr (.inl y) :: .inr (.inl x) :: st) M r := by
  subst hp
  exact Sm.go (fun β D cA p l e R s m args below meth c H locs ls cells slots Q C hl kk => lv_ldiv C.1 C.2.1 (C.dk hd) hne (kk ls hl)) k
theorem r_lrem (i pc' : Nat) {x y : Int64} (hd : μ.2.2.2.2[i]? = some (pc, (.lrem, 1))) (hp : pc + 1 = pc') (hne : ¬ y = 0) (k : SmG G μ E κ pc' L (.inr (.inl (x - x / y * y)) :: st) M r) : SmG G μ E κ pc L (.inr (.inl y) :: .inr (.inl x) :: st) M r := by
  subst hp
  exact Sm.go (fun β D cA p l e R s m args below meth c H locs ls cells slots Q C hl kk => lv_lrem C.1 C.2.1 (C.dk hd) hne (kk ls hl)) k
theorem r_lshl (i pc' : Nat) {x : Int64} {y : Int32} (hd : μ.2.2.2.2[i]? = some (pc, (.lshl, 1))) (hp : pc + 1 = pc') (k : SmG G μ E κ pc' L (.inr (.inl (x <<< (y.toInt64 &&& 63))) :: st) M r) : SmG G μ E κ pc L (.inl y :: .inr (.inl x) :: st) M r := by
  subst hp
  exact Sm.go (fun β D cA p l e R s m args below meth c H locs ls cells slots Q C hl kk => lv_lshl C.1 C.2.1 (C.dk hd) rfl (kk ls hl)) k
theorem r_lshr (i pc' : Nat) {x : Int64} {y : Int32} (hd : μ.2.2.2.2[i]? = some (pc, (.lshr, 1))) (hp : pc + 1 = pc') (k : SmG G μ E κ pc' L (.inr (.inl (x >>> (y.toInt64 &&& 63))) :: st) M r) : SmG G μ E κ pc L (.inl y :: .inr (.inl x) :: st) M r := by
  subst hp
  exact Sm.go (fun β D cA p l e R s m args below meth c H locs ls cells slots Q C hl kk => lv_lshr C.1 C.2.1 (C.dk hd) rfl (kk ls hl)) k
theorem r_i2l (i pc' : Nat) {x : Int32} (hd : μ.2.2.2.2[i]? = some (pc, (.i2l, 1))) (hp : pc + 1 = pc') (k : SmG G μ E κ pc' L (.inr (.inl x.toInt64) :: st) M r) : SmG G μ E κ pc L (.inl x :: st) M r := by
  subst hp
  exact Sm.go (fun β D cA p l e R s m args below meth c H locs ls cells slots Q C hl kk => lv_i2l C.1 C.2.1 (C.dk hd) rfl (kk ls hl)) k
theorem r_l2i (i pc' : Nat) {x : Int64} (hd : μ.2.2.2.2[i]? = some (pc, (.l2i, 1))) (hp : pc + 1 = pc') (k : SmG G μ E κ pc' L (.inl x.toInt32 :: st) M r) : SmG G μ E κ pc L (.inr (.inl x) :: st) M r := by
  subst hp
  exact Sm.go (fun β D cA p l e R s m args below meth c H locs ls cells slots Q C hl kk => lv_l2i C.1 C.2.1 (C.dk hd) rfl (kk ls hl)) k
theorem r_i2b (i pc' : Nat) {x : Int32} (hd : μ.2.2.2.2[i]? = some (pc, (.i2b, 1))) (hp : pc + 1 = pc') (k : SmG G μ E κ pc' L (.inl x.toInt8.toInt32 :: st) M r) : SmG G μ E κ pc L (.inl x :: st) M r := by
  subst hp
  exact Sm.go (fun β D cA p l e R s m args below meth c H locs ls cells slots Q C hl kk => lv_i2b C.1 C.2.1 (C.dk hd) rfl (kk ls hl)) k
theorem r_lcmp (i pc' : Nat) {x y : Int64} (hd : μ.2.2.2.2[i]? = some (pc, (.lcmp, 1))) (hp : pc + 1 = pc') (k : SmG G μ E κ pc' L (.inl (lg_cmp x y) :: st) M r) : SmG G μ E κ pc L (.inr (.inl y) :: .inr (.inl x) :: st) M r := by
  subst hp
  exact Sm.go (fun β D cA p l e R s m args below meth c H locs ls cells slots Q C hl kk => W.lcmp C.1 C.2.1 (C.dk hd) (kk ls hl)) k
theorem r_dup (i pc' : Nat) {v : PV} (hd : μ.2.2.2.2[i]? = some (pc, (.dup, 1))) (hp : pc + 1 = pc') (hc : pcat v = 1) (k : SmG G μ E κ pc' L (v :: v :: st) M r) : SmG G μ E κ pc L (v :: st) M r := by
  subst hp
  exact Sm.go (fun β D cA p l e R s m args below meth c H locs ls cells slots Q C hl kk => lv_dup C.1 C.2.1 (C.dk hd) ((vv_cat β v).trans hc) (kk ls hl)) k
theorem r_dup2 (i pc' : Nat) {v w : PV} (hd : μ.2.2.2.2[i]? = some (pc, (.dup2, 1))) (hp : pc + 1 = pc') (hc : pcat v = 1) (hc2 : pcat w = 1) (k : SmG G μ E κ pc' L (v :: w :: v :: w :: st) M r) : SmG G μ E κ pc L (v :: w :: st) M r := by
  subst hp
  exact Sm.go (fun β D cA p l e R s m args below meth c H locs ls cells slots Q C hl kk => lv_dup2_11 C.1 C.2.1 (C.dk hd) ((vv_cat β v).trans hc) ((vv_cat β w).trans hc2) (kk ls hl)) k
theorem r_pop (i pc' : Nat) {v : PV} (hd : μ.2.2.2.2[i]? = some (pc, (.pop, 1))) (hp : pc + 1 = pc') (hc : pcat v = 1) (k : SmG G μ E κ pc' L (st) M r) : SmG G μ E κ pc L (v :: st) M r := by
  subst hp
  exact Sm.go (fun β D cA p l e R s m args below meth c H locs ls cells slots Q C hl kk => lv_pop C.1 C.2.1 (C.dk hd) ((vv_cat β v).trans hc) (kk ls hl)) k
theorem r_ldc (i pc' : Nat) {j : Nat} {v : Int32} (hd : μ.2.2.2.2[i]? = some (pc, (.ldc j, 2))) (hp : pc + 2 = pc') (hw : Cond.constant μ.1.cls j v ∈ TB) (k : SmG G μ E κ pc' L (.inl v :: st) M r) : SmG G μ E κ pc L (st) M r := by
  subst hp
  exact Sm.go (fun β D cA p l e R s m args below meth c H locs ls cells slots Q C hl kk => lv_ldc C.1 C.2.1 C.2.2.2.1 (C.2.2.2.2.1 _ hw) (C.dk hd) (kk ls hl)) k
theorem r_ldc2 (i pc' : Nat) {j : Nat} {v : Int64} (hd : μ.2.2.2.2[i]? = some (pc, (.ldc2_w j, 3))) (hp : pc + 3 = pc') (hw : Cond.constantLong μ.1.cls j v ∈ TB) (k : SmG G μ E κ pc' L (.inr (.inl v) :: st) M r) : SmG G μ E κ pc L (st) M r := by
  subst hp
  exact Sm.go (fun β D cA p l e R s m args below meth c H locs ls cells slots Q C hl kk => lv_ldc2 C.1 C.2.1 C.2.2.2.1 (C.2.2.2.2.1 _ hw) (C.dk hd) (kk ls hl)) k
theorem r_istore (i pc' : Nat) {j : Nat} {x : Int32} (hd : μ.2.2.2.2[i]? = some (pc, (.istore j, 2))) (hp : pc + 2 = pc') (hn : j < μ.2.2.1) (hL : stL L j (.inl x) = L') (k : SmG G μ E κ pc' L' st M r) : SmG G μ E κ pc L (.inl x :: st) M r := by
  subst hp
  subst hL
  exact Sm.go (fun β D cA p l e R s m args below meth c H locs ls cells slots Q C hl kk => lv_istore C.1 C.2.1 (C.dk hd) hl hn (vl_stL β L j (.inl x)) (fun ls' hl' => kk ls' hl')) k
theorem r_istore_n (i pc' : Nat) {n : Fin 4} {j : Nat} {x : Int32} (hd : μ.2.2.2.2[i]? = some (pc, (.istore_n n, 1))) (hp : pc + 1 = pc') (hj : (n : Nat) = j) (hn : j < μ.2.2.1) (hL : stL L j (.inl x) = L') (k : SmG G μ E κ pc' L' st M r) : SmG G μ E κ pc L (.inl x :: st) M r := by
  subst hp
  subst hL
  exact Sm.go (fun β D cA p l e R s m args below meth c H locs ls cells slots Q C hl kk => lv_istore_n C.1 C.2.1 (C.dk hd) hj hl hn (vl_stL β L j (.inl x)) (fun ls' hl' => kk ls' hl')) k
theorem r_lstore (i pc' : Nat) {j : Nat} {x : Int64} (hd : μ.2.2.2.2[i]? = some (pc, (.lstore j, 2))) (hp : pc + 2 = pc') (hn : j + 1 < μ.2.2.1) (hL : stL2 L j (.inr (.inl x)) = L') (k : SmG G μ E κ pc' L' st M r) : SmG G μ E κ pc L (.inr (.inl x) :: st) M r := by
  subst hp
  subst hL
  exact Sm.go (fun β D cA p l e R s m args below meth c H locs ls cells slots Q C hl kk => lv_lstore C.1 C.2.1 (C.dk hd) hl hn (vl_stL2 β L j (.inr (.inl x))) (fun ls' hl' => kk ls' hl')) k
theorem r_lstore_n (i pc' : Nat) {n : Fin 4} {j : Nat} {x : Int64} (hd : μ.2.2.2.2[i]? = some (pc, (.lstore_n n, 1))) (hp : pc + 1 = pc') (hj : (n : Nat) = j) (hn : j + 1 < μ.2.2.1) (hL : stL2 L j (.inr (.inl x)) = L') (k : SmG G μ E κ pc' L' st M r) : SmG G μ E κ pc L (.inr (.inl x) :: st) M r := by
  subst hp
  subst hL
  exact Sm.go (fun β D cA p l e R s m args below meth c H locs ls cells slots Q C hl kk => lv_lstore_n C.1 C.2.1 (C.dk hd) hj hl hn (vl_stL2 β L j (.inr (.inl x))) (fun ls' hl' => kk ls' hl')) k
theorem r_astore (i pc' : Nat) {j x : Nat} (hd : μ.2.2.2.2[i]? = some (pc, (.astore j, 2))) (hp : pc + 2 = pc') (hn : j < μ.2.2.1) (hL : stL L j (.inr (.inr x)) = L') (k : SmG G μ E κ pc' L' st M r) : SmG G μ E κ pc L (.inr (.inr x) :: st) M r := by
  subst hp
  subst hL
  refine Sm.go (fun β D cA p l e₀ R s m args below meth c H locs ls cells slots Q C hl kk => ?_) k
  have e := vl_stL β L j (.inr (.inr x))
  change (j, rv β x) :: _ = _ at e
  change W p l e₀ R s m args below meth c H locs cells slots Q (F0 m pc ls (rv β x :: vs β st))
  rcases rv_cases β x with ⟨-, h⟩ | ⟨-, a, h⟩
  · rw [h] at e ⊢
    exact lv_astoreN C.1 C.2.1 (C.dk hd) hl hn e kk
  · rw [h] at e ⊢
    exact lv_astore C.1 C.2.1 (C.dk hd) hl hn e kk
theorem r_astore_n (i pc' : Nat) {n : Fin 4} {j x : Nat} (hd : μ.2.2.2.2[i]? = some (pc, (.astore_n n, 1))) (hp : pc + 1 = pc') (hj : (n : Nat) = j) (hn : j < μ.2.2.1) (hL : stL L j (.inr (.inr x)) = L') (k : SmG G μ E κ pc' L' st M r) : SmG G μ E κ pc L (.inr (.inr x) :: st) M r := by
  subst hp
  subst hL
  refine Sm.go (fun β D cA p l e₀ R s m args below meth c H locs ls cells slots Q C hl kk => ?_) k
  have e := vl_stL β L j (.inr (.inr x))
  change (j, rv β x) :: _ = _ at e
  change W p l e₀ R s m args below meth c H locs cells slots Q (F0 m pc ls (rv β x :: vs β st))
  rcases rv_cases β x with ⟨-, h⟩ | ⟨-, a, h⟩
  · rw [h] at e ⊢
    exact lv_astore_nN C.1 C.2.1 (C.dk hd) hj hl hn e kk
  · rw [h] at e ⊢
    exact lv_astore_n C.1 C.2.1 (C.dk hd) hj hl hn e kk
theorem r_iinc (i pc' q : Nat) {j : Nat} {n : Int} {x : Int32} (hd : μ.2.2.2.2[i]? = some (pc, (.iinc j n, 3))) (hp : pc + 3 = pc') (hq : L[q]? = some (j, .inl x)) (hn : j < μ.2.2.1) (hL : stL L j (.inl (x + Int32.ofInt n)) = L') (k : SmG G μ E κ pc' L' st M r) : SmG G μ E κ pc L st M r := by
  subst hp
  subst hL
  exact Sm.go (fun β D cA p l e R s m args below meth c H locs ls cells slots Q C hl kk => lv_iinc (k := q) C.1 C.2.1 (C.dk hd) hl (by simp [vl, hq]; rfl) rfl hn (vl_stL β L j (.inl (x + Int32.ofInt n))) (fun ls' hl' => kk ls' hl')) k
theorem r_goto (i pc' : Nat) {off : Int} (hd : μ.2.2.2.2[i]? = some (pc, (.goto off, 3))) (ht : (pc : Int) + off = (pc' : Int)) (k : SmG G μ E κ pc' L st M r) : SmG G μ E κ pc L st M r :=
  Sm.go (fun β D cA p l e R s m args below meth c H locs ls cells slots Q C hl kk => lv_goto C.1 C.2.1 (C.dk hd) ht (kk ls hl)) k
theorem r_icmp_eq (i pc1 pc2 : Nat) {off : Int} {x y : Int32} {r1 r2 : Option α} (hd : μ.2.2.2.2[i]? = some (pc, (.if_icmp .eq off, 3))) (ht : (pc : Int) + off = (pc1 : Int)) (hp : pc + 3 = pc2) (k1 : x = y → SmG G μ E κ pc1 L st M r1) (k2 : ¬ (x = y) → SmG G μ E κ pc2 L st M r2) : SmG G μ E κ pc L (.inl y :: .inl x :: st) M (if x = y then r1 else r2) := by
  subst hp
  by_cases hc : x = y
  · rw [if_pos hc]
    exact Sm.go (fun β D cA p l e R s m args below meth c H locs ls cells slots Q C hl kk => lv_icmp_eq C.1 C.2.1 (C.dk hd) ht (fun _ => kk ls hl) (fun hn => absurd hc hn)) (k1 hc)
  · rw [if_neg hc]
    exact Sm.go (fun β D cA p l e R s m args below meth c H locs ls cells slots Q C hl kk => lv_icmp_eq C.1 C.2.1 (C.dk hd) ht (fun hn => absurd hn hc) (fun _ => kk ls hl)) (k2 hc)
theorem r_icmp_ne (i pc1 pc2 : Nat) {off : Int} {x y : Int32} {r1 r2 : Option α} (hd : μ.2.2.2.2[i]? = some (pc, (.if_icmp .ne off, 3))) (ht : (pc : Int) + off = (pc1 : Int)) (hp : pc + 3 = pc2) (k1 : x = y → SmG G μ E κ pc2 L st M r1) (k2 : ¬ (x = y) → SmG G μ E κ pc1 L st M r2) : SmG G μ E κ pc L (.inl y :: .inl x :: st) M (if x = y then r1 else r2) := by
  subst hp
  by_cases hc : x = y
  · rw [if_pos hc]
    exact Sm.go (fun β D cA p l e R s m args below meth c H locs ls cells slots Q C hl kk => lv_icmp_ne C.1 C.2.1 (C.dk hd) ht (fun hn => absurd hc hn) (fun _ => kk ls hl)) (k1 hc)
  · rw [if_neg hc]
    exact Sm.go (fun β D cA p l e R s m args below meth c H locs ls cells slots Q C hl kk => lv_icmp_ne C.1 C.2.1 (C.dk hd) ht (fun _ => kk ls hl) (fun hn => absurd hn hc)) (k2 hc)
theorem r_icmp_lt (i pc1 pc2 : Nat) {off : Int} {x y : Int32} {r1 r2 : Option α} (hd : μ.2.2.2.2[i]? = some (pc, (.if_icmp .lt off, 3))) (ht : (pc : Int) + off = (pc1 : Int)) (hp : pc + 3 = pc2) (k1 : x < y → SmG G μ E κ pc1 L st M r1) (k2 : ¬ (x < y) → SmG G μ E κ pc2 L st M r2) : SmG G μ E κ pc L (.inl y :: .inl x :: st) M (if x < y then r1 else r2) := by
  subst hp
  by_cases hc : x < y
  · rw [if_pos hc]
    exact Sm.go (fun β D cA p l e R s m args below meth c H locs ls cells slots Q C hl kk => lv_icmp_lt C.1 C.2.1 (C.dk hd) ht (fun _ => kk ls hl) (fun hn => absurd hc hn)) (k1 hc)
  · rw [if_neg hc]
    exact Sm.go (fun β D cA p l e R s m args below meth c H locs ls cells slots Q C hl kk => lv_icmp_lt C.1 C.2.1 (C.dk hd) ht (fun hn => absurd hn hc) (fun _ => kk ls hl)) (k2 hc)
theorem r_icmp_gt (i pc1 pc2 : Nat) {off : Int} {x y : Int32} {r1 r2 : Option α} (hd : μ.2.2.2.2[i]? = some (pc, (.if_icmp .gt off, 3))) (ht : (pc : Int) + off = (pc1 : Int)) (hp : pc + 3 = pc2) (k1 : y < x → SmG G μ E κ pc1 L st M r1) (k2 : ¬ (y < x) → SmG G μ E κ pc2 L st M r2) : SmG G μ E κ pc L (.inl y :: .inl x :: st) M (if y < x then r1 else r2) := by
  subst hp
  by_cases hc : y < x
  · rw [if_pos hc]
    exact Sm.go (fun β D cA p l e R s m args below meth c H locs ls cells slots Q C hl kk => lv_icmp_gt C.1 C.2.1 (C.dk hd) ht (fun _ => kk ls hl) (fun hn => absurd hc hn)) (k1 hc)
  · rw [if_neg hc]
    exact Sm.go (fun β D cA p l e R s m args below meth c H locs ls cells slots Q C hl kk => lv_icmp_gt C.1 C.2.1 (C.dk hd) ht (fun hn => absurd hn hc) (fun _ => kk ls hl)) (k2 hc)
theorem r_icmp_le (i pc1 pc2 : Nat) {off : Int} {x y : Int32} {r1 r2 : Option α} (hd : μ.2.2.2.2[i]? = some (pc, (.if_icmp .le off, 3))) (ht : (pc : Int) + off = (pc1 : Int)) (hp : pc + 3 = pc2) (k1 : x ≤ y → SmG G μ E κ pc1 L st M r1) (k2 : ¬ (x ≤ y) → SmG G μ E κ pc2 L st M r2) : SmG G μ E κ pc L (.inl y :: .inl x :: st) M (if x ≤ y then r1 else r2) := by
  subst hp
  by_cases hc : x ≤ y
  · rw [if_pos hc]
    exact Sm.go (fun β D cA p l e R s m args below meth c H locs ls cells slots Q C hl kk => lv_icmp_le C.1 C.2.1 (C.dk hd) ht (fun _ => kk ls hl) (fun hn => absurd hc hn)) (k1 hc)
  · rw [if_neg hc]
    exact Sm.go (fun β D cA p l e R s m args below meth c H locs ls cells slots Q C hl kk => lv_icmp_le C.1 C.2.1 (C.dk hd) ht (fun hn => absurd hn hc) (fun _ => kk ls hl)) (k2 hc)
theorem r_if_eq (i pc1 pc2 : Nat) {off : Int} {x : Int32} {r1 r2 : Option α} (hd : μ.2.2.2.2[i]? = some (pc, (.ifCond .eq off, 3))) (ht : (pc : Int) + off = (pc1 : Int)) (hp : pc + 3 = pc2) (k1 : x = 0 → SmG G μ E κ pc1 L st M r1) (k2 : ¬ (x = 0) → SmG G μ E κ pc2 L st M r2) : SmG G μ E κ pc L (.inl x :: st) M (if x = 0 then r1 else r2) := by
  subst hp
  by_cases hc : x = 0
  · rw [if_pos hc]
    exact Sm.go (fun β D cA p l e R s m args below meth c H locs ls cells slots Q C hl kk => lv_if_eq C.1 C.2.1 (C.dk hd) ht (fun _ => kk ls hl) (fun hn => absurd hc hn)) (k1 hc)
  · rw [if_neg hc]
    exact Sm.go (fun β D cA p l e R s m args below meth c H locs ls cells slots Q C hl kk => lv_if_eq C.1 C.2.1 (C.dk hd) ht (fun hn => absurd hn hc) (fun _ => kk ls hl)) (k2 hc)
theorem r_if_ne (i pc1 pc2 : Nat) {off : Int} {x : Int32} {r1 r2 : Option α} (hd : μ.2.2.2.2[i]? = some (pc, (.ifCond .ne off, 3))) (ht : (pc : Int) + off = (pc1 : Int)) (hp : pc + 3 = pc2) (k1 : x = 0 → SmG G μ E κ pc2 L st M r1) (k2 : ¬ (x = 0) → SmG G μ E κ pc1 L st M r2) : SmG G μ E κ pc L (.inl x :: st) M (if x = 0 then r1 else r2) := by
  subst hp
  by_cases hc : x = 0
  · rw [if_pos hc]
    exact Sm.go (fun β D cA p l e R s m args below meth c H locs ls cells slots Q C hl kk => lv_if_ne C.1 C.2.1 (C.dk hd) ht (fun hn => absurd hc hn) (fun _ => kk ls hl)) (k1 hc)
  · rw [if_neg hc]
    exact Sm.go (fun β D cA p l e R s m args below meth c H locs ls cells slots Q C hl kk => lv_if_ne C.1 C.2.1 (C.dk hd) ht (fun _ => kk ls hl) (fun hn => absurd hn hc)) (k2 hc)
theorem r_if_lt (i pc1 pc2 : Nat) {off : Int} {x : Int32} {r1 r2 : Option α} (hd : μ.2.2.2.2[i]? = some (pc, (.ifCond .lt off, 3))) (ht : (pc : Int) + off = (pc1 : Int)) (hp : pc + 3 = pc2) (k1 : x < 0 → SmG G μ E κ pc1 L st M r1) (k2 : ¬ (x < 0) → SmG G μ E κ pc2 L st M r2) : SmG G μ E κ pc L (.inl x :: st) M (if x < 0 then r1 else r2) := by
  subst hp
  by_cases hc : x < 0
  · rw [if_pos hc]
    exact Sm.go (fun β D cA p l e R s m args below meth c H locs ls cells slots Q C hl kk => lv_if_lt C.1 C.2.1 (C.dk hd) ht (fun _ => kk ls hl) (fun hn => absurd hc hn)) (k1 hc)
  · rw [if_neg hc]
    exact Sm.go (fun β D cA p l e R s m args below meth c H locs ls cells slots Q C hl kk => lv_if_lt C.1 C.2.1 (C.dk hd) ht (fun hn => absurd hn hc) (fun _ => kk ls hl)) (k2 hc)
theorem r_if_ge (i pc1 pc2 : Nat) {off : Int} {x : Int32} {r1 r2 : Option α} (hd : μ.2.2.2.2[i]? = some (pc, (.ifCond .ge off, 3))) (ht : (pc : Int) + off = (pc1 : Int)) (hp : pc + 3 = pc2) (k1 : 0 ≤ x → SmG G μ E κ pc1 L st M r1) (k2 : ¬ (0 ≤ x) → SmG G μ E κ pc2 L st M r2) : SmG G μ E κ pc L (.inl x :: st) M (if 0 ≤ x then r1 else r2) := by
  subst hp
  by_cases hc : 0 ≤ x
  · rw [if_pos hc]
    exact Sm.go (fun β D cA p l e R s m args below meth c H locs ls cells slots Q C hl kk => lv_if_ge C.1 C.2.1 (C.dk hd) ht (fun _ => kk ls hl) (fun hn => absurd hc hn)) (k1 hc)
  · rw [if_neg hc]
    exact Sm.go (fun β D cA p l e R s m args below meth c H locs ls cells slots Q C hl kk => lv_if_ge C.1 C.2.1 (C.dk hd) ht (fun hn => absurd hn hc) (fun _ => kk ls hl)) (k2 hc)
theorem r_if_gt (i pc1 pc2 : Nat) {off : Int} {x : Int32} {r1 r2 : Option α} (hd : μ.2.2.2.2[i]? = some (pc, (.ifCond .gt off, 3))) (ht : (pc : Int) + off = (pc1 : Int)) (hp : pc + 3 = pc2) (k1 : 0 < x → SmG G μ E κ pc1 L st M r1) (k2 : ¬ (0 < x) → SmG G μ E κ pc2 L st M r2) : SmG G μ E κ pc L (.inl x :: st) M (if 0 < x then r1 else r2) := by
  subst hp
  by_cases hc : 0 < x
  · rw [if_pos hc]
    exact Sm.go (fun β D cA p l e R s m args below meth c H locs ls cells slots Q C hl kk => lv_if_gt C.1 C.2.1 (C.dk hd) ht (fun _ => kk ls hl) (fun hn => absurd hc hn)) (k1 hc)
  · rw [if_neg hc]
    exact Sm.go (fun β D cA p l e R s m args below meth c H locs ls cells slots Q C hl kk => lv_if_gt C.1 C.2.1 (C.dk hd) ht (fun hn => absurd hn hc) (fun _ => kk ls hl)) (k2 hc)
theorem r_if_le (i pc1 pc2 : Nat) {off : Int} {x : Int32} {r1 r2 : Option α} (hd : μ.2.2.2.2[i]? = some (pc, (.ifCond .le off, 3))) (ht : (pc : Int) + off = (pc1 : Int)) (hp : pc + 3 = pc2) (k1 : x ≤ 0 → SmG G μ E κ pc1 L st M r1) (k2 : ¬ (x ≤ 0) → SmG G μ E κ pc2 L st M r2) : SmG G μ E κ pc L (.inl x :: st) M (if x ≤ 0 then r1 else r2) := by
  subst hp
  by_cases hc : x ≤ 0
  · rw [if_pos hc]
    exact Sm.go (fun β D cA p l e R s m args below meth c H locs ls cells slots Q C hl kk => lv_if_le C.1 C.2.1 (C.dk hd) ht (fun _ => kk ls hl) (fun hn => absurd hc hn)) (k1 hc)
  · rw [if_neg hc]
    exact Sm.go (fun β D cA p l e R s m args below meth c H locs ls cells slots Q C hl kk => lv_if_le C.1 C.2.1 (C.dk hd) ht (fun hn => absurd hn hc) (fun _ => kk ls hl)) (k2 hc)
theorem r_ifnull (i pc1 pc2 : Nat) {off : Int} {n : Nat} {r1 r2 : Option α} (hd : μ.2.2.2.2[i]? = some (pc, (.ifnull off, 3))) (ht : (pc : Int) + off = (pc1 : Int)) (hp : pc + 3 = pc2) (k1 : n = 0 → SmG G μ E κ pc1 L st M r1) (k2 : ¬ n = 0 → SmG G μ E κ pc2 L st M r2) : SmG G μ E κ pc L (.inr (.inr n) :: st) M (if n = 0 then r1 else r2) := by
  subst hp
  by_cases hc : n = 0
  · rw [if_pos hc]
    refine Sm.go (fun β D cA p l e₀ R s m args below meth c H locs ls cells slots Q C hl kk => ?_) (k1 hc)
    change W p l e₀ R s m args below meth c H locs cells slots Q (F0 m pc ls (rv β n :: vs β st))
    rcases rv_cases β n with ⟨-, h⟩ | ⟨h, -⟩
    · rw [h]
      exact lv_ifnullN C.1 C.2.1 (C.dk hd) ht (kk ls hl)
    · exact absurd hc h
  · rw [if_neg hc]
    refine Sm.go (fun β D cA p l e₀ R s m args below meth c H locs ls cells slots Q C hl kk => ?_) (k2 hc)
    change W p l e₀ R s m args below meth c H locs cells slots Q (F0 m pc ls (rv β n :: vs β st))
    rcases rv_cases β n with ⟨h, -⟩ | ⟨-, a, h⟩
    · exact absurd h hc
    · rw [h]
      exact lv_ifnull C.1 C.2.1 (C.dk hd) (kk ls hl)
theorem r_ifnonnull (i pc1 pc2 : Nat) {off : Int} {n : Nat} {r1 r2 : Option α} (hd : μ.2.2.2.2[i]? = some (pc, (.ifnonnull off, 3))) (ht : (pc : Int) + off = (pc1 : Int)) (hp : pc + 3 = pc2) (k1 : n = 0 → SmG G μ E κ pc2 L st M r1) (k2 : ¬ n = 0 → SmG G μ E κ pc1 L st M r2) : SmG G μ E κ pc L (.inr (.inr n) :: st) M (if n = 0 then r1 else r2) := by
  subst hp
  by_cases hc : n = 0
  · rw [if_pos hc]
    refine Sm.go (fun β D cA p l e₀ R s m args below meth c H locs ls cells slots Q C hl kk => ?_) (k1 hc)
    change W p l e₀ R s m args below meth c H locs cells slots Q (F0 m pc ls (rv β n :: vs β st))
    rcases rv_cases β n with ⟨-, h⟩ | ⟨h, -⟩
    · rw [h]
      exact lv_ifnonnullN C.1 C.2.1 (C.dk hd) (kk ls hl)
    · exact absurd hc h
  · rw [if_neg hc]
    refine Sm.go (fun β D cA p l e₀ R s m args below meth c H locs ls cells slots Q C hl kk => ?_) (k2 hc)
    change W p l e₀ R s m args below meth c H locs cells slots Q (F0 m pc ls (rv β n :: vs β st))
    rcases rv_cases β n with ⟨h, -⟩ | ⟨-, a, h⟩
    · exact absurd h hc
    · rw [h]
      exact lv_ifnonnull C.1 C.2.1 (C.dk hd) ht (kk ls hl)
theorem r_ldcS (i pc' : Nat) {j q : Nat} {tx : String} {n : Nat} (hd : μ.2.2.2.2[i]? = some (pc, (.ldc j, 2))) (hp : pc + 2 = pc') (hs : sRef[q]? = some (μ.1.cls, j, tx, n)) (k : SmG G μ E κ pc' L (.inr (.inr (1048576 + n)) :: st) M r) : SmG G μ E κ pc L st M r := by
  subst hp
  refine Sm.go (fun β D cA p l e₀ R s m args below meth c H locs ls cells slots Q C hl kk => ?_) k
  have hd' := C.dk hd
  obtain ⟨h1, h2, h3, h4, h5, h6, -⟩ := C
  have hR := h6.2.1.2.1 _ (List.mem_of_getElem? hs)
  have k1 : W p l e₀ R s m args below meth c H locs cells slots Q (F0 m (pc + 2) ls (rv β (1048576 + n) :: vs β st)) := kk ls hl
  have e : rv β (1048576 + n) = .ref (β.2 n) := by
    have a1 : ¬ 1048576 + n = 0 := by omega
    have a2 : ¬ 1048576 + n < 1048576 := by omega
    simp only [rv, rf, if_neg a1, if_neg a2, va_rf, Nat.add_sub_cancel_left]
  rw [e] at k1
  exact va_ldcS h1 h2 h4 hR hd' k1
theorem r_lt {β : Type} {x : β} {f : β → Option α} (k : SmG G μ E κ pc L st M (f x)) : SmG G μ E κ pc L st M (lt x f) := k
theorem r_gd {P : Prop} [Decidable P] (k : P → SmG G μ E κ pc L st M r) : SmG G μ E κ pc L st M (if P then r else none) := by
  intro res hr
  by_cases h : P
  · rw [if_pos h] at hr
    exact k h res hr
  · rw [if_neg h] at hr
    cases hr
theorem r_if {P : Prop} [Decidable P] {r1 r2 : Option α} (k1 : P → SmG G μ E κ pc L st M r1) (k2 : ¬ P → SmG G μ E κ pc L st M r2) : SmG G μ E κ pc L st M (if P then r1 else r2) := by
  by_cases h : P
  · rw [if_pos h]
    exact k1 h
  · rw [if_neg h]
    exact k2 h
/-- fewer locals, in another order -/
theorem r_sub (ks : List Nat) (h : ks.filterMap (fun k => L[k]?) = L') (k : SmG G μ E κ pc L' st M r) : SmG G μ E κ pc L st M r := by
  subst h
  refine Sm.go (fun β D cA p l e R s m args below meth c H locs ls cells slots Q C hl kk => kk ls (lv_sub hl ks ?_)) k
  simp only [lv_pick, vl, List.map_filterMap]
  congr 1
  funext q
  simp
/-- a loop: what its head's state says, and what is behind it -/
def lp {σ ρ : Type} (body : σ → Option (σ ⊕ ρ)) (n : Nat) (x : σ) : Option ρ := match n with
  | 0 => none
  | n + 1 => (body x).bind (fun z => match z with
    | .inl x' => lp body n x'
    | .inr y => some y)
def FUEL : Nat := 2 ^ 64
theorem r_lp {σ ρ : Type} {body : σ → Option (σ ⊕ ρ)} {Lf : σ → List (Nat × PV)} {Mf : σ → Mm} {k : ρ → Option α} (x : σ)
    (hb : ∀ (x : σ) (κ' : σ ⊕ ρ → Option Rs), (∀ x', SmG G μ E κ' pc (Lf x') st (Mf x') (some (.inl x'))) → (∀ y, κ' (.inr y) = (k y).bind κ) → SmG G μ E κ' pc (Lf x) st (Mf x) (body x)) : ∀ n : Nat, SmG G μ E κ pc (Lf x) st (Mf x) ((lp body n x).bind k) := by
  intro n
  induction n generalizing x with
  | zero => intro res hr; cases hr
  | succ n ih =>
    intro res hr
    refine hb x (fun z => ((match z with
      | .inl x' => lp body n x'
      | .inr y => some y) : Option ρ).bind (fun y => (k y).bind κ)) (fun x' res' hr' => ih x' res' ?_) (fun y => rfl) res ?_
    · rw [Option.bind_assoc]
      exact hr'
    · have e : lp body (n + 1) x = (body x).bind (fun z => match z with
        | .inl x' => lp body n x'
        | .inr y => some y) := rfl
      rw [e, Option.bind_assoc, Option.bind_assoc] at hr
      exact hr
theorem r_ret {x : α} {r' : Option Rs} (h : κ x = r') (k : SmG G μ E (fun z : Rs => some z) pc L st M r') : SmG G μ E κ pc L st M (some x) := by
  intro res hr
  refine k res ?_
  rw [← h]
  cases hk : κ x with
  | none => rw [show (some x).bind κ = κ x from rfl, hk] at hr; cases hr
  | some z => rw [show (some x).bind κ = κ x from rfl, hk] at hr; exact hr
theorem r_eq {M' : Mm} (h : L = L') (hM : M = M') (k : SmG G μ E κ pc L' st M' r) : SmG G μ E κ pc L st M r := by
  subst h
  subst hM
  exact k
/-- inside a bind: the rest becomes the judgement's own rest -/
theorem r_bind {γ : Type} {g : Option γ} {f : γ → Option α} (k : SmG G μ E (fun z => (f z).bind κ) pc L st M g) : SmG G μ E κ pc L st M (g.bind f) := by
  intro res hr
  rw [Option.bind_assoc] at hr
  exact k res hr
/-- ahead to a place behind: a leaf with the rest known -/
theorem r_leaf {x : α} {γ : Type} {κ2 : γ → Option Rs} {r2 : Option γ} (h : κ x = r2.bind κ2) (k : SmG G μ E κ2 pc L st M r2) : SmG G μ E κ pc L st M (some x) := by
  intro res hr
  refine k res ?_
  rw [← h]
  exact hr
end RowsB
