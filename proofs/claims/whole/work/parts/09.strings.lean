/-! String.length, String.charAt of the constants. -/
def f_len (s : Nat) : Option Int32 := if 1048576 ≤ s ∧ s < 1048587 then some (Int32.ofNat (sLen.getD (s - 1048576) 0)) else none
def f_chr (s : Nat) (i : Int32) : Option Int32 := if 1048576 ≤ s ∧ s < 1048587 ∧ ¬ i < 0 ∧ i.toNatClampNeg < sLen.getD (s - 1048576) 0 then some ((sByt.getD (s - 1048576) []).getD (ix i) 0 &&& 255) else none
section Str
variable {α : Type} {μ : Fx} {E : Ev} {κ : α → Option Rs} {pc : Nat} {L : List (Nat × PV)} {st : List PV} {t : List Sh} {m : Mi} {idx : Nat}
theorem r_len (i pc' : Nat) {a : Nat} {f : Int32 → Option α} (hd : μ.2.2.2.2[i]? = some (pc, (.invokevirtual idx, 3))) (hp : pc + 3 = pc') (hl : Cond.methodLink μ.1.cls idx yJ0_length_8abf5 ∈ TB) (hlv : 5 < E.1) (hw : (st.map pcat).sum ≤ 8) (k : ∀ v, Sm μ E κ pc' L (.inl v :: st) (t, m) (f v)) : Sm μ E κ pc L (.inr (.inr a) :: st) (t, m) ((f_len a).bind f) := by
  sorry
theorem r_chr (i pc' : Nat) {a : Nat} {x : Int32} {f : Int32 → Option α} (hd : μ.2.2.2.2[i]? = some (pc, (.invokevirtual idx, 3))) (hp : pc + 3 = pc') (hl : Cond.methodLink μ.1.cls idx yJ0_charAt_5068e ∈ TB) (hlv : 5 < E.1) (hw : (st.map pcat).sum ≤ 8) (k : ∀ v, Sm μ E κ pc' L (.inl v :: st) (t, m) (f v)) : Sm μ E κ pc L (.inl x :: .inr (.inr a) :: st) (t, m) ((f_chr a x).bind f) := by
  sorry
end Str
