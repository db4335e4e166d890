/-! A registry as its tokens tell it. -/
abbrev PkT : Type := Nat × (Nat × Nat)
abbrev RlT : Type := Nat × (Nat × (Nat × Nat))
abbrev CnT : Type := Nat × (Nat × ((Nat × Nat) × List Tok))
abbrev Rg : Type := List PkT × (List RlT × List CnT)
abbrev RgS : Type := (Nat × List Tok) ⊕ (List Tok × Rg)
def bnR (r : RgS) (f : List Tok → Rg → RgS) : RgS := match r with
  | .inl e => .inl e
  | .inr (l, G) => f l G
/-- the same signs -/
def nmE (T : Nat → Nat) (a b c d : Nat) : Bool := decide (b - a = d - c) && decide (∀ j, j < b - a → T (a + j) = T (c + j))
def fnd (T : Nat → Nat) (P : List PkT) (a b : Nat) : Option Nat := P.findIdx? (fun x => nmE T x.1 x.2.1 a b)
def cntR (R : List RlT) (p : Nat) : Nat := R.countP (fun x => decide (x.1 = p))
def cntL (C : List CnT) (r : Nat) : Nat := C.countP (fun x => decide (x.1 ≠ 4 ∧ x.2.1 = r))
def lnkN (C : List CnT) : Nat := C.countP (fun x => decide (x.1 ≠ 4))
def addP (a b : Nat) (G : Rg) : Rg := (G.1 ++ [(a, (b, G.2.1.length))], G.2)
def addR (a b : Nat) (G : Rg) : Rg := (G.1, (G.2.1 ++ [(G.1.length - 1, (a, (b, G.2.2.length)))], G.2.2))
def addC (k a b : Nat) (ts : List Tok) (G : Rg) : Rg := (G.1, (G.2.1, G.2.2 ++ [(k, (G.2.1.length - 1, ((a, b), ts)))]))
/-- a constraint behind its word -/
def pCon (k : Nat) (l : List Tok) (G : Rg) : RgS :=
  if kd0 l = 2 then (if (chk l.tail 1 0).1 = 0 then .inr (l.tail.drop (chk l.tail 1 0).2, addC k (pl0 0 l) (en0 0 l) (l.tail.take (chk l.tail 1 0).2) G) else .inl ((chk l.tail 1 0).1, l.tail.drop (chk l.tail 1 0).2)) else .inl (1, l)
def pExp (k : Nat) (l : List Tok) (f : List Tok → RgS) : RgS := if kd0 l = k then f l.tail else .inl (1, l)
def pLinks : Nat → List Tok → Rg → RgS
  | 0, l, G => if kd0 l = 5 ∨ kd0 l = 6 then .inl (2, l) else .inr (l, G)
  | d + 1, l, G => if kd0 l = 5 ∨ kd0 l = 6 then bnR (pCon (kd0 l) l.tail G) (fun l' G' => pLinks d l' G') else .inr (l, G)
/-- whether the last package has the version at a already -/
def dupR (T : Nat → Nat) (G : Rg) (a b : Nat) : Bool := G.2.1.any (fun x => decide (x.1 = G.1.length - 1) && decide (cmpL (rwv T x.2.1 x.2.2.1) (rwv T a b) = 0))
def pRels (T : Nat → Nat) : Nat → List Tok → Rg → RgS
  | 0, l, G => if kd0 l = 8 then .inl (2, l) else .inr (l, G)
  | d + 1, l, G => if kd0 l = 8 then (if dupR T G (pl0 0 l) (en0 0 l) = true then .inl (3, l) else bnR (pLinks 4 l.tail (addR (pl0 0 l) (en0 0 l) G)) (fun l' G' => pExp 12 l' (fun l'' => pRels T d l'' G'))) else .inr (l, G)
def pPacks (T : Nat → Nat) : Nat → List Tok → Rg → RgS
  | 0, l, G => if kd0 l = 3 then .inl (2, l) else .inr (l, G)
  | d + 1, l, G => if kd0 l = 3 then (if kd0 l.tail = 2 then (if (fnd T G.1 (pl0 0 l.tail) (en0 0 l.tail)).isSome = true then .inl (3, l.tail) else pExp 10 l.tail.tail (fun l2 => bnR (pRels T 6 l2 (addP (pl0 0 l.tail) (en0 0 l.tail) G)) (fun l3 G3 => pExp 11 l3 (fun l4 => pPacks T d l4 G3)))) else .inl (1, l.tail)) else .inr (l, G)
def pWants : Nat → List Tok → Rg → RgS
  | 0, l, G => if kd0 l = 4 then .inl (2, l) else .inr (l, G)
  | d + 1, l, G => if kd0 l = 4 then bnR (pCon 4 l.tail G) (fun l' G' => pExp 12 l' (fun l'' => pWants d l'' G')) else .inr (l, G)
def pAll (T : Nat → Nat) (l : List Tok) : RgS := bnR (pPacks T 10 l ([], ([], []))) (fun l2 G2 => bnR (pWants 10 l2 G2) (fun l3 G3 => if kd0 l3 = 0 then .inr (l3, G3) else .inl (1, l3)))
/-- the first constraint whose target there isn't -/
def unk (T : Nat → Nat) (G : Rg) : Option CnT := G.2.2.find? (fun x => (fnd T G.1 x.2.2.1.1 x.2.2.1.2).isNone)
def tgt (T : Nat → Nat) (G : Rg) (x : CnT) : Nat := (fnd T G.1 x.2.2.1.1 x.2.2.1.2).getD 0
/-- what read answers: 0, or the fault -/
def rdA (T : Nat → Nat) (n : Nat) : Nat := match pAll T (tl T n 0) with
  | .inl e => e.1 + 8 * pl0 n e.2
  | .inr (_, G) => match unk T G with
    | some x => 4 + 8 * x.2.2.1.1
    | none => 0
def rvR (T : Nat → Nat) (R : List RlT) (r : Nat) : Row := match R[r]? with
  | some x => rwv T x.2.1 x.2.2.1
  | none => LE
theorem kd0_drop {L : List Tok} {i : Nat} {l : List Tok} (h : L.drop i = l) : l.tail = L.drop (i + 1) := by
  rw [← h]
  cases hd : L.drop i with
  | nil =>
    rw [List.drop_eq_nil_of_le (by have := drop_nil hd; omega)]
    rfl
  | cons x r => rw [(drop_cons hd).2.1]; rfl
theorem kd0_ne {l : List Tok} (h : kd0 l ≠ 0) : ∃ x r, l = x :: r := by
  cases l with
  | nil => exact absurd rfl h
  | cons x r => exact ⟨x, r, rfl⟩
theorem nmE_iff {T : Nat → Nat} {a b c d : Nat} : nmE T a b c d = true ↔ b - a = d - c ∧ ∀ j, j < b - a → T (a + j) = T (c + j) := by
  unfold nmE
  rw [Bool.and_eq_true, decide_eq_true_eq, decide_eq_true_eq]
