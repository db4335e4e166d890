/-! The reference's order of its rows is the class's order of theirs. -/
def trk (v : Int64) : Int64 := if v < 1099511627776 then v + 1 else v
def trF (f : Nat → Int64) (k : Nat) : Int64 := if f 0 = 1099511627776 then (if k = 0 then 9223372036854775807 else 0) else if k < 3 then f k else if f 3 = 0 then (if k = 3 then 9223372036854775807 else 0) else if lN (k - 3) < f 3 then trk (f (k + 1)) else 0
def trM (f : Nat → Int64) : Row := rowF (trF f)
def okn (v : Nat) : Prop := v < 1099511627775 ∨ (1099511627776 ≤ v ∧ v < 9223372036854775807)
/-- what a row of the reference may be: the end, or a version's numbers, how many identifiers, and their keys -/
def VN (g : Nat → Nat) : Prop := (g 0 = 1099511627776 ∧ g 1 = 0 ∧ g 2 = 0 ∧ g 3 = 0) ∨ (g 0 < 1099511627776 ∧ g 1 < 1099511627776 ∧ g 2 < 1099511627776 ∧ g 3 ≤ 5 ∧ ∀ k, k < g 3 → okn (g (4 + k)))
def VR (f : Nat → Int64) : Prop := ∃ g : Nat → Nat, (∀ k, k < 9 → f k = lN (g k) ∧ g k < 9223372036854775808) ∧ VN g
def cL (a b : Nat → Int64) (d k : Nat) : Int32 := cmpL ((List.range' k d).map a) ((List.range' k d).map b)
theorem cL_succ (a b : Nat → Int64) (d k : Nat) : cL a b (d + 1) k = if a k = b k then cL a b d (k + 1) else if a k < b k then -1 else 1 := by
  unfold cL
  rw [List.range'_succ, List.map_cons, List.map_cons, cmpL]
theorem cL_same {a b : Nat → Int64} {d k : Nat} (h : ∀ q, k ≤ q → q < k + d → a q = b q) : cL a b d k = 0 := by
  unfold cL
  rw [List.map_congr_left (g := b)]
  · exact cmpL_rf _
  · intro q hq
    have := List.mem_range'_1.mp hq
    exact h q (by omega) (by omega)
theorem trM_cL (f g : Nat → Int64) : cmpL (trM f) (trM g) = cL (trF f) (trF g) 8 0 := rfl
theorem l40 : (1099511627776 : Int64) = lN 1099511627776 ∧ (9223372036854775807 : Int64) = lN 9223372036854775807 ∧ (0 : Int64) = lN 0 := ⟨rfl, rfl, rfl⟩
theorem trk_n {v : Nat} (h : okn v) : trk (lN v) = lN (if v < 1099511627776 then v + 1 else v) := by
  unfold trk
  rw [l40.1]
  have hv : v < 2 ^ 63 := by rcases h with h | h <;> omega
  by_cases h1 : v < 1099511627776
  · rw [if_pos ((pk_lLT hv (by omega)).mpr h1), if_pos h1, lN_1]
  · rw [if_neg (fun e => h1 ((pk_lLT hv (by omega)).mp e)), if_neg h1]
theorem cK_cL {x y : Nat → Int64} {gx gy : Nat → Nat} (hx : ∀ k, k < 9 → x k = lN (gx k) ∧ gx k < 9223372036854775808) (hy : ∀ k, k < 9 → y k = lN (gy k) ∧ gy k < 9223372036854775808) (vx : gx 0 < 1099511627776 ∧ gx 1 < 1099511627776 ∧ gx 2 < 1099511627776 ∧ gx 3 ≤ 5 ∧ ∀ k, k < gx 3 → okn (gx (4 + k))) (vy : gy 0 < 1099511627776 ∧ gy 1 < 1099511627776 ∧ gy 2 < 1099511627776 ∧ gy 3 ≤ 5 ∧ ∀ k, k < gy 3 → okn (gy (4 + k))) (hx3 : gx 3 ≠ 0) (hy3 : gy 3 ≠ 0) :
    ∀ d k, k + d = 5 → cK x y d k = cL (trF x) (trF y) d (k + 3) := by
  have tx : ∀ k, k < 5 → trF x (k + 3) = lN (if k < gx 3 then (if gx (4 + k) < 1099511627776 then gx (4 + k) + 1 else gx (4 + k)) else 0) := by
    intro k hk
    unfold trF
    have e0 := hx 0 (by omega)
    have e3 := hx 3 (by omega)
    rw [if_neg (by rw [e0.1, l40.1]; exact fun e => by have := (pk_lEQ (by omega) (by omega)).mp e; omega), if_neg (by omega), if_neg (by rw [e3.1, l40.2.2]; exact fun e => hx3 ((pk_lEQ (by omega) (by omega)).mp e)), show k + 3 - 3 = k by omega, e3.1]
    by_cases h : k < gx 3
    · rw [if_pos ((pk_lLT (by omega) (by omega)).mpr h), if_pos h, show k + 3 + 1 = 4 + k by omega, (hx (4 + k) (by omega)).1, trk_n (vx.2.2.2.2 k h)]
    · rw [if_neg (fun e => h ((pk_lLT (by omega) (by omega)).mp e)), if_neg h]
      rfl
  have ty : ∀ k, k < 5 → trF y (k + 3) = lN (if k < gy 3 then (if gy (4 + k) < 1099511627776 then gy (4 + k) + 1 else gy (4 + k)) else 0) := by
    intro k hk
    unfold trF
    have e0 := hy 0 (by omega)
    have e3 := hy 3 (by omega)
    rw [if_neg (by rw [e0.1, l40.1]; exact fun e => by have := (pk_lEQ (by omega) (by omega)).mp e; omega), if_neg (by omega), if_neg (by rw [e3.1, l40.2.2]; exact fun e => hy3 ((pk_lEQ (by omega) (by omega)).mp e)), show k + 3 - 3 = k by omega, e3.1]
    by_cases h : k < gy 3
    · rw [if_pos ((pk_lLT (by omega) (by omega)).mpr h), if_pos h, show k + 3 + 1 = 4 + k by omega, (hy (4 + k) (by omega)).1, trk_n (vy.2.2.2.2 k h)]
    · rw [if_neg (fun e => h ((pk_lLT (by omega) (by omega)).mp e)), if_neg h]
      rfl
  intro d
  induction d with
  | zero => intro k _; rfl
  | succ d ih =>
    intro k hk
    have e3x := (hx 3 (by omega)).1
    have e3y := (hy 3 (by omega)).1
    have b3x := (hx 3 (by omega)).2
    have b3y := (hy 3 (by omega)).2
    rw [cK, cL_succ, e3x, e3y, tx k (by omega), ty k (by omega)]
    by_cases h1 : k < gx 3
    · have ox := vx.2.2.2.2 k h1
      rw [if_pos ((pk_lLT (by omega) (by omega)).mpr h1), if_pos h1]
      by_cases h2 : k < gy 3
      · have oy := vy.2.2.2.2 k h2
        rw [if_pos ((pk_lLT (by omega) (by omega)).mpr h2), if_pos h2, (hx (4 + k) (by omega)).1, (hy (4 + k) (by omega)).1]
        have bx : gx (4 + k) < 9223372036854775807 := by rcases ox with h | h <;> omega
        have by' : gy (4 + k) < 9223372036854775807 := by rcases oy with h | h <;> omega
        have hE : ((if gx (4 + k) < 1099511627776 then gx (4 + k) + 1 else gx (4 + k)) = if gy (4 + k) < 1099511627776 then gy (4 + k) + 1 else gy (4 + k)) ↔ gx (4 + k) = gy (4 + k) := by
          rcases ox with h | h <;> rcases oy with h' | h' <;> (repeat' split) <;> omega
        have hL : ((if gx (4 + k) < 1099511627776 then gx (4 + k) + 1 else gx (4 + k)) < if gy (4 + k) < 1099511627776 then gy (4 + k) + 1 else gy (4 + k)) ↔ gx (4 + k) < gy (4 + k) := by
          rcases ox with h | h <;> rcases oy with h' | h' <;> (repeat' split) <;> omega
        have c1 : (if gx (4 + k) < 1099511627776 then gx (4 + k) + 1 else gx (4 + k)) < 2 ^ 63 := by split <;> omega
        have c2 : (if gy (4 + k) < 1099511627776 then gy (4 + k) + 1 else gy (4 + k)) < 2 ^ 63 := by split <;> omega
        by_cases h3 : gx (4 + k) = gy (4 + k)
        · rw [if_pos (by rw [h3]), if_pos ((pk_lEQ c1 c2).mpr (hE.mpr h3))]
          have := ih (k + 1) (by omega)
          rw [show k + 1 + 3 = k + 3 + 1 by omega] at this
          exact this
        · rw [if_neg (fun e => h3 ((pk_lEQ (by omega) (by omega)).mp e)), if_neg (fun e => h3 (hE.mp ((pk_lEQ c1 c2).mp e)))]
          by_cases h4 : gx (4 + k) < gy (4 + k)
          · rw [if_pos ((pk_lLT (by omega) (by omega)).mpr h4), if_pos ((pk_lLT c1 c2).mpr (hL.mpr h4))]
          · rw [if_neg (fun e => h4 ((pk_lLT (by omega) (by omega)).mp e)), if_neg (fun e => h4 (hL.mp ((pk_lLT c1 c2).mp e)))]
      · rw [if_neg (fun e => h2 ((pk_lLT (by omega) (by omega)).mp e)), if_neg h2]
        have c1 : (if gx (4 + k) < 1099511627776 then gx (4 + k) + 1 else gx (4 + k)) < 2 ^ 63 := by rcases ox with h | h <;> split <;> omega
        have c3 : 0 < (if gx (4 + k) < 1099511627776 then gx (4 + k) + 1 else gx (4 + k)) := by split <;> omega
        rw [if_neg (fun e => by have := (pk_lEQ c1 (by omega)).mp e; omega), if_neg (fun e => by have := (pk_lLT c1 (by omega)).mp e; omega)]
    · rw [if_neg (fun e => h1 ((pk_lLT (by omega) (by omega)).mp e)), if_neg h1]
      by_cases h2 : k < gy 3
      · have oy := vy.2.2.2.2 k h2
        rw [if_pos ((pk_lLT (by omega) (by omega)).mpr h2), if_pos h2]
        have c2 : (if gy (4 + k) < 1099511627776 then gy (4 + k) + 1 else gy (4 + k)) < 2 ^ 63 := by rcases oy with h | h <;> split <;> omega
        have c3 : 0 < (if gy (4 + k) < 1099511627776 then gy (4 + k) + 1 else gy (4 + k)) := by split <;> omega
        rw [if_neg (fun e => by have := (pk_lEQ (by omega) c2).mp e; omega), if_pos ((pk_lLT (by omega) c2).mpr c3)]
      · rw [if_neg (fun e => h2 ((pk_lLT (by omega) (by omega)).mp e)), if_neg h2, if_pos rfl]
        symm
        apply cL_same
        intro q hq1 hq2
        obtain ⟨z, rfl⟩ : ∃ z, q = z + 3 := ⟨q - 3, by omega⟩
        rw [tx z (by omega), ty z (by omega), if_neg (by omega), if_neg (by omega)]
theorem cmp_tr {x y : Nat → Int64} (hx : VR x) (hy : VR y) : cmpM x y = cmpL (trM x) (trM y) := by
  obtain ⟨gx, ex, vx⟩ := hx
  obtain ⟨gy, ey, vy⟩ := hy
  rw [trM_cL]
  have x0 := ex 0 (by omega)
  have x3 := ex 3 (by omega)
  have y0 := ey 0 (by omega)
  have y3 := ey 3 (by omega)
  have isE : ∀ {f : Nat → Int64} {g : Nat → Nat}, (f 0 = lN (g 0) ∧ g 0 < 9223372036854775808) → g 0 = 1099511627776 → ∀ k, trF f k = if k = 0 then 9223372036854775807 else 0 := by
    intro f g h e k
    unfold trF
    rw [if_pos (by rw [h.1, e]; rfl)]
  have notE : ∀ {f : Nat → Int64} {g : Nat → Nat}, (f 0 = lN (g 0) ∧ g 0 < 9223372036854775808) → g 0 < 1099511627776 → ∀ k, k < 3 → trF f k = f k := by
    intro f g h e k hk
    unfold trF
    rw [if_neg (by rw [h.1, l40.1]; exact fun e2 => by have := (pk_lEQ (by omega) (by omega)).mp e2; omega), if_pos hk]
  rcases vx with vx | vx
  · rcases vy with vy | vy
    · -- both are the end
      have e1 : cmpM x y = 0 := by
        unfold cmpM
        simp only [cN, (ex 0 (by omega)).1, (ex 1 (by omega)).1, (ex 2 (by omega)).1, (ex 3 (by omega)).1, (ey 0 (by omega)).1, (ey 1 (by omega)).1, (ey 2 (by omega)).1, (ey 3 (by omega)).1, vx.1, vx.2.1, vx.2.2.1, vx.2.2.2, vy.1, vy.2.1, vy.2.2.1, vy.2.2.2]
        rfl
      rw [e1]
      symm
      exact cL_same (fun q _ _ => by rw [isE x0 vx.1, isE y0 vy.1])
    · have h0 : ¬ x 0 = y 0 := by rw [x0.1, y0.1]; exact fun e => by have := (pk_lEQ (by omega) (by omega)).mp e; omega
      have h1 : ¬ x 0 < y 0 := by rw [x0.1, y0.1]; exact fun e => by have := (pk_lLT (by omega) (by omega)).mp e; omega
      rw [cL_succ, isE x0 vx.1, if_pos rfl, notE y0 vy.1 0 (by omega)]
      unfold cmpM
      rw [cN, if_neg h0, if_neg h1, if_neg (by rw [y0.1, l40.2.1]; exact fun e => by have := (pk_lEQ (by omega) (by omega)).mp e; omega), if_neg (by rw [y0.1, l40.2.1]; exact fun e => by have := (pk_lLT (by omega) (by omega)).mp e; omega)]
  · rcases vy with vy | vy
    · have h0 : ¬ x 0 = y 0 := by rw [x0.1, y0.1]; exact fun e => by have := (pk_lEQ (by omega) (by omega)).mp e; omega
      have h1 : x 0 < y 0 := by rw [x0.1, y0.1]; exact (pk_lLT (by omega) (by omega)).mpr (by omega)
      rw [cL_succ, isE y0 vy.1, if_pos rfl, notE x0 vx.1 0 (by omega)]
      unfold cmpM
      rw [cN, if_neg h0, if_pos h1, if_neg (by rw [x0.1, l40.2.1]; exact fun e => by have := (pk_lEQ (by omega) (by omega)).mp e; omega), if_pos (by rw [x0.1, l40.2.1]; exact (pk_lLT (by omega) (by omega)).mpr (by omega))]
    · -- both are versions
      have tail : (if x 3 = 0 ∨ y 3 = 0 then (if x 3 = y 3 then (0 : Int32) else if x 3 = 0 then 1 else -1) else cK x y 5 0) = cL (trF x) (trF y) 5 3 := by
        have zx : x 3 = 0 ↔ gx 3 = 0 := by rw [x3.1, l40.2.2]; exact pk_lEQ (by omega) (by omega)
        have zy : y 3 = 0 ↔ gy 3 = 0 := by rw [y3.1, l40.2.2]; exact pk_lEQ (by omega) (by omega)
        have nE : ∀ {f : Nat → Int64} {g : Nat → Nat}, (f 0 = lN (g 0) ∧ g 0 < 9223372036854775808) → g 0 < 1099511627776 → ∀ k, 3 ≤ k → trF f k = if f 3 = 0 then (if k = 3 then 9223372036854775807 else 0) else if lN (k - 3) < f 3 then trk (f (k + 1)) else 0 := by
          intro f g h e k hk
          unfold trF
          rw [if_neg (by rw [h.1, l40.1]; exact fun e2 => by have := (pk_lEQ (by omega) (by omega)).mp e2; omega), if_neg (by omega)]
        by_cases h1 : gx 3 = 0
        · rw [if_pos (Or.inl (zx.mpr h1))]
          by_cases h2 : gy 3 = 0
          · rw [if_pos ((zx.mpr h1).trans (zy.mpr h2).symm)]
            symm
            exact cL_same (fun q hq _ => by rw [nE x0 vx.1 q hq, nE y0 vy.1 q hq, if_pos (zx.mpr h1), if_pos (zy.mpr h2)])
          · have oy := vy.2.2.2.2 0 (by omega)
            have e4 := (ey 4 (by omega)).1
            have hl0 : lN (3 - 3) < y 3 := by rw [y3.1]; exact (pk_lLT (by omega) (by omega)).mpr (by omega)
            have t3y : trF y 3 = lN (if gy (4 + 0) < 1099511627776 then gy (4 + 0) + 1 else gy (4 + 0)) := by
              rw [nE y0 vy.1 3 (by omega), if_neg (fun e => h2 (zy.mp e)), if_pos hl0, e4]
              exact trk_n oy
            have t3x : trF x 3 = lN 9223372036854775807 := by
              rw [nE x0 vx.1 3 (by omega), if_pos (zx.mpr h1), if_pos rfl]
              rfl
            rw [if_neg (fun e => h2 (zy.mp (e.symm.trans (zx.mpr h1)))), if_pos (zx.mpr h1), cL_succ, t3x, t3y]
            have c2 : (if gy (4 + 0) < 1099511627776 then gy (4 + 0) + 1 else gy (4 + 0)) < 9223372036854775807 := by rcases oy with h | h <;> split <;> omega
            rw [if_neg (fun e => by have := (pk_lEQ (by omega) (Nat.lt_trans c2 (by omega))).mp e; omega), if_neg (fun e => by have := (pk_lLT (by omega) (Nat.lt_trans c2 (by omega))).mp e; omega)]
        · by_cases h2 : gy 3 = 0
          · have ox := vx.2.2.2.2 0 (by omega)
            have e4 := (ex 4 (by omega)).1
            have hl0 : lN (3 - 3) < x 3 := by rw [x3.1]; exact (pk_lLT (by omega) (by omega)).mpr (by omega)
            have t3x : trF x 3 = lN (if gx (4 + 0) < 1099511627776 then gx (4 + 0) + 1 else gx (4 + 0)) := by
              rw [nE x0 vx.1 3 (by omega), if_neg (fun e => h1 (zx.mp e)), if_pos hl0, e4]
              exact trk_n ox
            have t3y : trF y 3 = lN 9223372036854775807 := by
              rw [nE y0 vy.1 3 (by omega), if_pos (zy.mpr h2), if_pos rfl]
              rfl
            rw [if_pos (Or.inr (zy.mpr h2)), if_neg (fun e => h1 (zx.mp (e.trans (zy.mpr h2)))), if_neg (fun e => h1 (zx.mp e)), cL_succ, t3x, t3y]
            have c2 : (if gx (4 + 0) < 1099511627776 then gx (4 + 0) + 1 else gx (4 + 0)) < 9223372036854775807 := by rcases ox with h | h <;> split <;> omega
            rw [if_neg (fun e => by have := (pk_lEQ (Nat.lt_trans c2 (by omega)) (by omega)).mp e; omega), if_pos ((pk_lLT (Nat.lt_trans c2 (by omega)) (by omega)).mpr c2)]
          · rw [if_neg (fun h => h.elim (fun e => h1 (zx.mp e)) (fun e => h2 (zy.mp e)))]
            exact cK_cL ex ey vx vy h1 h2 5 0 rfl
      have t0x := notE x0 vx.1
      have t0y := notE y0 vy.1
      rw [cL_succ, cL_succ, cL_succ, t0x 0 (by omega), t0x 1 (by omega), t0x 2 (by omega), t0y 0 (by omega), t0y 1 (by omega), t0y 2 (by omega)]
      unfold cmpM
      rw [tail]
      rfl
