def iI (z : Int) : Int32 := Int32.ofInt z
def iL (z : Int) : Int64 := Int64.ofInt z
abbrev r32 (z : Int) : Prop := -2147483648 ≤ z ∧ z < 2147483648
abbrev r64 (z : Int) : Prop := -9223372036854775808 ≤ z ∧ z < 9223372036854775808
theorem iI_add (a b : Int) : iI a + iI b = iI (a + b) := (Int32.ofInt_add a b).symm
theorem iI_sub (a b : Int) : iI a - iI b = iI (a - b) := (Int32.ofInt_sub a b).symm
theorem iI_mul (a b : Int) : iI a * iI b = iI (a * b) := (Int32.ofInt_mul a b).symm
theorem iL_add (a b : Int) : iL a + iL b = iL (a + b) := (Int64.ofInt_add a b).symm
theorem iL_sub (a b : Int) : iL a - iL b = iL (a - b) := (Int64.ofInt_sub a b).symm
theorem iL_mul (a b : Int) : iL a * iL b = iL (a * b) := (Int64.ofInt_mul a b).symm
theorem iL_neg (a : Int) : - iL a = iL (-a) := (Int64.ofInt_neg a).symm
theorem bm32 {z : Int} (h : r32 z) : z.bmod (2 ^ 32) = z := by
  rw [Int.bmod_eq_of_le (by omega) (by omega)]
theorem bm64 {z : Int} (h : r64 z) : z.bmod (2 ^ 64) = z := by
  rw [Int.bmod_eq_of_le (by omega) (by omega)]
theorem iI_toInt {z : Int} (h : r32 z) : (iI z).toInt = z := by
  unfold iI
  rw [Int32.toInt_ofInt, bm32 h]
theorem iL_toInt {z : Int} (h : r64 z) : (iL z).toInt = z := by
  unfold iL
  rw [Int64.toInt_ofInt, bm64 h]
theorem iI_of (x : Int32) : iI x.toInt = x := Int32.ofInt_toInt x
theorem iI_nat (n : Nat) : nI n = iI (n : Int) := rfl
theorem iI_lt {a b : Int} (ha : r32 a) (hb : r32 b) : iI a < iI b ↔ a < b := by rw [Int32.lt_iff_toInt_lt, iI_toInt ha, iI_toInt hb]
theorem iI_le {a b : Int} (ha : r32 a) (hb : r32 b) : iI a ≤ iI b ↔ a ≤ b := by rw [Int32.le_iff_toInt_le, iI_toInt ha, iI_toInt hb]
theorem iI_eq {a b : Int} (ha : r32 a) (hb : r32 b) : iI a = iI b ↔ a = b := by rw [← Int32.toInt_inj, iI_toInt ha, iI_toInt hb]
theorem iL_lt {a b : Int} (ha : r64 a) (hb : r64 b) : iL a < iL b ↔ a < b := by rw [Int64.lt_iff_toInt_lt, iL_toInt ha, iL_toInt hb]
theorem iL_le {a b : Int} (ha : r64 a) (hb : r64 b) : iL a ≤ iL b ↔ a ≤ b := by rw [Int64.le_iff_toInt_le, iL_toInt ha, iL_toInt hb]
theorem iL_eq {a b : Int} (ha : r64 a) (hb : r64 b) : iL a = iL b ↔ a = b := by rw [← Int64.toInt_inj, iL_toInt ha, iL_toInt hb]
theorem iI_L {z : Int} (h : r32 z) : (iI z).toInt64 = iL z := by
  apply Int64.toInt_inj.1
  rw [Int32.toInt_toInt64, iI_toInt h, iL_toInt (by omega)]
theorem if_iff {α : Type} {c d : Prop} {ic : Decidable c} {id : Decidable d} (h : c ↔ d) {x y : α} : (@ite α c ic x y) = (@ite α d id x y) := by
  by_cases hc : c
  · rw [if_pos hc, if_pos (h.mp hc)]
  · rw [if_neg hc, if_neg (fun q => hc (h.mpr q))]
theorem if_lt {α : Type} {a b : Int} (ha : r32 a) (hb : r32 b) {x y : α} : (if iI a < iI b then x else y) = (if a < b then x else y) := if_iff (iI_lt ha hb)
theorem if_le {α : Type} {a b : Int} (ha : r32 a) (hb : r32 b) {x y : α} : (if iI a ≤ iI b then x else y) = (if a ≤ b then x else y) := if_iff (iI_le ha hb)
theorem if_eq {α : Type} {a b : Int} (ha : r32 a) (hb : r32 b) {x y : α} : (if iI a = iI b then x else y) = (if a = b then x else y) := if_iff (iI_eq ha hb)
theorem if_ltN {α : Type} {a b : Nat} (ha : a < 2147483648) (hb : b < 2147483648) {x y : α} : (if nI a < nI b then x else y) = (if a < b then x else y) := if_iff (nI_ltI ha hb)
theorem if_leN {α : Type} {a b : Nat} (ha : a < 2147483648) (hb : b < 2147483648) {x y : α} : (if nI a ≤ nI b then x else y) = (if a ≤ b then x else y) := if_iff (nI_leI ha hb)
theorem if_eqN {α : Type} {a b : Nat} (ha : a < 2147483648) (hb : b < 2147483648) {x y : α} : (if nI a = nI b then x else y) = (if a = b then x else y) := if_iff (nI_eq ha hb)
/-- the guard of an index that is in range -/
theorem gdN {α : Type} {n N : Nat} {x : Option α} (h : n < N) (hN : N < 2147483648) : (if nI n < 0 ∨ N ≤ (nI n).toNatClampNeg then none else x) = x := if_neg (nI_in h hN)
theorem cl {n : Nat} (h : n < 2147483648) : (nI n).toNatClampNeg = n := nI_clamp h
theorem ix5 (b i : Nat) : (5 : Int32) * nI b + nI i = nI (5 * b + i) := by
  rw [show (5 : Int32) = nI 5 from rfl, pk_mul, nI_add]
theorem nI_of_toInt {x : Int32} {m : Int} (h : 0 ≤ x.toInt) (h2 : x.toInt < m) : ∃ i : Nat, (i : Int) < m ∧ x = nI i := by
  refine ⟨x.toInt.toNat, by omega, ?_⟩
  rw [iI_nat, Int.toNat_of_nonneg h, iI_of]
theorem nI_tI {n : Nat} (h : n < 2147483648) : (nI n).toInt = (n : Int) := nI_toInt h
/-- is it from lo to hi: as an int -/
def inb (lo hi : Int) (x : Int32) : Int32 := if lo ≤ x.toInt ∧ x.toInt ≤ hi then 1 else 0
theorem inb_pos {lo hi : Int} {x : Int32} (h : lo ≤ x.toInt ∧ x.toInt ≤ hi) : inb lo hi x = 1 := if_pos h
theorem inb_neg {lo hi : Int} {x : Int32} (h : ¬ (lo ≤ x.toInt ∧ x.toInt ≤ hi)) : inb lo hi x = 0 := if_neg h
theorem inb_cases (lo hi : Int) (x : Int32) : (inb lo hi x = 1 ∧ lo ≤ x.toInt ∧ x.toInt ≤ hi) ∨ (inb lo hi x = 0 ∧ ¬ (lo ≤ x.toInt ∧ x.toInt ≤ hi)) := by
  by_cases h : lo ≤ x.toInt ∧ x.toInt ≤ hi
  · exact Or.inl ⟨inb_pos h, h⟩
  · exact Or.inr ⟨inb_neg h, h⟩
theorem one_ne : ¬ (1 : Int32) = 0 := by decide
theorem ex_iI (x : Int32) : ∃ z, r32 z ∧ x = iI z := by
  have hx1 := Int32.le_toInt x
  have hx2 := Int32.toInt_lt x
  exact ⟨x.toInt, by omega, (iI_of x).symm⟩
theorem in2 (x : Int32) {lo hi : Int} (hl : r32 lo) (hh : r32 hi) : f_X2_in x (iI lo) (iI hi) = some (inb lo hi x) := by
  obtain ⟨z, hz, rfl⟩ := ex_iI x
  unfold f_X2_in inb
  rw [iI_toInt hz, if_lt hz hl, if_lt hh hz]
  repeat' split
  all_goals first | rfl | (exfalso; omega)
theorem in1 (x : Int32) {n : Nat} (hn : n < 2147483648) : (if x < 0 then some (0 : Int32) else if nI n ≤ x then some 0 else some 1) = some (inb 0 (n - 1) x) := by
  obtain ⟨z, hz, rfl⟩ := ex_iI x
  unfold inb
  rw [iI_toInt hz, show (0 : Int32) = iI 0 from rfl, iI_nat, if_lt hz (by omega), if_le (by omega) hz]
  repeat' split
  all_goals first | rfl | (exfalso; omega)
theorem isWorth1 (x : Int32) : f_X1_isWorth x = some (inb 0 1000 x) := in2 x (lo := 0) (hi := 1000) (by omega) (by omega)
theorem isWeight1 (x : Int32) : f_X1_isWeight x = some (inb 1 9 x) := in2 x (lo := 1) (hi := 9) (by omega) (by omega)
theorem isKind1 (x : Int32) : f_X1_isKind x = some (inb 0 2 x) := in2 x (lo := 0) (hi := 2) (by omega) (by omega)
theorem isPart1 (x : Int32) : f_X1_isPart x = some (inb 0 1 x) := by
  obtain ⟨z, hz, rfl⟩ := ex_iI x
  unfold f_X1_isPart inb
  rw [iI_toInt hz, show (0 : Int32) = iI 0 from rfl, show (1 : Int32) = iI 1 from rfl, if_eq hz (by omega), if_eq hz (by omega)]
  repeat' split
  all_goals first | rfl | (exfalso; omega)
theorem inb_and (lo hi : Int) (x : Int32) : inb lo hi x &&& 1 = inb lo hi x := by
  rcases inb_cases lo hi x with ⟨h, -⟩ | ⟨h, -⟩ <;> rw [h] <;> decide
