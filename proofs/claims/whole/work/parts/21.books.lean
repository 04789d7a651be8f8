theorem if_clt {α : Type} {a b : Int} (ha : r64 a) (hb : r64 b) {x y : α} : (if lg_cmp (iL a) (iL b) < 0 then x else y) = (if a < b then x else y) := if_iff ((lg_cmp_lt _ _).trans (iL_lt ha hb))
theorem if_cle {α : Type} {a b : Int} (ha : r64 a) (hb : r64 b) {x y : α} : (if lg_cmp (iL a) (iL b) ≤ 0 then x else y) = (if a ≤ b then x else y) := if_iff ((lg_cmp_le _ _).trans (iL_le ha hb))
theorem if_cge {α : Type} {a b : Int} (ha : r64 a) (hb : r64 b) {x y : α} : (if 0 ≤ lg_cmp (iL a) (iL b) then x else y) = (if b ≤ a then x else y) := if_iff ((lg_cmp_ge _ _).trans (iL_le hb ha))
theorem if_cgt {α : Type} {a b : Int} (ha : r64 a) (hb : r64 b) {x y : α} : (if 0 < lg_cmp (iL a) (iL b) then x else y) = (if b < a then x else y) := if_iff ((lg_cmp_gt _ _).trans (iL_lt hb ha))
theorem if_ceq {α : Type} {a b : Int} (ha : r64 a) (hb : r64 b) {x y : α} : (if lg_cmp (iL a) (iL b) = 0 then x else y) = (if a = b then x else y) := if_iff ((lg_cmp_eq _ _).trans (iL_eq ha hb))
theorem mulab {a b : Int} {A B : Nat} (ha : a.natAbs ≤ A) (hb : b.natAbs ≤ B) : (a * b).natAbs ≤ A * B := by
  rw [Int.natAbs_mul]
  exact Nat.mul_le_mul ha hb
theorem cr_tr {a b c d e f : Int} (hb : 0 < b) (hd : 0 < d) (hf : 0 < f) (h1 : a * d ≤ c * b) (h2 : c * f ≤ e * d) : a * f ≤ e * b := by
  have h3 := Int.mul_le_mul_of_nonneg_right h1 (Int.le_of_lt hf)
  have h4 := Int.mul_le_mul_of_nonneg_right h2 (Int.le_of_lt hb)
  refine Int.le_of_mul_le_mul_right (a := d) ?_ hd
  have e1 : a * f * d = a * d * f := Int.mul_right_comm a f d
  have e2 : e * b * d = e * d * b := Int.mul_right_comm e b d
  have e3 : c * b * f = c * f * b := Int.mul_right_comm c b f
  omega
-- shares and takes
def su (f : Nat → Int) : Nat → Nat → Int
  | _, 0 => 0
  | i, n + 1 => f i + su f (i + 1) n
def sh (m : Nat) (we : Nat → Int) (i : Nat) : Int := su we i (m - i)
def ta (m : Nat) (wo we : Nat → Int) (i : Nat) : Int := if i < m then wo i * sh m we i else 0
theorem sh_lt {m i : Nat} (we : Nat → Int) (h : i < m) : sh m we i = we i + sh m we (i + 1) := by
  unfold sh
  rw [show m - i = (m - (i + 1)) + 1 by omega]
  rfl
theorem sh_ge {m i : Nat} (we : Nat → Int) (h : m ≤ i) : sh m we i = 0 := by
  unfold sh
  rw [show m - i = 0 by omega]
  rfl
abbrev okB (m : Nat) (wo we : Nat → Int) : Prop := 1 ≤ m ∧ m ≤ 5 ∧ ∀ i, i < m → 0 ≤ wo i ∧ wo i ≤ 1000 ∧ 1 ≤ we i ∧ we i ≤ 9
theorem sh_bd {m : Nat} {wo we : Nat → Int} (h : okB m wo we) : ∀ d i, i + d = m → (d : Int) ≤ sh m we i ∧ sh m we i ≤ 9 * d := by
  intro d
  induction d with
  | zero => intro i hi; rw [sh_ge we (by omega)]; omega
  | succ d ih =>
    intro i hi
    have h1 := ih (i + 1) (by omega)
    have h2 := h.2.2 i (by omega)
    rw [sh_lt we (by omega)]
    omega
theorem sh_rng {m : Nat} {wo we : Nat → Int} (h : okB m wo we) (i : Nat) : 0 ≤ sh m we i ∧ sh m we i ≤ 45 := by
  by_cases hi : i ≤ m
  · have h1 := sh_bd h (m - i) i (by omega)
    have h2 := h.2.1
    omega
  · rw [sh_ge we (by omega)]; omega
theorem sh_pos {m : Nat} {wo we : Nat → Int} (h : okB m wo we) {i : Nat} (hi : i < m) : 1 ≤ sh m we i := by
  have h1 := sh_bd h (m - i) i (by omega)
  omega
theorem sh_dec {m : Nat} {wo we : Nat → Int} (h : okB m wo we) : ∀ d i, i + d + 1 ≤ m → sh m we (i + d + 1) < sh m we i := by
  intro d
  induction d with
  | zero => intro i hi; have h2 := h.2.2 i (by omega); rw [sh_lt (i := i) we (by omega), Nat.add_zero]; omega
  | succ d ih =>
    intro i hi
    have h1 := ih (i + 1) (by omega)
    have h2 := h.2.2 i (by omega)
    rw [sh_lt (i := i) we (by omega)]
    rw [show i + 1 + d + 1 = i + (d + 1) + 1 by omega] at h1
    omega
theorem sh_gt {m : Nat} {wo we : Nat → Int} (h : okB m wo we) {i j : Nat} (hij : i < j) (hj : j ≤ m) : sh m we j < sh m we i := by
  have h1 := sh_dec h (j - i - 1) i (by omega)
  rw [show i + (j - i - 1) + 1 = j by omega] at h1
  exact h1
theorem ta_rng {m : Nat} {wo we : Nat → Int} (h : okB m wo we) (i : Nat) : 0 ≤ ta m wo we i ∧ ta m wo we i ≤ 45000 := by
  unfold ta
  split
  · rename_i hi
    have h1 := h.2.2 i hi
    have h2 := sh_rng h i
    have h3 := Int.mul_nonneg h1.1 h2.1
    have h4 := mulab (a := wo i) (b := sh m we i) (A := 1000) (B := 45) (by omega) (by omega)
    omega
  · omega
-- what a Book holds
abbrev bkC (u : StB) (m : Nat) (wo we : Nat → Int) : Prop := b_size u = nI m ∧ ∀ i, i < m → b_worths u i = iI (wo i) ∧ b_weights u i = iI (we i)
section BK
variable {u : StB} {m : Nat} {wo we : Nat → Int}
theorem has1 (hu : bkC u m wo we) (hm : m ≤ 5) (x : Int32) : f_X0_has u x = some (inb 0 (m - 1) x) := by
  unfold f_X0_has
  rw [hu.1]
  exact in1 x (by omega)
theorem worthAt1 (hu : bkC u m wo we) (hm : m ≤ 5) {i : Nat} (hi : i < 1000) : f_X0_worthAt u (nI i) = some (iI (if i < m then wo i else 0)) := by
  unfold f_X0_worthAt
  rw [if_neg (nI_pos (by omega)), hu.1, if_leN (by omega) (by omega)]
  by_cases h : i < m
  · rw [if_neg (by omega), gdN (by omega) (by omega), cl (by omega), (hu.2 i h).1, if_pos h]
  · rw [if_pos (by omega), if_neg h]; rfl
theorem weightAt1 (hu : bkC u m wo we) (hm : m ≤ 5) {i : Nat} (hi : i < 1000) : f_X0_weightAt u (nI i) = some (iI (if i < m then we i else 0)) := by
  unfold f_X0_weightAt
  rw [if_neg (nI_pos (by omega)), hu.1, if_leN (by omega) (by omega)]
  by_cases h : i < m
  · rw [if_neg (by omega), gdN (by omega) (by omega), cl (by omega), (hu.2 i h).2, if_pos h]
  · rw [if_pos (by omega), if_neg h]; rfl
theorem share1_loop (hu : bkC u m wo we) (hm : m ≤ 5) (k : Int32 → Option Int32) : ∀ d n i acc, m ≤ i + d → d < n → i < 1000 → B_X0_shareAt_8 u k n (iI acc) (nI i) = k (iI (acc + sh m we i)) := by
  intro d
  induction d with
  | zero =>
    intro n i acc h1 h2 h3
    obtain ⟨n, rfl⟩ : ∃ n', n = n' + 1 := ⟨n - 1, by omega⟩
    rw [B_X0_shareAt_8, hu.1, if_leN (by omega) (by omega), if_pos (by omega), sh_ge we (by omega), Int.add_zero]
  | succ d ih =>
    intro n i acc h1 h2 h3
    obtain ⟨n, rfl⟩ : ∃ n', n = n' + 1 := ⟨n - 1, by omega⟩
    rw [B_X0_shareAt_8, hu.1, if_leN (by omega) (by omega)]
    by_cases h : m ≤ i
    · rw [if_pos h, sh_ge we (by omega), Int.add_zero]
    · rw [if_neg h, gdN (by omega) (by omega), cl (by omega), (hu.2 i (by omega)).2, iI_add, nI_1, ih _ _ _ (by omega) (by omega) (by omega), Int.add_assoc, ← sh_lt we (by omega)]
theorem share1 (hu : bkC u m wo we) (hm : m ≤ 5) {i : Nat} (hi : i < 900) : f_X0_shareAt u (nI i) = some (iI (sh m we i)) := by
  unfold f_X0_shareAt
  rw [if_neg (nI_pos (by omega)), show (0 : Int32) = iI 0 from rfl, share1_loop hu hm _ 5 1000 i 0 (by omega) (by omega) (by omega), Int.zero_add]
theorem take1 (hu : bkC u m wo we) (hm : m ≤ 5) {i : Nat} (hi : i < 900) : f_X0_takeAt u (nI i) = some (iI (ta m wo we i)) := by
  unfold f_X0_takeAt ta
  rw [worthAt1 hu hm (by omega), share1 hu hm hi]
  simp only [Option.bind_some, iI_mul]
  split
  · rfl
  · rw [Int.zero_mul]
theorem all1 (hu : bkC u m wo we) (hm : m ≤ 5) : f_X0_allWeights u = some (iI (sh m we 0)) := by
  unfold f_X0_allWeights
  rw [show (0 : Int32) = nI 0 from rfl, share1 hu hm (by omega)]
  rfl
end BK
