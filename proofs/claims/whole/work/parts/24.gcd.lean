theorem iL_nat (n : Nat) : lN n = iL (n : Int) := rfl
theorem z00 : lg_cmp (lN 0) 0 = 0 := (lg_cmp_eq _ _).mpr rfl
theorem euclid_half {a b : Nat} (hb : 0 < b) (hr : 0 < a % b) : b % (a % b) < (b + 1) / 2 := by
  have h1 := Nat.mod_lt a hb
  generalize a % b = r at *
  have h2 := Nat.mod_lt b hr
  by_cases h : r ≤ b / 2
  · omega
  · have h3 : b % r = b - r := by
      rw [Nat.mod_eq_sub_mod (by omega), Nat.mod_eq_of_lt (by omega)]
    omega
theorem gcd_step (a b : Nat) : Nat.gcd b (a % b) = Nat.gcd a b := by
  rw [Nat.gcd_comm, ← Nat.gcd_rec, Nat.gcd_comm]
theorem common2_loop (k : Int64 → Option Int64) : ∀ j n a b, a < 2 ^ 62 → b < 2 ^ 62 → b < 2 ^ j → 2 * j + 1 ≤ n → B_X2_common_17 k n (lN a) (lN b) = k (lN (Nat.gcd a b)) := by
  intro j
  induction j with
  | zero =>
    intro n a b ha hb h1 h2
    obtain ⟨n, rfl⟩ : ∃ n', n = n' + 1 := ⟨n - 1, by omega⟩
    have e : b = 0 := by omega
    subst e
    rw [B_X2_common_17, if_pos z00, Nat.gcd_zero_right]
  | succ j ih =>
    intro n a b ha hb h1 h2
    obtain ⟨n, rfl⟩ : ∃ n', n = n' + 1 + 1 := ⟨n - 2, by omega⟩
    rw [B_X2_common_17]
    by_cases h0 : b = 0
    · subst h0
      rw [if_pos z00, Nat.gcd_zero_right]
    · have z0 : ¬ lN b = 0 := fun q => h0 ((pk_lEQ (a := b) (b := 0) (by omega) (by omega)).mp q)
      have hm := Nat.mod_lt a (show 0 < b by omega)
      rw [if_neg (fun q => z0 ((lg_cmp_eq _ _).mp q)), if_neg z0, pk_lRem (by omega) (by omega) (by omega), B_X2_common_17]
      by_cases h3 : a % b = 0
      · rw [h3, if_pos z00, ← gcd_step a b, h3, Nat.gcd_zero_right]
      · have z1 : ¬ lN (a % b) = 0 := fun q => h3 ((pk_lEQ (a := a % b) (b := 0) (by omega) (by omega)).mp q)
        have h4 := euclid_half (a := a) (b := b) (by omega) (by omega)
        have h5 : 2 ^ (j + 1) = 2 * 2 ^ j := by rw [Nat.pow_succ]; omega
        rw [if_neg (fun q => z1 ((lg_cmp_eq _ _).mp q)), if_neg z1, pk_lRem (by omega) (by omega) (by omega), ih n _ _ (by omega) (by omega) (by omega) (by omega), gcd_step, gcd_step]
theorem common1_loop (k : Int64 → Option Int64) : ∀ j n a b c, a < 2 ^ 62 → b < 2 ^ 62 → b < 2 ^ j → 2 * j + 1 ≤ n → c + 2 * j + 1 ≤ 100 → B_X1_commonDivisor_9 k n (lN a) (lN b) (nI c) = k (lN (Nat.gcd a b)) := by
  intro j
  induction j with
  | zero =>
    intro n a b c ha hb h1 h2 hc
    obtain ⟨n, rfl⟩ : ∃ n', n = n' + 1 := ⟨n - 1, by omega⟩
    have e : b = 0 := by omega
    subst e
    rw [B_X1_commonDivisor_9, show (100 : Int32) = nI 100 from rfl, if_leN (by omega) (by omega), if_neg (by omega), if_pos z00, Nat.gcd_zero_right]
  | succ j ih =>
    intro n a b c ha hb h1 h2 hc
    obtain ⟨n, rfl⟩ : ∃ n', n = n' + 1 + 1 := ⟨n - 2, by omega⟩
    rw [B_X1_commonDivisor_9, show (100 : Int32) = nI 100 from rfl, if_leN (by omega) (by omega), if_neg (by omega)]
    by_cases h0 : b = 0
    · subst h0
      rw [if_pos z00, Nat.gcd_zero_right]
    · have z0 : ¬ lN b = 0 := fun q => h0 ((pk_lEQ (a := b) (b := 0) (by omega) (by omega)).mp q)
      have hm := Nat.mod_lt a (show 0 < b by omega)
      rw [if_neg (fun q => z0 ((lg_cmp_eq _ _).mp q)), if_neg z0, pk_lRem (by omega) (by omega) (by omega), nI_1, B_X1_commonDivisor_9, show (100 : Int32) = nI 100 from rfl, if_leN (by omega) (by omega), if_neg (by omega)]
      by_cases h3 : a % b = 0
      · rw [h3, if_pos z00, ← gcd_step a b, h3, Nat.gcd_zero_right]
      · have z1 : ¬ lN (a % b) = 0 := fun q => h3 ((pk_lEQ (a := a % b) (b := 0) (by omega) (by omega)).mp q)
        have h4 := euclid_half (a := a) (b := b) (by omega) (by omega)
        have h5 : 2 ^ (j + 1) = 2 * 2 ^ j := by rw [Nat.pow_succ]; omega
        rw [if_neg (fun q => z1 ((lg_cmp_eq _ _).mp q)), if_neg z1, pk_lRem (by omega) (by omega) (by omega), nI_1, ih n _ _ _ (by omega) (by omega) (by omega) (by omega) (by omega), gcd_step, gcd_step]
theorem if_eq64 {α : Type} {a b : Int} (ha : r64 a) (hb : r64 b) {x y : α} : (if iL a = iL b then x else y) = (if a = b then x else y) := if_iff (iL_eq ha hb)
theorem iL_div {a b : Int} (ha : -4611686018427387904 ≤ a ∧ a ≤ 4611686018427387904) (hb : r64 b) : iL a / iL b = iL (a.tdiv b) := by
  have h1 : (a.tdiv b).natAbs ≤ a.natAbs := by rw [Int.natAbs_tdiv]; exact Nat.div_le_self _ _
  apply Int64.toInt_inj.1
  rw [Int64.toInt_div, iL_toInt (by omega), iL_toInt hb, iL_toInt (by omega), bm64 (by omega)]
/-- the parts of a fraction in least form -/
def lp (z w : Int) (p : Int32) : Int := if p = 0 then z.tdiv (Int.gcd z w : Nat) else w.tdiv (Int.gcd z w : Nat)
abbrev q_ok (z w : Int) : Prop := -1099511627776 ≤ z ∧ z ≤ 1099511627776 ∧ 0 < w ∧ w < 131072
theorem gcd_rng {z w : Int} (h : q_ok z w) : 0 < Int.gcd z w ∧ Int.gcd z w < 131072 := by
  have h1 : 0 < Int.gcd z w := Int.gcd_pos_of_ne_zero_right _ (by omega)
  have h2 : Int.gcd z w ≤ w.natAbs := Nat.le_of_dvd (by omega) (Nat.gcd_dvd_right _ _)
  omega
theorem part2 (u : StM) {z w : Int} (h : q_ok z w) (p : Int32) : f_X2_part u (iL z) (iL w) p = some (iL (lp z w p)) := by
  have hg := gcd_rng h
  have hc : f_X2_common (iL z) (iL w) = some (lN (Int.gcd z w)) := by
    have ew : iL w = lN w.natAbs := by rw [iL_nat]; congr 1; omega
    unfold f_X2_common
    rw [show (0 : Int64) = iL 0 from rfl, if_cge (by omega) (by omega)]
    by_cases h0 : 0 ≤ z
    · have ez : iL z = lN z.natAbs := by rw [iL_nat]; congr 1; omega
      rw [if_pos h0, ez, ew, common2_loop _ 17 1000 _ _ (by omega) (by omega) (by omega) (by omega)]
      rfl
    · have ez : -iL z = lN z.natAbs := by rw [iL_nat, iL_neg]; congr 1; omega
      rw [if_neg h0, ez, ew, common2_loop _ 17 1000 _ _ (by omega) (by omega) (by omega) (by omega)]
      rfl
  unfold f_X2_part lp
  rw [hc, Option.bind_some, iL_nat, show (0 : Int64) = iL 0 from rfl]
  by_cases hp : p = 0
  · rw [if_pos hp, if_pos hp, if_eq64 (by omega) (by omega), if_neg (by omega), iL_div (by omega) (by omega)]
  · rw [if_neg hp, if_neg hp, if_eq64 (by omega) (by omega), if_neg (by omega), iL_div (by omega) (by omega)]
theorem part1 {z w : Int} (h : q_ok z w) (p : Int32) : f_X1_leastPart (iL z) (iL w) p = some (iL (lp z w p)) := by
  have hg := gcd_rng h
  have hc : f_X1_commonDivisor (if 0 < iL z then iL z else -iL z) (iL w) = some (lN (Int.gcd z w)) := by
    have ew : iL w = lN w.natAbs := by rw [iL_nat]; congr 1; omega
    have ez : (if 0 < iL z then iL z else -iL z) = lN z.natAbs := by
      rw [show (0 : Int64) = iL 0 from rfl, iL_nat]
      by_cases h0 : 0 < z
      · rw [if_pos ((iL_lt (by omega) (by omega)).mpr h0)]; congr 1; omega
      · rw [if_neg (fun q => h0 ((iL_lt (by omega) (by omega)).mp q)), iL_neg]; congr 1; omega
    unfold f_X1_commonDivisor
    rw [ez, ew, show (0 : Int32) = nI 0 from rfl, common1_loop _ 17 1000 _ _ 0 (by omega) (by omega) (by omega) (by omega) (by omega)]
    rfl
  unfold f_X1_leastPart lp
  rw [hc, Option.bind_some, iL_nat, show (0 : Int64) = iL 0 from rfl, if_cgt (by omega) (by omega), if_pos (by omega)]
  by_cases hp : p = 0
  · rw [if_pos hp, if_pos hp, if_eq64 (by omega) (by omega), if_neg (by omega), iL_div (by omega) (by omega)]
  · rw [if_neg hp, if_neg hp, if_eq64 (by omega) (by omega), if_neg (by omega), iL_div (by omega) (by omega)]
theorem lp_eq {U L z r : Int} (hL : 0 < L) (hr : 0 < r) (h : U * r = z * L) (p : Int32) : lp U L p = lp z r p := by
  have g1 : 0 < Int.gcd U L := Int.gcd_pos_of_ne_zero_right _ (by omega)
  have g2 : 0 < Int.gcd z r := Int.gcd_pos_of_ne_zero_right _ (by omega)
  have e1 : Int.gcd (U * r) (L * r) = Int.gcd U L * r.natAbs := Int.gcd_mul_right ..
  have e2 : Int.gcd (z * L) (r * L) = Int.gcd z r * L.natAbs := Int.gcd_mul_right ..
  rw [h, Int.mul_comm L r, e2] at e1
  obtain ⟨u1, hu⟩ : ((Int.gcd U L : Nat) : Int) ∣ U := Int.gcd_dvd_left ..
  obtain ⟨l1, hl⟩ : ((Int.gcd U L : Nat) : Int) ∣ L := Int.gcd_dvd_right ..
  have e3 : (Int.gcd z r : Int) * L = (Int.gcd U L : Int) * r := by
    have q1 : (r.natAbs : Int) = r := by omega
    have q2 : (L.natAbs : Int) = L := by omega
    have q3 : ((Int.gcd z r * L.natAbs : Nat) : Int) = ((Int.gcd U L * r.natAbs : Nat) : Int) := by rw [e1]
    rw [Int.natCast_mul, Int.natCast_mul, q1, q2] at q3
    exact q3
  unfold lp
  generalize hG1 : (Int.gcd U L) = G1 at *
  generalize hG2 : (Int.gcd z r) = G2 at *
  have n1 : (G1 : Int) ≠ 0 := by omega
  have n2 : (G2 : Int) ≠ 0 := by omega
  have r1 : r = G2 * l1 := by
    rw [hl] at e3
    apply Int.eq_of_mul_eq_mul_left n1
    grind
  have l0 : l1 ≠ 0 := by
    rintro rfl
    simp at hl
    omega
  have z1 : z = G2 * u1 := by
    rw [r1, hu, hl] at h
    apply Int.eq_of_mul_eq_mul_right (a := (G1 : Int) * l1) (Int.mul_ne_zero n1 l0)
    grind
  rw [hu, hl, r1, z1, Int.mul_tdiv_cancel_left _ n1, Int.mul_tdiv_cancel_left _ n1, Int.mul_tdiv_cancel_left _ n2, Int.mul_tdiv_cancel_left _ n2]
