def am (F : Nat → Int) : Nat → Nat
  | 0 => 0
  | k + 1 => if F (k + 1) ≤ F (am F k) then am F k else k + 1
def isArg (F : Nat → Int) (m p : Nat) : Prop := p ≤ m ∧ (∀ t, t ≤ m → F t ≤ F p) ∧ ∀ t, t < p → F t < F p
theorem isArg_one {F : Nat → Int} {m p p' : Nat} (h : isArg F m p) (h' : isArg F m p') : p = p' := by
  rcases Nat.lt_trichotomy p p' with q | q | q
  · have a1 := h'.2.2 p q
    have a2 := h.2.1 p' h'.1
    omega
  · exact q
  · have a1 := h.2.2 p' q
    have a2 := h'.2.1 p h.1
    omega
theorem am_arg (F : Nat → Int) : ∀ m, isArg F m (am F m) := by
  intro m
  induction m with
  | zero => exact ⟨Nat.le_refl _, fun t ht => by rw [show t = 0 by omega]; exact Int.le_refl _, fun t ht => absurd ht (Nat.not_lt_zero t)⟩
  | succ m ih =>
    obtain ⟨h1, h2, h3⟩ := ih
    unfold am
    by_cases hc : F (m + 1) ≤ F (am F m)
    · rw [if_pos hc]
      refine ⟨by omega, fun t ht => ?_, h3⟩
      by_cases e : t = m + 1
      · rw [e]; exact hc
      · exact h2 t (by omega)
    · rw [if_neg hc]
      refine ⟨by omega, fun t ht => ?_, fun t ht => ?_⟩
      · by_cases e : t = m + 1
        · rw [e]; exact Int.le_refl _
        · have := h2 t (by omega); omega
      · have := h2 t (by omega); omega
theorem am_s (F : Nat → Int) (k : Nat) : am F (k + 1) = if F (k + 1) ≤ F (am F k) then am F k else k + 1 := rfl
def Fo (m : Nat) (wo we : Nat → Int) (U L : Int) (t : Nat) : Int := ta m wo we t * L + (sh m we 0 - sh m we t) * U
abbrev ulok (U L : Int) : Prop := 0 ≤ U ∧ U ≤ 1000 * L ∧ 0 < L ∧ L ≤ 91125
section OF
variable {u : StB} {m : Nat} {wo we : Nat → Int}
theorem ta_le (ok : okB m wo we) (t : Nat) : ta m wo we t ≤ 1000 * sh m we t := by
  unfold ta
  have h2 := sh_rng ok t
  split
  · rename_i hi
    have h1 := ok.2.2 t hi
    exact Int.mul_le_mul_of_nonneg_right h1.2.1 h2.1
  · omega
theorem sh_top (ok : okB m wo we) {t : Nat} (ht : t ≤ m) : sh m we t ≤ sh m we 0 := by
  rcases Nat.eq_zero_or_pos t with h | h
  · rw [h]; exact Int.le_refl _
  · exact Int.le_of_lt (sh_gt ok h ht)
theorem Fo_rng (ok : okB m wo we) {U L : Int} (h : ulok U L) {t : Nat} (ht : t ≤ m) : 0 ≤ Fo m wo we U L t ∧ Fo m wo we U L t ≤ 1000 * (L * sh m we 0) ∧ Fo m wo we U L t ≤ 10000000000 := by
  have t1 := ta_rng ok t
  have t2 := ta_le ok t
  have s1 := sh_rng ok t
  have s0 := sh_rng ok 0
  have s2 := sh_top ok ht
  have b1 := mulab (a := ta m wo we t) (b := L) (A := 45000) (B := 91125) (by omega) (by omega)
  have b2 := mulab (a := sh m we 0 - sh m we t) (b := U) (A := 45) (B := 91125000) (by omega) (by omega)
  have n1 := Int.mul_nonneg t1.1 (Int.le_of_lt h.2.2.1)
  have n2 := Int.mul_nonneg (show 0 ≤ sh m we 0 - sh m we t by omega) h.1
  have m1 := Int.mul_le_mul_of_nonneg_right t2 (Int.le_of_lt h.2.2.1)
  have m2 := Int.mul_le_mul_of_nonneg_left h.2.1 (show 0 ≤ sh m we 0 - sh m we t by omega)
  have e : 1000 * sh m we t * L + (sh m we 0 - sh m we t) * (1000 * L) = 1000 * (L * sh m we 0) := by grind
  unfold Fo
  omega
theorem offerBrings1 (ok : okB m wo we) (hu : bkC u m wo we) (U L : Int) {t : Nat} (ht : t ≤ m) : f_X1_offerBrings u (nI t) (iL U) (iL L) = some (iL (Fo m wo we U L t)) := by
  have hm := ok.2.1
  have t1 := ta_rng ok t
  have s1 := sh_rng ok t
  have s0 := sh_rng ok 0
  unfold f_X1_offerBrings
  rw [take1 hu hm (by omega), Option.bind_some, all1 hu hm, Option.bind_some, share1 hu hm (by omega), Option.bind_some, iI_sub, iI_L (by omega), iI_L (by omega), iL_mul, iL_mul, iL_add]
  rfl
theorem bestOffer1 (ok : okB m wo we) (hu : bkC u m wo we) {U L : Int} (h : ulok U L) : f_X1_bestOffer u (iL U) (iL L) = some (nI (am (Fo m wo we U L) m)) := by
  have hm := ok.2.1
  have lp : ∀ d N i, i + d = m → d < N → B_X1_bestOffer_6 u (fun z205_5 => some z205_5) N (iL U) (iL L) (nI (am (Fo m wo we U L) i)) (nI (i + 1)) = some (nI (am (Fo m wo we U L) m)) := by
    intro d
    induction d with
    | zero =>
      intro N i h1 h2
      obtain ⟨N, rfl⟩ : ∃ n', N = n' + 1 := ⟨N - 1, by omega⟩
      rw [B_X1_bestOffer_6, hu.1, if_ltN (by omega) (by omega), if_pos (by omega), show i = m by omega]
    | succ d ih =>
      intro N i h1 h2
      obtain ⟨N, rfl⟩ : ∃ n', N = n' + 1 := ⟨N - 1, by omega⟩
      have ha := (am_arg (Fo m wo we U L) i).1
      have f1 := Fo_rng ok h (t := i + 1) (by omega)
      have f2 := Fo_rng ok h (t := am (Fo m wo we U L) i) (by omega)
      have e := ih N (i + 1) (by omega) (by omega)
      rw [am_s] at e
      rw [B_X1_bestOffer_6, hu.1, if_ltN (by omega) (by omega), if_neg (by omega), offerBrings1 ok hu U L (by omega), Option.bind_some, offerBrings1 ok hu U L (by omega), Option.bind_some, if_cle (by omega) (by omega), nI_1]
      by_cases hc : Fo m wo we U L (i + 1) ≤ Fo m wo we U L (am (Fo m wo we U L) i)
      · rw [if_pos hc]
        rw [if_pos hc] at e
        exact e
      · rw [if_neg hc]
        rw [if_neg hc] at e
        exact e
  have e := lp m 1000 0 (by omega) (by omega)
  unfold f_X1_bestOffer
  exact e
end OF
-- the digits of an order
def vd (n : Nat) : Nat → Nat → Nat → Bool
  | 0, _, _ => true
  | d + 1, seen, r => decide (r % 3 < n) && (!(seen.testBit (r % 3)) && vd n d (seen ||| 2 ^ (r % 3)) (r / 3))
theorem vd_s (n d seen r : Nat) : vd n (d + 1) seen r = (decide (r % 3 < n) && (!(seen.testBit (r % 3)) && vd n d (seen ||| 2 ^ (r % 3)) (r / 3))) := rfl
theorem seen_bit : ∀ s, s < 8 → ∀ b, b < 3 → (((nI s >>> (nI b &&& 31)) &&& (1 : Int32)) = 1 ↔ s.testBit b = true) := by decide +kernel
theorem seen_or : ∀ s, s < 8 → ∀ b, b < 3 → nI s ||| ((1 : Int32) <<< (nI b &&& 31)) = nI (s ||| 2 ^ b) := by decide +kernel
theorem seen_lt : ∀ s, s < 8 → ∀ b, b < 3 → s ||| 2 ^ b < 8 := by decide +kernel
theorem seen_keep : ∀ s, s < 8 → ∀ b, b < 3 → ∀ c, c < 3 → s.testBit c = true → (s ||| 2 ^ b).testBit c = true := by decide +kernel
theorem seen_new : ∀ s, s < 8 → ∀ b, b < 3 → (s ||| 2 ^ b).testBit b = true := by decide +kernel
theorem all_three {a b e c : Nat} (ha : a < 3) (hb : b < 3) (he : e < 3) (hc : c < 3) (h1 : (2 ^ a).testBit b = false) (h2 : (2 ^ a ||| 2 ^ b).testBit e = false) : c = a ∨ c = b ∨ c = e := by
  rcases (show a = 0 ∨ a = 1 ∨ a = 2 by omega) with rfl | rfl | rfl <;> rcases (show b = 0 ∨ b = 1 ∨ b = 2 by omega) with rfl | rfl | rfl <;> first | exact absurd h1 (by decide) | (rcases (show e = 0 ∨ e = 1 ∨ e = 2 by omega) with rfl | rfl | rfl <;> first | exact absurd h2 (by decide) | omega)
theorem all_two : ∀ a, a < 2 → ∀ b, b < 2 → ∀ c, c < 2 → ((2 ^ a).testBit b = false → (c = a ∨ c = b)) := by decide +kernel
theorem rem3 {r : Nat} (h : r < 2147483648) : nI r - nI r / (3 : Int32) * (3 : Int32) = nI (r % 3) := by
  rw [show (3 : Int32) = nI 3 from rfl]
  exact pk_rem (a := r) (d := 3) (by omega) (by omega) (by omega)
theorem div3 {r : Nat} (h : r < 2147483648) : nI r / (3 : Int32) = nI (r / 3) := by
  rw [show (3 : Int32) = nI 3 from rfl]
  exact pk_div (a := r) (d := 3) (by omega) (by omega) (by omega)
theorem inb_lt {n a : Nat} (ha : a < 1000) : inb 0 ((n : Int) - 1) (nI a) = if a < n then 1 else 0 := by
  unfold inb
  rw [nI_tI (by omega)]
  by_cases h : a < n
  · rw [if_pos h, if_pos (by omega)]
  · rw [if_neg h, if_neg (by omega)]
section ORD
variable {uS : StS} {n : Nat} {m : Nat → Nat} {wo we hz hr : Nat → Nat → Int}
theorem isOrder1_loop (h : relS uS n m wo we hz hr) (k50 : Option Int32) (k65 : Int32 → Option Int32) : ∀ d N seen r t, t + d = n → d < N → seen < 8 → r < 2147483648 → B_X1_isOrder_13 uS k50 k65 N (nI seen) (nI r) (nI t) = if vd n d seen r = true then k65 (nI (r / 3 ^ d)) else k50 := by
  intro d
  have hn := h.2.1
  induction d with
  | zero =>
    intro N seen r t h1 h2 h3 h4
    obtain ⟨N, rfl⟩ : ∃ n', N = n' + 1 := ⟨N - 1, by omega⟩
    rw [B_X1_isOrder_13, h.2.2.1, if_leN (by omega) (by omega), if_pos (by omega), if_pos (show vd n 0 seen r = true from rfl), Nat.pow_zero, Nat.div_one]
  | succ d ih =>
    intro N seen r t h1 h2 h3 h4
    obtain ⟨N, rfl⟩ : ∃ n', N = n' + 1 := ⟨N - 1, by omega⟩
    have hb : r % 3 < 3 := Nat.mod_lt _ (by omega)
    have hr3 : r / 3 < 2147483648 := by omega
    rw [B_X1_isOrder_13, h.2.2.1, if_leN (by omega) (by omega), if_neg (by omega), rem3 h4, div3 h4, isBuyer1 h, Option.bind_some, inb_lt (by omega), seen_or seen h3 _ hb, nI_1, ih N _ _ (t + 1) (by omega) (by omega) (seen_lt seen h3 _ hb) hr3, vd_s, Nat.div_div_eq_div_mul, Nat.mul_comm 3, ← Nat.pow_succ]
    by_cases c1 : r % 3 < n
    · rw [if_pos c1, if_neg one_ne]
      by_cases c2 : seen.testBit (r % 3) = true
      · rw [if_pos ((seen_bit seen h3 _ hb).mpr c2), c2]
        simp
      · rw [if_neg (fun q => c2 ((seen_bit seen h3 _ hb).mp q))]
        simp [c1, c2]
    · rw [if_neg c1, if_pos rfl]
      simp [c1]
theorem isOrder1 (h : relS uS n m wo we hz hr) {r : Nat} (hr4 : r < 2147483648) : f_X1_isOrder uS (nI r) = some (if vd n n 0 r = true ∧ r / 3 ^ n = 0 then 1 else 0) := by
  have hn := h.2.1
  have e := fun k => isOrder1_loop h (some (0 : Int32)) k n 1000 0 r 0 (by omega) (by omega) (by omega) hr4
  rw [show nI 0 = (0 : Int32) from rfl] at e
  unfold f_X1_isOrder
  rw [if_pos (nI_pos' hr4), e]
  have hq : r / 3 ^ n < 2147483648 := Nat.lt_of_le_of_lt (Nat.div_le_self _ _) hr4
  by_cases c1 : vd n n 0 r = true
  · rw [if_pos c1, show (0 : Int32) = nI 0 from rfl, if_eqN hq (by omega)]
    by_cases c2 : r / 3 ^ n = 0
    · rw [if_pos c2, if_pos ⟨c1, c2⟩]
    · rw [if_neg c2, if_neg (fun q => c2 q.2)]
  · rw [if_neg c1, if_neg (fun q => c1 q.1)]
end ORD
