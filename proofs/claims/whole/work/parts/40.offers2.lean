def nU (m : Nat → Nat) (wo we : Nat → Nat → Int) (b : Nat) (U L : Int) : Int := Fo (m b) (wo b) (we b) U L (am (Fo (m b) (wo b) (we b) U L) (m b))
def nL (m : Nat → Nat) (we : Nat → Nat → Int) (b : Nat) (L : Int) : Int := L * sh (m b) (we b) 0
def pvv (m : Nat → Nat) (wo : Nat → Nat → Int) (b p : Nat) : Int := if p < m b then wo b p else 1001
def pv (m : Nat → Nat) (wo we : Nat → Nat → Int) (b : Nat) (U L : Int) : Int := pvv m wo b (am (Fo (m b) (wo b) (we b) U L) (m b))
def prf (m : Nat → Nat) (wo we : Nat → Nat → Int) (c : Nat) : Nat → Nat → Int → Int → Option Int
  | 0, _, _, _ => none
  | d + 1, r, U, L => if r % 3 = c then some (pv m wo we (r % 3) U L) else prf m wo we c d (r / 3) (nU m wo we (r % 3) U L) (nL m we (r % 3) L)
def fin2 (m : Nat → Nat) (wo we : Nat → Nat → Int) : Nat → Nat → Int → Int → Int × Int
  | 0, _, U, L => (U, L)
  | d + 1, r, U, L => fin2 m wo we d (r / 3) (nU m wo we (r % 3) U L) (nL m we (r % 3) L)
theorem prf_s (m : Nat → Nat) (wo we : Nat → Nat → Int) (c d r : Nat) (U L : Int) : prf m wo we c (d + 1) r U L = if r % 3 = c then some (pv m wo we (r % 3) U L) else prf m wo we c d (r / 3) (nU m wo we (r % 3) U L) (nL m we (r % 3) L) := rfl
theorem fin2_s (m : Nat → Nat) (wo we : Nat → Nat → Int) (d r : Nat) (U L : Int) : fin2 m wo we (d + 1) r U L = fin2 m wo we d (r / 3) (nU m wo we (r % 3) U L) (nL m we (r % 3) L) := rfl
theorem scr_price (u : StM) (f : Nat → Int32) : scr u (m_set_price u f) := ⟨rfl, rfl, rfl, rfl, rfl, rfl, rfl, rfl⟩
abbrev uld (d : Nat) (U L : Int) : Prop := 0 ≤ U ∧ U ≤ 1000 * L ∧ 0 < L ∧ L * 45 ^ d ≤ 91125
section OE
variable {uS : StS} {uM : StM} {n : Nat} {m : Nat → Nat} {wo we hz hr : Nat → Nat → Int}
theorem uld_ok {d : Nat} {U L : Int} (h : uld d U L) : ulok U L := by
  refine ⟨h.1, h.2.1, h.2.2.1, ?_⟩
  have h1 : (1 : Int) ≤ 45 ^ d := Int.le_of_lt_add_one (by have := Int.pow_pos (n := 45) (m := d) (by omega); omega)
  have h2 := Int.mul_le_mul_of_nonneg_left h1 (Int.le_of_lt h.2.2.1)
  omega
theorem uld_next (h : relB uS m wo we hz hr) {b : Nat} (hb : b < 3) {d : Nat} {U L : Int} (q : uld (d + 1) U L) : uld d (nU m wo we b U L) (nL m we b L) := by
  have hB := (h b hb).1
  have hu := uld_ok q
  have f := Fo_rng hB hu (am_arg (Fo (m b) (wo b) (we b) U L) (m b)).1
  have s0 := sh_pos hB (i := 0) (by have := hB.1; omega)
  have s1 := sh_rng hB 0
  refine ⟨f.1, f.2.1, Int.mul_pos q.2.2.1 (by omega), ?_⟩
  have p0 : (0 : Int) < 45 ^ d := Int.pow_pos (by omega)
  have e1 : L * sh (m b) (we b) 0 ≤ L * 45 := Int.mul_le_mul_of_nonneg_left s1.2 (Int.le_of_lt q.2.2.1)
  have e2 := Int.mul_le_mul_of_nonneg_right e1 (Int.le_of_lt p0)
  have e3 : L * 45 * 45 ^ d = L * 45 ^ (d + 1) := by rw [Int.pow_succ, Int.mul_assoc, Int.mul_comm 45]
  show L * sh (m b) (we b) 0 * 45 ^ d ≤ 91125
  rw [e3] at e2
  exact Int.le_trans e2 q.2.2.2
theorem offers1_end (h : relS uS n m wo we hz hr) (x2 : Int32) (ht : ∀ b, b < n → ¬ nI b = x2 - (2 : Int32)) (k87 : Nat → Int32 → Option Int64) (k140 : Int32 → Int64 → Int64 → Option Int64) : ∀ d N seen r U L t, t + d = n → d < N → r < 2147483648 → vd n d seen r = true → uld d U L → B_X1_offers_40 uS k87 k140 N x2 (iL U) (iL L) (nI r) (nI t) = k140 x2 (iL (fin2 m wo we d r U L).1) (iL (fin2 m wo we d r U L).2) := by
  intro d
  have hn := h.2.1
  induction d with
  | zero =>
    intro N seen r U L t h1 h2 h3 h4 h5
    obtain ⟨N, rfl⟩ : ∃ n', N = n' + 1 := ⟨N - 1, by omega⟩
    rw [B_X1_offers_40, h.2.2.1, if_leN (by omega) (by omega), if_pos (by omega)]
    rfl
  | succ d ih =>
    intro N seen r U L t h1 h2 h3 h4 h5
    obtain ⟨N, rfl⟩ : ∃ n', N = n' + 1 := ⟨N - 1, by omega⟩
    rw [vd_s] at h4
    simp only [Bool.and_eq_true, decide_eq_true_eq] at h4
    obtain ⟨c1, -, c3⟩ := h4
    have hb : r % 3 < 3 := Nat.mod_lt _ (by omega)
    have hB := h.2.2.2 (r % 3) hb
    have hu := uld_ok h5
    have ha := (am_arg (Fo (m (r % 3)) (wo (r % 3)) (we (r % 3)) U L) (m (r % 3))).1
    have s1 := sh_rng hB.1 0
    rw [B_X1_offers_40, h.2.2.1, if_leN (by omega) (by omega), if_neg (by omega), rem3 h3, div3 h3, bookOf1 _ hb, Option.bind_some, bestOffer1 hB.1 hB.2.1 hu, Option.bind_some, if_neg (ht _ c1), offerBrings1 hB.1 hB.2.1 U L ha, Option.bind_some, all1 hB.2.1 hB.1.2.1, Option.bind_some, iI_L (by omega), iL_mul, nI_1, fin2_s]
    exact ih N (seen ||| 2 ^ (r % 3)) (r / 3) _ _ (t + 1) (by omega) (by omega) (by omega) c3 (uld_next h.2.2.2 hb h5)
theorem offers1_hit (h : relS uS n m wo we hz hr) {x2 : Int32} {c : Nat} (hc : c < n) (hx : x2 - (2 : Int32) = nI c) (k140 : Int32 → Int64 → Int64 → Option Int64) : ∀ d N seen r U L t p, t + d = n → d < N → r < 2147483648 → vd n d seen r = true → uld d U L → prf m wo we c d r U L = some p → B_X1_offers_40 uS (fun z219_10 z219_11 => (f_X0_has (bk uS z219_10) z219_11).bind fun r220 => if r220 = 0 then some (1001 : Int64) else (f_X0_worthAt (bk uS z219_10) z219_11).bind fun r222 => some ((r222).toInt64)) k140 N x2 (iL U) (iL L) (nI r) (nI t) = some (iL p) ∧ 0 ≤ p ∧ p ≤ 1001 := by
  intro d
  have hn := h.2.1
  induction d with
  | zero => intro N seen r U L t p h1 h2 h3 h4 h5 h6; cases h6
  | succ d ih =>
    intro N seen r U L t p h1 h2 h3 h4 h5 h6
    obtain ⟨N, rfl⟩ : ∃ n', N = n' + 1 := ⟨N - 1, by omega⟩
    rw [vd_s] at h4
    simp only [Bool.and_eq_true, decide_eq_true_eq] at h4
    obtain ⟨c1, -, c3⟩ := h4
    have hb : r % 3 < 3 := Nat.mod_lt _ (by omega)
    have hB := h.2.2.2 (r % 3) hb
    have hm := hB.1.2.1
    have hu := uld_ok h5
    have ha := (am_arg (Fo (m (r % 3)) (wo (r % 3)) (we (r % 3)) U L) (m (r % 3))).1
    have s1 := sh_rng hB.1 0
    rw [B_X1_offers_40, h.2.2.1, if_leN (by omega) (by omega), if_neg (by omega), rem3 h3, div3 h3, bookOf1 _ hb, Option.bind_some, bestOffer1 hB.1 hB.2.1 hu, Option.bind_some, hx, if_eqN (by omega) (by omega)]
    rw [prf_s] at h6
    by_cases e : r % 3 = c
    · rw [if_pos e] at h6
      rw [if_pos e, has1 hB.2.1 hm, Option.bind_some, inb_lt (by omega)]
      unfold pv pvv at h6
      generalize am (Fo (m (r % 3)) (wo (r % 3)) (we (r % 3)) U L) (m (r % 3)) = a at *
      by_cases ea : a < m (r % 3)
      · have wa := hB.1.2.2 a ea
        rw [if_pos ea] at h6
        cases h6
        rw [if_pos ea, if_neg one_ne, worthAt1 hB.2.1 hm (by omega), if_pos ea, Option.bind_some, iI_L (by omega)]
        exact ⟨rfl, by omega, by omega⟩
      · rw [if_neg ea] at h6
        cases h6
        rw [if_neg ea, if_pos rfl]
        exact ⟨rfl, by omega, by omega⟩
    · rw [if_neg e] at h6
      rw [if_neg e, offerBrings1 hB.1 hB.2.1 U L ha, Option.bind_some, all1 hB.2.1 hB.1.2.1, Option.bind_some, iI_L (by omega), iL_mul, nI_1]
      exact ih N (seen ||| 2 ^ (r % 3)) (r / 3) _ _ (t + 1) p (by omega) (by omega) (by omega) c3 (uld_next h.2.2.2 hb h5) h6
theorem offers2_in (h : relB uS m wo we hz hr) {b : Nat} (hb : b < 3) {U L : Int} (hu : ulok U L) (x2 x3 x4 x9 : Int32) (k : StM → Int32 → Int32 → Int32 → Int64 → Int32 → Int64 → Int64 → Option (Int64 × StM)) : ∀ j N p (u : StM), relM u n m wo we → j ≤ m b → j < N → j ≤ p → p ≤ m b → (∀ t, j ≤ t → t ≤ m b → Fo (m b) (wo b) (we b) U L t ≤ Fo (m b) (wo b) (we b) U L p) → (∀ t, j ≤ t → t < p → Fo (m b) (wo b) (we b) U L t < Fo (m b) (wo b) (we b) U L p) → m_price u b = iI (pvv m wo b p) → ∃ u', scr u u' ∧ (∀ c, c ≠ b → m_price u' c = m_price u c) ∧ m_price u' b = iI (pv m wo we b U L) ∧ B_X2_offers_140 k N u x2 x3 x4 (iL U) (iL L) x9 (nI b) (iL (sh (m b) (we b) 0)) (iL (Fo (m b) (wo b) (we b) U L p)) (iI ((j : Int) - 1)) = k u' x2 x3 x4 (iL L) x9 (iL (sh (m b) (we b) 0)) (iL (nU m wo we b U L)) := by
  intro j
  have hB := h b hb
  have hm := hB.1.2.1
  induction j with
  | zero =>
    intro N p u hM h1 h2 h3 h4 h5 h6 h7
    obtain ⟨N, rfl⟩ : ∃ n', N = n' + 1 := ⟨N - 1, by omega⟩
    have e := isArg_one (F := Fo (m b) (wo b) (we b) U L) (m := m b) ⟨h4, fun t ht => h5 t (by omega) ht, fun t ht => h6 t (by omega) ht⟩ (am_arg (Fo (m b) (wo b) (we b) U L) (m b))
    refine ⟨u, scr_rf _, fun c _ => rfl, by rw [h7, e]; rfl, ?_⟩
    rw [B_X2_offers_140, show (0 : Int32) = iI 0 from rfl, if_lt (by omega) (by omega), if_pos (by omega), e]
    rfl
  | succ j ih =>
    intro N p u hM h1 h2 h3 h4 h5 h6 h7
    obtain ⟨N, rfl⟩ : ∃ n', N = n' + 1 := ⟨N - 1, by omega⟩
    have e1 : iI (((j + 1 : Nat) : Int) - 1) = nI j := by rw [iI_nat]; congr 1; omega
    have e2 : nI j + (-1) = iI ((j : Int) - 1) := by rw [iI_nat, show (-1 : Int32) = iI (-1) from rfl, iI_add]; congr 1
    have hMb := hM.2 b hb
    have wj := hB.1.2.2 j (by omega)
    have sj := sh_rng hB.1 j
    have f1 := Fo_rng hB.1 hu (t := j) (by omega)
    have f2 := Fo_rng hB.1 hu (t := p) h4
    have eF : wo b j * sh (m b) (we b) j * L + (sh (m b) (we b) 0 - sh (m b) (we b) j) * U = Fo (m b) (wo b) (we b) U L j := by
      unfold Fo ta
      rw [if_pos (by omega)]
    have gb : ¬ (nI (5 * b + j) < 0 ∨ 15 ≤ (nI (5 * b + j)).toNatClampNeg) := nI_in (by omega) (by omega)
    rw [B_X2_offers_140, e1, if_neg (nI_pos (by omega)), share2 hb hMb hm (by omega), Option.bind_some, ix5]
    simp only [if_neg gb]
    rw [cl (show 5 * b + j < 2147483648 by omega), (hMb.2 j (by omega)).1, iI_L (by omega), iI_L (by omega), iL_mul, iL_mul, iL_sub, iL_mul, iL_add, eF, if_clt (by omega) (by omega), gdN hb (by omega), cl (by omega), e2]
    by_cases hc : Fo (m b) (wo b) (we b) U L j < Fo (m b) (wo b) (we b) U L p
    · rw [if_pos hc]
      refine ih N p u hM (by omega) (by omega) (by omega) h4 (fun t a1 a2 => ?_) (fun t a1 a2 => ?_) h7
      · by_cases e : t = j
        · rw [e]; omega
        · exact h5 t (by omega) a2
      · by_cases e : t = j
        · rw [e]; exact hc
        · exact h6 t (by omega) a2
    · rw [if_neg hc]
      obtain ⟨u1, q1, q2, q3, q4⟩ := ih N j (m_set_price u (upd (m_price u) b (iI (wo b j)))) (relM_scr (scr_price u _) hM) (by omega) (by omega) (Nat.le_refl _) (by omega) (fun t a1 a2 => by
        by_cases e : t = j
        · rw [e]; exact Int.le_refl _
        · have := h5 t (by omega) a2; omega) (fun t a1 a2 => by omega) (by
        show upd (m_price u) b (iI (wo b j)) b = _
        unfold pvv
        rw [upd_eq, if_pos (by omega)])
      refine ⟨u1, scr_tr (scr_price u _) q1, fun c hcb => ?_, q3, q4⟩
      rw [q2 c hcb]
      show upd (m_price u) b (iI (wo b j)) c = _
      rw [upd_ne _ _ hcb]
end OE
