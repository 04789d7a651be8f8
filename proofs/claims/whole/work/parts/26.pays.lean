def upN (pl : Nat → Nat) (c p : Nat) : Nat → Nat := fun b => if b = c then p else pl b
theorem upN_c (pl : Nat → Nat) (c p : Nat) : upN pl c p c = p := if_pos rfl
theorem upN_n (pl : Nat → Nat) {c b : Nat} (p : Nat) (h : b ≠ c) : upN pl c p b = pl b := if_neg h
/-- the value at the first place that wins, from p on -/
def fw (W : Nat → Bool) (v : Nat → Int) : Nat → Nat → Int
  | 0, _ => 0
  | d + 1, p => if W p = true then v p else fw W v d (p + 1)
theorem fw_s {W : Nat → Bool} {v : Nat → Int} {d p : Nat} : fw W v (d + 1) p = if W p = true then v p else fw W v d (p + 1) := rfl
theorem fw_more {W : Nat → Bool} {v : Nat → Int} : ∀ d p e, (∃ q, p ≤ q ∧ q < p + d ∧ W q = true) → fw W v (d + e) p = fw W v d p := by
  intro d
  induction d with
  | zero => rintro p e ⟨q, h1, h2, -⟩; omega
  | succ d ih =>
    rintro p e ⟨q, h1, h2, h3⟩
    rw [show d + 1 + e = (d + e) + 1 by omega]
    unfold fw
    split
    · rfl
    · rename_i hW
      refine ih (p + 1) e ⟨q, ?_, by omega, h3⟩
      rcases Nat.lt_or_ge p q with h | h
      · exact h
      · exact absurd (by rw [show p = q by omega]; exact h3) hW
theorem fw_rng {W : Nat → Bool} {v : Nat → Int} {B : Int} (hB : 0 ≤ B) : ∀ d p, (∀ q, p ≤ q → q < p + d → 0 ≤ v q ∧ v q ≤ B) → 0 ≤ fw W v d p ∧ fw W v d p ≤ B := by
  intro d
  induction d with
  | zero => intro p h; exact ⟨Int.le_refl _, hB⟩
  | succ d ih =>
    intro p h
    unfold fw
    split
    · exact h p (by omega) (by omega)
    · exact ih (p + 1) (fun q h1 h2 => h q (by omega) (by omega))
def Wc (n : Nat) (hz hr : Nat → Nat → Int) (pl : Nat → Nat) (c : Nat) : Nat → Bool := fun p => decide (wn n hz hr (upN pl c p) = nI c)
def lw (n : Nat) (m : Nat → Nat) (wo hz hr : Nat → Nat → Int) (pl : Nat → Nat) (c : Nat) : Int := fw (Wc n hz hr pl c) (wo c) (m c) 0
section PY
variable {uS : StS} {n : Nat} {m : Nat → Nat} {wo we hz hr : Nat → Nat → Int}
theorem lw_rng (h : relB uS m wo we hz hr) (pl : Nat → Nat) {c : Nat} (hc : c < 3) : 0 ≤ lw n m wo hz hr pl c ∧ lw n m wo hz hr pl c ≤ 1000 := fw_rng (by omega) _ _ (fun q _ h2 => by have := (h c hc).1.2.2 q (by omega); omega)
theorem nI01 : ¬ nI 1 = 0 := by decide
theorem nI02 : ¬ nI 2 = 0 := by decide
theorem nI12 : ¬ nI 2 = 1 := by decide
theorem getsWith1 (h : relS uS n m wo we hz hr) (x1 x2 x3 : Int32) (pl : Nat → Nat) (hpl : ∀ b, b < n → pl b < m b ∧ pk3 x1 x2 x3 b = nI (pl b)) {c p : Nat} (hc : c < n) (hp : p < m c) : f_X1_getsWith uS (nI p) x1 x2 x3 (nI c) = some (if Wc n hz hr pl c p = true then 1 else 0) := by
  have hw : f_X1_winner uS (if c = 0 then nI p else x1) (if c = 1 then nI p else x2) (if c = 2 then nI p else x3) = some (wn n hz hr (upN pl c p)) := by
    refine winner1 h _ _ _ _ (fun b hb => ?_)
    have hn := h.2.1
    have q := hpl b hb
    by_cases e : b = c
    · subst e
      rw [upN_c]
      refine ⟨hp, ?_⟩
      rcases co3 (show b < 3 by omega) with rfl | rfl | rfl <;> rfl
    · rw [upN_n pl p e]
      refine ⟨q.1, ?_⟩
      rw [← q.2]
      rcases co3 (show b < 3 by omega) with rfl | rfl | rfl <;> (unfold pk3; simp [Ne.symm e])
  have fin : ∀ y1 y2 y3, f_X1_winner uS y1 y2 y3 = some (wn n hz hr (upN pl c p)) → B_X1_getsWith_34 uS (nI c) y1 y2 y3 = some (if Wc n hz hr pl c p = true then 1 else 0) := by
    intro y1 y2 y3 q
    unfold B_X1_getsWith_34 Wc
    rw [q, Option.bind_some]
    by_cases e : wn n hz hr (upN pl c p) = nI c
    · rw [if_pos e, if_pos (decide_eq_true e)]
    · rw [if_neg e, if_neg (by simpa using e)]
  have hn := h.2.1
  unfold f_X1_getsWith B_X1_getsWith_11 B_X1_getsWith_22
  rcases co3 (show c < 3 by omega) with rfl | rfl | rfl
  · exact fin _ _ _ hw
  · exact fin _ _ _ hw
  · exact fin _ _ _ hw
theorem leastWinning1_loop (h : relS uS n m wo we hz hr) (x1 x2 x3 : Int32) (pl : Nat → Nat) (hpl : ∀ b, b < n → pl b < m b ∧ pk3 x1 x2 x3 b = nI (pl b)) {c : Nat} (hc : c < n) : ∀ d N p, p + d = m c → d < N → B_X1_leastWinning_11 uS (fun z205_5 z205_6 => (f_X0_worthAt (bk uS z205_5) z205_6).bind fun r206 => some r206) (some (0 : Int32)) N x1 x2 x3 (nI c) c (nI p) = some (iI (fw (Wc n hz hr pl c) (wo c) d p)) := by
  intro d
  induction d with
  | zero =>
    intro N p h1 h2
    obtain ⟨N, rfl⟩ : ∃ n', N = n' + 1 := ⟨N - 1, by omega⟩
    have hb := h.2.2.2 c (by have := h.2.1; omega)
    have hm := hb.1.2.1
    rw [B_X1_leastWinning_11, hb.2.1.1, if_leN (by omega) (by omega), if_pos (by omega)]
    rfl
  | succ d ih =>
    intro N p h1 h2
    obtain ⟨N, rfl⟩ : ∃ n', N = n' + 1 := ⟨N - 1, by omega⟩
    have hb := h.2.2.2 c (by have := h.2.1; omega)
    have hm := hb.1.2.1
    rw [B_X1_leastWinning_11, hb.2.1.1, if_leN (by omega) (by omega), if_neg (by omega), getsWith1 h x1 x2 x3 pl hpl hc (by omega), Option.bind_some]
    unfold fw
    by_cases e : Wc n hz hr pl c p = true
    · rw [if_pos e, if_pos e, if_neg one_ne, worthAt1 hb.2.1 hm (by omega), if_pos (by omega)]
      rfl
    · rw [if_neg e, if_neg e, if_pos rfl, nI_1]
      exact ih N (p + 1) (by omega) (by omega)
theorem leastWinning1 (h : relS uS n m wo we hz hr) (x1 x2 x3 : Int32) (pl : Nat → Nat) (hpl : ∀ b, b < n → pl b < m b ∧ pk3 x1 x2 x3 b = nI (pl b)) {c : Nat} (hc : c < n) : f_X1_leastWinning uS x1 x2 x3 (nI c) = some (iI (lw n m wo hz hr pl c)) := by
  have hn := h.2.1
  have hm := (h.2.2.2 c (by omega)).1.2.1
  unfold f_X1_leastWinning
  rw [bookOf1 _ (by omega), Option.bind_some]
  exact leastWinning1_loop h x1 x2 x3 pl hpl hc (m c) 1000 0 (by omega) (by omega)
theorem paid2_loop (h : relB uS m wo we hz hr) (hn : n ≤ 3) (pl : Nat → Nat) (hpl : ∀ b, b < n → pl b < m b) {c : Nat} (hc : c < n) {was : Nat} (hw : was < m c) (k : StM → Int32 → Int32 → Int32 → Option (Int32 × StM)) : ∀ j N (uM : StM), relM uM n m wo we → (∀ b, b < n → b ≠ c → m_place uM b = nI (pl b)) → j ≤ was + 1 → j < N → ∃ u', scr uM u' ∧ (∀ b, b < n → b ≠ c → m_place u' b = nI (pl b)) ∧ B_X2_paid_22 k N uM (nI c) (nI was) (iI (fw (Wc n hz hr pl c) (wo c) (was + 1 - j) j)) (iI ((j : Int) - 1)) = k u' (nI c) (nI was) (iI (fw (Wc n hz hr pl c) (wo c) (was + 1) 0)) := by
  intro j
  induction j with
  | zero =>
    intro N uM hM hP h1 h2
    obtain ⟨N, rfl⟩ : ∃ n', N = n' + 1 := ⟨N - 1, by omega⟩
    refine ⟨uM, scr_rf _, hP, ?_⟩
    rw [B_X2_paid_22, show (0 : Int32) = iI 0 from rfl, if_lt (by omega) (by omega), if_pos (by omega)]
    rfl
  | succ j ih =>
    intro N uM hM hP h1 h2
    obtain ⟨N, rfl⟩ : ∃ n', N = n' + 1 := ⟨N - 1, by omega⟩
    have hm := (h c (by omega)).1.2.1
    have e1 : iI (((j + 1 : Nat) : Int) - 1) = nI j := by rw [iI_nat]; congr 1; omega
    have e2 : nI j + (-1) = iI ((j : Int) - 1) := by rw [iI_nat, show (-1 : Int32) = iI (-1) from rfl, iI_add]; congr 1
    obtain ⟨u1, g1, g2, g3⟩ := getter2 (n := n) (uM := m_set_place uM (upd (m_place uM) c (nI j))) h hn (upN pl c j) (fun b hb => by
      by_cases e : b = c
      · subst e; rw [upN_c]; omega
      · rw [upN_n pl j e]; exact hpl b hb) hM (fun b hb => by
      show upd (m_place uM) c (nI j) b = _
      by_cases e : b = c
      · subst e; rw [upN_c, upd_eq]
      · rw [upN_n pl j e, upd_ne _ _ e]; exact hP b hb e)
    have hM1 : relM u1 n m wo we := relM_scr g1 hM
    have hP1 : ∀ b, b < n → b ≠ c → m_place u1 b = nI (pl b) := fun b hb e => by
      rw [g2]
      show upd (m_place uM) c (nI j) b = _
      rw [upd_ne _ _ e]; exact hP b hb e
    rw [B_X2_paid_22, e1, if_neg (nI_pos (by omega)), gdN (by omega) (by omega), cl (by omega), g3]
    simp only [Option.bind_some]
    obtain ⟨u2, q1, q2, q3⟩ := ih N u1 hM1 hP1 (by omega) (by omega)
    refine ⟨u2, scr_tr g1 q1, q2, ?_⟩
    rw [show was + 1 - j = (was + 1 - (j + 1)) + 1 by omega, fw_s (d := was + 1 - (j + 1)) (p := j)] at q3
    rw [← q3, e2]
    unfold Wc at *
    by_cases e : wn n hz hr (upN pl c j) = nI c
    · rw [if_pos e, if_pos (decide_eq_true e), ix5, gdN (by omega) (by omega), cl (by omega), ((hM1.2 c (by omega)).2 j (by omega)).1]
    · rw [if_neg e, if_neg (by simpa using e)]
theorem paid2 {uM : StM} (h : relB uS m wo we hz hr) (hn : n ≤ 3) (pl : Nat → Nat) (hpl : ∀ b, b < n → pl b < m b) (hM : relM uM n m wo we) (hP : ∀ b, b < n → m_place uM b = nI (pl b)) {c : Nat} (hc : c < n) : ∃ u', scr uM u' ∧ (∀ b, b < n → m_place u' b = nI (pl b)) ∧ f_X2_paid uM (nI c) = some (iI (if wn n hz hr pl = nI c then lw n m wo hz hr pl c else 0), u') := by
  obtain ⟨u1, g1, g2, g3⟩ := getter2 (n := n) h hn pl hpl hM hP
  have hm := (h c (by omega)).1.2.1
  have hpc := hpl c hc
  unfold f_X2_paid
  rw [g3]
  simp only [Option.bind_some]
  by_cases e : wn n hz hr pl = nI c
  · rw [if_pos e, if_pos e, gdN (by omega) (by omega), cl (by omega), g2, hP c hc]
    obtain ⟨u2, q1, q2, q3⟩ := paid2_loop h hn pl hpl hc hpc (fun z209_u z209_1 z209_2 z209_3 => if (z209_1 < 0 ∨ 3 ≤ z209_1.toNatClampNeg) then none else some (z209_3, (m_set_place z209_u (upd (m_place z209_u) z209_1.toNatClampNeg z209_2)))) (pl c + 1) 1000 u1 (relM_scr g1 hM) (fun b hb _ => by rw [g2]; exact hP b hb) (Nat.le_refl _) (by omega)
    refine ⟨m_set_place u2 (upd (m_place u2) c (nI (pl c))), scr_tr g1 q1, fun b hb => ?_, ?_⟩
    · show upd (m_place u2) c (nI (pl c)) b = _
      by_cases e : b = c
      · subst e; rw [upd_eq]
      · rw [upd_ne _ _ e]; exact q2 b hb e
    · rw [Nat.sub_self, show iI (((pl c + 1 : Nat) : Int) - 1) = nI (pl c) by rw [iI_nat]; congr 1; omega] at q3
      refine q3.trans ?_
      rw [gdN (by omega) (by omega), cl (by omega)]
      have hWc : Wc n hz hr pl c (pl c) = true := by
        unfold Wc
        rw [decide_eq_true_iff, ← e]
        exact wn_cong (fun b hb => by by_cases e2 : b = c; (subst e2; rw [upN_c]); rw [upN_n pl _ e2])
      have hf := fw_more (W := Wc n hz hr pl c) (v := wo c) (pl c + 1) 0 (m c - (pl c + 1)) ⟨pl c, by omega, by omega, hWc⟩
      rw [show pl c + 1 + (m c - (pl c + 1)) = m c by omega] at hf
      unfold lw
      rw [hf]
  · rw [if_neg e, if_neg e]
    exact ⟨u1, g1, fun b hb => by rw [g2]; exact hP b hb, rfl⟩
end PY
