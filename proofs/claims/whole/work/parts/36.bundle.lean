section SL
variable {uS : StS} {uM : StM}
theorem st_slope (h : Rel uS uM) (x1 x2 x3 x4 : Int32) : ∃ v u', f_X1_slope uS x1 x2 x3 x4 = some v ∧ f_X2_slope uM x1 x2 x3 x4 = some (v, u') ∧ Rel uS u' := by
  have hR := h
  obtain ⟨n, m, wo, we, hz, hr, rs, cS, sv, h1, h2, h3, h4⟩ := h
  have hn := h1.2.1
  have hM := relM_scr (thr_scr uM) h2
  have hR' := Rel_scr (thr_scr uM) hR
  unfold f_X1_slope f_X2_slope
  generalize m_set_thrown uM (0 : Int32) = w at *
  rw [isBuyer1 h1, Option.bind_some, isBuyer2 hM hn, Option.bind_some]
  rcases inb01 0 ((n : Int) - 1) x1 with e | e
  case inr =>
    rw [e, if_pos rfl, if_pos rfl]
    exact ⟨_, _, rfl, rfl, hR'⟩
  obtain ⟨b, hb, rfl⟩ := inb_ix e
  have hB := h1.2.2.2 b (by omega)
  have hm := hB.1.2.1
  rw [e, if_neg one_ne, if_neg one_ne, bookOf1 _ (by omega), isPlace2 hM (by omega) hm]
  simp only [Option.bind_some]
  rw [has1 hB.2.1 hm]
  simp only [Option.bind_some]
  rcases inb01 0 ((m b : Int) - 1) x2 with e2 | e2
  case inr =>
    rw [e2, if_pos rfl, if_pos rfl]
    exact ⟨_, _, rfl, rfl, hR'⟩
  obtain ⟨i, hi, rfl⟩ := inb_ix e2
  have hMb := hM.2 b (by omega)
  rw [e2, if_neg one_ne, if_neg one_ne, isPart1, Option.bind_some, isPart2, Option.bind_some]
  rcases inb01 0 1 x4 with e3 | e3
  case inr =>
    rw [e3, if_pos rfl, if_pos rfl]
    exact ⟨_, _, rfl, rfl, hR'⟩
  rw [e3, if_neg one_ne, if_neg one_ne]
  by_cases h0 : x3 = 0
  · have ti := ta_rng hB.1 i
    have tj := ta_rng hB.1 (i + 1)
    have wi := hB.1.2.2 i hi
    have hq : q_ok (ta (m b) (wo b) (we b) i - ta (m b) (wo b) (we b) (i + 1)) (we b i) := by omega
    have e0 : f_X2_part (m_set_lower (m_set_upper w (iL (ta (m b) (wo b) (we b) i - ta (m b) (wo b) (we b) (i + 1)))) (iL (we b i))) (iL (ta (m b) (wo b) (we b) i - ta (m b) (wo b) (we b) (i + 1))) (iL (we b i)) x4 = _ := part2 _ hq x4
    rw [if_pos h0, if_pos h0, show nI i + (1 : Int32) = nI (i + 1) from nI_1 i, take1 hB.2.1 hm (by omega), Option.bind_some, take1 hB.2.1 hm (by omega), Option.bind_some, weightAt1 hB.2.1 hm (by omega), if_pos hi, Option.bind_some, iI_sub, iI_L (by omega), iI_L (by omega), part1 hq, Option.bind_some, take2 (by omega) hMb hm (by omega), Option.bind_some, take2 (by omega) hMb hm (by omega), Option.bind_some, ix5, gdN (by omega) (by omega), cl (by omega), iI_sub, iI_L (by omega)]
    refine ⟨_, m_set_lower (m_set_upper w (iL (ta (m b) (wo b) (we b) i - ta (m b) (wo b) (we b) (i + 1)))) (iL (we b i)), rfl, ?_, Rel_scr ⟨rfl, rfl, rfl, rfl, rfl, rfl, rfl, rfl⟩ hR'⟩
    show B_X2_slope_84 (m_set_lower (m_set_upper w _) (m_weight w (5 * b + i)).toInt64) x4 = _
    rw [(hMb.2 i hi).2, iI_L (by omega)]
    unfold B_X2_slope_84
    show (f_X2_part (m_set_lower (m_set_upper w _) (iL (we b i))) (iL (ta (m b) (wo b) (we b) i - ta (m b) (wo b) (we b) (i + 1))) (iL (we b i)) x4).bind _ = _
    rw [e0, Option.bind_some]
  · obtain ⟨U, L, f1, f2⟩ := irons2 hB.1 (b := b) (by omega) hMb hi
    have hH := (hB.2.2 i hi).1
    have hp := hull_pos hB.1 hH
    have hq := frac_pos hB.1 f1
    have he := frac_hull hB.1 f1 hH
    obtain ⟨i1, i2⟩ := ironed1 h1.2.2.2 (b := b) (by omega) hi
    rw [if_neg h0, if_neg h0, i1, Option.bind_some, i2, Option.bind_some, part1 (show q_ok (hz b i) (hr b i) by omega), Option.bind_some, f2, Option.bind_some]
    refine ⟨_, setUL w U L, rfl, ?_, Rel_scr (scr_UL w U L) hR'⟩
    unfold B_X2_slope_84
    show (f_X2_part (setUL w U L) (iL U) (iL L) x4).bind _ = _
    rw [part2 _ (show q_ok U L by omega), Option.bind_some, lp_eq (by omega) (by omega) he]
end SL
-- bundles
def prs (m1 m2 : Nat) (wo1 we1 wo2 we2 : Nat → Int) (s : Int) : Int := su (fun i => su (fun k => if wo1 i + wo2 k < s then 0 else we1 i * we2 k) 0 m2) 0 m1
theorem prs_rng {m1 m2 : Nat} {wo1 we1 wo2 we2 : Nat → Int} (o1 : okB m1 wo1 we1) (o2 : okB m2 wo2 we2) (s : Int) : 0 ≤ prs m1 m2 wo1 we1 wo2 we2 s ∧ prs m1 m2 wo1 we1 wo2 we2 s ≤ 2025 := by
  have hk : ∀ i, i < m1 → 0 ≤ su (fun k => if wo1 i + wo2 k < s then 0 else we1 i * we2 k) 0 m2 ∧ su (fun k => if wo1 i + wo2 k < s then 0 else we1 i * we2 k) 0 m2 ≤ 5 * 81 := fun i hi => by
    have r := su_rng (f := fun k => if wo1 i + wo2 k < s then 0 else we1 i * we2 k) (B := 81) m2 0 (fun k _ hk2 => by
      have r1 := o1.2.2 i hi
      have r2 := o2.2.2 k (by omega)
      have p1 := mulab (a := we1 i) (b := we2 k) (A := 9) (B := 9) (by omega) (by omega)
      have s1 := Int.mul_nonneg (show 0 ≤ we1 i by omega) (show 0 ≤ we2 k by omega)
      show 0 ≤ (if wo1 i + wo2 k < s then 0 else we1 i * we2 k) ∧ (if wo1 i + wo2 k < s then 0 else we1 i * we2 k) ≤ 81
      split <;> omega)
    have := o2.2.1
    omega
  have r := su_rng (f := fun i => su (fun k => if wo1 i + wo2 k < s then 0 else we1 i * we2 k) 0 m2) (B := 5 * 81) m1 0 (fun i _ hi => hk i (by omega))
  have := o1.2.1
  unfold prs
  omega
/-- the best sum and its product: over the second book's worths, then over the first's -/
def bin (P : Int → Int) (w1 : Int) (wo2 : Nat → Int) : Nat → Nat → Int → Int → Int × Int
  | 0, _, b, v => (b, v)
  | d + 1, k, b, v => if v < (w1 + wo2 k) * P (w1 + wo2 k) then bin P w1 wo2 d (k + 1) (w1 + wo2 k) ((w1 + wo2 k) * P (w1 + wo2 k)) else if (w1 + wo2 k) * P (w1 + wo2 k) = v then (if b ≤ w1 + wo2 k then bin P w1 wo2 d (k + 1) b v else bin P w1 wo2 d (k + 1) (w1 + wo2 k) ((w1 + wo2 k) * P (w1 + wo2 k))) else bin P w1 wo2 d (k + 1) b v
def bout (P : Int → Int) (m2 : Nat) (wo1 wo2 : Nat → Int) : Nat → Nat → Int → Int → Int × Int
  | 0, _, b, v => (b, v)
  | d + 1, i, b, v => bout P m2 wo1 wo2 d (i + 1) (bin P (wo1 i) wo2 m2 0 b v).1 (bin P (wo1 i) wo2 m2 0 b v).2
theorem bin_s (P : Int → Int) (w1 : Int) (wo2 : Nat → Int) (d k : Nat) (b v : Int) : bin P w1 wo2 (d + 1) k b v = if v < (w1 + wo2 k) * P (w1 + wo2 k) then bin P w1 wo2 d (k + 1) (w1 + wo2 k) ((w1 + wo2 k) * P (w1 + wo2 k)) else if (w1 + wo2 k) * P (w1 + wo2 k) = v then (if b ≤ w1 + wo2 k then bin P w1 wo2 d (k + 1) b v else bin P w1 wo2 d (k + 1) (w1 + wo2 k) ((w1 + wo2 k) * P (w1 + wo2 k))) else bin P w1 wo2 d (k + 1) b v := rfl
theorem bout_s (P : Int → Int) (m2 : Nat) (wo1 wo2 : Nat → Int) (d i : Nat) (b v : Int) : bout P m2 wo1 wo2 (d + 1) i b v = bout P m2 wo1 wo2 d (i + 1) (bin P (wo1 i) wo2 m2 0 b v).1 (bin P (wo1 i) wo2 m2 0 b v).2 := rfl
/-- what stands between: a sum that may be, its product; or nothing yet -/
def bsok (P : Int → Int) (b v : Int) : Prop := -9 ≤ b ∧ b ≤ 2000 ∧ ((v = -1) ∨ (0 ≤ b ∧ v = b * P b))
theorem bsok_v {P : Int → Int} (hP : ∀ s, 0 ≤ P s ∧ P s ≤ 2025) {b v : Int} (h : bsok P b v) : -1 ≤ v ∧ v ≤ 4050000 := by
  obtain ⟨h1, h2, h3 | ⟨h3, h4⟩⟩ := h
  · omega
  · have hb := hP b
    have p1 := mulab (a := b) (b := P b) (A := 2000) (B := 2025) (by omega) (by omega)
    have s1 := Int.mul_nonneg h3 hb.1
    omega
theorem bin_ok {P : Int → Int} {w1 : Int} {wo2 : Nat → Int} (h1 : 0 ≤ w1 ∧ w1 ≤ 1000) : ∀ d k b v, (∀ q, k ≤ q → q < k + d → 0 ≤ wo2 q ∧ wo2 q ≤ 1000) → bsok P b v → bsok P (bin P w1 wo2 d k b v).1 (bin P w1 wo2 d k b v).2 := by
  intro d
  induction d with
  | zero => intro k b v h2 h; exact h
  | succ d ih =>
    intro k b v h2 h
    have q := h2 k (by omega) (by omega)
    have hn : bsok P (w1 + wo2 k) ((w1 + wo2 k) * P (w1 + wo2 k)) := ⟨by omega, by omega, Or.inr ⟨by omega, rfl⟩⟩
    have g := fun b v hb => ih (k + 1) b v (fun q a1 a2 => h2 q (by omega) (by omega)) hb
    rw [bin_s]
    split
    · exact g _ _ hn
    · split
      · split
        · exact g _ _ h
        · exact g _ _ hn
      · exact g _ _ h
theorem bin_new {P : Int → Int} (hP : ∀ s, 0 ≤ P s ∧ P s ≤ 2025) {w1 : Int} {wo2 : Nat → Int} (h1 : 0 ≤ w1) {d : Nat} (h2 : 0 ≤ wo2 0) (b b' : Int) : bin P w1 wo2 (d + 1) 0 b (-1) = bin P w1 wo2 (d + 1) 0 b' (-1) := by
  have s1 := Int.mul_nonneg (show 0 ≤ w1 + wo2 0 by omega) (hP (w1 + wo2 0)).1
  rw [bin_s, bin_s, if_pos (by omega), if_pos (by omega)]
theorem bin_set {P : Int → Int} (hP : ∀ s, 0 ≤ P s ∧ P s ≤ 2025) {w1 : Int} {wo2 : Nat → Int} (h1 : 0 ≤ w1 ∧ w1 ≤ 1000) : ∀ d k b v, (∀ q, k ≤ q → q < k + d → 0 ≤ wo2 q ∧ wo2 q ≤ 1000) → (0 < d ∨ 0 ≤ v) → bsok P b v → 0 ≤ (bin P w1 wo2 d k b v).2 := by
  intro d
  induction d with
  | zero => intro k b v h2 h3 h; show 0 ≤ v; omega
  | succ d ih =>
    intro k b v h2 h3 h
    have q := h2 k (by omega) (by omega)
    have hn : bsok P (w1 + wo2 k) ((w1 + wo2 k) * P (w1 + wo2 k)) := ⟨by omega, by omega, Or.inr ⟨by omega, rfl⟩⟩
    have s1 := Int.mul_nonneg (show 0 ≤ w1 + wo2 k by omega) (hP (w1 + wo2 k)).1
    have hv := bsok_v hP h
    have g := fun b v h0 hb => ih (k + 1) b v (fun q a1 a2 => h2 q (by omega) (by omega)) (Or.inr h0) hb
    rw [bin_s]
    split
    · exact g _ _ s1 hn
    · split
      · split
        · exact g _ _ (by omega) h
        · exact g _ _ s1 hn
      · exact g _ _ (by omega) h
theorem bout_ok {P : Int → Int} (hP : ∀ s, 0 ≤ P s ∧ P s ≤ 2025) {m2 : Nat} {wo1 wo2 : Nat → Int} (h2 : ∀ q, q < m2 → 0 ≤ wo2 q ∧ wo2 q ≤ 1000) (hm2 : 0 < m2) : ∀ d i b v, (∀ q, i ≤ q → q < i + d → 0 ≤ wo1 q ∧ wo1 q ≤ 1000) → bsok P b v → (0 < d ∨ 0 ≤ v) → bsok P (bout P m2 wo1 wo2 d i b v).1 (bout P m2 wo1 wo2 d i b v).2 ∧ 0 ≤ (bout P m2 wo1 wo2 d i b v).2 := by
  intro d
  induction d with
  | zero => intro i b v h1 h h0; exact ⟨h, by show 0 ≤ v; omega⟩
  | succ d ih =>
    intro i b v h1 h h0
    rw [bout_s]
    exact ih (i + 1) _ _ (fun q a1 a2 => h1 q (by omega) (by omega)) (bin_ok (h1 i (by omega) (by omega)) m2 0 b v (fun q _ a2 => h2 q (by omega)) h) (Or.inr (bin_set hP (h1 i (by omega) (by omega)) m2 0 b v (fun q _ a2 => h2 q (by omega)) (Or.inl hm2) h))
