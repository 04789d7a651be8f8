abbrev relB (uS : StS) (m : Nat → Nat) (wo we hz hr : Nat → Nat → Int) : Prop := ∀ b, b < 3 → okB (m b) (wo b) (we b) ∧ bkC (bk uS b) (m b) (wo b) (we b) ∧ ∀ p, p < m b → Hull (m b) (wo b) (we b) p (hz b p) (hr b p) ∧ b_uppers (bk uS b) p = iI (hz b p) ∧ b_lowers (bk uS b) p = iI (hr b p)
abbrev relS (uS : StS) (n : Nat) (m : Nat → Nat) (wo we hz hr : Nat → Nat → Int) : Prop := 1 ≤ n ∧ n ≤ 3 ∧ s_buyerCount uS = nI n ∧ relB uS m wo we hz hr
abbrev relM (uM : StM) (n : Nat) (m : Nat → Nat) (wo we : Nat → Nat → Int) : Prop := m_n uM = nI n ∧ ∀ b, b < 3 → bkM uM b (m b) (wo b) (we b)
/-- the model's state but its scratch -/
def scr (u u' : StM) : Prop := m_trace u' = m_trace u ∧ m_n u' = m_n u ∧ m_many u' = m_many u ∧ m_worth u' = m_worth u ∧ m_weight u' = m_weight u ∧ m_reserve u' = m_reserve u ∧ m_samples u' = m_samples u ∧ m_sample u' = m_sample u
theorem scr_rf (u : StM) : scr u u := ⟨rfl, rfl, rfl, rfl, rfl, rfl, rfl, rfl⟩
theorem scr_tr {u v w : StM} (h : scr u v) (h' : scr v w) : scr u w := ⟨h'.1.trans h.1, h'.2.1.trans h.2.1, h'.2.2.1.trans h.2.2.1, h'.2.2.2.1.trans h.2.2.2.1, h'.2.2.2.2.1.trans h.2.2.2.2.1, h'.2.2.2.2.2.1.trans h.2.2.2.2.2.1, h'.2.2.2.2.2.2.1.trans h.2.2.2.2.2.2.1, h'.2.2.2.2.2.2.2.trans h.2.2.2.2.2.2.2⟩
theorem relM_scr {u v : StM} {n : Nat} {m : Nat → Nat} {wo we : Nat → Nat → Int} (h : scr u v) (hr : relM u n m wo we) : relM v n m wo we := by
  obtain ⟨h1, h2, h3, h4, h5, -⟩ := h
  refine ⟨by rw [h2]; exact hr.1, fun b hb => ?_⟩
  have q := hr.2 b hb
  refine ⟨by rw [h3]; exact q.1, fun i hi => ?_⟩
  rw [h4, h5]
  exact q.2 i hi
theorem scr_UL (u : StM) (U L : Int) : scr u (setUL u U L) := scr_rf u
def pk3 (x1 x2 x3 : Int32) (b : Nat) : Int32 := if b = 0 then x1 else if b = 1 then x2 else x3
theorem co3 {b : Nat} (h : b < 3) : b = 0 ∨ b = 1 ∨ b = 2 := by omega
theorem pick1 {b : Nat} (h : b < 3) (x1 x2 x3 : Int32) : f_X1_pick (nI b) x1 x2 x3 = some (pk3 x1 x2 x3 b) := by
  rcases co3 h with rfl | rfl | rfl <;> rfl
theorem bookOf1 (u : StS) {b : Nat} (h : b < 3) : f_X1_bookOf u (nI b) = some b := by
  rcases co3 h with rfl | rfl | rfl <;> rfl
/-- who wins: from buyer b on -/
def wl (z r : Nat → Int) : Nat → Nat → Int32 → Int → Int → Int32
  | 0, _, best, _, _ => best
  | d + 1, b, best, bu, bl => if z b * bl ≤ bu * r b then wl z r d (b + 1) best bu bl else wl z r d (b + 1) (nI b) (z b) (r b)
def wn (n : Nat) (hz hr : Nat → Nat → Int) (pl : Nat → Nat) : Int32 := wl (fun b => hz b (pl b)) (fun b => hr b (pl b)) n 0 (-9) 0 1
theorem wl_cong {z r z' r' : Nat → Int} : ∀ d b best bu bl, (∀ c, b ≤ c → c < b + d → z c = z' c ∧ r c = r' c) → wl z r d b best bu bl = wl z' r' d b best bu bl := by
  intro d
  induction d with
  | zero => intro b best bu bl h; rfl
  | succ d ih =>
    intro b best bu bl h
    have h0 := h b (by omega) (by omega)
    unfold wl
    rw [h0.1, h0.2, ih (b + 1) best bu bl (fun c h1 h2 => h c (by omega) (by omega)), ih (b + 1) (nI b) (z' b) (r' b) (fun c h1 h2 => h c (by omega) (by omega))]
theorem wn_cong {n : Nat} {hz hr : Nat → Nat → Int} {pl pl' : Nat → Nat} (h : ∀ b, b < n → pl b = pl' b) : wn n hz hr pl = wn n hz hr pl' := wl_cong n 0 _ _ _ (fun c _ h2 => by rw [h c (by omega)]; exact ⟨rfl, rfl⟩)
theorem wl_in {z r : Nat → Int} : ∀ d b best bu bl N, b + d ≤ N → (best = -9 ∨ ∃ c, c < N ∧ best = nI c) → (wl z r d b best bu bl = -9 ∨ ∃ c, c < N ∧ wl z r d b best bu bl = nI c) := by
  intro d
  induction d with
  | zero => intro b best bu bl N h1 h2; exact h2
  | succ d ih =>
    intro b best bu bl N h1 h2
    unfold wl
    split
    · exact ih _ _ _ _ N (by omega) h2
    · exact ih _ _ _ _ N (by omega) (Or.inr ⟨b, by omega, rfl⟩)
theorem wn_in (n : Nat) (hz hr : Nat → Nat → Int) (pl : Nat → Nat) : wn n hz hr pl = -9 ∨ ∃ c, c < n ∧ wn n hz hr pl = nI c := wl_in n 0 _ _ _ n (by omega) (Or.inl rfl)
section WN
variable {uS : StS} {n : Nat} {m : Nat → Nat} {wo we hz hr : Nat → Nat → Int}
theorem ironed1 (h : relB uS m wo we hz hr) {b p : Nat} (hb : b < 3) (hp : p < m b) : f_X0_ironedUpper (bk uS b) (nI p) = some (iL (hz b p)) ∧ f_X0_ironedLower (bk uS b) (nI p) = some (iL (hr b p)) := by
  obtain ⟨h1, h2, h3⟩ := h b hb
  obtain ⟨h4, h5, h6⟩ := h3 p hp
  have hp4 := hull_pos h1 h4
  have hm := h1.2.1
  unfold f_X0_ironedUpper f_X0_ironedLower
  constructor
  · rw [if_neg (nI_pos (by omega)), h2.1, if_leN (by omega) (by omega), if_neg (by omega), gdN (by omega) (by omega), cl (by omega), h5, iI_L (by omega)]
  · rw [if_neg (nI_pos (by omega)), h2.1, if_leN (by omega) (by omega), if_neg (by omega), gdN (by omega) (by omega), cl (by omega), h6, iI_L (by omega)]
theorem winner1_loop (h : relS uS n m wo we hz hr) (x1 x2 x3 : Int32) (pl : Nat → Nat) (hpl : ∀ b, b < n → pl b < m b ∧ pk3 x1 x2 x3 b = nI (pl b)) (k : Int32 → Option Int32) : ∀ d N b best bu bl, b + d = n → d < N → -45000 ≤ bu → bu ≤ 45000 → 0 < bl → bl ≤ 45 → B_X1_winner_13 uS k N x1 x2 x3 best (iL bu) (iL bl) (nI b) = k (wl (fun b => hz b (pl b)) (fun b => hr b (pl b)) d b best bu bl) := by
  intro d
  induction d with
  | zero =>
    intro N b best bu bl h1 h2 h3 h4 h5 h6
    obtain ⟨N, rfl⟩ : ∃ n', N = n' + 1 := ⟨N - 1, by omega⟩
    obtain ⟨g1, g2, g3, g4⟩ := h
    rw [B_X1_winner_13, g3, if_leN (by omega) (by omega), if_pos (by omega)]
    rfl
  | succ d ih =>
    intro N b best bu bl h1 h2 h3 h4 h5 h6
    obtain ⟨N, rfl⟩ : ∃ n', N = n' + 1 := ⟨N - 1, by omega⟩
    obtain ⟨g1, g2, g3, g4⟩ := id h
    obtain ⟨p1, p2⟩ := hpl b (by omega)
    obtain ⟨i1, i2⟩ := ironed1 g4 (b := b) (by omega) p1
    have hp := hull_pos (g4 b (by omega)).1 ((g4 b (by omega)).2.2 _ p1).1
    have b1 := mulab (a := hz b (pl b)) (b := bl) (A := 45000) (B := 45) (by omega) (by omega)
    have b2 := mulab (a := bu) (b := hr b (pl b)) (A := 45000) (B := 45) (by omega) (by omega)
    rw [B_X1_winner_13, g3, if_leN (by omega) (by omega), if_neg (by omega), pick1 (by omega), p2, bookOf1 _ (by omega)]
    simp only [Option.bind_some]
    rw [i1, i2]
    simp only [Option.bind_some]
    rw [iL_mul, iL_mul, if_cle (by omega) (by omega), nI_1]
    unfold wl
    split
    · exact ih N (b + 1) best bu bl (by omega) (by omega) h3 h4 h5 h6
    · exact ih N (b + 1) (nI b) _ _ (by omega) (by omega) (by omega) (by omega) (by omega) (by omega)
theorem winner1 (h : relS uS n m wo we hz hr) (x1 x2 x3 : Int32) (pl : Nat → Nat) (hpl : ∀ b, b < n → pl b < m b ∧ pk3 x1 x2 x3 b = nI (pl b)) : f_X1_winner uS x1 x2 x3 = some (wn n hz hr pl) := by
  unfold f_X1_winner
  exact winner1_loop h x1 x2 x3 pl hpl (fun z => some z) n 1000 0 (-9) 0 1 (by omega) (by have := h.2.1; omega) (by omega) (by omega) (by omega) (by omega)
theorem getter2_loop {uM : StM} (h : relB uS m wo we hz hr) (hn : n ≤ 3) (pl : Nat → Nat) (hpl : ∀ b, b < n → pl b < m b) (k : StM → Int32 → Option (Int32 × StM)) : ∀ d N b best bu bl up by_ (uM : StM), relM uM n m wo we → (∀ b, b < n → m_place uM b = nI (pl b)) → b + d = n → d < N → -45000 ≤ up → up ≤ 45000 → 0 < by_ → by_ ≤ 45 → 0 < bl → up * bl = bu * by_ → ∃ U L, B_X2_getter_11 k N uM best (iL up) (iL by_) (nI b) = k (setUL uM U L) (wl (fun b => hz b (pl b)) (fun b => hr b (pl b)) d b best bu bl) ∨ B_X2_getter_11 k N uM best (iL up) (iL by_) (nI b) = k uM (wl (fun b => hz b (pl b)) (fun b => hr b (pl b)) d b best bu bl) := by
  intro d
  induction d with
  | zero =>
    intro N b best bu bl up by_ uM hM hP h1 h2 h3 h4 h5 h6 h7 h8
    obtain ⟨N, rfl⟩ : ∃ n', N = n' + 1 := ⟨N - 1, by omega⟩
    refine ⟨0, 0, Or.inr ?_⟩
    rw [B_X2_getter_11, hM.1, if_leN (by omega) (by omega), if_pos (by omega)]
    rfl
  | succ d ih =>
    intro N b best bu bl up by_ uM hM hP h1 h2 h3 h4 h5 h6 h7 h8
    obtain ⟨N, rfl⟩ : ∃ n', N = n' + 1 := ⟨N - 1, by omega⟩
    obtain ⟨g1, g2, g3⟩ := h b (by omega)
    have p1 := hpl b (by omega)
    obtain ⟨U, L, f1, f2⟩ := irons2 g1 (b := b) (by omega) (hM.2 b (by omega)) p1
    have hH := (g3 _ p1).1
    have hp := hull_pos g1 hH
    have hq := frac_pos g1 f1
    have he := frac_hull g1 f1 hH
    have b1 := mulab (a := U) (b := by_) (A := 45000) (B := 45) (by omega) (by omega)
    have b2 := mulab (a := up) (b := L) (A := 45000) (B := 45) (by omega) (by omega)
    have key : U * by_ ≤ up * L ↔ hz b (pl b) * bl ≤ bu * hr b (pl b) := by
      have P1 : 0 < L * by_ := Int.mul_pos (by omega) (by omega)
      have P2 : 0 < hr b (pl b) * bl := Int.mul_pos (by omega) (by omega)
      have e1 : U * by_ * (hr b (pl b) * bl) = hz b (pl b) * bl * (L * by_) := by grind
      have e2 : up * L * (hr b (pl b) * bl) = bu * hr b (pl b) * (L * by_) := by grind
      constructor
      · intro q
        have := Int.mul_le_mul_of_nonneg_right q (Int.le_of_lt P2)
        rw [e1, e2] at this
        exact Int.le_of_mul_le_mul_right this P1
      · intro q
        have := Int.mul_le_mul_of_nonneg_right q (Int.le_of_lt P1)
        rw [← e1, ← e2] at this
        exact Int.le_of_mul_le_mul_right this P2
    rw [B_X2_getter_11, hM.1, if_leN (by omega) (by omega), if_neg (by omega), gdN (by omega) (by omega), cl (by omega), hP b (by omega), f2]
    simp only [Option.bind_some]
    rw [show m_upper (setUL uM U L) = iL U from rfl, show m_lower (setUL uM U L) = iL L from rfl, iL_mul, iL_mul, if_cle (by omega) (by omega), nI_1]
    unfold wl
    have hM' := relM_scr (scr_UL uM U L) hM
    by_cases hc : hz b (pl b) * bl ≤ bu * hr b (pl b)
    · rw [if_pos hc, if_pos (key.mpr hc)]
      obtain ⟨U', L', q | q⟩ := ih N (b + 1) best bu bl up by_ (setUL uM U L) hM' hP (by omega) (by omega) h3 h4 h5 h6 h7 h8
      · exact ⟨U', L', Or.inl q⟩
      · exact ⟨U, L, Or.inl q⟩
    · rw [if_neg hc, if_neg (fun q => hc (key.mp q))]
      obtain ⟨U', L', q | q⟩ := ih N (b + 1) (nI b) (hz b (pl b)) (hr b (pl b)) U L (setUL uM U L) hM' hP (by omega) (by omega) (by omega) (by omega) (by omega) (by omega) (by omega) he
      · exact ⟨U', L', Or.inl q⟩
      · exact ⟨U, L, Or.inl q⟩
theorem getter2 {uM : StM} (h : relB uS m wo we hz hr) (hn : n ≤ 3) (pl : Nat → Nat) (hpl : ∀ b, b < n → pl b < m b) (hM : relM uM n m wo we) (hP : ∀ b, b < n → m_place uM b = nI (pl b)) : ∃ u', scr uM u' ∧ m_place u' = m_place uM ∧ f_X2_getter uM = some (wn n hz hr pl, u') := by
  obtain ⟨U, L, q | q⟩ := getter2_loop (uM := uM) h hn pl hpl (fun u z => some (z, u)) n 1000 0 (-9) 0 1 0 1 uM hM hP (by omega) (by omega) (by omega) (by omega) (by omega) (by omega) (by omega) (by omega)
  · exact ⟨setUL uM U L, scr_UL _ _ _, rfl, q⟩
  · exact ⟨uM, scr_rf _, rfl, q⟩
end WN
