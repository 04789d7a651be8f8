abbrev bkM (u : StM) (b m : Nat) (wo we : Nat → Int) : Prop := m_many u b = nI m ∧ ∀ i, i < m → m_worth u (5 * b + i) = iI (wo i) ∧ m_weight u (5 * b + i) = iI (we i)
def setUL (u : StM) (U L : Int) : StM := m_set_lower (m_set_upper u (iL U)) (iL L)
section MD
variable {u : StM} {b m : Nat} {wo we : Nat → Int}
theorem share2_loop (hb : b < 3) (hu : bkM u b m wo we) (hm : m ≤ 5) (k : Int32 → Option Int32) : ∀ d n i acc, m ≤ i + d → d < n → i < 1000 → B_X2_share_5 u k n (nI b) (iI acc) (nI i) = k (iI (acc + sh m we i)) := by
  intro d
  induction d with
  | zero =>
    intro n i acc h1 h2 h3
    obtain ⟨n, rfl⟩ : ∃ n', n = n' + 1 := ⟨n - 1, by omega⟩
    rw [B_X2_share_5, gdN hb (by omega), cl (by omega), hu.1, if_leN (by omega) (by omega), if_pos (by omega), sh_ge we (by omega), Int.add_zero]
  | succ d ih =>
    intro n i acc h1 h2 h3
    obtain ⟨n, rfl⟩ : ∃ n', n = n' + 1 := ⟨n - 1, by omega⟩
    rw [B_X2_share_5, gdN hb (by omega), cl (by omega), hu.1, if_leN (by omega) (by omega)]
    by_cases h : m ≤ i
    · rw [if_pos h, sh_ge we (by omega), Int.add_zero]
    · rw [if_neg h, ix5, gdN (by omega) (by omega), cl (by omega), (hu.2 i (by omega)).2, iI_add, nI_1, ih _ _ _ (by omega) (by omega) (by omega), Int.add_assoc, ← sh_lt we (by omega)]
theorem share2 (hb : b < 3) (hu : bkM u b m wo we) (hm : m ≤ 5) {i : Nat} (hi : i < 900) : f_X2_share u (nI b) (nI i) = some (iI (sh m we i)) := by
  unfold f_X2_share
  rw [show (0 : Int32) = iI 0 from rfl, share2_loop hb hu hm _ 5 1000 i 0 (by omega) (by omega) (by omega), Int.zero_add]
theorem take2 (hb : b < 3) (hu : bkM u b m wo we) (hm : m ≤ 5) {i : Nat} (hi : i ≤ m) : f_X2_take u (nI b) (nI i) = some (iI (ta m wo we i)) := by
  unfold f_X2_take ta
  rw [gdN hb (by omega), cl (by omega), hu.1, if_eqN (by omega) (by omega)]
  by_cases h : i = m
  · rw [if_pos h, if_neg (by omega)]; rfl
  · rw [if_neg h, if_pos (show i < m by omega), ix5, gdN (by omega) (by omega), cl (by omega), share2 hb hu hm (by omega), (hu.2 i (by omega)).1]
    simp only [Option.bind_some, iI_mul]
theorem bestOf_loop (ok : okB m wo we) (hb : b < 3) (hu : bkM u b m wo we) (k : Int32 → Option Int32) : ∀ d n i c, i + d = m → d < n → c < i → (∀ t, t < i → ta m wo we t ≤ ta m wo we c) → (∀ t, t < c → ta m wo we t < ta m wo we c) → ∃ r, isBest m wo we r ∧ B_X2_bestOf_4 u k n (nI b) (nI c) (nI i) = k (nI r) := by
  intro d
  induction d with
  | zero =>
    intro n i c h1 h2 h3 h4 h5
    obtain ⟨n, rfl⟩ : ∃ n', n = n' + 1 := ⟨n - 1, by omega⟩
    have hm := ok.2.1
    refine ⟨c, ⟨by omega, fun t ht => h4 t (by omega), h5⟩, ?_⟩
    rw [B_X2_bestOf_4, gdN hb (by omega), cl (by omega), hu.1, if_leN (by omega) (by omega), if_pos (by omega)]
  | succ d ih =>
    intro n i c h1 h2 h3 h4 h5
    obtain ⟨n, rfl⟩ : ∃ n', n = n' + 1 := ⟨n - 1, by omega⟩
    have hm := ok.2.1
    have ti := ta_rng ok i
    have tb := ta_rng ok c
    rw [B_X2_bestOf_4, gdN hb (by omega), cl (by omega), hu.1, if_leN (by omega) (by omega), if_neg (by omega), take2 hb hu hm (by omega), take2 hb hu hm (by omega)]
    simp only [Option.bind_some]
    rw [if_le (by omega) (by omega), nI_1]
    by_cases hc : ta m wo we i ≤ ta m wo we c
    · rw [if_pos hc]
      refine ih n (i + 1) c (by omega) (by omega) (by omega) (fun t ht => ?_) h5
      by_cases e : t = i
      · subst e; exact hc
      · exact h4 t (by omega)
    · rw [if_neg hc]
      refine ih n (i + 1) i (by omega) (by omega) (by omega) (fun t ht => ?_) (fun t ht => ?_)
      · by_cases e : t = i
        · subst e; exact Int.le_refl _
        · have := h4 t (by omega); omega
      · have := h4 t (by omega); omega
theorem bestOf2 (ok : okB m wo we) (hb : b < 3) (hu : bkM u b m wo we) : ∃ r, isBest m wo we r ∧ f_X2_bestOf u (nI b) = some (nI r) := by
  obtain ⟨r, h1, h2⟩ := bestOf_loop ok hb hu (fun z => some z) (m - 1) 1000 1 0 (by have := ok.1; omega) (by have := ok.2.1; omega) (by omega) (fun t ht => by rw [show t = 0 by omega]; exact Int.le_refl _) (fun t ht => by omega)
  refine ⟨r, h1, ?_⟩
  unfold f_X2_bestOf
  exact h2
/-- of all places up to i: the steepest from f -/
def Steep (m : Nat) (wo we : Nat → Int) (i f : Nat) (U L : Int) : Prop := ∃ t0, t0 ≤ i ∧ U = ta m wo we t0 - ta m wo we f ∧ L = sh m we t0 - sh m we f ∧ ∀ t, t ≤ i → (ta m wo we t - ta m wo we f) * L ≤ U * (sh m we t - sh m we f)
/-- of all beginnings: the least of these -/
def FracM (m : Nat) (wo we : Nat → Int) (i : Nat) (U L : Int) : Prop := ∃ f, i < f ∧ f ≤ m ∧ Steep m wo we i f U L ∧ ∀ g, i < g → g ≤ m → ∃ U' L', Steep m wo we i g U' L' ∧ U * L' ≤ U' * L
theorem steep_pos (ok : okB m wo we) {i f : Nat} {U L : Int} (h : Steep m wo we i f U L) (h1 : i < f) (h2 : f ≤ m) : 0 < L ∧ L ≤ 45 ∧ -45000 ≤ U ∧ U ≤ 45000 := by
  obtain ⟨t0, a1, a2, a3, -⟩ := h
  have g := sh_gt ok (i := t0) (j := f) (by omega) h2
  have s1 := sh_rng ok t0
  have s2 := sh_rng ok f
  have s3 := ta_rng ok t0
  have s4 := ta_rng ok f
  omega
theorem irons_in (ok : okB m wo we) (hb : b < 3) (hu : bkM u b m wo we) {i f : Nat} (hi : i < m) (hf : i < f) (hfm : f ≤ m) (k : StM → Int32 → Int32 → Int32 → Int64 → Int64 → Option StM) : ∀ d n j U L, j + d = i + 1 → d < n → ((j = 0 ∧ L = 0 ∧ U = 0) ∨ (0 < j ∧ ∃ t0, t0 < j ∧ U = ta m wo we t0 - ta m wo we f ∧ L = sh m we t0 - sh m we f ∧ ∀ t, t < j → (ta m wo we t - ta m wo we f) * L ≤ U * (sh m we t - sh m we f))) → ∃ U' L', Steep m wo we i f U' L' ∧ B_X2_irons_33 k n u (nI b) (nI i) (nI f) (iL U) (iL L) (nI j) = k u (nI b) (nI i) (nI f) (iL U') (iL L') := by
  intro d
  induction d with
  | zero =>
    intro n j U L h1 h2 h3
    obtain ⟨n, rfl⟩ : ∃ n', n = n' + 1 := ⟨n - 1, by omega⟩
    have hm := ok.2.1
    rcases h3 with ⟨h3, -⟩ | ⟨-, t0, g1, g2, g3, g4⟩
    · omega
    · refine ⟨U, L, ⟨t0, by omega, g2, g3, fun t ht => g4 t (by omega)⟩, ?_⟩
      rw [B_X2_irons_33, if_ltN (by omega) (by omega), if_pos (by omega)]
  | succ d ih =>
    intro n j U L h1 h2 h3
    obtain ⟨n, rfl⟩ : ∃ n', n = n' + 1 := ⟨n - 1, by omega⟩
    have hm := ok.2.1
    have tj := ta_rng ok j
    have tf := ta_rng ok f
    have sj := sh_rng ok j
    have sf := sh_rng ok f
    have gj := sh_gt ok (i := j) (j := f) (by omega) hfm
    rw [B_X2_irons_33, if_ltN (by omega) (by omega), if_neg (by omega), take2 hb hu hm (by omega), take2 hb hu hm (by omega), share2 hb hu hm (by omega), share2 hb hu hm (by omega)]
    simp only [Option.bind_some, iI_sub]
    rw [iI_L (by omega), iI_L (by omega), nI_1, show (0 : Int64) = iL 0 from rfl]
    rcases h3 with ⟨h3, h4, h5⟩ | ⟨h3, t0, g1, g2, g3, g4⟩
    · subst h3; subst h4; subst h5
      rw [if_ceq (by omega) (by omega), if_pos rfl]
      refine ih n (0 + 1) _ _ (by omega) (by omega) (Or.inr ⟨by omega, 0, by omega, rfl, rfl, fun t ht => ?_⟩)
      rw [show t = 0 by omega]
      exact Int.le_refl _
    · have gt0 := sh_gt ok (i := t0) (j := f) (by omega) hfm
      have tt := ta_rng ok t0
      have st := sh_rng ok t0
      have b1 := mulab (a := ta m wo we j - ta m wo we f) (b := L) (A := 45000) (B := 45) (by omega) (by omega)
      have b2 := mulab (a := U) (b := sh m we j - sh m we f) (A := 45000) (B := 45) (by omega) (by omega)
      rw [if_ceq (by omega) (by omega), if_neg (by omega), iL_mul, iL_mul, if_cle (by omega) (by omega)]
      by_cases hc : (ta m wo we j - ta m wo we f) * L ≤ U * (sh m we j - sh m we f)
      · rw [if_pos hc]
        refine ih n (j + 1) _ _ (by omega) (by omega) (Or.inr ⟨by omega, t0, by omega, g2, g3, fun t ht => ?_⟩)
        by_cases e : t = j
        · subst e; exact hc
        · exact g4 t (by omega)
      · rw [if_neg hc]
        refine ih n (j + 1) _ _ (by omega) (by omega) (Or.inr ⟨by omega, j, by omega, rfl, rfl, fun t ht => ?_⟩)
        by_cases e : t = j
        · subst e; exact Int.le_refl _
        · have gt := sh_gt ok (i := t) (j := f) (by omega) hfm
          exact cr_tr (by omega) (d := L) (by omega) (by omega) (g4 t (by omega)) (Int.le_of_lt (Int.not_le.mp hc))
theorem irons_out (ok : okB m wo we) (hb : b < 3) (hu : bkM u b m wo we) {i : Nat} (hi : i < m) (k : StM → Option StM) : ∀ d n f U L, f + d = m + 1 → d < n → i < f → ((f = i + 1 ∧ L = 0 ∧ U = 0) ∨ (∃ f0, i < f0 ∧ f0 < f ∧ Steep m wo we i f0 U L ∧ ∀ g, i < g → g < f → ∃ U' L', Steep m wo we i g U' L' ∧ U * L' ≤ U' * L)) → ∃ U' L', FracM m wo we i U' L' ∧ B_X2_irons_14 k n (setUL u U L) (nI b) (nI i) (nI f) = k (setUL u U' L') := by
  intro d
  induction d with
  | zero =>
    intro n f U L h1 h2 h3 h4
    obtain ⟨n, rfl⟩ : ∃ n', n = n' + 1 := ⟨n - 1, by omega⟩
    have hm := ok.2.1
    rcases h4 with ⟨h4, -⟩ | ⟨f0, g1, g2, g3, g4⟩
    · omega
    · refine ⟨U, L, ⟨f0, g1, by omega, g3, fun g a1 a2 => g4 g a1 (by omega)⟩, ?_⟩
      rw [B_X2_irons_14, gdN hb (by omega), cl (by omega), show m_many (setUL u U L) = m_many u from rfl, hu.1, if_ltN (by omega) (by omega), if_pos (by omega)]
  | succ d ih =>
    intro n f U L h1 h2 h3 h4
    obtain ⟨n, rfl⟩ : ∃ n', n = n' + 1 := ⟨n - 1, by omega⟩
    have hm := ok.2.1
    rw [B_X2_irons_14, gdN hb (by omega), cl (by omega), show m_many (setUL u U L) = m_many u from rfl, hu.1, if_ltN (by omega) (by omega), if_neg (by omega)]
    obtain ⟨U1, L1, hs, he⟩ := irons_in (u := setUL u U L) ok hb hu hi h3 (by omega) (fun z210_u z210_1 z210_2 z210_3 z210_4 z210_6 => if (lg_cmp (m_lower z210_u) (0 : Int64)) = 0 then (B_X2_irons_14 k n) (m_set_lower (m_set_upper z210_u z210_4) z210_6) z210_1 z210_2 (z210_3 + 1) else if 0 ≤ (lg_cmp (z210_4 * (m_lower z210_u)) ((m_upper z210_u) * z210_6)) then (B_X2_irons_14 k n) z210_u z210_1 z210_2 (z210_3 + 1) else (B_X2_irons_14 k n) (m_set_lower (m_set_upper z210_u z210_4) z210_6) z210_1 z210_2 (z210_3 + 1)) (i + 1) 1000 0 0 0 (by omega) (by omega) (Or.inl ⟨rfl, rfl, rfl⟩)
    refine Exists.imp (fun U' => Exists.imp (fun L' => And.imp_right (fun h => he.trans h))) ?_
    have p1 := steep_pos ok hs h3 (by omega)
    show ∃ U' L', FracM m wo we i U' L' ∧ (if lg_cmp (iL L) (iL 0) = 0 then B_X2_irons_14 k n (setUL u U1 L1) (nI b) (nI i) (nI f + 1) else if 0 ≤ lg_cmp (iL U1 * iL L) (iL U * iL L1) then B_X2_irons_14 k n (setUL u U L) (nI b) (nI i) (nI f + 1) else B_X2_irons_14 k n (setUL u U1 L1) (nI b) (nI i) (nI f + 1)) = k (setUL u U' L')
    rw [nI_1]
    rcases h4 with ⟨h4, h5, h6⟩ | ⟨f0, g1, g2, g3, g4⟩
    · subst h5; subst h6
      rw [if_ceq (by omega) (by omega), if_pos rfl]
      refine ih n (f + 1) U1 L1 (by omega) (by omega) (by omega) (Or.inr ⟨f, h3, by omega, hs, fun g a1 a2 => ?_⟩)
      rw [show g = f by omega]
      exact ⟨U1, L1, hs, Int.le_refl _⟩
    · have p2 := steep_pos ok g3 g1 (by omega)
      have b1 := mulab (a := U1) (b := L) (A := 45000) (B := 45) (by omega) (by omega)
      have b2 := mulab (a := U) (b := L1) (A := 45000) (B := 45) (by omega) (by omega)
      rw [if_ceq (by omega) (by omega), if_neg (by omega), iL_mul, iL_mul, if_cge (by omega) (by omega)]
      by_cases hc : U * L1 ≤ U1 * L
      · rw [if_pos hc]
        refine ih n (f + 1) U L (by omega) (by omega) (by omega) (Or.inr ⟨f0, g1, by omega, g3, fun g a1 a2 => ?_⟩)
        by_cases e : g = f
        · rw [e]; exact ⟨U1, L1, hs, hc⟩
        · exact g4 g a1 (by omega)
      · rw [if_neg hc]
        refine ih n (f + 1) U1 L1 (by omega) (by omega) (by omega) (Or.inr ⟨f, h3, by omega, hs, fun g a1 a2 => ?_⟩)
        by_cases e : g = f
        · rw [e]; exact ⟨U1, L1, hs, Int.le_refl _⟩
        · obtain ⟨U', L', q1, q2⟩ := g4 g a1 (by omega)
          have p3 := steep_pos ok q1 a1 (by omega)
          exact ⟨U', L', q1, cr_tr (d := L) (c := U) (by omega) (by omega) (by omega) (by omega) q2⟩
theorem irons2 (ok : okB m wo we) (hb : b < 3) (hu : bkM u b m wo we) {i : Nat} (hi : i < m) : ∃ U L, FracM m wo we i U L ∧ f_X2_irons u (nI b) (nI i) = some (setUL u U L) := by
  obtain ⟨U, L, h1, h2⟩ := irons_out ok hb hu hi (fun z => some z) (m - i) 1000 (i + 1) 0 0 (by omega) (by have := ok.2.1; omega) (by omega) (Or.inl ⟨rfl, rfl, rfl⟩)
  refine ⟨U, L, h1, ?_⟩
  unfold f_X2_irons
  rw [show (1 : Int32) = nI 1 from rfl, nI_add]
  exact h2
/-- the model's fraction and the hull's are one -/
theorem frac_hull (ok : okB m wo we) {i : Nat} {U L z r : Int} (h1 : FracM m wo we i U L) (h2 : Hull m wo we i z r) : U * r = z * L := by
  obtain ⟨f, a1, a2, a3, a4⟩ := h1
  obtain ⟨p, q, b1, b2, b3, b4, b5, b6⟩ := h2
  have pL := steep_pos ok a3 a1 a2
  have gr := sh_gt ok (i := p) (j := q) (by omega) b3
  refine Int.le_antisymm ?_ ?_
  · obtain ⟨U', L', q1, q2⟩ := a4 q b2 b3
    have p3 := steep_pos ok q1 b2 b3
    obtain ⟨t0, c1, c2, c3, c4⟩ := q1
    have d := b6 t0 (by omega)
    rw [← c2, ← c3] at d
    exact cr_tr (c := U') (d := L') (by omega) (by omega) (by omega) q2 d
  · obtain ⟨t0, c1, c2, c3, c4⟩ := a3
    have d1 := c4 p b1
    have d2 := b6 f a2
    have g2 := sh_gt ok (i := p) (j := f) (by omega) a2
    have e1 : (ta m wo we p - ta m wo we f) * r ≥ z * (sh m we p - sh m we f) := by
      have x1 : (ta m wo we p - ta m wo we f) * r = (ta m wo we p - ta m wo we q) * r - (ta m wo we f - ta m wo we q) * r := by rw [← Int.sub_mul]; congr 1; omega
      have x2 : z * (sh m we p - sh m we f) = z * (sh m we p - sh m we q) - z * (sh m we f - sh m we q) := by rw [← Int.mul_sub]; congr 1; omega
      have x3 : (ta m wo we p - ta m wo we q) * r = z * (sh m we p - sh m we q) := by rw [← b4, ← b5]
      omega
    exact cr_tr (c := ta m wo we p - ta m wo we f) (d := sh m we p - sh m we f) (by omega) (by omega) (by omega) e1 d1
theorem hull_pos (ok : okB m wo we) {i : Nat} {z r : Int} (h : Hull m wo we i z r) : 0 < r ∧ r ≤ 45 ∧ -45000 ≤ z ∧ z ≤ 45000 := by
  obtain ⟨p, q, b1, b2, b3, b4, b5, b6⟩ := h
  have g := sh_gt ok (i := p) (j := q) (by omega) b3
  have s1 := sh_rng ok p
  have s2 := sh_rng ok q
  have s3 := ta_rng ok p
  have s4 := ta_rng ok q
  omega
theorem frac_pos (ok : okB m wo we) {i : Nat} {U L : Int} (h : FracM m wo we i U L) : 0 < L ∧ L ≤ 45 ∧ -45000 ≤ U ∧ U ≤ 45000 := by
  obtain ⟨f, a1, a2, a3, -⟩ := h
  exact steep_pos ok a3 a1 a2
end MD
