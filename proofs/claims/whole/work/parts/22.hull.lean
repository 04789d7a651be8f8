def Hull (m : Nat) (wo we : Nat → Int) (i : Nat) (z r : Int) : Prop := ∃ p q, p ≤ i ∧ i < q ∧ q ≤ m ∧ z = ta m wo we p - ta m wo we q ∧ r = sh m we p - sh m we q ∧ ∀ t, t ≤ m → (ta m wo we t - ta m wo we q) * r ≤ z * (sh m we t - sh m we q)
section HL
variable {u : StB} {m : Nat} {wo we : Nat → Int}
/-- the least place with the greatest take -/
def isBest (m : Nat) (wo we : Nat → Int) (r : Nat) : Prop := r < m ∧ (∀ t, t < m → ta m wo we t ≤ ta m wo we r) ∧ ∀ t, t < r → ta m wo we t < ta m wo we r
theorem isBest_one {r r' : Nat} (h : isBest m wo we r) (h' : isBest m wo we r') : r = r' := by
  rcases Nat.lt_trichotomy r r' with q | q | q
  · have a1 := h'.2.2 r q
    have a2 := h.2.1 r' h'.1
    omega
  · exact q
  · have a1 := h.2.2 r' q
    have a2 := h'.2.1 r h.1
    omega
theorem bestPlace_loop (ok : okB m wo we) (hu : bkC u m wo we) (k : Int32 → Option Int32) : ∀ d n i b, i + d = m → d < n → b < i → (∀ t, t < i → ta m wo we t ≤ ta m wo we b) → (∀ t, t < b → ta m wo we t < ta m wo we b) → ∃ r, isBest m wo we r ∧ B_X0_bestPlace_4 u k n (nI b) (nI i) = k (nI r) := by
  intro d
  induction d with
  | zero =>
    intro n i b h1 h2 h3 h4 h5
    obtain ⟨n, rfl⟩ : ∃ n', n = n' + 1 := ⟨n - 1, by omega⟩
    have hm := ok.2.1
    refine ⟨b, ⟨by omega, fun t ht => h4 t (by omega), h5⟩, ?_⟩
    rw [B_X0_bestPlace_4, hu.1, if_leN (by omega) (by omega), if_pos (by omega)]
  | succ d ih =>
    intro n i b h1 h2 h3 h4 h5
    obtain ⟨n, rfl⟩ : ∃ n', n = n' + 1 := ⟨n - 1, by omega⟩
    have hm := ok.2.1
    have ti := ta_rng ok i
    have tb := ta_rng ok b
    rw [B_X0_bestPlace_4, hu.1, if_leN (by omega) (by omega), if_neg (by omega), take1 hu hm (by omega), take1 hu hm (by omega)]
    simp only [Option.bind_some]
    rw [if_le (by omega) (by omega), nI_1]
    by_cases hc : ta m wo we i ≤ ta m wo we b
    · rw [if_pos hc]
      refine ih n (i + 1) b (by omega) (by omega) (by omega) (fun t ht => ?_) h5
      by_cases e : t = i
      · subst e; exact hc
      · exact h4 t (by omega)
    · rw [if_neg hc]
      refine ih n (i + 1) i (by omega) (by omega) (by omega) (fun t ht => ?_) (fun t ht => ?_)
      · by_cases e : t = i
        · subst e; exact Int.le_refl _
        · have := h4 t (by omega); omega
      · have := h4 t (by omega); omega
theorem bestPlace1 (ok : okB m wo we) (hu : bkC u m wo we) : ∃ r, isBest m wo we r ∧ f_X0_bestPlace u = some (nI r) := by
  obtain ⟨r, h1, h2⟩ := bestPlace_loop ok hu (fun z => some z) (m - 1) 1000 1 0 (by have := ok.1; omega) (by have := ok.2.1; omega) (by omega) (fun t ht => by rw [show t = 0 by omega]; exact Int.le_refl _) (fun t ht => by omega)
  refine ⟨r, h1, ?_⟩
  unfold f_X0_bestPlace
  exact h2
theorem nextCorner_loop (ok : okB m wo we) (hu : bkC u m wo we) (k : Int32 → Option Int32) {q : Nat} (hq : q ≤ m) : ∀ j n b, j < n → j ≤ q → b < q → (∀ t, j ≤ t → t < q → (ta m wo we t - ta m wo we q) * (sh m we b - sh m we q) ≤ (ta m wo we b - ta m wo we q) * (sh m we t - sh m we q)) → ∃ p, p < q ∧ (∀ t, t < q → (ta m wo we t - ta m wo we q) * (sh m we p - sh m we q) ≤ (ta m wo we p - ta m wo we q) * (sh m we t - sh m we q)) ∧ B_X0_nextCorner_8 u k n (nI q) (nI b) (iI ((j : Int) - 1)) = k (nI p) := by
  intro j
  induction j with
  | zero =>
    intro n b hn hj hb hinv
    obtain ⟨n, rfl⟩ : ∃ n', n = n' + 1 := ⟨n - 1, by omega⟩
    refine ⟨b, hb, fun t ht => hinv t (by omega) ht, ?_⟩
    rw [B_X0_nextCorner_8, show (0 : Int32) = iI 0 from rfl, if_lt (by omega) (by omega), if_pos (by omega)]
  | succ j ih =>
    intro n b hn hj hb hinv
    obtain ⟨n, rfl⟩ : ∃ n', n = n' + 1 := ⟨n - 1, by omega⟩
    have hm := ok.2.1
    have e1 : iI (((j + 1 : Nat) : Int) - 1) = nI j := by rw [iI_nat]; congr 1; omega
    have e2 : nI j + (-1) = iI ((j : Int) - 1) := by rw [iI_nat, show (-1 : Int32) = iI (-1) from rfl, iI_add]; congr 1
    have tj := ta_rng ok j
    have tq := ta_rng ok q
    have tb := ta_rng ok b
    have sj := sh_rng ok j
    have sq := sh_rng ok q
    have sb := sh_rng ok b
    have b1 := mulab (a := ta m wo we j - ta m wo we q) (b := sh m we b - sh m we q) (A := 45000) (B := 45) (by omega) (by omega)
    have b2 := mulab (a := ta m wo we b - ta m wo we q) (b := sh m we j - sh m we q) (A := 45000) (B := 45) (by omega) (by omega)
    rw [B_X0_nextCorner_8, e1, if_neg (nI_pos (by omega)), take1 hu hm (by omega), take1 hu hm (by omega), share1 hu hm (by omega), share1 hu hm (by omega), take1 hu hm (by omega), share1 hu hm (by omega)]
    simp only [Option.bind_some, iI_sub]
    rw [iI_L (by omega), iI_L (by omega), iI_L (by omega), iI_L (by omega), iL_mul, iL_mul, if_clt (by omega) (by omega), e2]
    by_cases hc : (ta m wo we j - ta m wo we q) * (sh m we b - sh m we q) < (ta m wo we b - ta m wo we q) * (sh m we j - sh m we q)
    · rw [if_pos hc]
      refine ih n b (by omega) (by omega) hb (fun t ht htq => ?_)
      by_cases htj : t = j
      · subst htj; omega
      · exact hinv t (by omega) htq
    · rw [if_neg hc]
      refine ih n j (by omega) (by omega) (by omega) (fun t ht htq => ?_)
      by_cases htj : t = j
      · subst htj; exact Int.le_refl _
      · have g1 := sh_gt ok htq hq
        have g2 := sh_gt ok hb hq
        have g3 := sh_gt ok (i := j) (j := q) (by omega) hq
        exact cr_tr (by omega) (by omega) (by omega) (hinv t (by omega) htq) (Int.not_lt.mp hc)
theorem nextCorner1 (ok : okB m wo we) (hu : bkC u m wo we) {q : Nat} (hq : q ≤ m) (h0 : 0 < q) : ∃ p, p < q ∧ (∀ t, t < q → (ta m wo we t - ta m wo we q) * (sh m we p - sh m we q) ≤ (ta m wo we p - ta m wo we q) * (sh m we t - sh m we q)) ∧ f_X0_nextCorner u (nI q) = some (nI p) := by
  obtain ⟨p, h1, h2, h3⟩ := nextCorner_loop ok hu (fun z => some z) hq (q - 1) 1000 (q - 1) (by have := ok.2.1; omega) (by omega) (by omega) (fun t h1 h2 => by
    have e : t = q - 1 := by omega
    subst e; exact Int.le_refl _)
  refine ⟨p, h1, h2, ?_⟩
  unfold f_X0_nextCorner
  rw [show nI q - (1 : Int32) = nI (q - 1) from ?_, show nI q - (2 : Int32) = iI (((q - 1 : Nat) : Int) - 1) from ?_]
  · exact h3
  · rw [iI_nat, show (2 : Int32) = iI 2 from rfl, iI_sub]; congr 1; omega
  · rw [iI_nat, iI_nat, show (1 : Int32) = iI 1 from rfl, iI_sub]; congr 1; omega
/-- a line through a corner, over all takes -/
def Line (m : Nat) (wo we : Nat → Int) (q : Nat) (z r : Int) : Prop := 0 < r ∧ ∀ t, t ≤ m → (ta m wo we t - ta m wo we q) * r ≤ z * (sh m we t - sh m we q)
theorem line_next (ok : okB m wo we) {q p : Nat} (hq : q ≤ m) (hp : p < q) (hmax : ∀ t, t < q → (ta m wo we t - ta m wo we q) * (sh m we p - sh m we q) ≤ (ta m wo we p - ta m wo we q) * (sh m we t - sh m we q)) (hl : q = m ∨ ∃ z r, Line m wo we q z r) : Line m wo we q (ta m wo we p - ta m wo we q) (sh m we p - sh m we q) := by
  have g1 := sh_gt ok hp hq
  refine ⟨by omega, fun t ht => ?_⟩
  by_cases h1 : t < q
  · exact hmax t h1
  · by_cases h2 : t = q
    · subst h2; simp
    · rcases hl with rfl | ⟨z, r, hr, hL⟩
      · omega
      · have a1 := hL t ht
        have a2 := hL p (by omega)
        have g2 := sh_gt ok (i := q) (j := t) (by omega) ht
        -- (T) * r ≤ z * (- d), and P * r ≤ z * s : so T * s ≤ P * (- d)
        have b1 := Int.mul_le_mul_of_nonneg_right a1 (c := sh m we p - sh m we q) (by omega)
        have b2 := Int.mul_le_mul_of_nonneg_right a2 (c := sh m we q - sh m we t) (by omega)
        refine Int.le_of_mul_le_mul_right (a := r) ?_ hr
        generalize ta m wo we t - ta m wo we q = T at *
        generalize ta m wo we p - ta m wo we q = P at *
        have e0 : sh m we t - sh m we q = -(sh m we q - sh m we t) := by omega
        rw [e0] at b1 ⊢
        generalize sh m we q - sh m we t = d at *
        generalize sh m we p - sh m we q = S at *
        grind
theorem line_hull {q p i : Nat} (hL : Line m wo we q (ta m wo we p - ta m wo we q) (sh m we p - sh m we q)) (h1 : p ≤ i) (h2 : i < q) (h3 : q ≤ m) : Hull m wo we i (ta m wo we p - ta m wo we q) (sh m we p - sh m we q) := ⟨p, q, h1, h2, h3, rfl, rfl, hL.2⟩
/-- the line of a piece goes through its other end too -/
theorem line_move {q p : Nat} (hL : Line m wo we q (ta m wo we p - ta m wo we q) (sh m we p - sh m we q)) : Line m wo we p (ta m wo we p - ta m wo we q) (sh m we p - sh m we q) := by
  refine ⟨hL.1, fun t ht => ?_⟩
  have a := hL.2 t ht
  generalize ta m wo we t = T at *
  generalize ta m wo we p = P at *
  generalize ta m wo we q = Q at *
  generalize sh m we t = t' at *
  generalize sh m we p = p' at *
  generalize sh m we q = q' at *
  grind
abbrev irC (u : StB) (m : Nat) (wo we : Nat → Int) (j : Nat) : Prop := ∀ i, j ≤ i → i < m → ∃ z r, Hull m wo we i z r ∧ b_uppers u i = iI z ∧ b_lowers u i = iI r
theorem upd_eq (f : Nat → Int32) (i : Nat) (x : Int32) : upd f i x i = x := pk_us
theorem upd_ne (f : Nat → Int32) {i j : Nat} (x : Int32) (h : j ≠ i) : upd f i x j = f j := pk_un h
theorem iron_loop (ok : okB m wo we) (k : StB → Option StB) : ∀ j n (u : StB) q z r, bkC u m wo we → irC u m wo we j → j < n → q ≤ j → j ≤ m → (q = m ∨ ∃ q', q < q' ∧ q' ≤ m ∧ j ≤ q' ∧ z = ta m wo we q - ta m wo we q' ∧ r = sh m we q - sh m we q' ∧ Line m wo we q' z r) → ∃ u', bkC u' m wo we ∧ irC u' m wo we 0 ∧ B_X0_iron_17 k n u (nI q) (iI z) (iI r) (iI ((j : Int) - 1)) = k u' := by
  intro j
  induction j with
  | zero =>
    intro n u q z r hu hi hn hq hj hl
    obtain ⟨n, rfl⟩ : ∃ n', n = n' + 1 := ⟨n - 1, by omega⟩
    refine ⟨u, hu, hi, ?_⟩
    rw [B_X0_iron_17, show (0 : Int32) = iI 0 from rfl, if_lt (by omega) (by omega), if_pos (by omega)]
  | succ j ih =>
    intro n u q z r hu hi hn hq hj hl
    obtain ⟨n, rfl⟩ : ∃ n', n = n' + 1 := ⟨n - 1, by omega⟩
    have hm := ok.2.1
    have e1 : iI (((j + 1 : Nat) : Int) - 1) = nI j := by rw [iI_nat]; congr 1; omega
    have e2 : nI j + (-1) = iI ((j : Int) - 1) := by rw [iI_nat, show (-1 : Int32) = iI (-1) from rfl, iI_add]; congr 1
    -- the step behind the choice of the piece
    have fin : ∀ p z r, p ≤ j → (∃ q', p < q' ∧ q' ≤ m ∧ j < q' ∧ z = ta m wo we p - ta m wo we q' ∧ r = sh m we p - sh m we q' ∧ Line m wo we q' z r) → ∃ u', bkC u' m wo we ∧ irC u' m wo we 0 ∧ B_X0_iron_64 (B_X0_iron_17 k n) k u (nI p) (iI z) (iI r) (nI j) = k u' := by
      rintro p z r hp ⟨q', h1, h2, h3, h4, h5, h6⟩
      unfold B_X0_iron_64
      rw [gdN (by omega) (by omega), gdN (by omega) (by omega), cl (by omega), e2]
      refine ih n _ p z r ⟨hu.1, fun i hi => hu.2 i hi⟩ (fun i h7 h8 => ?_) (by omega) hp (by omega) (Or.inr ⟨q', h1, h2, by omega, h4, h5, h6⟩)
      show ∃ z2 r2, Hull m wo we i z2 r2 ∧ upd (b_uppers u) j (iI z) i = iI z2 ∧ upd (b_lowers u) j (iI r) i = iI r2
      by_cases e : i = j
      · subst e
        refine ⟨z, r, ?_, upd_eq _ _ _, upd_eq _ _ _⟩
        subst h4; subst h5
        exact line_hull h6 hp h3 h2
      · rw [upd_ne _ _ e, upd_ne _ _ e]
        exact hi i (by omega) h8
    rw [B_X0_iron_17, e1, if_neg (nI_pos (by omega)), if_leN (by omega) (by omega)]
    by_cases hc : q ≤ j
    · rw [if_pos hc]
      rcases hl with rfl | ⟨q', h1, h2, h3, h4, h5, h6⟩
      · omega
      · exact fin q z r hc ⟨q', h1, h2, by omega, h4, h5, h6⟩
    · rw [if_neg hc]
      obtain ⟨p, hp, hmax, hf⟩ := nextCorner1 ok hu (q := q) (by omega) (by omega)
      rw [hf]
      simp only [Option.bind_some]
      rw [take1 hu hm (by omega), take1 hu hm (by omega), share1 hu hm (by omega), share1 hu hm (by omega)]
      simp only [Option.bind_some, iI_sub]
      refine fin p _ _ (by omega) ⟨q, hp, by omega, by omega, rfl, rfl, line_next ok (by omega) hp hmax ?_⟩
      rcases hl with h | ⟨q', h1, h2, h3, h4, h5, h6⟩
      · exact Or.inl h
      · subst h4; subst h5
        exact Or.inr ⟨_, _, line_move h6⟩
theorem iron1 (ok : okB m wo we) (hu : bkC u m wo we) : ∃ u', bkC u' m wo we ∧ irC u' m wo we 0 ∧ f_X0_iron u = some u' := by
  obtain ⟨u', h1, h2, h3⟩ := iron_loop ok (fun z => some z) m 1000 u m 0 1 hu (fun i h1 h2 => by omega) (by have := ok.2.1; omega) (Nat.le_refl _) (Nat.le_refl _) (Or.inl rfl)
  refine ⟨u', h1, h2, ?_⟩
  unfold f_X0_iron
  rw [hu.1, show nI m - (1 : Int32) = iI ((m : Int) - 1) from by rw [iI_nat, show (1 : Int32) = iI 1 from rfl, iI_sub]]
  exact h3
end HL
