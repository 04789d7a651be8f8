abbrev relT (uS : StS) (uM : StM) (rs : Int) (cS : Nat) (sv : Nat → Int) : Prop := 0 ≤ rs ∧ rs ≤ 1000 ∧ s_reservePrice uS = iI rs ∧ m_reserve uM = iI rs ∧ cS ≤ 12 ∧ s_sampleCount uS = nI cS ∧ m_samples uM = nI cS ∧ (∀ j, j < cS → 0 ≤ sv j ∧ sv j ≤ 1000 ∧ s_samples uS j = iI (sv j) ∧ m_sample uM j = iI (sv j)) ∧ m_trace uM = s_traced uS
abbrev relE (n : Nat) (m : Nat → Nat) (wo we : Nat → Nat → Int) : Prop := ∀ b, n ≤ b → b < 3 → m b = 1 ∧ wo b 0 = 0 ∧ we b 0 = 1
def Rel (uS : StS) (uM : StM) : Prop := ∃ n m wo we hz hr rs cS sv, relS uS n m wo we hz hr ∧ relM uM n m wo we ∧ relE n m wo we ∧ relT uS uM rs cS sv
theorem relT_scr {uS : StS} {u v : StM} {rs : Int} {cS : Nat} {sv : Nat → Int} (h : scr u v) (hr : relT uS u rs cS sv) : relT uS v rs cS sv := by
  obtain ⟨h1, h2, h3, h4, h5, h6, h7, h8⟩ := h
  obtain ⟨q1, q2, q3, q4, q5, q6, q7, q8, q9⟩ := hr
  refine ⟨q1, q2, q3, by rw [h6]; exact q4, q5, q6, by rw [h7]; exact q7, fun j hj => ?_, by rw [h1]; exact q9⟩
  rw [h8]
  exact q8 j hj
theorem Rel_scr {uS : StS} {u v : StM} (h : scr u v) (hr : Rel uS u) : Rel uS v := by
  obtain ⟨n, m, wo, we, hz, hr, rs, cS, sv, h1, h2, h3, h4⟩ := hr
  exact ⟨n, m, wo, we, hz, hr, rs, cS, sv, h1, relM_scr h h2, h3, relT_scr h h4⟩
theorem inb_ix {n : Nat} {x : Int32} (h : inb 0 ((n : Int) - 1) x = 1) : ∃ b, b < n ∧ x = nI b := by
  rcases inb_cases 0 ((n : Int) - 1) x with ⟨-, h1, h2⟩ | ⟨e, -⟩
  · obtain ⟨i, q1, q2⟩ := nI_of_toInt (m := n) h1 (by omega)
    exact ⟨i, by omega, q2⟩
  · rw [h] at e; exact absurd e (by decide)
theorem inb01 (lo hi : Int) (x : Int32) : inb lo hi x = 1 ∨ inb lo hi x = 0 := by
  rcases inb_cases lo hi x with ⟨h, -⟩ | ⟨h, -⟩
  · exact Or.inl h
  · exact Or.inr h
theorem th_scr (u : StM) : scr u (m_set_thrown u (0 : Int32)) := scr_rf u
theorem nI_m1 (n : Nat) : nI n - (1 : Int32) = iI ((n : Int) - 1) := by rw [iI_nat, show (1 : Int32) = iI 1 from rfl, iI_sub]
section PL
variable {uS : StS} {uM : StM} {n : Nat} {m : Nat → Nat} {wo we hz hr : Nat → Nat → Int}
theorem isBuyer1 (h : relS uS n m wo we hz hr) (x : Int32) : f_X1_isBuyer uS x = some (inb 0 ((n : Int) - 1) x) := by
  unfold f_X1_isBuyer
  rw [h.2.2.1]
  exact in1 x (by have := h.2.1; omega)
theorem isBuyer2 (h : relM uM n m wo we) (hn : n ≤ 3) (x : Int32) : f_X2_isBuyer uM x = some (inb 0 ((n : Int) - 1) x) := by
  unfold f_X2_isBuyer
  rw [h.1, nI_m1, show (0 : Int32) = iI 0 from rfl, in2 x (by omega) (by omega), Option.bind_some, if_pos (inb_and _ _ _)]
theorem isPlace2 (h : relM uM n m wo we) {b : Nat} (hb : b < 3) (hm : m b ≤ 5) (x : Int32) : f_X2_isPlace uM (nI b) x = some (inb 0 ((m b : Int) - 1) x) := by
  unfold f_X2_isPlace
  rw [gdN hb (by omega), cl (by omega), (h.2 b hb).1, nI_m1, show (0 : Int32) = iI 0 from rfl, in2 x (by omega) (by omega), Option.bind_some, if_pos (inb_and _ _ _)]
def allp (m : Nat → Nat) (X : Nat → Int32) : Nat → Nat → Int32
  | 0, _ => 1
  | d + 1, b => if inb 0 ((m b : Int) - 1) (X b) = 0 then 0 else allp m X d (b + 1)
theorem allp_s (m : Nat → Nat) (X : Nat → Int32) (d b : Nat) : allp m X (d + 1) b = if inb 0 ((m b : Int) - 1) (X b) = 0 then 0 else allp m X d (b + 1) := rfl
theorem allp_cases (m : Nat → Nat) (X : Nat → Int32) : ∀ d b, allp m X d b = 0 ∨ (allp m X d b = 1 ∧ ∀ c, b ≤ c → c < b + d → inb 0 ((m c : Int) - 1) (X c) = 1) := by
  intro d
  induction d with
  | zero => intro b; exact Or.inr ⟨rfl, fun c h1 h2 => by omega⟩
  | succ d ih =>
    intro b
    unfold allp
    rcases inb01 0 ((m b : Int) - 1) (X b) with e | e
    · rw [e, if_neg one_ne]
      rcases ih (b + 1) with q | ⟨q1, q2⟩
      · exact Or.inl q
      · refine Or.inr ⟨q1, fun c h1 h2 => ?_⟩
        by_cases ec : c = b
        · rw [ec]; exact e
        · exact q2 c (by omega) (by omega)
    · rw [e, if_pos rfl]; exact Or.inl rfl
/-- all places are there: as numbers -/
theorem allp_pl {X : Nat → Int32} (h : ∀ c, 0 ≤ c → c < 0 + n → inb 0 ((m c : Int) - 1) (X c) = 1) : ∃ pl : Nat → Nat, ∀ b, b < n → pl b < m b ∧ X b = nI (pl b) := by
  refine ⟨fun b => (X b).toInt.toNat, fun b hb => ?_⟩
  obtain ⟨i, q1, q2⟩ := inb_ix (h b (by omega) (by omega))
  have hx := Int32.toInt_lt (X b)
  rcases inb_cases 0 ((m b : Int) - 1) (X b) with ⟨-, h1, h2⟩ | ⟨e, -⟩
  · refine ⟨by show (X b).toInt.toNat < m b; omega, ?_⟩
    rw [iI_nat, Int.toNat_of_nonneg h1, iI_of]
  · rw [h b (by omega) (by omega)] at e; exact absurd e (by decide)
theorem arePlaces1_loop (h : relS uS n m wo we hz hr) (x1 x2 x3 : Int32) : ∀ d N b, b + d = n → d < N → B_X1_arePlaces_3 uS (some (0 : Int32)) (some (1 : Int32)) N x1 x2 x3 (nI b) = some (allp m (pk3 x1 x2 x3) d b) := by
  intro d
  have hn := h.2.1
  induction d with
  | zero =>
    intro N b h1 h2
    obtain ⟨N, rfl⟩ : ∃ n', N = n' + 1 := ⟨N - 1, by omega⟩
    rw [B_X1_arePlaces_3, h.2.2.1, if_leN (by omega) (by omega), if_pos (by omega)]
    rfl
  | succ d ih =>
    intro N b h1 h2
    obtain ⟨N, rfl⟩ : ∃ n', N = n' + 1 := ⟨N - 1, by omega⟩
    have hb := h.2.2.2 b (by omega)
    rw [B_X1_arePlaces_3, h.2.2.1, if_leN (by omega) (by omega), if_neg (by omega), bookOf1 _ (by omega), Option.bind_some, pick1 (by omega), Option.bind_some, has1 hb.2.1 hb.1.2.1, Option.bind_some, nI_1, ih N (b + 1) (by omega) (by omega)]
    rw [allp_s]
    split <;> rfl
theorem arePlaces1 (h : relS uS n m wo we hz hr) (x1 x2 x3 : Int32) : f_X1_arePlaces uS x1 x2 x3 = some (allp m (pk3 x1 x2 x3) n 0) := by
  unfold f_X1_arePlaces
  exact arePlaces1_loop h x1 x2 x3 n 1000 0 (by omega) (by have := h.2.1; omega)
theorem isPlaces2_loop (h : relM uM n m wo we) (hn : n ≤ 3) (hm : ∀ b, b < 3 → m b ≤ 5) (X : Nat → Int32) (hX : ∀ b, b < n → m_place uM b = X b) (k : StM → Int32 → Option (Int32 × StM)) : ∀ d N b acc, b + d = n → d < N → (acc = 0 ∨ acc = 1) → B_X2_isPlaces_27 k N uM acc (nI b) = k uM (if acc = 0 then 0 else allp m X d b) := by
  intro d
  induction d with
  | zero =>
    intro N b acc h1 h2 h3
    obtain ⟨N, rfl⟩ : ∃ n', N = n' + 1 := ⟨N - 1, by omega⟩
    rw [B_X2_isPlaces_27, h.1, if_leN (by omega) (by omega), if_pos (by omega)]
    rcases h3 with rfl | rfl
    · rw [if_pos rfl]
    · rw [if_neg one_ne]; rfl
  | succ d ih =>
    intro N b acc h1 h2 h3
    obtain ⟨N, rfl⟩ : ∃ n', N = n' + 1 := ⟨N - 1, by omega⟩
    rw [B_X2_isPlaces_27, h.1, if_leN (by omega) (by omega), if_neg (by omega), gdN (by omega) (by omega), cl (by omega), hX b (by omega), isPlace2 h (by omega) (hm b (by omega)), Option.bind_some, nI_1]
    rcases h3 with rfl | rfl
    · rw [show (0 : Int32) &&& inb 0 ((m b : Int) - 1) (X b) = 0 by rcases inb01 0 ((m b : Int) - 1) (X b) with e | e <;> rw [e] <;> decide, ih N (b + 1) 0 (by omega) (by omega) (Or.inl rfl), if_pos rfl, if_pos rfl]
    · rw [if_neg one_ne, allp_s]
      rcases inb01 0 ((m b : Int) - 1) (X b) with e | e
      · rw [e, show (1 : Int32) &&& 1 = 1 by decide, ih N (b + 1) 1 (by omega) (by omega) (Or.inr rfl), if_neg one_ne]
      · rw [e, show (1 : Int32) &&& 0 = 0 by decide, ih N (b + 1) 0 (by omega) (by omega) (Or.inl rfl), if_pos rfl]
theorem isPlaces2 (h : relM uM n m wo we) (hn : n ≤ 3) (hm : ∀ b, b < 3 → m b ≤ 5) (x1 x2 x3 : Int32) : ∃ u', scr uM u' ∧ (∀ b, b < 3 → m_place u' b = pk3 x1 x2 x3 b) ∧ f_X2_isPlaces uM x1 x2 x3 = some (allp m (pk3 x1 x2 x3) n 0, u') := by
  have hp : ∀ b, b < 3 → m_place (m_set_place uM (upd (upd (upd (m_place uM) 0 x1) 1 x2) 2 x3)) b = pk3 x1 x2 x3 b := by
    intro b hb
    rcases co3 hb with rfl | rfl | rfl
    · show upd (upd (upd (m_place uM) 0 x1) 1 x2) 2 x3 0 = x1
      rw [upd_ne _ _ (by decide), upd_ne _ _ (by decide), upd_eq]
    · show upd (upd (upd (m_place uM) 0 x1) 1 x2) 2 x3 1 = x2
      rw [upd_ne _ _ (by decide), upd_eq]
    · show upd (upd (upd (m_place uM) 0 x1) 1 x2) 2 x3 2 = x3
      rw [upd_eq]
  refine ⟨m_set_place uM (upd (upd (upd (m_place uM) 0 x1) 1 x2) 2 x3), scr_rf _, hp, ?_⟩
  unfold f_X2_isPlaces
  rw [if_neg (by decide), if_neg (by decide), if_neg (by decide)]
  refine (isPlaces2_loop (uM := m_set_place uM (upd (upd (upd (m_place uM) 0 x1) 1 x2) 2 x3)) h hn hm (pk3 x1 x2 x3) (fun b hb => hp b (by omega)) (fun z207_u z207_4 => if z207_4 &&& 1 = z207_4 then some (z207_4, z207_u) else none) n 1000 0 1 (by omega) (by omega) (Or.inr rfl)).trans ?_
  rw [if_neg one_ne]
  rcases allp_cases m (pk3 x1 x2 x3) n 0 with e | ⟨e, -⟩ <;> rw [e] <;> rfl
end PL
section PUB1
variable {uS : StS} {uM : StM}
theorem st_gets (h : Rel uS uM) (x1 x2 x3 : Int32) : ∃ v u', f_X1_gets uS x1 x2 x3 = some v ∧ f_X2_gets uM x1 x2 x3 = some (v, u') ∧ Rel uS u' := by
  have hR := h
  obtain ⟨n, m, wo, we, hz, hr, rs, cS, sv, h1, h2, h3, h4⟩ := h
  have hm : ∀ b, b < 3 → m b ≤ 5 := fun b hb => (h1.2.2.2 b hb).1.2.1
  obtain ⟨u1, g1, g2, g3⟩ := isPlaces2 (uM := m_set_thrown uM 0) h2 h1.2.1 hm x1 x2 x3
  unfold f_X1_gets f_X2_gets
  rw [arePlaces1 h1, g3]
  simp only [Option.bind_some]
  rcases allp_cases m (pk3 x1 x2 x3) n 0 with e | ⟨e, q⟩
  · rw [e, if_pos rfl, if_pos rfl]
    exact ⟨_, _, rfl, rfl, Rel_scr g1 hR⟩
  · obtain ⟨pl, hpl⟩ := allp_pl q
    obtain ⟨u2, k1, k2, k3⟩ := getter2 (uM := u1) h1.2.2.2 h1.2.1 pl (fun b hb => (hpl b hb).1) (relM_scr g1 h2) (fun b hb => by rw [g2 b (by have := h1.2.1; omega)]; exact (hpl b hb).2)
    rw [e, if_neg one_ne, if_neg one_ne, winner1 h1 x1 x2 x3 pl hpl, k3]
    exact ⟨_, _, rfl, rfl, Rel_scr (scr_tr g1 k1) hR⟩
theorem st_pays (h : Rel uS uM) (x1 x2 x3 x4 : Int32) : ∃ v u', f_X1_pays uS x1 x2 x3 x4 = some v ∧ f_X2_pays uM x1 x2 x3 x4 = some (v, u') ∧ Rel uS u' := by
  have hR := h
  obtain ⟨n, m, wo, we, hz, hr, rs, cS, sv, h1, h2, h3, h4⟩ := h
  have hm : ∀ b, b < 3 → m b ≤ 5 := fun b hb => (h1.2.2.2 b hb).1.2.1
  obtain ⟨u1, g1, g2, g3⟩ := isPlaces2 (uM := m_set_thrown uM 0) h2 h1.2.1 hm x1 x2 x3
  unfold f_X1_pays f_X2_pays
  rw [arePlaces1 h1, g3]
  simp only [Option.bind_some]
  rcases allp_cases m (pk3 x1 x2 x3) n 0 with e | ⟨e, q⟩
  · rw [e, if_pos rfl, if_pos rfl]
    exact ⟨_, _, rfl, rfl, Rel_scr g1 hR⟩
  · obtain ⟨pl, hpl⟩ := allp_pl q
    rw [e, if_neg one_ne, if_neg one_ne, isBuyer1 h1, isBuyer2 (relM_scr g1 h2) h1.2.1]
    simp only [Option.bind_some]
    rcases inb01 0 ((n : Int) - 1) x4 with eb | eb
    · obtain ⟨c, hc, rfl⟩ := inb_ix eb
      obtain ⟨u2, k1, k2, k3⟩ := paid2 (uM := u1) h1.2.2.2 h1.2.1 pl (fun b hb => (hpl b hb).1) (relM_scr g1 h2) (fun b hb => by rw [g2 b (by have := h1.2.1; omega)]; exact (hpl b hb).2) hc
      rw [eb, if_neg one_ne, if_neg one_ne, winner1 h1 x1 x2 x3 pl hpl, k3]
      simp only [Option.bind_some]
      refine ⟨_, _, ?_, rfl, Rel_scr (scr_tr g1 k1) hR⟩
      by_cases ew : wn n hz hr pl = nI c
      · rw [if_pos ew, if_pos ew, leastWinning1 h1 x1 x2 x3 pl hpl hc]; rfl
      · rw [if_neg ew, if_neg ew]; rfl
    · rw [eb, if_pos rfl, if_pos rfl]
      exact ⟨_, _, rfl, rfl, Rel_scr g1 hR⟩
theorem upN_upN (pl : Nat → Nat) (c p q : Nat) : upN (upN pl c p) c q = upN pl c q := by
  funext b
  unfold upN
  split <;> rfl
theorem lw_upN (n : Nat) (m : Nat → Nat) (wo hz hr : Nat → Nat → Int) (pl : Nat → Nat) (c t : Nat) : lw n m wo hz hr (upN pl c t) c = lw n m wo hz hr pl c := by
  unfold lw Wc
  congr 1
  funext p
  rw [upN_upN]
theorem st_gain (h : Rel uS uM) (x1 x2 x3 x4 x5 : Int32) : ∃ v u', f_X1_gain uS x1 x2 x3 x4 x5 = some v ∧ f_X2_gain uM x1 x2 x3 x4 x5 = some (v, u') ∧ Rel uS u' := by
  have hR := h
  obtain ⟨n, m, wo, we, hz, hr, rs, cS, sv, h1, h2, h3, h4⟩ := h
  have hm : ∀ b, b < 3 → m b ≤ 5 := fun b hb => (h1.2.2.2 b hb).1.2.1
  have hn := h1.2.1
  obtain ⟨u1, g1, g2, g3⟩ := isPlaces2 (uM := m_set_thrown uM 0) h2 h1.2.1 hm x1 x2 x3
  unfold f_X1_gain f_X2_gain
  rw [arePlaces1 h1, g3]
  simp only [Option.bind_some]
  rcases allp_cases m (pk3 x1 x2 x3) n 0 with e | ⟨e, q⟩
  · rw [e, if_pos rfl, if_pos rfl]
    exact ⟨_, _, rfl, rfl, Rel_scr g1 hR⟩
  obtain ⟨pl, hpl⟩ := allp_pl q
  have hM1 := relM_scr g1 h2
  rw [e, if_neg one_ne, if_neg one_ne, isBuyer1 h1, isBuyer2 hM1 h1.2.1]
  simp only [Option.bind_some]
  rcases inb01 0 ((n : Int) - 1) x4 with eb | eb
  case inr =>
    rw [eb, if_pos rfl, if_pos rfl]
    exact ⟨_, _, rfl, rfl, Rel_scr g1 hR⟩
  obtain ⟨c, hc, rfl⟩ := inb_ix eb
  have hb := h1.2.2.2 c (by omega)
  rw [eb, if_neg one_ne, if_neg one_ne, bookOf1 _ (by omega), isPlace2 hM1 (by omega) hb.1.2.1]
  simp only [Option.bind_some]
  rw [has1 hb.2.1 hb.1.2.1]
  simp only [Option.bind_some]
  rcases inb01 0 ((m c : Int) - 1) x5 with et | et
  case inr =>
    rw [et, if_pos rfl, if_pos rfl]
    exact ⟨_, _, rfl, rfl, Rel_scr g1 hR⟩
  obtain ⟨t, ht, rfl⟩ := inb_ix et
  have hpc := hpl c hc
  have hpm : m_place u1 c = nI (pl c) := by rw [g2 c (by omega)]; exact hpc.2
  have hmc := hm c (by omega)
  obtain ⟨u2, k1, k2, k3⟩ := getter2 (n := n) (uM := m_set_place u1 (upd (m_place u1) c (nI t))) h1.2.2.2 hn (upN pl c t) (fun b hb => by
      by_cases e : b = c
      · subst e; rw [upN_c]; exact ht
      · rw [upN_n pl t e]; exact (hpl b hb).1) hM1 (fun b hb => by
      show upd (m_place u1) c (nI t) b = _
      by_cases e : b = c
      · subst e; rw [upN_c, upd_eq]
      · rw [upN_n pl t e, upd_ne _ _ e, g2 b (by omega)]; exact (hpl b hb).2)
  have hM2 : relM u2 n m wo we := relM_scr k1 hM1
  have gc : ¬ (nI c < 0 ∨ 3 ≤ c) := by
    have := nI_in (c := c) (N := 3) (by omega) (by omega)
    rw [cl (by omega)] at this
    exact this
  rw [et, if_neg one_ne, if_neg one_ne, getsWith1 h1 x1 x2 x3 pl hpl hc ht, gdN (by omega) (by omega), cl (by omega), hpm, ix5, gdN (by omega) (by omega), if_neg gc, k3]
  simp only [Option.bind_some]
  by_cases ew : wn n hz hr (upN pl c t) = nI c
  · have hW : Wc n hz hr pl c t = true := decide_eq_true ew
    obtain ⟨u3, l1, l2, l3⟩ := paid2 (uM := u2) h1.2.2.2 hn (upN pl c t) (fun b hb => by
      by_cases e : b = c
      · subst e; rw [upN_c]; exact ht
      · rw [upN_n pl t e]; exact (hpl b hb).1) hM2 (fun b hb => by
      rw [k2]
      show upd (m_place u1) c (nI t) b = _
      by_cases e : b = c
      · subst e; rw [upN_c, upd_eq]
      · rw [upN_n pl t e, upd_ne _ _ e, g2 b (by omega)]; exact (hpl b hb).2) hc
    rw [if_pos hW, if_neg one_ne, if_pos ew, l3, if_pos ew, lw_upN, pick1 (by omega), hpc.2]
    simp only [Option.bind_some]
    rw [cl (by omega), worthAt1 hb.2.1 hmc (by omega), if_pos hpc.1, leastWinning1 h1 x1 x2 x3 pl hpl hc, ((hM1.2 c (by omega)).2 _ hpc.1).1]
    exact ⟨_, _, rfl, rfl, Rel_scr (scr_tr g1 (scr_tr k1 l1)) hR⟩
  · have hW : ¬ Wc n hz hr pl c t = true := by unfold Wc; simpa using ew
    rw [if_neg hW, if_pos rfl, if_neg ew]
    exact ⟨_, _, rfl, rfl, Rel_scr (scr_tr g1 k1) hR⟩
end PUB1
