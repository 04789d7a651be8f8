theorem rb1 (u : StB) (x : Nat → Int32) : b_size (b_set_worths u x) = b_size u := Eq.trans rfl rfl
theorem rb2 (u : StB) (x : Nat → Int32) : b_size (b_set_weights u x) = b_size u := Eq.trans rfl rfl
theorem rb3 (u : StB) (x : Nat → Int32) : b_weights (b_set_worths u x) = b_weights u := Eq.trans rfl rfl
def addW (w : Nat → Int) (m : Nat) (z : Int) : Nat → Int := fun i => if i = m then z else w i
theorem add1 {u : StB} {m : Nat} {wo we : Nat → Int} (ok : okB m wo we) (hu : bkC u m wo we) (hm : m < 5) {z g : Int} (hz : 0 ≤ z ∧ z ≤ 1000) (hg : 1 ≤ g ∧ g ≤ 9) : ∃ u', okB (m + 1) (addW wo m z) (addW we m g) ∧ bkC u' (m + 1) (addW wo m z) (addW we m g) ∧ irC u' (m + 1) (addW wo m z) (addW we m g) 0 ∧ f_X0_add u (iI z) (iI g) = some u' := by
  have ok' : okB (m + 1) (addW wo m z) (addW we m g) := by
    refine ⟨by omega, by omega, fun i hi => ?_⟩
    unfold addW
    by_cases e : i = m
    · simp only [if_pos e]
      exact ⟨hz.1, hz.2, hg.1, hg.2⟩
    · simp only [if_neg e]
      exact ok.2.2 i (by omega)
  have hc : bkC (b_set_size (b_set_weights (b_set_worths u (upd (b_worths u) m (iI z))) (upd (b_weights u) m (iI g))) (nI m + 1)) (m + 1) (addW wo m z) (addW we m g) := by
    refine ⟨nI_1 m, fun i hi => ?_⟩
    show upd (b_worths u) m (iI z) i = iI (addW wo m z i) ∧ upd (b_weights u) m (iI g) i = iI (addW we m g i)
    unfold addW
    by_cases e : i = m
    · rw [if_pos e, if_pos e, e, upd_eq, upd_eq]
      exact ⟨rfl, rfl⟩
    · rw [if_neg e, if_neg e, upd_ne _ _ e, upd_ne _ _ e]
      exact hu.2 i (by omega)
  obtain ⟨u', h1, h2, h3⟩ := iron1 ok' hc
  refine ⟨u', ok', h1, h2, ?_⟩
  have gm : ¬ (nI m < 0 ∨ 5 ≤ (nI m).toNatClampNeg) := nI_in hm (by omega)
  unfold f_X0_add
  simp only [rb1, rb2, rb3]
  rw [hu.1, show (5 : Int32) = nI 5 from rfl, if_ltN (by omega) (by omega), if_pos hm, if_neg gm, if_neg gm, cl (by omega), h3, Option.bind_some]
theorem st_more {uS : StS} {uM : StM} (h : Rel uS uM) (x1 x2 x3 : Int32) : ∃ v uS' u', f_X1_more uS x1 x2 x3 = some (v, uS') ∧ f_X2_more uM x1 x2 x3 = some (v, u') ∧ Rel uS' u' := by
  have hR := h
  obtain ⟨n, m, wo, we, hz, hr, rs, cS, sv, h1, h2, h3, h4⟩ := h
  have hn := h1.2.1
  have hM := relM_scr (thr_scr uM) h2
  have hR' := Rel_scr (thr_scr uM) hR
  have hT := relT_scr (thr_scr uM) h4
  unfold f_X1_more f_X2_more
  generalize m_set_thrown uM (0 : Int32) = w at *
  rw [isBuyer1 h1, Option.bind_some, isBuyer2 hM hn, Option.bind_some]
  rcases inb01 0 ((n : Int) - 1) x1 with e | e
  case inr =>
    rw [e, if_pos rfl, if_pos rfl]
    exact ⟨_, _, _, rfl, rfl, hR'⟩
  obtain ⟨b, hb, rfl⟩ := inb_ix e
  rw [e, if_neg one_ne, if_neg one_ne, isWorth1, Option.bind_some, isWorth2, Option.bind_some]
  rcases inb_cases 0 1000 x2 with ⟨e2, a1, a2⟩ | ⟨e2, -⟩
  case inr =>
    rw [e2, if_pos rfl, if_pos rfl]
    exact ⟨_, _, _, rfl, rfl, hR'⟩
  rw [e2, if_neg one_ne, if_neg one_ne, isWeight1, Option.bind_some, isWeight2, Option.bind_some]
  rcases inb_cases 1 9 x3 with ⟨e3, a3, a4⟩ | ⟨e3, -⟩
  case inr =>
    rw [e3, if_pos rfl, if_pos rfl]
    exact ⟨_, _, _, rfl, rfl, hR'⟩
  have hb3 : b < 3 := by omega
  have hB := h1.2.2.2 b hb3
  have m1 := hB.1.1
  have m5 := hB.1.2.1
  have hMb := hM.2 b hb3
  have gb : ¬ (nI b < 0 ∨ 3 ≤ (nI b).toNatClampNeg) := nI_in hb3 (by omega)
  have eL : nI (5 * b + m b) - (1 : Int32) = nI (5 * b + (m b - 1)) := by
    rw [nI_m1, iI_nat]
    congr 1
    omega
  have gL : ¬ (nI (5 * b + (m b - 1)) < 0 ∨ 15 ≤ (nI (5 * b + (m b - 1))).toNatClampNeg) := nI_in (by omega) (by omega)
  have wl := hB.1.2.2 (m b - 1) (by omega)
  simp only [rw1, rw2, rw3, rw4]
  rw [e3, if_neg one_ne, if_neg one_ne, bookOf1 _ hb3, Option.bind_some]
  simp only [if_neg gb]
  rw [cl (show b < 2147483648 by omega), hMb.1, ix5, eL, if_neg gL, cl (show 5 * b + (m b - 1) < 2147483648 by omega), (hMb.2 (m b - 1) (by omega)).1, hB.2.1.1, nI_m1, show ((m b : Nat) : Int) - 1 = ((m b - 1 : Nat) : Int) by omega, ← iI_nat, worthAt1 hB.2.1 m5 (by omega), if_pos (by omega), Option.bind_some, ← iI_of x2, if_lt (by omega) (by omega), if_lt (by omega) (by omega)]
  by_cases c1 : wo b (m b - 1) < x2.toInt
  case neg =>
    rw [if_neg c1, if_neg c1]
    exact ⟨_, _, _, rfl, rfl, hR'⟩
  rw [if_pos c1, if_pos c1, show (5 : Int32) = nI 5 from rfl, if_ltN (by omega) (by omega), if_eqN (by omega) (by omega)]
  by_cases c2 : m b < 5
  case neg =>
    rw [if_neg c2, if_pos (by omega)]
    exact ⟨_, _, _, rfl, rfl, hR'⟩
  have gm : ¬ (nI (5 * b + m b) < 0 ∨ 15 ≤ (nI (5 * b + m b)).toNatClampNeg) := nI_in (by omega) (by omega)
  obtain ⟨u', k1, k2, k3, k4⟩ := add1 hB.1 hB.2.1 c2 (z := x2.toInt) (g := x3.toInt) ⟨a1, a2⟩ ⟨a3, a4⟩
  rw [iI_of x3] at k4
  rw [if_pos c2, k4, Option.bind_some, if_neg (show ¬ m b = 5 by omega)]
  simp only [if_neg gm]
  rw [cl (show 5 * b + m b < 2147483648 by omega)]
  obtain ⟨t1, t2, t3, t4, t5⟩ := setbk_rest uS hb3 u'
  refine ⟨nI (m b + 1), setbk uS b u', m_set_many (m_set_weight (m_set_worth w (upd (m_worth w) (5 * b + m b) (iI x2.toInt))) (upd (m_weight w) (5 * b + m b) x3)) (upd (m_many w) b (nI (m b + 1))), ?_, ?_, ?_⟩
  · rw [bk_setbk hb3 hb3, if_pos rfl, k2.1]
  · rw [nI_1, upd_eq]
  · refine ⟨n, va_up m b (m b + 1), va_up wo b (addW (wo b) (m b) x2.toInt), va_up we b (addW (we b) (m b) x3.toInt), _, _, rs, cS, sv, ⟨h1.1, hn, t1.trans h1.2.2.1, relB_set h1.2.2.2 hb3 k1 k2 k3⟩, ⟨hM.1, fun c hc => ?_⟩, fun c c1 c2 => ?_, relT_rest hT t2 t3 t4 t5 rfl rfl rfl rfl⟩
    · have q := hM.2 c hc
      have mc := (h1.2.2.2 c hc).1.2.1
      unfold va_up
      by_cases ec : c = b
      · simp only [if_pos ec]
        refine ⟨?_, fun i hi => ?_⟩
        · show upd (m_many w) b (nI (m b + 1)) c = nI (m b + 1)
          rw [ec, upd_eq]
        · show upd (m_worth w) (5 * b + m b) (iI x2.toInt) (5 * c + i) = iI (addW (wo b) (m b) x2.toInt i) ∧ upd (m_weight w) (5 * b + m b) x3 (5 * c + i) = iI (addW (we b) (m b) x3.toInt i)
          unfold addW
          by_cases ei : i = m b
          · rw [show 5 * c + i = 5 * b + m b by omega, upd_eq, upd_eq, if_pos ei, if_pos ei, iI_of x3]
            exact ⟨rfl, rfl⟩
          · rw [upd_ne _ _ (by omega), upd_ne _ _ (by omega), if_neg ei, if_neg ei, ec]
            exact hMb.2 i (by omega)
      · simp only [if_neg ec]
        refine ⟨?_, fun i hi => ?_⟩
        · show upd (m_many w) b (nI (m b + 1)) c = nI (m c)
          rw [upd_ne _ _ ec]; exact q.1
        · show upd (m_worth w) (5 * b + m b) (iI x2.toInt) (5 * c + i) = _ ∧ upd (m_weight w) (5 * b + m b) x3 (5 * c + i) = _
          rw [upd_ne _ _ (by omega), upd_ne _ _ (by omega)]
          exact q.2 i hi
    · unfold va_up
      rw [if_neg (by omega), if_neg (by omega), if_neg (by omega)]
      exact h3 c c1 c2
-- all books as at first
theorem renews2 (u : StM) : ∃ u', f_X2_renews u = some u' ∧ m_n u' = m_n u ∧ m_reserve u' = m_reserve u ∧ m_samples u' = m_samples u ∧ m_sample u' = m_sample u ∧ m_trace u' = m_trace u ∧ ∀ b, b < 3 → bkM u' b 1 (fun _ => 0) (fun _ => 1) := by
  have lp : ∀ d N b (u : StM), b + d = 3 → d < N → (∀ c, c < b → bkM u c 1 (fun _ => 0) (fun _ => 1)) → ∃ u', B_X2_renews_2 (fun z205_u => some z205_u) N u (nI b) = some u' ∧ m_n u' = m_n u ∧ m_reserve u' = m_reserve u ∧ m_samples u' = m_samples u ∧ m_sample u' = m_sample u ∧ m_trace u' = m_trace u ∧ ∀ b, b < 3 → bkM u' b 1 (fun _ => 0) (fun _ => 1) := by
    intro d
    induction d with
    | zero =>
      intro N b u h1 h2 h3
      obtain ⟨N, rfl⟩ : ∃ n', N = n' + 1 := ⟨N - 1, by omega⟩
      refine ⟨u, ?_, rfl, rfl, rfl, rfl, rfl, fun c hc => h3 c (by omega)⟩
      rw [B_X2_renews_2, show (3 : Int32) = nI 3 from rfl, if_leN (by omega) (by omega), if_pos (by omega)]
    | succ d ih =>
      intro N b u h1 h2 h3
      obtain ⟨N, rfl⟩ : ∃ n', N = n' + 1 := ⟨N - 1, by omega⟩
      have gb : ¬ (nI b < 0 ∨ 3 ≤ (nI b).toNatClampNeg) := nI_in (by omega) (by omega)
      have g5 : ¬ (nI (5 * b) < 0 ∨ 15 ≤ (nI (5 * b)).toNatClampNeg) := nI_in (by omega) (by omega)
      obtain ⟨u', k1, k2, k3, k4, k5, k6, k7⟩ := ih N (b + 1) (setM u (upd (m_many u) b 1) (upd (m_worth u) (5 * b) 0) (upd (m_weight u) (5 * b) 1)) (by omega) (by omega) (fun c hc => by
        refine ⟨?_, fun i hi => ?_⟩
        · show upd (m_many u) b 1 c = nI 1
          by_cases e : c = b
          · rw [e, upd_eq]; rfl
          · rw [upd_ne _ _ e]; exact (h3 c (by omega)).1
        · show upd (m_worth u) (5 * b) 0 (5 * c + i) = iI 0 ∧ upd (m_weight u) (5 * b) 1 (5 * c + i) = iI 1
          by_cases e : c = b
          · rw [show 5 * c + i = 5 * b by omega, upd_eq, upd_eq]; exact ⟨rfl, rfl⟩
          · rw [upd_ne _ _ (by omega), upd_ne _ _ (by omega)]; exact (h3 c (by omega)).2 i hi)
      refine ⟨u', ?_, k2, k3, k4, k5, k6, k7⟩
      rw [B_X2_renews_2, show (3 : Int32) = nI 3 from rfl, if_leN (by omega) (by omega), if_neg (by omega), cl5 (by omega)]
      simp only [rw4, rw5, rw6]
      rw [if_neg gb, if_neg g5, if_neg g5, cl (show b < 2147483648 by omega), cl (show 5 * b < 2147483648 by omega), nI_1]
      exact k1
  unfold f_X2_renews
  exact lp 3 1000 0 u (by omega) (by omega) (fun c hc => by omega)
theorem Rel_first {uS : StS} {uM : StM} {n : Nat} (h1 : 1 ≤ n) (h2 : n ≤ 3) (hS : s_buyerCount uS = nI n) (hM : m_n uM = nI n) (hb : ∀ b, b < 3 → bkC (bk uS b) 1 (fun _ => 0) (fun _ => 1) ∧ irC (bk uS b) 1 (fun _ => 0) (fun _ => 1) 0) (hm : ∀ b, b < 3 → bkM uM b 1 (fun _ => 0) (fun _ => 1)) {rs : Int} {cS : Nat} {sv : Nat → Int} (hT : relT uS uM rs cS sv) : Rel uS uM := by
  have ok : okB 1 (fun _ => 0) (fun _ => 1) := ⟨Nat.le_refl _, by omega, fun i hi => ⟨(by show (0 : Int) ≤ 0; omega), (by show (0 : Int) ≤ 1000; omega), (by show (1 : Int) ≤ 1; omega), (by show (1 : Int) ≤ 9; omega)⟩⟩
  exact ⟨n, fun _ => 1, fun _ _ => 0, fun _ _ => 1, fun b p => (b_uppers (bk uS b) p).toInt, fun b p => (b_lowers (bk uS b) p).toInt, rs, cS, sv, ⟨h1, h2, hS, fun b hb3 => ⟨ok, (hb b hb3).1, ir_fn ok (hb b hb3).2⟩⟩, ⟨hM, hm⟩, fun b _ _ => ⟨rfl, rfl, rfl⟩, hT⟩
theorem st_buyers {uS : StS} {uM : StM} (h : Rel uS uM) (x : Int32) : ∃ v uS' u', f_X1_buyers uS x = some (v, uS') ∧ f_X2_buyers uM x = some (v, u') ∧ Rel uS' u' := by
  have hR := h
  obtain ⟨n, m, wo, we, hz, hr, rs, cS, sv, h1, h2, h3, h4⟩ := h
  have hc : (if x < (1 : Int32) then some (0 : Int32) else if (3 : Int32) < x then some 0 else some 1) = some (inb 1 3 x) := in2 x (lo := 1) (hi := 3) (by omega) (by omega)
  have hi : f_X2_in x (1 : Int32) (3 : Int32) = some (inb 1 3 x) := in2 x (lo := 1) (hi := 3) (by omega) (by omega)
  unfold f_X1_buyers f_X2_buyers
  rw [hi, Option.bind_some]
  rcases inb_cases 1 3 x with ⟨e, a1, a2⟩ | ⟨e, a1⟩
  · obtain ⟨k, hk, rfl⟩ := nI_of_toInt (x := x) (m := 4) (by omega) (by omega)
    rw [nI_tI (by omega)] at a1 a2
    have c1 : ¬ nI k < (1 : Int32) := by rw [show (1 : Int32) = nI 1 from rfl, nI_ltI (by omega) (by omega)]; omega
    have c2 : nI k ≤ (3 : Int32) := by rw [show (3 : Int32) = nI 3 from rfl, nI_leI (by omega) (by omega)]; omega
    obtain ⟨b0, -, p1, p2, p3⟩ := begin1 (bk (s_set_buyerCount uS (nI k)) 0) (w := 0) (g := 1) (by omega) (by omega)
    obtain ⟨b1, -, q1, q2, q3⟩ := begin1 (bk (setbk (s_set_buyerCount uS (nI k)) 0 b0) 1) (w := 0) (g := 1) (by omega) (by omega)
    obtain ⟨b2, -, r1, r2, r3⟩ := begin1 (bk (setbk (setbk (s_set_buyerCount uS (nI k)) 0 b0) 1 b1) 2) (w := 0) (g := 1) (by omega) (by omega)
    rw [show iI 0 = (0 : Int32) from rfl, show iI 1 = (1 : Int32) from rfl] at p3 q3 r3
    obtain ⟨u', j1, j2, j3, j4, j5, j6, j7⟩ := renews2 (m_set_n (m_set_thrown uM (0 : Int32)) (nI k))
    rw [if_neg c1, if_pos c2, p3, Option.bind_some, q3, Option.bind_some, r3, Option.bind_some, e, if_neg one_ne, j1, Option.bind_some]
    refine ⟨s_buyerCount uS, setbk (setbk (setbk (s_set_buyerCount uS (nI k)) 0 b0) 1 b1) 2 b2, u', rfl, ?_, ?_⟩
    · show some (m_n uM, u') = _
      rw [h2.1, h1.2.2.1]
    · refine Rel_first (n := k) (by omega) (by omega) rfl (j2.trans rfl) (fun b hb => ?_) j7 (relT_rest h4 rfl rfl rfl rfl j3 j4 j5 j6)
      rcases co3 hb with rfl | rfl | rfl
      · exact ⟨p1, p2⟩
      · exact ⟨q1, q2⟩
      · exact ⟨r1, r2⟩
  · rw [e, if_pos rfl]
    have done : ∀ v : Option (Int32 × StS), v = some ((-1 : Int32), uS) → ∃ v1 uS' u', v = some (v1, uS') ∧ some ((-1 : Int32), m_set_thrown uM (0 : Int32)) = some (v1, u') ∧ Rel uS' u' := fun v hv => ⟨_, _, _, hv, rfl, Rel_scr (thr_scr uM) hR⟩
    by_cases c1 : x < (1 : Int32)
    · rw [if_pos c1]; exact done _ rfl
    · rw [if_neg c1]
      by_cases c2 : x ≤ (3 : Int32)
      · rw [Int32.lt_iff_toInt_lt] at c1
        rw [Int32.le_iff_toInt_le] at c2
        have d1 : ¬ x.toInt < 1 := c1
        have d2 : x.toInt ≤ 3 := c2
        omega
      · rw [if_neg c2]; exact done _ rfl
