theorem bout_new {P : Int → Int} (hP : ∀ s, 0 ≤ P s ∧ P s ≤ 2025) {m1 m2 : Nat} {wo1 wo2 : Nat → Int} (hm1 : 0 < m1) (hm2 : 0 < m2) (h1 : 0 ≤ wo1 0) (h2 : 0 ≤ wo2 0) (b b' : Int) : bout P m2 wo1 wo2 m1 0 b (-1) = bout P m2 wo1 wo2 m1 0 b' (-1) := by
  obtain ⟨d, rfl⟩ : ∃ d, m1 = d + 1 := ⟨m1 - 1, by omega⟩
  obtain ⟨e, rfl⟩ : ∃ e, m2 = e + 1 := ⟨m2 - 1, by omega⟩
  rw [bout_s, bout_s, bin_new hP h1 h2 b b']
theorem st_bundle {uS : StS} {uM : StM} (h : Rel uS uM) (x1 x2 x3 : Int32) : ∃ v u', f_X1_bundle uS x1 x2 x3 = some v ∧ f_X2_bundle uM x1 x2 x3 = some (v, u') ∧ Rel uS u' := by
  have hR := h
  obtain ⟨n, m, wo, we, hz, hr, rs, cS, sv, h1, h2, h3, h4⟩ := h
  have hn := h1.2.1
  have hM := relM_scr (thr_scr uM) h2
  have hR' := Rel_scr (thr_scr uM) hR
  unfold f_X1_bundle f_X2_bundle
  generalize m_set_thrown uM (0 : Int32) = w at *
  rw [isBuyer1 h1, Option.bind_some, isBuyer2 hM hn, Option.bind_some]
  rcases inb01 0 ((n : Int) - 1) x1 with e | e
  case inr =>
    rw [e, if_pos rfl, if_pos rfl]
    exact ⟨_, _, rfl, rfl, hR'⟩
  obtain ⟨b1, hb1, rfl⟩ := inb_ix e
  rw [e, if_neg one_ne, if_neg one_ne, isBuyer1 h1, Option.bind_some, isBuyer2 hM hn, Option.bind_some]
  rcases inb01 0 ((n : Int) - 1) x2 with e2 | e2
  case inr =>
    rw [e2, if_pos rfl, if_pos rfl]
    exact ⟨_, _, rfl, rfl, hR'⟩
  obtain ⟨b2, hb2, rfl⟩ := inb_ix e2
  rw [e2, if_neg one_ne, if_neg one_ne]
  by_cases hne : nI b1 = nI b2
  · rw [if_pos hne, if_pos hne]
    exact ⟨_, _, rfl, rfl, hR'⟩
  have hB1 := h1.2.2.2 b1 (by omega)
  have hB2 := h1.2.2.2 b2 (by omega)
  have hM1 := hM.2 b1 (by omega)
  have hM2 := hM.2 b2 (by omega)
  have hP := fun s => prs_rng hB1.1 hB2.1 s
  have w2 := fun q (hq : q < m b2) => (hB2.1.2.2 q hq)
  have w1 := fun q (hq : q < m b1) => (hB1.1.2.2 q hq)
  have m1p := hB1.1.1
  have m2p := hB2.1.1
  obtain ⟨ok, okv⟩ := bout_ok (P := prs (m b1) (m b2) (wo b1) (we b1) (wo b2) (we b2)) hP (m2 := m b2) (wo1 := wo b1) (wo2 := wo b2) (fun q hq => ⟨(w2 q hq).1, (w2 q hq).2.1⟩) (by omega) (m b1) 0 0 (-1) (fun q _ hq => ⟨(w1 q (by omega)).1, (w1 q (by omega)).2.1⟩) ⟨by omega, by omega, Or.inl rfl⟩ (Or.inl (by omega))
  have hnew := bout_new (P := prs (m b1) (m b2) (wo b1) (we b1) (wo b2) (we b2)) hP (m1 := m b1) (m2 := m b2) (wo1 := wo b1) (wo2 := wo b2) (by omega) (by omega) (w1 0 (by omega)).1 (w2 0 (by omega)).1 (-9) 0
  have hbs := bestSum1 hB1.1 hB2.1 hB1.2.1 hB2.2.1
  have e9 := fun kk => best2_out hB1.1 hB2.1 (by omega) (by omega) hM1 hM2 x3 kk (m b1) 1000 0 (-9) (-1) (by omega) (by have := hB1.1.2.1; omega) ⟨by omega, by omega, Or.inl rfl⟩
  rw [hnew] at e9
  rw [show iI (-9) = (-9 : Int32) from rfl, show iL (-1) = (-1 : Int64) from rfl, show nI 0 = (0 : Int32) from rfl] at e9
  obtain ⟨ok1, ok2, ok3⟩ := id ok
  have hv4 := bsok_v hP ok
  have hmul : (bout (prs (m b1) (m b2) (wo b1) (we b1) (wo b2) (we b2)) (m b2) (wo b1) (wo b2) (m b1) 0 0 (-1)).2 = (bout (prs (m b1) (m b2) (wo b1) (we b1) (wo b2) (we b2)) (m b2) (wo b1) (wo b2) (m b1) 0 0 (-1)).1 * prs (m b1) (m b2) (wo b1) (we b1) (wo b2) (we b2) (bout (prs (m b1) (m b2) (wo b1) (we b1) (wo b2) (we b2)) (m b2) (wo b1) (wo b2) (m b1) 0 0 (-1)).1 := by
    rcases ok3 with q | ⟨-, q⟩
    · omega
    · exact q
  generalize (bout (prs (m b1) (m b2) (wo b1) (we b1) (wo b2) (we b2)) (m b2) (wo b1) (wo b2) (m b1) 0 0 (-1)).1 = B at *
  generalize (bout (prs (m b1) (m b2) (wo b1) (we b1) (wo b2) (we b2)) (m b2) (wo b1) (wo b2) (m b1) 0 0 (-1)).2 = V at *
  have hpB := hP B
  rw [if_neg hne, if_neg hne, bookOf1 _ (by omega), Option.bind_some, bookOf1 _ (by omega), Option.bind_some, hbs, Option.bind_some, pairs1 hB1.1 hB2.1 hB1.2.1 hB2.2.1 (by omega), Option.bind_some, isKind2, Option.bind_some, e9]
  rcases inb01 0 2 x3 with e3 | e3
  · obtain ⟨w3, hw3, rfl⟩ := inb_ix (n := 3) (x := x3) e3
    rw [e3, if_neg one_ne]
    rcases co3 hw3 with rfl | rfl | rfl
    · rw [if_pos (by decide), if_neg (by decide), if_pos (by decide)]
      exact ⟨_, _, rfl, rfl, hR'⟩
    · rw [if_neg (by decide), if_pos (by decide), if_neg (by decide), if_neg (by decide), pairs2 hB1.1 hB2.1 (by omega) (by omega) hM1 hM2 (by omega)]
      exact ⟨_, _, rfl, rfl, hR'⟩
    · obtain ⟨r1, r2, k1, k2, k3⟩ := bothAlone1 hB1.1 hB2.1 hB1.2.1 hB2.2.1
      obtain ⟨r1', j1, j2⟩ := bestOf2 hB1.1 (b := b1) (by omega) hM1
      obtain ⟨r2', j3, j4⟩ := bestOf2 hB2.1 (b := b2) (by omega) hM2
      have er1 := isBest_one k1 j1
      have er2 := isBest_one k2 j3
      subst er1; subst er2
      have t1 := ta_rng hB1.1 r1
      have t2 := ta_rng hB2.1 r2
      have s1 := sh_rng hB1.1 0
      have s2 := sh_rng hB2.1 0
      have p1 := mulab (a := ta (m b1) (wo b1) (we b1) r1) (b := sh (m b2) (we b2) 0) (A := 45000) (B := 45) (by omega) (by omega)
      have p2 := mulab (a := ta (m b2) (wo b2) (we b2) r2) (b := sh (m b1) (we b1) 0) (A := 45000) (B := 45) (by omega) (by omega)
      rw [if_neg (by decide), if_neg (by decide), if_pos (by decide), if_pos (by decide), k3, Option.bind_some, iI_mul, iI_sub, signum1 (by omega), Option.bind_some, j2, Option.bind_some, take2 (by omega) hM1 hB1.1.2.1 (by have := j1.1; omega), Option.bind_some, show (0 : Int32) = nI 0 from rfl, share2 (by omega) hM2 hB2.1.2.1 (by omega), Option.bind_some, j4, Option.bind_some, take2 (by omega) hM2 hB2.1.2.1 (by have := j3.1; omega), Option.bind_some, share2 (by omega) hM1 hB1.1.2.1 (by omega), Option.bind_some, iI_L (by omega), iI_L (by omega), iI_L (by omega), iI_L (by omega), iL_mul, iL_mul, iL_add]
      refine ⟨_, w, rfl, ?_, hR'⟩
      rw [show nI 0 = (0 : Int32) from rfl, if_cle (by omega) (by omega), if_cge (by omega) (by omega)]
      by_cases c1 : V ≤ ta (m b1) (wo b1) (we b1) r1 * sh (m b2) (we b2) 0 + ta (m b2) (wo b2) (we b2) r2 * sh (m b1) (we b1) 0
      · rw [if_pos c1]
        by_cases c2 : ta (m b1) (wo b1) (we b1) r1 * sh (m b2) (we b2) 0 + ta (m b2) (wo b2) (we b2) r2 * sh (m b1) (we b1) 0 ≤ V
        · rw [if_pos c2, if_neg (by omega), if_pos (by omega)]
        · rw [if_neg c2, if_pos (by omega)]
      · rw [if_neg c1, if_neg (by omega), if_neg (by omega)]
  · have ne : ∀ c : Int32, 0 ≤ c.toInt → c.toInt ≤ 2 → ¬ x3 = c := by
      rintro c h1 h2 rfl
      rw [inb_pos ⟨h1, h2⟩] at e3
      exact absurd e3 (by decide)
    rw [e3, if_pos rfl, if_neg (ne 0 (by decide) (by decide)), if_neg (ne 1 (by decide) (by decide)), if_neg (ne 2 (by decide) (by decide))]
    exact ⟨_, _, rfl, rfl, hR'⟩
