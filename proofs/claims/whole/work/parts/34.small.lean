theorem isPart2 (x : Int32) : f_X2_in x (0 : Int32) (1 : Int32) = some (inb 0 1 x) := in2 x (lo := 0) (hi := 1) (by omega) (by omega)
theorem isKind2 (x : Int32) : f_X2_in x (0 : Int32) (2 : Int32) = some (inb 0 2 x) := in2 x (lo := 0) (hi := 2) (by omega) (by omega)
theorem isWorth2 (x : Int32) : f_X2_in x (0 : Int32) (1000 : Int32) = some (inb 0 1000 x) := in2 x (lo := 0) (hi := 1000) (by omega) (by omega)
theorem isWeight2 (x : Int32) : f_X2_in x (1 : Int32) (9 : Int32) = some (inb 1 9 x) := in2 x (lo := 1) (hi := 9) (by omega) (by omega)
theorem thr_scr (u : StM) : scr u (m_set_thrown u (0 : Int32)) := ⟨rfl, rfl, rfl, rfl, rfl, rfl, rfl, rfl⟩
section SM
variable {uS : StS} {uM : StM}
theorem st_brings (h : Rel uS uM) (x : Int32) : ∃ v u', f_X1_brings uS x = some v ∧ f_X2_brings uM x = some (v, u') ∧ Rel uS u' := by
  have hR := h
  obtain ⟨n, m, wo, we, hz, hr, rs, cS, sv, h1, h2, h3, h4⟩ := h
  have hn := h1.2.1
  unfold f_X1_brings f_X2_brings
  rw [isPart1, Option.bind_some, isPart2, Option.bind_some]
  rcases inb01 0 1 x with e | e
  · have hm1 := mean1 h1 3 x (fun i j k => valB n m wo hz hr (pl3 i j k)) (fun i j k hi hj hk => paidAt_best h1 hi hj hk)
    obtain ⟨u1, g1, g2⟩ := brings2_out h1.2.2.2 h1.1 hn h3 x (fun z309_u z309_1 z309_2 => (f_X2_all z309_u).bind fun r310 => (f_X2_part z309_u z309_2 ((r310).toInt64) z309_1).bind fun r311 => some (r311, z309_u)) 125 1000 0 0 (m_set_thrown uM (0 : Int32)) (relM_scr (thr_scr uM) h2) (by omega) (by omega)
    rw [S125 h1.2.2.2 (fun i j k => valB n m wo hz hr (pl3 i j k)), Int.zero_add] at g2
    have s0 := S3_rng h1.2.2.2 (fun i j k => valB n m wo hz hr (pl3 i j k)) (fun i j k hi hj hk => (paidAt_best h1 hi hj hk).2)
    have d0 := D3_rng h1.2.2.2
    have hq : q_ok (S3 m we (fun i j k => valB n m wo hz hr (pl3 i j k))) (D3 m we) := by omega
    rw [e, if_neg one_ne, if_neg one_ne, hm1, Option.bind_some]
    refine ⟨_, u1, rfl, g2.trans ?_, Rel_scr (scr_tr (thr_scr uM) g1) hR⟩
    show ((f_X2_all u1).bind fun r310 => (f_X2_part u1 (iL (S3 m we (fun i j k => valB n m wo hz hr (pl3 i j k)))) ((r310).toInt64) x).bind fun r311 => some (r311, u1)) = _
    rw [all2 h1.2.2.2 h1.1 hn h3 (relM_scr (scr_tr (thr_scr uM) g1) h2), Option.bind_some, iI_L (by omega), part2 u1 hq, Option.bind_some]
  · rw [e, if_pos rfl, if_pos rfl]
    exact ⟨_, _, rfl, rfl, Rel_scr (thr_scr uM) hR⟩
theorem st_average (h : Rel uS uM) (x1 x2 : Int32) : ∃ v u', f_X1_average uS x1 x2 = some v ∧ f_X2_average uM x1 x2 = some (v, u') ∧ Rel uS u' := by
  have hR := h
  obtain ⟨n, m, wo, we, hz, hr, rs, cS, sv, h1, h2, h3, h4⟩ := h
  have hn := h1.2.1
  unfold f_X1_average f_X2_average
  rw [isKind1, Option.bind_some, isKind2, Option.bind_some]
  rcases inb01 0 2 x1 with ek | ek
  case inr =>
    rw [ek, if_pos rfl, if_pos rfl]
    exact ⟨_, _, rfl, rfl, Rel_scr (thr_scr uM) hR⟩
  rw [ek, if_neg one_ne, if_neg one_ne, isPart1, Option.bind_some, isPart2, Option.bind_some]
  rcases inb01 0 1 x2 with e | e
  case inr =>
    rw [e, if_pos rfl, if_pos rfl]
    exact ⟨_, _, rfl, rfl, Rel_scr (thr_scr uM) hR⟩
  obtain ⟨kd, hkd, rfl⟩ := inb_ix (n := 3) (x := x1) ek
  have hpv := fun i j k hi hj hk => paidAt_kind (i := i) (j := j) (k := k) h1 h4.2.2.1 ⟨h4.1, h4.2.1⟩ hkd hi hj hk
  have hm1 := mean1 h1 (nI kd) x2 (fun i j k => valK n wo rs kd (pl3 i j k)) hpv
  obtain ⟨u1, g1, g2⟩ := average2_out h1.2.2.2 h1.1 hn h3 ⟨h4.1, h4.2.1⟩ hkd x2 (fun z315_u z315_2 z315_3 => (f_X2_all z315_u).bind fun r316 => (f_X2_part z315_u z315_3 ((r316).toInt64) z315_2).bind fun r317 => some (r317, z315_u)) 125 1000 0 0 (m_set_thrown uM (0 : Int32)) (relM_scr (thr_scr uM) h2) h4.2.2.2.1 (by omega) (by omega)
  rw [S125 h1.2.2.2 (fun i j k => valK n wo rs kd (pl3 i j k)), Int.zero_add] at g2
  have s0 := S3_rng h1.2.2.2 (fun i j k => valK n wo rs kd (pl3 i j k)) (fun i j k hi hj hk => (hpv i j k hi hj hk).2)
  have d0 := D3_rng h1.2.2.2
  have hq : q_ok (S3 m we (fun i j k => valK n wo rs kd (pl3 i j k))) (D3 m we) := by omega
  rw [e, if_neg one_ne, if_neg one_ne, hm1, Option.bind_some]
  refine ⟨_, u1, rfl, g2.trans ?_, Rel_scr (scr_tr (thr_scr uM) g1) hR⟩
  show ((f_X2_all u1).bind fun r316 => (f_X2_part u1 (iL (S3 m we (fun i j k => valK n wo rs kd (pl3 i j k)))) ((r316).toInt64) x2).bind fun r317 => some (r317, u1)) = _
  rw [all2 h1.2.2.2 h1.1 hn h3 (relM_scr (scr_tr (thr_scr uM) g1) h2), Option.bind_some, iI_L (by omega), part2 u1 hq, Option.bind_some]
theorem st_reserve (h : Rel uS uM) (x : Int32) : ∃ v uS' u', f_X1_reserve uS x = some (v, uS') ∧ f_X2_reserve uM x = some (v, u') ∧ Rel uS' u' := by
  have hR := h
  obtain ⟨n, m, wo, we, hz, hr, rs, cS, sv, h1, h2, h3, h4⟩ := h
  unfold f_X1_reserve f_X2_reserve
  rw [isWorth1, Option.bind_some, isWorth2, Option.bind_some]
  rcases inb_cases 0 1000 x with ⟨e, a1, a2⟩ | ⟨e, -⟩
  · obtain ⟨q1, q2, q3, q4, q5, q6, q7, q8, q9⟩ := h4
    rw [e, if_neg one_ne, if_neg one_ne]
    refine ⟨s_reservePrice uS, _, m_set_reserve (m_set_thrown uM (0 : Int32)) x, rfl, ?_, ?_⟩
    · show some (m_reserve uM, _) = _
      rw [q4, q3]
    · exact ⟨n, m, wo, we, hz, hr, x.toInt, cS, sv, relS_ch h1 (bk_reserve _ _) rfl, h2, h3, a1, a2, (iI_of x).symm, (iI_of x).symm, q5, q6, q7, q8, q9⟩
  · rw [e, if_pos rfl, if_pos rfl]
    exact ⟨_, _, _, rfl, rfl, Rel_scr (thr_scr uM) hR⟩
theorem st_clear (h : Rel uS uM) : ∃ v uS' u', f_X1_clear uS = some (v, uS') ∧ f_X2_clear uM = some (v, u') ∧ Rel uS' u' := by
  obtain ⟨n, m, wo, we, hz, hr, rs, cS, sv, h1, h2, h3, q1, q2, q3, q4, q5, q6, q7, q8, q9⟩ := h
  refine ⟨s_sampleCount uS, s_set_sampleCount uS 0, m_set_samples (m_set_thrown uM (0 : Int32)) 0, rfl, ?_, ?_⟩
  · show some (m_samples uM, _) = _
    rw [q7, q6]
  · exact ⟨n, m, wo, we, hz, hr, rs, 0, sv, relS_ch h1 (bk_sampleCount _ _) rfl, h2, h3, q1, q2, q3, q4, by omega, rfl, rfl, fun j hj => by omega, q9⟩
theorem st_count (h : Rel uS uM) (x : Int32) : ∃ v u', f_X1_count uS x = some v ∧ f_X2_count uM x = some (v, u') ∧ Rel uS u' := by
  have hR := h
  obtain ⟨n, m, wo, we, hz, hr, rs, cS, sv, h1, h2, h3, q1, q2, q3, q4, q5, q6, q7, q8, q9⟩ := h
  unfold f_X1_count f_X2_count
  by_cases h0 : x = 0
  · rw [if_pos h0, if_pos h0]
    refine ⟨_, _, rfl, ?_, Rel_scr (thr_scr uM) hR⟩
    rw [h1.2.2.1, ← h2.1]
    rfl
  · by_cases h1' : x = 1
    · rw [if_neg h0, if_neg h0, if_pos h1', if_pos h1']
      refine ⟨_, _, rfl, ?_, Rel_scr (thr_scr uM) hR⟩
      rw [q3, ← q4]
      rfl
    · by_cases h2' : x = 2
      · rw [if_neg h0, if_neg h0, if_neg h1', if_neg h1', if_pos h2', if_pos h2']
        refine ⟨_, _, rfl, ?_, Rel_scr (thr_scr uM) hR⟩
        rw [q6, ← q7]
        rfl
      · rw [if_neg h0, if_neg h0, if_neg h1', if_neg h1', if_neg h2', if_neg h2']
        exact ⟨_, _, rfl, rfl, Rel_scr (thr_scr uM) hR⟩
theorem st_trace (h : Rel uS uM) : ∃ v u', f_X1_trace uS = some v ∧ f_X2_trace uM = some (v, u') ∧ Rel uS u' := by
  have hR := h
  obtain ⟨n, m, wo, we, hz, hr, rs, cS, sv, h1, h2, h3, q1, q2, q3, q4, q5, q6, q7, q8, q9⟩ := h
  refine ⟨s_traced uS, m_set_thrown uM (0 : Int32), rfl, ?_, Rel_scr (thr_scr uM) hR⟩
  show some (m_trace uM, _) = _
  rw [q9]
theorem st_sample (h : Rel uS uM) (x : Int32) : ∃ v uS' u', f_X1_sample uS x = some (v, uS') ∧ f_X2_sample uM x = some (v, u') ∧ Rel uS' u' := by
  have hR := h
  obtain ⟨n, m, wo, we, hz, hr, rs, cS, sv, h1, h2, h3, q1, q2, q3, q4, q5, q6, q7, q8, q9⟩ := h
  unfold f_X1_sample f_X2_sample
  rw [isWorth1, Option.bind_some, isWorth2, Option.bind_some]
  rcases inb_cases 0 1000 x with ⟨e, a1, a2⟩ | ⟨e, -⟩
  · rw [e, if_neg one_ne, if_neg one_ne, show m_samples (m_set_thrown uM (0 : Int32)) = m_samples uM from rfl, q6, q7, show (12 : Int32) = nI 12 from rfl, if_ltN (by omega) (by omega), if_eqN (by omega) (by omega)]
    by_cases hc : cS < 12
    · rw [if_pos hc, if_neg (show ¬ cS = 12 by omega), gdN (by omega) (by omega), gdN (by omega) (by omega), cl (by omega)]
      refine ⟨nI (cS + 1), s_set_sampleCount (s_set_samples uS (upd (s_samples uS) cS x)) (nI (cS + 1)), m_set_samples (m_set_sample (m_set_thrown uM (0 : Int32)) (upd (m_sample uM) cS x)) (nI (cS + 1)), ?_, ?_, ?_⟩
      · show some (s_sampleCount uS + 1, s_set_sampleCount (s_set_samples uS (upd (s_samples uS) cS x)) (s_sampleCount uS + 1)) = _
        rw [q6, nI_1]
      · show some (m_samples uM + 1, m_set_samples (m_set_sample (m_set_thrown uM (0 : Int32)) (upd (m_sample uM) cS x)) (m_samples uM + 1)) = _
        rw [q7, nI_1]
      · refine ⟨n, m, wo, we, hz, hr, rs, cS + 1, fun j => if j = cS then x.toInt else sv j, relS_ch h1 (fun b => (bk_sampleCount _ _ b).trans (bk_samples _ _ b)) rfl, h2, h3, q1, q2, q3, q4, by omega, rfl, rfl, fun j hj => ?_, q9⟩
        show 0 ≤ (if j = cS then x.toInt else sv j) ∧ (if j = cS then x.toInt else sv j) ≤ 1000 ∧ upd (s_samples uS) cS x j = iI (if j = cS then x.toInt else sv j) ∧ upd (m_sample uM) cS x j = iI (if j = cS then x.toInt else sv j)
        by_cases ej : j = cS
        · rw [if_pos ej, ej, upd_eq, upd_eq, iI_of]
          exact ⟨a1, a2, rfl, rfl⟩
        · rw [if_neg ej, upd_ne _ _ ej, upd_ne _ _ ej]
          exact q8 j (by omega)
    · rw [if_neg hc, if_pos (by omega)]
      exact ⟨_, _, _, rfl, rfl, Rel_scr (thr_scr uM) hR⟩
  · rw [e, if_pos rfl, if_pos rfl]
    exact ⟨_, _, _, rfl, rfl, Rel_scr (thr_scr uM) hR⟩
end SM
