section OO
variable {uS : StS} {uM : StM} {n : Nat} {m : Nat → Nat} {wo we hz hr : Nat → Nat → Int}
theorem offers2_loop (h : relB uS m wo we hz hr) (hn : n ≤ 3) (x2 : Int32) (k89 : StM → Option (Int64 × StM)) (k240 : StM → Int32 → Int32 → Int64 → Int64 → Option (Int64 × StM)) : ∀ d N seen r U L t (u : StM), relM u n m wo we → t + d = n → d < N → seen < 8 → r < 2147483648 → uld d U L → (vd n d seen r = true → ∃ u', scr u u' ∧ (∀ c, c < 3 → seen.testBit c = true → m_price u' c = m_price u c) ∧ (∀ c, c < 3 → ∀ p, prf m wo we c d r U L = some p → m_price u' c = iI p) ∧ B_X2_offers_51 k89 k240 N u x2 (nI r) (nI seen) (iL U) (iL L) (nI t) = k240 u' x2 (nI (r / 3 ^ d)) (iL (fin2 m wo we d r U L).1) (iL (fin2 m wo we d r U L).2)) ∧ (¬ vd n d seen r = true → ∃ u', scr u u' ∧ B_X2_offers_51 k89 k240 N u x2 (nI r) (nI seen) (iL U) (iL L) (nI t) = k89 u') := by
  intro d
  induction d with
  | zero =>
    intro N seen r U L t u hM h1 h2 h3 h4 h5
    obtain ⟨N, rfl⟩ : ∃ n', N = n' + 1 := ⟨N - 1, by omega⟩
    refine ⟨fun _ => ⟨u, scr_rf _, fun c _ _ => rfl, fun c _ p hp => by (cases hp), ?_⟩, fun q => absurd rfl q⟩
    rw [B_X2_offers_51, hM.1, if_leN (by omega) (by omega), if_pos (by omega), Nat.pow_zero, Nat.div_one]
    rfl
  | succ d ih =>
    intro N seen r U L t u hM h1 h2 h3 h4 h5
    obtain ⟨N, rfl⟩ : ∃ n', N = n' + 1 := ⟨N - 1, by omega⟩
    have hb : r % 3 < 3 := Nat.mod_lt _ (by omega)
    have hr3 : r / 3 < 2147483648 := by omega
    have hB := h (r % 3) hb
    have hm := hB.1.2.1
    have hMb := hM.2 _ hb
    have s0 := sh_rng hB.1 0
    have hu := uld_ok h5
    by_cases c1 : r % 3 < n
    · by_cases c2 : seen.testBit (r % 3) = true
      · have hf : ¬ vd n (d + 1) seen r = true := by rw [vd_s, c2]; simp
        refine ⟨fun q => absurd q hf, fun _ => ⟨u, scr_rf _, ?_⟩⟩
        rw [B_X2_offers_51, hM.1, if_leN (by omega) (by omega), if_neg (by omega), rem3 h4, isBuyer2 hM hn, Option.bind_some, inb_lt (by omega), if_pos c1, if_neg one_ne, if_pos ((seen_bit seen h3 _ hb).mpr c2)]
      · -- the step
        have hsp : scr u (m_set_price u (upd (m_price u) (r % 3) (1001 : Int32))) := scr_price u _
        obtain ⟨u1, g1, g2, g3, g4⟩ := offers2_in h hb hu x2 (nI (r / 3)) (nI (seen ||| 2 ^ (r % 3))) (nI t) (fun z214_u z214_2 z214_3 z214_4 z214_7 z214_9 z214_11 z214_13 => (B_X2_offers_51 k89 k240 N) z214_u z214_2 z214_3 z214_4 z214_13 (z214_7 * z214_11) (z214_9 + 1)) (m (r % 3)) 1000 (m (r % 3)) (m_set_price u (upd (m_price u) (r % 3) (1001 : Int32))) (relM_scr hsp hM) (Nat.le_refl _) (by omega) (Nat.le_refl _) (Nat.le_refl _) (fun t a1 a2 => by rw [show t = m (r % 3) by omega]; exact Int.le_refl _) (fun t a1 a2 => by omega) (by
          show upd (m_price u) (r % 3) (1001 : Int32) (r % 3) = _
          unfold pvv
          rw [upd_eq, if_neg (by omega)]
          rfl)
        have hF : U * sh (m (r % 3)) (we (r % 3)) 0 = Fo (m (r % 3)) (wo (r % 3)) (we (r % 3)) U L (m (r % 3)) := by
          unfold Fo ta
          rw [if_neg (by omega), sh_ge (we (r % 3)) (Nat.le_refl _), Int.zero_mul, Int.zero_add, Int.sub_zero, Int.mul_comm]
        have step : B_X2_offers_51 k89 k240 (N + 1) u x2 (nI r) (nI seen) (iL U) (iL L) (nI t) = B_X2_offers_51 k89 k240 N u1 x2 (nI (r / 3)) (nI (seen ||| 2 ^ (r % 3))) (iL (nU m wo we (r % 3) U L)) (iL (nL m we (r % 3) L)) (nI (t + 1)) := by
          rw [B_X2_offers_51, hM.1, if_leN (by omega) (by omega), if_neg (by omega), rem3 h4, div3 h4, isBuyer2 hM hn, Option.bind_some, inb_lt (by omega), if_pos c1, if_neg one_ne, if_neg (fun q => c2 ((seen_bit seen h3 _ hb).mp q)), seen_or seen h3 _ hb, show (0 : Int32) = nI 0 from rfl, share2 hb hMb hm (by omega), Option.bind_some, show nI 0 = (0 : Int32) from rfl]
          have gb : ¬ (nI (r % 3) < 0 ∨ 3 ≤ (nI (r % 3)).toNatClampNeg) := nI_in hb (by omega)
          rw [if_neg gb, if_neg gb, cl (by omega), show m_many (m_set_price u (upd (m_price u) (r % 3) (1001 : Int32))) = m_many u from rfl, hMb.1, nI_m1, iI_L (by omega), iL_mul, hF]
          refine g4.trans ?_
          show B_X2_offers_51 k89 k240 N u1 x2 (nI (r / 3)) (nI (seen ||| 2 ^ (r % 3))) (iL (nU m wo we (r % 3) U L)) (iL L * iL (sh (m (r % 3)) (we (r % 3)) 0)) (nI t + 1) = _
          rw [iL_mul, nI_1]
          rfl
        have hM1 : relM u1 n m wo we := relM_scr (scr_tr hsp g1) hM
        obtain ⟨i1, i2⟩ := ih N (seen ||| 2 ^ (r % 3)) (r / 3) (nU m wo we (r % 3) U L) (nL m we (r % 3) L) (t + 1) u1 hM1 (by omega) (by omega) (seen_lt seen h3 _ hb) hr3 (uld_next h hb h5)
        have hve : (vd n (d + 1) seen r = true) ↔ (vd n d (seen ||| 2 ^ (r % 3)) (r / 3) = true) := by rw [vd_s]; simp [c1, c2]
        refine ⟨fun q => ?_, fun q => ?_⟩
        · obtain ⟨u2, j1, j2, j3, j4⟩ := i1 (hve.mp q)
          refine ⟨u2, scr_tr hsp (scr_tr g1 j1), fun c hc hs => ?_, fun c hc p hp => ?_, ?_⟩
          · have hne : c ≠ r % 3 := fun e => c2 (by rw [← e]; exact hs)
            rw [j2 c hc (seen_keep seen h3 _ hb c hc hs), g2 c hne]
            show upd (m_price u) (r % 3) (1001 : Int32) c = _
            rw [upd_ne _ _ hne]
          · rw [prf_s] at hp
            by_cases e : r % 3 = c
            · rw [if_pos e] at hp
              cases hp
              rw [← e, j2 _ hb (seen_new seen h3 _ hb), g3]
            · rw [if_neg e] at hp
              exact j3 c hc p hp
          · rw [step, j4, fin2_s, Nat.div_div_eq_div_mul, Nat.mul_comm 3, ← Nat.pow_succ]
        · obtain ⟨u2, j1, j2⟩ := i2 (fun q' => q (hve.mpr q'))
          exact ⟨u2, scr_tr hsp (scr_tr g1 j1), by rw [step, j2]⟩
    · have hf : ¬ vd n (d + 1) seen r = true := by rw [vd_s]; simp [c1]
      refine ⟨fun q => absurd q hf, fun _ => ⟨u, scr_rf _, ?_⟩⟩
      rw [B_X2_offers_51, hM.1, if_leN (by omega) (by omega), if_neg (by omega), rem3 h4, isBuyer2 hM hn, Option.bind_some, inb_lt (by omega), if_neg c1, if_pos rfl]
theorem prf_some (hn1 : 1 ≤ n) (hn : n ≤ 3) {r : Nat} (hv : vd n n 0 r = true) {c : Nat} (hc : c < n) (U L : Int) : ∃ p, prf m wo we c n r U L = some p := by
  have hb0 : r % 3 < 3 := Nat.mod_lt _ (by omega)
  have hb1 : r / 3 % 3 < 3 := Nat.mod_lt _ (by omega)
  have hb2 : r / 3 / 3 % 3 < 3 := Nat.mod_lt _ (by omega)
  rcases (show n = 1 ∨ n = 2 ∨ n = 3 by omega) with rfl | rfl | rfl
  · rw [vd_s] at hv
    simp only [Bool.and_eq_true, decide_eq_true_eq] at hv
    rw [prf_s, if_pos (by omega)]
    exact ⟨_, rfl⟩
  · rw [vd_s, vd_s] at hv
    simp only [Bool.and_eq_true, decide_eq_true_eq, Nat.zero_or, Bool.not_eq_true'] at hv
    rw [prf_s]
    by_cases e : r % 3 = c
    · rw [if_pos e]; exact ⟨_, rfl⟩
    · rw [if_neg e, prf_s]
      rcases all_two _ hv.1 _ hv.2.2.1 c hc hv.2.2.2.1 with q | q
      · omega
      · rw [if_pos q.symm]; exact ⟨_, rfl⟩
  · rw [vd_s, vd_s, vd_s] at hv
    simp only [Bool.and_eq_true, decide_eq_true_eq, Nat.zero_or, Bool.not_eq_true'] at hv
    rw [prf_s]
    by_cases e : r % 3 = c
    · rw [if_pos e]; exact ⟨_, rfl⟩
    · rw [if_neg e, prf_s]
      by_cases e2 : r / 3 % 3 = c
      · rw [if_pos e2]; exact ⟨_, rfl⟩
      · rw [if_neg e2, prf_s]
        rcases all_three hb0 hb1 hb2 hc hv.2.2.2.1 hv.2.2.2.2.2.1 with q | q | q
        · omega
        · omega
        · rw [if_pos q.symm]; exact ⟨_, rfl⟩
theorem fin2_ok (h : relB uS m wo we hz hr) (n : Nat) : ∀ d seen r U L, vd n d seen r = true → n ≤ 3 → uld d U L → uld 0 (fin2 m wo we d r U L).1 (fin2 m wo we d r U L).2 := by
  intro d
  induction d with
  | zero => intro seen r U L _ _ h1; exact h1
  | succ d ih =>
    intro seen r U L hv hn h1
    rw [vd_s] at hv
    simp only [Bool.and_eq_true, decide_eq_true_eq] at hv
    rw [fin2_s]
    exact ih _ _ _ _ hv.2.2 hn (uld_next h (Nat.mod_lt _ (by omega)) h1)
end OO
theorem st_offers {uS : StS} {uM : StM} (h : Rel uS uM) (x1 x2 : Int32) : ∃ v u', f_X1_offers uS x1 x2 = some v ∧ f_X2_offers uM x1 x2 = some (v, u') ∧ Rel uS u' := by
  have hR := h
  obtain ⟨n, m, wo, we, hz, hr, rs, cS, sv, h1, h2, h3, h4⟩ := h
  have hn := h1.2.1
  have hn1 := h1.1
  have hM := relM_scr (thr_scr uM) h2
  have hR' := Rel_scr (thr_scr uM) hR
  unfold f_X1_offers f_X2_offers
  generalize m_set_thrown uM (0 : Int32) = w at *
  by_cases hx : x1 < 0
  · have ho : f_X1_isOrder uS x1 = some 0 := by
      unfold f_X1_isOrder
      rw [if_neg (by rw [Int32.le_iff_toInt_le]; rw [Int32.lt_iff_toInt_lt] at hx; exact Int.not_le.mpr hx)]
    rw [ho, Option.bind_some, if_pos rfl, if_pos hx]
    exact ⟨_, _, rfl, rfl, hR'⟩
  obtain ⟨r, hr4, rfl⟩ := nI_of hx
  have hr4 : r < 2147483648 := hr4
  have hu0 : uld n (0 : Int) 1 := by
    refine ⟨by omega, by omega, by omega, ?_⟩
    rcases (show n = 1 ∨ n = 2 ∨ n = 3 by omega) with rfl | rfl | rfl <;> decide
  have e4 : f_X2_in x2 (0 : Int32) (4 : Int32) = some (inb 0 4 x2) := in2 x2 (lo := 0) (hi := 4) (by omega) (by omega)
  -- the model's whole walk, for what is asked
  have mdl := fun k89 k240 => offers2_loop (n := n) h1.2.2.2 hn x2 k89 k240 n 1000 0 r 0 1 0 w hM (by omega) (by omega) (by omega) hr4 hu0
  rw [show nI 0 = (0 : Int32) from rfl, show iL 0 = (0 : Int64) from rfl, show iL 1 = (1 : Int64) from rfl] at mdl
  have hq : r / 3 ^ n < 2147483648 := Nat.lt_of_le_of_lt (Nat.div_le_self _ _) hr4
  rw [isOrder1 h1 hr4, Option.bind_some, if_neg hx, e4, Option.bind_some]
  by_cases hv : vd n n 0 r = true ∧ r / 3 ^ n = 0
  · obtain ⟨hv1, hv2⟩ := hv
    rw [if_pos (show vd n n 0 r = true ∧ r / 3 ^ n = 0 from ⟨hv1, hv2⟩), if_neg one_ne, isPart1, Option.bind_some]
    have hfin := fin2_ok (n := n) h1.2.2.2 n 0 r 0 1 hv1 hn hu0
    have hfu := uld_ok hfin
    rcases inb01 0 1 x2 with e | e
    · -- the mean's parts
      obtain ⟨wh, hwh, rfl⟩ := inb_ix (n := 2) (x := x2) e
      have ht : ∀ b, b < n → ¬ nI b = nI wh - (2 : Int32) := fun b hb => by
        rw [iI_nat, iI_nat, show (2 : Int32) = iI 2 from rfl, iI_sub, iI_eq (by omega) (by omega)]
        omega
      have hc := offers1_end h1 (nI wh) ht (fun z211_10 z211_11 => (f_X0_has (bk uS z211_10) z211_11).bind fun r212 => if r212 = 0 then some (1001 : Int64) else (f_X0_worthAt (bk uS z211_10) z211_11).bind fun r214 => some ((r214).toInt64)) (fun z215_2 z215_3 z215_5 => (f_X1_leastPart z215_3 z215_5 z215_2).bind fun r216 => some r216) n 1000 0 r 0 1 0 (by omega) (by omega) hr4 hv1 hu0
      rw [show nI 0 = (0 : Int32) from rfl, show iL 0 = (0 : Int64) from rfl, show iL 1 = (1 : Int64) from rfl] at hc
      obtain ⟨u1, g1, g2, g3, g4⟩ := (mdl (fun z315_u => some ((-1000000000000000 : Int64), z315_u)) (fun z316_u z316_2 z316_3 z316_5 z316_7 => if z316_3 = 0 then if z316_2 ≤ (1 : Int32) then (f_X2_part z316_u z316_5 z316_7 z316_2).bind fun r319 => some (r319, z316_u) else if ((z316_2 - (2 : Int32)) < 0 ∨ 3 ≤ (z316_2 - (2 : Int32)).toNatClampNeg) then none else some (((m_price z316_u (z316_2 - (2 : Int32)).toNatClampNeg)).toInt64, z316_u) else some ((-1000000000000000 : Int64), z316_u))).1 hv1
      have hqk : q_ok (fin2 m wo we n r 0 1).1 (fin2 m wo we n r 0 1).2 := by omega
      have w4 : inb 0 4 (nI wh) = 1 := inb_pos (by rw [nI_tI (by omega)]; omega)
      have wle : nI wh ≤ (1 : Int32) := by rw [show (1 : Int32) = nI 1 from rfl, nI_leI (by omega) (by omega)]; omega
      rw [e, if_neg one_ne, hc, part1 hqk, Option.bind_some, w4, if_neg one_ne, if_pos wle]
      refine ⟨_, u1, rfl, ?_, Rel_scr g1 hR'⟩
      unfold B_X2_offers_37
      rw [g4, hv2, if_pos (show nI 0 = 0 from rfl), if_pos wle, part2 u1 hqk, Option.bind_some]
    · rw [e, if_pos rfl, isBuyer1 h1, Option.bind_some]
      rcases inb01 0 ((n : Int) - 1) (x2 - (2 : Int32)) with e2 | e2
      · obtain ⟨c, hc, hxc⟩ := inb_ix e2
        have hx2 : x2 = nI (c + 2) := by
          have q : x2 - 2 + 2 = nI c + nI 2 := by rw [hxc]; rfl
          rw [nI_add, Int32.sub_add_cancel] at q
          exact q
        obtain ⟨p, hp⟩ := prf_some (m := m) (wo := wo) (we := we) hn1 hn hv1 hc 0 1
        obtain ⟨hh, hp0, hp1⟩ := offers1_hit h1 hc hxc (fun z223_2 z223_3 z223_5 => (f_X1_leastPart z223_3 z223_5 z223_2).bind fun r224 => some r224) n 1000 0 r 0 1 0 p (by omega) (by omega) hr4 hv1 hu0 hp
        rw [show nI 0 = (0 : Int32) from rfl, show iL 0 = (0 : Int64) from rfl, show iL 1 = (1 : Int64) from rfl] at hh
        obtain ⟨u1, g1, g2, g3, g4⟩ := (mdl (fun z315_u => some ((-1000000000000000 : Int64), z315_u)) (fun z316_u z316_2 z316_3 z316_5 z316_7 => if z316_3 = 0 then if z316_2 ≤ (1 : Int32) then (f_X2_part z316_u z316_5 z316_7 z316_2).bind fun r319 => some (r319, z316_u) else if ((z316_2 - (2 : Int32)) < 0 ∨ 3 ≤ (z316_2 - (2 : Int32)).toNatClampNeg) then none else some (((m_price z316_u (z316_2 - (2 : Int32)).toNatClampNeg)).toInt64, z316_u) else some ((-1000000000000000 : Int64), z316_u))).1 hv1
        have w4 : inb 0 4 x2 = 1 := inb_pos (by rw [hx2, nI_tI (by omega)]; omega)
        have wle : ¬ x2 ≤ (1 : Int32) := by rw [hx2, show (1 : Int32) = nI 1 from rfl, nI_leI (by omega) (by omega)]; omega
        rw [e2, if_neg one_ne, hh, w4, if_neg one_ne, if_neg wle, isBuyer2 hM hn, Option.bind_some, e2, if_neg one_ne]
        refine ⟨_, u1, rfl, ?_, Rel_scr g1 hR'⟩
        unfold B_X2_offers_37
        rw [g4, hv2, if_pos (show nI 0 = 0 from rfl), if_neg wle, hxc, gdN (by omega) (by omega), cl (by omega), g3 c (by omega) p hp, iI_L (by omega)]
      · rw [e2, if_pos rfl]
        refine ⟨_, w, rfl, ?_, hR'⟩
        rcases inb_cases 0 4 x2 with ⟨e5, a1, a2⟩ | ⟨e5, -⟩
        · have wle : ¬ x2 ≤ (1 : Int32) := fun q => by
            rw [Int32.le_iff_toInt_le] at q
            have : x2.toInt ≤ 1 := q
            rw [inb_pos ⟨a1, this⟩] at e
            exact absurd e (by decide)
          rw [e5, if_neg one_ne, if_neg wle, isBuyer2 hM hn, Option.bind_some, e2, if_pos rfl]
        · rw [e5, if_pos rfl]
  · -- the order is refused
    rw [if_neg hv, if_pos rfl]
    have mb : ∃ u', scr w u' ∧ B_X2_offers_37 w (nI r) x2 = some ((-1000000000000000 : Int64), u') := by
      unfold B_X2_offers_37
      by_cases hv1 : vd n n 0 r = true
      · obtain ⟨u1, g1, g2, g3, g4⟩ := (mdl (fun z315_u => some ((-1000000000000000 : Int64), z315_u)) (fun z316_u z316_2 z316_3 z316_5 z316_7 => if z316_3 = 0 then if z316_2 ≤ (1 : Int32) then (f_X2_part z316_u z316_5 z316_7 z316_2).bind fun r319 => some (r319, z316_u) else if ((z316_2 - (2 : Int32)) < 0 ∨ 3 ≤ (z316_2 - (2 : Int32)).toNatClampNeg) then none else some (((m_price z316_u (z316_2 - (2 : Int32)).toNatClampNeg)).toInt64, z316_u) else some ((-1000000000000000 : Int64), z316_u))).1 hv1
        refine ⟨u1, g1, ?_⟩
        have hz0 : ¬ nI (r / 3 ^ n) = 0 := fun q => hv ⟨hv1, (nI_eq (b := 0) hq (by omega)).mp q⟩
        rw [g4, if_neg hz0]
      · obtain ⟨u1, g1, g2⟩ := (mdl (fun z315_u => some ((-1000000000000000 : Int64), z315_u)) (fun z316_u z316_2 z316_3 z316_5 z316_7 => if z316_3 = 0 then if z316_2 ≤ (1 : Int32) then (f_X2_part z316_u z316_5 z316_7 z316_2).bind fun r319 => some (r319, z316_u) else if ((z316_2 - (2 : Int32)) < 0 ∨ 3 ≤ (z316_2 - (2 : Int32)).toNatClampNeg) then none else some (((m_price z316_u (z316_2 - (2 : Int32)).toNatClampNeg)).toInt64, z316_u) else some ((-1000000000000000 : Int64), z316_u))).2 hv1
        exact ⟨u1, g1, g2⟩
    obtain ⟨u1, g1, g2⟩ := mb
    rcases inb01 0 4 x2 with e5 | e5
    · rw [e5, if_neg one_ne]
      by_cases wle : x2 ≤ (1 : Int32)
      · rw [if_pos wle]
        exact ⟨_, u1, rfl, g2, Rel_scr g1 hR'⟩
      · rw [if_neg wle, isBuyer2 hM hn, Option.bind_some]
        rcases inb01 0 ((n : Int) - 1) (x2 - (2 : Int32)) with e2 | e2
        · rw [e2, if_neg one_ne]
          exact ⟨_, u1, rfl, g2, Rel_scr g1 hR'⟩
        · rw [e2, if_pos rfl]
          exact ⟨_, w, rfl, rfl, hR'⟩
    · rw [e5, if_pos rfl]
      exact ⟨_, w, rfl, rfl, hR'⟩
