section BR
variable {uS : StS} {uM : StM} {n : Nat} {m : Nat → Nat} {wo we hz hr : Nat → Nat → Int}
theorem brings2_in (h : relB uS m wo we hz hr) (hn : n ≤ 3) (pl : Nat → Nat) (hpl : ∀ b, b < n → pl b < m b) {w : Int} (hw : 0 < w ∧ w ≤ 729) (x1 x4 : Int32) (k : StM → Int32 → Int64 → Int32 → Option (Int64 × StM)) : ∀ d N b acc (u : StM), relM u n m wo we → (∀ b, b < n → m_place u b = nI (pl b)) → b + d = n → d < N → ∃ u', scr u u' ∧ B_X2_brings_41 k N u x1 (iL acc) x4 (iI w) (nI b) = k u' x1 (iL (acc + w * su (fun b => if wn n hz hr pl = nI b then lw n m wo hz hr pl b else 0) b d)) x4 := by
  intro d
  induction d with
  | zero =>
    intro N b acc u hM hP h1 h2
    obtain ⟨N, rfl⟩ : ∃ n', N = n' + 1 := ⟨N - 1, by omega⟩
    refine ⟨u, scr_rf _, ?_⟩
    rw [B_X2_brings_41, hM.1, if_leN (by omega) (by omega), if_pos (by omega)]
    show _ = k u x1 (iL (acc + w * 0)) x4
    rw [Int.mul_zero, Int.add_zero]
  | succ d ih =>
    intro N b acc u hM hP h1 h2
    obtain ⟨N, rfl⟩ : ∃ n', N = n' + 1 := ⟨N - 1, by omega⟩
    obtain ⟨u1, g1, g2, g3⟩ := paid2 (uM := u) h hn pl hpl hM hP (c := b) (by omega)
    have hl := lw_rng (n := n) h pl (c := b) (by omega)
    obtain ⟨u2, q1, q2⟩ := ih N (b + 1) (acc + w * (if wn n hz hr pl = nI b then lw n m wo hz hr pl b else 0)) u1 (relM_scr g1 hM) g2 (by omega) (by omega)
    refine ⟨u2, scr_tr g1 q1, ?_⟩
    have hv : 0 ≤ (if wn n hz hr pl = nI b then lw n m wo hz hr pl b else 0) ∧ (if wn n hz hr pl = nI b then lw n m wo hz hr pl b else 0) ≤ 1000 := by split <;> omega
    rw [B_X2_brings_41, hM.1, if_leN (by omega) (by omega), if_neg (by omega), show (0 : Int32) = iI 0 from rfl, if_le (by omega) (by omega), if_neg (by omega), g3, Option.bind_some]
    show B_X2_brings_41 k N u1 x1 (iL acc + (iI w).toInt64 * (iI (if wn n hz hr pl = nI b then lw n m wo hz hr pl b else 0)).toInt64) x4 (iI w) (nI b + 1) = _
    rw [iI_L (by omega), iI_L (by omega), iL_mul, iL_add, nI_1, q2]
    show k u2 x1 (iL (acc + w * _ + w * su _ (b + 1) d)) x4 = k u2 x1 (iL (acc + w * (_ + su _ (b + 1) d))) x4
    rw [Int.mul_add, Int.add_assoc]
theorem brings2_out (h : relB uS m wo we hz hr) (hn1 : 1 ≤ n) (hn : n ≤ 3) (hE : relE n m wo we) (x1 : Int32) (k : StM → Int32 → Int64 → Option (Int64 × StM)) : ∀ d N t acc (u : StM), relM u n m wo we → t + d = 125 → d < N → ∃ u', scr u u' ∧ B_X2_brings_23 k N u x1 (iL acc) (nI t) = k u' x1 (iL (acc + su (fun t => W3 m we (t % 5) (t / 5 % 5) (t / 25 % 5) * valB n m wo hz hr (pl3 (t % 5) (t / 5 % 5) (t / 25 % 5))) t d)) := by
  intro d
  induction d with
  | zero =>
    intro N t acc u hM h1 h2
    obtain ⟨N, rfl⟩ : ∃ n', N = n' + 1 := ⟨N - 1, by omega⟩
    refine ⟨u, scr_rf _, ?_⟩
    rw [B_X2_brings_23, show (125 : Int32) = nI 125 from rfl, if_leN (by omega) (by omega), if_pos (by omega)]
    show _ = k u x1 (iL (acc + 0))
    rw [Int.add_zero]
  | succ d ih =>
    intro N t acc u hM h1 h2
    obtain ⟨N, rfl⟩ : ∃ n', N = n' + 1 := ⟨N - 1, by omega⟩
    obtain ⟨u1, g1, g2, g3⟩ := comes2 h hn hE hM (t := t) (by omega)
    have hM1 := relM_scr g1 hM
    rcases W3_cases h (t % 5) (t / 5 % 5) (t / 25 % 5) with ⟨w1, w2, w3⟩ | ⟨w1, -⟩
    · obtain ⟨u2, q1, q2⟩ := brings2_in h hn (pl3 (t % 5) (t / 5 % 5) (t / 25 % 5)) (fun b hb => pl3_lt w3.1 w3.2.1 w3.2.2 b (by omega)) (w := W3 m we (t % 5) (t / 5 % 5) (t / 25 % 5)) ⟨w1, w2⟩ x1 (nI t) (fun z206_u z206_1 z206_2 z206_4 => (B_X2_brings_23 k N) z206_u z206_1 z206_2 (z206_4 + 1)) n 1000 0 acc u1 hM1 (fun b hb => g2 b (by omega)) (by omega) (by omega)
      obtain ⟨u3, r1, r2⟩ := ih N (t + 1) (acc + W3 m we (t % 5) (t / 5 % 5) (t / 25 % 5) * valB n m wo hz hr (pl3 (t % 5) (t / 5 % 5) (t / 25 % 5))) u2 (relM_scr q1 hM1) (by omega) (by omega)
      refine ⟨u3, scr_tr g1 (scr_tr q1 r1), ?_⟩
      rw [B_X2_brings_23, show (125 : Int32) = nI 125 from rfl, if_leN (by omega) (by omega), if_neg (by omega), g3, Option.bind_some]
      refine q2.trans ?_
      show B_X2_brings_23 k N u2 x1 (iL (acc + W3 m we (t % 5) (t / 5 % 5) (t / 25 % 5) * valB n m wo hz hr (pl3 (t % 5) (t / 5 % 5) (t / 25 % 5)))) (nI t + 1) = _
      rw [nI_1, r2]
      show k u3 x1 (iL (acc + _ + su _ (t + 1) d)) = k u3 x1 (iL (acc + (_ + su _ (t + 1) d)))
      rw [Int.add_assoc]
    · obtain ⟨u3, r1, r2⟩ := ih N (t + 1) acc u1 hM1 (by omega) (by omega)
      refine ⟨u3, scr_tr g1 r1, ?_⟩
      rw [B_X2_brings_23, show (125 : Int32) = nI 125 from rfl, if_leN (by omega) (by omega), if_neg (by omega), g3, Option.bind_some]
      show B_X2_brings_41 (fun z206_u z206_1 z206_2 z206_4 => (B_X2_brings_23 k N) z206_u z206_1 z206_2 (z206_4 + 1)) 1000 u1 x1 (iL acc) (nI t) (iI (W3 m we (t % 5) (t / 5 % 5) (t / 25 % 5))) (nI 0) = _
      rw [w1, B_X2_brings_41, hM1.1, if_leN (by omega) (by omega), if_neg (by omega), show (0 : Int32) = iI 0 from rfl, if_le (by omega) (by omega), if_pos (by omega), nI_1, r2]
      show k u3 x1 (iL (acc + su _ (t + 1) d)) = k u3 x1 (iL (acc + (W3 m we (t % 5) (t / 5 % 5) (t / 25 % 5) * _ + su _ (t + 1) d)))
      rw [w1, Int.zero_mul, Int.zero_add]
theorem told2_loop (hn : n ≤ 3) (hm : ∀ b, b < 3 → m b ≤ 5) (pl : Nat → Nat) (hpl : ∀ b, b < n → pl b < m b) (x1 x2 : Int32) (x3 : Int64) (x5 x6 : Int32) (k : StM → Int32 → Int32 → Int64 → Int32 → Int32 → Option (Int64 × StM)) : ∀ d N b (u : StM), relM u n m wo we → (∀ b, b < n → m_place u b = nI (pl b)) → (∀ c, c < b → m_told u c = iI (wo c (pl c))) → b + d = n → d < N → ∃ u', scr u u' ∧ (∀ c, c < n → m_told u' c = iI (wo c (pl c))) ∧ B_X2_average_55 k N u x1 x2 x3 x5 x6 (nI b) = k u' x1 x2 x3 x5 x6 := by
  intro d
  induction d with
  | zero =>
    intro N b u hM hP hT h1 h2
    obtain ⟨N, rfl⟩ : ∃ n', N = n' + 1 := ⟨N - 1, by omega⟩
    refine ⟨u, scr_rf _, fun c hc => hT c (by omega), ?_⟩
    rw [B_X2_average_55, hM.1, if_leN (by omega) (by omega), if_pos (by omega)]
  | succ d ih =>
    intro N b u hM hP hT h1 h2
    obtain ⟨N, rfl⟩ : ∃ n', N = n' + 1 := ⟨N - 1, by omega⟩
    have hb := hpl b (by omega)
    have hmb := hm b (by omega)
    have hs : scr u (m_set_told u (upd (m_told u) b (iI (wo b (pl b))))) := ⟨rfl, rfl, rfl, rfl, rfl, rfl, rfl, rfl⟩
    obtain ⟨u1, q1, q2, q3⟩ := ih N (b + 1) (m_set_told u (upd (m_told u) b (iI (wo b (pl b))))) (relM_scr hs hM) hP (fun c hc => by
      show upd (m_told u) b (iI (wo b (pl b))) c = _
      by_cases e : c = b
      · subst e; rw [upd_eq]
      · rw [upd_ne _ _ e]; exact hT c (by omega)) (by omega) (by omega)
    refine ⟨u1, scr_tr hs q1, q2, ?_⟩
    have gb : ¬ (nI b < 0 ∨ 3 ≤ b) := by
      have := nI_in (c := b) (N := 3) (by omega) (by omega)
      rw [cl (by omega)] at this
      exact this
    rw [B_X2_average_55, hM.1, if_leN (by omega) (by omega), if_neg (by omega), gdN (by omega) (by omega), cl (by omega), hP b (by omega), ix5, gdN (by omega) (by omega), if_neg gb, cl (by omega), ((hM.2 b (by omega)).2 _ hb).1, nI_1]
    exact q3
theorem average2_out (h : relB uS m wo we hz hr) (hn1 : 1 ≤ n) (hn : n ≤ 3) (hE : relE n m wo we) {rs : Int} (h1 : 0 ≤ rs ∧ rs ≤ 1000) {kd : Nat} (hkd : kd < 3) (x2 : Int32) (k : StM → Int32 → Int64 → Option (Int64 × StM)) : ∀ d N t acc (u : StM), relM u n m wo we → m_reserve u = iI rs → t + d = 125 → d < N → ∃ u', scr u u' ∧ B_X2_average_32 k N u (nI kd) x2 (iL acc) (nI t) = k u' x2 (iL (acc + su (fun t => W3 m we (t % 5) (t / 5 % 5) (t / 25 % 5) * valK n wo rs kd (pl3 (t % 5) (t / 5 % 5) (t / 25 % 5))) t d)) := by
  intro d
  have hm : ∀ b, b < 3 → m b ≤ 5 := fun b hb => (h b hb).1.2.1
  induction d with
  | zero =>
    intro N t acc u hM hs h1 h2
    obtain ⟨N, rfl⟩ : ∃ n', N = n' + 1 := ⟨N - 1, by omega⟩
    refine ⟨u, scr_rf _, ?_⟩
    rw [B_X2_average_32, show (125 : Int32) = nI 125 from rfl, if_leN (by omega) (by omega), if_pos (by omega)]
    show _ = k u x2 (iL (acc + 0))
    rw [Int.add_zero]
  | succ d ih =>
    intro N t acc u hM hs h2 h3
    obtain ⟨N, rfl⟩ : ∃ n', N = n' + 1 := ⟨N - 1, by omega⟩
    obtain ⟨u1, g1, g2, g3⟩ := comes2 h hn hE hM (t := t) (by omega)
    have hM1 := relM_scr g1 hM
    have hs1 : m_reserve u1 = iI rs := by rw [g1.2.2.2.2.2.1]; exact hs
    rcases W3_cases h (t % 5) (t / 5 % 5) (t / 25 % 5) with ⟨w1, w2, w3⟩ | ⟨w1, -⟩
    · have hpl : ∀ b, b < n → pl3 (t % 5) (t / 5 % 5) (t / 25 % 5) b < m b := fun b hb => pl3_lt w3.1 w3.2.1 w3.2.2 b (by omega)
      obtain ⟨u2, q1, q2, q3⟩ := told2_loop hn hm (pl3 (t % 5) (t / 5 % 5) (t / 25 % 5)) hpl (nI kd) x2 (iL acc) (nI t) (iI (W3 m we (t % 5) (t / 5 % 5) (t / 25 % 5))) (fun z208_u z208_1 z208_2 z208_3 z208_5 z208_6 => (f_X2_payOf z208_u z208_1).bind fun r209 => if r209 = (-9 : Int32) then (B_X2_average_32 k N) z208_u z208_1 z208_2 (z208_3 + (0 : Int64)) (z208_5 + 1) else (B_X2_average_32 k N) z208_u z208_1 z208_2 (z208_3 + ((z208_6).toInt64 * (r209).toInt64)) (z208_5 + 1)) n 1000 0 u1 hM1 (fun b hb => g2 b (by omega)) (fun c hc => by omega) (by omega) (by omega)
      have hM2 := relM_scr q1 hM1
      have hs2 : m_reserve u2 = iI rs := by rw [q1.2.2.2.2.2.1]; exact hs1
      obtain ⟨hc, hp⟩ := payOf2 hn1 hn hM2.1 (fun b => wo b (pl3 (t % 5) (t / 5 % 5) (t / 25 % 5) b)) (fun b hb => by
        have := (h b (by omega)).1.2.2 _ (hpl b hb)
        exact ⟨this.1, this.2.1, q2 b hb⟩) hs2 h1 hkd
      have hr9 := pkd_rng (kd := kd) (gr := (cfg (fun b => wo b (pl3 (t % 5) (t / 5 % 5) (t / 25 % 5) b)) n 0 (-1) 0).1) h1 ⟨hc.2.2.1, hc.2.2.2⟩
      obtain ⟨u3, r1, r2⟩ := ih N (t + 1) (acc + W3 m we (t % 5) (t / 5 % 5) (t / 25 % 5) * valK n wo rs kd (pl3 (t % 5) (t / 5 % 5) (t / 25 % 5))) u2 hM2 hs2 (by omega) (by omega)
      refine ⟨u3, scr_tr g1 (scr_tr q1 r1), ?_⟩
      have gW : ¬ iI (W3 m we (t % 5) (t / 5 % 5) (t / 25 % 5)) ≤ 0 := by
        rw [show (0 : Int32) = iI 0 from rfl, iI_le (by omega) (by omega)]
        omega
      rw [B_X2_average_32, show (125 : Int32) = nI 125 from rfl, if_leN (by omega) (by omega), if_neg (by omega), g3, Option.bind_some]
      show (if iI (W3 m we (t % 5) (t / 5 % 5) (t / 25 % 5)) ≤ 0 then _ else _) = _
      rw [if_neg gW]
      refine q3.trans ?_
      show ((f_X2_payOf u2 (nI kd)).bind fun r209 => if r209 = (-9 : Int32) then (B_X2_average_32 k N) u2 (nI kd) x2 (iL acc + (0 : Int64)) (nI t + 1) else (B_X2_average_32 k N) u2 (nI kd) x2 (iL acc + ((iI (W3 m we (t % 5) (t / 5 % 5) (t / 25 % 5))).toInt64 * (r209).toInt64)) (nI t + 1)) = _
      have fin : k u3 x2 (iL (acc + W3 m we (t % 5) (t / 5 % 5) (t / 25 % 5) * valK n wo rs kd (pl3 (t % 5) (t / 5 % 5) (t / 25 % 5)) + su (fun t => W3 m we (t % 5) (t / 5 % 5) (t / 25 % 5) * valK n wo rs kd (pl3 (t % 5) (t / 5 % 5) (t / 25 % 5))) (t + 1) d)) = k u3 x2 (iL (acc + su (fun t => W3 m we (t % 5) (t / 5 % 5) (t / 25 % 5) * valK n wo rs kd (pl3 (t % 5) (t / 5 % 5) (t / 25 % 5))) t (d + 1))) := by
        show k u3 x2 (iL (acc + _ + su _ (t + 1) d)) = k u3 x2 (iL (acc + (_ + su _ (t + 1) d)))
        rw [Int.add_assoc]
      rw [← fin, ← r2, hp, Option.bind_some, nI_1]
      unfold valK
      generalize pkd kd rs _ _ = v at *
      rw [show (-9 : Int32) = iI (-9) from rfl, if_eq (by omega) (by omega)]
      by_cases e : v = -9
      · rw [if_pos e, if_pos e, show (0 : Int64) = iL 0 from rfl, iL_add, Int.mul_zero]
      · rw [if_neg e, if_neg e, iI_L (by omega), iI_L (by omega), iL_mul, iL_add]
    · obtain ⟨u3, r1, r2⟩ := ih N (t + 1) acc u1 hM1 hs1 (by omega) (by omega)
      refine ⟨u3, scr_tr g1 r1, ?_⟩
      rw [B_X2_average_32, show (125 : Int32) = nI 125 from rfl, if_leN (by omega) (by omega), if_neg (by omega), g3, Option.bind_some]
      show (if iI (W3 m we (t % 5) (t / 5 % 5) (t / 25 % 5)) ≤ 0 then B_X2_average_32 k N u1 (nI kd) x2 (iL acc) (nI t + 1) else _) = _
      rw [w1, if_pos (by decide), nI_1, r2]
      show k u3 x2 (iL (acc + su _ (t + 1) d)) = k u3 x2 (iL (acc + (W3 m we (t % 5) (t / 5 % 5) (t / 25 % 5) * _ + su _ (t + 1) d)))
      rw [w1, Int.zero_mul, Int.zero_add]
end BR
