section BD
variable {u0 u1 : StB} {m1 m2 : Nat} {wo1 we1 wo2 we2 : Nat → Int}
theorem pairs1_in (o1 : okB m1 wo1 we1) (o2 : okB m2 wo2 we2) (h1 : bkC u0 m1 wo1 we1) (h2 : bkC u1 m2 wo2 we2) {s : Int} (hs : -10 ≤ s ∧ s ≤ 2000) {i : Nat} (hi : i < m1) (kk : Int32 → Int32 → Int32 → Option Int32) : ∀ d N k acc, k + d = m2 → d < N → B_X1_pairsFrom_17 u0 u1 kk N (iI s) (iI acc) (nI i) (nI k) = kk (iI s) (iI (acc + su (fun k => if wo1 i + wo2 k < s then 0 else we1 i * we2 k) k d)) (nI i) := by
  intro d
  have q1 := o1.2.1
  have q2 := o2.2.1
  induction d with
  | zero =>
    intro N k acc a1 a2
    obtain ⟨N, rfl⟩ : ∃ n', N = n' + 1 := ⟨N - 1, by omega⟩
    rw [B_X1_pairsFrom_17, h2.1, if_leN (by omega) (by omega), if_pos (by omega)]
    show _ = kk (iI s) (iI (acc + 0)) (nI i)
    rw [Int.add_zero]
  | succ d ih =>
    intro N k acc a1 a2
    obtain ⟨N, rfl⟩ : ∃ n', N = n' + 1 := ⟨N - 1, by omega⟩
    have r1 := o1.2.2 i hi
    have r2 := o2.2.2 k (by omega)
    rw [B_X1_pairsFrom_17, h2.1, if_leN (by omega) (by omega), if_neg (by omega), worthAt1 h1 q1 (by omega), if_pos hi, Option.bind_some, worthAt1 h2 q2 (by omega), if_pos (show k < m2 by omega), Option.bind_some, iI_add, if_lt (by omega) (by omega), weightAt1 h1 q1 (by omega), if_pos hi, Option.bind_some, weightAt1 h2 q2 (by omega), if_pos (show k < m2 by omega), Option.bind_some, iI_mul, iI_add, nI_1, ih N (k + 1) acc (by omega) (by omega), ih N (k + 1) (acc + we1 i * we2 k) (by omega) (by omega)]
    show _ = kk (iI s) (iI (acc + ((if wo1 i + wo2 k < s then 0 else we1 i * we2 k) + su _ (k + 1) d))) (nI i)
    split
    · rw [Int.zero_add]
    · rw [Int.add_assoc]
theorem pairs1_out (o1 : okB m1 wo1 we1) (o2 : okB m2 wo2 we2) (h1 : bkC u0 m1 wo1 we1) (h2 : bkC u1 m2 wo2 we2) {s : Int} (hs : -10 ≤ s ∧ s ≤ 2000) (kk : Int32 → Option Int32) : ∀ d N i acc, i + d = m1 → d < N → B_X1_pairsFrom_5 u0 u1 kk N (iI s) (iI acc) (nI i) = kk (iI (acc + su (fun i => su (fun k => if wo1 i + wo2 k < s then 0 else we1 i * we2 k) 0 m2) i d)) := by
  intro d
  have q1 := o1.2.1
  have q2 := o2.2.1
  induction d with
  | zero =>
    intro N i acc a1 a2
    obtain ⟨N, rfl⟩ : ∃ n', N = n' + 1 := ⟨N - 1, by omega⟩
    rw [B_X1_pairsFrom_5, h1.1, if_leN (by omega) (by omega), if_pos (by omega)]
    show _ = kk (iI (acc + 0))
    rw [Int.add_zero]
  | succ d ih =>
    intro N i acc a1 a2
    obtain ⟨N, rfl⟩ : ∃ n', N = n' + 1 := ⟨N - 1, by omega⟩
    rw [B_X1_pairsFrom_5, h1.1, if_leN (by omega) (by omega), if_neg (by omega), show (0 : Int32) = nI 0 from rfl, pairs1_in o1 o2 h1 h2 hs (i := i) (by omega) _ m2 1000 0 acc (by omega) (by omega), nI_1, ih N (i + 1) _ (by omega) (by omega)]
    show kk (iI (acc + su _ 0 m2 + su _ (i + 1) d)) = kk (iI (acc + (su _ 0 m2 + su _ (i + 1) d)))
    rw [Int.add_assoc]
theorem pairs1 (o1 : okB m1 wo1 we1) (o2 : okB m2 wo2 we2) (h1 : bkC u0 m1 wo1 we1) (h2 : bkC u1 m2 wo2 we2) {s : Int} (hs : -10 ≤ s ∧ s ≤ 2000) : f_X1_pairsFrom u0 u1 (iI s) = some (iI (prs m1 m2 wo1 we1 wo2 we2 s)) := by
  have e := fun kk => pairs1_out o1 o2 h1 h2 hs kk m1 1000 0 0 (by omega) (by have := o1.2.1; omega)
  rw [show iI 0 = (0 : Int32) from rfl, show nI 0 = (0 : Int32) from rfl] at e
  unfold f_X1_pairsFrom
  rw [e, Int.zero_add]
  rfl
theorem best1_in (o1 : okB m1 wo1 we1) (o2 : okB m2 wo2 we2) (h1 : bkC u0 m1 wo1 we1) (h2 : bkC u1 m2 wo2 we2) {i : Nat} (hi : i < m1) (kk : Int32 → Int32 → Int32 → Option Int32) : ∀ d N k b v, k + d = m2 → d < N → bsok (prs m1 m2 wo1 we1 wo2 we2) b v → B_X1_bestSum_19 u0 u1 kk N (iI b) (iI v) (nI i) (nI k) = kk (iI (bin (prs m1 m2 wo1 we1 wo2 we2) (wo1 i) wo2 d k b v).1) (iI (bin (prs m1 m2 wo1 we1 wo2 we2) (wo1 i) wo2 d k b v).2) (nI i) := by
  intro d
  have q1 := o1.2.1
  have q2 := o2.2.1
  have hP := fun s => prs_rng o1 o2 s
  induction d with
  | zero =>
    intro N k b v a1 a2 hb
    obtain ⟨N, rfl⟩ : ∃ n', N = n' + 1 := ⟨N - 1, by omega⟩
    rw [B_X1_bestSum_19, h2.1, if_leN (by omega) (by omega), if_pos (by omega)]
    rfl
  | succ d ih =>
    intro N k b v a1 a2 hb
    obtain ⟨N, rfl⟩ : ∃ n', N = n' + 1 := ⟨N - 1, by omega⟩
    have r1 := o1.2.2 i hi
    have r2 := o2.2.2 k (by omega)
    have hv := bsok_v hP hb
    have hb1 := hb.1
    have hb2 := hb.2.1
    have hn : bsok (prs m1 m2 wo1 we1 wo2 we2) (wo1 i + wo2 k) ((wo1 i + wo2 k) * prs m1 m2 wo1 we1 wo2 we2 (wo1 i + wo2 k)) := ⟨by omega, by omega, Or.inr ⟨by omega, rfl⟩⟩
    have hnv := bsok_v hP hn
    rw [B_X1_bestSum_19, h2.1, if_leN (by omega) (by omega), if_neg (by omega), worthAt1 h1 q1 (by omega), if_pos hi, Option.bind_some, worthAt1 h2 q2 (by omega), if_pos (by omega), Option.bind_some, iI_add, pairs1 o1 o2 h1 h2 (by omega), Option.bind_some, iI_mul, if_lt (by omega) (by omega), if_eq (by omega) (by omega), if_le (by omega) (by omega), nI_1, bin_s]
    split
    · exact ih N (k + 1) _ _ (by omega) (by omega) hn
    · split
      · split
        · exact ih N (k + 1) _ _ (by omega) (by omega) hb
        · exact ih N (k + 1) _ _ (by omega) (by omega) hn
      · exact ih N (k + 1) _ _ (by omega) (by omega) hb
theorem best1_out (o1 : okB m1 wo1 we1) (o2 : okB m2 wo2 we2) (h1 : bkC u0 m1 wo1 we1) (h2 : bkC u1 m2 wo2 we2) (kk : Int32 → Option Int32) : ∀ d N i b v, i + d = m1 → d < N → bsok (prs m1 m2 wo1 we1 wo2 we2) b v → B_X1_bestSum_7 u0 u1 kk N (iI b) (iI v) (nI i) = kk (iI (bout (prs m1 m2 wo1 we1 wo2 we2) m2 wo1 wo2 d i b v).1) := by
  intro d
  have q1 := o1.2.1
  have q2 := o2.2.1
  induction d with
  | zero =>
    intro N i b v a1 a2 hb
    obtain ⟨N, rfl⟩ : ∃ n', N = n' + 1 := ⟨N - 1, by omega⟩
    rw [B_X1_bestSum_7, h1.1, if_leN (by omega) (by omega), if_pos (by omega)]
    rfl
  | succ d ih =>
    intro N i b v a1 a2 hb
    obtain ⟨N, rfl⟩ : ∃ n', N = n' + 1 := ⟨N - 1, by omega⟩
    have r1 := o1.2.2 i (by omega)
    rw [B_X1_bestSum_7, h1.1, if_leN (by omega) (by omega), if_neg (by omega), show (0 : Int32) = nI 0 from rfl, best1_in o1 o2 h1 h2 (i := i) (by omega) _ m2 1000 0 b v (by omega) (by omega) hb, nI_1, bout_s]
    exact ih N (i + 1) _ _ (by omega) (by omega) (bin_ok ⟨r1.1, r1.2.1⟩ m2 0 b v (fun q _ a => ⟨(o2.2.2 q (by omega)).1, (o2.2.2 q (by omega)).2.1⟩) hb)
theorem bestSum1 (o1 : okB m1 wo1 we1) (o2 : okB m2 wo2 we2) (h1 : bkC u0 m1 wo1 we1) (h2 : bkC u1 m2 wo2 we2) : f_X1_bestSum u0 u1 = some (iI (bout (prs m1 m2 wo1 we1 wo2 we2) m2 wo1 wo2 m1 0 0 (-1)).1) := by
  have e := fun kk => best1_out o1 o2 h1 h2 kk m1 1000 0 0 (-1) (by omega) (by have := o1.2.1; omega) ⟨by omega, by omega, Or.inl rfl⟩
  rw [show iI 0 = (0 : Int32) from rfl, show iI (-1) = (-1 : Int32) from rfl, show nI 0 = (0 : Int32) from rfl] at e
  unfold f_X1_bestSum
  rw [e]
theorem bothAlone1 (o1 : okB m1 wo1 we1) (o2 : okB m2 wo2 we2) (h1 : bkC u0 m1 wo1 we1) (h2 : bkC u1 m2 wo2 we2) : ∃ r1 r2, isBest m1 wo1 we1 r1 ∧ isBest m2 wo2 we2 r2 ∧ f_X1_bothAlone u0 u1 = some (iI (ta m1 wo1 we1 r1 * sh m2 we2 0 + ta m2 wo2 we2 r2 * sh m1 we1 0)) := by
  obtain ⟨r1, b1, e1⟩ := bestPlace1 o1 h1
  obtain ⟨r2, b2, e2⟩ := bestPlace1 o2 h2
  have q1 := o1.2.1
  have q2 := o2.2.1
  refine ⟨r1, r2, b1, b2, ?_⟩
  unfold f_X1_bothAlone
  rw [e1, Option.bind_some, take1 h1 q1 (by have := b1.1; omega), Option.bind_some, all1 h2 q2, Option.bind_some, e2, Option.bind_some, take1 h2 q2 (by have := b2.1; omega), Option.bind_some, all1 h1 q1, Option.bind_some, iI_mul, iI_mul, iI_add]
end BD
section BM
variable {u : StM} {b1 b2 m1 m2 : Nat} {wo1 we1 wo2 we2 : Nat → Int}
theorem pairs2_in (o1 : okB m1 wo1 we1) (o2 : okB m2 wo2 we2) (hb1 : b1 < 3) (hb2 : b2 < 3) (h1 : bkM u b1 m1 wo1 we1) (h2 : bkM u b2 m2 wo2 we2) {s : Int} (hs : -10 ≤ s ∧ s ≤ 2000) {i : Nat} (hi : i < m1) (kk : Int32 → Int32 → Int32 → Int32 → Int32 → Option Int32) : ∀ d N k acc, k + d = m2 → d < N → B_X2_pairs_20 u kk N (nI b1) (nI b2) (iI s) (iI acc) (nI i) (nI k) = kk (nI b1) (nI b2) (iI s) (iI (acc + su (fun k => if wo1 i + wo2 k < s then 0 else we1 i * we2 k) k d)) (nI i) := by
  intro d
  have q1 := o1.2.1
  have q2 := o2.2.1
  induction d with
  | zero =>
    intro N k acc a1 a2
    obtain ⟨N, rfl⟩ : ∃ n', N = n' + 1 := ⟨N - 1, by omega⟩
    rw [B_X2_pairs_20, gdN hb2 (by omega), cl (by omega), h2.1, if_leN (by omega) (by omega), if_pos (by omega)]
    show _ = kk (nI b1) (nI b2) (iI s) (iI (acc + 0)) (nI i)
    rw [Int.add_zero]
  | succ d ih =>
    intro N k acc a1 a2
    obtain ⟨N, rfl⟩ : ∃ n', N = n' + 1 := ⟨N - 1, by omega⟩
    have r1 := o1.2.2 i hi
    have r2 := o2.2.2 k (by omega)
    have g1 : ¬ (nI (5 * b1 + i) < 0 ∨ 15 ≤ (nI (5 * b1 + i)).toNatClampNeg) := nI_in (by omega) (by omega)
    have g2 : ¬ (nI (5 * b2 + k) < 0 ∨ 15 ≤ (nI (5 * b2 + k)).toNatClampNeg) := nI_in (by omega) (by omega)
    rw [B_X2_pairs_20, gdN hb2 (by omega), cl (by omega), h2.1, if_leN (by omega) (by omega), if_neg (by omega), ix5, ix5]
    simp only [if_neg g1, if_neg g2]
    rw [cl (show 5 * b1 + i < 2147483648 by omega), cl (show 5 * b2 + k < 2147483648 by omega), (h1.2 i hi).1, (h2.2 k (by omega)).1, (h1.2 i hi).2, (h2.2 k (by omega)).2, iI_add, if_lt (by omega) (by omega), iI_mul, iI_add, show (0 : Int32) = iI 0 from rfl, iI_add, Int.add_zero, nI_1, ih N (k + 1) acc (by omega) (by omega), ih N (k + 1) (acc + we1 i * we2 k) (by omega) (by omega)]
    show _ = kk (nI b1) (nI b2) (iI s) (iI (acc + ((if wo1 i + wo2 k < s then 0 else we1 i * we2 k) + su _ (k + 1) d))) (nI i)
    split
    · rw [Int.zero_add]
    · rw [Int.add_assoc]
theorem pairs2_out (o1 : okB m1 wo1 we1) (o2 : okB m2 wo2 we2) (hb1 : b1 < 3) (hb2 : b2 < 3) (h1 : bkM u b1 m1 wo1 we1) (h2 : bkM u b2 m2 wo2 we2) {s : Int} (hs : -10 ≤ s ∧ s ≤ 2000) (kk : Int32 → Option Int32) : ∀ d N i acc, i + d = m1 → d < N → B_X2_pairs_6 u kk N (nI b1) (nI b2) (iI s) (iI acc) (nI i) = kk (iI (acc + su (fun i => su (fun k => if wo1 i + wo2 k < s then 0 else we1 i * we2 k) 0 m2) i d)) := by
  intro d
  have q1 := o1.2.1
  have q2 := o2.2.1
  induction d with
  | zero =>
    intro N i acc a1 a2
    obtain ⟨N, rfl⟩ : ∃ n', N = n' + 1 := ⟨N - 1, by omega⟩
    rw [B_X2_pairs_6, gdN hb1 (by omega), cl (by omega), h1.1, if_leN (by omega) (by omega), if_pos (by omega)]
    show _ = kk (iI (acc + 0))
    rw [Int.add_zero]
  | succ d ih =>
    intro N i acc a1 a2
    obtain ⟨N, rfl⟩ : ∃ n', N = n' + 1 := ⟨N - 1, by omega⟩
    have e := fun kk => pairs2_in o1 o2 hb1 hb2 h1 h2 hs (i := i) (by omega) kk m2 1000 0 acc (by omega) (by omega)
    rw [show nI 0 = (0 : Int32) from rfl] at e
    rw [B_X2_pairs_6, gdN hb1 (by omega), cl (by omega), h1.1, if_leN (by omega) (by omega), if_neg (by omega), e, nI_1, ih N (i + 1) _ (by omega) (by omega)]
    show kk (iI (acc + su _ 0 m2 + su _ (i + 1) d)) = kk (iI (acc + (su _ 0 m2 + su _ (i + 1) d)))
    rw [Int.add_assoc]
theorem pairs2 (o1 : okB m1 wo1 we1) (o2 : okB m2 wo2 we2) (hb1 : b1 < 3) (hb2 : b2 < 3) (h1 : bkM u b1 m1 wo1 we1) (h2 : bkM u b2 m2 wo2 we2) {s : Int} (hs : -10 ≤ s ∧ s ≤ 2000) : f_X2_pairs u (nI b1) (nI b2) (iI s) = some (iI (prs m1 m2 wo1 we1 wo2 we2 s)) := by
  have e := fun kk => pairs2_out o1 o2 hb1 hb2 h1 h2 hs kk m1 1000 0 0 (by omega) (by have := o1.2.1; omega)
  rw [show iI 0 = (0 : Int32) from rfl, show nI 0 = (0 : Int32) from rfl] at e
  unfold f_X2_pairs
  rw [e, Int.zero_add]
  rfl
theorem best2_in (o1 : okB m1 wo1 we1) (o2 : okB m2 wo2 we2) (hb1 : b1 < 3) (hb2 : b2 < 3) (h1 : bkM u b1 m1 wo1 we1) (h2 : bkM u b2 m2 wo2 we2) (x3 : Int32) {i : Nat} (hi : i < m1) (kk : StM → Int32 → Int32 → Int32 → Int32 → Int64 → Int32 → Option (Int32 × StM)) : ∀ d N k b v, k + d = m2 → d < N → bsok (prs m1 m2 wo1 we1 wo2 we2) b v → B_X2_bundle_64 kk N u (nI b1) (nI b2) x3 (iI b) (iL v) (nI i) (nI k) = kk u (nI b1) (nI b2) x3 (iI (bin (prs m1 m2 wo1 we1 wo2 we2) (wo1 i) wo2 d k b v).1) (iL (bin (prs m1 m2 wo1 we1 wo2 we2) (wo1 i) wo2 d k b v).2) (nI i) := by
  intro d
  have q1 := o1.2.1
  have q2 := o2.2.1
  have hP := fun s => prs_rng o1 o2 s
  induction d with
  | zero =>
    intro N k b v a1 a2 hb
    obtain ⟨N, rfl⟩ : ∃ n', N = n' + 1 := ⟨N - 1, by omega⟩
    rw [B_X2_bundle_64, gdN hb2 (by omega), cl (by omega), h2.1, if_leN (by omega) (by omega), if_pos (by omega)]
    rfl
  | succ d ih =>
    intro N k b v a1 a2 hb
    obtain ⟨N, rfl⟩ : ∃ n', N = n' + 1 := ⟨N - 1, by omega⟩
    have r1 := o1.2.2 i hi
    have r2 := o2.2.2 k (by omega)
    have hv := bsok_v hP hb
    have hb1' := hb.1
    have hb2' := hb.2.1
    have hpp := hP (wo1 i + wo2 k)
    have hn : bsok (prs m1 m2 wo1 we1 wo2 we2) (wo1 i + wo2 k) ((wo1 i + wo2 k) * prs m1 m2 wo1 we1 wo2 we2 (wo1 i + wo2 k)) := ⟨by omega, by omega, Or.inr ⟨by omega, rfl⟩⟩
    have hnv := bsok_v hP hn
    rw [B_X2_bundle_64, gdN hb2 (by omega), cl (by omega), h2.1, if_leN (by omega) (by omega), if_neg (by omega), ix5, ix5, gdN (by omega) (by omega), gdN (by omega) (by omega), cl (by omega), cl (by omega), (h1.2 i hi).1, (h2.2 k (by omega)).1, iI_add, pairs2 o1 o2 hb1 hb2 h1 h2 (by omega), Option.bind_some, iI_L (by omega), iI_L (by omega), iL_mul, if_cgt (by omega) (by omega), if_ceq (by omega) (by omega), if_le (by omega) (by omega), nI_1, bin_s]
    split
    · exact ih N (k + 1) _ _ (by omega) (by omega) hn
    · split
      · split
        · exact ih N (k + 1) _ _ (by omega) (by omega) hb
        · exact ih N (k + 1) _ _ (by omega) (by omega) hn
      · exact ih N (k + 1) _ _ (by omega) (by omega) hb
theorem best2_out (o1 : okB m1 wo1 we1) (o2 : okB m2 wo2 we2) (hb1 : b1 < 3) (hb2 : b2 < 3) (h1 : bkM u b1 m1 wo1 we1) (h2 : bkM u b2 m2 wo2 we2) (x3 : Int32) (kk : StM → Int32 → Int32 → Int32 → Int32 → Int64 → Option (Int32 × StM)) : ∀ d N i b v, i + d = m1 → d < N → bsok (prs m1 m2 wo1 we1 wo2 we2) b v → B_X2_bundle_50 kk N u (nI b1) (nI b2) x3 (iI b) (iL v) (nI i) = kk u (nI b1) (nI b2) x3 (iI (bout (prs m1 m2 wo1 we1 wo2 we2) m2 wo1 wo2 d i b v).1) (iL (bout (prs m1 m2 wo1 we1 wo2 we2) m2 wo1 wo2 d i b v).2) := by
  intro d
  have q1 := o1.2.1
  have q2 := o2.2.1
  induction d with
  | zero =>
    intro N i b v a1 a2 hb
    obtain ⟨N, rfl⟩ : ∃ n', N = n' + 1 := ⟨N - 1, by omega⟩
    rw [B_X2_bundle_50, gdN hb1 (by omega), cl (by omega), h1.1, if_leN (by omega) (by omega), if_pos (by omega)]
    rfl
  | succ d ih =>
    intro N i b v a1 a2 hb
    obtain ⟨N, rfl⟩ : ∃ n', N = n' + 1 := ⟨N - 1, by omega⟩
    have r1 := o1.2.2 i (by omega)
    have e := fun kk => best2_in o1 o2 hb1 hb2 h1 h2 x3 (i := i) (by omega) kk m2 1000 0 b v (by omega) (by omega) hb
    rw [show nI 0 = (0 : Int32) from rfl] at e
    rw [B_X2_bundle_50, gdN hb1 (by omega), cl (by omega), h1.1, if_leN (by omega) (by omega), if_neg (by omega), e, nI_1, bout_s]
    exact ih N (i + 1) _ _ (by omega) (by omega) (bin_ok ⟨r1.1, r1.2.1⟩ m2 0 b v (fun q _ a => ⟨(o2.2.2 q (by omega)).1, (o2.2.2 q (by omega)).2.1⟩) hb)
end BM
theorem or0 (y : Int32) : (0 : Int32) ||| y = y := by
  apply Int32.toBitVec_inj.mp
  rw [Int32.toBitVec_or]
  exact BitVec.zero_or
theorem orm1 (y : Int32) : (-1 : Int32) ||| y = -1 := by
  apply Int32.toBitVec_inj.mp
  rw [Int32.toBitVec_or]
  exact BitVec.allOnes_or
theorem signum1 {z : Int} (h : -100000000 ≤ z ∧ z ≤ 100000000) : f_J6_signum_0f7a4 (iI z) = some (if z < 0 then -1 else if z = 0 then 0 else 1) := by
  unfold f_J6_signum_0f7a4
  have hs := pk_shr (iI z) ((31 : Int32) &&& 31) 31 (by decide)
  rw [iI_toInt (by omega)] at hs
  have e1 : z >>> 31 = z / 2147483648 := Int.shiftRight_eq_div_pow z 31
  rw [e1] at hs
  by_cases h0 : z < 0
  · rw [if_pos h0]
    have q : (iI z >>> ((31 : Int32) &&& 31)) = -1 := by
      apply Int32.toInt_inj.mp
      rw [hs]
      show z / 2147483648 = -1
      omega
    rw [q, orm1]
  · have q : (iI z >>> ((31 : Int32) &&& 31)) = 0 := by
      apply Int32.toInt_inj.mp
      rw [hs]
      show z / 2147483648 = 0
      omega
    rw [if_neg h0, q, or0]
    by_cases h1 : z = 0
    · rw [if_pos h1, h1]
      decide
    · rw [if_neg h1]
      obtain ⟨k, hk, rfl⟩ : ∃ k : Nat, 0 < k ∧ z = (k : Int) := ⟨z.toNat, by omega, by omega⟩
      have hu := pk_ushr (-(iI (k : Int))) (31 : Int32) 31 (by decide)
      congr 1
      apply Int32.toBitVec_inj.mp
      apply BitVec.eq_of_toNat_eq
      rw [hu, Int32.toBitVec_neg, BitVec.toNat_neg, ← iI_nat, pk_tn (by omega)]
      show (2 ^ 32 - k) % 2 ^ 32 / 2 ^ 31 = 1
      omega
