def pl3 (i j k : Nat) : Nat → Nat := fun b => if b = 0 then i else if b = 1 then j else k
theorem pk3_pl3 (i j k b : Nat) : pk3 (nI i) (nI j) (nI k) b = nI (pl3 i j k b) := by
  unfold pk3 pl3
  split
  · rfl
  · split <;> rfl
theorem pl3_lt {m : Nat → Nat} {i j k : Nat} (hi : i < m 0) (hj : j < m 1) (hk : k < m 2) : ∀ b, b < 3 → pl3 i j k b < m b := by
  intro b hb
  rcases co3 hb with rfl | rfl | rfl
  · exact hi
  · exact hj
  · exact hk
def valB (n : Nat) (m : Nat → Nat) (wo hz hr : Nat → Nat → Int) (pl : Nat → Nat) : Int := su (fun b => if wn n hz hr pl = nI b then lw n m wo hz hr pl b else 0) 0 n
theorem valB_none {n : Nat} {m : Nat → Nat} {wo hz hr : Nat → Nat → Int} {pl : Nat → Nat} (hn : n ≤ 3) (h : wn n hz hr pl = -9) : valB n m wo hz hr pl = 0 := su_zero _ _ (fun q _ h2 => by
  have hne : ¬ wn n hz hr pl = nI q := by
    rw [h]
    rcases co3 (show q < 3 by omega) with rfl | rfl | rfl <;> decide
  rw [if_neg hne])
theorem valB_one {n : Nat} {m : Nat → Nat} {wo hz hr : Nat → Nat → Int} {pl : Nat → Nat} (hn : n ≤ 3) {c : Nat} (hc : c < n) (h : wn n hz hr pl = nI c) : valB n m wo hz hr pl = lw n m wo hz hr pl c := by
  unfold valB
  rw [su_single (c := c) n 0 (by omega) (by omega) (fun q _ h2 hne => by
    rw [h, if_neg (fun e => hne ((nI_eq (by omega) (by omega)).mp e.symm))]), if_pos h]
theorem cfg_rng {T : Nat → Int} : ∀ d b g s, (∀ q, b ≤ q → q < b + d → 0 ≤ T q ∧ T q ≤ 1000) → -1 ≤ g → g ≤ 1000 → 0 ≤ s → s ≤ 1000 → -1 ≤ (cfg T d b g s).1 ∧ (cfg T d b g s).1 ≤ 1000 ∧ 0 ≤ (cfg T d b g s).2 ∧ (cfg T d b g s).2 ≤ 1000 := by
  intro d
  induction d with
  | zero => intro b g s h h1 h2 h3 h4; exact ⟨h1, h2, h3, h4⟩
  | succ d ih =>
    intro b g s h h1 h2 h3 h4
    have t := h b (by omega) (by omega)
    exact ih (b + 1) _ _ (fun q a1 a2 => h q (by omega) (by omega)) (by split <;> omega) (by split <;> omega) (by split <;> (try split) <;> omega) (by split <;> (try split) <;> omega)
theorem pkd_rng {kd : Nat} {rs gr sec : Int} (h1 : 0 ≤ rs ∧ rs ≤ 1000) (h2 : 0 ≤ sec ∧ sec ≤ 1000) : pkd kd rs gr sec = -9 ∨ (0 ≤ pkd kd rs gr sec ∧ pkd kd rs gr sec ≤ 1100) := by
  have hp : 0 ≤ (if sec < rs then rs else sec) ∧ (if sec < rs then rs else sec) ≤ 1000 := by split <;> omega
  unfold pkd
  generalize (if sec < rs then rs else sec) = w at *
  have e : w.tdiv 10 = w / 10 := Int.tdiv_eq_ediv_of_nonneg hp.1
  rw [e]
  split
  · right; omega
  · split
    · split
      · right; omega
      · right; omega
    · left; rfl
def valK (n : Nat) (wo : Nat → Nat → Int) (rs : Int) (kd : Nat) (pl : Nat → Nat) : Int := if pkd kd rs (cfg (fun b => wo b (pl b)) n 0 (-1) 0).1 (cfg (fun b => wo b (pl b)) n 0 (-1) 0).2 = -9 then 0 else pkd kd rs (cfg (fun b => wo b (pl b)) n 0 (-1) 0).1 (cfg (fun b => wo b (pl b)) n 0 (-1) 0).2
abbrev S3 (m : Nat → Nat) (we : Nat → Nat → Int) (v : Nat → Nat → Nat → Int) : Int := su (fun i => su (fun j => su (fun k => we 0 i * we 1 j * we 2 k * v i j k) 0 (m 2)) 0 (m 1)) 0 (m 0)
abbrev D3 (m : Nat → Nat) (we : Nat → Nat → Int) : Int := sh (m 0) (we 0) 0 * sh (m 1) (we 1) 0 * sh (m 2) (we 2) 0
section MN
variable {uS : StS} {n : Nat} {m : Nat → Nat} {wo we hz hr : Nat → Nat → Int}
theorem paidAt_best (h : relS uS n m wo we hz hr) {i j k : Nat} (hi : i < m 0) (hj : j < m 1) (hk : k < m 2) : f_X1_paidAt uS 3 (nI i) (nI j) (nI k) = some (iI (valB n m wo hz hr (pl3 i j k))) ∧ 0 ≤ valB n m wo hz hr (pl3 i j k) ∧ valB n m wo hz hr (pl3 i j k) ≤ 1100 := by
  have hn := h.2.1
  have hpl : ∀ b, b < n → pl3 i j k b < m b ∧ pk3 (nI i) (nI j) (nI k) b = nI (pl3 i j k b) := fun b hb => ⟨pl3_lt hi hj hk b (by omega), pk3_pl3 i j k b⟩
  unfold f_X1_paidAt
  rw [if_pos rfl, winner1 h _ _ _ _ hpl, Option.bind_some]
  rcases wn_in n hz hr (pl3 i j k) with e | ⟨c, hc, e⟩
  · rw [valB_none hn e, e, if_pos rfl]
    exact ⟨rfl, by omega, by omega⟩
  · have hne : ¬ nI c = -9 := by rcases co3 (show c < 3 by omega) with rfl | rfl | rfl <;> decide
    have hl := lw_rng (n := n) h.2.2.2 (pl3 i j k) (c := c) (by omega)
    rw [valB_one hn hc e, e, if_neg hne, leastWinning1 h _ _ _ _ hpl hc, Option.bind_some]
    exact ⟨rfl, by omega, by omega⟩
theorem paidAt_kind (h : relS uS n m wo we hz hr) {rs : Int} (hs : s_reservePrice uS = iI rs) (h1 : 0 ≤ rs ∧ rs ≤ 1000) {kd : Nat} (hkd : kd < 3) {i j k : Nat} (hi : i < m 0) (hj : j < m 1) (hk : k < m 2) : f_X1_paidAt uS (nI kd) (nI i) (nI j) (nI k) = some (iI (valK n wo rs kd (pl3 i j k))) ∧ 0 ≤ valK n wo rs kd (pl3 i j k) ∧ valK n wo rs kd (pl3 i j k) ≤ 1100 := by
  have hn := h.2.1
  have b0 := h.2.2.2 0 (by omega)
  have b1 := h.2.2.2 1 (by omega)
  have b2 := h.2.2.2 2 (by omega)
  have hT : ∀ b, b < n → 0 ≤ wo b (pl3 i j k b) ∧ wo b (pl3 i j k b) ≤ 1000 ∧ pk3 (iI (wo 0 i)) (iI (wo 1 j)) (iI (wo 2 k)) b = iI (wo b (pl3 i j k b)) := fun b hb => by
    have q := (h.2.2.2 b (by omega)).1.2.2 _ (pl3_lt hi hj hk b (by omega))
    refine ⟨q.1, q.2.1, ?_⟩
    rcases co3 (show b < 3 by omega) with rfl | rfl | rfl <;> rfl
  have hc := cfg_rng (T := fun b => wo b (pl3 i j k b)) n 0 (-1) 0 (fun q _ h2 => ⟨(hT q (by omega)).1, (hT q (by omega)).2.1⟩) (by omega) (by omega) (by omega) (by omega)
  have hr9 := pkd_rng (kd := kd) (gr := (cfg (fun b => wo b (pl3 i j k b)) n 0 (-1) 0).1) h1 ⟨hc.2.2.1, hc.2.2.2⟩
  have h3 : ¬ nI kd = 3 := by rcases co3 hkd with rfl | rfl | rfl <;> decide
  have w0 := worthAt1 b0.2.1 b0.1.2.1 (i := i) (by have := b0.1.2.1; omega)
  have w1 := worthAt1 b1.2.1 b1.1.2.1 (i := j) (by have := b1.1.2.1; omega)
  have w2 := worthAt1 b2.2.1 b2.1.2.1 (i := k) (by have := b2.1.2.1; omega)
  rw [if_pos hi] at w0
  rw [if_pos hj] at w1
  rw [if_pos hk] at w2
  unfold f_X1_paidAt valK
  rw [if_neg h3, w0, Option.bind_some, w1, Option.bind_some, w2, Option.bind_some, paidByKind1 h.1 hn h.2.2.1 _ _ _ (fun b => wo b (pl3 i j k b)) hT hs h1 hkd hc, Option.bind_some]
  generalize pkd kd rs _ _ = v at *
  rw [show (-9 : Int32) = iI (-9) from rfl, if_eq (by omega) (by omega)]
  by_cases e : v = -9
  · rw [if_pos e, if_pos e]
    exact ⟨rfl, by omega, by omega⟩
  · rw [if_neg e, if_neg e]
    exact ⟨rfl, by omega, by omega⟩
theorem mean1_in (h : relS uS n m wo we hz hr) (rule x2 : Int32) (v : Nat → Nat → Nat → Int) {i j : Nat} (hi : i < m 0) (hj : j < m 1) (hv : ∀ k, k < m 2 → f_X1_paidAt uS rule (nI i) (nI j) (nI k) = some (iI (v i j k)) ∧ 0 ≤ v i j k ∧ v i j k ≤ 1100) (kk : Int32 → Int32 → Int64 → Int32 → Int32 → Option Int64) : ∀ d N k acc, k + d = m 2 → d < N → B_X1_meanPaid_35 uS kk N rule x2 (iL acc) (nI i) (nI j) (nI k) = kk rule x2 (iL (acc + su (fun k => we 0 i * we 1 j * we 2 k * v i j k) k d)) (nI i) (nI j) := by
  intro d
  have b0 := h.2.2.2 0 (by omega)
  have b1 := h.2.2.2 1 (by omega)
  have b2 := h.2.2.2 2 (by omega)
  have q0 := b0.1.2.1
  have q1 := b1.1.2.1
  have q2 := b2.1.2.1
  induction d with
  | zero =>
    intro N k acc h1 h2
    obtain ⟨N, rfl⟩ : ∃ n', N = n' + 1 := ⟨N - 1, by omega⟩
    rw [B_X1_meanPaid_35, b2.2.1.1, if_leN (by omega) (by omega), if_pos (by omega)]
    show _ = kk rule x2 (iL (acc + 0)) (nI i) (nI j)
    rw [Int.add_zero]
  | succ d ih =>
    intro N k acc h1 h2
    obtain ⟨N, rfl⟩ : ∃ n', N = n' + 1 := ⟨N - 1, by omega⟩
    have r0 := b0.1.2.2 i hi
    have r1 := b1.1.2.2 j hj
    have r2 := b2.1.2.2 k (by omega)
    have rv := hv k (by omega)
    rw [B_X1_meanPaid_35, b2.2.1.1, if_leN (by omega) (by omega), if_neg (by omega), weightAt1 b0.2.1 q0 (by omega), if_pos hi, Option.bind_some, weightAt1 b1.2.1 q1 (by omega), if_pos hj, Option.bind_some, weightAt1 b2.2.1 q2 (by omega), if_pos (by omega), Option.bind_some, rv.1, Option.bind_some, iI_L (by omega), iI_L (by omega), iI_L (by omega), iI_L (by omega), iL_mul, iL_mul, iL_mul, iL_add, nI_1, ih N (k + 1) _ (by omega) (by omega)]
    show kk rule x2 (iL (acc + we 0 i * we 1 j * we 2 k * v i j k + su _ (k + 1) d)) (nI i) (nI j) = kk rule x2 (iL (acc + (we 0 i * we 1 j * we 2 k * v i j k + su _ (k + 1) d))) (nI i) (nI j)
    rw [Int.add_assoc]
theorem mean1_mid (h : relS uS n m wo we hz hr) (rule x2 : Int32) (v : Nat → Nat → Nat → Int) {i : Nat} (hi : i < m 0) (hv : ∀ j k, j < m 1 → k < m 2 → f_X1_paidAt uS rule (nI i) (nI j) (nI k) = some (iI (v i j k)) ∧ 0 ≤ v i j k ∧ v i j k ≤ 1100) (kk : Int32 → Int32 → Int64 → Int32 → Option Int64) : ∀ d N j acc, j + d = m 1 → d < N → B_X1_meanPaid_20 uS kk N rule x2 (iL acc) (nI i) (nI j) = kk rule x2 (iL (acc + su (fun j => su (fun k => we 0 i * we 1 j * we 2 k * v i j k) 0 (m 2)) j d)) (nI i) := by
  intro d
  have b1 := h.2.2.2 1 (by omega)
  have b2 := h.2.2.2 2 (by omega)
  have q1 := b1.1.2.1
  have q2 := b2.1.2.1
  induction d with
  | zero =>
    intro N j acc h1 h2
    obtain ⟨N, rfl⟩ : ∃ n', N = n' + 1 := ⟨N - 1, by omega⟩
    rw [B_X1_meanPaid_20, b1.2.1.1, if_leN (by omega) (by omega), if_pos (by omega)]
    show _ = kk rule x2 (iL (acc + 0)) (nI i)
    rw [Int.add_zero]
  | succ d ih =>
    intro N j acc h1 h2
    obtain ⟨N, rfl⟩ : ∃ n', N = n' + 1 := ⟨N - 1, by omega⟩
    rw [B_X1_meanPaid_20, b1.2.1.1, if_leN (by omega) (by omega), if_neg (by omega), show (0 : Int32) = nI 0 from rfl, mean1_in h rule x2 v hi (by omega) (fun k hk => hv j k (by omega) hk) _ (m 2) 1000 0 acc (by omega) (by omega), nI_1, ih N (j + 1) _ (by omega) (by omega)]
    show kk rule x2 (iL (acc + su _ 0 (m 2) + su _ (j + 1) d)) (nI i) = kk rule x2 (iL (acc + (su _ 0 (m 2) + su _ (j + 1) d))) (nI i)
    rw [Int.add_assoc]
theorem mean1_out (h : relS uS n m wo we hz hr) (rule x2 : Int32) (v : Nat → Nat → Nat → Int) (hv : ∀ i j k, i < m 0 → j < m 1 → k < m 2 → f_X1_paidAt uS rule (nI i) (nI j) (nI k) = some (iI (v i j k)) ∧ 0 ≤ v i j k ∧ v i j k ≤ 1100) (kk : Int32 → Int64 → Option Int64) : ∀ d N i acc, i + d = m 0 → d < N → B_X1_meanPaid_5 uS kk N rule x2 (iL acc) (nI i) = kk x2 (iL (acc + su (fun i => su (fun j => su (fun k => we 0 i * we 1 j * we 2 k * v i j k) 0 (m 2)) 0 (m 1)) i d)) := by
  intro d
  have b0 := h.2.2.2 0 (by omega)
  have b1 := h.2.2.2 1 (by omega)
  have q0 := b0.1.2.1
  have q1 := b1.1.2.1
  induction d with
  | zero =>
    intro N i acc h1 h2
    obtain ⟨N, rfl⟩ : ∃ n', N = n' + 1 := ⟨N - 1, by omega⟩
    rw [B_X1_meanPaid_5, b0.2.1.1, if_leN (by omega) (by omega), if_pos (by omega)]
    show _ = kk x2 (iL (acc + 0))
    rw [Int.add_zero]
  | succ d ih =>
    intro N i acc h1 h2
    obtain ⟨N, rfl⟩ : ∃ n', N = n' + 1 := ⟨N - 1, by omega⟩
    rw [B_X1_meanPaid_5, b0.2.1.1, if_leN (by omega) (by omega), if_neg (by omega), show (0 : Int32) = nI 0 from rfl, mean1_mid h rule x2 v (by omega) (fun j k hj hk => hv i j k (by omega) hj hk) _ (m 1) 1000 0 acc (by omega) (by omega), nI_1, ih N (i + 1) _ (by omega) (by omega)]
    show kk x2 (iL (acc + su _ 0 (m 1) + su _ (i + 1) d)) = kk x2 (iL (acc + (su _ 0 (m 1) + su _ (i + 1) d)))
    rw [Int.add_assoc]
theorem S3_rng (h : relB uS m wo we hz hr) (v : Nat → Nat → Nat → Int) (hv : ∀ i j k, i < m 0 → j < m 1 → k < m 2 → 0 ≤ v i j k ∧ v i j k ≤ 1100) : 0 ≤ S3 m we v ∧ S3 m we v ≤ 1099511627776 := by
  have b0 := h 0 (by omega)
  have b1 := h 1 (by omega)
  have b2 := h 2 (by omega)
  have q0 := b0.1.2.1
  have q1 := b1.1.2.1
  have q2 := b2.1.2.1
  have hk : ∀ i j, i < m 0 → j < m 1 → 0 ≤ su (fun k => we 0 i * we 1 j * we 2 k * v i j k) 0 (m 2) ∧ su (fun k => we 0 i * we 1 j * we 2 k * v i j k) 0 (m 2) ≤ 5 * 801900 := fun i j hi hj => by
    have r := su_rng (f := fun k => we 0 i * we 1 j * we 2 k * v i j k) (B := 801900) (m 2) 0 (fun k _ hk2 => by
      have r0 := b0.1.2.2 i hi
      have r1 := b1.1.2.2 j hj
      have r2 := b2.1.2.2 k (by omega)
      have rv := hv i j k hi hj (by omega)
      have p1 := mulab (a := we 0 i) (b := we 1 j) (A := 9) (B := 9) (by omega) (by omega)
      have p2 := mulab (a := we 0 i * we 1 j) (b := we 2 k) (A := 81) (B := 9) (by omega) (by omega)
      have p3 := mulab (a := we 0 i * we 1 j * we 2 k) (b := v i j k) (A := 729) (B := 1100) (by omega) (by omega)
      have s1 := Int.mul_nonneg (show 0 ≤ we 0 i by omega) (show 0 ≤ we 1 j by omega)
      have s2 := Int.mul_nonneg s1 (show 0 ≤ we 2 k by omega)
      have s3 := Int.mul_nonneg s2 rv.1
      exact ⟨s3, by show we 0 i * we 1 j * we 2 k * v i j k ≤ 801900; omega⟩)
    omega
  have hj : ∀ i, i < m 0 → 0 ≤ su (fun j => su (fun k => we 0 i * we 1 j * we 2 k * v i j k) 0 (m 2)) 0 (m 1) ∧ su (fun j => su (fun k => we 0 i * we 1 j * we 2 k * v i j k) 0 (m 2)) 0 (m 1) ≤ 25 * 801900 := fun i hi => by
    have r := su_rng (f := fun j => su (fun k => we 0 i * we 1 j * we 2 k * v i j k) 0 (m 2)) (B := 5 * 801900) (m 1) 0 (fun j _ hj2 => hk i j hi (by omega))
    omega
  have r := su_rng (f := fun i => su (fun j => su (fun k => we 0 i * we 1 j * we 2 k * v i j k) 0 (m 2)) 0 (m 1)) (B := 25 * 801900) (m 0) 0 (fun i _ hi2 => hj i (by omega))
  show 0 ≤ su (fun i => su (fun j => su (fun k => we 0 i * we 1 j * we 2 k * v i j k) 0 (m 2)) 0 (m 1)) 0 (m 0) ∧ su (fun i => su (fun j => su (fun k => we 0 i * we 1 j * we 2 k * v i j k) 0 (m 2)) 0 (m 1)) 0 (m 0) ≤ _
  omega
theorem D3_rng (h : relB uS m wo we hz hr) : 0 < D3 m we ∧ D3 m we ≤ 91125 := by
  have b0 := h 0 (by omega)
  have b1 := h 1 (by omega)
  have b2 := h 2 (by omega)
  have q0 := sh_pos b0.1 (i := 0) (by have := b0.1.1; omega)
  have q1 := sh_pos b1.1 (i := 0) (by have := b1.1.1; omega)
  have q2 := sh_pos b2.1 (i := 0) (by have := b2.1.1; omega)
  have r0 := sh_rng b0.1 0
  have r1 := sh_rng b1.1 0
  have r2 := sh_rng b2.1 0
  have p1 := mulab (a := sh (m 0) (we 0) 0) (b := sh (m 1) (we 1) 0) (A := 45) (B := 45) (by omega) (by omega)
  have p2 := mulab (a := sh (m 0) (we 0) 0 * sh (m 1) (we 1) 0) (b := sh (m 2) (we 2) 0) (A := 2025) (B := 45) (by omega) (by omega)
  have s1 := Int.mul_pos (show 0 < sh (m 0) (we 0) 0 by omega) (show 0 < sh (m 1) (we 1) 0 by omega)
  have s2 := Int.mul_pos s1 (show 0 < sh (m 2) (we 2) 0 by omega)
  show 0 < sh (m 0) (we 0) 0 * sh (m 1) (we 1) 0 * sh (m 2) (we 2) 0 ∧ sh (m 0) (we 0) 0 * sh (m 1) (we 1) 0 * sh (m 2) (we 2) 0 ≤ 91125
  omega
theorem mean1 (h : relS uS n m wo we hz hr) (rule p : Int32) (v : Nat → Nat → Nat → Int) (hv : ∀ i j k, i < m 0 → j < m 1 → k < m 2 → f_X1_paidAt uS rule (nI i) (nI j) (nI k) = some (iI (v i j k)) ∧ 0 ≤ v i j k ∧ v i j k ≤ 1100) : f_X1_meanPaid uS rule p = some (iL (lp (S3 m we v) (D3 m we) p)) := by
  have b0 := h.2.2.2 0 (by omega)
  have b1 := h.2.2.2 1 (by omega)
  have b2 := h.2.2.2 2 (by omega)
  have q0 := b0.1.2.1
  have s0 := S3_rng h.2.2.2 v (fun i j k hi hj hk => (hv i j k hi hj hk).2)
  have d0 := D3_rng h.2.2.2
  have r0 := sh_rng b0.1 0
  have r1 := sh_rng b1.1 0
  have r2 := sh_rng b2.1 0
  have hq : q_ok (S3 m we v) (D3 m we) := by omega
  unfold f_X1_meanPaid
  rw [show (0 : Int64) = iL 0 from rfl, show (0 : Int32) = nI 0 from rfl, mean1_out h rule p v hv _ (m 0) 1000 0 0 (by omega) (by omega), Int.zero_add, all1 b0.2.1 q0, Option.bind_some, all1 b1.2.1 b1.1.2.1, Option.bind_some, all1 b2.2.1 b2.1.2.1, Option.bind_some, iI_L (by omega), iI_L (by omega), iI_L (by omega), iL_mul, iL_mul, part1 hq, Option.bind_some]
end MN
