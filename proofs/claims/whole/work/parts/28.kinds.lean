theorem ite_iI {c : Prop} {dc : Decidable c} {a b : Int} : (@ite Int32 c dc (iI a) (iI b)) = iI (@ite Int c dc a b) := by
  by_cases h : c
  · rw [if_pos h, if_pos h]
  · rw [if_neg h, if_neg h]
theorem iI_div {a b : Int} (ha : -1000000 ≤ a ∧ a ≤ 1000000) (hb : r32 b) : iI a / iI b = iI (a.tdiv b) := by
  have h1 : (a.tdiv b).natAbs ≤ a.natAbs := by rw [Int.natAbs_tdiv]; exact Nat.div_le_self _ _
  apply Int32.toInt_inj.1
  rw [Int32.toInt_div, iI_toInt (by omega), iI_toInt hb, iI_toInt (by omega), bm32 (by omega)]
/-- the greatest told, and the greatest of the others: as the class goes -/
def cfg (T : Nat → Int) : Nat → Nat → Int → Int → Int × Int
  | 0, _, g, s => (g, s)
  | d + 1, b, g, s => cfg T d (b + 1) (if g < T b then T b else g) (if s < (if g < T b then g else T b) then (if g < T b then g else T b) else s)
/-- the greatest of the others: as the model goes -/
def mxo (T : Nat → Int) (best : Nat) : Nat → Nat → Int → Int
  | 0, _, v => v
  | d + 1, i, v => if i = best then mxo T best d (i + 1) v else if T i ≤ v then mxo T best d (i + 1) v else mxo T best d (i + 1) (T i)
theorem cfg_mxo {T : Nat → Int} {n best : Nat} (hn : 1 ≤ n) (hn3 : n ≤ 3) (hb : best < n) (hT : ∀ b, b < n → 0 ≤ T b ∧ T b ≤ 1000) (hm : ∀ j, j < n → T j ≤ T best) : cfg T n 0 (-1) 0 = (T best, mxo T best n 0 0) := by
  have t0 := hT 0 (by omega)
  have m0 := hm 0 (by omega)
  have key : (cfg T n 0 (-1) 0).1 = T best ∧ (cfg T n 0 (-1) 0).2 = mxo T best n 0 0 := by
    rcases (show n = 1 ∨ n = 2 ∨ n = 3 by omega) with rfl | rfl | rfl
    · rcases (show best = 0 by omega) with rfl
      refine ⟨?_, ?_⟩ <;> simp [cfg, mxo] <;> (repeat' split) <;> omega
    · have t1 := hT 1 (by omega)
      have m1 := hm 1 (by omega)
      rcases (show best = 0 ∨ best = 1 by omega) with rfl | rfl <;> simp [cfg, mxo] <;> constructor <;> (repeat' split) <;> omega
    · have t1 := hT 1 (by omega)
      have m1 := hm 1 (by omega)
      have t2 := hT 2 (by omega)
      have m2 := hm 2 (by omega)
      rcases (show best = 0 ∨ best = 1 ∨ best = 2 by omega) with rfl | rfl | rfl <;> simp [cfg, mxo] <;> constructor <;> (repeat' split) <;> omega
  exact Prod.ext key.1 key.2
/-- what is paid by a kind -/
def pkd (kd : Nat) (rs gr sec : Int) : Int := if kd = 0 then sec else if rs ≤ gr then (if kd = 1 then (if sec < rs then rs else sec) else (if sec < rs then rs else sec) + (if sec < rs then rs else sec).tdiv 10) else -9
section KD
variable {uS : StS} {uM : StM} {n : Nat}
theorem price1 {rs sec : Int} (hs : s_reservePrice uS = iI rs) (h1 : 0 ≤ rs ∧ rs ≤ 1000) (h2 : 0 ≤ sec ∧ sec ≤ 1000) {kd : Nat} (hk : kd < 3) {gr : Int} (hg : kd = 0 ∨ rs ≤ gr) : f_X1_priceOf uS (nI kd) (iI sec) = some (iI (pkd kd rs gr sec)) := by
  unfold f_X1_priceOf B_X1_priceOf_16 pkd
  rw [hs, if_lt (by omega) (by omega), ite_iI]
  have hp : 0 ≤ (if sec < rs then rs else sec) ∧ (if sec < rs then rs else sec) ≤ 1000 := by split <;> omega
  generalize (if sec < rs then rs else sec) = w at *
  rcases co3 hk with rfl | rfl | rfl
  · rfl
  · rw [if_neg (by decide), if_pos (by decide), if_neg (by decide), if_pos (by omega), if_pos rfl]
  · rw [if_neg (by decide), if_neg (by decide), if_neg (by decide), if_pos (by omega), if_neg (by decide), show (10 : Int32) = iI 10 from rfl, iI_div (by omega) (by omega), iI_add]
theorem paidByKind1_loop (hn : n ≤ 3) (hS : s_buyerCount uS = nI n) (x1 x2 x3 x4 : Int32) (T : Nat → Int) (hT : ∀ b, b < n → 0 ≤ T b ∧ T b ≤ 1000 ∧ pk3 x2 x3 x4 b = iI (T b)) (k : Int32 → Int32 → Int32 → Option Int32) : ∀ d N b g s, b + d = n → d < N → -1 ≤ g → g ≤ 1000 → 0 ≤ s → s ≤ 1000 → B_X1_paidByKind_9 uS k N x1 x2 x3 x4 (iI g) (iI s) (nI b) = k x1 (iI (cfg T d b g s).1) (iI (cfg T d b g s).2) := by
  intro d
  induction d with
  | zero =>
    intro N b g s h1 h2 h3 h4 h5 h6
    obtain ⟨N, rfl⟩ : ∃ n', N = n' + 1 := ⟨N - 1, by omega⟩
    rw [B_X1_paidByKind_9, hS, if_leN (by omega) (by omega), if_pos (by omega)]
    rfl
  | succ d ih =>
    intro N b g s h1 h2 h3 h4 h5 h6
    obtain ⟨N, rfl⟩ : ∃ n', N = n' + 1 := ⟨N - 1, by omega⟩
    have t := hT b (by omega)
    rw [B_X1_paidByKind_9, hS, if_leN (by omega) (by omega), if_neg (by omega), pick1 (by omega), t.2.2, Option.bind_some, if_lt (by omega) (by omega), if_lt (by omega) (by omega), ite_iI, ite_iI, if_lt (by omega) (by split <;> omega), ite_iI, nI_1]
    rw [ih N (b + 1) _ _ (by omega) (by omega) (by split <;> omega) (by split <;> omega) (by split <;> (try split) <;> omega) (by split <;> (try split) <;> omega)]
    rfl
theorem paidByKind1 (hn : 1 ≤ n) (hn3 : n ≤ 3) (hS : s_buyerCount uS = nI n) (x2 x3 x4 : Int32) (T : Nat → Int) (hT : ∀ b, b < n → 0 ≤ T b ∧ T b ≤ 1000 ∧ pk3 x2 x3 x4 b = iI (T b)) {rs : Int} (hs : s_reservePrice uS = iI rs) (h1 : 0 ≤ rs ∧ rs ≤ 1000) {kd : Nat} (hk : kd < 3) (hc : -1 ≤ (cfg T n 0 (-1) 0).1 ∧ (cfg T n 0 (-1) 0).1 ≤ 1000 ∧ 0 ≤ (cfg T n 0 (-1) 0).2 ∧ (cfg T n 0 (-1) 0).2 ≤ 1000) : f_X1_paidByKind uS (nI kd) x2 x3 x4 = some (iI (pkd kd rs (cfg T n 0 (-1) 0).1 (cfg T n 0 (-1) 0).2)) := by
  unfold f_X1_paidByKind
  rw [show (-1 : Int32) = iI (-1) from rfl]
  have hl := fun k => paidByKind1_loop hn3 hS (nI kd) x2 x3 x4 T hT k n 1000 0 (-1) 0 (by omega) (by omega) (by omega) (by omega) (by omega) (by omega)
  rw [show iI 0 = (0 : Int32) from rfl, show nI 0 = (0 : Int32) from rfl] at hl
  rw [hl]
  generalize (cfg T n 0 (-1) 0).1 = gr at *
  generalize (cfg T n 0 (-1) 0).2 = sec at *
  unfold B_X1_paidByKind_74
  by_cases h0 : kd = 0
  · subst h0
    rw [if_pos (show nI 0 = 0 from rfl), price1 hs h1 hc.2.2 hk (gr := gr) (Or.inl rfl)]
    rfl
  · have hz : ¬ nI kd = 0 := nI_ne0 (by omega) (by omega)
    rw [if_neg hz, hs, if_le (by omega) (by omega)]
    by_cases hg : rs ≤ gr
    · rw [if_pos hg, price1 hs h1 hc.2.2 hk (gr := gr) (Or.inr hg)]
      rfl
    · rw [if_neg hg]
      unfold pkd
      rw [if_neg h0, if_neg hg]
      rfl
theorem payOf2_best (hn3 : n ≤ 3) (hM : m_n uM = nI n) (T : Nat → Int) (hT : ∀ b, b < n → 0 ≤ T b ∧ T b ≤ 1000 ∧ m_told uM b = iI (T b)) (x1 : Int32) (k : Int32 → Int32 → Option Int32) : ∀ d N i b, i + d = n → d < N → b < i → (∀ j, j < i → T j ≤ T b) → ∃ r, r < n ∧ (∀ j, j < n → T j ≤ T r) ∧ B_X2_payOf_4 uM k N x1 (nI b) (nI i) = k x1 (nI r) := by
  intro d
  induction d with
  | zero =>
    intro N i b h1 h2 h3 h4
    obtain ⟨N, rfl⟩ : ∃ n', N = n' + 1 := ⟨N - 1, by omega⟩
    refine ⟨b, by omega, fun j hj => h4 j (by omega), ?_⟩
    rw [B_X2_payOf_4, hM, if_leN (by omega) (by omega), if_pos (by omega)]
  | succ d ih =>
    intro N i b h1 h2 h3 h4
    obtain ⟨N, rfl⟩ : ∃ n', N = n' + 1 := ⟨N - 1, by omega⟩
    have ti := hT i (by omega)
    have tb := hT b (by omega)
    rw [B_X2_payOf_4, hM, if_leN (by omega) (by omega), if_neg (by omega), gdN (by omega) (by omega), gdN (by omega) (by omega), cl (by omega), cl (by omega), ti.2.2, tb.2.2, if_le (by omega) (by omega), nI_1]
    by_cases hc : T i ≤ T b
    · rw [if_pos hc]
      exact ih N (i + 1) b (by omega) (by omega) (by omega) (fun j hj => by
        by_cases e : j = i
        · rw [e]; exact hc
        · exact h4 j (by omega))
    · rw [if_neg hc]
      exact ih N (i + 1) i (by omega) (by omega) (by omega) (fun j hj => by
        by_cases e : j = i
        · rw [e]; exact Int.le_refl _
        · have := h4 j (by omega); omega)
theorem payOf2_rest (hn3 : n ≤ 3) (hM : m_n uM = nI n) (T : Nat → Int) (hT : ∀ b, b < n → 0 ≤ T b ∧ T b ≤ 1000 ∧ m_told uM b = iI (T b)) (x1 : Int32) {b : Nat} (hb : b < n) (k : Int32 → Int32 → Option Int32) : ∀ d N i v, i + d = n → d < N → 0 ≤ v → v ≤ 1000 → (0 ≤ mxo T b d i v ∧ mxo T b d i v ≤ 1000) ∧ B_X2_payOf_64 uM k N x1 (nI b) (iI v) (nI i) = k x1 (iI (mxo T b d i v)) := by
  intro d
  induction d with
  | zero =>
    intro N i v h1 h2 h3 h4
    obtain ⟨N, rfl⟩ : ∃ n', N = n' + 1 := ⟨N - 1, by omega⟩
    refine ⟨⟨h3, h4⟩, ?_⟩
    rw [B_X2_payOf_64, hM, if_leN (by omega) (by omega), if_pos (by omega)]
    rfl
  | succ d ih =>
    intro N i v h1 h2 h3 h4
    obtain ⟨N, rfl⟩ : ∃ n', N = n' + 1 := ⟨N - 1, by omega⟩
    have ti := hT i (by omega)
    rw [B_X2_payOf_64, hM, if_leN (by omega) (by omega), if_neg (by omega), if_eqN (by omega) (by omega), gdN (by omega) (by omega), cl (by omega), ti.2.2, if_le (by omega) (by omega), nI_1]
    unfold mxo
    have gi : ¬ (nI i < 0 ∨ 3 ≤ i) := by
      have := nI_in (c := i) (N := 3) (by omega) (by omega)
      rw [cl (by omega)] at this
      exact this
    by_cases e : i = b
    · rw [if_pos e, if_pos e]
      exact ih N (i + 1) v (by omega) (by omega) h3 h4
    · rw [if_neg e, if_neg e]
      by_cases hc : T i ≤ v
      · rw [if_pos hc, if_pos hc]
        exact ih N (i + 1) v (by omega) (by omega) h3 h4
      · rw [if_neg hc, if_neg hc, if_neg gi]
        exact ih N (i + 1) (T i) (by omega) (by omega) (by omega) (by omega)
theorem payOf2_128 {v : Int} (h : 0 ≤ v ∧ v ≤ 1000) {kd : Nat} (hk : kd < 3) : B_X2_payOf_128 uM (nI kd) (iI v) = some (iI (if kd ≤ 1 then v else v + v.tdiv 10)) := by
  unfold B_X2_payOf_128
  rcases co3 hk with rfl | rfl | rfl
  · rfl
  · rfl
  · rw [if_neg (by decide), if_neg (by decide), show (10 : Int32) = iI 10 from rfl, iI_div (by omega) (by omega), iI_add]
theorem payOf2 (hn : 1 ≤ n) (hn3 : n ≤ 3) (hM : m_n uM = nI n) (T : Nat → Int) (hT : ∀ b, b < n → 0 ≤ T b ∧ T b ≤ 1000 ∧ m_told uM b = iI (T b)) {rs : Int} (hs : m_reserve uM = iI rs) (h1 : 0 ≤ rs ∧ rs ≤ 1000) {kd : Nat} (hk : kd < 3) : (-1 ≤ (cfg T n 0 (-1) 0).1 ∧ (cfg T n 0 (-1) 0).1 ≤ 1000 ∧ 0 ≤ (cfg T n 0 (-1) 0).2 ∧ (cfg T n 0 (-1) 0).2 ≤ 1000) ∧ f_X2_payOf uM (nI kd) = some (iI (pkd kd rs (cfg T n 0 (-1) 0).1 (cfg T n 0 (-1) 0).2)) := by
  unfold f_X2_payOf
  obtain ⟨r, hr, hmax, he⟩ := payOf2_best hn3 hM T hT (nI kd) (fun z511_1 z511_2 => if z511_1 ≤ 0 then B_X2_payOf_64 uM (fun z513_1 z513_3 => if z513_1 ≤ 0 then B_X2_payOf_127 uM z513_1 z513_3 else if (m_reserve uM) ≤ z513_3 then B_X2_payOf_127 uM z513_1 z513_3 else B_X2_payOf_128 uM z513_1 (m_reserve uM)) 1000 z511_1 z511_2 (0 : Int32) (0 : Int32) else if (z511_2 < 0 ∨ 3 ≤ z511_2.toNatClampNeg) then none else if (m_reserve uM) ≤ (m_told uM z511_2.toNatClampNeg) then B_X2_payOf_64 uM (fun z518_1 z518_3 => if z518_1 ≤ 0 then B_X2_payOf_127 uM z518_1 z518_3 else if (m_reserve uM) ≤ z518_3 then B_X2_payOf_127 uM z518_1 z518_3 else B_X2_payOf_128 uM z518_1 (m_reserve uM)) 1000 z511_1 z511_2 (0 : Int32) (0 : Int32) else some (-9 : Int32)) (n - 1) 1000 1 0 (by omega) (by omega) (by omega) (fun j hj => by rw [show j = 0 by omega]; exact Int.le_refl _)
  have hce := cfg_mxo hn hn3 hr (fun b hb => ⟨(hT b hb).1, (hT b hb).2.1⟩) hmax
  have tr := hT r hr
  rw [hce]
  have hx := fun k => payOf2_rest hn3 hM T hT (nI kd) hr k n 1000 0 0 (by omega) (by omega) (by omega) (by omega)
  have hv := (hx (fun _ _ => none)).1
  refine ⟨⟨by show -1 ≤ T r; omega, tr.2.1, hv.1, hv.2⟩, he.trans ?_⟩
  have h0 : (nI kd ≤ 0) ↔ kd = 0 := by rw [show (0 : Int32) = nI 0 from rfl, nI_leI (by omega) (by omega)]; omega
  have fin : (if nI kd ≤ 0 then B_X2_payOf_127 uM (nI kd) (iI (mxo T r n 0 0)) else if m_reserve uM ≤ iI (mxo T r n 0 0) then B_X2_payOf_127 uM (nI kd) (iI (mxo T r n 0 0)) else B_X2_payOf_128 uM (nI kd) (m_reserve uM)) = some (iI (if kd = 0 then mxo T r n 0 0 else if kd = 1 then (if mxo T r n 0 0 < rs then rs else mxo T r n 0 0) else (if mxo T r n 0 0 < rs then rs else mxo T r n 0 0) + (if mxo T r n 0 0 < rs then rs else mxo T r n 0 0).tdiv 10)) := by
    generalize mxo T r n 0 0 = q at *
    unfold B_X2_payOf_127
    rw [hs, payOf2_128 hv hk, payOf2_128 h1 hk, if_le (by omega) (by omega)]
    rcases co3 hk with rfl | rfl | rfl
    · rfl
    · by_cases hq : rs ≤ q
      · rw [if_neg (show ¬ nI 1 ≤ 0 by decide), if_pos hq, if_neg (show ¬ q < rs by omega)]; rfl
      · rw [if_neg (show ¬ nI 1 ≤ 0 by decide), if_neg hq, if_pos (show q < rs by omega)]; rfl
    · by_cases hq : rs ≤ q
      · rw [if_neg (show ¬ nI 2 ≤ 0 by decide), if_pos hq, if_neg (show ¬ q < rs by omega)]; rfl
      · rw [if_neg (show ¬ nI 2 ≤ 0 by decide), if_neg hq, if_pos (show q < rs by omega)]; rfl
  unfold pkd
  by_cases e0 : kd = 0
  · rw [if_pos (h0.mpr e0)]
    refine (hx _).2.trans (fin.trans ?_)
    rw [if_pos e0, if_pos e0]
  · rw [if_neg (fun q => e0 (h0.mp q)), gdN (by omega) (by omega), cl (by omega), tr.2.2, hs, if_le (by omega) (by omega), if_neg e0]
    by_cases hg : rs ≤ T r
    · rw [if_pos hg, if_pos hg, ← hs]
      refine (hx _).2.trans (fin.trans ?_)
      rw [if_neg e0]
    · rw [if_neg hg, if_neg hg]
      rfl
end KD
