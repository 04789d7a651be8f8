def wtp (m : Nat → Nat) (we : Nat → Nat → Int) (b p : Nat) : Int := if p < m b then we b p else 0
def setp (u : StM) (b p : Nat) : StM := m_set_place u (upd (m_place u) b (nI p))
theorem setp_scr (u : StM) (b p : Nat) : scr u (setp u b p) := ⟨rfl, rfl, rfl, rfl, rfl, rfl, rfl, rfl⟩
theorem setp_place (u : StM) (b p c : Nat) : m_place (setp u b p) c = upd (m_place u) b (nI p) c := rfl
theorem setp_n (u : StM) (b p : Nat) : m_n (setp u b p) = m_n u := rfl
theorem setp_eq (u : StM) {b : Nat} (hb : b < 3) {r : Nat} (hr : r < 1000) : m_set_place u (upd (m_place u) (nI b).toNatClampNeg (nI r - nI r / (5 : Int32) * (5 : Int32))) = setp u b (r % 5) := by
  rw [cl (by omega), show (5 : Int32) = nI 5 from rfl, pk_rem (by omega) (by omega) (by omega)]
  rfl
theorem div5 {r : Nat} (hr : r < 1000) : nI r / (5 : Int32) = nI (r / 5) := by
  rw [show (5 : Int32) = nI 5 from rfl]
  exact pk_div (a := r) (d := 5) (by omega) (by omega) (by omega)
section CM
variable {uS : StS} {uM : StM} {n : Nat} {m : Nat → Nat} {wo we hz hr : Nat → Nat → Int}
theorem comes_step (h : relB uS m wo we hz hr) (hn : n ≤ 3) (hE : relE n m wo we) (hM : relM uM n m wo we) {b r : Nat} (hb : b < 3) (hr5 : r < 1000) (v : Int) (k : StM → Int32 → Option (Int32 × StM)) (N : Nat) : B_X2_comes_7 k (N + 1) uM (nI r) (iI v) (nI b) = B_X2_comes_7 k N (setp uM b (r % 5)) (nI (r / 5)) (iI (v * wtp m we b (r % 5))) (nI (b + 1)) := by
  have hB := h b hb
  have hm := hB.1.2.1
  have hp : m_place (setp uM b (r % 5)) (nI b).toNatClampNeg = nI (r % 5) := by rw [cl (by omega), setp_place, upd_eq]
  rw [B_X2_comes_7, show (3 : Int32) = nI 3 from rfl, if_leN (by omega) (by omega), if_neg (by omega), gdN (by omega) (by omega), setp_eq uM hb hr5, setp_n, hM.1, if_leN (by omega) (by omega), div5 hr5, nI_1, hp]
  by_cases hnb : n ≤ b
  · have hE' := hE b hnb hb
    rw [if_pos hnb, gdN (by omega) (by omega), show (0 : Int32) = nI 0 from rfl, if_eqN (by omega) (by omega)]
    unfold wtp
    rw [hE'.1]
    by_cases h0 : r % 5 = 0
    · rw [if_pos h0, if_pos (by omega), h0, hE'.2.2, show (1 : Int32) = iI 1 from rfl, iI_mul]
    · rw [if_neg h0, if_neg (by omega), show nI 0 = iI 0 from rfl, iI_mul]
  · rw [if_neg hnb, gdN (by omega) (by omega), isPlace2 (relM_scr (setp_scr uM b (r % 5)) hM) hb hm, Option.bind_some]
    unfold wtp
    rcases inb_cases 0 ((m b : Int) - 1) (nI (r % 5)) with ⟨e, h1, h2⟩ | ⟨e, h1⟩
    · rw [nI_tI (by omega)] at h2
      rw [e, if_neg one_ne, gdN (by omega) (by omega), ix5, gdN (by omega) (by omega), cl (by omega), if_pos (by omega), show m_weight (setp uM b (r % 5)) = m_weight uM from rfl, ((hM.2 b hb).2 _ (by omega)).2, iI_mul]
    · rw [nI_tI (by omega)] at h1
      rw [e, if_pos rfl, if_neg (by omega), show (0 : Int32) = iI 0 from rfl, iI_mul]
theorem comes2 (h : relB uS m wo we hz hr) (hn : n ≤ 3) (hE : relE n m wo we) (hM : relM uM n m wo we) {t : Nat} (ht : t < 125) : ∃ u', scr uM u' ∧ (∀ b, b < 3 → m_place u' b = nI (pl3 (t % 5) (t / 5 % 5) (t / 25 % 5) b)) ∧ f_X2_comes uM (nI t) = some (iI (wtp m we 0 (t % 5) * wtp m we 1 (t / 5 % 5) * wtp m we 2 (t / 25 % 5)), u') := by
  refine ⟨setp (setp (setp uM 0 (t % 5)) 1 (t / 5 % 5)) 2 (t / 25 % 5), scr_tr (setp_scr _ _ _) (scr_tr (setp_scr _ _ _) (setp_scr _ _ _)), fun b hb => ?_, ?_⟩
  · rcases co3 hb with rfl | rfl | rfl
    · rw [setp_place, upd_ne _ _ (by decide), setp_place, upd_ne _ _ (by decide), setp_place, upd_eq]; rfl
    · rw [setp_place, upd_ne _ _ (by decide), setp_place, upd_eq]; rfl
    · rw [setp_place, upd_eq]; rfl
  · have h1 := relM_scr (setp_scr uM 0 (t % 5)) hM
    have h2 := relM_scr (setp_scr (setp uM 0 (t % 5)) 1 (t / 5 % 5)) h1
    unfold f_X2_comes
    rw [show (0 : Int32) = nI 0 from rfl, show (1 : Int32) = iI 1 from rfl, comes_step h hn hE hM (b := 0) (by omega) (by omega), comes_step h hn hE h1 (b := 1) (by omega) (by omega), comes_step h hn hE h2 (b := 2) (by omega) (by omega), Nat.div_div_eq_div_mul, Int.one_mul, B_X2_comes_7, show (3 : Int32) = nI 3 from rfl, if_leN (by omega) (by omega), if_pos (by omega)]
theorem all2 (h : relB uS m wo we hz hr) (hn1 : 1 ≤ n) (hn : n ≤ 3) (hE : relE n m wo we) (hM : relM uM n m wo we) : f_X2_all uM = some (iI (D3 m we)) := by
  have st : ∀ N b acc, b < n → B_X2_all_4 uM (fun z203_1 => some z203_1) (N + 1) (iI acc) (nI b) = B_X2_all_4 uM (fun z203_1 => some z203_1) N (iI (acc * sh (m b) (we b) 0)) (nI (b + 1)) := fun N b acc hb => by
    have hB := h b (by omega)
    rw [B_X2_all_4, hM.1, if_leN (by omega) (by omega), if_neg (by omega), show (0 : Int32) = nI 0 from rfl, share2 (by omega) (hM.2 b (by omega)) hB.1.2.1 (by omega), Option.bind_some, iI_mul, nI_1]
  have ed : ∀ N acc, B_X2_all_4 uM (fun z203_1 => some z203_1) (N + 1) (iI acc) (nI n) = some (iI acc) := fun N acc => by
    rw [B_X2_all_4, hM.1, if_leN (by omega) (by omega), if_pos (by omega)]
  have one : ∀ b, n ≤ b → b < 3 → sh (m b) (we b) 0 = 1 := fun b h1 h2 => by
    obtain ⟨e1, e2, e3⟩ := hE b h1 h2
    rw [e1]
    show we b 0 + 0 = 1
    omega
  unfold f_X2_all
  rw [show (1 : Int32) = iI 1 from rfl, show (0 : Int32) = nI 0 from rfl, st 999 0 1 (by omega), Int.one_mul]
  rcases (show n = 1 ∨ n = 2 ∨ n = 3 by omega) with rfl | rfl | rfl
  · rw [ed 998]
    unfold D3
    rw [one 1 (by omega) (by omega), one 2 (by omega) (by omega), Int.mul_one, Int.mul_one]
  · rw [st 998 1 _ (by omega), ed 997]
    unfold D3
    rw [one 2 (by omega) (by omega), Int.mul_one]
  · rw [st 998 1 _ (by omega), st 997 2 _ (by omega), ed 996]
/-- a number's weight and value: only places that are there count -/
theorem wtp_pos (h : relB uS m wo we hz hr) {b p : Nat} (hb : b < 3) : 0 ≤ wtp m we b p ∧ wtp m we b p ≤ 9 ∧ (0 < wtp m we b p ↔ p < m b) := by
  unfold wtp
  by_cases hp : p < m b
  · have := (h b hb).1.2.2 p hp
    rw [if_pos hp]
    omega
  · rw [if_neg hp]
    omega
abbrev W3 (m : Nat → Nat) (we : Nat → Nat → Int) (i j k : Nat) : Int := wtp m we 0 i * wtp m we 1 j * wtp m we 2 k
theorem W3_cases (h : relB uS m wo we hz hr) (i j k : Nat) : (0 < W3 m we i j k ∧ W3 m we i j k ≤ 729 ∧ i < m 0 ∧ j < m 1 ∧ k < m 2) ∨ (W3 m we i j k = 0 ∧ ¬ (i < m 0 ∧ j < m 1 ∧ k < m 2)) := by
  have w0 := wtp_pos h (b := 0) (p := i) (by omega)
  have w1 := wtp_pos h (b := 1) (p := j) (by omega)
  have w2 := wtp_pos h (b := 2) (p := k) (by omega)
  show (0 < wtp m we 0 i * wtp m we 1 j * wtp m we 2 k ∧ wtp m we 0 i * wtp m we 1 j * wtp m we 2 k ≤ 729 ∧ _) ∨ (wtp m we 0 i * wtp m we 1 j * wtp m we 2 k = 0 ∧ _)
  by_cases hi : i < m 0
  · by_cases hj : j < m 1
    · by_cases hk : k < m 2
      · have p1 := Int.mul_pos (w0.2.2.mpr hi) (w1.2.2.mpr hj)
        have p2 := Int.mul_pos p1 (w2.2.2.mpr hk)
        have b1 := mulab (a := wtp m we 0 i) (b := wtp m we 1 j) (A := 9) (B := 9) (by omega) (by omega)
        have b2 := mulab (a := wtp m we 0 i * wtp m we 1 j) (b := wtp m we 2 k) (A := 81) (B := 9) (by omega) (by omega)
        exact Or.inl ⟨p2, by omega, hi, hj, hk⟩
      · have e : wtp m we 2 k = 0 := by have := w2.2.2; omega
        exact Or.inr ⟨by rw [e, Int.mul_zero], fun q => hk q.2.2⟩
    · have e : wtp m we 1 j = 0 := by have := w1.2.2; omega
      exact Or.inr ⟨by rw [e, Int.mul_zero, Int.zero_mul], fun q => hj q.2.1⟩
  · have e : wtp m we 0 i = 0 := by have := w0.2.2; omega
    exact Or.inr ⟨by rw [e, Int.zero_mul, Int.zero_mul], fun q => hi q.1⟩
theorem S125 (h : relB uS m wo we hz hr) (v : Nat → Nat → Nat → Int) : su (fun t => W3 m we (t % 5) (t / 5 % 5) (t / 25 % 5) * v (t % 5) (t / 5 % 5) (t / 25 % 5)) 0 125 = S3 m we v := by
  have b0 := (h 0 (by omega)).1.2.1
  have b1 := (h 1 (by omega)).1.2.1
  have b2 := (h 2 (by omega)).1.2.1
  refine (su_125 (fun i j k => W3 m we i j k * v i j k) b0 b1 b2 (fun i j k hn => ?_)).trans ?_
  · rcases W3_cases h i j k with ⟨-, -, q⟩ | ⟨q, -⟩
    · exact absurd q hn
    · show W3 m we i j k * v i j k = 0
      rw [q, Int.zero_mul]
  · refine su_cong _ _ (fun i _ hi => su_cong _ _ (fun j _ hj => su_cong _ _ (fun k _ hk => ?_)))
    show wtp m we 0 i * wtp m we 1 j * wtp m we 2 k * v i j k = we 0 i * we 1 j * we 2 k * v i j k
    unfold wtp
    rw [if_pos (by omega), if_pos (by omega), if_pos (by omega)]
end CM
