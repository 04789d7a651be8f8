theorem bk_setbk {u : StS} {x : StB} {b c : Nat} (hb : b < 3) (hc : c < 3) : bk (setbk u b x) c = if c = b then x else bk u c := by
  rcases co3 hb with rfl | rfl | rfl <;> rcases co3 hc with rfl | rfl | rfl <;> rfl
theorem setbk_rest (u : StS) {b : Nat} (hb : b < 3) (x : StB) : s_buyerCount (setbk u b x) = s_buyerCount u ∧ s_reservePrice (setbk u b x) = s_reservePrice u ∧ s_sampleCount (setbk u b x) = s_sampleCount u ∧ s_samples (setbk u b x) = s_samples u ∧ s_traced (setbk u b x) = s_traced u := by
  rcases co3 hb with rfl | rfl | rfl <;> exact ⟨rfl, rfl, rfl, rfl, rfl⟩
theorem relT_rest {uS vS : StS} {uM vM : StM} {rs : Int} {cS : Nat} {sv : Nat → Int} (h : relT uS uM rs cS sv) (h1 : s_reservePrice vS = s_reservePrice uS) (h2 : s_sampleCount vS = s_sampleCount uS) (h3 : s_samples vS = s_samples uS) (h4 : s_traced vS = s_traced uS) (g1 : m_reserve vM = m_reserve uM) (g2 : m_samples vM = m_samples uM) (g3 : m_sample vM = m_sample uM) (g4 : m_trace vM = m_trace uM) : relT vS vM rs cS sv := by
  obtain ⟨q1, q2, q3, q4, q5, q6, q7, q8, q9⟩ := h
  refine ⟨q1, q2, h1.trans q3, g1.trans q4, q5, h2.trans q6, g2.trans q7, fun j hj => ?_, by rw [g4, h4, q9]⟩
  rw [h3, g3]
  exact q8 j hj
theorem ir_fn {u : StB} {m : Nat} {wo we : Nat → Int} (ok : okB m wo we) (h : irC u m wo we 0) : ∀ p, p < m → Hull m wo we p (b_uppers u p).toInt (b_lowers u p).toInt ∧ b_uppers u p = iI (b_uppers u p).toInt ∧ b_lowers u p = iI (b_lowers u p).toInt := by
  intro p hp
  obtain ⟨z, r, h1, h2, h3⟩ := h p (by omega) hp
  have hh := hull_pos ok h1
  rw [h2, h3, iI_toInt (by omega), iI_toInt (by omega)]
  exact ⟨h1, rfl, rfl⟩
/-- a book is another now -/
theorem relB_set {uS : StS} {m : Nat → Nat} {wo we hz hr : Nat → Nat → Int} (h : relB uS m wo we hz hr) {b : Nat} (hb : b < 3) {u' : StB} {m1 : Nat} {w1 g1 : Nat → Int} (ok : okB m1 w1 g1) (hc : bkC u' m1 w1 g1) (hi : irC u' m1 w1 g1 0) : relB (setbk uS b u') (va_up m b m1) (va_up wo b w1) (va_up we b g1) (va_up hz b (fun p => (b_uppers u' p).toInt)) (va_up hr b (fun p => (b_lowers u' p).toInt)) := by
  intro c hc3
  rw [bk_setbk hb hc3]
  unfold va_up
  by_cases e : c = b
  · simp only [if_pos e]
    exact ⟨ok, hc, ir_fn ok hi⟩
  · simp only [if_neg e]
    exact h c hc3
theorem cl5 {b : Nat} (hb : b < 3) : ((5 : Int32) * nI b) = nI (5 * b) := by
  rw [show (5 : Int32) = nI 5 from rfl, pk_mul]
theorem begin1 (u : StB) {w g : Int} (hw : 0 ≤ w ∧ w ≤ 1000) (hg : 1 ≤ g ∧ g ≤ 9) : ∃ u', okB 1 (fun _ => w) (fun _ => g) ∧ bkC u' 1 (fun _ => w) (fun _ => g) ∧ irC u' 1 (fun _ => w) (fun _ => g) 0 ∧ f_X0_begin u (iI w) (iI g) = some u' := by
  have ok : okB 1 (fun _ => w) (fun _ => g) := ⟨Nat.le_refl _, by omega, fun i hi => ⟨hw.1, hw.2, hg.1, hg.2⟩⟩
  have hc : bkC (b_set_size (b_set_weights (b_set_worths u (upd (b_worths u) 0 (iI w))) (upd (b_weights u) 0 (iI g))) 1) 1 (fun _ => w) (fun _ => g) := by
    refine ⟨rfl, fun i hi => ?_⟩
    show upd (b_worths u) 0 (iI w) i = iI w ∧ upd (b_weights u) 0 (iI g) i = iI g
    rw [show i = 0 by omega, upd_eq, upd_eq]
    exact ⟨rfl, rfl⟩
  obtain ⟨u', h1, h2, h3⟩ := iron1 ok hc
  refine ⟨u', ok, h1, h2, ?_⟩
  unfold f_X0_begin
  rw [if_neg (by decide), if_neg (by decide)]
  show (f_X0_iron (b_set_size (b_set_weights (b_set_worths u (upd (b_worths u) (0 : Int32).toNatClampNeg (iI w))) (upd (b_weights u) (0 : Int32).toNatClampNeg (iI g))) (1 : Int32))).bind _ = _
  rw [cl0, h3, Option.bind_some]
-- reads over writes of the model's state (not by rfl, so that simp rewrites step by step)
theorem rw1 (u : StM) (x : Nat → Int32) : m_many (m_set_worth u x) = m_many u := Eq.trans rfl rfl
theorem rw2 (u : StM) (x : Nat → Int32) : m_many (m_set_weight u x) = m_many u := Eq.trans rfl rfl
theorem rw3 (u : StM) (x : Nat → Int32) : m_many (m_set_many u x) = x := Eq.trans rfl rfl
theorem rw4 (u : StM) (x : Nat → Int32) : m_weight (m_set_worth u x) = m_weight u := Eq.trans rfl rfl
theorem rw5 (u : StM) (x : Nat → Int32) : m_worth (m_set_many u x) = m_worth u := Eq.trans rfl rfl
theorem rw6 (u : StM) (x : Nat → Int32) : m_weight (m_set_many u x) = m_weight u := Eq.trans rfl rfl
def setM (u : StM) (f g h : Nat → Int32) : StM := m_set_weight (m_set_worth (m_set_many u f) g) h
theorem setM_scr {u v : StM} {f g h : Nat → Int32} (hs : scr u v) : m_reserve (setM v f g h) = m_reserve u ∧ m_samples (setM v f g h) = m_samples u ∧ m_sample (setM v f g h) = m_sample u ∧ m_trace (setM v f g h) = m_trace u ∧ m_n (setM v f g h) = m_n u := ⟨hs.2.2.2.2.2.1, hs.2.2.2.2.2.2.1, hs.2.2.2.2.2.2.2, hs.1, hs.2.1⟩
section WR
variable {uS : StS} {uM : StM}
theorem st_book (h : Rel uS uM) (x1 x2 x3 : Int32) : ∃ v uS' u', f_X1_book uS x1 x2 x3 = some (v, uS') ∧ f_X2_book uM x1 x2 x3 = some (v, u') ∧ Rel uS' u' := by
  have hR := h
  obtain ⟨n, m, wo, we, hz, hr, rs, cS, sv, h1, h2, h3, h4⟩ := h
  have hn := h1.2.1
  have hM := relM_scr (thr_scr uM) h2
  have hR' := Rel_scr (thr_scr uM) hR
  have hT := relT_scr (thr_scr uM) h4
  unfold f_X1_book f_X2_book
  generalize m_set_thrown uM (0 : Int32) = w at *
  rw [isBuyer1 h1, Option.bind_some, isBuyer2 hM hn, Option.bind_some]
  rcases inb01 0 ((n : Int) - 1) x1 with e | e
  case inr =>
    rw [e, if_pos rfl, if_pos rfl]
    exact ⟨_, _, _, rfl, rfl, hR'⟩
  obtain ⟨b, hb, rfl⟩ := inb_ix e
  rw [e, if_neg one_ne, if_neg one_ne, isWorth1, Option.bind_some, isWorth2, Option.bind_some]
  rcases inb_cases 0 1000 x2 with ⟨e2, a1, a2⟩ | ⟨e2, -⟩
  case inr =>
    rw [e2, if_pos rfl, if_pos rfl]
    exact ⟨_, _, _, rfl, rfl, hR'⟩
  rw [e2, if_neg one_ne, if_neg one_ne, isWeight1, Option.bind_some, isWeight2, Option.bind_some]
  rcases inb_cases 1 9 x3 with ⟨e3, a3, a4⟩ | ⟨e3, -⟩
  case inr =>
    rw [e3, if_pos rfl, if_pos rfl]
    exact ⟨_, _, _, rfl, rfl, hR'⟩
  obtain ⟨u', k1, k2, k3, k4⟩ := begin1 (bk uS b) (w := x2.toInt) (g := x3.toInt) ⟨a1, a2⟩ ⟨a3, a4⟩
  rw [iI_of, iI_of] at k4
  have g5 : ¬ (nI (5 * b) < 0 ∨ 15 ≤ (nI (5 * b)).toNatClampNeg) := nI_in (by omega) (by omega)
  have gb : ¬ (nI b < 0 ∨ 3 ≤ (nI b).toNatClampNeg) := nI_in (by omega) (by omega)
  rw [e3, if_neg one_ne, if_neg one_ne, bookOf1 _ (by omega), Option.bind_some, k4, Option.bind_some, cl5 (by omega), if_neg gb, if_neg g5, if_neg g5, cl (show b < 2147483648 by omega), cl (show 5 * b < 2147483648 by omega)]
  simp only [rw1, rw4, rw5, rw6]
  obtain ⟨t1, t2, t3, t4, t5⟩ := setbk_rest uS (show b < 3 by omega) u'
  refine ⟨nI 1, setbk uS b u', setM w (upd (m_many w) b 1) (upd (m_worth w) (5 * b) x2) (upd (m_weight w) (5 * b) x3), ?_, rfl, ?_⟩
  · rw [bk_setbk (by omega) (by omega), if_pos rfl, k2.1]
  · refine ⟨n, va_up m b 1, va_up wo b (fun _ => x2.toInt), va_up we b (fun _ => x3.toInt), _, _, rs, cS, sv, ⟨h1.1, hn, t1.trans h1.2.2.1, relB_set h1.2.2.2 (by omega) k1 k2 k3⟩, ⟨hM.1, fun c hc => ?_⟩, fun c c1 c2 => ?_, relT_rest hT t2 t3 t4 t5 rfl rfl rfl rfl⟩
    · have q := hM.2 c hc
      have mc := (h1.2.2.2 c hc).1.2.1
      have mb := (h1.2.2.2 b (by omega)).1.2.1
      unfold va_up
      by_cases ec : c = b
      · simp only [if_pos ec]
        refine ⟨?_, fun i hi => ?_⟩
        · show upd (m_many w) b 1 c = nI 1
          rw [ec, upd_eq]; rfl
        · show upd (m_worth w) (5 * b) x2 (5 * c + i) = iI x2.toInt ∧ upd (m_weight w) (5 * b) x3 (5 * c + i) = iI x3.toInt
          rw [show 5 * c + i = 5 * b by omega, upd_eq, upd_eq, iI_of, iI_of]
          exact ⟨rfl, rfl⟩
      · simp only [if_neg ec]
        refine ⟨?_, fun i hi => ?_⟩
        · show upd (m_many w) b 1 c = nI (m c)
          rw [upd_ne _ _ ec]; exact q.1
        · show upd (m_worth w) (5 * b) x2 (5 * c + i) = _ ∧ upd (m_weight w) (5 * b) x3 (5 * c + i) = _
          rw [upd_ne _ _ (by omega), upd_ne _ _ (by omega)]
          exact q.2 i hi
    · unfold va_up
      rw [if_neg (by omega), if_neg (by omega), if_neg (by omega)]
      exact h3 c c1 c2
end WR
