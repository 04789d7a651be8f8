/-- how many samples are w or more -/
def ctn (sv : Nat → Int) (w : Int) : Nat → Nat → Int → Int
  | 0, _, a => a
  | d + 1, i, a => if sv i < w then ctn sv w d (i + 1) a else ctn sv w d (i + 1) (a + 1)
theorem ctn_s (sv : Nat → Int) (w : Int) (d i : Nat) (a : Int) : ctn sv w (d + 1) i a = if sv i < w then ctn sv w d (i + 1) a else ctn sv w d (i + 1) (a + 1) := rfl
theorem ctn_rng (sv : Nat → Int) (w : Int) : ∀ d i a, a ≤ ctn sv w d i a ∧ ctn sv w d i a ≤ a + d := by
  intro d
  induction d with
  | zero => intro i a; unfold ctn; omega
  | succ d ih =>
    intro i a
    rw [ctn_s]
    have h1 := ih (i + 1) a
    have h2 := ih (i + 1) (a + 1)
    split <;> omega
/-- the sample learnt -/
def lrn (sv : Nat → Int) (cS : Nat) : Nat → Nat → Int → Int → Int
  | 0, _, b, _ => b
  | d + 1, s, b, mo => if mo < sv s * ctn sv (sv s) cS 0 0 then lrn sv cS d (s + 1) (sv s) (sv s * ctn sv (sv s) cS 0 0) else if sv s * ctn sv (sv s) cS 0 0 = mo then (if b ≤ sv s then lrn sv cS d (s + 1) b mo else lrn sv cS d (s + 1) (sv s) (sv s * ctn sv (sv s) cS 0 0)) else lrn sv cS d (s + 1) b mo
theorem lrn_s (sv : Nat → Int) (cS d s : Nat) (b mo : Int) : lrn sv cS (d + 1) s b mo = if mo < sv s * ctn sv (sv s) cS 0 0 then lrn sv cS d (s + 1) (sv s) (sv s * ctn sv (sv s) cS 0 0) else if sv s * ctn sv (sv s) cS 0 0 = mo then (if b ≤ sv s then lrn sv cS d (s + 1) b mo else lrn sv cS d (s + 1) (sv s) (sv s * ctn sv (sv s) cS 0 0)) else lrn sv cS d (s + 1) b mo := rfl
section LN
variable {uS : StS} {uM : StM} {cS : Nat} {sv : Nat → Int}
theorem from1 (hc : cS ≤ 12) (h : s_sampleCount uS = nI cS) (hs : ∀ j, j < cS → 0 ≤ sv j ∧ sv j ≤ 1000 ∧ s_samples uS j = iI (sv j)) {w : Int} (hw : 0 ≤ w ∧ w ≤ 1000) (k : Int32 → Option Int32) : ∀ d N i a, i + d = cS → d < N → B_X1_samplesFrom_4 uS k N (iI w) (iI a) (nI i) = k (iI (ctn sv w d i a)) := by
  intro d
  induction d with
  | zero =>
    intro N i a h1 h2
    obtain ⟨N, rfl⟩ : ∃ n', N = n' + 1 := ⟨N - 1, by omega⟩
    rw [B_X1_samplesFrom_4, h, if_leN (by omega) (by omega), if_pos (by omega)]
    rfl
  | succ d ih =>
    intro N i a h1 h2
    obtain ⟨N, rfl⟩ : ∃ n', N = n' + 1 := ⟨N - 1, by omega⟩
    have q := hs i (by omega)
    rw [B_X1_samplesFrom_4, h, if_leN (by omega) (by omega), if_neg (by omega), gdN (by omega) (by omega), cl (by omega), q.2.2, if_lt (by omega) (by omega), nI_1, show (1 : Int32) = iI 1 from rfl, iI_add, ih N (i + 1) a (by omega) (by omega), ih N (i + 1) (a + 1) (by omega) (by omega)]
    rw [ctn_s]
    split <;> rfl
theorem from2 (hc : cS ≤ 12) (h : m_samples uM = nI cS) (hs : ∀ j, j < cS → 0 ≤ sv j ∧ sv j ≤ 1000 ∧ m_sample uM j = iI (sv j)) (x1 x2 : Int32) {c : Nat} (hcc : c < cS) (k : StM → Int32 → Int32 → Int32 → Int32 → Option (Int32 × StM)) : ∀ d N i a, i + d = cS → d < N → B_X2_learnt_26 k N uM x1 x2 (nI c) (iI a) (nI i) = k uM x1 x2 (nI c) (iI (ctn sv (sv c) d i a)) := by
  intro d
  induction d with
  | zero =>
    intro N i a h1 h2
    obtain ⟨N, rfl⟩ : ∃ n', N = n' + 1 := ⟨N - 1, by omega⟩
    rw [B_X2_learnt_26, h, if_leN (by omega) (by omega), if_pos (by omega)]
    rfl
  | succ d ih =>
    intro N i a h1 h2
    obtain ⟨N, rfl⟩ : ∃ n', N = n' + 1 := ⟨N - 1, by omega⟩
    have q := hs i (by omega)
    have qc := hs c hcc
    rw [B_X2_learnt_26, h, if_leN (by omega) (by omega), if_neg (by omega), gdN (by omega) (by omega), gdN (by omega) (by omega), cl (by omega), cl (by omega), q.2.2, qc.2.2, if_lt (by omega) (by omega), nI_1, show (1 : Int32) = iI 1 from rfl, show (0 : Int32) = iI 0 from rfl, iI_add, iI_add, Int.add_zero, ih N (i + 1) a (by omega) (by omega), ih N (i + 1) (a + 1) (by omega) (by omega)]
    rw [ctn_s]
    split <;> rfl
theorem learnt1_loop (hc : cS ≤ 12) (h : s_sampleCount uS = nI cS) (hs : ∀ j, j < cS → 0 ≤ sv j ∧ sv j ≤ 1000 ∧ s_samples uS j = iI (sv j)) (k : Int32 → Option Int32) : ∀ d N s b mo, s + d = cS → d < N → -9 ≤ b → b ≤ 1000 → -1 ≤ mo → mo ≤ 12000 → B_X1_learnt_7 uS k N (iI b) (iI mo) (nI s) = k (iI (lrn sv cS d s b mo)) := by
  intro d
  induction d with
  | zero =>
    intro N s b mo h1 h2 h3 h4 h5 h6
    obtain ⟨N, rfl⟩ : ∃ n', N = n' + 1 := ⟨N - 1, by omega⟩
    rw [B_X1_learnt_7, h, if_leN (by omega) (by omega), if_pos (by omega)]
    rfl
  | succ d ih =>
    intro N s b mo h1 h2 h3 h4 h5 h6
    obtain ⟨N, rfl⟩ : ∃ n', N = n' + 1 := ⟨N - 1, by omega⟩
    have q := hs s (by omega)
    have hr := ctn_rng sv (sv s) cS 0 0
    have b1 := mulab (a := sv s) (b := ctn sv (sv s) cS 0 0) (A := 1000) (B := 12) (by omega) (by omega)
    have b2 := Int.mul_nonneg q.1 hr.1
    have gs : ¬ (nI s < 0 ∨ 12 ≤ s) := by
      have := nI_in (c := s) (N := 12) (by omega) (by omega)
      rw [cl (by omega)] at this
      exact this
    have hf : f_X1_samplesFrom uS (iI (sv s)) = some (iI (ctn sv (sv s) cS 0 0)) := by
      unfold f_X1_samplesFrom
      exact from1 hc h hs ⟨q.1, q.2.1⟩ (fun z => some z) cS 1000 0 0 (by omega) (by omega)
    rw [B_X1_learnt_7, h, if_leN (by omega) (by omega), if_neg (by omega), cl (by omega)]
    simp only [if_neg gs]
    rw [q.2.2, hf, Option.bind_some, iI_mul, if_lt (by omega) (by omega), if_eq (by omega) (by omega), if_le (by omega) (by omega), nI_1]
    rw [lrn_s]
    by_cases c1 : mo < sv s * ctn sv (sv s) cS 0 0
    · rw [if_pos c1, if_pos c1]
      exact ih N (s + 1) _ _ (by omega) (by omega) (by omega) (by omega) (by omega) (by omega)
    · rw [if_neg c1, if_neg c1]
      by_cases c2 : sv s * ctn sv (sv s) cS 0 0 = mo
      · rw [if_pos c2, if_pos c2]
        by_cases c3 : b ≤ sv s
        · rw [if_pos c3, if_pos c3]
          exact ih N (s + 1) _ _ (by omega) (by omega) (by omega) (by omega) (by omega) (by omega)
        · rw [if_neg c3, if_neg c3]
          exact ih N (s + 1) _ _ (by omega) (by omega) (by omega) (by omega) (by omega) (by omega)
      · rw [if_neg c2, if_neg c2]
        exact ih N (s + 1) _ _ (by omega) (by omega) (by omega) (by omega) (by omega) (by omega)
theorem learnt2_loop (hc : cS ≤ 12) (h : m_samples uM = nI cS) (hs : ∀ j, j < cS → 0 ≤ sv j ∧ sv j ≤ 1000 ∧ m_sample uM j = iI (sv j)) (k : StM → Int32 → Option (Int32 × StM)) : ∀ d N s b mo, s + d = cS → d < N → -9 ≤ b → b ≤ 1000 → -1 ≤ mo → mo ≤ 12000 → B_X2_learnt_12 k N uM (iI b) (iI mo) (nI s) = k uM (iI (lrn sv cS d s b mo)) := by
  intro d
  induction d with
  | zero =>
    intro N s b mo h1 h2 h3 h4 h5 h6
    obtain ⟨N, rfl⟩ : ∃ n', N = n' + 1 := ⟨N - 1, by omega⟩
    rw [B_X2_learnt_12, h, if_leN (by omega) (by omega), if_pos (by omega)]
    rfl
  | succ d ih =>
    intro N s b mo h1 h2 h3 h4 h5 h6
    obtain ⟨N, rfl⟩ : ∃ n', N = n' + 1 := ⟨N - 1, by omega⟩
    have q := hs s (by omega)
    have hr := ctn_rng sv (sv s) cS 0 0
    have b1 := mulab (a := sv s) (b := ctn sv (sv s) cS 0 0) (A := 1000) (B := 12) (by omega) (by omega)
    have b2 := Int.mul_nonneg q.1 hr.1
    have gs : ¬ (nI s < 0 ∨ 12 ≤ s) := by
      have := nI_in (c := s) (N := 12) (by omega) (by omega)
      rw [cl (by omega)] at this
      exact this
    have hf := fun k => from2 hc h hs (iI b) (iI mo) (c := s) (by omega) k cS 1000 0 0 (by omega) (by omega)
    rw [show iI 0 = (0 : Int32) from rfl, show nI 0 = (0 : Int32) from rfl] at hf
    rw [B_X2_learnt_12, h, if_leN (by omega) (by omega), if_neg (by omega), hf]
    rw [cl (by omega)]
    simp only [if_neg gs]
    rw [q.2.2, iI_mul, if_lt (by omega) (by omega), if_eq (by omega) (by omega), if_le (by omega) (by omega), nI_1]
    rw [lrn_s]
    by_cases c1 : mo < sv s * ctn sv (sv s) cS 0 0
    · rw [if_pos c1, if_pos c1]
      exact ih N (s + 1) _ _ (by omega) (by omega) (by omega) (by omega) (by omega) (by omega)
    · rw [if_neg c1, if_neg c1]
      by_cases c2 : sv s * ctn sv (sv s) cS 0 0 = mo
      · rw [if_pos c2, if_pos c2]
        by_cases c3 : b ≤ sv s
        · rw [if_pos c3, if_pos c3]
          exact ih N (s + 1) _ _ (by omega) (by omega) (by omega) (by omega) (by omega) (by omega)
        · rw [if_neg c3, if_neg c3]
          exact ih N (s + 1) _ _ (by omega) (by omega) (by omega) (by omega) (by omega) (by omega)
      · rw [if_neg c2, if_neg c2]
        exact ih N (s + 1) _ _ (by omega) (by omega) (by omega) (by omega) (by omega) (by omega)
end LN
section RD
variable {uS : StS} {uM : StM}
theorem st_learnt (h : Rel uS uM) : ∃ v u', f_X1_learnt uS = some v ∧ f_X2_learnt uM = some (v, u') ∧ Rel uS u' := by
  have hR := h
  obtain ⟨n, m, wo, we, hz, hr, rs, cS, sv, h1, h2, h3, q1, q2, q3, q4, q5, q6, q7, q8, q9⟩ := h
  refine ⟨iI (lrn sv cS cS 0 (-9) (-1)), m_set_thrown uM (0 : Int32), ?_, ?_, Rel_scr (thr_scr uM) hR⟩
  · have e := fun k => learnt1_loop (uS := uS) q5 q6 (fun j hj => ⟨(q8 j hj).1, (q8 j hj).2.1, (q8 j hj).2.2.1⟩) k cS 1000 0 (-9) (-1) (by omega) (by omega) (by omega) (by omega) (by omega) (by omega)
    rw [show iI (-9) = (-9 : Int32) from rfl, show iI (-1) = (-1 : Int32) from rfl, show nI 0 = (0 : Int32) from rfl] at e
    unfold f_X1_learnt
    rw [e]
  · have e := fun k => learnt2_loop (uM := m_set_thrown uM (0 : Int32)) q5 q7 (fun j hj => ⟨(q8 j hj).1, (q8 j hj).2.1, (q8 j hj).2.2.2⟩) k cS 1000 0 (-9) (-1) (by omega) (by omega) (by omega) (by omega) (by omega) (by omega)
    rw [show iI (-9) = (-9 : Int32) from rfl, show iI (-1) = (-1 : Int32) from rfl, show nI 0 = (0 : Int32) from rfl] at e
    unfold f_X2_learnt
    rw [e]
theorem st_about (h : Rel uS uM) (x1 x2 x3 : Int32) : ∃ v u', f_X1_about uS x1 x2 x3 = some v ∧ f_X2_about uM x1 x2 x3 = some (v, u') ∧ Rel uS u' := by
  have hR := h
  obtain ⟨n, m, wo, we, hz, hr, rs, cS, sv, h1, h2, h3, h4⟩ := h
  have hn := h1.2.1
  have hM := relM_scr (thr_scr uM) h2
  have hR' := Rel_scr (thr_scr uM) hR
  unfold f_X1_about f_X2_about
  generalize m_set_thrown uM (0 : Int32) = w at *
  rw [isBuyer1 h1, Option.bind_some, isBuyer2 hM hn, Option.bind_some]
  rcases inb01 0 ((n : Int) - 1) x1 with e | e
  case inr =>
    rw [e, if_pos rfl, if_pos rfl]
    exact ⟨_, _, rfl, rfl, hR'⟩
  obtain ⟨b, hb, rfl⟩ := inb_ix e
  have hB := h1.2.2.2 b (by omega)
  have hm := hB.1.2.1
  rw [e, if_neg one_ne, if_neg one_ne, bookOf1 _ (by omega), isPlace2 hM (by omega) hm]
  simp only [Option.bind_some]
  rw [has1 hB.2.1 hm]
  simp only [Option.bind_some]
  rcases inb01 0 ((m b : Int) - 1) x2 with e2 | e2
  case inr =>
    rw [e2, if_pos rfl, if_pos rfl]
    exact ⟨_, _, rfl, rfl, hR'⟩
  obtain ⟨i, hi, rfl⟩ := inb_ix e2
  have hMb := hM.2 b (by omega)
  rw [e2, if_neg one_ne, if_neg one_ne, show f_X2_in x3 (0 : Int32) (3 : Int32) = some (inb 0 3 x3) from in2 x3 (lo := 0) (hi := 3) (by omega) (by omega), Option.bind_some]
  rcases inb01 0 3 x3 with e3 | e3
  · obtain ⟨w3, hw3, rfl⟩ := inb_ix (n := 4) (x := x3) e3
    rw [e3, if_neg one_ne]
    rcases (show w3 = 0 ∨ w3 = 1 ∨ w3 = 2 ∨ w3 = 3 by omega) with rfl | rfl | rfl | rfl
    · rw [if_pos (by decide), if_pos (by decide), worthAt1 hB.2.1 hm (by omega), if_pos hi, ix5, gdN (by omega) (by omega), cl (by omega), (hMb.2 i hi).1]
      exact ⟨_, _, rfl, rfl, hR'⟩
    · rw [if_neg (by decide), if_pos (by decide), if_neg (by decide), if_pos (by decide), weightAt1 hB.2.1 hm (by omega), if_pos hi, ix5, gdN (by omega) (by omega), cl (by omega), (hMb.2 i hi).2]
      exact ⟨_, _, rfl, rfl, hR'⟩
    · rw [if_neg (by decide), if_neg (by decide), if_pos (by decide), if_neg (by decide), if_neg (by decide), if_pos (by decide), share1 hB.2.1 hm (by omega), share2 (by omega) hMb hm (by omega)]
      exact ⟨_, _, rfl, rfl, hR'⟩
    · rw [if_neg (by decide), if_neg (by decide), if_neg (by decide), if_pos (by decide), if_neg (by decide), if_neg (by decide), if_neg (by decide), take1 hB.2.1 hm (by omega), take2 (by omega) hMb hm (by omega)]
      exact ⟨_, _, rfl, rfl, hR'⟩
  · have ne : ∀ c : Int32, 0 ≤ c.toInt → c.toInt ≤ 3 → ¬ x3 = c := by
      rintro c h1 h2 rfl
      rw [inb_pos ⟨h1, h2⟩] at e3
      exact absurd e3 (by decide)
    rw [e3, if_pos rfl, if_neg (ne 0 (by decide) (by decide)), if_neg (ne 1 (by decide) (by decide)), if_neg (ne 2 (by decide) (by decide)), if_neg (ne 3 (by decide) (by decide))]
    exact ⟨_, _, rfl, rfl, hR'⟩
theorem st_whole (h : Rel uS uM) (x1 x2 : Int32) : ∃ v u', f_X1_whole uS x1 x2 = some v ∧ f_X2_whole uM x1 x2 = some (v, u') ∧ Rel uS u' := by
  have hR := h
  obtain ⟨n, m, wo, we, hz, hr, rs, cS, sv, h1, h2, h3, h4⟩ := h
  have hn := h1.2.1
  have hM := relM_scr (thr_scr uM) h2
  have hR' := Rel_scr (thr_scr uM) hR
  unfold f_X1_whole f_X2_whole
  generalize m_set_thrown uM (0 : Int32) = w at *
  rw [isBuyer1 h1, Option.bind_some, isBuyer2 hM hn, Option.bind_some]
  rcases inb01 0 ((n : Int) - 1) x1 with e | e
  case inr =>
    rw [e, if_pos rfl, if_pos rfl]
    exact ⟨_, _, rfl, rfl, hR'⟩
  obtain ⟨b, hb, rfl⟩ := inb_ix e
  have hB := h1.2.2.2 b (by omega)
  have hm := hB.1.2.1
  have hMb := hM.2 b (by omega)
  rw [e, if_neg one_ne, if_neg one_ne, bookOf1 _ (by omega), Option.bind_some, show f_X2_in x2 (0 : Int32) (2 : Int32) = some (inb 0 2 x2) from isKind2 x2, Option.bind_some]
  rcases inb01 0 2 x2 with e3 | e3
  · obtain ⟨w3, hw3, rfl⟩ := inb_ix (n := 3) (x := x2) e3
    rw [e3, if_neg one_ne]
    rcases co3 hw3 with rfl | rfl | rfl
    · rw [if_pos (by decide), if_pos (by decide), gdN (by omega) (by omega), cl (by omega), hB.2.1.1, hMb.1]
      exact ⟨_, _, rfl, rfl, hR'⟩
    · rw [if_neg (by decide), if_pos (by decide), if_neg (by decide), if_pos (by decide), all1 hB.2.1 hm, show (0 : Int32) = nI 0 from rfl, share2 (by omega) hMb hm (by omega)]
      exact ⟨_, _, rfl, rfl, hR'⟩
    · obtain ⟨r1, k1, k2⟩ := bestPlace1 hB.1 hB.2.1
      obtain ⟨r2, k3, k4⟩ := bestOf2 hB.1 (by omega) hMb
      rw [if_neg (by decide), if_neg (by decide), if_pos (by decide), if_neg (by decide), if_neg (by decide), k2, k4, isBest_one k1 k3]
      exact ⟨_, _, rfl, rfl, hR'⟩
  · have ne : ∀ c : Int32, 0 ≤ c.toInt → c.toInt ≤ 2 → ¬ x2 = c := by
      rintro c h1 h2 rfl
      rw [inb_pos ⟨h1, h2⟩] at e3
      exact absurd e3 (by decide)
    rw [e3, if_pos rfl, if_neg (ne 0 (by decide) (by decide)), if_neg (ne 1 (by decide) (by decide)), if_neg (ne 2 (by decide) (by decide))]
    exact ⟨_, _, rfl, rfl, hR'⟩
end RD
