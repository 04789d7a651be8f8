theorem relS_ch {uS u' : StS} {n : Nat} {m : Nat → Nat} {wo we hz hr : Nat → Nat → Int} (h : relS uS n m wo we hz hr) (hb : ∀ b, bk u' b = bk uS b) (hn : s_buyerCount u' = s_buyerCount uS) : relS u' n m wo we hz hr := by
  refine ⟨h.1, h.2.1, hn.trans h.2.2.1, fun b hb3 => ?_⟩
  rw [hb]
  exact h.2.2.2 b hb3
theorem bk_traced (u : StS) (x : Int64) (b : Nat) : bk (s_set_traced u x) b = bk u b := match b with
  | 0 => rfl
  | 1 => rfl
  | _ + 2 => rfl
theorem bk_reserve (u : StS) (x : Int32) (b : Nat) : bk (s_set_reservePrice u x) b = bk u b := match b with
  | 0 => rfl
  | 1 => rfl
  | _ + 2 => rfl
theorem bk_samples (u : StS) (x : Nat → Int32) (b : Nat) : bk (s_set_samples u x) b = bk u b := match b with
  | 0 => rfl
  | 1 => rfl
  | _ + 2 => rfl
theorem bk_sampleCount (u : StS) (x : Int32) (b : Nat) : bk (s_set_sampleCount u x) b = bk u b := match b with
  | 0 => rfl
  | 1 => rfl
  | _ + 2 => rfl
abbrev m1001 : Nat → Nat := fun _ => 1001
theorem e1000 (b : Nat) : ((m1001 b : Nat) : Int) - 1 = 1000 := by
  show ((1001 : Nat) : Int) - 1 = 1000
  omega
section PAY
variable {uS : StS} {uM : StM} {n : Nat} {m : Nat → Nat} {wo we hz hr : Nat → Nat → Int}
theorem areWorths1 (h : relS uS n m wo we hz hr) (x1 x2 x3 : Int32) : f_X1_areWorths uS x1 x2 x3 = some (allp m1001 (pk3 x1 x2 x3) n 0) := by
  have hn := h.2.1
  have lp : ∀ d N b, b + d = n → d < N → B_X1_areWorths_3 uS (some (0 : Int32)) (some (1 : Int32)) N x1 x2 x3 (nI b) = some (allp m1001 (pk3 x1 x2 x3) d b) := by
    intro d
    induction d with
    | zero =>
      intro N b h1 h2
      obtain ⟨N, rfl⟩ : ∃ n', N = n' + 1 := ⟨N - 1, by omega⟩
      rw [B_X1_areWorths_3, h.2.2.1, if_leN (by omega) (by omega), if_pos (by omega)]
      rfl
    | succ d ih =>
      intro N b h1 h2
      obtain ⟨N, rfl⟩ : ∃ n', N = n' + 1 := ⟨N - 1, by omega⟩
      rw [B_X1_areWorths_3, h.2.2.1, if_leN (by omega) (by omega), if_neg (by omega), pick1 (by omega), Option.bind_some, isWorth1, Option.bind_some, nI_1, ih N (b + 1) (by omega) (by omega), allp_s, e1000]
      split <;> rfl
  unfold f_X1_areWorths
  exact lp n 1000 0 (by omega) (by omega)
theorem pay2_loop (h : m_n uM = nI n) (hn : n ≤ 3) (X : Nat → Int32) (hX : ∀ b, b < n → m_told uM b = X b) (x1 : Int32) (k : StM → Int32 → Int32 → Option (Int32 × StM)) : ∀ d N b acc, b + d = n → d < N → (acc = 0 ∨ acc = 1) → B_X2_pay_38 k N uM x1 acc (nI b) = k uM x1 (if acc = 0 then 0 else allp m1001 X d b) := by
  intro d
  induction d with
  | zero =>
    intro N b acc h1 h2 h3
    obtain ⟨N, rfl⟩ : ∃ n', N = n' + 1 := ⟨N - 1, by omega⟩
    rw [B_X2_pay_38, h, if_leN (by omega) (by omega), if_pos (by omega)]
    rcases h3 with rfl | rfl
    · rw [if_pos rfl]
    · rw [if_neg one_ne]; rfl
  | succ d ih =>
    intro N b acc h1 h2 h3
    obtain ⟨N, rfl⟩ : ∃ n', N = n' + 1 := ⟨N - 1, by omega⟩
    have hi : f_X2_in (X b) (0 : Int32) (1000 : Int32) = some (inb 0 1000 (X b)) := in2 (X b) (lo := 0) (hi := 1000) (by omega) (by omega)
    rw [B_X2_pay_38, h, if_leN (by omega) (by omega), if_neg (by omega), gdN (by omega) (by omega), cl (by omega), hX b (by omega), hi, Option.bind_some, nI_1]
    rcases h3 with rfl | rfl
    · rw [show (0 : Int32) &&& inb 0 1000 (X b) = 0 by rcases inb01 0 1000 (X b) with e | e <;> rw [e] <;> decide, ih N (b + 1) 0 (by omega) (by omega) (Or.inl rfl), if_pos rfl, if_pos rfl]
    · rw [if_neg one_ne, allp_s, e1000]
      rcases inb01 0 1000 (X b) with e | e
      · rw [e, show (1 : Int32) &&& 1 = 1 by decide, ih N (b + 1) 1 (by omega) (by omega) (Or.inr rfl), if_neg one_ne]
      · rw [e, show (1 : Int32) &&& 0 = 0 by decide, ih N (b + 1) 0 (by omega) (by omega) (Or.inl rfl), if_pos rfl]
theorem told3 (u : StM) (x1 x2 x3 : Int32) {b : Nat} (hb : b < 3) : upd (upd (upd (m_told u) 0 x1) 1 x2) 2 x3 b = pk3 x1 x2 x3 b := by
  rcases co3 hb with rfl | rfl | rfl
  · rw [upd_ne _ _ (by decide), upd_ne _ _ (by decide), upd_eq]; rfl
  · rw [upd_ne _ _ (by decide), upd_eq]; rfl
  · rw [upd_eq]; rfl
theorem allp_T {X : Nat → Int32} {n : Nat} (h : ∀ c, 0 ≤ c → c < 0 + n → inb 0 ((m1001 c : Int) - 1) (X c) = 1) : ∀ b, b < n → 0 ≤ (X b).toInt ∧ (X b).toInt ≤ 1000 ∧ X b = iI (X b).toInt := by
  intro b hb
  rcases inb_cases 0 ((m1001 b : Int) - 1) (X b) with ⟨-, h1, h2⟩ | ⟨e, -⟩
  · rw [e1000] at h2
    exact ⟨h1, h2, (iI_of _).symm⟩
  · rw [h b (by omega) (by omega)] at e; exact absurd e (by decide)
end PAY
def ask (kd : Nat) : Int64 := if kd = 0 then 1 else if kd = 1 then 11 else 111
theorem t64_1 : (1 : Int32).toInt64 = (1 : Int64) := by rw [show (1 : Int32) = iI 1 from rfl, iI_L (by omega)]; rfl
theorem t64_11 : (11 : Int32).toInt64 = (11 : Int64) := by rw [show (11 : Int32) = iI 11 from rfl, iI_L (by omega)]; rfl
theorem t64_111 : (111 : Int32).toInt64 = (111 : Int64) := by rw [show (111 : Int32) = iI 111 from rfl, iI_L (by omega)]; rfl
theorem asks1 {kd : Nat} (hk : kd < 3) : ∃ r, f_X1_asksOf (nI kd) = some r ∧ r.toInt64 = ask kd := by
  unfold f_X1_asksOf
  rcases co3 hk with rfl | rfl | rfl
  · exact ⟨1, by rw [if_neg (by decide), if_neg (by decide)], t64_1⟩
  · exact ⟨11, by rw [if_neg (by decide), if_pos (by decide)], t64_11⟩
  · exact ⟨111, by rw [if_pos (by decide)], t64_111⟩
theorem asks2 {kd : Nat} (hk : kd < 3) (v : Int32) (w : StM) : (if nI kd = 0 then some (v, m_set_trace w (m_trace w + (1 : Int64))) else if nI kd = (1 : Int32) then some (v, m_set_trace w (m_trace w + (11 : Int64))) else some (v, m_set_trace w (m_trace w + (111 : Int64)))) = some (v, m_set_trace w (m_trace w + ask kd)) := by
  rcases co3 hk with rfl | rfl | rfl
  · rw [if_pos (by decide)]; rfl
  · rw [if_neg (by decide), if_pos (by decide)]; rfl
  · rw [if_neg (by decide), if_neg (by decide)]; rfl
theorem told_set (u : StM) (x : Nat → Int32) : m_told (m_set_told u x) = x := rfl
theorem set_told2 (u : StM) (x y : Nat → Int32) : m_set_told (m_set_told u x) y = m_set_told u y := rfl
theorem told_thr (u : StM) (x : Int32) : m_told (m_set_thrown u x) = m_told u := rfl
theorem cl0 : (0 : Int32).toNatClampNeg = 0 := by decide
theorem cl1 : (1 : Int32).toNatClampNeg = 1 := by decide
theorem cl2 : (2 : Int32).toNatClampNeg = 2 := by decide
theorem gz0 : ¬ ((0 : Int32) < 0 ∨ 3 ≤ (0 : Int32).toNatClampNeg) := by decide
theorem gz1 : ¬ ((1 : Int32) < 0 ∨ 3 ≤ (1 : Int32).toNatClampNeg) := by decide
theorem gz2 : ¬ ((2 : Int32) < 0 ∨ 3 ≤ (2 : Int32).toNatClampNeg) := by decide
def payW (uM : StM) (x2 x3 x4 : Int32) : StM := m_set_told (m_set_thrown uM 0) (upd (upd (upd (m_told uM) 0 x2) 1 x3) 2 x4)
theorem payW_scr (uM : StM) (x2 x3 x4 : Int32) : scr uM (payW uM x2 x3 x4) := ⟨rfl, rfl, rfl, rfl, rfl, rfl, rfl, rfl⟩
theorem payW_told (uM : StM) (x2 x3 x4 : Int32) {b : Nat} (hb : b < 3) : m_told (payW uM x2 x3 x4) b = pk3 x2 x3 x4 b := by
  unfold payW
  rw [told_set]
  exact told3 uM x2 x3 x4 hb
theorem pay2_loop0 {uM : StM} {n : Nat} (h : m_n uM = nI n) (hn : n ≤ 3) (X : Nat → Int32) (hX : ∀ b, b < n → m_told uM b = X b) (x1 acc : Int32) (ha : acc = 0 ∨ acc = 1) (k : StM → Int32 → Int32 → Option (Int32 × StM)) : B_X2_pay_38 k 1000 uM x1 acc (0 : Int32) = k uM x1 (if acc = 0 then 0 else allp m1001 X n 0) := pay2_loop h hn X hX x1 k n 1000 0 acc (by omega) (by omega) ha
theorem pay2_in (x1 : Int32) : f_X2_in x1 (0 : Int32) (2 : Int32) = some (inb 0 2 x1) := in2 x1 (lo := 0) (hi := 2) (by omega) (by omega)
theorem pay_st (uM : StM) (x2 x3 x4 : Int32) : (m_set_told (m_set_told (m_set_told (m_set_thrown uM (0 : Int32)) (upd (m_told (m_set_thrown uM (0 : Int32))) (0 : Int32).toNatClampNeg x2)) (upd (m_told (m_set_told (m_set_thrown uM (0 : Int32)) (upd (m_told (m_set_thrown uM (0 : Int32))) (0 : Int32).toNatClampNeg x2))) (1 : Int32).toNatClampNeg x3)) (upd (m_told (m_set_told (m_set_told (m_set_thrown uM (0 : Int32)) (upd (m_told (m_set_thrown uM (0 : Int32))) (0 : Int32).toNatClampNeg x2)) (upd (m_told (m_set_told (m_set_thrown uM (0 : Int32)) (upd (m_told (m_set_thrown uM (0 : Int32))) (0 : Int32).toNatClampNeg x2))) (1 : Int32).toNatClampNeg x3))) (2 : Int32).toNatClampNeg x4)) = payW uM x2 x3 x4 := by
  rw [cl0, cl1, cl2, told_set, told_set, told_thr, set_told2, set_told2]
  rfl
theorem pay2_eq (uM : StM) (x1 x2 x3 x4 : Int32) : f_X2_pay uM x1 x2 x3 x4 = B_X2_pay_38 (fun z208_u z208_1 z208_5 => if z208_5 = 0 then some ((-1 : Int32), z208_u) else (f_X2_payOf z208_u z208_1).bind fun r210 => if r210 = (-9 : Int32) then some (r210, z208_u) else if z208_1 = 0 then some (r210, (m_set_trace z208_u ((m_trace z208_u) + (1 : Int64)))) else if z208_1 = (1 : Int32) then some (r210, (m_set_trace z208_u ((m_trace z208_u) + (11 : Int64)))) else some (r210, (m_set_trace z208_u ((m_trace z208_u) + (111 : Int64))))) 1000 (payW uM x2 x3 x4) x1 (inb 0 2 x1) (0 : Int32) := by
  unfold f_X2_pay
  rw [if_neg gz0, if_neg gz1, if_neg gz2, pay2_in, Option.bind_some, pay_st]
theorem st_pay {uS : StS} {uM : StM} (h : Rel uS uM) (x1 x2 x3 x4 : Int32) : ∃ v uS' u', f_X1_pay uS x1 x2 x3 x4 = some (v, uS') ∧ f_X2_pay uM x1 x2 x3 x4 = some (v, u') ∧ Rel uS' u' := by
  have hR := h
  obtain ⟨n, m, wo, we, hz, hr, rs, cS, sv, h1, h2, h3, h4⟩ := h
  have hn := h1.2.1
  have hws := payW_scr uM x2 x3 x4
  have hwt : ∀ b, b < n → m_told (payW uM x2 x3 x4) b = pk3 x2 x3 x4 b := fun b hb => payW_told uM x2 x3 x4 (by omega)
  rw [pay2_eq]
  generalize payW uM x2 x3 x4 = w at *
  have hM := relM_scr hws h2
  have hT4 := relT_scr hws h4
  rw [pay2_loop0 hM.1 hn (pk3 x2 x3 x4) hwt x1 _ (Or.symm (inb01 _ _ _))]
  unfold f_X1_pay
  rw [isKind1, Option.bind_some]
  rcases inb01 0 2 x1 with ek | ek
  case inr =>
    rw [ek, if_pos rfl, if_pos rfl, if_pos rfl]
    exact ⟨_, _, _, rfl, rfl, Rel_scr hws hR⟩
  rw [ek, if_neg one_ne, if_neg one_ne, areWorths1 h1]
  simp only [Option.bind_some]
  rcases allp_cases m1001 (pk3 x2 x3 x4) n 0 with e | ⟨e, q⟩
  · rw [e, if_pos rfl, if_pos rfl]
    exact ⟨_, _, _, rfl, rfl, Rel_scr hws hR⟩
  obtain ⟨kd, hkd, rfl⟩ := inb_ix (n := 3) (x := x1) ek
  have hT := allp_T q
  obtain ⟨hc, hp⟩ := payOf2 h1.1 hn hM.1 (fun b => (pk3 x2 x3 x4 b).toInt) (fun b hb => ⟨(hT b hb).1, (hT b hb).2.1, by rw [hwt b hb]; exact (hT b hb).2.2⟩) hT4.2.2.2.1 ⟨h4.1, h4.2.1⟩ hkd
  rw [e, if_neg one_ne, if_neg one_ne, hp, paidByKind1 h1.1 hn h1.2.2.1 x2 x3 x4 (fun b => (pk3 x2 x3 x4 b).toInt) hT h4.2.2.1 ⟨h4.1, h4.2.1⟩ hkd hc]
  simp only [Option.bind_some]
  generalize iI (pkd kd rs _ _) = v
  by_cases e9 : v = -9
  · rw [if_pos e9, if_pos e9]
    exact ⟨_, _, _, rfl, rfl, Rel_scr hws hR⟩
  · rw [if_neg e9, if_neg e9]
    have done : ∀ a : Int64, Rel (s_set_traced uS (s_traced uS + a)) (m_set_trace w (m_trace w + a)) := fun a => by
      obtain ⟨q1, q2, q3, q4, q5, q6, q7, q8, q9⟩ := hT4
      exact ⟨n, m, wo, we, hz, hr, rs, cS, sv, relS_ch h1 (bk_traced _ _) rfl, hM, h3, q1, q2, q3, q4, q5, q6, q7, q8, by show m_trace w + a = s_traced uS + a; rw [q9]⟩
    obtain ⟨r, ha1, ha2⟩ := asks1 hkd
    rw [ha1, Option.bind_some, ha2, asks2 hkd]
    exact ⟨_, _, _, rfl, rfl, done _⟩
