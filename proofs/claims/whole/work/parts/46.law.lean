theorem lgc (v : Int64) : lg_cmp v v = 0 := by
  unfold lg_cmp
  rw [if_neg (Int64.lt_irrefl), if_pos rfl]
abbrev lwD (s : State) (a1 a2 : Nat → Nat) : Prop := djS a1 ∧ djM a2 ∧ (∀ q, inS a1 q → s.heap.size ≤ q) ∧ (∀ q, inM a2 q → s.heap.size ≤ q) ∧ ∀ q, inS a1 q → ¬ inM a2 q
abbrev lwI (D : va_G) (cA : ClassId) (a1 a2 : Nat → Nat) (s : State) (uS : StS) (uM : StM) (H : Heap) (locs : List Loc) : Prop := va_P D vwCl (wS cA a1 uS) H ∧ va_P D vwCl (wM cA a2 uM) H ∧ Rel uS uM ∧ va_S (fun q : Nat => s.heap.size ≤ q) s.heap H locs
theorem keepM {D : va_G} {cA : ClassId} {a1 a2 : Nat → Nat} {s : State} {uM : StM} {H H1 : Heap} (F : lwD s a1 a2) (hP : va_P D vwCl (wM cA a2 uM) H) (hk : ∀ q : Nat, q < H.size → ¬ inS a1 q → H1[q]? = H[q]?) : va_P D vwCl (wM cA a2 uM) H1 := hP.kept (fun k q hq => hk _ (hP k q hq).lt (fun h => F.2.2.2.2 _ h (by
  obtain ⟨h1, h2⟩ := wM_ad cA a2 uM k q hq
  exact ⟨k, h1, h2⟩)))
theorem keepS {D : va_G} {cA : ClassId} {a1 a2 : Nat → Nat} {s : State} {uS : StS} {H H1 : Heap} (F : lwD s a1 a2) (hP : va_P D vwCl (wS cA a1 uS) H) (hk : ∀ q : Nat, q < H.size → ¬ inM a2 q → H1[q]? = H[q]?) : va_P D vwCl (wS cA a1 uS) H1 := hP.kept (fun k q hq => hk _ (hP k q hq).lt (fun h => F.2.2.2.2 q.1 (by
  obtain ⟨h1, h2⟩ := wS_ad cA a1 uS k q hq
  exact ⟨k, h1, h2⟩) h))
section LAW
variable {p : Program} {l : Launch} {e : Env} {s : State} {m : MethodId} {below : List Frame} {meth : Method} {c : Code} {b L : Nat} {xs : Nat → Int32} {D : va_G} {cA : ClassId} {a1 a2 : Nat → Nat} {H : Heap} {locs : List Loc} {Q : State → Prop} {ls : Array Slot} {x3 : Int32} {uS : StS} {uM : StM} {rest : List Value} {pc : Nat} {y : Int32}
/-- script[i + k] -/
theorem lw_rd (C0 : lw_At p s m meth c b L xs) (hS : va_S (fun q : Nat => s.heap.size ≤ q) s.heap H locs) (hl : lv_has ls 4 [(0, .ref b), (1, .ref (a1 0)), (2, .ref (a2 0)), (3, .int x3)]) (n : Int) {k : Int32} (hn : Int32.ofInt n = k) (hin : vp_in (x3 + k) L) (ey : xs (x3 + k).toNatClampNeg = y) (d0 : decode code pc = .ok (.aload_n 0, 1)) (d1 : decode code (pc + 1) = .ok (.iload_n 3, 1)) (d2 : decode code (pc + 2) = .ok (.iconst n, 1)) (d3 : decode code (pc + 3) = .ok (.iadd, 1)) (d4 : decode code (pc + 4) = .ok (.iaload, 1)) (kk : W p l e room_1 s m #[Value.ref b] below meth c H locs 25 163 Q (F0 m (pc + 5) ls (.int y :: rest))) : W p l e room_1 s m #[Value.ref b] below meth c H locs 25 163 Q (F0 m pc ls rest) := by
  obtain ⟨hx, hb, hr, hml, hown, hts, hX, hbl, hlocks, hgv⟩ := C0
  have hbA : ¬ (fun q : Nat => s.heap.size ≤ q) b := Nat.not_le.mpr hbl
  subst ey
  refine lv_aload_n hx hb d0 rfl (lv_at hl 0 rfl) ?_
  refine lv_iload_n hx hb d1 rfl (lv_at hl 3 rfl) ?_
  refine lv_iconst hx hb d2 hn ?_
  refine lv_iadd hx hb d3 ?_
  exact va_sld hx hb hX hbl hbA hS hin d4 kk
/-- script[i + k] != 0 -/
theorem lw_bl (C0 : lw_At p s m meth c b L xs) (hx : p.tables.exec = Jvm.exec) (hb : c.code = code) (d0 : decode code pc = .ok (.ifCond .eq 7, 3)) (d1 : decode code (pc + 3) = .ok (.iconst 1, 1)) (d2 : decode code (pc + 4) = .ok (.goto 4, 3)) (d3 : decode code (pc + 7) = .ok (.iconst 0, 1)) (kk : W p l e room_1 s m #[Value.ref b] below meth c H locs 25 163 Q (F0 m (pc + 8) ls (.int (if y = 0 then 0 else 1) :: rest))) : W p l e room_1 s m #[Value.ref b] below meth c H locs 25 163 Q (F0 m pc ls (.int y :: rest)) := by
  refine lv_if_eq (tgt := pc + 7) hx hb d0 (by omega) (fun h => ?_) (fun h => ?_)
  · refine lv_iconst (v := 0) hx hb d3 (by decide) ?_
    rw [if_pos h] at kk
    exact kk
  · refine lv_iconst (v := 1) hx hb d1 (by decide) ?_
    refine lv_goto (tgt := pc + 8) hx hb d2 (by omega) ?_
    rw [if_neg h] at kk
    exact kk
/-- what a case asks: the script's cells are there -/
abbrev lwV (x3 : Int32) (L : Nat) : Prop := vp_in (x3 + 1) L ∧ vp_in (x3 + 2) L ∧ vp_in (x3 + 3) L ∧ vp_in (x3 + 4) L ∧ vp_in (x3 + 5) L

set_option maxHeartbeats 4000000 in
set_option maxRecDepth 100000 in
theorem lw_c0 (C0 : lw_At p s m meth c b L xs) (hK : va_K D vwCl [(cA, .int)] s) (hZ : va_Nw nestW s) (F : lwD s a1 a2) (hv : lwV x3 L) (I : lwI D cA a1 a2 s uS uM H locs) (hl : lv_has ls 4 [(0, .ref b), (1, .ref (a1 0)), (2, .ref (a2 0)), (3, .int x3)]) (kk : ∀ (uS : StS) (uM : StM) (H : Heap) (locs : List Loc), lwI D cA a1 a2 s uS uM H locs → W p l e room_1 s m #[Value.ref b] below meth c H locs 25 163 Q (F0 m 840 ls [])) : W p l e room_1 s m #[Value.ref b] below meth c H locs 25 163 Q (F0 m 128 ls []) := by
  obtain ⟨hPS, hPM, hR, hS⟩ := I
  obtain ⟨hx, hb, hr, hml, hown, hts, hX, hbl, hlocks, hgv⟩ := id C0
  have hts : ∀ w ∈ wsL_law, w.before #[Value.ref b] s = true := fun w h => hts w (wsL_law_in w h)
  have hown : s.vm.findClass RL = some m.cls := hown
  have hC : CallFix p m c code 4 s #[Value.ref b] wsL_law RL := ⟨hx, hb, hml, hown, hts⟩
  obtain ⟨hv1, hv2, hv3, hv4, hv5⟩ := hv
  obtain ⟨y1, ey1⟩ : ∃ y : Int32, xs (x3 + 1).toNatClampNeg = y := ⟨_, rfl⟩
  obtain ⟨v, uS1, uM1, e1, e2, hR⟩ := st_buyers hR y1
  refine lv_aload_n hx hb dL_law_128 rfl (lv_at hl 1 rfl) ?_
  refine lw_rd C0 hS hl 1 (by decide) hv1 ey1 dL_law_129 dL_law_130 dL_law_131 dL_law_132 dL_law_133 ?_
  refine wcall_i (va_runV (As := [.int y1]) (rest := []) hC (c_X1_buyers l D cA a1 uS y1 (v, uS1) e1 F.1) (cwV 1 hts gL_law_X1_buyers rfl rfl rfl (by decide +kernel) ⟨Nat.le_of_ble_eq_true rfl, Nat.le_of_ble_eq_true rfl⟩) ⟨roB_blind, va_recv (ci := 1) (q0 := 0) hK hPS rfl rfl, roB_pre hK hZ (hws_1 hPS)⟩ rfl rfl hl.1 rfl (lv_room (Nat.le_of_ble_eq_true rfl)) dL_law_134 ⟨Nat.le_of_ble_eq_true rfl, Nat.le_of_ble_eq_true rfl⟩) hS F.2.2.1 (fun H1 locs1 hPS1 hk1 hS => ?_)
  have hPM := keepM F hPM hk1
  have hPS := hPS1
  refine lv_aload_n hx hb dL_law_137 rfl (lv_at hl 2 rfl) ?_
  refine lw_rd C0 hS hl 1 (by decide) hv1 ey1 dL_law_138 dL_law_139 dL_law_140 dL_law_141 dL_law_142 ?_
  refine wcall_i (va_runV (As := [.int y1]) (rest := [.int v]) hC (c_X2_buyers l D cA a2 uM y1 (v, uM1) e2 F.2.1) (cwV 1 hts gL_law_X2_buyers rfl rfl rfl (by decide +kernel) ⟨Nat.le_of_ble_eq_true rfl, Nat.le_of_ble_eq_true rfl⟩) ⟨roB_blind, va_recv (ci := 2) (q0 := 0) hK hPM rfl rfl, roB_pre hK hZ (hws_1 hPM)⟩ rfl rfl hl.1 rfl (lv_room (Nat.le_of_ble_eq_true rfl)) dL_law_143 ⟨Nat.le_of_ble_eq_true rfl, Nat.le_of_ble_eq_true rfl⟩) hS F.2.2.2.1 (fun H1 locs1 hPM1 hk1 hS => ?_)
  have hPS := keepS F hPS hk1
  have hPM := hPM1
  refine lv_icmp_eq (tgt := 840) hx hb dL_law_146 (by decide) (fun _ => ?_) (fun h => absurd rfl h)
  exact kk _ _ _ _ ⟨hPS, hPM, hR, hS⟩
set_option maxHeartbeats 4000000 in
set_option maxRecDepth 100000 in
theorem lw_c1 (C0 : lw_At p s m meth c b L xs) (hK : va_K D vwCl [(cA, .int)] s) (hZ : va_Nw nestW s) (F : lwD s a1 a2) (hv : lwV x3 L) (I : lwI D cA a1 a2 s uS uM H locs) (hl : lv_has ls 4 [(0, .ref b), (1, .ref (a1 0)), (2, .ref (a2 0)), (3, .int x3)]) (kk : ∀ (uS : StS) (uM : StM) (H : Heap) (locs : List Loc), lwI D cA a1 a2 s uS uM H locs → W p l e room_1 s m #[Value.ref b] below meth c H locs 25 163 Q (F0 m 840 ls [])) : W p l e room_1 s m #[Value.ref b] below meth c H locs 25 163 Q (F0 m 151 ls []) := by
  obtain ⟨hPS, hPM, hR, hS⟩ := I
  obtain ⟨hx, hb, hr, hml, hown, hts, hX, hbl, hlocks, hgv⟩ := id C0
  have hts : ∀ w ∈ wsL_law, w.before #[Value.ref b] s = true := fun w h => hts w (wsL_law_in w h)
  have hown : s.vm.findClass RL = some m.cls := hown
  have hC : CallFix p m c code 4 s #[Value.ref b] wsL_law RL := ⟨hx, hb, hml, hown, hts⟩
  obtain ⟨hv1, hv2, hv3, hv4, hv5⟩ := hv
  obtain ⟨y1, ey1⟩ : ∃ y : Int32, xs (x3 + 1).toNatClampNeg = y := ⟨_, rfl⟩
  obtain ⟨y2, ey2⟩ : ∃ y : Int32, xs (x3 + 2).toNatClampNeg = y := ⟨_, rfl⟩
  obtain ⟨y3, ey3⟩ : ∃ y : Int32, xs (x3 + 3).toNatClampNeg = y := ⟨_, rfl⟩
  obtain ⟨v, uS1, uM1, e1, e2, hR⟩ := st_book hR y1 y2 y3
  refine lv_aload_n hx hb dL_law_151 rfl (lv_at hl 1 rfl) ?_
  refine lw_rd C0 hS hl 1 (by decide) hv1 ey1 dL_law_152 dL_law_153 dL_law_154 dL_law_155 dL_law_156 ?_
  refine lw_rd C0 hS hl 2 (by decide) hv2 ey2 dL_law_157 dL_law_158 dL_law_159 dL_law_160 dL_law_161 ?_
  refine lw_rd C0 hS hl 3 (by decide) hv3 ey3 dL_law_162 dL_law_163 dL_law_164 dL_law_165 dL_law_166 ?_
  refine wcall_i (va_runV (As := [.int y1, .int y2, .int y3]) (rest := []) hC (c_X1_book l D cA a1 uS y1 y2 y3 (v, uS1) e1 F.1) (cwV 3 hts gL_law_X1_book rfl rfl rfl (by decide +kernel) ⟨Nat.le_of_ble_eq_true rfl, Nat.le_of_ble_eq_true rfl⟩) ⟨roB_blind, va_recv (ci := 1) (q0 := 0) hK hPS rfl rfl, roB_pre hK hZ (hws_1 hPS)⟩ rfl rfl hl.1 rfl (lv_room (Nat.le_of_ble_eq_true rfl)) dL_law_167 ⟨Nat.le_of_ble_eq_true rfl, Nat.le_of_ble_eq_true rfl⟩) hS F.2.2.1 (fun H1 locs1 hPS1 hk1 hS => ?_)
  have hPM := keepM F hPM hk1
  have hPS := hPS1
  refine lv_aload_n hx hb dL_law_170 rfl (lv_at hl 2 rfl) ?_
  refine lw_rd C0 hS hl 1 (by decide) hv1 ey1 dL_law_171 dL_law_172 dL_law_173 dL_law_174 dL_law_175 ?_
  refine lw_rd C0 hS hl 2 (by decide) hv2 ey2 dL_law_176 dL_law_177 dL_law_178 dL_law_179 dL_law_180 ?_
  refine lw_rd C0 hS hl 3 (by decide) hv3 ey3 dL_law_181 dL_law_182 dL_law_183 dL_law_184 dL_law_185 ?_
  refine wcall_i (va_runV (As := [.int y1, .int y2, .int y3]) (rest := [.int v]) hC (c_X2_book l D cA a2 uM y1 y2 y3 (v, uM1) e2 F.2.1) (cwV 3 hts gL_law_X2_book rfl rfl rfl (by decide +kernel) ⟨Nat.le_of_ble_eq_true rfl, Nat.le_of_ble_eq_true rfl⟩) ⟨roB_blind, va_recv (ci := 2) (q0 := 0) hK hPM rfl rfl, roB_pre hK hZ (hws_1 hPM)⟩ rfl rfl hl.1 rfl (lv_room (Nat.le_of_ble_eq_true rfl)) dL_law_186 ⟨Nat.le_of_ble_eq_true rfl, Nat.le_of_ble_eq_true rfl⟩) hS F.2.2.2.1 (fun H1 locs1 hPM1 hk1 hS => ?_)
  have hPS := keepS F hPS hk1
  have hPM := hPM1
  refine lv_icmp_eq (tgt := 840) hx hb dL_law_189 (by decide) (fun _ => ?_) (fun h => absurd rfl h)
  exact kk _ _ _ _ ⟨hPS, hPM, hR, hS⟩
set_option maxHeartbeats 4000000 in
set_option maxRecDepth 100000 in
theorem lw_c2 (C0 : lw_At p s m meth c b L xs) (hK : va_K D vwCl [(cA, .int)] s) (hZ : va_Nw nestW s) (F : lwD s a1 a2) (hv : lwV x3 L) (I : lwI D cA a1 a2 s uS uM H locs) (hl : lv_has ls 4 [(0, .ref b), (1, .ref (a1 0)), (2, .ref (a2 0)), (3, .int x3)]) (kk : ∀ (uS : StS) (uM : StM) (H : Heap) (locs : List Loc), lwI D cA a1 a2 s uS uM H locs → W p l e room_1 s m #[Value.ref b] below meth c H locs 25 163 Q (F0 m 840 ls [])) : W p l e room_1 s m #[Value.ref b] below meth c H locs 25 163 Q (F0 m 194 ls []) := by
  obtain ⟨hPS, hPM, hR, hS⟩ := I
  obtain ⟨hx, hb, hr, hml, hown, hts, hX, hbl, hlocks, hgv⟩ := id C0
  have hts : ∀ w ∈ wsL_law, w.before #[Value.ref b] s = true := fun w h => hts w (wsL_law_in w h)
  have hown : s.vm.findClass RL = some m.cls := hown
  have hC : CallFix p m c code 4 s #[Value.ref b] wsL_law RL := ⟨hx, hb, hml, hown, hts⟩
  obtain ⟨hv1, hv2, hv3, hv4, hv5⟩ := hv
  obtain ⟨y1, ey1⟩ : ∃ y : Int32, xs (x3 + 1).toNatClampNeg = y := ⟨_, rfl⟩
  obtain ⟨y2, ey2⟩ : ∃ y : Int32, xs (x3 + 2).toNatClampNeg = y := ⟨_, rfl⟩
  obtain ⟨y3, ey3⟩ : ∃ y : Int32, xs (x3 + 3).toNatClampNeg = y := ⟨_, rfl⟩
  obtain ⟨v, uS1, uM1, e1, e2, hR⟩ := st_more hR y1 y2 y3
  refine lv_aload_n hx hb dL_law_194 rfl (lv_at hl 1 rfl) ?_
  refine lw_rd C0 hS hl 1 (by decide) hv1 ey1 dL_law_195 dL_law_196 dL_law_197 dL_law_198 dL_law_199 ?_
  refine lw_rd C0 hS hl 2 (by decide) hv2 ey2 dL_law_200 dL_law_201 dL_law_202 dL_law_203 dL_law_204 ?_
  refine lw_rd C0 hS hl 3 (by decide) hv3 ey3 dL_law_205 dL_law_206 dL_law_207 dL_law_208 dL_law_209 ?_
  refine wcall_i (va_runV (As := [.int y1, .int y2, .int y3]) (rest := []) hC (c_X1_more l D cA a1 uS y1 y2 y3 (v, uS1) e1 F.1) (cwV 3 hts gL_law_X1_more rfl rfl rfl (by decide +kernel) ⟨Nat.le_of_ble_eq_true rfl, Nat.le_of_ble_eq_true rfl⟩) ⟨roB_blind, va_recv (ci := 1) (q0 := 0) hK hPS rfl rfl, roB_pre hK hZ (hws_1 hPS)⟩ rfl rfl hl.1 rfl (lv_room (Nat.le_of_ble_eq_true rfl)) dL_law_210 ⟨Nat.le_of_ble_eq_true rfl, Nat.le_of_ble_eq_true rfl⟩) hS F.2.2.1 (fun H1 locs1 hPS1 hk1 hS => ?_)
  have hPM := keepM F hPM hk1
  have hPS := hPS1
  refine lv_aload_n hx hb dL_law_213 rfl (lv_at hl 2 rfl) ?_
  refine lw_rd C0 hS hl 1 (by decide) hv1 ey1 dL_law_214 dL_law_215 dL_law_216 dL_law_217 dL_law_218 ?_
  refine lw_rd C0 hS hl 2 (by decide) hv2 ey2 dL_law_219 dL_law_220 dL_law_221 dL_law_222 dL_law_223 ?_
  refine lw_rd C0 hS hl 3 (by decide) hv3 ey3 dL_law_224 dL_law_225 dL_law_226 dL_law_227 dL_law_228 ?_
  refine wcall_i (va_runV (As := [.int y1, .int y2, .int y3]) (rest := [.int v]) hC (c_X2_more l D cA a2 uM y1 y2 y3 (v, uM1) e2 F.2.1) (cwV 3 hts gL_law_X2_more rfl rfl rfl (by decide +kernel) ⟨Nat.le_of_ble_eq_true rfl, Nat.le_of_ble_eq_true rfl⟩) ⟨roB_blind, va_recv (ci := 2) (q0 := 0) hK hPM rfl rfl, roB_pre hK hZ (hws_1 hPM)⟩ rfl rfl hl.1 rfl (lv_room (Nat.le_of_ble_eq_true rfl)) dL_law_229 ⟨Nat.le_of_ble_eq_true rfl, Nat.le_of_ble_eq_true rfl⟩) hS F.2.2.2.1 (fun H1 locs1 hPM1 hk1 hS => ?_)
  have hPS := keepS F hPS hk1
  have hPM := hPM1
  refine lv_icmp_eq (tgt := 840) hx hb dL_law_232 (by decide) (fun _ => ?_) (fun h => absurd rfl h)
  exact kk _ _ _ _ ⟨hPS, hPM, hR, hS⟩
set_option maxHeartbeats 4000000 in
set_option maxRecDepth 100000 in
theorem lw_c3 (C0 : lw_At p s m meth c b L xs) (hK : va_K D vwCl [(cA, .int)] s) (hZ : va_Nw nestW s) (F : lwD s a1 a2) (hv : lwV x3 L) (I : lwI D cA a1 a2 s uS uM H locs) (hl : lv_has ls 4 [(0, .ref b), (1, .ref (a1 0)), (2, .ref (a2 0)), (3, .int x3)]) (kk : ∀ (uS : StS) (uM : StM) (H : Heap) (locs : List Loc), lwI D cA a1 a2 s uS uM H locs → W p l e room_1 s m #[Value.ref b] below meth c H locs 25 163 Q (F0 m 840 ls [])) : W p l e room_1 s m #[Value.ref b] below meth c H locs 25 163 Q (F0 m 237 ls []) := by
  obtain ⟨hPS, hPM, hR, hS⟩ := I
  obtain ⟨hx, hb, hr, hml, hown, hts, hX, hbl, hlocks, hgv⟩ := id C0
  have hts : ∀ w ∈ wsL_law, w.before #[Value.ref b] s = true := fun w h => hts w (wsL_law_in w h)
  have hown : s.vm.findClass RL = some m.cls := hown
  have hC : CallFix p m c code 4 s #[Value.ref b] wsL_law RL := ⟨hx, hb, hml, hown, hts⟩
  obtain ⟨hv1, hv2, hv3, hv4, hv5⟩ := hv
  obtain ⟨y1, ey1⟩ : ∃ y : Int32, xs (x3 + 1).toNatClampNeg = y := ⟨_, rfl⟩
  obtain ⟨y2, ey2⟩ : ∃ y : Int32, xs (x3 + 2).toNatClampNeg = y := ⟨_, rfl⟩
  obtain ⟨y3, ey3⟩ : ∃ y : Int32, xs (x3 + 3).toNatClampNeg = y := ⟨_, rfl⟩
  obtain ⟨v, uM1, e1, e2, hR⟩ := st_about hR y1 y2 y3
  refine lv_aload_n hx hb dL_law_237 rfl (lv_at hl 1 rfl) ?_
  refine lw_rd C0 hS hl 1 (by decide) hv1 ey1 dL_law_238 dL_law_239 dL_law_240 dL_law_241 dL_law_242 ?_
  refine lw_rd C0 hS hl 2 (by decide) hv2 ey2 dL_law_243 dL_law_244 dL_law_245 dL_law_246 dL_law_247 ?_
  refine lw_rd C0 hS hl 3 (by decide) hv3 ey3 dL_law_248 dL_law_249 dL_law_250 dL_law_251 dL_law_252 ?_
  refine rcall_i (W.runV (As := [.int y1, .int y2, .int y3]) (rest := []) hC (c_X1_about l D cA a1 uS y1 y2 y3 v e1) (cwV 3 hts gL_law_X1_about rfl rfl rfl (by decide +kernel) ⟨Nat.le_of_ble_eq_true rfl, Nat.le_of_ble_eq_true rfl⟩) ⟨roB_blind, va_recv (ci := 1) (q0 := 0) hK hPS rfl rfl, roB_pre hK hZ (hws_1 hPS)⟩ rfl rfl hl.1 rfl (lv_room (Nat.le_of_ble_eq_true rfl)) dL_law_253 ⟨Nat.le_of_ble_eq_true rfl, Nat.le_of_ble_eq_true rfl⟩) ?_
  refine lv_aload_n hx hb dL_law_256 rfl (lv_at hl 2 rfl) ?_
  refine lw_rd C0 hS hl 1 (by decide) hv1 ey1 dL_law_257 dL_law_258 dL_law_259 dL_law_260 dL_law_261 ?_
  refine lw_rd C0 hS hl 2 (by decide) hv2 ey2 dL_law_262 dL_law_263 dL_law_264 dL_law_265 dL_law_266 ?_
  refine lw_rd C0 hS hl 3 (by decide) hv3 ey3 dL_law_267 dL_law_268 dL_law_269 dL_law_270 dL_law_271 ?_
  refine wcall_i (va_runV (As := [.int y1, .int y2, .int y3]) (rest := [.int v]) hC (c_X2_about l D cA a2 uM y1 y2 y3 (v, uM1) e2 F.2.1) (cwV 3 hts gL_law_X2_about rfl rfl rfl (by decide +kernel) ⟨Nat.le_of_ble_eq_true rfl, Nat.le_of_ble_eq_true rfl⟩) ⟨roB_blind, va_recv (ci := 2) (q0 := 0) hK hPM rfl rfl, roB_pre hK hZ (hws_1 hPM)⟩ rfl rfl hl.1 rfl (lv_room (Nat.le_of_ble_eq_true rfl)) dL_law_272 ⟨Nat.le_of_ble_eq_true rfl, Nat.le_of_ble_eq_true rfl⟩) hS F.2.2.2.1 (fun H1 locs1 hPM1 hk1 hS => ?_)
  have hPS := keepS F hPS hk1
  have hPM := hPM1
  refine lv_icmp_eq (tgt := 840) hx hb dL_law_275 (by decide) (fun _ => ?_) (fun h => absurd rfl h)
  exact kk _ _ _ _ ⟨hPS, hPM, hR, hS⟩
set_option maxHeartbeats 4000000 in
set_option maxRecDepth 100000 in
theorem lw_c4 (C0 : lw_At p s m meth c b L xs) (hK : va_K D vwCl [(cA, .int)] s) (hZ : va_Nw nestW s) (F : lwD s a1 a2) (hv : lwV x3 L) (I : lwI D cA a1 a2 s uS uM H locs) (hl : lv_has ls 4 [(0, .ref b), (1, .ref (a1 0)), (2, .ref (a2 0)), (3, .int x3)]) (kk : ∀ (uS : StS) (uM : StM) (H : Heap) (locs : List Loc), lwI D cA a1 a2 s uS uM H locs → W p l e room_1 s m #[Value.ref b] below meth c H locs 25 163 Q (F0 m 840 ls [])) : W p l e room_1 s m #[Value.ref b] below meth c H locs 25 163 Q (F0 m 280 ls []) := by
  obtain ⟨hPS, hPM, hR, hS⟩ := I
  obtain ⟨hx, hb, hr, hml, hown, hts, hX, hbl, hlocks, hgv⟩ := id C0
  have hts : ∀ w ∈ wsL_law, w.before #[Value.ref b] s = true := fun w h => hts w (wsL_law_in w h)
  have hown : s.vm.findClass RL = some m.cls := hown
  have hC : CallFix p m c code 4 s #[Value.ref b] wsL_law RL := ⟨hx, hb, hml, hown, hts⟩
  obtain ⟨hv1, hv2, hv3, hv4, hv5⟩ := hv
  obtain ⟨y1, ey1⟩ : ∃ y : Int32, xs (x3 + 1).toNatClampNeg = y := ⟨_, rfl⟩
  obtain ⟨y2, ey2⟩ : ∃ y : Int32, xs (x3 + 2).toNatClampNeg = y := ⟨_, rfl⟩
  obtain ⟨v, uM1, e1, e2, hR⟩ := st_whole hR y1 y2
  refine lv_aload_n hx hb dL_law_280 rfl (lv_at hl 1 rfl) ?_
  refine lw_rd C0 hS hl 1 (by decide) hv1 ey1 dL_law_281 dL_law_282 dL_law_283 dL_law_284 dL_law_285 ?_
  refine lw_rd C0 hS hl 2 (by decide) hv2 ey2 dL_law_286 dL_law_287 dL_law_288 dL_law_289 dL_law_290 ?_
  refine rcall_i (W.runV (As := [.int y1, .int y2]) (rest := []) hC (c_X1_whole l D cA a1 uS y1 y2 v e1) (cwV 2 hts gL_law_X1_whole rfl rfl rfl (by decide +kernel) ⟨Nat.le_of_ble_eq_true rfl, Nat.le_of_ble_eq_true rfl⟩) ⟨roB_blind, va_recv (ci := 1) (q0 := 0) hK hPS rfl rfl, roB_pre hK hZ (hws_1 hPS)⟩ rfl rfl hl.1 rfl (lv_room (Nat.le_of_ble_eq_true rfl)) dL_law_291 ⟨Nat.le_of_ble_eq_true rfl, Nat.le_of_ble_eq_true rfl⟩) ?_
  refine lv_aload_n hx hb dL_law_294 rfl (lv_at hl 2 rfl) ?_
  refine lw_rd C0 hS hl 1 (by decide) hv1 ey1 dL_law_295 dL_law_296 dL_law_297 dL_law_298 dL_law_299 ?_
  refine lw_rd C0 hS hl 2 (by decide) hv2 ey2 dL_law_300 dL_law_301 dL_law_302 dL_law_303 dL_law_304 ?_
  refine wcall_i (va_runV (As := [.int y1, .int y2]) (rest := [.int v]) hC (c_X2_whole l D cA a2 uM y1 y2 (v, uM1) e2 F.2.1) (cwV 2 hts gL_law_X2_whole rfl rfl rfl (by decide +kernel) ⟨Nat.le_of_ble_eq_true rfl, Nat.le_of_ble_eq_true rfl⟩) ⟨roB_blind, va_recv (ci := 2) (q0 := 0) hK hPM rfl rfl, roB_pre hK hZ (hws_1 hPM)⟩ rfl rfl hl.1 rfl (lv_room (Nat.le_of_ble_eq_true rfl)) dL_law_305 ⟨Nat.le_of_ble_eq_true rfl, Nat.le_of_ble_eq_true rfl⟩) hS F.2.2.2.1 (fun H1 locs1 hPM1 hk1 hS => ?_)
  have hPS := keepS F hPS hk1
  have hPM := hPM1
  refine lv_icmp_eq (tgt := 840) hx hb dL_law_308 (by decide) (fun _ => ?_) (fun h => absurd rfl h)
  exact kk _ _ _ _ ⟨hPS, hPM, hR, hS⟩
set_option maxHeartbeats 4000000 in
set_option maxRecDepth 100000 in
theorem lw_c5 (C0 : lw_At p s m meth c b L xs) (hK : va_K D vwCl [(cA, .int)] s) (hZ : va_Nw nestW s) (F : lwD s a1 a2) (hv : lwV x3 L) (I : lwI D cA a1 a2 s uS uM H locs) (hl : lv_has ls 4 [(0, .ref b), (1, .ref (a1 0)), (2, .ref (a2 0)), (3, .int x3)]) (kk : ∀ (uS : StS) (uM : StM) (H : Heap) (locs : List Loc), lwI D cA a1 a2 s uS uM H locs → W p l e room_1 s m #[Value.ref b] below meth c H locs 25 163 Q (F0 m 840 ls [])) : W p l e room_1 s m #[Value.ref b] below meth c H locs 25 163 Q (F0 m 313 ls []) := by
  obtain ⟨hPS, hPM, hR, hS⟩ := I
  obtain ⟨hx, hb, hr, hml, hown, hts, hX, hbl, hlocks, hgv⟩ := id C0
  have hts : ∀ w ∈ wsL_law, w.before #[Value.ref b] s = true := fun w h => hts w (wsL_law_in w h)
  have hown : s.vm.findClass RL = some m.cls := hown
  have hC : CallFix p m c code 4 s #[Value.ref b] wsL_law RL := ⟨hx, hb, hml, hown, hts⟩
  obtain ⟨hv1, hv2, hv3, hv4, hv5⟩ := hv
  obtain ⟨y1, ey1⟩ : ∃ y : Int32, xs (x3 + 1).toNatClampNeg = y := ⟨_, rfl⟩
  obtain ⟨y2, ey2⟩ : ∃ y : Int32, xs (x3 + 2).toNatClampNeg = y := ⟨_, rfl⟩
  obtain ⟨y3, ey3⟩ : ∃ y : Int32, xs (x3 + 3).toNatClampNeg = y := ⟨_, rfl⟩
  obtain ⟨y4, ey4⟩ : ∃ y : Int32, xs (x3 + 4).toNatClampNeg = y := ⟨_, rfl⟩
  obtain ⟨v, uM1, e1, e2, hR⟩ := st_slope hR y1 y2 (if y3 = 0 then 0 else 1) y4
  refine lv_aload_n hx hb dL_law_313 rfl (lv_at hl 1 rfl) ?_
  refine lw_rd C0 hS hl 1 (by decide) hv1 ey1 dL_law_314 dL_law_315 dL_law_316 dL_law_317 dL_law_318 ?_
  refine lw_rd C0 hS hl 2 (by decide) hv2 ey2 dL_law_319 dL_law_320 dL_law_321 dL_law_322 dL_law_323 ?_
  refine lw_rd C0 hS hl 3 (by decide) hv3 ey3 dL_law_324 dL_law_325 dL_law_326 dL_law_327 dL_law_328 ?_
  refine lw_bl C0 hx hb dL_law_329 dL_law_332 dL_law_333 dL_law_336 ?_
  refine lw_rd C0 hS hl 4 (by decide) hv4 ey4 dL_law_337 dL_law_338 dL_law_339 dL_law_340 dL_law_341 ?_
  refine rcall_l (W.runV (As := [.int y1, .int y2, .int (if y3 = 0 then 0 else 1), .int y4]) (rest := []) hC (c_X1_slope l D cA a1 uS y1 y2 (if y3 = 0 then 0 else 1) y4 v e1) (cwV 4 hts gL_law_X1_slope rfl rfl rfl (by decide +kernel) ⟨Nat.le_of_ble_eq_true rfl, Nat.le_of_ble_eq_true rfl⟩) ⟨roB_blind, va_recv (ci := 1) (q0 := 0) hK hPS rfl rfl, roB_pre hK hZ (hws_1 hPS)⟩ rfl rfl hl.1 rfl (lv_room (Nat.le_of_ble_eq_true rfl)) dL_law_342 ⟨Nat.le_of_ble_eq_true rfl, Nat.le_of_ble_eq_true rfl⟩) ?_
  refine lv_aload_n hx hb dL_law_345 rfl (lv_at hl 2 rfl) ?_
  refine lw_rd C0 hS hl 1 (by decide) hv1 ey1 dL_law_346 dL_law_347 dL_law_348 dL_law_349 dL_law_350 ?_
  refine lw_rd C0 hS hl 2 (by decide) hv2 ey2 dL_law_351 dL_law_352 dL_law_353 dL_law_354 dL_law_355 ?_
  refine lw_rd C0 hS hl 3 (by decide) hv3 ey3 dL_law_356 dL_law_357 dL_law_358 dL_law_359 dL_law_360 ?_
  refine lw_bl C0 hx hb dL_law_361 dL_law_364 dL_law_365 dL_law_368 ?_
  refine lw_rd C0 hS hl 4 (by decide) hv4 ey4 dL_law_369 dL_law_370 dL_law_371 dL_law_372 dL_law_373 ?_
  refine wcall_l (va_runV (As := [.int y1, .int y2, .int (if y3 = 0 then 0 else 1), .int y4]) (rest := [.long v]) hC (c_X2_slope l D cA a2 uM y1 y2 (if y3 = 0 then 0 else 1) y4 (v, uM1) e2 F.2.1) (cwV 4 hts gL_law_X2_slope rfl rfl rfl (by decide +kernel) ⟨Nat.le_of_ble_eq_true rfl, Nat.le_of_ble_eq_true rfl⟩) ⟨roB_blind, va_recv (ci := 2) (q0 := 0) hK hPM rfl rfl, roB_pre hK hZ (hws_1 hPM)⟩ rfl rfl hl.1 rfl (lv_room (Nat.le_of_ble_eq_true rfl)) dL_law_374 ⟨Nat.le_of_ble_eq_true rfl, Nat.le_of_ble_eq_true rfl⟩) hS F.2.2.2.1 (fun H1 locs1 hPM1 hk1 hS => ?_)
  have hPS := keepS F hPS hk1
  have hPM := hPM1
  refine W.lcmp hx hb dL_law_377 ?_
  refine lv_if_eq (tgt := 840) hx hb dL_law_378 (by decide) (fun _ => ?_) (fun h => absurd (lgc v) h)
  exact kk _ _ _ _ ⟨hPS, hPM, hR, hS⟩
set_option maxHeartbeats 4000000 in
set_option maxRecDepth 100000 in
theorem lw_c6 (C0 : lw_At p s m meth c b L xs) (hK : va_K D vwCl [(cA, .int)] s) (hZ : va_Nw nestW s) (F : lwD s a1 a2) (hv : lwV x3 L) (I : lwI D cA a1 a2 s uS uM H locs) (hl : lv_has ls 4 [(0, .ref b), (1, .ref (a1 0)), (2, .ref (a2 0)), (3, .int x3)]) (kk : ∀ (uS : StS) (uM : StM) (H : Heap) (locs : List Loc), lwI D cA a1 a2 s uS uM H locs → W p l e room_1 s m #[Value.ref b] below meth c H locs 25 163 Q (F0 m 840 ls [])) : W p l e room_1 s m #[Value.ref b] below meth c H locs 25 163 Q (F0 m 383 ls []) := by
  obtain ⟨hPS, hPM, hR, hS⟩ := I
  obtain ⟨hx, hb, hr, hml, hown, hts, hX, hbl, hlocks, hgv⟩ := id C0
  have hts : ∀ w ∈ wsL_law, w.before #[Value.ref b] s = true := fun w h => hts w (wsL_law_in w h)
  have hown : s.vm.findClass RL = some m.cls := hown
  have hC : CallFix p m c code 4 s #[Value.ref b] wsL_law RL := ⟨hx, hb, hml, hown, hts⟩
  obtain ⟨hv1, hv2, hv3, hv4, hv5⟩ := hv
  obtain ⟨y1, ey1⟩ : ∃ y : Int32, xs (x3 + 1).toNatClampNeg = y := ⟨_, rfl⟩
  obtain ⟨y2, ey2⟩ : ∃ y : Int32, xs (x3 + 2).toNatClampNeg = y := ⟨_, rfl⟩
  obtain ⟨y3, ey3⟩ : ∃ y : Int32, xs (x3 + 3).toNatClampNeg = y := ⟨_, rfl⟩
  obtain ⟨v, uM1, e1, e2, hR⟩ := st_gets hR y1 y2 y3
  refine lv_aload_n hx hb dL_law_383 rfl (lv_at hl 1 rfl) ?_
  refine lw_rd C0 hS hl 1 (by decide) hv1 ey1 dL_law_384 dL_law_385 dL_law_386 dL_law_387 dL_law_388 ?_
  refine lw_rd C0 hS hl 2 (by decide) hv2 ey2 dL_law_389 dL_law_390 dL_law_391 dL_law_392 dL_law_393 ?_
  refine lw_rd C0 hS hl 3 (by decide) hv3 ey3 dL_law_394 dL_law_395 dL_law_396 dL_law_397 dL_law_398 ?_
  refine rcall_i (W.runV (As := [.int y1, .int y2, .int y3]) (rest := []) hC (c_X1_gets l D cA a1 uS y1 y2 y3 v e1) (cwV 3 hts gL_law_X1_gets rfl rfl rfl (by decide +kernel) ⟨Nat.le_of_ble_eq_true rfl, Nat.le_of_ble_eq_true rfl⟩) ⟨roB_blind, va_recv (ci := 1) (q0 := 0) hK hPS rfl rfl, roB_pre hK hZ (hws_1 hPS)⟩ rfl rfl hl.1 rfl (lv_room (Nat.le_of_ble_eq_true rfl)) dL_law_399 ⟨Nat.le_of_ble_eq_true rfl, Nat.le_of_ble_eq_true rfl⟩) ?_
  refine lv_aload_n hx hb dL_law_402 rfl (lv_at hl 2 rfl) ?_
  refine lw_rd C0 hS hl 1 (by decide) hv1 ey1 dL_law_403 dL_law_404 dL_law_405 dL_law_406 dL_law_407 ?_
  refine lw_rd C0 hS hl 2 (by decide) hv2 ey2 dL_law_408 dL_law_409 dL_law_410 dL_law_411 dL_law_412 ?_
  refine lw_rd C0 hS hl 3 (by decide) hv3 ey3 dL_law_413 dL_law_414 dL_law_415 dL_law_416 dL_law_417 ?_
  refine wcall_i (va_runV (As := [.int y1, .int y2, .int y3]) (rest := [.int v]) hC (c_X2_gets l D cA a2 uM y1 y2 y3 (v, uM1) e2 F.2.1) (cwV 3 hts gL_law_X2_gets rfl rfl rfl (by decide +kernel) ⟨Nat.le_of_ble_eq_true rfl, Nat.le_of_ble_eq_true rfl⟩) ⟨roB_blind, va_recv (ci := 2) (q0 := 0) hK hPM rfl rfl, roB_pre hK hZ (hws_1 hPM)⟩ rfl rfl hl.1 rfl (lv_room (Nat.le_of_ble_eq_true rfl)) dL_law_418 ⟨Nat.le_of_ble_eq_true rfl, Nat.le_of_ble_eq_true rfl⟩) hS F.2.2.2.1 (fun H1 locs1 hPM1 hk1 hS => ?_)
  have hPS := keepS F hPS hk1
  have hPM := hPM1
  refine lv_icmp_eq (tgt := 840) hx hb dL_law_421 (by decide) (fun _ => ?_) (fun h => absurd rfl h)
  exact kk _ _ _ _ ⟨hPS, hPM, hR, hS⟩
set_option maxHeartbeats 4000000 in
set_option maxRecDepth 100000 in
theorem lw_c7 (C0 : lw_At p s m meth c b L xs) (hK : va_K D vwCl [(cA, .int)] s) (hZ : va_Nw nestW s) (F : lwD s a1 a2) (hv : lwV x3 L) (I : lwI D cA a1 a2 s uS uM H locs) (hl : lv_has ls 4 [(0, .ref b), (1, .ref (a1 0)), (2, .ref (a2 0)), (3, .int x3)]) (kk : ∀ (uS : StS) (uM : StM) (H : Heap) (locs : List Loc), lwI D cA a1 a2 s uS uM H locs → W p l e room_1 s m #[Value.ref b] below meth c H locs 25 163 Q (F0 m 840 ls [])) : W p l e room_1 s m #[Value.ref b] below meth c H locs 25 163 Q (F0 m 426 ls []) := by
  obtain ⟨hPS, hPM, hR, hS⟩ := I
  obtain ⟨hx, hb, hr, hml, hown, hts, hX, hbl, hlocks, hgv⟩ := id C0
  have hts : ∀ w ∈ wsL_law, w.before #[Value.ref b] s = true := fun w h => hts w (wsL_law_in w h)
  have hown : s.vm.findClass RL = some m.cls := hown
  have hC : CallFix p m c code 4 s #[Value.ref b] wsL_law RL := ⟨hx, hb, hml, hown, hts⟩
  obtain ⟨hv1, hv2, hv3, hv4, hv5⟩ := hv
  obtain ⟨y1, ey1⟩ : ∃ y : Int32, xs (x3 + 1).toNatClampNeg = y := ⟨_, rfl⟩
  obtain ⟨y2, ey2⟩ : ∃ y : Int32, xs (x3 + 2).toNatClampNeg = y := ⟨_, rfl⟩
  obtain ⟨y3, ey3⟩ : ∃ y : Int32, xs (x3 + 3).toNatClampNeg = y := ⟨_, rfl⟩
  obtain ⟨y4, ey4⟩ : ∃ y : Int32, xs (x3 + 4).toNatClampNeg = y := ⟨_, rfl⟩
  obtain ⟨v, uM1, e1, e2, hR⟩ := st_pays hR y1 y2 y3 y4
  refine lv_aload_n hx hb dL_law_426 rfl (lv_at hl 1 rfl) ?_
  refine lw_rd C0 hS hl 1 (by decide) hv1 ey1 dL_law_427 dL_law_428 dL_law_429 dL_law_430 dL_law_431 ?_
  refine lw_rd C0 hS hl 2 (by decide) hv2 ey2 dL_law_432 dL_law_433 dL_law_434 dL_law_435 dL_law_436 ?_
  refine lw_rd C0 hS hl 3 (by decide) hv3 ey3 dL_law_437 dL_law_438 dL_law_439 dL_law_440 dL_law_441 ?_
  refine lw_rd C0 hS hl 4 (by decide) hv4 ey4 dL_law_442 dL_law_443 dL_law_444 dL_law_445 dL_law_446 ?_
  refine rcall_i (W.runV (As := [.int y1, .int y2, .int y3, .int y4]) (rest := []) hC (c_X1_pays l D cA a1 uS y1 y2 y3 y4 v e1) (cwV 4 hts gL_law_X1_pays rfl rfl rfl (by decide +kernel) ⟨Nat.le_of_ble_eq_true rfl, Nat.le_of_ble_eq_true rfl⟩) ⟨roB_blind, va_recv (ci := 1) (q0 := 0) hK hPS rfl rfl, roB_pre hK hZ (hws_1 hPS)⟩ rfl rfl hl.1 rfl (lv_room (Nat.le_of_ble_eq_true rfl)) dL_law_447 ⟨Nat.le_of_ble_eq_true rfl, Nat.le_of_ble_eq_true rfl⟩) ?_
  refine lv_aload_n hx hb dL_law_450 rfl (lv_at hl 2 rfl) ?_
  refine lw_rd C0 hS hl 1 (by decide) hv1 ey1 dL_law_451 dL_law_452 dL_law_453 dL_law_454 dL_law_455 ?_
  refine lw_rd C0 hS hl 2 (by decide) hv2 ey2 dL_law_456 dL_law_457 dL_law_458 dL_law_459 dL_law_460 ?_
  refine lw_rd C0 hS hl 3 (by decide) hv3 ey3 dL_law_461 dL_law_462 dL_law_463 dL_law_464 dL_law_465 ?_
  refine lw_rd C0 hS hl 4 (by decide) hv4 ey4 dL_law_466 dL_law_467 dL_law_468 dL_law_469 dL_law_470 ?_
  refine wcall_i (va_runV (As := [.int y1, .int y2, .int y3, .int y4]) (rest := [.int v]) hC (c_X2_pays l D cA a2 uM y1 y2 y3 y4 (v, uM1) e2 F.2.1) (cwV 4 hts gL_law_X2_pays rfl rfl rfl (by decide +kernel) ⟨Nat.le_of_ble_eq_true rfl, Nat.le_of_ble_eq_true rfl⟩) ⟨roB_blind, va_recv (ci := 2) (q0 := 0) hK hPM rfl rfl, roB_pre hK hZ (hws_1 hPM)⟩ rfl rfl hl.1 rfl (lv_room (Nat.le_of_ble_eq_true rfl)) dL_law_471 ⟨Nat.le_of_ble_eq_true rfl, Nat.le_of_ble_eq_true rfl⟩) hS F.2.2.2.1 (fun H1 locs1 hPM1 hk1 hS => ?_)
  have hPS := keepS F hPS hk1
  have hPM := hPM1
  refine lv_icmp_eq (tgt := 840) hx hb dL_law_474 (by decide) (fun _ => ?_) (fun h => absurd rfl h)
  exact kk _ _ _ _ ⟨hPS, hPM, hR, hS⟩
set_option maxHeartbeats 4000000 in
set_option maxRecDepth 100000 in
theorem lw_c8 (C0 : lw_At p s m meth c b L xs) (hK : va_K D vwCl [(cA, .int)] s) (hZ : va_Nw nestW s) (F : lwD s a1 a2) (hv : lwV x3 L) (I : lwI D cA a1 a2 s uS uM H locs) (hl : lv_has ls 4 [(0, .ref b), (1, .ref (a1 0)), (2, .ref (a2 0)), (3, .int x3)]) (kk : ∀ (uS : StS) (uM : StM) (H : Heap) (locs : List Loc), lwI D cA a1 a2 s uS uM H locs → W p l e room_1 s m #[Value.ref b] below meth c H locs 25 163 Q (F0 m 840 ls [])) : W p l e room_1 s m #[Value.ref b] below meth c H locs 25 163 Q (F0 m 479 ls []) := by
  obtain ⟨hPS, hPM, hR, hS⟩ := I
  obtain ⟨hx, hb, hr, hml, hown, hts, hX, hbl, hlocks, hgv⟩ := id C0
  have hts : ∀ w ∈ wsL_law, w.before #[Value.ref b] s = true := fun w h => hts w (wsL_law_in w h)
  have hown : s.vm.findClass RL = some m.cls := hown
  have hC : CallFix p m c code 4 s #[Value.ref b] wsL_law RL := ⟨hx, hb, hml, hown, hts⟩
  obtain ⟨hv1, hv2, hv3, hv4, hv5⟩ := hv
  obtain ⟨y1, ey1⟩ : ∃ y : Int32, xs (x3 + 1).toNatClampNeg = y := ⟨_, rfl⟩
  obtain ⟨y2, ey2⟩ : ∃ y : Int32, xs (x3 + 2).toNatClampNeg = y := ⟨_, rfl⟩
  obtain ⟨y3, ey3⟩ : ∃ y : Int32, xs (x3 + 3).toNatClampNeg = y := ⟨_, rfl⟩
  obtain ⟨y4, ey4⟩ : ∃ y : Int32, xs (x3 + 4).toNatClampNeg = y := ⟨_, rfl⟩
  obtain ⟨y5, ey5⟩ : ∃ y : Int32, xs (x3 + 5).toNatClampNeg = y := ⟨_, rfl⟩
  obtain ⟨v, uM1, e1, e2, hR⟩ := st_gain hR y1 y2 y3 y4 y5
  refine lv_aload_n hx hb dL_law_479 rfl (lv_at hl 1 rfl) ?_
  refine lw_rd C0 hS hl 1 (by decide) hv1 ey1 dL_law_480 dL_law_481 dL_law_482 dL_law_483 dL_law_484 ?_
  refine lw_rd C0 hS hl 2 (by decide) hv2 ey2 dL_law_485 dL_law_486 dL_law_487 dL_law_488 dL_law_489 ?_
  refine lw_rd C0 hS hl 3 (by decide) hv3 ey3 dL_law_490 dL_law_491 dL_law_492 dL_law_493 dL_law_494 ?_
  refine lw_rd C0 hS hl 4 (by decide) hv4 ey4 dL_law_495 dL_law_496 dL_law_497 dL_law_498 dL_law_499 ?_
  refine lw_rd C0 hS hl 5 (by decide) hv5 ey5 dL_law_500 dL_law_501 dL_law_502 dL_law_503 dL_law_504 ?_
  refine rcall_l (W.runV (As := [.int y1, .int y2, .int y3, .int y4, .int y5]) (rest := []) hC (c_X1_gain l D cA a1 uS y1 y2 y3 y4 y5 v e1) (cwV 5 hts gL_law_X1_gain rfl rfl rfl (by decide +kernel) ⟨Nat.le_of_ble_eq_true rfl, Nat.le_of_ble_eq_true rfl⟩) ⟨roB_blind, va_recv (ci := 1) (q0 := 0) hK hPS rfl rfl, roB_pre hK hZ (hws_1 hPS)⟩ rfl rfl hl.1 rfl (lv_room (Nat.le_of_ble_eq_true rfl)) dL_law_505 ⟨Nat.le_of_ble_eq_true rfl, Nat.le_of_ble_eq_true rfl⟩) ?_
  refine lv_aload_n hx hb dL_law_508 rfl (lv_at hl 2 rfl) ?_
  refine lw_rd C0 hS hl 1 (by decide) hv1 ey1 dL_law_509 dL_law_510 dL_law_511 dL_law_512 dL_law_513 ?_
  refine lw_rd C0 hS hl 2 (by decide) hv2 ey2 dL_law_514 dL_law_515 dL_law_516 dL_law_517 dL_law_518 ?_
  refine lw_rd C0 hS hl 3 (by decide) hv3 ey3 dL_law_519 dL_law_520 dL_law_521 dL_law_522 dL_law_523 ?_
  refine lw_rd C0 hS hl 4 (by decide) hv4 ey4 dL_law_524 dL_law_525 dL_law_526 dL_law_527 dL_law_528 ?_
  refine lw_rd C0 hS hl 5 (by decide) hv5 ey5 dL_law_529 dL_law_530 dL_law_531 dL_law_532 dL_law_533 ?_
  refine wcall_l (va_runV (As := [.int y1, .int y2, .int y3, .int y4, .int y5]) (rest := [.long v]) hC (c_X2_gain l D cA a2 uM y1 y2 y3 y4 y5 (v, uM1) e2 F.2.1) (cwV 5 hts gL_law_X2_gain rfl rfl rfl (by decide +kernel) ⟨Nat.le_of_ble_eq_true rfl, Nat.le_of_ble_eq_true rfl⟩) ⟨roB_blind, va_recv (ci := 2) (q0 := 0) hK hPM rfl rfl, roB_pre hK hZ (hws_1 hPM)⟩ rfl rfl hl.1 rfl (lv_room (Nat.le_of_ble_eq_true rfl)) dL_law_534 ⟨Nat.le_of_ble_eq_true rfl, Nat.le_of_ble_eq_true rfl⟩) hS F.2.2.2.1 (fun H1 locs1 hPM1 hk1 hS => ?_)
  have hPS := keepS F hPS hk1
  have hPM := hPM1
  refine W.lcmp hx hb dL_law_537 ?_
  refine lv_if_eq (tgt := 840) hx hb dL_law_538 (by decide) (fun _ => ?_) (fun h => absurd (lgc v) h)
  exact kk _ _ _ _ ⟨hPS, hPM, hR, hS⟩
set_option maxHeartbeats 4000000 in
set_option maxRecDepth 100000 in
theorem lw_c9 (C0 : lw_At p s m meth c b L xs) (hK : va_K D vwCl [(cA, .int)] s) (hZ : va_Nw nestW s) (F : lwD s a1 a2) (hv : lwV x3 L) (I : lwI D cA a1 a2 s uS uM H locs) (hl : lv_has ls 4 [(0, .ref b), (1, .ref (a1 0)), (2, .ref (a2 0)), (3, .int x3)]) (kk : ∀ (uS : StS) (uM : StM) (H : Heap) (locs : List Loc), lwI D cA a1 a2 s uS uM H locs → W p l e room_1 s m #[Value.ref b] below meth c H locs 25 163 Q (F0 m 840 ls [])) : W p l e room_1 s m #[Value.ref b] below meth c H locs 25 163 Q (F0 m 543 ls []) := by
  obtain ⟨hPS, hPM, hR, hS⟩ := I
  obtain ⟨hx, hb, hr, hml, hown, hts, hX, hbl, hlocks, hgv⟩ := id C0
  have hts : ∀ w ∈ wsL_law, w.before #[Value.ref b] s = true := fun w h => hts w (wsL_law_in w h)
  have hown : s.vm.findClass RL = some m.cls := hown
  have hC : CallFix p m c code 4 s #[Value.ref b] wsL_law RL := ⟨hx, hb, hml, hown, hts⟩
  obtain ⟨hv1, hv2, hv3, hv4, hv5⟩ := hv
  obtain ⟨y1, ey1⟩ : ∃ y : Int32, xs (x3 + 1).toNatClampNeg = y := ⟨_, rfl⟩
  obtain ⟨v, uM1, e1, e2, hR⟩ := st_brings hR y1
  refine lv_aload_n hx hb dL_law_543 rfl (lv_at hl 1 rfl) ?_
  refine lw_rd C0 hS hl 1 (by decide) hv1 ey1 dL_law_544 dL_law_545 dL_law_546 dL_law_547 dL_law_548 ?_
  refine rcall_l (W.runV (As := [.int y1]) (rest := []) hC (c_X1_brings l D cA a1 uS y1 v e1) (cwV 1 hts gL_law_X1_brings rfl rfl rfl (by decide +kernel) ⟨Nat.le_of_ble_eq_true rfl, Nat.le_of_ble_eq_true rfl⟩) ⟨roB_blind, va_recv (ci := 1) (q0 := 0) hK hPS rfl rfl, roB_pre hK hZ (hws_1 hPS)⟩ rfl rfl hl.1 rfl (lv_room (Nat.le_of_ble_eq_true rfl)) dL_law_549 ⟨Nat.le_of_ble_eq_true rfl, Nat.le_of_ble_eq_true rfl⟩) ?_
  refine lv_aload_n hx hb dL_law_552 rfl (lv_at hl 2 rfl) ?_
  refine lw_rd C0 hS hl 1 (by decide) hv1 ey1 dL_law_553 dL_law_554 dL_law_555 dL_law_556 dL_law_557 ?_
  refine wcall_l (va_runV (As := [.int y1]) (rest := [.long v]) hC (c_X2_brings l D cA a2 uM y1 (v, uM1) e2 F.2.1) (cwV 1 hts gL_law_X2_brings rfl rfl rfl (by decide +kernel) ⟨Nat.le_of_ble_eq_true rfl, Nat.le_of_ble_eq_true rfl⟩) ⟨roB_blind, va_recv (ci := 2) (q0 := 0) hK hPM rfl rfl, roB_pre hK hZ (hws_1 hPM)⟩ rfl rfl hl.1 rfl (lv_room (Nat.le_of_ble_eq_true rfl)) dL_law_558 ⟨Nat.le_of_ble_eq_true rfl, Nat.le_of_ble_eq_true rfl⟩) hS F.2.2.2.1 (fun H1 locs1 hPM1 hk1 hS => ?_)
  have hPS := keepS F hPS hk1
  have hPM := hPM1
  refine W.lcmp hx hb dL_law_561 ?_
  refine lv_if_eq (tgt := 840) hx hb dL_law_562 (by decide) (fun _ => ?_) (fun h => absurd (lgc v) h)
  exact kk _ _ _ _ ⟨hPS, hPM, hR, hS⟩
set_option maxHeartbeats 4000000 in
set_option maxRecDepth 100000 in
theorem lw_c10 (C0 : lw_At p s m meth c b L xs) (hK : va_K D vwCl [(cA, .int)] s) (hZ : va_Nw nestW s) (F : lwD s a1 a2) (hv : lwV x3 L) (I : lwI D cA a1 a2 s uS uM H locs) (hl : lv_has ls 4 [(0, .ref b), (1, .ref (a1 0)), (2, .ref (a2 0)), (3, .int x3)]) (kk : ∀ (uS : StS) (uM : StM) (H : Heap) (locs : List Loc), lwI D cA a1 a2 s uS uM H locs → W p l e room_1 s m #[Value.ref b] below meth c H locs 25 163 Q (F0 m 840 ls [])) : W p l e room_1 s m #[Value.ref b] below meth c H locs 25 163 Q (F0 m 567 ls []) := by
  obtain ⟨hPS, hPM, hR, hS⟩ := I
  obtain ⟨hx, hb, hr, hml, hown, hts, hX, hbl, hlocks, hgv⟩ := id C0
  have hts : ∀ w ∈ wsL_law, w.before #[Value.ref b] s = true := fun w h => hts w (wsL_law_in w h)
  have hown : s.vm.findClass RL = some m.cls := hown
  have hC : CallFix p m c code 4 s #[Value.ref b] wsL_law RL := ⟨hx, hb, hml, hown, hts⟩
  obtain ⟨hv1, hv2, hv3, hv4, hv5⟩ := hv
  obtain ⟨y1, ey1⟩ : ∃ y : Int32, xs (x3 + 1).toNatClampNeg = y := ⟨_, rfl⟩
  obtain ⟨v, uS1, uM1, e1, e2, hR⟩ := st_reserve hR y1
  refine lv_aload_n hx hb dL_law_567 rfl (lv_at hl 1 rfl) ?_
  refine lw_rd C0 hS hl 1 (by decide) hv1 ey1 dL_law_568 dL_law_569 dL_law_570 dL_law_571 dL_law_572 ?_
  refine wcall_i (va_runV (As := [.int y1]) (rest := []) hC (c_X1_reserve l D cA a1 uS y1 (v, uS1) e1 F.1) (cwV 1 hts gL_law_X1_reserve rfl rfl rfl (by decide +kernel) ⟨Nat.le_of_ble_eq_true rfl, Nat.le_of_ble_eq_true rfl⟩) ⟨roB_blind, va_recv (ci := 1) (q0 := 0) hK hPS rfl rfl, roB_pre hK hZ (hws_1 hPS)⟩ rfl rfl hl.1 rfl (lv_room (Nat.le_of_ble_eq_true rfl)) dL_law_573 ⟨Nat.le_of_ble_eq_true rfl, Nat.le_of_ble_eq_true rfl⟩) hS F.2.2.1 (fun H1 locs1 hPS1 hk1 hS => ?_)
  have hPM := keepM F hPM hk1
  have hPS := hPS1
  refine lv_aload_n hx hb dL_law_576 rfl (lv_at hl 2 rfl) ?_
  refine lw_rd C0 hS hl 1 (by decide) hv1 ey1 dL_law_577 dL_law_578 dL_law_579 dL_law_580 dL_law_581 ?_
  refine wcall_i (va_runV (As := [.int y1]) (rest := [.int v]) hC (c_X2_reserve l D cA a2 uM y1 (v, uM1) e2 F.2.1) (cwV 1 hts gL_law_X2_reserve rfl rfl rfl (by decide +kernel) ⟨Nat.le_of_ble_eq_true rfl, Nat.le_of_ble_eq_true rfl⟩) ⟨roB_blind, va_recv (ci := 2) (q0 := 0) hK hPM rfl rfl, roB_pre hK hZ (hws_1 hPM)⟩ rfl rfl hl.1 rfl (lv_room (Nat.le_of_ble_eq_true rfl)) dL_law_582 ⟨Nat.le_of_ble_eq_true rfl, Nat.le_of_ble_eq_true rfl⟩) hS F.2.2.2.1 (fun H1 locs1 hPM1 hk1 hS => ?_)
  have hPS := keepS F hPS hk1
  have hPM := hPM1
  refine lv_icmp_eq (tgt := 840) hx hb dL_law_585 (by decide) (fun _ => ?_) (fun h => absurd rfl h)
  exact kk _ _ _ _ ⟨hPS, hPM, hR, hS⟩
set_option maxHeartbeats 4000000 in
set_option maxRecDepth 100000 in
theorem lw_c11 (C0 : lw_At p s m meth c b L xs) (hK : va_K D vwCl [(cA, .int)] s) (hZ : va_Nw nestW s) (F : lwD s a1 a2) (hv : lwV x3 L) (I : lwI D cA a1 a2 s uS uM H locs) (hl : lv_has ls 4 [(0, .ref b), (1, .ref (a1 0)), (2, .ref (a2 0)), (3, .int x3)]) (kk : ∀ (uS : StS) (uM : StM) (H : Heap) (locs : List Loc), lwI D cA a1 a2 s uS uM H locs → W p l e room_1 s m #[Value.ref b] below meth c H locs 25 163 Q (F0 m 840 ls [])) : W p l e room_1 s m #[Value.ref b] below meth c H locs 25 163 Q (F0 m 590 ls []) := by
  obtain ⟨hPS, hPM, hR, hS⟩ := I
  obtain ⟨hx, hb, hr, hml, hown, hts, hX, hbl, hlocks, hgv⟩ := id C0
  have hts : ∀ w ∈ wsL_law, w.before #[Value.ref b] s = true := fun w h => hts w (wsL_law_in w h)
  have hown : s.vm.findClass RL = some m.cls := hown
  have hC : CallFix p m c code 4 s #[Value.ref b] wsL_law RL := ⟨hx, hb, hml, hown, hts⟩
  obtain ⟨hv1, hv2, hv3, hv4, hv5⟩ := hv
  obtain ⟨y1, ey1⟩ : ∃ y : Int32, xs (x3 + 1).toNatClampNeg = y := ⟨_, rfl⟩
  obtain ⟨y2, ey2⟩ : ∃ y : Int32, xs (x3 + 2).toNatClampNeg = y := ⟨_, rfl⟩
  obtain ⟨y3, ey3⟩ : ∃ y : Int32, xs (x3 + 3).toNatClampNeg = y := ⟨_, rfl⟩
  obtain ⟨y4, ey4⟩ : ∃ y : Int32, xs (x3 + 4).toNatClampNeg = y := ⟨_, rfl⟩
  obtain ⟨v, uS1, uM1, e1, e2, hR⟩ := st_pay hR y1 y2 y3 y4
  refine lv_aload_n hx hb dL_law_590 rfl (lv_at hl 1 rfl) ?_
  refine lw_rd C0 hS hl 1 (by decide) hv1 ey1 dL_law_591 dL_law_592 dL_law_593 dL_law_594 dL_law_595 ?_
  refine lw_rd C0 hS hl 2 (by decide) hv2 ey2 dL_law_596 dL_law_597 dL_law_598 dL_law_599 dL_law_600 ?_
  refine lw_rd C0 hS hl 3 (by decide) hv3 ey3 dL_law_601 dL_law_602 dL_law_603 dL_law_604 dL_law_605 ?_
  refine lw_rd C0 hS hl 4 (by decide) hv4 ey4 dL_law_606 dL_law_607 dL_law_608 dL_law_609 dL_law_610 ?_
  refine wcall_i (va_runV (As := [.int y1, .int y2, .int y3, .int y4]) (rest := []) hC (c_X1_pay l D cA a1 uS y1 y2 y3 y4 (v, uS1) e1 F.1) (cwV 4 hts gL_law_X1_pay rfl rfl rfl (by decide +kernel) ⟨Nat.le_of_ble_eq_true rfl, Nat.le_of_ble_eq_true rfl⟩) ⟨roB_blind, va_recv (ci := 1) (q0 := 0) hK hPS rfl rfl, roB_pre hK hZ (hws_1 hPS)⟩ rfl rfl hl.1 rfl (lv_room (Nat.le_of_ble_eq_true rfl)) dL_law_611 ⟨Nat.le_of_ble_eq_true rfl, Nat.le_of_ble_eq_true rfl⟩) hS F.2.2.1 (fun H1 locs1 hPS1 hk1 hS => ?_)
  have hPM := keepM F hPM hk1
  have hPS := hPS1
  refine lv_aload_n hx hb dL_law_614 rfl (lv_at hl 2 rfl) ?_
  refine lw_rd C0 hS hl 1 (by decide) hv1 ey1 dL_law_615 dL_law_616 dL_law_617 dL_law_618 dL_law_619 ?_
  refine lw_rd C0 hS hl 2 (by decide) hv2 ey2 dL_law_620 dL_law_621 dL_law_622 dL_law_623 dL_law_624 ?_
  refine lw_rd C0 hS hl 3 (by decide) hv3 ey3 dL_law_625 dL_law_626 dL_law_627 dL_law_628 dL_law_629 ?_
  refine lw_rd C0 hS hl 4 (by decide) hv4 ey4 dL_law_630 dL_law_631 dL_law_632 dL_law_633 dL_law_634 ?_
  refine wcall_i (va_runV (As := [.int y1, .int y2, .int y3, .int y4]) (rest := [.int v]) hC (c_X2_pay l D cA a2 uM y1 y2 y3 y4 (v, uM1) e2 F.2.1) (cwV 4 hts gL_law_X2_pay rfl rfl rfl (by decide +kernel) ⟨Nat.le_of_ble_eq_true rfl, Nat.le_of_ble_eq_true rfl⟩) ⟨roB_blind, va_recv (ci := 2) (q0 := 0) hK hPM rfl rfl, roB_pre hK hZ (hws_1 hPM)⟩ rfl rfl hl.1 rfl (lv_room (Nat.le_of_ble_eq_true rfl)) dL_law_635 ⟨Nat.le_of_ble_eq_true rfl, Nat.le_of_ble_eq_true rfl⟩) hS F.2.2.2.1 (fun H1 locs1 hPM1 hk1 hS => ?_)
  have hPS := keepS F hPS hk1
  have hPM := hPM1
  refine lv_icmp_eq (tgt := 840) hx hb dL_law_638 (by decide) (fun _ => ?_) (fun h => absurd rfl h)
  exact kk _ _ _ _ ⟨hPS, hPM, hR, hS⟩
set_option maxHeartbeats 4000000 in
set_option maxRecDepth 100000 in
theorem lw_c12 (C0 : lw_At p s m meth c b L xs) (hK : va_K D vwCl [(cA, .int)] s) (hZ : va_Nw nestW s) (F : lwD s a1 a2) (hv : lwV x3 L) (I : lwI D cA a1 a2 s uS uM H locs) (hl : lv_has ls 4 [(0, .ref b), (1, .ref (a1 0)), (2, .ref (a2 0)), (3, .int x3)]) (kk : ∀ (uS : StS) (uM : StM) (H : Heap) (locs : List Loc), lwI D cA a1 a2 s uS uM H locs → W p l e room_1 s m #[Value.ref b] below meth c H locs 25 163 Q (F0 m 840 ls [])) : W p l e room_1 s m #[Value.ref b] below meth c H locs 25 163 Q (F0 m 643 ls []) := by
  obtain ⟨hPS, hPM, hR, hS⟩ := I
  obtain ⟨hx, hb, hr, hml, hown, hts, hX, hbl, hlocks, hgv⟩ := id C0
  have hts : ∀ w ∈ wsL_law, w.before #[Value.ref b] s = true := fun w h => hts w (wsL_law_in w h)
  have hown : s.vm.findClass RL = some m.cls := hown
  have hC : CallFix p m c code 4 s #[Value.ref b] wsL_law RL := ⟨hx, hb, hml, hown, hts⟩
  obtain ⟨hv1, hv2, hv3, hv4, hv5⟩ := hv
  obtain ⟨y1, ey1⟩ : ∃ y : Int32, xs (x3 + 1).toNatClampNeg = y := ⟨_, rfl⟩
  obtain ⟨y2, ey2⟩ : ∃ y : Int32, xs (x3 + 2).toNatClampNeg = y := ⟨_, rfl⟩
  obtain ⟨v, uM1, e1, e2, hR⟩ := st_average hR y1 y2
  refine lv_aload_n hx hb dL_law_643 rfl (lv_at hl 1 rfl) ?_
  refine lw_rd C0 hS hl 1 (by decide) hv1 ey1 dL_law_644 dL_law_645 dL_law_646 dL_law_647 dL_law_648 ?_
  refine lw_rd C0 hS hl 2 (by decide) hv2 ey2 dL_law_649 dL_law_650 dL_law_651 dL_law_652 dL_law_653 ?_
  refine rcall_l (W.runV (As := [.int y1, .int y2]) (rest := []) hC (c_X1_average l D cA a1 uS y1 y2 v e1) (cwV 2 hts gL_law_X1_average rfl rfl rfl (by decide +kernel) ⟨Nat.le_of_ble_eq_true rfl, Nat.le_of_ble_eq_true rfl⟩) ⟨roB_blind, va_recv (ci := 1) (q0 := 0) hK hPS rfl rfl, roB_pre hK hZ (hws_1 hPS)⟩ rfl rfl hl.1 rfl (lv_room (Nat.le_of_ble_eq_true rfl)) dL_law_654 ⟨Nat.le_of_ble_eq_true rfl, Nat.le_of_ble_eq_true rfl⟩) ?_
  refine lv_aload_n hx hb dL_law_657 rfl (lv_at hl 2 rfl) ?_
  refine lw_rd C0 hS hl 1 (by decide) hv1 ey1 dL_law_658 dL_law_659 dL_law_660 dL_law_661 dL_law_662 ?_
  refine lw_rd C0 hS hl 2 (by decide) hv2 ey2 dL_law_663 dL_law_664 dL_law_665 dL_law_666 dL_law_667 ?_
  refine wcall_l (va_runV (As := [.int y1, .int y2]) (rest := [.long v]) hC (c_X2_average l D cA a2 uM y1 y2 (v, uM1) e2 F.2.1) (cwV 2 hts gL_law_X2_average rfl rfl rfl (by decide +kernel) ⟨Nat.le_of_ble_eq_true rfl, Nat.le_of_ble_eq_true rfl⟩) ⟨roB_blind, va_recv (ci := 2) (q0 := 0) hK hPM rfl rfl, roB_pre hK hZ (hws_1 hPM)⟩ rfl rfl hl.1 rfl (lv_room (Nat.le_of_ble_eq_true rfl)) dL_law_668 ⟨Nat.le_of_ble_eq_true rfl, Nat.le_of_ble_eq_true rfl⟩) hS F.2.2.2.1 (fun H1 locs1 hPM1 hk1 hS => ?_)
  have hPS := keepS F hPS hk1
  have hPM := hPM1
  refine W.lcmp hx hb dL_law_671 ?_
  refine lv_if_eq (tgt := 840) hx hb dL_law_672 (by decide) (fun _ => ?_) (fun h => absurd (lgc v) h)
  exact kk _ _ _ _ ⟨hPS, hPM, hR, hS⟩
set_option maxHeartbeats 4000000 in
set_option maxRecDepth 100000 in
theorem lw_c13 (C0 : lw_At p s m meth c b L xs) (hK : va_K D vwCl [(cA, .int)] s) (hZ : va_Nw nestW s) (F : lwD s a1 a2) (hv : lwV x3 L) (I : lwI D cA a1 a2 s uS uM H locs) (hl : lv_has ls 4 [(0, .ref b), (1, .ref (a1 0)), (2, .ref (a2 0)), (3, .int x3)]) (kk : ∀ (uS : StS) (uM : StM) (H : Heap) (locs : List Loc), lwI D cA a1 a2 s uS uM H locs → W p l e room_1 s m #[Value.ref b] below meth c H locs 25 163 Q (F0 m 840 ls [])) : W p l e room_1 s m #[Value.ref b] below meth c H locs 25 163 Q (F0 m 677 ls []) := by
  obtain ⟨hPS, hPM, hR, hS⟩ := I
  obtain ⟨hx, hb, hr, hml, hown, hts, hX, hbl, hlocks, hgv⟩ := id C0
  have hts : ∀ w ∈ wsL_law, w.before #[Value.ref b] s = true := fun w h => hts w (wsL_law_in w h)
  have hown : s.vm.findClass RL = some m.cls := hown
  have hC : CallFix p m c code 4 s #[Value.ref b] wsL_law RL := ⟨hx, hb, hml, hown, hts⟩
  obtain ⟨hv1, hv2, hv3, hv4, hv5⟩ := hv
  obtain ⟨y1, ey1⟩ : ∃ y : Int32, xs (x3 + 1).toNatClampNeg = y := ⟨_, rfl⟩
  obtain ⟨y2, ey2⟩ : ∃ y : Int32, xs (x3 + 2).toNatClampNeg = y := ⟨_, rfl⟩
  obtain ⟨v, uM1, e1, e2, hR⟩ := st_offers hR y1 y2
  refine lv_aload_n hx hb dL_law_677 rfl (lv_at hl 1 rfl) ?_
  refine lw_rd C0 hS hl 1 (by decide) hv1 ey1 dL_law_678 dL_law_679 dL_law_680 dL_law_681 dL_law_682 ?_
  refine lw_rd C0 hS hl 2 (by decide) hv2 ey2 dL_law_683 dL_law_684 dL_law_685 dL_law_686 dL_law_687 ?_
  refine rcall_l (W.runV (As := [.int y1, .int y2]) (rest := []) hC (c_X1_offers l D cA a1 uS y1 y2 v e1) (cwV 2 hts gL_law_X1_offers rfl rfl rfl (by decide +kernel) ⟨Nat.le_of_ble_eq_true rfl, Nat.le_of_ble_eq_true rfl⟩) ⟨roB_blind, va_recv (ci := 1) (q0 := 0) hK hPS rfl rfl, roB_pre hK hZ (hws_1 hPS)⟩ rfl rfl hl.1 rfl (lv_room (Nat.le_of_ble_eq_true rfl)) dL_law_688 ⟨Nat.le_of_ble_eq_true rfl, Nat.le_of_ble_eq_true rfl⟩) ?_
  refine lv_aload_n hx hb dL_law_691 rfl (lv_at hl 2 rfl) ?_
  refine lw_rd C0 hS hl 1 (by decide) hv1 ey1 dL_law_692 dL_law_693 dL_law_694 dL_law_695 dL_law_696 ?_
  refine lw_rd C0 hS hl 2 (by decide) hv2 ey2 dL_law_697 dL_law_698 dL_law_699 dL_law_700 dL_law_701 ?_
  refine wcall_l (va_runV (As := [.int y1, .int y2]) (rest := [.long v]) hC (c_X2_offers l D cA a2 uM y1 y2 (v, uM1) e2 F.2.1) (cwV 2 hts gL_law_X2_offers rfl rfl rfl (by decide +kernel) ⟨Nat.le_of_ble_eq_true rfl, Nat.le_of_ble_eq_true rfl⟩) ⟨roB_blind, va_recv (ci := 2) (q0 := 0) hK hPM rfl rfl, roB_pre hK hZ (hws_1 hPM)⟩ rfl rfl hl.1 rfl (lv_room (Nat.le_of_ble_eq_true rfl)) dL_law_702 ⟨Nat.le_of_ble_eq_true rfl, Nat.le_of_ble_eq_true rfl⟩) hS F.2.2.2.1 (fun H1 locs1 hPM1 hk1 hS => ?_)
  have hPS := keepS F hPS hk1
  have hPM := hPM1
  refine W.lcmp hx hb dL_law_705 ?_
  refine lv_if_eq (tgt := 840) hx hb dL_law_706 (by decide) (fun _ => ?_) (fun h => absurd (lgc v) h)
  exact kk _ _ _ _ ⟨hPS, hPM, hR, hS⟩
set_option maxHeartbeats 4000000 in
set_option maxRecDepth 100000 in
theorem lw_c14 (C0 : lw_At p s m meth c b L xs) (hK : va_K D vwCl [(cA, .int)] s) (hZ : va_Nw nestW s) (F : lwD s a1 a2) (hv : lwV x3 L) (I : lwI D cA a1 a2 s uS uM H locs) (hl : lv_has ls 4 [(0, .ref b), (1, .ref (a1 0)), (2, .ref (a2 0)), (3, .int x3)]) (kk : ∀ (uS : StS) (uM : StM) (H : Heap) (locs : List Loc), lwI D cA a1 a2 s uS uM H locs → W p l e room_1 s m #[Value.ref b] below meth c H locs 25 163 Q (F0 m 840 ls [])) : W p l e room_1 s m #[Value.ref b] below meth c H locs 25 163 Q (F0 m 711 ls []) := by
  obtain ⟨hPS, hPM, hR, hS⟩ := I
  obtain ⟨hx, hb, hr, hml, hown, hts, hX, hbl, hlocks, hgv⟩ := id C0
  have hts : ∀ w ∈ wsL_law, w.before #[Value.ref b] s = true := fun w h => hts w (wsL_law_in w h)
  have hown : s.vm.findClass RL = some m.cls := hown
  have hC : CallFix p m c code 4 s #[Value.ref b] wsL_law RL := ⟨hx, hb, hml, hown, hts⟩
  obtain ⟨hv1, hv2, hv3, hv4, hv5⟩ := hv
  obtain ⟨y1, ey1⟩ : ∃ y : Int32, xs (x3 + 1).toNatClampNeg = y := ⟨_, rfl⟩
  obtain ⟨y2, ey2⟩ : ∃ y : Int32, xs (x3 + 2).toNatClampNeg = y := ⟨_, rfl⟩
  obtain ⟨y3, ey3⟩ : ∃ y : Int32, xs (x3 + 3).toNatClampNeg = y := ⟨_, rfl⟩
  obtain ⟨v, uM1, e1, e2, hR⟩ := st_bundle hR y1 y2 y3
  refine lv_aload_n hx hb dL_law_711 rfl (lv_at hl 1 rfl) ?_
  refine lw_rd C0 hS hl 1 (by decide) hv1 ey1 dL_law_712 dL_law_713 dL_law_714 dL_law_715 dL_law_716 ?_
  refine lw_rd C0 hS hl 2 (by decide) hv2 ey2 dL_law_717 dL_law_718 dL_law_719 dL_law_720 dL_law_721 ?_
  refine lw_rd C0 hS hl 3 (by decide) hv3 ey3 dL_law_722 dL_law_723 dL_law_724 dL_law_725 dL_law_726 ?_
  refine rcall_i (W.runV (As := [.int y1, .int y2, .int y3]) (rest := []) hC (c_X1_bundle l D cA a1 uS y1 y2 y3 v e1) (cwV 3 hts gL_law_X1_bundle rfl rfl rfl (by decide +kernel) ⟨Nat.le_of_ble_eq_true rfl, Nat.le_of_ble_eq_true rfl⟩) ⟨roB_blind, va_recv (ci := 1) (q0 := 0) hK hPS rfl rfl, roB_pre hK hZ (hws_1 hPS)⟩ rfl rfl hl.1 rfl (lv_room (Nat.le_of_ble_eq_true rfl)) dL_law_727 ⟨Nat.le_of_ble_eq_true rfl, Nat.le_of_ble_eq_true rfl⟩) ?_
  refine lv_aload_n hx hb dL_law_730 rfl (lv_at hl 2 rfl) ?_
  refine lw_rd C0 hS hl 1 (by decide) hv1 ey1 dL_law_731 dL_law_732 dL_law_733 dL_law_734 dL_law_735 ?_
  refine lw_rd C0 hS hl 2 (by decide) hv2 ey2 dL_law_736 dL_law_737 dL_law_738 dL_law_739 dL_law_740 ?_
  refine lw_rd C0 hS hl 3 (by decide) hv3 ey3 dL_law_741 dL_law_742 dL_law_743 dL_law_744 dL_law_745 ?_
  refine wcall_i (va_runV (As := [.int y1, .int y2, .int y3]) (rest := [.int v]) hC (c_X2_bundle l D cA a2 uM y1 y2 y3 (v, uM1) e2 F.2.1) (cwV 3 hts gL_law_X2_bundle rfl rfl rfl (by decide +kernel) ⟨Nat.le_of_ble_eq_true rfl, Nat.le_of_ble_eq_true rfl⟩) ⟨roB_blind, va_recv (ci := 2) (q0 := 0) hK hPM rfl rfl, roB_pre hK hZ (hws_1 hPM)⟩ rfl rfl hl.1 rfl (lv_room (Nat.le_of_ble_eq_true rfl)) dL_law_746 ⟨Nat.le_of_ble_eq_true rfl, Nat.le_of_ble_eq_true rfl⟩) hS F.2.2.2.1 (fun H1 locs1 hPM1 hk1 hS => ?_)
  have hPS := keepS F hPS hk1
  have hPM := hPM1
  refine lv_icmp_eq (tgt := 840) hx hb dL_law_749 (by decide) (fun _ => ?_) (fun h => absurd rfl h)
  exact kk _ _ _ _ ⟨hPS, hPM, hR, hS⟩
set_option maxHeartbeats 4000000 in
set_option maxRecDepth 100000 in
theorem lw_c15 (C0 : lw_At p s m meth c b L xs) (hK : va_K D vwCl [(cA, .int)] s) (hZ : va_Nw nestW s) (F : lwD s a1 a2) (hv : lwV x3 L) (I : lwI D cA a1 a2 s uS uM H locs) (hl : lv_has ls 4 [(0, .ref b), (1, .ref (a1 0)), (2, .ref (a2 0)), (3, .int x3)]) (kk : ∀ (uS : StS) (uM : StM) (H : Heap) (locs : List Loc), lwI D cA a1 a2 s uS uM H locs → W p l e room_1 s m #[Value.ref b] below meth c H locs 25 163 Q (F0 m 840 ls [])) : W p l e room_1 s m #[Value.ref b] below meth c H locs 25 163 Q (F0 m 754 ls []) := by
  obtain ⟨hPS, hPM, hR, hS⟩ := I
  obtain ⟨hx, hb, hr, hml, hown, hts, hX, hbl, hlocks, hgv⟩ := id C0
  have hts : ∀ w ∈ wsL_law, w.before #[Value.ref b] s = true := fun w h => hts w (wsL_law_in w h)
  have hown : s.vm.findClass RL = some m.cls := hown
  have hC : CallFix p m c code 4 s #[Value.ref b] wsL_law RL := ⟨hx, hb, hml, hown, hts⟩
  obtain ⟨hv1, hv2, hv3, hv4, hv5⟩ := hv
  obtain ⟨y1, ey1⟩ : ∃ y : Int32, xs (x3 + 1).toNatClampNeg = y := ⟨_, rfl⟩
  obtain ⟨v, uS1, uM1, e1, e2, hR⟩ := st_sample hR y1
  refine lv_aload_n hx hb dL_law_754 rfl (lv_at hl 1 rfl) ?_
  refine lw_rd C0 hS hl 1 (by decide) hv1 ey1 dL_law_755 dL_law_756 dL_law_757 dL_law_758 dL_law_759 ?_
  refine wcall_i (va_runV (As := [.int y1]) (rest := []) hC (c_X1_sample l D cA a1 uS y1 (v, uS1) e1 F.1) (cwV 1 hts gL_law_X1_sample rfl rfl rfl (by decide +kernel) ⟨Nat.le_of_ble_eq_true rfl, Nat.le_of_ble_eq_true rfl⟩) ⟨roB_blind, va_recv (ci := 1) (q0 := 0) hK hPS rfl rfl, roB_pre hK hZ (hws_1 hPS)⟩ rfl rfl hl.1 rfl (lv_room (Nat.le_of_ble_eq_true rfl)) dL_law_760 ⟨Nat.le_of_ble_eq_true rfl, Nat.le_of_ble_eq_true rfl⟩) hS F.2.2.1 (fun H1 locs1 hPS1 hk1 hS => ?_)
  have hPM := keepM F hPM hk1
  have hPS := hPS1
  refine lv_aload_n hx hb dL_law_763 rfl (lv_at hl 2 rfl) ?_
  refine lw_rd C0 hS hl 1 (by decide) hv1 ey1 dL_law_764 dL_law_765 dL_law_766 dL_law_767 dL_law_768 ?_
  refine wcall_i (va_runV (As := [.int y1]) (rest := [.int v]) hC (c_X2_sample l D cA a2 uM y1 (v, uM1) e2 F.2.1) (cwV 1 hts gL_law_X2_sample rfl rfl rfl (by decide +kernel) ⟨Nat.le_of_ble_eq_true rfl, Nat.le_of_ble_eq_true rfl⟩) ⟨roB_blind, va_recv (ci := 2) (q0 := 0) hK hPM rfl rfl, roB_pre hK hZ (hws_1 hPM)⟩ rfl rfl hl.1 rfl (lv_room (Nat.le_of_ble_eq_true rfl)) dL_law_769 ⟨Nat.le_of_ble_eq_true rfl, Nat.le_of_ble_eq_true rfl⟩) hS F.2.2.2.1 (fun H1 locs1 hPM1 hk1 hS => ?_)
  have hPS := keepS F hPS hk1
  have hPM := hPM1
  refine lv_icmp_eq (tgt := 840) hx hb dL_law_772 (by decide) (fun _ => ?_) (fun h => absurd rfl h)
  exact kk _ _ _ _ ⟨hPS, hPM, hR, hS⟩
set_option maxHeartbeats 4000000 in
set_option maxRecDepth 100000 in
theorem lw_c16 (C0 : lw_At p s m meth c b L xs) (hK : va_K D vwCl [(cA, .int)] s) (hZ : va_Nw nestW s) (F : lwD s a1 a2) (hv : lwV x3 L) (I : lwI D cA a1 a2 s uS uM H locs) (hl : lv_has ls 4 [(0, .ref b), (1, .ref (a1 0)), (2, .ref (a2 0)), (3, .int x3)]) (kk : ∀ (uS : StS) (uM : StM) (H : Heap) (locs : List Loc), lwI D cA a1 a2 s uS uM H locs → W p l e room_1 s m #[Value.ref b] below meth c H locs 25 163 Q (F0 m 840 ls [])) : W p l e room_1 s m #[Value.ref b] below meth c H locs 25 163 Q (F0 m 777 ls []) := by
  obtain ⟨hPS, hPM, hR, hS⟩ := I
  obtain ⟨hx, hb, hr, hml, hown, hts, hX, hbl, hlocks, hgv⟩ := id C0
  have hts : ∀ w ∈ wsL_law, w.before #[Value.ref b] s = true := fun w h => hts w (wsL_law_in w h)
  have hown : s.vm.findClass RL = some m.cls := hown
  have hC : CallFix p m c code 4 s #[Value.ref b] wsL_law RL := ⟨hx, hb, hml, hown, hts⟩
  obtain ⟨v, uS1, uM1, e1, e2, hR⟩ := st_clear hR 
  refine lv_aload_n hx hb dL_law_777 rfl (lv_at hl 1 rfl) ?_
  refine wcall_i (va_runV (As := []) (rest := []) hC (c_X1_clear l D cA a1 uS  (v, uS1) e1 F.1) (cwV 0 hts gL_law_X1_clear rfl rfl rfl (by decide +kernel) ⟨Nat.le_of_ble_eq_true rfl, Nat.le_of_ble_eq_true rfl⟩) ⟨roB_blind, va_recv (ci := 1) (q0 := 0) hK hPS rfl rfl, roB_pre hK hZ (hws_1 hPS)⟩ rfl rfl hl.1 rfl (lv_room (Nat.le_of_ble_eq_true rfl)) dL_law_778 ⟨Nat.le_of_ble_eq_true rfl, Nat.le_of_ble_eq_true rfl⟩) hS F.2.2.1 (fun H1 locs1 hPS1 hk1 hS => ?_)
  have hPM := keepM F hPM hk1
  have hPS := hPS1
  refine lv_aload_n hx hb dL_law_781 rfl (lv_at hl 2 rfl) ?_
  refine wcall_i (va_runV (As := []) (rest := [.int v]) hC (c_X2_clear l D cA a2 uM  (v, uM1) e2 F.2.1) (cwV 0 hts gL_law_X2_clear rfl rfl rfl (by decide +kernel) ⟨Nat.le_of_ble_eq_true rfl, Nat.le_of_ble_eq_true rfl⟩) ⟨roB_blind, va_recv (ci := 2) (q0 := 0) hK hPM rfl rfl, roB_pre hK hZ (hws_1 hPM)⟩ rfl rfl hl.1 rfl (lv_room (Nat.le_of_ble_eq_true rfl)) dL_law_782 ⟨Nat.le_of_ble_eq_true rfl, Nat.le_of_ble_eq_true rfl⟩) hS F.2.2.2.1 (fun H1 locs1 hPM1 hk1 hS => ?_)
  have hPS := keepS F hPS hk1
  have hPM := hPM1
  refine lv_icmp_eq (tgt := 840) hx hb dL_law_785 (by decide) (fun _ => ?_) (fun h => absurd rfl h)
  exact kk _ _ _ _ ⟨hPS, hPM, hR, hS⟩
set_option maxHeartbeats 4000000 in
set_option maxRecDepth 100000 in
theorem lw_c17 (C0 : lw_At p s m meth c b L xs) (hK : va_K D vwCl [(cA, .int)] s) (hZ : va_Nw nestW s) (F : lwD s a1 a2) (hv : lwV x3 L) (I : lwI D cA a1 a2 s uS uM H locs) (hl : lv_has ls 4 [(0, .ref b), (1, .ref (a1 0)), (2, .ref (a2 0)), (3, .int x3)]) (kk : ∀ (uS : StS) (uM : StM) (H : Heap) (locs : List Loc), lwI D cA a1 a2 s uS uM H locs → W p l e room_1 s m #[Value.ref b] below meth c H locs 25 163 Q (F0 m 840 ls [])) : W p l e room_1 s m #[Value.ref b] below meth c H locs 25 163 Q (F0 m 790 ls []) := by
  obtain ⟨hPS, hPM, hR, hS⟩ := I
  obtain ⟨hx, hb, hr, hml, hown, hts, hX, hbl, hlocks, hgv⟩ := id C0
  have hts : ∀ w ∈ wsL_law, w.before #[Value.ref b] s = true := fun w h => hts w (wsL_law_in w h)
  have hown : s.vm.findClass RL = some m.cls := hown
  have hC : CallFix p m c code 4 s #[Value.ref b] wsL_law RL := ⟨hx, hb, hml, hown, hts⟩
  obtain ⟨v, uM1, e1, e2, hR⟩ := st_learnt hR 
  refine lv_aload_n hx hb dL_law_790 rfl (lv_at hl 1 rfl) ?_
  refine rcall_i (W.runV (As := []) (rest := []) hC (c_X1_learnt l D cA a1 uS  v e1) (cwV 0 hts gL_law_X1_learnt rfl rfl rfl (by decide +kernel) ⟨Nat.le_of_ble_eq_true rfl, Nat.le_of_ble_eq_true rfl⟩) ⟨roB_blind, va_recv (ci := 1) (q0 := 0) hK hPS rfl rfl, roB_pre hK hZ (hws_1 hPS)⟩ rfl rfl hl.1 rfl (lv_room (Nat.le_of_ble_eq_true rfl)) dL_law_791 ⟨Nat.le_of_ble_eq_true rfl, Nat.le_of_ble_eq_true rfl⟩) ?_
  refine lv_aload_n hx hb dL_law_794 rfl (lv_at hl 2 rfl) ?_
  refine wcall_i (va_runV (As := []) (rest := [.int v]) hC (c_X2_learnt l D cA a2 uM  (v, uM1) e2 F.2.1) (cwV 0 hts gL_law_X2_learnt rfl rfl rfl (by decide +kernel) ⟨Nat.le_of_ble_eq_true rfl, Nat.le_of_ble_eq_true rfl⟩) ⟨roB_blind, va_recv (ci := 2) (q0 := 0) hK hPM rfl rfl, roB_pre hK hZ (hws_1 hPM)⟩ rfl rfl hl.1 rfl (lv_room (Nat.le_of_ble_eq_true rfl)) dL_law_795 ⟨Nat.le_of_ble_eq_true rfl, Nat.le_of_ble_eq_true rfl⟩) hS F.2.2.2.1 (fun H1 locs1 hPM1 hk1 hS => ?_)
  have hPS := keepS F hPS hk1
  have hPM := hPM1
  refine lv_icmp_eq (tgt := 840) hx hb dL_law_798 (by decide) (fun _ => ?_) (fun h => absurd rfl h)
  exact kk _ _ _ _ ⟨hPS, hPM, hR, hS⟩
set_option maxHeartbeats 4000000 in
set_option maxRecDepth 100000 in
theorem lw_c18 (C0 : lw_At p s m meth c b L xs) (hK : va_K D vwCl [(cA, .int)] s) (hZ : va_Nw nestW s) (F : lwD s a1 a2) (hv : lwV x3 L) (I : lwI D cA a1 a2 s uS uM H locs) (hl : lv_has ls 4 [(0, .ref b), (1, .ref (a1 0)), (2, .ref (a2 0)), (3, .int x3)]) (kk : ∀ (uS : StS) (uM : StM) (H : Heap) (locs : List Loc), lwI D cA a1 a2 s uS uM H locs → W p l e room_1 s m #[Value.ref b] below meth c H locs 25 163 Q (F0 m 840 ls [])) : W p l e room_1 s m #[Value.ref b] below meth c H locs 25 163 Q (F0 m 803 ls []) := by
  obtain ⟨hPS, hPM, hR, hS⟩ := I
  obtain ⟨hx, hb, hr, hml, hown, hts, hX, hbl, hlocks, hgv⟩ := id C0
  have hts : ∀ w ∈ wsL_law, w.before #[Value.ref b] s = true := fun w h => hts w (wsL_law_in w h)
  have hown : s.vm.findClass RL = some m.cls := hown
  have hC : CallFix p m c code 4 s #[Value.ref b] wsL_law RL := ⟨hx, hb, hml, hown, hts⟩
  obtain ⟨hv1, hv2, hv3, hv4, hv5⟩ := hv
  obtain ⟨y1, ey1⟩ : ∃ y : Int32, xs (x3 + 1).toNatClampNeg = y := ⟨_, rfl⟩
  obtain ⟨v, uM1, e1, e2, hR⟩ := st_count hR y1
  refine lv_aload_n hx hb dL_law_803 rfl (lv_at hl 1 rfl) ?_
  refine lw_rd C0 hS hl 1 (by decide) hv1 ey1 dL_law_804 dL_law_805 dL_law_806 dL_law_807 dL_law_808 ?_
  refine rcall_i (W.runV (As := [.int y1]) (rest := []) hC (c_X1_count l D cA a1 uS y1 v e1) (cwV 1 hts gL_law_X1_count rfl rfl rfl (by decide +kernel) ⟨Nat.le_of_ble_eq_true rfl, Nat.le_of_ble_eq_true rfl⟩) ⟨roB_blind, va_recv (ci := 1) (q0 := 0) hK hPS rfl rfl, roB_pre hK hZ (hws_1 hPS)⟩ rfl rfl hl.1 rfl (lv_room (Nat.le_of_ble_eq_true rfl)) dL_law_809 ⟨Nat.le_of_ble_eq_true rfl, Nat.le_of_ble_eq_true rfl⟩) ?_
  refine lv_aload_n hx hb dL_law_812 rfl (lv_at hl 2 rfl) ?_
  refine lw_rd C0 hS hl 1 (by decide) hv1 ey1 dL_law_813 dL_law_814 dL_law_815 dL_law_816 dL_law_817 ?_
  refine wcall_i (va_runV (As := [.int y1]) (rest := [.int v]) hC (c_X2_count l D cA a2 uM y1 (v, uM1) e2 F.2.1) (cwV 1 hts gL_law_X2_count rfl rfl rfl (by decide +kernel) ⟨Nat.le_of_ble_eq_true rfl, Nat.le_of_ble_eq_true rfl⟩) ⟨roB_blind, va_recv (ci := 2) (q0 := 0) hK hPM rfl rfl, roB_pre hK hZ (hws_1 hPM)⟩ rfl rfl hl.1 rfl (lv_room (Nat.le_of_ble_eq_true rfl)) dL_law_818 ⟨Nat.le_of_ble_eq_true rfl, Nat.le_of_ble_eq_true rfl⟩) hS F.2.2.2.1 (fun H1 locs1 hPM1 hk1 hS => ?_)
  have hPS := keepS F hPS hk1
  have hPM := hPM1
  refine lv_icmp_eq (tgt := 840) hx hb dL_law_821 (by decide) (fun _ => ?_) (fun h => absurd rfl h)
  exact kk _ _ _ _ ⟨hPS, hPM, hR, hS⟩
set_option maxHeartbeats 4000000 in
set_option maxRecDepth 100000 in
theorem lw_c19 (C0 : lw_At p s m meth c b L xs) (hK : va_K D vwCl [(cA, .int)] s) (hZ : va_Nw nestW s) (F : lwD s a1 a2) (hv : lwV x3 L) (I : lwI D cA a1 a2 s uS uM H locs) (hl : lv_has ls 4 [(0, .ref b), (1, .ref (a1 0)), (2, .ref (a2 0)), (3, .int x3)]) (kk : ∀ (uS : StS) (uM : StM) (H : Heap) (locs : List Loc), lwI D cA a1 a2 s uS uM H locs → W p l e room_1 s m #[Value.ref b] below meth c H locs 25 163 Q (F0 m 840 ls [])) : W p l e room_1 s m #[Value.ref b] below meth c H locs 25 163 Q (F0 m 826 ls []) := by
  obtain ⟨hPS, hPM, hR, hS⟩ := I
  obtain ⟨hx, hb, hr, hml, hown, hts, hX, hbl, hlocks, hgv⟩ := id C0
  have hts : ∀ w ∈ wsL_law, w.before #[Value.ref b] s = true := fun w h => hts w (wsL_law_in w h)
  have hown : s.vm.findClass RL = some m.cls := hown
  have hC : CallFix p m c code 4 s #[Value.ref b] wsL_law RL := ⟨hx, hb, hml, hown, hts⟩
  obtain ⟨v, uM1, e1, e2, hR⟩ := st_trace hR 
  refine lv_aload_n hx hb dL_law_826 rfl (lv_at hl 1 rfl) ?_
  refine rcall_l (W.runV (As := []) (rest := []) hC (c_X1_trace l D cA a1 uS  v e1) (cwV 0 hts gL_law_X1_trace rfl rfl rfl (by decide +kernel) ⟨Nat.le_of_ble_eq_true rfl, Nat.le_of_ble_eq_true rfl⟩) ⟨roB_blind, va_recv (ci := 1) (q0 := 0) hK hPS rfl rfl, roB_pre hK hZ (hws_1 hPS)⟩ rfl rfl hl.1 rfl (lv_room (Nat.le_of_ble_eq_true rfl)) dL_law_827 ⟨Nat.le_of_ble_eq_true rfl, Nat.le_of_ble_eq_true rfl⟩) ?_
  refine lv_aload_n hx hb dL_law_830 rfl (lv_at hl 2 rfl) ?_
  refine wcall_l (va_runV (As := []) (rest := [.long v]) hC (c_X2_trace l D cA a2 uM  (v, uM1) e2 F.2.1) (cwV 0 hts gL_law_X2_trace rfl rfl rfl (by decide +kernel) ⟨Nat.le_of_ble_eq_true rfl, Nat.le_of_ble_eq_true rfl⟩) ⟨roB_blind, va_recv (ci := 2) (q0 := 0) hK hPM rfl rfl, roB_pre hK hZ (hws_1 hPM)⟩ rfl rfl hl.1 rfl (lv_room (Nat.le_of_ble_eq_true rfl)) dL_law_831 ⟨Nat.le_of_ble_eq_true rfl, Nat.le_of_ble_eq_true rfl⟩) hS F.2.2.2.1 (fun H1 locs1 hPM1 hk1 hS => ?_)
  have hPS := keepS F hPS hk1
  have hPM := hPM1
  refine W.lcmp hx hb dL_law_834 ?_
  refine lv_if_eq (tgt := 840) hx hb dL_law_835 (by decide) (fun _ => ?_) (fun h => absurd (lgc v) h)
  exact kk _ _ _ _ ⟨hPS, hPM, hR, hS⟩
end LAW
