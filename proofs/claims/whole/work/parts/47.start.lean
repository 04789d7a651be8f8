theorem lw_gt {L i : Nat} (hL : L ≤ 3072) (hi : i ≤ 3072) : (Int32.ofNat L - 6 < nI i) ↔ (L : Int) - 6 < i := by
  rw [show Int32.ofNat L - 6 = iI ((L : Int) - 6) from (show iI (L : Int) - iI 6 = iI ((L : Int) - 6) from iI_sub _ _), iI_nat, iI_lt (by omega) (by omega)]
theorem lw_v {L i : Nat} (hL : L ≤ 3072) (h : i + 6 ≤ L) : lwV (nI i) L := by
  have e : ∀ k : Nat, nI i + nI k = nI (i + k) := fun k => nI_add i k
  refine ⟨?_, ?_, ?_, ?_, ?_⟩
  · rw [show nI i + 1 = nI (i + 1) from e 1]; exact vp_in_nI (by omega) (by omega)
  · rw [show nI i + 2 = nI (i + 2) from e 2]; exact vp_in_nI (by omega) (by omega)
  · rw [show nI i + 3 = nI (i + 3) from e 3]; exact vp_in_nI (by omega) (by omega)
  · rw [show nI i + 4 = nI (i + 4) from e 4]; exact vp_in_nI (by omega) (by omega)
  · rw [show nI i + 5 = nI (i + 5) from e 5]; exact vp_in_nI (by omega) (by omega)
set_option maxHeartbeats 4000000 in
set_option maxRecDepth 100000 in
theorem law_loop {p : Program} {l : Launch} {e : Env} {s : State} {m : MethodId} {below : List Frame} {meth : Method} {c : Code} {b L : Nat} {xs : Nat → Int32} {D : va_G} {cA : ClassId} {a1 a2 : Nat → Nat} (hL : L ≤ 3072) (C0 : lw_At p s m meth c b L xs) (hK : va_K D vwCl [(cA, .int)] s) (hZ : va_Nw nestW s) (F : lwD s a1 a2) :
    ∀ (n i : Nat), i ≤ L → L + 1 ≤ i + n → ∀ (uS : StS) (uM : StM) (H : Heap) (locs : List Loc), lwI D cA a1 a2 s uS uM H locs → ∀ (ls : Array Slot), lv_has ls 4 [(0, .ref b), (1, .ref (a1 0)), (2, .ref (a2 0)), (3, .int (nI i))] → W p l e room_1 s m #[Value.ref b] below meth c H locs 25 163 (lw_Z below #[Value.ref b] s) (F0 m 18 ls []) := by
  obtain ⟨hx, hb, hr, hml, hown, hts, hX, hbl, hlocks, hgv⟩ := id C0
  have hbA : ¬ (fun q : Nat => s.heap.size ≤ q) b := Nat.not_le.mpr hbl
  intro n
  induction n with
  | zero =>
    intro i h1 h2
    exact absurd h2 (by omega)
  | succ n ih =>
    intro i hi hin uS uM H locs I ls hl
    have hS := I.2.2.2
    refine lv_iload_n hx hb dL_law_18 rfl (lv_at hl 3 rfl) ?_
    refine lv_aload_n hx hb dL_law_19 rfl (lv_at hl 0 rfl) ?_
    refine va_slen hx hb hX hbl hbA hS dL_law_20 ?_
    refine lv_bipush (v := 6) hx hb dL_law_21 (by decide) ?_
    refine lv_isub hx hb dL_law_23 ?_
    refine lv_icmp_gt (tgt := 846) hx hb dL_law_24 (by decide) (fun hc => ?_) (fun hc => ?_)
    · refine lv_iconst (v := 1) hx hb dL_law_846 (by decide) ?_
      refine va_forget (fun q hq => hS.2.2 q hq) ?_
      exact lw_ret hx hb hr hlocks dL_law_847
    · have hlt : i + 6 ≤ L := by
        have := mt (lw_gt hL (show i ≤ 3072 by omega)).mpr hc
        omega
      have hv := lw_v hL hlt
      have hkk : ∀ (uS : StS) (uM : StM) (H : Heap) (locs : List Loc), lwI D cA a1 a2 s uS uM H locs → W p l e room_1 s m #[Value.ref b] below meth c H locs 25 163 (lw_Z below #[Value.ref b] s) (F0 m 840 ls []) := by
        intro uS uM H locs I
        refine lv_iinc (v := nI (i + 6)) (lv' := [(3, .int (nI (i + 6))), (0, .ref b), (1, .ref (a1 0)), (2, .ref (a2 0))]) hx hb dL_law_840 hl (k := 3) rfl (nI_add i 6) (by decide) rfl (fun ls hl => ?_)
        refine lv_goto (tgt := 18) hx hb dL_law_843 (by decide) ?_
        exact ih (i + 6) hlt (by omega) uS uM H locs I ls (lv_sub hl [1, 2, 3, 0] rfl)
      have hi0 : vp_in (nI i) L := vp_in_nI (by omega) (by omega)
      refine lv_aload_n hx hb dL_law_27 rfl (lv_at hl 0 rfl) ?_
      refine lv_iload_n hx hb dL_law_28 rfl (lv_at hl 3 rfl) ?_
      refine va_sld hx hb hX hbl hbA hS hi0 dL_law_29 ?_
      refine lv_bipush (v := 31) hx hb dL_law_30 (by decide) ?_
      refine lv_iand hx hb dL_law_32 ?_
      generalize xs (nI i).toNatClampNeg &&& 31 = x
      by_cases ho : x.toInt < 0 ∨ 19 < x.toInt
      · exact lv_tableOut (tgt := 840) hx hb dL_law_33 ho (by decide) (hkk uS uM H locs I)
      · have h20 : x.toInt = 0 ∨ x.toInt = 1 ∨ x.toInt = 2 ∨ x.toInt = 3 ∨ x.toInt = 4 ∨ x.toInt = 5 ∨ x.toInt = 6 ∨ x.toInt = 7 ∨ x.toInt = 8 ∨ x.toInt = 9 ∨ x.toInt = 10 ∨ x.toInt = 11 ∨ x.toInt = 12 ∨ x.toInt = 13 ∨ x.toInt = 14 ∨ x.toInt = 15 ∨ x.toInt = 16 ∨ x.toInt = 17 ∨ x.toInt = 18 ∨ x.toInt = 19 := by omega
        rcases h20 with h | h | h | h | h | h | h | h | h | h | h | h | h | h | h | h | h | h | h | h
        · exact lv_tableIn (tgt := 128) hx hb dL_law_33 (by omega) (by omega) (by rw [h]; rfl) (by decide) (lw_c0 C0 hK hZ F hv I hl hkk)
        · exact lv_tableIn (tgt := 151) hx hb dL_law_33 (by omega) (by omega) (by rw [h]; rfl) (by decide) (lw_c1 C0 hK hZ F hv I hl hkk)
        · exact lv_tableIn (tgt := 194) hx hb dL_law_33 (by omega) (by omega) (by rw [h]; rfl) (by decide) (lw_c2 C0 hK hZ F hv I hl hkk)
        · exact lv_tableIn (tgt := 237) hx hb dL_law_33 (by omega) (by omega) (by rw [h]; rfl) (by decide) (lw_c3 C0 hK hZ F hv I hl hkk)
        · exact lv_tableIn (tgt := 280) hx hb dL_law_33 (by omega) (by omega) (by rw [h]; rfl) (by decide) (lw_c4 C0 hK hZ F hv I hl hkk)
        · exact lv_tableIn (tgt := 313) hx hb dL_law_33 (by omega) (by omega) (by rw [h]; rfl) (by decide) (lw_c5 C0 hK hZ F hv I hl hkk)
        · exact lv_tableIn (tgt := 383) hx hb dL_law_33 (by omega) (by omega) (by rw [h]; rfl) (by decide) (lw_c6 C0 hK hZ F hv I hl hkk)
        · exact lv_tableIn (tgt := 426) hx hb dL_law_33 (by omega) (by omega) (by rw [h]; rfl) (by decide) (lw_c7 C0 hK hZ F hv I hl hkk)
        · exact lv_tableIn (tgt := 479) hx hb dL_law_33 (by omega) (by omega) (by rw [h]; rfl) (by decide) (lw_c8 C0 hK hZ F hv I hl hkk)
        · exact lv_tableIn (tgt := 543) hx hb dL_law_33 (by omega) (by omega) (by rw [h]; rfl) (by decide) (lw_c9 C0 hK hZ F hv I hl hkk)
        · exact lv_tableIn (tgt := 567) hx hb dL_law_33 (by omega) (by omega) (by rw [h]; rfl) (by decide) (lw_c10 C0 hK hZ F hv I hl hkk)
        · exact lv_tableIn (tgt := 590) hx hb dL_law_33 (by omega) (by omega) (by rw [h]; rfl) (by decide) (lw_c11 C0 hK hZ F hv I hl hkk)
        · exact lv_tableIn (tgt := 643) hx hb dL_law_33 (by omega) (by omega) (by rw [h]; rfl) (by decide) (lw_c12 C0 hK hZ F hv I hl hkk)
        · exact lv_tableIn (tgt := 677) hx hb dL_law_33 (by omega) (by omega) (by rw [h]; rfl) (by decide) (lw_c13 C0 hK hZ F hv I hl hkk)
        · exact lv_tableIn (tgt := 711) hx hb dL_law_33 (by omega) (by omega) (by rw [h]; rfl) (by decide) (lw_c14 C0 hK hZ F hv I hl hkk)
        · exact lv_tableIn (tgt := 754) hx hb dL_law_33 (by omega) (by omega) (by rw [h]; rfl) (by decide) (lw_c15 C0 hK hZ F hv I hl hkk)
        · exact lv_tableIn (tgt := 777) hx hb dL_law_33 (by omega) (by omega) (by rw [h]; rfl) (by decide) (lw_c16 C0 hK hZ F hv I hl hkk)
        · exact lv_tableIn (tgt := 790) hx hb dL_law_33 (by omega) (by omega) (by rw [h]; rfl) (by decide) (lw_c17 C0 hK hZ F hv I hl hkk)
        · exact lv_tableIn (tgt := 803) hx hb dL_law_33 (by omega) (by omega) (by rw [h]; rfl) (by decide) (lw_c18 C0 hK hZ F hv I hl hkk)
        · exact lv_tableIn (tgt := 826) hx hb dL_law_33 (by omega) (by omega) (by rw [h]; rfl) (by decide) (lw_c19 C0 hK hZ F hv I hl hkk)
theorem wS2_get (cA : ClassId) (a a2 : Nat → Nat) (u : StS) (u2 : StM) : ∀ i, i < 17 → ∃ e, (wS cA a u ++ wM cA a2 u2)[i]? = some (a i, e) := by
  intro i hi
  rcases (show i = 0 ∨ i = 1 ∨ i = 2 ∨ i = 3 ∨ i = 4 ∨ i = 5 ∨ i = 6 ∨ i = 7 ∨ i = 8 ∨ i = 9 ∨ i = 10 ∨ i = 11 ∨ i = 12 ∨ i = 13 ∨ i = 14 ∨ i = 15 ∨ i = 16 by omega) with rfl | rfl | rfl | rfl | rfl | rfl | rfl | rfl | rfl | rfl | rfl | rfl | rfl | rfl | rfl | rfl | rfl <;> exact ⟨_, rfl⟩
theorem wM2_get (cA : ClassId) (a a2 : Nat → Nat) (u : StS) (u2 : StM) : ∀ i, i < 8 → ∃ e, (wS cA a u ++ wM cA a2 u2)[17 + i]? = some (a2 i, e) := by
  intro i hi
  rcases (show i = 0 ∨ i = 1 ∨ i = 2 ∨ i = 3 ∨ i = 4 ∨ i = 5 ∨ i = 6 ∨ i = 7 by omega) with rfl | rfl | rfl | rfl | rfl | rfl | rfl | rfl <;> exact ⟨_, rfl⟩
theorem lwD_of {s : State} {cA : ClassId} {a1 a2 : Nat → Nat} {u : StS} {u2 : StM} (h : va_D (fun q : Nat => s.heap.size ≤ q) (wS cA a1 u ++ wM cA a2 u2)) : lwD s a1 a2 := by
  refine ⟨?_, ?_, ?_, ?_, ?_⟩
  · intro i j hi hj e
    obtain ⟨x, hx⟩ := wS2_get cA a1 a2 u u2 i hi
    obtain ⟨y, hy⟩ := wS2_get cA a1 a2 u u2 j hj
    exact h.1 i j _ _ hx hy e
  · intro i j hi hj e
    obtain ⟨x, hx⟩ := wM2_get cA a1 a2 u u2 i hi
    obtain ⟨y, hy⟩ := wM2_get cA a1 a2 u u2 j hj
    have := h.1 (17 + i) (17 + j) _ _ hx hy e
    omega
  · rintro q ⟨j, hj, rfl⟩
    obtain ⟨x, hx⟩ := wS2_get cA a1 a2 u u2 j hj
    exact h.2 j _ hx
  · rintro q ⟨j, hj, rfl⟩
    obtain ⟨x, hx⟩ := wM2_get cA a1 a2 u u2 j hj
    exact h.2 (17 + j) _ hx
  · rintro q ⟨i, hi, rfl⟩ ⟨j, hj, e⟩
    obtain ⟨x, hx⟩ := wS2_get cA a1 a2 u u2 i hi
    obtain ⟨y, hy⟩ := wM2_get cA a1 a2 u u2 j hj
    have := h.1 i (17 + j) _ _ hx hy e
    omega
theorem kn_arr {s : State} {args : Array Value} (h : (Cond.arrayClass .int).before args s = true) : ∃ cA : ClassId, ArrOfT s cA .int ∧ va_RA s cA .int := by
  obtain ⟨cB, kB, comp, h1, h2, h3⟩ := Cond.arrayClass_spec h
  exact ⟨cB, fun n z => ⟨fun k h => (by cases h), kB, h2, comp, h3⟩, h1⟩
set_option maxHeartbeats 4000000 in
set_option maxRecDepth 100000 in
/-- THE LAW, from its entry -/
theorem whole_start {p : Program} {e : Env} {s : State} {m : MethodId} {below : List Frame} {meth : Method} {c : Code} (l : Launch) (hflags : l.flags = flags0) {b L : Nat} {xs : Nat → Int32} (hL : L ≤ 3072) (C0 : lw_At p s m meth c b L xs) : W p l e room_1 s m #[Value.ref b] below meth c s.heap [] 0 0 (lw_Z below #[Value.ref b] s) (entryFrame m ([Value.ref b] : List Value).toArray 4) := by
  obtain ⟨hx, hb, hr, hml, hown, hts0, hX, hbl, hlocks, hgv⟩ := id C0
  have hA : ∀ q : Nat, s.heap.size ≤ q → (fun q : Nat => s.heap.size ≤ q) q := fun _ h => h
  have hbA : ¬ (fun q : Nat => s.heap.size ≤ q) b := Nat.not_le.mpr hbl
  have hown : s.vm.findClass RL = some m.cls := hown
  have hts : ∀ w ∈ wsL_law, w.before #[Value.ref b] s = true := fun w h => hts0 w (wsL_law_in w h)
  have hC : CallFix p m c code 4 s #[Value.ref b] wsL_law RL := ⟨hx, hb, hml, hown, hts⟩
  have hZ : va_Nw nestW s := va_Nw.of rfl (hts0 nestW (by decide +kernel))
  obtain ⟨cA, hA1, hA2⟩ := kn_arr (hts0 (.arrayClass .int) (by decide +kernel))
  obtain ⟨c0, iS0, hKn0⟩ := u_known (C := RX0) (T := TX0) (N := 5) (n := 5) hts0 inX0 (hts0 (.instantiable RX0 5) (by decide +kernel))
  obtain ⟨c1, iS1, hKn1⟩ := u_known (C := RX1) (T := TX1) (N := 8) (n := 8) hts0 inX1 (hts0 (.instantiable RX1 8) (by decide +kernel))
  obtain ⟨c2, iS2, hKn2⟩ := u_known (C := RX2) (T := TX2) (N := 14) (n := 14) hts0 inX2 (hts0 (.instantiable RX2 14) (by decide +kernel))
  obtain ⟨D, hKc⟩ : ∃ (D : va_G), ∀ (k : Nat) (q : vw_C), vwCl[k]? = some q → u_Kn s q.1 q.2.1 q.2.2 (D.1 k) (D.2 k) := by
    refine ⟨(fun k => if k = 0 then c0 else if k = 1 then c1 else c2, fun k => if k = 0 then iS0 else if k = 1 then iS1 else iS2), ?_⟩
    intro k q hq
    match k, hq with
    | 0, hq => cases hq; exact hKn0
    | 1, hq => cases hq; exact hKn1
    | 2, hq => cases hq; exact hKn2
    | k + 3, hq => simp [vwCl] at hq
  have hK : va_K D vwCl [(cA, .int)] s := ⟨hKc, fun k q h => by
    match k, h with
    | 0, h => cases h; exact ⟨hA1, hA2⟩
    | k + 1, h => simp at h⟩
  have hS : va_S (fun q : Nat => s.heap.size ≤ q) s.heap s.heap [] := va_S.rf
  have hP : va_P D vwCl [] s.heap := fun k q h => by simp at h
  have hD : va_D (fun q : Nat => s.heap.size ≤ q) [] := ⟨fun i j p q h => by simp at h, fun k q h => by simp at h⟩
  have hl := lv_entry ([.ref b]) (n := 4) (Nat.le_of_ble_eq_true rfl)
  rw [lg_entry_eq]
  generalize (lg_sl ([.ref b]) ++ List.replicate (4 - (lg_sl ([.ref b])).length) Slot.unset).toArray = ls at hl ⊢
  have hl : lv_has ls 4 [(0, .ref b)] := hl
  refine va_new (ci := 1) (fs := [.null, .null, .null, .null, .int 0, .int 0, .int 0, .long 0]) (C := RX1) (T := TX1) (N := 8) hx hb hts0 inX1 tyX1 tyX1_ok hown (hts0 (.classLink RL 7 RX1) (by decide +kernel)) (hts0 (.instantiable RX1 8) (by decide +kernel)) (hts0 (.initialized RX1) (by decide +kernel)) hK hP hD hS hA rfl (fun j hj => by rcases (show j = 0 ∨ j = 1 ∨ j = 2 ∨ j = 3 ∨ j = 4 ∨ j = 5 ∨ j = 6 ∨ j = 7 by omega) with rfl | rfl | rfl | rfl | rfl | rfl | rfl | rfl <;> rfl) (Nat.le_of_ble_eq_true rfl) (Nat.le_of_ble_eq_true rfl) dL_law_0 (fun q1 H hP hD hS => ?_)
  have hP : va_P D vwCl [(q1, .inr (1, [.null, .null, .null, .null, .int 0, .int 0, .int 0, .long 0]))] H := hP
  have hD : va_D (fun q : Nat => s.heap.size ≤ q) [(q1, .inr (1, [.null, .null, .null, .null, .int 0, .int 0, .int 0, .long 0]))] := hD
  refine lv_dup hx hb dL_law_3 rfl ?_
  have hFc := va_free (wc := [(q1, .inr (1, [.null, .null, .null, .null, .int 0, .int 0, .int 0, .long 0]))]) hD hS hA [0] rfl
  refine va_callv (va_runI (As := []) (rest := [.ref q1]) hC (c_X1_init l D cA q1 H.size) (cwI 0 hts gL_law_X1_init rfl rfl rfl (hts0 (.initialized RX1) (by decide +kernel)) (hts0 (.methodLink RL 9 yX1_init) (by decide +kernel)) (hts0 (.instanceMethod yX1_init) (by decide +kernel)) rfl (by decide +kernel) ⟨Nat.le_of_ble_eq_true rfl, Nat.le_of_ble_eq_true rfl⟩) ⟨fun a U g mk q => ⟨q.1, q.2.1, (roB_blind (av := []) #[] U g mk ⟨rfl, q.2.2⟩).2⟩, fun U hU hW => ⟨rfl, by rw [hU], (roB_pre (av := []) hK hZ (hws_1 hP) U hU hW).2⟩⟩ rfl rfl hl.1 rfl (lv_room (Nat.le_of_ble_eq_true rfl)) dL_law_4 ⟨Nat.le_of_ble_eq_true rfl, Nat.le_of_ble_eq_true rfl⟩) hS (fun q _ h => hFc q h) hFc (fun x t H1 locs ht hvm hw hB hz1 hk1 hS => ?_)
  obtain ⟨a1, u1⟩ := x
  obtain ⟨hP1, hD1⟩ := hB
  rw [ht] at hP1
  obtain ⟨hw0, hu1⟩ := hw
  have hw0 : a1 0 = q1 := hw0
  subst hw0
  have hu1 : bkS u1 := hu1
  obtain ⟨hP, hD⟩ := va_join (wr := []) (w1 := wS cA a1 u1) hP hD [0] [] rfl rfl (by decide) (by decide) hk1 hFc hP1 hD1
  generalize H1 = H at hP hS ⊢
  have hP : va_P D vwCl (wS cA a1 u1) H := hP
  have hD : va_D (fun q : Nat => s.heap.size ≤ q) (wS cA a1 u1) := hD
  refine lv_astore_n (lv' := [(1, .ref (a1 0)), (0, .ref b)]) hx hb dL_law_7 rfl hl (by decide) rfl (fun ls hl => ?_)
  refine va_new (ci := 2) (fs := [.int 0, .long 0, .int 0, .null, .null, .null, .int 0, .int 0, .null, .long 0, .long 0, .null, .null, .null]) (C := RX2) (T := TX2) (N := 14) hx hb hts0 inX2 tyX2 tyX2_ok hown (hts0 (.classLink RL 10 RX2) (by decide +kernel)) (hts0 (.instantiable RX2 14) (by decide +kernel)) (hts0 (.initialized RX2) (by decide +kernel)) hK hP hD hS hA rfl (fun j hj => by rcases (show j = 0 ∨ j = 1 ∨ j = 2 ∨ j = 3 ∨ j = 4 ∨ j = 5 ∨ j = 6 ∨ j = 7 ∨ j = 8 ∨ j = 9 ∨ j = 10 ∨ j = 11 ∨ j = 12 ∨ j = 13 by omega) with rfl | rfl | rfl | rfl | rfl | rfl | rfl | rfl | rfl | rfl | rfl | rfl | rfl | rfl <;> rfl) (Nat.le_of_ble_eq_true rfl) (Nat.le_of_ble_eq_true rfl) dL_law_8 (fun q2 H hP hD hS => ?_)
  refine lv_dup hx hb dL_law_11 rfl ?_
  have hPc := hP.sub (ws' := [(q2, .inr (2, [.int 0, .long 0, .int 0, .null, .null, .null, .int 0, .int 0, .null, .long 0, .long 0, .null, .null, .null]))]) [17] rfl
  have hFc := va_free (wc := [(q2, .inr (2, [.int 0, .long 0, .int 0, .null, .null, .null, .int 0, .int 0, .null, .long 0, .long 0, .null, .null, .null]))]) hD hS hA [17] rfl
  refine va_callv (va_runI (As := []) (rest := [.ref q2]) hC (c_X2_init l D cA q2 H.size) (cwI 0 hts gL_law_X2_init rfl rfl rfl (hts0 (.initialized RX2) (by decide +kernel)) (hts0 (.methodLink RL 12 yX2_init) (by decide +kernel)) (hts0 (.instanceMethod yX2_init) (by decide +kernel)) rfl (by decide +kernel) ⟨Nat.le_of_ble_eq_true rfl, Nat.le_of_ble_eq_true rfl⟩) ⟨fun a U g mk q => ⟨q.1, q.2.1, (roB_blind (av := []) #[] U g mk ⟨rfl, q.2.2⟩).2⟩, fun U hU hW => ⟨rfl, by rw [hU], (roB_pre (av := []) hK hZ (hws_1 hPc) U hU hW).2⟩⟩ rfl rfl hl.1 rfl (lv_room (Nat.le_of_ble_eq_true rfl)) dL_law_12 ⟨Nat.le_of_ble_eq_true rfl, Nat.le_of_ble_eq_true rfl⟩) hS (fun q _ h => hFc q h) hFc (fun x t H1 locs ht hvm hw hB hz1 hk1 hS => ?_)
  obtain ⟨a2, u2⟩ := x
  obtain ⟨hP1, hD1⟩ := hB
  rw [ht] at hP1
  obtain ⟨hw0, hu2⟩ := hw
  have hw0 : a2 0 = q2 := hw0
  subst hw0
  have hu2 : f_X2_renews m0 = some u2 := hu2
  obtain ⟨hP, hD⟩ := va_join (wr := wS cA a1 u1) (w1 := wM cA a2 u2) hP hD [17] [0, 1, 2, 3, 4, 5, 6, 7, 8, 9, 10, 11, 12, 13, 14, 15, 16] rfl rfl (by decide) (by decide) hk1 hFc hP1 hD1
  generalize H1 = H at hP hS ⊢
  have F := lwD_of hD
  have hPS := hP.sub (ws' := wS cA a1 u1) [0, 1, 2, 3, 4, 5, 6, 7, 8, 9, 10, 11, 12, 13, 14, 15, 16] rfl
  have hPM := hP.sub (ws' := wM cA a2 u2) [17, 18, 19, 20, 21, 22, 23, 24] rfl
  refine lv_astore_n (lv' := [(2, .ref (a2 0)), (1, .ref (a1 0)), (0, .ref b)]) hx hb dL_law_15 rfl hl (by decide) rfl (fun ls hl => ?_)
  refine lv_iconst (v := 0) hx hb dL_law_16 (by decide) ?_
  refine lv_istore_n (lv' := [(3, .int 0), (2, .ref (a2 0)), (1, .ref (a1 0)), (0, .ref b)]) hx hb dL_law_17 rfl hl (by decide) rfl (fun ls hl => ?_)
  exact law_loop hL C0 hK hZ F (L + 1) 0 (Nat.zero_le L) (by omega) u1 u2 _ _ ⟨hPS, hPM, rel_init hu1 hu2, hS⟩ ls (lv_sub hl [3, 2, 1, 0] rfl)
