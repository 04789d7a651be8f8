abbrev rm_X0_worthAt : Room := { frames := 0, cells := 0, slots := 0, locals := 0 }
set_option maxHeartbeats 4000000 in
set_option maxRecDepth 100000 in
theorem c_X0_worthAt (l : Launch) (D : va_G) (cA : ClassId) (a : Nat → Nat) (u : StB) (x1 : Int32) (v : Int32) (hv : f_X0_worthAt u x1 = some v)  : Met l yX0_worthAt wsX0_worthAt rm_X0_worthAt (va_Pc [.ref (a 0), .int x1] (roB D cA [wB cA a u])) (vp_Si (fun r => r = v)) 0 0 (fun _ => False) := by
  refine ro_i (cc := cX0_worthAt) (maxL := 2) (own := RX0) (by decide) rfl rfl (Nat.le_of_ble_eq_true rfl) ?_
  intro p e s m args below meth c Q ls hC hK hZ hws hl fin
  obtain ⟨hx, hb, hml, hown, hts⟩ := id hC
  have hl : lv_has ls 2 [(0, .ref (a 0)), (1, .int x1)] := hl
  have hP : va_P D vwCl (wB cA a u) s.heap := hws _ (List.mem_of_getElem? (i := 0) rfl)
  have hinX0 : ∀ w ∈ wsX00, w ∈ wsX0_worthAt := fun w h => List.mem_cons_of_mem _ (List.mem_append_right _ h)
  unfold f_X0_worthAt at hv
  refine lv_iload_n hx hb dX0_worthAt_0 rfl (lv_at hl 1 rfl) ?_
  refine lv_if_lt (tgt := 21) hx hb dX0_worthAt_1 (by decide) (fun c101 => ?_) (fun c101 => ?_)
  · have hv := o_pos hv c101
    refine lv_iconst (v := 0) hx hb dX0_worthAt_21 (by decide) ?_
    exact fin dX0_worthAt_22 hv
  · have hv := o_neg hv c101
    refine lv_iload_n hx hb dX0_worthAt_4 rfl (lv_at hl 1 rfl) ?_
    refine lv_aload_n hx hb dX0_worthAt_5 rfl (lv_at hl 0 rfl) ?_
    refine gtX0_size hx hb hts hinX0 hown hK hP (by decide +kernel) dX0_worthAt_6 ?_
    refine lv_icmp_ge (tgt := 21) hx hb dX0_worthAt_9 (by decide) (fun c102 => ?_) (fun c102 => ?_)
    · have hv := o_pos hv c102
      refine lv_iconst (v := 0) hx hb dX0_worthAt_21 (by decide) ?_
      exact fin dX0_worthAt_22 hv
    · have hv := o_neg hv c102
      refine lv_aload_n hx hb dX0_worthAt_12 rfl (lv_at hl 0 rfl) ?_
      refine gtX0_worths hx hb hts hinX0 hown hK hP (by decide +kernel) dX0_worthAt_13 ?_
      refine lv_iload_n hx hb dX0_worthAt_16 rfl (lv_at hl 1 rfl) ?_
      obtain ⟨g103, hv⟩ := o_grd hv
      refine alX0_worths hx hb hK hP g103 dX0_worthAt_17 ?_
      refine lv_goto (tgt := 22) hx hb dX0_worthAt_18 (by decide) ?_
      exact fin dX0_worthAt_22 hv
abbrev rm_X0_shareAt : Room := { frames := 1, cells := 0, slots := 0, locals := 21 }
set_option maxHeartbeats 4000000 in
set_option maxRecDepth 100000 in
theorem c_X0_shareAt (l : Launch) (D : va_G) (cA : ClassId) (a : Nat → Nat) (u : StB) (x1 : Int32) (v : Int32) (hv : f_X0_shareAt u x1 = some v)  : Met l yX0_shareAt wsX0_shareAt rm_X0_shareAt (va_Pc [.ref (a 0), .int x1] (roB D cA [wB cA a u])) (vp_Si (fun r => r = v)) 0 0 (fun _ => False) := by
  refine ro_i (cc := cX0_shareAt) (maxL := 4) (own := RX0) (by decide) rfl rfl (Nat.le_of_ble_eq_true rfl) ?_
  intro p e s m args below meth c Q ls hC hK hZ hws hl fin
  obtain ⟨hx, hb, hml, hown, hts⟩ := id hC
  have hl : lv_has ls 4 [(0, .ref (a 0)), (1, .int x1)] := hl
  have hP : va_P D vwCl (wB cA a u) s.heap := hws _ (List.mem_of_getElem? (i := 0) rfl)
  have hinX0 : ∀ w ∈ wsX00, w ∈ wsX0_shareAt := fun w h => List.mem_cons_of_mem _ (List.mem_append_right _ h)
  have hB8 : ∀ (k31 : Int32 → Option (Int32)) (hk31 : ∀ (x2 : Int32) (ls : Array Slot), lv_has ls 4 [(2, .int x2)] → k31 x2 = some v → W p l e rm_X0_shareAt s m args below meth c s.heap [] 0 0 Q (F0 m 31 ls [])) (n : Nat) (x2 : Int32) (x3 : Int32) (ls : Array Slot), lv_has ls 4 [(0, .ref (a 0)), (2, .int x2), (3, .int x3)] → B_X0_shareAt_8 u k31 n x2 x3 = some v → W p l e rm_X0_shareAt s m args below meth c s.heap [] 0 0 Q (F0 m 8 ls []) := by
    intro k31 hk31 n
    induction n with
    | zero => intro x2 x3 ls hl hv; exact absurd hv (by intro h; cases h)
    | succ n hk8 =>
      intro x2 x3 ls hl hv
      rw [B_X0_shareAt_8] at hv
      refine lv_iload_n hx hb dX0_shareAt_8 rfl (lv_at hl 2 rfl) ?_
      refine lv_aload_n hx hb dX0_shareAt_9 rfl (lv_at hl 0 rfl) ?_
      refine gtX0_size hx hb hts hinX0 hown hK hP (by decide +kernel) dX0_shareAt_10 ?_
      refine lv_icmp_ge (tgt := 31) hx hb dX0_shareAt_13 (by decide) (fun c101 => ?_) (fun c101 => ?_)
      · have hv := o_pos hv c101
        exact hk31 _  ls (lv_sub hl [1] rfl) hv
      · have hv := o_neg hv c101
        refine lv_iload_n hx hb dX0_shareAt_16 rfl (lv_at hl 1 rfl) ?_
        refine lv_aload_n hx hb dX0_shareAt_17 rfl (lv_at hl 0 rfl) ?_
        refine gtX0_weights hx hb hts hinX0 hown hK hP (by decide +kernel) dX0_shareAt_18 ?_
        refine lv_iload_n hx hb dX0_shareAt_21 rfl (lv_at hl 2 rfl) ?_
        obtain ⟨g102, hv⟩ := o_grd hv
        refine alX0_weights hx hb hK hP g102 dX0_shareAt_22 ?_
        refine lv_iadd hx hb dX0_shareAt_23 ?_
        refine lv_istore_n (lv' := [(2, .int (x2 + (b_weights u x3.toNatClampNeg))), (0, .ref (a 0)), (3, .int x3)]) hx hb dX0_shareAt_24 rfl hl (by decide) rfl (fun ls hl => ?_)
        refine lv_iinc (v := (x3 + 1)) (lv' := [(3, .int (x3 + 1)), (2, .int (x2 + (b_weights u x3.toNatClampNeg))), (0, .ref (a 0))]) hx hb dX0_shareAt_25 hl (k := 2) rfl rfl (by decide) rfl (fun ls hl => ?_)
        refine lv_goto (tgt := 8) hx hb dX0_shareAt_28 (by decide) ?_
        exact hk8 _ _  ls (lv_sub hl [2, 1, 0] rfl) hv
  unfold f_X0_shareAt at hv
  refine lv_iconst (v := 0) hx hb dX0_shareAt_0 (by decide) ?_
  refine lv_istore_n (lv' := [(2, .int (0 : Int32)), (0, .ref (a 0)), (1, .int x1)]) hx hb dX0_shareAt_1 rfl hl (by decide) rfl (fun ls hl => ?_)
  refine lv_iload_n hx hb dX0_shareAt_2 rfl (lv_at hl 2 rfl) ?_
  refine lv_iconst (v := 0) hx hb dX0_shareAt_3 (by decide) ?_
  refine va_mmax hx hb (hml.trans hl.1.symm) hown (hts (.methodLink RX0 35 Lib.Math.max.name) (by decide +kernel)) (hts (.static Lib.Math.max.name) (by decide +kernel)) (hts (.initialized "java/lang/Math") (by decide +kernel)) (hts (.code Lib.Math.max.name Lib.Math.max.code 2 (some .int)) (by decide +kernel)) (Nat.le_of_ble_eq_true rfl) (Nat.le_of_ble_eq_true rfl) (Nat.le_of_ble_eq_true rfl) (Nat.le_of_ble_eq_true rfl) dX0_shareAt_4 ?_
  refine lv_istore_n (lv' := [(3, .int (if x1 < (0 : Int32) then (0 : Int32) else x1)), (2, .int (0 : Int32)), (0, .ref (a 0)), (1, .int x1)]) hx hb dX0_shareAt_7 rfl hl (by decide) rfl (fun ls hl => ?_)
  refine hB8 _ (fun z203_2 ls hl hv => ?_) 1000 _ _ ls (lv_sub hl [2, 1, 0] rfl) hv
  · skip
    refine lv_iload_n hx hb dX0_shareAt_31 rfl (lv_at hl 0 rfl) ?_
    exact fin dX0_shareAt_32 hv
abbrev rm_X0_takeAt : Room := { frames := 2, cells := 0, slots := 0, locals := 44 }
set_option maxHeartbeats 4000000 in
set_option maxRecDepth 100000 in
theorem c_X0_takeAt (l : Launch) (D : va_G) (cA : ClassId) (a : Nat → Nat) (u : StB) (x1 : Int32) (v : Int32) (hv : f_X0_takeAt u x1 = some v)  : Met l yX0_takeAt wsX0_takeAt rm_X0_takeAt (va_Pc [.ref (a 0), .int x1] (roB D cA [wB cA a u])) (vp_Si (fun r => r = v)) 0 0 (fun _ => False) := by
  refine ro_i (cc := cX0_takeAt) (maxL := 2) (own := RX0) (by decide) rfl rfl (Nat.le_of_ble_eq_true rfl) ?_
  intro p e s m args below meth c Q ls hC hK hZ hws hl fin
  obtain ⟨hx, hb, hml, hown, hts⟩ := id hC
  have hl : lv_has ls 2 [(0, .ref (a 0)), (1, .int x1)] := hl
  have hP : va_P D vwCl (wB cA a u) s.heap := hws _ (List.mem_of_getElem? (i := 0) rfl)
  have hinX0 : ∀ w ∈ wsX00, w ∈ wsX0_takeAt := fun w h => List.mem_cons_of_mem _ (List.mem_append_right _ h)
  unfold f_X0_takeAt at hv
  refine lv_aload_n hx hb dX0_takeAt_0 rfl (lv_at hl 0 rfl) ?_
  refine lv_iload_n hx hb dX0_takeAt_1 rfl (lv_at hl 1 rfl) ?_
  obtain ⟨r101, e101, hv⟩ := o_bind hv
  refine rcall_i (W.runV (As := [.int x1]) (rest := []) hC (c_X0_worthAt l D cA a u x1 r101 e101) (cwV 1 hts gX0_takeAt_X0_worthAt rfl rfl rfl (by decide +kernel) ⟨Nat.le_of_ble_eq_true rfl, Nat.le_of_ble_eq_true rfl⟩) ⟨roB_blind, va_recv (ci := 0) (q0 := 0) hK hP rfl rfl, roB_pre hK hZ (hws_1 hP)⟩ rfl rfl hl.1 rfl (lv_room (Nat.le_of_ble_eq_true rfl)) dX0_takeAt_2 ⟨Nat.le_of_ble_eq_true rfl, Nat.le_of_ble_eq_true rfl⟩) ?_
  refine lv_aload_n hx hb dX0_takeAt_5 rfl (lv_at hl 0 rfl) ?_
  refine lv_iload_n hx hb dX0_takeAt_6 rfl (lv_at hl 1 rfl) ?_
  obtain ⟨r102, e102, hv⟩ := o_bind hv
  refine rcall_i (W.runV (As := [.int x1]) (rest := [.int r101]) hC (c_X0_shareAt l D cA a u x1 r102 e102) (cwV 1 hts gX0_takeAt_X0_shareAt rfl rfl rfl (by decide +kernel) ⟨Nat.le_of_ble_eq_true rfl, Nat.le_of_ble_eq_true rfl⟩) ⟨roB_blind, va_recv (ci := 0) (q0 := 0) hK hP rfl rfl, roB_pre hK hZ (hws_1 hP)⟩ rfl rfl hl.1 rfl (lv_room (Nat.le_of_ble_eq_true rfl)) dX0_takeAt_7 ⟨Nat.le_of_ble_eq_true rfl, Nat.le_of_ble_eq_true rfl⟩) ?_
  refine lv_imul hx hb dX0_takeAt_10 ?_
  exact fin dX0_takeAt_11 hv
abbrev rm_X0_nextCorner : Room := { frames := 3, cells := 0, slots := 0, locals := 65 }
set_option maxHeartbeats 4000000 in
set_option maxRecDepth 100000 in
theorem c_X0_nextCorner (l : Launch) (D : va_G) (cA : ClassId) (a : Nat → Nat) (u : StB) (x1 : Int32) (v : Int32) (hv : f_X0_nextCorner u x1 = some v)  : Met l yX0_nextCorner wsX0_nextCorner rm_X0_nextCorner (va_Pc [.ref (a 0), .int x1] (roB D cA [wB cA a u])) (vp_Si (fun r => r = v)) 0 0 (fun _ => False) := by
  refine ro_i (cc := cX0_nextCorner) (maxL := 12) (own := RX0) (by decide) rfl rfl (Nat.le_of_ble_eq_true rfl) ?_
  intro p e s m args below meth c Q ls hC hK hZ hws hl fin
  obtain ⟨hx, hb, hml, hown, hts⟩ := id hC
  have hl : lv_has ls 12 [(0, .ref (a 0)), (1, .int x1)] := hl
  have hP : va_P D vwCl (wB cA a u) s.heap := hws _ (List.mem_of_getElem? (i := 0) rfl)
  have hinX0 : ∀ w ∈ wsX00, w ∈ wsX0_nextCorner := fun w h => List.mem_cons_of_mem _ (List.mem_append_right _ h)
  have hB8 : ∀ (k90 : Int32 → Option (Int32)) (hk90 : ∀ (x2 : Int32) (ls : Array Slot), lv_has ls 12 [(2, .int x2)] → k90 x2 = some v → W p l e rm_X0_nextCorner s m args below meth c s.heap [] 0 0 Q (F0 m 90 ls [])) (n : Nat) (x1 : Int32) (x2 : Int32) (x3 : Int32) (ls : Array Slot), lv_has ls 12 [(0, .ref (a 0)), (1, .int x1), (2, .int x2), (3, .int x3)] → B_X0_nextCorner_8 u k90 n x1 x2 x3 = some v → W p l e rm_X0_nextCorner s m args below meth c s.heap [] 0 0 Q (F0 m 8 ls []) := by
    intro k90 hk90 n
    induction n with
    | zero => intro x1 x2 x3 ls hl hv; exact absurd hv (by intro h; cases h)
    | succ n hk8 =>
      intro x1 x2 x3 ls hl hv
      rw [B_X0_nextCorner_8] at hv
      refine lv_iload_n hx hb dX0_nextCorner_8 rfl (lv_at hl 3 rfl) ?_
      refine lv_if_lt (tgt := 90) hx hb dX0_nextCorner_9 (by decide) (fun c101 => ?_) (fun c101 => ?_)
      · have hv := o_pos hv c101
        exact hk90 _  ls (lv_sub hl [2] rfl) hv
      · have hv := o_neg hv c101
        refine lv_aload_n hx hb dX0_nextCorner_12 rfl (lv_at hl 0 rfl) ?_
        refine lv_iload_n hx hb dX0_nextCorner_13 rfl (lv_at hl 3 rfl) ?_
        obtain ⟨r102, e102, hv⟩ := o_bind hv
        refine rcall_i (W.runV (As := [.int x3]) (rest := []) hC (c_X0_takeAt l D cA a u x3 r102 e102) (cwV 1 hts gX0_nextCorner_X0_takeAt rfl rfl rfl (by decide +kernel) ⟨Nat.le_of_ble_eq_true rfl, Nat.le_of_ble_eq_true rfl⟩) ⟨roB_blind, va_recv (ci := 0) (q0 := 0) hK hP rfl rfl, roB_pre hK hZ (hws_1 hP)⟩ rfl rfl hl.1 rfl (lv_room (Nat.le_of_ble_eq_true rfl)) dX0_nextCorner_14 ⟨Nat.le_of_ble_eq_true rfl, Nat.le_of_ble_eq_true rfl⟩) ?_
        refine lv_aload_n hx hb dX0_nextCorner_17 rfl (lv_at hl 0 rfl) ?_
        refine lv_iload_n hx hb dX0_nextCorner_18 rfl (lv_at hl 1 rfl) ?_
        obtain ⟨r103, e103, hv⟩ := o_bind hv
        refine rcall_i (W.runV (As := [.int x1]) (rest := [.int r102]) hC (c_X0_takeAt l D cA a u x1 r103 e103) (cwV 1 hts gX0_nextCorner_X0_takeAt rfl rfl rfl (by decide +kernel) ⟨Nat.le_of_ble_eq_true rfl, Nat.le_of_ble_eq_true rfl⟩) ⟨roB_blind, va_recv (ci := 0) (q0 := 0) hK hP rfl rfl, roB_pre hK hZ (hws_1 hP)⟩ rfl rfl hl.1 rfl (lv_room (Nat.le_of_ble_eq_true rfl)) dX0_nextCorner_19 ⟨Nat.le_of_ble_eq_true rfl, Nat.le_of_ble_eq_true rfl⟩) ?_
        refine lv_isub hx hb dX0_nextCorner_22 ?_
        refine lv_i2l hx hb dX0_nextCorner_23 rfl ?_
        refine lv_lstore (lv' := [(4, .long (((r102 - r103)).toInt64)), (0, .ref (a 0)), (1, .int x1), (2, .int x2), (3, .int x3)]) hx hb dX0_nextCorner_24 hl (by decide) rfl (fun ls hl => ?_)
        refine lv_aload_n hx hb dX0_nextCorner_26 rfl (lv_at hl 1 rfl) ?_
        refine lv_iload_n hx hb dX0_nextCorner_27 rfl (lv_at hl 4 rfl) ?_
        obtain ⟨r104, e104, hv⟩ := o_bind hv
        refine rcall_i (W.runV (As := [.int x3]) (rest := []) hC (c_X0_shareAt l D cA a u x3 r104 e104) (cwV 1 hts gX0_nextCorner_X0_shareAt rfl rfl rfl (by decide +kernel) ⟨Nat.le_of_ble_eq_true rfl, Nat.le_of_ble_eq_true rfl⟩) ⟨roB_blind, va_recv (ci := 0) (q0 := 0) hK hP rfl rfl, roB_pre hK hZ (hws_1 hP)⟩ rfl rfl hl.1 rfl (lv_room (Nat.le_of_ble_eq_true rfl)) dX0_nextCorner_28 ⟨Nat.le_of_ble_eq_true rfl, Nat.le_of_ble_eq_true rfl⟩) ?_
        refine lv_aload_n hx hb dX0_nextCorner_31 rfl (lv_at hl 1 rfl) ?_
        refine lv_iload_n hx hb dX0_nextCorner_32 rfl (lv_at hl 2 rfl) ?_
        obtain ⟨r105, e105, hv⟩ := o_bind hv
        refine rcall_i (W.runV (As := [.int x1]) (rest := [.int r104]) hC (c_X0_shareAt l D cA a u x1 r105 e105) (cwV 1 hts gX0_nextCorner_X0_shareAt rfl rfl rfl (by decide +kernel) ⟨Nat.le_of_ble_eq_true rfl, Nat.le_of_ble_eq_true rfl⟩) ⟨roB_blind, va_recv (ci := 0) (q0 := 0) hK hP rfl rfl, roB_pre hK hZ (hws_1 hP)⟩ rfl rfl hl.1 rfl (lv_room (Nat.le_of_ble_eq_true rfl)) dX0_nextCorner_33 ⟨Nat.le_of_ble_eq_true rfl, Nat.le_of_ble_eq_true rfl⟩) ?_
        refine lv_isub hx hb dX0_nextCorner_36 ?_
        refine lv_i2l hx hb dX0_nextCorner_37 rfl ?_
        refine lv_lstore (lv' := [(6, .long (((r104 - r105)).toInt64)), (4, .long (((r102 - r103)).toInt64)), (0, .ref (a 0)), (1, .int x1), (2, .int x2), (3, .int x3)]) hx hb dX0_nextCorner_38 hl (by decide) rfl (fun ls hl => ?_)
        refine lv_aload_n hx hb dX0_nextCorner_40 rfl (lv_at hl 2 rfl) ?_
        refine lv_iload_n hx hb dX0_nextCorner_41 rfl (lv_at hl 4 rfl) ?_
        obtain ⟨r106, e106, hv⟩ := o_bind hv
        refine rcall_i (W.runV (As := [.int x2]) (rest := []) hC (c_X0_takeAt l D cA a u x2 r106 e106) (cwV 1 hts gX0_nextCorner_X0_takeAt rfl rfl rfl (by decide +kernel) ⟨Nat.le_of_ble_eq_true rfl, Nat.le_of_ble_eq_true rfl⟩) ⟨roB_blind, va_recv (ci := 0) (q0 := 0) hK hP rfl rfl, roB_pre hK hZ (hws_1 hP)⟩ rfl rfl hl.1 rfl (lv_room (Nat.le_of_ble_eq_true rfl)) dX0_nextCorner_42 ⟨Nat.le_of_ble_eq_true rfl, Nat.le_of_ble_eq_true rfl⟩) ?_
        refine lv_aload_n hx hb dX0_nextCorner_45 rfl (lv_at hl 2 rfl) ?_
        refine lv_iload_n hx hb dX0_nextCorner_46 rfl (lv_at hl 3 rfl) ?_
        obtain ⟨r107, e107, hv⟩ := o_bind hv
        refine rcall_i (W.runV (As := [.int x1]) (rest := [.int r106]) hC (c_X0_takeAt l D cA a u x1 r107 e107) (cwV 1 hts gX0_nextCorner_X0_takeAt rfl rfl rfl (by decide +kernel) ⟨Nat.le_of_ble_eq_true rfl, Nat.le_of_ble_eq_true rfl⟩) ⟨roB_blind, va_recv (ci := 0) (q0 := 0) hK hP rfl rfl, roB_pre hK hZ (hws_1 hP)⟩ rfl rfl hl.1 rfl (lv_room (Nat.le_of_ble_eq_true rfl)) dX0_nextCorner_47 ⟨Nat.le_of_ble_eq_true rfl, Nat.le_of_ble_eq_true rfl⟩) ?_
        refine lv_isub hx hb dX0_nextCorner_50 ?_
        refine lv_i2l hx hb dX0_nextCorner_51 rfl ?_
        refine lv_lstore (lv' := [(8, .long (((r106 - r107)).toInt64)), (6, .long (((r104 - r105)).toInt64)), (4, .long (((r102 - r103)).toInt64)), (0, .ref (a 0)), (1, .int x1), (2, .int x2), (3, .int x3)]) hx hb dX0_nextCorner_52 hl (by decide) rfl (fun ls hl => ?_)
        refine lv_aload_n hx hb dX0_nextCorner_54 rfl (lv_at hl 3 rfl) ?_
        refine lv_iload_n hx hb dX0_nextCorner_55 rfl (lv_at hl 5 rfl) ?_
        obtain ⟨r108, e108, hv⟩ := o_bind hv
        refine rcall_i (W.runV (As := [.int x2]) (rest := []) hC (c_X0_shareAt l D cA a u x2 r108 e108) (cwV 1 hts gX0_nextCorner_X0_shareAt rfl rfl rfl (by decide +kernel) ⟨Nat.le_of_ble_eq_true rfl, Nat.le_of_ble_eq_true rfl⟩) ⟨roB_blind, va_recv (ci := 0) (q0 := 0) hK hP rfl rfl, roB_pre hK hZ (hws_1 hP)⟩ rfl rfl hl.1 rfl (lv_room (Nat.le_of_ble_eq_true rfl)) dX0_nextCorner_56 ⟨Nat.le_of_ble_eq_true rfl, Nat.le_of_ble_eq_true rfl⟩) ?_
        refine lv_aload_n hx hb dX0_nextCorner_59 rfl (lv_at hl 3 rfl) ?_
        refine lv_iload_n hx hb dX0_nextCorner_60 rfl (lv_at hl 4 rfl) ?_
        obtain ⟨r109, e109, hv⟩ := o_bind hv
        refine rcall_i (W.runV (As := [.int x1]) (rest := [.int r108]) hC (c_X0_shareAt l D cA a u x1 r109 e109) (cwV 1 hts gX0_nextCorner_X0_shareAt rfl rfl rfl (by decide +kernel) ⟨Nat.le_of_ble_eq_true rfl, Nat.le_of_ble_eq_true rfl⟩) ⟨roB_blind, va_recv (ci := 0) (q0 := 0) hK hP rfl rfl, roB_pre hK hZ (hws_1 hP)⟩ rfl rfl hl.1 rfl (lv_room (Nat.le_of_ble_eq_true rfl)) dX0_nextCorner_61 ⟨Nat.le_of_ble_eq_true rfl, Nat.le_of_ble_eq_true rfl⟩) ?_
        refine lv_isub hx hb dX0_nextCorner_64 ?_
        refine lv_i2l hx hb dX0_nextCorner_65 rfl ?_
        refine lv_lstore (lv' := [(10, .long (((r108 - r109)).toInt64)), (8, .long (((r106 - r107)).toInt64)), (6, .long (((r104 - r105)).toInt64)), (4, .long (((r102 - r103)).toInt64)), (0, .ref (a 0)), (1, .int x1), (2, .int x2), (3, .int x3)]) hx hb dX0_nextCorner_66 hl (by decide) rfl (fun ls hl => ?_)
        refine lv_lload hx hb dX0_nextCorner_68 (lv_at hl 3 rfl) ?_
        refine lv_lload hx hb dX0_nextCorner_70 (lv_at hl 0 rfl) ?_
        refine lv_lmul hx hb dX0_nextCorner_72 ?_
        refine lv_lload hx hb dX0_nextCorner_73 (lv_at hl 1 rfl) ?_
        refine lv_lload hx hb dX0_nextCorner_75 (lv_at hl 2 rfl) ?_
        refine lv_lmul hx hb dX0_nextCorner_77 ?_
        refine W.lcmp hx hb dX0_nextCorner_78 ?_
        refine lv_if_lt (tgt := 84) hx hb dX0_nextCorner_79 (by decide) (fun c110 => ?_) (fun c110 => ?_)
        · have hv := o_pos hv c110
          refine lv_iinc (v := (x3 + (-1))) (lv' := [(3, .int (x3 + (-1))), (10, .long (((r108 - r109)).toInt64)), (8, .long (((r106 - r107)).toInt64)), (6, .long (((r104 - r105)).toInt64)), (4, .long (((r102 - r103)).toInt64)), (0, .ref (a 0)), (1, .int x1), (2, .int x2)]) hx hb dX0_nextCorner_84 hl (k := 7) rfl rfl (by decide) rfl (fun ls hl => ?_)
          refine lv_goto (tgt := 8) hx hb dX0_nextCorner_87 (by decide) ?_
          exact hk8 _ _ _  ls (lv_sub hl [5, 6, 7, 0] rfl) hv
        · have hv := o_neg hv c110
          refine lv_iload_n hx hb dX0_nextCorner_82 rfl (lv_at hl 7 rfl) ?_
          refine lv_istore_n (lv' := [(2, .int x3), (10, .long (((r108 - r109)).toInt64)), (8, .long (((r106 - r107)).toInt64)), (6, .long (((r104 - r105)).toInt64)), (4, .long (((r102 - r103)).toInt64)), (0, .ref (a 0)), (1, .int x1), (3, .int x3)]) hx hb dX0_nextCorner_83 rfl hl (by decide) rfl (fun ls hl => ?_)
          refine lv_iinc (v := (x3 + (-1))) (lv' := [(3, .int (x3 + (-1))), (2, .int x3), (10, .long (((r108 - r109)).toInt64)), (8, .long (((r106 - r107)).toInt64)), (6, .long (((r104 - r105)).toInt64)), (4, .long (((r102 - r103)).toInt64)), (0, .ref (a 0)), (1, .int x1)]) hx hb dX0_nextCorner_84 hl (k := 7) rfl rfl (by decide) rfl (fun ls hl => ?_)
          refine lv_goto (tgt := 8) hx hb dX0_nextCorner_87 (by decide) ?_
          exact hk8 _ _ _  ls (lv_sub hl [6, 7, 1, 0] rfl) hv
  unfold f_X0_nextCorner at hv
  refine lv_iload_n hx hb dX0_nextCorner_0 rfl (lv_at hl 1 rfl) ?_
  refine lv_iconst (v := 1) hx hb dX0_nextCorner_1 (by decide) ?_
  refine lv_isub hx hb dX0_nextCorner_2 ?_
  refine lv_istore_n (lv' := [(2, .int (x1 - (1 : Int32))), (0, .ref (a 0)), (1, .int x1)]) hx hb dX0_nextCorner_3 rfl hl (by decide) rfl (fun ls hl => ?_)
  refine lv_iload_n hx hb dX0_nextCorner_4 rfl (lv_at hl 2 rfl) ?_
  refine lv_iconst (v := 2) hx hb dX0_nextCorner_5 (by decide) ?_
  refine lv_isub hx hb dX0_nextCorner_6 ?_
  refine lv_istore_n (lv' := [(3, .int (x1 - (2 : Int32))), (2, .int (x1 - (1 : Int32))), (0, .ref (a 0)), (1, .int x1)]) hx hb dX0_nextCorner_7 rfl hl (by decide) rfl (fun ls hl => ?_)
  refine hB8 _ (fun z211_2 ls hl hv => ?_) 1000 _ _ _ ls (lv_sub hl [2, 3, 1, 0] rfl) hv
  · skip
    refine lv_iload_n hx hb dX0_nextCorner_90 rfl (lv_at hl 0 rfl) ?_
    exact fin dX0_nextCorner_91 hv
abbrev rm_X0_iron : Room := { frames := 4, cells := 0, slots := 0, locals := 96 }
set_option maxHeartbeats 4000000 in
set_option maxRecDepth 100000 in
theorem c_X0_iron (l : Launch) (D : va_G) (cA : ClassId) (a : Nat → Nat) (u : StB) (v : StB) (hv : f_X0_iron u = some v) (hd : djB a) : Met l yX0_iron wsX0_iron rm_X0_iron (va_Pc [.ref (a 0)] (roB D cA [wB cA a u])) (va_Qv (fun (u1 : StB) => u1 = v) (fun (u1 : StB) t => va_P D vwCl (wB cA a u1) t.heap) (inB a)) 0 0 (inB a) := by
  refine wr_v (wf := fun u => wB cA a u) (cc := cX0_iron) (maxL := 6) (own := RX0) (by decide) rfl rfl (Nat.le_of_ble_eq_true rfl) ?_
  intro p e s m args below meth c Q ls hC hK hZ hws hl fin
  obtain ⟨hx, hb, hml, hown, hts⟩ := id hC
  have hl : lv_has ls 6 [(0, .ref (a 0))] := hl
  have hP : va_P D vwCl (wB cA a u) s.heap := hws _ (List.mem_of_getElem? (i := 0) rfl)
  have hinX0 : ∀ w ∈ wsX00, w ∈ wsX0_iron := fun w h => List.mem_cons_of_mem _ (List.mem_append_right _ h)
  have hS : va_S (inB a) s.heap s.heap [] := va_S.rf
  have hB64 : ∀ (k17 : StB → Int32 → Int32 → Int32 → Int32 → Option (StB)) (hk17 : ∀ (u : StB) (H : Heap) (locs : List Loc) (x1 : Int32) (x2 : Int32) (x3 : Int32) (x4 : Int32) (ls : Array Slot), va_P D vwCl (wB cA a u) H → va_S (inB a) s.heap H locs → lv_has ls 6 [(0, .ref (a 0)), (1, .int x1), (2, .int x2), (3, .int x3), (4, .int x4)] → k17 u x1 x2 x3 x4 = some v → W p l e rm_X0_iron s m args below meth c H locs 0 0 Q (F0 m 17 ls [])) (k86 : StB → Option (StB)) (hk86 : ∀ (u : StB) (H : Heap) (locs : List Loc)  (ls : Array Slot), va_P D vwCl (wB cA a u) H → va_S (inB a) s.heap H locs → lv_has ls 6 [] → k86 u = some v → W p l e rm_X0_iron s m args below meth c H locs 0 0 Q (F0 m 86 ls [])) (u : StB) (H : Heap) (locs : List Loc) (x1 : Int32) (x2 : Int32) (x3 : Int32) (x4 : Int32) (ls : Array Slot), va_P D vwCl (wB cA a u) H → va_S (inB a) s.heap H locs → lv_has ls 6 [(0, .ref (a 0)), (1, .int x1), (2, .int x2), (3, .int x3), (4, .int x4)] → B_X0_iron_64 k17 k86 u x1 x2 x3 x4 = some v → W p l e rm_X0_iron s m args below meth c H locs 0 0 Q (F0 m 64 ls []) := by
    intro k17 hk17 k86 hk86 u H locs x1 x2 x3 x4 ls hP hS hl hv
    unfold B_X0_iron_64 at hv
    refine lv_aload_n hx hb dX0_iron_64 rfl (lv_at hl 0 rfl) ?_
    refine gtX0_uppers hx hb hts hinX0 hown hK hP (by decide +kernel) dX0_iron_65 ?_
    refine lv_iload hx hb dX0_iron_68 (lv_at hl 4 rfl) ?_
    refine lv_iload_n hx hb dX0_iron_70 rfl (lv_at hl 2 rfl) ?_
    obtain ⟨g101, hv⟩ := o_grd hv
    refine asX0_uppers hx hb hK hP (dB hd _) hS g101 dX0_iron_71 (fun H locs hP hS => ?_)
    refine lv_aload_n hx hb dX0_iron_72 rfl (lv_at hl 0 rfl) ?_
    refine gtX0_lowers hx hb hts hinX0 hown hK hP (by decide +kernel) dX0_iron_73 ?_
    refine lv_iload hx hb dX0_iron_76 (lv_at hl 4 rfl) ?_
    refine lv_iload_n hx hb dX0_iron_78 rfl (lv_at hl 3 rfl) ?_
    obtain ⟨g102, hv⟩ := o_grd hv
    refine asX0_lowers hx hb hK hP (dB hd _) hS g102 dX0_iron_79 (fun H locs hP hS => ?_)
    refine lv_iinc (v := (x4 + (-1))) (lv' := [(4, .int (x4 + (-1))), (0, .ref (a 0)), (1, .int x1), (2, .int x2), (3, .int x3)]) hx hb dX0_iron_80 hl (k := 4) rfl rfl (by decide) rfl (fun ls hl => ?_)
    refine lv_goto (tgt := 17) hx hb dX0_iron_83 (by decide) ?_
    exact hk17 _ _ _ _ _ _ _  ls hP hS (lv_sub hl [1, 2, 3, 4, 0] rfl) hv
  have hB17 : ∀ (k86 : StB → Option (StB)) (hk86 : ∀ (u : StB) (H : Heap) (locs : List Loc)  (ls : Array Slot), va_P D vwCl (wB cA a u) H → va_S (inB a) s.heap H locs → lv_has ls 6 [] → k86 u = some v → W p l e rm_X0_iron s m args below meth c H locs 0 0 Q (F0 m 86 ls [])) (n : Nat) (u : StB) (H : Heap) (locs : List Loc) (x1 : Int32) (x2 : Int32) (x3 : Int32) (x4 : Int32) (ls : Array Slot), va_P D vwCl (wB cA a u) H → va_S (inB a) s.heap H locs → lv_has ls 6 [(0, .ref (a 0)), (1, .int x1), (2, .int x2), (3, .int x3), (4, .int x4)] → B_X0_iron_17 k86 n u x1 x2 x3 x4 = some v → W p l e rm_X0_iron s m args below meth c H locs 0 0 Q (F0 m 17 ls []) := by
    intro k86 hk86 n
    induction n with
    | zero => intro u H locs x1 x2 x3 x4 ls hP hS hl hv; exact absurd hv (by intro h; cases h)
    | succ n hk17 =>
      intro u H locs x1 x2 x3 x4 ls hP hS hl hv
      rw [B_X0_iron_17] at hv
      refine lv_iload hx hb dX0_iron_17 (lv_at hl 4 rfl) ?_
      refine lv_if_lt (tgt := 86) hx hb dX0_iron_19 (by decide) (fun c203 => ?_) (fun c203 => ?_)
      · have hv := o_pos hv c203
        exact hk86 _ _ _  ls hP hS (lv_sub hl [] rfl) hv
      · have hv := o_neg hv c203
        refine lv_iload hx hb dX0_iron_22 (lv_at hl 4 rfl) ?_
        refine lv_iload_n hx hb dX0_iron_24 rfl (lv_at hl 1 rfl) ?_
        refine lv_icmp_ge (tgt := 64) hx hb dX0_iron_25 (by decide) (fun c204 => ?_) (fun c204 => ?_)
        · have hv := o_pos hv c204
          exact hB64 _ hk17 _ hk86 _ _ _ _ _ _ _  ls hP hS (lv_sub hl [0, 1, 2, 3, 4] rfl) hv
        · have hv := o_neg hv c204
          refine lv_aload_n hx hb dX0_iron_28 rfl (lv_at hl 0 rfl) ?_
          refine lv_iload_n hx hb dX0_iron_29 rfl (lv_at hl 1 rfl) ?_
          obtain ⟨r205, e205, hv⟩ := o_bind hv
          refine rcall_i (W.runV (As := [.int x1]) (rest := []) hC (c_X0_nextCorner l D cA a u x1 r205 e205) (cwV 1 hts gX0_iron_X0_nextCorner rfl rfl rfl (by decide +kernel) ⟨Nat.le_of_ble_eq_true rfl, Nat.le_of_ble_eq_true rfl⟩) ⟨roB_blind, va_recv (ci := 0) (q0 := 0) hK hP rfl rfl, roB_pre hK hZ (hws_1 hP)⟩ rfl rfl hl.1 rfl (lv_room (Nat.le_of_ble_eq_true rfl)) dX0_iron_30 ⟨Nat.le_of_ble_eq_true rfl, Nat.le_of_ble_eq_true rfl⟩) ?_
          refine lv_istore (lv' := [(5, .int r205), (0, .ref (a 0)), (1, .int x1), (2, .int x2), (3, .int x3), (4, .int x4)]) hx hb dX0_iron_33 hl (by decide) rfl (fun ls hl => ?_)
          refine lv_aload_n hx hb dX0_iron_35 rfl (lv_at hl 1 rfl) ?_
          refine lv_iload hx hb dX0_iron_36 (lv_at hl 0 rfl) ?_
          obtain ⟨r206, e206, hv⟩ := o_bind hv
          refine rcall_i (W.runV (As := [.int r205]) (rest := []) hC (c_X0_takeAt l D cA a u r205 r206 e206) (cwV 1 hts gX0_iron_X0_takeAt rfl rfl rfl (by decide +kernel) ⟨Nat.le_of_ble_eq_true rfl, Nat.le_of_ble_eq_true rfl⟩) ⟨roB_blind, va_recv (ci := 0) (q0 := 0) hK hP rfl rfl, roB_pre hK hZ (hws_1 hP)⟩ rfl rfl hl.1 rfl (lv_room (Nat.le_of_ble_eq_true rfl)) dX0_iron_38 ⟨Nat.le_of_ble_eq_true rfl, Nat.le_of_ble_eq_true rfl⟩) ?_
          refine lv_aload_n hx hb dX0_iron_41 rfl (lv_at hl 1 rfl) ?_
          refine lv_iload_n hx hb dX0_iron_42 rfl (lv_at hl 2 rfl) ?_
          obtain ⟨r207, e207, hv⟩ := o_bind hv
          refine rcall_i (W.runV (As := [.int x1]) (rest := [.int r206]) hC (c_X0_takeAt l D cA a u x1 r207 e207) (cwV 1 hts gX0_iron_X0_takeAt rfl rfl rfl (by decide +kernel) ⟨Nat.le_of_ble_eq_true rfl, Nat.le_of_ble_eq_true rfl⟩) ⟨roB_blind, va_recv (ci := 0) (q0 := 0) hK hP rfl rfl, roB_pre hK hZ (hws_1 hP)⟩ rfl rfl hl.1 rfl (lv_room (Nat.le_of_ble_eq_true rfl)) dX0_iron_43 ⟨Nat.le_of_ble_eq_true rfl, Nat.le_of_ble_eq_true rfl⟩) ?_
          refine lv_isub hx hb dX0_iron_46 ?_
          refine lv_istore_n (lv' := [(2, .int (r206 - r207)), (5, .int r205), (0, .ref (a 0)), (1, .int x1), (3, .int x3), (4, .int x4)]) hx hb dX0_iron_47 rfl hl (by decide) rfl (fun ls hl => ?_)
          refine lv_aload_n hx hb dX0_iron_48 rfl (lv_at hl 2 rfl) ?_
          refine lv_iload hx hb dX0_iron_49 (lv_at hl 1 rfl) ?_
          obtain ⟨r208, e208, hv⟩ := o_bind hv
          refine rcall_i (W.runV (As := [.int r205]) (rest := []) hC (c_X0_shareAt l D cA a u r205 r208 e208) (cwV 1 hts gX0_iron_X0_shareAt rfl rfl rfl (by decide +kernel) ⟨Nat.le_of_ble_eq_true rfl, Nat.le_of_ble_eq_true rfl⟩) ⟨roB_blind, va_recv (ci := 0) (q0 := 0) hK hP rfl rfl, roB_pre hK hZ (hws_1 hP)⟩ rfl rfl hl.1 rfl (lv_room (Nat.le_of_ble_eq_true rfl)) dX0_iron_51 ⟨Nat.le_of_ble_eq_true rfl, Nat.le_of_ble_eq_true rfl⟩) ?_
          refine lv_aload_n hx hb dX0_iron_54 rfl (lv_at hl 2 rfl) ?_
          refine lv_iload_n hx hb dX0_iron_55 rfl (lv_at hl 3 rfl) ?_
          obtain ⟨r209, e209, hv⟩ := o_bind hv
          refine rcall_i (W.runV (As := [.int x1]) (rest := [.int r208]) hC (c_X0_shareAt l D cA a u x1 r209 e209) (cwV 1 hts gX0_iron_X0_shareAt rfl rfl rfl (by decide +kernel) ⟨Nat.le_of_ble_eq_true rfl, Nat.le_of_ble_eq_true rfl⟩) ⟨roB_blind, va_recv (ci := 0) (q0 := 0) hK hP rfl rfl, roB_pre hK hZ (hws_1 hP)⟩ rfl rfl hl.1 rfl (lv_room (Nat.le_of_ble_eq_true rfl)) dX0_iron_56 ⟨Nat.le_of_ble_eq_true rfl, Nat.le_of_ble_eq_true rfl⟩) ?_
          refine lv_isub hx hb dX0_iron_59 ?_
          refine lv_istore_n (lv' := [(3, .int (r208 - r209)), (2, .int (r206 - r207)), (5, .int r205), (0, .ref (a 0)), (1, .int x1), (4, .int x4)]) hx hb dX0_iron_60 rfl hl (by decide) rfl (fun ls hl => ?_)
          refine lv_iload hx hb dX0_iron_61 (lv_at hl 2 rfl) ?_
          refine lv_istore_n (lv' := [(1, .int r205), (3, .int (r208 - r209)), (2, .int (r206 - r207)), (5, .int r205), (0, .ref (a 0)), (4, .int x4)]) hx hb dX0_iron_63 rfl hl (by decide) rfl (fun ls hl => ?_)
          exact hB64 _ hk17 _ hk86 _ _ _ _ _ _ _  ls hP hS (lv_sub hl [4, 0, 2, 1, 5] rfl) hv
  unfold f_X0_iron at hv
  skip
  refine lv_aload_n hx hb dX0_iron_0 rfl (lv_at hl 0 rfl) ?_
  refine gtX0_size hx hb hts hinX0 hown hK hP (by decide +kernel) dX0_iron_1 ?_
  refine lv_istore_n (lv' := [(1, .int (b_size u)), (0, .ref (a 0))]) hx hb dX0_iron_4 rfl hl (by decide) rfl (fun ls hl => ?_)
  refine lv_iconst (v := 0) hx hb dX0_iron_5 (by decide) ?_
  refine lv_istore_n (lv' := [(2, .int (0 : Int32)), (1, .int (b_size u)), (0, .ref (a 0))]) hx hb dX0_iron_6 rfl hl (by decide) rfl (fun ls hl => ?_)
  refine lv_iconst (v := 1) hx hb dX0_iron_7 (by decide) ?_
  refine lv_istore_n (lv' := [(3, .int (1 : Int32)), (2, .int (0 : Int32)), (1, .int (b_size u)), (0, .ref (a 0))]) hx hb dX0_iron_8 rfl hl (by decide) rfl (fun ls hl => ?_)
  refine lv_aload_n hx hb dX0_iron_9 rfl (lv_at hl 3 rfl) ?_
  refine gtX0_size hx hb hts hinX0 hown hK hP (by decide +kernel) dX0_iron_10 ?_
  refine lv_iconst (v := 1) hx hb dX0_iron_13 (by decide) ?_
  refine lv_isub hx hb dX0_iron_14 ?_
  refine lv_istore (lv' := [(4, .int ((b_size u) - (1 : Int32))), (3, .int (1 : Int32)), (2, .int (0 : Int32)), (1, .int (b_size u)), (0, .ref (a 0))]) hx hb dX0_iron_15 hl (by decide) rfl (fun ls hl => ?_)
  refine hB17 _ (fun z310_u H locs ls hP hS hl hv => ?_) 1000 _ _ _ _ _ _ _ ls hP hS (lv_sub hl [4, 3, 2, 1, 0] rfl) hv
  · skip
    exact fin hP hS dX0_iron_86 hv
abbrev rm_X0_begin : Room := { frames := 5, cells := 0, slots := 0, locals := 121 }
set_option maxHeartbeats 4000000 in
set_option maxRecDepth 100000 in
theorem c_X0_begin (l : Launch) (D : va_G) (cA : ClassId) (a : Nat → Nat) (u : StB) (x1 : Int32) (x2 : Int32) (v : StB) (hv : f_X0_begin u x1 x2 = some v) (hd : djB a) : Met l yX0_begin wsX0_begin rm_X0_begin (va_Pc [.ref (a 0), .int x1, .int x2] (roB D cA [wB cA a u])) (va_Qv (fun (u1 : StB) => u1 = v) (fun (u1 : StB) t => va_P D vwCl (wB cA a u1) t.heap) (inB a)) 0 0 (inB a) := by
  refine wr_v (wf := fun u => wB cA a u) (cc := cX0_begin) (maxL := 3) (own := RX0) (by decide) rfl rfl (Nat.le_of_ble_eq_true rfl) ?_
  intro p e s m args below meth c Q ls hC hK hZ hws hl fin
  obtain ⟨hx, hb, hml, hown, hts⟩ := id hC
  have hl : lv_has ls 3 [(0, .ref (a 0)), (1, .int x1), (2, .int x2)] := hl
  have hP : va_P D vwCl (wB cA a u) s.heap := hws _ (List.mem_of_getElem? (i := 0) rfl)
  have hinX0 : ∀ w ∈ wsX00, w ∈ wsX0_begin := fun w h => List.mem_cons_of_mem _ (List.mem_append_right _ h)
  have hS : va_S (inB a) s.heap s.heap [] := va_S.rf
  unfold f_X0_begin at hv
  skip
  refine lv_aload_n hx hb dX0_begin_0 rfl (lv_at hl 0 rfl) ?_
  refine gtX0_worths hx hb hts hinX0 hown hK hP (by decide +kernel) dX0_begin_1 ?_
  refine lv_iconst (v := 0) hx hb dX0_begin_4 (by decide) ?_
  refine lv_iload_n hx hb dX0_begin_5 rfl (lv_at hl 1 rfl) ?_
  obtain ⟨g101, hv⟩ := o_grd hv
  refine asX0_worths hx hb hK hP (dB hd _) hS g101 dX0_begin_6 (fun H locs hP hS => ?_)
  refine lv_aload_n hx hb dX0_begin_7 rfl (lv_at hl 0 rfl) ?_
  refine gtX0_weights hx hb hts hinX0 hown hK hP (by decide +kernel) dX0_begin_8 ?_
  refine lv_iconst (v := 0) hx hb dX0_begin_11 (by decide) ?_
  refine lv_iload_n hx hb dX0_begin_12 rfl (lv_at hl 2 rfl) ?_
  obtain ⟨g102, hv⟩ := o_grd hv
  refine asX0_weights hx hb hK hP (dB hd _) hS g102 dX0_begin_13 (fun H locs hP hS => ?_)
  refine lv_aload_n hx hb dX0_begin_14 rfl (lv_at hl 0 rfl) ?_
  refine lv_iconst (v := 1) hx hb dX0_begin_15 (by decide) ?_
  refine ptX0_size hx hb hts hinX0 hown hK hP (dB hd _) hS (by decide +kernel) dX0_begin_16 (fun H locs hP hS => ?_)
  refine lv_aload_n hx hb dX0_begin_19 rfl (lv_at hl 0 rfl) ?_
  obtain ⟨w103, e103, hv⟩ := o_bind hv
  refine wcall_v (va_runV (As := []) (rest := []) hC (c_X0_iron l D cA a (b_set_size (b_set_weights (b_set_worths u (upd (b_worths u) (0 : Int32).toNatClampNeg x1)) (upd (b_weights (b_set_worths u (upd (b_worths u) (0 : Int32).toNatClampNeg x1))) (0 : Int32).toNatClampNeg x2)) (1 : Int32)) w103 e103 hd) (cwV 0 hts gX0_begin_X0_iron rfl rfl rfl (by decide +kernel) ⟨Nat.le_of_ble_eq_true rfl, Nat.le_of_ble_eq_true rfl⟩) ⟨roB_blind, va_recv (ci := 0) (q0 := 0) hK hP rfl rfl, roB_pre hK hZ (hws_1 hP)⟩ rfl rfl hl.1 rfl (lv_room (Nat.le_of_ble_eq_true rfl)) dX0_begin_20 ⟨Nat.le_of_ble_eq_true rfl, Nat.le_of_ble_eq_true rfl⟩) hS (fun _ h => h) (fun H locs hP1 hk1 hS => ?_)
  have hP := hP1
  exact fin hP hS dX0_begin_23 hv
abbrev rm_X1_buyers : Room := { frames := 6, cells := 0, slots := 0, locals := 143 }
set_option maxHeartbeats 4000000 in
set_option maxRecDepth 100000 in
theorem c_X1_buyers (l : Launch) (D : va_G) (cA : ClassId) (a : Nat → Nat) (u : StS) (x1 : Int32) (v : Int32 × StS) (hv : f_X1_buyers u x1 = some v) (hd : djS a) : Met l yX1_buyers wsX1_buyers rm_X1_buyers (va_Pc [.ref (a 0), .int x1] (roB D cA [wS cA a u])) (va_Qi (fun (r : Int32) (u1 : StS) => (r, u1) = v) (fun (u1 : StS) t => va_P D vwCl (wS cA a u1) t.heap) (inS a)) 0 0 (inS a) := by
  refine wr_i (wf := fun u => wS cA a u) (cc := cX1_buyers) (maxL := 3) (own := RX1) (by decide) rfl rfl (Nat.le_of_ble_eq_true rfl) ?_
  intro p e s m args below meth c Q ls hC hK hZ hws hl fin
  obtain ⟨hx, hb, hml, hown, hts⟩ := id hC
  have hl : lv_has ls 3 [(0, .ref (a 0)), (1, .int x1)] := hl
  have hP : va_P D vwCl (wS cA a u) s.heap := hws _ (List.mem_of_getElem? (i := 0) rfl)
  have hinX0 : ∀ w ∈ wsX00, w ∈ wsX1_buyers := fun w h => List.mem_cons_of_mem _ (List.mem_append_right _ h)
  have hinX1 : ∀ w ∈ wsX10, w ∈ wsX1_buyers := fun w h => List.mem_cons_of_mem _ (List.mem_append_left _ (List.mem_append_right _ h))
  have hS : va_S (inS a) s.heap s.heap [] := va_S.rf
  unfold f_X1_buyers at hv
  skip
  refine lv_iload_n hx hb dX1_buyers_0 rfl (lv_at hl 1 rfl) ?_
  refine lv_iconst (v := 1) hx hb dX1_buyers_1 (by decide) ?_
  refine lv_icmp_lt (tgt := 10) hx hb dX1_buyers_2 (by decide) (fun c101 => ?_) (fun c101 => ?_)
  · have hv := o_pos hv c101
    refine lv_iconst (v := -1) hx hb dX1_buyers_10 (by decide) ?_
    exact fin hP hS dX1_buyers_11 hv
  · have hv := o_neg hv c101
    refine lv_iload_n hx hb dX1_buyers_5 rfl (lv_at hl 1 rfl) ?_
    refine lv_iconst (v := 3) hx hb dX1_buyers_6 (by decide) ?_
    refine lv_icmp_le (tgt := 12) hx hb dX1_buyers_7 (by decide) (fun c102 => ?_) (fun c102 => ?_)
    · have hv := o_pos hv c102
      refine lv_aload_n hx hb dX1_buyers_12 rfl (lv_at hl 0 rfl) ?_
      refine gtX1_buyerCount hx hb hts hinX1 hown hK hP (by decide +kernel) dX1_buyers_13 ?_
      refine lv_istore_n (lv' := [(2, .int (s_buyerCount u)), (0, .ref (a 0)), (1, .int x1)]) hx hb dX1_buyers_16 rfl hl (by decide) rfl (fun ls hl => ?_)
      refine lv_aload_n hx hb dX1_buyers_17 rfl (lv_at hl 1 rfl) ?_
      refine lv_iload_n hx hb dX1_buyers_18 rfl (lv_at hl 2 rfl) ?_
      refine ptX1_buyerCount hx hb hts hinX1 hown hK hP (dS hd _) hS (by decide +kernel) dX1_buyers_19 (fun H locs hP hS => ?_)
      refine lv_aload_n hx hb dX1_buyers_22 rfl (lv_at hl 1 rfl) ?_
      refine gtX1_book0 hx hb hts hinX1 hown hK hP (by decide +kernel) dX1_buyers_23 ?_
      refine lv_iconst (v := 0) hx hb dX1_buyers_26 (by decide) ?_
      refine lv_iconst (v := 1) hx hb dX1_buyers_27 (by decide) ?_
      obtain ⟨w103, e103, hv⟩ := o_bind hv
      refine wcall_v (va_runV (As := [.int (0 : Int32), .int (1 : Int32)]) (rest := []) hC (c_X0_begin l D cA (bx a 0) (bk (s_set_buyerCount u x1) 0) (0 : Int32) (1 : Int32) w103 e103 (djS_bk hd 0)) (cwV 2 hts gX1_buyers_X0_begin rfl rfl rfl (by decide +kernel) ⟨Nat.le_of_ble_eq_true rfl, Nat.le_of_ble_eq_true rfl⟩) ⟨roB_blind, va_recv (ci := 0) (q0 := 0) hK (wS_bk hP 0) rfl rfl, roB_pre hK hZ (hws_1 (wS_bk hP 0))⟩ rfl rfl hl.1 rfl (lv_room (Nat.le_of_ble_eq_true rfl)) dX1_buyers_28 ⟨Nat.le_of_ble_eq_true rfl, Nat.le_of_ble_eq_true rfl⟩) hS (inB_S 0) (fun H locs hP1 hk1 hS => ?_)
      have hP := wS_back hd 0 hP hk1 hP1
      refine lv_aload_n hx hb dX1_buyers_31 rfl (lv_at hl 1 rfl) ?_
      refine gtX1_book1 hx hb hts hinX1 hown hK hP (by decide +kernel) dX1_buyers_32 ?_
      refine lv_iconst (v := 0) hx hb dX1_buyers_35 (by decide) ?_
      refine lv_iconst (v := 1) hx hb dX1_buyers_36 (by decide) ?_
      obtain ⟨w104, e104, hv⟩ := o_bind hv
      refine wcall_v (va_runV (As := [.int (0 : Int32), .int (1 : Int32)]) (rest := []) hC (c_X0_begin l D cA (bx a 1) (bk (setbk (s_set_buyerCount u x1) 0 w103) 1) (0 : Int32) (1 : Int32) w104 e104 (djS_bk hd 1)) (cwV 2 hts gX1_buyers_X0_begin rfl rfl rfl (by decide +kernel) ⟨Nat.le_of_ble_eq_true rfl, Nat.le_of_ble_eq_true rfl⟩) ⟨roB_blind, va_recv (ci := 0) (q0 := 0) hK (wS_bk hP 1) rfl rfl, roB_pre hK hZ (hws_1 (wS_bk hP 1))⟩ rfl rfl hl.1 rfl (lv_room (Nat.le_of_ble_eq_true rfl)) dX1_buyers_37 ⟨Nat.le_of_ble_eq_true rfl, Nat.le_of_ble_eq_true rfl⟩) hS (inB_S 1) (fun H locs hP1 hk1 hS => ?_)
      have hP := wS_back hd 1 hP hk1 hP1
      refine lv_aload_n hx hb dX1_buyers_40 rfl (lv_at hl 1 rfl) ?_
      refine gtX1_book2 hx hb hts hinX1 hown hK hP (by decide +kernel) dX1_buyers_41 ?_
      refine lv_iconst (v := 0) hx hb dX1_buyers_44 (by decide) ?_
      refine lv_iconst (v := 1) hx hb dX1_buyers_45 (by decide) ?_
      obtain ⟨w105, e105, hv⟩ := o_bind hv
      refine wcall_v (va_runV (As := [.int (0 : Int32), .int (1 : Int32)]) (rest := []) hC (c_X0_begin l D cA (bx a 2) (bk (setbk (setbk (s_set_buyerCount u x1) 0 w103) 1 w104) 2) (0 : Int32) (1 : Int32) w105 e105 (djS_bk hd 2)) (cwV 2 hts gX1_buyers_X0_begin rfl rfl rfl (by decide +kernel) ⟨Nat.le_of_ble_eq_true rfl, Nat.le_of_ble_eq_true rfl⟩) ⟨roB_blind, va_recv (ci := 0) (q0 := 0) hK (wS_bk hP 2) rfl rfl, roB_pre hK hZ (hws_1 (wS_bk hP 2))⟩ rfl rfl hl.1 rfl (lv_room (Nat.le_of_ble_eq_true rfl)) dX1_buyers_46 ⟨Nat.le_of_ble_eq_true rfl, Nat.le_of_ble_eq_true rfl⟩) hS (inB_S 2) (fun H locs hP1 hk1 hS => ?_)
      have hP := wS_back hd 2 hP hk1 hP1
      refine lv_iload_n hx hb dX1_buyers_49 rfl (lv_at hl 0 rfl) ?_
      exact fin hP hS dX1_buyers_50 hv
    · have hv := o_neg hv c102
      refine lv_iconst (v := -1) hx hb dX1_buyers_10 (by decide) ?_
      exact fin hP hS dX1_buyers_11 hv
abbrev rm_X1_isBuyer : Room := { frames := 0, cells := 0, slots := 0, locals := 0 }
set_option maxHeartbeats 4000000 in
set_option maxRecDepth 100000 in
theorem c_X1_isBuyer (l : Launch) (D : va_G) (cA : ClassId) (a : Nat → Nat) (u : StS) (x1 : Int32) (v : Int32) (hv : f_X1_isBuyer u x1 = some v)  : Met l yX1_isBuyer wsX1_isBuyer rm_X1_isBuyer (va_Pc [.ref (a 0), .int x1] (roB D cA [wS cA a u])) (vp_Si (fun r => r = v)) 0 0 (fun _ => False) := by
  refine ro_z (cc := cX1_isBuyer) (maxL := 2) (own := RX1) (by decide) rfl rfl (Nat.le_of_ble_eq_true rfl) ?_
  intro p e s m args below meth c Q ls hC hK hZ hws hl fin
  obtain ⟨hx, hb, hml, hown, hts⟩ := id hC
  have hl : lv_has ls 2 [(0, .ref (a 0)), (1, .int x1)] := hl
  have hP : va_P D vwCl (wS cA a u) s.heap := hws _ (List.mem_of_getElem? (i := 0) rfl)
  have hinX1 : ∀ w ∈ wsX10, w ∈ wsX1_isBuyer := fun w h => List.mem_cons_of_mem _ (List.mem_append_right _ h)
  unfold f_X1_isBuyer at hv
  refine lv_iload_n hx hb dX1_isBuyer_0 rfl (lv_at hl 1 rfl) ?_
  refine lv_if_lt (tgt := 16) hx hb dX1_isBuyer_1 (by decide) (fun c101 => ?_) (fun c101 => ?_)
  · have hv := o_pos hv c101
    refine lv_iconst (v := 0) hx hb dX1_isBuyer_16 (by decide) ?_
    exact fin dX1_isBuyer_17 rfl hv
  · have hv := o_neg hv c101
    refine lv_iload_n hx hb dX1_isBuyer_4 rfl (lv_at hl 1 rfl) ?_
    refine lv_aload_n hx hb dX1_isBuyer_5 rfl (lv_at hl 0 rfl) ?_
    refine gtX1_buyerCount hx hb hts hinX1 hown hK hP (by decide +kernel) dX1_isBuyer_6 ?_
    refine lv_icmp_ge (tgt := 16) hx hb dX1_isBuyer_9 (by decide) (fun c102 => ?_) (fun c102 => ?_)
    · have hv := o_pos hv c102
      refine lv_iconst (v := 0) hx hb dX1_isBuyer_16 (by decide) ?_
      exact fin dX1_isBuyer_17 rfl hv
    · have hv := o_neg hv c102
      refine lv_iconst (v := 1) hx hb dX1_isBuyer_12 (by decide) ?_
      refine lv_goto (tgt := 17) hx hb dX1_isBuyer_13 (by decide) ?_
      exact fin dX1_isBuyer_17 rfl hv
abbrev rm_X1_isWorth : Room := { frames := 0, cells := 0, slots := 0, locals := 0 }
set_option maxHeartbeats 4000000 in
set_option maxRecDepth 100000 in
theorem c_X1_isWorth (l : Launch) (D : va_G) (cA : ClassId) (x0 : Int32) (v : Int32) (hv : f_X1_isWorth x0 = some v)  : Met l yX1_isWorth wsX1_isWorth rm_X1_isWorth (va_Pc [.int x0] (roB D cA [])) (vp_Si (fun r => r = v)) 0 0 (fun _ => False) := by
  refine ro_z (cc := cX1_isWorth) (maxL := 1) (own := RX1) (by decide) rfl rfl (Nat.le_of_ble_eq_true rfl) ?_
  intro p e s m args below meth c Q ls hC hK hZ hws hl fin
  obtain ⟨hx, hb, hml, hown, hts⟩ := id hC
  have hl : lv_has ls 1 [(0, .int x0)] := hl
  unfold f_X1_isWorth at hv
  refine lv_iload_n hx hb dX1_isWorth_0 rfl (lv_at hl 0 rfl) ?_
  refine lv_if_lt (tgt := 15) hx hb dX1_isWorth_1 (by decide) (fun c101 => ?_) (fun c101 => ?_)
  · have hv := o_pos hv c101
    refine lv_iconst (v := 0) hx hb dX1_isWorth_15 (by decide) ?_
    exact fin dX1_isWorth_16 rfl hv
  · have hv := o_neg hv c101
    refine lv_iload_n hx hb dX1_isWorth_4 rfl (lv_at hl 0 rfl) ?_
    refine lv_sipush (v := 1000) hx hb dX1_isWorth_5 (by decide) ?_
    refine lv_icmp_gt (tgt := 15) hx hb dX1_isWorth_8 (by decide) (fun c102 => ?_) (fun c102 => ?_)
    · have hv := o_pos hv c102
      refine lv_iconst (v := 0) hx hb dX1_isWorth_15 (by decide) ?_
      exact fin dX1_isWorth_16 rfl hv
    · have hv := o_neg hv c102
      refine lv_iconst (v := 1) hx hb dX1_isWorth_11 (by decide) ?_
      refine lv_goto (tgt := 16) hx hb dX1_isWorth_12 (by decide) ?_
      exact fin dX1_isWorth_16 rfl hv
abbrev rm_X1_isWeight : Room := { frames := 0, cells := 0, slots := 0, locals := 0 }
set_option maxHeartbeats 4000000 in
set_option maxRecDepth 100000 in
theorem c_X1_isWeight (l : Launch) (D : va_G) (cA : ClassId) (x0 : Int32) (v : Int32) (hv : f_X1_isWeight x0 = some v)  : Met l yX1_isWeight wsX1_isWeight rm_X1_isWeight (va_Pc [.int x0] (roB D cA [])) (vp_Si (fun r => r = v)) 0 0 (fun _ => False) := by
  refine ro_z (cc := cX1_isWeight) (maxL := 1) (own := RX1) (by decide) rfl rfl (Nat.le_of_ble_eq_true rfl) ?_
  intro p e s m args below meth c Q ls hC hK hZ hws hl fin
  obtain ⟨hx, hb, hml, hown, hts⟩ := id hC
  have hl : lv_has ls 1 [(0, .int x0)] := hl
  unfold f_X1_isWeight at hv
  refine lv_iload_n hx hb dX1_isWeight_0 rfl (lv_at hl 0 rfl) ?_
  refine lv_iconst (v := 1) hx hb dX1_isWeight_1 (by decide) ?_
  refine lv_icmp_lt (tgt := 15) hx hb dX1_isWeight_2 (by decide) (fun c101 => ?_) (fun c101 => ?_)
  · have hv := o_pos hv c101
    refine lv_iconst (v := 0) hx hb dX1_isWeight_15 (by decide) ?_
    exact fin dX1_isWeight_16 rfl hv
  · have hv := o_neg hv c101
    refine lv_iload_n hx hb dX1_isWeight_5 rfl (lv_at hl 0 rfl) ?_
    refine lv_bipush (v := 9) hx hb dX1_isWeight_6 (by decide) ?_
    refine lv_icmp_gt (tgt := 15) hx hb dX1_isWeight_8 (by decide) (fun c102 => ?_) (fun c102 => ?_)
    · have hv := o_pos hv c102
      refine lv_iconst (v := 0) hx hb dX1_isWeight_15 (by decide) ?_
      exact fin dX1_isWeight_16 rfl hv
    · have hv := o_neg hv c102
      refine lv_iconst (v := 1) hx hb dX1_isWeight_11 (by decide) ?_
      refine lv_goto (tgt := 16) hx hb dX1_isWeight_12 (by decide) ?_
      exact fin dX1_isWeight_16 rfl hv
abbrev rm_X1_bookOf : Room := { frames := 0, cells := 0, slots := 0, locals := 0 }
set_option maxHeartbeats 4000000 in
set_option maxRecDepth 100000 in
theorem c_X1_bookOf (l : Launch) (D : va_G) (cA : ClassId) (a : Nat → Nat) (u : StS) (x1 : Int32) (v : Nat) (hv : f_X1_bookOf u x1 = some v)  : Met l yX1_bookOf wsX1_bookOf rm_X1_bookOf (va_Pc [.ref (a 0), .int x1] (roB D cA [wS cA a u])) (va_Sr (fun k => k = v) (fun k => .ref (bx a k 0))) 0 0 (fun _ => False) := by
  refine ro_r (cc := cX1_bookOf) (maxL := 2) (own := RX1) (by decide) rfl rfl (Nat.le_of_ble_eq_true rfl) ?_
  intro p e s m args below meth c Q ls hC hK hZ hws hl fin
  obtain ⟨hx, hb, hml, hown, hts⟩ := id hC
  have hl : lv_has ls 2 [(0, .ref (a 0)), (1, .int x1)] := hl
  have hP : va_P D vwCl (wS cA a u) s.heap := hws _ (List.mem_of_getElem? (i := 0) rfl)
  have hinX1 : ∀ w ∈ wsX10, w ∈ wsX1_bookOf := fun w h => List.mem_cons_of_mem _ (List.mem_append_right _ h)
  unfold f_X1_bookOf at hv
  refine lv_iload_n hx hb dX1_bookOf_0 rfl (lv_at hl 1 rfl) ?_
  refine lv_if_ne (tgt := 11) hx hb dX1_bookOf_1 (by decide) (fun c101 => ?_) (fun c101 => ?_)
  · have hv := o_neg hv c101
    refine lv_iload_n hx hb dX1_bookOf_11 rfl (lv_at hl 1 rfl) ?_
    refine lv_iconst (v := 1) hx hb dX1_bookOf_12 (by decide) ?_
    refine lv_icmp_ne (tgt := 23) hx hb dX1_bookOf_13 (by decide) (fun c102 => ?_) (fun c102 => ?_)
    · have hv := o_neg hv c102
      refine lv_aload_n hx hb dX1_bookOf_23 rfl (lv_at hl 0 rfl) ?_
      refine gtX1_book2 hx hb hts hinX1 hown hK hP (by decide +kernel) dX1_bookOf_24 ?_
      exact fin dX1_bookOf_27 hv
    · have hv := o_pos hv c102
      refine lv_aload_n hx hb dX1_bookOf_16 rfl (lv_at hl 0 rfl) ?_
      refine gtX1_book1 hx hb hts hinX1 hown hK hP (by decide +kernel) dX1_bookOf_17 ?_
      refine lv_goto (tgt := 27) hx hb dX1_bookOf_20 (by decide) ?_
      exact fin dX1_bookOf_27 hv
  · have hv := o_pos hv c101
    refine lv_aload_n hx hb dX1_bookOf_4 rfl (lv_at hl 0 rfl) ?_
    refine gtX1_book0 hx hb hts hinX1 hown hK hP (by decide +kernel) dX1_bookOf_5 ?_
    refine lv_goto (tgt := 27) hx hb dX1_bookOf_8 (by decide) ?_
    exact fin dX1_bookOf_27 hv
abbrev rm_X1_book : Room := { frames := 6, cells := 0, slots := 0, locals := 143 }
set_option maxHeartbeats 4000000 in
set_option maxRecDepth 100000 in
theorem c_X1_book (l : Launch) (D : va_G) (cA : ClassId) (a : Nat → Nat) (u : StS) (x1 : Int32) (x2 : Int32) (x3 : Int32) (v : Int32 × StS) (hv : f_X1_book u x1 x2 x3 = some v) (hd : djS a) : Met l yX1_book wsX1_book rm_X1_book (va_Pc [.ref (a 0), .int x1, .int x2, .int x3] (roB D cA [wS cA a u])) (va_Qi (fun (r : Int32) (u1 : StS) => (r, u1) = v) (fun (u1 : StS) t => va_P D vwCl (wS cA a u1) t.heap) (inS a)) 0 0 (inS a) := by
  refine wr_i (wf := fun u => wS cA a u) (cc := cX1_book) (maxL := 5) (own := RX1) (by decide) rfl rfl (Nat.le_of_ble_eq_true rfl) ?_
  intro p e s m args below meth c Q ls hC hK hZ hws hl fin
  obtain ⟨hx, hb, hml, hown, hts⟩ := id hC
  have hl : lv_has ls 5 [(0, .ref (a 0)), (1, .int x1), (2, .int x2), (3, .int x3)] := hl
  have hP : va_P D vwCl (wS cA a u) s.heap := hws _ (List.mem_of_getElem? (i := 0) rfl)
  have hinX0 : ∀ w ∈ wsX00, w ∈ wsX1_book := fun w h => List.mem_cons_of_mem _ (List.mem_append_left _ (List.mem_append_right _ h))
  have hinX1 : ∀ w ∈ wsX10, w ∈ wsX1_book := fun w h => List.mem_cons_of_mem _ (List.mem_append_right _ h)
  have hS : va_S (inS a) s.heap s.heap [] := va_S.rf
  unfold f_X1_book at hv
  skip
  refine lv_aload_n hx hb dX1_book_0 rfl (lv_at hl 0 rfl) ?_
  refine lv_iload_n hx hb dX1_book_1 rfl (lv_at hl 1 rfl) ?_
  obtain ⟨r101, e101, hv⟩ := o_bind hv
  refine rcall_i (W.runV (As := [.int x1]) (rest := []) hC (c_X1_isBuyer l D cA a u x1 r101 e101) (cwV 1 hts gX1_book_X1_isBuyer rfl rfl rfl (by decide +kernel) ⟨Nat.le_of_ble_eq_true rfl, Nat.le_of_ble_eq_true rfl⟩) ⟨roB_blind, va_recv (ci := 1) (q0 := 0) hK hP rfl rfl, roB_pre hK hZ (hws_1 hP)⟩ rfl rfl hl.1 rfl (lv_room (Nat.le_of_ble_eq_true rfl)) dX1_book_2 ⟨Nat.le_of_ble_eq_true rfl, Nat.le_of_ble_eq_true rfl⟩) ?_
  refine lv_if_eq (tgt := 22) hx hb dX1_book_5 (by decide) (fun c102 => ?_) (fun c102 => ?_)
  · have hv := o_pos hv c102
    refine lv_iconst (v := -1) hx hb dX1_book_22 (by decide) ?_
    exact fin hP hS dX1_book_23 hv
  · have hv := o_neg hv c102
    refine lv_iload_n hx hb dX1_book_8 rfl (lv_at hl 2 rfl) ?_
    obtain ⟨r103, e103, hv⟩ := o_bind hv
    refine rcall_i (W.runS (As := [.int x2]) (rest := []) hC (c_X1_isWorth l D cA x2 r103 e103) (va_cwS 1 hts gX1_book_X1_isWorth rfl rfl rfl (by decide +kernel) ⟨Nat.le_of_ble_eq_true rfl, Nat.le_of_ble_eq_true rfl⟩) ⟨roB_blind, roB_pre hK hZ hws_0⟩ rfl rfl hl.1 rfl (lv_room (Nat.le_of_ble_eq_true rfl)) dX1_book_9 ⟨Nat.le_of_ble_eq_true rfl, Nat.le_of_ble_eq_true rfl⟩) ?_
    refine lv_if_eq (tgt := 22) hx hb dX1_book_12 (by decide) (fun c104 => ?_) (fun c104 => ?_)
    · have hv := o_pos hv c104
      refine lv_iconst (v := -1) hx hb dX1_book_22 (by decide) ?_
      exact fin hP hS dX1_book_23 hv
    · have hv := o_neg hv c104
      refine lv_iload_n hx hb dX1_book_15 rfl (lv_at hl 3 rfl) ?_
      obtain ⟨r105, e105, hv⟩ := o_bind hv
      refine rcall_i (W.runS (As := [.int x3]) (rest := []) hC (c_X1_isWeight l D cA x3 r105 e105) (va_cwS 1 hts gX1_book_X1_isWeight rfl rfl rfl (by decide +kernel) ⟨Nat.le_of_ble_eq_true rfl, Nat.le_of_ble_eq_true rfl⟩) ⟨roB_blind, roB_pre hK hZ hws_0⟩ rfl rfl hl.1 rfl (lv_room (Nat.le_of_ble_eq_true rfl)) dX1_book_16 ⟨Nat.le_of_ble_eq_true rfl, Nat.le_of_ble_eq_true rfl⟩) ?_
      refine lv_if_ne (tgt := 24) hx hb dX1_book_19 (by decide) (fun c106 => ?_) (fun c106 => ?_)
      · have hv := o_neg hv c106
        refine lv_aload_n hx hb dX1_book_24 rfl (lv_at hl 0 rfl) ?_
        refine lv_iload_n hx hb dX1_book_25 rfl (lv_at hl 1 rfl) ?_
        obtain ⟨r107, e107, hv⟩ := o_bind hv
        refine rcall_r (W.runV (As := [.int x1]) (rest := []) hC (c_X1_bookOf l D cA a u x1 r107 e107) (cwV 1 hts gX1_book_X1_bookOf rfl rfl rfl (by decide +kernel) ⟨Nat.le_of_ble_eq_true rfl, Nat.le_of_ble_eq_true rfl⟩) ⟨roB_blind, va_recv (ci := 1) (q0 := 0) hK hP rfl rfl, roB_pre hK hZ (hws_1 hP)⟩ rfl rfl hl.1 rfl (lv_room (Nat.le_of_ble_eq_true rfl)) dX1_book_26 ⟨Nat.le_of_ble_eq_true rfl, Nat.le_of_ble_eq_true rfl⟩) ?_
        refine lv_astore (lv' := [(4, .ref (bx a r107 0)), (0, .ref (a 0)), (1, .int x1), (2, .int x2), (3, .int x3)]) hx hb dX1_book_29 hl (by decide) rfl (fun ls hl => ?_)
        refine lv_aload hx hb dX1_book_31 (lv_at hl 0 rfl) ?_
        refine lv_iload_n hx hb dX1_book_33 rfl (lv_at hl 3 rfl) ?_
        refine lv_iload_n hx hb dX1_book_34 rfl (lv_at hl 4 rfl) ?_
        obtain ⟨w108, e108, hv⟩ := o_bind hv
        refine wcall_v (va_runV (As := [.int x2, .int x3]) (rest := []) hC (c_X0_begin l D cA (bx a r107) (bk u r107) x2 x3 w108 e108 (djS_bk hd r107)) (cwV 2 hts gX1_book_X0_begin rfl rfl rfl (by decide +kernel) ⟨Nat.le_of_ble_eq_true rfl, Nat.le_of_ble_eq_true rfl⟩) ⟨roB_blind, va_recv (ci := 0) (q0 := 0) hK (wS_bk hP r107) rfl rfl, roB_pre hK hZ (hws_1 (wS_bk hP r107))⟩ rfl rfl hl.1 rfl (lv_room (Nat.le_of_ble_eq_true rfl)) dX1_book_35 ⟨Nat.le_of_ble_eq_true rfl, Nat.le_of_ble_eq_true rfl⟩) hS (inB_S r107) (fun H locs hP1 hk1 hS => ?_)
        have hP := wS_back hd r107 hP hk1 hP1
        refine lv_aload hx hb dX1_book_38 (lv_at hl 0 rfl) ?_
        refine gnX0_size hx hb hts hinX0 hown hK hZ (wS_bk hP r107) dX1_book_40 ?_
        exact fin hP hS dX1_book_43 hv
      · have hv := o_pos hv c106
        refine lv_iconst (v := -1) hx hb dX1_book_22 (by decide) ?_
        exact fin hP hS dX1_book_23 hv
abbrev rm_X0_add : Room := { frames := 5, cells := 0, slots := 0, locals := 121 }
set_option maxHeartbeats 4000000 in
set_option maxRecDepth 100000 in
theorem c_X0_add (l : Launch) (D : va_G) (cA : ClassId) (a : Nat → Nat) (u : StB) (x1 : Int32) (x2 : Int32) (v : StB) (hv : f_X0_add u x1 x2 = some v) (hd : djB a) : Met l yX0_add wsX0_add rm_X0_add (va_Pc [.ref (a 0), .int x1, .int x2] (roB D cA [wB cA a u])) (va_Qv (fun (u1 : StB) => u1 = v) (fun (u1 : StB) t => va_P D vwCl (wB cA a u1) t.heap) (inB a)) 0 0 (inB a) := by
  refine wr_v (wf := fun u => wB cA a u) (cc := cX0_add) (maxL := 3) (own := RX0) (by decide) rfl rfl (Nat.le_of_ble_eq_true rfl) ?_
  intro p e s m args below meth c Q ls hC hK hZ hws hl fin
  obtain ⟨hx, hb, hml, hown, hts⟩ := id hC
  have hl : lv_has ls 3 [(0, .ref (a 0)), (1, .int x1), (2, .int x2)] := hl
  have hP : va_P D vwCl (wB cA a u) s.heap := hws _ (List.mem_of_getElem? (i := 0) rfl)
  have hinX0 : ∀ w ∈ wsX00, w ∈ wsX0_add := fun w h => List.mem_cons_of_mem _ (List.mem_append_right _ h)
  have hS : va_S (inB a) s.heap s.heap [] := va_S.rf
  unfold f_X0_add at hv
  skip
  refine lv_aload_n hx hb dX0_add_0 rfl (lv_at hl 0 rfl) ?_
  refine gtX0_size hx hb hts hinX0 hown hK hP (by decide +kernel) dX0_add_1 ?_
  refine lv_iconst (v := 5) hx hb dX0_add_4 (by decide) ?_
  refine lv_icmp_lt (tgt := 9) hx hb dX0_add_5 (by decide) (fun c101 => ?_) (fun c101 => ?_)
  · have hv := o_pos hv c101
    refine lv_aload_n hx hb dX0_add_9 rfl (lv_at hl 0 rfl) ?_
    refine gtX0_worths hx hb hts hinX0 hown hK hP (by decide +kernel) dX0_add_10 ?_
    refine lv_aload_n hx hb dX0_add_13 rfl (lv_at hl 0 rfl) ?_
    refine gtX0_size hx hb hts hinX0 hown hK hP (by decide +kernel) dX0_add_14 ?_
    refine lv_iload_n hx hb dX0_add_17 rfl (lv_at hl 1 rfl) ?_
    obtain ⟨g102, hv⟩ := o_grd hv
    refine asX0_worths hx hb hK hP (dB hd _) hS g102 dX0_add_18 (fun H locs hP hS => ?_)
    refine lv_aload_n hx hb dX0_add_19 rfl (lv_at hl 0 rfl) ?_
    refine gtX0_weights hx hb hts hinX0 hown hK hP (by decide +kernel) dX0_add_20 ?_
    refine lv_aload_n hx hb dX0_add_23 rfl (lv_at hl 0 rfl) ?_
    refine gtX0_size hx hb hts hinX0 hown hK hP (by decide +kernel) dX0_add_24 ?_
    refine lv_iload_n hx hb dX0_add_27 rfl (lv_at hl 2 rfl) ?_
    obtain ⟨g103, hv⟩ := o_grd hv
    refine asX0_weights hx hb hK hP (dB hd _) hS g103 dX0_add_28 (fun H locs hP hS => ?_)
    refine lv_aload_n hx hb dX0_add_29 rfl (lv_at hl 0 rfl) ?_
    refine lv_dup hx hb dX0_add_30 rfl ?_
    refine gtX0_size hx hb hts hinX0 hown hK hP (by decide +kernel) dX0_add_31 ?_
    refine lv_iconst (v := 1) hx hb dX0_add_34 (by decide) ?_
    refine lv_iadd hx hb dX0_add_35 ?_
    refine ptX0_size hx hb hts hinX0 hown hK hP (dB hd _) hS (by decide +kernel) dX0_add_36 (fun H locs hP hS => ?_)
    refine lv_aload_n hx hb dX0_add_39 rfl (lv_at hl 0 rfl) ?_
    obtain ⟨w104, e104, hv⟩ := o_bind hv
    refine wcall_v (va_runV (As := []) (rest := []) hC (c_X0_iron l D cA a (b_set_size (b_set_weights (b_set_worths u (upd (b_worths u) (b_size u).toNatClampNeg x1)) (upd (b_weights (b_set_worths u (upd (b_worths u) (b_size u).toNatClampNeg x1))) (b_size (b_set_worths u (upd (b_worths u) (b_size u).toNatClampNeg x1))).toNatClampNeg x2)) ((b_size (b_set_weights (b_set_worths u (upd (b_worths u) (b_size u).toNatClampNeg x1)) (upd (b_weights (b_set_worths u (upd (b_worths u) (b_size u).toNatClampNeg x1))) (b_size (b_set_worths u (upd (b_worths u) (b_size u).toNatClampNeg x1))).toNatClampNeg x2))) + (1 : Int32))) w104 e104 hd) (cwV 0 hts gX0_add_X0_iron rfl rfl rfl (by decide +kernel) ⟨Nat.le_of_ble_eq_true rfl, Nat.le_of_ble_eq_true rfl⟩) ⟨roB_blind, va_recv (ci := 0) (q0 := 0) hK hP rfl rfl, roB_pre hK hZ (hws_1 hP)⟩ rfl rfl hl.1 rfl (lv_room (Nat.le_of_ble_eq_true rfl)) dX0_add_40 ⟨Nat.le_of_ble_eq_true rfl, Nat.le_of_ble_eq_true rfl⟩) hS (fun _ h => h) (fun H locs hP1 hk1 hS => ?_)
    have hP := hP1
    exact fin hP hS dX0_add_43 hv
  · have hv := o_neg hv c101
    exact fin hP hS dX0_add_8 hv
abbrev rm_X1_more : Room := { frames := 6, cells := 0, slots := 0, locals := 143 }
set_option maxHeartbeats 4000000 in
set_option maxRecDepth 100000 in
theorem c_X1_more (l : Launch) (D : va_G) (cA : ClassId) (a : Nat → Nat) (u : StS) (x1 : Int32) (x2 : Int32) (x3 : Int32) (v : Int32 × StS) (hv : f_X1_more u x1 x2 x3 = some v) (hd : djS a) : Met l yX1_more wsX1_more rm_X1_more (va_Pc [.ref (a 0), .int x1, .int x2, .int x3] (roB D cA [wS cA a u])) (va_Qi (fun (r : Int32) (u1 : StS) => (r, u1) = v) (fun (u1 : StS) t => va_P D vwCl (wS cA a u1) t.heap) (inS a)) 0 0 (inS a) := by
  refine wr_i (wf := fun u => wS cA a u) (cc := cX1_more) (maxL := 5) (own := RX1) (by decide) rfl rfl (Nat.le_of_ble_eq_true rfl) ?_
  intro p e s m args below meth c Q ls hC hK hZ hws hl fin
  obtain ⟨hx, hb, hml, hown, hts⟩ := id hC
  have hl : lv_has ls 5 [(0, .ref (a 0)), (1, .int x1), (2, .int x2), (3, .int x3)] := hl
  have hP : va_P D vwCl (wS cA a u) s.heap := hws _ (List.mem_of_getElem? (i := 0) rfl)
  have hinX0 : ∀ w ∈ wsX00, w ∈ wsX1_more := fun w h => List.mem_cons_of_mem _ (List.mem_append_left _ (List.mem_append_right _ h))
  have hinX1 : ∀ w ∈ wsX10, w ∈ wsX1_more := fun w h => List.mem_cons_of_mem _ (List.mem_append_right _ h)
  have hS : va_S (inS a) s.heap s.heap [] := va_S.rf
  unfold f_X1_more at hv
  skip
  refine lv_aload_n hx hb dX1_more_0 rfl (lv_at hl 0 rfl) ?_
  refine lv_iload_n hx hb dX1_more_1 rfl (lv_at hl 1 rfl) ?_
  obtain ⟨r101, e101, hv⟩ := o_bind hv
  refine rcall_i (W.runV (As := [.int x1]) (rest := []) hC (c_X1_isBuyer l D cA a u x1 r101 e101) (cwV 1 hts gX1_more_X1_isBuyer rfl rfl rfl (by decide +kernel) ⟨Nat.le_of_ble_eq_true rfl, Nat.le_of_ble_eq_true rfl⟩) ⟨roB_blind, va_recv (ci := 1) (q0 := 0) hK hP rfl rfl, roB_pre hK hZ (hws_1 hP)⟩ rfl rfl hl.1 rfl (lv_room (Nat.le_of_ble_eq_true rfl)) dX1_more_2 ⟨Nat.le_of_ble_eq_true rfl, Nat.le_of_ble_eq_true rfl⟩) ?_
  refine lv_if_eq (tgt := 22) hx hb dX1_more_5 (by decide) (fun c102 => ?_) (fun c102 => ?_)
  · have hv := o_pos hv c102
    refine lv_iconst (v := -1) hx hb dX1_more_22 (by decide) ?_
    exact fin hP hS dX1_more_23 hv
  · have hv := o_neg hv c102
    refine lv_iload_n hx hb dX1_more_8 rfl (lv_at hl 2 rfl) ?_
    obtain ⟨r103, e103, hv⟩ := o_bind hv
    refine rcall_i (W.runS (As := [.int x2]) (rest := []) hC (c_X1_isWorth l D cA x2 r103 e103) (va_cwS 1 hts gX1_more_X1_isWorth rfl rfl rfl (by decide +kernel) ⟨Nat.le_of_ble_eq_true rfl, Nat.le_of_ble_eq_true rfl⟩) ⟨roB_blind, roB_pre hK hZ hws_0⟩ rfl rfl hl.1 rfl (lv_room (Nat.le_of_ble_eq_true rfl)) dX1_more_9 ⟨Nat.le_of_ble_eq_true rfl, Nat.le_of_ble_eq_true rfl⟩) ?_
    refine lv_if_eq (tgt := 22) hx hb dX1_more_12 (by decide) (fun c104 => ?_) (fun c104 => ?_)
    · have hv := o_pos hv c104
      refine lv_iconst (v := -1) hx hb dX1_more_22 (by decide) ?_
      exact fin hP hS dX1_more_23 hv
    · have hv := o_neg hv c104
      refine lv_iload_n hx hb dX1_more_15 rfl (lv_at hl 3 rfl) ?_
      obtain ⟨r105, e105, hv⟩ := o_bind hv
      refine rcall_i (W.runS (As := [.int x3]) (rest := []) hC (c_X1_isWeight l D cA x3 r105 e105) (va_cwS 1 hts gX1_more_X1_isWeight rfl rfl rfl (by decide +kernel) ⟨Nat.le_of_ble_eq_true rfl, Nat.le_of_ble_eq_true rfl⟩) ⟨roB_blind, roB_pre hK hZ hws_0⟩ rfl rfl hl.1 rfl (lv_room (Nat.le_of_ble_eq_true rfl)) dX1_more_16 ⟨Nat.le_of_ble_eq_true rfl, Nat.le_of_ble_eq_true rfl⟩) ?_
      refine lv_if_ne (tgt := 24) hx hb dX1_more_19 (by decide) (fun c106 => ?_) (fun c106 => ?_)
      · have hv := o_neg hv c106
        refine lv_aload_n hx hb dX1_more_24 rfl (lv_at hl 0 rfl) ?_
        refine lv_iload_n hx hb dX1_more_25 rfl (lv_at hl 1 rfl) ?_
        obtain ⟨r107, e107, hv⟩ := o_bind hv
        refine rcall_r (W.runV (As := [.int x1]) (rest := []) hC (c_X1_bookOf l D cA a u x1 r107 e107) (cwV 1 hts gX1_more_X1_bookOf rfl rfl rfl (by decide +kernel) ⟨Nat.le_of_ble_eq_true rfl, Nat.le_of_ble_eq_true rfl⟩) ⟨roB_blind, va_recv (ci := 1) (q0 := 0) hK hP rfl rfl, roB_pre hK hZ (hws_1 hP)⟩ rfl rfl hl.1 rfl (lv_room (Nat.le_of_ble_eq_true rfl)) dX1_more_26 ⟨Nat.le_of_ble_eq_true rfl, Nat.le_of_ble_eq_true rfl⟩) ?_
        refine lv_astore (lv' := [(4, .ref (bx a r107 0)), (0, .ref (a 0)), (1, .int x1), (2, .int x2), (3, .int x3)]) hx hb dX1_more_29 hl (by decide) rfl (fun ls hl => ?_)
        refine lv_iload_n hx hb dX1_more_31 rfl (lv_at hl 3 rfl) ?_
        refine lv_aload hx hb dX1_more_32 (lv_at hl 0 rfl) ?_
        refine lv_aload hx hb dX1_more_34 (lv_at hl 0 rfl) ?_
        refine gnX0_size hx hb hts hinX0 hown hK hZ (wS_bk hP r107) dX1_more_36 ?_
        refine lv_iconst (v := 1) hx hb dX1_more_39 (by decide) ?_
        refine lv_isub hx hb dX1_more_40 ?_
        obtain ⟨r108, e108, hv⟩ := o_bind hv
        refine rcall_i (W.runV (As := [.int ((b_size (bk u r107)) - (1 : Int32))]) (rest := [.int x2]) hC (c_X0_worthAt l D cA (bx a r107) (bk u r107) ((b_size (bk u r107)) - (1 : Int32)) r108 e108) (cwV 1 hts gX1_more_X0_worthAt rfl rfl rfl (by decide +kernel) ⟨Nat.le_of_ble_eq_true rfl, Nat.le_of_ble_eq_true rfl⟩) ⟨roB_blind, va_recv (ci := 0) (q0 := 0) hK (wS_bk hP r107) rfl rfl, roB_pre hK hZ (hws_1 (wS_bk hP r107))⟩ rfl rfl hl.1 rfl (lv_room (Nat.le_of_ble_eq_true rfl)) dX1_more_41 ⟨Nat.le_of_ble_eq_true rfl, Nat.le_of_ble_eq_true rfl⟩) ?_
        refine lv_icmp_gt (tgt := 49) hx hb dX1_more_44 (by decide) (fun c109 => ?_) (fun c109 => ?_)
        · have hv := o_pos hv c109
          refine lv_aload hx hb dX1_more_49 (lv_at hl 0 rfl) ?_
          refine gnX0_size hx hb hts hinX0 hown hK hZ (wS_bk hP r107) dX1_more_51 ?_
          refine lv_iconst (v := 5) hx hb dX1_more_54 (by decide) ?_
          refine lv_icmp_lt (tgt := 61) hx hb dX1_more_55 (by decide) (fun c110 => ?_) (fun c110 => ?_)
          · have hv := o_pos hv c110
            refine lv_aload hx hb dX1_more_61 (lv_at hl 0 rfl) ?_
            refine lv_iload_n hx hb dX1_more_63 rfl (lv_at hl 3 rfl) ?_
            refine lv_iload_n hx hb dX1_more_64 rfl (lv_at hl 4 rfl) ?_
            obtain ⟨w111, e111, hv⟩ := o_bind hv
            refine wcall_v (va_runV (As := [.int x2, .int x3]) (rest := []) hC (c_X0_add l D cA (bx a r107) (bk u r107) x2 x3 w111 e111 (djS_bk hd r107)) (cwV 2 hts gX1_more_X0_add rfl rfl rfl (by decide +kernel) ⟨Nat.le_of_ble_eq_true rfl, Nat.le_of_ble_eq_true rfl⟩) ⟨roB_blind, va_recv (ci := 0) (q0 := 0) hK (wS_bk hP r107) rfl rfl, roB_pre hK hZ (hws_1 (wS_bk hP r107))⟩ rfl rfl hl.1 rfl (lv_room (Nat.le_of_ble_eq_true rfl)) dX1_more_65 ⟨Nat.le_of_ble_eq_true rfl, Nat.le_of_ble_eq_true rfl⟩) hS (inB_S r107) (fun H locs hP1 hk1 hS => ?_)
            have hP := wS_back hd r107 hP hk1 hP1
            refine lv_aload hx hb dX1_more_68 (lv_at hl 0 rfl) ?_
            refine gnX0_size hx hb hts hinX0 hown hK hZ (wS_bk hP r107) dX1_more_70 ?_
            exact fin hP hS dX1_more_73 hv
          · have hv := o_neg hv c110
            refine lv_bipush (v := -3) hx hb dX1_more_58 (by decide) ?_
            exact fin hP hS dX1_more_60 hv
        · have hv := o_neg hv c109
          refine lv_iconst (v := -1) hx hb dX1_more_47 (by decide) ?_
          exact fin hP hS dX1_more_48 hv
      · have hv := o_pos hv c106
        refine lv_iconst (v := -1) hx hb dX1_more_22 (by decide) ?_
        exact fin hP hS dX1_more_23 hv
abbrev rm_X0_has : Room := { frames := 0, cells := 0, slots := 0, locals := 0 }
set_option maxHeartbeats 4000000 in
set_option maxRecDepth 100000 in
theorem c_X0_has (l : Launch) (D : va_G) (cA : ClassId) (a : Nat → Nat) (u : StB) (x1 : Int32) (v : Int32) (hv : f_X0_has u x1 = some v)  : Met l yX0_has wsX0_has rm_X0_has (va_Pc [.ref (a 0), .int x1] (roB D cA [wB cA a u])) (vp_Si (fun r => r = v)) 0 0 (fun _ => False) := by
  refine ro_z (cc := cX0_has) (maxL := 2) (own := RX0) (by decide) rfl rfl (Nat.le_of_ble_eq_true rfl) ?_
  intro p e s m args below meth c Q ls hC hK hZ hws hl fin
  obtain ⟨hx, hb, hml, hown, hts⟩ := id hC
  have hl : lv_has ls 2 [(0, .ref (a 0)), (1, .int x1)] := hl
  have hP : va_P D vwCl (wB cA a u) s.heap := hws _ (List.mem_of_getElem? (i := 0) rfl)
  have hinX0 : ∀ w ∈ wsX00, w ∈ wsX0_has := fun w h => List.mem_cons_of_mem _ (List.mem_append_right _ h)
  unfold f_X0_has at hv
  refine lv_iload_n hx hb dX0_has_0 rfl (lv_at hl 1 rfl) ?_
  refine lv_if_lt (tgt := 16) hx hb dX0_has_1 (by decide) (fun c101 => ?_) (fun c101 => ?_)
  · have hv := o_pos hv c101
    refine lv_iconst (v := 0) hx hb dX0_has_16 (by decide) ?_
    exact fin dX0_has_17 rfl hv
  · have hv := o_neg hv c101
    refine lv_iload_n hx hb dX0_has_4 rfl (lv_at hl 1 rfl) ?_
    refine lv_aload_n hx hb dX0_has_5 rfl (lv_at hl 0 rfl) ?_
    refine gtX0_size hx hb hts hinX0 hown hK hP (by decide +kernel) dX0_has_6 ?_
    refine lv_icmp_ge (tgt := 16) hx hb dX0_has_9 (by decide) (fun c102 => ?_) (fun c102 => ?_)
    · have hv := o_pos hv c102
      refine lv_iconst (v := 0) hx hb dX0_has_16 (by decide) ?_
      exact fin dX0_has_17 rfl hv
    · have hv := o_neg hv c102
      refine lv_iconst (v := 1) hx hb dX0_has_12 (by decide) ?_
      refine lv_goto (tgt := 17) hx hb dX0_has_13 (by decide) ?_
      exact fin dX0_has_17 rfl hv
abbrev rm_X0_weightAt : Room := { frames := 0, cells := 0, slots := 0, locals := 0 }
set_option maxHeartbeats 4000000 in
set_option maxRecDepth 100000 in
theorem c_X0_weightAt (l : Launch) (D : va_G) (cA : ClassId) (a : Nat → Nat) (u : StB) (x1 : Int32) (v : Int32) (hv : f_X0_weightAt u x1 = some v)  : Met l yX0_weightAt wsX0_weightAt rm_X0_weightAt (va_Pc [.ref (a 0), .int x1] (roB D cA [wB cA a u])) (vp_Si (fun r => r = v)) 0 0 (fun _ => False) := by
  refine ro_i (cc := cX0_weightAt) (maxL := 2) (own := RX0) (by decide) rfl rfl (Nat.le_of_ble_eq_true rfl) ?_
  intro p e s m args below meth c Q ls hC hK hZ hws hl fin
  obtain ⟨hx, hb, hml, hown, hts⟩ := id hC
  have hl : lv_has ls 2 [(0, .ref (a 0)), (1, .int x1)] := hl
  have hP : va_P D vwCl (wB cA a u) s.heap := hws _ (List.mem_of_getElem? (i := 0) rfl)
  have hinX0 : ∀ w ∈ wsX00, w ∈ wsX0_weightAt := fun w h => List.mem_cons_of_mem _ (List.mem_append_right _ h)
  unfold f_X0_weightAt at hv
  refine lv_iload_n hx hb dX0_weightAt_0 rfl (lv_at hl 1 rfl) ?_
  refine lv_if_lt (tgt := 21) hx hb dX0_weightAt_1 (by decide) (fun c101 => ?_) (fun c101 => ?_)
  · have hv := o_pos hv c101
    refine lv_iconst (v := 0) hx hb dX0_weightAt_21 (by decide) ?_
    exact fin dX0_weightAt_22 hv
  · have hv := o_neg hv c101
    refine lv_iload_n hx hb dX0_weightAt_4 rfl (lv_at hl 1 rfl) ?_
    refine lv_aload_n hx hb dX0_weightAt_5 rfl (lv_at hl 0 rfl) ?_
    refine gtX0_size hx hb hts hinX0 hown hK hP (by decide +kernel) dX0_weightAt_6 ?_
    refine lv_icmp_ge (tgt := 21) hx hb dX0_weightAt_9 (by decide) (fun c102 => ?_) (fun c102 => ?_)
    · have hv := o_pos hv c102
      refine lv_iconst (v := 0) hx hb dX0_weightAt_21 (by decide) ?_
      exact fin dX0_weightAt_22 hv
    · have hv := o_neg hv c102
      refine lv_aload_n hx hb dX0_weightAt_12 rfl (lv_at hl 0 rfl) ?_
      refine gtX0_weights hx hb hts hinX0 hown hK hP (by decide +kernel) dX0_weightAt_13 ?_
      refine lv_iload_n hx hb dX0_weightAt_16 rfl (lv_at hl 1 rfl) ?_
      obtain ⟨g103, hv⟩ := o_grd hv
      refine alX0_weights hx hb hK hP g103 dX0_weightAt_17 ?_
      refine lv_goto (tgt := 22) hx hb dX0_weightAt_18 (by decide) ?_
      exact fin dX0_weightAt_22 hv
