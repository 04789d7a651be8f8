abbrev rm_X1_average : Room := { frames := 6, cells := 0, slots := 0, locals := 162 }
set_option maxHeartbeats 4000000 in
set_option maxRecDepth 100000 in
theorem c_X1_average (l : Launch) (D : va_G) (cA : ClassId) (a : Nat → Nat) (u : StS) (x1 : Int32) (x2 : Int32) (v : Int64) (hv : f_X1_average u x1 x2 = some v)  : Met l yX1_average wsX1_average rm_X1_average (va_Pc [.ref (a 0), .int x1, .int x2] (roB D cA [wS cA a u])) (vp_Sl (fun r => r = v)) 0 0 (fun _ => False) := by
  refine ro_l (cc := cX1_average) (maxL := 3) (own := RX1) (by decide) rfl rfl (Nat.le_of_ble_eq_true rfl) ?_
  intro p e s m args below meth c Q ls hC hK hZ hws hl fin
  obtain ⟨hx, hb, hml, hown, hts⟩ := id hC
  have hl : lv_has ls 3 [(0, .ref (a 0)), (1, .int x1), (2, .int x2)] := hl
  have hP : va_P D vwCl (wS cA a u) s.heap := hws _ (List.mem_of_getElem? (i := 0) rfl)
  have hinX0 : ∀ w ∈ wsX00, w ∈ wsX1_average := fun w h => List.mem_cons_of_mem _ (List.mem_append_right _ h)
  have hinX1 : ∀ w ∈ wsX10, w ∈ wsX1_average := fun w h => List.mem_cons_of_mem _ (List.mem_append_left _ (List.mem_append_right _ h))
  unfold f_X1_average at hv
  refine lv_iload_n hx hb dX1_average_0 rfl (lv_at hl 1 rfl) ?_
  obtain ⟨r101, e101, hv⟩ := o_bind hv
  refine rcall_i (W.runS (As := [.int x1]) (rest := []) hC (c_X1_isKind l D cA x1 r101 e101) (va_cwS 1 hts gX1_average_X1_isKind rfl rfl rfl (by decide +kernel) ⟨Nat.le_of_ble_eq_true rfl, Nat.le_of_ble_eq_true rfl⟩) ⟨roB_blind, roB_pre hK hZ hws_0⟩ rfl rfl hl.1 rfl (lv_room (Nat.le_of_ble_eq_true rfl)) dX1_average_1 ⟨Nat.le_of_ble_eq_true rfl, Nat.le_of_ble_eq_true rfl⟩) ?_
  refine lv_if_eq (tgt := 14) hx hb dX1_average_4 (by decide) (fun c102 => ?_) (fun c102 => ?_)
  · have hv := o_pos hv c102
    refine lv_ldc2 (v := -1000000000000000) hx hb hown (hts (.constantLong RX1 90 (-1000000000000000)) (by decide +kernel)) dX1_average_14 ?_
    exact fin dX1_average_17 hv
  · have hv := o_neg hv c102
    refine lv_iload_n hx hb dX1_average_7 rfl (lv_at hl 2 rfl) ?_
    obtain ⟨r103, e103, hv⟩ := o_bind hv
    refine rcall_i (W.runS (As := [.int x2]) (rest := []) hC (c_X1_isPart l D cA x2 r103 e103) (va_cwS 1 hts gX1_average_X1_isPart rfl rfl rfl (by decide +kernel) ⟨Nat.le_of_ble_eq_true rfl, Nat.le_of_ble_eq_true rfl⟩) ⟨roB_blind, roB_pre hK hZ hws_0⟩ rfl rfl hl.1 rfl (lv_room (Nat.le_of_ble_eq_true rfl)) dX1_average_8 ⟨Nat.le_of_ble_eq_true rfl, Nat.le_of_ble_eq_true rfl⟩) ?_
    refine lv_if_ne (tgt := 18) hx hb dX1_average_11 (by decide) (fun c104 => ?_) (fun c104 => ?_)
    · have hv := o_neg hv c104
      refine lv_aload_n hx hb dX1_average_18 rfl (lv_at hl 0 rfl) ?_
      refine lv_iload_n hx hb dX1_average_19 rfl (lv_at hl 1 rfl) ?_
      refine lv_iload_n hx hb dX1_average_20 rfl (lv_at hl 2 rfl) ?_
      obtain ⟨r105, e105, hv⟩ := o_bind hv
      refine rcall_l (W.runV (As := [.int x1, .int x2]) (rest := []) hC (c_X1_meanPaid l D cA a u x1 x2 r105 e105) (cwV 2 hts gX1_average_X1_meanPaid rfl rfl rfl (by decide +kernel) ⟨Nat.le_of_ble_eq_true rfl, Nat.le_of_ble_eq_true rfl⟩) ⟨roB_blind, va_recv (ci := 1) (q0 := 0) hK hP rfl rfl, roB_pre hK hZ (hws_1 hP)⟩ rfl rfl hl.1 rfl (lv_room (Nat.le_of_ble_eq_true rfl)) dX1_average_21 ⟨Nat.le_of_ble_eq_true rfl, Nat.le_of_ble_eq_true rfl⟩) ?_
      exact fin dX1_average_24 hv
    · have hv := o_pos hv c104
      refine lv_ldc2 (v := -1000000000000000) hx hb hown (hts (.constantLong RX1 90 (-1000000000000000)) (by decide +kernel)) dX1_average_14 ?_
      exact fin dX1_average_17 hv
abbrev rm_X1_isOrder : Room := { frames := 1, cells := 0, slots := 0, locals := 21 }
set_option maxHeartbeats 4000000 in
set_option maxRecDepth 100000 in
theorem c_X1_isOrder (l : Launch) (D : va_G) (cA : ClassId) (a : Nat → Nat) (u : StS) (x1 : Int32) (v : Int32) (hv : f_X1_isOrder u x1 = some v)  : Met l yX1_isOrder wsX1_isOrder rm_X1_isOrder (va_Pc [.ref (a 0), .int x1] (roB D cA [wS cA a u])) (vp_Si (fun r => r = v)) 0 0 (fun _ => False) := by
  refine ro_z (cc := cX1_isOrder) (maxL := 6) (own := RX1) (by decide) rfl rfl (Nat.le_of_ble_eq_true rfl) ?_
  intro p e s m args below meth c Q ls hC hK hZ hws hl fin
  obtain ⟨hx, hb, hml, hown, hts⟩ := id hC
  have hl : lv_has ls 6 [(0, .ref (a 0)), (1, .int x1)] := hl
  have hP : va_P D vwCl (wS cA a u) s.heap := hws _ (List.mem_of_getElem? (i := 0) rfl)
  have hinX1 : ∀ w ∈ wsX10, w ∈ wsX1_isOrder := fun w h => List.mem_cons_of_mem _ (List.mem_append_right _ h)
  have hB13 : ∀ (k50 : Option (Int32)) (hk50 : ∀  (ls : Array Slot), lv_has ls 6 [] → k50 = some v → W p l e rm_X1_isOrder s m args below meth c s.heap [] 0 0 Q (F0 m 50 ls [])) (k65 : Int32 → Option (Int32)) (hk65 : ∀ (x3 : Int32) (ls : Array Slot), lv_has ls 6 [(3, .int x3)] → k65 x3 = some v → W p l e rm_X1_isOrder s m args below meth c s.heap [] 0 0 Q (F0 m 65 ls [])) (n : Nat) (x2 : Int32) (x3 : Int32) (x4 : Int32) (ls : Array Slot), lv_has ls 6 [(0, .ref (a 0)), (2, .int x2), (3, .int x3), (4, .int x4)] → B_X1_isOrder_13 u k50 k65 n x2 x3 x4 = some v → W p l e rm_X1_isOrder s m args below meth c s.heap [] 0 0 Q (F0 m 13 ls []) := by
    intro k50 hk50 k65 hk65 n
    induction n with
    | zero => intro x2 x3 x4 ls hl hv; exact absurd hv (by intro h; cases h)
    | succ n hk13 =>
      intro x2 x3 x4 ls hl hv
      rw [B_X1_isOrder_13] at hv
      refine lv_iload hx hb dX1_isOrder_13 (lv_at hl 3 rfl) ?_
      refine lv_aload_n hx hb dX1_isOrder_15 rfl (lv_at hl 0 rfl) ?_
      refine gtX1_buyerCount hx hb hts hinX1 hown hK hP (by decide +kernel) dX1_isOrder_16 ?_
      refine lv_icmp_ge (tgt := 65) hx hb dX1_isOrder_19 (by decide) (fun c101 => ?_) (fun c101 => ?_)
      · have hv := o_pos hv c101
        exact hk65 _  ls (lv_sub hl [2] rfl) hv
      · have hv := o_neg hv c101
        refine lv_iload_n hx hb dX1_isOrder_22 rfl (lv_at hl 2 rfl) ?_
        refine lv_iconst (v := 3) hx hb dX1_isOrder_23 (by decide) ?_
        refine lv_irem hx hb dX1_isOrder_24 (by decide) ?_
        refine lv_istore (lv' := [(5, .int (x3 - x3 / (3 : Int32) * (3 : Int32))), (0, .ref (a 0)), (2, .int x2), (3, .int x3), (4, .int x4)]) hx hb dX1_isOrder_25 hl (by decide) rfl (fun ls hl => ?_)
        refine lv_iload_n hx hb dX1_isOrder_27 rfl (lv_at hl 3 rfl) ?_
        refine lv_iconst (v := 3) hx hb dX1_isOrder_28 (by decide) ?_
        refine lv_idiv hx hb dX1_isOrder_29 (by decide) ?_
        refine lv_istore_n (lv' := [(3, .int (x3 / (3 : Int32))), (5, .int (x3 - x3 / (3 : Int32) * (3 : Int32))), (0, .ref (a 0)), (2, .int x2), (4, .int x4)]) hx hb dX1_isOrder_30 rfl hl (by decide) rfl (fun ls hl => ?_)
        refine lv_aload_n hx hb dX1_isOrder_31 rfl (lv_at hl 2 rfl) ?_
        refine lv_iload hx hb dX1_isOrder_32 (lv_at hl 1 rfl) ?_
        obtain ⟨r102, e102, hv⟩ := o_bind hv
        refine rcall_i (W.runV (As := [.int (x3 - x3 / (3 : Int32) * (3 : Int32))]) (rest := []) hC (c_X1_isBuyer l D cA a u (x3 - x3 / (3 : Int32) * (3 : Int32)) r102 e102) (cwV 1 hts gX1_isOrder_X1_isBuyer rfl rfl rfl (by decide +kernel) ⟨Nat.le_of_ble_eq_true rfl, Nat.le_of_ble_eq_true rfl⟩) ⟨roB_blind, va_recv (ci := 1) (q0 := 0) hK hP rfl rfl, roB_pre hK hZ (hws_1 hP)⟩ rfl rfl hl.1 rfl (lv_room (Nat.le_of_ble_eq_true rfl)) dX1_isOrder_34 ⟨Nat.le_of_ble_eq_true rfl, Nat.le_of_ble_eq_true rfl⟩) ?_
        refine lv_if_eq (tgt := 50) hx hb dX1_isOrder_37 (by decide) (fun c103 => ?_) (fun c103 => ?_)
        · have hv := o_pos hv c103
          exact hk50  ls (lv_sub hl [] rfl) hv
        · have hv := o_neg hv c103
          refine lv_iload_n hx hb dX1_isOrder_40 rfl (lv_at hl 3 rfl) ?_
          refine lv_iload hx hb dX1_isOrder_41 (lv_at hl 1 rfl) ?_
          refine lv_ishr hx hb dX1_isOrder_43 ?_
          refine lv_iconst (v := 1) hx hb dX1_isOrder_44 (by decide) ?_
          refine lv_iand hx hb dX1_isOrder_45 ?_
          refine lv_iconst (v := 1) hx hb dX1_isOrder_46 (by decide) ?_
          refine lv_icmp_ne (tgt := 52) hx hb dX1_isOrder_47 (by decide) (fun c104 => ?_) (fun c104 => ?_)
          · have hv := o_neg hv c104
            refine lv_iload_n hx hb dX1_isOrder_52 rfl (lv_at hl 3 rfl) ?_
            refine lv_iconst (v := 1) hx hb dX1_isOrder_53 (by decide) ?_
            refine lv_iload hx hb dX1_isOrder_54 (lv_at hl 1 rfl) ?_
            refine lv_ishl hx hb dX1_isOrder_56 ?_
            refine lv_ior hx hb dX1_isOrder_57 ?_
            refine lv_istore_n (lv' := [(2, .int (x2 ||| ((1 : Int32) <<< ((x3 - x3 / (3 : Int32) * (3 : Int32)) &&& 31)))), (3, .int (x3 / (3 : Int32))), (5, .int (x3 - x3 / (3 : Int32) * (3 : Int32))), (0, .ref (a 0)), (4, .int x4)]) hx hb dX1_isOrder_58 rfl hl (by decide) rfl (fun ls hl => ?_)
            refine lv_iinc (v := (x4 + 1)) (lv' := [(4, .int (x4 + 1)), (2, .int (x2 ||| ((1 : Int32) <<< ((x3 - x3 / (3 : Int32) * (3 : Int32)) &&& 31)))), (3, .int (x3 / (3 : Int32))), (5, .int (x3 - x3 / (3 : Int32) * (3 : Int32))), (0, .ref (a 0))]) hx hb dX1_isOrder_59 hl (k := 4) rfl rfl (by decide) rfl (fun ls hl => ?_)
            refine lv_goto (tgt := 13) hx hb dX1_isOrder_62 (by decide) ?_
            exact hk13 _ _ _  ls (lv_sub hl [4, 1, 2, 0] rfl) hv
          · have hv := o_pos hv c104
            exact hk50  ls (lv_sub hl [] rfl) hv
  unfold f_X1_isOrder at hv
  refine lv_iload_n hx hb dX1_isOrder_0 rfl (lv_at hl 1 rfl) ?_
  refine lv_if_ge (tgt := 6) hx hb dX1_isOrder_1 (by decide) (fun c205 => ?_) (fun c205 => ?_)
  · have hv := o_pos hv c205
    refine lv_iconst (v := 0) hx hb dX1_isOrder_6 (by decide) ?_
    refine lv_istore_n (lv' := [(2, .int (0 : Int32)), (0, .ref (a 0)), (1, .int x1)]) hx hb dX1_isOrder_7 rfl hl (by decide) rfl (fun ls hl => ?_)
    refine lv_iload_n hx hb dX1_isOrder_8 rfl (lv_at hl 2 rfl) ?_
    refine lv_istore_n (lv' := [(3, .int x1), (2, .int (0 : Int32)), (0, .ref (a 0)), (1, .int x1)]) hx hb dX1_isOrder_9 rfl hl (by decide) rfl (fun ls hl => ?_)
    refine lv_iconst (v := 0) hx hb dX1_isOrder_10 (by decide) ?_
    refine lv_istore (lv' := [(4, .int (0 : Int32)), (3, .int x1), (2, .int (0 : Int32)), (0, .ref (a 0)), (1, .int x1)]) hx hb dX1_isOrder_11 hl (by decide) rfl (fun ls hl => ?_)
    refine hB13 _ (fun ls hl hv => ?_) _ (fun z207_3 ls hl hv => ?_) 1000 _ _ _ ls (lv_sub hl [3, 2, 1, 0] rfl) hv
    · skip
      refine lv_iconst (v := 0) hx hb dX1_isOrder_50 (by decide) ?_
      exact fin dX1_isOrder_51 rfl hv
    · skip
      refine lv_iload_n hx hb dX1_isOrder_65 rfl (lv_at hl 0 rfl) ?_
      refine lv_if_ne (tgt := 73) hx hb dX1_isOrder_66 (by decide) (fun c208 => ?_) (fun c208 => ?_)
      · have hv := o_neg hv c208
        refine lv_iconst (v := 0) hx hb dX1_isOrder_73 (by decide) ?_
        exact fin dX1_isOrder_74 rfl hv
      · have hv := o_pos hv c208
        refine lv_iconst (v := 1) hx hb dX1_isOrder_69 (by decide) ?_
        refine lv_goto (tgt := 74) hx hb dX1_isOrder_70 (by decide) ?_
        exact fin dX1_isOrder_74 rfl hv
  · have hv := o_neg hv c205
    refine lv_iconst (v := 0) hx hb dX1_isOrder_4 (by decide) ?_
    exact fin dX1_isOrder_5 rfl hv
abbrev rm_X1_offerBrings : Room := { frames := 3, cells := 0, slots := 0, locals := 65 }
set_option maxHeartbeats 4000000 in
set_option maxRecDepth 100000 in
theorem c_X1_offerBrings (l : Launch) (D : va_G) (cA : ClassId) (a0 : Nat → Nat) (u0 : StB) (x1 : Int32) (x2 : Int64) (x4 : Int64) (v : Int64) (hv : f_X1_offerBrings u0 x1 x2 x4 = some v)  : Met l yX1_offerBrings wsX1_offerBrings rm_X1_offerBrings (va_Pc [.ref (a0 0), .int x1, .long x2, .long x4] (roB D cA [wB cA a0 u0])) (vp_Sl (fun r => r = v)) 0 0 (fun _ => False) := by
  refine ro_l (cc := cX1_offerBrings) (maxL := 6) (own := RX1) (by decide) rfl rfl (Nat.le_of_ble_eq_true rfl) ?_
  intro p e s m args below meth c Q ls hC hK hZ hws hl fin
  obtain ⟨hx, hb, hml, hown, hts⟩ := id hC
  have hl : lv_has ls 6 [(0, .ref (a0 0)), (1, .int x1), (2, .long x2), (4, .long x4)] := hl
  have hP0 : va_P D vwCl (wB cA a0 u0) s.heap := hws _ (List.mem_of_getElem? (i := 0) rfl)
  have hinX0 : ∀ w ∈ wsX00, w ∈ wsX1_offerBrings := fun w h => List.mem_cons_of_mem _ (List.mem_append_right _ h)
  unfold f_X1_offerBrings at hv
  refine lv_aload_n hx hb dX1_offerBrings_0 rfl (lv_at hl 0 rfl) ?_
  refine lv_iload_n hx hb dX1_offerBrings_1 rfl (lv_at hl 1 rfl) ?_
  obtain ⟨r101, e101, hv⟩ := o_bind hv
  refine rcall_i (W.runV (As := [.int x1]) (rest := []) hC (c_X0_takeAt l D cA a0 u0 x1 r101 e101) (cwV 1 hts gX1_offerBrings_X0_takeAt rfl rfl rfl (by decide +kernel) ⟨Nat.le_of_ble_eq_true rfl, Nat.le_of_ble_eq_true rfl⟩) ⟨roB_blind, va_recv (ci := 0) (q0 := 0) hK hP0 rfl rfl, roB_pre hK hZ (hws_1 hP0)⟩ rfl rfl hl.1 rfl (lv_room (Nat.le_of_ble_eq_true rfl)) dX1_offerBrings_2 ⟨Nat.le_of_ble_eq_true rfl, Nat.le_of_ble_eq_true rfl⟩) ?_
  refine lv_i2l hx hb dX1_offerBrings_5 rfl ?_
  refine lv_lload hx hb dX1_offerBrings_6 (lv_at hl 3 rfl) ?_
  refine lv_lmul hx hb dX1_offerBrings_8 ?_
  refine lv_aload_n hx hb dX1_offerBrings_9 rfl (lv_at hl 0 rfl) ?_
  obtain ⟨r102, e102, hv⟩ := o_bind hv
  refine rcall_i (W.runV (As := []) (rest := [.long ((r101).toInt64 * x4)]) hC (c_X0_allWeights l D cA a0 u0 r102 e102) (cwV 0 hts gX1_offerBrings_X0_allWeights rfl rfl rfl (by decide +kernel) ⟨Nat.le_of_ble_eq_true rfl, Nat.le_of_ble_eq_true rfl⟩) ⟨roB_blind, va_recv (ci := 0) (q0 := 0) hK hP0 rfl rfl, roB_pre hK hZ (hws_1 hP0)⟩ rfl rfl hl.1 rfl (lv_room (Nat.le_of_ble_eq_true rfl)) dX1_offerBrings_10 ⟨Nat.le_of_ble_eq_true rfl, Nat.le_of_ble_eq_true rfl⟩) ?_
  refine lv_aload_n hx hb dX1_offerBrings_13 rfl (lv_at hl 0 rfl) ?_
  refine lv_iload_n hx hb dX1_offerBrings_14 rfl (lv_at hl 1 rfl) ?_
  obtain ⟨r103, e103, hv⟩ := o_bind hv
  refine rcall_i (W.runV (As := [.int x1]) (rest := [.int r102, .long ((r101).toInt64 * x4)]) hC (c_X0_shareAt l D cA a0 u0 x1 r103 e103) (cwV 1 hts gX1_offerBrings_X0_shareAt rfl rfl rfl (by decide +kernel) ⟨Nat.le_of_ble_eq_true rfl, Nat.le_of_ble_eq_true rfl⟩) ⟨roB_blind, va_recv (ci := 0) (q0 := 0) hK hP0 rfl rfl, roB_pre hK hZ (hws_1 hP0)⟩ rfl rfl hl.1 rfl (lv_room (Nat.le_of_ble_eq_true rfl)) dX1_offerBrings_15 ⟨Nat.le_of_ble_eq_true rfl, Nat.le_of_ble_eq_true rfl⟩) ?_
  refine lv_isub hx hb dX1_offerBrings_18 ?_
  refine lv_i2l hx hb dX1_offerBrings_19 rfl ?_
  refine lv_lload_n hx hb dX1_offerBrings_20 rfl (lv_at hl 2 rfl) ?_
  refine lv_lmul hx hb dX1_offerBrings_21 ?_
  refine lv_ladd hx hb dX1_offerBrings_22 ?_
  exact fin dX1_offerBrings_23 hv
abbrev rm_X1_bestOffer : Room := { frames := 4, cells := 0, slots := 0, locals := 90 }
set_option maxHeartbeats 4000000 in
set_option maxRecDepth 100000 in
theorem c_X1_bestOffer (l : Launch) (D : va_G) (cA : ClassId) (a0 : Nat → Nat) (u0 : StB) (x1 : Int64) (x3 : Int64) (v : Int32) (hv : f_X1_bestOffer u0 x1 x3 = some v)  : Met l yX1_bestOffer wsX1_bestOffer rm_X1_bestOffer (va_Pc [.ref (a0 0), .long x1, .long x3] (roB D cA [wB cA a0 u0])) (vp_Si (fun r => r = v)) 0 0 (fun _ => False) := by
  refine ro_i (cc := cX1_bestOffer) (maxL := 7) (own := RX1) (by decide) rfl rfl (Nat.le_of_ble_eq_true rfl) ?_
  intro p e s m args below meth c Q ls hC hK hZ hws hl fin
  obtain ⟨hx, hb, hml, hown, hts⟩ := id hC
  have hl : lv_has ls 7 [(0, .ref (a0 0)), (1, .long x1), (3, .long x3)] := hl
  have hP0 : va_P D vwCl (wB cA a0 u0) s.heap := hws _ (List.mem_of_getElem? (i := 0) rfl)
  have hinX0 : ∀ w ∈ wsX00, w ∈ wsX1_bestOffer := fun w h => List.mem_cons_of_mem _ (List.mem_append_right _ h)
  have hB6 : ∀ (k45 : Int32 → Option (Int32)) (hk45 : ∀ (x5 : Int32) (ls : Array Slot), lv_has ls 7 [(5, .int x5)] → k45 x5 = some v → W p l e rm_X1_bestOffer s m args below meth c s.heap [] 0 0 Q (F0 m 45 ls [])) (n : Nat) (x1 : Int64) (x3 : Int64) (x5 : Int32) (x6 : Int32) (ls : Array Slot), lv_has ls 7 [(0, .ref (a0 0)), (1, .long x1), (3, .long x3), (5, .int x5), (6, .int x6)] → B_X1_bestOffer_6 u0 k45 n x1 x3 x5 x6 = some v → W p l e rm_X1_bestOffer s m args below meth c s.heap [] 0 0 Q (F0 m 6 ls []) := by
    intro k45 hk45 n
    induction n with
    | zero => intro x1 x3 x5 x6 ls hl hv; exact absurd hv (by intro h; cases h)
    | succ n hk6 =>
      intro x1 x3 x5 x6 ls hl hv
      rw [B_X1_bestOffer_6] at hv
      refine lv_iload hx hb dX1_bestOffer_6 (lv_at hl 4 rfl) ?_
      refine lv_aload_n hx hb dX1_bestOffer_8 rfl (lv_at hl 0 rfl) ?_
      refine gnX0_size hx hb hts hinX0 hown hK hZ hP0 dX1_bestOffer_9 ?_
      refine lv_icmp_gt (tgt := 45) hx hb dX1_bestOffer_12 (by decide) (fun c101 => ?_) (fun c101 => ?_)
      · have hv := o_pos hv c101
        exact hk45 _  ls (lv_sub hl [3] rfl) hv
      · have hv := o_neg hv c101
        refine lv_aload_n hx hb dX1_bestOffer_15 rfl (lv_at hl 0 rfl) ?_
        refine lv_iload hx hb dX1_bestOffer_16 (lv_at hl 4 rfl) ?_
        refine lv_lload_n hx hb dX1_bestOffer_18 rfl (lv_at hl 1 rfl) ?_
        refine lv_lload_n hx hb dX1_bestOffer_19 rfl (lv_at hl 2 rfl) ?_
        obtain ⟨r102, e102, hv⟩ := o_bind hv
        refine rcall_l (W.runS (As := [.ref (a0 0), .int x6, .long x1, .long x3]) (rest := []) hC (c_X1_offerBrings l D cA a0 u0 x6 x1 x3 r102 e102) (va_cwS 4 hts gX1_bestOffer_X1_offerBrings rfl rfl rfl (by decide +kernel) ⟨Nat.le_of_ble_eq_true rfl, Nat.le_of_ble_eq_true rfl⟩) ⟨roB_blind, roB_pre hK hZ (hws_1 hP0)⟩ rfl rfl hl.1 rfl (lv_room (Nat.le_of_ble_eq_true rfl)) dX1_bestOffer_20 ⟨Nat.le_of_ble_eq_true rfl, Nat.le_of_ble_eq_true rfl⟩) ?_
        refine lv_aload_n hx hb dX1_bestOffer_23 rfl (lv_at hl 0 rfl) ?_
        refine lv_iload hx hb dX1_bestOffer_24 (lv_at hl 3 rfl) ?_
        refine lv_lload_n hx hb dX1_bestOffer_26 rfl (lv_at hl 1 rfl) ?_
        refine lv_lload_n hx hb dX1_bestOffer_27 rfl (lv_at hl 2 rfl) ?_
        obtain ⟨r103, e103, hv⟩ := o_bind hv
        refine rcall_l (W.runS (As := [.ref (a0 0), .int x5, .long x1, .long x3]) (rest := [.long r102]) hC (c_X1_offerBrings l D cA a0 u0 x5 x1 x3 r103 e103) (va_cwS 4 hts gX1_bestOffer_X1_offerBrings rfl rfl rfl (by decide +kernel) ⟨Nat.le_of_ble_eq_true rfl, Nat.le_of_ble_eq_true rfl⟩) ⟨roB_blind, roB_pre hK hZ (hws_1 hP0)⟩ rfl rfl hl.1 rfl (lv_room (Nat.le_of_ble_eq_true rfl)) dX1_bestOffer_28 ⟨Nat.le_of_ble_eq_true rfl, Nat.le_of_ble_eq_true rfl⟩) ?_
        refine W.lcmp hx hb dX1_bestOffer_31 ?_
        refine lv_if_le (tgt := 39) hx hb dX1_bestOffer_32 (by decide) (fun c104 => ?_) (fun c104 => ?_)
        · have hv := o_pos hv c104
          refine lv_iinc (v := (x6 + 1)) (lv' := [(6, .int (x6 + 1)), (0, .ref (a0 0)), (1, .long x1), (3, .long x3), (5, .int x5)]) hx hb dX1_bestOffer_39 hl (k := 4) rfl rfl (by decide) rfl (fun ls hl => ?_)
          refine lv_goto (tgt := 6) hx hb dX1_bestOffer_42 (by decide) ?_
          exact hk6 _ _ _ _  ls (lv_sub hl [1, 2, 3, 4, 0] rfl) hv
        · have hv := o_neg hv c104
          refine lv_iload hx hb dX1_bestOffer_35 (lv_at hl 4 rfl) ?_
          refine lv_istore (lv' := [(5, .int x6), (0, .ref (a0 0)), (1, .long x1), (3, .long x3), (6, .int x6)]) hx hb dX1_bestOffer_37 hl (by decide) rfl (fun ls hl => ?_)
          refine lv_iinc (v := (x6 + 1)) (lv' := [(6, .int (x6 + 1)), (5, .int x6), (0, .ref (a0 0)), (1, .long x1), (3, .long x3)]) hx hb dX1_bestOffer_39 hl (k := 4) rfl rfl (by decide) rfl (fun ls hl => ?_)
          refine lv_goto (tgt := 6) hx hb dX1_bestOffer_42 (by decide) ?_
          exact hk6 _ _ _ _  ls (lv_sub hl [2, 3, 4, 1, 0] rfl) hv
  unfold f_X1_bestOffer at hv
  refine lv_iconst (v := 0) hx hb dX1_bestOffer_0 (by decide) ?_
  refine lv_istore (lv' := [(5, .int (0 : Int32)), (0, .ref (a0 0)), (1, .long x1), (3, .long x3)]) hx hb dX1_bestOffer_1 hl (by decide) rfl (fun ls hl => ?_)
  refine lv_iconst (v := 1) hx hb dX1_bestOffer_3 (by decide) ?_
  refine lv_istore (lv' := [(6, .int (1 : Int32)), (5, .int (0 : Int32)), (0, .ref (a0 0)), (1, .long x1), (3, .long x3)]) hx hb dX1_bestOffer_4 hl (by decide) rfl (fun ls hl => ?_)
  refine hB6 _ (fun z205_5 ls hl hv => ?_) 1000 _ _ _ _ ls (lv_sub hl [2, 3, 4, 1, 0] rfl) hv
  · skip
    refine lv_iload hx hb dX1_bestOffer_45 (lv_at hl 0 rfl) ?_
    exact fin dX1_bestOffer_47 hv
abbrev rm_X1_offers : Room := { frames := 5, cells := 0, slots := 0, locals := 116 }
set_option maxHeartbeats 4000000 in
set_option maxRecDepth 100000 in
theorem c_X1_offers (l : Launch) (D : va_G) (cA : ClassId) (a : Nat → Nat) (u : StS) (x1 : Int32) (x2 : Int32) (v : Int64) (hv : f_X1_offers u x1 x2 = some v)  : Met l yX1_offers wsX1_offers rm_X1_offers (va_Pc [.ref (a 0), .int x1, .int x2] (roB D cA [wS cA a u])) (vp_Sl (fun r => r = v)) 0 0 (fun _ => False) := by
  refine ro_l (cc := cX1_offers) (maxL := 12) (own := RX1) (by decide) rfl rfl (Nat.le_of_ble_eq_true rfl) ?_
  intro p e s m args below meth c Q ls hC hK hZ hws hl fin
  obtain ⟨hx, hb, hml, hown, hts⟩ := id hC
  have hl : lv_has ls 12 [(0, .ref (a 0)), (1, .int x1), (2, .int x2)] := hl
  have hP : va_P D vwCl (wS cA a u) s.heap := hws _ (List.mem_of_getElem? (i := 0) rfl)
  have hinX0 : ∀ w ∈ wsX00, w ∈ wsX1_offers := fun w h => List.mem_cons_of_mem _ (List.mem_append_right _ h)
  have hinX1 : ∀ w ∈ wsX10, w ∈ wsX1_offers := fun w h => List.mem_cons_of_mem _ (List.mem_append_left _ (List.mem_append_right _ h))
  have hB40 : ∀ (k87 : Nat → Int32 → Option (Int64)) (hk87 : ∀ (x10 : Nat) (x11 : Int32) (ls : Array Slot), lv_has ls 12 [(10, .ref (bx a x10 0)), (11, .int x11)] → k87 x10 x11 = some v → W p l e rm_X1_offers s m args below meth c s.heap [] 0 0 Q (F0 m 87 ls [])) (k140 : Int32 → Int64 → Int64 → Option (Int64)) (hk140 : ∀ (x2 : Int32) (x3 : Int64) (x5 : Int64) (ls : Array Slot), lv_has ls 12 [(2, .int x2), (3, .long x3), (5, .long x5)] → k140 x2 x3 x5 = some v → W p l e rm_X1_offers s m args below meth c s.heap [] 0 0 Q (F0 m 140 ls [])) (n : Nat) (x2 : Int32) (x3 : Int64) (x5 : Int64) (x7 : Int32) (x8 : Int32) (ls : Array Slot), lv_has ls 12 [(0, .ref (a 0)), (2, .int x2), (3, .long x3), (5, .long x5), (7, .int x7), (8, .int x8)] → B_X1_offers_40 u k87 k140 n x2 x3 x5 x7 x8 = some v → W p l e rm_X1_offers s m args below meth c s.heap [] 0 0 Q (F0 m 40 ls []) := by
    intro k87 hk87 k140 hk140 n
    induction n with
    | zero => intro x2 x3 x5 x7 x8 ls hl hv; exact absurd hv (by intro h; cases h)
    | succ n hk40 =>
      intro x2 x3 x5 x7 x8 ls hl hv
      rw [B_X1_offers_40] at hv
      refine lv_iload hx hb dX1_offers_40 (lv_at hl 5 rfl) ?_
      refine lv_aload_n hx hb dX1_offers_42 rfl (lv_at hl 0 rfl) ?_
      refine gtX1_buyerCount hx hb hts hinX1 hown hK hP (by decide +kernel) dX1_offers_43 ?_
      refine lv_icmp_ge (tgt := 140) hx hb dX1_offers_46 (by decide) (fun c101 => ?_) (fun c101 => ?_)
      · have hv := o_pos hv c101
        exact hk140 _ _ _  ls (lv_sub hl [1, 2, 3] rfl) hv
      · have hv := o_neg hv c101
        refine lv_iload hx hb dX1_offers_49 (lv_at hl 4 rfl) ?_
        refine lv_iconst (v := 3) hx hb dX1_offers_51 (by decide) ?_
        refine lv_irem hx hb dX1_offers_52 (by decide) ?_
        refine lv_istore (lv' := [(9, .int (x7 - x7 / (3 : Int32) * (3 : Int32))), (0, .ref (a 0)), (2, .int x2), (3, .long x3), (5, .long x5), (7, .int x7), (8, .int x8)]) hx hb dX1_offers_53 hl (by decide) rfl (fun ls hl => ?_)
        refine lv_iload hx hb dX1_offers_55 (lv_at hl 5 rfl) ?_
        refine lv_iconst (v := 3) hx hb dX1_offers_57 (by decide) ?_
        refine lv_idiv hx hb dX1_offers_58 (by decide) ?_
        refine lv_istore (lv' := [(7, .int (x7 / (3 : Int32))), (9, .int (x7 - x7 / (3 : Int32) * (3 : Int32))), (0, .ref (a 0)), (2, .int x2), (3, .long x3), (5, .long x5), (8, .int x8)]) hx hb dX1_offers_59 hl (by decide) rfl (fun ls hl => ?_)
        refine lv_aload_n hx hb dX1_offers_61 rfl (lv_at hl 2 rfl) ?_
        refine lv_iload hx hb dX1_offers_62 (lv_at hl 1 rfl) ?_
        obtain ⟨r102, e102, hv⟩ := o_bind hv
        refine rcall_r (W.runV (As := [.int (x7 - x7 / (3 : Int32) * (3 : Int32))]) (rest := []) hC (c_X1_bookOf l D cA a u (x7 - x7 / (3 : Int32) * (3 : Int32)) r102 e102) (cwV 1 hts gX1_offers_X1_bookOf rfl rfl rfl (by decide +kernel) ⟨Nat.le_of_ble_eq_true rfl, Nat.le_of_ble_eq_true rfl⟩) ⟨roB_blind, va_recv (ci := 1) (q0 := 0) hK hP rfl rfl, roB_pre hK hZ (hws_1 hP)⟩ rfl rfl hl.1 rfl (lv_room (Nat.le_of_ble_eq_true rfl)) dX1_offers_64 ⟨Nat.le_of_ble_eq_true rfl, Nat.le_of_ble_eq_true rfl⟩) ?_
        refine lv_astore (lv' := [(10, .ref (bx a r102 0)), (7, .int (x7 / (3 : Int32))), (9, .int (x7 - x7 / (3 : Int32) * (3 : Int32))), (0, .ref (a 0)), (2, .int x2), (3, .long x3), (5, .long x5), (8, .int x8)]) hx hb dX1_offers_67 hl (by decide) rfl (fun ls hl => ?_)
        refine lv_aload hx hb dX1_offers_69 (lv_at hl 0 rfl) ?_
        refine lv_lload_n hx hb dX1_offers_71 rfl (lv_at hl 5 rfl) ?_
        refine lv_lload hx hb dX1_offers_72 (lv_at hl 6 rfl) ?_
        obtain ⟨r103, e103, hv⟩ := o_bind hv
        refine rcall_i (W.runS (As := [.ref (bx a r102 0), .long x3, .long x5]) (rest := []) hC (c_X1_bestOffer l D cA (bx a r102) (bk u r102) x3 x5 r103 e103) (va_cwS 3 hts gX1_offers_X1_bestOffer rfl rfl rfl (by decide +kernel) ⟨Nat.le_of_ble_eq_true rfl, Nat.le_of_ble_eq_true rfl⟩) ⟨roB_blind, roB_pre hK hZ (hws_1 (wS_bk hP r102))⟩ rfl rfl hl.1 rfl (lv_room (Nat.le_of_ble_eq_true rfl)) dX1_offers_74 ⟨Nat.le_of_ble_eq_true rfl, Nat.le_of_ble_eq_true rfl⟩) ?_
        refine lv_istore (lv' := [(11, .int r103), (10, .ref (bx a r102 0)), (7, .int (x7 / (3 : Int32))), (9, .int (x7 - x7 / (3 : Int32) * (3 : Int32))), (0, .ref (a 0)), (2, .int x2), (3, .long x3), (5, .long x5), (8, .int x8)]) hx hb dX1_offers_77 hl (by decide) rfl (fun ls hl => ?_)
        refine lv_iload hx hb dX1_offers_79 (lv_at hl 3 rfl) ?_
        refine lv_iload_n hx hb dX1_offers_81 rfl (lv_at hl 5 rfl) ?_
        refine lv_iconst (v := 2) hx hb dX1_offers_82 (by decide) ?_
        refine lv_isub hx hb dX1_offers_83 ?_
        refine lv_icmp_ne (tgt := 112) hx hb dX1_offers_84 (by decide) (fun c104 => ?_) (fun c104 => ?_)
        · have hv := o_neg hv c104
          refine lv_aload hx hb dX1_offers_112 (lv_at hl 1 rfl) ?_
          refine lv_iload hx hb dX1_offers_114 (lv_at hl 0 rfl) ?_
          refine lv_lload_n hx hb dX1_offers_116 rfl (lv_at hl 6 rfl) ?_
          refine lv_lload hx hb dX1_offers_117 (lv_at hl 7 rfl) ?_
          obtain ⟨r105, e105, hv⟩ := o_bind hv
          refine rcall_l (W.runS (As := [.ref (bx a r102 0), .int r103, .long x3, .long x5]) (rest := []) hC (c_X1_offerBrings l D cA (bx a r102) (bk u r102) r103 x3 x5 r105 e105) (va_cwS 4 hts gX1_offers_X1_offerBrings rfl rfl rfl (by decide +kernel) ⟨Nat.le_of_ble_eq_true rfl, Nat.le_of_ble_eq_true rfl⟩) ⟨roB_blind, roB_pre hK hZ (hws_1 (wS_bk hP r102))⟩ rfl rfl hl.1 rfl (lv_room (Nat.le_of_ble_eq_true rfl)) dX1_offers_119 ⟨Nat.le_of_ble_eq_true rfl, Nat.le_of_ble_eq_true rfl⟩) ?_
          refine lv_lstore_n (lv' := [(3, .long r105), (11, .int r103), (10, .ref (bx a r102 0)), (7, .int (x7 / (3 : Int32))), (9, .int (x7 - x7 / (3 : Int32) * (3 : Int32))), (0, .ref (a 0)), (2, .int x2), (5, .long x5), (8, .int x8)]) hx hb dX1_offers_122 rfl hl (by decide) rfl (fun ls hl => ?_)
          refine lv_lload hx hb dX1_offers_123 (lv_at hl 7 rfl) ?_
          refine lv_aload hx hb dX1_offers_125 (lv_at hl 2 rfl) ?_
          obtain ⟨r106, e106, hv⟩ := o_bind hv
          refine rcall_i (W.runV (As := []) (rest := [.long x5]) hC (c_X0_allWeights l D cA (bx a r102) (bk u r102) r106 e106) (cwV 0 hts gX1_offers_X0_allWeights rfl rfl rfl (by decide +kernel) ⟨Nat.le_of_ble_eq_true rfl, Nat.le_of_ble_eq_true rfl⟩) ⟨roB_blind, va_recv (ci := 0) (q0 := 0) hK (wS_bk hP r102) rfl rfl, roB_pre hK hZ (hws_1 (wS_bk hP r102))⟩ rfl rfl hl.1 rfl (lv_room (Nat.le_of_ble_eq_true rfl)) dX1_offers_127 ⟨Nat.le_of_ble_eq_true rfl, Nat.le_of_ble_eq_true rfl⟩) ?_
          refine lv_i2l hx hb dX1_offers_130 rfl ?_
          refine lv_lmul hx hb dX1_offers_131 ?_
          refine lv_lstore (lv' := [(5, .long (x5 * (r106).toInt64)), (3, .long r105), (11, .int r103), (10, .ref (bx a r102 0)), (7, .int (x7 / (3 : Int32))), (9, .int (x7 - x7 / (3 : Int32) * (3 : Int32))), (0, .ref (a 0)), (2, .int x2), (8, .int x8)]) hx hb dX1_offers_132 hl (by decide) rfl (fun ls hl => ?_)
          refine lv_iinc (v := (x8 + 1)) (lv' := [(8, .int (x8 + 1)), (5, .long (x5 * (r106).toInt64)), (3, .long r105), (11, .int r103), (10, .ref (bx a r102 0)), (7, .int (x7 / (3 : Int32))), (9, .int (x7 - x7 / (3 : Int32) * (3 : Int32))), (0, .ref (a 0)), (2, .int x2)]) hx hb dX1_offers_134 hl (k := 8) rfl rfl (by decide) rfl (fun ls hl => ?_)
          refine lv_goto (tgt := 40) hx hb dX1_offers_137 (by decide) ?_
          exact hk40 _ _ _ _ _  ls (lv_sub hl [7, 8, 2, 1, 5, 0] rfl) hv
        · have hv := o_pos hv c104
          exact hk87 _ _  ls (lv_sub hl [1, 0] rfl) hv
  unfold f_X1_offers at hv
  refine lv_aload_n hx hb dX1_offers_0 rfl (lv_at hl 0 rfl) ?_
  refine lv_iload_n hx hb dX1_offers_1 rfl (lv_at hl 1 rfl) ?_
  obtain ⟨r207, e207, hv⟩ := o_bind hv
  refine rcall_i (W.runV (As := [.int x1]) (rest := []) hC (c_X1_isOrder l D cA a u x1 r207 e207) (cwV 1 hts gX1_offers_X1_isOrder rfl rfl rfl (by decide +kernel) ⟨Nat.le_of_ble_eq_true rfl, Nat.le_of_ble_eq_true rfl⟩) ⟨roB_blind, va_recv (ci := 1) (q0 := 0) hK hP rfl rfl, roB_pre hK hZ (hws_1 hP)⟩ rfl rfl hl.1 rfl (lv_room (Nat.le_of_ble_eq_true rfl)) dX1_offers_2 ⟨Nat.le_of_ble_eq_true rfl, Nat.le_of_ble_eq_true rfl⟩) ?_
  refine lv_if_eq (tgt := 25) hx hb dX1_offers_5 (by decide) (fun c208 => ?_) (fun c208 => ?_)
  · have hv := o_pos hv c208
    refine lv_ldc2 (v := -1000000000000000) hx hb hown (hts (.constantLong RX1 90 (-1000000000000000)) (by decide +kernel)) dX1_offers_25 ?_
    exact fin dX1_offers_28 hv
  · have hv := o_neg hv c208
    refine lv_iload_n hx hb dX1_offers_8 rfl (lv_at hl 2 rfl) ?_
    obtain ⟨r209, e209, hv⟩ := o_bind hv
    refine rcall_i (W.runS (As := [.int x2]) (rest := []) hC (c_X1_isPart l D cA x2 r209 e209) (va_cwS 1 hts gX1_offers_X1_isPart rfl rfl rfl (by decide +kernel) ⟨Nat.le_of_ble_eq_true rfl, Nat.le_of_ble_eq_true rfl⟩) ⟨roB_blind, roB_pre hK hZ hws_0⟩ rfl rfl hl.1 rfl (lv_room (Nat.le_of_ble_eq_true rfl)) dX1_offers_9 ⟨Nat.le_of_ble_eq_true rfl, Nat.le_of_ble_eq_true rfl⟩) ?_
    refine lv_if_ne (tgt := 29) hx hb dX1_offers_12 (by decide) (fun c210 => ?_) (fun c210 => ?_)
    · have hv := o_neg hv c210
      refine lv_lconst (v := 0) hx hb dX1_offers_29 (by decide) ?_
      refine lv_lstore_n (lv' := [(3, .long (0 : Int64)), (0, .ref (a 0)), (1, .int x1), (2, .int x2)]) hx hb dX1_offers_30 rfl hl (by decide) rfl (fun ls hl => ?_)
      refine lv_lconst (v := 1) hx hb dX1_offers_31 (by decide) ?_
      refine lv_lstore (lv' := [(5, .long (1 : Int64)), (3, .long (0 : Int64)), (0, .ref (a 0)), (1, .int x1), (2, .int x2)]) hx hb dX1_offers_32 hl (by decide) rfl (fun ls hl => ?_)
      refine lv_iload_n hx hb dX1_offers_34 rfl (lv_at hl 3 rfl) ?_
      refine lv_istore (lv' := [(7, .int x1), (5, .long (1 : Int64)), (3, .long (0 : Int64)), (0, .ref (a 0)), (1, .int x1), (2, .int x2)]) hx hb dX1_offers_35 hl (by decide) rfl (fun ls hl => ?_)
      refine lv_iconst (v := 0) hx hb dX1_offers_37 (by decide) ?_
      refine lv_istore (lv' := [(8, .int (0 : Int32)), (7, .int x1), (5, .long (1 : Int64)), (3, .long (0 : Int64)), (0, .ref (a 0)), (1, .int x1), (2, .int x2)]) hx hb dX1_offers_38 hl (by decide) rfl (fun ls hl => ?_)
      refine hB40 _ (fun z211_10 z211_11 ls hl hv => ?_) _ (fun z215_2 z215_3 z215_5 ls hl hv => ?_) 1000 _ _ _ _ _ ls (lv_sub hl [4, 6, 3, 2, 1, 0] rfl) hv
      · skip
        refine lv_aload hx hb dX1_offers_87 (lv_at hl 0 rfl) ?_
        refine lv_iload hx hb dX1_offers_89 (lv_at hl 1 rfl) ?_
        obtain ⟨r212, e212, hv⟩ := o_bind hv
        refine rcall_i (W.runV (As := [.int z211_11]) (rest := []) hC (c_X0_has l D cA (bx a z211_10) (bk u z211_10) z211_11 r212 e212) (cwV 1 hts gX1_offers_X0_has rfl rfl rfl (by decide +kernel) ⟨Nat.le_of_ble_eq_true rfl, Nat.le_of_ble_eq_true rfl⟩) ⟨roB_blind, va_recv (ci := 0) (q0 := 0) hK (wS_bk hP z211_10) rfl rfl, roB_pre hK hZ (hws_1 (wS_bk hP z211_10))⟩ rfl rfl hl.1 rfl (lv_room (Nat.le_of_ble_eq_true rfl)) dX1_offers_91 ⟨Nat.le_of_ble_eq_true rfl, Nat.le_of_ble_eq_true rfl⟩) ?_
        refine lv_if_eq (tgt := 108) hx hb dX1_offers_94 (by decide) (fun c213 => ?_) (fun c213 => ?_)
        · have hv := o_pos hv c213
          refine lv_ldc2 (v := 1001) hx hb hown (hts (.constantLong RX1 145 (1001)) (by decide +kernel)) dX1_offers_108 ?_
          exact fin dX1_offers_111 hv
        · have hv := o_neg hv c213
          refine lv_aload hx hb dX1_offers_97 (lv_at hl 0 rfl) ?_
          refine lv_iload hx hb dX1_offers_99 (lv_at hl 1 rfl) ?_
          obtain ⟨r214, e214, hv⟩ := o_bind hv
          refine rcall_i (W.runV (As := [.int z211_11]) (rest := []) hC (c_X0_worthAt l D cA (bx a z211_10) (bk u z211_10) z211_11 r214 e214) (cwV 1 hts gX1_offers_X0_worthAt rfl rfl rfl (by decide +kernel) ⟨Nat.le_of_ble_eq_true rfl, Nat.le_of_ble_eq_true rfl⟩) ⟨roB_blind, va_recv (ci := 0) (q0 := 0) hK (wS_bk hP z211_10) rfl rfl, roB_pre hK hZ (hws_1 (wS_bk hP z211_10))⟩ rfl rfl hl.1 rfl (lv_room (Nat.le_of_ble_eq_true rfl)) dX1_offers_101 ⟨Nat.le_of_ble_eq_true rfl, Nat.le_of_ble_eq_true rfl⟩) ?_
          refine lv_i2l hx hb dX1_offers_104 rfl ?_
          refine lv_goto (tgt := 111) hx hb dX1_offers_105 (by decide) ?_
          exact fin dX1_offers_111 hv
      · skip
        refine lv_lload_n hx hb dX1_offers_140 rfl (lv_at hl 1 rfl) ?_
        refine lv_lload hx hb dX1_offers_141 (lv_at hl 2 rfl) ?_
        refine lv_iload_n hx hb dX1_offers_143 rfl (lv_at hl 0 rfl) ?_
        obtain ⟨r216, e216, hv⟩ := o_bind hv
        refine rcall_l (W.runS (As := [.long z215_3, .long z215_5, .int z215_2]) (rest := []) hC (c_X1_leastPart l D cA z215_3 z215_5 z215_2 r216 e216) (va_cwS 3 hts gX1_offers_X1_leastPart rfl rfl rfl (by decide +kernel) ⟨Nat.le_of_ble_eq_true rfl, Nat.le_of_ble_eq_true rfl⟩) ⟨roB_blind, roB_pre hK hZ hws_0⟩ rfl rfl hl.1 rfl (lv_room (Nat.le_of_ble_eq_true rfl)) dX1_offers_144 ⟨Nat.le_of_ble_eq_true rfl, Nat.le_of_ble_eq_true rfl⟩) ?_
        exact fin dX1_offers_147 hv
    · have hv := o_pos hv c210
      refine lv_aload_n hx hb dX1_offers_15 rfl (lv_at hl 0 rfl) ?_
      refine lv_iload_n hx hb dX1_offers_16 rfl (lv_at hl 2 rfl) ?_
      refine lv_iconst (v := 2) hx hb dX1_offers_17 (by decide) ?_
      refine lv_isub hx hb dX1_offers_18 ?_
      obtain ⟨r217, e217, hv⟩ := o_bind hv
      refine rcall_i (W.runV (As := [.int (x2 - (2 : Int32))]) (rest := []) hC (c_X1_isBuyer l D cA a u (x2 - (2 : Int32)) r217 e217) (cwV 1 hts gX1_offers_X1_isBuyer rfl rfl rfl (by decide +kernel) ⟨Nat.le_of_ble_eq_true rfl, Nat.le_of_ble_eq_true rfl⟩) ⟨roB_blind, va_recv (ci := 1) (q0 := 0) hK hP rfl rfl, roB_pre hK hZ (hws_1 hP)⟩ rfl rfl hl.1 rfl (lv_room (Nat.le_of_ble_eq_true rfl)) dX1_offers_19 ⟨Nat.le_of_ble_eq_true rfl, Nat.le_of_ble_eq_true rfl⟩) ?_
      refine lv_if_ne (tgt := 29) hx hb dX1_offers_22 (by decide) (fun c218 => ?_) (fun c218 => ?_)
      · have hv := o_neg hv c218
        refine lv_lconst (v := 0) hx hb dX1_offers_29 (by decide) ?_
        refine lv_lstore_n (lv' := [(3, .long (0 : Int64)), (0, .ref (a 0)), (1, .int x1), (2, .int x2)]) hx hb dX1_offers_30 rfl hl (by decide) rfl (fun ls hl => ?_)
        refine lv_lconst (v := 1) hx hb dX1_offers_31 (by decide) ?_
        refine lv_lstore (lv' := [(5, .long (1 : Int64)), (3, .long (0 : Int64)), (0, .ref (a 0)), (1, .int x1), (2, .int x2)]) hx hb dX1_offers_32 hl (by decide) rfl (fun ls hl => ?_)
        refine lv_iload_n hx hb dX1_offers_34 rfl (lv_at hl 3 rfl) ?_
        refine lv_istore (lv' := [(7, .int x1), (5, .long (1 : Int64)), (3, .long (0 : Int64)), (0, .ref (a 0)), (1, .int x1), (2, .int x2)]) hx hb dX1_offers_35 hl (by decide) rfl (fun ls hl => ?_)
        refine lv_iconst (v := 0) hx hb dX1_offers_37 (by decide) ?_
        refine lv_istore (lv' := [(8, .int (0 : Int32)), (7, .int x1), (5, .long (1 : Int64)), (3, .long (0 : Int64)), (0, .ref (a 0)), (1, .int x1), (2, .int x2)]) hx hb dX1_offers_38 hl (by decide) rfl (fun ls hl => ?_)
        refine hB40 _ (fun z219_10 z219_11 ls hl hv => ?_) _ (fun z223_2 z223_3 z223_5 ls hl hv => ?_) 1000 _ _ _ _ _ ls (lv_sub hl [4, 6, 3, 2, 1, 0] rfl) hv
        · skip
          refine lv_aload hx hb dX1_offers_87 (lv_at hl 0 rfl) ?_
          refine lv_iload hx hb dX1_offers_89 (lv_at hl 1 rfl) ?_
          obtain ⟨r220, e220, hv⟩ := o_bind hv
          refine rcall_i (W.runV (As := [.int z219_11]) (rest := []) hC (c_X0_has l D cA (bx a z219_10) (bk u z219_10) z219_11 r220 e220) (cwV 1 hts gX1_offers_X0_has rfl rfl rfl (by decide +kernel) ⟨Nat.le_of_ble_eq_true rfl, Nat.le_of_ble_eq_true rfl⟩) ⟨roB_blind, va_recv (ci := 0) (q0 := 0) hK (wS_bk hP z219_10) rfl rfl, roB_pre hK hZ (hws_1 (wS_bk hP z219_10))⟩ rfl rfl hl.1 rfl (lv_room (Nat.le_of_ble_eq_true rfl)) dX1_offers_91 ⟨Nat.le_of_ble_eq_true rfl, Nat.le_of_ble_eq_true rfl⟩) ?_
          refine lv_if_eq (tgt := 108) hx hb dX1_offers_94 (by decide) (fun c221 => ?_) (fun c221 => ?_)
          · have hv := o_pos hv c221
            refine lv_ldc2 (v := 1001) hx hb hown (hts (.constantLong RX1 145 (1001)) (by decide +kernel)) dX1_offers_108 ?_
            exact fin dX1_offers_111 hv
          · have hv := o_neg hv c221
            refine lv_aload hx hb dX1_offers_97 (lv_at hl 0 rfl) ?_
            refine lv_iload hx hb dX1_offers_99 (lv_at hl 1 rfl) ?_
            obtain ⟨r222, e222, hv⟩ := o_bind hv
            refine rcall_i (W.runV (As := [.int z219_11]) (rest := []) hC (c_X0_worthAt l D cA (bx a z219_10) (bk u z219_10) z219_11 r222 e222) (cwV 1 hts gX1_offers_X0_worthAt rfl rfl rfl (by decide +kernel) ⟨Nat.le_of_ble_eq_true rfl, Nat.le_of_ble_eq_true rfl⟩) ⟨roB_blind, va_recv (ci := 0) (q0 := 0) hK (wS_bk hP z219_10) rfl rfl, roB_pre hK hZ (hws_1 (wS_bk hP z219_10))⟩ rfl rfl hl.1 rfl (lv_room (Nat.le_of_ble_eq_true rfl)) dX1_offers_101 ⟨Nat.le_of_ble_eq_true rfl, Nat.le_of_ble_eq_true rfl⟩) ?_
            refine lv_i2l hx hb dX1_offers_104 rfl ?_
            refine lv_goto (tgt := 111) hx hb dX1_offers_105 (by decide) ?_
            exact fin dX1_offers_111 hv
        · skip
          refine lv_lload_n hx hb dX1_offers_140 rfl (lv_at hl 1 rfl) ?_
          refine lv_lload hx hb dX1_offers_141 (lv_at hl 2 rfl) ?_
          refine lv_iload_n hx hb dX1_offers_143 rfl (lv_at hl 0 rfl) ?_
          obtain ⟨r224, e224, hv⟩ := o_bind hv
          refine rcall_l (W.runS (As := [.long z223_3, .long z223_5, .int z223_2]) (rest := []) hC (c_X1_leastPart l D cA z223_3 z223_5 z223_2 r224 e224) (va_cwS 3 hts gX1_offers_X1_leastPart rfl rfl rfl (by decide +kernel) ⟨Nat.le_of_ble_eq_true rfl, Nat.le_of_ble_eq_true rfl⟩) ⟨roB_blind, roB_pre hK hZ hws_0⟩ rfl rfl hl.1 rfl (lv_room (Nat.le_of_ble_eq_true rfl)) dX1_offers_144 ⟨Nat.le_of_ble_eq_true rfl, Nat.le_of_ble_eq_true rfl⟩) ?_
          exact fin dX1_offers_147 hv
      · have hv := o_pos hv c218
        refine lv_ldc2 (v := -1000000000000000) hx hb hown (hts (.constantLong RX1 90 (-1000000000000000)) (by decide +kernel)) dX1_offers_25 ?_
        exact fin dX1_offers_28 hv
abbrev rm_X1_pairsFrom : Room := { frames := 1, cells := 0, slots := 0, locals := 21 }
set_option maxHeartbeats 4000000 in
set_option maxRecDepth 100000 in
theorem c_X1_pairsFrom (l : Launch) (D : va_G) (cA : ClassId) (a0 : Nat → Nat) (u0 : StB) (a1 : Nat → Nat) (u1 : StB) (x2 : Int32) (v : Int32) (hv : f_X1_pairsFrom u0 u1 x2 = some v)  : Met l yX1_pairsFrom wsX1_pairsFrom rm_X1_pairsFrom (va_Pc [.ref (a0 0), .ref (a1 0), .int x2] (roB D cA [wB cA a0 u0, wB cA a1 u1])) (vp_Si (fun r => r = v)) 0 0 (fun _ => False) := by
  refine ro_i (cc := cX1_pairsFrom) (maxL := 6) (own := RX1) (by decide) rfl rfl (Nat.le_of_ble_eq_true rfl) ?_
  intro p e s m args below meth c Q ls hC hK hZ hws hl fin
  obtain ⟨hx, hb, hml, hown, hts⟩ := id hC
  have hl : lv_has ls 6 [(0, .ref (a0 0)), (1, .ref (a1 0)), (2, .int x2)] := hl
  have hP0 : va_P D vwCl (wB cA a0 u0) s.heap := hws _ (List.mem_of_getElem? (i := 0) rfl)
  have hP1 : va_P D vwCl (wB cA a1 u1) s.heap := hws _ (List.mem_of_getElem? (i := 1) rfl)
  have hinX0 : ∀ w ∈ wsX00, w ∈ wsX1_pairsFrom := fun w h => List.mem_cons_of_mem _ (List.mem_append_right _ h)
  have hB17 : ∀ (k65 : Int32 → Int32 → Int32 → Option (Int32)) (hk65 : ∀ (x2 : Int32) (x3 : Int32) (x4 : Int32) (ls : Array Slot), lv_has ls 6 [(0, .ref (a0 0)), (1, .ref (a1 0)), (2, .int x2), (3, .int x3), (4, .int x4)] → k65 x2 x3 x4 = some v → W p l e rm_X1_pairsFrom s m args below meth c s.heap [] 0 0 Q (F0 m 65 ls [])) (n : Nat) (x2 : Int32) (x3 : Int32) (x4 : Int32) (x5 : Int32) (ls : Array Slot), lv_has ls 6 [(0, .ref (a0 0)), (1, .ref (a1 0)), (2, .int x2), (3, .int x3), (4, .int x4), (5, .int x5)] → B_X1_pairsFrom_17 u0 u1 k65 n x2 x3 x4 x5 = some v → W p l e rm_X1_pairsFrom s m args below meth c s.heap [] 0 0 Q (F0 m 17 ls []) := by
    intro k65 hk65 n
    induction n with
    | zero => intro x2 x3 x4 x5 ls hl hv; exact absurd hv (by intro h; cases h)
    | succ n hk17 =>
      intro x2 x3 x4 x5 ls hl hv
      rw [B_X1_pairsFrom_17] at hv
      refine lv_iload hx hb dX1_pairsFrom_17 (lv_at hl 5 rfl) ?_
      refine lv_aload_n hx hb dX1_pairsFrom_19 rfl (lv_at hl 1 rfl) ?_
      refine gnX0_size hx hb hts hinX0 hown hK hZ hP1 dX1_pairsFrom_20 ?_
      refine lv_icmp_ge (tgt := 65) hx hb dX1_pairsFrom_23 (by decide) (fun c101 => ?_) (fun c101 => ?_)
      · have hv := o_pos hv c101
        exact hk65 _ _ _  ls (lv_sub hl [0, 1, 2, 3, 4] rfl) hv
      · have hv := o_neg hv c101
        refine lv_aload_n hx hb dX1_pairsFrom_26 rfl (lv_at hl 0 rfl) ?_
        refine lv_iload hx hb dX1_pairsFrom_27 (lv_at hl 4 rfl) ?_
        obtain ⟨r102, e102, hv⟩ := o_bind hv
        refine rcall_i (W.runV (As := [.int x4]) (rest := []) hC (c_X0_worthAt l D cA a0 u0 x4 r102 e102) (cwV 1 hts gX1_pairsFrom_X0_worthAt rfl rfl rfl (by decide +kernel) ⟨Nat.le_of_ble_eq_true rfl, Nat.le_of_ble_eq_true rfl⟩) ⟨roB_blind, va_recv (ci := 0) (q0 := 0) hK hP0 rfl rfl, roB_pre hK hZ (hws_1 hP0)⟩ rfl rfl hl.1 rfl (lv_room (Nat.le_of_ble_eq_true rfl)) dX1_pairsFrom_29 ⟨Nat.le_of_ble_eq_true rfl, Nat.le_of_ble_eq_true rfl⟩) ?_
        refine lv_aload_n hx hb dX1_pairsFrom_32 rfl (lv_at hl 1 rfl) ?_
        refine lv_iload hx hb dX1_pairsFrom_33 (lv_at hl 5 rfl) ?_
        obtain ⟨r103, e103, hv⟩ := o_bind hv
        refine rcall_i (W.runV (As := [.int x5]) (rest := [.int r102]) hC (c_X0_worthAt l D cA a1 u1 x5 r103 e103) (cwV 1 hts gX1_pairsFrom_X0_worthAt rfl rfl rfl (by decide +kernel) ⟨Nat.le_of_ble_eq_true rfl, Nat.le_of_ble_eq_true rfl⟩) ⟨roB_blind, va_recv (ci := 0) (q0 := 0) hK hP1 rfl rfl, roB_pre hK hZ (hws_1 hP1)⟩ rfl rfl hl.1 rfl (lv_room (Nat.le_of_ble_eq_true rfl)) dX1_pairsFrom_35 ⟨Nat.le_of_ble_eq_true rfl, Nat.le_of_ble_eq_true rfl⟩) ?_
        refine lv_iadd hx hb dX1_pairsFrom_38 ?_
        refine lv_iload_n hx hb dX1_pairsFrom_39 rfl (lv_at hl 2 rfl) ?_
        refine lv_icmp_lt (tgt := 59) hx hb dX1_pairsFrom_40 (by decide) (fun c104 => ?_) (fun c104 => ?_)
        · have hv := o_pos hv c104
          refine lv_iinc (v := (x5 + 1)) (lv' := [(5, .int (x5 + 1)), (0, .ref (a0 0)), (1, .ref (a1 0)), (2, .int x2), (3, .int x3), (4, .int x4)]) hx hb dX1_pairsFrom_59 hl (k := 5) rfl rfl (by decide) rfl (fun ls hl => ?_)
          refine lv_goto (tgt := 17) hx hb dX1_pairsFrom_62 (by decide) ?_
          exact hk17 _ _ _ _  ls (lv_sub hl [1, 2, 3, 4, 5, 0] rfl) hv
        · have hv := o_neg hv c104
          refine lv_iload_n hx hb dX1_pairsFrom_43 rfl (lv_at hl 3 rfl) ?_
          refine lv_aload_n hx hb dX1_pairsFrom_44 rfl (lv_at hl 0 rfl) ?_
          refine lv_iload hx hb dX1_pairsFrom_45 (lv_at hl 4 rfl) ?_
          obtain ⟨r105, e105, hv⟩ := o_bind hv
          refine rcall_i (W.runV (As := [.int x4]) (rest := [.int x3]) hC (c_X0_weightAt l D cA a0 u0 x4 r105 e105) (cwV 1 hts gX1_pairsFrom_X0_weightAt rfl rfl rfl (by decide +kernel) ⟨Nat.le_of_ble_eq_true rfl, Nat.le_of_ble_eq_true rfl⟩) ⟨roB_blind, va_recv (ci := 0) (q0 := 0) hK hP0 rfl rfl, roB_pre hK hZ (hws_1 hP0)⟩ rfl rfl hl.1 rfl (lv_room (Nat.le_of_ble_eq_true rfl)) dX1_pairsFrom_47 ⟨Nat.le_of_ble_eq_true rfl, Nat.le_of_ble_eq_true rfl⟩) ?_
          refine lv_aload_n hx hb dX1_pairsFrom_50 rfl (lv_at hl 1 rfl) ?_
          refine lv_iload hx hb dX1_pairsFrom_51 (lv_at hl 5 rfl) ?_
          obtain ⟨r106, e106, hv⟩ := o_bind hv
          refine rcall_i (W.runV (As := [.int x5]) (rest := [.int r105, .int x3]) hC (c_X0_weightAt l D cA a1 u1 x5 r106 e106) (cwV 1 hts gX1_pairsFrom_X0_weightAt rfl rfl rfl (by decide +kernel) ⟨Nat.le_of_ble_eq_true rfl, Nat.le_of_ble_eq_true rfl⟩) ⟨roB_blind, va_recv (ci := 0) (q0 := 0) hK hP1 rfl rfl, roB_pre hK hZ (hws_1 hP1)⟩ rfl rfl hl.1 rfl (lv_room (Nat.le_of_ble_eq_true rfl)) dX1_pairsFrom_53 ⟨Nat.le_of_ble_eq_true rfl, Nat.le_of_ble_eq_true rfl⟩) ?_
          refine lv_imul hx hb dX1_pairsFrom_56 ?_
          refine lv_iadd hx hb dX1_pairsFrom_57 ?_
          refine lv_istore_n (lv' := [(3, .int (x3 + (r105 * r106))), (0, .ref (a0 0)), (1, .ref (a1 0)), (2, .int x2), (4, .int x4), (5, .int x5)]) hx hb dX1_pairsFrom_58 rfl hl (by decide) rfl (fun ls hl => ?_)
          refine lv_iinc (v := (x5 + 1)) (lv' := [(5, .int (x5 + 1)), (3, .int (x3 + (r105 * r106))), (0, .ref (a0 0)), (1, .ref (a1 0)), (2, .int x2), (4, .int x4)]) hx hb dX1_pairsFrom_59 hl (k := 5) rfl rfl (by decide) rfl (fun ls hl => ?_)
          refine lv_goto (tgt := 17) hx hb dX1_pairsFrom_62 (by decide) ?_
          exact hk17 _ _ _ _  ls (lv_sub hl [2, 3, 4, 1, 5, 0] rfl) hv
  have hB5 : ∀ (k71 : Int32 → Option (Int32)) (hk71 : ∀ (x3 : Int32) (ls : Array Slot), lv_has ls 6 [(3, .int x3)] → k71 x3 = some v → W p l e rm_X1_pairsFrom s m args below meth c s.heap [] 0 0 Q (F0 m 71 ls [])) (n : Nat) (x2 : Int32) (x3 : Int32) (x4 : Int32) (ls : Array Slot), lv_has ls 6 [(0, .ref (a0 0)), (1, .ref (a1 0)), (2, .int x2), (3, .int x3), (4, .int x4)] → B_X1_pairsFrom_5 u0 u1 k71 n x2 x3 x4 = some v → W p l e rm_X1_pairsFrom s m args below meth c s.heap [] 0 0 Q (F0 m 5 ls []) := by
    intro k71 hk71 n
    induction n with
    | zero => intro x2 x3 x4 ls hl hv; exact absurd hv (by intro h; cases h)
    | succ n hk5 =>
      intro x2 x3 x4 ls hl hv
      rw [B_X1_pairsFrom_5] at hv
      refine lv_iload hx hb dX1_pairsFrom_5 (lv_at hl 4 rfl) ?_
      refine lv_aload_n hx hb dX1_pairsFrom_7 rfl (lv_at hl 0 rfl) ?_
      refine gnX0_size hx hb hts hinX0 hown hK hZ hP0 dX1_pairsFrom_8 ?_
      refine lv_icmp_ge (tgt := 71) hx hb dX1_pairsFrom_11 (by decide) (fun c207 => ?_) (fun c207 => ?_)
      · have hv := o_pos hv c207
        exact hk71 _  ls (lv_sub hl [3] rfl) hv
      · have hv := o_neg hv c207
        refine lv_iconst (v := 0) hx hb dX1_pairsFrom_14 (by decide) ?_
        refine lv_istore (lv' := [(5, .int (0 : Int32)), (0, .ref (a0 0)), (1, .ref (a1 0)), (2, .int x2), (3, .int x3), (4, .int x4)]) hx hb dX1_pairsFrom_15 hl (by decide) rfl (fun ls hl => ?_)
        refine hB17 _ (fun z208_2 z208_3 z208_4 ls hl hv => ?_) 1000 _ _ _ _ ls (lv_sub hl [1, 2, 3, 4, 5, 0] rfl) hv
        · skip
          refine lv_iinc (v := (z208_4 + 1)) (lv' := [(4, .int (z208_4 + 1)), (0, .ref (a0 0)), (1, .ref (a1 0)), (2, .int z208_2), (3, .int z208_3)]) hx hb dX1_pairsFrom_65 hl (k := 4) rfl rfl (by decide) rfl (fun ls hl => ?_)
          refine lv_goto (tgt := 5) hx hb dX1_pairsFrom_68 (by decide) ?_
          exact hk5 _ _ _  ls (lv_sub hl [1, 2, 3, 4, 0] rfl) hv
  unfold f_X1_pairsFrom at hv
  refine lv_iconst (v := 0) hx hb dX1_pairsFrom_0 (by decide) ?_
  refine lv_istore_n (lv' := [(3, .int (0 : Int32)), (0, .ref (a0 0)), (1, .ref (a1 0)), (2, .int x2)]) hx hb dX1_pairsFrom_1 rfl hl (by decide) rfl (fun ls hl => ?_)
  refine lv_iconst (v := 0) hx hb dX1_pairsFrom_2 (by decide) ?_
  refine lv_istore (lv' := [(4, .int (0 : Int32)), (3, .int (0 : Int32)), (0, .ref (a0 0)), (1, .ref (a1 0)), (2, .int x2)]) hx hb dX1_pairsFrom_3 hl (by decide) rfl (fun ls hl => ?_)
  refine hB5 _ (fun z309_3 ls hl hv => ?_) 1000 _ _ _ ls (lv_sub hl [2, 3, 4, 1, 0] rfl) hv
  · skip
    refine lv_iload_n hx hb dX1_pairsFrom_71 rfl (lv_at hl 0 rfl) ?_
    exact fin dX1_pairsFrom_72 hv
abbrev rm_X1_bestSum : Room := { frames := 2, cells := 0, slots := 0, locals := 46 }
set_option maxHeartbeats 4000000 in
set_option maxRecDepth 100000 in
theorem c_X1_bestSum (l : Launch) (D : va_G) (cA : ClassId) (a0 : Nat → Nat) (u0 : StB) (a1 : Nat → Nat) (u1 : StB) (v : Int32) (hv : f_X1_bestSum u0 u1 = some v)  : Met l yX1_bestSum wsX1_bestSum rm_X1_bestSum (va_Pc [.ref (a0 0), .ref (a1 0)] (roB D cA [wB cA a0 u0, wB cA a1 u1])) (vp_Si (fun r => r = v)) 0 0 (fun _ => False) := by
  refine ro_i (cc := cX1_bestSum) (maxL := 8) (own := RX1) (by decide) rfl rfl (Nat.le_of_ble_eq_true rfl) ?_
  intro p e s m args below meth c Q ls hC hK hZ hws hl fin
  obtain ⟨hx, hb, hml, hown, hts⟩ := id hC
  have hl : lv_has ls 8 [(0, .ref (a0 0)), (1, .ref (a1 0))] := hl
  have hP0 : va_P D vwCl (wB cA a0 u0) s.heap := hws _ (List.mem_of_getElem? (i := 0) rfl)
  have hP1 : va_P D vwCl (wB cA a1 u1) s.heap := hws _ (List.mem_of_getElem? (i := 1) rfl)
  have hinX0 : ∀ w ∈ wsX00, w ∈ wsX1_bestSum := fun w h => List.mem_cons_of_mem _ (List.mem_append_right _ h)
  have hB19 : ∀ (k85 : Int32 → Int32 → Int32 → Option (Int32)) (hk85 : ∀ (x2 : Int32) (x3 : Int32) (x4 : Int32) (ls : Array Slot), lv_has ls 8 [(0, .ref (a0 0)), (1, .ref (a1 0)), (2, .int x2), (3, .int x3), (4, .int x4)] → k85 x2 x3 x4 = some v → W p l e rm_X1_bestSum s m args below meth c s.heap [] 0 0 Q (F0 m 85 ls [])) (n : Nat) (x2 : Int32) (x3 : Int32) (x4 : Int32) (x5 : Int32) (ls : Array Slot), lv_has ls 8 [(0, .ref (a0 0)), (1, .ref (a1 0)), (2, .int x2), (3, .int x3), (4, .int x4), (5, .int x5)] → B_X1_bestSum_19 u0 u1 k85 n x2 x3 x4 x5 = some v → W p l e rm_X1_bestSum s m args below meth c s.heap [] 0 0 Q (F0 m 19 ls []) := by
    intro k85 hk85 n
    induction n with
    | zero => intro x2 x3 x4 x5 ls hl hv; exact absurd hv (by intro h; cases h)
    | succ n hk19 =>
      intro x2 x3 x4 x5 ls hl hv
      rw [B_X1_bestSum_19] at hv
      refine lv_iload hx hb dX1_bestSum_19 (lv_at hl 5 rfl) ?_
      refine lv_aload_n hx hb dX1_bestSum_21 rfl (lv_at hl 1 rfl) ?_
      refine gnX0_size hx hb hts hinX0 hown hK hZ hP1 dX1_bestSum_22 ?_
      refine lv_icmp_ge (tgt := 85) hx hb dX1_bestSum_25 (by decide) (fun c101 => ?_) (fun c101 => ?_)
      · have hv := o_pos hv c101
        exact hk85 _ _ _  ls (lv_sub hl [0, 1, 2, 3, 4] rfl) hv
      · have hv := o_neg hv c101
        refine lv_aload_n hx hb dX1_bestSum_28 rfl (lv_at hl 0 rfl) ?_
        refine lv_iload hx hb dX1_bestSum_29 (lv_at hl 4 rfl) ?_
        obtain ⟨r102, e102, hv⟩ := o_bind hv
        refine rcall_i (W.runV (As := [.int x4]) (rest := []) hC (c_X0_worthAt l D cA a0 u0 x4 r102 e102) (cwV 1 hts gX1_bestSum_X0_worthAt rfl rfl rfl (by decide +kernel) ⟨Nat.le_of_ble_eq_true rfl, Nat.le_of_ble_eq_true rfl⟩) ⟨roB_blind, va_recv (ci := 0) (q0 := 0) hK hP0 rfl rfl, roB_pre hK hZ (hws_1 hP0)⟩ rfl rfl hl.1 rfl (lv_room (Nat.le_of_ble_eq_true rfl)) dX1_bestSum_31 ⟨Nat.le_of_ble_eq_true rfl, Nat.le_of_ble_eq_true rfl⟩) ?_
        refine lv_aload_n hx hb dX1_bestSum_34 rfl (lv_at hl 1 rfl) ?_
        refine lv_iload hx hb dX1_bestSum_35 (lv_at hl 5 rfl) ?_
        obtain ⟨r103, e103, hv⟩ := o_bind hv
        refine rcall_i (W.runV (As := [.int x5]) (rest := [.int r102]) hC (c_X0_worthAt l D cA a1 u1 x5 r103 e103) (cwV 1 hts gX1_bestSum_X0_worthAt rfl rfl rfl (by decide +kernel) ⟨Nat.le_of_ble_eq_true rfl, Nat.le_of_ble_eq_true rfl⟩) ⟨roB_blind, va_recv (ci := 0) (q0 := 0) hK hP1 rfl rfl, roB_pre hK hZ (hws_1 hP1)⟩ rfl rfl hl.1 rfl (lv_room (Nat.le_of_ble_eq_true rfl)) dX1_bestSum_37 ⟨Nat.le_of_ble_eq_true rfl, Nat.le_of_ble_eq_true rfl⟩) ?_
        refine lv_iadd hx hb dX1_bestSum_40 ?_
        refine lv_istore (lv' := [(6, .int (r102 + r103)), (0, .ref (a0 0)), (1, .ref (a1 0)), (2, .int x2), (3, .int x3), (4, .int x4), (5, .int x5)]) hx hb dX1_bestSum_41 hl (by decide) rfl (fun ls hl => ?_)
        refine lv_iload hx hb dX1_bestSum_43 (lv_at hl 0 rfl) ?_
        refine lv_aload_n hx hb dX1_bestSum_45 rfl (lv_at hl 1 rfl) ?_
        refine lv_aload_n hx hb dX1_bestSum_46 rfl (lv_at hl 2 rfl) ?_
        refine lv_iload hx hb dX1_bestSum_47 (lv_at hl 0 rfl) ?_
        obtain ⟨r104, e104, hv⟩ := o_bind hv
        refine rcall_i (W.runS (As := [.ref (a0 0), .ref (a1 0), .int (r102 + r103)]) (rest := [.int (r102 + r103)]) hC (c_X1_pairsFrom l D cA a0 u0 a1 u1 (r102 + r103) r104 e104) (va_cwS 3 hts gX1_bestSum_X1_pairsFrom rfl rfl rfl (by decide +kernel) ⟨Nat.le_of_ble_eq_true rfl, Nat.le_of_ble_eq_true rfl⟩) ⟨roB_blind, roB_pre hK hZ (hws_2 hP0 hP1)⟩ rfl rfl hl.1 rfl (lv_room (Nat.le_of_ble_eq_true rfl)) dX1_bestSum_49 ⟨Nat.le_of_ble_eq_true rfl, Nat.le_of_ble_eq_true rfl⟩) ?_
        refine lv_imul hx hb dX1_bestSum_52 ?_
        refine lv_istore (lv' := [(7, .int ((r102 + r103) * r104)), (6, .int (r102 + r103)), (0, .ref (a0 0)), (1, .ref (a1 0)), (2, .int x2), (3, .int x3), (4, .int x4), (5, .int x5)]) hx hb dX1_bestSum_53 hl (by decide) rfl (fun ls hl => ?_)
        refine lv_iload hx hb dX1_bestSum_55 (lv_at hl 0 rfl) ?_
        refine lv_iload_n hx hb dX1_bestSum_57 rfl (lv_at hl 5 rfl) ?_
        refine lv_icmp_gt (tgt := 73) hx hb dX1_bestSum_58 (by decide) (fun c105 => ?_) (fun c105 => ?_)
        · have hv := o_pos hv c105
          refine lv_iload hx hb dX1_bestSum_73 (lv_at hl 1 rfl) ?_
          refine lv_istore_n (lv' := [(2, .int (r102 + r103)), (7, .int ((r102 + r103) * r104)), (6, .int (r102 + r103)), (0, .ref (a0 0)), (1, .ref (a1 0)), (3, .int x3), (4, .int x4), (5, .int x5)]) hx hb dX1_bestSum_75 rfl hl (by decide) rfl (fun ls hl => ?_)
          refine lv_iload hx hb dX1_bestSum_76 (lv_at hl 1 rfl) ?_
          refine lv_istore_n (lv' := [(3, .int ((r102 + r103) * r104)), (2, .int (r102 + r103)), (7, .int ((r102 + r103) * r104)), (6, .int (r102 + r103)), (0, .ref (a0 0)), (1, .ref (a1 0)), (4, .int x4), (5, .int x5)]) hx hb dX1_bestSum_78 rfl hl (by decide) rfl (fun ls hl => ?_)
          refine lv_iinc (v := (x5 + 1)) (lv' := [(5, .int (x5 + 1)), (3, .int ((r102 + r103) * r104)), (2, .int (r102 + r103)), (7, .int ((r102 + r103) * r104)), (6, .int (r102 + r103)), (0, .ref (a0 0)), (1, .ref (a1 0)), (4, .int x4)]) hx hb dX1_bestSum_79 hl (k := 7) rfl rfl (by decide) rfl (fun ls hl => ?_)
          refine lv_goto (tgt := 19) hx hb dX1_bestSum_82 (by decide) ?_
          exact hk19 _ _ _ _  ls (lv_sub hl [5, 6, 2, 1, 7, 0] rfl) hv
        · have hv := o_neg hv c105
          refine lv_iload hx hb dX1_bestSum_61 (lv_at hl 0 rfl) ?_
          refine lv_iload_n hx hb dX1_bestSum_63 rfl (lv_at hl 5 rfl) ?_
          refine lv_icmp_ne (tgt := 79) hx hb dX1_bestSum_64 (by decide) (fun c106 => ?_) (fun c106 => ?_)
          · have hv := o_neg hv c106
            refine lv_iinc (v := (x5 + 1)) (lv' := [(5, .int (x5 + 1)), (7, .int ((r102 + r103) * r104)), (6, .int (r102 + r103)), (0, .ref (a0 0)), (1, .ref (a1 0)), (2, .int x2), (3, .int x3), (4, .int x4)]) hx hb dX1_bestSum_79 hl (k := 7) rfl rfl (by decide) rfl (fun ls hl => ?_)
            refine lv_goto (tgt := 19) hx hb dX1_bestSum_82 (by decide) ?_
            exact hk19 _ _ _ _  ls (lv_sub hl [3, 4, 5, 6, 7, 0] rfl) hv
          · have hv := o_pos hv c106
            refine lv_iload hx hb dX1_bestSum_67 (lv_at hl 1 rfl) ?_
            refine lv_iload_n hx hb dX1_bestSum_69 rfl (lv_at hl 4 rfl) ?_
            refine lv_icmp_ge (tgt := 79) hx hb dX1_bestSum_70 (by decide) (fun c107 => ?_) (fun c107 => ?_)
            · have hv := o_pos hv c107
              refine lv_iinc (v := (x5 + 1)) (lv' := [(5, .int (x5 + 1)), (7, .int ((r102 + r103) * r104)), (6, .int (r102 + r103)), (0, .ref (a0 0)), (1, .ref (a1 0)), (2, .int x2), (3, .int x3), (4, .int x4)]) hx hb dX1_bestSum_79 hl (k := 7) rfl rfl (by decide) rfl (fun ls hl => ?_)
              refine lv_goto (tgt := 19) hx hb dX1_bestSum_82 (by decide) ?_
              exact hk19 _ _ _ _  ls (lv_sub hl [3, 4, 5, 6, 7, 0] rfl) hv
            · have hv := o_neg hv c107
              refine lv_iload hx hb dX1_bestSum_73 (lv_at hl 1 rfl) ?_
              refine lv_istore_n (lv' := [(2, .int (r102 + r103)), (7, .int ((r102 + r103) * r104)), (6, .int (r102 + r103)), (0, .ref (a0 0)), (1, .ref (a1 0)), (3, .int x3), (4, .int x4), (5, .int x5)]) hx hb dX1_bestSum_75 rfl hl (by decide) rfl (fun ls hl => ?_)
              refine lv_iload hx hb dX1_bestSum_76 (lv_at hl 1 rfl) ?_
              refine lv_istore_n (lv' := [(3, .int ((r102 + r103) * r104)), (2, .int (r102 + r103)), (7, .int ((r102 + r103) * r104)), (6, .int (r102 + r103)), (0, .ref (a0 0)), (1, .ref (a1 0)), (4, .int x4), (5, .int x5)]) hx hb dX1_bestSum_78 rfl hl (by decide) rfl (fun ls hl => ?_)
              refine lv_iinc (v := (x5 + 1)) (lv' := [(5, .int (x5 + 1)), (3, .int ((r102 + r103) * r104)), (2, .int (r102 + r103)), (7, .int ((r102 + r103) * r104)), (6, .int (r102 + r103)), (0, .ref (a0 0)), (1, .ref (a1 0)), (4, .int x4)]) hx hb dX1_bestSum_79 hl (k := 7) rfl rfl (by decide) rfl (fun ls hl => ?_)
              refine lv_goto (tgt := 19) hx hb dX1_bestSum_82 (by decide) ?_
              exact hk19 _ _ _ _  ls (lv_sub hl [5, 6, 2, 1, 7, 0] rfl) hv
  have hB7 : ∀ (k91 : Int32 → Option (Int32)) (hk91 : ∀ (x2 : Int32) (ls : Array Slot), lv_has ls 8 [(2, .int x2)] → k91 x2 = some v → W p l e rm_X1_bestSum s m args below meth c s.heap [] 0 0 Q (F0 m 91 ls [])) (n : Nat) (x2 : Int32) (x3 : Int32) (x4 : Int32) (ls : Array Slot), lv_has ls 8 [(0, .ref (a0 0)), (1, .ref (a1 0)), (2, .int x2), (3, .int x3), (4, .int x4)] → B_X1_bestSum_7 u0 u1 k91 n x2 x3 x4 = some v → W p l e rm_X1_bestSum s m args below meth c s.heap [] 0 0 Q (F0 m 7 ls []) := by
    intro k91 hk91 n
    induction n with
    | zero => intro x2 x3 x4 ls hl hv; exact absurd hv (by intro h; cases h)
    | succ n hk7 =>
      intro x2 x3 x4 ls hl hv
      rw [B_X1_bestSum_7] at hv
      refine lv_iload hx hb dX1_bestSum_7 (lv_at hl 4 rfl) ?_
      refine lv_aload_n hx hb dX1_bestSum_9 rfl (lv_at hl 0 rfl) ?_
      refine gnX0_size hx hb hts hinX0 hown hK hZ hP0 dX1_bestSum_10 ?_
      refine lv_icmp_ge (tgt := 91) hx hb dX1_bestSum_13 (by decide) (fun c208 => ?_) (fun c208 => ?_)
      · have hv := o_pos hv c208
        exact hk91 _  ls (lv_sub hl [2] rfl) hv
      · have hv := o_neg hv c208
        refine lv_iconst (v := 0) hx hb dX1_bestSum_16 (by decide) ?_
        refine lv_istore (lv' := [(5, .int (0 : Int32)), (0, .ref (a0 0)), (1, .ref (a1 0)), (2, .int x2), (3, .int x3), (4, .int x4)]) hx hb dX1_bestSum_17 hl (by decide) rfl (fun ls hl => ?_)
        refine hB19 _ (fun z209_2 z209_3 z209_4 ls hl hv => ?_) 1000 _ _ _ _ ls (lv_sub hl [1, 2, 3, 4, 5, 0] rfl) hv
        · skip
          refine lv_iinc (v := (z209_4 + 1)) (lv' := [(4, .int (z209_4 + 1)), (0, .ref (a0 0)), (1, .ref (a1 0)), (2, .int z209_2), (3, .int z209_3)]) hx hb dX1_bestSum_85 hl (k := 4) rfl rfl (by decide) rfl (fun ls hl => ?_)
          refine lv_goto (tgt := 7) hx hb dX1_bestSum_88 (by decide) ?_
          exact hk7 _ _ _  ls (lv_sub hl [1, 2, 3, 4, 0] rfl) hv
  unfold f_X1_bestSum at hv
  refine lv_iconst (v := 0) hx hb dX1_bestSum_0 (by decide) ?_
  refine lv_istore_n (lv' := [(2, .int (0 : Int32)), (0, .ref (a0 0)), (1, .ref (a1 0))]) hx hb dX1_bestSum_1 rfl hl (by decide) rfl (fun ls hl => ?_)
  refine lv_iconst (v := -1) hx hb dX1_bestSum_2 (by decide) ?_
  refine lv_istore_n (lv' := [(3, .int (-1 : Int32)), (2, .int (0 : Int32)), (0, .ref (a0 0)), (1, .ref (a1 0))]) hx hb dX1_bestSum_3 rfl hl (by decide) rfl (fun ls hl => ?_)
  refine lv_iconst (v := 0) hx hb dX1_bestSum_4 (by decide) ?_
  refine lv_istore (lv' := [(4, .int (0 : Int32)), (3, .int (-1 : Int32)), (2, .int (0 : Int32)), (0, .ref (a0 0)), (1, .ref (a1 0))]) hx hb dX1_bestSum_5 hl (by decide) rfl (fun ls hl => ?_)
  refine hB7 _ (fun z310_2 ls hl hv => ?_) 1000 _ _ _ ls (lv_sub hl [3, 4, 2, 1, 0] rfl) hv
  · skip
    refine lv_iload_n hx hb dX1_bestSum_91 rfl (lv_at hl 0 rfl) ?_
    exact fin dX1_bestSum_92 hv
abbrev rm_X1_bothAlone : Room := { frames := 4, cells := 0, slots := 0, locals := 87 }
set_option maxHeartbeats 4000000 in
set_option maxRecDepth 100000 in
theorem c_X1_bothAlone (l : Launch) (D : va_G) (cA : ClassId) (a0 : Nat → Nat) (u0 : StB) (a1 : Nat → Nat) (u1 : StB) (v : Int32) (hv : f_X1_bothAlone u0 u1 = some v)  : Met l yX1_bothAlone wsX1_bothAlone rm_X1_bothAlone (va_Pc [.ref (a0 0), .ref (a1 0)] (roB D cA [wB cA a0 u0, wB cA a1 u1])) (vp_Si (fun r => r = v)) 0 0 (fun _ => False) := by
  refine ro_i (cc := cX1_bothAlone) (maxL := 2) (own := RX1) (by decide) rfl rfl (Nat.le_of_ble_eq_true rfl) ?_
  intro p e s m args below meth c Q ls hC hK hZ hws hl fin
  obtain ⟨hx, hb, hml, hown, hts⟩ := id hC
  have hl : lv_has ls 2 [(0, .ref (a0 0)), (1, .ref (a1 0))] := hl
  have hP0 : va_P D vwCl (wB cA a0 u0) s.heap := hws _ (List.mem_of_getElem? (i := 0) rfl)
  have hP1 : va_P D vwCl (wB cA a1 u1) s.heap := hws _ (List.mem_of_getElem? (i := 1) rfl)
  have hinX0 : ∀ w ∈ wsX00, w ∈ wsX1_bothAlone := fun w h => List.mem_cons_of_mem _ (List.mem_append_right _ h)
  unfold f_X1_bothAlone at hv
  refine lv_aload_n hx hb dX1_bothAlone_0 rfl (lv_at hl 0 rfl) ?_
  refine lv_aload_n hx hb dX1_bothAlone_1 rfl (lv_at hl 0 rfl) ?_
  obtain ⟨r101, e101, hv⟩ := o_bind hv
  refine rcall_i (W.runV (As := []) (rest := [.ref (a0 0)]) hC (c_X0_bestPlace l D cA a0 u0 r101 e101) (cwV 0 hts gX1_bothAlone_X0_bestPlace rfl rfl rfl (by decide +kernel) ⟨Nat.le_of_ble_eq_true rfl, Nat.le_of_ble_eq_true rfl⟩) ⟨roB_blind, va_recv (ci := 0) (q0 := 0) hK hP0 rfl rfl, roB_pre hK hZ (hws_1 hP0)⟩ rfl rfl hl.1 rfl (lv_room (Nat.le_of_ble_eq_true rfl)) dX1_bothAlone_2 ⟨Nat.le_of_ble_eq_true rfl, Nat.le_of_ble_eq_true rfl⟩) ?_
  obtain ⟨r102, e102, hv⟩ := o_bind hv
  refine rcall_i (W.runV (As := [.int r101]) (rest := []) hC (c_X0_takeAt l D cA a0 u0 r101 r102 e102) (cwV 1 hts gX1_bothAlone_X0_takeAt rfl rfl rfl (by decide +kernel) ⟨Nat.le_of_ble_eq_true rfl, Nat.le_of_ble_eq_true rfl⟩) ⟨roB_blind, va_recv (ci := 0) (q0 := 0) hK hP0 rfl rfl, roB_pre hK hZ (hws_1 hP0)⟩ rfl rfl hl.1 rfl (lv_room (Nat.le_of_ble_eq_true rfl)) dX1_bothAlone_5 ⟨Nat.le_of_ble_eq_true rfl, Nat.le_of_ble_eq_true rfl⟩) ?_
  refine lv_aload_n hx hb dX1_bothAlone_8 rfl (lv_at hl 1 rfl) ?_
  obtain ⟨r103, e103, hv⟩ := o_bind hv
  refine rcall_i (W.runV (As := []) (rest := [.int r102]) hC (c_X0_allWeights l D cA a1 u1 r103 e103) (cwV 0 hts gX1_bothAlone_X0_allWeights rfl rfl rfl (by decide +kernel) ⟨Nat.le_of_ble_eq_true rfl, Nat.le_of_ble_eq_true rfl⟩) ⟨roB_blind, va_recv (ci := 0) (q0 := 0) hK hP1 rfl rfl, roB_pre hK hZ (hws_1 hP1)⟩ rfl rfl hl.1 rfl (lv_room (Nat.le_of_ble_eq_true rfl)) dX1_bothAlone_9 ⟨Nat.le_of_ble_eq_true rfl, Nat.le_of_ble_eq_true rfl⟩) ?_
  refine lv_imul hx hb dX1_bothAlone_12 ?_
  refine lv_aload_n hx hb dX1_bothAlone_13 rfl (lv_at hl 1 rfl) ?_
  refine lv_aload_n hx hb dX1_bothAlone_14 rfl (lv_at hl 1 rfl) ?_
  obtain ⟨r104, e104, hv⟩ := o_bind hv
  refine rcall_i (W.runV (As := []) (rest := [.ref (a1 0), .int (r102 * r103)]) hC (c_X0_bestPlace l D cA a1 u1 r104 e104) (cwV 0 hts gX1_bothAlone_X0_bestPlace rfl rfl rfl (by decide +kernel) ⟨Nat.le_of_ble_eq_true rfl, Nat.le_of_ble_eq_true rfl⟩) ⟨roB_blind, va_recv (ci := 0) (q0 := 0) hK hP1 rfl rfl, roB_pre hK hZ (hws_1 hP1)⟩ rfl rfl hl.1 rfl (lv_room (Nat.le_of_ble_eq_true rfl)) dX1_bothAlone_15 ⟨Nat.le_of_ble_eq_true rfl, Nat.le_of_ble_eq_true rfl⟩) ?_
  obtain ⟨r105, e105, hv⟩ := o_bind hv
  refine rcall_i (W.runV (As := [.int r104]) (rest := [.int (r102 * r103)]) hC (c_X0_takeAt l D cA a1 u1 r104 r105 e105) (cwV 1 hts gX1_bothAlone_X0_takeAt rfl rfl rfl (by decide +kernel) ⟨Nat.le_of_ble_eq_true rfl, Nat.le_of_ble_eq_true rfl⟩) ⟨roB_blind, va_recv (ci := 0) (q0 := 0) hK hP1 rfl rfl, roB_pre hK hZ (hws_1 hP1)⟩ rfl rfl hl.1 rfl (lv_room (Nat.le_of_ble_eq_true rfl)) dX1_bothAlone_18 ⟨Nat.le_of_ble_eq_true rfl, Nat.le_of_ble_eq_true rfl⟩) ?_
  refine lv_aload_n hx hb dX1_bothAlone_21 rfl (lv_at hl 0 rfl) ?_
  obtain ⟨r106, e106, hv⟩ := o_bind hv
  refine rcall_i (W.runV (As := []) (rest := [.int r105, .int (r102 * r103)]) hC (c_X0_allWeights l D cA a0 u0 r106 e106) (cwV 0 hts gX1_bothAlone_X0_allWeights rfl rfl rfl (by decide +kernel) ⟨Nat.le_of_ble_eq_true rfl, Nat.le_of_ble_eq_true rfl⟩) ⟨roB_blind, va_recv (ci := 0) (q0 := 0) hK hP0 rfl rfl, roB_pre hK hZ (hws_1 hP0)⟩ rfl rfl hl.1 rfl (lv_room (Nat.le_of_ble_eq_true rfl)) dX1_bothAlone_22 ⟨Nat.le_of_ble_eq_true rfl, Nat.le_of_ble_eq_true rfl⟩) ?_
  refine lv_imul hx hb dX1_bothAlone_25 ?_
  refine lv_iadd hx hb dX1_bothAlone_26 ?_
  exact fin dX1_bothAlone_27 hv
abbrev rm_J6_signum_0f7a4 : Room := { frames := 0, cells := 0, slots := 0, locals := 0 }
set_option maxHeartbeats 4000000 in
set_option maxRecDepth 100000 in
theorem c_J6_signum_0f7a4 (l : Launch) (D : va_G) (cA : ClassId) (x0 : Int32) (v : Int32) (hv : f_J6_signum_0f7a4 x0 = some v)  : Met l yJ6_signum_0f7a4 wsJ6_signum_0f7a4 rm_J6_signum_0f7a4 (va_Pc [.int x0] (roB D cA [])) (vp_Si (fun r => r = v)) 0 0 (fun _ => False) := by
  refine ro_i (cc := cJ6_signum_0f7a4) (maxL := 1) (own := RJ6) (by decide) rfl rfl (Nat.le_of_ble_eq_true rfl) ?_
  intro p e s m args below meth c Q ls hC hK hZ hws hl fin
  obtain ⟨hx, hb, hml, hown, hts⟩ := id hC
  have hl : lv_has ls 1 [(0, .int x0)] := hl
  unfold f_J6_signum_0f7a4 at hv
  refine lv_iload_n hx hb dJ6_signum_0f7a4_0 rfl (lv_at hl 0 rfl) ?_
  refine lv_bipush (v := 31) hx hb dJ6_signum_0f7a4_1 (by decide) ?_
  refine lv_ishr hx hb dJ6_signum_0f7a4_3 ?_
  refine lv_iload_n hx hb dJ6_signum_0f7a4_4 rfl (lv_at hl 0 rfl) ?_
  refine lv_ineg hx hb dJ6_signum_0f7a4_5 ?_
  refine lv_bipush (v := 31) hx hb dJ6_signum_0f7a4_6 (by decide) ?_
  refine lv_iushr hx hb dJ6_signum_0f7a4_8 rfl ?_
  refine lv_ior hx hb dJ6_signum_0f7a4_9 ?_
  exact fin dJ6_signum_0f7a4_10 hv
abbrev rm_X1_bundle : Room := { frames := 5, cells := 0, slots := 0, locals := 108 }
set_option maxHeartbeats 4000000 in
set_option maxRecDepth 100000 in
theorem c_X1_bundle (l : Launch) (D : va_G) (cA : ClassId) (a : Nat → Nat) (u : StS) (x1 : Int32) (x2 : Int32) (x3 : Int32) (v : Int32) (hv : f_X1_bundle u x1 x2 x3 = some v)  : Met l yX1_bundle wsX1_bundle rm_X1_bundle (va_Pc [.ref (a 0), .int x1, .int x2, .int x3] (roB D cA [wS cA a u])) (vp_Si (fun r => r = v)) 0 0 (fun _ => False) := by
  refine ro_i (cc := cX1_bundle) (maxL := 8) (own := RX1) (by decide) rfl rfl (Nat.le_of_ble_eq_true rfl) ?_
  intro p e s m args below meth c Q ls hC hK hZ hws hl fin
  obtain ⟨hx, hb, hml, hown, hts⟩ := id hC
  have hl : lv_has ls 8 [(0, .ref (a 0)), (1, .int x1), (2, .int x2), (3, .int x3)] := hl
  have hP : va_P D vwCl (wS cA a u) s.heap := hws _ (List.mem_of_getElem? (i := 0) rfl)
  have hinX0 : ∀ w ∈ wsX00, w ∈ wsX1_bundle := fun w h => List.mem_cons_of_mem _ (List.mem_append_right _ h)
  have hinX1 : ∀ w ∈ wsX10, w ∈ wsX1_bundle := fun w h => List.mem_cons_of_mem _ (List.mem_append_left _ (List.mem_append_right _ h))
  unfold f_X1_bundle at hv
  refine lv_aload_n hx hb dX1_bundle_0 rfl (lv_at hl 0 rfl) ?_
  refine lv_iload_n hx hb dX1_bundle_1 rfl (lv_at hl 1 rfl) ?_
  obtain ⟨r101, e101, hv⟩ := o_bind hv
  refine rcall_i (W.runV (As := [.int x1]) (rest := []) hC (c_X1_isBuyer l D cA a u x1 r101 e101) (cwV 1 hts gX1_bundle_X1_isBuyer rfl rfl rfl (by decide +kernel) ⟨Nat.le_of_ble_eq_true rfl, Nat.le_of_ble_eq_true rfl⟩) ⟨roB_blind, va_recv (ci := 1) (q0 := 0) hK hP rfl rfl, roB_pre hK hZ (hws_1 hP)⟩ rfl rfl hl.1 rfl (lv_room (Nat.le_of_ble_eq_true rfl)) dX1_bundle_2 ⟨Nat.le_of_ble_eq_true rfl, Nat.le_of_ble_eq_true rfl⟩) ?_
  refine lv_if_eq (tgt := 21) hx hb dX1_bundle_5 (by decide) (fun c102 => ?_) (fun c102 => ?_)
  · have hv := o_pos hv c102
    refine lv_bipush (v := -5) hx hb dX1_bundle_21 (by decide) ?_
    exact fin dX1_bundle_23 hv
  · have hv := o_neg hv c102
    refine lv_aload_n hx hb dX1_bundle_8 rfl (lv_at hl 0 rfl) ?_
    refine lv_iload_n hx hb dX1_bundle_9 rfl (lv_at hl 2 rfl) ?_
    obtain ⟨r103, e103, hv⟩ := o_bind hv
    refine rcall_i (W.runV (As := [.int x2]) (rest := []) hC (c_X1_isBuyer l D cA a u x2 r103 e103) (cwV 1 hts gX1_bundle_X1_isBuyer rfl rfl rfl (by decide +kernel) ⟨Nat.le_of_ble_eq_true rfl, Nat.le_of_ble_eq_true rfl⟩) ⟨roB_blind, va_recv (ci := 1) (q0 := 0) hK hP rfl rfl, roB_pre hK hZ (hws_1 hP)⟩ rfl rfl hl.1 rfl (lv_room (Nat.le_of_ble_eq_true rfl)) dX1_bundle_10 ⟨Nat.le_of_ble_eq_true rfl, Nat.le_of_ble_eq_true rfl⟩) ?_
    refine lv_if_eq (tgt := 21) hx hb dX1_bundle_13 (by decide) (fun c104 => ?_) (fun c104 => ?_)
    · have hv := o_pos hv c104
      refine lv_bipush (v := -5) hx hb dX1_bundle_21 (by decide) ?_
      exact fin dX1_bundle_23 hv
    · have hv := o_neg hv c104
      refine lv_iload_n hx hb dX1_bundle_16 rfl (lv_at hl 1 rfl) ?_
      refine lv_iload_n hx hb dX1_bundle_17 rfl (lv_at hl 2 rfl) ?_
      refine lv_icmp_ne (tgt := 24) hx hb dX1_bundle_18 (by decide) (fun c105 => ?_) (fun c105 => ?_)
      · have hv := o_neg hv c105
        refine lv_aload_n hx hb dX1_bundle_24 rfl (lv_at hl 0 rfl) ?_
        refine lv_iload_n hx hb dX1_bundle_25 rfl (lv_at hl 1 rfl) ?_
        obtain ⟨r106, e106, hv⟩ := o_bind hv
        refine rcall_r (W.runV (As := [.int x1]) (rest := []) hC (c_X1_bookOf l D cA a u x1 r106 e106) (cwV 1 hts gX1_bundle_X1_bookOf rfl rfl rfl (by decide +kernel) ⟨Nat.le_of_ble_eq_true rfl, Nat.le_of_ble_eq_true rfl⟩) ⟨roB_blind, va_recv (ci := 1) (q0 := 0) hK hP rfl rfl, roB_pre hK hZ (hws_1 hP)⟩ rfl rfl hl.1 rfl (lv_room (Nat.le_of_ble_eq_true rfl)) dX1_bundle_26 ⟨Nat.le_of_ble_eq_true rfl, Nat.le_of_ble_eq_true rfl⟩) ?_
        refine lv_astore (lv' := [(4, .ref (bx a r106 0)), (0, .ref (a 0)), (1, .int x1), (2, .int x2), (3, .int x3)]) hx hb dX1_bundle_29 hl (by decide) rfl (fun ls hl => ?_)
        refine lv_aload_n hx hb dX1_bundle_31 rfl (lv_at hl 1 rfl) ?_
        refine lv_iload_n hx hb dX1_bundle_32 rfl (lv_at hl 3 rfl) ?_
        obtain ⟨r107, e107, hv⟩ := o_bind hv
        refine rcall_r (W.runV (As := [.int x2]) (rest := []) hC (c_X1_bookOf l D cA a u x2 r107 e107) (cwV 1 hts gX1_bundle_X1_bookOf rfl rfl rfl (by decide +kernel) ⟨Nat.le_of_ble_eq_true rfl, Nat.le_of_ble_eq_true rfl⟩) ⟨roB_blind, va_recv (ci := 1) (q0 := 0) hK hP rfl rfl, roB_pre hK hZ (hws_1 hP)⟩ rfl rfl hl.1 rfl (lv_room (Nat.le_of_ble_eq_true rfl)) dX1_bundle_33 ⟨Nat.le_of_ble_eq_true rfl, Nat.le_of_ble_eq_true rfl⟩) ?_
        refine lv_astore (lv' := [(5, .ref (bx a r107 0)), (4, .ref (bx a r106 0)), (0, .ref (a 0)), (1, .int x1), (2, .int x2), (3, .int x3)]) hx hb dX1_bundle_36 hl (by decide) rfl (fun ls hl => ?_)
        refine lv_aload hx hb dX1_bundle_38 (lv_at hl 1 rfl) ?_
        refine lv_aload hx hb dX1_bundle_40 (lv_at hl 0 rfl) ?_
        obtain ⟨r108, e108, hv⟩ := o_bind hv
        refine rcall_i (W.runS (As := [.ref (bx a r106 0), .ref (bx a r107 0)]) (rest := []) hC (c_X1_bestSum l D cA (bx a r106) (bk u r106) (bx a r107) (bk u r107) r108 e108) (va_cwS 2 hts gX1_bundle_X1_bestSum rfl rfl rfl (by decide +kernel) ⟨Nat.le_of_ble_eq_true rfl, Nat.le_of_ble_eq_true rfl⟩) ⟨roB_blind, roB_pre hK hZ (hws_2 (wS_bk hP r106) (wS_bk hP r107))⟩ rfl rfl hl.1 rfl (lv_room (Nat.le_of_ble_eq_true rfl)) dX1_bundle_42 ⟨Nat.le_of_ble_eq_true rfl, Nat.le_of_ble_eq_true rfl⟩) ?_
        refine lv_istore (lv' := [(6, .int r108), (5, .ref (bx a r107 0)), (4, .ref (bx a r106 0)), (0, .ref (a 0)), (1, .int x1), (2, .int x2), (3, .int x3)]) hx hb dX1_bundle_45 hl (by decide) rfl (fun ls hl => ?_)
        refine lv_aload hx hb dX1_bundle_47 (lv_at hl 2 rfl) ?_
        refine lv_aload hx hb dX1_bundle_49 (lv_at hl 1 rfl) ?_
        refine lv_iload hx hb dX1_bundle_51 (lv_at hl 0 rfl) ?_
        obtain ⟨r109, e109, hv⟩ := o_bind hv
        refine rcall_i (W.runS (As := [.ref (bx a r106 0), .ref (bx a r107 0), .int r108]) (rest := []) hC (c_X1_pairsFrom l D cA (bx a r106) (bk u r106) (bx a r107) (bk u r107) r108 r109 e109) (va_cwS 3 hts gX1_bundle_X1_pairsFrom rfl rfl rfl (by decide +kernel) ⟨Nat.le_of_ble_eq_true rfl, Nat.le_of_ble_eq_true rfl⟩) ⟨roB_blind, roB_pre hK hZ (hws_2 (wS_bk hP r106) (wS_bk hP r107))⟩ rfl rfl hl.1 rfl (lv_room (Nat.le_of_ble_eq_true rfl)) dX1_bundle_53 ⟨Nat.le_of_ble_eq_true rfl, Nat.le_of_ble_eq_true rfl⟩) ?_
        refine lv_istore (lv' := [(7, .int r109), (6, .int r108), (5, .ref (bx a r107 0)), (4, .ref (bx a r106 0)), (0, .ref (a 0)), (1, .int x1), (2, .int x2), (3, .int x3)]) hx hb dX1_bundle_56 hl (by decide) rfl (fun ls hl => ?_)
        refine lv_iload_n hx hb dX1_bundle_58 rfl (lv_at hl 7 rfl) ?_
        rcases o_ite hv with ⟨c110, hv⟩ | ⟨c110, hv⟩
        · refine lv_tableIn (tgt := 84) hx hb dX1_bundle_59 (by rw [c110]; decide) (by rw [c110]; decide) (by rw [c110]; rfl) (by decide) ?_
          refine lv_iload hx hb dX1_bundle_84 (lv_at hl 1 rfl) ?_
          exact fin dX1_bundle_86 hv
        · skip
          rcases o_ite hv with ⟨c111, hv⟩ | ⟨c111, hv⟩
          · refine lv_tableIn (tgt := 87) hx hb dX1_bundle_59 (by rw [c111]; decide) (by rw [c111]; decide) (by rw [c111]; rfl) (by decide) ?_
            refine lv_iload hx hb dX1_bundle_87 (lv_at hl 0 rfl) ?_
            exact fin dX1_bundle_89 hv
          · skip
            rcases o_ite hv with ⟨c112, hv⟩ | ⟨c112, hv⟩
            · refine lv_tableIn (tgt := 90) hx hb dX1_bundle_59 (by rw [c112]; decide) (by rw [c112]; decide) (by rw [c112]; rfl) (by decide) ?_
              refine lv_iload hx hb dX1_bundle_90 (lv_at hl 1 rfl) ?_
              refine lv_iload hx hb dX1_bundle_92 (lv_at hl 0 rfl) ?_
              refine lv_imul hx hb dX1_bundle_94 ?_
              refine lv_aload hx hb dX1_bundle_95 (lv_at hl 3 rfl) ?_
              refine lv_aload hx hb dX1_bundle_97 (lv_at hl 2 rfl) ?_
              obtain ⟨r113, e113, hv⟩ := o_bind hv
              refine rcall_i (W.runS (As := [.ref (bx a r106 0), .ref (bx a r107 0)]) (rest := [.int (r108 * r109)]) hC (c_X1_bothAlone l D cA (bx a r106) (bk u r106) (bx a r107) (bk u r107) r113 e113) (va_cwS 2 hts gX1_bundle_X1_bothAlone rfl rfl rfl (by decide +kernel) ⟨Nat.le_of_ble_eq_true rfl, Nat.le_of_ble_eq_true rfl⟩) ⟨roB_blind, roB_pre hK hZ (hws_2 (wS_bk hP r106) (wS_bk hP r107))⟩ rfl rfl hl.1 rfl (lv_room (Nat.le_of_ble_eq_true rfl)) dX1_bundle_99 ⟨Nat.le_of_ble_eq_true rfl, Nat.le_of_ble_eq_true rfl⟩) ?_
              refine lv_isub hx hb dX1_bundle_102 ?_
              obtain ⟨r114, e114, hv⟩ := o_bind hv
              refine rcall_i (W.runS (As := [.int ((r108 * r109) - r113)]) (rest := []) hC (c_J6_signum_0f7a4 l D cA ((r108 * r109) - r113) r114 e114) (va_cwS 1 hts gX1_bundle_J6_signum_0f7a4 rfl rfl rfl (by decide +kernel) ⟨Nat.le_of_ble_eq_true rfl, Nat.le_of_ble_eq_true rfl⟩) ⟨roB_blind, roB_pre hK hZ hws_0⟩ rfl rfl hl.1 rfl (lv_room (Nat.le_of_ble_eq_true rfl)) dX1_bundle_103 ⟨Nat.le_of_ble_eq_true rfl, Nat.le_of_ble_eq_true rfl⟩) ?_
              exact fin dX1_bundle_106 hv
            · skip
              refine lv_tableOut (tgt := 107) hx hb dX1_bundle_59 (sw3 c110 c111 c112) (by decide) ?_
              refine lv_bipush (v := -5) hx hb dX1_bundle_107 (by decide) ?_
              exact fin dX1_bundle_109 hv
      · have hv := o_pos hv c105
        refine lv_bipush (v := -5) hx hb dX1_bundle_21 (by decide) ?_
        exact fin dX1_bundle_23 hv
