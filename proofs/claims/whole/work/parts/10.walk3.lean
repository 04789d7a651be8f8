abbrev rm_X1_leastWinning : Room := { frames := 3, cells := 0, slots := 0, locals := 82 }
set_option maxHeartbeats 4000000 in
set_option maxRecDepth 100000 in
theorem c_X1_leastWinning (l : Launch) (D : va_G) (cA : ClassId) (a : Nat → Nat) (u : StS) (x1 : Int32) (x2 : Int32) (x3 : Int32) (x4 : Int32) (v : Int32) (hv : f_X1_leastWinning u x1 x2 x3 x4 = some v)  : Met l yX1_leastWinning wsX1_leastWinning rm_X1_leastWinning (va_Pc [.ref (a 0), .int x1, .int x2, .int x3, .int x4] (roB D cA [wS cA a u])) (vp_Si (fun r => r = v)) 0 0 (fun _ => False) := by
  refine ro_i (cc := cX1_leastWinning) (maxL := 7) (own := RX1) (by decide) rfl rfl (Nat.le_of_ble_eq_true rfl) ?_
  intro p e s m args below meth c Q ls hC hK hZ hws hl fin
  obtain ⟨hx, hb, hml, hown, hts⟩ := id hC
  have hl : lv_has ls 7 [(0, .ref (a 0)), (1, .int x1), (2, .int x2), (3, .int x3), (4, .int x4)] := hl
  have hP : va_P D vwCl (wS cA a u) s.heap := hws _ (List.mem_of_getElem? (i := 0) rfl)
  have hinX0 : ∀ w ∈ wsX00, w ∈ wsX1_leastWinning := fun w h => List.mem_cons_of_mem _ (List.mem_append_left _ (List.mem_append_right _ h))
  have hinX1 : ∀ w ∈ wsX10, w ∈ wsX1_leastWinning := fun w h => List.mem_cons_of_mem _ (List.mem_append_right _ h)
  have hB11 : ∀ (k35 : Nat → Int32 → Option (Int32)) (hk35 : ∀ (x5 : Nat) (x6 : Int32) (ls : Array Slot), lv_has ls 7 [(5, .ref (bx a x5 0)), (6, .int x6)] → k35 x5 x6 = some v → W p l e rm_X1_leastWinning s m args below meth c s.heap [] 0 0 Q (F0 m 35 ls [])) (k49 : Option (Int32)) (hk49 : ∀  (ls : Array Slot), lv_has ls 7 [] → k49 = some v → W p l e rm_X1_leastWinning s m args below meth c s.heap [] 0 0 Q (F0 m 49 ls [])) (n : Nat) (x1 : Int32) (x2 : Int32) (x3 : Int32) (x4 : Int32) (x5 : Nat) (x6 : Int32) (ls : Array Slot), lv_has ls 7 [(0, .ref (a 0)), (1, .int x1), (2, .int x2), (3, .int x3), (4, .int x4), (5, .ref (bx a x5 0)), (6, .int x6)] → B_X1_leastWinning_11 u k35 k49 n x1 x2 x3 x4 x5 x6 = some v → W p l e rm_X1_leastWinning s m args below meth c s.heap [] 0 0 Q (F0 m 11 ls []) := by
    intro k35 hk35 k49 hk49 n
    induction n with
    | zero => intro x1 x2 x3 x4 x5 x6 ls hl hv; exact absurd hv (by intro h; cases h)
    | succ n hk11 =>
      intro x1 x2 x3 x4 x5 x6 ls hl hv
      rw [B_X1_leastWinning_11] at hv
      refine lv_iload hx hb dX1_leastWinning_11 (lv_at hl 6 rfl) ?_
      refine lv_aload hx hb dX1_leastWinning_13 (lv_at hl 5 rfl) ?_
      refine gnX0_size hx hb hts hinX0 hown hK hZ (wS_bk hP x5) dX1_leastWinning_15 ?_
      refine lv_icmp_ge (tgt := 49) hx hb dX1_leastWinning_18 (by decide) (fun c101 => ?_) (fun c101 => ?_)
      · have hv := o_pos hv c101
        exact hk49  ls (lv_sub hl [] rfl) hv
      · have hv := o_neg hv c101
        refine lv_aload_n hx hb dX1_leastWinning_21 rfl (lv_at hl 0 rfl) ?_
        refine lv_iload hx hb dX1_leastWinning_22 (lv_at hl 6 rfl) ?_
        refine lv_iload_n hx hb dX1_leastWinning_24 rfl (lv_at hl 1 rfl) ?_
        refine lv_iload_n hx hb dX1_leastWinning_25 rfl (lv_at hl 2 rfl) ?_
        refine lv_iload_n hx hb dX1_leastWinning_26 rfl (lv_at hl 3 rfl) ?_
        refine lv_iload hx hb dX1_leastWinning_27 (lv_at hl 4 rfl) ?_
        obtain ⟨r102, e102, hv⟩ := o_bind hv
        refine rcall_i (W.runV (As := [.int x6, .int x1, .int x2, .int x3, .int x4]) (rest := []) hC (c_X1_getsWith l D cA a u x6 x1 x2 x3 x4 r102 e102) (cwV 5 hts gX1_leastWinning_X1_getsWith rfl rfl rfl (by decide +kernel) ⟨Nat.le_of_ble_eq_true rfl, Nat.le_of_ble_eq_true rfl⟩) ⟨roB_blind, va_recv (ci := 1) (q0 := 0) hK hP rfl rfl, roB_pre hK hZ (hws_1 hP)⟩ rfl rfl hl.1 rfl (lv_room (Nat.le_of_ble_eq_true rfl)) dX1_leastWinning_29 ⟨Nat.le_of_ble_eq_true rfl, Nat.le_of_ble_eq_true rfl⟩) ?_
        refine lv_if_eq (tgt := 43) hx hb dX1_leastWinning_32 (by decide) (fun c103 => ?_) (fun c103 => ?_)
        · have hv := o_pos hv c103
          refine lv_iinc (v := (x6 + 1)) (lv' := [(6, .int (x6 + 1)), (0, .ref (a 0)), (1, .int x1), (2, .int x2), (3, .int x3), (4, .int x4), (5, .ref (bx a x5 0))]) hx hb dX1_leastWinning_43 hl (k := 6) rfl rfl (by decide) rfl (fun ls hl => ?_)
          refine lv_goto (tgt := 11) hx hb dX1_leastWinning_46 (by decide) ?_
          exact hk11 _ _ _ _ _ _  ls (lv_sub hl [1, 2, 3, 4, 5, 6, 0] rfl) hv
        · have hv := o_neg hv c103
          exact hk35 _ _  ls (lv_sub hl [5, 6] rfl) hv
  unfold f_X1_leastWinning at hv
  refine lv_aload_n hx hb dX1_leastWinning_0 rfl (lv_at hl 0 rfl) ?_
  refine lv_iload hx hb dX1_leastWinning_1 (lv_at hl 4 rfl) ?_
  obtain ⟨r204, e204, hv⟩ := o_bind hv
  refine rcall_r (W.runV (As := [.int x4]) (rest := []) hC (c_X1_bookOf l D cA a u x4 r204 e204) (cwV 1 hts gX1_leastWinning_X1_bookOf rfl rfl rfl (by decide +kernel) ⟨Nat.le_of_ble_eq_true rfl, Nat.le_of_ble_eq_true rfl⟩) ⟨roB_blind, va_recv (ci := 1) (q0 := 0) hK hP rfl rfl, roB_pre hK hZ (hws_1 hP)⟩ rfl rfl hl.1 rfl (lv_room (Nat.le_of_ble_eq_true rfl)) dX1_leastWinning_3 ⟨Nat.le_of_ble_eq_true rfl, Nat.le_of_ble_eq_true rfl⟩) ?_
  refine lv_astore (lv' := [(5, .ref (bx a r204 0)), (0, .ref (a 0)), (1, .int x1), (2, .int x2), (3, .int x3), (4, .int x4)]) hx hb dX1_leastWinning_6 hl (by decide) rfl (fun ls hl => ?_)
  refine lv_iconst (v := 0) hx hb dX1_leastWinning_8 (by decide) ?_
  refine lv_istore (lv' := [(6, .int (0 : Int32)), (5, .ref (bx a r204 0)), (0, .ref (a 0)), (1, .int x1), (2, .int x2), (3, .int x3), (4, .int x4)]) hx hb dX1_leastWinning_9 hl (by decide) rfl (fun ls hl => ?_)
  refine hB11 _ (fun z205_5 z205_6 ls hl hv => ?_) _ (fun ls hl hv => ?_) 1000 _ _ _ _ _ _ ls (lv_sub hl [2, 3, 4, 5, 6, 1, 0] rfl) hv
  · skip
    refine lv_aload hx hb dX1_leastWinning_35 (lv_at hl 0 rfl) ?_
    refine lv_iload hx hb dX1_leastWinning_37 (lv_at hl 1 rfl) ?_
    obtain ⟨r206, e206, hv⟩ := o_bind hv
    refine rcall_i (W.runV (As := [.int z205_6]) (rest := []) hC (c_X0_worthAt l D cA (bx a z205_5) (bk u z205_5) z205_6 r206 e206) (cwV 1 hts gX1_leastWinning_X0_worthAt rfl rfl rfl (by decide +kernel) ⟨Nat.le_of_ble_eq_true rfl, Nat.le_of_ble_eq_true rfl⟩) ⟨roB_blind, va_recv (ci := 0) (q0 := 0) hK (wS_bk hP z205_5) rfl rfl, roB_pre hK hZ (hws_1 (wS_bk hP z205_5))⟩ rfl rfl hl.1 rfl (lv_room (Nat.le_of_ble_eq_true rfl)) dX1_leastWinning_39 ⟨Nat.le_of_ble_eq_true rfl, Nat.le_of_ble_eq_true rfl⟩) ?_
    exact fin dX1_leastWinning_42 hv
  · skip
    refine lv_iconst (v := 0) hx hb dX1_leastWinning_49 (by decide) ?_
    exact fin dX1_leastWinning_50 hv
abbrev rm_X1_pays : Room := { frames := 4, cells := 0, slots := 0, locals := 108 }
set_option maxHeartbeats 4000000 in
set_option maxRecDepth 100000 in
theorem c_X1_pays (l : Launch) (D : va_G) (cA : ClassId) (a : Nat → Nat) (u : StS) (x1 : Int32) (x2 : Int32) (x3 : Int32) (x4 : Int32) (v : Int32) (hv : f_X1_pays u x1 x2 x3 x4 = some v)  : Met l yX1_pays wsX1_pays rm_X1_pays (va_Pc [.ref (a 0), .int x1, .int x2, .int x3, .int x4] (roB D cA [wS cA a u])) (vp_Si (fun r => r = v)) 0 0 (fun _ => False) := by
  refine ro_i (cc := cX1_pays) (maxL := 5) (own := RX1) (by decide) rfl rfl (Nat.le_of_ble_eq_true rfl) ?_
  intro p e s m args below meth c Q ls hC hK hZ hws hl fin
  obtain ⟨hx, hb, hml, hown, hts⟩ := id hC
  have hl : lv_has ls 5 [(0, .ref (a 0)), (1, .int x1), (2, .int x2), (3, .int x3), (4, .int x4)] := hl
  have hP : va_P D vwCl (wS cA a u) s.heap := hws _ (List.mem_of_getElem? (i := 0) rfl)
  have hinX0 : ∀ w ∈ wsX00, w ∈ wsX1_pays := fun w h => List.mem_cons_of_mem _ (List.mem_append_right _ h)
  have hinX1 : ∀ w ∈ wsX10, w ∈ wsX1_pays := fun w h => List.mem_cons_of_mem _ (List.mem_append_left _ (List.mem_append_right _ h))
  unfold f_X1_pays at hv
  refine lv_aload_n hx hb dX1_pays_0 rfl (lv_at hl 0 rfl) ?_
  refine lv_iload_n hx hb dX1_pays_1 rfl (lv_at hl 1 rfl) ?_
  refine lv_iload_n hx hb dX1_pays_2 rfl (lv_at hl 2 rfl) ?_
  refine lv_iload_n hx hb dX1_pays_3 rfl (lv_at hl 3 rfl) ?_
  obtain ⟨r101, e101, hv⟩ := o_bind hv
  refine rcall_i (W.runV (As := [.int x1, .int x2, .int x3]) (rest := []) hC (c_X1_arePlaces l D cA a u x1 x2 x3 r101 e101) (cwV 3 hts gX1_pays_X1_arePlaces rfl rfl rfl (by decide +kernel) ⟨Nat.le_of_ble_eq_true rfl, Nat.le_of_ble_eq_true rfl⟩) ⟨roB_blind, va_recv (ci := 1) (q0 := 0) hK hP rfl rfl, roB_pre hK hZ (hws_1 hP)⟩ rfl rfl hl.1 rfl (lv_room (Nat.le_of_ble_eq_true rfl)) dX1_pays_4 ⟨Nat.le_of_ble_eq_true rfl, Nat.le_of_ble_eq_true rfl⟩) ?_
  refine lv_if_eq (tgt := 19) hx hb dX1_pays_7 (by decide) (fun c102 => ?_) (fun c102 => ?_)
  · have hv := o_pos hv c102
    refine lv_iconst (v := -1) hx hb dX1_pays_19 (by decide) ?_
    exact fin dX1_pays_20 hv
  · have hv := o_neg hv c102
    refine lv_aload_n hx hb dX1_pays_10 rfl (lv_at hl 0 rfl) ?_
    refine lv_iload hx hb dX1_pays_11 (lv_at hl 4 rfl) ?_
    obtain ⟨r103, e103, hv⟩ := o_bind hv
    refine rcall_i (W.runV (As := [.int x4]) (rest := []) hC (c_X1_isBuyer l D cA a u x4 r103 e103) (cwV 1 hts gX1_pays_X1_isBuyer rfl rfl rfl (by decide +kernel) ⟨Nat.le_of_ble_eq_true rfl, Nat.le_of_ble_eq_true rfl⟩) ⟨roB_blind, va_recv (ci := 1) (q0 := 0) hK hP rfl rfl, roB_pre hK hZ (hws_1 hP)⟩ rfl rfl hl.1 rfl (lv_room (Nat.le_of_ble_eq_true rfl)) dX1_pays_13 ⟨Nat.le_of_ble_eq_true rfl, Nat.le_of_ble_eq_true rfl⟩) ?_
    refine lv_if_ne (tgt := 21) hx hb dX1_pays_16 (by decide) (fun c104 => ?_) (fun c104 => ?_)
    · have hv := o_neg hv c104
      refine lv_aload_n hx hb dX1_pays_21 rfl (lv_at hl 0 rfl) ?_
      refine lv_iload_n hx hb dX1_pays_22 rfl (lv_at hl 1 rfl) ?_
      refine lv_iload_n hx hb dX1_pays_23 rfl (lv_at hl 2 rfl) ?_
      refine lv_iload_n hx hb dX1_pays_24 rfl (lv_at hl 3 rfl) ?_
      obtain ⟨r105, e105, hv⟩ := o_bind hv
      refine rcall_i (W.runV (As := [.int x1, .int x2, .int x3]) (rest := []) hC (c_X1_winner l D cA a u x1 x2 x3 r105 e105) (cwV 3 hts gX1_pays_X1_winner rfl rfl rfl (by decide +kernel) ⟨Nat.le_of_ble_eq_true rfl, Nat.le_of_ble_eq_true rfl⟩) ⟨roB_blind, va_recv (ci := 1) (q0 := 0) hK hP rfl rfl, roB_pre hK hZ (hws_1 hP)⟩ rfl rfl hl.1 rfl (lv_room (Nat.le_of_ble_eq_true rfl)) dX1_pays_25 ⟨Nat.le_of_ble_eq_true rfl, Nat.le_of_ble_eq_true rfl⟩) ?_
      refine lv_iload hx hb dX1_pays_28 (lv_at hl 4 rfl) ?_
      refine lv_icmp_ne (tgt := 45) hx hb dX1_pays_30 (by decide) (fun c106 => ?_) (fun c106 => ?_)
      · have hv := o_neg hv c106
        refine lv_iconst (v := 0) hx hb dX1_pays_45 (by decide) ?_
        exact fin dX1_pays_46 hv
      · have hv := o_pos hv c106
        refine lv_aload_n hx hb dX1_pays_33 rfl (lv_at hl 0 rfl) ?_
        refine lv_iload_n hx hb dX1_pays_34 rfl (lv_at hl 1 rfl) ?_
        refine lv_iload_n hx hb dX1_pays_35 rfl (lv_at hl 2 rfl) ?_
        refine lv_iload_n hx hb dX1_pays_36 rfl (lv_at hl 3 rfl) ?_
        refine lv_iload hx hb dX1_pays_37 (lv_at hl 4 rfl) ?_
        obtain ⟨r107, e107, hv⟩ := o_bind hv
        refine rcall_i (W.runV (As := [.int x1, .int x2, .int x3, .int x4]) (rest := []) hC (c_X1_leastWinning l D cA a u x1 x2 x3 x4 r107 e107) (cwV 4 hts gX1_pays_X1_leastWinning rfl rfl rfl (by decide +kernel) ⟨Nat.le_of_ble_eq_true rfl, Nat.le_of_ble_eq_true rfl⟩) ⟨roB_blind, va_recv (ci := 1) (q0 := 0) hK hP rfl rfl, roB_pre hK hZ (hws_1 hP)⟩ rfl rfl hl.1 rfl (lv_room (Nat.le_of_ble_eq_true rfl)) dX1_pays_39 ⟨Nat.le_of_ble_eq_true rfl, Nat.le_of_ble_eq_true rfl⟩) ?_
        refine lv_goto (tgt := 46) hx hb dX1_pays_42 (by decide) ?_
        exact fin dX1_pays_46 hv
    · have hv := o_pos hv c104
      refine lv_iconst (v := -1) hx hb dX1_pays_19 (by decide) ?_
      exact fin dX1_pays_20 hv
abbrev rm_X1_gain : Room := { frames := 4, cells := 0, slots := 0, locals := 108 }
set_option maxHeartbeats 4000000 in
set_option maxRecDepth 100000 in
theorem c_X1_gain (l : Launch) (D : va_G) (cA : ClassId) (a : Nat → Nat) (u : StS) (x1 : Int32) (x2 : Int32) (x3 : Int32) (x4 : Int32) (x5 : Int32) (v : Int64) (hv : f_X1_gain u x1 x2 x3 x4 x5 = some v)  : Met l yX1_gain wsX1_gain rm_X1_gain (va_Pc [.ref (a 0), .int x1, .int x2, .int x3, .int x4, .int x5] (roB D cA [wS cA a u])) (vp_Sl (fun r => r = v)) 0 0 (fun _ => False) := by
  refine ro_l (cc := cX1_gain) (maxL := 7) (own := RX1) (by decide) rfl rfl (Nat.le_of_ble_eq_true rfl) ?_
  intro p e s m args below meth c Q ls hC hK hZ hws hl fin
  obtain ⟨hx, hb, hml, hown, hts⟩ := id hC
  have hl : lv_has ls 7 [(0, .ref (a 0)), (1, .int x1), (2, .int x2), (3, .int x3), (4, .int x4), (5, .int x5)] := hl
  have hP : va_P D vwCl (wS cA a u) s.heap := hws _ (List.mem_of_getElem? (i := 0) rfl)
  have hinX0 : ∀ w ∈ wsX00, w ∈ wsX1_gain := fun w h => List.mem_cons_of_mem _ (List.mem_append_right _ h)
  have hinX1 : ∀ w ∈ wsX10, w ∈ wsX1_gain := fun w h => List.mem_cons_of_mem _ (List.mem_append_left _ (List.mem_append_right _ h))
  unfold f_X1_gain at hv
  refine lv_aload_n hx hb dX1_gain_0 rfl (lv_at hl 0 rfl) ?_
  refine lv_iload_n hx hb dX1_gain_1 rfl (lv_at hl 1 rfl) ?_
  refine lv_iload_n hx hb dX1_gain_2 rfl (lv_at hl 2 rfl) ?_
  refine lv_iload_n hx hb dX1_gain_3 rfl (lv_at hl 3 rfl) ?_
  obtain ⟨r101, e101, hv⟩ := o_bind hv
  refine rcall_i (W.runV (As := [.int x1, .int x2, .int x3]) (rest := []) hC (c_X1_arePlaces l D cA a u x1 x2 x3 r101 e101) (cwV 3 hts gX1_gain_X1_arePlaces rfl rfl rfl (by decide +kernel) ⟨Nat.le_of_ble_eq_true rfl, Nat.le_of_ble_eq_true rfl⟩) ⟨roB_blind, va_recv (ci := 1) (q0 := 0) hK hP rfl rfl, roB_pre hK hZ (hws_1 hP)⟩ rfl rfl hl.1 rfl (lv_room (Nat.le_of_ble_eq_true rfl)) dX1_gain_4 ⟨Nat.le_of_ble_eq_true rfl, Nat.le_of_ble_eq_true rfl⟩) ?_
  refine lv_if_eq (tgt := 33) hx hb dX1_gain_7 (by decide) (fun c102 => ?_) (fun c102 => ?_)
  · have hv := o_pos hv c102
    refine lv_ldc2 (v := -1000000000000000) hx hb hown (hts (.constantLong RX1 90 (-1000000000000000)) (by decide +kernel)) dX1_gain_33 ?_
    exact fin dX1_gain_36 hv
  · have hv := o_neg hv c102
    refine lv_aload_n hx hb dX1_gain_10 rfl (lv_at hl 0 rfl) ?_
    refine lv_iload hx hb dX1_gain_11 (lv_at hl 4 rfl) ?_
    obtain ⟨r103, e103, hv⟩ := o_bind hv
    refine rcall_i (W.runV (As := [.int x4]) (rest := []) hC (c_X1_isBuyer l D cA a u x4 r103 e103) (cwV 1 hts gX1_gain_X1_isBuyer rfl rfl rfl (by decide +kernel) ⟨Nat.le_of_ble_eq_true rfl, Nat.le_of_ble_eq_true rfl⟩) ⟨roB_blind, va_recv (ci := 1) (q0 := 0) hK hP rfl rfl, roB_pre hK hZ (hws_1 hP)⟩ rfl rfl hl.1 rfl (lv_room (Nat.le_of_ble_eq_true rfl)) dX1_gain_13 ⟨Nat.le_of_ble_eq_true rfl, Nat.le_of_ble_eq_true rfl⟩) ?_
    refine lv_if_eq (tgt := 33) hx hb dX1_gain_16 (by decide) (fun c104 => ?_) (fun c104 => ?_)
    · have hv := o_pos hv c104
      refine lv_ldc2 (v := -1000000000000000) hx hb hown (hts (.constantLong RX1 90 (-1000000000000000)) (by decide +kernel)) dX1_gain_33 ?_
      exact fin dX1_gain_36 hv
    · have hv := o_neg hv c104
      refine lv_aload_n hx hb dX1_gain_19 rfl (lv_at hl 0 rfl) ?_
      refine lv_iload hx hb dX1_gain_20 (lv_at hl 4 rfl) ?_
      obtain ⟨r105, e105, hv⟩ := o_bind hv
      refine rcall_r (W.runV (As := [.int x4]) (rest := []) hC (c_X1_bookOf l D cA a u x4 r105 e105) (cwV 1 hts gX1_gain_X1_bookOf rfl rfl rfl (by decide +kernel) ⟨Nat.le_of_ble_eq_true rfl, Nat.le_of_ble_eq_true rfl⟩) ⟨roB_blind, va_recv (ci := 1) (q0 := 0) hK hP rfl rfl, roB_pre hK hZ (hws_1 hP)⟩ rfl rfl hl.1 rfl (lv_room (Nat.le_of_ble_eq_true rfl)) dX1_gain_22 ⟨Nat.le_of_ble_eq_true rfl, Nat.le_of_ble_eq_true rfl⟩) ?_
      refine lv_iload hx hb dX1_gain_25 (lv_at hl 5 rfl) ?_
      obtain ⟨r106, e106, hv⟩ := o_bind hv
      refine rcall_i (W.runV (As := [.int x5]) (rest := []) hC (c_X0_has l D cA (bx a r105) (bk u r105) x5 r106 e106) (cwV 1 hts gX1_gain_X0_has rfl rfl rfl (by decide +kernel) ⟨Nat.le_of_ble_eq_true rfl, Nat.le_of_ble_eq_true rfl⟩) ⟨roB_blind, va_recv (ci := 0) (q0 := 0) hK (wS_bk hP r105) rfl rfl, roB_pre hK hZ (hws_1 (wS_bk hP r105))⟩ rfl rfl hl.1 rfl (lv_room (Nat.le_of_ble_eq_true rfl)) dX1_gain_27 ⟨Nat.le_of_ble_eq_true rfl, Nat.le_of_ble_eq_true rfl⟩) ?_
      refine lv_if_ne (tgt := 37) hx hb dX1_gain_30 (by decide) (fun c107 => ?_) (fun c107 => ?_)
      · have hv := o_neg hv c107
        refine lv_aload_n hx hb dX1_gain_37 rfl (lv_at hl 0 rfl) ?_
        refine lv_iload hx hb dX1_gain_38 (lv_at hl 5 rfl) ?_
        refine lv_iload_n hx hb dX1_gain_40 rfl (lv_at hl 1 rfl) ?_
        refine lv_iload_n hx hb dX1_gain_41 rfl (lv_at hl 2 rfl) ?_
        refine lv_iload_n hx hb dX1_gain_42 rfl (lv_at hl 3 rfl) ?_
        refine lv_iload hx hb dX1_gain_43 (lv_at hl 4 rfl) ?_
        obtain ⟨r108, e108, hv⟩ := o_bind hv
        refine rcall_i (W.runV (As := [.int x5, .int x1, .int x2, .int x3, .int x4]) (rest := []) hC (c_X1_getsWith l D cA a u x5 x1 x2 x3 x4 r108 e108) (cwV 5 hts gX1_gain_X1_getsWith rfl rfl rfl (by decide +kernel) ⟨Nat.le_of_ble_eq_true rfl, Nat.le_of_ble_eq_true rfl⟩) ⟨roB_blind, va_recv (ci := 1) (q0 := 0) hK hP rfl rfl, roB_pre hK hZ (hws_1 hP)⟩ rfl rfl hl.1 rfl (lv_room (Nat.le_of_ble_eq_true rfl)) dX1_gain_45 ⟨Nat.le_of_ble_eq_true rfl, Nat.le_of_ble_eq_true rfl⟩) ?_
        refine lv_if_ne (tgt := 53) hx hb dX1_gain_48 (by decide) (fun c109 => ?_) (fun c109 => ?_)
        · have hv := o_neg hv c109
          refine lv_aload_n hx hb dX1_gain_53 rfl (lv_at hl 0 rfl) ?_
          refine lv_iload hx hb dX1_gain_54 (lv_at hl 4 rfl) ?_
          obtain ⟨r110, e110, hv⟩ := o_bind hv
          refine rcall_r (W.runV (As := [.int x4]) (rest := []) hC (c_X1_bookOf l D cA a u x4 r110 e110) (cwV 1 hts gX1_gain_X1_bookOf rfl rfl rfl (by decide +kernel) ⟨Nat.le_of_ble_eq_true rfl, Nat.le_of_ble_eq_true rfl⟩) ⟨roB_blind, va_recv (ci := 1) (q0 := 0) hK hP rfl rfl, roB_pre hK hZ (hws_1 hP)⟩ rfl rfl hl.1 rfl (lv_room (Nat.le_of_ble_eq_true rfl)) dX1_gain_56 ⟨Nat.le_of_ble_eq_true rfl, Nat.le_of_ble_eq_true rfl⟩) ?_
          refine lv_iload hx hb dX1_gain_59 (lv_at hl 4 rfl) ?_
          refine lv_iload_n hx hb dX1_gain_61 rfl (lv_at hl 1 rfl) ?_
          refine lv_iload_n hx hb dX1_gain_62 rfl (lv_at hl 2 rfl) ?_
          refine lv_iload_n hx hb dX1_gain_63 rfl (lv_at hl 3 rfl) ?_
          obtain ⟨r111, e111, hv⟩ := o_bind hv
          refine rcall_i (W.runS (As := [.int x4, .int x1, .int x2, .int x3]) (rest := [.ref (bx a r110 0)]) hC (c_X1_pick l D cA x4 x1 x2 x3 r111 e111) (va_cwS 4 hts gX1_gain_X1_pick rfl rfl rfl (by decide +kernel) ⟨Nat.le_of_ble_eq_true rfl, Nat.le_of_ble_eq_true rfl⟩) ⟨roB_blind, roB_pre hK hZ hws_0⟩ rfl rfl hl.1 rfl (lv_room (Nat.le_of_ble_eq_true rfl)) dX1_gain_64 ⟨Nat.le_of_ble_eq_true rfl, Nat.le_of_ble_eq_true rfl⟩) ?_
          obtain ⟨r112, e112, hv⟩ := o_bind hv
          refine rcall_i (W.runV (As := [.int r111]) (rest := []) hC (c_X0_worthAt l D cA (bx a r110) (bk u r110) r111 r112 e112) (cwV 1 hts gX1_gain_X0_worthAt rfl rfl rfl (by decide +kernel) ⟨Nat.le_of_ble_eq_true rfl, Nat.le_of_ble_eq_true rfl⟩) ⟨roB_blind, va_recv (ci := 0) (q0 := 0) hK (wS_bk hP r110) rfl rfl, roB_pre hK hZ (hws_1 (wS_bk hP r110))⟩ rfl rfl hl.1 rfl (lv_room (Nat.le_of_ble_eq_true rfl)) dX1_gain_67 ⟨Nat.le_of_ble_eq_true rfl, Nat.le_of_ble_eq_true rfl⟩) ?_
          refine lv_istore (lv' := [(6, .int r112), (0, .ref (a 0)), (1, .int x1), (2, .int x2), (3, .int x3), (4, .int x4), (5, .int x5)]) hx hb dX1_gain_70 hl (by decide) rfl (fun ls hl => ?_)
          refine lv_iload hx hb dX1_gain_72 (lv_at hl 0 rfl) ?_
          refine lv_aload_n hx hb dX1_gain_74 rfl (lv_at hl 1 rfl) ?_
          refine lv_iload_n hx hb dX1_gain_75 rfl (lv_at hl 2 rfl) ?_
          refine lv_iload_n hx hb dX1_gain_76 rfl (lv_at hl 3 rfl) ?_
          refine lv_iload_n hx hb dX1_gain_77 rfl (lv_at hl 4 rfl) ?_
          refine lv_iload hx hb dX1_gain_78 (lv_at hl 5 rfl) ?_
          obtain ⟨r113, e113, hv⟩ := o_bind hv
          refine rcall_i (W.runV (As := [.int x1, .int x2, .int x3, .int x4]) (rest := [.int r112]) hC (c_X1_leastWinning l D cA a u x1 x2 x3 x4 r113 e113) (cwV 4 hts gX1_gain_X1_leastWinning rfl rfl rfl (by decide +kernel) ⟨Nat.le_of_ble_eq_true rfl, Nat.le_of_ble_eq_true rfl⟩) ⟨roB_blind, va_recv (ci := 1) (q0 := 0) hK hP rfl rfl, roB_pre hK hZ (hws_1 hP)⟩ rfl rfl hl.1 rfl (lv_room (Nat.le_of_ble_eq_true rfl)) dX1_gain_80 ⟨Nat.le_of_ble_eq_true rfl, Nat.le_of_ble_eq_true rfl⟩) ?_
          refine lv_isub hx hb dX1_gain_83 ?_
          refine lv_i2l hx hb dX1_gain_84 rfl ?_
          exact fin dX1_gain_85 hv
        · have hv := o_pos hv c109
          refine lv_lconst (v := 0) hx hb dX1_gain_51 (by decide) ?_
          exact fin dX1_gain_52 hv
      · have hv := o_pos hv c107
        refine lv_ldc2 (v := -1000000000000000) hx hb hown (hts (.constantLong RX1 90 (-1000000000000000)) (by decide +kernel)) dX1_gain_33 ?_
        exact fin dX1_gain_36 hv
abbrev rm_X1_priceOf : Room := { frames := 1, cells := 0, slots := 0, locals := 21 }
set_option maxHeartbeats 4000000 in
set_option maxRecDepth 100000 in
theorem c_X1_priceOf (l : Launch) (D : va_G) (cA : ClassId) (a : Nat → Nat) (u : StS) (x1 : Int32) (x2 : Int32) (v : Int32) (hv : f_X1_priceOf u x1 x2 = some v)  : Met l yX1_priceOf wsX1_priceOf rm_X1_priceOf (va_Pc [.ref (a 0), .int x1, .int x2] (roB D cA [wS cA a u])) (vp_Si (fun r => r = v)) 0 0 (fun _ => False) := by
  refine ro_i (cc := cX1_priceOf) (maxL := 4) (own := RX1) (by decide) rfl rfl (Nat.le_of_ble_eq_true rfl) ?_
  intro p e s m args below meth c Q ls hC hK hZ hws hl fin
  obtain ⟨hx, hb, hml, hown, hts⟩ := id hC
  have hl : lv_has ls 4 [(0, .ref (a 0)), (1, .int x1), (2, .int x2)] := hl
  have hP : va_P D vwCl (wS cA a u) s.heap := hws _ (List.mem_of_getElem? (i := 0) rfl)
  have hinX1 : ∀ w ∈ wsX10, w ∈ wsX1_priceOf := fun w h => List.mem_cons_of_mem _ (List.mem_append_right _ h)
  have hB16 : ∀ (x1 : Int32) (x3 : Int32) (ls : Array Slot), lv_has ls 4 [(1, .int x1), (3, .int x3)] → B_X1_priceOf_16 u x1 x3 = some v → W p l e rm_X1_priceOf s m args below meth c s.heap [] 0 0 Q (F0 m 16 ls []) := by
    intro x1 x3 ls hl hv
    unfold B_X1_priceOf_16 at hv
    refine lv_iload_n hx hb dX1_priceOf_16 rfl (lv_at hl 0 rfl) ?_
    refine lv_iconst (v := 2) hx hb dX1_priceOf_17 (by decide) ?_
    refine lv_icmp_lt (tgt := 28) hx hb dX1_priceOf_18 (by decide) (fun c101 => ?_) (fun c101 => ?_)
    · have hv := o_pos hv c101
      refine lv_iload_n hx hb dX1_priceOf_28 rfl (lv_at hl 1 rfl) ?_
      exact fin dX1_priceOf_29 hv
    · have hv := o_neg hv c101
      refine lv_iload_n hx hb dX1_priceOf_21 rfl (lv_at hl 1 rfl) ?_
      refine lv_iload_n hx hb dX1_priceOf_22 rfl (lv_at hl 1 rfl) ?_
      refine lv_bipush (v := 10) hx hb dX1_priceOf_23 (by decide) ?_
      refine lv_idiv hx hb dX1_priceOf_25 (by decide) ?_
      refine lv_iadd hx hb dX1_priceOf_26 ?_
      refine lv_istore_n (lv' := [(3, .int (x3 + (x3 / (10 : Int32)))), (1, .int x1)]) hx hb dX1_priceOf_27 rfl hl (by decide) rfl (fun ls hl => ?_)
      refine lv_iload_n hx hb dX1_priceOf_28 rfl (lv_at hl 0 rfl) ?_
      exact fin dX1_priceOf_29 hv
  unfold f_X1_priceOf at hv
  refine lv_iload_n hx hb dX1_priceOf_0 rfl (lv_at hl 2 rfl) ?_
  refine lv_istore_n (lv' := [(3, .int x2), (0, .ref (a 0)), (1, .int x1), (2, .int x2)]) hx hb dX1_priceOf_1 rfl hl (by decide) rfl (fun ls hl => ?_)
  refine lv_iload_n hx hb dX1_priceOf_2 rfl (lv_at hl 2 rfl) ?_
  refine lv_iconst (v := 1) hx hb dX1_priceOf_3 (by decide) ?_
  refine lv_icmp_lt (tgt := 16) hx hb dX1_priceOf_4 (by decide) (fun c202 => ?_) (fun c202 => ?_)
  · have hv := o_pos hv c202
    exact hB16 _ _  ls (lv_sub hl [2, 0] rfl) hv
  · have hv := o_neg hv c202
    refine lv_iload_n hx hb dX1_priceOf_7 rfl (lv_at hl 0 rfl) ?_
    refine lv_aload_n hx hb dX1_priceOf_8 rfl (lv_at hl 1 rfl) ?_
    refine gtX1_reservePrice hx hb hts hinX1 hown hK hP (by decide +kernel) dX1_priceOf_9 ?_
    refine va_mmax hx hb (hml.trans hl.1.symm) hown (hts (.methodLink RX1 176 Lib.Math.max.name) (by decide +kernel)) (hts (.static Lib.Math.max.name) (by decide +kernel)) (hts (.initialized "java/lang/Math") (by decide +kernel)) (hts (.code Lib.Math.max.name Lib.Math.max.code 2 (some .int)) (by decide +kernel)) (Nat.le_of_ble_eq_true rfl) (Nat.le_of_ble_eq_true rfl) (Nat.le_of_ble_eq_true rfl) (Nat.le_of_ble_eq_true rfl) dX1_priceOf_12 ?_
    refine lv_istore_n (lv' := [(3, .int (if x2 < (s_reservePrice u) then (s_reservePrice u) else x2)), (0, .ref (a 0)), (1, .int x1), (2, .int x2)]) hx hb dX1_priceOf_15 rfl hl (by decide) rfl (fun ls hl => ?_)
    exact hB16 _ _  ls (lv_sub hl [2, 0] rfl) hv
abbrev rm_X1_paidByKind : Room := { frames := 2, cells := 0, slots := 0, locals := 44 }
set_option maxHeartbeats 4000000 in
set_option maxRecDepth 100000 in
theorem c_X1_paidByKind (l : Launch) (D : va_G) (cA : ClassId) (a : Nat → Nat) (u : StS) (x1 : Int32) (x2 : Int32) (x3 : Int32) (x4 : Int32) (v : Int32) (hv : f_X1_paidByKind u x1 x2 x3 x4 = some v)  : Met l yX1_paidByKind wsX1_paidByKind rm_X1_paidByKind (va_Pc [.ref (a 0), .int x1, .int x2, .int x3, .int x4] (roB D cA [wS cA a u])) (vp_Si (fun r => r = v)) 0 0 (fun _ => False) := by
  refine ro_i (cc := cX1_paidByKind) (maxL := 9) (own := RX1) (by decide) rfl rfl (Nat.le_of_ble_eq_true rfl) ?_
  intro p e s m args below meth c Q ls hC hK hZ hws hl fin
  obtain ⟨hx, hb, hml, hown, hts⟩ := id hC
  have hl : lv_has ls 9 [(0, .ref (a 0)), (1, .int x1), (2, .int x2), (3, .int x3), (4, .int x4)] := hl
  have hP : va_P D vwCl (wS cA a u) s.heap := hws _ (List.mem_of_getElem? (i := 0) rfl)
  have hinX1 : ∀ w ∈ wsX10, w ∈ wsX1_paidByKind := fun w h => List.mem_cons_of_mem _ (List.mem_append_right _ h)
  have hB9 : ∀ (k58 : Int32 → Int32 → Int32 → Option (Int32)) (hk58 : ∀ (x1 : Int32) (x5 : Int32) (x6 : Int32) (ls : Array Slot), lv_has ls 9 [(0, .ref (a 0)), (1, .int x1), (5, .int x5), (6, .int x6)] → k58 x1 x5 x6 = some v → W p l e rm_X1_paidByKind s m args below meth c s.heap [] 0 0 Q (F0 m 58 ls [])) (n : Nat) (x1 : Int32) (x2 : Int32) (x3 : Int32) (x4 : Int32) (x5 : Int32) (x6 : Int32) (x7 : Int32) (ls : Array Slot), lv_has ls 9 [(0, .ref (a 0)), (1, .int x1), (2, .int x2), (3, .int x3), (4, .int x4), (5, .int x5), (6, .int x6), (7, .int x7)] → B_X1_paidByKind_9 u k58 n x1 x2 x3 x4 x5 x6 x7 = some v → W p l e rm_X1_paidByKind s m args below meth c s.heap [] 0 0 Q (F0 m 9 ls []) := by
    intro k58 hk58 n
    induction n with
    | zero => intro x1 x2 x3 x4 x5 x6 x7 ls hl hv; exact absurd hv (by intro h; cases h)
    | succ n hk9 =>
      intro x1 x2 x3 x4 x5 x6 x7 ls hl hv
      rw [B_X1_paidByKind_9] at hv
      refine lv_iload hx hb dX1_paidByKind_9 (lv_at hl 7 rfl) ?_
      refine lv_aload_n hx hb dX1_paidByKind_11 rfl (lv_at hl 0 rfl) ?_
      refine gtX1_buyerCount hx hb hts hinX1 hown hK hP (by decide +kernel) dX1_paidByKind_12 ?_
      refine lv_icmp_ge (tgt := 58) hx hb dX1_paidByKind_15 (by decide) (fun c101 => ?_) (fun c101 => ?_)
      · have hv := o_pos hv c101
        exact hk58 _ _ _  ls (lv_sub hl [0, 1, 5, 6] rfl) hv
      · have hv := o_neg hv c101
        refine lv_iload hx hb dX1_paidByKind_18 (lv_at hl 7 rfl) ?_
        refine lv_iload_n hx hb dX1_paidByKind_20 rfl (lv_at hl 2 rfl) ?_
        refine lv_iload_n hx hb dX1_paidByKind_21 rfl (lv_at hl 3 rfl) ?_
        refine lv_iload hx hb dX1_paidByKind_22 (lv_at hl 4 rfl) ?_
        obtain ⟨r102, e102, hv⟩ := o_bind hv
        refine rcall_i (W.runS (As := [.int x7, .int x2, .int x3, .int x4]) (rest := []) hC (c_X1_pick l D cA x7 x2 x3 x4 r102 e102) (va_cwS 4 hts gX1_paidByKind_X1_pick rfl rfl rfl (by decide +kernel) ⟨Nat.le_of_ble_eq_true rfl, Nat.le_of_ble_eq_true rfl⟩) ⟨roB_blind, roB_pre hK hZ hws_0⟩ rfl rfl hl.1 rfl (lv_room (Nat.le_of_ble_eq_true rfl)) dX1_paidByKind_24 ⟨Nat.le_of_ble_eq_true rfl, Nat.le_of_ble_eq_true rfl⟩) ?_
        refine lv_istore (lv' := [(8, .int r102), (0, .ref (a 0)), (1, .int x1), (2, .int x2), (3, .int x3), (4, .int x4), (5, .int x5), (6, .int x6), (7, .int x7)]) hx hb dX1_paidByKind_27 hl (by decide) rfl (fun ls hl => ?_)
        refine lv_iload hx hb dX1_paidByKind_29 (lv_at hl 7 rfl) ?_
        refine lv_iload hx hb dX1_paidByKind_31 (lv_at hl 0 rfl) ?_
        refine lv_iload hx hb dX1_paidByKind_33 (lv_at hl 6 rfl) ?_
        refine va_mmin hx hb (hml.trans hl.1.symm) hown (hts (.methodLink RX1 170 Lib.Math.min.name) (by decide +kernel)) (hts (.static Lib.Math.min.name) (by decide +kernel)) (hts (.initialized "java/lang/Math") (by decide +kernel)) (hts (.code Lib.Math.min.name Lib.Math.min.code 2 (some .int)) (by decide +kernel)) (Nat.le_of_ble_eq_true rfl) (Nat.le_of_ble_eq_true rfl) (Nat.le_of_ble_eq_true rfl) (Nat.le_of_ble_eq_true rfl) dX1_paidByKind_35 ?_
        refine va_mmax hx hb (hml.trans hl.1.symm) hown (hts (.methodLink RX1 176 Lib.Math.max.name) (by decide +kernel)) (hts (.static Lib.Math.max.name) (by decide +kernel)) (hts (.initialized "java/lang/Math") (by decide +kernel)) (hts (.code Lib.Math.max.name Lib.Math.max.code 2 (some .int)) (by decide +kernel)) (Nat.le_of_ble_eq_true rfl) (Nat.le_of_ble_eq_true rfl) (Nat.le_of_ble_eq_true rfl) (Nat.le_of_ble_eq_true rfl) dX1_paidByKind_38 ?_
        refine lv_istore (lv' := [(6, .int (if x6 < (if x5 < r102 then x5 else r102) then (if x5 < r102 then x5 else r102) else x6)), (8, .int r102), (0, .ref (a 0)), (1, .int x1), (2, .int x2), (3, .int x3), (4, .int x4), (5, .int x5), (7, .int x7)]) hx hb dX1_paidByKind_41 hl (by decide) rfl (fun ls hl => ?_)
        refine lv_iload hx hb dX1_paidByKind_43 (lv_at hl 7 rfl) ?_
        refine lv_iload hx hb dX1_paidByKind_45 (lv_at hl 1 rfl) ?_
        refine va_mmax hx hb (hml.trans hl.1.symm) hown (hts (.methodLink RX1 176 Lib.Math.max.name) (by decide +kernel)) (hts (.static Lib.Math.max.name) (by decide +kernel)) (hts (.initialized "java/lang/Math") (by decide +kernel)) (hts (.code Lib.Math.max.name Lib.Math.max.code 2 (some .int)) (by decide +kernel)) (Nat.le_of_ble_eq_true rfl) (Nat.le_of_ble_eq_true rfl) (Nat.le_of_ble_eq_true rfl) (Nat.le_of_ble_eq_true rfl) dX1_paidByKind_47 ?_
        refine lv_istore (lv' := [(5, .int (if x5 < r102 then r102 else x5)), (6, .int (if x6 < (if x5 < r102 then x5 else r102) then (if x5 < r102 then x5 else r102) else x6)), (8, .int r102), (0, .ref (a 0)), (1, .int x1), (2, .int x2), (3, .int x3), (4, .int x4), (7, .int x7)]) hx hb dX1_paidByKind_50 hl (by decide) rfl (fun ls hl => ?_)
        refine lv_iinc (v := (x7 + 1)) (lv' := [(7, .int (x7 + 1)), (5, .int (if x5 < r102 then r102 else x5)), (6, .int (if x6 < (if x5 < r102 then x5 else r102) then (if x5 < r102 then x5 else r102) else x6)), (8, .int r102), (0, .ref (a 0)), (1, .int x1), (2, .int x2), (3, .int x3), (4, .int x4)]) hx hb dX1_paidByKind_52 hl (k := 8) rfl rfl (by decide) rfl (fun ls hl => ?_)
        refine lv_goto (tgt := 9) hx hb dX1_paidByKind_55 (by decide) ?_
        exact hk9 _ _ _ _ _ _ _  ls (lv_sub hl [4, 5, 6, 7, 8, 1, 2, 0] rfl) hv
  have hB74 : ∀ (x1 : Int32) (x6 : Int32) (ls : Array Slot), lv_has ls 9 [(0, .ref (a 0)), (1, .int x1), (6, .int x6)] → B_X1_paidByKind_74 u x1 x6 = some v → W p l e rm_X1_paidByKind s m args below meth c s.heap [] 0 0 Q (F0 m 74 ls []) := by
    intro x1 x6 ls hl hv
    unfold B_X1_paidByKind_74 at hv
    refine lv_aload_n hx hb dX1_paidByKind_74 rfl (lv_at hl 0 rfl) ?_
    refine lv_iload_n hx hb dX1_paidByKind_75 rfl (lv_at hl 1 rfl) ?_
    refine lv_iload hx hb dX1_paidByKind_76 (lv_at hl 2 rfl) ?_
    obtain ⟨r203, e203, hv⟩ := o_bind hv
    refine rcall_i (W.runV (As := [.int x1, .int x6]) (rest := []) hC (c_X1_priceOf l D cA a u x1 x6 r203 e203) (cwV 2 hts gX1_paidByKind_X1_priceOf rfl rfl rfl (by decide +kernel) ⟨Nat.le_of_ble_eq_true rfl, Nat.le_of_ble_eq_true rfl⟩) ⟨roB_blind, va_recv (ci := 1) (q0 := 0) hK hP rfl rfl, roB_pre hK hZ (hws_1 hP)⟩ rfl rfl hl.1 rfl (lv_room (Nat.le_of_ble_eq_true rfl)) dX1_paidByKind_78 ⟨Nat.le_of_ble_eq_true rfl, Nat.le_of_ble_eq_true rfl⟩) ?_
    exact fin dX1_paidByKind_81 hv
  unfold f_X1_paidByKind at hv
  refine lv_iconst (v := -1) hx hb dX1_paidByKind_0 (by decide) ?_
  refine lv_istore (lv' := [(5, .int (-1 : Int32)), (0, .ref (a 0)), (1, .int x1), (2, .int x2), (3, .int x3), (4, .int x4)]) hx hb dX1_paidByKind_1 hl (by decide) rfl (fun ls hl => ?_)
  refine lv_iconst (v := 0) hx hb dX1_paidByKind_3 (by decide) ?_
  refine lv_istore (lv' := [(6, .int (0 : Int32)), (5, .int (-1 : Int32)), (0, .ref (a 0)), (1, .int x1), (2, .int x2), (3, .int x3), (4, .int x4)]) hx hb dX1_paidByKind_4 hl (by decide) rfl (fun ls hl => ?_)
  refine lv_iconst (v := 0) hx hb dX1_paidByKind_6 (by decide) ?_
  refine lv_istore (lv' := [(7, .int (0 : Int32)), (6, .int (0 : Int32)), (5, .int (-1 : Int32)), (0, .ref (a 0)), (1, .int x1), (2, .int x2), (3, .int x3), (4, .int x4)]) hx hb dX1_paidByKind_7 hl (by decide) rfl (fun ls hl => ?_)
  refine hB9 _ (fun z304_1 z304_5 z304_6 ls hl hv => ?_) 1000 _ _ _ _ _ _ _ ls (lv_sub hl [3, 4, 5, 6, 7, 2, 1, 0] rfl) hv
  · skip
    refine lv_iload_n hx hb dX1_paidByKind_58 rfl (lv_at hl 1 rfl) ?_
    refine lv_if_eq (tgt := 74) hx hb dX1_paidByKind_59 (by decide) (fun c305 => ?_) (fun c305 => ?_)
    · have hv := o_pos hv c305
      exact hB74 _ _  ls (lv_sub hl [0, 1, 3] rfl) hv
    · have hv := o_neg hv c305
      refine lv_iload hx hb dX1_paidByKind_62 (lv_at hl 2 rfl) ?_
      refine lv_aload_n hx hb dX1_paidByKind_64 rfl (lv_at hl 0 rfl) ?_
      refine gtX1_reservePrice hx hb hts hinX1 hown hK hP (by decide +kernel) dX1_paidByKind_65 ?_
      refine lv_icmp_ge (tgt := 74) hx hb dX1_paidByKind_68 (by decide) (fun c306 => ?_) (fun c306 => ?_)
      · have hv := o_pos hv c306
        exact hB74 _ _  ls (lv_sub hl [0, 1, 3] rfl) hv
      · have hv := o_neg hv c306
        refine lv_bipush (v := -9) hx hb dX1_paidByKind_71 (by decide) ?_
        exact fin dX1_paidByKind_73 hv
abbrev rm_X1_paidAt : Room := { frames := 4, cells := 0, slots := 0, locals := 108 }
set_option maxHeartbeats 4000000 in
set_option maxRecDepth 100000 in
theorem c_X1_paidAt (l : Launch) (D : va_G) (cA : ClassId) (a : Nat → Nat) (u : StS) (x1 : Int32) (x2 : Int32) (x3 : Int32) (x4 : Int32) (v : Int32) (hv : f_X1_paidAt u x1 x2 x3 x4 = some v)  : Met l yX1_paidAt wsX1_paidAt rm_X1_paidAt (va_Pc [.ref (a 0), .int x1, .int x2, .int x3, .int x4] (roB D cA [wS cA a u])) (vp_Si (fun r => r = v)) 0 0 (fun _ => False) := by
  refine ro_i (cc := cX1_paidAt) (maxL := 6) (own := RX1) (by decide) rfl rfl (Nat.le_of_ble_eq_true rfl) ?_
  intro p e s m args below meth c Q ls hC hK hZ hws hl fin
  obtain ⟨hx, hb, hml, hown, hts⟩ := id hC
  have hl : lv_has ls 6 [(0, .ref (a 0)), (1, .int x1), (2, .int x2), (3, .int x3), (4, .int x4)] := hl
  have hP : va_P D vwCl (wS cA a u) s.heap := hws _ (List.mem_of_getElem? (i := 0) rfl)
  have hinX0 : ∀ w ∈ wsX00, w ∈ wsX1_paidAt := fun w h => List.mem_cons_of_mem _ (List.mem_append_right _ h)
  have hinX1 : ∀ w ∈ wsX10, w ∈ wsX1_paidAt := fun w h => List.mem_cons_of_mem _ (List.mem_append_left _ (List.mem_append_right _ h))
  unfold f_X1_paidAt at hv
  refine lv_iload_n hx hb dX1_paidAt_0 rfl (lv_at hl 1 rfl) ?_
  refine lv_iconst (v := 3) hx hb dX1_paidAt_1 (by decide) ?_
  refine lv_icmp_ne (tgt := 37) hx hb dX1_paidAt_2 (by decide) (fun c101 => ?_) (fun c101 => ?_)
  · have hv := o_neg hv c101
    refine lv_aload_n hx hb dX1_paidAt_37 rfl (lv_at hl 0 rfl) ?_
    refine lv_iload_n hx hb dX1_paidAt_38 rfl (lv_at hl 1 rfl) ?_
    refine lv_aload_n hx hb dX1_paidAt_39 rfl (lv_at hl 0 rfl) ?_
    refine gtX1_book0 hx hb hts hinX1 hown hK hP (by decide +kernel) dX1_paidAt_40 ?_
    refine lv_iload_n hx hb dX1_paidAt_43 rfl (lv_at hl 2 rfl) ?_
    obtain ⟨r102, e102, hv⟩ := o_bind hv
    refine rcall_i (W.runV (As := [.int x2]) (rest := [.int x1, .ref (a 0)]) hC (c_X0_worthAt l D cA (bx a 0) (bk u 0) x2 r102 e102) (cwV 1 hts gX1_paidAt_X0_worthAt rfl rfl rfl (by decide +kernel) ⟨Nat.le_of_ble_eq_true rfl, Nat.le_of_ble_eq_true rfl⟩) ⟨roB_blind, va_recv (ci := 0) (q0 := 0) hK (wS_bk hP 0) rfl rfl, roB_pre hK hZ (hws_1 (wS_bk hP 0))⟩ rfl rfl hl.1 rfl (lv_room (Nat.le_of_ble_eq_true rfl)) dX1_paidAt_44 ⟨Nat.le_of_ble_eq_true rfl, Nat.le_of_ble_eq_true rfl⟩) ?_
    refine lv_aload_n hx hb dX1_paidAt_47 rfl (lv_at hl 0 rfl) ?_
    refine gtX1_book1 hx hb hts hinX1 hown hK hP (by decide +kernel) dX1_paidAt_48 ?_
    refine lv_iload_n hx hb dX1_paidAt_51 rfl (lv_at hl 3 rfl) ?_
    obtain ⟨r103, e103, hv⟩ := o_bind hv
    refine rcall_i (W.runV (As := [.int x3]) (rest := [.int r102, .int x1, .ref (a 0)]) hC (c_X0_worthAt l D cA (bx a 1) (bk u 1) x3 r103 e103) (cwV 1 hts gX1_paidAt_X0_worthAt rfl rfl rfl (by decide +kernel) ⟨Nat.le_of_ble_eq_true rfl, Nat.le_of_ble_eq_true rfl⟩) ⟨roB_blind, va_recv (ci := 0) (q0 := 0) hK (wS_bk hP 1) rfl rfl, roB_pre hK hZ (hws_1 (wS_bk hP 1))⟩ rfl rfl hl.1 rfl (lv_room (Nat.le_of_ble_eq_true rfl)) dX1_paidAt_52 ⟨Nat.le_of_ble_eq_true rfl, Nat.le_of_ble_eq_true rfl⟩) ?_
    refine lv_aload_n hx hb dX1_paidAt_55 rfl (lv_at hl 0 rfl) ?_
    refine gtX1_book2 hx hb hts hinX1 hown hK hP (by decide +kernel) dX1_paidAt_56 ?_
    refine lv_iload hx hb dX1_paidAt_59 (lv_at hl 4 rfl) ?_
    obtain ⟨r104, e104, hv⟩ := o_bind hv
    refine rcall_i (W.runV (As := [.int x4]) (rest := [.int r103, .int r102, .int x1, .ref (a 0)]) hC (c_X0_worthAt l D cA (bx a 2) (bk u 2) x4 r104 e104) (cwV 1 hts gX1_paidAt_X0_worthAt rfl rfl rfl (by decide +kernel) ⟨Nat.le_of_ble_eq_true rfl, Nat.le_of_ble_eq_true rfl⟩) ⟨roB_blind, va_recv (ci := 0) (q0 := 0) hK (wS_bk hP 2) rfl rfl, roB_pre hK hZ (hws_1 (wS_bk hP 2))⟩ rfl rfl hl.1 rfl (lv_room (Nat.le_of_ble_eq_true rfl)) dX1_paidAt_61 ⟨Nat.le_of_ble_eq_true rfl, Nat.le_of_ble_eq_true rfl⟩) ?_
    obtain ⟨r105, e105, hv⟩ := o_bind hv
    refine rcall_i (W.runV (As := [.int x1, .int r102, .int r103, .int r104]) (rest := []) hC (c_X1_paidByKind l D cA a u x1 r102 r103 r104 r105 e105) (cwV 4 hts gX1_paidAt_X1_paidByKind rfl rfl rfl (by decide +kernel) ⟨Nat.le_of_ble_eq_true rfl, Nat.le_of_ble_eq_true rfl⟩) ⟨roB_blind, va_recv (ci := 1) (q0 := 0) hK hP rfl rfl, roB_pre hK hZ (hws_1 hP)⟩ rfl rfl hl.1 rfl (lv_room (Nat.le_of_ble_eq_true rfl)) dX1_paidAt_64 ⟨Nat.le_of_ble_eq_true rfl, Nat.le_of_ble_eq_true rfl⟩) ?_
    refine lv_istore (lv' := [(5, .int r105), (0, .ref (a 0)), (1, .int x1), (2, .int x2), (3, .int x3), (4, .int x4)]) hx hb dX1_paidAt_67 hl (by decide) rfl (fun ls hl => ?_)
    refine lv_iload hx hb dX1_paidAt_69 (lv_at hl 0 rfl) ?_
    refine lv_bipush (v := -9) hx hb dX1_paidAt_71 (by decide) ?_
    refine lv_icmp_ne (tgt := 80) hx hb dX1_paidAt_73 (by decide) (fun c106 => ?_) (fun c106 => ?_)
    · have hv := o_neg hv c106
      refine lv_iload hx hb dX1_paidAt_80 (lv_at hl 0 rfl) ?_
      exact fin dX1_paidAt_82 hv
    · have hv := o_pos hv c106
      refine lv_iconst (v := 0) hx hb dX1_paidAt_76 (by decide) ?_
      refine lv_goto (tgt := 82) hx hb dX1_paidAt_77 (by decide) ?_
      exact fin dX1_paidAt_82 hv
  · have hv := o_pos hv c101
    refine lv_aload_n hx hb dX1_paidAt_5 rfl (lv_at hl 0 rfl) ?_
    refine lv_iload_n hx hb dX1_paidAt_6 rfl (lv_at hl 2 rfl) ?_
    refine lv_iload_n hx hb dX1_paidAt_7 rfl (lv_at hl 3 rfl) ?_
    refine lv_iload hx hb dX1_paidAt_8 (lv_at hl 4 rfl) ?_
    obtain ⟨r107, e107, hv⟩ := o_bind hv
    refine rcall_i (W.runV (As := [.int x2, .int x3, .int x4]) (rest := []) hC (c_X1_winner l D cA a u x2 x3 x4 r107 e107) (cwV 3 hts gX1_paidAt_X1_winner rfl rfl rfl (by decide +kernel) ⟨Nat.le_of_ble_eq_true rfl, Nat.le_of_ble_eq_true rfl⟩) ⟨roB_blind, va_recv (ci := 1) (q0 := 0) hK hP rfl rfl, roB_pre hK hZ (hws_1 hP)⟩ rfl rfl hl.1 rfl (lv_room (Nat.le_of_ble_eq_true rfl)) dX1_paidAt_10 ⟨Nat.le_of_ble_eq_true rfl, Nat.le_of_ble_eq_true rfl⟩) ?_
    refine lv_istore (lv' := [(5, .int r107), (0, .ref (a 0)), (1, .int x1), (2, .int x2), (3, .int x3), (4, .int x4)]) hx hb dX1_paidAt_13 hl (by decide) rfl (fun ls hl => ?_)
    refine lv_iload hx hb dX1_paidAt_15 (lv_at hl 0 rfl) ?_
    refine lv_bipush (v := -9) hx hb dX1_paidAt_17 (by decide) ?_
    refine lv_icmp_ne (tgt := 26) hx hb dX1_paidAt_19 (by decide) (fun c108 => ?_) (fun c108 => ?_)
    · have hv := o_neg hv c108
      refine lv_aload_n hx hb dX1_paidAt_26 rfl (lv_at hl 1 rfl) ?_
      refine lv_iload_n hx hb dX1_paidAt_27 rfl (lv_at hl 3 rfl) ?_
      refine lv_iload_n hx hb dX1_paidAt_28 rfl (lv_at hl 4 rfl) ?_
      refine lv_iload hx hb dX1_paidAt_29 (lv_at hl 5 rfl) ?_
      refine lv_iload hx hb dX1_paidAt_31 (lv_at hl 0 rfl) ?_
      obtain ⟨r109, e109, hv⟩ := o_bind hv
      refine rcall_i (W.runV (As := [.int x2, .int x3, .int x4, .int r107]) (rest := []) hC (c_X1_leastWinning l D cA a u x2 x3 x4 r107 r109 e109) (cwV 4 hts gX1_paidAt_X1_leastWinning rfl rfl rfl (by decide +kernel) ⟨Nat.le_of_ble_eq_true rfl, Nat.le_of_ble_eq_true rfl⟩) ⟨roB_blind, va_recv (ci := 1) (q0 := 0) hK hP rfl rfl, roB_pre hK hZ (hws_1 hP)⟩ rfl rfl hl.1 rfl (lv_room (Nat.le_of_ble_eq_true rfl)) dX1_paidAt_33 ⟨Nat.le_of_ble_eq_true rfl, Nat.le_of_ble_eq_true rfl⟩) ?_
      exact fin dX1_paidAt_36 hv
    · have hv := o_pos hv c108
      refine lv_iconst (v := 0) hx hb dX1_paidAt_22 (by decide) ?_
      refine lv_goto (tgt := 36) hx hb dX1_paidAt_23 (by decide) ?_
      exact fin dX1_paidAt_36 hv
abbrev rm_X1_meanPaid : Room := { frames := 5, cells := 0, slots := 0, locals := 133 }
set_option maxHeartbeats 4000000 in
set_option maxRecDepth 100000 in
theorem c_X1_meanPaid (l : Launch) (D : va_G) (cA : ClassId) (a : Nat → Nat) (u : StS) (x1 : Int32) (x2 : Int32) (v : Int64) (hv : f_X1_meanPaid u x1 x2 = some v)  : Met l yX1_meanPaid wsX1_meanPaid rm_X1_meanPaid (va_Pc [.ref (a 0), .int x1, .int x2] (roB D cA [wS cA a u])) (vp_Sl (fun r => r = v)) 0 0 (fun _ => False) := by
  refine ro_l (cc := cX1_meanPaid) (maxL := 10) (own := RX1) (by decide) rfl rfl (Nat.le_of_ble_eq_true rfl) ?_
  intro p e s m args below meth c Q ls hC hK hZ hws hl fin
  obtain ⟨hx, hb, hml, hown, hts⟩ := id hC
  have hl : lv_has ls 10 [(0, .ref (a 0)), (1, .int x1), (2, .int x2)] := hl
  have hP : va_P D vwCl (wS cA a u) s.heap := hws _ (List.mem_of_getElem? (i := 0) rfl)
  have hinX0 : ∀ w ∈ wsX00, w ∈ wsX1_meanPaid := fun w h => List.mem_cons_of_mem _ (List.mem_append_right _ h)
  have hinX1 : ∀ w ∈ wsX10, w ∈ wsX1_meanPaid := fun w h => List.mem_cons_of_mem _ (List.mem_append_left _ (List.mem_append_right _ h))
  have hB35 : ∀ (k105 : Int32 → Int32 → Int64 → Int32 → Int32 → Option (Int64)) (hk105 : ∀ (x1 : Int32) (x2 : Int32) (x3 : Int64) (x5 : Int32) (x6 : Int32) (ls : Array Slot), lv_has ls 10 [(0, .ref (a 0)), (1, .int x1), (2, .int x2), (3, .long x3), (5, .int x5), (6, .int x6)] → k105 x1 x2 x3 x5 x6 = some v → W p l e rm_X1_meanPaid s m args below meth c s.heap [] 0 0 Q (F0 m 105 ls [])) (n : Nat) (x1 : Int32) (x2 : Int32) (x3 : Int64) (x5 : Int32) (x6 : Int32) (x7 : Int32) (ls : Array Slot), lv_has ls 10 [(0, .ref (a 0)), (1, .int x1), (2, .int x2), (3, .long x3), (5, .int x5), (6, .int x6), (7, .int x7)] → B_X1_meanPaid_35 u k105 n x1 x2 x3 x5 x6 x7 = some v → W p l e rm_X1_meanPaid s m args below meth c s.heap [] 0 0 Q (F0 m 35 ls []) := by
    intro k105 hk105 n
    induction n with
    | zero => intro x1 x2 x3 x5 x6 x7 ls hl hv; exact absurd hv (by intro h; cases h)
    | succ n hk35 =>
      intro x1 x2 x3 x5 x6 x7 ls hl hv
      rw [B_X1_meanPaid_35] at hv
      refine lv_iload hx hb dX1_meanPaid_35 (lv_at hl 6 rfl) ?_
      refine lv_aload_n hx hb dX1_meanPaid_37 rfl (lv_at hl 0 rfl) ?_
      refine gtX1_book2 hx hb hts hinX1 hown hK hP (by decide +kernel) dX1_meanPaid_38 ?_
      refine gnX0_size hx hb hts hinX0 hown hK hZ (wS_bk hP 2) dX1_meanPaid_41 ?_
      refine lv_icmp_ge (tgt := 105) hx hb dX1_meanPaid_44 (by decide) (fun c101 => ?_) (fun c101 => ?_)
      · have hv := o_pos hv c101
        exact hk105 _ _ _ _ _  ls (lv_sub hl [0, 1, 2, 3, 4, 5] rfl) hv
      · have hv := o_neg hv c101
        refine lv_aload_n hx hb dX1_meanPaid_47 rfl (lv_at hl 0 rfl) ?_
        refine gtX1_book0 hx hb hts hinX1 hown hK hP (by decide +kernel) dX1_meanPaid_48 ?_
        refine lv_iload hx hb dX1_meanPaid_51 (lv_at hl 4 rfl) ?_
        obtain ⟨r102, e102, hv⟩ := o_bind hv
        refine rcall_i (W.runV (As := [.int x5]) (rest := []) hC (c_X0_weightAt l D cA (bx a 0) (bk u 0) x5 r102 e102) (cwV 1 hts gX1_meanPaid_X0_weightAt rfl rfl rfl (by decide +kernel) ⟨Nat.le_of_ble_eq_true rfl, Nat.le_of_ble_eq_true rfl⟩) ⟨roB_blind, va_recv (ci := 0) (q0 := 0) hK (wS_bk hP 0) rfl rfl, roB_pre hK hZ (hws_1 (wS_bk hP 0))⟩ rfl rfl hl.1 rfl (lv_room (Nat.le_of_ble_eq_true rfl)) dX1_meanPaid_53 ⟨Nat.le_of_ble_eq_true rfl, Nat.le_of_ble_eq_true rfl⟩) ?_
        refine lv_i2l hx hb dX1_meanPaid_56 rfl ?_
        refine lv_aload_n hx hb dX1_meanPaid_57 rfl (lv_at hl 0 rfl) ?_
        refine gtX1_book1 hx hb hts hinX1 hown hK hP (by decide +kernel) dX1_meanPaid_58 ?_
        refine lv_iload hx hb dX1_meanPaid_61 (lv_at hl 5 rfl) ?_
        obtain ⟨r103, e103, hv⟩ := o_bind hv
        refine rcall_i (W.runV (As := [.int x6]) (rest := [.long ((r102).toInt64)]) hC (c_X0_weightAt l D cA (bx a 1) (bk u 1) x6 r103 e103) (cwV 1 hts gX1_meanPaid_X0_weightAt rfl rfl rfl (by decide +kernel) ⟨Nat.le_of_ble_eq_true rfl, Nat.le_of_ble_eq_true rfl⟩) ⟨roB_blind, va_recv (ci := 0) (q0 := 0) hK (wS_bk hP 1) rfl rfl, roB_pre hK hZ (hws_1 (wS_bk hP 1))⟩ rfl rfl hl.1 rfl (lv_room (Nat.le_of_ble_eq_true rfl)) dX1_meanPaid_63 ⟨Nat.le_of_ble_eq_true rfl, Nat.le_of_ble_eq_true rfl⟩) ?_
        refine lv_i2l hx hb dX1_meanPaid_66 rfl ?_
        refine lv_lmul hx hb dX1_meanPaid_67 ?_
        refine lv_aload_n hx hb dX1_meanPaid_68 rfl (lv_at hl 0 rfl) ?_
        refine gtX1_book2 hx hb hts hinX1 hown hK hP (by decide +kernel) dX1_meanPaid_69 ?_
        refine lv_iload hx hb dX1_meanPaid_72 (lv_at hl 6 rfl) ?_
        obtain ⟨r104, e104, hv⟩ := o_bind hv
        refine rcall_i (W.runV (As := [.int x7]) (rest := [.long ((r102).toInt64 * (r103).toInt64)]) hC (c_X0_weightAt l D cA (bx a 2) (bk u 2) x7 r104 e104) (cwV 1 hts gX1_meanPaid_X0_weightAt rfl rfl rfl (by decide +kernel) ⟨Nat.le_of_ble_eq_true rfl, Nat.le_of_ble_eq_true rfl⟩) ⟨roB_blind, va_recv (ci := 0) (q0 := 0) hK (wS_bk hP 2) rfl rfl, roB_pre hK hZ (hws_1 (wS_bk hP 2))⟩ rfl rfl hl.1 rfl (lv_room (Nat.le_of_ble_eq_true rfl)) dX1_meanPaid_74 ⟨Nat.le_of_ble_eq_true rfl, Nat.le_of_ble_eq_true rfl⟩) ?_
        refine lv_i2l hx hb dX1_meanPaid_77 rfl ?_
        refine lv_lmul hx hb dX1_meanPaid_78 ?_
        refine lv_lstore (lv' := [(8, .long (((r102).toInt64 * (r103).toInt64) * (r104).toInt64)), (0, .ref (a 0)), (1, .int x1), (2, .int x2), (3, .long x3), (5, .int x5), (6, .int x6), (7, .int x7)]) hx hb dX1_meanPaid_79 hl (by decide) rfl (fun ls hl => ?_)
        refine lv_lload_n hx hb dX1_meanPaid_81 rfl (lv_at hl 4 rfl) ?_
        refine lv_lload hx hb dX1_meanPaid_82 (lv_at hl 0 rfl) ?_
        refine lv_aload_n hx hb dX1_meanPaid_84 rfl (lv_at hl 1 rfl) ?_
        refine lv_iload_n hx hb dX1_meanPaid_85 rfl (lv_at hl 2 rfl) ?_
        refine lv_iload hx hb dX1_meanPaid_86 (lv_at hl 5 rfl) ?_
        refine lv_iload hx hb dX1_meanPaid_88 (lv_at hl 6 rfl) ?_
        refine lv_iload hx hb dX1_meanPaid_90 (lv_at hl 7 rfl) ?_
        obtain ⟨r105, e105, hv⟩ := o_bind hv
        refine rcall_i (W.runV (As := [.int x1, .int x5, .int x6, .int x7]) (rest := [.long (((r102).toInt64 * (r103).toInt64) * (r104).toInt64), .long x3]) hC (c_X1_paidAt l D cA a u x1 x5 x6 x7 r105 e105) (cwV 4 hts gX1_meanPaid_X1_paidAt rfl rfl rfl (by decide +kernel) ⟨Nat.le_of_ble_eq_true rfl, Nat.le_of_ble_eq_true rfl⟩) ⟨roB_blind, va_recv (ci := 1) (q0 := 0) hK hP rfl rfl, roB_pre hK hZ (hws_1 hP)⟩ rfl rfl hl.1 rfl (lv_room (Nat.le_of_ble_eq_true rfl)) dX1_meanPaid_92 ⟨Nat.le_of_ble_eq_true rfl, Nat.le_of_ble_eq_true rfl⟩) ?_
        refine lv_i2l hx hb dX1_meanPaid_95 rfl ?_
        refine lv_lmul hx hb dX1_meanPaid_96 ?_
        refine lv_ladd hx hb dX1_meanPaid_97 ?_
        refine lv_lstore_n (lv' := [(3, .long (x3 + ((((r102).toInt64 * (r103).toInt64) * (r104).toInt64) * (r105).toInt64))), (8, .long (((r102).toInt64 * (r103).toInt64) * (r104).toInt64)), (0, .ref (a 0)), (1, .int x1), (2, .int x2), (5, .int x5), (6, .int x6), (7, .int x7)]) hx hb dX1_meanPaid_98 rfl hl (by decide) rfl (fun ls hl => ?_)
        refine lv_iinc (v := (x7 + 1)) (lv' := [(7, .int (x7 + 1)), (3, .long (x3 + ((((r102).toInt64 * (r103).toInt64) * (r104).toInt64) * (r105).toInt64))), (8, .long (((r102).toInt64 * (r103).toInt64) * (r104).toInt64)), (0, .ref (a 0)), (1, .int x1), (2, .int x2), (5, .int x5), (6, .int x6)]) hx hb dX1_meanPaid_99 hl (k := 7) rfl rfl (by decide) rfl (fun ls hl => ?_)
        refine lv_goto (tgt := 35) hx hb dX1_meanPaid_102 (by decide) ?_
        exact hk35 _ _ _ _ _ _  ls (lv_sub hl [3, 4, 5, 1, 6, 7, 0] rfl) hv
  have hB20 : ∀ (k111 : Int32 → Int32 → Int64 → Int32 → Option (Int64)) (hk111 : ∀ (x1 : Int32) (x2 : Int32) (x3 : Int64) (x5 : Int32) (ls : Array Slot), lv_has ls 10 [(0, .ref (a 0)), (1, .int x1), (2, .int x2), (3, .long x3), (5, .int x5)] → k111 x1 x2 x3 x5 = some v → W p l e rm_X1_meanPaid s m args below meth c s.heap [] 0 0 Q (F0 m 111 ls [])) (n : Nat) (x1 : Int32) (x2 : Int32) (x3 : Int64) (x5 : Int32) (x6 : Int32) (ls : Array Slot), lv_has ls 10 [(0, .ref (a 0)), (1, .int x1), (2, .int x2), (3, .long x3), (5, .int x5), (6, .int x6)] → B_X1_meanPaid_20 u k111 n x1 x2 x3 x5 x6 = some v → W p l e rm_X1_meanPaid s m args below meth c s.heap [] 0 0 Q (F0 m 20 ls []) := by
    intro k111 hk111 n
    induction n with
    | zero => intro x1 x2 x3 x5 x6 ls hl hv; exact absurd hv (by intro h; cases h)
    | succ n hk20 =>
      intro x1 x2 x3 x5 x6 ls hl hv
      rw [B_X1_meanPaid_20] at hv
      refine lv_iload hx hb dX1_meanPaid_20 (lv_at hl 5 rfl) ?_
      refine lv_aload_n hx hb dX1_meanPaid_22 rfl (lv_at hl 0 rfl) ?_
      refine gtX1_book1 hx hb hts hinX1 hown hK hP (by decide +kernel) dX1_meanPaid_23 ?_
      refine gnX0_size hx hb hts hinX0 hown hK hZ (wS_bk hP 1) dX1_meanPaid_26 ?_
      refine lv_icmp_ge (tgt := 111) hx hb dX1_meanPaid_29 (by decide) (fun c206 => ?_) (fun c206 => ?_)
      · have hv := o_pos hv c206
        exact hk111 _ _ _ _  ls (lv_sub hl [0, 1, 2, 3, 4] rfl) hv
      · have hv := o_neg hv c206
        refine lv_iconst (v := 0) hx hb dX1_meanPaid_32 (by decide) ?_
        refine lv_istore (lv' := [(7, .int (0 : Int32)), (0, .ref (a 0)), (1, .int x1), (2, .int x2), (3, .long x3), (5, .int x5), (6, .int x6)]) hx hb dX1_meanPaid_33 hl (by decide) rfl (fun ls hl => ?_)
        refine hB35 _ (fun z207_1 z207_2 z207_3 z207_5 z207_6 ls hl hv => ?_) 1000 _ _ _ _ _ _ ls (lv_sub hl [1, 2, 3, 4, 5, 6, 0] rfl) hv
        · skip
          refine lv_iinc (v := (z207_6 + 1)) (lv' := [(6, .int (z207_6 + 1)), (0, .ref (a 0)), (1, .int z207_1), (2, .int z207_2), (3, .long z207_3), (5, .int z207_5)]) hx hb dX1_meanPaid_105 hl (k := 5) rfl rfl (by decide) rfl (fun ls hl => ?_)
          refine lv_goto (tgt := 20) hx hb dX1_meanPaid_108 (by decide) ?_
          exact hk20 _ _ _ _ _  ls (lv_sub hl [1, 2, 3, 4, 5, 0] rfl) hv
  have hB5 : ∀ (k117 : Int32 → Int64 → Option (Int64)) (hk117 : ∀ (x2 : Int32) (x3 : Int64) (ls : Array Slot), lv_has ls 10 [(0, .ref (a 0)), (2, .int x2), (3, .long x3)] → k117 x2 x3 = some v → W p l e rm_X1_meanPaid s m args below meth c s.heap [] 0 0 Q (F0 m 117 ls [])) (n : Nat) (x1 : Int32) (x2 : Int32) (x3 : Int64) (x5 : Int32) (ls : Array Slot), lv_has ls 10 [(0, .ref (a 0)), (1, .int x1), (2, .int x2), (3, .long x3), (5, .int x5)] → B_X1_meanPaid_5 u k117 n x1 x2 x3 x5 = some v → W p l e rm_X1_meanPaid s m args below meth c s.heap [] 0 0 Q (F0 m 5 ls []) := by
    intro k117 hk117 n
    induction n with
    | zero => intro x1 x2 x3 x5 ls hl hv; exact absurd hv (by intro h; cases h)
    | succ n hk5 =>
      intro x1 x2 x3 x5 ls hl hv
      rw [B_X1_meanPaid_5] at hv
      refine lv_iload hx hb dX1_meanPaid_5 (lv_at hl 4 rfl) ?_
      refine lv_aload_n hx hb dX1_meanPaid_7 rfl (lv_at hl 0 rfl) ?_
      refine gtX1_book0 hx hb hts hinX1 hown hK hP (by decide +kernel) dX1_meanPaid_8 ?_
      refine gnX0_size hx hb hts hinX0 hown hK hZ (wS_bk hP 0) dX1_meanPaid_11 ?_
      refine lv_icmp_ge (tgt := 117) hx hb dX1_meanPaid_14 (by decide) (fun c308 => ?_) (fun c308 => ?_)
      · have hv := o_pos hv c308
        exact hk117 _ _  ls (lv_sub hl [0, 2, 3] rfl) hv
      · have hv := o_neg hv c308
        refine lv_iconst (v := 0) hx hb dX1_meanPaid_17 (by decide) ?_
        refine lv_istore (lv' := [(6, .int (0 : Int32)), (0, .ref (a 0)), (1, .int x1), (2, .int x2), (3, .long x3), (5, .int x5)]) hx hb dX1_meanPaid_18 hl (by decide) rfl (fun ls hl => ?_)
        refine hB20 _ (fun z309_1 z309_2 z309_3 z309_5 ls hl hv => ?_) 1000 _ _ _ _ _ ls (lv_sub hl [1, 2, 3, 4, 5, 0] rfl) hv
        · skip
          refine lv_iinc (v := (z309_5 + 1)) (lv' := [(5, .int (z309_5 + 1)), (0, .ref (a 0)), (1, .int z309_1), (2, .int z309_2), (3, .long z309_3)]) hx hb dX1_meanPaid_111 hl (k := 4) rfl rfl (by decide) rfl (fun ls hl => ?_)
          refine lv_goto (tgt := 5) hx hb dX1_meanPaid_114 (by decide) ?_
          exact hk5 _ _ _ _  ls (lv_sub hl [1, 2, 3, 4, 0] rfl) hv
  unfold f_X1_meanPaid at hv
  refine lv_lconst (v := 0) hx hb dX1_meanPaid_0 (by decide) ?_
  refine lv_lstore_n (lv' := [(3, .long (0 : Int64)), (0, .ref (a 0)), (1, .int x1), (2, .int x2)]) hx hb dX1_meanPaid_1 rfl hl (by decide) rfl (fun ls hl => ?_)
  refine lv_iconst (v := 0) hx hb dX1_meanPaid_2 (by decide) ?_
  refine lv_istore (lv' := [(5, .int (0 : Int32)), (3, .long (0 : Int64)), (0, .ref (a 0)), (1, .int x1), (2, .int x2)]) hx hb dX1_meanPaid_3 hl (by decide) rfl (fun ls hl => ?_)
  refine hB5 _ (fun z410_2 z410_3 ls hl hv => ?_) 1000 _ _ _ _ ls (lv_sub hl [2, 3, 4, 1, 0] rfl) hv
  · skip
    refine lv_aload_n hx hb dX1_meanPaid_117 rfl (lv_at hl 0 rfl) ?_
    refine gtX1_book0 hx hb hts hinX1 hown hK hP (by decide +kernel) dX1_meanPaid_118 ?_
    obtain ⟨r411, e411, hv⟩ := o_bind hv
    refine rcall_i (W.runV (As := []) (rest := []) hC (c_X0_allWeights l D cA (bx a 0) (bk u 0) r411 e411) (cwV 0 hts gX1_meanPaid_X0_allWeights rfl rfl rfl (by decide +kernel) ⟨Nat.le_of_ble_eq_true rfl, Nat.le_of_ble_eq_true rfl⟩) ⟨roB_blind, va_recv (ci := 0) (q0 := 0) hK (wS_bk hP 0) rfl rfl, roB_pre hK hZ (hws_1 (wS_bk hP 0))⟩ rfl rfl hl.1 rfl (lv_room (Nat.le_of_ble_eq_true rfl)) dX1_meanPaid_121 ⟨Nat.le_of_ble_eq_true rfl, Nat.le_of_ble_eq_true rfl⟩) ?_
    refine lv_i2l hx hb dX1_meanPaid_124 rfl ?_
    refine lv_aload_n hx hb dX1_meanPaid_125 rfl (lv_at hl 0 rfl) ?_
    refine gtX1_book1 hx hb hts hinX1 hown hK hP (by decide +kernel) dX1_meanPaid_126 ?_
    obtain ⟨r412, e412, hv⟩ := o_bind hv
    refine rcall_i (W.runV (As := []) (rest := [.long ((r411).toInt64)]) hC (c_X0_allWeights l D cA (bx a 1) (bk u 1) r412 e412) (cwV 0 hts gX1_meanPaid_X0_allWeights rfl rfl rfl (by decide +kernel) ⟨Nat.le_of_ble_eq_true rfl, Nat.le_of_ble_eq_true rfl⟩) ⟨roB_blind, va_recv (ci := 0) (q0 := 0) hK (wS_bk hP 1) rfl rfl, roB_pre hK hZ (hws_1 (wS_bk hP 1))⟩ rfl rfl hl.1 rfl (lv_room (Nat.le_of_ble_eq_true rfl)) dX1_meanPaid_129 ⟨Nat.le_of_ble_eq_true rfl, Nat.le_of_ble_eq_true rfl⟩) ?_
    refine lv_i2l hx hb dX1_meanPaid_132 rfl ?_
    refine lv_lmul hx hb dX1_meanPaid_133 ?_
    refine lv_aload_n hx hb dX1_meanPaid_134 rfl (lv_at hl 0 rfl) ?_
    refine gtX1_book2 hx hb hts hinX1 hown hK hP (by decide +kernel) dX1_meanPaid_135 ?_
    obtain ⟨r413, e413, hv⟩ := o_bind hv
    refine rcall_i (W.runV (As := []) (rest := [.long ((r411).toInt64 * (r412).toInt64)]) hC (c_X0_allWeights l D cA (bx a 2) (bk u 2) r413 e413) (cwV 0 hts gX1_meanPaid_X0_allWeights rfl rfl rfl (by decide +kernel) ⟨Nat.le_of_ble_eq_true rfl, Nat.le_of_ble_eq_true rfl⟩) ⟨roB_blind, va_recv (ci := 0) (q0 := 0) hK (wS_bk hP 2) rfl rfl, roB_pre hK hZ (hws_1 (wS_bk hP 2))⟩ rfl rfl hl.1 rfl (lv_room (Nat.le_of_ble_eq_true rfl)) dX1_meanPaid_138 ⟨Nat.le_of_ble_eq_true rfl, Nat.le_of_ble_eq_true rfl⟩) ?_
    refine lv_i2l hx hb dX1_meanPaid_141 rfl ?_
    refine lv_lmul hx hb dX1_meanPaid_142 ?_
    refine lv_lstore (lv' := [(5, .long (((r411).toInt64 * (r412).toInt64) * (r413).toInt64)), (0, .ref (a 0)), (2, .int z410_2), (3, .long z410_3)]) hx hb dX1_meanPaid_143 hl (by decide) rfl (fun ls hl => ?_)
    refine lv_lload_n hx hb dX1_meanPaid_145 rfl (lv_at hl 3 rfl) ?_
    refine lv_lload hx hb dX1_meanPaid_146 (lv_at hl 0 rfl) ?_
    refine lv_iload_n hx hb dX1_meanPaid_148 rfl (lv_at hl 2 rfl) ?_
    obtain ⟨r414, e414, hv⟩ := o_bind hv
    refine rcall_l (W.runS (As := [.long z410_3, .long (((r411).toInt64 * (r412).toInt64) * (r413).toInt64), .int z410_2]) (rest := []) hC (c_X1_leastPart l D cA z410_3 (((r411).toInt64 * (r412).toInt64) * (r413).toInt64) z410_2 r414 e414) (va_cwS 3 hts gX1_meanPaid_X1_leastPart rfl rfl rfl (by decide +kernel) ⟨Nat.le_of_ble_eq_true rfl, Nat.le_of_ble_eq_true rfl⟩) ⟨roB_blind, roB_pre hK hZ hws_0⟩ rfl rfl hl.1 rfl (lv_room (Nat.le_of_ble_eq_true rfl)) dX1_meanPaid_149 ⟨Nat.le_of_ble_eq_true rfl, Nat.le_of_ble_eq_true rfl⟩) ?_
    exact fin dX1_meanPaid_152 hv
abbrev rm_X1_brings : Room := { frames := 6, cells := 0, slots := 0, locals := 162 }
set_option maxHeartbeats 4000000 in
set_option maxRecDepth 100000 in
theorem c_X1_brings (l : Launch) (D : va_G) (cA : ClassId) (a : Nat → Nat) (u : StS) (x1 : Int32) (v : Int64) (hv : f_X1_brings u x1 = some v)  : Met l yX1_brings wsX1_brings rm_X1_brings (va_Pc [.ref (a 0), .int x1] (roB D cA [wS cA a u])) (vp_Sl (fun r => r = v)) 0 0 (fun _ => False) := by
  refine ro_l (cc := cX1_brings) (maxL := 2) (own := RX1) (by decide) rfl rfl (Nat.le_of_ble_eq_true rfl) ?_
  intro p e s m args below meth c Q ls hC hK hZ hws hl fin
  obtain ⟨hx, hb, hml, hown, hts⟩ := id hC
  have hl : lv_has ls 2 [(0, .ref (a 0)), (1, .int x1)] := hl
  have hP : va_P D vwCl (wS cA a u) s.heap := hws _ (List.mem_of_getElem? (i := 0) rfl)
  have hinX0 : ∀ w ∈ wsX00, w ∈ wsX1_brings := fun w h => List.mem_cons_of_mem _ (List.mem_append_right _ h)
  have hinX1 : ∀ w ∈ wsX10, w ∈ wsX1_brings := fun w h => List.mem_cons_of_mem _ (List.mem_append_left _ (List.mem_append_right _ h))
  unfold f_X1_brings at hv
  refine lv_iload_n hx hb dX1_brings_0 rfl (lv_at hl 1 rfl) ?_
  obtain ⟨r101, e101, hv⟩ := o_bind hv
  refine rcall_i (W.runS (As := [.int x1]) (rest := []) hC (c_X1_isPart l D cA x1 r101 e101) (va_cwS 1 hts gX1_brings_X1_isPart rfl rfl rfl (by decide +kernel) ⟨Nat.le_of_ble_eq_true rfl, Nat.le_of_ble_eq_true rfl⟩) ⟨roB_blind, roB_pre hK hZ hws_0⟩ rfl rfl hl.1 rfl (lv_room (Nat.le_of_ble_eq_true rfl)) dX1_brings_1 ⟨Nat.le_of_ble_eq_true rfl, Nat.le_of_ble_eq_true rfl⟩) ?_
  refine lv_if_ne (tgt := 11) hx hb dX1_brings_4 (by decide) (fun c102 => ?_) (fun c102 => ?_)
  · have hv := o_neg hv c102
    refine lv_aload_n hx hb dX1_brings_11 rfl (lv_at hl 0 rfl) ?_
    refine lv_iconst (v := 3) hx hb dX1_brings_12 (by decide) ?_
    refine lv_iload_n hx hb dX1_brings_13 rfl (lv_at hl 1 rfl) ?_
    obtain ⟨r103, e103, hv⟩ := o_bind hv
    refine rcall_l (W.runV (As := [.int (3 : Int32), .int x1]) (rest := []) hC (c_X1_meanPaid l D cA a u (3 : Int32) x1 r103 e103) (cwV 2 hts gX1_brings_X1_meanPaid rfl rfl rfl (by decide +kernel) ⟨Nat.le_of_ble_eq_true rfl, Nat.le_of_ble_eq_true rfl⟩) ⟨roB_blind, va_recv (ci := 1) (q0 := 0) hK hP rfl rfl, roB_pre hK hZ (hws_1 hP)⟩ rfl rfl hl.1 rfl (lv_room (Nat.le_of_ble_eq_true rfl)) dX1_brings_14 ⟨Nat.le_of_ble_eq_true rfl, Nat.le_of_ble_eq_true rfl⟩) ?_
    exact fin dX1_brings_17 hv
  · have hv := o_pos hv c102
    refine lv_ldc2 (v := -1000000000000000) hx hb hown (hts (.constantLong RX1 90 (-1000000000000000)) (by decide +kernel)) dX1_brings_7 ?_
    exact fin dX1_brings_10 hv
abbrev rm_X1_reserve : Room := { frames := 1, cells := 0, slots := 0, locals := 20 }
set_option maxHeartbeats 4000000 in
set_option maxRecDepth 100000 in
theorem c_X1_reserve (l : Launch) (D : va_G) (cA : ClassId) (a : Nat → Nat) (u : StS) (x1 : Int32) (v : Int32 × StS) (hv : f_X1_reserve u x1 = some v) (hd : djS a) : Met l yX1_reserve wsX1_reserve rm_X1_reserve (va_Pc [.ref (a 0), .int x1] (roB D cA [wS cA a u])) (va_Qi (fun (r : Int32) (u1 : StS) => (r, u1) = v) (fun (u1 : StS) t => va_P D vwCl (wS cA a u1) t.heap) (inS a)) 0 0 (inS a) := by
  refine wr_i (wf := fun u => wS cA a u) (cc := cX1_reserve) (maxL := 3) (own := RX1) (by decide) rfl rfl (Nat.le_of_ble_eq_true rfl) ?_
  intro p e s m args below meth c Q ls hC hK hZ hws hl fin
  obtain ⟨hx, hb, hml, hown, hts⟩ := id hC
  have hl : lv_has ls 3 [(0, .ref (a 0)), (1, .int x1)] := hl
  have hP : va_P D vwCl (wS cA a u) s.heap := hws _ (List.mem_of_getElem? (i := 0) rfl)
  have hinX1 : ∀ w ∈ wsX10, w ∈ wsX1_reserve := fun w h => List.mem_cons_of_mem _ (List.mem_append_right _ h)
  have hS : va_S (inS a) s.heap s.heap [] := va_S.rf
  unfold f_X1_reserve at hv
  skip
  refine lv_iload_n hx hb dX1_reserve_0 rfl (lv_at hl 1 rfl) ?_
  obtain ⟨r101, e101, hv⟩ := o_bind hv
  refine rcall_i (W.runS (As := [.int x1]) (rest := []) hC (c_X1_isWorth l D cA x1 r101 e101) (va_cwS 1 hts gX1_reserve_X1_isWorth rfl rfl rfl (by decide +kernel) ⟨Nat.le_of_ble_eq_true rfl, Nat.le_of_ble_eq_true rfl⟩) ⟨roB_blind, roB_pre hK hZ hws_0⟩ rfl rfl hl.1 rfl (lv_room (Nat.le_of_ble_eq_true rfl)) dX1_reserve_1 ⟨Nat.le_of_ble_eq_true rfl, Nat.le_of_ble_eq_true rfl⟩) ?_
  refine lv_if_ne (tgt := 9) hx hb dX1_reserve_4 (by decide) (fun c102 => ?_) (fun c102 => ?_)
  · have hv := o_neg hv c102
    refine lv_aload_n hx hb dX1_reserve_9 rfl (lv_at hl 0 rfl) ?_
    refine gtX1_reservePrice hx hb hts hinX1 hown hK hP (by decide +kernel) dX1_reserve_10 ?_
    refine lv_istore_n (lv' := [(2, .int (s_reservePrice u)), (0, .ref (a 0)), (1, .int x1)]) hx hb dX1_reserve_13 rfl hl (by decide) rfl (fun ls hl => ?_)
    refine lv_aload_n hx hb dX1_reserve_14 rfl (lv_at hl 1 rfl) ?_
    refine lv_iload_n hx hb dX1_reserve_15 rfl (lv_at hl 2 rfl) ?_
    refine ptX1_reservePrice hx hb hts hinX1 hown hK hP (dS hd _) hS (by decide +kernel) dX1_reserve_16 (fun H locs hP hS => ?_)
    refine lv_iload_n hx hb dX1_reserve_19 rfl (lv_at hl 0 rfl) ?_
    exact fin hP hS dX1_reserve_20 hv
  · have hv := o_pos hv c102
    refine lv_iconst (v := -1) hx hb dX1_reserve_7 (by decide) ?_
    exact fin hP hS dX1_reserve_8 hv
abbrev rm_X1_isKind : Room := { frames := 0, cells := 0, slots := 0, locals := 0 }
set_option maxHeartbeats 4000000 in
set_option maxRecDepth 100000 in
theorem c_X1_isKind (l : Launch) (D : va_G) (cA : ClassId) (x0 : Int32) (v : Int32) (hv : f_X1_isKind x0 = some v)  : Met l yX1_isKind wsX1_isKind rm_X1_isKind (va_Pc [.int x0] (roB D cA [])) (vp_Si (fun r => r = v)) 0 0 (fun _ => False) := by
  refine ro_z (cc := cX1_isKind) (maxL := 1) (own := RX1) (by decide) rfl rfl (Nat.le_of_ble_eq_true rfl) ?_
  intro p e s m args below meth c Q ls hC hK hZ hws hl fin
  obtain ⟨hx, hb, hml, hown, hts⟩ := id hC
  have hl : lv_has ls 1 [(0, .int x0)] := hl
  unfold f_X1_isKind at hv
  refine lv_iload_n hx hb dX1_isKind_0 rfl (lv_at hl 0 rfl) ?_
  refine lv_if_lt (tgt := 13) hx hb dX1_isKind_1 (by decide) (fun c101 => ?_) (fun c101 => ?_)
  · have hv := o_pos hv c101
    refine lv_iconst (v := 0) hx hb dX1_isKind_13 (by decide) ?_
    exact fin dX1_isKind_14 rfl hv
  · have hv := o_neg hv c101
    refine lv_iload_n hx hb dX1_isKind_4 rfl (lv_at hl 0 rfl) ?_
    refine lv_iconst (v := 2) hx hb dX1_isKind_5 (by decide) ?_
    refine lv_icmp_gt (tgt := 13) hx hb dX1_isKind_6 (by decide) (fun c102 => ?_) (fun c102 => ?_)
    · have hv := o_pos hv c102
      refine lv_iconst (v := 0) hx hb dX1_isKind_13 (by decide) ?_
      exact fin dX1_isKind_14 rfl hv
    · have hv := o_neg hv c102
      refine lv_iconst (v := 1) hx hb dX1_isKind_9 (by decide) ?_
      refine lv_goto (tgt := 14) hx hb dX1_isKind_10 (by decide) ?_
      exact fin dX1_isKind_14 rfl hv
abbrev rm_X1_areWorths : Room := { frames := 1, cells := 0, slots := 0, locals := 23 }
set_option maxHeartbeats 4000000 in
set_option maxRecDepth 100000 in
theorem c_X1_areWorths (l : Launch) (D : va_G) (cA : ClassId) (a : Nat → Nat) (u : StS) (x1 : Int32) (x2 : Int32) (x3 : Int32) (v : Int32) (hv : f_X1_areWorths u x1 x2 x3 = some v)  : Met l yX1_areWorths wsX1_areWorths rm_X1_areWorths (va_Pc [.ref (a 0), .int x1, .int x2, .int x3] (roB D cA [wS cA a u])) (vp_Si (fun r => r = v)) 0 0 (fun _ => False) := by
  refine ro_z (cc := cX1_areWorths) (maxL := 5) (own := RX1) (by decide) rfl rfl (Nat.le_of_ble_eq_true rfl) ?_
  intro p e s m args below meth c Q ls hC hK hZ hws hl fin
  obtain ⟨hx, hb, hml, hown, hts⟩ := id hC
  have hl : lv_has ls 5 [(0, .ref (a 0)), (1, .int x1), (2, .int x2), (3, .int x3)] := hl
  have hP : va_P D vwCl (wS cA a u) s.heap := hws _ (List.mem_of_getElem? (i := 0) rfl)
  have hinX1 : ∀ w ∈ wsX10, w ∈ wsX1_areWorths := fun w h => List.mem_cons_of_mem _ (List.mem_append_right _ h)
  have hB3 : ∀ (k26 : Option (Int32)) (hk26 : ∀  (ls : Array Slot), lv_has ls 5 [] → k26 = some v → W p l e rm_X1_areWorths s m args below meth c s.heap [] 0 0 Q (F0 m 26 ls [])) (k34 : Option (Int32)) (hk34 : ∀  (ls : Array Slot), lv_has ls 5 [] → k34 = some v → W p l e rm_X1_areWorths s m args below meth c s.heap [] 0 0 Q (F0 m 34 ls [])) (n : Nat) (x1 : Int32) (x2 : Int32) (x3 : Int32) (x4 : Int32) (ls : Array Slot), lv_has ls 5 [(0, .ref (a 0)), (1, .int x1), (2, .int x2), (3, .int x3), (4, .int x4)] → B_X1_areWorths_3 u k26 k34 n x1 x2 x3 x4 = some v → W p l e rm_X1_areWorths s m args below meth c s.heap [] 0 0 Q (F0 m 3 ls []) := by
    intro k26 hk26 k34 hk34 n
    induction n with
    | zero => intro x1 x2 x3 x4 ls hl hv; exact absurd hv (by intro h; cases h)
    | succ n hk3 =>
      intro x1 x2 x3 x4 ls hl hv
      rw [B_X1_areWorths_3] at hv
      refine lv_iload hx hb dX1_areWorths_3 (lv_at hl 4 rfl) ?_
      refine lv_aload_n hx hb dX1_areWorths_5 rfl (lv_at hl 0 rfl) ?_
      refine gtX1_buyerCount hx hb hts hinX1 hown hK hP (by decide +kernel) dX1_areWorths_6 ?_
      refine lv_icmp_ge (tgt := 34) hx hb dX1_areWorths_9 (by decide) (fun c101 => ?_) (fun c101 => ?_)
      · have hv := o_pos hv c101
        exact hk34  ls (lv_sub hl [] rfl) hv
      · have hv := o_neg hv c101
        refine lv_iload hx hb dX1_areWorths_12 (lv_at hl 4 rfl) ?_
        refine lv_iload_n hx hb dX1_areWorths_14 rfl (lv_at hl 1 rfl) ?_
        refine lv_iload_n hx hb dX1_areWorths_15 rfl (lv_at hl 2 rfl) ?_
        refine lv_iload_n hx hb dX1_areWorths_16 rfl (lv_at hl 3 rfl) ?_
        obtain ⟨r102, e102, hv⟩ := o_bind hv
        refine rcall_i (W.runS (As := [.int x4, .int x1, .int x2, .int x3]) (rest := []) hC (c_X1_pick l D cA x4 x1 x2 x3 r102 e102) (va_cwS 4 hts gX1_areWorths_X1_pick rfl rfl rfl (by decide +kernel) ⟨Nat.le_of_ble_eq_true rfl, Nat.le_of_ble_eq_true rfl⟩) ⟨roB_blind, roB_pre hK hZ hws_0⟩ rfl rfl hl.1 rfl (lv_room (Nat.le_of_ble_eq_true rfl)) dX1_areWorths_17 ⟨Nat.le_of_ble_eq_true rfl, Nat.le_of_ble_eq_true rfl⟩) ?_
        obtain ⟨r103, e103, hv⟩ := o_bind hv
        refine rcall_i (W.runS (As := [.int r102]) (rest := []) hC (c_X1_isWorth l D cA r102 r103 e103) (va_cwS 1 hts gX1_areWorths_X1_isWorth rfl rfl rfl (by decide +kernel) ⟨Nat.le_of_ble_eq_true rfl, Nat.le_of_ble_eq_true rfl⟩) ⟨roB_blind, roB_pre hK hZ hws_0⟩ rfl rfl hl.1 rfl (lv_room (Nat.le_of_ble_eq_true rfl)) dX1_areWorths_20 ⟨Nat.le_of_ble_eq_true rfl, Nat.le_of_ble_eq_true rfl⟩) ?_
        refine lv_if_ne (tgt := 28) hx hb dX1_areWorths_23 (by decide) (fun c104 => ?_) (fun c104 => ?_)
        · have hv := o_neg hv c104
          refine lv_iinc (v := (x4 + 1)) (lv' := [(4, .int (x4 + 1)), (0, .ref (a 0)), (1, .int x1), (2, .int x2), (3, .int x3)]) hx hb dX1_areWorths_28 hl (k := 4) rfl rfl (by decide) rfl (fun ls hl => ?_)
          refine lv_goto (tgt := 3) hx hb dX1_areWorths_31 (by decide) ?_
          exact hk3 _ _ _ _  ls (lv_sub hl [1, 2, 3, 4, 0] rfl) hv
        · have hv := o_pos hv c104
          exact hk26  ls (lv_sub hl [] rfl) hv
  unfold f_X1_areWorths at hv
  refine lv_iconst (v := 0) hx hb dX1_areWorths_0 (by decide) ?_
  refine lv_istore (lv' := [(4, .int (0 : Int32)), (0, .ref (a 0)), (1, .int x1), (2, .int x2), (3, .int x3)]) hx hb dX1_areWorths_1 hl (by decide) rfl (fun ls hl => ?_)
  refine hB3 _ (fun ls hl hv => ?_) _ (fun ls hl hv => ?_) 1000 _ _ _ _ ls (lv_sub hl [1, 2, 3, 4, 0] rfl) hv
  · skip
    refine lv_iconst (v := 0) hx hb dX1_areWorths_26 (by decide) ?_
    exact fin dX1_areWorths_27 rfl hv
  · skip
    refine lv_iconst (v := 1) hx hb dX1_areWorths_34 (by decide) ?_
    exact fin dX1_areWorths_35 rfl hv
abbrev rm_X1_asksOf : Room := { frames := 0, cells := 0, slots := 0, locals := 0 }
set_option maxHeartbeats 4000000 in
set_option maxRecDepth 100000 in
theorem c_X1_asksOf (l : Launch) (D : va_G) (cA : ClassId) (x0 : Int32) (v : Int32) (hv : f_X1_asksOf x0 = some v)  : Met l yX1_asksOf wsX1_asksOf rm_X1_asksOf (va_Pc [.int x0] (roB D cA [])) (vp_Si (fun r => r = v)) 0 0 (fun _ => False) := by
  refine ro_i (cc := cX1_asksOf) (maxL := 1) (own := RX1) (by decide) rfl rfl (Nat.le_of_ble_eq_true rfl) ?_
  intro p e s m args below meth c Q ls hC hK hZ hws hl fin
  obtain ⟨hx, hb, hml, hown, hts⟩ := id hC
  have hl : lv_has ls 1 [(0, .int x0)] := hl
  unfold f_X1_asksOf at hv
  refine lv_iload_n hx hb dX1_asksOf_0 rfl (lv_at hl 0 rfl) ?_
  refine lv_iconst (v := 2) hx hb dX1_asksOf_1 (by decide) ?_
  refine lv_icmp_ne (tgt := 10) hx hb dX1_asksOf_2 (by decide) (fun c101 => ?_) (fun c101 => ?_)
  · have hv := o_neg hv c101
    refine lv_iload_n hx hb dX1_asksOf_10 rfl (lv_at hl 0 rfl) ?_
    refine lv_iconst (v := 1) hx hb dX1_asksOf_11 (by decide) ?_
    refine lv_icmp_ne (tgt := 20) hx hb dX1_asksOf_12 (by decide) (fun c102 => ?_) (fun c102 => ?_)
    · have hv := o_neg hv c102
      refine lv_iconst (v := 1) hx hb dX1_asksOf_20 (by decide) ?_
      exact fin dX1_asksOf_21 hv
    · have hv := o_pos hv c102
      refine lv_bipush (v := 11) hx hb dX1_asksOf_15 (by decide) ?_
      refine lv_goto (tgt := 21) hx hb dX1_asksOf_17 (by decide) ?_
      exact fin dX1_asksOf_21 hv
  · have hv := o_pos hv c101
    refine lv_bipush (v := 111) hx hb dX1_asksOf_5 (by decide) ?_
    refine lv_goto (tgt := 21) hx hb dX1_asksOf_7 (by decide) ?_
    exact fin dX1_asksOf_21 hv
abbrev rm_X1_pay : Room := { frames := 3, cells := 0, slots := 0, locals := 72 }
set_option maxHeartbeats 4000000 in
set_option maxRecDepth 100000 in
theorem c_X1_pay (l : Launch) (D : va_G) (cA : ClassId) (a : Nat → Nat) (u : StS) (x1 : Int32) (x2 : Int32) (x3 : Int32) (x4 : Int32) (v : Int32 × StS) (hv : f_X1_pay u x1 x2 x3 x4 = some v) (hd : djS a) : Met l yX1_pay wsX1_pay rm_X1_pay (va_Pc [.ref (a 0), .int x1, .int x2, .int x3, .int x4] (roB D cA [wS cA a u])) (va_Qi (fun (r : Int32) (u1 : StS) => (r, u1) = v) (fun (u1 : StS) t => va_P D vwCl (wS cA a u1) t.heap) (inS a)) 0 0 (inS a) := by
  refine wr_i (wf := fun u => wS cA a u) (cc := cX1_pay) (maxL := 6) (own := RX1) (by decide) rfl rfl (Nat.le_of_ble_eq_true rfl) ?_
  intro p e s m args below meth c Q ls hC hK hZ hws hl fin
  obtain ⟨hx, hb, hml, hown, hts⟩ := id hC
  have hl : lv_has ls 6 [(0, .ref (a 0)), (1, .int x1), (2, .int x2), (3, .int x3), (4, .int x4)] := hl
  have hP : va_P D vwCl (wS cA a u) s.heap := hws _ (List.mem_of_getElem? (i := 0) rfl)
  have hinX1 : ∀ w ∈ wsX10, w ∈ wsX1_pay := fun w h => List.mem_cons_of_mem _ (List.mem_append_right _ h)
  have hS : va_S (inS a) s.heap s.heap [] := va_S.rf
  unfold f_X1_pay at hv
  skip
  refine lv_iload_n hx hb dX1_pay_0 rfl (lv_at hl 1 rfl) ?_
  obtain ⟨r101, e101, hv⟩ := o_bind hv
  refine rcall_i (W.runS (As := [.int x1]) (rest := []) hC (c_X1_isKind l D cA x1 r101 e101) (va_cwS 1 hts gX1_pay_X1_isKind rfl rfl rfl (by decide +kernel) ⟨Nat.le_of_ble_eq_true rfl, Nat.le_of_ble_eq_true rfl⟩) ⟨roB_blind, roB_pre hK hZ hws_0⟩ rfl rfl hl.1 rfl (lv_room (Nat.le_of_ble_eq_true rfl)) dX1_pay_1 ⟨Nat.le_of_ble_eq_true rfl, Nat.le_of_ble_eq_true rfl⟩) ?_
  refine lv_if_eq (tgt := 18) hx hb dX1_pay_4 (by decide) (fun c102 => ?_) (fun c102 => ?_)
  · have hv := o_pos hv c102
    refine lv_iconst (v := -1) hx hb dX1_pay_18 (by decide) ?_
    exact fin hP hS dX1_pay_19 hv
  · have hv := o_neg hv c102
    refine lv_aload_n hx hb dX1_pay_7 rfl (lv_at hl 0 rfl) ?_
    refine lv_iload_n hx hb dX1_pay_8 rfl (lv_at hl 2 rfl) ?_
    refine lv_iload_n hx hb dX1_pay_9 rfl (lv_at hl 3 rfl) ?_
    refine lv_iload hx hb dX1_pay_10 (lv_at hl 4 rfl) ?_
    obtain ⟨r103, e103, hv⟩ := o_bind hv
    refine rcall_i (W.runV (As := [.int x2, .int x3, .int x4]) (rest := []) hC (c_X1_areWorths l D cA a u x2 x3 x4 r103 e103) (cwV 3 hts gX1_pay_X1_areWorths rfl rfl rfl (by decide +kernel) ⟨Nat.le_of_ble_eq_true rfl, Nat.le_of_ble_eq_true rfl⟩) ⟨roB_blind, va_recv (ci := 1) (q0 := 0) hK hP rfl rfl, roB_pre hK hZ (hws_1 hP)⟩ rfl rfl hl.1 rfl (lv_room (Nat.le_of_ble_eq_true rfl)) dX1_pay_12 ⟨Nat.le_of_ble_eq_true rfl, Nat.le_of_ble_eq_true rfl⟩) ?_
    refine lv_if_ne (tgt := 20) hx hb dX1_pay_15 (by decide) (fun c104 => ?_) (fun c104 => ?_)
    · have hv := o_neg hv c104
      refine lv_aload_n hx hb dX1_pay_20 rfl (lv_at hl 0 rfl) ?_
      refine lv_iload_n hx hb dX1_pay_21 rfl (lv_at hl 1 rfl) ?_
      refine lv_iload_n hx hb dX1_pay_22 rfl (lv_at hl 2 rfl) ?_
      refine lv_iload_n hx hb dX1_pay_23 rfl (lv_at hl 3 rfl) ?_
      refine lv_iload hx hb dX1_pay_24 (lv_at hl 4 rfl) ?_
      obtain ⟨r105, e105, hv⟩ := o_bind hv
      refine rcall_i (W.runV (As := [.int x1, .int x2, .int x3, .int x4]) (rest := []) hC (c_X1_paidByKind l D cA a u x1 x2 x3 x4 r105 e105) (cwV 4 hts gX1_pay_X1_paidByKind rfl rfl rfl (by decide +kernel) ⟨Nat.le_of_ble_eq_true rfl, Nat.le_of_ble_eq_true rfl⟩) ⟨roB_blind, va_recv (ci := 1) (q0 := 0) hK hP rfl rfl, roB_pre hK hZ (hws_1 hP)⟩ rfl rfl hl.1 rfl (lv_room (Nat.le_of_ble_eq_true rfl)) dX1_pay_26 ⟨Nat.le_of_ble_eq_true rfl, Nat.le_of_ble_eq_true rfl⟩) ?_
      refine lv_istore (lv' := [(5, .int r105), (0, .ref (a 0)), (1, .int x1), (2, .int x2), (3, .int x3), (4, .int x4)]) hx hb dX1_pay_29 hl (by decide) rfl (fun ls hl => ?_)
      refine lv_iload hx hb dX1_pay_31 (lv_at hl 0 rfl) ?_
      refine lv_bipush (v := -9) hx hb dX1_pay_33 (by decide) ?_
      refine lv_icmp_eq (tgt := 52) hx hb dX1_pay_35 (by decide) (fun c106 => ?_) (fun c106 => ?_)
      · have hv := o_pos hv c106
        refine lv_iload hx hb dX1_pay_52 (lv_at hl 0 rfl) ?_
        exact fin hP hS dX1_pay_54 hv
      · have hv := o_neg hv c106
        refine lv_aload_n hx hb dX1_pay_38 rfl (lv_at hl 1 rfl) ?_
        refine lv_dup hx hb dX1_pay_39 rfl ?_
        refine gtX1_traced hx hb hts hinX1 hown hK hP (by decide +kernel) dX1_pay_40 ?_
        refine lv_iload_n hx hb dX1_pay_43 rfl (lv_at hl 2 rfl) ?_
        obtain ⟨r107, e107, hv⟩ := o_bind hv
        refine rcall_i (W.runS (As := [.int x1]) (rest := [.long (s_traced u), .ref (a 0)]) hC (c_X1_asksOf l D cA x1 r107 e107) (va_cwS 1 hts gX1_pay_X1_asksOf rfl rfl rfl (by decide +kernel) ⟨Nat.le_of_ble_eq_true rfl, Nat.le_of_ble_eq_true rfl⟩) ⟨roB_blind, roB_pre hK hZ hws_0⟩ rfl rfl hl.1 rfl (lv_room (Nat.le_of_ble_eq_true rfl)) dX1_pay_44 ⟨Nat.le_of_ble_eq_true rfl, Nat.le_of_ble_eq_true rfl⟩) ?_
        refine lv_i2l hx hb dX1_pay_47 rfl ?_
        refine lv_ladd hx hb dX1_pay_48 ?_
        refine ptX1_traced hx hb hts hinX1 hown hK hP (dS hd _) hS (by decide +kernel) dX1_pay_49 (fun H locs hP hS => ?_)
        refine lv_iload hx hb dX1_pay_52 (lv_at hl 0 rfl) ?_
        exact fin hP hS dX1_pay_54 hv
    · have hv := o_pos hv c104
      refine lv_iconst (v := -1) hx hb dX1_pay_18 (by decide) ?_
      exact fin hP hS dX1_pay_19 hv
