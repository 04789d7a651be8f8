abbrev rm_X1_about : Room := { frames := 3, cells := 0, slots := 0, locals := 65 }
set_option maxHeartbeats 4000000 in
set_option maxRecDepth 100000 in
theorem c_X1_about (l : Launch) (D : va_G) (cA : ClassId) (a : Nat → Nat) (u : StS) (x1 : Int32) (x2 : Int32) (x3 : Int32) (v : Int32) (hv : f_X1_about u x1 x2 x3 = some v)  : Met l yX1_about wsX1_about rm_X1_about (va_Pc [.ref (a 0), .int x1, .int x2, .int x3] (roB D cA [wS cA a u])) (vp_Si (fun r => r = v)) 0 0 (fun _ => False) := by
  refine ro_i (cc := cX1_about) (maxL := 5) (own := RX1) (by decide) rfl rfl (Nat.le_of_ble_eq_true rfl) ?_
  intro p e s m args below meth c Q ls hC hK hZ hws hl fin
  obtain ⟨hx, hb, hml, hown, hts⟩ := id hC
  have hl : lv_has ls 5 [(0, .ref (a 0)), (1, .int x1), (2, .int x2), (3, .int x3)] := hl
  have hP : va_P D vwCl (wS cA a u) s.heap := hws _ (List.mem_of_getElem? (i := 0) rfl)
  have hinX0 : ∀ w ∈ wsX00, w ∈ wsX1_about := fun w h => List.mem_cons_of_mem _ (List.mem_append_right _ h)
  have hinX1 : ∀ w ∈ wsX10, w ∈ wsX1_about := fun w h => List.mem_cons_of_mem _ (List.mem_append_left _ (List.mem_append_right _ h))
  unfold f_X1_about at hv
  refine lv_aload_n hx hb dX1_about_0 rfl (lv_at hl 0 rfl) ?_
  refine lv_iload_n hx hb dX1_about_1 rfl (lv_at hl 1 rfl) ?_
  obtain ⟨r101, e101, hv⟩ := o_bind hv
  refine rcall_i (W.runV (As := [.int x1]) (rest := []) hC (c_X1_isBuyer l D cA a u x1 r101 e101) (cwV 1 hts gX1_about_X1_isBuyer rfl rfl rfl (by decide +kernel) ⟨Nat.le_of_ble_eq_true rfl, Nat.le_of_ble_eq_true rfl⟩) ⟨roB_blind, va_recv (ci := 1) (q0 := 0) hK hP rfl rfl, roB_pre hK hZ (hws_1 hP)⟩ rfl rfl hl.1 rfl (lv_room (Nat.le_of_ble_eq_true rfl)) dX1_about_2 ⟨Nat.le_of_ble_eq_true rfl, Nat.le_of_ble_eq_true rfl⟩) ?_
  refine lv_if_eq (tgt := 20) hx hb dX1_about_5 (by decide) (fun c102 => ?_) (fun c102 => ?_)
  · have hv := o_pos hv c102
    refine lv_iconst (v := -1) hx hb dX1_about_20 (by decide) ?_
    exact fin dX1_about_21 hv
  · have hv := o_neg hv c102
    refine lv_aload_n hx hb dX1_about_8 rfl (lv_at hl 0 rfl) ?_
    refine lv_iload_n hx hb dX1_about_9 rfl (lv_at hl 1 rfl) ?_
    obtain ⟨r103, e103, hv⟩ := o_bind hv
    refine rcall_r (W.runV (As := [.int x1]) (rest := []) hC (c_X1_bookOf l D cA a u x1 r103 e103) (cwV 1 hts gX1_about_X1_bookOf rfl rfl rfl (by decide +kernel) ⟨Nat.le_of_ble_eq_true rfl, Nat.le_of_ble_eq_true rfl⟩) ⟨roB_blind, va_recv (ci := 1) (q0 := 0) hK hP rfl rfl, roB_pre hK hZ (hws_1 hP)⟩ rfl rfl hl.1 rfl (lv_room (Nat.le_of_ble_eq_true rfl)) dX1_about_10 ⟨Nat.le_of_ble_eq_true rfl, Nat.le_of_ble_eq_true rfl⟩) ?_
    refine lv_iload_n hx hb dX1_about_13 rfl (lv_at hl 2 rfl) ?_
    obtain ⟨r104, e104, hv⟩ := o_bind hv
    refine rcall_i (W.runV (As := [.int x2]) (rest := []) hC (c_X0_has l D cA (bx a r103) (bk u r103) x2 r104 e104) (cwV 1 hts gX1_about_X0_has rfl rfl rfl (by decide +kernel) ⟨Nat.le_of_ble_eq_true rfl, Nat.le_of_ble_eq_true rfl⟩) ⟨roB_blind, va_recv (ci := 0) (q0 := 0) hK (wS_bk hP r103) rfl rfl, roB_pre hK hZ (hws_1 (wS_bk hP r103))⟩ rfl rfl hl.1 rfl (lv_room (Nat.le_of_ble_eq_true rfl)) dX1_about_14 ⟨Nat.le_of_ble_eq_true rfl, Nat.le_of_ble_eq_true rfl⟩) ?_
    refine lv_if_ne (tgt := 22) hx hb dX1_about_17 (by decide) (fun c105 => ?_) (fun c105 => ?_)
    · have hv := o_neg hv c105
      refine lv_aload_n hx hb dX1_about_22 rfl (lv_at hl 0 rfl) ?_
      refine lv_iload_n hx hb dX1_about_23 rfl (lv_at hl 1 rfl) ?_
      obtain ⟨r106, e106, hv⟩ := o_bind hv
      refine rcall_r (W.runV (As := [.int x1]) (rest := []) hC (c_X1_bookOf l D cA a u x1 r106 e106) (cwV 1 hts gX1_about_X1_bookOf rfl rfl rfl (by decide +kernel) ⟨Nat.le_of_ble_eq_true rfl, Nat.le_of_ble_eq_true rfl⟩) ⟨roB_blind, va_recv (ci := 1) (q0 := 0) hK hP rfl rfl, roB_pre hK hZ (hws_1 hP)⟩ rfl rfl hl.1 rfl (lv_room (Nat.le_of_ble_eq_true rfl)) dX1_about_24 ⟨Nat.le_of_ble_eq_true rfl, Nat.le_of_ble_eq_true rfl⟩) ?_
      refine lv_astore (lv' := [(4, .ref (bx a r106 0)), (0, .ref (a 0)), (1, .int x1), (2, .int x2), (3, .int x3)]) hx hb dX1_about_27 hl (by decide) rfl (fun ls hl => ?_)
      refine lv_iload_n hx hb dX1_about_29 rfl (lv_at hl 4 rfl) ?_
      rcases o_ite hv with ⟨c107, hv⟩ | ⟨c107, hv⟩
      · refine lv_tableIn (tgt := 60) hx hb dX1_about_30 (by rw [c107]; decide) (by rw [c107]; decide) (by rw [c107]; rfl) (by decide) ?_
        refine lv_aload hx hb dX1_about_60 (lv_at hl 0 rfl) ?_
        refine lv_iload_n hx hb dX1_about_62 rfl (lv_at hl 3 rfl) ?_
        obtain ⟨r108, e108, hv⟩ := o_bind hv
        refine rcall_i (W.runV (As := [.int x2]) (rest := []) hC (c_X0_worthAt l D cA (bx a r106) (bk u r106) x2 r108 e108) (cwV 1 hts gX1_about_X0_worthAt rfl rfl rfl (by decide +kernel) ⟨Nat.le_of_ble_eq_true rfl, Nat.le_of_ble_eq_true rfl⟩) ⟨roB_blind, va_recv (ci := 0) (q0 := 0) hK (wS_bk hP r106) rfl rfl, roB_pre hK hZ (hws_1 (wS_bk hP r106))⟩ rfl rfl hl.1 rfl (lv_room (Nat.le_of_ble_eq_true rfl)) dX1_about_63 ⟨Nat.le_of_ble_eq_true rfl, Nat.le_of_ble_eq_true rfl⟩) ?_
        exact fin dX1_about_66 hv
      · skip
        rcases o_ite hv with ⟨c109, hv⟩ | ⟨c109, hv⟩
        · refine lv_tableIn (tgt := 67) hx hb dX1_about_30 (by rw [c109]; decide) (by rw [c109]; decide) (by rw [c109]; rfl) (by decide) ?_
          refine lv_aload hx hb dX1_about_67 (lv_at hl 0 rfl) ?_
          refine lv_iload_n hx hb dX1_about_69 rfl (lv_at hl 3 rfl) ?_
          obtain ⟨r110, e110, hv⟩ := o_bind hv
          refine rcall_i (W.runV (As := [.int x2]) (rest := []) hC (c_X0_weightAt l D cA (bx a r106) (bk u r106) x2 r110 e110) (cwV 1 hts gX1_about_X0_weightAt rfl rfl rfl (by decide +kernel) ⟨Nat.le_of_ble_eq_true rfl, Nat.le_of_ble_eq_true rfl⟩) ⟨roB_blind, va_recv (ci := 0) (q0 := 0) hK (wS_bk hP r106) rfl rfl, roB_pre hK hZ (hws_1 (wS_bk hP r106))⟩ rfl rfl hl.1 rfl (lv_room (Nat.le_of_ble_eq_true rfl)) dX1_about_70 ⟨Nat.le_of_ble_eq_true rfl, Nat.le_of_ble_eq_true rfl⟩) ?_
          exact fin dX1_about_73 hv
        · skip
          rcases o_ite hv with ⟨c111, hv⟩ | ⟨c111, hv⟩
          · refine lv_tableIn (tgt := 74) hx hb dX1_about_30 (by rw [c111]; decide) (by rw [c111]; decide) (by rw [c111]; rfl) (by decide) ?_
            refine lv_aload hx hb dX1_about_74 (lv_at hl 0 rfl) ?_
            refine lv_iload_n hx hb dX1_about_76 rfl (lv_at hl 3 rfl) ?_
            obtain ⟨r112, e112, hv⟩ := o_bind hv
            refine rcall_i (W.runV (As := [.int x2]) (rest := []) hC (c_X0_shareAt l D cA (bx a r106) (bk u r106) x2 r112 e112) (cwV 1 hts gX1_about_X0_shareAt rfl rfl rfl (by decide +kernel) ⟨Nat.le_of_ble_eq_true rfl, Nat.le_of_ble_eq_true rfl⟩) ⟨roB_blind, va_recv (ci := 0) (q0 := 0) hK (wS_bk hP r106) rfl rfl, roB_pre hK hZ (hws_1 (wS_bk hP r106))⟩ rfl rfl hl.1 rfl (lv_room (Nat.le_of_ble_eq_true rfl)) dX1_about_77 ⟨Nat.le_of_ble_eq_true rfl, Nat.le_of_ble_eq_true rfl⟩) ?_
            exact fin dX1_about_80 hv
          · skip
            rcases o_ite hv with ⟨c113, hv⟩ | ⟨c113, hv⟩
            · refine lv_tableIn (tgt := 81) hx hb dX1_about_30 (by rw [c113]; decide) (by rw [c113]; decide) (by rw [c113]; rfl) (by decide) ?_
              refine lv_aload hx hb dX1_about_81 (lv_at hl 0 rfl) ?_
              refine lv_iload_n hx hb dX1_about_83 rfl (lv_at hl 3 rfl) ?_
              obtain ⟨r114, e114, hv⟩ := o_bind hv
              refine rcall_i (W.runV (As := [.int x2]) (rest := []) hC (c_X0_takeAt l D cA (bx a r106) (bk u r106) x2 r114 e114) (cwV 1 hts gX1_about_X0_takeAt rfl rfl rfl (by decide +kernel) ⟨Nat.le_of_ble_eq_true rfl, Nat.le_of_ble_eq_true rfl⟩) ⟨roB_blind, va_recv (ci := 0) (q0 := 0) hK (wS_bk hP r106) rfl rfl, roB_pre hK hZ (hws_1 (wS_bk hP r106))⟩ rfl rfl hl.1 rfl (lv_room (Nat.le_of_ble_eq_true rfl)) dX1_about_84 ⟨Nat.le_of_ble_eq_true rfl, Nat.le_of_ble_eq_true rfl⟩) ?_
              exact fin dX1_about_87 hv
            · skip
              refine lv_tableOut (tgt := 88) hx hb dX1_about_30 (sw4 c107 c109 c111 c113) (by decide) ?_
              refine lv_iconst (v := -1) hx hb dX1_about_88 (by decide) ?_
              exact fin dX1_about_89 hv
    · have hv := o_pos hv c105
      refine lv_iconst (v := -1) hx hb dX1_about_20 (by decide) ?_
      exact fin dX1_about_21 hv
abbrev rm_X0_allWeights : Room := { frames := 2, cells := 0, slots := 0, locals := 44 }
set_option maxHeartbeats 4000000 in
set_option maxRecDepth 100000 in
theorem c_X0_allWeights (l : Launch) (D : va_G) (cA : ClassId) (a : Nat → Nat) (u : StB) (v : Int32) (hv : f_X0_allWeights u = some v)  : Met l yX0_allWeights wsX0_allWeights rm_X0_allWeights (va_Pc [.ref (a 0)] (roB D cA [wB cA a u])) (vp_Si (fun r => r = v)) 0 0 (fun _ => False) := by
  refine ro_i (cc := cX0_allWeights) (maxL := 1) (own := RX0) (by decide) rfl rfl (Nat.le_of_ble_eq_true rfl) ?_
  intro p e s m args below meth c Q ls hC hK hZ hws hl fin
  obtain ⟨hx, hb, hml, hown, hts⟩ := id hC
  have hl : lv_has ls 1 [(0, .ref (a 0))] := hl
  have hP : va_P D vwCl (wB cA a u) s.heap := hws _ (List.mem_of_getElem? (i := 0) rfl)
  have hinX0 : ∀ w ∈ wsX00, w ∈ wsX0_allWeights := fun w h => List.mem_cons_of_mem _ (List.mem_append_right _ h)
  unfold f_X0_allWeights at hv
  refine lv_aload_n hx hb dX0_allWeights_0 rfl (lv_at hl 0 rfl) ?_
  refine lv_iconst (v := 0) hx hb dX0_allWeights_1 (by decide) ?_
  obtain ⟨r101, e101, hv⟩ := o_bind hv
  refine rcall_i (W.runV (As := [.int (0 : Int32)]) (rest := []) hC (c_X0_shareAt l D cA a u (0 : Int32) r101 e101) (cwV 1 hts gX0_allWeights_X0_shareAt rfl rfl rfl (by decide +kernel) ⟨Nat.le_of_ble_eq_true rfl, Nat.le_of_ble_eq_true rfl⟩) ⟨roB_blind, va_recv (ci := 0) (q0 := 0) hK hP rfl rfl, roB_pre hK hZ (hws_1 hP)⟩ rfl rfl hl.1 rfl (lv_room (Nat.le_of_ble_eq_true rfl)) dX0_allWeights_2 ⟨Nat.le_of_ble_eq_true rfl, Nat.le_of_ble_eq_true rfl⟩) ?_
  exact fin dX0_allWeights_5 hv
abbrev rm_X0_bestPlace : Room := { frames := 3, cells := 0, slots := 0, locals := 65 }
set_option maxHeartbeats 4000000 in
set_option maxRecDepth 100000 in
theorem c_X0_bestPlace (l : Launch) (D : va_G) (cA : ClassId) (a : Nat → Nat) (u : StB) (v : Int32) (hv : f_X0_bestPlace u = some v)  : Met l yX0_bestPlace wsX0_bestPlace rm_X0_bestPlace (va_Pc [.ref (a 0)] (roB D cA [wB cA a u])) (vp_Si (fun r => r = v)) 0 0 (fun _ => False) := by
  refine ro_i (cc := cX0_bestPlace) (maxL := 3) (own := RX0) (by decide) rfl rfl (Nat.le_of_ble_eq_true rfl) ?_
  intro p e s m args below meth c Q ls hC hK hZ hws hl fin
  obtain ⟨hx, hb, hml, hown, hts⟩ := id hC
  have hl : lv_has ls 3 [(0, .ref (a 0))] := hl
  have hP : va_P D vwCl (wB cA a u) s.heap := hws _ (List.mem_of_getElem? (i := 0) rfl)
  have hinX0 : ∀ w ∈ wsX00, w ∈ wsX0_bestPlace := fun w h => List.mem_cons_of_mem _ (List.mem_append_right _ h)
  have hB4 : ∀ (k33 : Int32 → Option (Int32)) (hk33 : ∀ (x1 : Int32) (ls : Array Slot), lv_has ls 3 [(1, .int x1)] → k33 x1 = some v → W p l e rm_X0_bestPlace s m args below meth c s.heap [] 0 0 Q (F0 m 33 ls [])) (n : Nat) (x1 : Int32) (x2 : Int32) (ls : Array Slot), lv_has ls 3 [(0, .ref (a 0)), (1, .int x1), (2, .int x2)] → B_X0_bestPlace_4 u k33 n x1 x2 = some v → W p l e rm_X0_bestPlace s m args below meth c s.heap [] 0 0 Q (F0 m 4 ls []) := by
    intro k33 hk33 n
    induction n with
    | zero => intro x1 x2 ls hl hv; exact absurd hv (by intro h; cases h)
    | succ n hk4 =>
      intro x1 x2 ls hl hv
      rw [B_X0_bestPlace_4] at hv
      refine lv_iload_n hx hb dX0_bestPlace_4 rfl (lv_at hl 2 rfl) ?_
      refine lv_aload_n hx hb dX0_bestPlace_5 rfl (lv_at hl 0 rfl) ?_
      refine gtX0_size hx hb hts hinX0 hown hK hP (by decide +kernel) dX0_bestPlace_6 ?_
      refine lv_icmp_ge (tgt := 33) hx hb dX0_bestPlace_9 (by decide) (fun c101 => ?_) (fun c101 => ?_)
      · have hv := o_pos hv c101
        exact hk33 _  ls (lv_sub hl [1] rfl) hv
      · have hv := o_neg hv c101
        refine lv_aload_n hx hb dX0_bestPlace_12 rfl (lv_at hl 0 rfl) ?_
        refine lv_iload_n hx hb dX0_bestPlace_13 rfl (lv_at hl 2 rfl) ?_
        obtain ⟨r102, e102, hv⟩ := o_bind hv
        refine rcall_i (W.runV (As := [.int x2]) (rest := []) hC (c_X0_takeAt l D cA a u x2 r102 e102) (cwV 1 hts gX0_bestPlace_X0_takeAt rfl rfl rfl (by decide +kernel) ⟨Nat.le_of_ble_eq_true rfl, Nat.le_of_ble_eq_true rfl⟩) ⟨roB_blind, va_recv (ci := 0) (q0 := 0) hK hP rfl rfl, roB_pre hK hZ (hws_1 hP)⟩ rfl rfl hl.1 rfl (lv_room (Nat.le_of_ble_eq_true rfl)) dX0_bestPlace_14 ⟨Nat.le_of_ble_eq_true rfl, Nat.le_of_ble_eq_true rfl⟩) ?_
        refine lv_aload_n hx hb dX0_bestPlace_17 rfl (lv_at hl 0 rfl) ?_
        refine lv_iload_n hx hb dX0_bestPlace_18 rfl (lv_at hl 1 rfl) ?_
        obtain ⟨r103, e103, hv⟩ := o_bind hv
        refine rcall_i (W.runV (As := [.int x1]) (rest := [.int r102]) hC (c_X0_takeAt l D cA a u x1 r103 e103) (cwV 1 hts gX0_bestPlace_X0_takeAt rfl rfl rfl (by decide +kernel) ⟨Nat.le_of_ble_eq_true rfl, Nat.le_of_ble_eq_true rfl⟩) ⟨roB_blind, va_recv (ci := 0) (q0 := 0) hK hP rfl rfl, roB_pre hK hZ (hws_1 hP)⟩ rfl rfl hl.1 rfl (lv_room (Nat.le_of_ble_eq_true rfl)) dX0_bestPlace_19 ⟨Nat.le_of_ble_eq_true rfl, Nat.le_of_ble_eq_true rfl⟩) ?_
        refine lv_icmp_le (tgt := 27) hx hb dX0_bestPlace_22 (by decide) (fun c104 => ?_) (fun c104 => ?_)
        · have hv := o_pos hv c104
          refine lv_iinc (v := (x2 + 1)) (lv' := [(2, .int (x2 + 1)), (0, .ref (a 0)), (1, .int x1)]) hx hb dX0_bestPlace_27 hl (k := 2) rfl rfl (by decide) rfl (fun ls hl => ?_)
          refine lv_goto (tgt := 4) hx hb dX0_bestPlace_30 (by decide) ?_
          exact hk4 _ _  ls (lv_sub hl [1, 2, 0] rfl) hv
        · have hv := o_neg hv c104
          refine lv_iload_n hx hb dX0_bestPlace_25 rfl (lv_at hl 2 rfl) ?_
          refine lv_istore_n (lv' := [(1, .int x2), (0, .ref (a 0)), (2, .int x2)]) hx hb dX0_bestPlace_26 rfl hl (by decide) rfl (fun ls hl => ?_)
          refine lv_iinc (v := (x2 + 1)) (lv' := [(2, .int (x2 + 1)), (1, .int x2), (0, .ref (a 0))]) hx hb dX0_bestPlace_27 hl (k := 2) rfl rfl (by decide) rfl (fun ls hl => ?_)
          refine lv_goto (tgt := 4) hx hb dX0_bestPlace_30 (by decide) ?_
          exact hk4 _ _  ls (lv_sub hl [2, 1, 0] rfl) hv
  unfold f_X0_bestPlace at hv
  refine lv_iconst (v := 0) hx hb dX0_bestPlace_0 (by decide) ?_
  refine lv_istore_n (lv' := [(1, .int (0 : Int32)), (0, .ref (a 0))]) hx hb dX0_bestPlace_1 rfl hl (by decide) rfl (fun ls hl => ?_)
  refine lv_iconst (v := 1) hx hb dX0_bestPlace_2 (by decide) ?_
  refine lv_istore_n (lv' := [(2, .int (1 : Int32)), (1, .int (0 : Int32)), (0, .ref (a 0))]) hx hb dX0_bestPlace_3 rfl hl (by decide) rfl (fun ls hl => ?_)
  refine hB4 _ (fun z205_1 ls hl hv => ?_) 1000 _ _ ls (lv_sub hl [2, 1, 0] rfl) hv
  · skip
    refine lv_iload_n hx hb dX0_bestPlace_33 rfl (lv_at hl 0 rfl) ?_
    exact fin dX0_bestPlace_34 hv
abbrev rm_X1_whole : Room := { frames := 4, cells := 0, slots := 0, locals := 87 }
set_option maxHeartbeats 4000000 in
set_option maxRecDepth 100000 in
theorem c_X1_whole (l : Launch) (D : va_G) (cA : ClassId) (a : Nat → Nat) (u : StS) (x1 : Int32) (x2 : Int32) (v : Int32) (hv : f_X1_whole u x1 x2 = some v)  : Met l yX1_whole wsX1_whole rm_X1_whole (va_Pc [.ref (a 0), .int x1, .int x2] (roB D cA [wS cA a u])) (vp_Si (fun r => r = v)) 0 0 (fun _ => False) := by
  refine ro_i (cc := cX1_whole) (maxL := 4) (own := RX1) (by decide) rfl rfl (Nat.le_of_ble_eq_true rfl) ?_
  intro p e s m args below meth c Q ls hC hK hZ hws hl fin
  obtain ⟨hx, hb, hml, hown, hts⟩ := id hC
  have hl : lv_has ls 4 [(0, .ref (a 0)), (1, .int x1), (2, .int x2)] := hl
  have hP : va_P D vwCl (wS cA a u) s.heap := hws _ (List.mem_of_getElem? (i := 0) rfl)
  have hinX0 : ∀ w ∈ wsX00, w ∈ wsX1_whole := fun w h => List.mem_cons_of_mem _ (List.mem_append_left _ (List.mem_append_right _ h))
  have hinX1 : ∀ w ∈ wsX10, w ∈ wsX1_whole := fun w h => List.mem_cons_of_mem _ (List.mem_append_right _ h)
  unfold f_X1_whole at hv
  refine lv_aload_n hx hb dX1_whole_0 rfl (lv_at hl 0 rfl) ?_
  refine lv_iload_n hx hb dX1_whole_1 rfl (lv_at hl 1 rfl) ?_
  obtain ⟨r101, e101, hv⟩ := o_bind hv
  refine rcall_i (W.runV (As := [.int x1]) (rest := []) hC (c_X1_isBuyer l D cA a u x1 r101 e101) (cwV 1 hts gX1_whole_X1_isBuyer rfl rfl rfl (by decide +kernel) ⟨Nat.le_of_ble_eq_true rfl, Nat.le_of_ble_eq_true rfl⟩) ⟨roB_blind, va_recv (ci := 1) (q0 := 0) hK hP rfl rfl, roB_pre hK hZ (hws_1 hP)⟩ rfl rfl hl.1 rfl (lv_room (Nat.le_of_ble_eq_true rfl)) dX1_whole_2 ⟨Nat.le_of_ble_eq_true rfl, Nat.le_of_ble_eq_true rfl⟩) ?_
  refine lv_if_ne (tgt := 10) hx hb dX1_whole_5 (by decide) (fun c102 => ?_) (fun c102 => ?_)
  · have hv := o_neg hv c102
    refine lv_aload_n hx hb dX1_whole_10 rfl (lv_at hl 0 rfl) ?_
    refine lv_iload_n hx hb dX1_whole_11 rfl (lv_at hl 1 rfl) ?_
    obtain ⟨r103, e103, hv⟩ := o_bind hv
    refine rcall_r (W.runV (As := [.int x1]) (rest := []) hC (c_X1_bookOf l D cA a u x1 r103 e103) (cwV 1 hts gX1_whole_X1_bookOf rfl rfl rfl (by decide +kernel) ⟨Nat.le_of_ble_eq_true rfl, Nat.le_of_ble_eq_true rfl⟩) ⟨roB_blind, va_recv (ci := 1) (q0 := 0) hK hP rfl rfl, roB_pre hK hZ (hws_1 hP)⟩ rfl rfl hl.1 rfl (lv_room (Nat.le_of_ble_eq_true rfl)) dX1_whole_12 ⟨Nat.le_of_ble_eq_true rfl, Nat.le_of_ble_eq_true rfl⟩) ?_
    refine lv_astore_n (lv' := [(3, .ref (bx a r103 0)), (0, .ref (a 0)), (1, .int x1), (2, .int x2)]) hx hb dX1_whole_15 rfl hl (by decide) rfl (fun ls hl => ?_)
    refine lv_iload_n hx hb dX1_whole_16 rfl (lv_at hl 3 rfl) ?_
    rcases o_ite hv with ⟨c104, hv⟩ | ⟨c104, hv⟩
    · refine lv_tableIn (tgt := 44) hx hb dX1_whole_17 (by rw [c104]; decide) (by rw [c104]; decide) (by rw [c104]; rfl) (by decide) ?_
      refine lv_aload_n hx hb dX1_whole_44 rfl (lv_at hl 0 rfl) ?_
      refine gnX0_size hx hb hts hinX0 hown hK hZ (wS_bk hP r103) dX1_whole_45 ?_
      exact fin dX1_whole_48 hv
    · skip
      rcases o_ite hv with ⟨c105, hv⟩ | ⟨c105, hv⟩
      · refine lv_tableIn (tgt := 49) hx hb dX1_whole_17 (by rw [c105]; decide) (by rw [c105]; decide) (by rw [c105]; rfl) (by decide) ?_
        refine lv_aload_n hx hb dX1_whole_49 rfl (lv_at hl 0 rfl) ?_
        obtain ⟨r106, e106, hv⟩ := o_bind hv
        refine rcall_i (W.runV (As := []) (rest := []) hC (c_X0_allWeights l D cA (bx a r103) (bk u r103) r106 e106) (cwV 0 hts gX1_whole_X0_allWeights rfl rfl rfl (by decide +kernel) ⟨Nat.le_of_ble_eq_true rfl, Nat.le_of_ble_eq_true rfl⟩) ⟨roB_blind, va_recv (ci := 0) (q0 := 0) hK (wS_bk hP r103) rfl rfl, roB_pre hK hZ (hws_1 (wS_bk hP r103))⟩ rfl rfl hl.1 rfl (lv_room (Nat.le_of_ble_eq_true rfl)) dX1_whole_50 ⟨Nat.le_of_ble_eq_true rfl, Nat.le_of_ble_eq_true rfl⟩) ?_
        exact fin dX1_whole_53 hv
      · skip
        rcases o_ite hv with ⟨c107, hv⟩ | ⟨c107, hv⟩
        · refine lv_tableIn (tgt := 54) hx hb dX1_whole_17 (by rw [c107]; decide) (by rw [c107]; decide) (by rw [c107]; rfl) (by decide) ?_
          refine lv_aload_n hx hb dX1_whole_54 rfl (lv_at hl 0 rfl) ?_
          obtain ⟨r108, e108, hv⟩ := o_bind hv
          refine rcall_i (W.runV (As := []) (rest := []) hC (c_X0_bestPlace l D cA (bx a r103) (bk u r103) r108 e108) (cwV 0 hts gX1_whole_X0_bestPlace rfl rfl rfl (by decide +kernel) ⟨Nat.le_of_ble_eq_true rfl, Nat.le_of_ble_eq_true rfl⟩) ⟨roB_blind, va_recv (ci := 0) (q0 := 0) hK (wS_bk hP r103) rfl rfl, roB_pre hK hZ (hws_1 (wS_bk hP r103))⟩ rfl rfl hl.1 rfl (lv_room (Nat.le_of_ble_eq_true rfl)) dX1_whole_55 ⟨Nat.le_of_ble_eq_true rfl, Nat.le_of_ble_eq_true rfl⟩) ?_
          exact fin dX1_whole_58 hv
        · skip
          refine lv_tableOut (tgt := 59) hx hb dX1_whole_17 (sw3 c104 c105 c107) (by decide) ?_
          refine lv_iconst (v := -1) hx hb dX1_whole_59 (by decide) ?_
          exact fin dX1_whole_60 hv
  · have hv := o_pos hv c102
    refine lv_iconst (v := -1) hx hb dX1_whole_8 (by decide) ?_
    exact fin dX1_whole_9 hv
abbrev rm_X1_isPart : Room := { frames := 0, cells := 0, slots := 0, locals := 0 }
set_option maxHeartbeats 4000000 in
set_option maxRecDepth 100000 in
theorem c_X1_isPart (l : Launch) (D : va_G) (cA : ClassId) (x0 : Int32) (v : Int32) (hv : f_X1_isPart x0 = some v)  : Met l yX1_isPart wsX1_isPart rm_X1_isPart (va_Pc [.int x0] (roB D cA [])) (vp_Si (fun r => r = v)) 0 0 (fun _ => False) := by
  refine ro_z (cc := cX1_isPart) (maxL := 1) (own := RX1) (by decide) rfl rfl (Nat.le_of_ble_eq_true rfl) ?_
  intro p e s m args below meth c Q ls hC hK hZ hws hl fin
  obtain ⟨hx, hb, hml, hown, hts⟩ := id hC
  have hl : lv_has ls 1 [(0, .int x0)] := hl
  unfold f_X1_isPart at hv
  refine lv_iload_n hx hb dX1_isPart_0 rfl (lv_at hl 0 rfl) ?_
  refine lv_if_eq (tgt := 9) hx hb dX1_isPart_1 (by decide) (fun c101 => ?_) (fun c101 => ?_)
  · have hv := o_pos hv c101
    refine lv_iconst (v := 1) hx hb dX1_isPart_9 (by decide) ?_
    refine lv_goto (tgt := 14) hx hb dX1_isPart_10 (by decide) ?_
    exact fin dX1_isPart_14 rfl hv
  · have hv := o_neg hv c101
    refine lv_iload_n hx hb dX1_isPart_4 rfl (lv_at hl 0 rfl) ?_
    refine lv_iconst (v := 1) hx hb dX1_isPart_5 (by decide) ?_
    refine lv_icmp_ne (tgt := 13) hx hb dX1_isPart_6 (by decide) (fun c102 => ?_) (fun c102 => ?_)
    · have hv := o_neg hv c102
      refine lv_iconst (v := 0) hx hb dX1_isPart_13 (by decide) ?_
      exact fin dX1_isPart_14 rfl hv
    · have hv := o_pos hv c102
      refine lv_iconst (v := 1) hx hb dX1_isPart_9 (by decide) ?_
      refine lv_goto (tgt := 14) hx hb dX1_isPart_10 (by decide) ?_
      exact fin dX1_isPart_14 rfl hv
abbrev rm_X0_ironedUpper : Room := { frames := 0, cells := 0, slots := 0, locals := 0 }
set_option maxHeartbeats 4000000 in
set_option maxRecDepth 100000 in
theorem c_X0_ironedUpper (l : Launch) (D : va_G) (cA : ClassId) (a : Nat → Nat) (u : StB) (x1 : Int32) (v : Int64) (hv : f_X0_ironedUpper u x1 = some v)  : Met l yX0_ironedUpper wsX0_ironedUpper rm_X0_ironedUpper (va_Pc [.ref (a 0), .int x1] (roB D cA [wB cA a u])) (vp_Sl (fun r => r = v)) 0 0 (fun _ => False) := by
  refine ro_l (cc := cX0_ironedUpper) (maxL := 2) (own := RX0) (by decide) rfl rfl (Nat.le_of_ble_eq_true rfl) ?_
  intro p e s m args below meth c Q ls hC hK hZ hws hl fin
  obtain ⟨hx, hb, hml, hown, hts⟩ := id hC
  have hl : lv_has ls 2 [(0, .ref (a 0)), (1, .int x1)] := hl
  have hP : va_P D vwCl (wB cA a u) s.heap := hws _ (List.mem_of_getElem? (i := 0) rfl)
  have hinX0 : ∀ w ∈ wsX00, w ∈ wsX0_ironedUpper := fun w h => List.mem_cons_of_mem _ (List.mem_append_right _ h)
  unfold f_X0_ironedUpper at hv
  refine lv_iload_n hx hb dX0_ironedUpper_0 rfl (lv_at hl 1 rfl) ?_
  refine lv_if_lt (tgt := 22) hx hb dX0_ironedUpper_1 (by decide) (fun c101 => ?_) (fun c101 => ?_)
  · have hv := o_pos hv c101
    refine lv_lconst (v := 0) hx hb dX0_ironedUpper_22 (by decide) ?_
    exact fin dX0_ironedUpper_23 hv
  · have hv := o_neg hv c101
    refine lv_iload_n hx hb dX0_ironedUpper_4 rfl (lv_at hl 1 rfl) ?_
    refine lv_aload_n hx hb dX0_ironedUpper_5 rfl (lv_at hl 0 rfl) ?_
    refine gtX0_size hx hb hts hinX0 hown hK hP (by decide +kernel) dX0_ironedUpper_6 ?_
    refine lv_icmp_ge (tgt := 22) hx hb dX0_ironedUpper_9 (by decide) (fun c102 => ?_) (fun c102 => ?_)
    · have hv := o_pos hv c102
      refine lv_lconst (v := 0) hx hb dX0_ironedUpper_22 (by decide) ?_
      exact fin dX0_ironedUpper_23 hv
    · have hv := o_neg hv c102
      refine lv_aload_n hx hb dX0_ironedUpper_12 rfl (lv_at hl 0 rfl) ?_
      refine gtX0_uppers hx hb hts hinX0 hown hK hP (by decide +kernel) dX0_ironedUpper_13 ?_
      refine lv_iload_n hx hb dX0_ironedUpper_16 rfl (lv_at hl 1 rfl) ?_
      obtain ⟨g103, hv⟩ := o_grd hv
      refine alX0_uppers hx hb hK hP g103 dX0_ironedUpper_17 ?_
      refine lv_i2l hx hb dX0_ironedUpper_18 rfl ?_
      refine lv_goto (tgt := 23) hx hb dX0_ironedUpper_19 (by decide) ?_
      exact fin dX0_ironedUpper_23 hv
abbrev rm_X0_ironedLower : Room := { frames := 0, cells := 0, slots := 0, locals := 0 }
set_option maxHeartbeats 4000000 in
set_option maxRecDepth 100000 in
theorem c_X0_ironedLower (l : Launch) (D : va_G) (cA : ClassId) (a : Nat → Nat) (u : StB) (x1 : Int32) (v : Int64) (hv : f_X0_ironedLower u x1 = some v)  : Met l yX0_ironedLower wsX0_ironedLower rm_X0_ironedLower (va_Pc [.ref (a 0), .int x1] (roB D cA [wB cA a u])) (vp_Sl (fun r => r = v)) 0 0 (fun _ => False) := by
  refine ro_l (cc := cX0_ironedLower) (maxL := 2) (own := RX0) (by decide) rfl rfl (Nat.le_of_ble_eq_true rfl) ?_
  intro p e s m args below meth c Q ls hC hK hZ hws hl fin
  obtain ⟨hx, hb, hml, hown, hts⟩ := id hC
  have hl : lv_has ls 2 [(0, .ref (a 0)), (1, .int x1)] := hl
  have hP : va_P D vwCl (wB cA a u) s.heap := hws _ (List.mem_of_getElem? (i := 0) rfl)
  have hinX0 : ∀ w ∈ wsX00, w ∈ wsX0_ironedLower := fun w h => List.mem_cons_of_mem _ (List.mem_append_right _ h)
  unfold f_X0_ironedLower at hv
  refine lv_iload_n hx hb dX0_ironedLower_0 rfl (lv_at hl 1 rfl) ?_
  refine lv_if_lt (tgt := 22) hx hb dX0_ironedLower_1 (by decide) (fun c101 => ?_) (fun c101 => ?_)
  · have hv := o_pos hv c101
    refine lv_lconst (v := 1) hx hb dX0_ironedLower_22 (by decide) ?_
    exact fin dX0_ironedLower_23 hv
  · have hv := o_neg hv c101
    refine lv_iload_n hx hb dX0_ironedLower_4 rfl (lv_at hl 1 rfl) ?_
    refine lv_aload_n hx hb dX0_ironedLower_5 rfl (lv_at hl 0 rfl) ?_
    refine gtX0_size hx hb hts hinX0 hown hK hP (by decide +kernel) dX0_ironedLower_6 ?_
    refine lv_icmp_ge (tgt := 22) hx hb dX0_ironedLower_9 (by decide) (fun c102 => ?_) (fun c102 => ?_)
    · have hv := o_pos hv c102
      refine lv_lconst (v := 1) hx hb dX0_ironedLower_22 (by decide) ?_
      exact fin dX0_ironedLower_23 hv
    · have hv := o_neg hv c102
      refine lv_aload_n hx hb dX0_ironedLower_12 rfl (lv_at hl 0 rfl) ?_
      refine gtX0_lowers hx hb hts hinX0 hown hK hP (by decide +kernel) dX0_ironedLower_13 ?_
      refine lv_iload_n hx hb dX0_ironedLower_16 rfl (lv_at hl 1 rfl) ?_
      obtain ⟨g103, hv⟩ := o_grd hv
      refine alX0_lowers hx hb hK hP g103 dX0_ironedLower_17 ?_
      refine lv_i2l hx hb dX0_ironedLower_18 rfl ?_
      refine lv_goto (tgt := 23) hx hb dX0_ironedLower_19 (by decide) ?_
      exact fin dX0_ironedLower_23 hv
abbrev rm_X1_commonDivisor : Room := { frames := 0, cells := 0, slots := 0, locals := 0 }
set_option maxHeartbeats 4000000 in
set_option maxRecDepth 100000 in
theorem c_X1_commonDivisor (l : Launch) (D : va_G) (cA : ClassId) (x0 : Int64) (x2 : Int64) (v : Int64) (hv : f_X1_commonDivisor x0 x2 = some v)  : Met l yX1_commonDivisor wsX1_commonDivisor rm_X1_commonDivisor (va_Pc [.long x0, .long x2] (roB D cA [])) (vp_Sl (fun r => r = v)) 0 0 (fun _ => False) := by
  refine ro_l (cc := cX1_commonDivisor) (maxL := 11) (own := RX1) (by decide) rfl rfl (Nat.le_of_ble_eq_true rfl) ?_
  intro p e s m args below meth c Q ls hC hK hZ hws hl fin
  obtain ⟨hx, hb, hml, hown, hts⟩ := id hC
  have hl : lv_has ls 11 [(0, .long x0), (2, .long x2)] := hl
  have hB9 : ∀ (k44 : Int64 → Option (Int64)) (hk44 : ∀ (x4 : Int64) (ls : Array Slot), lv_has ls 11 [(4, .long x4)] → k44 x4 = some v → W p l e rm_X1_commonDivisor s m args below meth c s.heap [] 0 0 Q (F0 m 44 ls [])) (n : Nat) (x4 : Int64) (x6 : Int64) (x8 : Int32) (ls : Array Slot), lv_has ls 11 [(4, .long x4), (6, .long x6), (8, .int x8)] → B_X1_commonDivisor_9 k44 n x4 x6 x8 = some v → W p l e rm_X1_commonDivisor s m args below meth c s.heap [] 0 0 Q (F0 m 9 ls []) := by
    intro k44 hk44 n
    induction n with
    | zero => intro x4 x6 x8 ls hl hv; exact absurd hv (by intro h; cases h)
    | succ n hk9 =>
      intro x4 x6 x8 ls hl hv
      rw [B_X1_commonDivisor_9] at hv
      refine lv_iload hx hb dX1_commonDivisor_9 (lv_at hl 2 rfl) ?_
      refine lv_bipush (v := 100) hx hb dX1_commonDivisor_11 (by decide) ?_
      refine lv_icmp_ge (tgt := 44) hx hb dX1_commonDivisor_13 (by decide) (fun c101 => ?_) (fun c101 => ?_)
      · have hv := o_pos hv c101
        exact hk44 _  ls (lv_sub hl [0] rfl) hv
      · have hv := o_neg hv c101
        refine lv_lload hx hb dX1_commonDivisor_16 (lv_at hl 1 rfl) ?_
        refine lv_lconst (v := 0) hx hb dX1_commonDivisor_18 (by decide) ?_
        refine W.lcmp hx hb dX1_commonDivisor_19 ?_
        refine lv_if_eq (tgt := 44) hx hb dX1_commonDivisor_20 (by decide) (fun c102 => ?_) (fun c102 => ?_)
        · have hv := o_pos hv c102
          exact hk44 _  ls (lv_sub hl [0] rfl) hv
        · have hv := o_neg hv c102
          refine lv_lload hx hb dX1_commonDivisor_23 (lv_at hl 0 rfl) ?_
          refine lv_lload hx hb dX1_commonDivisor_25 (lv_at hl 1 rfl) ?_
          obtain ⟨g103, hv⟩ := o_grd hv
          refine lv_lrem hx hb dX1_commonDivisor_27 g103 ?_
          refine lv_lstore (lv' := [(9, .long (x4 - x4 / x6 * x6)), (4, .long x4), (6, .long x6), (8, .int x8)]) hx hb dX1_commonDivisor_28 hl (by decide) rfl (fun ls hl => ?_)
          refine lv_lload hx hb dX1_commonDivisor_30 (lv_at hl 2 rfl) ?_
          refine lv_lstore (lv' := [(4, .long x6), (9, .long (x4 - x4 / x6 * x6)), (6, .long x6), (8, .int x8)]) hx hb dX1_commonDivisor_32 hl (by decide) rfl (fun ls hl => ?_)
          refine lv_lload hx hb dX1_commonDivisor_34 (lv_at hl 1 rfl) ?_
          refine lv_lstore (lv' := [(6, .long (x4 - x4 / x6 * x6)), (4, .long x6), (9, .long (x4 - x4 / x6 * x6)), (8, .int x8)]) hx hb dX1_commonDivisor_36 hl (by decide) rfl (fun ls hl => ?_)
          refine lv_iinc (v := (x8 + 1)) (lv' := [(8, .int (x8 + 1)), (6, .long (x4 - x4 / x6 * x6)), (4, .long x6), (9, .long (x4 - x4 / x6 * x6))]) hx hb dX1_commonDivisor_38 hl (k := 3) rfl rfl (by decide) rfl (fun ls hl => ?_)
          refine lv_goto (tgt := 9) hx hb dX1_commonDivisor_41 (by decide) ?_
          exact hk9 _ _ _  ls (lv_sub hl [2, 1, 0] rfl) hv
  unfold f_X1_commonDivisor at hv
  refine lv_lload_n hx hb dX1_commonDivisor_0 rfl (lv_at hl 0 rfl) ?_
  refine lv_lstore (lv' := [(4, .long x0), (0, .long x0), (2, .long x2)]) hx hb dX1_commonDivisor_1 hl (by decide) rfl (fun ls hl => ?_)
  refine lv_lload_n hx hb dX1_commonDivisor_3 rfl (lv_at hl 2 rfl) ?_
  refine lv_lstore (lv' := [(6, .long x2), (4, .long x0), (0, .long x0), (2, .long x2)]) hx hb dX1_commonDivisor_4 hl (by decide) rfl (fun ls hl => ?_)
  refine lv_iconst (v := 0) hx hb dX1_commonDivisor_6 (by decide) ?_
  refine lv_istore (lv' := [(8, .int (0 : Int32)), (6, .long x2), (4, .long x0), (0, .long x0), (2, .long x2)]) hx hb dX1_commonDivisor_7 hl (by decide) rfl (fun ls hl => ?_)
  refine hB9 _ (fun z204_4 ls hl hv => ?_) 1000 _ _ _ ls (lv_sub hl [2, 1, 0] rfl) hv
  · skip
    refine lv_lload hx hb dX1_commonDivisor_44 (lv_at hl 0 rfl) ?_
    exact fin dX1_commonDivisor_46 hv
abbrev rm_X1_leastPart : Room := { frames := 1, cells := 0, slots := 0, locals := 30 }
set_option maxHeartbeats 4000000 in
set_option maxRecDepth 100000 in
theorem c_X1_leastPart (l : Launch) (D : va_G) (cA : ClassId) (x0 : Int64) (x2 : Int64) (x4 : Int32) (v : Int64) (hv : f_X1_leastPart x0 x2 x4 = some v)  : Met l yX1_leastPart wsX1_leastPart rm_X1_leastPart (va_Pc [.long x0, .long x2, .int x4] (roB D cA [])) (vp_Sl (fun r => r = v)) 0 0 (fun _ => False) := by
  refine ro_l (cc := cX1_leastPart) (maxL := 7) (own := RX1) (by decide) rfl rfl (Nat.le_of_ble_eq_true rfl) ?_
  intro p e s m args below meth c Q ls hC hK hZ hws hl fin
  obtain ⟨hx, hb, hml, hown, hts⟩ := id hC
  have hl : lv_has ls 7 [(0, .long x0), (2, .long x2), (4, .int x4)] := hl
  unfold f_X1_leastPart at hv
  refine lv_lload_n hx hb dX1_leastPart_0 rfl (lv_at hl 0 rfl) ?_
  refine va_mabs_long hx hb (hml.trans hl.1.symm) hown (hts (.methodLink RX1 185 Lib.MathLoose.abs_long.x) (by decide +kernel)) (hts (.static Lib.MathLoose.abs_long.x) (by decide +kernel)) (hts (.initialized "java/lang/Math") (by decide +kernel)) (hts (.code Lib.MathLoose.abs_long.x Lib.MathLoose.abs_long.code 2 (some .long)) (by decide +kernel)) (Nat.le_of_ble_eq_true rfl) (Nat.le_of_ble_eq_true rfl) (Nat.le_of_ble_eq_true rfl) (Nat.le_of_ble_eq_true rfl) dX1_leastPart_1 ?_
  refine lv_lload_n hx hb dX1_leastPart_4 rfl (lv_at hl 1 rfl) ?_
  obtain ⟨r101, e101, hv⟩ := o_bind hv
  refine rcall_l (W.runS (As := [.long (if 0 < x0 then x0 else -x0), .long x2]) (rest := []) hC (c_X1_commonDivisor l D cA (if 0 < x0 then x0 else -x0) x2 r101 e101) (va_cwS 2 hts gX1_leastPart_X1_commonDivisor rfl rfl rfl (by decide +kernel) ⟨Nat.le_of_ble_eq_true rfl, Nat.le_of_ble_eq_true rfl⟩) ⟨roB_blind, roB_pre hK hZ hws_0⟩ rfl rfl hl.1 rfl (lv_room (Nat.le_of_ble_eq_true rfl)) dX1_leastPart_5 ⟨Nat.le_of_ble_eq_true rfl, Nat.le_of_ble_eq_true rfl⟩) ?_
  refine lv_lstore (lv' := [(5, .long r101), (0, .long x0), (2, .long x2), (4, .int x4)]) hx hb dX1_leastPart_8 hl (by decide) rfl (fun ls hl => ?_)
  refine lv_lload hx hb dX1_leastPart_10 (lv_at hl 0 rfl) ?_
  refine lv_lconst (v := 0) hx hb dX1_leastPart_12 (by decide) ?_
  refine W.lcmp hx hb dX1_leastPart_13 ?_
  refine lv_if_gt (tgt := 21) hx hb dX1_leastPart_14 (by decide) (fun c102 => ?_) (fun c102 => ?_)
  · have hv := o_pos hv c102
    refine lv_iload hx hb dX1_leastPart_21 (lv_at hl 3 rfl) ?_
    refine lv_if_ne (tgt := 30) hx hb dX1_leastPart_23 (by decide) (fun c103 => ?_) (fun c103 => ?_)
    · have hv := o_neg hv c103
      refine lv_lload_n hx hb dX1_leastPart_30 rfl (lv_at hl 2 rfl) ?_
      refine lv_lload hx hb dX1_leastPart_31 (lv_at hl 0 rfl) ?_
      obtain ⟨g104, hv⟩ := o_grd hv
      refine lv_ldiv hx hb dX1_leastPart_33 g104 ?_
      exact fin dX1_leastPart_34 hv
    · have hv := o_pos hv c103
      refine lv_lload_n hx hb dX1_leastPart_26 rfl (lv_at hl 1 rfl) ?_
      refine lv_goto (tgt := 31) hx hb dX1_leastPart_27 (by decide) ?_
      refine lv_lload hx hb dX1_leastPart_31 (lv_at hl 0 rfl) ?_
      obtain ⟨g105, hv⟩ := o_grd hv
      refine lv_ldiv hx hb dX1_leastPart_33 g105 ?_
      exact fin dX1_leastPart_34 hv
  · have hv := o_neg hv c102
    refine lv_ldc2 (v := -1000000000000000) hx hb hown (hts (.constantLong RX1 90 (-1000000000000000)) (by decide +kernel)) dX1_leastPart_17 ?_
    exact fin dX1_leastPart_20 hv
abbrev rm_X1_slope : Room := { frames := 3, cells := 0, slots := 0, locals := 65 }
set_option maxHeartbeats 4000000 in
set_option maxRecDepth 100000 in
theorem c_X1_slope (l : Launch) (D : va_G) (cA : ClassId) (a : Nat → Nat) (u : StS) (x1 : Int32) (x2 : Int32) (x3 : Int32) (x4 : Int32) (v : Int64) (hv : f_X1_slope u x1 x2 x3 x4 = some v)  : Met l yX1_slope wsX1_slope rm_X1_slope (va_Pc [.ref (a 0), .int x1, .int x2, .int x3, .int x4] (roB D cA [wS cA a u])) (vp_Sl (fun r => r = v)) 0 0 (fun _ => False) := by
  refine ro_l (cc := cX1_slope) (maxL := 6) (own := RX1) (by decide) rfl rfl (Nat.le_of_ble_eq_true rfl) ?_
  intro p e s m args below meth c Q ls hC hK hZ hws hl fin
  obtain ⟨hx, hb, hml, hown, hts⟩ := id hC
  have hl : lv_has ls 6 [(0, .ref (a 0)), (1, .int x1), (2, .int x2), (3, .int x3), (4, .int x4)] := hl
  have hP : va_P D vwCl (wS cA a u) s.heap := hws _ (List.mem_of_getElem? (i := 0) rfl)
  have hinX0 : ∀ w ∈ wsX00, w ∈ wsX1_slope := fun w h => List.mem_cons_of_mem _ (List.mem_append_right _ h)
  have hinX1 : ∀ w ∈ wsX10, w ∈ wsX1_slope := fun w h => List.mem_cons_of_mem _ (List.mem_append_left _ (List.mem_append_right _ h))
  unfold f_X1_slope at hv
  refine lv_aload_n hx hb dX1_slope_0 rfl (lv_at hl 0 rfl) ?_
  refine lv_iload_n hx hb dX1_slope_1 rfl (lv_at hl 1 rfl) ?_
  obtain ⟨r101, e101, hv⟩ := o_bind hv
  refine rcall_i (W.runV (As := [.int x1]) (rest := []) hC (c_X1_isBuyer l D cA a u x1 r101 e101) (cwV 1 hts gX1_slope_X1_isBuyer rfl rfl rfl (by decide +kernel) ⟨Nat.le_of_ble_eq_true rfl, Nat.le_of_ble_eq_true rfl⟩) ⟨roB_blind, va_recv (ci := 1) (q0 := 0) hK hP rfl rfl, roB_pre hK hZ (hws_1 hP)⟩ rfl rfl hl.1 rfl (lv_room (Nat.le_of_ble_eq_true rfl)) dX1_slope_2 ⟨Nat.le_of_ble_eq_true rfl, Nat.le_of_ble_eq_true rfl⟩) ?_
  refine lv_if_eq (tgt := 28) hx hb dX1_slope_5 (by decide) (fun c102 => ?_) (fun c102 => ?_)
  · have hv := o_pos hv c102
    refine lv_ldc2 (v := -1000000000000000) hx hb hown (hts (.constantLong RX1 90 (-1000000000000000)) (by decide +kernel)) dX1_slope_28 ?_
    exact fin dX1_slope_31 hv
  · have hv := o_neg hv c102
    refine lv_aload_n hx hb dX1_slope_8 rfl (lv_at hl 0 rfl) ?_
    refine lv_iload_n hx hb dX1_slope_9 rfl (lv_at hl 1 rfl) ?_
    obtain ⟨r103, e103, hv⟩ := o_bind hv
    refine rcall_r (W.runV (As := [.int x1]) (rest := []) hC (c_X1_bookOf l D cA a u x1 r103 e103) (cwV 1 hts gX1_slope_X1_bookOf rfl rfl rfl (by decide +kernel) ⟨Nat.le_of_ble_eq_true rfl, Nat.le_of_ble_eq_true rfl⟩) ⟨roB_blind, va_recv (ci := 1) (q0 := 0) hK hP rfl rfl, roB_pre hK hZ (hws_1 hP)⟩ rfl rfl hl.1 rfl (lv_room (Nat.le_of_ble_eq_true rfl)) dX1_slope_10 ⟨Nat.le_of_ble_eq_true rfl, Nat.le_of_ble_eq_true rfl⟩) ?_
    refine lv_iload_n hx hb dX1_slope_13 rfl (lv_at hl 2 rfl) ?_
    obtain ⟨r104, e104, hv⟩ := o_bind hv
    refine rcall_i (W.runV (As := [.int x2]) (rest := []) hC (c_X0_has l D cA (bx a r103) (bk u r103) x2 r104 e104) (cwV 1 hts gX1_slope_X0_has rfl rfl rfl (by decide +kernel) ⟨Nat.le_of_ble_eq_true rfl, Nat.le_of_ble_eq_true rfl⟩) ⟨roB_blind, va_recv (ci := 0) (q0 := 0) hK (wS_bk hP r103) rfl rfl, roB_pre hK hZ (hws_1 (wS_bk hP r103))⟩ rfl rfl hl.1 rfl (lv_room (Nat.le_of_ble_eq_true rfl)) dX1_slope_14 ⟨Nat.le_of_ble_eq_true rfl, Nat.le_of_ble_eq_true rfl⟩) ?_
    refine lv_if_eq (tgt := 28) hx hb dX1_slope_17 (by decide) (fun c105 => ?_) (fun c105 => ?_)
    · have hv := o_pos hv c105
      refine lv_ldc2 (v := -1000000000000000) hx hb hown (hts (.constantLong RX1 90 (-1000000000000000)) (by decide +kernel)) dX1_slope_28 ?_
      exact fin dX1_slope_31 hv
    · have hv := o_neg hv c105
      refine lv_iload hx hb dX1_slope_20 (lv_at hl 4 rfl) ?_
      obtain ⟨r106, e106, hv⟩ := o_bind hv
      refine rcall_i (W.runS (As := [.int x4]) (rest := []) hC (c_X1_isPart l D cA x4 r106 e106) (va_cwS 1 hts gX1_slope_X1_isPart rfl rfl rfl (by decide +kernel) ⟨Nat.le_of_ble_eq_true rfl, Nat.le_of_ble_eq_true rfl⟩) ⟨roB_blind, roB_pre hK hZ hws_0⟩ rfl rfl hl.1 rfl (lv_room (Nat.le_of_ble_eq_true rfl)) dX1_slope_22 ⟨Nat.le_of_ble_eq_true rfl, Nat.le_of_ble_eq_true rfl⟩) ?_
      refine lv_if_ne (tgt := 32) hx hb dX1_slope_25 (by decide) (fun c107 => ?_) (fun c107 => ?_)
      · have hv := o_neg hv c107
        refine lv_aload_n hx hb dX1_slope_32 rfl (lv_at hl 0 rfl) ?_
        refine lv_iload_n hx hb dX1_slope_33 rfl (lv_at hl 1 rfl) ?_
        obtain ⟨r108, e108, hv⟩ := o_bind hv
        refine rcall_r (W.runV (As := [.int x1]) (rest := []) hC (c_X1_bookOf l D cA a u x1 r108 e108) (cwV 1 hts gX1_slope_X1_bookOf rfl rfl rfl (by decide +kernel) ⟨Nat.le_of_ble_eq_true rfl, Nat.le_of_ble_eq_true rfl⟩) ⟨roB_blind, va_recv (ci := 1) (q0 := 0) hK hP rfl rfl, roB_pre hK hZ (hws_1 hP)⟩ rfl rfl hl.1 rfl (lv_room (Nat.le_of_ble_eq_true rfl)) dX1_slope_34 ⟨Nat.le_of_ble_eq_true rfl, Nat.le_of_ble_eq_true rfl⟩) ?_
        refine lv_astore (lv' := [(5, .ref (bx a r108 0)), (0, .ref (a 0)), (1, .int x1), (2, .int x2), (3, .int x3), (4, .int x4)]) hx hb dX1_slope_37 hl (by decide) rfl (fun ls hl => ?_)
        refine lv_iload_n hx hb dX1_slope_39 rfl (lv_at hl 4 rfl) ?_
        refine lv_if_eq (tgt := 61) hx hb dX1_slope_40 (by decide) (fun c109 => ?_) (fun c109 => ?_)
        · have hv := o_pos hv c109
          refine lv_aload hx hb dX1_slope_61 (lv_at hl 0 rfl) ?_
          refine lv_iload_n hx hb dX1_slope_63 rfl (lv_at hl 3 rfl) ?_
          obtain ⟨r110, e110, hv⟩ := o_bind hv
          refine rcall_i (W.runV (As := [.int x2]) (rest := []) hC (c_X0_takeAt l D cA (bx a r108) (bk u r108) x2 r110 e110) (cwV 1 hts gX1_slope_X0_takeAt rfl rfl rfl (by decide +kernel) ⟨Nat.le_of_ble_eq_true rfl, Nat.le_of_ble_eq_true rfl⟩) ⟨roB_blind, va_recv (ci := 0) (q0 := 0) hK (wS_bk hP r108) rfl rfl, roB_pre hK hZ (hws_1 (wS_bk hP r108))⟩ rfl rfl hl.1 rfl (lv_room (Nat.le_of_ble_eq_true rfl)) dX1_slope_64 ⟨Nat.le_of_ble_eq_true rfl, Nat.le_of_ble_eq_true rfl⟩) ?_
          refine lv_aload hx hb dX1_slope_67 (lv_at hl 0 rfl) ?_
          refine lv_iload_n hx hb dX1_slope_69 rfl (lv_at hl 3 rfl) ?_
          refine lv_iconst (v := 1) hx hb dX1_slope_70 (by decide) ?_
          refine lv_iadd hx hb dX1_slope_71 ?_
          obtain ⟨r111, e111, hv⟩ := o_bind hv
          refine rcall_i (W.runV (As := [.int (x2 + (1 : Int32))]) (rest := [.int r110]) hC (c_X0_takeAt l D cA (bx a r108) (bk u r108) (x2 + (1 : Int32)) r111 e111) (cwV 1 hts gX1_slope_X0_takeAt rfl rfl rfl (by decide +kernel) ⟨Nat.le_of_ble_eq_true rfl, Nat.le_of_ble_eq_true rfl⟩) ⟨roB_blind, va_recv (ci := 0) (q0 := 0) hK (wS_bk hP r108) rfl rfl, roB_pre hK hZ (hws_1 (wS_bk hP r108))⟩ rfl rfl hl.1 rfl (lv_room (Nat.le_of_ble_eq_true rfl)) dX1_slope_72 ⟨Nat.le_of_ble_eq_true rfl, Nat.le_of_ble_eq_true rfl⟩) ?_
          refine lv_isub hx hb dX1_slope_75 ?_
          refine lv_i2l hx hb dX1_slope_76 rfl ?_
          refine lv_aload hx hb dX1_slope_77 (lv_at hl 0 rfl) ?_
          refine lv_iload_n hx hb dX1_slope_79 rfl (lv_at hl 3 rfl) ?_
          obtain ⟨r112, e112, hv⟩ := o_bind hv
          refine rcall_i (W.runV (As := [.int x2]) (rest := [.long (((r110 - r111)).toInt64)]) hC (c_X0_weightAt l D cA (bx a r108) (bk u r108) x2 r112 e112) (cwV 1 hts gX1_slope_X0_weightAt rfl rfl rfl (by decide +kernel) ⟨Nat.le_of_ble_eq_true rfl, Nat.le_of_ble_eq_true rfl⟩) ⟨roB_blind, va_recv (ci := 0) (q0 := 0) hK (wS_bk hP r108) rfl rfl, roB_pre hK hZ (hws_1 (wS_bk hP r108))⟩ rfl rfl hl.1 rfl (lv_room (Nat.le_of_ble_eq_true rfl)) dX1_slope_80 ⟨Nat.le_of_ble_eq_true rfl, Nat.le_of_ble_eq_true rfl⟩) ?_
          refine lv_i2l hx hb dX1_slope_83 rfl ?_
          refine lv_iload hx hb dX1_slope_84 (lv_at hl 5 rfl) ?_
          obtain ⟨r113, e113, hv⟩ := o_bind hv
          refine rcall_l (W.runS (As := [.long (((r110 - r111)).toInt64), .long ((r112).toInt64), .int x4]) (rest := []) hC (c_X1_leastPart l D cA (((r110 - r111)).toInt64) ((r112).toInt64) x4 r113 e113) (va_cwS 3 hts gX1_slope_X1_leastPart rfl rfl rfl (by decide +kernel) ⟨Nat.le_of_ble_eq_true rfl, Nat.le_of_ble_eq_true rfl⟩) ⟨roB_blind, roB_pre hK hZ hws_0⟩ rfl rfl hl.1 rfl (lv_room (Nat.le_of_ble_eq_true rfl)) dX1_slope_86 ⟨Nat.le_of_ble_eq_true rfl, Nat.le_of_ble_eq_true rfl⟩) ?_
          exact fin dX1_slope_89 hv
        · have hv := o_neg hv c109
          refine lv_aload hx hb dX1_slope_43 (lv_at hl 0 rfl) ?_
          refine lv_iload_n hx hb dX1_slope_45 rfl (lv_at hl 3 rfl) ?_
          obtain ⟨r114, e114, hv⟩ := o_bind hv
          refine rcall_l (W.runV (As := [.int x2]) (rest := []) hC (c_X0_ironedUpper l D cA (bx a r108) (bk u r108) x2 r114 e114) (cwV 1 hts gX1_slope_X0_ironedUpper rfl rfl rfl (by decide +kernel) ⟨Nat.le_of_ble_eq_true rfl, Nat.le_of_ble_eq_true rfl⟩) ⟨roB_blind, va_recv (ci := 0) (q0 := 0) hK (wS_bk hP r108) rfl rfl, roB_pre hK hZ (hws_1 (wS_bk hP r108))⟩ rfl rfl hl.1 rfl (lv_room (Nat.le_of_ble_eq_true rfl)) dX1_slope_46 ⟨Nat.le_of_ble_eq_true rfl, Nat.le_of_ble_eq_true rfl⟩) ?_
          refine lv_aload hx hb dX1_slope_49 (lv_at hl 0 rfl) ?_
          refine lv_iload_n hx hb dX1_slope_51 rfl (lv_at hl 3 rfl) ?_
          obtain ⟨r115, e115, hv⟩ := o_bind hv
          refine rcall_l (W.runV (As := [.int x2]) (rest := [.long r114]) hC (c_X0_ironedLower l D cA (bx a r108) (bk u r108) x2 r115 e115) (cwV 1 hts gX1_slope_X0_ironedLower rfl rfl rfl (by decide +kernel) ⟨Nat.le_of_ble_eq_true rfl, Nat.le_of_ble_eq_true rfl⟩) ⟨roB_blind, va_recv (ci := 0) (q0 := 0) hK (wS_bk hP r108) rfl rfl, roB_pre hK hZ (hws_1 (wS_bk hP r108))⟩ rfl rfl hl.1 rfl (lv_room (Nat.le_of_ble_eq_true rfl)) dX1_slope_52 ⟨Nat.le_of_ble_eq_true rfl, Nat.le_of_ble_eq_true rfl⟩) ?_
          refine lv_iload hx hb dX1_slope_55 (lv_at hl 5 rfl) ?_
          obtain ⟨r116, e116, hv⟩ := o_bind hv
          refine rcall_l (W.runS (As := [.long r114, .long r115, .int x4]) (rest := []) hC (c_X1_leastPart l D cA r114 r115 x4 r116 e116) (va_cwS 3 hts gX1_slope_X1_leastPart rfl rfl rfl (by decide +kernel) ⟨Nat.le_of_ble_eq_true rfl, Nat.le_of_ble_eq_true rfl⟩) ⟨roB_blind, roB_pre hK hZ hws_0⟩ rfl rfl hl.1 rfl (lv_room (Nat.le_of_ble_eq_true rfl)) dX1_slope_57 ⟨Nat.le_of_ble_eq_true rfl, Nat.le_of_ble_eq_true rfl⟩) ?_
          exact fin dX1_slope_60 hv
      · have hv := o_pos hv c107
        refine lv_ldc2 (v := -1000000000000000) hx hb hown (hts (.constantLong RX1 90 (-1000000000000000)) (by decide +kernel)) dX1_slope_28 ?_
        exact fin dX1_slope_31 hv
abbrev rm_X1_pick : Room := { frames := 0, cells := 0, slots := 0, locals := 0 }
set_option maxHeartbeats 4000000 in
set_option maxRecDepth 100000 in
theorem c_X1_pick (l : Launch) (D : va_G) (cA : ClassId) (x0 : Int32) (x1 : Int32) (x2 : Int32) (x3 : Int32) (v : Int32) (hv : f_X1_pick x0 x1 x2 x3 = some v)  : Met l yX1_pick wsX1_pick rm_X1_pick (va_Pc [.int x0, .int x1, .int x2, .int x3] (roB D cA [])) (vp_Si (fun r => r = v)) 0 0 (fun _ => False) := by
  refine ro_i (cc := cX1_pick) (maxL := 4) (own := RX1) (by decide) rfl rfl (Nat.le_of_ble_eq_true rfl) ?_
  intro p e s m args below meth c Q ls hC hK hZ hws hl fin
  obtain ⟨hx, hb, hml, hown, hts⟩ := id hC
  have hl : lv_has ls 4 [(0, .int x0), (1, .int x1), (2, .int x2), (3, .int x3)] := hl
  unfold f_X1_pick at hv
  refine lv_iload_n hx hb dX1_pick_0 rfl (lv_at hl 0 rfl) ?_
  refine lv_if_ne (tgt := 8) hx hb dX1_pick_1 (by decide) (fun c101 => ?_) (fun c101 => ?_)
  · have hv := o_neg hv c101
    refine lv_iload_n hx hb dX1_pick_8 rfl (lv_at hl 0 rfl) ?_
    refine lv_iconst (v := 1) hx hb dX1_pick_9 (by decide) ?_
    refine lv_icmp_ne (tgt := 17) hx hb dX1_pick_10 (by decide) (fun c102 => ?_) (fun c102 => ?_)
    · have hv := o_neg hv c102
      refine lv_iload_n hx hb dX1_pick_17 rfl (lv_at hl 3 rfl) ?_
      exact fin dX1_pick_18 hv
    · have hv := o_pos hv c102
      refine lv_iload_n hx hb dX1_pick_13 rfl (lv_at hl 2 rfl) ?_
      refine lv_goto (tgt := 18) hx hb dX1_pick_14 (by decide) ?_
      exact fin dX1_pick_18 hv
  · have hv := o_pos hv c101
    refine lv_iload_n hx hb dX1_pick_4 rfl (lv_at hl 1 rfl) ?_
    refine lv_goto (tgt := 18) hx hb dX1_pick_5 (by decide) ?_
    exact fin dX1_pick_18 hv
abbrev rm_X1_arePlaces : Room := { frames := 1, cells := 0, slots := 0, locals := 23 }
set_option maxHeartbeats 4000000 in
set_option maxRecDepth 100000 in
theorem c_X1_arePlaces (l : Launch) (D : va_G) (cA : ClassId) (a : Nat → Nat) (u : StS) (x1 : Int32) (x2 : Int32) (x3 : Int32) (v : Int32) (hv : f_X1_arePlaces u x1 x2 x3 = some v)  : Met l yX1_arePlaces wsX1_arePlaces rm_X1_arePlaces (va_Pc [.ref (a 0), .int x1, .int x2, .int x3] (roB D cA [wS cA a u])) (vp_Si (fun r => r = v)) 0 0 (fun _ => False) := by
  refine ro_z (cc := cX1_arePlaces) (maxL := 5) (own := RX1) (by decide) rfl rfl (Nat.le_of_ble_eq_true rfl) ?_
  intro p e s m args below meth c Q ls hC hK hZ hws hl fin
  obtain ⟨hx, hb, hml, hown, hts⟩ := id hC
  have hl : lv_has ls 5 [(0, .ref (a 0)), (1, .int x1), (2, .int x2), (3, .int x3)] := hl
  have hP : va_P D vwCl (wS cA a u) s.heap := hws _ (List.mem_of_getElem? (i := 0) rfl)
  have hinX0 : ∀ w ∈ wsX00, w ∈ wsX1_arePlaces := fun w h => List.mem_cons_of_mem _ (List.mem_append_right _ h)
  have hinX1 : ∀ w ∈ wsX10, w ∈ wsX1_arePlaces := fun w h => List.mem_cons_of_mem _ (List.mem_append_left _ (List.mem_append_right _ h))
  have hB3 : ∀ (k32 : Option (Int32)) (hk32 : ∀  (ls : Array Slot), lv_has ls 5 [] → k32 = some v → W p l e rm_X1_arePlaces s m args below meth c s.heap [] 0 0 Q (F0 m 32 ls [])) (k40 : Option (Int32)) (hk40 : ∀  (ls : Array Slot), lv_has ls 5 [] → k40 = some v → W p l e rm_X1_arePlaces s m args below meth c s.heap [] 0 0 Q (F0 m 40 ls [])) (n : Nat) (x1 : Int32) (x2 : Int32) (x3 : Int32) (x4 : Int32) (ls : Array Slot), lv_has ls 5 [(0, .ref (a 0)), (1, .int x1), (2, .int x2), (3, .int x3), (4, .int x4)] → B_X1_arePlaces_3 u k32 k40 n x1 x2 x3 x4 = some v → W p l e rm_X1_arePlaces s m args below meth c s.heap [] 0 0 Q (F0 m 3 ls []) := by
    intro k32 hk32 k40 hk40 n
    induction n with
    | zero => intro x1 x2 x3 x4 ls hl hv; exact absurd hv (by intro h; cases h)
    | succ n hk3 =>
      intro x1 x2 x3 x4 ls hl hv
      rw [B_X1_arePlaces_3] at hv
      refine lv_iload hx hb dX1_arePlaces_3 (lv_at hl 4 rfl) ?_
      refine lv_aload_n hx hb dX1_arePlaces_5 rfl (lv_at hl 0 rfl) ?_
      refine gtX1_buyerCount hx hb hts hinX1 hown hK hP (by decide +kernel) dX1_arePlaces_6 ?_
      refine lv_icmp_ge (tgt := 40) hx hb dX1_arePlaces_9 (by decide) (fun c101 => ?_) (fun c101 => ?_)
      · have hv := o_pos hv c101
        exact hk40  ls (lv_sub hl [] rfl) hv
      · have hv := o_neg hv c101
        refine lv_aload_n hx hb dX1_arePlaces_12 rfl (lv_at hl 0 rfl) ?_
        refine lv_iload hx hb dX1_arePlaces_13 (lv_at hl 4 rfl) ?_
        obtain ⟨r102, e102, hv⟩ := o_bind hv
        refine rcall_r (W.runV (As := [.int x4]) (rest := []) hC (c_X1_bookOf l D cA a u x4 r102 e102) (cwV 1 hts gX1_arePlaces_X1_bookOf rfl rfl rfl (by decide +kernel) ⟨Nat.le_of_ble_eq_true rfl, Nat.le_of_ble_eq_true rfl⟩) ⟨roB_blind, va_recv (ci := 1) (q0 := 0) hK hP rfl rfl, roB_pre hK hZ (hws_1 hP)⟩ rfl rfl hl.1 rfl (lv_room (Nat.le_of_ble_eq_true rfl)) dX1_arePlaces_15 ⟨Nat.le_of_ble_eq_true rfl, Nat.le_of_ble_eq_true rfl⟩) ?_
        refine lv_iload hx hb dX1_arePlaces_18 (lv_at hl 4 rfl) ?_
        refine lv_iload_n hx hb dX1_arePlaces_20 rfl (lv_at hl 1 rfl) ?_
        refine lv_iload_n hx hb dX1_arePlaces_21 rfl (lv_at hl 2 rfl) ?_
        refine lv_iload_n hx hb dX1_arePlaces_22 rfl (lv_at hl 3 rfl) ?_
        obtain ⟨r103, e103, hv⟩ := o_bind hv
        refine rcall_i (W.runS (As := [.int x4, .int x1, .int x2, .int x3]) (rest := [.ref (bx a r102 0)]) hC (c_X1_pick l D cA x4 x1 x2 x3 r103 e103) (va_cwS 4 hts gX1_arePlaces_X1_pick rfl rfl rfl (by decide +kernel) ⟨Nat.le_of_ble_eq_true rfl, Nat.le_of_ble_eq_true rfl⟩) ⟨roB_blind, roB_pre hK hZ hws_0⟩ rfl rfl hl.1 rfl (lv_room (Nat.le_of_ble_eq_true rfl)) dX1_arePlaces_23 ⟨Nat.le_of_ble_eq_true rfl, Nat.le_of_ble_eq_true rfl⟩) ?_
        obtain ⟨r104, e104, hv⟩ := o_bind hv
        refine rcall_i (W.runV (As := [.int r103]) (rest := []) hC (c_X0_has l D cA (bx a r102) (bk u r102) r103 r104 e104) (cwV 1 hts gX1_arePlaces_X0_has rfl rfl rfl (by decide +kernel) ⟨Nat.le_of_ble_eq_true rfl, Nat.le_of_ble_eq_true rfl⟩) ⟨roB_blind, va_recv (ci := 0) (q0 := 0) hK (wS_bk hP r102) rfl rfl, roB_pre hK hZ (hws_1 (wS_bk hP r102))⟩ rfl rfl hl.1 rfl (lv_room (Nat.le_of_ble_eq_true rfl)) dX1_arePlaces_26 ⟨Nat.le_of_ble_eq_true rfl, Nat.le_of_ble_eq_true rfl⟩) ?_
        refine lv_if_ne (tgt := 34) hx hb dX1_arePlaces_29 (by decide) (fun c105 => ?_) (fun c105 => ?_)
        · have hv := o_neg hv c105
          refine lv_iinc (v := (x4 + 1)) (lv' := [(4, .int (x4 + 1)), (0, .ref (a 0)), (1, .int x1), (2, .int x2), (3, .int x3)]) hx hb dX1_arePlaces_34 hl (k := 4) rfl rfl (by decide) rfl (fun ls hl => ?_)
          refine lv_goto (tgt := 3) hx hb dX1_arePlaces_37 (by decide) ?_
          exact hk3 _ _ _ _  ls (lv_sub hl [1, 2, 3, 4, 0] rfl) hv
        · have hv := o_pos hv c105
          exact hk32  ls (lv_sub hl [] rfl) hv
  unfold f_X1_arePlaces at hv
  refine lv_iconst (v := 0) hx hb dX1_arePlaces_0 (by decide) ?_
  refine lv_istore (lv' := [(4, .int (0 : Int32)), (0, .ref (a 0)), (1, .int x1), (2, .int x2), (3, .int x3)]) hx hb dX1_arePlaces_1 hl (by decide) rfl (fun ls hl => ?_)
  refine hB3 _ (fun ls hl hv => ?_) _ (fun ls hl hv => ?_) 1000 _ _ _ _ ls (lv_sub hl [1, 2, 3, 4, 0] rfl) hv
  · skip
    refine lv_iconst (v := 0) hx hb dX1_arePlaces_32 (by decide) ?_
    exact fin dX1_arePlaces_33 rfl hv
  · skip
    refine lv_iconst (v := 1) hx hb dX1_arePlaces_40 (by decide) ?_
    exact fin dX1_arePlaces_41 rfl hv
abbrev rm_X1_winner : Room := { frames := 1, cells := 0, slots := 0, locals := 23 }
set_option maxHeartbeats 4000000 in
set_option maxRecDepth 100000 in
theorem c_X1_winner (l : Launch) (D : va_G) (cA : ClassId) (a : Nat → Nat) (u : StS) (x1 : Int32) (x2 : Int32) (x3 : Int32) (v : Int32) (hv : f_X1_winner u x1 x2 x3 = some v)  : Met l yX1_winner wsX1_winner rm_X1_winner (va_Pc [.ref (a 0), .int x1, .int x2, .int x3] (roB D cA [wS cA a u])) (vp_Si (fun r => r = v)) 0 0 (fun _ => False) := by
  refine ro_i (cc := cX1_winner) (maxL := 15) (own := RX1) (by decide) rfl rfl (Nat.le_of_ble_eq_true rfl) ?_
  intro p e s m args below meth c Q ls hC hK hZ hws hl fin
  obtain ⟨hx, hb, hml, hown, hts⟩ := id hC
  have hl : lv_has ls 15 [(0, .ref (a 0)), (1, .int x1), (2, .int x2), (3, .int x3)] := hl
  have hP : va_P D vwCl (wS cA a u) s.heap := hws _ (List.mem_of_getElem? (i := 0) rfl)
  have hinX0 : ∀ w ∈ wsX00, w ∈ wsX1_winner := fun w h => List.mem_cons_of_mem _ (List.mem_append_right _ h)
  have hinX1 : ∀ w ∈ wsX10, w ∈ wsX1_winner := fun w h => List.mem_cons_of_mem _ (List.mem_append_left _ (List.mem_append_right _ h))
  have hB13 : ∀ (k90 : Int32 → Option (Int32)) (hk90 : ∀ (x4 : Int32) (ls : Array Slot), lv_has ls 15 [(4, .int x4)] → k90 x4 = some v → W p l e rm_X1_winner s m args below meth c s.heap [] 0 0 Q (F0 m 90 ls [])) (n : Nat) (x1 : Int32) (x2 : Int32) (x3 : Int32) (x4 : Int32) (x5 : Int64) (x7 : Int64) (x9 : Int32) (ls : Array Slot), lv_has ls 15 [(0, .ref (a 0)), (1, .int x1), (2, .int x2), (3, .int x3), (4, .int x4), (5, .long x5), (7, .long x7), (9, .int x9)] → B_X1_winner_13 u k90 n x1 x2 x3 x4 x5 x7 x9 = some v → W p l e rm_X1_winner s m args below meth c s.heap [] 0 0 Q (F0 m 13 ls []) := by
    intro k90 hk90 n
    induction n with
    | zero => intro x1 x2 x3 x4 x5 x7 x9 ls hl hv; exact absurd hv (by intro h; cases h)
    | succ n hk13 =>
      intro x1 x2 x3 x4 x5 x7 x9 ls hl hv
      rw [B_X1_winner_13] at hv
      refine lv_iload hx hb dX1_winner_13 (lv_at hl 7 rfl) ?_
      refine lv_aload_n hx hb dX1_winner_15 rfl (lv_at hl 0 rfl) ?_
      refine gtX1_buyerCount hx hb hts hinX1 hown hK hP (by decide +kernel) dX1_winner_16 ?_
      refine lv_icmp_ge (tgt := 90) hx hb dX1_winner_19 (by decide) (fun c101 => ?_) (fun c101 => ?_)
      · have hv := o_pos hv c101
        exact hk90 _  ls (lv_sub hl [4] rfl) hv
      · have hv := o_neg hv c101
        refine lv_iload hx hb dX1_winner_22 (lv_at hl 7 rfl) ?_
        refine lv_iload_n hx hb dX1_winner_24 rfl (lv_at hl 1 rfl) ?_
        refine lv_iload_n hx hb dX1_winner_25 rfl (lv_at hl 2 rfl) ?_
        refine lv_iload_n hx hb dX1_winner_26 rfl (lv_at hl 3 rfl) ?_
        obtain ⟨r102, e102, hv⟩ := o_bind hv
        refine rcall_i (W.runS (As := [.int x9, .int x1, .int x2, .int x3]) (rest := []) hC (c_X1_pick l D cA x9 x1 x2 x3 r102 e102) (va_cwS 4 hts gX1_winner_X1_pick rfl rfl rfl (by decide +kernel) ⟨Nat.le_of_ble_eq_true rfl, Nat.le_of_ble_eq_true rfl⟩) ⟨roB_blind, roB_pre hK hZ hws_0⟩ rfl rfl hl.1 rfl (lv_room (Nat.le_of_ble_eq_true rfl)) dX1_winner_27 ⟨Nat.le_of_ble_eq_true rfl, Nat.le_of_ble_eq_true rfl⟩) ?_
        refine lv_istore (lv' := [(10, .int r102), (0, .ref (a 0)), (1, .int x1), (2, .int x2), (3, .int x3), (4, .int x4), (5, .long x5), (7, .long x7), (9, .int x9)]) hx hb dX1_winner_30 hl (by decide) rfl (fun ls hl => ?_)
        refine lv_aload_n hx hb dX1_winner_32 rfl (lv_at hl 1 rfl) ?_
        refine lv_iload hx hb dX1_winner_33 (lv_at hl 8 rfl) ?_
        obtain ⟨r103, e103, hv⟩ := o_bind hv
        refine rcall_r (W.runV (As := [.int x9]) (rest := []) hC (c_X1_bookOf l D cA a u x9 r103 e103) (cwV 1 hts gX1_winner_X1_bookOf rfl rfl rfl (by decide +kernel) ⟨Nat.le_of_ble_eq_true rfl, Nat.le_of_ble_eq_true rfl⟩) ⟨roB_blind, va_recv (ci := 1) (q0 := 0) hK hP rfl rfl, roB_pre hK hZ (hws_1 hP)⟩ rfl rfl hl.1 rfl (lv_room (Nat.le_of_ble_eq_true rfl)) dX1_winner_35 ⟨Nat.le_of_ble_eq_true rfl, Nat.le_of_ble_eq_true rfl⟩) ?_
        refine lv_iload hx hb dX1_winner_38 (lv_at hl 0 rfl) ?_
        obtain ⟨r104, e104, hv⟩ := o_bind hv
        refine rcall_l (W.runV (As := [.int r102]) (rest := []) hC (c_X0_ironedUpper l D cA (bx a r103) (bk u r103) r102 r104 e104) (cwV 1 hts gX1_winner_X0_ironedUpper rfl rfl rfl (by decide +kernel) ⟨Nat.le_of_ble_eq_true rfl, Nat.le_of_ble_eq_true rfl⟩) ⟨roB_blind, va_recv (ci := 0) (q0 := 0) hK (wS_bk hP r103) rfl rfl, roB_pre hK hZ (hws_1 (wS_bk hP r103))⟩ rfl rfl hl.1 rfl (lv_room (Nat.le_of_ble_eq_true rfl)) dX1_winner_40 ⟨Nat.le_of_ble_eq_true rfl, Nat.le_of_ble_eq_true rfl⟩) ?_
        refine lv_lstore (lv' := [(11, .long r104), (10, .int r102), (0, .ref (a 0)), (1, .int x1), (2, .int x2), (3, .int x3), (4, .int x4), (5, .long x5), (7, .long x7), (9, .int x9)]) hx hb dX1_winner_43 hl (by decide) rfl (fun ls hl => ?_)
        refine lv_aload_n hx hb dX1_winner_45 rfl (lv_at hl 2 rfl) ?_
        refine lv_iload hx hb dX1_winner_46 (lv_at hl 9 rfl) ?_
        obtain ⟨r105, e105, hv⟩ := o_bind hv
        refine rcall_r (W.runV (As := [.int x9]) (rest := []) hC (c_X1_bookOf l D cA a u x9 r105 e105) (cwV 1 hts gX1_winner_X1_bookOf rfl rfl rfl (by decide +kernel) ⟨Nat.le_of_ble_eq_true rfl, Nat.le_of_ble_eq_true rfl⟩) ⟨roB_blind, va_recv (ci := 1) (q0 := 0) hK hP rfl rfl, roB_pre hK hZ (hws_1 hP)⟩ rfl rfl hl.1 rfl (lv_room (Nat.le_of_ble_eq_true rfl)) dX1_winner_48 ⟨Nat.le_of_ble_eq_true rfl, Nat.le_of_ble_eq_true rfl⟩) ?_
        refine lv_iload hx hb dX1_winner_51 (lv_at hl 1 rfl) ?_
        obtain ⟨r106, e106, hv⟩ := o_bind hv
        refine rcall_l (W.runV (As := [.int r102]) (rest := []) hC (c_X0_ironedLower l D cA (bx a r105) (bk u r105) r102 r106 e106) (cwV 1 hts gX1_winner_X0_ironedLower rfl rfl rfl (by decide +kernel) ⟨Nat.le_of_ble_eq_true rfl, Nat.le_of_ble_eq_true rfl⟩) ⟨roB_blind, va_recv (ci := 0) (q0 := 0) hK (wS_bk hP r105) rfl rfl, roB_pre hK hZ (hws_1 (wS_bk hP r105))⟩ rfl rfl hl.1 rfl (lv_room (Nat.le_of_ble_eq_true rfl)) dX1_winner_53 ⟨Nat.le_of_ble_eq_true rfl, Nat.le_of_ble_eq_true rfl⟩) ?_
        refine lv_lstore (lv' := [(13, .long r106), (11, .long r104), (10, .int r102), (0, .ref (a 0)), (1, .int x1), (2, .int x2), (3, .int x3), (4, .int x4), (5, .long x5), (7, .long x7), (9, .int x9)]) hx hb dX1_winner_56 hl (by decide) rfl (fun ls hl => ?_)
        refine lv_lload hx hb dX1_winner_58 (lv_at hl 1 rfl) ?_
        refine lv_lload hx hb dX1_winner_60 (lv_at hl 9 rfl) ?_
        refine lv_lmul hx hb dX1_winner_62 ?_
        refine lv_lload hx hb dX1_winner_63 (lv_at hl 8 rfl) ?_
        refine lv_lload hx hb dX1_winner_65 (lv_at hl 0 rfl) ?_
        refine lv_lmul hx hb dX1_winner_67 ?_
        refine W.lcmp hx hb dX1_winner_68 ?_
        refine lv_if_le (tgt := 84) hx hb dX1_winner_69 (by decide) (fun c107 => ?_) (fun c107 => ?_)
        · have hv := o_pos hv c107
          refine lv_iinc (v := (x9 + 1)) (lv' := [(9, .int (x9 + 1)), (13, .long r106), (11, .long r104), (10, .int r102), (0, .ref (a 0)), (1, .int x1), (2, .int x2), (3, .int x3), (4, .int x4), (5, .long x5), (7, .long x7)]) hx hb dX1_winner_84 hl (k := 10) rfl rfl (by decide) rfl (fun ls hl => ?_)
          refine lv_goto (tgt := 13) hx hb dX1_winner_87 (by decide) ?_
          exact hk13 _ _ _ _ _ _ _  ls (lv_sub hl [4, 5, 6, 7, 8, 9, 10, 0] rfl) hv
        · have hv := o_neg hv c107
          refine lv_iload hx hb dX1_winner_72 (lv_at hl 10 rfl) ?_
          refine lv_istore (lv' := [(4, .int x9), (13, .long r106), (11, .long r104), (10, .int r102), (0, .ref (a 0)), (1, .int x1), (2, .int x2), (3, .int x3), (5, .long x5), (7, .long x7), (9, .int x9)]) hx hb dX1_winner_74 hl (by decide) rfl (fun ls hl => ?_)
          refine lv_lload hx hb dX1_winner_76 (lv_at hl 2 rfl) ?_
          refine lv_lstore (lv' := [(5, .long r104), (4, .int x9), (13, .long r106), (11, .long r104), (10, .int r102), (0, .ref (a 0)), (1, .int x1), (2, .int x2), (3, .int x3), (7, .long x7), (9, .int x9)]) hx hb dX1_winner_78 hl (by decide) rfl (fun ls hl => ?_)
          refine lv_lload hx hb dX1_winner_80 (lv_at hl 2 rfl) ?_
          refine lv_lstore (lv' := [(7, .long r106), (5, .long r104), (4, .int x9), (13, .long r106), (11, .long r104), (10, .int r102), (0, .ref (a 0)), (1, .int x1), (2, .int x2), (3, .int x3), (9, .int x9)]) hx hb dX1_winner_82 hl (by decide) rfl (fun ls hl => ?_)
          refine lv_iinc (v := (x9 + 1)) (lv' := [(9, .int (x9 + 1)), (7, .long r106), (5, .long r104), (4, .int x9), (13, .long r106), (11, .long r104), (10, .int r102), (0, .ref (a 0)), (1, .int x1), (2, .int x2), (3, .int x3)]) hx hb dX1_winner_84 hl (k := 10) rfl rfl (by decide) rfl (fun ls hl => ?_)
          refine lv_goto (tgt := 13) hx hb dX1_winner_87 (by decide) ?_
          exact hk13 _ _ _ _ _ _ _  ls (lv_sub hl [7, 8, 9, 10, 3, 2, 1, 0] rfl) hv
  unfold f_X1_winner at hv
  refine lv_bipush (v := -9) hx hb dX1_winner_0 (by decide) ?_
  refine lv_istore (lv' := [(4, .int (-9 : Int32)), (0, .ref (a 0)), (1, .int x1), (2, .int x2), (3, .int x3)]) hx hb dX1_winner_2 hl (by decide) rfl (fun ls hl => ?_)
  refine lv_lconst (v := 0) hx hb dX1_winner_4 (by decide) ?_
  refine lv_lstore (lv' := [(5, .long (0 : Int64)), (4, .int (-9 : Int32)), (0, .ref (a 0)), (1, .int x1), (2, .int x2), (3, .int x3)]) hx hb dX1_winner_5 hl (by decide) rfl (fun ls hl => ?_)
  refine lv_lconst (v := 1) hx hb dX1_winner_7 (by decide) ?_
  refine lv_lstore (lv' := [(7, .long (1 : Int64)), (5, .long (0 : Int64)), (4, .int (-9 : Int32)), (0, .ref (a 0)), (1, .int x1), (2, .int x2), (3, .int x3)]) hx hb dX1_winner_8 hl (by decide) rfl (fun ls hl => ?_)
  refine lv_iconst (v := 0) hx hb dX1_winner_10 (by decide) ?_
  refine lv_istore (lv' := [(9, .int (0 : Int32)), (7, .long (1 : Int64)), (5, .long (0 : Int64)), (4, .int (-9 : Int32)), (0, .ref (a 0)), (1, .int x1), (2, .int x2), (3, .int x3)]) hx hb dX1_winner_11 hl (by decide) rfl (fun ls hl => ?_)
  refine hB13 _ (fun z208_4 ls hl hv => ?_) 1000 _ _ _ _ _ _ _ ls (lv_sub hl [4, 5, 6, 7, 3, 2, 1, 0] rfl) hv
  · skip
    refine lv_iload hx hb dX1_winner_90 (lv_at hl 0 rfl) ?_
    exact fin dX1_winner_92 hv
abbrev rm_X1_gets : Room := { frames := 2, cells := 0, slots := 0, locals := 57 }
set_option maxHeartbeats 4000000 in
set_option maxRecDepth 100000 in
theorem c_X1_gets (l : Launch) (D : va_G) (cA : ClassId) (a : Nat → Nat) (u : StS) (x1 : Int32) (x2 : Int32) (x3 : Int32) (v : Int32) (hv : f_X1_gets u x1 x2 x3 = some v)  : Met l yX1_gets wsX1_gets rm_X1_gets (va_Pc [.ref (a 0), .int x1, .int x2, .int x3] (roB D cA [wS cA a u])) (vp_Si (fun r => r = v)) 0 0 (fun _ => False) := by
  refine ro_i (cc := cX1_gets) (maxL := 4) (own := RX1) (by decide) rfl rfl (Nat.le_of_ble_eq_true rfl) ?_
  intro p e s m args below meth c Q ls hC hK hZ hws hl fin
  obtain ⟨hx, hb, hml, hown, hts⟩ := id hC
  have hl : lv_has ls 4 [(0, .ref (a 0)), (1, .int x1), (2, .int x2), (3, .int x3)] := hl
  have hP : va_P D vwCl (wS cA a u) s.heap := hws _ (List.mem_of_getElem? (i := 0) rfl)
  have hinX0 : ∀ w ∈ wsX00, w ∈ wsX1_gets := fun w h => List.mem_cons_of_mem _ (List.mem_append_right _ h)
  have hinX1 : ∀ w ∈ wsX10, w ∈ wsX1_gets := fun w h => List.mem_cons_of_mem _ (List.mem_append_left _ (List.mem_append_right _ h))
  unfold f_X1_gets at hv
  refine lv_aload_n hx hb dX1_gets_0 rfl (lv_at hl 0 rfl) ?_
  refine lv_iload_n hx hb dX1_gets_1 rfl (lv_at hl 1 rfl) ?_
  refine lv_iload_n hx hb dX1_gets_2 rfl (lv_at hl 2 rfl) ?_
  refine lv_iload_n hx hb dX1_gets_3 rfl (lv_at hl 3 rfl) ?_
  obtain ⟨r101, e101, hv⟩ := o_bind hv
  refine rcall_i (W.runV (As := [.int x1, .int x2, .int x3]) (rest := []) hC (c_X1_arePlaces l D cA a u x1 x2 x3 r101 e101) (cwV 3 hts gX1_gets_X1_arePlaces rfl rfl rfl (by decide +kernel) ⟨Nat.le_of_ble_eq_true rfl, Nat.le_of_ble_eq_true rfl⟩) ⟨roB_blind, va_recv (ci := 1) (q0 := 0) hK hP rfl rfl, roB_pre hK hZ (hws_1 hP)⟩ rfl rfl hl.1 rfl (lv_room (Nat.le_of_ble_eq_true rfl)) dX1_gets_4 ⟨Nat.le_of_ble_eq_true rfl, Nat.le_of_ble_eq_true rfl⟩) ?_
  refine lv_if_ne (tgt := 12) hx hb dX1_gets_7 (by decide) (fun c102 => ?_) (fun c102 => ?_)
  · have hv := o_neg hv c102
    refine lv_aload_n hx hb dX1_gets_12 rfl (lv_at hl 0 rfl) ?_
    refine lv_iload_n hx hb dX1_gets_13 rfl (lv_at hl 1 rfl) ?_
    refine lv_iload_n hx hb dX1_gets_14 rfl (lv_at hl 2 rfl) ?_
    refine lv_iload_n hx hb dX1_gets_15 rfl (lv_at hl 3 rfl) ?_
    obtain ⟨r103, e103, hv⟩ := o_bind hv
    refine rcall_i (W.runV (As := [.int x1, .int x2, .int x3]) (rest := []) hC (c_X1_winner l D cA a u x1 x2 x3 r103 e103) (cwV 3 hts gX1_gets_X1_winner rfl rfl rfl (by decide +kernel) ⟨Nat.le_of_ble_eq_true rfl, Nat.le_of_ble_eq_true rfl⟩) ⟨roB_blind, va_recv (ci := 1) (q0 := 0) hK hP rfl rfl, roB_pre hK hZ (hws_1 hP)⟩ rfl rfl hl.1 rfl (lv_room (Nat.le_of_ble_eq_true rfl)) dX1_gets_16 ⟨Nat.le_of_ble_eq_true rfl, Nat.le_of_ble_eq_true rfl⟩) ?_
    exact fin dX1_gets_19 hv
  · have hv := o_pos hv c102
    refine lv_iconst (v := -1) hx hb dX1_gets_10 (by decide) ?_
    exact fin dX1_gets_11 hv
abbrev rm_X1_getsWith : Room := { frames := 2, cells := 0, slots := 0, locals := 57 }
set_option maxHeartbeats 4000000 in
set_option maxRecDepth 100000 in
theorem c_X1_getsWith (l : Launch) (D : va_G) (cA : ClassId) (a : Nat → Nat) (u : StS) (x1 : Int32) (x2 : Int32) (x3 : Int32) (x4 : Int32) (x5 : Int32) (v : Int32) (hv : f_X1_getsWith u x1 x2 x3 x4 x5 = some v)  : Met l yX1_getsWith wsX1_getsWith rm_X1_getsWith (va_Pc [.ref (a 0), .int x1, .int x2, .int x3, .int x4, .int x5] (roB D cA [wS cA a u])) (vp_Si (fun r => r = v)) 0 0 (fun _ => False) := by
  refine ro_z (cc := cX1_getsWith) (maxL := 6) (own := RX1) (by decide) rfl rfl (Nat.le_of_ble_eq_true rfl) ?_
  intro p e s m args below meth c Q ls hC hK hZ hws hl fin
  obtain ⟨hx, hb, hml, hown, hts⟩ := id hC
  have hl : lv_has ls 6 [(0, .ref (a 0)), (1, .int x1), (2, .int x2), (3, .int x3), (4, .int x4), (5, .int x5)] := hl
  have hP : va_P D vwCl (wS cA a u) s.heap := hws _ (List.mem_of_getElem? (i := 0) rfl)
  have hinX0 : ∀ w ∈ wsX00, w ∈ wsX1_getsWith := fun w h => List.mem_cons_of_mem _ (List.mem_append_right _ h)
  have hinX1 : ∀ w ∈ wsX10, w ∈ wsX1_getsWith := fun w h => List.mem_cons_of_mem _ (List.mem_append_left _ (List.mem_append_right _ h))
  have hB34 : ∀ (x5 : Int32) (xs1 : Int32) (xs2 : Int32) (xs3 : Int32) (ls : Array Slot), lv_has ls 6 [(5, .int x5)] → B_X1_getsWith_34 u x5 xs1 xs2 xs3 = some v → W p l e rm_X1_getsWith s m args below meth c s.heap [] 0 0 Q (F0 m 34 ls [.int xs3, .int xs2, .int xs1, .ref (a 0)]) := by
    intro x5 xs1 xs2 xs3 ls hl hv
    unfold B_X1_getsWith_34 at hv
    obtain ⟨r101, e101, hv⟩ := o_bind hv
    refine rcall_i (W.runV (As := [.int xs1, .int xs2, .int xs3]) (rest := []) hC (c_X1_winner l D cA a u xs1 xs2 xs3 r101 e101) (cwV 3 hts gX1_getsWith_X1_winner rfl rfl rfl (by decide +kernel) ⟨Nat.le_of_ble_eq_true rfl, Nat.le_of_ble_eq_true rfl⟩) ⟨roB_blind, va_recv (ci := 1) (q0 := 0) hK hP rfl rfl, roB_pre hK hZ (hws_1 hP)⟩ rfl rfl hl.1 rfl (lv_room (Nat.le_of_ble_eq_true rfl)) dX1_getsWith_34 ⟨Nat.le_of_ble_eq_true rfl, Nat.le_of_ble_eq_true rfl⟩) ?_
    refine lv_iload hx hb dX1_getsWith_37 (lv_at hl 0 rfl) ?_
    refine lv_icmp_ne (tgt := 46) hx hb dX1_getsWith_39 (by decide) (fun c102 => ?_) (fun c102 => ?_)
    · have hv := o_neg hv c102
      refine lv_iconst (v := 0) hx hb dX1_getsWith_46 (by decide) ?_
      exact fin dX1_getsWith_47 rfl hv
    · have hv := o_pos hv c102
      refine lv_iconst (v := 1) hx hb dX1_getsWith_42 (by decide) ?_
      refine lv_goto (tgt := 47) hx hb dX1_getsWith_43 (by decide) ?_
      exact fin dX1_getsWith_47 rfl hv
  have hB22 : ∀ (x1 : Int32) (x4 : Int32) (x5 : Int32) (xs1 : Int32) (xs2 : Int32) (ls : Array Slot), lv_has ls 6 [(1, .int x1), (4, .int x4), (5, .int x5)] → B_X1_getsWith_22 u x1 x4 x5 xs1 xs2 = some v → W p l e rm_X1_getsWith s m args below meth c s.heap [] 0 0 Q (F0 m 22 ls [.int xs2, .int xs1, .ref (a 0)]) := by
    intro x1 x4 x5 xs1 xs2 ls hl hv
    unfold B_X1_getsWith_22 at hv
    refine lv_iload hx hb dX1_getsWith_22 (lv_at hl 2 rfl) ?_
    refine lv_iconst (v := 2) hx hb dX1_getsWith_24 (by decide) ?_
    refine lv_icmp_ne (tgt := 32) hx hb dX1_getsWith_25 (by decide) (fun c203 => ?_) (fun c203 => ?_)
    · have hv := o_neg hv c203
      refine lv_iload hx hb dX1_getsWith_32 (lv_at hl 1 rfl) ?_
      exact hB34 _ _ _ _  ls (lv_sub hl [2] rfl) hv
    · have hv := o_pos hv c203
      refine lv_iload_n hx hb dX1_getsWith_28 rfl (lv_at hl 0 rfl) ?_
      refine lv_goto (tgt := 34) hx hb dX1_getsWith_29 (by decide) ?_
      exact hB34 _ _ _ _  ls (lv_sub hl [2] rfl) hv
  have hB11 : ∀ (x1 : Int32) (x3 : Int32) (x4 : Int32) (x5 : Int32) (xs1 : Int32) (ls : Array Slot), lv_has ls 6 [(1, .int x1), (3, .int x3), (4, .int x4), (5, .int x5)] → B_X1_getsWith_11 u x1 x3 x4 x5 xs1 = some v → W p l e rm_X1_getsWith s m args below meth c s.heap [] 0 0 Q (F0 m 11 ls [.int xs1, .ref (a 0)]) := by
    intro x1 x3 x4 x5 xs1 ls hl hv
    unfold B_X1_getsWith_11 at hv
    refine lv_iload hx hb dX1_getsWith_11 (lv_at hl 3 rfl) ?_
    refine lv_iconst (v := 1) hx hb dX1_getsWith_13 (by decide) ?_
    refine lv_icmp_ne (tgt := 21) hx hb dX1_getsWith_14 (by decide) (fun c304 => ?_) (fun c304 => ?_)
    · have hv := o_neg hv c304
      refine lv_iload_n hx hb dX1_getsWith_21 rfl (lv_at hl 1 rfl) ?_
      exact hB22 _ _ _ _ _  ls (lv_sub hl [0, 2, 3] rfl) hv
    · have hv := o_pos hv c304
      refine lv_iload_n hx hb dX1_getsWith_17 rfl (lv_at hl 0 rfl) ?_
      refine lv_goto (tgt := 22) hx hb dX1_getsWith_18 (by decide) ?_
      exact hB22 _ _ _ _ _  ls (lv_sub hl [0, 2, 3] rfl) hv
  unfold f_X1_getsWith at hv
  refine lv_aload_n hx hb dX1_getsWith_0 rfl (lv_at hl 0 rfl) ?_
  refine lv_iload hx hb dX1_getsWith_1 (lv_at hl 5 rfl) ?_
  refine lv_if_ne (tgt := 10) hx hb dX1_getsWith_3 (by decide) (fun c405 => ?_) (fun c405 => ?_)
  · have hv := o_neg hv c405
    refine lv_iload_n hx hb dX1_getsWith_10 rfl (lv_at hl 2 rfl) ?_
    exact hB11 _ _ _ _ _  ls (lv_sub hl [1, 3, 4, 5] rfl) hv
  · have hv := o_pos hv c405
    refine lv_iload_n hx hb dX1_getsWith_6 rfl (lv_at hl 1 rfl) ?_
    refine lv_goto (tgt := 11) hx hb dX1_getsWith_7 (by decide) ?_
    exact hB11 _ _ _ _ _  ls (lv_sub hl [1, 3, 4, 5] rfl) hv
