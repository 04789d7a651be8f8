abbrev rm_X2_gets : Room := { frames := 4, cells := 0, slots := 0, locals := 104 }
set_option maxHeartbeats 4000000 in
set_option maxRecDepth 100000 in
theorem c_X2_gets (l : Launch) (D : va_G) (cA : ClassId) (a : Nat → Nat) (u : StM) (x1 : Int32) (x2 : Int32) (x3 : Int32) (v : Int32 × StM) (hv : f_X2_gets u x1 x2 x3 = some v) (hd : djM a) : Met l yX2_gets wsX2_gets rm_X2_gets (va_Pc [.ref (a 0), .int x1, .int x2, .int x3] (roB D cA [wM cA a u])) (va_Qi (fun (r : Int32) (u1 : StM) => (r, u1) = v) (fun (u1 : StM) t => va_P D vwCl (wM cA a u1) t.heap) (inM a)) 0 0 (inM a) := by
  refine wr_i (wf := fun u => wM cA a u) (cc := cX2_gets) (maxL := 4) (own := RX2) (by decide) rfl rfl (Nat.le_of_ble_eq_true rfl) ?_
  intro p e s m args below meth c Q ls hC hK hZ hws hl fin
  obtain ⟨hx, hb, hml, hown, hts⟩ := id hC
  have hl : lv_has ls 4 [(0, .ref (a 0)), (1, .int x1), (2, .int x2), (3, .int x3)] := hl
  have hP : va_P D vwCl (wM cA a u) s.heap := hws _ (List.mem_of_getElem? (i := 0) rfl)
  have hinX2 : ∀ w ∈ wsX20, w ∈ wsX2_gets := fun w h => List.mem_cons_of_mem _ (List.mem_append_right _ h)
  have hS : va_S (inM a) s.heap s.heap [] := va_S.rf
  unfold f_X2_gets at hv
  skip
  refine lv_aload_n hx hb dX2_gets_0 rfl (lv_at hl 0 rfl) ?_
  refine lv_iconst (v := 0) hx hb dX2_gets_1 (by decide) ?_
  refine ptX2_thrown hx hb hts hinX2 hown hK hP (dM hd _) hS (by decide +kernel) dX2_gets_2 (fun H locs hP hS => ?_)
  refine lv_aload_n hx hb dX2_gets_5 rfl (lv_at hl 0 rfl) ?_
  refine lv_iload_n hx hb dX2_gets_6 rfl (lv_at hl 1 rfl) ?_
  refine lv_iload_n hx hb dX2_gets_7 rfl (lv_at hl 2 rfl) ?_
  refine lv_iload_n hx hb dX2_gets_8 rfl (lv_at hl 3 rfl) ?_
  obtain ⟨⟨r101, w101⟩, e101, hv⟩ := o_bind hv
  refine wcall_i (va_runV (As := [.int x1, .int x2, .int x3]) (rest := []) hC (c_X2_isPlaces l D cA a (m_set_thrown u (0 : Int32)) x1 x2 x3 (r101, w101) e101 hd) (cwV 3 hts gX2_gets_X2_isPlaces rfl rfl rfl (by decide +kernel) ⟨Nat.le_of_ble_eq_true rfl, Nat.le_of_ble_eq_true rfl⟩) ⟨roB_blind, va_recv (ci := 2) (q0 := 0) hK hP rfl rfl, roB_pre hK hZ (hws_1 hP)⟩ rfl rfl hl.1 rfl (lv_room (Nat.le_of_ble_eq_true rfl)) dX2_gets_9 ⟨Nat.le_of_ble_eq_true rfl, Nat.le_of_ble_eq_true rfl⟩) hS (fun _ h => h) (fun H locs hP1 hk1 hS => ?_)
  have hP := hP1
  refine lv_if_eq (tgt := 22) hx hb dX2_gets_12 (by decide) (fun c102 => ?_) (fun c102 => ?_)
  · have hv := o_pos hv c102
    refine lv_iconst (v := -1) hx hb dX2_gets_22 (by decide) ?_
    exact fin hP hS dX2_gets_23 hv
  · have hv := o_neg hv c102
    refine lv_aload_n hx hb dX2_gets_15 rfl (lv_at hl 0 rfl) ?_
    obtain ⟨⟨r103, w103⟩, e103, hv⟩ := o_bind hv
    refine wcall_i (va_runV (As := []) (rest := []) hC (c_X2_getter l D cA a w101 (r103, w103) e103 hd) (cwV 0 hts gX2_gets_X2_getter rfl rfl rfl (by decide +kernel) ⟨Nat.le_of_ble_eq_true rfl, Nat.le_of_ble_eq_true rfl⟩) ⟨roB_blind, va_recv (ci := 2) (q0 := 0) hK hP rfl rfl, roB_pre hK hZ (hws_1 hP)⟩ rfl rfl hl.1 rfl (lv_room (Nat.le_of_ble_eq_true rfl)) dX2_gets_16 ⟨Nat.le_of_ble_eq_true rfl, Nat.le_of_ble_eq_true rfl⟩) hS (fun _ h => h) (fun H locs hP1 hk1 hS => ?_)
    have hP := hP1
    refine lv_goto (tgt := 23) hx hb dX2_gets_19 (by decide) ?_
    exact fin hP hS dX2_gets_23 hv
abbrev rm_X2_pays : Room := { frames := 5, cells := 0, slots := 0, locals := 128 }
set_option maxHeartbeats 4000000 in
set_option maxRecDepth 100000 in
theorem c_X2_pays (l : Launch) (D : va_G) (cA : ClassId) (a : Nat → Nat) (u : StM) (x1 : Int32) (x2 : Int32) (x3 : Int32) (x4 : Int32) (v : Int32 × StM) (hv : f_X2_pays u x1 x2 x3 x4 = some v) (hd : djM a) : Met l yX2_pays wsX2_pays rm_X2_pays (va_Pc [.ref (a 0), .int x1, .int x2, .int x3, .int x4] (roB D cA [wM cA a u])) (va_Qi (fun (r : Int32) (u1 : StM) => (r, u1) = v) (fun (u1 : StM) t => va_P D vwCl (wM cA a u1) t.heap) (inM a)) 0 0 (inM a) := by
  refine wr_i (wf := fun u => wM cA a u) (cc := cX2_pays) (maxL := 5) (own := RX2) (by decide) rfl rfl (Nat.le_of_ble_eq_true rfl) ?_
  intro p e s m args below meth c Q ls hC hK hZ hws hl fin
  obtain ⟨hx, hb, hml, hown, hts⟩ := id hC
  have hl : lv_has ls 5 [(0, .ref (a 0)), (1, .int x1), (2, .int x2), (3, .int x3), (4, .int x4)] := hl
  have hP : va_P D vwCl (wM cA a u) s.heap := hws _ (List.mem_of_getElem? (i := 0) rfl)
  have hinX2 : ∀ w ∈ wsX20, w ∈ wsX2_pays := fun w h => List.mem_cons_of_mem _ (List.mem_append_right _ h)
  have hS : va_S (inM a) s.heap s.heap [] := va_S.rf
  unfold f_X2_pays at hv
  skip
  refine lv_aload_n hx hb dX2_pays_0 rfl (lv_at hl 0 rfl) ?_
  refine lv_iconst (v := 0) hx hb dX2_pays_1 (by decide) ?_
  refine ptX2_thrown hx hb hts hinX2 hown hK hP (dM hd _) hS (by decide +kernel) dX2_pays_2 (fun H locs hP hS => ?_)
  refine lv_aload_n hx hb dX2_pays_5 rfl (lv_at hl 0 rfl) ?_
  refine lv_iload_n hx hb dX2_pays_6 rfl (lv_at hl 1 rfl) ?_
  refine lv_iload_n hx hb dX2_pays_7 rfl (lv_at hl 2 rfl) ?_
  refine lv_iload_n hx hb dX2_pays_8 rfl (lv_at hl 3 rfl) ?_
  obtain ⟨⟨r101, w101⟩, e101, hv⟩ := o_bind hv
  refine wcall_i (va_runV (As := [.int x1, .int x2, .int x3]) (rest := []) hC (c_X2_isPlaces l D cA a (m_set_thrown u (0 : Int32)) x1 x2 x3 (r101, w101) e101 hd) (cwV 3 hts gX2_pays_X2_isPlaces rfl rfl rfl (by decide +kernel) ⟨Nat.le_of_ble_eq_true rfl, Nat.le_of_ble_eq_true rfl⟩) ⟨roB_blind, va_recv (ci := 2) (q0 := 0) hK hP rfl rfl, roB_pre hK hZ (hws_1 hP)⟩ rfl rfl hl.1 rfl (lv_room (Nat.le_of_ble_eq_true rfl)) dX2_pays_9 ⟨Nat.le_of_ble_eq_true rfl, Nat.le_of_ble_eq_true rfl⟩) hS (fun _ h => h) (fun H locs hP1 hk1 hS => ?_)
  have hP := hP1
  refine lv_if_eq (tgt := 33) hx hb dX2_pays_12 (by decide) (fun c102 => ?_) (fun c102 => ?_)
  · have hv := o_pos hv c102
    refine lv_iconst (v := -1) hx hb dX2_pays_33 (by decide) ?_
    exact fin hP hS dX2_pays_34 hv
  · have hv := o_neg hv c102
    refine lv_aload_n hx hb dX2_pays_15 rfl (lv_at hl 0 rfl) ?_
    refine lv_iload hx hb dX2_pays_16 (lv_at hl 4 rfl) ?_
    obtain ⟨r103, e103, hv⟩ := o_bind hv
    refine rcall_i (W.runV (As := [.int x4]) (rest := []) hC (c_X2_isBuyer l D cA a w101 x4 r103 e103) (cwV 1 hts gX2_pays_X2_isBuyer rfl rfl rfl (by decide +kernel) ⟨Nat.le_of_ble_eq_true rfl, Nat.le_of_ble_eq_true rfl⟩) ⟨roB_blind, va_recv (ci := 2) (q0 := 0) hK hP rfl rfl, roB_pre hK hZ (hws_1 hP)⟩ rfl rfl hl.1 rfl (lv_room (Nat.le_of_ble_eq_true rfl)) dX2_pays_18 ⟨Nat.le_of_ble_eq_true rfl, Nat.le_of_ble_eq_true rfl⟩) ?_
    refine lv_if_eq (tgt := 33) hx hb dX2_pays_21 (by decide) (fun c104 => ?_) (fun c104 => ?_)
    · have hv := o_pos hv c104
      refine lv_iconst (v := -1) hx hb dX2_pays_33 (by decide) ?_
      exact fin hP hS dX2_pays_34 hv
    · have hv := o_neg hv c104
      refine lv_aload_n hx hb dX2_pays_24 rfl (lv_at hl 0 rfl) ?_
      refine lv_iload hx hb dX2_pays_25 (lv_at hl 4 rfl) ?_
      obtain ⟨⟨r105, w105⟩, e105, hv⟩ := o_bind hv
      refine wcall_i (va_runV (As := [.int x4]) (rest := []) hC (c_X2_paid l D cA a w101 x4 (r105, w105) e105 hd) (cwV 1 hts gX2_pays_X2_paid rfl rfl rfl (by decide +kernel) ⟨Nat.le_of_ble_eq_true rfl, Nat.le_of_ble_eq_true rfl⟩) ⟨roB_blind, va_recv (ci := 2) (q0 := 0) hK hP rfl rfl, roB_pre hK hZ (hws_1 hP)⟩ rfl rfl hl.1 rfl (lv_room (Nat.le_of_ble_eq_true rfl)) dX2_pays_27 ⟨Nat.le_of_ble_eq_true rfl, Nat.le_of_ble_eq_true rfl⟩) hS (fun _ h => h) (fun H locs hP1 hk1 hS => ?_)
      have hP := hP1
      refine lv_goto (tgt := 34) hx hb dX2_pays_30 (by decide) ?_
      exact fin hP hS dX2_pays_34 hv
abbrev rm_X2_gain : Room := { frames := 5, cells := 0, slots := 0, locals := 128 }
set_option maxHeartbeats 4000000 in
set_option maxRecDepth 100000 in
theorem c_X2_gain (l : Launch) (D : va_G) (cA : ClassId) (a : Nat → Nat) (u : StM) (x1 : Int32) (x2 : Int32) (x3 : Int32) (x4 : Int32) (x5 : Int32) (v : Int64 × StM) (hv : f_X2_gain u x1 x2 x3 x4 x5 = some v) (hd : djM a) : Met l yX2_gain wsX2_gain rm_X2_gain (va_Pc [.ref (a 0), .int x1, .int x2, .int x3, .int x4, .int x5] (roB D cA [wM cA a u])) (va_Ql (fun (r : Int64) (u1 : StM) => (r, u1) = v) (fun (u1 : StM) t => va_P D vwCl (wM cA a u1) t.heap) (inM a)) 0 0 (inM a) := by
  refine wr_l (wf := fun u => wM cA a u) (cc := cX2_gain) (maxL := 7) (own := RX2) (by decide) rfl rfl (Nat.le_of_ble_eq_true rfl) ?_
  intro p e s m args below meth c Q ls hC hK hZ hws hl fin
  obtain ⟨hx, hb, hml, hown, hts⟩ := id hC
  have hl : lv_has ls 7 [(0, .ref (a 0)), (1, .int x1), (2, .int x2), (3, .int x3), (4, .int x4), (5, .int x5)] := hl
  have hP : va_P D vwCl (wM cA a u) s.heap := hws _ (List.mem_of_getElem? (i := 0) rfl)
  have hinX2 : ∀ w ∈ wsX20, w ∈ wsX2_gain := fun w h => List.mem_cons_of_mem _ (List.mem_append_right _ h)
  have hS : va_S (inM a) s.heap s.heap [] := va_S.rf
  unfold f_X2_gain at hv
  skip
  refine lv_aload_n hx hb dX2_gain_0 rfl (lv_at hl 0 rfl) ?_
  refine lv_iconst (v := 0) hx hb dX2_gain_1 (by decide) ?_
  refine ptX2_thrown hx hb hts hinX2 hown hK hP (dM hd _) hS (by decide +kernel) dX2_gain_2 (fun H locs hP hS => ?_)
  refine lv_aload_n hx hb dX2_gain_5 rfl (lv_at hl 0 rfl) ?_
  refine lv_iload_n hx hb dX2_gain_6 rfl (lv_at hl 1 rfl) ?_
  refine lv_iload_n hx hb dX2_gain_7 rfl (lv_at hl 2 rfl) ?_
  refine lv_iload_n hx hb dX2_gain_8 rfl (lv_at hl 3 rfl) ?_
  obtain ⟨⟨r101, w101⟩, e101, hv⟩ := o_bind hv
  refine wcall_i (va_runV (As := [.int x1, .int x2, .int x3]) (rest := []) hC (c_X2_isPlaces l D cA a (m_set_thrown u (0 : Int32)) x1 x2 x3 (r101, w101) e101 hd) (cwV 3 hts gX2_gain_X2_isPlaces rfl rfl rfl (by decide +kernel) ⟨Nat.le_of_ble_eq_true rfl, Nat.le_of_ble_eq_true rfl⟩) ⟨roB_blind, va_recv (ci := 2) (q0 := 0) hK hP rfl rfl, roB_pre hK hZ (hws_1 hP)⟩ rfl rfl hl.1 rfl (lv_room (Nat.le_of_ble_eq_true rfl)) dX2_gain_9 ⟨Nat.le_of_ble_eq_true rfl, Nat.le_of_ble_eq_true rfl⟩) hS (fun _ h => h) (fun H locs hP1 hk1 hS => ?_)
  have hP := hP1
  refine lv_if_eq (tgt := 35) hx hb dX2_gain_12 (by decide) (fun c102 => ?_) (fun c102 => ?_)
  · have hv := o_pos hv c102
    refine lv_ldc2 (v := -1000000000000000) hx hb hown (hts (.constantLong RX2 75 (-1000000000000000)) (by decide +kernel)) dX2_gain_35 ?_
    exact fin hP hS dX2_gain_38 hv
  · have hv := o_neg hv c102
    refine lv_aload_n hx hb dX2_gain_15 rfl (lv_at hl 0 rfl) ?_
    refine lv_iload hx hb dX2_gain_16 (lv_at hl 4 rfl) ?_
    obtain ⟨r103, e103, hv⟩ := o_bind hv
    refine rcall_i (W.runV (As := [.int x4]) (rest := []) hC (c_X2_isBuyer l D cA a w101 x4 r103 e103) (cwV 1 hts gX2_gain_X2_isBuyer rfl rfl rfl (by decide +kernel) ⟨Nat.le_of_ble_eq_true rfl, Nat.le_of_ble_eq_true rfl⟩) ⟨roB_blind, va_recv (ci := 2) (q0 := 0) hK hP rfl rfl, roB_pre hK hZ (hws_1 hP)⟩ rfl rfl hl.1 rfl (lv_room (Nat.le_of_ble_eq_true rfl)) dX2_gain_18 ⟨Nat.le_of_ble_eq_true rfl, Nat.le_of_ble_eq_true rfl⟩) ?_
    refine lv_if_eq (tgt := 35) hx hb dX2_gain_21 (by decide) (fun c104 => ?_) (fun c104 => ?_)
    · have hv := o_pos hv c104
      refine lv_ldc2 (v := -1000000000000000) hx hb hown (hts (.constantLong RX2 75 (-1000000000000000)) (by decide +kernel)) dX2_gain_35 ?_
      exact fin hP hS dX2_gain_38 hv
    · have hv := o_neg hv c104
      refine lv_aload_n hx hb dX2_gain_24 rfl (lv_at hl 0 rfl) ?_
      refine lv_iload hx hb dX2_gain_25 (lv_at hl 4 rfl) ?_
      refine lv_iload hx hb dX2_gain_27 (lv_at hl 5 rfl) ?_
      obtain ⟨r105, e105, hv⟩ := o_bind hv
      refine rcall_i (W.runV (As := [.int x4, .int x5]) (rest := []) hC (c_X2_isPlace l D cA a w101 x4 x5 r105 e105) (cwV 2 hts gX2_gain_X2_isPlace rfl rfl rfl (by decide +kernel) ⟨Nat.le_of_ble_eq_true rfl, Nat.le_of_ble_eq_true rfl⟩) ⟨roB_blind, va_recv (ci := 2) (q0 := 0) hK hP rfl rfl, roB_pre hK hZ (hws_1 hP)⟩ rfl rfl hl.1 rfl (lv_room (Nat.le_of_ble_eq_true rfl)) dX2_gain_29 ⟨Nat.le_of_ble_eq_true rfl, Nat.le_of_ble_eq_true rfl⟩) ?_
      refine lv_if_ne (tgt := 39) hx hb dX2_gain_32 (by decide) (fun c106 => ?_) (fun c106 => ?_)
      · have hv := o_neg hv c106
        refine lv_aload_n hx hb dX2_gain_39 rfl (lv_at hl 0 rfl) ?_
        refine gtX2_worth hx hb hts hinX2 hown hK hP (by decide +kernel) dX2_gain_40 ?_
        refine lv_iconst (v := 5) hx hb dX2_gain_43 (by decide) ?_
        refine lv_iload hx hb dX2_gain_44 (lv_at hl 4 rfl) ?_
        refine lv_imul hx hb dX2_gain_46 ?_
        refine lv_aload_n hx hb dX2_gain_47 rfl (lv_at hl 0 rfl) ?_
        refine gtX2_place hx hb hts hinX2 hown hK hP (by decide +kernel) dX2_gain_48 ?_
        refine lv_iload hx hb dX2_gain_51 (lv_at hl 4 rfl) ?_
        obtain ⟨g107, hv⟩ := o_grd hv
        refine alX2_place hx hb hK hP g107 dX2_gain_53 ?_
        refine lv_iadd hx hb dX2_gain_54 ?_
        obtain ⟨g108, hv⟩ := o_grd hv
        refine alX2_worth hx hb hK hP g108 dX2_gain_55 ?_
        refine lv_istore (lv' := [(6, .int (m_worth w101 (((5 : Int32) * x4) + (m_place w101 x4.toNatClampNeg)).toNatClampNeg)), (0, .ref (a 0)), (1, .int x1), (2, .int x2), (3, .int x3), (4, .int x4), (5, .int x5)]) hx hb dX2_gain_56 hl (by decide) rfl (fun ls hl => ?_)
        refine lv_aload_n hx hb dX2_gain_58 rfl (lv_at hl 1 rfl) ?_
        refine gtX2_place hx hb hts hinX2 hown hK hP (by decide +kernel) dX2_gain_59 ?_
        refine lv_iload hx hb dX2_gain_62 (lv_at hl 5 rfl) ?_
        refine lv_iload hx hb dX2_gain_64 (lv_at hl 6 rfl) ?_
        obtain ⟨g109, hv⟩ := o_grd hv
        refine asX2_place hx hb hK hP (dM hd _) hS g109 dX2_gain_66 (fun H locs hP hS => ?_)
        refine lv_aload_n hx hb dX2_gain_67 rfl (lv_at hl 1 rfl) ?_
        obtain ⟨⟨r110, w110⟩, e110, hv⟩ := o_bind hv
        refine wcall_i (va_runV (As := []) (rest := []) hC (c_X2_getter l D cA a (m_set_place w101 (upd (m_place w101) x4.toNatClampNeg x5)) (r110, w110) e110 hd) (cwV 0 hts gX2_gain_X2_getter rfl rfl rfl (by decide +kernel) ⟨Nat.le_of_ble_eq_true rfl, Nat.le_of_ble_eq_true rfl⟩) ⟨roB_blind, va_recv (ci := 2) (q0 := 0) hK hP rfl rfl, roB_pre hK hZ (hws_1 hP)⟩ rfl rfl hl.1 rfl (lv_room (Nat.le_of_ble_eq_true rfl)) dX2_gain_68 ⟨Nat.le_of_ble_eq_true rfl, Nat.le_of_ble_eq_true rfl⟩) hS (fun _ h => h) (fun H locs hP1 hk1 hS => ?_)
        have hP := hP1
        refine lv_iload hx hb dX2_gain_71 (lv_at hl 5 rfl) ?_
        refine lv_icmp_ne (tgt := 89) hx hb dX2_gain_73 (by decide) (fun c111 => ?_) (fun c111 => ?_)
        · have hv := o_neg hv c111
          refine lv_lconst (v := 0) hx hb dX2_gain_89 (by decide) ?_
          exact fin hP hS dX2_gain_90 hv
        · have hv := o_pos hv c111
          refine lv_iload hx hb dX2_gain_76 (lv_at hl 0 rfl) ?_
          refine lv_aload_n hx hb dX2_gain_78 rfl (lv_at hl 1 rfl) ?_
          refine lv_iload hx hb dX2_gain_79 (lv_at hl 5 rfl) ?_
          obtain ⟨⟨r112, w112⟩, e112, hv⟩ := o_bind hv
          refine wcall_i (va_runV (As := [.int x4]) (rest := [.int (m_worth w101 (((5 : Int32) * x4) + (m_place w101 x4.toNatClampNeg)).toNatClampNeg)]) hC (c_X2_paid l D cA a w110 x4 (r112, w112) e112 hd) (cwV 1 hts gX2_gain_X2_paid rfl rfl rfl (by decide +kernel) ⟨Nat.le_of_ble_eq_true rfl, Nat.le_of_ble_eq_true rfl⟩) ⟨roB_blind, va_recv (ci := 2) (q0 := 0) hK hP rfl rfl, roB_pre hK hZ (hws_1 hP)⟩ rfl rfl hl.1 rfl (lv_room (Nat.le_of_ble_eq_true rfl)) dX2_gain_81 ⟨Nat.le_of_ble_eq_true rfl, Nat.le_of_ble_eq_true rfl⟩) hS (fun _ h => h) (fun H locs hP1 hk1 hS => ?_)
          have hP := hP1
          refine lv_isub hx hb dX2_gain_84 ?_
          refine lv_i2l hx hb dX2_gain_85 rfl ?_
          refine lv_goto (tgt := 90) hx hb dX2_gain_86 (by decide) ?_
          exact fin hP hS dX2_gain_90 hv
      · have hv := o_pos hv c106
        refine lv_ldc2 (v := -1000000000000000) hx hb hown (hts (.constantLong RX2 75 (-1000000000000000)) (by decide +kernel)) dX2_gain_35 ?_
        exact fin hP hS dX2_gain_38 hv
abbrev rm_X2_all : Room := { frames := 1, cells := 0, slots := 0, locals := 24 }
set_option maxHeartbeats 4000000 in
set_option maxRecDepth 100000 in
theorem c_X2_all (l : Launch) (D : va_G) (cA : ClassId) (a : Nat → Nat) (u : StM) (v : Int32) (hv : f_X2_all u = some v)  : Met l yX2_all wsX2_all rm_X2_all (va_Pc [.ref (a 0)] (roB D cA [wM cA a u])) (vp_Si (fun r => r = v)) 0 0 (fun _ => False) := by
  refine ro_i (cc := cX2_all) (maxL := 3) (own := RX2) (by decide) rfl rfl (Nat.le_of_ble_eq_true rfl) ?_
  intro p e s m args below meth c Q ls hC hK hZ hws hl fin
  obtain ⟨hx, hb, hml, hown, hts⟩ := id hC
  have hl : lv_has ls 3 [(0, .ref (a 0))] := hl
  have hP : va_P D vwCl (wM cA a u) s.heap := hws _ (List.mem_of_getElem? (i := 0) rfl)
  have hinX2 : ∀ w ∈ wsX20, w ∈ wsX2_all := fun w h => List.mem_cons_of_mem _ (List.mem_append_right _ h)
  have hB4 : ∀ (k27 : Int32 → Option (Int32)) (hk27 : ∀ (x1 : Int32) (ls : Array Slot), lv_has ls 3 [(1, .int x1)] → k27 x1 = some v → W p l e rm_X2_all s m args below meth c s.heap [] 0 0 Q (F0 m 27 ls [])) (n : Nat) (x1 : Int32) (x2 : Int32) (ls : Array Slot), lv_has ls 3 [(0, .ref (a 0)), (1, .int x1), (2, .int x2)] → B_X2_all_4 u k27 n x1 x2 = some v → W p l e rm_X2_all s m args below meth c s.heap [] 0 0 Q (F0 m 4 ls []) := by
    intro k27 hk27 n
    induction n with
    | zero => intro x1 x2 ls hl hv; exact absurd hv (by intro h; cases h)
    | succ n hk4 =>
      intro x1 x2 ls hl hv
      rw [B_X2_all_4] at hv
      refine lv_iload_n hx hb dX2_all_4 rfl (lv_at hl 2 rfl) ?_
      refine lv_aload_n hx hb dX2_all_5 rfl (lv_at hl 0 rfl) ?_
      refine gtX2_n hx hb hts hinX2 hown hK hP (by decide +kernel) dX2_all_6 ?_
      refine lv_icmp_ge (tgt := 27) hx hb dX2_all_9 (by decide) (fun c101 => ?_) (fun c101 => ?_)
      · have hv := o_pos hv c101
        exact hk27 _  ls (lv_sub hl [1] rfl) hv
      · have hv := o_neg hv c101
        refine lv_iload_n hx hb dX2_all_12 rfl (lv_at hl 1 rfl) ?_
        refine lv_aload_n hx hb dX2_all_13 rfl (lv_at hl 0 rfl) ?_
        refine lv_iload_n hx hb dX2_all_14 rfl (lv_at hl 2 rfl) ?_
        refine lv_iconst (v := 0) hx hb dX2_all_15 (by decide) ?_
        obtain ⟨r102, e102, hv⟩ := o_bind hv
        refine rcall_i (W.runV (As := [.int x2, .int (0 : Int32)]) (rest := [.int x1]) hC (c_X2_share l D cA a u x2 (0 : Int32) r102 e102) (cwV 2 hts gX2_all_X2_share rfl rfl rfl (by decide +kernel) ⟨Nat.le_of_ble_eq_true rfl, Nat.le_of_ble_eq_true rfl⟩) ⟨roB_blind, va_recv (ci := 2) (q0 := 0) hK hP rfl rfl, roB_pre hK hZ (hws_1 hP)⟩ rfl rfl hl.1 rfl (lv_room (Nat.le_of_ble_eq_true rfl)) dX2_all_16 ⟨Nat.le_of_ble_eq_true rfl, Nat.le_of_ble_eq_true rfl⟩) ?_
        refine lv_imul hx hb dX2_all_19 ?_
        refine lv_istore_n (lv' := [(1, .int (x1 * r102)), (0, .ref (a 0)), (2, .int x2)]) hx hb dX2_all_20 rfl hl (by decide) rfl (fun ls hl => ?_)
        refine lv_iinc (v := (x2 + 1)) (lv' := [(2, .int (x2 + 1)), (1, .int (x1 * r102)), (0, .ref (a 0))]) hx hb dX2_all_21 hl (k := 2) rfl rfl (by decide) rfl (fun ls hl => ?_)
        refine lv_goto (tgt := 4) hx hb dX2_all_24 (by decide) ?_
        exact hk4 _ _  ls (lv_sub hl [2, 1, 0] rfl) hv
  unfold f_X2_all at hv
  refine lv_iconst (v := 1) hx hb dX2_all_0 (by decide) ?_
  refine lv_istore_n (lv' := [(1, .int (1 : Int32)), (0, .ref (a 0))]) hx hb dX2_all_1 rfl hl (by decide) rfl (fun ls hl => ?_)
  refine lv_iconst (v := 0) hx hb dX2_all_2 (by decide) ?_
  refine lv_istore_n (lv' := [(2, .int (0 : Int32)), (1, .int (1 : Int32)), (0, .ref (a 0))]) hx hb dX2_all_3 rfl hl (by decide) rfl (fun ls hl => ?_)
  refine hB4 _ (fun z203_1 ls hl hv => ?_) 1000 _ _ ls (lv_sub hl [2, 1, 0] rfl) hv
  · skip
    refine lv_iload_n hx hb dX2_all_27 rfl (lv_at hl 0 rfl) ?_
    exact fin dX2_all_28 hv
abbrev rm_X2_comes : Room := { frames := 2, cells := 0, slots := 0, locals := 44 }
set_option maxHeartbeats 4000000 in
set_option maxRecDepth 100000 in
theorem c_X2_comes (l : Launch) (D : va_G) (cA : ClassId) (a : Nat → Nat) (u : StM) (x1 : Int32) (v : Int32 × StM) (hv : f_X2_comes u x1 = some v) (hd : djM a) : Met l yX2_comes wsX2_comes rm_X2_comes (va_Pc [.ref (a 0), .int x1] (roB D cA [wM cA a u])) (va_Qi (fun (r : Int32) (u1 : StM) => (r, u1) = v) (fun (u1 : StM) t => va_P D vwCl (wM cA a u1) t.heap) (inM a)) 0 0 (inM a) := by
  refine wr_i (wf := fun u => wM cA a u) (cc := cX2_comes) (maxL := 5) (own := RX2) (by decide) rfl rfl (Nat.le_of_ble_eq_true rfl) ?_
  intro p e s m args below meth c Q ls hC hK hZ hws hl fin
  obtain ⟨hx, hb, hml, hown, hts⟩ := id hC
  have hl : lv_has ls 5 [(0, .ref (a 0)), (1, .int x1)] := hl
  have hP : va_P D vwCl (wM cA a u) s.heap := hws _ (List.mem_of_getElem? (i := 0) rfl)
  have hinX2 : ∀ w ∈ wsX20, w ∈ wsX2_comes := fun w h => List.mem_cons_of_mem _ (List.mem_append_right _ h)
  have hS : va_S (inM a) s.heap s.heap [] := va_S.rf
  have hB7 : ∀ (k103 : StM → Int32 → Option (Int32 × StM)) (hk103 : ∀ (u : StM) (H : Heap) (locs : List Loc) (x3 : Int32) (ls : Array Slot), va_P D vwCl (wM cA a u) H → va_S (inM a) s.heap H locs → lv_has ls 5 [(3, .int x3)] → k103 u x3 = some v → W p l e rm_X2_comes s m args below meth c H locs 0 0 Q (F0 m 103 ls [])) (n : Nat) (u : StM) (H : Heap) (locs : List Loc) (x2 : Int32) (x3 : Int32) (x4 : Int32) (ls : Array Slot), va_P D vwCl (wM cA a u) H → va_S (inM a) s.heap H locs → lv_has ls 5 [(0, .ref (a 0)), (2, .int x2), (3, .int x3), (4, .int x4)] → B_X2_comes_7 k103 n u x2 x3 x4 = some v → W p l e rm_X2_comes s m args below meth c H locs 0 0 Q (F0 m 7 ls []) := by
    intro k103 hk103 n
    induction n with
    | zero => intro u H locs x2 x3 x4 ls hP hS hl hv; exact absurd hv (by intro h; cases h)
    | succ n hk7 =>
      intro u H locs x2 x3 x4 ls hP hS hl hv
      rw [B_X2_comes_7] at hv
      refine lv_iload hx hb dX2_comes_7 (lv_at hl 3 rfl) ?_
      refine lv_iconst (v := 3) hx hb dX2_comes_9 (by decide) ?_
      refine lv_icmp_ge (tgt := 103) hx hb dX2_comes_10 (by decide) (fun c101 => ?_) (fun c101 => ?_)
      · have hv := o_pos hv c101
        exact hk103 _ _ _ _  ls hP hS (lv_sub hl [2] rfl) hv
      · have hv := o_neg hv c101
        refine lv_aload_n hx hb dX2_comes_13 rfl (lv_at hl 0 rfl) ?_
        refine gtX2_place hx hb hts hinX2 hown hK hP (by decide +kernel) dX2_comes_14 ?_
        refine lv_iload hx hb dX2_comes_17 (lv_at hl 3 rfl) ?_
        refine lv_iload_n hx hb dX2_comes_19 rfl (lv_at hl 1 rfl) ?_
        refine lv_iconst (v := 5) hx hb dX2_comes_20 (by decide) ?_
        refine lv_irem hx hb dX2_comes_21 (by decide) ?_
        obtain ⟨g102, hv⟩ := o_grd hv
        refine asX2_place hx hb hK hP (dM hd _) hS g102 dX2_comes_22 (fun H locs hP hS => ?_)
        refine lv_iload_n hx hb dX2_comes_23 rfl (lv_at hl 1 rfl) ?_
        refine lv_iconst (v := 5) hx hb dX2_comes_24 (by decide) ?_
        refine lv_idiv hx hb dX2_comes_25 (by decide) ?_
        refine lv_istore_n (lv' := [(2, .int (x2 / (5 : Int32))), (0, .ref (a 0)), (3, .int x3), (4, .int x4)]) hx hb dX2_comes_26 rfl hl (by decide) rfl (fun ls hl => ?_)
        refine lv_iload hx hb dX2_comes_27 (lv_at hl 3 rfl) ?_
        refine lv_aload_n hx hb dX2_comes_29 rfl (lv_at hl 1 rfl) ?_
        refine gtX2_n hx hb hts hinX2 hown hK hP (by decide +kernel) dX2_comes_30 ?_
        refine lv_icmp_ge (tgt := 79) hx hb dX2_comes_33 (by decide) (fun c103 => ?_) (fun c103 => ?_)
        · have hv := o_pos hv c103
          refine lv_iload_n hx hb dX2_comes_79 rfl (lv_at hl 2 rfl) ?_
          refine lv_aload_n hx hb dX2_comes_80 rfl (lv_at hl 1 rfl) ?_
          refine gtX2_place hx hb hts hinX2 hown hK hP (by decide +kernel) dX2_comes_81 ?_
          refine lv_iload hx hb dX2_comes_84 (lv_at hl 3 rfl) ?_
          obtain ⟨g104, hv⟩ := o_grd hv
          refine alX2_place hx hb hK hP g104 dX2_comes_86 ?_
          refine lv_if_ne (tgt := 94) hx hb dX2_comes_87 (by decide) (fun c105 => ?_) (fun c105 => ?_)
          · have hv := o_neg hv c105
            refine lv_iconst (v := 0) hx hb dX2_comes_94 (by decide) ?_
            refine lv_imul hx hb dX2_comes_95 ?_
            refine lv_istore_n (lv' := [(3, .int (x3 * (0 : Int32))), (2, .int (x2 / (5 : Int32))), (0, .ref (a 0)), (4, .int x4)]) hx hb dX2_comes_96 rfl hl (by decide) rfl (fun ls hl => ?_)
            refine lv_iinc (v := (x4 + 1)) (lv' := [(4, .int (x4 + 1)), (3, .int (x3 * (0 : Int32))), (2, .int (x2 / (5 : Int32))), (0, .ref (a 0))]) hx hb dX2_comes_97 hl (k := 3) rfl rfl (by decide) rfl (fun ls hl => ?_)
            refine lv_goto (tgt := 7) hx hb dX2_comes_100 (by decide) ?_
            exact hk7 _ _ _ _ _ _  ls hP hS (lv_sub hl [3, 2, 1, 0] rfl) hv
          · have hv := o_pos hv c105
            refine lv_iconst (v := 1) hx hb dX2_comes_90 (by decide) ?_
            refine lv_goto (tgt := 95) hx hb dX2_comes_91 (by decide) ?_
            refine lv_imul hx hb dX2_comes_95 ?_
            refine lv_istore_n (lv' := [(3, .int (x3 * (1 : Int32))), (2, .int (x2 / (5 : Int32))), (0, .ref (a 0)), (4, .int x4)]) hx hb dX2_comes_96 rfl hl (by decide) rfl (fun ls hl => ?_)
            refine lv_iinc (v := (x4 + 1)) (lv' := [(4, .int (x4 + 1)), (3, .int (x3 * (1 : Int32))), (2, .int (x2 / (5 : Int32))), (0, .ref (a 0))]) hx hb dX2_comes_97 hl (k := 3) rfl rfl (by decide) rfl (fun ls hl => ?_)
            refine lv_goto (tgt := 7) hx hb dX2_comes_100 (by decide) ?_
            exact hk7 _ _ _ _ _ _  ls hP hS (lv_sub hl [3, 2, 1, 0] rfl) hv
        · have hv := o_neg hv c103
          refine lv_iload_n hx hb dX2_comes_36 rfl (lv_at hl 2 rfl) ?_
          refine lv_aload_n hx hb dX2_comes_37 rfl (lv_at hl 1 rfl) ?_
          refine lv_iload hx hb dX2_comes_38 (lv_at hl 3 rfl) ?_
          refine lv_aload_n hx hb dX2_comes_40 rfl (lv_at hl 1 rfl) ?_
          refine gtX2_place hx hb hts hinX2 hown hK hP (by decide +kernel) dX2_comes_41 ?_
          refine lv_iload hx hb dX2_comes_44 (lv_at hl 3 rfl) ?_
          obtain ⟨g106, hv⟩ := o_grd hv
          refine alX2_place hx hb hK hP g106 dX2_comes_46 ?_
          obtain ⟨r107, e107, hv⟩ := o_bind hv
          refine rcall_i (W.runV (As := [.int x4, .int (m_place (m_set_place u (upd (m_place u) x4.toNatClampNeg (x2 - x2 / (5 : Int32) * (5 : Int32)))) x4.toNatClampNeg)]) (rest := [.int x3]) hC (c_X2_isPlace l D cA a (m_set_place u (upd (m_place u) x4.toNatClampNeg (x2 - x2 / (5 : Int32) * (5 : Int32)))) x4 (m_place (m_set_place u (upd (m_place u) x4.toNatClampNeg (x2 - x2 / (5 : Int32) * (5 : Int32)))) x4.toNatClampNeg) r107 e107) (cwV 2 hts gX2_comes_X2_isPlace rfl rfl rfl (by decide +kernel) ⟨Nat.le_of_ble_eq_true rfl, Nat.le_of_ble_eq_true rfl⟩) ⟨roB_blind, va_recv (ci := 2) (q0 := 0) hK hP rfl rfl, roB_pre hK hZ (hws_1 hP)⟩ rfl rfl hl.1 rfl (lv_room (Nat.le_of_ble_eq_true rfl)) dX2_comes_47 ⟨Nat.le_of_ble_eq_true rfl, Nat.le_of_ble_eq_true rfl⟩) ?_
          refine lv_if_eq (tgt := 73) hx hb dX2_comes_50 (by decide) (fun c108 => ?_) (fun c108 => ?_)
          · have hv := o_pos hv c108
            refine lv_iconst (v := 0) hx hb dX2_comes_73 (by decide) ?_
            refine lv_imul hx hb dX2_comes_74 ?_
            refine lv_istore_n (lv' := [(3, .int (x3 * (0 : Int32))), (2, .int (x2 / (5 : Int32))), (0, .ref (a 0)), (4, .int x4)]) hx hb dX2_comes_75 rfl hl (by decide) rfl (fun ls hl => ?_)
            refine lv_goto (tgt := 97) hx hb dX2_comes_76 (by decide) ?_
            refine lv_iinc (v := (x4 + 1)) (lv' := [(4, .int (x4 + 1)), (3, .int (x3 * (0 : Int32))), (2, .int (x2 / (5 : Int32))), (0, .ref (a 0))]) hx hb dX2_comes_97 hl (k := 3) rfl rfl (by decide) rfl (fun ls hl => ?_)
            refine lv_goto (tgt := 7) hx hb dX2_comes_100 (by decide) ?_
            exact hk7 _ _ _ _ _ _  ls hP hS (lv_sub hl [3, 2, 1, 0] rfl) hv
          · have hv := o_neg hv c108
            refine lv_aload_n hx hb dX2_comes_53 rfl (lv_at hl 1 rfl) ?_
            refine gtX2_weight hx hb hts hinX2 hown hK hP (by decide +kernel) dX2_comes_54 ?_
            refine lv_iconst (v := 5) hx hb dX2_comes_57 (by decide) ?_
            refine lv_iload hx hb dX2_comes_58 (lv_at hl 3 rfl) ?_
            refine lv_imul hx hb dX2_comes_60 ?_
            refine lv_aload_n hx hb dX2_comes_61 rfl (lv_at hl 1 rfl) ?_
            refine gtX2_place hx hb hts hinX2 hown hK hP (by decide +kernel) dX2_comes_62 ?_
            refine lv_iload hx hb dX2_comes_65 (lv_at hl 3 rfl) ?_
            obtain ⟨g109, hv⟩ := o_grd hv
            refine alX2_place hx hb hK hP g109 dX2_comes_67 ?_
            refine lv_iadd hx hb dX2_comes_68 ?_
            obtain ⟨g110, hv⟩ := o_grd hv
            refine alX2_weight hx hb hK hP g110 dX2_comes_69 ?_
            refine lv_goto (tgt := 74) hx hb dX2_comes_70 (by decide) ?_
            refine lv_imul hx hb dX2_comes_74 ?_
            refine lv_istore_n (lv' := [(3, .int (x3 * (m_weight (m_set_place u (upd (m_place u) x4.toNatClampNeg (x2 - x2 / (5 : Int32) * (5 : Int32)))) (((5 : Int32) * x4) + (m_place (m_set_place u (upd (m_place u) x4.toNatClampNeg (x2 - x2 / (5 : Int32) * (5 : Int32)))) x4.toNatClampNeg)).toNatClampNeg))), (2, .int (x2 / (5 : Int32))), (0, .ref (a 0)), (4, .int x4)]) hx hb dX2_comes_75 rfl hl (by decide) rfl (fun ls hl => ?_)
            refine lv_goto (tgt := 97) hx hb dX2_comes_76 (by decide) ?_
            refine lv_iinc (v := (x4 + 1)) (lv' := [(4, .int (x4 + 1)), (3, .int (x3 * (m_weight (m_set_place u (upd (m_place u) x4.toNatClampNeg (x2 - x2 / (5 : Int32) * (5 : Int32)))) (((5 : Int32) * x4) + (m_place (m_set_place u (upd (m_place u) x4.toNatClampNeg (x2 - x2 / (5 : Int32) * (5 : Int32)))) x4.toNatClampNeg)).toNatClampNeg))), (2, .int (x2 / (5 : Int32))), (0, .ref (a 0))]) hx hb dX2_comes_97 hl (k := 3) rfl rfl (by decide) rfl (fun ls hl => ?_)
            refine lv_goto (tgt := 7) hx hb dX2_comes_100 (by decide) ?_
            exact hk7 _ _ _ _ _ _  ls hP hS (lv_sub hl [3, 2, 1, 0] rfl) hv
  unfold f_X2_comes at hv
  skip
  refine lv_iload_n hx hb dX2_comes_0 rfl (lv_at hl 1 rfl) ?_
  refine lv_istore_n (lv' := [(2, .int x1), (0, .ref (a 0)), (1, .int x1)]) hx hb dX2_comes_1 rfl hl (by decide) rfl (fun ls hl => ?_)
  refine lv_iconst (v := 1) hx hb dX2_comes_2 (by decide) ?_
  refine lv_istore_n (lv' := [(3, .int (1 : Int32)), (2, .int x1), (0, .ref (a 0)), (1, .int x1)]) hx hb dX2_comes_3 rfl hl (by decide) rfl (fun ls hl => ?_)
  refine lv_iconst (v := 0) hx hb dX2_comes_4 (by decide) ?_
  refine lv_istore (lv' := [(4, .int (0 : Int32)), (3, .int (1 : Int32)), (2, .int x1), (0, .ref (a 0)), (1, .int x1)]) hx hb dX2_comes_5 hl (by decide) rfl (fun ls hl => ?_)
  refine hB7 _ (fun z211_u H locs z211_3 ls hP hS hl hv => ?_) 1000 _ _ _ _ _ _ ls hP hS (lv_sub hl [3, 2, 1, 0] rfl) hv
  · skip
    refine lv_iload_n hx hb dX2_comes_103 rfl (lv_at hl 0 rfl) ?_
    exact fin hP hS dX2_comes_104 hv
abbrev rm_X2_brings : Room := { frames := 5, cells := 0, slots := 0, locals := 128 }
set_option maxHeartbeats 4000000 in
set_option maxRecDepth 100000 in
theorem c_X2_brings (l : Launch) (D : va_G) (cA : ClassId) (a : Nat → Nat) (u : StM) (x1 : Int32) (v : Int64 × StM) (hv : f_X2_brings u x1 = some v) (hd : djM a) : Met l yX2_brings wsX2_brings rm_X2_brings (va_Pc [.ref (a 0), .int x1] (roB D cA [wM cA a u])) (va_Ql (fun (r : Int64) (u1 : StM) => (r, u1) = v) (fun (u1 : StM) t => va_P D vwCl (wM cA a u1) t.heap) (inM a)) 0 0 (inM a) := by
  refine wr_l (wf := fun u => wM cA a u) (cc := cX2_brings) (maxL := 7) (own := RX2) (by decide) rfl rfl (Nat.le_of_ble_eq_true rfl) ?_
  intro p e s m args below meth c Q ls hC hK hZ hws hl fin
  obtain ⟨hx, hb, hml, hown, hts⟩ := id hC
  have hl : lv_has ls 7 [(0, .ref (a 0)), (1, .int x1)] := hl
  have hP : va_P D vwCl (wM cA a u) s.heap := hws _ (List.mem_of_getElem? (i := 0) rfl)
  have hinX2 : ∀ w ∈ wsX20, w ∈ wsX2_brings := fun w h => List.mem_cons_of_mem _ (List.mem_append_right _ h)
  have hS : va_S (inM a) s.heap s.heap [] := va_S.rf
  have hB41 : ∀ (k75 : StM → Int32 → Int64 → Int32 → Option (Int64 × StM)) (hk75 : ∀ (u : StM) (H : Heap) (locs : List Loc) (x1 : Int32) (x2 : Int64) (x4 : Int32) (ls : Array Slot), va_P D vwCl (wM cA a u) H → va_S (inM a) s.heap H locs → lv_has ls 7 [(0, .ref (a 0)), (1, .int x1), (2, .long x2), (4, .int x4)] → k75 u x1 x2 x4 = some v → W p l e rm_X2_brings s m args below meth c H locs 0 0 Q (F0 m 75 ls [])) (n : Nat) (u : StM) (H : Heap) (locs : List Loc) (x1 : Int32) (x2 : Int64) (x4 : Int32) (x5 : Int32) (x6 : Int32) (ls : Array Slot), va_P D vwCl (wM cA a u) H → va_S (inM a) s.heap H locs → lv_has ls 7 [(0, .ref (a 0)), (1, .int x1), (2, .long x2), (4, .int x4), (5, .int x5), (6, .int x6)] → B_X2_brings_41 k75 n u x1 x2 x4 x5 x6 = some v → W p l e rm_X2_brings s m args below meth c H locs 0 0 Q (F0 m 41 ls []) := by
    intro k75 hk75 n
    induction n with
    | zero => intro u H locs x1 x2 x4 x5 x6 ls hP hS hl hv; exact absurd hv (by intro h; cases h)
    | succ n hk41 =>
      intro u H locs x1 x2 x4 x5 x6 ls hP hS hl hv
      rw [B_X2_brings_41] at hv
      refine lv_iload hx hb dX2_brings_41 (lv_at hl 5 rfl) ?_
      refine lv_aload_n hx hb dX2_brings_43 rfl (lv_at hl 0 rfl) ?_
      refine gtX2_n hx hb hts hinX2 hown hK hP (by decide +kernel) dX2_brings_44 ?_
      refine lv_icmp_ge (tgt := 75) hx hb dX2_brings_47 (by decide) (fun c101 => ?_) (fun c101 => ?_)
      · have hv := o_pos hv c101
        exact hk75 _ _ _ _ _ _  ls hP hS (lv_sub hl [0, 1, 2, 3] rfl) hv
      · have hv := o_neg hv c101
        refine lv_iload hx hb dX2_brings_50 (lv_at hl 4 rfl) ?_
        refine lv_if_le (tgt := 75) hx hb dX2_brings_52 (by decide) (fun c102 => ?_) (fun c102 => ?_)
        · have hv := o_pos hv c102
          exact hk75 _ _ _ _ _ _  ls hP hS (lv_sub hl [0, 1, 2, 3] rfl) hv
        · have hv := o_neg hv c102
          refine lv_lload_n hx hb dX2_brings_55 rfl (lv_at hl 2 rfl) ?_
          refine lv_iload hx hb dX2_brings_56 (lv_at hl 4 rfl) ?_
          refine lv_i2l hx hb dX2_brings_58 rfl ?_
          refine lv_aload_n hx hb dX2_brings_59 rfl (lv_at hl 0 rfl) ?_
          refine lv_iload hx hb dX2_brings_60 (lv_at hl 5 rfl) ?_
          obtain ⟨⟨r103, w103⟩, e103, hv⟩ := o_bind hv
          refine wcall_i (va_runV (As := [.int x6]) (rest := [.long ((x5).toInt64), .long x2]) hC (c_X2_paid l D cA a u x6 (r103, w103) e103 hd) (cwV 1 hts gX2_brings_X2_paid rfl rfl rfl (by decide +kernel) ⟨Nat.le_of_ble_eq_true rfl, Nat.le_of_ble_eq_true rfl⟩) ⟨roB_blind, va_recv (ci := 2) (q0 := 0) hK hP rfl rfl, roB_pre hK hZ (hws_1 hP)⟩ rfl rfl hl.1 rfl (lv_room (Nat.le_of_ble_eq_true rfl)) dX2_brings_62 ⟨Nat.le_of_ble_eq_true rfl, Nat.le_of_ble_eq_true rfl⟩) hS (fun _ h => h) (fun H locs hP1 hk1 hS => ?_)
          have hP := hP1
          refine lv_i2l hx hb dX2_brings_65 rfl ?_
          refine lv_lmul hx hb dX2_brings_66 ?_
          refine lv_ladd hx hb dX2_brings_67 ?_
          refine lv_lstore_n (lv' := [(2, .long (x2 + ((x5).toInt64 * (r103).toInt64))), (0, .ref (a 0)), (1, .int x1), (4, .int x4), (5, .int x5), (6, .int x6)]) hx hb dX2_brings_68 rfl hl (by decide) rfl (fun ls hl => ?_)
          refine lv_iinc (v := (x6 + 1)) (lv' := [(6, .int (x6 + 1)), (2, .long (x2 + ((x5).toInt64 * (r103).toInt64))), (0, .ref (a 0)), (1, .int x1), (4, .int x4), (5, .int x5)]) hx hb dX2_brings_69 hl (k := 5) rfl rfl (by decide) rfl (fun ls hl => ?_)
          refine lv_goto (tgt := 41) hx hb dX2_brings_72 (by decide) ?_
          exact hk41 _ _ _ _ _ _ _ _  ls hP hS (lv_sub hl [2, 3, 1, 4, 5, 0] rfl) hv
  have hB23 : ∀ (k81 : StM → Int32 → Int64 → Option (Int64 × StM)) (hk81 : ∀ (u : StM) (H : Heap) (locs : List Loc) (x1 : Int32) (x2 : Int64) (ls : Array Slot), va_P D vwCl (wM cA a u) H → va_S (inM a) s.heap H locs → lv_has ls 7 [(0, .ref (a 0)), (1, .int x1), (2, .long x2)] → k81 u x1 x2 = some v → W p l e rm_X2_brings s m args below meth c H locs 0 0 Q (F0 m 81 ls [])) (n : Nat) (u : StM) (H : Heap) (locs : List Loc) (x1 : Int32) (x2 : Int64) (x4 : Int32) (ls : Array Slot), va_P D vwCl (wM cA a u) H → va_S (inM a) s.heap H locs → lv_has ls 7 [(0, .ref (a 0)), (1, .int x1), (2, .long x2), (4, .int x4)] → B_X2_brings_23 k81 n u x1 x2 x4 = some v → W p l e rm_X2_brings s m args below meth c H locs 0 0 Q (F0 m 23 ls []) := by
    intro k81 hk81 n
    induction n with
    | zero => intro u H locs x1 x2 x4 ls hP hS hl hv; exact absurd hv (by intro h; cases h)
    | succ n hk23 =>
      intro u H locs x1 x2 x4 ls hP hS hl hv
      rw [B_X2_brings_23] at hv
      refine lv_iload hx hb dX2_brings_23 (lv_at hl 3 rfl) ?_
      refine lv_bipush (v := 125) hx hb dX2_brings_25 (by decide) ?_
      refine lv_icmp_ge (tgt := 81) hx hb dX2_brings_27 (by decide) (fun c204 => ?_) (fun c204 => ?_)
      · have hv := o_pos hv c204
        exact hk81 _ _ _ _ _  ls hP hS (lv_sub hl [0, 1, 2] rfl) hv
      · have hv := o_neg hv c204
        refine lv_aload_n hx hb dX2_brings_30 rfl (lv_at hl 0 rfl) ?_
        refine lv_iload hx hb dX2_brings_31 (lv_at hl 3 rfl) ?_
        obtain ⟨⟨r205, w205⟩, e205, hv⟩ := o_bind hv
        refine wcall_i (va_runV (As := [.int x4]) (rest := []) hC (c_X2_comes l D cA a u x4 (r205, w205) e205 hd) (cwV 1 hts gX2_brings_X2_comes rfl rfl rfl (by decide +kernel) ⟨Nat.le_of_ble_eq_true rfl, Nat.le_of_ble_eq_true rfl⟩) ⟨roB_blind, va_recv (ci := 2) (q0 := 0) hK hP rfl rfl, roB_pre hK hZ (hws_1 hP)⟩ rfl rfl hl.1 rfl (lv_room (Nat.le_of_ble_eq_true rfl)) dX2_brings_33 ⟨Nat.le_of_ble_eq_true rfl, Nat.le_of_ble_eq_true rfl⟩) hS (fun _ h => h) (fun H locs hP1 hk1 hS => ?_)
        have hP := hP1
        refine lv_istore (lv' := [(5, .int r205), (0, .ref (a 0)), (1, .int x1), (2, .long x2), (4, .int x4)]) hx hb dX2_brings_36 hl (by decide) rfl (fun ls hl => ?_)
        refine lv_iconst (v := 0) hx hb dX2_brings_38 (by decide) ?_
        refine lv_istore (lv' := [(6, .int (0 : Int32)), (5, .int r205), (0, .ref (a 0)), (1, .int x1), (2, .long x2), (4, .int x4)]) hx hb dX2_brings_39 hl (by decide) rfl (fun ls hl => ?_)
        refine hB41 _ (fun z206_u H locs z206_1 z206_2 z206_4 ls hP hS hl hv => ?_) 1000 _ _ _ _ _ _ _ _ ls hP hS (lv_sub hl [2, 3, 4, 5, 1, 0] rfl) hv
        · skip
          refine lv_iinc (v := (z206_4 + 1)) (lv' := [(4, .int (z206_4 + 1)), (0, .ref (a 0)), (1, .int z206_1), (2, .long z206_2)]) hx hb dX2_brings_75 hl (k := 3) rfl rfl (by decide) rfl (fun ls hl => ?_)
          refine lv_goto (tgt := 23) hx hb dX2_brings_78 (by decide) ?_
          exact hk23 _ _ _ _ _ _  ls hP hS (lv_sub hl [1, 2, 3, 0] rfl) hv
  unfold f_X2_brings at hv
  skip
  refine lv_aload_n hx hb dX2_brings_0 rfl (lv_at hl 0 rfl) ?_
  refine lv_iconst (v := 0) hx hb dX2_brings_1 (by decide) ?_
  refine ptX2_thrown hx hb hts hinX2 hown hK hP (dM hd _) hS (by decide +kernel) dX2_brings_2 (fun H locs hP hS => ?_)
  refine lv_iload_n hx hb dX2_brings_5 rfl (lv_at hl 1 rfl) ?_
  refine lv_iconst (v := 0) hx hb dX2_brings_6 (by decide) ?_
  refine lv_iconst (v := 1) hx hb dX2_brings_7 (by decide) ?_
  obtain ⟨r307, e307, hv⟩ := o_bind hv
  refine rcall_i (W.runS (As := [.int x1, .int (0 : Int32), .int (1 : Int32)]) (rest := []) hC (c_X2_in l D cA x1 (0 : Int32) (1 : Int32) r307 e307) (va_cwS 3 hts gX2_brings_X2_in rfl rfl rfl (by decide +kernel) ⟨Nat.le_of_ble_eq_true rfl, Nat.le_of_ble_eq_true rfl⟩) ⟨roB_blind, roB_pre hK hZ hws_0⟩ rfl rfl hl.1 rfl (lv_room (Nat.le_of_ble_eq_true rfl)) dX2_brings_8 ⟨Nat.le_of_ble_eq_true rfl, Nat.le_of_ble_eq_true rfl⟩) ?_
  refine lv_if_ne (tgt := 18) hx hb dX2_brings_11 (by decide) (fun c308 => ?_) (fun c308 => ?_)
  · have hv := o_neg hv c308
    refine lv_lconst (v := 0) hx hb dX2_brings_18 (by decide) ?_
    refine lv_lstore_n (lv' := [(2, .long (0 : Int64)), (0, .ref (a 0)), (1, .int x1)]) hx hb dX2_brings_19 rfl hl (by decide) rfl (fun ls hl => ?_)
    refine lv_iconst (v := 0) hx hb dX2_brings_20 (by decide) ?_
    refine lv_istore (lv' := [(4, .int (0 : Int32)), (2, .long (0 : Int64)), (0, .ref (a 0)), (1, .int x1)]) hx hb dX2_brings_21 hl (by decide) rfl (fun ls hl => ?_)
    refine hB23 _ (fun z309_u H locs z309_1 z309_2 ls hP hS hl hv => ?_) 1000 _ _ _ _ _ _ ls hP hS (lv_sub hl [2, 3, 1, 0] rfl) hv
    · skip
      refine lv_aload_n hx hb dX2_brings_81 rfl (lv_at hl 0 rfl) ?_
      refine lv_lload_n hx hb dX2_brings_82 rfl (lv_at hl 2 rfl) ?_
      refine lv_aload_n hx hb dX2_brings_83 rfl (lv_at hl 0 rfl) ?_
      obtain ⟨r310, e310, hv⟩ := o_bind hv
      refine rcall_i (W.runV (As := []) (rest := [.long z309_2, .ref (a 0)]) hC (c_X2_all l D cA a z309_u r310 e310) (cwV 0 hts gX2_brings_X2_all rfl rfl rfl (by decide +kernel) ⟨Nat.le_of_ble_eq_true rfl, Nat.le_of_ble_eq_true rfl⟩) ⟨roB_blind, va_recv (ci := 2) (q0 := 0) hK hP rfl rfl, roB_pre hK hZ (hws_1 hP)⟩ rfl rfl hl.1 rfl (lv_room (Nat.le_of_ble_eq_true rfl)) dX2_brings_84 ⟨Nat.le_of_ble_eq_true rfl, Nat.le_of_ble_eq_true rfl⟩) ?_
      refine lv_i2l hx hb dX2_brings_87 rfl ?_
      refine lv_iload_n hx hb dX2_brings_88 rfl (lv_at hl 1 rfl) ?_
      obtain ⟨r311, e311, hv⟩ := o_bind hv
      refine rcall_l (W.runV (As := [.long z309_2, .long ((r310).toInt64), .int z309_1]) (rest := []) hC (c_X2_part l D cA a z309_u z309_2 ((r310).toInt64) z309_1 r311 e311) (cwV 3 hts gX2_brings_X2_part rfl rfl rfl (by decide +kernel) ⟨Nat.le_of_ble_eq_true rfl, Nat.le_of_ble_eq_true rfl⟩) ⟨roB_blind, va_recv (ci := 2) (q0 := 0) hK hP rfl rfl, roB_pre hK hZ (hws_1 hP)⟩ rfl rfl hl.1 rfl (lv_room (Nat.le_of_ble_eq_true rfl)) dX2_brings_89 ⟨Nat.le_of_ble_eq_true rfl, Nat.le_of_ble_eq_true rfl⟩) ?_
      exact fin hP hS dX2_brings_92 hv
  · have hv := o_pos hv c308
    refine lv_ldc2 (v := -1000000000000000) hx hb hown (hts (.constantLong RX2 75 (-1000000000000000)) (by decide +kernel)) dX2_brings_14 ?_
    exact fin hP hS dX2_brings_17 hv
abbrev rm_X2_reserve : Room := { frames := 1, cells := 0, slots := 0, locals := 22 }
set_option maxHeartbeats 4000000 in
set_option maxRecDepth 100000 in
theorem c_X2_reserve (l : Launch) (D : va_G) (cA : ClassId) (a : Nat → Nat) (u : StM) (x1 : Int32) (v : Int32 × StM) (hv : f_X2_reserve u x1 = some v) (hd : djM a) : Met l yX2_reserve wsX2_reserve rm_X2_reserve (va_Pc [.ref (a 0), .int x1] (roB D cA [wM cA a u])) (va_Qi (fun (r : Int32) (u1 : StM) => (r, u1) = v) (fun (u1 : StM) t => va_P D vwCl (wM cA a u1) t.heap) (inM a)) 0 0 (inM a) := by
  refine wr_i (wf := fun u => wM cA a u) (cc := cX2_reserve) (maxL := 3) (own := RX2) (by decide) rfl rfl (Nat.le_of_ble_eq_true rfl) ?_
  intro p e s m args below meth c Q ls hC hK hZ hws hl fin
  obtain ⟨hx, hb, hml, hown, hts⟩ := id hC
  have hl : lv_has ls 3 [(0, .ref (a 0)), (1, .int x1)] := hl
  have hP : va_P D vwCl (wM cA a u) s.heap := hws _ (List.mem_of_getElem? (i := 0) rfl)
  have hinX2 : ∀ w ∈ wsX20, w ∈ wsX2_reserve := fun w h => List.mem_cons_of_mem _ (List.mem_append_right _ h)
  have hS : va_S (inM a) s.heap s.heap [] := va_S.rf
  unfold f_X2_reserve at hv
  skip
  refine lv_aload_n hx hb dX2_reserve_0 rfl (lv_at hl 0 rfl) ?_
  refine lv_iconst (v := 0) hx hb dX2_reserve_1 (by decide) ?_
  refine ptX2_thrown hx hb hts hinX2 hown hK hP (dM hd _) hS (by decide +kernel) dX2_reserve_2 (fun H locs hP hS => ?_)
  refine lv_iload_n hx hb dX2_reserve_5 rfl (lv_at hl 1 rfl) ?_
  refine lv_iconst (v := 0) hx hb dX2_reserve_6 (by decide) ?_
  refine lv_sipush (v := 1000) hx hb dX2_reserve_7 (by decide) ?_
  obtain ⟨r101, e101, hv⟩ := o_bind hv
  refine rcall_i (W.runS (As := [.int x1, .int (0 : Int32), .int (1000 : Int32)]) (rest := []) hC (c_X2_in l D cA x1 (0 : Int32) (1000 : Int32) r101 e101) (va_cwS 3 hts gX2_reserve_X2_in rfl rfl rfl (by decide +kernel) ⟨Nat.le_of_ble_eq_true rfl, Nat.le_of_ble_eq_true rfl⟩) ⟨roB_blind, roB_pre hK hZ hws_0⟩ rfl rfl hl.1 rfl (lv_room (Nat.le_of_ble_eq_true rfl)) dX2_reserve_10 ⟨Nat.le_of_ble_eq_true rfl, Nat.le_of_ble_eq_true rfl⟩) ?_
  refine lv_if_ne (tgt := 18) hx hb dX2_reserve_13 (by decide) (fun c102 => ?_) (fun c102 => ?_)
  · have hv := o_neg hv c102
    refine lv_aload_n hx hb dX2_reserve_18 rfl (lv_at hl 0 rfl) ?_
    refine gtX2_reserve hx hb hts hinX2 hown hK hP (by decide +kernel) dX2_reserve_19 ?_
    refine lv_istore_n (lv' := [(2, .int (m_reserve (m_set_thrown u (0 : Int32)))), (0, .ref (a 0)), (1, .int x1)]) hx hb dX2_reserve_22 rfl hl (by decide) rfl (fun ls hl => ?_)
    refine lv_aload_n hx hb dX2_reserve_23 rfl (lv_at hl 1 rfl) ?_
    refine lv_iload_n hx hb dX2_reserve_24 rfl (lv_at hl 2 rfl) ?_
    refine ptX2_reserve hx hb hts hinX2 hown hK hP (dM hd _) hS (by decide +kernel) dX2_reserve_25 (fun H locs hP hS => ?_)
    refine lv_iload_n hx hb dX2_reserve_28 rfl (lv_at hl 0 rfl) ?_
    exact fin hP hS dX2_reserve_29 hv
  · have hv := o_pos hv c102
    refine lv_iconst (v := -1) hx hb dX2_reserve_16 (by decide) ?_
    exact fin hP hS dX2_reserve_17 hv
abbrev rm_X2_payOf : Room := { frames := 0, cells := 0, slots := 0, locals := 0 }
set_option maxHeartbeats 4000000 in
set_option maxRecDepth 100000 in
theorem c_X2_payOf (l : Launch) (D : va_G) (cA : ClassId) (a : Nat → Nat) (u : StM) (x1 : Int32) (v : Int32) (hv : f_X2_payOf u x1 = some v)  : Met l yX2_payOf wsX2_payOf rm_X2_payOf (va_Pc [.ref (a 0), .int x1] (roB D cA [wM cA a u])) (vp_Si (fun r => r = v)) 0 0 (fun _ => False) := by
  refine ro_i (cc := cX2_payOf) (maxL := 5) (own := RX2) (by decide) rfl rfl (Nat.le_of_ble_eq_true rfl) ?_
  intro p e s m args below meth c Q ls hC hK hZ hws hl fin
  obtain ⟨hx, hb, hml, hown, hts⟩ := id hC
  have hl : lv_has ls 5 [(0, .ref (a 0)), (1, .int x1)] := hl
  have hP : va_P D vwCl (wM cA a u) s.heap := hws _ (List.mem_of_getElem? (i := 0) rfl)
  have hinX2 : ∀ w ∈ wsX20, w ∈ wsX2_payOf := fun w h => List.mem_cons_of_mem _ (List.mem_append_right _ h)
  have hB4 : ∀ (k39 : Int32 → Int32 → Option (Int32)) (hk39 : ∀ (x1 : Int32) (x2 : Int32) (ls : Array Slot), lv_has ls 5 [(0, .ref (a 0)), (1, .int x1), (2, .int x2)] → k39 x1 x2 = some v → W p l e rm_X2_payOf s m args below meth c s.heap [] 0 0 Q (F0 m 39 ls [])) (n : Nat) (x1 : Int32) (x2 : Int32) (x3 : Int32) (ls : Array Slot), lv_has ls 5 [(0, .ref (a 0)), (1, .int x1), (2, .int x2), (3, .int x3)] → B_X2_payOf_4 u k39 n x1 x2 x3 = some v → W p l e rm_X2_payOf s m args below meth c s.heap [] 0 0 Q (F0 m 4 ls []) := by
    intro k39 hk39 n
    induction n with
    | zero => intro x1 x2 x3 ls hl hv; exact absurd hv (by intro h; cases h)
    | succ n hk4 =>
      intro x1 x2 x3 ls hl hv
      rw [B_X2_payOf_4] at hv
      refine lv_iload_n hx hb dX2_payOf_4 rfl (lv_at hl 3 rfl) ?_
      refine lv_aload_n hx hb dX2_payOf_5 rfl (lv_at hl 0 rfl) ?_
      refine gtX2_n hx hb hts hinX2 hown hK hP (by decide +kernel) dX2_payOf_6 ?_
      refine lv_icmp_ge (tgt := 39) hx hb dX2_payOf_9 (by decide) (fun c101 => ?_) (fun c101 => ?_)
      · have hv := o_pos hv c101
        exact hk39 _ _  ls (lv_sub hl [0, 1, 2] rfl) hv
      · have hv := o_neg hv c101
        refine lv_aload_n hx hb dX2_payOf_12 rfl (lv_at hl 0 rfl) ?_
        refine gtX2_told hx hb hts hinX2 hown hK hP (by decide +kernel) dX2_payOf_13 ?_
        refine lv_iload_n hx hb dX2_payOf_16 rfl (lv_at hl 3 rfl) ?_
        obtain ⟨g102, hv⟩ := o_grd hv
        refine alX2_told hx hb hK hP g102 dX2_payOf_17 ?_
        refine lv_aload_n hx hb dX2_payOf_18 rfl (lv_at hl 0 rfl) ?_
        refine gtX2_told hx hb hts hinX2 hown hK hP (by decide +kernel) dX2_payOf_19 ?_
        refine lv_iload_n hx hb dX2_payOf_22 rfl (lv_at hl 2 rfl) ?_
        obtain ⟨g103, hv⟩ := o_grd hv
        refine alX2_told hx hb hK hP g103 dX2_payOf_23 ?_
        refine lv_icmp_le (tgt := 31) hx hb dX2_payOf_24 (by decide) (fun c104 => ?_) (fun c104 => ?_)
        · have hv := o_pos hv c104
          refine lv_iload_n hx hb dX2_payOf_31 rfl (lv_at hl 2 rfl) ?_
          refine lv_istore_n (lv' := [(2, .int x2), (0, .ref (a 0)), (1, .int x1), (3, .int x3)]) hx hb dX2_payOf_32 rfl hl (by decide) rfl (fun ls hl => ?_)
          refine lv_iinc (v := (x3 + 1)) (lv' := [(3, .int (x3 + 1)), (2, .int x2), (0, .ref (a 0)), (1, .int x1)]) hx hb dX2_payOf_33 hl (k := 3) rfl rfl (by decide) rfl (fun ls hl => ?_)
          refine lv_goto (tgt := 4) hx hb dX2_payOf_36 (by decide) ?_
          exact hk4 _ _ _  ls (lv_sub hl [2, 3, 1, 0] rfl) hv
        · have hv := o_neg hv c104
          refine lv_iload_n hx hb dX2_payOf_27 rfl (lv_at hl 3 rfl) ?_
          refine lv_goto (tgt := 32) hx hb dX2_payOf_28 (by decide) ?_
          refine lv_istore_n (lv' := [(2, .int x3), (0, .ref (a 0)), (1, .int x1), (3, .int x3)]) hx hb dX2_payOf_32 rfl hl (by decide) rfl (fun ls hl => ?_)
          refine lv_iinc (v := (x3 + 1)) (lv' := [(3, .int (x3 + 1)), (2, .int x3), (0, .ref (a 0)), (1, .int x1)]) hx hb dX2_payOf_33 hl (k := 3) rfl rfl (by decide) rfl (fun ls hl => ?_)
          refine lv_goto (tgt := 4) hx hb dX2_payOf_36 (by decide) ?_
          exact hk4 _ _ _  ls (lv_sub hl [2, 3, 1, 0] rfl) hv
  have hB64 : ∀ (k108 : Int32 → Int32 → Option (Int32)) (hk108 : ∀ (x1 : Int32) (x3 : Int32) (ls : Array Slot), lv_has ls 5 [(0, .ref (a 0)), (1, .int x1), (3, .int x3)] → k108 x1 x3 = some v → W p l e rm_X2_payOf s m args below meth c s.heap [] 0 0 Q (F0 m 108 ls [])) (n : Nat) (x1 : Int32) (x2 : Int32) (x3 : Int32) (x4 : Int32) (ls : Array Slot), lv_has ls 5 [(0, .ref (a 0)), (1, .int x1), (2, .int x2), (3, .int x3), (4, .int x4)] → B_X2_payOf_64 u k108 n x1 x2 x3 x4 = some v → W p l e rm_X2_payOf s m args below meth c s.heap [] 0 0 Q (F0 m 64 ls []) := by
    intro k108 hk108 n
    induction n with
    | zero => intro x1 x2 x3 x4 ls hl hv; exact absurd hv (by intro h; cases h)
    | succ n hk64 =>
      intro x1 x2 x3 x4 ls hl hv
      rw [B_X2_payOf_64] at hv
      refine lv_iload hx hb dX2_payOf_64 (lv_at hl 4 rfl) ?_
      refine lv_aload_n hx hb dX2_payOf_66 rfl (lv_at hl 0 rfl) ?_
      refine gtX2_n hx hb hts hinX2 hown hK hP (by decide +kernel) dX2_payOf_67 ?_
      refine lv_icmp_ge (tgt := 108) hx hb dX2_payOf_70 (by decide) (fun c205 => ?_) (fun c205 => ?_)
      · have hv := o_pos hv c205
        exact hk108 _ _  ls (lv_sub hl [0, 1, 3] rfl) hv
      · have hv := o_neg hv c205
        refine lv_iload hx hb dX2_payOf_73 (lv_at hl 4 rfl) ?_
        refine lv_iload_n hx hb dX2_payOf_75 rfl (lv_at hl 2 rfl) ?_
        refine lv_icmp_eq (tgt := 100) hx hb dX2_payOf_76 (by decide) (fun c206 => ?_) (fun c206 => ?_)
        · have hv := o_pos hv c206
          refine lv_iload_n hx hb dX2_payOf_100 rfl (lv_at hl 3 rfl) ?_
          refine lv_istore_n (lv' := [(3, .int x3), (0, .ref (a 0)), (1, .int x1), (2, .int x2), (4, .int x4)]) hx hb dX2_payOf_101 rfl hl (by decide) rfl (fun ls hl => ?_)
          refine lv_iinc (v := (x4 + 1)) (lv' := [(4, .int (x4 + 1)), (3, .int x3), (0, .ref (a 0)), (1, .int x1), (2, .int x2)]) hx hb dX2_payOf_102 hl (k := 4) rfl rfl (by decide) rfl (fun ls hl => ?_)
          refine lv_goto (tgt := 64) hx hb dX2_payOf_105 (by decide) ?_
          exact hk64 _ _ _ _  ls (lv_sub hl [2, 3, 4, 1, 0] rfl) hv
        · have hv := o_neg hv c206
          refine lv_aload_n hx hb dX2_payOf_79 rfl (lv_at hl 0 rfl) ?_
          refine gtX2_told hx hb hts hinX2 hown hK hP (by decide +kernel) dX2_payOf_80 ?_
          refine lv_iload hx hb dX2_payOf_83 (lv_at hl 4 rfl) ?_
          obtain ⟨g207, hv⟩ := o_grd hv
          refine alX2_told hx hb hK hP g207 dX2_payOf_85 ?_
          refine lv_iload_n hx hb dX2_payOf_86 rfl (lv_at hl 3 rfl) ?_
          refine lv_icmp_le (tgt := 100) hx hb dX2_payOf_87 (by decide) (fun c208 => ?_) (fun c208 => ?_)
          · have hv := o_pos hv c208
            refine lv_iload_n hx hb dX2_payOf_100 rfl (lv_at hl 3 rfl) ?_
            refine lv_istore_n (lv' := [(3, .int x3), (0, .ref (a 0)), (1, .int x1), (2, .int x2), (4, .int x4)]) hx hb dX2_payOf_101 rfl hl (by decide) rfl (fun ls hl => ?_)
            refine lv_iinc (v := (x4 + 1)) (lv' := [(4, .int (x4 + 1)), (3, .int x3), (0, .ref (a 0)), (1, .int x1), (2, .int x2)]) hx hb dX2_payOf_102 hl (k := 4) rfl rfl (by decide) rfl (fun ls hl => ?_)
            refine lv_goto (tgt := 64) hx hb dX2_payOf_105 (by decide) ?_
            exact hk64 _ _ _ _  ls (lv_sub hl [2, 3, 4, 1, 0] rfl) hv
          · have hv := o_neg hv c208
            refine lv_aload_n hx hb dX2_payOf_90 rfl (lv_at hl 0 rfl) ?_
            refine gtX2_told hx hb hts hinX2 hown hK hP (by decide +kernel) dX2_payOf_91 ?_
            refine lv_iload hx hb dX2_payOf_94 (lv_at hl 4 rfl) ?_
            obtain ⟨g209, hv⟩ := o_grd hv
            refine alX2_told hx hb hK hP g209 dX2_payOf_96 ?_
            refine lv_goto (tgt := 101) hx hb dX2_payOf_97 (by decide) ?_
            refine lv_istore_n (lv' := [(3, .int (m_told u x4.toNatClampNeg)), (0, .ref (a 0)), (1, .int x1), (2, .int x2), (4, .int x4)]) hx hb dX2_payOf_101 rfl hl (by decide) rfl (fun ls hl => ?_)
            refine lv_iinc (v := (x4 + 1)) (lv' := [(4, .int (x4 + 1)), (3, .int (m_told u x4.toNatClampNeg)), (0, .ref (a 0)), (1, .int x1), (2, .int x2)]) hx hb dX2_payOf_102 hl (k := 4) rfl rfl (by decide) rfl (fun ls hl => ?_)
            refine lv_goto (tgt := 64) hx hb dX2_payOf_105 (by decide) ?_
            exact hk64 _ _ _ _  ls (lv_sub hl [2, 3, 4, 1, 0] rfl) hv
  have hB128 : ∀ (x1 : Int32) (xs0 : Int32) (ls : Array Slot), lv_has ls 5 [(1, .int x1)] → B_X2_payOf_128 u x1 xs0 = some v → W p l e rm_X2_payOf s m args below meth c s.heap [] 0 0 Q (F0 m 128 ls [.int xs0]) := by
    intro x1 xs0 ls hl hv
    unfold B_X2_payOf_128 at hv
    refine lv_istore_n (lv' := [(3, .int xs0), (1, .int x1)]) hx hb dX2_payOf_128 rfl hl (by decide) rfl (fun ls hl => ?_)
    refine lv_iload_n hx hb dX2_payOf_129 rfl (lv_at hl 1 rfl) ?_
    refine lv_iconst (v := 1) hx hb dX2_payOf_130 (by decide) ?_
    refine lv_icmp_le (tgt := 143) hx hb dX2_payOf_131 (by decide) (fun c310 => ?_) (fun c310 => ?_)
    · have hv := o_pos hv c310
      refine lv_iload_n hx hb dX2_payOf_143 rfl (lv_at hl 0 rfl) ?_
      exact fin dX2_payOf_144 hv
    · have hv := o_neg hv c310
      refine lv_iload_n hx hb dX2_payOf_134 rfl (lv_at hl 0 rfl) ?_
      refine lv_iload_n hx hb dX2_payOf_135 rfl (lv_at hl 0 rfl) ?_
      refine lv_bipush (v := 10) hx hb dX2_payOf_136 (by decide) ?_
      refine lv_idiv hx hb dX2_payOf_138 (by decide) ?_
      refine lv_iadd hx hb dX2_payOf_139 ?_
      refine lv_goto (tgt := 144) hx hb dX2_payOf_140 (by decide) ?_
      exact fin dX2_payOf_144 hv
  have hB127 : ∀ (x1 : Int32) (x3 : Int32) (ls : Array Slot), lv_has ls 5 [(1, .int x1), (3, .int x3)] → B_X2_payOf_127 u x1 x3 = some v → W p l e rm_X2_payOf s m args below meth c s.heap [] 0 0 Q (F0 m 127 ls []) := by
    intro x1 x3 ls hl hv
    unfold B_X2_payOf_127 at hv
    refine lv_iload_n hx hb dX2_payOf_127 rfl (lv_at hl 1 rfl) ?_
    exact hB128 _ _  ls (lv_sub hl [0] rfl) hv
  unfold f_X2_payOf at hv
  refine lv_iconst (v := 0) hx hb dX2_payOf_0 (by decide) ?_
  refine lv_istore_n (lv' := [(2, .int (0 : Int32)), (0, .ref (a 0)), (1, .int x1)]) hx hb dX2_payOf_1 rfl hl (by decide) rfl (fun ls hl => ?_)
  refine lv_iconst (v := 1) hx hb dX2_payOf_2 (by decide) ?_
  refine lv_istore_n (lv' := [(3, .int (1 : Int32)), (2, .int (0 : Int32)), (0, .ref (a 0)), (1, .int x1)]) hx hb dX2_payOf_3 rfl hl (by decide) rfl (fun ls hl => ?_)
  refine hB4 _ (fun z511_1 z511_2 ls hl hv => ?_) 1000 _ _ _ ls (lv_sub hl [2, 3, 1, 0] rfl) hv
  · skip
    refine lv_iload_n hx hb dX2_payOf_39 rfl (lv_at hl 1 rfl) ?_
    refine lv_if_le (tgt := 59) hx hb dX2_payOf_40 (by decide) (fun c512 => ?_) (fun c512 => ?_)
    · have hv := o_pos hv c512
      refine lv_iconst (v := 0) hx hb dX2_payOf_59 (by decide) ?_
      refine lv_istore_n (lv' := [(3, .int (0 : Int32)), (0, .ref (a 0)), (1, .int z511_1), (2, .int z511_2)]) hx hb dX2_payOf_60 rfl hl (by decide) rfl (fun ls hl => ?_)
      refine lv_iconst (v := 0) hx hb dX2_payOf_61 (by decide) ?_
      refine lv_istore (lv' := [(4, .int (0 : Int32)), (3, .int (0 : Int32)), (0, .ref (a 0)), (1, .int z511_1), (2, .int z511_2)]) hx hb dX2_payOf_62 hl (by decide) rfl (fun ls hl => ?_)
      refine hB64 _ (fun z513_1 z513_3 ls hl hv => ?_) 1000 _ _ _ _ ls (lv_sub hl [2, 3, 4, 1, 0] rfl) hv
      · skip
        refine lv_iload_n hx hb dX2_payOf_108 rfl (lv_at hl 1 rfl) ?_
        refine lv_if_le (tgt := 127) hx hb dX2_payOf_109 (by decide) (fun c514 => ?_) (fun c514 => ?_)
        · have hv := o_pos hv c514
          exact hB127 _ _  ls (lv_sub hl [1, 2] rfl) hv
        · have hv := o_neg hv c514
          refine lv_iload_n hx hb dX2_payOf_112 rfl (lv_at hl 2 rfl) ?_
          refine lv_aload_n hx hb dX2_payOf_113 rfl (lv_at hl 0 rfl) ?_
          refine gtX2_reserve hx hb hts hinX2 hown hK hP (by decide +kernel) dX2_payOf_114 ?_
          refine lv_icmp_ge (tgt := 127) hx hb dX2_payOf_117 (by decide) (fun c515 => ?_) (fun c515 => ?_)
          · have hv := o_pos hv c515
            exact hB127 _ _  ls (lv_sub hl [1, 2] rfl) hv
          · have hv := o_neg hv c515
            refine lv_aload_n hx hb dX2_payOf_120 rfl (lv_at hl 0 rfl) ?_
            refine gtX2_reserve hx hb hts hinX2 hown hK hP (by decide +kernel) dX2_payOf_121 ?_
            refine lv_goto (tgt := 128) hx hb dX2_payOf_124 (by decide) ?_
            exact hB128 _ _  ls (lv_sub hl [1] rfl) hv
    · have hv := o_neg hv c512
      refine lv_aload_n hx hb dX2_payOf_43 rfl (lv_at hl 0 rfl) ?_
      refine gtX2_told hx hb hts hinX2 hown hK hP (by decide +kernel) dX2_payOf_44 ?_
      refine lv_iload_n hx hb dX2_payOf_47 rfl (lv_at hl 2 rfl) ?_
      obtain ⟨g516, hv⟩ := o_grd hv
      refine alX2_told hx hb hK hP g516 dX2_payOf_48 ?_
      refine lv_aload_n hx hb dX2_payOf_49 rfl (lv_at hl 0 rfl) ?_
      refine gtX2_reserve hx hb hts hinX2 hown hK hP (by decide +kernel) dX2_payOf_50 ?_
      refine lv_icmp_ge (tgt := 59) hx hb dX2_payOf_53 (by decide) (fun c517 => ?_) (fun c517 => ?_)
      · have hv := o_pos hv c517
        refine lv_iconst (v := 0) hx hb dX2_payOf_59 (by decide) ?_
        refine lv_istore_n (lv' := [(3, .int (0 : Int32)), (0, .ref (a 0)), (1, .int z511_1), (2, .int z511_2)]) hx hb dX2_payOf_60 rfl hl (by decide) rfl (fun ls hl => ?_)
        refine lv_iconst (v := 0) hx hb dX2_payOf_61 (by decide) ?_
        refine lv_istore (lv' := [(4, .int (0 : Int32)), (3, .int (0 : Int32)), (0, .ref (a 0)), (1, .int z511_1), (2, .int z511_2)]) hx hb dX2_payOf_62 hl (by decide) rfl (fun ls hl => ?_)
        refine hB64 _ (fun z518_1 z518_3 ls hl hv => ?_) 1000 _ _ _ _ ls (lv_sub hl [2, 3, 4, 1, 0] rfl) hv
        · skip
          refine lv_iload_n hx hb dX2_payOf_108 rfl (lv_at hl 1 rfl) ?_
          refine lv_if_le (tgt := 127) hx hb dX2_payOf_109 (by decide) (fun c519 => ?_) (fun c519 => ?_)
          · have hv := o_pos hv c519
            exact hB127 _ _  ls (lv_sub hl [1, 2] rfl) hv
          · have hv := o_neg hv c519
            refine lv_iload_n hx hb dX2_payOf_112 rfl (lv_at hl 2 rfl) ?_
            refine lv_aload_n hx hb dX2_payOf_113 rfl (lv_at hl 0 rfl) ?_
            refine gtX2_reserve hx hb hts hinX2 hown hK hP (by decide +kernel) dX2_payOf_114 ?_
            refine lv_icmp_ge (tgt := 127) hx hb dX2_payOf_117 (by decide) (fun c520 => ?_) (fun c520 => ?_)
            · have hv := o_pos hv c520
              exact hB127 _ _  ls (lv_sub hl [1, 2] rfl) hv
            · have hv := o_neg hv c520
              refine lv_aload_n hx hb dX2_payOf_120 rfl (lv_at hl 0 rfl) ?_
              refine gtX2_reserve hx hb hts hinX2 hown hK hP (by decide +kernel) dX2_payOf_121 ?_
              refine lv_goto (tgt := 128) hx hb dX2_payOf_124 (by decide) ?_
              exact hB128 _ _  ls (lv_sub hl [1] rfl) hv
      · have hv := o_neg hv c517
        refine lv_bipush (v := -9) hx hb dX2_payOf_56 (by decide) ?_
        exact fin dX2_payOf_58 hv
abbrev rm_X2_pay : Room := { frames := 1, cells := 0, slots := 0, locals := 24 }
set_option maxHeartbeats 4000000 in
set_option maxRecDepth 100000 in
theorem c_X2_pay (l : Launch) (D : va_G) (cA : ClassId) (a : Nat → Nat) (u : StM) (x1 : Int32) (x2 : Int32) (x3 : Int32) (x4 : Int32) (v : Int32 × StM) (hv : f_X2_pay u x1 x2 x3 x4 = some v) (hd : djM a) : Met l yX2_pay wsX2_pay rm_X2_pay (va_Pc [.ref (a 0), .int x1, .int x2, .int x3, .int x4] (roB D cA [wM cA a u])) (va_Qi (fun (r : Int32) (u1 : StM) => (r, u1) = v) (fun (u1 : StM) t => va_P D vwCl (wM cA a u1) t.heap) (inM a)) 0 0 (inM a) := by
  refine wr_i (wf := fun u => wM cA a u) (cc := cX2_pay) (maxL := 7) (own := RX2) (by decide) rfl rfl (Nat.le_of_ble_eq_true rfl) ?_
  intro p e s m args below meth c Q ls hC hK hZ hws hl fin
  obtain ⟨hx, hb, hml, hown, hts⟩ := id hC
  have hl : lv_has ls 7 [(0, .ref (a 0)), (1, .int x1), (2, .int x2), (3, .int x3), (4, .int x4)] := hl
  have hP : va_P D vwCl (wM cA a u) s.heap := hws _ (List.mem_of_getElem? (i := 0) rfl)
  have hinX2 : ∀ w ∈ wsX20, w ∈ wsX2_pay := fun w h => List.mem_cons_of_mem _ (List.mem_append_right _ h)
  have hS : va_S (inM a) s.heap s.heap [] := va_S.rf
  have hB38 : ∀ (k72 : StM → Int32 → Int32 → Option (Int32 × StM)) (hk72 : ∀ (u : StM) (H : Heap) (locs : List Loc) (x1 : Int32) (x5 : Int32) (ls : Array Slot), va_P D vwCl (wM cA a u) H → va_S (inM a) s.heap H locs → lv_has ls 7 [(0, .ref (a 0)), (1, .int x1), (5, .int x5)] → k72 u x1 x5 = some v → W p l e rm_X2_pay s m args below meth c H locs 0 0 Q (F0 m 72 ls [])) (n : Nat) (u : StM) (H : Heap) (locs : List Loc) (x1 : Int32) (x5 : Int32) (x6 : Int32) (ls : Array Slot), va_P D vwCl (wM cA a u) H → va_S (inM a) s.heap H locs → lv_has ls 7 [(0, .ref (a 0)), (1, .int x1), (5, .int x5), (6, .int x6)] → B_X2_pay_38 k72 n u x1 x5 x6 = some v → W p l e rm_X2_pay s m args below meth c H locs 0 0 Q (F0 m 38 ls []) := by
    intro k72 hk72 n
    induction n with
    | zero => intro u H locs x1 x5 x6 ls hP hS hl hv; exact absurd hv (by intro h; cases h)
    | succ n hk38 =>
      intro u H locs x1 x5 x6 ls hP hS hl hv
      rw [B_X2_pay_38] at hv
      refine lv_iload hx hb dX2_pay_38 (lv_at hl 3 rfl) ?_
      refine lv_aload_n hx hb dX2_pay_40 rfl (lv_at hl 0 rfl) ?_
      refine gtX2_n hx hb hts hinX2 hown hK hP (by decide +kernel) dX2_pay_41 ?_
      refine lv_icmp_ge (tgt := 72) hx hb dX2_pay_44 (by decide) (fun c101 => ?_) (fun c101 => ?_)
      · have hv := o_pos hv c101
        exact hk72 _ _ _ _ _  ls hP hS (lv_sub hl [0, 1, 2] rfl) hv
      · have hv := o_neg hv c101
        refine lv_iload hx hb dX2_pay_47 (lv_at hl 2 rfl) ?_
        refine lv_aload_n hx hb dX2_pay_49 rfl (lv_at hl 0 rfl) ?_
        refine gtX2_told hx hb hts hinX2 hown hK hP (by decide +kernel) dX2_pay_50 ?_
        refine lv_iload hx hb dX2_pay_53 (lv_at hl 3 rfl) ?_
        obtain ⟨g102, hv⟩ := o_grd hv
        refine alX2_told hx hb hK hP g102 dX2_pay_55 ?_
        refine lv_iconst (v := 0) hx hb dX2_pay_56 (by decide) ?_
        refine lv_sipush (v := 1000) hx hb dX2_pay_57 (by decide) ?_
        obtain ⟨r103, e103, hv⟩ := o_bind hv
        refine rcall_i (W.runS (As := [.int (m_told u x6.toNatClampNeg), .int (0 : Int32), .int (1000 : Int32)]) (rest := [.int x5]) hC (c_X2_in l D cA (m_told u x6.toNatClampNeg) (0 : Int32) (1000 : Int32) r103 e103) (va_cwS 3 hts gX2_pay_X2_in rfl rfl rfl (by decide +kernel) ⟨Nat.le_of_ble_eq_true rfl, Nat.le_of_ble_eq_true rfl⟩) ⟨roB_blind, roB_pre hK hZ hws_0⟩ rfl rfl hl.1 rfl (lv_room (Nat.le_of_ble_eq_true rfl)) dX2_pay_60 ⟨Nat.le_of_ble_eq_true rfl, Nat.le_of_ble_eq_true rfl⟩) ?_
        refine lv_iand hx hb dX2_pay_63 ?_
        refine lv_istore (lv' := [(5, .int (x5 &&& r103)), (0, .ref (a 0)), (1, .int x1), (6, .int x6)]) hx hb dX2_pay_64 hl (by decide) rfl (fun ls hl => ?_)
        refine lv_iinc (v := (x6 + 1)) (lv' := [(6, .int (x6 + 1)), (5, .int (x5 &&& r103)), (0, .ref (a 0)), (1, .int x1)]) hx hb dX2_pay_66 hl (k := 3) rfl rfl (by decide) rfl (fun ls hl => ?_)
        refine lv_goto (tgt := 38) hx hb dX2_pay_69 (by decide) ?_
        exact hk38 _ _ _ _ _ _  ls hP hS (lv_sub hl [2, 3, 1, 0] rfl) hv
  unfold f_X2_pay at hv
  skip
  refine lv_aload_n hx hb dX2_pay_0 rfl (lv_at hl 0 rfl) ?_
  refine lv_iconst (v := 0) hx hb dX2_pay_1 (by decide) ?_
  refine ptX2_thrown hx hb hts hinX2 hown hK hP (dM hd _) hS (by decide +kernel) dX2_pay_2 (fun H locs hP hS => ?_)
  refine lv_aload_n hx hb dX2_pay_5 rfl (lv_at hl 0 rfl) ?_
  refine gtX2_told hx hb hts hinX2 hown hK hP (by decide +kernel) dX2_pay_6 ?_
  refine lv_iconst (v := 0) hx hb dX2_pay_9 (by decide) ?_
  refine lv_iload_n hx hb dX2_pay_10 rfl (lv_at hl 2 rfl) ?_
  obtain ⟨g204, hv⟩ := o_grd hv
  refine asX2_told hx hb hK hP (dM hd _) hS g204 dX2_pay_11 (fun H locs hP hS => ?_)
  refine lv_aload_n hx hb dX2_pay_12 rfl (lv_at hl 0 rfl) ?_
  refine gtX2_told hx hb hts hinX2 hown hK hP (by decide +kernel) dX2_pay_13 ?_
  refine lv_iconst (v := 1) hx hb dX2_pay_16 (by decide) ?_
  refine lv_iload_n hx hb dX2_pay_17 rfl (lv_at hl 3 rfl) ?_
  obtain ⟨g205, hv⟩ := o_grd hv
  refine asX2_told hx hb hK hP (dM hd _) hS g205 dX2_pay_18 (fun H locs hP hS => ?_)
  refine lv_aload_n hx hb dX2_pay_19 rfl (lv_at hl 0 rfl) ?_
  refine gtX2_told hx hb hts hinX2 hown hK hP (by decide +kernel) dX2_pay_20 ?_
  refine lv_iconst (v := 2) hx hb dX2_pay_23 (by decide) ?_
  refine lv_iload hx hb dX2_pay_24 (lv_at hl 4 rfl) ?_
  obtain ⟨g206, hv⟩ := o_grd hv
  refine asX2_told hx hb hK hP (dM hd _) hS g206 dX2_pay_26 (fun H locs hP hS => ?_)
  refine lv_iload_n hx hb dX2_pay_27 rfl (lv_at hl 1 rfl) ?_
  refine lv_iconst (v := 0) hx hb dX2_pay_28 (by decide) ?_
  refine lv_iconst (v := 2) hx hb dX2_pay_29 (by decide) ?_
  obtain ⟨r207, e207, hv⟩ := o_bind hv
  refine rcall_i (W.runS (As := [.int x1, .int (0 : Int32), .int (2 : Int32)]) (rest := []) hC (c_X2_in l D cA x1 (0 : Int32) (2 : Int32) r207 e207) (va_cwS 3 hts gX2_pay_X2_in rfl rfl rfl (by decide +kernel) ⟨Nat.le_of_ble_eq_true rfl, Nat.le_of_ble_eq_true rfl⟩) ⟨roB_blind, roB_pre hK hZ hws_0⟩ rfl rfl hl.1 rfl (lv_room (Nat.le_of_ble_eq_true rfl)) dX2_pay_30 ⟨Nat.le_of_ble_eq_true rfl, Nat.le_of_ble_eq_true rfl⟩) ?_
  refine lv_istore (lv' := [(5, .int r207), (0, .ref (a 0)), (1, .int x1), (2, .int x2), (3, .int x3), (4, .int x4)]) hx hb dX2_pay_33 hl (by decide) rfl (fun ls hl => ?_)
  refine lv_iconst (v := 0) hx hb dX2_pay_35 (by decide) ?_
  refine lv_istore (lv' := [(6, .int (0 : Int32)), (5, .int r207), (0, .ref (a 0)), (1, .int x1), (2, .int x2), (3, .int x3), (4, .int x4)]) hx hb dX2_pay_36 hl (by decide) rfl (fun ls hl => ?_)
  refine hB38 _ (fun z208_u H locs z208_1 z208_5 ls hP hS hl hv => ?_) 1000 _ _ _ _ _ _ ls hP hS (lv_sub hl [2, 3, 1, 0] rfl) hv
  · skip
    refine lv_iload hx hb dX2_pay_72 (lv_at hl 2 rfl) ?_
    refine lv_if_ne (tgt := 79) hx hb dX2_pay_74 (by decide) (fun c209 => ?_) (fun c209 => ?_)
    · have hv := o_neg hv c209
      refine lv_aload_n hx hb dX2_pay_79 rfl (lv_at hl 0 rfl) ?_
      refine lv_iload_n hx hb dX2_pay_80 rfl (lv_at hl 1 rfl) ?_
      obtain ⟨r210, e210, hv⟩ := o_bind hv
      refine rcall_i (W.runV (As := [.int z208_1]) (rest := []) hC (c_X2_payOf l D cA a z208_u z208_1 r210 e210) (cwV 1 hts gX2_pay_X2_payOf rfl rfl rfl (by decide +kernel) ⟨Nat.le_of_ble_eq_true rfl, Nat.le_of_ble_eq_true rfl⟩) ⟨roB_blind, va_recv (ci := 2) (q0 := 0) hK hP rfl rfl, roB_pre hK hZ (hws_1 hP)⟩ rfl rfl hl.1 rfl (lv_room (Nat.le_of_ble_eq_true rfl)) dX2_pay_81 ⟨Nat.le_of_ble_eq_true rfl, Nat.le_of_ble_eq_true rfl⟩) ?_
      refine lv_istore (lv' := [(6, .int r210), (0, .ref (a 0)), (1, .int z208_1), (5, .int z208_5)]) hx hb dX2_pay_84 hl (by decide) rfl (fun ls hl => ?_)
      refine lv_iload hx hb dX2_pay_86 (lv_at hl 0 rfl) ?_
      refine lv_bipush (v := -9) hx hb dX2_pay_88 (by decide) ?_
      refine lv_icmp_eq (tgt := 124) hx hb dX2_pay_90 (by decide) (fun c211 => ?_) (fun c211 => ?_)
      · have hv := o_pos hv c211
        refine lv_iload hx hb dX2_pay_124 (lv_at hl 0 rfl) ?_
        exact fin hP hS dX2_pay_126 hv
      · have hv := o_neg hv c211
        refine lv_aload_n hx hb dX2_pay_93 rfl (lv_at hl 1 rfl) ?_
        refine lv_dup hx hb dX2_pay_94 rfl ?_
        refine gtX2_trace hx hb hts hinX2 hown hK hP (by decide +kernel) dX2_pay_95 ?_
        refine lv_iload_n hx hb dX2_pay_98 rfl (lv_at hl 2 rfl) ?_
        refine lv_if_ne (tgt := 106) hx hb dX2_pay_99 (by decide) (fun c212 => ?_) (fun c212 => ?_)
        · have hv := o_neg hv c212
          refine lv_iload_n hx hb dX2_pay_106 rfl (lv_at hl 2 rfl) ?_
          refine lv_iconst (v := 1) hx hb dX2_pay_107 (by decide) ?_
          refine lv_icmp_ne (tgt := 117) hx hb dX2_pay_108 (by decide) (fun c213 => ?_) (fun c213 => ?_)
          · have hv := o_neg hv c213
            refine lv_ldc2 (v := 111) hx hb hown (hts (.constantLong RX2 112 (111)) (by decide +kernel)) dX2_pay_117 ?_
            refine lv_ladd hx hb dX2_pay_120 ?_
            refine ptX2_trace hx hb hts hinX2 hown hK hP (dM hd _) hS (by decide +kernel) dX2_pay_121 (fun H locs hP hS => ?_)
            refine lv_iload hx hb dX2_pay_124 (lv_at hl 0 rfl) ?_
            exact fin hP hS dX2_pay_126 hv
          · have hv := o_pos hv c213
            refine lv_ldc2 (v := 11) hx hb hown (hts (.constantLong RX2 110 (11)) (by decide +kernel)) dX2_pay_111 ?_
            refine lv_goto (tgt := 120) hx hb dX2_pay_114 (by decide) ?_
            refine lv_ladd hx hb dX2_pay_120 ?_
            refine ptX2_trace hx hb hts hinX2 hown hK hP (dM hd _) hS (by decide +kernel) dX2_pay_121 (fun H locs hP hS => ?_)
            refine lv_iload hx hb dX2_pay_124 (lv_at hl 0 rfl) ?_
            exact fin hP hS dX2_pay_126 hv
        · have hv := o_pos hv c212
          refine lv_lconst (v := 1) hx hb dX2_pay_102 (by decide) ?_
          refine lv_goto (tgt := 120) hx hb dX2_pay_103 (by decide) ?_
          refine lv_ladd hx hb dX2_pay_120 ?_
          refine ptX2_trace hx hb hts hinX2 hown hK hP (dM hd _) hS (by decide +kernel) dX2_pay_121 (fun H locs hP hS => ?_)
          refine lv_iload hx hb dX2_pay_124 (lv_at hl 0 rfl) ?_
          exact fin hP hS dX2_pay_126 hv
    · have hv := o_pos hv c209
      refine lv_iconst (v := -1) hx hb dX2_pay_77 (by decide) ?_
      exact fin hP hS dX2_pay_78 hv
