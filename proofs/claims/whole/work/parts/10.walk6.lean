abbrev rm_X2_isPlace : Room := { frames := 1, cells := 0, slots := 0, locals := 22 }
set_option maxHeartbeats 4000000 in
set_option maxRecDepth 100000 in
theorem c_X2_isPlace (l : Launch) (D : va_G) (cA : ClassId) (a : Nat → Nat) (u : StM) (x1 : Int32) (x2 : Int32) (v : Int32) (hv : f_X2_isPlace u x1 x2 = some v)  : Met l yX2_isPlace wsX2_isPlace rm_X2_isPlace (va_Pc [.ref (a 0), .int x1, .int x2] (roB D cA [wM cA a u])) (vp_Si (fun r => r = v)) 0 0 (fun _ => False) := by
  refine ro_z (cc := cX2_isPlace) (maxL := 3) (own := RX2) (by decide) rfl rfl (Nat.le_of_ble_eq_true rfl) ?_
  intro p e s m args below meth c Q ls hC hK hZ hws hl fin
  obtain ⟨hx, hb, hml, hown, hts⟩ := id hC
  have hl : lv_has ls 3 [(0, .ref (a 0)), (1, .int x1), (2, .int x2)] := hl
  have hP : va_P D vwCl (wM cA a u) s.heap := hws _ (List.mem_of_getElem? (i := 0) rfl)
  have hinX2 : ∀ w ∈ wsX20, w ∈ wsX2_isPlace := fun w h => List.mem_cons_of_mem _ (List.mem_append_right _ h)
  unfold f_X2_isPlace at hv
  refine lv_iload_n hx hb dX2_isPlace_0 rfl (lv_at hl 2 rfl) ?_
  refine lv_iconst (v := 0) hx hb dX2_isPlace_1 (by decide) ?_
  refine lv_aload_n hx hb dX2_isPlace_2 rfl (lv_at hl 0 rfl) ?_
  refine gtX2_many hx hb hts hinX2 hown hK hP (by decide +kernel) dX2_isPlace_3 ?_
  refine lv_iload_n hx hb dX2_isPlace_6 rfl (lv_at hl 1 rfl) ?_
  obtain ⟨g101, hv⟩ := o_grd hv
  refine alX2_many hx hb hK hP g101 dX2_isPlace_7 ?_
  refine lv_iconst (v := 1) hx hb dX2_isPlace_8 (by decide) ?_
  refine lv_isub hx hb dX2_isPlace_9 ?_
  obtain ⟨r102, e102, hv⟩ := o_bind hv
  refine rcall_i (W.runS (As := [.int x2, .int (0 : Int32), .int ((m_many u x1.toNatClampNeg) - (1 : Int32))]) (rest := []) hC (c_X2_in l D cA x2 (0 : Int32) ((m_many u x1.toNatClampNeg) - (1 : Int32)) r102 e102) (va_cwS 3 hts gX2_isPlace_X2_in rfl rfl rfl (by decide +kernel) ⟨Nat.le_of_ble_eq_true rfl, Nat.le_of_ble_eq_true rfl⟩) ⟨roB_blind, roB_pre hK hZ hws_0⟩ rfl rfl hl.1 rfl (lv_room (Nat.le_of_ble_eq_true rfl)) dX2_isPlace_10 ⟨Nat.le_of_ble_eq_true rfl, Nat.le_of_ble_eq_true rfl⟩) ?_
  obtain ⟨g103, hv⟩ := o_grp hv
  exact fin dX2_isPlace_13 g103 hv
abbrev rm_X2_about : Room := { frames := 2, cells := 0, slots := 0, locals := 46 }
set_option maxHeartbeats 4000000 in
set_option maxRecDepth 100000 in
theorem c_X2_about (l : Launch) (D : va_G) (cA : ClassId) (a : Nat → Nat) (u : StM) (x1 : Int32) (x2 : Int32) (x3 : Int32) (v : Int32 × StM) (hv : f_X2_about u x1 x2 x3 = some v) (hd : djM a) : Met l yX2_about wsX2_about rm_X2_about (va_Pc [.ref (a 0), .int x1, .int x2, .int x3] (roB D cA [wM cA a u])) (va_Qi (fun (r : Int32) (u1 : StM) => (r, u1) = v) (fun (u1 : StM) t => va_P D vwCl (wM cA a u1) t.heap) (inM a)) 0 0 (inM a) := by
  refine wr_i (wf := fun u => wM cA a u) (cc := cX2_about) (maxL := 4) (own := RX2) (by decide) rfl rfl (Nat.le_of_ble_eq_true rfl) ?_
  intro p e s m args below meth c Q ls hC hK hZ hws hl fin
  obtain ⟨hx, hb, hml, hown, hts⟩ := id hC
  have hl : lv_has ls 4 [(0, .ref (a 0)), (1, .int x1), (2, .int x2), (3, .int x3)] := hl
  have hP : va_P D vwCl (wM cA a u) s.heap := hws _ (List.mem_of_getElem? (i := 0) rfl)
  have hinX2 : ∀ w ∈ wsX20, w ∈ wsX2_about := fun w h => List.mem_cons_of_mem _ (List.mem_append_right _ h)
  have hS : va_S (inM a) s.heap s.heap [] := va_S.rf
  unfold f_X2_about at hv
  skip
  refine lv_aload_n hx hb dX2_about_0 rfl (lv_at hl 0 rfl) ?_
  refine lv_iconst (v := 0) hx hb dX2_about_1 (by decide) ?_
  refine ptX2_thrown hx hb hts hinX2 hown hK hP (dM hd _) hS (by decide +kernel) dX2_about_2 (fun H locs hP hS => ?_)
  refine lv_aload_n hx hb dX2_about_5 rfl (lv_at hl 0 rfl) ?_
  refine lv_iload_n hx hb dX2_about_6 rfl (lv_at hl 1 rfl) ?_
  obtain ⟨r101, e101, hv⟩ := o_bind hv
  refine rcall_i (W.runV (As := [.int x1]) (rest := []) hC (c_X2_isBuyer l D cA a (m_set_thrown u (0 : Int32)) x1 r101 e101) (cwV 1 hts gX2_about_X2_isBuyer rfl rfl rfl (by decide +kernel) ⟨Nat.le_of_ble_eq_true rfl, Nat.le_of_ble_eq_true rfl⟩) ⟨roB_blind, va_recv (ci := 2) (q0 := 0) hK hP rfl rfl, roB_pre hK hZ (hws_1 hP)⟩ rfl rfl hl.1 rfl (lv_room (Nat.le_of_ble_eq_true rfl)) dX2_about_7 ⟨Nat.le_of_ble_eq_true rfl, Nat.le_of_ble_eq_true rfl⟩) ?_
  refine lv_if_eq (tgt := 31) hx hb dX2_about_10 (by decide) (fun c102 => ?_) (fun c102 => ?_)
  · have hv := o_pos hv c102
    refine lv_iconst (v := -1) hx hb dX2_about_31 (by decide) ?_
    exact fin hP hS dX2_about_32 hv
  · have hv := o_neg hv c102
    refine lv_aload_n hx hb dX2_about_13 rfl (lv_at hl 0 rfl) ?_
    refine lv_iload_n hx hb dX2_about_14 rfl (lv_at hl 1 rfl) ?_
    refine lv_iload_n hx hb dX2_about_15 rfl (lv_at hl 2 rfl) ?_
    obtain ⟨r103, e103, hv⟩ := o_bind hv
    refine rcall_i (W.runV (As := [.int x1, .int x2]) (rest := []) hC (c_X2_isPlace l D cA a (m_set_thrown u (0 : Int32)) x1 x2 r103 e103) (cwV 2 hts gX2_about_X2_isPlace rfl rfl rfl (by decide +kernel) ⟨Nat.le_of_ble_eq_true rfl, Nat.le_of_ble_eq_true rfl⟩) ⟨roB_blind, va_recv (ci := 2) (q0 := 0) hK hP rfl rfl, roB_pre hK hZ (hws_1 hP)⟩ rfl rfl hl.1 rfl (lv_room (Nat.le_of_ble_eq_true rfl)) dX2_about_16 ⟨Nat.le_of_ble_eq_true rfl, Nat.le_of_ble_eq_true rfl⟩) ?_
    refine lv_if_eq (tgt := 31) hx hb dX2_about_19 (by decide) (fun c104 => ?_) (fun c104 => ?_)
    · have hv := o_pos hv c104
      refine lv_iconst (v := -1) hx hb dX2_about_31 (by decide) ?_
      exact fin hP hS dX2_about_32 hv
    · have hv := o_neg hv c104
      refine lv_iload_n hx hb dX2_about_22 rfl (lv_at hl 3 rfl) ?_
      refine lv_iconst (v := 0) hx hb dX2_about_23 (by decide) ?_
      refine lv_iconst (v := 3) hx hb dX2_about_24 (by decide) ?_
      obtain ⟨r105, e105, hv⟩ := o_bind hv
      refine rcall_i (W.runS (As := [.int x3, .int (0 : Int32), .int (3 : Int32)]) (rest := []) hC (c_X2_in l D cA x3 (0 : Int32) (3 : Int32) r105 e105) (va_cwS 3 hts gX2_about_X2_in rfl rfl rfl (by decide +kernel) ⟨Nat.le_of_ble_eq_true rfl, Nat.le_of_ble_eq_true rfl⟩) ⟨roB_blind, roB_pre hK hZ hws_0⟩ rfl rfl hl.1 rfl (lv_room (Nat.le_of_ble_eq_true rfl)) dX2_about_25 ⟨Nat.le_of_ble_eq_true rfl, Nat.le_of_ble_eq_true rfl⟩) ?_
      refine lv_if_ne (tgt := 33) hx hb dX2_about_28 (by decide) (fun c106 => ?_) (fun c106 => ?_)
      · have hv := o_neg hv c106
        refine lv_iload_n hx hb dX2_about_33 rfl (lv_at hl 3 rfl) ?_
        refine lv_if_ne (tgt := 50) hx hb dX2_about_34 (by decide) (fun c107 => ?_) (fun c107 => ?_)
        · have hv := o_neg hv c107
          refine lv_iload_n hx hb dX2_about_50 rfl (lv_at hl 3 rfl) ?_
          refine lv_iconst (v := 1) hx hb dX2_about_51 (by decide) ?_
          refine lv_icmp_ne (tgt := 68) hx hb dX2_about_52 (by decide) (fun c108 => ?_) (fun c108 => ?_)
          · have hv := o_neg hv c108
            refine lv_iload_n hx hb dX2_about_68 rfl (lv_at hl 3 rfl) ?_
            refine lv_iconst (v := 2) hx hb dX2_about_69 (by decide) ?_
            refine lv_icmp_ne (tgt := 82) hx hb dX2_about_70 (by decide) (fun c109 => ?_) (fun c109 => ?_)
            · have hv := o_neg hv c109
              refine lv_aload_n hx hb dX2_about_82 rfl (lv_at hl 0 rfl) ?_
              refine lv_iload_n hx hb dX2_about_83 rfl (lv_at hl 1 rfl) ?_
              refine lv_iload_n hx hb dX2_about_84 rfl (lv_at hl 2 rfl) ?_
              obtain ⟨r110, e110, hv⟩ := o_bind hv
              refine rcall_i (W.runV (As := [.int x1, .int x2]) (rest := []) hC (c_X2_take l D cA a (m_set_thrown u (0 : Int32)) x1 x2 r110 e110) (cwV 2 hts gX2_about_X2_take rfl rfl rfl (by decide +kernel) ⟨Nat.le_of_ble_eq_true rfl, Nat.le_of_ble_eq_true rfl⟩) ⟨roB_blind, va_recv (ci := 2) (q0 := 0) hK hP rfl rfl, roB_pre hK hZ (hws_1 hP)⟩ rfl rfl hl.1 rfl (lv_room (Nat.le_of_ble_eq_true rfl)) dX2_about_85 ⟨Nat.le_of_ble_eq_true rfl, Nat.le_of_ble_eq_true rfl⟩) ?_
              exact fin hP hS dX2_about_88 hv
            · have hv := o_pos hv c109
              refine lv_aload_n hx hb dX2_about_73 rfl (lv_at hl 0 rfl) ?_
              refine lv_iload_n hx hb dX2_about_74 rfl (lv_at hl 1 rfl) ?_
              refine lv_iload_n hx hb dX2_about_75 rfl (lv_at hl 2 rfl) ?_
              obtain ⟨r111, e111, hv⟩ := o_bind hv
              refine rcall_i (W.runV (As := [.int x1, .int x2]) (rest := []) hC (c_X2_share l D cA a (m_set_thrown u (0 : Int32)) x1 x2 r111 e111) (cwV 2 hts gX2_about_X2_share rfl rfl rfl (by decide +kernel) ⟨Nat.le_of_ble_eq_true rfl, Nat.le_of_ble_eq_true rfl⟩) ⟨roB_blind, va_recv (ci := 2) (q0 := 0) hK hP rfl rfl, roB_pre hK hZ (hws_1 hP)⟩ rfl rfl hl.1 rfl (lv_room (Nat.le_of_ble_eq_true rfl)) dX2_about_76 ⟨Nat.le_of_ble_eq_true rfl, Nat.le_of_ble_eq_true rfl⟩) ?_
              refine lv_goto (tgt := 88) hx hb dX2_about_79 (by decide) ?_
              exact fin hP hS dX2_about_88 hv
          · have hv := o_pos hv c108
            refine lv_aload_n hx hb dX2_about_55 rfl (lv_at hl 0 rfl) ?_
            refine gtX2_weight hx hb hts hinX2 hown hK hP (by decide +kernel) dX2_about_56 ?_
            refine lv_iconst (v := 5) hx hb dX2_about_59 (by decide) ?_
            refine lv_iload_n hx hb dX2_about_60 rfl (lv_at hl 1 rfl) ?_
            refine lv_imul hx hb dX2_about_61 ?_
            refine lv_iload_n hx hb dX2_about_62 rfl (lv_at hl 2 rfl) ?_
            refine lv_iadd hx hb dX2_about_63 ?_
            obtain ⟨g112, hv⟩ := o_grd hv
            refine alX2_weight hx hb hK hP g112 dX2_about_64 ?_
            refine lv_goto (tgt := 88) hx hb dX2_about_65 (by decide) ?_
            exact fin hP hS dX2_about_88 hv
        · have hv := o_pos hv c107
          refine lv_aload_n hx hb dX2_about_37 rfl (lv_at hl 0 rfl) ?_
          refine gtX2_worth hx hb hts hinX2 hown hK hP (by decide +kernel) dX2_about_38 ?_
          refine lv_iconst (v := 5) hx hb dX2_about_41 (by decide) ?_
          refine lv_iload_n hx hb dX2_about_42 rfl (lv_at hl 1 rfl) ?_
          refine lv_imul hx hb dX2_about_43 ?_
          refine lv_iload_n hx hb dX2_about_44 rfl (lv_at hl 2 rfl) ?_
          refine lv_iadd hx hb dX2_about_45 ?_
          obtain ⟨g113, hv⟩ := o_grd hv
          refine alX2_worth hx hb hK hP g113 dX2_about_46 ?_
          refine lv_goto (tgt := 88) hx hb dX2_about_47 (by decide) ?_
          exact fin hP hS dX2_about_88 hv
      · have hv := o_pos hv c106
        refine lv_iconst (v := -1) hx hb dX2_about_31 (by decide) ?_
        exact fin hP hS dX2_about_32 hv
abbrev rm_X2_whole : Room := { frames := 3, cells := 0, slots := 0, locals := 69 }
set_option maxHeartbeats 4000000 in
set_option maxRecDepth 100000 in
theorem c_X2_whole (l : Launch) (D : va_G) (cA : ClassId) (a : Nat → Nat) (u : StM) (x1 : Int32) (x2 : Int32) (v : Int32 × StM) (hv : f_X2_whole u x1 x2 = some v) (hd : djM a) : Met l yX2_whole wsX2_whole rm_X2_whole (va_Pc [.ref (a 0), .int x1, .int x2] (roB D cA [wM cA a u])) (va_Qi (fun (r : Int32) (u1 : StM) => (r, u1) = v) (fun (u1 : StM) t => va_P D vwCl (wM cA a u1) t.heap) (inM a)) 0 0 (inM a) := by
  refine wr_i (wf := fun u => wM cA a u) (cc := cX2_whole) (maxL := 3) (own := RX2) (by decide) rfl rfl (Nat.le_of_ble_eq_true rfl) ?_
  intro p e s m args below meth c Q ls hC hK hZ hws hl fin
  obtain ⟨hx, hb, hml, hown, hts⟩ := id hC
  have hl : lv_has ls 3 [(0, .ref (a 0)), (1, .int x1), (2, .int x2)] := hl
  have hP : va_P D vwCl (wM cA a u) s.heap := hws _ (List.mem_of_getElem? (i := 0) rfl)
  have hinX2 : ∀ w ∈ wsX20, w ∈ wsX2_whole := fun w h => List.mem_cons_of_mem _ (List.mem_append_right _ h)
  have hS : va_S (inM a) s.heap s.heap [] := va_S.rf
  unfold f_X2_whole at hv
  skip
  refine lv_aload_n hx hb dX2_whole_0 rfl (lv_at hl 0 rfl) ?_
  refine lv_iconst (v := 0) hx hb dX2_whole_1 (by decide) ?_
  refine ptX2_thrown hx hb hts hinX2 hown hK hP (dM hd _) hS (by decide +kernel) dX2_whole_2 (fun H locs hP hS => ?_)
  refine lv_aload_n hx hb dX2_whole_5 rfl (lv_at hl 0 rfl) ?_
  refine lv_iload_n hx hb dX2_whole_6 rfl (lv_at hl 1 rfl) ?_
  obtain ⟨r101, e101, hv⟩ := o_bind hv
  refine rcall_i (W.runV (As := [.int x1]) (rest := []) hC (c_X2_isBuyer l D cA a (m_set_thrown u (0 : Int32)) x1 r101 e101) (cwV 1 hts gX2_whole_X2_isBuyer rfl rfl rfl (by decide +kernel) ⟨Nat.le_of_ble_eq_true rfl, Nat.le_of_ble_eq_true rfl⟩) ⟨roB_blind, va_recv (ci := 2) (q0 := 0) hK hP rfl rfl, roB_pre hK hZ (hws_1 hP)⟩ rfl rfl hl.1 rfl (lv_room (Nat.le_of_ble_eq_true rfl)) dX2_whole_7 ⟨Nat.le_of_ble_eq_true rfl, Nat.le_of_ble_eq_true rfl⟩) ?_
  refine lv_if_eq (tgt := 22) hx hb dX2_whole_10 (by decide) (fun c102 => ?_) (fun c102 => ?_)
  · have hv := o_pos hv c102
    refine lv_iconst (v := -1) hx hb dX2_whole_22 (by decide) ?_
    exact fin hP hS dX2_whole_23 hv
  · have hv := o_neg hv c102
    refine lv_iload_n hx hb dX2_whole_13 rfl (lv_at hl 2 rfl) ?_
    refine lv_iconst (v := 0) hx hb dX2_whole_14 (by decide) ?_
    refine lv_iconst (v := 2) hx hb dX2_whole_15 (by decide) ?_
    obtain ⟨r103, e103, hv⟩ := o_bind hv
    refine rcall_i (W.runS (As := [.int x2, .int (0 : Int32), .int (2 : Int32)]) (rest := []) hC (c_X2_in l D cA x2 (0 : Int32) (2 : Int32) r103 e103) (va_cwS 3 hts gX2_whole_X2_in rfl rfl rfl (by decide +kernel) ⟨Nat.le_of_ble_eq_true rfl, Nat.le_of_ble_eq_true rfl⟩) ⟨roB_blind, roB_pre hK hZ hws_0⟩ rfl rfl hl.1 rfl (lv_room (Nat.le_of_ble_eq_true rfl)) dX2_whole_16 ⟨Nat.le_of_ble_eq_true rfl, Nat.le_of_ble_eq_true rfl⟩) ?_
    refine lv_if_ne (tgt := 24) hx hb dX2_whole_19 (by decide) (fun c104 => ?_) (fun c104 => ?_)
    · have hv := o_neg hv c104
      refine lv_iload_n hx hb dX2_whole_24 rfl (lv_at hl 2 rfl) ?_
      refine lv_if_ne (tgt := 37) hx hb dX2_whole_25 (by decide) (fun c105 => ?_) (fun c105 => ?_)
      · have hv := o_neg hv c105
        refine lv_iload_n hx hb dX2_whole_37 rfl (lv_at hl 2 rfl) ?_
        refine lv_iconst (v := 1) hx hb dX2_whole_38 (by decide) ?_
        refine lv_icmp_ne (tgt := 51) hx hb dX2_whole_39 (by decide) (fun c106 => ?_) (fun c106 => ?_)
        · have hv := o_neg hv c106
          refine lv_aload_n hx hb dX2_whole_51 rfl (lv_at hl 0 rfl) ?_
          refine lv_iload_n hx hb dX2_whole_52 rfl (lv_at hl 1 rfl) ?_
          obtain ⟨r107, e107, hv⟩ := o_bind hv
          refine rcall_i (W.runV (As := [.int x1]) (rest := []) hC (c_X2_bestOf l D cA a (m_set_thrown u (0 : Int32)) x1 r107 e107) (cwV 1 hts gX2_whole_X2_bestOf rfl rfl rfl (by decide +kernel) ⟨Nat.le_of_ble_eq_true rfl, Nat.le_of_ble_eq_true rfl⟩) ⟨roB_blind, va_recv (ci := 2) (q0 := 0) hK hP rfl rfl, roB_pre hK hZ (hws_1 hP)⟩ rfl rfl hl.1 rfl (lv_room (Nat.le_of_ble_eq_true rfl)) dX2_whole_53 ⟨Nat.le_of_ble_eq_true rfl, Nat.le_of_ble_eq_true rfl⟩) ?_
          exact fin hP hS dX2_whole_56 hv
        · have hv := o_pos hv c106
          refine lv_aload_n hx hb dX2_whole_42 rfl (lv_at hl 0 rfl) ?_
          refine lv_iload_n hx hb dX2_whole_43 rfl (lv_at hl 1 rfl) ?_
          refine lv_iconst (v := 0) hx hb dX2_whole_44 (by decide) ?_
          obtain ⟨r108, e108, hv⟩ := o_bind hv
          refine rcall_i (W.runV (As := [.int x1, .int (0 : Int32)]) (rest := []) hC (c_X2_share l D cA a (m_set_thrown u (0 : Int32)) x1 (0 : Int32) r108 e108) (cwV 2 hts gX2_whole_X2_share rfl rfl rfl (by decide +kernel) ⟨Nat.le_of_ble_eq_true rfl, Nat.le_of_ble_eq_true rfl⟩) ⟨roB_blind, va_recv (ci := 2) (q0 := 0) hK hP rfl rfl, roB_pre hK hZ (hws_1 hP)⟩ rfl rfl hl.1 rfl (lv_room (Nat.le_of_ble_eq_true rfl)) dX2_whole_45 ⟨Nat.le_of_ble_eq_true rfl, Nat.le_of_ble_eq_true rfl⟩) ?_
          refine lv_goto (tgt := 56) hx hb dX2_whole_48 (by decide) ?_
          exact fin hP hS dX2_whole_56 hv
      · have hv := o_pos hv c105
        refine lv_aload_n hx hb dX2_whole_28 rfl (lv_at hl 0 rfl) ?_
        refine gtX2_many hx hb hts hinX2 hown hK hP (by decide +kernel) dX2_whole_29 ?_
        refine lv_iload_n hx hb dX2_whole_32 rfl (lv_at hl 1 rfl) ?_
        obtain ⟨g109, hv⟩ := o_grd hv
        refine alX2_many hx hb hK hP g109 dX2_whole_33 ?_
        refine lv_goto (tgt := 56) hx hb dX2_whole_34 (by decide) ?_
        exact fin hP hS dX2_whole_56 hv
    · have hv := o_pos hv c104
      refine lv_iconst (v := -1) hx hb dX2_whole_22 (by decide) ?_
      exact fin hP hS dX2_whole_23 hv
abbrev rm_X2_irons : Room := { frames := 2, cells := 0, slots := 0, locals := 46 }
set_option maxHeartbeats 4000000 in
set_option maxRecDepth 100000 in
theorem c_X2_irons (l : Launch) (D : va_G) (cA : ClassId) (a : Nat → Nat) (u : StM) (x1 : Int32) (x2 : Int32) (v : StM) (hv : f_X2_irons u x1 x2 = some v) (hd : djM a) : Met l yX2_irons wsX2_irons rm_X2_irons (va_Pc [.ref (a 0), .int x1, .int x2] (roB D cA [wM cA a u])) (va_Qv (fun (u1 : StM) => u1 = v) (fun (u1 : StM) t => va_P D vwCl (wM cA a u1) t.heap) (inM a)) 0 0 (inM a) := by
  refine wr_v (wf := fun u => wM cA a u) (cc := cX2_irons) (maxL := 13) (own := RX2) (by decide) rfl rfl (Nat.le_of_ble_eq_true rfl) ?_
  intro p e s m args below meth c Q ls hC hK hZ hws hl fin
  obtain ⟨hx, hb, hml, hown, hts⟩ := id hC
  have hl : lv_has ls 13 [(0, .ref (a 0)), (1, .int x1), (2, .int x2)] := hl
  have hP : va_P D vwCl (wM cA a u) s.heap := hws _ (List.mem_of_getElem? (i := 0) rfl)
  have hinX2 : ∀ w ∈ wsX20, w ∈ wsX2_irons := fun w h => List.mem_cons_of_mem _ (List.mem_append_right _ h)
  have hS : va_S (inM a) s.heap s.heap [] := va_S.rf
  have hB33 : ∀ (k108 : StM → Int32 → Int32 → Int32 → Int64 → Int64 → Option (StM)) (hk108 : ∀ (u : StM) (H : Heap) (locs : List Loc) (x1 : Int32) (x2 : Int32) (x3 : Int32) (x4 : Int64) (x6 : Int64) (ls : Array Slot), va_P D vwCl (wM cA a u) H → va_S (inM a) s.heap H locs → lv_has ls 13 [(0, .ref (a 0)), (1, .int x1), (2, .int x2), (3, .int x3), (4, .long x4), (6, .long x6)] → k108 u x1 x2 x3 x4 x6 = some v → W p l e rm_X2_irons s m args below meth c H locs 0 0 Q (F0 m 108 ls [])) (n : Nat) (u : StM) (H : Heap) (locs : List Loc) (x1 : Int32) (x2 : Int32) (x3 : Int32) (x4 : Int64) (x6 : Int64) (x8 : Int32) (ls : Array Slot), va_P D vwCl (wM cA a u) H → va_S (inM a) s.heap H locs → lv_has ls 13 [(0, .ref (a 0)), (1, .int x1), (2, .int x2), (3, .int x3), (4, .long x4), (6, .long x6), (8, .int x8)] → B_X2_irons_33 k108 n u x1 x2 x3 x4 x6 x8 = some v → W p l e rm_X2_irons s m args below meth c H locs 0 0 Q (F0 m 33 ls []) := by
    intro k108 hk108 n
    induction n with
    | zero => intro u H locs x1 x2 x3 x4 x6 x8 ls hP hS hl hv; exact absurd hv (by intro h; cases h)
    | succ n hk33 =>
      intro u H locs x1 x2 x3 x4 x6 x8 ls hP hS hl hv
      rw [B_X2_irons_33] at hv
      refine lv_iload hx hb dX2_irons_33 (lv_at hl 6 rfl) ?_
      refine lv_iload_n hx hb dX2_irons_35 rfl (lv_at hl 2 rfl) ?_
      refine lv_icmp_gt (tgt := 108) hx hb dX2_irons_36 (by decide) (fun c101 => ?_) (fun c101 => ?_)
      · have hv := o_pos hv c101
        exact hk108 _ _ _ _ _ _ _ _  ls hP hS (lv_sub hl [0, 1, 2, 3, 4, 5] rfl) hv
      · have hv := o_neg hv c101
        refine lv_aload_n hx hb dX2_irons_39 rfl (lv_at hl 0 rfl) ?_
        refine lv_iload_n hx hb dX2_irons_40 rfl (lv_at hl 1 rfl) ?_
        refine lv_iload hx hb dX2_irons_41 (lv_at hl 6 rfl) ?_
        obtain ⟨r102, e102, hv⟩ := o_bind hv
        refine rcall_i (W.runV (As := [.int x1, .int x8]) (rest := []) hC (c_X2_take l D cA a u x1 x8 r102 e102) (cwV 2 hts gX2_irons_X2_take rfl rfl rfl (by decide +kernel) ⟨Nat.le_of_ble_eq_true rfl, Nat.le_of_ble_eq_true rfl⟩) ⟨roB_blind, va_recv (ci := 2) (q0 := 0) hK hP rfl rfl, roB_pre hK hZ (hws_1 hP)⟩ rfl rfl hl.1 rfl (lv_room (Nat.le_of_ble_eq_true rfl)) dX2_irons_43 ⟨Nat.le_of_ble_eq_true rfl, Nat.le_of_ble_eq_true rfl⟩) ?_
        refine lv_aload_n hx hb dX2_irons_46 rfl (lv_at hl 0 rfl) ?_
        refine lv_iload_n hx hb dX2_irons_47 rfl (lv_at hl 1 rfl) ?_
        refine lv_iload_n hx hb dX2_irons_48 rfl (lv_at hl 3 rfl) ?_
        obtain ⟨r103, e103, hv⟩ := o_bind hv
        refine rcall_i (W.runV (As := [.int x1, .int x3]) (rest := [.int r102]) hC (c_X2_take l D cA a u x1 x3 r103 e103) (cwV 2 hts gX2_irons_X2_take rfl rfl rfl (by decide +kernel) ⟨Nat.le_of_ble_eq_true rfl, Nat.le_of_ble_eq_true rfl⟩) ⟨roB_blind, va_recv (ci := 2) (q0 := 0) hK hP rfl rfl, roB_pre hK hZ (hws_1 hP)⟩ rfl rfl hl.1 rfl (lv_room (Nat.le_of_ble_eq_true rfl)) dX2_irons_49 ⟨Nat.le_of_ble_eq_true rfl, Nat.le_of_ble_eq_true rfl⟩) ?_
        refine lv_isub hx hb dX2_irons_52 ?_
        refine lv_i2l hx hb dX2_irons_53 rfl ?_
        refine lv_lstore (lv' := [(9, .long (((r102 - r103)).toInt64)), (0, .ref (a 0)), (1, .int x1), (2, .int x2), (3, .int x3), (4, .long x4), (6, .long x6), (8, .int x8)]) hx hb dX2_irons_54 hl (by decide) rfl (fun ls hl => ?_)
        refine lv_aload_n hx hb dX2_irons_56 rfl (lv_at hl 1 rfl) ?_
        refine lv_iload_n hx hb dX2_irons_57 rfl (lv_at hl 2 rfl) ?_
        refine lv_iload hx hb dX2_irons_58 (lv_at hl 7 rfl) ?_
        obtain ⟨r104, e104, hv⟩ := o_bind hv
        refine rcall_i (W.runV (As := [.int x1, .int x8]) (rest := []) hC (c_X2_share l D cA a u x1 x8 r104 e104) (cwV 2 hts gX2_irons_X2_share rfl rfl rfl (by decide +kernel) ⟨Nat.le_of_ble_eq_true rfl, Nat.le_of_ble_eq_true rfl⟩) ⟨roB_blind, va_recv (ci := 2) (q0 := 0) hK hP rfl rfl, roB_pre hK hZ (hws_1 hP)⟩ rfl rfl hl.1 rfl (lv_room (Nat.le_of_ble_eq_true rfl)) dX2_irons_60 ⟨Nat.le_of_ble_eq_true rfl, Nat.le_of_ble_eq_true rfl⟩) ?_
        refine lv_aload_n hx hb dX2_irons_63 rfl (lv_at hl 1 rfl) ?_
        refine lv_iload_n hx hb dX2_irons_64 rfl (lv_at hl 2 rfl) ?_
        refine lv_iload_n hx hb dX2_irons_65 rfl (lv_at hl 4 rfl) ?_
        obtain ⟨r105, e105, hv⟩ := o_bind hv
        refine rcall_i (W.runV (As := [.int x1, .int x3]) (rest := [.int r104]) hC (c_X2_share l D cA a u x1 x3 r105 e105) (cwV 2 hts gX2_irons_X2_share rfl rfl rfl (by decide +kernel) ⟨Nat.le_of_ble_eq_true rfl, Nat.le_of_ble_eq_true rfl⟩) ⟨roB_blind, va_recv (ci := 2) (q0 := 0) hK hP rfl rfl, roB_pre hK hZ (hws_1 hP)⟩ rfl rfl hl.1 rfl (lv_room (Nat.le_of_ble_eq_true rfl)) dX2_irons_66 ⟨Nat.le_of_ble_eq_true rfl, Nat.le_of_ble_eq_true rfl⟩) ?_
        refine lv_isub hx hb dX2_irons_69 ?_
        refine lv_i2l hx hb dX2_irons_70 rfl ?_
        refine lv_lstore (lv' := [(11, .long (((r104 - r105)).toInt64)), (9, .long (((r102 - r103)).toInt64)), (0, .ref (a 0)), (1, .int x1), (2, .int x2), (3, .int x3), (4, .long x4), (6, .long x6), (8, .int x8)]) hx hb dX2_irons_71 hl (by decide) rfl (fun ls hl => ?_)
        refine lv_lload hx hb dX2_irons_73 (lv_at hl 7 rfl) ?_
        refine lv_lconst (v := 0) hx hb dX2_irons_75 (by decide) ?_
        refine W.lcmp hx hb dX2_irons_76 ?_
        refine lv_if_eq (tgt := 94) hx hb dX2_irons_77 (by decide) (fun c106 => ?_) (fun c106 => ?_)
        · have hv := o_pos hv c106
          refine lv_lload hx hb dX2_irons_94 (lv_at hl 1 rfl) ?_
          refine lv_lstore (lv' := [(4, .long (((r102 - r103)).toInt64)), (11, .long (((r104 - r105)).toInt64)), (9, .long (((r102 - r103)).toInt64)), (0, .ref (a 0)), (1, .int x1), (2, .int x2), (3, .int x3), (6, .long x6), (8, .int x8)]) hx hb dX2_irons_96 hl (by decide) rfl (fun ls hl => ?_)
          refine lv_lload hx hb dX2_irons_98 (lv_at hl 1 rfl) ?_
          refine lv_lstore (lv' := [(6, .long (((r104 - r105)).toInt64)), (4, .long (((r102 - r103)).toInt64)), (11, .long (((r104 - r105)).toInt64)), (9, .long (((r102 - r103)).toInt64)), (0, .ref (a 0)), (1, .int x1), (2, .int x2), (3, .int x3), (8, .int x8)]) hx hb dX2_irons_100 hl (by decide) rfl (fun ls hl => ?_)
          refine lv_iinc (v := (x8 + 1)) (lv' := [(8, .int (x8 + 1)), (6, .long (((r104 - r105)).toInt64)), (4, .long (((r102 - r103)).toInt64)), (11, .long (((r104 - r105)).toInt64)), (9, .long (((r102 - r103)).toInt64)), (0, .ref (a 0)), (1, .int x1), (2, .int x2), (3, .int x3)]) hx hb dX2_irons_102 hl (k := 8) rfl rfl (by decide) rfl (fun ls hl => ?_)
          refine lv_goto (tgt := 33) hx hb dX2_irons_105 (by decide) ?_
          exact hk33 _ _ _ _ _ _ _ _ _  ls hP hS (lv_sub hl [5, 6, 7, 8, 2, 1, 0] rfl) hv
        · have hv := o_neg hv c106
          refine lv_lload hx hb dX2_irons_80 (lv_at hl 1 rfl) ?_
          refine lv_lload hx hb dX2_irons_82 (lv_at hl 7 rfl) ?_
          refine lv_lmul hx hb dX2_irons_84 ?_
          refine lv_lload hx hb dX2_irons_85 (lv_at hl 6 rfl) ?_
          refine lv_lload hx hb dX2_irons_87 (lv_at hl 0 rfl) ?_
          refine lv_lmul hx hb dX2_irons_89 ?_
          refine W.lcmp hx hb dX2_irons_90 ?_
          refine lv_if_le (tgt := 102) hx hb dX2_irons_91 (by decide) (fun c107 => ?_) (fun c107 => ?_)
          · have hv := o_pos hv c107
            refine lv_iinc (v := (x8 + 1)) (lv' := [(8, .int (x8 + 1)), (11, .long (((r104 - r105)).toInt64)), (9, .long (((r102 - r103)).toInt64)), (0, .ref (a 0)), (1, .int x1), (2, .int x2), (3, .int x3), (4, .long x4), (6, .long x6)]) hx hb dX2_irons_102 hl (k := 8) rfl rfl (by decide) rfl (fun ls hl => ?_)
            refine lv_goto (tgt := 33) hx hb dX2_irons_105 (by decide) ?_
            exact hk33 _ _ _ _ _ _ _ _ _  ls hP hS (lv_sub hl [3, 4, 5, 6, 7, 8, 0] rfl) hv
          · have hv := o_neg hv c107
            refine lv_lload hx hb dX2_irons_94 (lv_at hl 1 rfl) ?_
            refine lv_lstore (lv' := [(4, .long (((r102 - r103)).toInt64)), (11, .long (((r104 - r105)).toInt64)), (9, .long (((r102 - r103)).toInt64)), (0, .ref (a 0)), (1, .int x1), (2, .int x2), (3, .int x3), (6, .long x6), (8, .int x8)]) hx hb dX2_irons_96 hl (by decide) rfl (fun ls hl => ?_)
            refine lv_lload hx hb dX2_irons_98 (lv_at hl 1 rfl) ?_
            refine lv_lstore (lv' := [(6, .long (((r104 - r105)).toInt64)), (4, .long (((r102 - r103)).toInt64)), (11, .long (((r104 - r105)).toInt64)), (9, .long (((r102 - r103)).toInt64)), (0, .ref (a 0)), (1, .int x1), (2, .int x2), (3, .int x3), (8, .int x8)]) hx hb dX2_irons_100 hl (by decide) rfl (fun ls hl => ?_)
            refine lv_iinc (v := (x8 + 1)) (lv' := [(8, .int (x8 + 1)), (6, .long (((r104 - r105)).toInt64)), (4, .long (((r102 - r103)).toInt64)), (11, .long (((r104 - r105)).toInt64)), (9, .long (((r102 - r103)).toInt64)), (0, .ref (a 0)), (1, .int x1), (2, .int x2), (3, .int x3)]) hx hb dX2_irons_102 hl (k := 8) rfl rfl (by decide) rfl (fun ls hl => ?_)
            refine lv_goto (tgt := 33) hx hb dX2_irons_105 (by decide) ?_
            exact hk33 _ _ _ _ _ _ _ _ _  ls hP hS (lv_sub hl [5, 6, 7, 8, 2, 1, 0] rfl) hv
  have hB14 : ∀ (k153 : StM → Option (StM)) (hk153 : ∀ (u : StM) (H : Heap) (locs : List Loc)  (ls : Array Slot), va_P D vwCl (wM cA a u) H → va_S (inM a) s.heap H locs → lv_has ls 13 [] → k153 u = some v → W p l e rm_X2_irons s m args below meth c H locs 0 0 Q (F0 m 153 ls [])) (n : Nat) (u : StM) (H : Heap) (locs : List Loc) (x1 : Int32) (x2 : Int32) (x3 : Int32) (ls : Array Slot), va_P D vwCl (wM cA a u) H → va_S (inM a) s.heap H locs → lv_has ls 13 [(0, .ref (a 0)), (1, .int x1), (2, .int x2), (3, .int x3)] → B_X2_irons_14 k153 n u x1 x2 x3 = some v → W p l e rm_X2_irons s m args below meth c H locs 0 0 Q (F0 m 14 ls []) := by
    intro k153 hk153 n
    induction n with
    | zero => intro u H locs x1 x2 x3 ls hP hS hl hv; exact absurd hv (by intro h; cases h)
    | succ n hk14 =>
      intro u H locs x1 x2 x3 ls hP hS hl hv
      rw [B_X2_irons_14] at hv
      refine lv_iload_n hx hb dX2_irons_14 rfl (lv_at hl 3 rfl) ?_
      refine lv_aload_n hx hb dX2_irons_15 rfl (lv_at hl 0 rfl) ?_
      refine gtX2_many hx hb hts hinX2 hown hK hP (by decide +kernel) dX2_irons_16 ?_
      refine lv_iload_n hx hb dX2_irons_19 rfl (lv_at hl 1 rfl) ?_
      obtain ⟨g208, hv⟩ := o_grd hv
      refine alX2_many hx hb hK hP g208 dX2_irons_20 ?_
      refine lv_icmp_gt (tgt := 153) hx hb dX2_irons_21 (by decide) (fun c209 => ?_) (fun c209 => ?_)
      · have hv := o_pos hv c209
        exact hk153 _ _ _  ls hP hS (lv_sub hl [] rfl) hv
      · have hv := o_neg hv c209
        refine lv_lconst (v := 0) hx hb dX2_irons_24 (by decide) ?_
        refine lv_lstore (lv' := [(4, .long (0 : Int64)), (0, .ref (a 0)), (1, .int x1), (2, .int x2), (3, .int x3)]) hx hb dX2_irons_25 hl (by decide) rfl (fun ls hl => ?_)
        refine lv_lconst (v := 0) hx hb dX2_irons_27 (by decide) ?_
        refine lv_lstore (lv' := [(6, .long (0 : Int64)), (4, .long (0 : Int64)), (0, .ref (a 0)), (1, .int x1), (2, .int x2), (3, .int x3)]) hx hb dX2_irons_28 hl (by decide) rfl (fun ls hl => ?_)
        refine lv_iconst (v := 0) hx hb dX2_irons_30 (by decide) ?_
        refine lv_istore (lv' := [(8, .int (0 : Int32)), (6, .long (0 : Int64)), (4, .long (0 : Int64)), (0, .ref (a 0)), (1, .int x1), (2, .int x2), (3, .int x3)]) hx hb dX2_irons_31 hl (by decide) rfl (fun ls hl => ?_)
        refine hB33 _ (fun z210_u H locs z210_1 z210_2 z210_3 z210_4 z210_6 ls hP hS hl hv => ?_) 1000 _ _ _ _ _ _ _ _ _ ls hP hS (lv_sub hl [3, 4, 5, 6, 2, 1, 0] rfl) hv
        · skip
          refine lv_aload_n hx hb dX2_irons_108 rfl (lv_at hl 0 rfl) ?_
          refine gtX2_lower hx hb hts hinX2 hown hK hP (by decide +kernel) dX2_irons_109 ?_
          refine lv_lconst (v := 0) hx hb dX2_irons_112 (by decide) ?_
          refine W.lcmp hx hb dX2_irons_113 ?_
          refine lv_if_eq (tgt := 135) hx hb dX2_irons_114 (by decide) (fun c211 => ?_) (fun c211 => ?_)
          · have hv := o_pos hv c211
            refine lv_aload_n hx hb dX2_irons_135 rfl (lv_at hl 0 rfl) ?_
            refine lv_lload hx hb dX2_irons_136 (lv_at hl 4 rfl) ?_
            refine ptX2_upper hx hb hts hinX2 hown hK hP (dM hd _) hS (by decide +kernel) dX2_irons_138 (fun H locs hP hS => ?_)
            refine lv_aload_n hx hb dX2_irons_141 rfl (lv_at hl 0 rfl) ?_
            refine lv_lload hx hb dX2_irons_142 (lv_at hl 5 rfl) ?_
            refine ptX2_lower hx hb hts hinX2 hown hK hP (dM hd _) hS (by decide +kernel) dX2_irons_144 (fun H locs hP hS => ?_)
            refine lv_iinc (v := (z210_3 + 1)) (lv' := [(3, .int (z210_3 + 1)), (0, .ref (a 0)), (1, .int z210_1), (2, .int z210_2), (4, .long z210_4), (6, .long z210_6)]) hx hb dX2_irons_147 hl (k := 3) rfl rfl (by decide) rfl (fun ls hl => ?_)
            refine lv_goto (tgt := 14) hx hb dX2_irons_150 (by decide) ?_
            exact hk14 _ _ _ _ _ _  ls hP hS (lv_sub hl [1, 2, 3, 0] rfl) hv
          · have hv := o_neg hv c211
            refine lv_lload hx hb dX2_irons_117 (lv_at hl 4 rfl) ?_
            refine lv_aload_n hx hb dX2_irons_119 rfl (lv_at hl 0 rfl) ?_
            refine gtX2_lower hx hb hts hinX2 hown hK hP (by decide +kernel) dX2_irons_120 ?_
            refine lv_lmul hx hb dX2_irons_123 ?_
            refine lv_aload_n hx hb dX2_irons_124 rfl (lv_at hl 0 rfl) ?_
            refine gtX2_upper hx hb hts hinX2 hown hK hP (by decide +kernel) dX2_irons_125 ?_
            refine lv_lload hx hb dX2_irons_128 (lv_at hl 5 rfl) ?_
            refine lv_lmul hx hb dX2_irons_130 ?_
            refine W.lcmp hx hb dX2_irons_131 ?_
            refine lv_if_ge (tgt := 147) hx hb dX2_irons_132 (by decide) (fun c212 => ?_) (fun c212 => ?_)
            · have hv := o_pos hv c212
              refine lv_iinc (v := (z210_3 + 1)) (lv' := [(3, .int (z210_3 + 1)), (0, .ref (a 0)), (1, .int z210_1), (2, .int z210_2), (4, .long z210_4), (6, .long z210_6)]) hx hb dX2_irons_147 hl (k := 3) rfl rfl (by decide) rfl (fun ls hl => ?_)
              refine lv_goto (tgt := 14) hx hb dX2_irons_150 (by decide) ?_
              exact hk14 _ _ _ _ _ _  ls hP hS (lv_sub hl [1, 2, 3, 0] rfl) hv
            · have hv := o_neg hv c212
              refine lv_aload_n hx hb dX2_irons_135 rfl (lv_at hl 0 rfl) ?_
              refine lv_lload hx hb dX2_irons_136 (lv_at hl 4 rfl) ?_
              refine ptX2_upper hx hb hts hinX2 hown hK hP (dM hd _) hS (by decide +kernel) dX2_irons_138 (fun H locs hP hS => ?_)
              refine lv_aload_n hx hb dX2_irons_141 rfl (lv_at hl 0 rfl) ?_
              refine lv_lload hx hb dX2_irons_142 (lv_at hl 5 rfl) ?_
              refine ptX2_lower hx hb hts hinX2 hown hK hP (dM hd _) hS (by decide +kernel) dX2_irons_144 (fun H locs hP hS => ?_)
              refine lv_iinc (v := (z210_3 + 1)) (lv' := [(3, .int (z210_3 + 1)), (0, .ref (a 0)), (1, .int z210_1), (2, .int z210_2), (4, .long z210_4), (6, .long z210_6)]) hx hb dX2_irons_147 hl (k := 3) rfl rfl (by decide) rfl (fun ls hl => ?_)
              refine lv_goto (tgt := 14) hx hb dX2_irons_150 (by decide) ?_
              exact hk14 _ _ _ _ _ _  ls hP hS (lv_sub hl [1, 2, 3, 0] rfl) hv
  unfold f_X2_irons at hv
  skip
  refine lv_aload_n hx hb dX2_irons_0 rfl (lv_at hl 0 rfl) ?_
  refine lv_lconst (v := 0) hx hb dX2_irons_1 (by decide) ?_
  refine ptX2_upper hx hb hts hinX2 hown hK hP (dM hd _) hS (by decide +kernel) dX2_irons_2 (fun H locs hP hS => ?_)
  refine lv_aload_n hx hb dX2_irons_5 rfl (lv_at hl 0 rfl) ?_
  refine lv_lconst (v := 0) hx hb dX2_irons_6 (by decide) ?_
  refine ptX2_lower hx hb hts hinX2 hown hK hP (dM hd _) hS (by decide +kernel) dX2_irons_7 (fun H locs hP hS => ?_)
  refine lv_iload_n hx hb dX2_irons_10 rfl (lv_at hl 2 rfl) ?_
  refine lv_iconst (v := 1) hx hb dX2_irons_11 (by decide) ?_
  refine lv_iadd hx hb dX2_irons_12 ?_
  refine lv_istore_n (lv' := [(3, .int (x2 + (1 : Int32))), (0, .ref (a 0)), (1, .int x1), (2, .int x2)]) hx hb dX2_irons_13 rfl hl (by decide) rfl (fun ls hl => ?_)
  refine hB14 _ (fun z313_u H locs ls hP hS hl hv => ?_) 1000 _ _ _ _ _ _ ls hP hS (lv_sub hl [1, 2, 3, 0] rfl) hv
  · skip
    exact fin hP hS dX2_irons_153 hv
abbrev rm_X2_common : Room := { frames := 0, cells := 0, slots := 0, locals := 0 }
set_option maxHeartbeats 4000000 in
set_option maxRecDepth 100000 in
theorem c_X2_common (l : Launch) (D : va_G) (cA : ClassId) (x0 : Int64) (x2 : Int64) (v : Int64) (hv : f_X2_common x0 x2 = some v)  : Met l yX2_common wsX2_common rm_X2_common (va_Pc [.long x0, .long x2] (roB D cA [])) (vp_Sl (fun r => r = v)) 0 0 (fun _ => False) := by
  refine ro_l (cc := cX2_common) (maxL := 10) (own := RX2) (by decide) rfl rfl (Nat.le_of_ble_eq_true rfl) ?_
  intro p e s m args below meth c Q ls hC hK hZ hws hl fin
  obtain ⟨hx, hb, hml, hown, hts⟩ := id hC
  have hl : lv_has ls 10 [(0, .long x0), (2, .long x2)] := hl
  have hB17 : ∀ (k42 : Int64 → Option (Int64)) (hk42 : ∀ (x4 : Int64) (ls : Array Slot), lv_has ls 10 [(4, .long x4)] → k42 x4 = some v → W p l e rm_X2_common s m args below meth c s.heap [] 0 0 Q (F0 m 42 ls [])) (n : Nat) (x4 : Int64) (x6 : Int64) (ls : Array Slot), lv_has ls 10 [(4, .long x4), (6, .long x6)] → B_X2_common_17 k42 n x4 x6 = some v → W p l e rm_X2_common s m args below meth c s.heap [] 0 0 Q (F0 m 17 ls []) := by
    intro k42 hk42 n
    induction n with
    | zero => intro x4 x6 ls hl hv; exact absurd hv (by intro h; cases h)
    | succ n hk17 =>
      intro x4 x6 ls hl hv
      rw [B_X2_common_17] at hv
      refine lv_lload hx hb dX2_common_17 (lv_at hl 1 rfl) ?_
      refine lv_lconst (v := 0) hx hb dX2_common_19 (by decide) ?_
      refine W.lcmp hx hb dX2_common_20 ?_
      refine lv_if_eq (tgt := 42) hx hb dX2_common_21 (by decide) (fun c101 => ?_) (fun c101 => ?_)
      · have hv := o_pos hv c101
        exact hk42 _  ls (lv_sub hl [0] rfl) hv
      · have hv := o_neg hv c101
        refine lv_lload hx hb dX2_common_24 (lv_at hl 0 rfl) ?_
        refine lv_lload hx hb dX2_common_26 (lv_at hl 1 rfl) ?_
        obtain ⟨g102, hv⟩ := o_grd hv
        refine lv_lrem hx hb dX2_common_28 g102 ?_
        refine lv_lstore (lv' := [(8, .long (x4 - x4 / x6 * x6)), (4, .long x4), (6, .long x6)]) hx hb dX2_common_29 hl (by decide) rfl (fun ls hl => ?_)
        refine lv_lload hx hb dX2_common_31 (lv_at hl 2 rfl) ?_
        refine lv_lstore (lv' := [(4, .long x6), (8, .long (x4 - x4 / x6 * x6)), (6, .long x6)]) hx hb dX2_common_33 hl (by decide) rfl (fun ls hl => ?_)
        refine lv_lload hx hb dX2_common_35 (lv_at hl 1 rfl) ?_
        refine lv_lstore (lv' := [(6, .long (x4 - x4 / x6 * x6)), (4, .long x6), (8, .long (x4 - x4 / x6 * x6))]) hx hb dX2_common_37 hl (by decide) rfl (fun ls hl => ?_)
        refine lv_goto (tgt := 17) hx hb dX2_common_39 (by decide) ?_
        exact hk17 _ _  ls (lv_sub hl [1, 0] rfl) hv
  unfold f_X2_common at hv
  refine lv_lload_n hx hb dX2_common_0 rfl (lv_at hl 0 rfl) ?_
  refine lv_lconst (v := 0) hx hb dX2_common_1 (by decide) ?_
  refine W.lcmp hx hb dX2_common_2 ?_
  refine lv_if_ge (tgt := 11) hx hb dX2_common_3 (by decide) (fun c203 => ?_) (fun c203 => ?_)
  · have hv := o_pos hv c203
    refine lv_lload_n hx hb dX2_common_11 rfl (lv_at hl 0 rfl) ?_
    refine lv_lstore (lv' := [(4, .long x0), (0, .long x0), (2, .long x2)]) hx hb dX2_common_12 hl (by decide) rfl (fun ls hl => ?_)
    refine lv_lload_n hx hb dX2_common_14 rfl (lv_at hl 2 rfl) ?_
    refine lv_lstore (lv' := [(6, .long x2), (4, .long x0), (0, .long x0), (2, .long x2)]) hx hb dX2_common_15 hl (by decide) rfl (fun ls hl => ?_)
    refine hB17 _ (fun z204_4 ls hl hv => ?_) 1000 _ _ ls (lv_sub hl [1, 0] rfl) hv
    · skip
      refine lv_lload hx hb dX2_common_42 (lv_at hl 0 rfl) ?_
      exact fin dX2_common_44 hv
  · have hv := o_neg hv c203
    refine lv_lload_n hx hb dX2_common_6 rfl (lv_at hl 0 rfl) ?_
    refine lv_lneg hx hb dX2_common_7 ?_
    refine lv_goto (tgt := 12) hx hb dX2_common_8 (by decide) ?_
    refine lv_lstore (lv' := [(4, .long (-x0)), (0, .long x0), (2, .long x2)]) hx hb dX2_common_12 hl (by decide) rfl (fun ls hl => ?_)
    refine lv_lload_n hx hb dX2_common_14 rfl (lv_at hl 2 rfl) ?_
    refine lv_lstore (lv' := [(6, .long x2), (4, .long (-x0)), (0, .long x0), (2, .long x2)]) hx hb dX2_common_15 hl (by decide) rfl (fun ls hl => ?_)
    refine hB17 _ (fun z205_4 ls hl hv => ?_) 1000 _ _ ls (lv_sub hl [1, 0] rfl) hv
    · skip
      refine lv_lload hx hb dX2_common_42 (lv_at hl 0 rfl) ?_
      exact fin dX2_common_44 hv
abbrev rm_X2_part : Room := { frames := 1, cells := 0, slots := 0, locals := 29 }
set_option maxHeartbeats 4000000 in
set_option maxRecDepth 100000 in
theorem c_X2_part (l : Launch) (D : va_G) (cA : ClassId) (a : Nat → Nat) (u : StM) (x1 : Int64) (x3 : Int64) (x5 : Int32) (v : Int64) (hv : f_X2_part u x1 x3 x5 = some v)  : Met l yX2_part wsX2_part rm_X2_part (va_Pc [.ref (a 0), .long x1, .long x3, .int x5] (roB D cA [wM cA a u])) (vp_Sl (fun r => r = v)) 0 0 (fun _ => False) := by
  refine ro_l (cc := cX2_part) (maxL := 8) (own := RX2) (by decide) rfl rfl (Nat.le_of_ble_eq_true rfl) ?_
  intro p e s m args below meth c Q ls hC hK hZ hws hl fin
  obtain ⟨hx, hb, hml, hown, hts⟩ := id hC
  have hl : lv_has ls 8 [(0, .ref (a 0)), (1, .long x1), (3, .long x3), (5, .int x5)] := hl
  have hP : va_P D vwCl (wM cA a u) s.heap := hws _ (List.mem_of_getElem? (i := 0) rfl)
  unfold f_X2_part at hv
  refine lv_lload_n hx hb dX2_part_0 rfl (lv_at hl 1 rfl) ?_
  refine lv_lload_n hx hb dX2_part_1 rfl (lv_at hl 2 rfl) ?_
  obtain ⟨r101, e101, hv⟩ := o_bind hv
  refine rcall_l (W.runS (As := [.long x1, .long x3]) (rest := []) hC (c_X2_common l D cA x1 x3 r101 e101) (va_cwS 2 hts gX2_part_X2_common rfl rfl rfl (by decide +kernel) ⟨Nat.le_of_ble_eq_true rfl, Nat.le_of_ble_eq_true rfl⟩) ⟨roB_blind, roB_pre hK hZ hws_0⟩ rfl rfl hl.1 rfl (lv_room (Nat.le_of_ble_eq_true rfl)) dX2_part_2 ⟨Nat.le_of_ble_eq_true rfl, Nat.le_of_ble_eq_true rfl⟩) ?_
  refine lv_lstore (lv' := [(6, .long r101), (0, .ref (a 0)), (1, .long x1), (3, .long x3), (5, .int x5)]) hx hb dX2_part_5 hl (by decide) rfl (fun ls hl => ?_)
  refine lv_iload hx hb dX2_part_7 (lv_at hl 4 rfl) ?_
  refine lv_if_ne (tgt := 19) hx hb dX2_part_9 (by decide) (fun c102 => ?_) (fun c102 => ?_)
  · have hv := o_neg hv c102
    refine lv_lload_n hx hb dX2_part_19 rfl (lv_at hl 3 rfl) ?_
    refine lv_lload hx hb dX2_part_20 (lv_at hl 0 rfl) ?_
    obtain ⟨g103, hv⟩ := o_grd hv
    refine lv_ldiv hx hb dX2_part_22 g103 ?_
    exact fin dX2_part_23 hv
  · have hv := o_pos hv c102
    refine lv_lload_n hx hb dX2_part_12 rfl (lv_at hl 2 rfl) ?_
    refine lv_lload hx hb dX2_part_13 (lv_at hl 0 rfl) ?_
    obtain ⟨g104, hv⟩ := o_grd hv
    refine lv_ldiv hx hb dX2_part_15 g104 ?_
    refine lv_goto (tgt := 23) hx hb dX2_part_16 (by decide) ?_
    exact fin dX2_part_23 hv
abbrev rm_X2_slope : Room := { frames := 3, cells := 0, slots := 0, locals := 78 }
set_option maxHeartbeats 4000000 in
set_option maxRecDepth 100000 in
theorem c_X2_slope (l : Launch) (D : va_G) (cA : ClassId) (a : Nat → Nat) (u : StM) (x1 : Int32) (x2 : Int32) (x3 : Int32) (x4 : Int32) (v : Int64 × StM) (hv : f_X2_slope u x1 x2 x3 x4 = some v) (hd : djM a) : Met l yX2_slope wsX2_slope rm_X2_slope (va_Pc [.ref (a 0), .int x1, .int x2, .int x3, .int x4] (roB D cA [wM cA a u])) (va_Ql (fun (r : Int64) (u1 : StM) => (r, u1) = v) (fun (u1 : StM) t => va_P D vwCl (wM cA a u1) t.heap) (inM a)) 0 0 (inM a) := by
  refine wr_l (wf := fun u => wM cA a u) (cc := cX2_slope) (maxL := 5) (own := RX2) (by decide) rfl rfl (Nat.le_of_ble_eq_true rfl) ?_
  intro p e s m args below meth c Q ls hC hK hZ hws hl fin
  obtain ⟨hx, hb, hml, hown, hts⟩ := id hC
  have hl : lv_has ls 5 [(0, .ref (a 0)), (1, .int x1), (2, .int x2), (3, .int x3), (4, .int x4)] := hl
  have hP : va_P D vwCl (wM cA a u) s.heap := hws _ (List.mem_of_getElem? (i := 0) rfl)
  have hinX2 : ∀ w ∈ wsX20, w ∈ wsX2_slope := fun w h => List.mem_cons_of_mem _ (List.mem_append_right _ h)
  have hS : va_S (inM a) s.heap s.heap [] := va_S.rf
  have hB84 : ∀ (u : StM) (H : Heap) (locs : List Loc) (x4 : Int32) (ls : Array Slot), va_P D vwCl (wM cA a u) H → va_S (inM a) s.heap H locs → lv_has ls 5 [(0, .ref (a 0)), (4, .int x4)] → B_X2_slope_84 u x4 = some v → W p l e rm_X2_slope s m args below meth c H locs 0 0 Q (F0 m 84 ls []) := by
    intro u H locs x4 ls hP hS hl hv
    unfold B_X2_slope_84 at hv
    refine lv_aload_n hx hb dX2_slope_84 rfl (lv_at hl 0 rfl) ?_
    refine lv_aload_n hx hb dX2_slope_85 rfl (lv_at hl 0 rfl) ?_
    refine gtX2_upper hx hb hts hinX2 hown hK hP (by decide +kernel) dX2_slope_86 ?_
    refine lv_aload_n hx hb dX2_slope_89 rfl (lv_at hl 0 rfl) ?_
    refine gtX2_lower hx hb hts hinX2 hown hK hP (by decide +kernel) dX2_slope_90 ?_
    refine lv_iload hx hb dX2_slope_93 (lv_at hl 1 rfl) ?_
    obtain ⟨r101, e101, hv⟩ := o_bind hv
    refine rcall_l (W.runV (As := [.long (m_upper u), .long (m_lower u), .int x4]) (rest := []) hC (c_X2_part l D cA a u (m_upper u) (m_lower u) x4 r101 e101) (cwV 3 hts gX2_slope_X2_part rfl rfl rfl (by decide +kernel) ⟨Nat.le_of_ble_eq_true rfl, Nat.le_of_ble_eq_true rfl⟩) ⟨roB_blind, va_recv (ci := 2) (q0 := 0) hK hP rfl rfl, roB_pre hK hZ (hws_1 hP)⟩ rfl rfl hl.1 rfl (lv_room (Nat.le_of_ble_eq_true rfl)) dX2_slope_95 ⟨Nat.le_of_ble_eq_true rfl, Nat.le_of_ble_eq_true rfl⟩) ?_
    exact fin hP hS dX2_slope_98 hv
  unfold f_X2_slope at hv
  skip
  refine lv_aload_n hx hb dX2_slope_0 rfl (lv_at hl 0 rfl) ?_
  refine lv_iconst (v := 0) hx hb dX2_slope_1 (by decide) ?_
  refine ptX2_thrown hx hb hts hinX2 hown hK hP (dM hd _) hS (by decide +kernel) dX2_slope_2 (fun H locs hP hS => ?_)
  refine lv_aload_n hx hb dX2_slope_5 rfl (lv_at hl 0 rfl) ?_
  refine lv_iload_n hx hb dX2_slope_6 rfl (lv_at hl 1 rfl) ?_
  obtain ⟨r202, e202, hv⟩ := o_bind hv
  refine rcall_i (W.runV (As := [.int x1]) (rest := []) hC (c_X2_isBuyer l D cA a (m_set_thrown u (0 : Int32)) x1 r202 e202) (cwV 1 hts gX2_slope_X2_isBuyer rfl rfl rfl (by decide +kernel) ⟨Nat.le_of_ble_eq_true rfl, Nat.le_of_ble_eq_true rfl⟩) ⟨roB_blind, va_recv (ci := 2) (q0 := 0) hK hP rfl rfl, roB_pre hK hZ (hws_1 hP)⟩ rfl rfl hl.1 rfl (lv_room (Nat.le_of_ble_eq_true rfl)) dX2_slope_7 ⟨Nat.le_of_ble_eq_true rfl, Nat.le_of_ble_eq_true rfl⟩) ?_
  refine lv_if_eq (tgt := 32) hx hb dX2_slope_10 (by decide) (fun c203 => ?_) (fun c203 => ?_)
  · have hv := o_pos hv c203
    refine lv_ldc2 (v := -1000000000000000) hx hb hown (hts (.constantLong RX2 75 (-1000000000000000)) (by decide +kernel)) dX2_slope_32 ?_
    exact fin hP hS dX2_slope_35 hv
  · have hv := o_neg hv c203
    refine lv_aload_n hx hb dX2_slope_13 rfl (lv_at hl 0 rfl) ?_
    refine lv_iload_n hx hb dX2_slope_14 rfl (lv_at hl 1 rfl) ?_
    refine lv_iload_n hx hb dX2_slope_15 rfl (lv_at hl 2 rfl) ?_
    obtain ⟨r204, e204, hv⟩ := o_bind hv
    refine rcall_i (W.runV (As := [.int x1, .int x2]) (rest := []) hC (c_X2_isPlace l D cA a (m_set_thrown u (0 : Int32)) x1 x2 r204 e204) (cwV 2 hts gX2_slope_X2_isPlace rfl rfl rfl (by decide +kernel) ⟨Nat.le_of_ble_eq_true rfl, Nat.le_of_ble_eq_true rfl⟩) ⟨roB_blind, va_recv (ci := 2) (q0 := 0) hK hP rfl rfl, roB_pre hK hZ (hws_1 hP)⟩ rfl rfl hl.1 rfl (lv_room (Nat.le_of_ble_eq_true rfl)) dX2_slope_16 ⟨Nat.le_of_ble_eq_true rfl, Nat.le_of_ble_eq_true rfl⟩) ?_
    refine lv_if_eq (tgt := 32) hx hb dX2_slope_19 (by decide) (fun c205 => ?_) (fun c205 => ?_)
    · have hv := o_pos hv c205
      refine lv_ldc2 (v := -1000000000000000) hx hb hown (hts (.constantLong RX2 75 (-1000000000000000)) (by decide +kernel)) dX2_slope_32 ?_
      exact fin hP hS dX2_slope_35 hv
    · have hv := o_neg hv c205
      refine lv_iload hx hb dX2_slope_22 (lv_at hl 4 rfl) ?_
      refine lv_iconst (v := 0) hx hb dX2_slope_24 (by decide) ?_
      refine lv_iconst (v := 1) hx hb dX2_slope_25 (by decide) ?_
      obtain ⟨r206, e206, hv⟩ := o_bind hv
      refine rcall_i (W.runS (As := [.int x4, .int (0 : Int32), .int (1 : Int32)]) (rest := []) hC (c_X2_in l D cA x4 (0 : Int32) (1 : Int32) r206 e206) (va_cwS 3 hts gX2_slope_X2_in rfl rfl rfl (by decide +kernel) ⟨Nat.le_of_ble_eq_true rfl, Nat.le_of_ble_eq_true rfl⟩) ⟨roB_blind, roB_pre hK hZ hws_0⟩ rfl rfl hl.1 rfl (lv_room (Nat.le_of_ble_eq_true rfl)) dX2_slope_26 ⟨Nat.le_of_ble_eq_true rfl, Nat.le_of_ble_eq_true rfl⟩) ?_
      refine lv_if_ne (tgt := 36) hx hb dX2_slope_29 (by decide) (fun c207 => ?_) (fun c207 => ?_)
      · have hv := o_neg hv c207
        refine lv_iload_n hx hb dX2_slope_36 rfl (lv_at hl 3 rfl) ?_
        refine lv_if_eq (tgt := 49) hx hb dX2_slope_37 (by decide) (fun c208 => ?_) (fun c208 => ?_)
        · have hv := o_pos hv c208
          refine lv_aload_n hx hb dX2_slope_49 rfl (lv_at hl 0 rfl) ?_
          refine lv_aload_n hx hb dX2_slope_50 rfl (lv_at hl 0 rfl) ?_
          refine lv_iload_n hx hb dX2_slope_51 rfl (lv_at hl 1 rfl) ?_
          refine lv_iload_n hx hb dX2_slope_52 rfl (lv_at hl 2 rfl) ?_
          obtain ⟨r209, e209, hv⟩ := o_bind hv
          refine rcall_i (W.runV (As := [.int x1, .int x2]) (rest := [.ref (a 0)]) hC (c_X2_take l D cA a (m_set_thrown u (0 : Int32)) x1 x2 r209 e209) (cwV 2 hts gX2_slope_X2_take rfl rfl rfl (by decide +kernel) ⟨Nat.le_of_ble_eq_true rfl, Nat.le_of_ble_eq_true rfl⟩) ⟨roB_blind, va_recv (ci := 2) (q0 := 0) hK hP rfl rfl, roB_pre hK hZ (hws_1 hP)⟩ rfl rfl hl.1 rfl (lv_room (Nat.le_of_ble_eq_true rfl)) dX2_slope_53 ⟨Nat.le_of_ble_eq_true rfl, Nat.le_of_ble_eq_true rfl⟩) ?_
          refine lv_aload_n hx hb dX2_slope_56 rfl (lv_at hl 0 rfl) ?_
          refine lv_iload_n hx hb dX2_slope_57 rfl (lv_at hl 1 rfl) ?_
          refine lv_iload_n hx hb dX2_slope_58 rfl (lv_at hl 2 rfl) ?_
          refine lv_iconst (v := 1) hx hb dX2_slope_59 (by decide) ?_
          refine lv_iadd hx hb dX2_slope_60 ?_
          obtain ⟨r210, e210, hv⟩ := o_bind hv
          refine rcall_i (W.runV (As := [.int x1, .int (x2 + (1 : Int32))]) (rest := [.int r209, .ref (a 0)]) hC (c_X2_take l D cA a (m_set_thrown u (0 : Int32)) x1 (x2 + (1 : Int32)) r210 e210) (cwV 2 hts gX2_slope_X2_take rfl rfl rfl (by decide +kernel) ⟨Nat.le_of_ble_eq_true rfl, Nat.le_of_ble_eq_true rfl⟩) ⟨roB_blind, va_recv (ci := 2) (q0 := 0) hK hP rfl rfl, roB_pre hK hZ (hws_1 hP)⟩ rfl rfl hl.1 rfl (lv_room (Nat.le_of_ble_eq_true rfl)) dX2_slope_61 ⟨Nat.le_of_ble_eq_true rfl, Nat.le_of_ble_eq_true rfl⟩) ?_
          refine lv_isub hx hb dX2_slope_64 ?_
          refine lv_i2l hx hb dX2_slope_65 rfl ?_
          refine ptX2_upper hx hb hts hinX2 hown hK hP (dM hd _) hS (by decide +kernel) dX2_slope_66 (fun H locs hP hS => ?_)
          refine lv_aload_n hx hb dX2_slope_69 rfl (lv_at hl 0 rfl) ?_
          refine lv_aload_n hx hb dX2_slope_70 rfl (lv_at hl 0 rfl) ?_
          refine gtX2_weight hx hb hts hinX2 hown hK hP (by decide +kernel) dX2_slope_71 ?_
          refine lv_iconst (v := 5) hx hb dX2_slope_74 (by decide) ?_
          refine lv_iload_n hx hb dX2_slope_75 rfl (lv_at hl 1 rfl) ?_
          refine lv_imul hx hb dX2_slope_76 ?_
          refine lv_iload_n hx hb dX2_slope_77 rfl (lv_at hl 2 rfl) ?_
          refine lv_iadd hx hb dX2_slope_78 ?_
          obtain ⟨g211, hv⟩ := o_grd hv
          refine alX2_weight hx hb hK hP g211 dX2_slope_79 ?_
          refine lv_i2l hx hb dX2_slope_80 rfl ?_
          refine ptX2_lower hx hb hts hinX2 hown hK hP (dM hd _) hS (by decide +kernel) dX2_slope_81 (fun H locs hP hS => ?_)
          exact hB84 _ _ _ _  ls hP hS (lv_sub hl [0, 4] rfl) hv
        · have hv := o_neg hv c208
          refine lv_aload_n hx hb dX2_slope_40 rfl (lv_at hl 0 rfl) ?_
          refine lv_iload_n hx hb dX2_slope_41 rfl (lv_at hl 1 rfl) ?_
          refine lv_iload_n hx hb dX2_slope_42 rfl (lv_at hl 2 rfl) ?_
          obtain ⟨w212, e212, hv⟩ := o_bind hv
          refine wcall_v (va_runV (As := [.int x1, .int x2]) (rest := []) hC (c_X2_irons l D cA a (m_set_thrown u (0 : Int32)) x1 x2 w212 e212 hd) (cwV 2 hts gX2_slope_X2_irons rfl rfl rfl (by decide +kernel) ⟨Nat.le_of_ble_eq_true rfl, Nat.le_of_ble_eq_true rfl⟩) ⟨roB_blind, va_recv (ci := 2) (q0 := 0) hK hP rfl rfl, roB_pre hK hZ (hws_1 hP)⟩ rfl rfl hl.1 rfl (lv_room (Nat.le_of_ble_eq_true rfl)) dX2_slope_43 ⟨Nat.le_of_ble_eq_true rfl, Nat.le_of_ble_eq_true rfl⟩) hS (fun _ h => h) (fun H locs hP1 hk1 hS => ?_)
          have hP := hP1
          refine lv_goto (tgt := 84) hx hb dX2_slope_46 (by decide) ?_
          exact hB84 _ _ _ _  ls hP hS (lv_sub hl [0, 4] rfl) hv
      · have hv := o_pos hv c207
        refine lv_ldc2 (v := -1000000000000000) hx hb hown (hts (.constantLong RX2 75 (-1000000000000000)) (by decide +kernel)) dX2_slope_32 ?_
        exact fin hP hS dX2_slope_35 hv
abbrev rm_X2_getter : Room := { frames := 3, cells := 0, slots := 0, locals := 78 }
set_option maxHeartbeats 4000000 in
set_option maxRecDepth 100000 in
theorem c_X2_getter (l : Launch) (D : va_G) (cA : ClassId) (a : Nat → Nat) (u : StM) (v : Int32 × StM) (hv : f_X2_getter u = some v) (hd : djM a) : Met l yX2_getter wsX2_getter rm_X2_getter (va_Pc [.ref (a 0)] (roB D cA [wM cA a u])) (va_Qi (fun (r : Int32) (u1 : StM) => (r, u1) = v) (fun (u1 : StM) t => va_P D vwCl (wM cA a u1) t.heap) (inM a)) 0 0 (inM a) := by
  refine wr_i (wf := fun u => wM cA a u) (cc := cX2_getter) (maxL := 7) (own := RX2) (by decide) rfl rfl (Nat.le_of_ble_eq_true rfl) ?_
  intro p e s m args below meth c Q ls hC hK hZ hws hl fin
  obtain ⟨hx, hb, hml, hown, hts⟩ := id hC
  have hl : lv_has ls 7 [(0, .ref (a 0))] := hl
  have hP : va_P D vwCl (wM cA a u) s.heap := hws _ (List.mem_of_getElem? (i := 0) rfl)
  have hinX2 : ∀ w ∈ wsX20, w ∈ wsX2_getter := fun w h => List.mem_cons_of_mem _ (List.mem_append_right _ h)
  have hS : va_S (inM a) s.heap s.heap [] := va_S.rf
  have hB11 : ∀ (k70 : StM → Int32 → Option (Int32 × StM)) (hk70 : ∀ (u : StM) (H : Heap) (locs : List Loc) (x1 : Int32) (ls : Array Slot), va_P D vwCl (wM cA a u) H → va_S (inM a) s.heap H locs → lv_has ls 7 [(1, .int x1)] → k70 u x1 = some v → W p l e rm_X2_getter s m args below meth c H locs 0 0 Q (F0 m 70 ls [])) (n : Nat) (u : StM) (H : Heap) (locs : List Loc) (x1 : Int32) (x2 : Int64) (x4 : Int64) (x6 : Int32) (ls : Array Slot), va_P D vwCl (wM cA a u) H → va_S (inM a) s.heap H locs → lv_has ls 7 [(0, .ref (a 0)), (1, .int x1), (2, .long x2), (4, .long x4), (6, .int x6)] → B_X2_getter_11 k70 n u x1 x2 x4 x6 = some v → W p l e rm_X2_getter s m args below meth c H locs 0 0 Q (F0 m 11 ls []) := by
    intro k70 hk70 n
    induction n with
    | zero => intro u H locs x1 x2 x4 x6 ls hP hS hl hv; exact absurd hv (by intro h; cases h)
    | succ n hk11 =>
      intro u H locs x1 x2 x4 x6 ls hP hS hl hv
      rw [B_X2_getter_11] at hv
      refine lv_iload hx hb dX2_getter_11 (lv_at hl 4 rfl) ?_
      refine lv_aload_n hx hb dX2_getter_13 rfl (lv_at hl 0 rfl) ?_
      refine gtX2_n hx hb hts hinX2 hown hK hP (by decide +kernel) dX2_getter_14 ?_
      refine lv_icmp_ge (tgt := 70) hx hb dX2_getter_17 (by decide) (fun c101 => ?_) (fun c101 => ?_)
      · have hv := o_pos hv c101
        exact hk70 _ _ _ _  ls hP hS (lv_sub hl [1] rfl) hv
      · have hv := o_neg hv c101
        refine lv_aload_n hx hb dX2_getter_20 rfl (lv_at hl 0 rfl) ?_
        refine lv_iload hx hb dX2_getter_21 (lv_at hl 4 rfl) ?_
        refine lv_aload_n hx hb dX2_getter_23 rfl (lv_at hl 0 rfl) ?_
        refine gtX2_place hx hb hts hinX2 hown hK hP (by decide +kernel) dX2_getter_24 ?_
        refine lv_iload hx hb dX2_getter_27 (lv_at hl 4 rfl) ?_
        obtain ⟨g102, hv⟩ := o_grd hv
        refine alX2_place hx hb hK hP g102 dX2_getter_29 ?_
        obtain ⟨w103, e103, hv⟩ := o_bind hv
        refine wcall_v (va_runV (As := [.int x6, .int (m_place u x6.toNatClampNeg)]) (rest := []) hC (c_X2_irons l D cA a u x6 (m_place u x6.toNatClampNeg) w103 e103 hd) (cwV 2 hts gX2_getter_X2_irons rfl rfl rfl (by decide +kernel) ⟨Nat.le_of_ble_eq_true rfl, Nat.le_of_ble_eq_true rfl⟩) ⟨roB_blind, va_recv (ci := 2) (q0 := 0) hK hP rfl rfl, roB_pre hK hZ (hws_1 hP)⟩ rfl rfl hl.1 rfl (lv_room (Nat.le_of_ble_eq_true rfl)) dX2_getter_30 ⟨Nat.le_of_ble_eq_true rfl, Nat.le_of_ble_eq_true rfl⟩) hS (fun _ h => h) (fun H locs hP1 hk1 hS => ?_)
        have hP := hP1
        refine lv_aload_n hx hb dX2_getter_33 rfl (lv_at hl 0 rfl) ?_
        refine gtX2_upper hx hb hts hinX2 hown hK hP (by decide +kernel) dX2_getter_34 ?_
        refine lv_lload hx hb dX2_getter_37 (lv_at hl 3 rfl) ?_
        refine lv_lmul hx hb dX2_getter_39 ?_
        refine lv_lload_n hx hb dX2_getter_40 rfl (lv_at hl 2 rfl) ?_
        refine lv_aload_n hx hb dX2_getter_41 rfl (lv_at hl 0 rfl) ?_
        refine gtX2_lower hx hb hts hinX2 hown hK hP (by decide +kernel) dX2_getter_42 ?_
        refine lv_lmul hx hb dX2_getter_45 ?_
        refine W.lcmp hx hb dX2_getter_46 ?_
        refine lv_if_le (tgt := 64) hx hb dX2_getter_47 (by decide) (fun c104 => ?_) (fun c104 => ?_)
        · have hv := o_pos hv c104
          refine lv_iinc (v := (x6 + 1)) (lv' := [(6, .int (x6 + 1)), (0, .ref (a 0)), (1, .int x1), (2, .long x2), (4, .long x4)]) hx hb dX2_getter_64 hl (k := 4) rfl rfl (by decide) rfl (fun ls hl => ?_)
          refine lv_goto (tgt := 11) hx hb dX2_getter_67 (by decide) ?_
          exact hk11 _ _ _ _ _ _ _  ls hP hS (lv_sub hl [1, 2, 3, 4, 0] rfl) hv
        · have hv := o_neg hv c104
          refine lv_aload_n hx hb dX2_getter_50 rfl (lv_at hl 0 rfl) ?_
          refine gtX2_upper hx hb hts hinX2 hown hK hP (by decide +kernel) dX2_getter_51 ?_
          refine lv_lstore_n (lv' := [(2, .long (m_upper w103)), (0, .ref (a 0)), (1, .int x1), (4, .long x4), (6, .int x6)]) hx hb dX2_getter_54 rfl hl (by decide) rfl (fun ls hl => ?_)
          refine lv_aload_n hx hb dX2_getter_55 rfl (lv_at hl 1 rfl) ?_
          refine gtX2_lower hx hb hts hinX2 hown hK hP (by decide +kernel) dX2_getter_56 ?_
          refine lv_lstore (lv' := [(4, .long (m_lower w103)), (2, .long (m_upper w103)), (0, .ref (a 0)), (1, .int x1), (6, .int x6)]) hx hb dX2_getter_59 hl (by decide) rfl (fun ls hl => ?_)
          refine lv_iload hx hb dX2_getter_61 (lv_at hl 4 rfl) ?_
          refine lv_istore_n (lv' := [(1, .int x6), (4, .long (m_lower w103)), (2, .long (m_upper w103)), (0, .ref (a 0)), (6, .int x6)]) hx hb dX2_getter_63 rfl hl (by decide) rfl (fun ls hl => ?_)
          refine lv_iinc (v := (x6 + 1)) (lv' := [(6, .int (x6 + 1)), (1, .int x6), (4, .long (m_lower w103)), (2, .long (m_upper w103)), (0, .ref (a 0))]) hx hb dX2_getter_64 hl (k := 4) rfl rfl (by decide) rfl (fun ls hl => ?_)
          refine lv_goto (tgt := 11) hx hb dX2_getter_67 (by decide) ?_
          exact hk11 _ _ _ _ _ _ _  ls hP hS (lv_sub hl [4, 1, 3, 2, 0] rfl) hv
  unfold f_X2_getter at hv
  skip
  refine lv_bipush (v := -9) hx hb dX2_getter_0 (by decide) ?_
  refine lv_istore_n (lv' := [(1, .int (-9 : Int32)), (0, .ref (a 0))]) hx hb dX2_getter_2 rfl hl (by decide) rfl (fun ls hl => ?_)
  refine lv_lconst (v := 0) hx hb dX2_getter_3 (by decide) ?_
  refine lv_lstore_n (lv' := [(2, .long (0 : Int64)), (1, .int (-9 : Int32)), (0, .ref (a 0))]) hx hb dX2_getter_4 rfl hl (by decide) rfl (fun ls hl => ?_)
  refine lv_lconst (v := 1) hx hb dX2_getter_5 (by decide) ?_
  refine lv_lstore (lv' := [(4, .long (1 : Int64)), (2, .long (0 : Int64)), (1, .int (-9 : Int32)), (0, .ref (a 0))]) hx hb dX2_getter_6 hl (by decide) rfl (fun ls hl => ?_)
  refine lv_iconst (v := 0) hx hb dX2_getter_8 (by decide) ?_
  refine lv_istore (lv' := [(6, .int (0 : Int32)), (4, .long (1 : Int64)), (2, .long (0 : Int64)), (1, .int (-9 : Int32)), (0, .ref (a 0))]) hx hb dX2_getter_9 hl (by decide) rfl (fun ls hl => ?_)
  refine hB11 _ (fun z205_u H locs z205_1 ls hP hS hl hv => ?_) 1000 _ _ _ _ _ _ _ ls hP hS (lv_sub hl [4, 3, 2, 1, 0] rfl) hv
  · skip
    refine lv_iload_n hx hb dX2_getter_70 rfl (lv_at hl 0 rfl) ?_
    exact fin hP hS dX2_getter_71 hv
abbrev rm_X2_paid : Room := { frames := 4, cells := 0, slots := 0, locals := 104 }
set_option maxHeartbeats 4000000 in
set_option maxRecDepth 100000 in
theorem c_X2_paid (l : Launch) (D : va_G) (cA : ClassId) (a : Nat → Nat) (u : StM) (x1 : Int32) (v : Int32 × StM) (hv : f_X2_paid u x1 = some v) (hd : djM a) : Met l yX2_paid wsX2_paid rm_X2_paid (va_Pc [.ref (a 0), .int x1] (roB D cA [wM cA a u])) (va_Qi (fun (r : Int32) (u1 : StM) => (r, u1) = v) (fun (u1 : StM) t => va_P D vwCl (wM cA a u1) t.heap) (inM a)) 0 0 (inM a) := by
  refine wr_i (wf := fun u => wM cA a u) (cc := cX2_paid) (maxL := 5) (own := RX2) (by decide) rfl rfl (Nat.le_of_ble_eq_true rfl) ?_
  intro p e s m args below meth c Q ls hC hK hZ hws hl fin
  obtain ⟨hx, hb, hml, hown, hts⟩ := id hC
  have hl : lv_has ls 5 [(0, .ref (a 0)), (1, .int x1)] := hl
  have hP : va_P D vwCl (wM cA a u) s.heap := hws _ (List.mem_of_getElem? (i := 0) rfl)
  have hinX2 : ∀ w ∈ wsX20, w ∈ wsX2_paid := fun w h => List.mem_cons_of_mem _ (List.mem_append_right _ h)
  have hS : va_S (inM a) s.heap s.heap [] := va_S.rf
  have hB22 : ∀ (k65 : StM → Int32 → Int32 → Int32 → Option (Int32 × StM)) (hk65 : ∀ (u : StM) (H : Heap) (locs : List Loc) (x1 : Int32) (x2 : Int32) (x3 : Int32) (ls : Array Slot), va_P D vwCl (wM cA a u) H → va_S (inM a) s.heap H locs → lv_has ls 5 [(0, .ref (a 0)), (1, .int x1), (2, .int x2), (3, .int x3)] → k65 u x1 x2 x3 = some v → W p l e rm_X2_paid s m args below meth c H locs 0 0 Q (F0 m 65 ls [])) (n : Nat) (u : StM) (H : Heap) (locs : List Loc) (x1 : Int32) (x2 : Int32) (x3 : Int32) (x4 : Int32) (ls : Array Slot), va_P D vwCl (wM cA a u) H → va_S (inM a) s.heap H locs → lv_has ls 5 [(0, .ref (a 0)), (1, .int x1), (2, .int x2), (3, .int x3), (4, .int x4)] → B_X2_paid_22 k65 n u x1 x2 x3 x4 = some v → W p l e rm_X2_paid s m args below meth c H locs 0 0 Q (F0 m 22 ls []) := by
    intro k65 hk65 n
    induction n with
    | zero => intro u H locs x1 x2 x3 x4 ls hP hS hl hv; exact absurd hv (by intro h; cases h)
    | succ n hk22 =>
      intro u H locs x1 x2 x3 x4 ls hP hS hl hv
      rw [B_X2_paid_22] at hv
      refine lv_iload hx hb dX2_paid_22 (lv_at hl 4 rfl) ?_
      refine lv_if_lt (tgt := 65) hx hb dX2_paid_24 (by decide) (fun c101 => ?_) (fun c101 => ?_)
      · have hv := o_pos hv c101
        exact hk65 _ _ _ _ _ _  ls hP hS (lv_sub hl [0, 1, 2, 3] rfl) hv
      · have hv := o_neg hv c101
        refine lv_aload_n hx hb dX2_paid_27 rfl (lv_at hl 0 rfl) ?_
        refine gtX2_place hx hb hts hinX2 hown hK hP (by decide +kernel) dX2_paid_28 ?_
        refine lv_iload_n hx hb dX2_paid_31 rfl (lv_at hl 1 rfl) ?_
        refine lv_iload hx hb dX2_paid_32 (lv_at hl 4 rfl) ?_
        obtain ⟨g102, hv⟩ := o_grd hv
        refine asX2_place hx hb hK hP (dM hd _) hS g102 dX2_paid_34 (fun H locs hP hS => ?_)
        refine lv_aload_n hx hb dX2_paid_35 rfl (lv_at hl 0 rfl) ?_
        obtain ⟨⟨r103, w103⟩, e103, hv⟩ := o_bind hv
        refine wcall_i (va_runV (As := []) (rest := []) hC (c_X2_getter l D cA a (m_set_place u (upd (m_place u) x1.toNatClampNeg x4)) (r103, w103) e103 hd) (cwV 0 hts gX2_paid_X2_getter rfl rfl rfl (by decide +kernel) ⟨Nat.le_of_ble_eq_true rfl, Nat.le_of_ble_eq_true rfl⟩) ⟨roB_blind, va_recv (ci := 2) (q0 := 0) hK hP rfl rfl, roB_pre hK hZ (hws_1 hP)⟩ rfl rfl hl.1 rfl (lv_room (Nat.le_of_ble_eq_true rfl)) dX2_paid_36 ⟨Nat.le_of_ble_eq_true rfl, Nat.le_of_ble_eq_true rfl⟩) hS (fun _ h => h) (fun H locs hP1 hk1 hS => ?_)
        have hP := hP1
        refine lv_iload_n hx hb dX2_paid_39 rfl (lv_at hl 1 rfl) ?_
        refine lv_icmp_ne (tgt := 57) hx hb dX2_paid_40 (by decide) (fun c104 => ?_) (fun c104 => ?_)
        · have hv := o_neg hv c104
          refine lv_iload_n hx hb dX2_paid_57 rfl (lv_at hl 3 rfl) ?_
          refine lv_istore_n (lv' := [(3, .int x3), (0, .ref (a 0)), (1, .int x1), (2, .int x2), (4, .int x4)]) hx hb dX2_paid_58 rfl hl (by decide) rfl (fun ls hl => ?_)
          refine lv_iinc (v := (x4 + (-1))) (lv' := [(4, .int (x4 + (-1))), (3, .int x3), (0, .ref (a 0)), (1, .int x1), (2, .int x2)]) hx hb dX2_paid_59 hl (k := 4) rfl rfl (by decide) rfl (fun ls hl => ?_)
          refine lv_goto (tgt := 22) hx hb dX2_paid_62 (by decide) ?_
          exact hk22 _ _ _ _ _ _ _  ls hP hS (lv_sub hl [2, 3, 4, 1, 0] rfl) hv
        · have hv := o_pos hv c104
          refine lv_aload_n hx hb dX2_paid_43 rfl (lv_at hl 0 rfl) ?_
          refine gtX2_worth hx hb hts hinX2 hown hK hP (by decide +kernel) dX2_paid_44 ?_
          refine lv_iconst (v := 5) hx hb dX2_paid_47 (by decide) ?_
          refine lv_iload_n hx hb dX2_paid_48 rfl (lv_at hl 1 rfl) ?_
          refine lv_imul hx hb dX2_paid_49 ?_
          refine lv_iload hx hb dX2_paid_50 (lv_at hl 4 rfl) ?_
          refine lv_iadd hx hb dX2_paid_52 ?_
          obtain ⟨g105, hv⟩ := o_grd hv
          refine alX2_worth hx hb hK hP g105 dX2_paid_53 ?_
          refine lv_goto (tgt := 58) hx hb dX2_paid_54 (by decide) ?_
          refine lv_istore_n (lv' := [(3, .int (m_worth w103 (((5 : Int32) * x1) + x4).toNatClampNeg)), (0, .ref (a 0)), (1, .int x1), (2, .int x2), (4, .int x4)]) hx hb dX2_paid_58 rfl hl (by decide) rfl (fun ls hl => ?_)
          refine lv_iinc (v := (x4 + (-1))) (lv' := [(4, .int (x4 + (-1))), (3, .int (m_worth w103 (((5 : Int32) * x1) + x4).toNatClampNeg)), (0, .ref (a 0)), (1, .int x1), (2, .int x2)]) hx hb dX2_paid_59 hl (k := 4) rfl rfl (by decide) rfl (fun ls hl => ?_)
          refine lv_goto (tgt := 22) hx hb dX2_paid_62 (by decide) ?_
          exact hk22 _ _ _ _ _ _ _  ls hP hS (lv_sub hl [2, 3, 4, 1, 0] rfl) hv
  unfold f_X2_paid at hv
  skip
  refine lv_aload_n hx hb dX2_paid_0 rfl (lv_at hl 0 rfl) ?_
  obtain ⟨⟨r206, w206⟩, e206, hv⟩ := o_bind hv
  refine wcall_i (va_runV (As := []) (rest := []) hC (c_X2_getter l D cA a u (r206, w206) e206 hd) (cwV 0 hts gX2_paid_X2_getter rfl rfl rfl (by decide +kernel) ⟨Nat.le_of_ble_eq_true rfl, Nat.le_of_ble_eq_true rfl⟩) ⟨roB_blind, va_recv (ci := 2) (q0 := 0) hK hP rfl rfl, roB_pre hK hZ (hws_1 hP)⟩ rfl rfl hl.1 rfl (lv_room (Nat.le_of_ble_eq_true rfl)) dX2_paid_1 ⟨Nat.le_of_ble_eq_true rfl, Nat.le_of_ble_eq_true rfl⟩) hS (fun _ h => h) (fun H locs hP1 hk1 hS => ?_)
  have hP := hP1
  refine lv_iload_n hx hb dX2_paid_4 rfl (lv_at hl 1 rfl) ?_
  refine lv_icmp_eq (tgt := 10) hx hb dX2_paid_5 (by decide) (fun c207 => ?_) (fun c207 => ?_)
  · have hv := o_pos hv c207
    refine lv_aload_n hx hb dX2_paid_10 rfl (lv_at hl 0 rfl) ?_
    refine gtX2_place hx hb hts hinX2 hown hK hP (by decide +kernel) dX2_paid_11 ?_
    refine lv_iload_n hx hb dX2_paid_14 rfl (lv_at hl 1 rfl) ?_
    obtain ⟨g208, hv⟩ := o_grd hv
    refine alX2_place hx hb hK hP g208 dX2_paid_15 ?_
    refine lv_istore_n (lv' := [(2, .int (m_place w206 x1.toNatClampNeg)), (0, .ref (a 0)), (1, .int x1)]) hx hb dX2_paid_16 rfl hl (by decide) rfl (fun ls hl => ?_)
    refine lv_iconst (v := 0) hx hb dX2_paid_17 (by decide) ?_
    refine lv_istore_n (lv' := [(3, .int (0 : Int32)), (2, .int (m_place w206 x1.toNatClampNeg)), (0, .ref (a 0)), (1, .int x1)]) hx hb dX2_paid_18 rfl hl (by decide) rfl (fun ls hl => ?_)
    refine lv_iload_n hx hb dX2_paid_19 rfl (lv_at hl 1 rfl) ?_
    refine lv_istore (lv' := [(4, .int (m_place w206 x1.toNatClampNeg)), (3, .int (0 : Int32)), (2, .int (m_place w206 x1.toNatClampNeg)), (0, .ref (a 0)), (1, .int x1)]) hx hb dX2_paid_20 hl (by decide) rfl (fun ls hl => ?_)
    refine hB22 _ (fun z209_u H locs z209_1 z209_2 z209_3 ls hP hS hl hv => ?_) 1000 _ _ _ _ _ _ _ ls hP hS (lv_sub hl [3, 4, 2, 1, 0] rfl) hv
    · skip
      refine lv_aload_n hx hb dX2_paid_65 rfl (lv_at hl 0 rfl) ?_
      refine gtX2_place hx hb hts hinX2 hown hK hP (by decide +kernel) dX2_paid_66 ?_
      refine lv_iload_n hx hb dX2_paid_69 rfl (lv_at hl 1 rfl) ?_
      refine lv_iload_n hx hb dX2_paid_70 rfl (lv_at hl 2 rfl) ?_
      obtain ⟨g210, hv⟩ := o_grd hv
      refine asX2_place hx hb hK hP (dM hd _) hS g210 dX2_paid_71 (fun H locs hP hS => ?_)
      refine lv_iload_n hx hb dX2_paid_72 rfl (lv_at hl 3 rfl) ?_
      exact fin hP hS dX2_paid_73 hv
  · have hv := o_neg hv c207
    refine lv_iconst (v := 0) hx hb dX2_paid_8 (by decide) ?_
    exact fin hP hS dX2_paid_9 hv
abbrev rm_X2_isPlaces : Room := { frames := 2, cells := 0, slots := 0, locals := 44 }
set_option maxHeartbeats 4000000 in
set_option maxRecDepth 100000 in
theorem c_X2_isPlaces (l : Launch) (D : va_G) (cA : ClassId) (a : Nat → Nat) (u : StM) (x1 : Int32) (x2 : Int32) (x3 : Int32) (v : Int32 × StM) (hv : f_X2_isPlaces u x1 x2 x3 = some v) (hd : djM a) : Met l yX2_isPlaces wsX2_isPlaces rm_X2_isPlaces (va_Pc [.ref (a 0), .int x1, .int x2, .int x3] (roB D cA [wM cA a u])) (va_Qi (fun (r : Int32) (u1 : StM) => (r, u1) = v) (fun (u1 : StM) t => va_P D vwCl (wM cA a u1) t.heap) (inM a)) 0 0 (inM a) := by
  refine wr_z (wf := fun u => wM cA a u) (cc := cX2_isPlaces) (maxL := 6) (own := RX2) (by decide) rfl rfl (Nat.le_of_ble_eq_true rfl) ?_
  intro p e s m args below meth c Q ls hC hK hZ hws hl fin
  obtain ⟨hx, hb, hml, hown, hts⟩ := id hC
  have hl : lv_has ls 6 [(0, .ref (a 0)), (1, .int x1), (2, .int x2), (3, .int x3)] := hl
  have hP : va_P D vwCl (wM cA a u) s.heap := hws _ (List.mem_of_getElem? (i := 0) rfl)
  have hinX2 : ∀ w ∈ wsX20, w ∈ wsX2_isPlaces := fun w h => List.mem_cons_of_mem _ (List.mem_append_right _ h)
  have hS : va_S (inM a) s.heap s.heap [] := va_S.rf
  have hB27 : ∀ (k60 : StM → Int32 → Option (Int32 × StM)) (hk60 : ∀ (u : StM) (H : Heap) (locs : List Loc) (x4 : Int32) (ls : Array Slot), va_P D vwCl (wM cA a u) H → va_S (inM a) s.heap H locs → lv_has ls 6 [(4, .int x4)] → k60 u x4 = some v → W p l e rm_X2_isPlaces s m args below meth c H locs 0 0 Q (F0 m 60 ls [])) (n : Nat) (u : StM) (H : Heap) (locs : List Loc) (x4 : Int32) (x5 : Int32) (ls : Array Slot), va_P D vwCl (wM cA a u) H → va_S (inM a) s.heap H locs → lv_has ls 6 [(0, .ref (a 0)), (4, .int x4), (5, .int x5)] → B_X2_isPlaces_27 k60 n u x4 x5 = some v → W p l e rm_X2_isPlaces s m args below meth c H locs 0 0 Q (F0 m 27 ls []) := by
    intro k60 hk60 n
    induction n with
    | zero => intro u H locs x4 x5 ls hP hS hl hv; exact absurd hv (by intro h; cases h)
    | succ n hk27 =>
      intro u H locs x4 x5 ls hP hS hl hv
      rw [B_X2_isPlaces_27] at hv
      refine lv_iload hx hb dX2_isPlaces_27 (lv_at hl 2 rfl) ?_
      refine lv_aload_n hx hb dX2_isPlaces_29 rfl (lv_at hl 0 rfl) ?_
      refine gtX2_n hx hb hts hinX2 hown hK hP (by decide +kernel) dX2_isPlaces_30 ?_
      refine lv_icmp_ge (tgt := 60) hx hb dX2_isPlaces_33 (by decide) (fun c101 => ?_) (fun c101 => ?_)
      · have hv := o_pos hv c101
        exact hk60 _ _ _ _  ls hP hS (lv_sub hl [1] rfl) hv
      · have hv := o_neg hv c101
        refine lv_iload hx hb dX2_isPlaces_36 (lv_at hl 1 rfl) ?_
        refine lv_aload_n hx hb dX2_isPlaces_38 rfl (lv_at hl 0 rfl) ?_
        refine lv_iload hx hb dX2_isPlaces_39 (lv_at hl 2 rfl) ?_
        refine lv_aload_n hx hb dX2_isPlaces_41 rfl (lv_at hl 0 rfl) ?_
        refine gtX2_place hx hb hts hinX2 hown hK hP (by decide +kernel) dX2_isPlaces_42 ?_
        refine lv_iload hx hb dX2_isPlaces_45 (lv_at hl 2 rfl) ?_
        obtain ⟨g102, hv⟩ := o_grd hv
        refine alX2_place hx hb hK hP g102 dX2_isPlaces_47 ?_
        obtain ⟨r103, e103, hv⟩ := o_bind hv
        refine rcall_i (W.runV (As := [.int x5, .int (m_place u x5.toNatClampNeg)]) (rest := [.int x4]) hC (c_X2_isPlace l D cA a u x5 (m_place u x5.toNatClampNeg) r103 e103) (cwV 2 hts gX2_isPlaces_X2_isPlace rfl rfl rfl (by decide +kernel) ⟨Nat.le_of_ble_eq_true rfl, Nat.le_of_ble_eq_true rfl⟩) ⟨roB_blind, va_recv (ci := 2) (q0 := 0) hK hP rfl rfl, roB_pre hK hZ (hws_1 hP)⟩ rfl rfl hl.1 rfl (lv_room (Nat.le_of_ble_eq_true rfl)) dX2_isPlaces_48 ⟨Nat.le_of_ble_eq_true rfl, Nat.le_of_ble_eq_true rfl⟩) ?_
        refine lv_iand hx hb dX2_isPlaces_51 ?_
        refine lv_istore (lv' := [(4, .int (x4 &&& r103)), (0, .ref (a 0)), (5, .int x5)]) hx hb dX2_isPlaces_52 hl (by decide) rfl (fun ls hl => ?_)
        refine lv_iinc (v := (x5 + 1)) (lv' := [(5, .int (x5 + 1)), (4, .int (x4 &&& r103)), (0, .ref (a 0))]) hx hb dX2_isPlaces_54 hl (k := 2) rfl rfl (by decide) rfl (fun ls hl => ?_)
        refine lv_goto (tgt := 27) hx hb dX2_isPlaces_57 (by decide) ?_
        exact hk27 _ _ _ _ _  ls hP hS (lv_sub hl [2, 1, 0] rfl) hv
  unfold f_X2_isPlaces at hv
  skip
  refine lv_aload_n hx hb dX2_isPlaces_0 rfl (lv_at hl 0 rfl) ?_
  refine gtX2_place hx hb hts hinX2 hown hK hP (by decide +kernel) dX2_isPlaces_1 ?_
  refine lv_iconst (v := 0) hx hb dX2_isPlaces_4 (by decide) ?_
  refine lv_iload_n hx hb dX2_isPlaces_5 rfl (lv_at hl 1 rfl) ?_
  obtain ⟨g204, hv⟩ := o_grd hv
  refine asX2_place hx hb hK hP (dM hd _) hS g204 dX2_isPlaces_6 (fun H locs hP hS => ?_)
  refine lv_aload_n hx hb dX2_isPlaces_7 rfl (lv_at hl 0 rfl) ?_
  refine gtX2_place hx hb hts hinX2 hown hK hP (by decide +kernel) dX2_isPlaces_8 ?_
  refine lv_iconst (v := 1) hx hb dX2_isPlaces_11 (by decide) ?_
  refine lv_iload_n hx hb dX2_isPlaces_12 rfl (lv_at hl 2 rfl) ?_
  obtain ⟨g205, hv⟩ := o_grd hv
  refine asX2_place hx hb hK hP (dM hd _) hS g205 dX2_isPlaces_13 (fun H locs hP hS => ?_)
  refine lv_aload_n hx hb dX2_isPlaces_14 rfl (lv_at hl 0 rfl) ?_
  refine gtX2_place hx hb hts hinX2 hown hK hP (by decide +kernel) dX2_isPlaces_15 ?_
  refine lv_iconst (v := 2) hx hb dX2_isPlaces_18 (by decide) ?_
  refine lv_iload_n hx hb dX2_isPlaces_19 rfl (lv_at hl 3 rfl) ?_
  obtain ⟨g206, hv⟩ := o_grd hv
  refine asX2_place hx hb hK hP (dM hd _) hS g206 dX2_isPlaces_20 (fun H locs hP hS => ?_)
  refine lv_iconst (v := 1) hx hb dX2_isPlaces_21 (by decide) ?_
  refine lv_istore (lv' := [(4, .int (1 : Int32)), (0, .ref (a 0)), (1, .int x1), (2, .int x2), (3, .int x3)]) hx hb dX2_isPlaces_22 hl (by decide) rfl (fun ls hl => ?_)
  refine lv_iconst (v := 0) hx hb dX2_isPlaces_24 (by decide) ?_
  refine lv_istore (lv' := [(5, .int (0 : Int32)), (4, .int (1 : Int32)), (0, .ref (a 0)), (1, .int x1), (2, .int x2), (3, .int x3)]) hx hb dX2_isPlaces_25 hl (by decide) rfl (fun ls hl => ?_)
  refine hB27 _ (fun z207_u H locs z207_4 ls hP hS hl hv => ?_) 1000 _ _ _ _ _ ls hP hS (lv_sub hl [2, 1, 0] rfl) hv
  · skip
    refine lv_iload hx hb dX2_isPlaces_60 (lv_at hl 0 rfl) ?_
    obtain ⟨g208, hv⟩ := o_grp hv
    exact fin hP hS dX2_isPlaces_62 g208 hv
